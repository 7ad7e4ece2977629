/-! ===== cell in the world ===== -/
section WCELL
variable {sc : cmS} {d j : Nat} {h h' : cmH} {x1 x2 x3 : Int32} {F Rn Q T NL n Re : Nat} {fa C g st pr lc ta nn Tp : Nat → Nat} {cc Tt : Nat → Nat → Nat} {cls : Nat → List CL} {ro : Nat → Option Nat}
/-- what a new cell writes -/
def clP (b f n a k : Nat) : Prop := (a = b ∧ k = 3) ∨ ((a = 43 ∨ a = 44 ∨ a = 45) ∧ k = 10 * f + n) ∨ (a = 42 ∧ k = f)
theorem WLD.cell {f : Nat} (H : HS h F Rn C fa cc ta nn Tt cls ro Q T g st pr) (tp : TP h n Tp) (la : LA h F C fa cc NL lc) (oc : OCh h NL Q st g) (cg : CG4 h) (rg : RG h Re) (fe : FRE h F C) (hn : cm_n h ≤ 88 + 4 * j) (hs : cm_sl h ≤ 110333 + 170 * j) (hf : f < F) (h10 : C f < 10) (gc : g_cell x2 x3) (x : EX h h' (clP (fa f) f (C f)) (fun a k => a = fa f + 1 ∧ k = C f)) (en : cm_n h' = cm_n h + 3) (es : cm_sl h' = cm_sl h + 22) (ce : CE h' (cm_n h)) (w2 : cm_I h' (cm_n h) 2 = 0) (w3 : cm_I h' (cm_n h) 3 = x2) (w4 : cm_I h' (cm_n h) 4 = x2) (w5 : cm_I h' (cm_n h) 5 = x3) (wz : ∀ i k, 1 ≤ i → i ≤ 2 → cm_I h' (cm_n h + i) k = 0) (rr : cm_R h' (fa f + 1) (C f) = some (cm_n h)) (v3 : cm_I h' (fa f) 3 = nI (C f + 1)) (v42 : cm_I h' 42 f = nI (C f + 1)) (v43 : cm_I h' 43 (10 * f + C f) = x2) (v44 : cm_I h' 44 (10 * f + C f) = x2) (v45 : cm_I h' 45 (10 * f + C f) = x3) : WLD (j + 1) h' := by
  have L := H.1.1
  have h88 := L.1
  have S := H.1.2.2.2.1
  have GC := H.1.2.2.1
  have h8 := H.1.2.1.2.1
  have f88 := S.1 f hf
  have fb : ∀ i, i < F → fa i + 3 < cm_n h := fun i hi => (GC i hi).1.2.1
  have cb : ∀ i c, i < F → c < C i → cc i c + 2 < cm_n h := fun i c hi hc => ((GC i hi).2.2.2 c hc).2.1.2.1
  have fe' : FRE h' F C := fe.fr L x (fun a k q w => by unfold clP at q; unfold FP at w; omega)
  have lo : ∀ a k, a < 88 → ¬ ((a = 43 ∨ a = 44 ∨ a = 45) ∧ k = 10 * f + C f) → ¬ (a = 42 ∧ k = f) → cm_I h' a k = cm_I h a k := fun a k ha q q2 => (x.2 a (by omega)).2.2.1 k (by unfold clP; omega)
  have oa : ∀ i e k, i < F → e ≤ 3 → ¬ (i = f ∧ e = 0 ∧ k = 3) → cm_I h' (fa i + e) k = cm_I h (fa i + e) k := fun i e k hi he q => by
    have := fb i hi
    have h1 := S.1 i hi
    refine (x.2 (fa i + e) (by omega)).2.2.1 k ?_
    by_cases y : i = f
    · subst y; unfold clP; omega
    · have := S.2.1 i f hi hf y
      unfold clP; omega
  have oa0 : ∀ i k, i < F → ¬ (i = f ∧ k = 3) → cm_I h' (fa i) k = cm_I h (fa i) k := fun i k hi q => oa i 0 k hi (by omega) (by omega)
  have occ : ∀ i c e k, i < F → c < C i → e ≤ 2 → cm_I h' (cc i c + e) k = cm_I h (cc i c + e) k := fun i c e k hi hc he => by
    have := cb i c hi hc
    have h1 := S.2.2.1 i c hi hc
    have h2 := h1.2 f hf
    exact (x.2 (cc i c + e) (by omega)).2.2.1 k (by unfold clP; omega)
  have occ0 : ∀ i c k, i < F → c < C i → cm_I h' (cc i c) k = cm_I h (cc i c) k := fun i c k hi hc => occ i c 0 k hi hc (by omega)
  have c1 : HS h' F Rn (fun i => if i = f then C f + 1 else C i) fa (fun i c => if i = f ∧ c = C f then cm_n h else cc i c) ta nn Tt cls ro Q T g st pr := by
    refine H.build x (fun a k q => ?_) (fun a k q => Or.inr ⟨by omega, ?_⟩) ⟨?_, h8, fun i hi => ?_⟩ (fun i hi => ?_) ⟨S.1, S.2.1, fun i c hi hc => ?_, fun i c i' c' hi hc hi' hc' ne => ?_⟩ (fun i hi => ?_) ?_ (fun i hi => ?_) (fun i hi => ?_) (fun i hi => ?_)
    · unfold clP at q
      rcases q with q | q | q
      · have := (GC f hf).1.1
        rw [← q.1] at this f88
        exact Or.inr (Or.inr (Or.inr (Or.inr (Or.inr (Or.inr ⟨f88, by omega, by omega⟩)))))
      · unfold B1; omega
      · unfold B1; omega
    · have := (GC f hf).1.2.2.2.2.2.1.1
      rw [q.1]; omega
    · rw [lo 0 10 (by decide) (by omega) (by omega)]; exact H.1.2.1.1
    · rw [(x.2 5 (by omega)).2.2.2 i (by omega)]; exact H.1.2.1.2.2 i hi
    · obtain ⟨g1, g2, g3, g4⟩ := GC i hi
      have a88 := S.1 i hi
      by_cases e : i = f
      · subst e
        simp only [if_pos, true_and]
        refine ⟨x.FL g1 (fun k w => by omega), v3, by omega, fun c hc => ?_⟩
        by_cases y : c = C i
        · subst y
          simp only [if_pos]
          exact ⟨rr, ce, by rw [w5]; exact gc.2.1⟩
        · simp only [if_neg y]
          have hc' : c < C i := by omega
          have := (S.2.2.1 i c hi hc').2 i hi
          refine ⟨?_, x.CE (g4 c hc').2.1 (fun k w => by omega), by rw [occ0 i c 5 hi hc']; exact (g4 c hc').2.2⟩
          have := g1.2.1
          rw [(x.2 (fa i + 1) (by omega)).2.2.2 c (by omega)]; exact (g4 c hc').1
      · have ne : ∀ c, ¬ (i = f ∧ c = C f) := fun c w => e w.1
        simp only [if_neg e, if_neg (ne _)]
        have sep := S.2.1 i f hi hf e
        refine ⟨x.FL g1 (fun k w => by omega), by rw [oa0 i 3 hi (by omega)]; exact g2, g3, fun c hc => ?_⟩
        have := (S.2.2.1 i c hi hc).2 f hf
        refine ⟨?_, x.CE (g4 c hc).2.1 (fun k w => by have w' : cc i c = fa f + 1 := w.1; omega), by rw [occ0 i c 5 hi hc]; exact (g4 c hc).2.2⟩
        have := g1.2.1
        rw [(x.2 (fa i + 1) (by omega)).2.2.2 c (by omega)]; exact (g4 c hc).1
    · by_cases e : i = f ∧ c = C f
      · simp only [if_pos e]
        refine ⟨h88, fun i' hi' => ?_⟩
        have := fb i' hi'; omega
      · have hc' : c < C i := by
          by_cases y : i = f
          · subst y; simp only [if_pos] at hc; omega
          · simp only [if_neg y] at hc; exact hc
        simp only [if_neg e]
        exact S.2.2.1 i c hi hc'
    · have old : ∀ i c, c < (if i = f then C f + 1 else C i) → ¬ (i = f ∧ c = C f) → c < C i := fun i c hc e => by
        by_cases y : i = f
        · subst y; simp only [if_pos] at hc; omega
        · simp only [if_neg y] at hc; exact hc
      by_cases e : i = f ∧ c = C f
      · by_cases e' : i' = f ∧ c' = C f
        · omega
        · simp only [if_pos e, if_neg e']
          have := cb i' c' hi' (old i' c' hc' e'); omega
      · by_cases e' : i' = f ∧ c' = C f
        · simp only [if_neg e, if_pos e']
          have := cb i c hi (old i c hc e); omega
        · simp only [if_neg e, if_neg e']
          exact S.2.2.2 i c i' c' hi (old i c hc e) hi' (old i' c' hc' e') ne
    · rw [oa0 i 7 hi (by omega)]; exact H.1.2.2.2.2.2 i hi
    · rw [lo 38 24 (by decide) (by omega) (by omega)]; exact H.2.2.2.1.2.1
    · obtain ⟨m1, -, m3, -⟩ := H.2.2.2.1.2.2.2.1 i hi
      refine ⟨?_, by rw [lo 55 i (by decide) (by omega) (by omega)]; exact m3⟩
      by_cases e : i = f
      · subst e; simp only [if_pos]; exact v42
      · simp only [if_neg e]
        rw [lo 42 i (by decide) (by omega) (by omega)]; exact m1
    · obtain ⟨d1, d2, d3, d4, d5, d6⟩ := H.2.1.2.2.2.2 i hi
      rw [oa0 i 4 hi (by omega), oa0 i 8 hi (by omega), oa0 i 19 hi (by omega)]
      refine ⟨d1, d2, d3, fun w => ?_, d5, fun s hs => by rw [oa i 2 s hi (by decide) (by omega)]; exact d6 s hs⟩
      by_cases e : i = f
      · simp only [if_pos e]; omega
      · simp only [if_neg e]; exact d4 w
    · obtain ⟨⟨u1, u2, u3⟩, ⟨i1, i2, i3, i4⟩, e60⟩ := H.2.2.2.2.1 i hi
      have C10 := (GC i hi).2.2.1
      refine ⟨⟨fun k b q => ?_, fun c hc => ?_, fun s hs => ?_⟩, ⟨fun w => ?_, ?_, ?_, fun c hc => ?_⟩, ?_⟩
      · have q2 := vfl_mo (f := i) q
        rw [oa0 i k hi (by omega), lo b i (by have := q2.1; unfold MO at this; omega) (by unfold vfl at q; simp only [List.mem_cons, Prod.mk.injEq, List.not_mem_nil, or_false] at q; omega) (by unfold vfl at q; simp only [List.mem_cons, Prod.mk.injEq, List.not_mem_nil, or_false] at q; omega)]
        exact u1 k b q
      · by_cases e : i = f ∧ c = C f
        · obtain ⟨rfl, rfl⟩ := e
          simp only [and_self, if_true]
          refine ⟨v43.trans w4.symm, v44.trans w3.symm, v45.trans w5.symm, ?_, fun s hs => ⟨?_, ?_⟩⟩
          · rw [w2, cm_sum_congr (g := fun _ => 0) (fun s _ => wz 1 s (by decide) (by decide))]; exact (cm_sum_zero 8).symm
          · rw [wz 1 s (by decide) (by decide)]
            have e80 : (8 * (10 * i + C i) + s) / 80 = i := by omega
            exact fe' 46 _ (Or.inr (Or.inr ⟨Or.inl rfl, by omega, Or.inr (by rw [e80]; omega)⟩))
          · rw [wz 2 s (by decide) (by decide)]
            have e80 : (8 * (10 * i + C i) + s) / 80 = i := by omega
            exact fe' 47 _ (Or.inr (Or.inr ⟨Or.inr rfl, by omega, Or.inr (by rw [e80]; omega)⟩))
        · have hc' : c < C i := by
            by_cases y : i = f
            · subst y; simp only [if_pos] at hc; omega
            · simp only [if_neg y] at hc; exact hc
          simp only [if_neg e]
          obtain ⟨y1, y2, y3, y4, y5⟩ := u2 c hc'
          have nk : ¬ (10 * i + c = 10 * f + C f) := by omega
          refine ⟨?_, ?_, ?_, ?_, fun s hs => ⟨?_, ?_⟩⟩
          · rw [lo 43 _ (by decide) (by omega) (by omega), occ0 i c 4 hi hc']; exact y1
          · rw [lo 44 _ (by decide) (by omega) (by omega), occ0 i c 3 hi hc']; exact y2
          · rw [lo 45 _ (by decide) (by omega) (by omega), occ0 i c 5 hi hc']; exact y3
          · rw [occ0 i c 2 hi hc', y4]; exact cm_sum_congr fun s _ => (occ i c 1 s hi hc' (by decide)).symm
          · rw [lo 46 _ (by decide) (by omega) (by omega), occ i c 1 s hi hc' (by decide)]; exact (y5 s hs).1
          · rw [lo 47 _ (by decide) (by omega) (by omega), occ i c 2 s hi hc' (by decide)]; exact (y5 s hs).2
      · rw [lo 48 _ (by decide) (by omega) (by omega), oa i 2 s hi (by decide) (by omega)]; exact u3 s hs
      · rw [oa0 i 8 hi (by omega)] at w
        have := i1 w
        by_cases e : i = f
        · simp only [if_pos e]; omega
        · simp only [if_neg e]; exact this
      · rw [oa0 i 18 hi (by omega), oa0 i 12 hi (by omega), oa0 i 13 hi (by omega)]; exact i2
      · rw [oa0 i 17 hi (by omega)]; exact i3
      · by_cases e : i = f ∧ c = C f
        · simp only [if_pos e]
          obtain ⟨p, p1, p2, ep⟩ := (in_nI (x := x2) 1 20 rfl rfl (by decide) (by decide)).mp gc.1
          obtain ⟨t, t1, t2, et⟩ := (in_nI (x := x3) 1 1000 rfl rfl (by decide) (by decide)).mp gc.2
          exact ⟨⟨p, w4.trans ep, p1, p2⟩, ⟨p, w3.trans ep, p1, p2⟩, ⟨t, w5.trans et, t1, t2⟩, fun _ s _ => ⟨wz 1 s (by decide) (by decide), wz 2 s (by decide) (by decide)⟩⟩
        · have hc' : c < C i := by
            by_cases y : i = f
            · subst y; simp only [if_pos] at hc; omega
            · simp only [if_neg y] at hc; exact hc
          simp only [if_neg e]
          obtain ⟨y1, y2, y3, y4⟩ := i4 c hc'
          exact ⟨by rw [occ0 i c 4 hi hc']; exact y1, by rw [occ0 i c 3 hi hc']; exact y2, by rw [occ0 i c 5 hi hc']; exact y3, fun q s hs => by rw [occ i c 1 s hi hc' (by decide), occ i c 2 s hi hc' (by decide)]; exact y4 q s hs⟩
      · rw [lo 60 i (by decide) (by omega) (by omega), oa0 i 17 hi (by omega)]; exact e60
  have c2 := tp.fr L x (fun k => by unfold clP; omega)
  have c4 := oc.fr L x (fun a k q => by unfold clP; omega)
  have c5 := cg.fr L x (fun k => by unfold clP; omega)
  have c6 := rg.fr L x (fun a k q => by unfold clP; omega)
  have c3 := la.fr L S x (fun a k q => by unfold clP; omega) (fun c hc => by have := lc88 la hc; unfold clP; omega) (fun a k q => Or.inr (Or.inr (Or.inr ⟨f, hf, by rw [q.1]; exact own_a 1 (by decide)⟩)))
  have c3' : LA h' F (fun i => if i = f then C f + 1 else C i) fa (fun i c => if i = f ∧ c = C f then cm_n h else cc i c) NL lc := by
    obtain ⟨a1, a2, a3, a4, a5, a6, a7⟩ := c3
    refine ⟨a1, a2, a3, a4, a5, fun c y i hc p q hi w => ?_, a7⟩
    have lt := (la.2.2.2.1.2.2.2 c hc).2.1.2.1
    rcases w with w | ⟨c0, hc0, w⟩
    · exact a6 c y i hc p q hi (Or.inl w)
    · by_cases e : i = f ∧ c0 = C f
      · simp only [if_pos e] at w; omega
      · simp only [if_neg e] at w
        refine a6 c y i hc p q hi (Or.inr ⟨c0, ?_, w⟩)
        by_cases z : i = f
        · subst z; simp only [if_pos] at hc0; omega
        · simp only [if_neg z] at hc0; exact hc0
  refine ⟨F, Rn, Q, T, NL, n, Re, _, fa, g, st, pr, lc, ta, nn, Tp, _, Tt, cls, ro, c1, c2, c3', c4, c5, c6, by omega, by omega, fun a k q => fe' a k ?_⟩
  rcases q with q | q | ⟨q, q1, q2⟩
  · exact Or.inl q
  · exact Or.inr (Or.inl q)
  · refine Or.inr (Or.inr ⟨q, q1, ?_⟩)
    by_cases e : k / 80 = f
    · simp only [if_pos e] at q2
      rw [e]; omega
    · simp only [if_neg e] at q2
      exact q2
theorem w_cell (W : WLD j h) : STi sc (d + 200) (d + 201) 16 139 [.ref 0, .int x1, .int x2, .int x3] [.ref 38, .int x1, .int x2, .int x3] j h := by
  have Wu := W.up
  obtain ⟨F, Rn, Q, T, NL, n, Re, C, fa, g, st, pr, lc, ta, nn, Tp, cc, Tt, cls, ro, H, tp, la, oc, cg, rg, hn, hs, fe⟩ := W
  have L := H.1.1
  have h88 := L.1
  have G := H.1.2.1
  have GC := H.1.2.2.1
  have S := H.1.2.2.2.1
  have MF' := H.mf
  have Z := H.2.2.2.2
  have h8 := G.2.1
  refine c_cell (d := d + 197) L G GC (fun f hf e1 gc e17 h10 h1 N1 => ?_) (fun q => ⟨L, m_cell (d := d + 199) L MF' (fun f hf e1 gc e60 h10 => absurd h10 (q f hf e1 gc (by rw [← (Z.1 f hf).2.2]; exact e60))) (fun _ => ⟨rfl, Wu⟩)⟩)
  have f88 := S.1 f hf
  have fb := (GC f hf).1.2.1
  obtain ⟨A, en, es, ce, w2, w3, w4, w5, wz⟩ := N1
  have x1' : EX h (cm_setI (cm_setR h1 (fa f + 1) (C f) (some (cm_n h))) (fa f) 3 (nI (C f + 1))) (clP (fa f) f (C f)) (fun a k => a = fa f + 1 ∧ k = C f) := ((A.e.mono (fun _ _ q => absurd q id) (fun _ _ q => absurd q id)).setR ⟨rfl, rfl⟩).set (Or.inl ⟨rfl, rfl⟩)
  have L1 := x1'.ly L (fun e he w => by have := ly_RL e he; omega)
  have o1 : ∀ a k, a < 88 → cm_I (cm_setI (cm_setR h1 (fa f + 1) (C f) (some (cm_n h))) (fa f) 3 (nI (C f + 1))) a k = cm_I h a k := fun a k q => by
    rw [sI_o (Or.inl (by omega))]
    show cm_I h1 a k = _
    rw [((A.2 a (by omega)).2.2 k).1]
  have MF1 : MF (cm_I (cm_setI (cm_setR h1 (fa f + 1) (C f) (some (cm_n h))) (fa f) 3 (nI (C f + 1)))) F C := by
    refine ⟨by rw [o1 38 24 (by decide)]; exact MF'.1, MF'.2.1, fun i hi => ?_⟩
    rw [o1 42 i (by decide)]
    exact ⟨(MF'.2.2 i hi).1, (MF'.2.2 i hi).2.1, fun c hc => by rw [o1 45 _ (by decide)]; exact (MF'.2.2 i hi).2.2 c hc⟩
  refine ⟨L1, m_cell (d := d + 199) L1 MF1 (fun f' hf' e1' _ _ _ => ?_) (fun q => absurd h10 (q f hf e1 gc (by rw [o1 60 f (by decide), (Z.1 f hf).2.2]; exact e17)))⟩
  obtain rfl : f' = f := nI_inj (by omega) (by omega) (e1'.symm.trans e1)
  refine ⟨rfl, ?_⟩
  have x2' := (((x1'.set (a := 43) (k := 10 * f' + C f') (v := x2) (by unfold clP; omega)).set (a := 44) (k := 10 * f' + C f') (v := x2) (by unfold clP; omega)).set (a := 45) (k := 10 * f' + C f') (v := x3) (by unfold clP; omega)).set (a := 42) (k := f') (v := nI (C f' + 1)) (by unfold clP; omega)
  have hi : ∀ a k, 88 ≤ a → a ≠ fa f' → cm_I (cm_setI (cm_setI (cm_setI (cm_setI (cm_setI (cm_setR h1 (fa f' + 1) (C f') (some (cm_n h))) (fa f') 3 (nI (C f' + 1))) 43 (10 * f' + C f') x2) 44 (10 * f' + C f') x2) 45 (10 * f' + C f') x3) 42 f' (nI (C f' + 1))) a k = cm_I h1 a k := fun a k q q2 => by
    rw [sI_o (Or.inl (by omega)), sI_o (Or.inl (by omega)), sI_o (Or.inl (by omega)), sI_o (Or.inl (by omega)), sI_o (Or.inl (by omega))]; rfl
  have ce' : CE (cm_setR h1 (fa f' + 1) (C f') (some (cm_n h))) (cm_n h) := ⟨ce.1, ce.2.1, by rw [sR_R, if_neg (by omega)]; exact ce.2.2.1, by rw [sR_R, if_neg (by omega)]; exact ce.2.2.2.1, ce.2.2.2.2.1, ce.2.2.2.2.2⟩
  refine WLD.cell H tp la oc cg rg fe hn hs hf h10 gc x2' en es ce' (by rw [hi _ _ h88 (by omega)]; exact w2) (by rw [hi _ _ h88 (by omega)]; exact w3) (by rw [hi _ _ h88 (by omega)]; exact w4) (by rw [hi _ _ h88 (by omega)]; exact w5) (fun i k p q => by rw [hi _ _ (by omega) (by omega)]; exact wz i k p q) ?_ ?_ sI_s ?_ ?_ ?_
  · exact if_pos ⟨rfl, rfl⟩
  · rw [sI_o (Or.inl (by omega)), sI_o (Or.inl (by omega)), sI_o (Or.inl (by omega)), sI_o (Or.inl (by omega)), sI_s]
  · rw [sI_o (Or.inl (by decide)), sI_o (Or.inl (by decide)), sI_o (Or.inl (by decide)), sI_s]
  · rw [sI_o (Or.inl (by decide)), sI_o (Or.inl (by decide)), sI_s]
  · rw [sI_o (Or.inl (by decide)), sI_s]
end WCELL
