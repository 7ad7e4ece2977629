/-! ===== filter and cell in the world: the house with another row of filters ===== -/
section WBUILD
variable {sc : cmS} {d j : Nat} {h h' : cmH} {x1 x2 x3 : Int32} {P R : Nat → Nat → Prop} {F F' Rn Q T NL n Re : Nat} {fa C g st pr lc ta nn Tp fa' C' pr' : Nat → Nat} {cc Tt cc' : Nat → Nat → Nat} {cls : Nat → List CL} {ro ro' : Nat → Option Nat}
/-- what a new filter or cell writes -/
def B1 (h : cmH) (a k : Nat) : Prop := (a = 0 ∧ k = 10) ∨ (a = 38 ∧ k = 24) ∨ (42 ≤ a ∧ a ≤ 45) ∨ (49 ≤ a ∧ a ≤ 51) ∨ a = 55 ∨ a = 69 ∨ (88 ≤ a ∧ cm_kd h a ≠ 9 ∧ cm_kd h a ≠ 12)
theorem HS.build (H : HS h F Rn C fa cc ta nn Tt cls ro Q T g st pr) (x : EX h h' P R) (p : ∀ a k, P a k → B1 h a k) (r : ∀ a k, R a k → a = 5 ∨ (88 ≤ a ∧ cm_kd h a ≠ 9)) (G' : FS h' F' fa') (GC' : ∀ f, f < F' → FC h' (fa' f) (C' f) (cc' f)) (S' : SW F' C' fa' cc') (RR' : ∀ f, f < F' → cm_I h' (fa' f) 7 = wI (ro' f) ∧ ∀ j, ro' f = some j → j < Rn) (m24 : cm_I h' 38 24 = nI F') (m42 : ∀ f, f < F' → cm_I h' 42 f = nI (C' f) ∧ cm_I h' 55 f = wI (ro' f)) (b5' : ∀ f, f < F' → cm_I h' (fa' f) 4 = nI (pr' f) ∧ 1 ≤ pr' f ∧ pr' f ≤ 1000 ∧ (cm_I h' (fa' f) 8 = 1 → 0 < C' f) ∧ cm_I h' (fa' f) 19 = 0 ∧ ∀ s, s < 8 → ∃ k, cm_I h' (fa' f + 2) s = nI k ∧ k ≤ 10000 * T) (z1' : ∀ f, f < F' → VFl (cm_I h') (cm_I h') (fa' f) (C' f) (cc' f) f ∧ INV (cm_I h') Q (fa' f) (C' f) (cc' f) ∧ cm_I h' 60 f = cm_I h' (fa' f) 17) : HS h' F' Rn C' fa' cc' ta nn Tt cls ro' Q T g st pr' := by
  obtain ⟨⟨L, G, GC, W, CT, RR⟩, B, hT, M, Z⟩ := H
  have h88 := L.1
  have rl : ∀ e ∈ ly_R, ¬ R e.1 e.2.1 := by
    intro e he w
    have h5 : ∀ e ∈ ly_R, e.1 ≠ 5 := by decide
    rcases r _ _ w with q | q
    · exact h5 e he q
    · have := ly_RL e he; omega
  have L' := x.ly L rl
  have lo : ∀ a k, a < 88 → ¬ B1 h a k → cm_I h' a k = cm_I h a k := fun a k ha q => (x.2 a (by omega)).2.2.1 k fun w => q (p a k w)
  have CT' : CTx h' 3000 Rn ta nn Tt cls := by
    refine ⟨by rw [lo 0 11 (by decide) (by unfold B1; omega)]; exact CT.1, CT.2.1, fun j hj => ?_⟩
    obtain ⟨c1, c2, c3, c4⟩ := CT.2.2 j hj
    have kd1 := c3.1.1
    have kd2 := c3.1.2.2.2
    have np : ∀ a k, 88 ≤ a → cm_kd h a = 9 ∨ cm_kd h a = 12 → ¬ P a k := fun a k ha hk w => by
      have := p a k w
      unfold B1 at this
      omega
    exact ⟨by rw [(x.2 8 (by omega)).2.2.2 j (fun w => by have := r _ _ w; omega)]; exact c1, c2, x.TXT c3 (fun k => ⟨np _ k c2 (Or.inl kd1), np _ k (by omega) (Or.inr kd2)⟩) (fun k w => by have := r _ _ w; omega), c4⟩
  refine ⟨⟨L', G', GC', S', CT', RR'⟩, ?_, hT, ?_, z1', ?_, ?_, ?_⟩
  · obtain ⟨b1, b2, b3, b4, b5⟩ := B
    exact ⟨by rw [lo 0 12 (by decide) (by unfold B1; omega)]; exact b1, by rw [lo 12 1 (by decide) (by unfold B1; omega)]; exact b2, b3, fun s hs => by rw [lo 13 s (by decide) (by unfold B1; omega), lo 2 s (by decide) (by unfold B1; omega)]; exact b4 s hs, b5'⟩
  · obtain ⟨-, m1, m2, m3, m4, m5, m6⟩ := M
    refine ⟨L', m24, G'.2.1, fun f hf => ⟨(m42 f hf).1, (GC' f hf).2.2.1, (m42 f hf).2, (RR' f hf).2⟩, ⟨by rw [lo 38 34 (by decide) (by unfold B1; omega)]; exact m4.1, m4.2.1, fun j hj => ?_⟩, m5, fun s hs => by rw [lo 41 s (by decide) (by unfold B1; omega)]; exact m6 s hs⟩
    obtain ⟨r1, r2, r3, r4⟩ := m4.2.2 j hj
    exact ⟨by rw [lo 64 _ (by decide) (by unfold B1; omega)]; exact r1, r2, fun i y hy => by rw [lo 63 _ (by decide) (by unfold B1; omega)]; exact r3 i y hy, r4⟩
  · obtain ⟨z1, z2, z3, z4⟩ := Z
    refine ⟨fun s hs => ?_, fun t s w a b c => ?_⟩
    · have l71 : ∀ k, cm_I h' 71 k = cm_I h 71 k := fun k => lo 71 k (by decide) (by unfold B1; omega)
      rw [l71, l71, l71, l71, l71, lo 15 s (by decide) (by unfold B1; omega), lo 16 s (by decide) (by unfold B1; omega), lo 17 s (by decide) (by unfold B1; omega), lo 18 s (by decide) (by unfold B1; omega), lo 19 s (by decide) (by unfold B1; omega)]
      exact z2.1 s hs
    · rw [lo 68 _ (by decide) (by unfold B1; omega), lo 20 _ (by decide) (by unfold B1; omega)]; exact z2.2 t s w a b c
  · obtain ⟨z1, z2, z3, z4⟩ := Z
    refine ⟨fun s hs => ?_, ?_⟩
    · rw [lo 39 s (by decide) (by unfold B1; omega), lo 40 s (by decide) (by unfold B1; omega), lo 41 s (by decide) (by unfold B1; omega), lo 67 s (by decide) (by unfold B1; omega), lo 2 s (by decide) (by unfold B1; omega), lo 3 s (by decide) (by unfold B1; omega), lo 4 s (by decide) (by unfold B1; omega), lo 13 s (by decide) (by unfold B1; omega)]
      exact z3.1 s hs
    · rw [lo 38 48 (by decide) (by unfold B1; omega), lo 12 1 (by decide) (by unfold B1; omega)]; exact z3.2
  · obtain ⟨z1, z2, z3, z4⟩ := Z
    rw [lo 38 0 (by decide) (by unfold B1; omega), lo 0 12 (by decide) (by unfold B1; omega)]; exact z4
/-- what a new filter writes -/
def flP (F a k : Nat) : Prop := (a = 0 ∧ k = 10) ∨ (a = 38 ∧ k = 24) ∨ ((a = 49 ∨ a = 50 ∨ a = 51 ∨ a = 55 ∨ a = 69) ∧ k = F)
theorem WLD.filter (H : HS h F Rn C fa cc ta nn Tt cls ro Q T g st pr) (tp : TP h n Tp) (la : LA h F C fa cc NL lc) (oc : OCh h NL Q st g) (cg : CG4 h) (rg : RG h Re) (fe : FRE h F C) (hn : cm_n h ≤ 88 + 4 * j) (hs : cm_sl h ≤ 110333 + 170 * j) (h8 : F < 8) (x : EX h h' (flP F) (fun a k => a = 5 ∧ k = F)) (en : cm_n h' = cm_n h + 4) (es : cm_sl h' = cm_sl h + 46) (fl : FL h' (cm_n h)) (nf : ∀ j, cm_I h' (cm_n h) j = q_nf j) (nz : ∀ i j, 1 ≤ i → i ≤ 3 → cm_I h' (cm_n h + i) j = 0) (r5 : cm_R h' 5 F = some (cm_n h)) (v10 : cm_I h' 0 10 = nI (F + 1)) (v24 : cm_I h' 38 24 = nI (F + 1)) (v49 : cm_I h' 49 F = 100) (v50 : cm_I h' 50 F = 500) (v51 : cm_I h' 51 F = 50) (v55 : cm_I h' 55 F = -1) (v69 : cm_I h' 69 F = -1) : WLD (j + 1) h' := by
  have L := H.1.1
  have h88 := L.1
  have S := H.1.2.2.2.1
  have GC := H.1.2.2.1
  have fe' : FRE h' F C := fe.fr L x (fun a k q w => by unfold flP at q; unfold FP at w; omega)
  have f0 : ∀ a, (a = 42 ∨ a = 52 ∨ a = 53 ∨ a = 54 ∨ a = 56 ∨ a = 57 ∨ a = 58 ∨ a = 59 ∨ a = 60 ∨ a = 70) → cm_I h' a F = 0 := fun a q => fe' a F (Or.inl ⟨q, Nat.le_refl _, h8⟩)
  have lo : ∀ a k, a < 88 → ¬ flP F a k → cm_I h' a k = cm_I h a k := fun a k ha q => (x.2 a (by omega)).2.2.1 k q
  have old : ∀ f a, f < F → OWN (fa f) (C f) (cc f) a → 88 ≤ a ∧ a < cm_n h := fun f a hf o => ⟨S.own88 hf o, by
    rcases o with o | ⟨c, hc, o⟩
    · have := (GC f hf).1.2.1; omega
    · have := ((GC f hf).2.2.2 c hc).2.1.2.1; omega⟩
  have own : ∀ f a k, f < F → OWN (fa f) (C f) (cc f) a → cm_I h' a k = cm_I h a k := fun f a k hf o => by
    have := old f a hf o
    exact (x.2 a this.2).2.2.1 k (by unfold flP; omega)
  have ow0 : ∀ f k, f < F → cm_I h' (fa f) k = cm_I h (fa f) k := fun f k hf => own f (fa f + 0) k hf (own_a 0 (by decide))
  have oc0 : ∀ f c k, f < F → c < C f → cm_I h' (cc f c) k = cm_I h (cc f c) k := fun f c k hf hc => own f (cc f c + 0) k hf (own_c hc 0 (by decide))
  have om : ∀ f a k, f < F → MO f a k → cm_I h' a k = cm_I h a k := fun f a k hf o => by
    unfold MO at o
    exact lo a k (by omega) (by unfold flP; omega)
  have fb : ∀ f, f < F → fa f + 3 < cm_n h := fun f hf => (GC f hf).1.2.1
  have cb : ∀ f c, f < F → c < C f → cc f c + 2 < cm_n h := fun f c hf hc => ((GC f hf).2.2.2 c hc).2.1.2.1
  have c1 : HS h' (F + 1) Rn (fun f => if f = F then 0 else C f) (fun f => if f = F then cm_n h else fa f) cc ta nn Tt cls (fun f => if f = F then none else ro f) Q T g st (fun f => if f = F then 100 else pr f) := by
    refine H.build x (fun a k q => by unfold flP at q; unfold B1; omega) (fun a k q => Or.inl q.1) ⟨v10, by omega, fun f hf => ?_⟩ (fun f hf => ?_) ⟨fun f hf => ?_, fun f f' hf hf' ne => ?_, fun f c hf hc => ?_, fun f c f' c' hf hc hf' hc' ne => ?_⟩ (fun f hf => ?_) v24 (fun f hf => ?_) (fun f hf => ?_) (fun f hf => ?_)
    · by_cases e : f = F
      · subst e; simp only [if_pos]; exact r5
      · simp only [if_neg e]
        rw [(x.2 5 (by omega)).2.2.2 f (by omega)]; exact H.1.2.1.2.2 f (by omega)
    · by_cases e : f = F
      · subst e; simp only [if_pos]
        exact ⟨fl, by rw [nf]; rfl, by decide, fun c hc => absurd hc (by omega)⟩
      · simp only [if_neg e]
        have hf' : f < F := by omega
        obtain ⟨g1, g2, g3, g4⟩ := GC f hf'
        have a88 := S.1 f hf'
        refine ⟨x.FL g1 (fun k w => by omega), by rw [ow0 f 3 hf']; exact g2, g3, fun c hc => ⟨?_, x.CE (g4 c hc).2.1 (fun k w => by have := (S.2.2.1 f c hf' hc).1; omega), by rw [oc0 f c 5 hf' hc]; exact (g4 c hc).2.2⟩⟩
        have := g1.2.1
        rw [(x.2 (fa f + 1) (by omega)).2.2.2 c (by omega)]; exact (g4 c hc).1
    · by_cases e : f = F
      · simp only [if_pos e]; exact h88
      · simp only [if_neg e]; exact S.1 f (by omega)
    · by_cases e : f = F
      · by_cases e' : f' = F
        · omega
        · simp only [if_pos e, if_neg e']
          have := fb f' (by omega); omega
      · by_cases e' : f' = F
        · simp only [if_neg e, if_pos e']
          have := fb f (by omega); omega
        · simp only [if_neg e, if_neg e']
          exact S.2.1 f f' (by omega) (by omega) ne
    · by_cases e : f = F
      · simp only [if_pos e] at hc; omega
      · simp only [if_neg e] at hc
        refine ⟨(S.2.2.1 f c (by omega) hc).1, fun f' hf' => ?_⟩
        by_cases e' : f' = F
        · simp only [if_pos e']
          have := cb f c (by omega) hc; omega
        · simp only [if_neg e']
          exact (S.2.2.1 f c (by omega) hc).2 f' (by omega)
    · by_cases e : f = F
      · simp only [if_pos e] at hc; omega
      · by_cases e' : f' = F
        · simp only [if_pos e'] at hc'; omega
        · simp only [if_neg e] at hc
          simp only [if_neg e'] at hc'
          exact S.2.2.2 f c f' c' (by omega) hc (by omega) hc' ne
    · by_cases e : f = F
      · simp only [if_pos e]
        exact ⟨by rw [nf]; rfl, fun j w => by cases w⟩
      · simp only [if_neg e]
        rw [ow0 f 7 (by omega)]; exact H.1.2.2.2.2.2 f (by omega)
    · by_cases e : f = F
      · subst e; simp only [if_pos]
        exact ⟨f0 42 (Or.inl rfl), v55⟩
      · simp only [if_neg e]
        obtain ⟨m1, -, m3, -⟩ := H.2.2.2.1.2.2.2.1 f (by omega)
        rw [lo 42 f (by decide) (by unfold flP; omega), lo 55 f (by decide) (by unfold flP; omega)]
        exact ⟨m1, m3⟩
    · by_cases e : f = F
      · simp only [if_pos e]
        refine ⟨by rw [nf]; rfl, by decide, by decide, fun w => absurd ((nf 8).symm.trans w) (by decide), by rw [nf]; rfl, fun s _ => ⟨0, by rw [nz 2 s (by decide) (by decide)]; rfl, by omega⟩⟩
      · simp only [if_neg e]
        have hf' : f < F := by omega
        rw [ow0 f 4 hf', ow0 f 8 hf', ow0 f 19 hf']
        obtain ⟨d1, d2, d3, d4, d5, d6⟩ := H.2.1.2.2.2.2 f hf'
        exact ⟨d1, d2, d3, d4, d5, fun s hs => by rw [own f (fa f + 2) s hf' (own_a 2 (by decide))]; exact d6 s hs⟩
    · by_cases e : f = F
      · subst e; simp only [if_pos]
        refine ⟨⟨fun k b q => ?_, fun c hc => absurd hc (by omega), fun s hs => ?_⟩, ⟨fun w => ?_, fun _ => ⟨by rw [nf]; rfl, by rw [nf]; rfl⟩, Or.inl (by rw [nf]; rfl), fun c hc => absurd hc (by omega)⟩, by rw [f0 60 (by omega), nf]; rfl⟩
        · rw [nf]
          unfold vfl at q
          simp only [List.mem_cons, Prod.mk.injEq, List.not_mem_nil, or_false] at q
          rcases q with ⟨rfl, rfl⟩ | ⟨rfl, rfl⟩ | ⟨rfl, rfl⟩ | ⟨rfl, rfl⟩ | ⟨rfl, rfl⟩ | ⟨rfl, rfl⟩ | ⟨rfl, rfl⟩ | ⟨rfl, rfl⟩ | ⟨rfl, rfl⟩ | ⟨rfl, rfl⟩ | ⟨rfl, rfl⟩ | ⟨rfl, rfl⟩ | ⟨rfl, rfl⟩
          · exact v49
          · exact v50
          · exact v51
          · exact v55
          · exact f0 52 (by omega)
          · exact f0 53 (by omega)
          · exact f0 54 (by omega)
          · exact f0 56 (by omega)
          · exact f0 57 (by omega)
          · exact f0 58 (by omega)
          · exact v69
          · exact f0 70 (by omega)
          · exact f0 59 (by omega)
        · rw [nz 2 s (by decide) (by decide)]
          exact fe' 48 (8 * f + s) (Or.inr (Or.inl ⟨rfl, by omega, by omega⟩))
        · rw [nf] at w
          rcases w with w | w
          · exact absurd w (by decide)
          · exact absurd w (by decide)
      · simp only [if_neg e]
        have hf' : f < F := by omega
        obtain ⟨v, i, e60⟩ := H.2.2.2.2.1 f hf'
        exact ⟨v.congr (GC f hf').2.2.1 (fun a k o => own f a k hf' o) (fun a k o => om f a k hf' o), i.congr (fun a k o => own f a k hf' o), by rw [om f 60 f hf' (by unfold MO; omega), ow0 f 17 hf']; exact e60⟩
  have c2 := tp.fr L x (fun k => by unfold flP; omega)
  have c4 := oc.fr L x (fun a k q => by unfold flP; omega)
  have c5 := cg.fr L x (fun k => by unfold flP; omega)
  have c6 := rg.fr L x (fun a k q => by unfold flP; omega)
  have c3 := la.fr L S x (fun a k q => by unfold flP; omega) (fun c hc => by have := lc88 la hc; unfold flP; omega) (fun a k q => Or.inr (Or.inl q.1))
  have c3' : LA h' (F + 1) (fun f => if f = F then 0 else C f) (fun f => if f = F then cm_n h else fa f) cc NL lc := by
    obtain ⟨a1, a2, a3, a4, a5, a6, a7⟩ := c3
    refine ⟨a1, a2, a3, a4, a5, fun c y f hc p q hf => ?_, a7⟩
    by_cases e : f = F
    · simp only [if_pos e]
      have := (la.2.2.2.1.2.2.2 c hc).2.1.2.1
      rintro (w | ⟨c0, hc0, w⟩)
      · omega
      · omega
    · simp only [if_neg e]
      exact a6 c y f hc p q (by omega)
  refine ⟨F + 1, Rn, Q, T, NL, n, Re, _, _, g, st, _, lc, ta, nn, Tp, cc, Tt, cls, _, c1, c2, c3', c4, c5, c6, by omega, by omega, fun a k q => fe' a k ?_⟩
  rcases q with ⟨q, q1, q2⟩ | ⟨q, q1, q2⟩ | ⟨q, q1, q2⟩
  · exact Or.inl ⟨q, by omega, q2⟩
  · exact Or.inr (Or.inl ⟨q, by omega, q2⟩)
  · refine Or.inr (Or.inr ⟨q, q1, ?_⟩)
    by_cases e : k / 80 = F
    · exact Or.inl (by omega)
    · simp only [if_neg e] at q2
      omega
theorem w_filter (W : WLD j h) : STi sc (d + 200) (d + 201) 15 138 [.ref 0] [.ref 38] j h := by
  have Wu := W.up
  obtain ⟨F, Rn, Q, T, NL, n, Re, C, fa, g, st, pr, lc, ta, nn, Tp, cc, Tt, cls, ro, H, tp, la, oc, cg, rg, hn, hs, fe⟩ := W
  have L := H.1.1
  have h88 := L.1
  have G := H.1.2.1
  have M := H.2.2.2.1
  refine c_filter (d := d + 198) L G.1 G.2.1 (fun h8 h1 N1 => ?_) (fun q => ⟨L, m_filter (d := d + 201) L M.2.1 G.2.1 (fun h8 => absurd h8 q) (fun _ => ⟨rfl, Wu⟩)⟩)
  obtain ⟨A, en, es, fl, nf, nz⟩ := N1
  have x1 : EX h (cm_setI (cm_setR h1 5 F (some (cm_n h))) 0 10 (nI (F + 1))) (flP F) (fun a k => a = 5 ∧ k = F) := ((A.e.mono (fun _ _ q => absurd q id) (fun _ _ q => absurd q id)).setR ⟨rfl, rfl⟩).set (Or.inl ⟨rfl, rfl⟩)
  have L1 := x1.ly L (fun e he w => by
    have : ∀ e ∈ ly_R, e.1 ≠ 5 := by decide
    exact this e he w.1)
  have g24 : cm_I (cm_setI (cm_setR h1 5 F (some (cm_n h))) 0 10 (nI (F + 1))) 38 24 = nI F := by
    rw [sI_o (Or.inl (by decide))]
    show cm_I h1 38 24 = nI F
    rw [((A.2 38 (by omega)).2.2 24).1]; exact M.2.1
  refine ⟨L1, m_filter (d := d + 201) L1 g24 G.2.1 (fun _ => ⟨rfl, ?_⟩) (fun q => absurd h8 q)⟩
  have x2 := (((((x1.set (a := 49) (k := F) (v := 100) (by unfold flP; omega)).set (a := 50) (k := F) (v := 500) (by unfold flP; omega)).set (a := 51) (k := F) (v := 50) (by unfold flP; omega)).set (a := 55) (k := F) (v := -1) (by unfold flP; omega)).set (a := 69) (k := F) (v := -1) (by unfold flP; omega)).set (a := 38) (k := 24) (v := nI (F + 1)) (by unfold flP; omega)
  have hi : ∀ a k, 88 ≤ a → cm_I (cm_setI (cm_setI (cm_setI (cm_setI (cm_setI (cm_setI (cm_setI (cm_setR h1 5 F (some (cm_n h))) 0 10 (nI (F + 1))) 49 F 100) 50 F 500) 51 F 50) 55 F (-1)) 69 F (-1)) 38 24 (nI (F + 1))) a k = cm_I h1 a k := fun a k q => by
    rw [sI_o (Or.inl (by omega)), sI_o (Or.inl (by omega)), sI_o (Or.inl (by omega)), sI_o (Or.inl (by omega)), sI_o (Or.inl (by omega)), sI_o (Or.inl (by omega)), sI_o (Or.inl (by omega))]; rfl
  have fl' : FL (cm_setR h1 5 F (some (cm_n h))) (cm_n h) := ⟨fl.1, fl.2.1, by rw [sR_R, if_neg (by omega)]; exact fl.2.2.1, by rw [sR_R, if_neg (by omega)]; exact fl.2.2.2.1, by rw [sR_R, if_neg (by omega)]; exact fl.2.2.2.2.1, fl.2.2.2.2.2⟩
  refine WLD.filter H tp la oc cg rg fe hn hs h8 x2 en es fl' (fun k => by rw [hi _ _ h88]; exact nf k) (fun i k p q => by rw [hi _ _ (by omega)]; exact nz i k p q) ?_ ?_ sI_s ?_ ?_ ?_ ?_ ?_
  · exact if_pos ⟨rfl, rfl⟩
  · rw [sI_o (Or.inl (by decide)), sI_o (Or.inl (by decide)), sI_o (Or.inl (by decide)), sI_o (Or.inl (by decide)), sI_o (Or.inl (by decide)), sI_o (Or.inl (by decide)), sI_s]
  · rw [sI_o (Or.inl (by decide)), sI_o (Or.inl (by decide)), sI_o (Or.inl (by decide)), sI_o (Or.inl (by decide)), sI_o (Or.inl (by decide)), sI_s]
  · rw [sI_o (Or.inl (by decide)), sI_o (Or.inl (by decide)), sI_o (Or.inl (by decide)), sI_o (Or.inl (by decide)), sI_s]
  · rw [sI_o (Or.inl (by decide)), sI_o (Or.inl (by decide)), sI_o (Or.inl (by decide)), sI_s]
  · rw [sI_o (Or.inl (by decide)), sI_o (Or.inl (by decide)), sI_s]
  · rw [sI_o (Or.inl (by decide)), sI_s]
end WBUILD
