/-! ===== grain, stream, come ===== -/
section WSET
variable {sc : cmS} {d j : Nat} {h h' : cmH} {x1 x2 x3 : Int32} {P R : Nat → Nat → Prop} {F Rn Q T NL n Re : Nat} {fa C g st pr lc ta nn Tp : Nat → Nat} {cc Tt : Nat → Nat → Nat} {cls : Nat → List CL} {ro : Nat → Option Nat}
theorem INV.q {A : Nat → Nat → Int32} {a m Q' : Nat} {ca : Nat → Nat} (I : INV A Q a m ca) (q : Q' = 0 → Q = 0) : INV A Q' a m ca := ⟨I.1, I.2.1, I.2.2.1, fun c hc => ⟨(I.2.2.2 c hc).1, (I.2.2.2 c hc).2.1, (I.2.2.2 c hc).2.2.1, fun w => (I.2.2.2 c hc).2.2.2 (q w)⟩⟩
theorem HS.fr2 {Q' : Nat} {g' st' : Nat → Nat} (H : HS h F Rn C fa cc ta nn Tt cls ro Q T g st pr) (x : EX h h' P R) (p : ∀ a k, P a k → A1 h F C fa cc a k ∨ a = 2 ∨ a = 3 ∨ a = 4 ∨ a = 13 ∨ (a = 12 ∧ k = 1) ∨ a = 39 ∨ a = 40 ∨ a = 41 ∨ a = 67 ∨ (a = 38 ∧ k = 48)) (r : ∀ a k, R a k → (a = 9 ∧ k = 1) ∨ a = 27) (nQ : cm_I h' 12 1 = nI Q' ∧ Q' ≤ 1000) (n8 : ∀ s, s < 8 → cm_I h' 13 s = nI (g' s) ∧ g' s ≤ 9999 ∧ cm_I h' 2 s = nI (st' s) ∧ st' s ≤ 1000) (n41 : ∀ s, s < 8 → 0 ≤ cm_I h' 41 s ∧ cm_I h' 41 s ≤ 1000) (nV : VG (cm_I h') (cm_I h')) (nq : Q' = 0 → Q = 0) : HS h' F Rn C fa cc ta nn Tt cls ro Q' T g' st' pr := by
  obtain ⟨⟨L, G, GC, W, CT, RR⟩, B, hT, M, Z⟩ := H
  have h88 := L.1
  have hF := G.2.1
  have h10 : ∀ f, f < F → C f ≤ 10 := fun f hf => (GC f hf).2.2.1
  have rl : ∀ e ∈ ly_R, ¬ R e.1 e.2.1 := by
    intro e he w
    rcases r _ _ w with q | q
    · exact ly_91 e he q
    · have : ∀ e ∈ ly_R, e.1 ≠ 27 := by decide
      exact this e he q
  have L' := x.ly L rl
  -- what stays
  have lo : ∀ a k, a < 88 → ¬ A1 h F C fa cc a k → ¬ (a = 2 ∨ a = 3 ∨ a = 4 ∨ a = 13 ∨ (a = 12 ∧ k = 1) ∨ a = 39 ∨ a = 40 ∨ a = 41 ∨ a = 67 ∨ (a = 38 ∧ k = 48)) → cm_I h' a k = cm_I h a k := fun a k ha q q2 => (x.2 a (by omega)).2.2.1 k fun w => (p a k w).elim q q2
  have own : ∀ f a k, f < F → OWN (fa f) (C f) (cc f) a → cm_I h' a k = cm_I h a k := fun f a k hf o => by
    have h1 := W.own88 hf o
    have ha : a < cm_n h := by
      rcases o with o | ⟨c, hc, o⟩
      · have := (GC f hf).1.2.1; omega
      · have := ((GC f hf).2.2.2 c hc).2.1.2.1; omega
    refine (x.2 a ha).2.2.1 k fun w => ?_
    have := p a k w
    rcases this with this | this
    · unfold A1 at this
      rcases this with q | q | q | q | q | q | q | q | q | q | q | q | q | q | q | ⟨-, -, q⟩
      all_goals first | omega | exact q f hf o
    · omega
  have ow0 : ∀ f k, f < F → cm_I h' (fa f) k = cm_I h (fa f) k := fun f k hf => own f (fa f + 0) k hf (own_a 0 (by decide))
  have oc0 : ∀ f c k, f < F → c < C f → cm_I h' (cc f c) k = cm_I h (cc f c) k := fun f c k hf hc => own f (cc f c + 0) k hf (own_c hc 0 (by decide))
  have G' : FS h' F fa := ⟨by rw [lo 0 10 (by decide) (by unfold A1; omega) (by omega)]; exact G.1, hF, fun f hf => by rw [(x.2 5 (by omega)).2.2.2 f (fun w => by have := r _ _ w; omega)]; exact G.2.2 f hf⟩
  have nR : ∀ a, 88 ≤ a → ∀ k, ¬ R a k := fun a ha k w => by have := r _ _ w; omega
  have GC' : ∀ f, f < F → FC h' (fa f) (C f) (cc f) := fun f hf => by
    obtain ⟨g1, g2, g3, g4⟩ := GC f hf
    have a88 := W.1 f hf
    refine ⟨x.FL g1 (nR _ a88), by rw [ow0 f 3 hf]; exact g2, g3, fun c hc => ⟨?_, x.CE (g4 c hc).2.1 (nR _ (W.2.2.1 f c hf hc).1), by rw [oc0 f c 5 hf hc]; exact (g4 c hc).2.2⟩⟩
    have := g1.2.1
    rw [(x.2 (fa f + 1) (by omega)).2.2.2 c (nR _ (by omega) _)]; exact (g4 c hc).1
  have CT' : CTx h' 3000 Rn ta nn Tt cls := by
    refine ⟨by rw [lo 0 11 (by decide) (by unfold A1; omega) (by omega)]; exact CT.1, CT.2.1, fun j hj => ?_⟩
    obtain ⟨c1, c2, c3, c4⟩ := CT.2.2 j hj
    have kd1 := c3.1.1
    have kd2 := c3.1.2.2.2
    have np : ∀ a k, 88 ≤ a → a < cm_n h → cm_kd h a = 9 ∨ cm_kd h a = 12 → ¬ P a k := fun a k ha hn hk w => by
      have := p a k w
      rcases this with this | this
      · unfold A1 at this
        rcases this with q | q | q | q | q | q | q | q | q | q | q | q | q | q | q | ⟨-, q, -⟩
        all_goals first | omega | (have := q hn; omega)
      · omega
    have hn := c3.1.2.1
    exact ⟨by rw [(x.2 8 (by omega)).2.2.2 j (fun w => by have := r _ _ w; omega)]; exact c1, c2, x.TXT c3 (fun k => ⟨np _ k c2 (by omega) (Or.inl kd1), np _ k (by omega) hn (Or.inr kd2)⟩) (nR _ c2), c4⟩
  refine ⟨⟨L', G', GC', W, CT', fun f hf => by rw [ow0 f 7 hf]; exact RR f hf⟩, ?_, hT, ?_, ?_⟩
  · obtain ⟨b1, b2, b3, b4, b5⟩ := B
    refine ⟨by rw [lo 0 12 (by decide) (by unfold A1; omega) (by omega)]; exact b1, nQ.1, nQ.2, n8, fun f hf => ?_⟩
    rw [ow0 f 4 hf, ow0 f 8 hf, ow0 f 19 hf]
    obtain ⟨d1, d2, d3, d4, d5, d6⟩ := b5 f hf
    exact ⟨d1, d2, d3, d4, d5, fun s hs => by rw [own f (fa f + 2) s hf (own_a 2 (by decide))]; exact d6 s hs⟩
  · obtain ⟨-, m1, m2, m3, m4, m5, m6⟩ := M
    refine ⟨L', by rw [lo 38 24 (by decide) (by unfold A1; omega) (by omega)]; exact m1, m2, fun f hf => by rw [lo 42 f (by decide) (by unfold A1; omega) (by omega), lo 55 f (by decide) (by unfold A1; omega) (by omega)]; exact m3 f hf, ⟨by rw [lo 38 34 (by decide) (by unfold A1; omega) (by omega)]; exact m4.1, m4.2.1, fun j hj => ?_⟩, m5, n41⟩
    obtain ⟨r1, r2, r3, r4⟩ := m4.2.2 j hj
    exact ⟨by rw [lo 64 _ (by decide) (by unfold A1; omega) (by omega)]; exact r1, r2, fun i y hy => by rw [lo 63 _ (by decide) (by unfold A1; omega) (by omega)]; exact r3 i y hy, r4⟩
  · obtain ⟨z1, z2, z3, z4⟩ := Z
    refine ⟨fun f hf => ?_, ⟨fun s hs => ?_, fun t s w a b c => ?_⟩, nV, ?_⟩
    · obtain ⟨v, i, e⟩ := z1 f hf
      have om : ∀ a k, MO f a k → cm_I h' a k = cm_I h a k := fun a k o => by
        have h10 := h10 f hf
        unfold MO at o
        exact lo a k (by omega) (by unfold A1; omega) (by omega)
      exact ⟨v.congr (h10 f hf) (fun a k o => own f a k hf o) om, (i.congr (fun a k o => own f a k hf o)).q nq, by rw [om 60 f (by unfold MO; omega), ow0 f 17 hf]; exact e⟩
    · have l71 : ∀ k, cm_I h' 71 k = cm_I h 71 k := fun k => lo 71 k (by decide) (by unfold A1; omega) (by omega)
      rw [l71, l71, l71, l71, l71, lo 15 s (by decide) (by unfold A1; omega) (by omega), lo 16 s (by decide) (by unfold A1; omega) (by omega), lo 17 s (by decide) (by unfold A1; omega) (by omega), lo 18 s (by decide) (by unfold A1; omega) (by omega), lo 19 s (by decide) (by unfold A1; omega) (by omega)]
      exact z2.1 s hs
    · rw [lo 68 _ (by decide) (by unfold A1; omega) (by omega), lo 20 _ (by decide) (by unfold A1; omega) (by omega)]; exact z2.2 t s w a b c
    · rw [lo 38 0 (by decide) (by unfold A1; omega) (by omega), lo 0 12 (by decide) (by unfold A1; omega) (by omega)]; exact z4
/-- the rest of the world, where grains or the stream are told anew -/
theorem WLD.gr {Q' : Nat} {g' st' : Nat → Nat} (L : LY h) (S : SW F C fa cc) (tp : TP h n Tp) (la : LA h F C fa cc NL lc) (cg : CG4 h) (rg : RG h Re) (fe : FRE h F C) (X : XI h h' (fun a k => a = 2 ∨ a = 3 ∨ a = 4 ∨ a = 13 ∨ (a = 12 ∧ k = 1) ∨ (a = 21 ∧ k = 7) ∨ a = 39 ∨ a = 40 ∨ a = 41 ∨ a = 67 ∨ (a = 38 ∧ k = 48))) (e7 : cm_I h' 21 7 = -1) (c1 : HS h' F Rn C fa cc ta nn Tt cls ro Q' T g' st' pr) (hn : cm_n h ≤ 88 + 4 * j) (hs : cm_sl h ≤ 110333 + 170 * j) : WLD (j + 1) h' := by
  have x := X.e
  have c2 := tp.fr L x (fun k => by omega)
  have c3 := la.fr L S x (fun a k q => by omega) (fun c hc => by have := lc88 la hc; omega) (fun a k q => absurd q id)
  have c5 := cg.fr L x (fun k => by omega)
  have c6 := rg.fr L x (fun a k q => by omega)
  exact ⟨F, Rn, Q', T, NL, n, Re, C, fa, g', st', pr, lc, ta, nn, Tp, cc, Tt, cls, ro, c1, c2, c3, Or.inl e7, c5, c6, by rw [X.ns.1]; omega, by rw [X.ns.2]; omega, fe.fr L x (fun a k q w => by unfold FP at w; omega)⟩
theorem a1_217 {a k : Nat} (q : a = 21 ∧ k = 7) : A1 h F C fa cc a k := Or.inr (Or.inr (Or.inr (Or.inr (Or.inl ⟨by omega, by omega⟩))))
theorem w_stream (W : WLD j h) : STi sc (d + 200) (d + 201) 58 183 [.ref 0, .int x1] [.ref 38, .int x1] j h := by
  have Wu := W.up
  obtain ⟨F, Rn, Q, T, NL, n, Re, C, fa, g, st, pr, lc, ta, nn, Tp, cc, Tt, cls, ro, H, tp, la, oc, cg, rg, hn, hs, fe⟩ := W
  have L := H.1.1
  have S := H.1.2.2.2.1
  refine c_stream L (fun q => ⟨L.s.s, m_stream L.s.s (fun _ => ⟨rfl, ?_⟩) (fun q2 => absurd q q2)⟩) (fun q => ⟨L, m_stream L (fun q2 => absurd q2 q) (fun _ => ⟨rfl, Wu⟩)⟩)
  obtain ⟨v, v1, v2, ev⟩ := (in_nI (x := x1) 1 1000 rfl rfl (by decide) (by decide)).mp q
  subst ev
  have X0 : XI h h (fun a k => a = 2 ∨ a = 3 ∨ a = 4 ∨ a = 13 ∨ (a = 12 ∧ k = 1) ∨ (a = 21 ∧ k = 7) ∨ a = 39 ∨ a = 40 ∨ a = 41 ∨ a = 67 ∨ (a = 38 ∧ k = 48)) := XI.refl
  have X := ((X0.set (a := 12) (k := 1) (v := nI v) (by omega)).set (a := 21) (k := 7) (v := -1) (by omega)).set (a := 38) (k := 48) (v := nI v) (by omega)
  have o : ∀ a k, ¬ ((a = 12 ∧ k = 1) ∨ (a = 21 ∧ k = 7) ∨ (a = 38 ∧ k = 48)) → cm_I (cm_setI (cm_setI (cm_setI h 12 1 (nI v)) 21 7 (-1)) 38 48 (nI v)) a k = cm_I h a k := fun a k q => by rw [sI_o (by omega), sI_o (by omega), sI_o (by omega)]
  have e12 : cm_I (cm_setI (cm_setI (cm_setI h 12 1 (nI v)) 21 7 (-1)) 38 48 (nI v)) 12 1 = nI v := by rw [sI_o (Or.inl (by decide)), sI_o (Or.inl (by decide)), sI_s]
  have e38 : cm_I (cm_setI (cm_setI (cm_setI h 12 1 (nI v)) 21 7 (-1)) 38 48 (nI v)) 38 48 = nI v := sI_s
  have e21 : cm_I (cm_setI (cm_setI (cm_setI h 12 1 (nI v)) 21 7 (-1)) 38 48 (nI v)) 21 7 = -1 := by rw [sI_o (Or.inl (by decide)), sI_s]
  generalize (cm_setI (cm_setI (cm_setI h 12 1 (nI v)) 21 7 (-1)) 38 48 (nI v)) = h1 at X o e12 e38 e21 ⊢
  refine WLD.gr L S tp la cg rg fe X e21 (H.fr2 (g' := g) (st' := st) X.e (fun a k q => ?_) (fun a k q => absurd q id) ⟨e12, v2⟩ (fun s hs => ?_) (fun s hs => ?_) ⟨fun s hs => ?_, ?_⟩ (fun e => by omega)) hn hs
  · by_cases w : a = 21 ∧ k = 7
    · exact Or.inl (a1_217 w)
    · exact Or.inr (by omega)
  · rw [o 13 s (by omega), o 2 s (by omega)]; exact H.2.1.2.2.2.1 s hs
  · rw [o 41 s (by omega)]; exact H.2.2.2.1.2.2.2.2.2.2 s hs
  · rw [o 39 s (by omega), o 40 s (by omega), o 41 s (by omega), o 67 s (by omega), o 2 s (by omega), o 3 s (by omega), o 4 s (by omega), o 13 s (by omega)]; exact H.2.2.2.2.2.2.1.1 s hs
  · rw [e12, e38]
theorem w_come (W : WLD j h) : STi sc (d + 200) (d + 201) 59 184 [.ref 0, .int x1, .int x2] [.ref 38, .int x1, .int x2] j h := by
  have Wu := W.up
  obtain ⟨F, Rn, Q, T, NL, n, Re, C, fa, g, st, pr, lc, ta, nn, Tp, cc, Tt, cls, ro, H, tp, la, oc, cg, rg, hn, hs, fe⟩ := W
  have L := H.1.1
  have S := H.1.2.2.2.1
  refine c_come L (fun q => ⟨L.s.s, m_come L.s.s (fun _ => ⟨rfl, ?_⟩) (fun q2 => absurd q q2)⟩) (fun q => ⟨L, m_come L (fun q2 => absurd q2 q) (fun _ => ⟨rfl, Wu⟩)⟩)
  obtain ⟨i, -, hi, ei⟩ := (in_nI (x := x1) 0 7 rfl rfl (by decide) (by decide)).mp q.1
  obtain ⟨v, -, hv, ev⟩ := (in_nI (x := x2) 0 9999 rfl rfl (by decide) (by decide)).mp q.2
  subst ei ev
  rw [nI_clamp (by omega)]
  have X0 : XI h h (fun a k => a = 2 ∨ a = 3 ∨ a = 4 ∨ a = 13 ∨ (a = 12 ∧ k = 1) ∨ (a = 21 ∧ k = 7) ∨ a = 39 ∨ a = 40 ∨ a = 41 ∨ a = 67 ∨ (a = 38 ∧ k = 48)) := XI.refl
  have X := ((X0.set (a := 13) (k := i) (v := nI v) (by omega)).set (a := 21) (k := 7) (v := -1) (by omega)).set (a := 67) (k := i) (v := nI v) (by omega)
  have o : ∀ a k, ¬ ((a = 13 ∧ k = i) ∨ (a = 21 ∧ k = 7) ∨ (a = 67 ∧ k = i)) → cm_I (cm_setI (cm_setI (cm_setI h 13 i (nI v)) 21 7 (-1)) 67 i (nI v)) a k = cm_I h a k := fun a k q => by rw [sI_o (by omega), sI_o (by omega), sI_o (by omega)]
  have e13 : cm_I (cm_setI (cm_setI (cm_setI h 13 i (nI v)) 21 7 (-1)) 67 i (nI v)) 13 i = nI v := by rw [sI_o (Or.inl (by decide)), sI_o (Or.inl (by decide)), sI_s]
  have e67 : cm_I (cm_setI (cm_setI (cm_setI h 13 i (nI v)) 21 7 (-1)) 67 i (nI v)) 67 i = nI v := sI_s
  have e21 : cm_I (cm_setI (cm_setI (cm_setI h 13 i (nI v)) 21 7 (-1)) 67 i (nI v)) 21 7 = -1 := by rw [sI_o (Or.inl (by decide)), sI_s]
  generalize (cm_setI (cm_setI (cm_setI h 13 i (nI v)) 21 7 (-1)) 67 i (nI v)) = h1 at X o e13 e67 e21 ⊢
  refine WLD.gr L S tp la cg rg fe X e21 (H.fr2 (g' := fun s => if s = i then v else g s) (st' := st) X.e (fun a k q => ?_) (fun a k q => absurd q id) ⟨by rw [o 12 1 (by omega)]; exact H.2.1.2.1, H.2.1.2.2.1⟩ (fun s hs => ?_) (fun s hs => ?_) ⟨fun s hs => ?_, ?_⟩ id) hn hs
  · by_cases w : a = 21 ∧ k = 7
    · exact Or.inl (a1_217 w)
    · exact Or.inr (by omega)
  · obtain ⟨b1, b2, b3, b4⟩ := H.2.1.2.2.2.1 s hs
    by_cases y : s = i
    · subst y
      rw [e13, o 2 s (by omega), if_pos rfl]; exact ⟨rfl, hv, b3, b4⟩
    · rw [o 13 s (by omega), o 2 s (by omega), if_neg y]; exact ⟨b1, b2, b3, b4⟩
  · rw [o 41 s (by omega)]; exact H.2.2.2.1.2.2.2.2.2.2 s hs
  · obtain ⟨z1, z2, z3, z4⟩ := H.2.2.2.2.2.2.1.1 s hs
    by_cases y : s = i
    · subst y
      rw [o 39 s (by omega), o 40 s (by omega), o 41 s (by omega), o 2 s (by omega), o 3 s (by omega), o 4 s (by omega), e13, e67]; exact ⟨z1, z2, z3, rfl⟩
    · rw [o 39 s (by omega), o 40 s (by omega), o 41 s (by omega), o 67 s (by omega), o 2 s (by omega), o 3 s (by omega), o 4 s (by omega), o 13 s (by omega)]; exact ⟨z1, z2, z3, z4⟩
  · rw [o 38 48 (by omega), o 12 1 (by omega)]; exact H.2.2.2.2.2.2.1.2
theorem q_row_b {w : Int32} : (q_row 2 w = 2 ∨ q_row 2 w = 3 ∨ q_row 2 w = 4) ∧ q_row 39 w = q_row 2 w + 37 := by
  unfold q_row
  split
  · exact ⟨Or.inl rfl, rfl⟩
  · split
    · exact ⟨Or.inr (Or.inl rfl), rfl⟩
    · exact ⟨Or.inr (Or.inr rfl), rfl⟩
theorem w_grain (W : WLD j h) : STi sc (d + 200) (d + 201) 11 136 [.ref 0, .int x1, .int x2, .int x3] [.ref 38, .int x1, .int x2, .int x3] j h := by
  have Wu := W.up
  obtain ⟨F, Rn, Q, T, NL, n, Re, C, fa, g, st, pr, lc, ta, nn, Tp, cc, Tt, cls, ro, H, tp, la, oc, cg, rg, hn, hs, fe⟩ := W
  have L := H.1.1
  have S := H.1.2.2.2.1
  refine c_grain L (fun q => ⟨L.s.s, m_grain L.s.s (fun _ => ⟨rfl, ?_⟩) (fun q2 => absurd q q2)⟩) (fun q => ⟨L, m_grain L (fun q2 => absurd q2 q) (fun _ => ⟨rfl, Wu⟩)⟩)
  obtain ⟨i, -, hi, ei⟩ := (in_nI (x := x1) 0 7 rfl rfl (by decide) (by decide)).mp q.1
  obtain ⟨v, -, hv, ev⟩ := (in_nI (x := x3) 0 1000 rfl rfl (by decide) (by decide)).mp q.2.2
  subst ei ev
  obtain ⟨rb, re⟩ := q_row_b (w := x2)
  rw [nI_clamp (by omega), re]
  generalize q_row 2 x2 = r at rb
  have X0 : XI h h (fun a k => a = 2 ∨ a = 3 ∨ a = 4 ∨ a = 13 ∨ (a = 12 ∧ k = 1) ∨ (a = 21 ∧ k = 7) ∨ a = 39 ∨ a = 40 ∨ a = 41 ∨ a = 67 ∨ (a = 38 ∧ k = 48)) := XI.refl
  have X := ((X0.set (a := r) (k := i) (v := nI v) (by omega)).set (a := 21) (k := 7) (v := -1) (by omega)).set (a := r + 37) (k := i) (v := nI v) (by omega)
  have o : ∀ a k, ¬ ((a = r ∧ k = i) ∨ (a = 21 ∧ k = 7) ∨ (a = r + 37 ∧ k = i)) → cm_I (cm_setI (cm_setI (cm_setI h r i (nI v)) 21 7 (-1)) (r + 37) i (nI v)) a k = cm_I h a k := fun a k q => by rw [sI_o (by omega), sI_o (by omega), sI_o (by omega)]
  have er : cm_I (cm_setI (cm_setI (cm_setI h r i (nI v)) 21 7 (-1)) (r + 37) i (nI v)) r i = nI v := by rw [sI_o (Or.inl (by omega)), sI_o (Or.inl (by omega)), sI_s]
  have er' : cm_I (cm_setI (cm_setI (cm_setI h r i (nI v)) 21 7 (-1)) (r + 37) i (nI v)) (r + 37) i = nI v := sI_s
  have e21 : cm_I (cm_setI (cm_setI (cm_setI h r i (nI v)) 21 7 (-1)) (r + 37) i (nI v)) 21 7 = -1 := by rw [sI_o (Or.inl (by omega)), sI_s]
  generalize (cm_setI (cm_setI (cm_setI h r i (nI v)) 21 7 (-1)) (r + 37) i (nI v)) = h1 at X o er er' e21 ⊢
  refine WLD.gr L S tp la cg rg fe X e21 (H.fr2 (g' := g) (st' := fun s => if r = 2 ∧ s = i then v else st s) X.e (fun a k q => ?_) (fun a k q => absurd q id) ⟨by rw [o 12 1 (by omega)]; exact H.2.1.2.1, H.2.1.2.2.1⟩ (fun s hs => ?_) (fun s hs => ?_) ⟨fun s hs => ?_, ?_⟩ id) hn hs
  · by_cases w : a = 21 ∧ k = 7
    · exact Or.inl (a1_217 w)
    · exact Or.inr (by omega)
  · obtain ⟨b1, b2, b3, b4⟩ := H.2.1.2.2.2.1 s hs
    by_cases y : r = 2 ∧ s = i
    · obtain ⟨rfl, rfl⟩ := y
      rw [er, o 13 s (by omega), if_pos ⟨rfl, rfl⟩]; exact ⟨b1, b2, rfl, hv⟩
    · rw [o 13 s (by omega), o 2 s (by omega), if_neg y]; exact ⟨b1, b2, b3, b4⟩
  · by_cases y : r = 4 ∧ s = i
    · obtain ⟨rfl, rfl⟩ := y
      have : cm_I h1 41 s = nI v := er'
      rw [this]; exact ⟨nI_pos' (by omega), nI_le (b := 1000) hv (by decide)⟩
    · rw [o 41 s (by omega)]; exact H.2.2.2.1.2.2.2.2.2.2 s hs
  · obtain ⟨z1, z2, z3, z4⟩ := H.2.2.2.2.2.2.1.1 s hs
    have pair : ∀ a b, b = a + 37 → (a = 2 ∨ a = 3 ∨ a = 4) → cm_I h b s = cm_I h a s → cm_I h1 b s = cm_I h1 a s := fun a b e ha z => by
      by_cases y : r = a ∧ s = i
      · obtain ⟨rfl, rfl⟩ := y
        rw [e, er, er']
      · rw [o a s (by omega), o b s (by omega)]; exact z
    refine ⟨pair 2 39 rfl (by omega) z1, pair 3 40 rfl (by omega) z2, pair 4 41 rfl (by omega) z3, ?_⟩
    rw [o 67 s (by omega), o 13 s (by omega)]; exact z4
  · rw [o 38 48 (by omega), o 12 1 (by omega)]; exact H.2.2.2.2.2.2.1.2
end WSET
