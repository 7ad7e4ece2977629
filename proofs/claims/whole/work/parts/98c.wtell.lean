/-! ===== set, rule, hand (1, 2) in the world ===== -/
section WTELL
variable {sc : cmS} {d j : Nat} {h h' : cmH} {x1 x2 x3 : Int32} {F Rn Q T NL n Re : Nat} {fa C g st pr lc ta nn Tp : Nat → Nat} {cc Tt : Nat → Nat → Nat} {cls : Nat → List CL} {ro : Nat → Option Nat}
/-- a field and its place told anew: the world -/
theorem WLD.pair {f k b : Nat} {v : Int32} (H : HS h F Rn C fa cc ta nn Tt cls ro Q T g st pr) (tp : TP h n Tp) (la : LA h F C fa cc NL lc) (oc : OCh h NL Q st g) (cg : CG4 h) (rg : RG h Re) (fe : FRE h F C) (hn : cm_n h ≤ 88 + 4 * j) (hs : cm_sl h ≤ 110333 + 170 * j) (hf : f < F) (kb : (k, b) ∈ vfl) (hk : 4 ≤ k ∧ k ≤ 8) (c4 : k = 4 → ∃ p, v = nI p ∧ 1 ≤ p ∧ p ≤ 1000) (c7 : k = 7 → ∃ o : Option Nat, v = wI o ∧ ∀ i, o = some i → i < Rn) (c8 : k = 8 → v ≠ 1 ∧ v ≠ 2) : WLD (j + 1) (cm_setI (cm_setI h (fa f) k v) b f v) := by
  have L := H.1.1
  have S := H.1.2.2.2.1
  have h88 := S.1 f hf
  have h8 := H.1.2.1.2.1
  have bb : 49 ≤ b ∧ b ≤ 55 := by
    unfold vfl at kb
    simp only [List.mem_cons, Prod.mk.injEq, List.not_mem_nil, or_false] at kb
    omega
  have X : XI h (cm_setI (cm_setI h (fa f) k v) b f v) (fun x i => (x = fa f ∧ i = k) ∨ (x = b ∧ i = f)) := (XI.refl.set (Or.inl ⟨rfl, rfl⟩)).set (Or.inr ⟨rfl, rfl⟩)
  obtain ⟨ro', pr', c1⟩ := H.pair hf kb hk c4 c7 c8 X (by rw [sI_o (Or.inl (by omega)), sI_s]) sI_s
  have x := X.e
  have c2 := tp.fr L x (fun i => by omega)
  have c3 := la.fr L S x (fun a i q => by omega) (fun c hc w => by
    have h1 := lc88 la hc
    rcases w with w | w
    · exact la.2.2.2.2.2.1 c (lc c) f hc (Nat.le_refl _) (by omega) hf (by rw [w.1]; exact own_a 0 (by decide))
    · omega) (fun a k q => absurd q id)
  have c4 := oc.fr L x (fun a i q => by omega)
  have c5 := cg.fr L x (fun i => by omega)
  have c6 := rg.fr L x (fun a i q => by omega)
  exact ⟨F, Rn, Q, T, NL, n, Re, C, fa, g, st, pr', lc, ta, nn, Tp, cc, Tt, cls, ro', c1, c2, c3, c4, c5, c6, by rw [X.ns.1]; omega, by rw [X.ns.2]; omega, fe.fr L x (fun a i q w => by unfold FP at w; omega)⟩
theorem w_set (W : WLD j h) : STi sc (d + 200) (d + 201) 20 141 [.ref 0, .int x1, .int x2, .int x3] [.ref 38, .int x1, .int x2, .int x3] j h := by
  have Wu := W.up
  obtain ⟨F, Rn, Q, T, NL, n, Re, C, fa, g, st, pr, lc, ta, nn, Tp, cc, Tt, cls, ro, H, tp, la, oc, cg, rg, hn, hs, fe⟩ := W
  have MF' := H.mf
  obtain ⟨⟨L, G, GC, S, -⟩, -⟩ := id H
  have h8 := G.2.1
  refine c_set L G (fun f hf => (GC f hf).1) (fun f hf e1 gs => ?_) (fun q => ⟨L, m_set L MF' (fun f hf e1 gs => absurd gs (q f hf e1)) (fun _ => ⟨rfl, Wu⟩)⟩)
  have h88 := S.1 f hf
  have MF1 : MF (cm_I (cm_setI h (fa f) (q_row 4 x2) x3)) F C := by
    have o : ∀ a k, a < 88 → cm_I (cm_setI h (fa f) (q_row 4 x2) x3) a k = cm_I h a k := fun a k q => sI_o (Or.inl (by omega))
    refine ⟨by rw [o 38 24 (by decide)]; exact MF'.1, MF'.2.1, fun f hf => ?_⟩
    rw [o 42 f (by decide)]
    exact ⟨(MF'.2.2 f hf).1, (MF'.2.2 f hf).2.1, fun c hc => by rw [o 45 _ (by decide)]; exact (MF'.2.2 f hf).2.2 c hc⟩
  refine ⟨L.s, m_set L.s MF1 (fun f' hf' e1' _ => ⟨rfl, ?_⟩) (fun q => absurd gs (q f hf e1))⟩
  obtain rfl : f' = f := nI_inj (by omega) (by omega) (e1'.symm.trans e1)
  have key : ∃ k b, q_row 4 x2 = k ∧ q_row 49 x2 = b ∧ (k, b) ∈ vfl ∧ (4 ≤ k ∧ k ≤ 6) := by
    unfold q_row
    split
    · exact ⟨4, 49, rfl, rfl, by decide, by decide⟩
    · split
      · exact ⟨5, 50, rfl, rfl, by decide, by decide⟩
      · exact ⟨6, 51, rfl, rfl, by decide, by decide⟩
  obtain ⟨k, b, ek, eb, kb, hk⟩ := key
  rw [ek, eb]
  refine WLD.pair H tp la oc cg rg fe hn hs hf kb ⟨hk.1, by omega⟩ (fun e => ?_) (fun e => by omega) (fun e => by omega)
  have hx : x3 ≤ 1000 := by
    have := gs.2.2
    split at this
    · exact Int32.le_trans this (by decide)
    · exact this
  obtain ⟨p, p1, p2, ep⟩ := (in_nI (x := x3) 1 1000 rfl rfl (by decide) (by decide)).mp ⟨gs.2.1, hx⟩
  exact ⟨p, ep, p1, p2⟩
theorem w_rule (W : WLD j h) : STi sc (d + 200) (d + 201) 57 177 [.ref 0, .int x1, .int x2] [.ref 38, .int x1, .int x2] j h := by
  have Wu := W.up
  obtain ⟨F, Rn, Q, T, NL, n, Re, C, fa, g, st, pr, lc, ta, nn, Tp, cc, Tt, cls, ro, H, tp, la, oc, cg, rg, hn, hs, fe⟩ := W
  have MF' := H.mf
  obtain ⟨⟨L, G, GC, S, CT, -⟩, -, -, M, -⟩ := id H
  have h8 := G.2.1
  have e34 : cm_I h 38 34 = cm_I h 0 11 := M.2.2.2.2.1.1.trans CT.1.symm
  refine c_rule L G (fun f hf => (GC f hf).1) (fun f hf e1 gs => ?_) (fun q => ⟨L, m_rule L MF' (fun f hf e1 gs => absurd (by rw [e34] at gs; exact gs) (q f hf e1)) (fun _ => ⟨rfl, Wu⟩)⟩)
  have h88 := S.1 f hf
  have o : ∀ a k, a < 88 → cm_I (cm_setI h (fa f) 7 x2) a k = cm_I h a k := fun a k q => sI_o (Or.inl (by omega))
  have MF1 : MF (cm_I (cm_setI h (fa f) 7 x2)) F C := by
    refine ⟨by rw [o 38 24 (by decide)]; exact MF'.1, MF'.2.1, fun f hf => ?_⟩
    rw [o 42 f (by decide)]
    exact ⟨(MF'.2.2 f hf).1, (MF'.2.2 f hf).2.1, fun c hc => by rw [o 45 _ (by decide)]; exact (MF'.2.2 f hf).2.2 c hc⟩
  refine ⟨L.s, m_rule L.s MF1 (fun f' hf' e1' _ => ⟨rfl, ?_⟩) (fun q => absurd (by rw [o 38 34 (by decide), e34]; exact gs) (q f hf e1))⟩
  obtain rfl : f' = f := nI_inj (by omega) (by omega) (e1'.symm.trans e1)
  refine WLD.pair H tp la oc cg rg fe hn hs hf (by decide : (7, 55) ∈ vfl) (by decide) (fun e => by omega) (fun _ => ?_) (fun e => by omega)
  rw [CT.1] at gs
  rcases (in_m1 Rn (by have := CT.2.1; omega)).mp gs with e | ⟨i, hi, e⟩
  · exact ⟨none, e, fun i w => by cases w⟩
  · exact ⟨some i, e, fun i' w => by cases w; exact hi⟩
end WTELL
