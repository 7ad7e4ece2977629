/-! ===== the calls that leave the house as it is ===== -/
section SCR
variable {sc : cmS} {d j : Nat} {h h' : cmH} {x1 x2 x3 x4 x5 x6 x7 x8 : Int32} {P R : Nat → Nat → Prop} {F Rn Q T NL n Re : Nat} {fa C g st pr lc ta nn Tp : Nat → Nat} {cc Tt : Nat → Nat → Nat} {cls : Nat → List CL} {ro : Nat → Option Nat}
/-- places that neither tape, costs, gauges, layers nor the order found lean on -/
def A2 (NL : Nat) (lc : Nat → Nat) (a k : Nat) : Prop := ¬ ((a = 6 ∧ k = 1) ∨ (a = 38 ∧ k = 29) ∨ a = 7 ∨ a = 61) ∧ ¬ ((a = 30 ∧ k = 2) ∨ (a = 38 ∧ k = 57) ∨ a = 31 ∨ a = 81) ∧ ¬ ((a = 33 ∧ k = 4) ∨ (a = 38 ∧ k = 62) ∨ (34 ≤ a ∧ a ≤ 37) ∨ (83 ≤ a ∧ a ≤ 86)) ∧ ¬ ((a = 21 ∧ k = 5) ∨ (a = 38 ∧ k = 53) ∨ (a = 26 ∧ (k = 3 ∨ k = 4)) ∨ (a = 49 ∧ k = 8) ∨ a = 77 ∨ a = 78 ∨ a = 22 ∨ a = 23) ∧ ¬ ((a = 21 ∧ (k = 6 ∨ k = 7)) ∨ a = 22 ∨ a = 23 ∨ a = 25) ∧ ∀ c, c < NL → ¬ (a = lc c ∧ k = 5)
theorem WLD.scr (H : HS h F Rn C fa cc ta nn Tt cls ro Q T g st pr) (tp : TP h n Tp) (la : LA h F C fa cc NL lc) (oc : OCh h NL Q st g) (cg : CG4 h) (rg : RG h Re) (fe : FRE h F C) (x : EX h h' P R) (p1 : ∀ a k, P a k → A1 h F C fa cc a k) (p2 : ∀ a k, P a k → A2 NL lc a k) (r : ∀ a k, R a k → a = 9 ∧ k = 1) (hn : cm_n h' ≤ 88 + 4 * (j + 1)) (hs : cm_sl h' ≤ 110333 + 170 * (j + 1)) : WLD (j + 1) h' := by
  have L := H.1.1
  have S := H.1.2.2.2.1
  have c1 := H.fr x p1 (fun a k w => Or.inl (r a k w))
  have c2 := tp.fr L x (fun k => ⟨fun w => (p2 _ _ w).1 (Or.inl ⟨rfl, rfl⟩), fun w => (p2 _ _ w).1 (Or.inr (Or.inl ⟨rfl, rfl⟩)), fun w => (p2 _ _ w).1 (Or.inr (Or.inr (Or.inl rfl))), fun w => (p2 _ _ w).1 (Or.inr (Or.inr (Or.inr rfl)))⟩)
  have c3 := la.fr L S x (fun a k q w => (p2 _ _ w).2.2.2.1 q) (fun c hc w => (p2 _ _ w).2.2.2.2.2 c hc ⟨rfl, rfl⟩) (fun a k w => Or.inl (r a k w))
  have c4 := oc.fr L x (fun a k q w => (p2 _ _ w).2.2.2.2.1 q)
  have c5 := cg.fr L x (fun k => ⟨fun w => (p2 _ _ w).2.1 (Or.inl ⟨rfl, rfl⟩), fun w => (p2 _ _ w).2.1 (Or.inr (Or.inl ⟨rfl, rfl⟩)), fun w => (p2 _ _ w).2.1 (Or.inr (Or.inr (Or.inl rfl))), fun w => (p2 _ _ w).2.1 (Or.inr (Or.inr (Or.inr rfl)))⟩)
  have c6 := rg.fr L x (fun a k q w => (p2 _ _ w).2.2.1 q)
  exact ⟨F, Rn, Q, T, NL, n, Re, C, fa, g, st, pr, lc, ta, nn, Tp, cc, Tt, cls, ro, c1, c2, c3, c4, c5, c6, hn, hs, fe.fr L x (fun a k q => a1_fp (p1 a k q))⟩
theorem XR.e (x : XR h h') : EX h h' (fun a _ => a = 9) (fun a k => a = 9 ∧ k = 1) := ⟨by rw [x.nn]; exact Nat.le_refl _, fun a _ => ⟨by rw [x.kd], by rw [x.ln], fun k q => x.2.1 a k (fun w => q w.1), fun k q => x.2.2.2 a k q⟩⟩
theorem XI.e (x : XI h h' P) : EX h h' P (fun _ _ => False) := ⟨by rw [x.1]; exact Nat.le_refl _, fun a _ => ⟨by rw [x.1]; rfl, by rw [x.1]; rfl, fun k q => x.2 a k q, fun k _ => by rw [x.R]⟩⟩
theorem XI.ns (x : XI h h' P) : cm_n h' = cm_n h ∧ cm_sl h' = cm_sl h := by rw [x.1]; exact ⟨rfl, rfl⟩
theorem lc88 (la : LA h F C fa cc NL lc) {c : Nat} (hc : c < NL) : 88 ≤ lc c := (la.2.2.2.2.1.2.1 c hc).1
/-- a scratch place below 88 -/
theorem a2_lo {a k : Nat} (la : LA h F C fa cc NL lc) (h1 : a < 88) (q1 : ¬ ((a = 6 ∧ k = 1) ∨ (a = 38 ∧ k = 29) ∨ a = 7 ∨ a = 61)) (q2 : ¬ ((a = 30 ∧ k = 2) ∨ (a = 38 ∧ k = 57) ∨ a = 31 ∨ a = 81)) (q3 : ¬ ((a = 33 ∧ k = 4) ∨ (a = 38 ∧ k = 62) ∨ (34 ≤ a ∧ a ≤ 37) ∨ (83 ≤ a ∧ a ≤ 86))) (q4 : ¬ ((a = 21 ∧ k = 5) ∨ (a = 38 ∧ k = 53) ∨ (a = 26 ∧ (k = 3 ∨ k = 4)) ∨ (a = 49 ∧ k = 8) ∨ a = 77 ∨ a = 78 ∨ a = 22 ∨ a = 23)) (q5 : ¬ ((a = 21 ∧ (k = 6 ∨ k = 7)) ∨ a = 22 ∨ a = 23 ∨ a = 25)) : A2 NL lc a k := ⟨q1, q2, q3, q4, q5, fun c hc w => by have := lc88 la hc; omega⟩
/-- reader, letters, the reference's reading -/
theorem scr_1 {a k : Nat} (la : LA h F C fa cc NL lc) (q : a = 9 ∨ a = 10 ∨ (a = 38 ∧ ((30 ≤ k ∧ k ≤ 33) ∨ k = 1 ∨ k = 37)) ∨ a = 62 ∨ a = 65 ∨ a = 66) : A1 h F C fa cc a k ∧ A2 NL lc a k := by
  have h1 : A1 h F C fa cc a k := by
    rcases q with q | q | q | q | q | q
    · exact Or.inl q
    · exact Or.inr (Or.inl q)
    · exact Or.inr (Or.inr (Or.inr (Or.inr (Or.inr (Or.inl ⟨q.1, by omega, by omega, by omega, by omega⟩)))))
    · unfold A1; simp only [q, true_or, or_true]
    · unfold A1; simp only [q, true_or, or_true]
    · unfold A1; simp only [q, true_or, or_true]
  exact ⟨h1, a2_lo la (by omega) (by omega) (by omega) (by omega) (by omega) (by omega)⟩
theorem scr_2 {a k : Nat} (la : LA h F C fa cc NL lc) (q : (a = 33 ∧ (k = 5 ∨ k = 6)) ∨ (a = 30 ∧ (k = 3 ∨ k = 4)) ∨ a = 32) : A1 h F C fa cc a k ∧ A2 NL lc a k :=
  ⟨Or.inr (Or.inr (Or.inr (Or.inr (Or.inl ⟨by omega, by omega⟩)))), a2_lo la (by omega) (by omega) (by omega) (by omega) (by omega) (by omega)⟩
theorem w_fault (W : WLD j h) : STi sc (d + 200) (d + 201) 38 157 [.ref 0] [.ref 38] j h := by
  obtain ⟨F, Rn, Q, T, NL, n, Re, C, fa, g, st, pr, lc, ta, nn, Tp, cc, Tt, cls, ro, H, tp, la, oc, cg, rg, hn, hs, fe⟩ := W
  have L := H.1.1
  refine c_fault (N := 3000) (Nat.le_refl _) (by omega) L (tp.txt L) (fun h1 X1 => ?_)
  have L1 := X1.ly L
  have tp1 : TP h1 n Tp := tp.fr L X1.e (fun k => ⟨by decide, by decide, by decide, by decide⟩)
  refine ⟨L1, m_fault (N := 3000) (Nat.le_refl _) (by omega) (tp1.rm L1) (fun h2 X2 _ _ => ⟨rfl, ?_⟩)⟩
  have x : EX h h2 (fun a k => a = 9 ∨ (a = 38 ∧ 30 ≤ k ∧ k ≤ 33) ∨ a = 62) (fun a k => a = 9 ∧ k = 1) := (X1.e.mono (fun _ _ q => Or.inl q) (fun _ _ q => q)).trans (X2.e.mono (fun a k q => by unfold P_m at q; omega) (fun _ _ q => absurd q id))
  refine WLD.scr H tp la oc cg rg fe x (fun a k q => (scr_1 la (by omega)).1) (fun a k q => (scr_1 la (by omega)).2) (fun a k q => q) ?_ ?_
  · rw [X2.ns.1, X1.ns.1]; omega
  · rw [X2.ns.2, X1.ns.2]; omega
theorem w_back (W : WLD j h) : STi sc (d + 200) (d + 201) 117 216 [.ref 0, .int x1, .int x2, .int x3, .int x4] [.ref 38, .int x1, .int x2, .int x3, .int x4] j h := by
  have Wu := W.up
  obtain ⟨F, Rn, Q, T, NL, n, Re, C, fa, g, st, pr, lc, ta, nn, Tp, cc, Tt, cls, ro, H, tp, la, oc, cg, rg, hn, hs, fe⟩ := W
  have MF' := H.mf
  obtain ⟨⟨L, G, GC, S, -⟩, B, hT, M, Z⟩ := id H
  have h8 := G.2.1
  have h0 : cm_I h 38 0 = nI T := Z.2.2.2.trans B.1
  have hV : VPT F C (fun f c => (cm_I h (cc f c) 4).toNatClampNeg) (fun f c => (cm_I h (cc f c) 5).toNatClampNeg) (fun f c => cm_I h (cc f c) 4) (fun f c => cm_I h (cc f c) 5) := fun f c hf hc => by
    obtain ⟨⟨p, e4, p1, p2⟩, -, ⟨t, e5, t1, t2⟩, -⟩ := (Z.1 f hf).2.1.2.2.2 c hc
    dsimp only
    rw [e4, e5, nI_clamp (by omega), nI_clamp (by omega)]
    exact ⟨rfl, rfl, p2, t1, t2⟩
  have hV' : VPT F C (fun f c => (cm_I h (cc f c) 4).toNatClampNeg) (fun f c => (cm_I h (cc f c) 5).toNatClampNeg) (fun f c => cm_I h 43 (10 * f + c)) (fun f c => cm_I h 45 (10 * f + c)) := fun f c hf hc => by
    have V := (Z.1 f hf).1.2.1 c hc
    have := hV f c hf hc
    dsimp only at this ⊢
    rw [V.1, V.2.2.1]; exact this
  refine c_back L G GC hV (fun f c hf hc => by have := (S.2.2.1 f c hf hc).1; omega) B.1 rg.1 rg.2.2.1 (fun f c hf hc e1 e2 gb r lo hi q0 q1 => ?_) (fun q => ⟨L, m_back L MF' hV' h0 rg.2.1 rg.2.2.1 (fun f c hf hc e1 e2 gb => absurd gb (q f c hf hc e1 e2)) (fun _ => ⟨rfl, Wu⟩)⟩)
  have X1 : XI h (q_lh h lo hi) (fun a k => a = 33 ∧ (k = 5 ∨ k = 6)) := (XI.refl.set ⟨rfl, Or.inl rfl⟩).set ⟨rfl, Or.inr rfl⟩
  have o : ∀ a k, a ≠ 33 → cm_I (q_lh h lo hi) a k = cm_I h a k := fun a k q => X1.2 a k (by omega)
  have W1 : WLD (j + 1) (q_lh h lo hi) := WLD.scr H tp la oc cg rg fe (X1.e.mono (fun _ _ q => q) (fun _ _ q => absurd q id)) (fun a k q => (scr_2 la (Or.inl q)).1) (fun a k q => (scr_2 la (Or.inl q)).2) (fun a k q => q) (by rw [X1.ns.1]; omega) (by rw [X1.ns.2]; omega)
  refine ⟨X1.ly L, m_back (X1.ly L) (F := F) (C := C) (T := T) (R := Re) (P := fun f c => (cm_I h (cc f c) 4).toNatClampNeg) (Tk := fun f c => (cm_I h (cc f c) 5).toNatClampNeg) ?_ (fun f c hf hc => by have := hV' f c hf hc; dsimp only at this ⊢; rw [o 43 _ (by decide), o 45 _ (by decide)]; exact this) (by rw [o 38 0 (by decide)]; exact h0) (by rw [o 38 62 (by decide)]; exact rg.2.1) rg.2.2.1 (fun f' c' hf' hc' e1' e2' gb' r' q0' q1' => ⟨?_, W1⟩) (fun q => absurd gb (q f c hf hc e1 e2))⟩
  · refine ⟨by rw [o 38 24 (by decide)]; exact MF'.1, MF'.2.1, fun f hf => ?_⟩
    rw [o 42 f (by decide)]
    exact ⟨(MF'.2.2 f hf).1, (MF'.2.2 f hf).2.1, fun c hc => by rw [o 45 _ (by decide)]; exact (MF'.2.2 f hf).2.2 c hc⟩
  · obtain rfl : f' = f := nI_inj (by omega) (by omega) (e1'.symm.trans e1)
    have h10 := (GC f' hf).2.2.1
    obtain rfl : c' = c := nI_inj (by omega) (by omega) (e2'.symm.trans e2)
    have eq : ∀ m, q_bk (cm_I (q_lh h lo hi) 83) (cm_I (q_lh h lo hi) 84) (cm_I (q_lh h lo hi) 85) (cm_I (q_lh h lo hi) 86) (10 * f' + c') x3 Re ((cm_I h (cc f' c') 4).toNatClampNeg) ((cm_I h (cc f' c') 5).toNatClampNeg) m ↔ q_bk (cm_I h 34) (cm_I h 35) (cm_I h 36) (cm_I h 37) (10 * f' + c') x3 Re ((cm_I h (cc f' c') 4).toNatClampNeg) ((cm_I h (cc f' c') 5).toNatClampNeg) m := fun m => by
      unfold q_bk q_ok
      constructor
      · intro w i hi
        have := w i hi
        rw [o 83 i (by decide), o 84 i (by decide), o 85 i (by decide), o 86 i (by decide), (rg.2.2.2 i hi).1, (rg.2.2.2 i hi).2.1, (rg.2.2.2 i hi).2.2.1, (rg.2.2.2 i hi).2.2.2] at this
        exact this
      · intro w i hi
        rw [o 83 i (by decide), o 84 i (by decide), o 85 i (by decide), o 86 i (by decide), (rg.2.2.2 i hi).1, (rg.2.2.2 i hi).2.1, (rg.2.2.2 i hi).2.2.1, (rg.2.2.2 i hi).2.2.2]
        exact w i hi
    by_cases z : x4 = 0
    · exact q_least_uniq (fun m _ => eq m) (q0' z) (q0 z)
    · exact q_great_uniq (fun m _ => eq m) (q1' z) (q1 z)
theorem tape_1 {a k : Nat} (q : a = 7 ∨ (a = 6 ∧ k = 1) ∨ a = 61 ∨ (a = 38 ∧ k = 29)) : A1 h F C fa cc a k := by
  rcases q with q | q | q | q
  · exact Or.inr (Or.inr (Or.inr (Or.inl q)))
  · exact Or.inr (Or.inr (Or.inl q.1))
  · unfold A1; simp only [q, true_or, or_true]
  · exact Or.inr (Or.inr (Or.inr (Or.inr (Or.inr (Or.inl ⟨q.1, by omega, by omega, by omega, by omega⟩)))))
theorem w_end (W : WLD j h) : STi sc (d + 200) (d + 201) 37 156 [.ref 0, .int x1] [.ref 38, .int x1] j h := by
  have Wu := W.up
  obtain ⟨F, Rn, Q, T, NL, n, Re, C, fa, g, st, pr, lc, ta, nn, Tp, cc, Tt, cls, ro, H, tp, la, oc, cg, rg, hn, hs, fe⟩ := W
  have L := H.1.1
  have S := H.1.2.2.2.1
  refine c_end L (fun q => ⟨L.s, m_end L.s (fun q2 => ⟨rfl, ?_⟩) (fun q2 => absurd ?_ q2)⟩) (fun q => ⟨L, m_end L (fun q2 => absurd (by rw [tp.1, ← tp.2.1]; exact q2) q) (fun _ => ⟨rfl, Wu⟩)⟩)
  · rw [tp.1] at q
    obtain ⟨i, -, hi, ei⟩ := (in_nI 0 n rfl rfl (by have := tp.2.2.1; omega) (by decide)).mp q
    subst ei
    have X : XI h (cm_setI (cm_setI h 6 1 (nI i)) 38 29 (nI i)) (fun a k => (a = 6 ∧ k = 1) ∨ (a = 38 ∧ k = 29)) := (XI.refl.set (Or.inl ⟨rfl, rfl⟩)).set (Or.inr ⟨rfl, rfl⟩)
    have x := X.e
    refine ⟨F, Rn, Q, T, NL, i, Re, C, fa, g, st, pr, lc, ta, nn, Tp, cc, Tt, cls, ro, H.fr x (fun a k q => tape_1 (by omega)) (fun a k q => absurd q id), ⟨by rw [sI_o (Or.inl (by decide)), sI_s], by rw [sI_s], by have := tp.2.2.1; omega, fun k hk => ?_⟩, la.fr L S x (fun a k q => by omega) (fun c hc => by have := lc88 la hc; omega) (fun a k q => absurd q id), oc.fr L x (fun a k q => by omega), cg.fr L x (fun k => by omega), rg.fr L x (fun a k q => by omega), by rw [X.ns.1]; omega, by rw [X.ns.2]; omega, fe.fr L x (fun a k q w => by unfold FP at w; omega)⟩
    rw [sI_o (Or.inl (by decide)), sI_o (Or.inl (by decide)), sI_o (Or.inl (by decide)), sI_o (Or.inl (by decide))]
    exact tp.2.2.2 k (by omega)
  · rw [sI_o (Or.inl (by decide)), tp.2.1, ← tp.1]; exact q
end SCR
