/-! ===== order, on both sides ===== -/
section ORDER
variable {sc : cmS} {d : Nat} {h : cmH} {K : Int32 → cmH → Prop} {N Q : Nat} {st g lc : Nat → Nat} {lp lt : Nat → Int32} {x1 x2 : Int32}
theorem in_m1 {x : Int32} (n : Nat) (hn : n < 2 ^ 31) : (-1 ≤ x ∧ x ≤ nI n - 1) ↔ x = -1 ∨ ∃ j, j < n ∧ x = nI j := by
  constructor
  · rintro ⟨h1, h2⟩
    by_cases z : 0 ≤ x
    · exact Or.inr ((in_lt n hn).mp ⟨z, h2⟩)
    · refine Or.inl (Int32.toInt_inj.mp ?_)
      rw [Int32.le_iff_toInt_le, show (-1 : Int32).toInt = -1 by decide] at h1
      have z := Int32.not_le.mp z
      rw [Int32.lt_iff_toInt_lt, i32_0] at z
      rw [show (-1 : Int32).toInt = -1 by decide]; omega
  · rintro (rfl | ⟨j, hj, rfl⟩)
    · refine ⟨Int32.le_refl _, ?_⟩
      cases n with
      | zero => decide
      | succ n =>
        rw [nI_pred, Int32.le_iff_toInt_le, nI_toInt (by omega), show (-1 : Int32).toInt = -1 by decide]; omega
    · refine ⟨?_, ((in_lt n hn).mpr ⟨j, hj, rfl⟩).2⟩
      rw [Int32.le_iff_toInt_le, nI_toInt (by omega), show (-1 : Int32).toInt = -1 by decide]; omega
def g_order (N Q m : Nat) (x1 x2 : Int32) : Prop := x1 = nI m ∧ m ≤ 1000000 ∧ (x2 = -1 ∨ ∃ j, j < N ∧ x2 = nI j) ∧ 1 ≤ N ∧ 1 ≤ Q
def q_ans (r : Nat × List Nat) (x2 : Int32) : Int32 := if x2 = -1 then nI r.1 - 1 else nI (fL r.2 x2.toNatClampNeg)
theorem scan_pos {H : List Nat → Nat} : ∀ (Ls : List (List Nat)) (s : Nat × List Nat), 0 < s.1 → 0 < (scan H Ls s).1
  | [], _, q => q
  | p :: r, s, q => by
    unfold scan
    refine scan_pos r _ ?_
    split
    · exact Nat.succ_pos _
    · exact q
theorem oRes_pos {m : Nat} (h1 : 1 ≤ N) (h6 : N ≤ 6) : 0 < (oRes N Q m lp lt st g).1 := by
  obtain ⟨-, -, -, e⟩ := chk_N h1 h6
  unfold oRes
  cases hc : cmpl N N [] with
  | nil => rw [hc] at e; cases e
  | cons p r =>
    unfold scan
    refine scan_pos r _ ?_
    rw [if_pos (Nat.succ_pos _)]; exact Nat.succ_pos _
theorem c_order (L : LY h) (hN : cm_I h 21 5 = nI N) (h6 : N ≤ 6) (hq : cm_I h 12 1 = nI Q) (hQ : Q ≤ 1000) (y : ∀ m, g_order N Q m x1 x2 → AS h N Q lc st g ∧ (∀ i, cm_I h 22 i = lp i) ∧ (∀ i, cm_I h 23 i = lt i) ∧ (∀ i, i < N → 1 ≤ lt i) ∧ (cm_I h 21 7 = nI m → ORow h N (oRes N Q m lp lt st g)) ∧ ∀ h', XI h h' (OQ N lc) → AS h' N Q lc st g → cm_I h' 21 7 = nI m → ORow h' N (oRes N Q m lp lt st g) → K (q_ans (oRes N Q m lp lt st g) x2) h') (z : (∀ m, ¬ g_order N Q m x1 x2) → K (-1) h) : cm_ci sc (d + 8) 103 [.ref 0, .int x1, .int x2] h K := by
  refine ci_of rfl (s103_0 _ _ (c_inN 0 1000000 (fun m _ hm em => ?_) (fun q => s103_8 L _ _ _ ⟨fun _ => ai (z fun m w => q m (by omega) w.2.1 w.1), fun e => absurd rfl e⟩)))
  subst em
  refine s103_8 L _ _ _ ⟨fun e => absurd e (by decide), fun _ => ?_⟩
  rw [hN]
  have un : ∀ m', nI m = nI m' → m' ≤ 1000000 → m' = m := fun m' e h => (nI_inj (by omega) (by omega) e).symm
  refine c_in (fun q => s103_25 L _ _ _ ⟨fun e => absurd e (by decide), fun _ => ?_⟩) (fun q => s103_25 L _ _ _ ⟨fun _ => ai (z fun m' w => q ((in_m1 N (by omega)).mpr w.2.2.1)), fun e => absurd rfl e⟩)
  rw [hN, hq]
  have q := (in_m1 N (by omega)).mp q
  refine ⟨fun w => ai (z fun m' v => absurd w (Int32.not_lt.mpr (nI_le (a := 1) v.2.2.2.1 (by omega)))), fun w => ⟨fun w2 => ?_, fun w2 => ai (z fun m' v => w2 (nI_le (a := 1) v.2.2.2.2 (by omega)))⟩⟩
  have n1 : 1 ≤ N := by
    rcases Nat.eq_zero_or_pos N with v | v
    · exact absurd (by rw [v]; decide) w
    · exact v
  have q1 : 1 ≤ Q := by
    rcases Nat.eq_zero_or_pos Q with v | v
    · exact absurd w2 (by rw [v]; decide)
    · exact v
  obtain ⟨A, b1, b2, b3, b4, k⟩ := y m ⟨rfl, hm, q, n1, q1⟩
  refine c_findOrder hm A b1 b2 b3 b4 (fun h' X' A' e' O' => s103_68 A'.1 _ _ ⟨fun v => ?_, fun v => ai ?_⟩)
  · obtain ⟨j, hj, ej⟩ := q.resolve_left v
    subst ej
    rw [nI_clamp (by omega)]
    refine ⟨ix_nI (by omega) (by decide), ai ?_⟩
    have := k h' X' A' e' O'
    unfold q_ans at this
    rw [if_neg v, nI_clamp (by omega)] at this
    rw [O'.2 (oRes_pos n1 h6) j hj]; exact this
  · have := k h' X' A' e' O'
    unfold q_ans at this
    rw [if_pos (Decidable.not_not.mp v)] at this
    rw [O'.1]; exact this
theorem m_order (L : LY h) (hN : cm_I h 38 53 = nI N) (h6 : N ≤ 6) (hq : cm_I h 38 48 = nI Q) (hQ : Q ≤ 1000) (y : ∀ m, g_order N Q m x1 x2 → MB h N Q lp lt st g ∧ ∀ h', XI h h' OZ → K (q_ans (oRes N Q m lp lt st g) x2) h') (z : (∀ m, ¬ g_order N Q m x1 x2) → K (-1) h) : cm_ci sc (d + 13) 209 [.ref 38, .int x1, .int x2] h K := by
  refine ci_of rfl (s209_0 _ _ (m_inN 0 1000000 (fun m _ hm em => ?_) (fun q => s209_8 L _ _ _ ⟨fun _ => ai (z fun m w => q m (by omega) w.2.1 w.1), fun e => absurd rfl e⟩)))
  subst em
  refine s209_8 L _ _ _ ⟨fun e => absurd e (by decide), fun _ => ?_⟩
  rw [hN]
  refine m_in (fun q => s209_22 L _ _ _ ⟨fun e => absurd e (by decide), fun _ => ?_⟩) (fun q => s209_22 L _ _ _ ⟨fun _ => ai (z fun m' w => q ((in_m1 N (by omega)).mpr w.2.2.1)), fun e => absurd rfl e⟩)
  rw [hN, hq]
  have q := (in_m1 N (by omega)).mp q
  refine ⟨fun w => ai (z fun m' v => ?_), fun w => ⟨fun w2 => ?_, fun w2 => ai (z fun m' v => ?_)⟩⟩
  · have := nI_inj (a := N) (b := 0) (by omega) (by decide) w
    have := v.2.2.2.1
    omega
  · have n1 : 1 ≤ N := by
      rcases Nat.eq_zero_or_pos N with v | v
      · exact absurd (by rw [v]; rfl) w
      · exact v
    have q1 : 1 ≤ Q := by
      rcases Nat.eq_zero_or_pos Q with v | v
      · exact absurd (by rw [v]; rfl) w2
      · exact v
    obtain ⟨A, k⟩ := y m ⟨rfl, hm, q, n1, q1⟩
    have X0 : XI h (cm_setI h 38 54 (-1)) OZ := XI.refl.set (Or.inr (Or.inr (Or.inr ⟨rfl, rfl⟩)))
    refine m_arrange (N := N) (Q := Q) (lp := lp) (lt := lt) (st := st) (g := g) hm N [] (0, []) (cm_setI h 38 54 (-1)) 0 (d + 12) _ (Nat.zero_add N) (by omega) (A.x X0) (fun i hi => absurd hi (by show ¬ i < 0; omega)) (fun l hl => ?_) (by decide) ⟨by rw [sI_s]; decide, fun w => absurd w (by decide)⟩ (fun h' X' r' O' => ?_)
    · rw [b_0]; exact ⟨fun e => absurd e (by decide), fun e => absurd e List.not_mem_nil⟩
    · have XX := X0.trans X'
      have kk := k h' XX
      have O' : MRow h' N (oRes N Q m lp lt st g) := O'
      refine s209_53 (XX.ly L) _ _ ⟨fun v => ?_, fun v => ai ?_⟩
      · obtain ⟨j, hj, ej⟩ := q.resolve_left v
        subst ej
        rw [nI_clamp (by omega)]
        refine ⟨ix_nI (by omega) (by decide), ai ?_⟩
        unfold q_ans at kk
        rw [if_neg v, nI_clamp (by omega)] at kk
        rw [O'.2 (oRes_pos n1 h6) j hj]; exact kk
      · unfold q_ans at kk
        rw [if_pos (Decidable.not_not.mp v)] at kk
        rw [O'.1]; exact kk
  · have := nI_inj (a := Q) (b := 0) (by omega) (by decide) (Decidable.not_not.mp w2)
    have := v.2.2.2.2
    omega
end ORDER
