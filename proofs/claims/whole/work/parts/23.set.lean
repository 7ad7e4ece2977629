/-! ===== the small setters and readers, of the class (c_) and of the reference (m_) ===== -/
theorem in07 {x : Int32} (q : 0 ≤ x ∧ x ≤ 7) : IX 8 x := by
  obtain ⟨j, -, h2, rfl⟩ := (in_nI 0 7 rfl rfl (by decide) (by decide)).mp q
  exact ix_nI (by omega) (by decide)
section SET
variable {sc : cmS} {d : Nat} {h : cmH} {K : Int32 → cmH → Prop} {KV : cmH → Prop}
theorem c_size {x : Int32} (t : 0 ≤ x ∧ x ≤ 7 → K 1 h) (f : ¬ (0 ≤ x ∧ x ≤ 7) → K 0 h) : cm_ci sc d 12 [.int x] h K :=
  c_isSize (fun j hj e => t (by subst e; exact ⟨nI_pos' (by omega), nI_le (b := 7) (by omega) (by decide)⟩)) (fun q => f fun w => by
    obtain ⟨j, -, h2, h3⟩ := (in_nI 0 7 rfl rfl (by decide) (by decide)).mp w
    exact q j (by omega) h3)
theorem c_forget (L : LY h) (k : KV (cm_setI h 21 7 (-1))) : cm_cv sc d 14 [.ref 21] h KV := cv_of rfl (s14_0 L ⟨rfl, k⟩)
/-- which row: stick, off, stay -/
def q_row (a : Nat) (w : Int32) : Nat := if w = 0 then a else if w = 1 then a + 1 else a + 2
def g_grain (x1 x2 x3 : Int32) : Prop := (0 ≤ x1 ∧ x1 ≤ 7) ∧ (0 ≤ x2 ∧ x2 ≤ 2) ∧ (0 ≤ x3 ∧ x3 ≤ 1000)
theorem m_grain {x1 x2 x3 : Int32} (L : LY h) (t : g_grain x1 x2 x3 → K 1 (cm_setI h (q_row 39 x2) x1.toNatClampNeg x3)) (f : ¬ g_grain x1 x2 x3 → K 0 h) : cm_ci sc (d + 1) 136 [.ref 38, .int x1, .int x2, .int x3] h K := by
  refine ci_of rfl (s136_0 x1 x2 x3 (m_in (fun q1 => ?_) (fun q => s136_7 x1 x2 x3 0 (br_t rfl (ai (f fun g => q g.1))))))
  refine s136_7 x1 x2 x3 1 (br_f (by decide) (m_in (fun q2 => ?_) (fun q => s136_16 x1 x2 x3 0 (br_t rfl (ai (f fun g => q g.2.1))))))
  refine s136_16 x1 x2 x3 1 (br_f (by decide) (m_in (fun q3 => ?_) (fun q => s136_27 L x1 x2 x3 0 (br_f (by decide) (ai (f fun g => q g.2.2))))))
  have k := t ⟨q1, q2, q3⟩
  unfold q_row at k
  refine s136_27 L x1 x2 x3 1 (br_t (by decide) ⟨fun z => ⟨fun z2 => ⟨in07 q1, ai ?_⟩, fun z2 => ⟨in07 q1, ai ?_⟩⟩, fun z => ⟨in07 q1, ai ?_⟩⟩)
  · rw [if_neg z, if_neg z2] at k; exact k
  · rw [if_neg z, if_pos (Decidable.not_not.mp z2)] at k; exact k
  · rw [if_pos (Decidable.not_not.mp z)] at k; exact k
theorem c_grain {x1 x2 x3 : Int32} (L : LY h) (t : g_grain x1 x2 x3 → K 1 (cm_setI (cm_setI h (q_row 2 x2) x1.toNatClampNeg x3) 21 7 (-1))) (f : ¬ g_grain x1 x2 x3 → K 0 h) : cm_ci sc (d + 1) 11 [.ref 0, .int x1, .int x2, .int x3] h K := by
  refine ci_of rfl (s11_0 x1 x2 x3 _ (c_size (fun q1 => ?_) (fun q => s11_4 x1 x2 x3 _ 0 (br_t rfl (ai (f fun g => q g.1))))))
  refine s11_4 x1 x2 x3 _ 1 (br_f (by decide) (c_in (fun q2 => ?_) (fun q => s11_13 x1 x2 x3 _ 0 (br_t rfl (ai (f fun g => q g.2.1))))))
  refine s11_13 x1 x2 x3 _ 1 (br_f (by decide) (c_in (fun q3 => ?_) (fun q => s11_24 L x1 x2 x3 _ 0 (br_f (by decide) (ai (f fun g => q g.2.2))))))
  have k := t ⟨q1, q2, q3⟩
  unfold q_row at k
  refine s11_24 L x1 x2 x3 _ 1 (br_t (by decide) ⟨fun z => ⟨fun z2 => ?_, fun z2 => ?_⟩, fun z => ?_⟩)
  · rw [if_neg z, if_neg z2] at k
    exact s11_65 L x1 x2 x3 _ 4 ⟨ly_o L 4 rfl (in07 q1), c_forget L.s (s11_79 _ _ _ _ (ai k))⟩
  · rw [if_neg z, if_pos (Decidable.not_not.mp z2)] at k
    exact s11_65 L x1 x2 x3 _ 3 ⟨ly_o L 3 rfl (in07 q1), c_forget L.s (s11_79 _ _ _ _ (ai k))⟩
  · rw [if_pos (Decidable.not_not.mp z)] at k
    exact s11_65 L x1 x2 x3 _ 2 ⟨ly_o L 2 rfl (in07 q1), c_forget L.s (s11_79 _ _ _ _ (ai k))⟩
/-! stream, come -/
theorem m_stream {x : Int32} (L : LY h) (t : 1 ≤ x ∧ x ≤ 1000 → K 1 (cm_setI h 38 48 x)) (f : ¬ (1 ≤ x ∧ x ≤ 1000) → K 0 h) : cm_ci sc (d + 1) 183 [.ref 38, .int x] h K :=
  ci_of rfl (s183_0 x (m_in (fun q => s183_8 L x 1 (br_t (by decide) (ai (t q)))) (fun q => s183_8 L x 0 (br_f (by decide) (ai (f q))))))
theorem c_stream {x : Int32} (L : LY h) (t : 1 ≤ x ∧ x ≤ 1000 → K 1 (cm_setI (cm_setI h 12 1 x) 21 7 (-1))) (f : ¬ (1 ≤ x ∧ x ≤ 1000) → K 0 h) : cm_ci sc (d + 1) 58 [.ref 0, .int x] h K :=
  ci_of rfl (s58_0 x (c_in (fun q => s58_8 L x 1 (br_t (by decide) (c_forget L.s (s58_28 x (ai (t q)))))) (fun q => s58_8 L x 0 (br_f (by decide) (ai (f q))))))
def g_come (x1 x2 : Int32) : Prop := (0 ≤ x1 ∧ x1 ≤ 7) ∧ (0 ≤ x2 ∧ x2 ≤ 9999)
theorem m_come {x1 x2 : Int32} (L : LY h) (t : g_come x1 x2 → K 1 (cm_setI h 67 x1.toNatClampNeg x2)) (f : ¬ g_come x1 x2 → K 0 h) : cm_ci sc (d + 1) 184 [.ref 38, .int x1, .int x2] h K := by
  refine ci_of rfl (s184_0 x1 x2 (m_in (fun q1 => ?_) (fun q => s184_7 x1 x2 0 (br_t rfl (ai (f fun g => q g.1))))))
  exact s184_7 x1 x2 1 (br_f (by decide) (m_in (fun q2 => s184_18 L x1 x2 1 (br_t (by decide) ⟨in07 q1, ai (t ⟨q1, q2⟩)⟩)) (fun q => s184_18 L x1 x2 0 (br_f (by decide) (ai (f fun g => q g.2))))))
theorem c_come {x1 x2 : Int32} (L : LY h) (t : g_come x1 x2 → K 1 (cm_setI (cm_setI h 13 x1.toNatClampNeg x2) 21 7 (-1))) (f : ¬ g_come x1 x2 → K 0 h) : cm_ci sc (d + 1) 59 [.ref 0, .int x1, .int x2] h K := by
  refine ci_of rfl (s59_0 x1 x2 (c_size (fun q1 => ?_) (fun q => s59_4 x1 x2 0 (br_t rfl (ai (f fun g => q g.1))))))
  exact s59_4 x1 x2 1 (br_f (by decide) (c_in (fun q2 => s59_15 L x1 x2 1 (br_t (by decide) ⟨in07 q1, c_forget L.s (s59_37 x1 x2 (ai (t ⟨q1, q2⟩)))⟩)) (fun q => s59_15 L x1 x2 0 (br_f (by decide) (ai (f fun g => q g.2))))))
/-! cost -/
def g_cost (x1 x2 : Int32) : Prop := (x1 = -1 ∧ 0 ≤ x2 ∧ x2 ≤ 10000) ∨ (x1 ≠ -1 ∧ (0 ≤ x1 ∧ x1 ≤ 19) ∧ (0 ≤ x2 ∧ x2 ≤ 1000))
theorem in019 {x : Int32} (q : 0 ≤ x ∧ x ≤ 19) : IX 20 x := by
  obtain ⟨j, -, h2, rfl⟩ := (in_nI 0 19 rfl rfl (by decide) (by decide)).mp q
  exact ix_nI (by omega) (by decide)
theorem m_cost {x1 x2 : Int32} (L : LY h) (t : g_cost x1 x2 → K 1 (if x1 = -1 then cm_setI h 38 57 x2 else cm_setI h 81 x1.toNatClampNeg x2)) (f : ¬ g_cost x1 x2 → K 0 h) : cm_ci sc (d + 1) 212 [.ref 38, .int x1, .int x2] h K := by
  refine ci_of rfl (s212_0 x1 x2 ⟨fun z => m_in (fun q1 => ?_) (fun q => s212_32 x1 x2 0 (br_t rfl (ai (f ?_)))), fun z => m_in (fun q => ?_) (fun q => s212_13 L x1 x2 0 (br_f (by decide) (ai (f ?_))))⟩)
  · refine s212_32 x1 x2 1 (br_f (by decide) (m_in (fun q2 => s212_43 L x1 x2 1 (br_t (by decide) ⟨in019 q1, ai ?_⟩)) (fun q => s212_43 L x1 x2 0 (br_f (by decide) (ai (f ?_))))))
    · have k := t (Or.inr ⟨z, q1, q2⟩)
      rw [if_neg z] at k; exact k
    · rintro (g | g)
      · exact z g.1
      · exact q g.2.2
  · rintro (g | g)
    · exact z g.1
    · exact q g.2.1
  · have z := Decidable.not_not.mp z
    have k := t (Or.inl ⟨z, q⟩)
    rw [if_pos z] at k
    exact s212_13 L x1 x2 1 (br_t (by decide) (ai k))
  · rintro (g | g)
    · exact q g.2
    · exact z g.1
theorem c_cost {x1 x2 : Int32} (L : LY h) (t : g_cost x1 x2 → K 1 (if x1 = -1 then cm_setI h 30 2 x2 else cm_setI h 31 x1.toNatClampNeg x2)) (f : ¬ g_cost x1 x2 → K 0 h) : cm_ci sc (d + 1) 110 [.ref 0, .int x1, .int x2] h K := by
  have hm : ∀ x : Int32, (-1 ≤ x ∧ x ≤ 19) ↔ (x = -1 ∨ (0 ≤ x ∧ x ≤ 19)) := by
    intro x
    rw [Int32.le_iff_toInt_le, Int32.le_iff_toInt_le, Int32.le_iff_toInt_le, ← Int32.toInt_inj, i32_0, show (-1 : Int32).toInt = -1 by decide, show (19 : Int32).toInt = 19 by decide]
    omega
  refine ci_of rfl (s110_0 x1 x2 (c_in (fun q1 => ?_) (fun q => s110_7 x1 x2 0 (br_t rfl (ai (f ?_))))))
  · refine s110_7 x1 x2 1 (br_f (by decide) ⟨fun z => s110_26 x1 x2 _ _ _ (c_in (fun q2 => ?_) (fun q => s110_29 L x1 x2 0 (br_f (by decide) (ai (f ?_))))), fun z => s110_26 x1 x2 _ _ _ (c_in (fun q2 => ?_) (fun q => s110_29 L x1 x2 0 (br_f (by decide) (ai (f ?_)))))⟩)
    · have q1 : 0 ≤ x1 ∧ x1 ≤ 19 := ((hm x1).mp q1).resolve_left z
      have k := t (Or.inr ⟨z, q1, q2⟩)
      rw [if_neg z] at k
      exact s110_29 L x1 x2 1 (br_t (by decide) (br_t z ⟨in019 q1, ai k⟩))
    · rintro (g | g)
      · exact z g.1
      · exact q g.2.2
    · have z := Decidable.not_not.mp z
      have k := t (Or.inl ⟨z, q2⟩)
      rw [if_pos z] at k
      exact s110_29 L x1 x2 1 (br_t (by decide) (br_f (fun y => y z) (ai k)))
    · rintro (g | g)
      · exact q g.2
      · exact z g.1
  · rintro (g | g)
    · exact q ((hm x1).mpr (Or.inl g.1))
    · exact q ((hm x1).mpr (Or.inr g.2.1))
end SET
