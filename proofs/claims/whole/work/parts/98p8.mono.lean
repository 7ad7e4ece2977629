/-! ===== cells and slots only grow ===== -/
set_option maxHeartbeats 4000000 in
theorem cm_st_mono {sc : cmS} {M : Nat} {i : Instr} {pc n pc' : Nat} {cl cl' : cmL} {st st' : List Value} {h h' : cmH} (hst : cm_st sc M i pc n cl st h = some (pc', cl', st', h')) : cm_n h ≤ cm_n h' ∧ cm_sl h ≤ cm_sl h' := by
  have e0 : ∀ {k : cmH}, k = h' → k.1 = h.1 → cm_n h ≤ cm_n h' ∧ cm_sl h ≤ cm_sl h' := fun r q => by
    subst r; exact ⟨by unfold cm_n; rw [q]; exact Nat.le_refl _, by unfold cm_sl; rw [q]; exact Nat.le_refl _⟩
  have e1 : ∀ {kd ln : Nat}, cm_mk h kd ln = h' → cm_n h ≤ cm_n h' ∧ cm_sl h ≤ cm_sl h' := fun r => by
    subst r; exact ⟨Nat.le_succ _, Nat.le_add_right _ _⟩
  cases i
  case ifCond o off =>
    cases o <;> (obtain ⟨a, r, rfl, h2⟩ := cm_i1_inv hst; obtain ⟨tgt, ht, rfl, rfl, rfl, -⟩ := cm_cb_inv h2; exact ⟨Nat.le_refl _, Nat.le_refl _⟩)
  case if_icmp o off =>
    cases o <;> (obtain ⟨a, b, r, rfl, h2⟩ := cm_ii_inv hst; obtain ⟨tgt, ht, rfl, rfl, rfl, -⟩ := cm_cb_inv h2; exact ⟨Nat.le_refl _, Nat.le_refl _⟩)
  case putfield ix =>
    simp only [cm_st] at hst
    split at hst
    · obtain ⟨a, v, r, rfl, h2⟩ := cm_va_inv hst
      obtain ⟨-, h2⟩ := cm_if_inv h2
      split at h2
      · rename_i h1 hpv
        cases h2
        obtain ⟨q1, q2, -⟩ := cm_pv_spec (base := 0) (ex := fun _ => 0) hpv
        exact ⟨Nat.le_of_eq q1.symm, Nat.le_of_eq q2.symm⟩
      · cases h2
    · cases hst
  all_goals first
    | (cases hst; done)
    | (simp only [cm_st] at hst
       try simp only [cm_i1, cm_j1, cm_ii, cm_jj, cm_a1, cm_ia, cm_iia, cm_jia, cm_ria, cm_q1, cm_va1, cm_oi, cm_oj, cm_oa, cm_br] at hst
       repeat' (split at hst)
       all_goals first
         | (cases hst; done)
         | (simp only [Option.some.injEq, Prod.mk.injEq] at hst
            first
              | exact e0 hst.2.2.2 rfl
              | exact e1 hst.2.2.2))
theorem cm_pr_mono {kind : Nat} {st st' : List Value} {h h' : cmH} (hst : cm_pr kind st h = some (st', h')) : cm_n h ≤ cm_n h' ∧ cm_sl h ≤ cm_sl h' := by
  unfold cm_pr at hst
  split at hst
  all_goals first
    | (cases hst; done)
    | (obtain ⟨-, h2⟩ := cm_if_inv hst
       cases h2
       exact ⟨Nat.le_refl _, Nat.le_refl _⟩)
theorem cm_ex_mono {sc : cmS} : ∀ (f d M pc : Nat) (cl : cmL) (st : List Value) (h : cmH) (v : Option Value) (h' : cmH), cm_ex sc f d M pc cl st h = some (v, h') → cm_n h ≤ cm_n h' ∧ cm_sl h ≤ cm_sl h' := by
  intro f
  induction f with
  | zero => intro d M pc cl st h v h' q; cases q
  | succ f ih =>
    intro d M pc cl st h v h' q
    unfold cm_ex at q
    split at q
    · cases q
    · split at q
      · cases q
      · split at q
        · obtain ⟨w, -, hw⟩ := Option.map_eq_some_iff.mp q
          cases hw
          exact ⟨Nat.le_refl _, Nat.le_refl _⟩
        · split at q
          · split at q
            · cases q
            · split at q
              · cases q
              · split at q
                · split at q
                  · split at q
                    · split at q
                      · rename_i hp
                        split at q
                        · obtain ⟨a1, a2⟩ := ih _ _ _ _ _ _ _ _ hp
                          obtain ⟨b1, b2⟩ := ih _ _ _ _ _ _ _ _ q
                          exact ⟨Nat.le_trans a1 b1, Nat.le_trans a2 b2⟩
                        · cases q
                      · rename_i hp
                        obtain ⟨a1, a2⟩ := ih _ _ _ _ _ _ _ _ hp
                        obtain ⟨b1, b2⟩ := ih _ _ _ _ _ _ _ _ q
                        exact ⟨Nat.le_trans a1 b1, Nat.le_trans a2 b2⟩
                      · cases q
                    · cases q
                  · cases q
                · split at q
                  · split at q
                    · split at q
                      · rename_i hp
                        obtain ⟨a1, a2⟩ := cm_pr_mono hp
                        obtain ⟨b1, b2⟩ := ih _ _ _ _ _ _ _ _ q
                        exact ⟨Nat.le_trans a1 b1, Nat.le_trans a2 b2⟩
                      · cases q
                    · cases q
                  · split at q
                    · cases q
                    · split at q
                      · cases q
                      · rename_i hp
                        split at q
                        · cases q
                        · obtain ⟨a1, a2⟩ := ih _ _ _ _ _ _ _ _ hp
                          obtain ⟨b1, b2⟩ := ih _ _ _ _ _ _ _ _ q
                          exact ⟨Nat.le_trans a1 b1, Nat.le_trans a2 b2⟩
          · split at q
            · split at q
              · cases q
                exact ⟨Nat.le_succ _, Nat.le_add_right _ _⟩
              · cases q
            · rename_i hp
              obtain ⟨a1, a2⟩ := cm_st_mono hp
              obtain ⟨b1, b2⟩ := ih _ _ _ _ _ _ _ _ q
              exact ⟨Nat.le_trans a1 b1, Nat.le_trans a2 b2⟩
/-- the locals at a method's entry -/
theorem cm_lay_len (base : Nat) (ex : Nat → Nat) (as : List Value) : (lg_sl (as.map (cm_tr base ex))).length = (cm_lay as).length := by
  induction as with
  | nil => rfl
  | cons v r ih =>
    unfold lg_sl at ih ⊢
    simp only [List.map_cons, List.flatMap_cons, List.length_append, cm_tr_cat, cm_lay]
    rw [ih]
    by_cases hv : v.category = 2
    · simp [hv]; omega
    · simp [hv]; omega
theorem cm_lg_app {a b : cmL} {k : Nat} {v : Value} (h : cm_lg (a ++ b) k = some v) : (k < a.length ∧ cm_lg a k = some v) ∨ (a.length ≤ k ∧ cm_lg b (k - a.length) = some v) := by
  induction a generalizing k with
  | nil => exact Or.inr ⟨Nat.zero_le _, by simpa using h⟩
  | cons x l ih =>
    cases k with
    | zero => exact Or.inl ⟨by simp, by simpa [cm_lg] using h⟩
    | succ k =>
      rcases ih (k := k) (by simpa [cm_lg] using h) with ⟨h1, h2⟩ | ⟨h1, h2⟩
      · exact Or.inl ⟨by simp only [List.length_cons]; omega, by simpa [cm_lg] using h2⟩
      · exact Or.inr ⟨by simp only [List.length_cons]; omega, by simpa only [List.length_cons, Nat.add_sub_add_right] using h2⟩
theorem cm_lg_rep {n k : Nat} {v : Value} : cm_lg (List.replicate n none) k ≠ some v := by
  induction n generalizing k with
  | zero => simp [cm_lg]
  | succ n ih =>
    cases k with
    | zero => simp [List.replicate_succ, cm_lg]
    | succ k => simpa [List.replicate_succ, cm_lg] using ih
theorem cm_lay_args (base : Nat) (ex : Nat → Nat) (as : List Value) : ∀ (i k : Nat) (v : Value), cm_lg (cm_lay as) k = some v → (i + k, cm_tr base ex v) ∈ lv_args i (as.map (cm_tr base ex)) := by
  induction as with
  | nil => intro i k v h; simp [cm_lay, cm_lg] at h
  | cons x r ih =>
    intro i k v h
    simp only [List.map_cons, lv_args, cm_tr_cat]
    by_cases hx : x.category = 2
    · simp only [cm_lay, hx, if_true] at h ⊢
      match k with
      | 0 =>
        simp only [cm_lg, Option.some.injEq] at h
        subst h
        exact List.mem_cons_self
      | 1 => simp [cm_lg] at h
      | k + 2 =>
        have := ih (i + 2) k v (by simpa [cm_lg] using h)
        rw [show i + 2 + k = i + (k + 2) by omega] at this
        exact List.mem_cons_of_mem _ this
    · simp only [cm_lay, hx, if_false] at h ⊢
      match k with
      | 0 =>
        simp only [cm_lg, Option.some.injEq] at h
        subst h
        exact List.mem_cons_self
      | k + 1 =>
        have := ih (i + 1) k v (by simpa [cm_lg] using h)
        rw [show i + 1 + k = i + (k + 1) by omega] at this
        exact List.mem_cons_of_mem _ this
theorem cm_en_lr {base : Nat} {ex : Nat → Nat} {M : Nat} {as : List Value} (hl : (cm_lay as).length ≤ (cm_M M).2.2.2.1) : cm_lr base ex ((lg_sl (as.map (cm_tr base ex)) ++ List.replicate ((cm_M M).2.2.2.1 - (lg_sl (as.map (cm_tr base ex))).length) Slot.unset).toArray) (cm_en M as) (cm_M M).2.2.2.1 := by
  have h := lv_entry (as.map (cm_tr base ex)) (n := (cm_M M).2.2.2.1) (by rw [cm_lay_len]; exact hl)
  refine ⟨h.1, h.2.1, by simp [cm_en]; omega, fun k v hk => ?_⟩
  rcases cm_lg_app hk with ⟨h1, h2⟩ | ⟨h1, h2⟩
  · have := cm_lay_args base ex as 0 k v h2
    rw [Nat.zero_add] at this
    exact h.2.2 (k, cm_tr base ex v) this
  · exact absurd h2 cm_lg_rep
