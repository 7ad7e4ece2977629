/-! ===== more depth does no harm ===== -/
theorem gk_up {g kind d : Nat} (h : cm_gk g kind d = true) : cm_gk g kind (d + 1) = true := by
  simp only [cm_gk, Bool.or_eq_true, Bool.and_eq_true, decide_eq_true_eq, beq_iff_eq] at h ⊢
  rcases h with (h | h) | h
  · exact Or.inl (Or.inl h)
  · exact Or.inl (Or.inr h)
  · exact Or.inr ⟨h.1, by omega⟩
theorem thr_up {M pc d : Nat} {st : List Value} (h : cm_thr M pc d st = true) : cm_thr M pc (d + 1) st = true := by
  simp only [cm_thr, Bool.and_eq_true, decide_eq_true_eq] at h ⊢
  exact ⟨⟨h.1.1, by omega⟩, h.2⟩
theorem cm_deep {sc : cmS} : ∀ (f d M pc : Nat) (ls : cmL) (st : List Value) (h : cmH) (r : Option Value × cmH), cm_ex sc f d M pc ls st h = some r → cm_ex sc f (d + 1) M pc ls st h = some r := by
  intro f
  induction f with
  | zero => intro d M pc ls st h r q; cases q
  | succ f ih =>
    intro d M pc ls st h r q
    unfold cm_ex at q ⊢
    split at q
    · cases q
    · split at q
      · cases q
      · rename_i hlk
        simp only [hlk, if_false]
        split at q
        · rename_i hr
          simp only [hr, if_true]
          exact q
        · rename_i hr
          simp only [hr, if_false]
          split at q
          · cases d with
            | zero => cases q
            | succ d =>
              dsimp only at q ⊢
              split at q
              · cases q
              · split at q
                · rename_i hk
                  simp only [hk, if_true]
                  cases d with
                  | zero => cases q
                  | succ d1 =>
                    cases hw : cm_w13 st with
                    | none => rw [hw] at q; cases q
                    | some y =>
                      obtain ⟨as, x, o, r⟩ := y
                      rw [hw] at q
                      dsimp only at q ⊢
                      split at q
                      · rename_i hg
                        simp only [hg, and_self, if_true]
                        split at q
                        · rename_i hc
                          rw [ih _ _ _ _ _ _ _ hc]
                          dsimp only
                          split at q
                          · rename_i ho
                            rw [if_pos ho]
                            exact ih _ _ _ _ _ _ _ q
                          · cases q
                        · rename_i hc
                          rw [ih _ _ _ _ _ _ _ hc]
                          exact ih _ _ _ _ _ _ _ q
                        · cases q
                      · cases q
                · rename_i hk
                  simp only [hk, if_false]
                  split at q
                  · rename_i hk6
                    simp only [hk6, if_true]
                    split at q
                    · rename_i hg
                      simp only [gk_up hg, if_true]
                      split at q
                      · exact ih _ _ _ _ _ _ _ q
                      · cases q
                    · cases q
                  · rename_i hk6
                    simp only [hk6, if_false]
                    split at q
                    · cases q
                    · split at q
                      · cases q
                      · rename_i hc
                        split at q
                        · cases q
                        · rename_i hx
                          rw [ih _ _ _ _ _ _ _ hc]
                          simp only [hx, if_false]
                          exact ih _ _ _ _ _ _ _ q
          · split at q
            · split at q
              · rename_i ht
                simp only [thr_up ht, if_true]
                exact q
              · cases q
            · exact ih _ _ _ _ _ _ _ q
theorem ci_deep {sc : cmS} {d M : Nat} {as : List Value} {h : cmH} {K : Int32 → cmH → Prop} (w : cm_ci sc d M as h K) : cm_ci sc (d + 1) M as h K := by
  obtain ⟨f, v, h', a, b⟩ := w
  exact ⟨f, v, h', cm_deep _ _ _ _ _ _ _ _ a, b⟩
theorem cj_deep {sc : cmS} {d M : Nat} {as : List Value} {h : cmH} {K : Int64 → cmH → Prop} (w : cm_cj' sc d M as h K) : cm_cj' sc (d + 1) M as h K := by
  obtain ⟨f, v, h', a, b⟩ := w
  exact ⟨f, v, h', cm_deep _ _ _ _ _ _ _ _ a, b⟩
