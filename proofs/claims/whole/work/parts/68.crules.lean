/-! ===== the class's rulesAt ===== -/
section CRULES
variable {sc : cmS} {d : Nat} {h : cmH} {KQ : Option Nat → cmH → Prop}
theorem c_rulesAt {x : Int32} {Rn : Nat} (L : LY h) (e : cm_I h 0 11 = nI Rn) (hR : Rn ≤ 12) (t : ∀ j, j < Rn → x = nI j → KQ (cm_R h 8 j) h) (f : (∀ j, j < Rn → x ≠ nI j) → KQ none h) : cm_cq sc (d + 1) 62 [.ref 0, .int x] h KQ := by
  refine cq_of rfl (s62_0 L x (c_inL Rn e (by omega) (fun j hj ej => ?_) (fun q => s62_11 L x 0 (br_t rfl (aq (f q))))))
  subst ej
  refine s62_11 L _ 1 ⟨fun z => absurd z (by decide), fun _ => ⟨fun z => absurd z (nI_ge (b := 12) (by omega) (by decide)), fun _ => ⟨ix_nI (by omega) (by decide), aq ?_⟩⟩⟩
  rw [nI_clamp (by omega)]; exact t j hj rfl
end CRULES
