/-! ===== the class's closeHour ===== -/
section CCLOSE
variable {sc : cmS} {d : Nat} {h : cmH} {KV : cmH → Prop} {F : Nat} {fa : Nat → Nat}
def P_cl (F : Nat) (fa : Nat → Nat) (x k : Nat) : Prop := ∃ f, f < F ∧ x = fa f ∧ (k = 8 ∨ k = 9 ∨ k = 19)
/-- the first i filters have closed the hour -/
def CLo (h h' : cmH) (F : Nat) (fa : Nat → Nat) (i : Nat) : Prop := XI h h' (P_cl F fa) ∧ ∀ f, f < F → (f < i → cm_I h' (fa f) 9 = (if cm_I h (fa f) 8 = 1 ∨ cm_I h (fa f) 8 = 3 then cm_I h (fa f) 9 + 1 else cm_I h (fa f) 9) ∧ cm_I h' (fa f) 8 = (if cm_I h (fa f) 19 = 0 then cm_I h (fa f) 8 else 4) ∧ cm_I h' (fa f) 19 = 0) ∧ (i ≤ f → cm_I h' (fa f) 9 = cm_I h (fa f) 9 ∧ cm_I h' (fa f) 8 = cm_I h (fa f) 8 ∧ cm_I h' (fa f) 19 = cm_I h (fa f) 19)
theorem c_closeHour {h' : cmH} {i : Nat} (L : LY h) (G : FS h F fa) (hF : ∀ f, f < F → FL h (fa f)) (h88 : ∀ f, f < F → 88 ≤ fa f) (ne : ∀ f f', f < F → f' < F → f ≠ f' → fa f ≠ fa f') (hi : i < F) (X : CLo h h' F fa i) (k : ∀ h2, CLo h h2 F fa (i + 1) → KV h2) : cm_cv sc (d + 2) 89 [.ref 0, .int (nI i)] h' KV := by
  have L' := X.1.ly L
  have h8 := G.2.1
  have gs : FS h' F fa := ⟨by
    rw [X.1.2 0 10 (by rintro ⟨f, hf, e, -⟩; have := h88 f hf; omega)]; exact G.1, h8, fun f hf => by rw [X.1.R]; exact G.2.2 f hf⟩
  have FLi : FL h' (fa i) := X.1.FL (hF i hi)
  obtain ⟨b9, b8, b19⟩ := (X.2 i hi).2 (Nat.le_refl i)
  -- the end, by what the fields are
  have fin : ∀ h2, XI h' h2 (P_cl F fa) → (∀ x j, x ≠ fa i → cm_I h2 x j = cm_I h' x j) → cm_I h2 (fa i) 9 = (if cm_I h (fa i) 8 = 1 ∨ cm_I h (fa i) 8 = 3 then cm_I h (fa i) 9 + 1 else cm_I h (fa i) 9) → cm_I h2 (fa i) 8 = (if cm_I h (fa i) 19 = 0 then cm_I h (fa i) 8 else 4) → cm_I h2 (fa i) 19 = 0 → KV h2 := fun h2 X2 o2 e9 e8 e19 => by
    refine k h2 ⟨X.1.trans X2, fun f hf => ?_⟩
    by_cases y : f = i
    · subst y
      exact ⟨fun _ => ⟨e9, e8, e19⟩, fun q => absurd q (by omega)⟩
    · have nf := ne f i hf hi y
      rw [o2 _ 9 nf, o2 _ 8 nf, o2 _ 19 nf]
      exact ⟨fun q => (X.2 f hf).1 (by omega), fun q => (X.2 f hf).2 (by omega)⟩
  have p9 : P_cl F fa (fa i) 9 := ⟨i, hi, rfl, Or.inr (Or.inl rfl)⟩
  have p8 : P_cl F fa (fa i) 8 := ⟨i, hi, rfl, Or.inl rfl⟩
  have p19 : P_cl F fa (fa i) 19 := ⟨i, hi, rfl, Or.inr (Or.inr rfl)⟩
  have w37 : ∀ h2, XI h' h2 (P_cl F fa) → (∀ x j, x ≠ fa i → cm_I h2 x j = cm_I h' x j) → cm_I h2 (fa i) 9 = (if cm_I h (fa i) 8 = 1 ∨ cm_I h (fa i) 8 = 3 then cm_I h (fa i) 9 + 1 else cm_I h (fa i) 9) → cm_I h2 (fa i) 8 = cm_I h (fa i) 8 → cm_I h2 (fa i) 19 = cm_I h (fa i) 19 → cm_wp sc (d + 2) 89 37 [some (.ref 0), some (.int (nI i)), some (.ref (fa i))] [] h2 (fun v h' => v = none ∧ KV h') := fun h2 X2 o2 e9 e8 e19 => by
    refine s89_37 _ (some (fa i)) ⟨fa i, rfl, X2.FL FLi, fun z => ⟨rfl, ?_⟩, fun z => ⟨rfl, ?_⟩⟩
    · rw [e19] at z
      exact fin h2 X2 o2 e9 (by rw [if_pos z]; exact e8) (by rw [e19]; exact z)
    · rw [e19] at z
      refine fin _ ((X2.set p8).set p19) (fun x j q => by rw [sI_o (Or.inl q), sI_o (Or.inl q)]; exact o2 x j q) ?_ ?_ sI_s
      · rw [sI_o (Or.inr (by decide)), sI_o (Or.inr (by decide))]; exact e9
      · rw [sI_o (Or.inr (by decide)), sI_s, if_neg z]
  have w27 : (cm_I h (fa i) 8 = 1 ∨ cm_I h (fa i) 8 = 3) → cm_wp sc (d + 2) 89 27 [some (.ref 0), some (.int (nI i)), some (.ref (fa i))] [] h' (fun v h' => v = none ∧ KV h') := fun q => by
    refine s89_27 _ (some (fa i)) ⟨fa i, rfl, FLi, ?_⟩
    refine w37 _ (XI.refl.set p9) (fun x j q => sI_o (Or.inl q)) ?_ ?_ ?_
    · rw [sI_s, b9, if_pos q]
    · rw [sI_o (Or.inr (by decide))]; exact b8
    · rw [sI_o (Or.inr (by decide))]; exact b19
  refine cv_of rfl (s89_0 L' _ _ (c_filterI L' gs hi (s89_5 _ _ (some (fa i)) ⟨fun w => (by cases w), fun b eb => ?_⟩)))
  cases eb
  refine ⟨FLi, ?_⟩
  rw [b8]
  refine ⟨fun z => w27 (Or.inl z), fun z => ⟨fun z2 => w37 h' XI.refl (fun _ _ _ => rfl) ?_ b8 b19, fun z2 => w27 (Or.inr (Decidable.not_not.mp z2))⟩⟩
  rw [if_neg (fun q => q.elim z z2)]; exact b9
end CCLOSE
