/-! ===== what the pool's tables say ===== -/
theorem cm_fnd {α : Type} {l : List (Nat × Nat × α)} {oc ix : Nat} {e : Nat × Nat × α} (h : l.find? (fun e => e.1 == oc && e.2.1 == ix) = some e) : e ∈ l ∧ e.1 = oc ∧ e.2.1 = ix := by
  refine ⟨List.mem_of_find?_eq_some h, ?_⟩
  have h1 := List.find?_some h
  simp only [Bool.and_eq_true, beq_iff_eq] at h1
  exact h1
theorem cm_G_of {w : Cond} (h : w ∈ lw_tbl) (hg : goodWord w = true) : w ∈ cm_G := List.mem_filter.mpr ⟨h, hg⟩
theorem cm_B_of {w : Cond} (h : w ∈ lw_tbl) (hg : cm_isN w = true) : w ∈ cm_B := List.mem_filter.mpr ⟨h, hg⟩
theorem cm_fld_spec {oc ix ci k : Nat} {nest : Bool} (h : cm_fld oc ix = some (ci, k, nest)) : ci < 12 ∧ k < cm_N ci ∧ (nest = false → Cond.fieldLink (cm_ownN oc) ix (cm_T ci k).1 (cm_T ci k).2.1 (cm_T ci k).2.2.1 ∈ cm_G) ∧ (nest = true → Cond.fieldLinkNest (cm_ownN oc) ix (cm_T ci k).1 (cm_T ci k).2.1 (cm_T ci k).2.2.1 "ClogHouse" ∈ cm_B) := by
  unfold cm_fld at h
  obtain ⟨e, he, hq⟩ := Option.map_eq_some_iff.mp h
  obtain ⟨h1, h2, h3⟩ := cm_fnd he
  obtain ⟨a, b, c, d, n, p⟩ := e
  dsimp only at hq h2 h3
  cases hq
  subst h2; subst h3
  have h4 := cm_okF _ h1
  simp only [cm_chF, Bool.and_eq_true, decide_eq_true_eq] at h4
  refine ⟨h4.1.1, h4.1.2, fun hn => ?_, fun hn => ?_⟩
  · subst hn
    have h5 := h4.2
    simp only [Bool.false_eq_true, if_false, decide_eq_true_eq] at h5
    exact cm_G_of (List.mem_of_getElem? h5) rfl
  · subst hn
    have h5 := h4.2
    simp only [if_true, decide_eq_true_eq] at h5
    exact cm_B_of (List.mem_of_getElem? h5) rfl
theorem cm_cI_spec {oc ix : Nat} {v : Int32} (h : cm_cI oc ix = some v) : Cond.constant (cm_ownN oc) ix v ∈ cm_G := by
  unfold cm_cI at h
  obtain ⟨e, he, hq⟩ := Option.map_eq_some_iff.mp h
  obtain ⟨h1, h2, h3⟩ := cm_fnd he
  have h4 := List.all_eq_true.mp cm_okC _ h1
  simp only [cm_chC, decide_eq_true_eq] at h4
  rw [h2, h3, hq] at h4
  exact cm_G_of (List.mem_of_getElem? h4) rfl
theorem cm_cJ_spec {oc ix : Nat} {v : Int64} (h : cm_cJ oc ix = some v) : Cond.constantLong (cm_ownN oc) ix v ∈ cm_G := by
  unfold cm_cJ at h
  obtain ⟨e, he, hq⟩ := Option.map_eq_some_iff.mp h
  obtain ⟨h1, h2, h3⟩ := cm_fnd he
  have h4 := List.all_eq_true.mp cm_okJ _ h1
  simp only [cm_chJ, decide_eq_true_eq] at h4
  rw [h2, h3, hq] at h4
  exact cm_G_of (List.mem_of_getElem? h4) rfl
theorem cm_cC_spec {oc ix ci : Nat} (h : cm_cC oc ix = some ci) : ci < 12 ∧ Cond.classLink (cm_ownN oc) ix (cm_ownN ci) ∈ cm_G ∧ Cond.instantiable (cm_ownN ci) (cm_N ci) ∈ cm_G ∧ Cond.initialized (cm_ownN ci) ∈ cm_G := by
  unfold cm_cC at h
  obtain ⟨e, he, hq⟩ := Option.map_eq_some_iff.mp h
  obtain ⟨h1, h2, h3⟩ := cm_fnd he
  have h4 := List.all_eq_true.mp cm_okW _ h1
  simp only [cm_chW, Bool.and_eq_true, decide_eq_true_eq] at h4
  rw [h2, h3, hq] at h4
  exact ⟨h4.1.1.1, cm_G_of (List.mem_of_getElem? h4.1.1.2) rfl, cm_G_of h4.1.2 rfl, cm_G_of (List.mem_of_getElem? h4.2) rfl⟩
theorem cm_M1 {M : Nat} (h : M < cm_nm) : (cm_M M).1.cls = cm_ownN (cm_M M).2.1 ∧ plainName (cm_M M).1.cls = true ∧ (cm_M M).2.2.2.1 ≤ 11 ∧ (cm_M M).1.cls ≠ "java/lang/invoke/MethodHandle" ∧ (cm_M M).1.cls ≠ "java/lang/invoke/VarHandle" := by
  have h4 := List.all_eq_true.mp cm_okM1 _ (List.mem_range.mpr h)
  simp only [cm_chM1, Bool.and_eq_true, decide_eq_true_eq] at h4
  exact ⟨h4.1.1.1.1, h4.1.1.1.2, h4.1.1.2, h4.1.2, h4.2⟩
theorem cm_Mo : (List.range cm_nm).all (fun M => decide ((cm_M M).2.1 < 15)) = true := by decide +kernel
theorem cm_M2 {M : Nat} (h : M < cm_nm) : Cond.code (cm_M M).1 (cm_M M).2.2.1 (cm_M M).2.2.2.1 (cm_M M).2.2.2.2 ∈ cm_G ∧ Cond.initialized (cm_M M).1.cls ∈ cm_G := by
  refine ⟨cm_G_of (cm_okM2 M h) rfl, ?_⟩
  have h1 := List.all_eq_true.mp cm_Mo _ (List.mem_range.mpr h)
  simp only [decide_eq_true_eq] at h1
  have h2 := List.all_eq_true.mp cm_okI _ (List.mem_range.mpr h1)
  simp only [decide_eq_true_eq] at h2
  rw [(cm_M1 h).1]
  exact cm_G_of (List.mem_of_getElem? h2) rfl
/-- the classes -/
theorem cm_goodT : ∀ c ∈ cm_cl, ∀ w ∈ u_ws c.1 c.2.1 c.2.2, goodWord w = true := by decide +kernel
theorem cm_class {ci : Nat} (h : ci < 12) : cm_cl[ci]? = some (cm_ownN ci, cm_T ci, cm_N ci) ∧ (∀ w ∈ u_ws (cm_ownN ci) (cm_T ci) (cm_N ci), w ∈ cm_G) ∧ (∀ k, k < cm_N ci → parseFieldDescriptor (cm_T ci k).2.2.1 = some (cm_ty ci k)) ∧ (∀ a, a < cm_N ci → ∀ b, b < cm_N ci → a ≠ b → (cm_T ci a).2.1 ≠ (cm_T ci b).2.1) ∧ (∀ k, k < cm_N ci → (cm_T ci k).1 = cm_ownN ci) := by
  have g : ∀ (C : String) (T : u_T) (N : Nat), (C, T, N) ∈ cm_cl → (∀ w ∈ u_ws C T N, w ∈ lw_tbl) → ∀ w ∈ u_ws C T N, w ∈ cm_G := fun C T N hc hi w hw => cm_G_of (hi w hw) (cm_goodT _ hc w hw)
  rcases (show ci = 0 ∨ ci = 1 ∨ ci = 2 ∨ ci = 3 ∨ ci = 4 ∨ ci = 5 ∨ ci = 6 ∨ ci = 7 ∨ ci = 8 ∨ ci = 9 ∨ ci = 10 ∨ ci = 11 by omega) with rfl | rfl | rfl | rfl | rfl | rfl | rfl | rfl | rfl | rfl | rfl | rfl
  · exact ⟨rfl, g _ _ _ (List.mem_of_getElem? (i := 0) rfl) cm_in0, tyX0_ok, nmX0, by decide +kernel⟩
  · exact ⟨rfl, g _ _ _ (List.mem_of_getElem? (i := 1) rfl) cm_in1, tyX1_ok, nmX1, by decide +kernel⟩
  · exact ⟨rfl, g _ _ _ (List.mem_of_getElem? (i := 2) rfl) cm_in2, tyX2_ok, nmX2, by decide +kernel⟩
  · exact ⟨rfl, g _ _ _ (List.mem_of_getElem? (i := 3) rfl) cm_in3, tyX3_ok, nmX3, by decide +kernel⟩
  · exact ⟨rfl, g _ _ _ (List.mem_of_getElem? (i := 4) rfl) cm_in4, tyX4_ok, nmX4, by decide +kernel⟩
  · exact ⟨rfl, g _ _ _ (List.mem_of_getElem? (i := 5) rfl) cm_in5, tyX5_ok, nmX5, by decide +kernel⟩
  · exact ⟨rfl, g _ _ _ (List.mem_of_getElem? (i := 6) rfl) cm_in6, tyX6_ok, nmX6, by decide +kernel⟩
  · exact ⟨rfl, g _ _ _ (List.mem_of_getElem? (i := 7) rfl) cm_in7, tyX7_ok, nmX7, by decide +kernel⟩
  · exact ⟨rfl, g _ _ _ (List.mem_of_getElem? (i := 8) rfl) cm_in8, tyX8_ok, nmX8, by decide +kernel⟩
  · exact ⟨rfl, g _ _ _ (List.mem_of_getElem? (i := 9) rfl) cm_in9, tyX9_ok, nmX9, by decide +kernel⟩
  · exact ⟨rfl, g _ _ _ (List.mem_of_getElem? (i := 10) rfl) cm_in10, tyX10_ok, nmX10, by decide +kernel⟩
  · exact ⟨rfl, g _ _ _ (List.mem_of_getElem? (i := 11) rfl) cm_in11, tyX11_ok, nmX11, by decide +kernel⟩
/-- what stays fixed in a method's body -/
def cm_fix (p : Program) (s : State) (m : MethodId) (args : Array Value) (meth : Method) (c : Code) (M base : Nat) (D : va_G) (aC : Nat → ClassId) (ex : Nat → Nat) (sc : cmS) : Prop :=
  p.tables.exec = Jvm.exec ∧ c.code = (cm_M M).2.2.1 ∧ c.maxLocals = (cm_M M).2.2.2.1 ∧ meth.sig.returnType = (cm_M M).2.2.2.2 ∧ s.vm.findClass (cm_ownN (cm_M M).2.1) = some m.cls ∧ (∀ w ∈ cm_G, w.before args s = true) ∧ meth.locks = false ∧ ((cm_M M).1.name = "<init>" → meth.name = "<init>") ∧ cm_env D aC ex s ∧ base ≤ s.heap.size ∧ cm_scr base ex sc s s.heap
/-! what was on the stack -/
theorem cm_i1_inv {β : Type} {st : List Value} {k : Int32 → List Value → Option β} {y : β} (h : cm_i1 st k = some y) : ∃ a r, st = .int a :: r ∧ k a r = some y := by
  unfold cm_i1 at h; split at h
  · exact ⟨_, _, rfl, h⟩
  · cases h
theorem cm_j1_inv {β : Type} {st : List Value} {k : Int64 → List Value → Option β} {y : β} (h : cm_j1 st k = some y) : ∃ a r, st = .long a :: r ∧ k a r = some y := by
  unfold cm_j1 at h; split at h
  · exact ⟨_, _, rfl, h⟩
  · cases h
theorem cm_ii_inv {β : Type} {st : List Value} {k : Int32 → Int32 → List Value → Option β} {y : β} (h : cm_ii st k = some y) : ∃ a b r, st = .int b :: .int a :: r ∧ k a b r = some y := by
  unfold cm_ii at h; split at h
  · exact ⟨_, _, _, rfl, h⟩
  · cases h
theorem cm_jj_inv {β : Type} {st : List Value} {k : Int64 → Int64 → List Value → Option β} {y : β} (h : cm_jj st k = some y) : ∃ a b r, st = .long b :: .long a :: r ∧ k a b r = some y := by
  unfold cm_jj at h; split at h
  · exact ⟨_, _, _, rfl, h⟩
  · cases h
theorem cm_a1_inv {β : Type} {st : List Value} {k : Nat → List Value → Option β} {y : β} (h : cm_a1 st k = some y) : ∃ a r, st = .ref a :: r ∧ k a r = some y := by
  unfold cm_a1 at h; split at h
  · exact ⟨_, _, rfl, h⟩
  · cases h
theorem cm_ia_inv {β : Type} {st : List Value} {k : Nat → Int32 → List Value → Option β} {y : β} (h : cm_ia st k = some y) : ∃ a i r, st = .int i :: .ref a :: r ∧ k a i r = some y := by
  unfold cm_ia at h; split at h
  · exact ⟨_, _, _, rfl, h⟩
  · cases h
theorem cm_iia_inv {β : Type} {st : List Value} {k : Nat → Int32 → Int32 → List Value → Option β} {y : β} (h : cm_iia st k = some y) : ∃ a i x r, st = .int x :: .int i :: .ref a :: r ∧ k a i x r = some y := by
  unfold cm_iia at h; split at h
  · exact ⟨_, _, _, _, rfl, h⟩
  · cases h
theorem cm_jia_inv {β : Type} {st : List Value} {k : Nat → Int32 → Int64 → List Value → Option β} {y : β} (h : cm_jia st k = some y) : ∃ a i x r, st = .long x :: .int i :: .ref a :: r ∧ k a i x r = some y := by
  unfold cm_jia at h; split at h
  · exact ⟨_, _, _, _, rfl, h⟩
  · cases h
theorem cm_ria_inv {β : Type} {st : List Value} {k : Nat → Int32 → Nat → List Value → Option β} {y : β} (h : cm_ria st k = some y) : ∃ a i x r, st = .ref x :: .int i :: .ref a :: r ∧ k a i x r = some y := by
  unfold cm_ria at h; split at h
  · exact ⟨_, _, _, _, rfl, h⟩
  · cases h
theorem cm_va_inv {β : Type} {st : List Value} {k : Nat → Value → List Value → Option β} {y : β} (h : cm_va st k = some y) : ∃ a v r, st = v :: .ref a :: r ∧ k a v r = some y := by
  unfold cm_va at h; split at h
  · exact ⟨_, _, _, rfl, h⟩
  · cases h
theorem cm_q1_inv {β : Type} {st : List Value} {kn : List Value → Option β} {kr : Nat → List Value → Option β} {y : β} (h : cm_q1 st kn kr = some y) : (∃ r, st = .null :: r ∧ kn r = some y) ∨ ∃ a r, st = .ref a :: r ∧ kr a r = some y := by
  unfold cm_q1 at h; split at h
  · exact Or.inl ⟨_, rfl, h⟩
  · exact Or.inr ⟨_, _, rfl, h⟩
  · cases h
theorem cm_va1_inv {β : Type} {st : List Value} {k : Value → List Value → Option β} {y : β} (h : cm_va1 st k = some y) : (∃ a r, st = .ref a :: r ∧ k (.ref a) r = some y) ∨ ∃ r, st = .null :: r ∧ k .null r = some y := by
  unfold cm_va1 at h; split at h
  · exact Or.inl ⟨_, _, rfl, h⟩
  · exact Or.inr ⟨_, rfl, h⟩
  · cases h
theorem cm_oi_inv {β : Type} {o : Option Value} {k : Int32 → Option β} {y : β} (h : cm_oi o k = some y) : ∃ x, o = some (.int x) ∧ k x = some y := by
  unfold cm_oi at h; split at h
  · exact ⟨_, rfl, h⟩
  · cases h
theorem cm_oj_inv {β : Type} {o : Option Value} {k : Int64 → Option β} {y : β} (h : cm_oj o k = some y) : ∃ x, o = some (.long x) ∧ k x = some y := by
  unfold cm_oj at h; split at h
  · exact ⟨_, rfl, h⟩
  · cases h
theorem cm_oa_inv {β : Type} {o : Option Value} {k : Value → Option β} {y : β} (h : cm_oa o k = some y) : (∃ a, o = some (.ref a) ∧ k (.ref a) = some y) ∨ (o = some .null ∧ k .null = some y) ∨ ∃ j, o = some (.retAddr j) ∧ k (.retAddr j) = some y := by
  unfold cm_oa at h; split at h
  · exact Or.inl ⟨_, rfl, h⟩
  · exact Or.inr (Or.inl ⟨rfl, h⟩)
  · exact Or.inr (Or.inr ⟨_, rfl, h⟩)
  · cases h
theorem cm_br_inv {pc : Nat} {off : Int} {ls ls' : cmL} {st st' : List Value} {h h' : cmH} {pc' : Nat} (q : cm_br pc off ls st h = some (pc', ls', st', h')) : (pc : Int) + off = (pc' : Int) ∧ ls' = ls ∧ st' = st ∧ h' = h := by
  unfold cm_br at q; split at q
  · cases q
    exact ⟨by omega, rfl, rfl, rfl⟩
  · cases q
theorem cm_cb_inv {b : Prop} [Decidable b] {pc : Nat} {off : Int} {ls ls' : cmL} {st st' : List Value} {h h' : cmH} {pc' : Nat} (q : cm_cb b pc off ls st h = some (pc', ls', st', h')) : ∃ tgt : Nat, (pc : Int) + off = (tgt : Int) ∧ ls' = ls ∧ st' = st ∧ h' = h ∧ ((b ∧ pc' = tgt) ∨ (¬ b ∧ pc' = pc + 3)) := by
  unfold cm_cb at q; split at q
  · split at q
    · cases q
      exact ⟨_, by omega, rfl, rfl, rfl, Or.inl ⟨by assumption, rfl⟩⟩
    · cases q
      exact ⟨((pc : Int) + off).toNat, by omega, rfl, rfl, rfl, Or.inr ⟨by assumption, rfl⟩⟩
  · cases q
theorem cm_if_inv {α : Type} {c : Prop} [Decidable c] {x : Option α} {y : α} (h : (if c then x else none) = some y) : c ∧ x = some y := by
  split at h
  · exact ⟨by assumption, h⟩
  · cases h
