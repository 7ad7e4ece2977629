/-! ===== the clean memory and the machine's heap ===== -/
def cm_tr (base : Nat) (ex : Nat → Nat) : Value → Value
  | .ref a => .ref (base + a)
  | .retAddr j => .ref (ex j)
  | v => v
def cm_el (base : Nat) (aC : Nat → ClassId) (h : cmH) (a : Nat) : va_E :=
  if cm_kd h a < 12 then .inr (cm_kd h a, (List.range (cm_N (cm_kd h a))).map fun k => cm_tr base (fun _ => 0) (cm_gv h (cm_ty (cm_kd h a) k) a k))
  else if cm_kd h a = 14 then .inl (aC 14, cm_ln h a, .inr (.inl (cm_J h a)))
  else if cm_kd h a = 19 then .inr (12, [])
  else if 16 ≤ cm_kd h a then .inl (aC (cm_kd h a), cm_ln h a, .inr (.inr (.inr (.inr fun j => (cm_R h a j).map (base + ·)))))
  else .inl (aC (cm_kd h a), cm_ln h a, .inl (cm_I h a))
def cm_ws (base : Nat) (aC : Nat → ClassId) (h : cmH) : va_W := (List.range (cm_n h)).map fun a => (base + a, cm_el base aC h a)
def cm_tyl (aC : Nat → ClassId) : List (ClassId × FieldType) := [(aC 12, .char), (aC 13, .int), (aC 14, .long), (aC 15, .boolean), (aC 16, .object RX1), (aC 17, .object RX3), (aC 18, .object RX9)]
def cm_rel (base : Nat) (D : va_G) (aC : Nat → ClassId) (h : cmH) (H : Heap) : Prop := va_P D cm_cl (cm_ws base aC h) H
theorem cm_mapset {α : Type} {n k : Nat} {f f' : Nat → α} {y : α} (hk : f' k = y) (ho : ∀ j, j ≠ k → f' j = f j) : ((List.range n).map f).set k y = (List.range n).map f' := by
  apply List.ext_getElem?
  intro j
  rw [List.getElem?_set]
  by_cases hj : k = j
  · subst hj
    simp only [List.length_map, List.length_range, if_true]
    by_cases hn : k < n
    · simp [hn, hk]
    · simp [hn]
  · rw [if_neg hj]
    by_cases hn : j < n
    · simp [hn, ho j (fun e => hj e.symm)]
    · simp [hn]
theorem cm_ws_get {base : Nat} {aC : Nat → ClassId} {h : cmH} {a : Nat} (ha : a < cm_n h) : (cm_ws base aC h)[a]? = some (base + a, cm_el base aC h a) := by simp [cm_ws, ha]
theorem cm_ws_at {base : Nat} {aC : Nat → ClassId} {h : cmH} {a : Nat} {x : Nat × va_E} (ha : (cm_ws base aC h)[a]? = some x) : a < cm_n h ∧ x = (base + a, cm_el base aC h a) := by
  by_cases hn : a < cm_n h
  · rw [cm_ws_get hn] at ha
    exact ⟨hn, (Option.some.inj ha).symm⟩
  · simp [cm_ws, hn] at ha
theorem cm_ws_D {base : Nat} {aC : Nat → ClassId} {h : cmH} : va_D (fun q => base ≤ q) (cm_ws base aC h) := by
  refine ⟨fun i j p q hi hj hpq => ?_, fun k q hk => ?_⟩
  · have h1 := (cm_ws_at hi).2
    have h2 := (cm_ws_at hj).2
    subst h1; subst h2
    have : base + i = base + j := hpq
    omega
  · have h1 := (cm_ws_at hk).2
    subst h1
    exact Nat.le_add_right _ _
theorem cm_ws_set {base : Nat} {aC : Nat → ClassId} {h h' : cmH} {a : Nat} {y : va_E} (hn : cm_n h' = cm_n h) (ha : cm_el base aC h' a = y) (ho : ∀ b, b ≠ a → cm_el base aC h' b = cm_el base aC h b) : (cm_ws base aC h).set a (base + a, y) = cm_ws base aC h' := by
  unfold cm_ws
  rw [hn]
  exact cm_mapset (by rw [ha]) (fun j hj => by rw [ho j hj])
theorem cm_el_mk {base : Nat} {aC : Nat → ClassId} {h : cmH} {kd ln b : Nat} (hb : b < cm_n h) : cm_el base aC (cm_mk h kd ln) b = cm_el base aC h b := by
  have hne : b ≠ h.1.1 := Nat.ne_of_lt hb
  have h1 : cm_kd (cm_mk h kd ln) b = cm_kd h b := by simp [cm_kd, cm_mk, cm_u1, hne]
  have h2 : cm_ln (cm_mk h kd ln) b = cm_ln h b := by simp [cm_ln, cm_mk, cm_u1, hne]
  have h3 : cm_I (cm_mk h kd ln) b = cm_I h b := by funext j; simp [cm_I, cm_mk, cm_row, hne]
  have h4 : cm_J (cm_mk h kd ln) b = cm_J h b := by funext j; simp [cm_J, cm_mk, cm_row, hne]
  have h5 : cm_R (cm_mk h kd ln) b = cm_R h b := by funext j; simp [cm_R, cm_mk, cm_row, hne]
  unfold cm_el cm_gv
  simp only [h1, h2, h3, h4, h5]
theorem cm_ws_push {base : Nat} {aC : Nat → ClassId} {h : cmH} {kd ln : Nat} : cm_ws base aC (cm_mk h kd ln) = cm_ws base aC h ++ [(base + cm_n h, cm_el base aC (cm_mk h kd ln) (cm_n h))] := by
  unfold cm_ws
  have e : cm_n (cm_mk h kd ln) = cm_n h + 1 := rfl
  rw [e, List.range_succ, List.map_append]
  refine congrArg (· ++ _) (List.map_congr_left fun b hb => ?_)
  rw [cm_el_mk (List.mem_range.mp hb)]
/-- locals -/
def cm_lr (base : Nat) (ex : Nat → Nat) (ls : Array Slot) (cl : cmL) (nL : Nat) : Prop := ls.size = nL ∧ lv_wf ls ∧ cl.length = nL ∧ ∀ k v, cm_lg cl k = some v → ls[k]? = some (.val (cm_tr base ex v))
theorem cm_tr_cat (base : Nat) (ex : Nat → Nat) (v : Value) : (cm_tr base ex v).category = v.category := by cases v <;> rfl
theorem cm_lg_lt {cl : cmL} {k : Nat} {v : Value} (h : cm_lg cl k = some v) : k < cl.length := by
  induction cl generalizing k with
  | nil => simp [cm_lg] at h
  | cons a l ih =>
    cases k with
    | zero => simp
    | succ k =>
      have := ih (k := k) (by simpa [cm_lg] using h)
      simp only [List.length_cons]; omega
def cm_as (base : Nat) (ex : Nat → Nat) (cl : cmL) (nL : Nat) : List (Nat × Value) := (List.range nL).filterMap fun k => (cm_lg cl k).map fun v => (k, cm_tr base ex v)
theorem cm_as_mem {base : Nat} {ex : Nat → Nat} {cl : cmL} {nL : Nat} (hl : cl.length = nL) {k : Nat} {v : Value} (h : cm_lg cl k = some v) : (k, cm_tr base ex v) ∈ cm_as base ex cl nL :=
  List.mem_filterMap.mpr ⟨k, List.mem_range.mpr (by rw [← hl]; exact cm_lg_lt h), by rw [h]; rfl⟩
theorem cm_as_of {base : Nat} {ex : Nat → Nat} {cl : cmL} {nL : Nat} {q : Nat × Value} (h : q ∈ cm_as base ex cl nL) : ∃ v, cm_lg cl q.1 = some v ∧ q.2 = cm_tr base ex v := by
  obtain ⟨k, -, hk⟩ := List.mem_filterMap.mp h
  obtain ⟨v, hv, hq⟩ := Option.map_eq_some_iff.mp hk
  subst hq
  exact ⟨v, hv, rfl⟩
theorem cm_lr_has {base : Nat} {ex : Nat → Nat} {ls : Array Slot} {cl : cmL} {nL : Nat} (h : cm_lr base ex ls cl nL) : lv_has ls nL (cm_as base ex cl nL) :=
  ⟨h.1, h.2.1, fun q hq => by
    obtain ⟨v, h1, h2⟩ := cm_as_of hq
    rw [h2]
    exact h.2.2.2 _ _ h1⟩
theorem cm_ls1_len (cl : cmL) (i : Nat) (x : Value) : (cm_ls1 cl i x).length = cl.length := by
  induction cl generalizing i with
  | nil => simp [cm_ls1]
  | cons a l ih =>
    match i with
    | 0 => simp [cm_ls1]
    | 1 => simp [cm_ls1, ih]
    | k + 2 => simp [cm_ls1, ih]
theorem cm_ls2_len (cl : cmL) (i : Nat) (x : Value) : (cm_ls2 cl i x).length = cl.length := by
  induction cl generalizing i with
  | nil => simp [cm_ls2]
  | cons a l ih =>
    match i with
    | 0 => cases l <;> simp [cm_ls2, cm_clr]
    | 1 => simp [cm_ls2, ih]
    | k + 2 => simp [cm_ls2, ih]
theorem cm_ls1_get {cl : cmL} {i k : Nat} {x v : Value} (h : cm_lg (cm_ls1 cl i x) k = some v) : (k = i ∧ v = x) ∨ (k ≠ i ∧ cm_lg cl k = some v ∧ ¬ (k + 1 = i ∧ v.category = 2)) := by
  induction cl generalizing i k with
  | nil => simp [cm_ls1, cm_lg] at h
  | cons a l ih =>
    match i, k with
    | 0, 0 => exact Or.inl ⟨rfl, by simpa [cm_ls1, cm_lg] using h.symm⟩
    | 0, k + 1 => exact Or.inr ⟨by omega, by simpa [cm_ls1, cm_lg] using h, by omega⟩
    | 1, 0 =>
      simp only [cm_ls1, cm_lg] at h
      by_cases hc : cm_isJ a = true
      · rw [if_pos hc] at h; cases h
      · rw [if_neg hc] at h
        exact Or.inr ⟨by omega, by simpa [cm_lg] using h, fun q => hc (by rw [h]; simp [cm_isJ, q.2])⟩
    | 1, k + 1 =>
      simp only [cm_ls1, cm_lg] at h
      rcases ih h with ⟨h1, h2⟩ | ⟨h1, h2, h3⟩
      · exact Or.inl ⟨by omega, h2⟩
      · exact Or.inr ⟨by omega, by simpa [cm_lg] using h2, by omega⟩
    | i + 2, 0 =>
      exact Or.inr ⟨by omega, by simpa [cm_ls1, cm_lg] using h, by omega⟩
    | i + 2, k + 1 =>
      simp only [cm_ls1, cm_lg] at h
      rcases ih h with ⟨h1, h2⟩ | ⟨h1, h2, h3⟩
      · exact Or.inl ⟨by omega, h2⟩
      · exact Or.inr ⟨by omega, by simpa [cm_lg] using h2, fun q => h3 ⟨by omega, q.2⟩⟩
theorem cm_clr_get {l : cmL} {k : Nat} {v : Value} (h : cm_lg (cm_clr l) k = some v) : k ≠ 0 ∧ cm_lg l k = some v := by
  cases l with
  | nil => simp [cm_clr, cm_lg] at h
  | cons a l =>
    cases k with
    | zero => simp [cm_clr, cm_lg] at h
    | succ k => exact ⟨by omega, by simpa [cm_clr, cm_lg] using h⟩
theorem cm_ls2_get {cl : cmL} {i k : Nat} {x v : Value} (h : cm_lg (cm_ls2 cl i x) k = some v) : (k = i ∧ v = x) ∨ (k ≠ i ∧ k ≠ i + 1 ∧ cm_lg cl k = some v ∧ ¬ (k + 1 = i ∧ v.category = 2)) := by
  induction cl generalizing i k with
  | nil => simp [cm_ls2, cm_lg] at h
  | cons a l ih =>
    match i, k with
    | 0, 0 => exact Or.inl ⟨rfl, by simpa [cm_ls2, cm_lg] using h.symm⟩
    | 0, k + 1 =>
      simp only [cm_ls2, cm_lg] at h
      obtain ⟨h1, h2⟩ := cm_clr_get h
      exact Or.inr ⟨by omega, by omega, by simpa [cm_lg] using h2, by omega⟩
    | 1, 0 =>
      simp only [cm_ls2, cm_lg] at h
      by_cases hc : cm_isJ a = true
      · rw [if_pos hc] at h; cases h
      · rw [if_neg hc] at h
        exact Or.inr ⟨by omega, by omega, by simpa [cm_lg] using h, fun q => hc (by rw [h]; simp [cm_isJ, q.2])⟩
    | 1, k + 1 =>
      simp only [cm_ls2, cm_lg] at h
      rcases ih h with ⟨h1, h2⟩ | ⟨h1, h0, h2, h3⟩
      · exact Or.inl ⟨by omega, h2⟩
      · exact Or.inr ⟨by omega, by omega, by simpa [cm_lg] using h2, by omega⟩
    | i + 2, 0 =>
      exact Or.inr ⟨by omega, by omega, by simpa [cm_ls2, cm_lg] using h, by omega⟩
    | i + 2, k + 1 =>
      simp only [cm_ls2, cm_lg] at h
      rcases ih h with ⟨h1, h2⟩ | ⟨h1, h0, h2, h3⟩
      · exact Or.inl ⟨by omega, h2⟩
      · exact Or.inr ⟨by omega, by omega, by simpa [cm_lg] using h2, fun q => h3 ⟨by omega, q.2⟩⟩
theorem cm_lr_st1 {base : Nat} {ex : Nat → Nat} {ls' : Array Slot} {cl : cmL} {nL i : Nat} {x y : Value} (hl : cl.length = nL) (hy : y = cm_tr base ex x)
    (h : lv_has ls' nL ((i, y) :: (cm_as base ex cl nL).filter (fun q => !(q.1 == i) && !(q.1 + 1 == i && q.2.category == 2)))) : cm_lr base ex ls' (cm_ls1 cl i x) nL := by
  refine ⟨h.1, h.2.1, by rw [cm_ls1_len]; exact hl, fun k v hk => ?_⟩
  rcases cm_ls1_get hk with ⟨rfl, rfl⟩ | ⟨h1, h2, h3⟩
  · rw [← hy]
    exact h.2.2 (k, y) List.mem_cons_self
  · refine h.2.2 (k, cm_tr base ex v) (List.mem_cons_of_mem _ (List.mem_filter.mpr ⟨cm_as_mem hl h2, ?_⟩))
    simp only [cm_tr_cat]
    by_cases h4 : k + 1 = i
    · have h5 : ¬ v.category = 2 := fun q => h3 ⟨h4, q⟩
      simp [h1, h5]
    · simp [h1, h4]
theorem cm_lr_st2 {base : Nat} {ex : Nat → Nat} {ls' : Array Slot} {cl : cmL} {nL i : Nat} {x y : Value} (hl : cl.length = nL) (hy : y = cm_tr base ex x)
    (h : lv_has ls' nL ((i, y) :: (cm_as base ex cl nL).filter (fun q => !(q.1 == i) && (!(q.1 == i + 1) && !(q.1 + 1 == i && q.2.category == 2))))) : cm_lr base ex ls' (cm_ls2 cl i x) nL := by
  refine ⟨h.1, h.2.1, by rw [cm_ls2_len]; exact hl, fun k v hk => ?_⟩
  rcases cm_ls2_get hk with ⟨rfl, rfl⟩ | ⟨h1, h0, h2, h3⟩
  · rw [← hy]
    exact h.2.2 (k, y) List.mem_cons_self
  · refine h.2.2 (k, cm_tr base ex v) (List.mem_cons_of_mem _ (List.mem_filter.mpr ⟨cm_as_mem hl h2, ?_⟩))
    simp only [cm_tr_cat]
    by_cases h4 : k + 1 = i
    · have h5 : ¬ v.category = 2 := fun q => h3 ⟨h4, q⟩
      simp [h1, h0, h5]
    · simp [h1, h0, h4]
/-- what holds of the tables at a state -/
def cm_isN (w : Cond) : Bool := match w with
  | .fieldLinkNest _ _ _ _ _ _ => true
  | .methodLinkNest _ _ _ _ => true
  | .castable _ _ => true
  | .declares _ => true
  | _ => false
def cm_G : List Cond := lw_tbl.filter goodWord
def cm_B : List Cond := lw_tbl.filter cm_isN
def cm_env (D : va_G) (aC : Nat → ClassId) (ex : Nat → Nat) (U : State) : Prop := va_K D cm_cl (cm_tyl aC) U ∧ (∀ w ∈ cm_B, va_Nw w U) ∧ (va_AO RX1 U ∧ va_AO RX3 U ∧ va_AO RX9 U) ∧ vk_R RX6 69 "wrcu" (ex 1) U ∧ vk_R RX6 118 "phoink" (ex 2) U ∧ vk_R RX10 210 "wrcu" (ex 1) U
theorem cm_env.warm {D : va_G} {aC : Nat → ClassId} {ex : Nat → Nat} {s U : State} (h : cm_env D aC ex s) (hW : s.WarmedH U.vm) : cm_env D aC ex U := by
  refine ⟨va_K.moved hW.alike h.1, fun w hw => ?_, ⟨va_AO.moved hW.alike h.2.2.1.1, va_AO.moved hW.alike h.2.2.1.2.1, va_AO.moved hW.alike h.2.2.1.2.2⟩, vk_R.warm hW h.2.2.2.1, vk_R.warm hW h.2.2.2.2.1, vk_R.warm hW h.2.2.2.2.2⟩
  have h1 := h.2.1 w hw
  have h2 := (List.mem_filter.mp hw).2
  cases w <;> first | exact va_Nw.warmF hW h1 | exact va_Nw.warmM hW h1 | exact va_Nw.warmC hW h1 | exact va_Nw.warmD hW h1 | (simp [cm_isN] at h2)
/-- what lies below: the script, the two String constants, the statics that the library reads -/
def cm_txt : List (List Int32) := [[119, 114, 99, 117], [112, 104, 111, 105, 110, 107]]
def cm_scr (base : Nat) (ex : Nat → Nat) (sc : cmS) (U : State) (H : Heap) : Prop := va_X (ex 0) sc.1 sc.2 U H ∧ ex 0 < base ∧ base ≤ H.size ∧ (∃ adV : Nat → Nat, vk_S 2 [4, 6] cm_txt (fun i => ex (i + 1)) adV (fun q => base ≤ q) U H) ∧ va_Z "java/lang/String" "COMPACT_STRINGS" "Z" (.int 1) (fun q => base ≤ q) U H ∧ vx_Zq Bundle.tN "UNASSIGNED_STACK" Bundle.steD (fun q => base ≤ q) U H ∧ vx_Zq Bundle.tN "SUPPRESSED_SENTINEL" Bundle.listD (fun q => base ≤ q) U H
theorem cm_scr.keep {base : Nat} {ex : Nat → Nat} {sc : cmS} {s U : State} {H H' : Heap} (h : cm_scr base ex sc s H) (hvm : s.vm.Alike U.vm) (hk : ∀ q, q < base → H'[q]? = H[q]?) (hz : base ≤ H'.size) : cm_scr base ex sc U H' := by
  obtain ⟨⟨scr, h1, h2, h3, h4, h5⟩, hb, hz0, ⟨adV, hS⟩, hZ, hQ1, hQ2⟩ := h
  have hq : ∀ a : Nat, a < H.size → ¬ (fun q => base ≤ q) a → H'[a]? = H[a]? := fun a _ hn => hk a (Nat.not_le.mp hn)
  exact ⟨⟨scr, by rw [hk _ hb]; exact h1, State.isArrayOf_alike hvm h2, h3, h4, h5⟩, hb, hz, ⟨adV, vk_S.moved hvm (hS.kept hq)⟩, va_Z.moved hvm (hZ.kept hq), vx_Zq.moved hvm (hQ1.kept hq), vx_Zq.moved hvm (hQ2.kept hq)⟩
