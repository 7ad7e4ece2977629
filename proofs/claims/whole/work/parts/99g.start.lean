/-! ===== from the law's entry: the words, the constants, the run ===== -/
theorem cm_M222 : cm_M 222 = (x, 12, code, 7, ret) := by
  have hl : cm_ms0.length = 222 := by decide +kernel
  unfold cm_M cm_ms
  rw [List.getD_eq_getElem?_getD, List.getElem?_append_right (by rw [hl]; exact Nat.le_refl _), hl]
  rfl
theorem st_inst : ∀ ci, ci < 12 → Cond.instantiable (cm_ownN ci) (cm_N ci) ∈ lw_tbl := by decide +kernel
theorem st_x12 : (∀ w ∈ u_ws "java/util/NoSuchElementException" TX0 0, w ∈ lw_tbl) ∧ Cond.instantiable "java/util/NoSuchElementException" 6 ∈ lw_tbl := by decide +kernel
section START
variable {s : State} {args : Array Value}
theorem st_known (hts : ∀ w ∈ lw_tbl, w.before args s = true) : ∃ D : va_G, ∀ (c : Nat) (q : vw_C), cm_cl[c]? = some q → u_Kn s q.1 q.2.1 q.2.2 (D.1 c) (D.2 c) := by
  have h : ∀ c : Nat, ∃ d : ClassId × (Nat → Nat), ∀ q : vw_C, cm_cl[c]? = some q → u_Kn s q.1 q.2.1 q.2.2 d.1 d.2 := by
    intro c
    rcases Nat.lt_or_ge c 12 with h | h
    · obtain ⟨g1, g2, -⟩ := cm_class h
      obtain ⟨cC, iS, hK⟩ := u_known (ws := lw_tbl) hts (fun w hw => (List.mem_filter.mp (g2 w hw)).1) (hts _ (st_inst c h))
      refine ⟨(cC, iS), fun q hq => ?_⟩
      cases Option.some.inj (g1.symm.trans hq)
      exact hK
    · rcases Nat.lt_or_ge c 13 with h2 | h2
      · obtain rfl : c = 12 := by omega
        obtain ⟨cC, iS, hK⟩ := u_known (ws := lw_tbl) hts st_x12.1 (hts _ st_x12.2)
        refine ⟨(cC, iS), fun q hq => ?_⟩
        cases Option.some.inj ((show cm_cl[12]? = some ("java/util/NoSuchElementException", TX0, 0) from rfl).symm.trans hq)
        exact hK
      · refine ⟨(0, fun _ => 0), fun q hq => ?_⟩
        have := (List.getElem?_eq_some_iff.mp hq).1
        exact absurd this (by show ¬ c < 13; omega)
  obtain ⟨f, hf⟩ := Classical.axiomOfChoice h
  exact ⟨(fun c => (f c).1, fun c => (f c).2), fun c q hq => hf c q hq⟩
theorem st_prim {ty : FieldType} (h : (Cond.arrayClass ty).before args s = true) (hn : ∀ C, ty ≠ .object C) : ∃ cA : ClassId, ArrOfT s cA ty ∧ va_RA s cA ty := by
  obtain ⟨c, k, comp, h1, h2, h3⟩ := Cond.arrayClass_spec h
  refine ⟨c, fun n z => ⟨fun k q => (by cases q), k, h2, comp, h3⟩, ?_⟩
  cases ty <;> first | exact h1 | exact absurd rfl (hn _)
theorem st_over {C : String} (h : (Cond.arrayOver (.object C)).before args s = true) : ∃ cA : ClassId, ArrOfT s cA (.object C) ∧ va_RA s cA (.object C) := by
  obtain ⟨comp, c, k, h1, h2, h3, h4, h5⟩ := Cond.arrayOver_spec h
  exact ⟨c, fun n z => ⟨fun k q => (by cases q), k, h3, comp, h4⟩, k, comp, h3, h4, h1, h5⟩
theorem st_ao : Cond.arrayOver (.object RX1) ∈ lw_tbl ∧ Cond.arrayOver (.object RX3) ∈ lw_tbl ∧ Cond.arrayOver (.object RX9) ∈ lw_tbl := by decide +kernel
theorem st_ac : Cond.arrayClass .char ∈ lw_tbl ∧ Cond.arrayClass .int ∈ lw_tbl ∧ Cond.arrayClass .long ∈ lw_tbl ∧ Cond.arrayClass .boolean ∈ lw_tbl := by decide +kernel
theorem st_arr (hts : ∀ w ∈ lw_tbl, w.before args s = true) : ∃ aC : Nat → ClassId, ∀ (k : Nat) (q : ClassId × FieldType), (cm_tyl aC)[k]? = some q → ArrOfT s q.1 q.2 ∧ va_RA s q.1 q.2 := by
  obtain ⟨c12, h12⟩ := st_prim (hts _ st_ac.1) (fun C e => by cases e)
  obtain ⟨c13, h13⟩ := st_prim (hts _ st_ac.2.1) (fun C e => by cases e)
  obtain ⟨c14, h14⟩ := st_prim (hts _ st_ac.2.2.1) (fun C e => by cases e)
  obtain ⟨c15, h15⟩ := st_prim (hts _ st_ac.2.2.2) (fun C e => by cases e)
  obtain ⟨c16, h16⟩ := st_over (hts _ st_ao.1)
  obtain ⟨c17, h17⟩ := st_over (hts _ st_ao.2.1)
  obtain ⟨c18, h18⟩ := st_over (hts _ st_ao.2.2)
  refine ⟨fun k => if k = 12 then c12 else if k = 13 then c13 else if k = 14 then c14 else if k = 15 then c15 else if k = 16 then c16 else if k = 17 then c17 else c18, fun k q hk => ?_⟩
  match k, hk with
  | 0, hk => cases hk; exact h12
  | 1, hk => cases hk; exact h13
  | 2, hk => cases hk; exact h14
  | 3, hk => cases hk; exact h15
  | 4, hk => cases hk; exact h16
  | 5, hk => cases hk; exact h17
  | 6, hk => cases hk; exact h18
  | k + 7, hk => cases hk
theorem st_B : ∀ w ∈ cm_B, w.onTables = true := by decide +kernel
theorem st_eqr {t u : Term} {a : Addr} (h : (Cond.eq t u).before args s = true) (ht : t.eval args s none [] s = some (.ref a)) : u.eval args s none [] s = some (.ref a) := by
  cases hu : u.eval args s none [] s with
  | none => simp [Cond.before, Cond.holds, Cond.value, ht, hu] at h
  | some v =>
    cases v <;> simp [Cond.before, Cond.holds, Cond.value, ht, hu] at h
    rw [h]
def st_tm (i : Nat) : Term := if i = 0 then .string "ClogHouse$Reader" 69 else .string "ClogHouse$Reader" 118
theorem st_2 {P : Nat → Prop} (h0 : P 0) (h1 : P 1) : ∀ i, i < 2 → P i := fun i hi => by
  rcases (show i = 0 ∨ i = 1 by omega) with rfl | rfl
  · exact h0
  · exact h1
theorem st_str (hg : (Jvm.Cond.and given_1 narrow_1).before args s = true) : ∃ adK adV : Nat → Nat, vk_S 2 [4, 6] cm_txt adK adV (fun q => s.heap.size ≤ q) s s.heap ∧ (Term.string "ClogHouse$Reader" 69).eval args s none [] s = some (.ref (adK 0)) ∧ (Term.string "ClogHouse$Reader" 118).eval args s none [] s = some (.ref (adK 1)) ∧ (Term.string "ClogHouse" 210).eval args s none [] s = some (.ref (adK 0)) := by
  have hs := flat_of_before _ hg
  obtain ⟨adK, adV, h1, h2⟩ := vk_Sof (args := args) (s := s) (N := 2) (tm := st_tm) (len := [4, 6]) (byt := cm_txt) (A := fun q => s.heap.size ≤ q) (by decide) (st_2 (hs _ (by decide +kernel)) (hs _ (by decide +kernel))) (st_2 (hs _ (by decide +kernel)) (hs _ (by decide +kernel))) (st_2 (hs _ (by decide +kernel)) (hs _ (by decide +kernel))) (st_2 (hs _ (by decide +kernel)) (hs _ (by decide +kernel)))
    (fun i hi j hj => by
      rcases (show i = 0 ∨ i = 1 by omega) with rfl | rfl
      · rcases (show j = 0 ∨ j = 1 ∨ j = 2 ∨ j = 3 by have : j < 4 := hj; omega) with rfl | rfl | rfl | rfl
        · exact hs _ (by decide +kernel)
        · exact hs _ (by decide +kernel)
        · exact hs _ (by decide +kernel)
        · exact hs _ (by decide +kernel)
      · rcases (show j = 0 ∨ j = 1 ∨ j = 2 ∨ j = 3 ∨ j = 4 ∨ j = 5 by have : j < 6 := hj; omega) with rfl | rfl | rfl | rfl | rfl | rfl
        · exact hs _ (by decide +kernel)
        · exact hs _ (by decide +kernel)
        · exact hs _ (by decide +kernel)
        · exact hs _ (by decide +kernel)
        · exact hs _ (by decide +kernel)
        · exact hs _ (by decide +kernel))
    (fun i j hi hj ne => by
      have h : (Cond.not (Cond.eq (st_tm 0) (st_tm 1))).before args s = true := hs _ (by decide +kernel)
      rcases (show (i = 0 ∧ j = 1) ∨ (i = 1 ∧ j = 0) by omega) with ⟨rfl, rfl⟩ | ⟨rfl, rfl⟩
      · exact Or.inl h
      · exact Or.inr h) (fun a ha => Nat.not_le.mpr ha)
  refine ⟨adK, adV, h1, h2 0 (by decide), h2 1 (by decide), st_eqr (t := Term.string "ClogHouse$Reader" 69) (hs _ (by decide +kernel)) (h2 0 (by decide))⟩
theorem st_w : Cond.stringRef RX6 69 "wrcu" ∈ lw_tbl ∧ Cond.stringRef RX6 118 "phoink" ∈ lw_tbl ∧ Cond.stringRef RX10 210 "wrcu" ∈ lw_tbl ∧ Cond.laysStatic "java/lang/String" "COMPACT_STRINGS" "Z" ∈ lw_tbl ∧ Cond.initialized "java/lang/String" ∈ lw_tbl ∧ Cond.laysStatic Bundle.tN "UNASSIGNED_STACK" Bundle.steD ∈ lw_tbl ∧ Cond.laysStatic Bundle.tN "SUPPRESSED_SENTINEL" Bundle.listD ∈ lw_tbl ∧ Cond.initialized Bundle.tN ∈ lw_tbl := by decide +kernel
end START
