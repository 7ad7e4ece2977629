/-! ===== one instruction: the machine does what the clean machine does ===== -/
theorem cm_arrG : ∀ ty, ty = FieldType.char ∨ ty = FieldType.int ∨ ty = FieldType.long ∨ ty = FieldType.boolean → Cond.arrayClass ty ∈ cm_G := by
  intro ty h
  rcases h with rfl | rfl | rfl | rfl
  · exact cm_G_of (by decide +kernel) rfl
  · exact cm_G_of (by decide +kernel) rfl
  · exact cm_G_of (by decide +kernel) rfl
  · exact cm_G_of (by decide +kernel) rfl
theorem cm_nofl : (List.range 12).all (fun ci => (List.range (cm_N ci)).all (fun k => decide (cm_ty ci k ≠ .float ∧ cm_ty ci k ≠ .double))) = true := by decide +kernel
section CMB
variable {p : Program} {l : Launch} {e : Env} {R : Room} {s : State} {m : MethodId} {args : Array Value} {below : List Frame} {meth : Method} {c : Code} {H : Heap} {locs : List Loc} {cells slots : Nat} {Q : State → Prop}
variable {M base : Nat} {D : va_G} {aC : Nat → ClassId} {ex : Nat → Nat} {sc : cmS} {h h' : cmH} {pc : Nat} {ls : Array Slot} {rest : List Value}
/-- what follows -/
def cm_k (p : Program) (l : Launch) (e : Env) (R : Room) (s : State) (m : MethodId) (args : Array Value) (below : List Frame) (meth : Method) (c : Code) (Q : State → Prop) (base : Nat) (D : va_G) (aC : Nat → ClassId) (ex : Nat → Nat) (nL pc : Nat) (cl : cmL) (st : List Value) (h : cmH) (cells slots : Nat) : Prop :=
  ∀ (ls : Array Slot) (H : Heap) (locs : List Loc), cm_rel base D aC h H → va_S (fun q => base ≤ q) s.heap H locs → cm_lr base ex ls cl nL → W p l e R s m args below meth c H locs cells slots Q (F0 m pc ls (st.map (cm_tr base ex)))
theorem cm_arrs (F : cm_fix p s m args meth c M base D aC ex sc) (k : Nat) {q : ClassId × FieldType} (hq : (cm_tyl aC)[k]? = some q) : ArrOfT s q.1 q.2 ∧ va_RA s q.1 q.2 := F.2.2.2.2.2.2.2.2.1.1.2 k q hq
/-- newarray -/
theorem cm_newa (F : cm_fix p s m args meth c M base D aC ex sc) (hrel : cm_rel base D aC h H) (hS : va_S (fun q => base ≤ q) s.heap H locs) (hcn : s.heap.size + cells = base + cm_n h) {t : ArrayType} {kd tp : Nat} (ht : (cm_tyl aC)[tp]? = some (aC kd, newarray.typeOf t)) {x : Int32} (hx0 : ¬ x < 0) (hxm : x.toNatClampNeg ≤ 60000000) (hat : ∀ H1 : Heap, H1[base + cm_n h]? = some (arrV (aC kd) x.toNatClampNeg (fun _ => defaultValue (newarray.typeOf t))) → va_at D cm_cl (base + cm_n h, cm_el base aC (cm_mk h kd x.toNatClampNeg) (cm_n h)) H1)
    (hRc : cells + 1 ≤ R.cells) (hRs : slots + x.toNatClampNeg ≤ R.slots) (harr : Cond.arrayClass (newarray.typeOf t) ∈ cm_G) (hd : decode (cm_M M).2.2.1 pc = .ok (.newarray t, 2))
    (kk : ∀ (H' : Heap), cm_rel base D aC (cm_mk h kd x.toNatClampNeg) H' → va_S (fun q => base ≤ q) s.heap H' locs → W p l e R s m args below meth c H' locs (cells + 1) (slots + x.toNatClampNeg) Q (F0 m (pc + 2) ls (.ref (base + cm_n h) :: rest))) : W p l e R s m args below meth c H locs cells slots Q (F0 m pc ls (.int x :: rest)) := by
  obtain ⟨hx, hb, hml, hr, hown, hts, hlo, hnm, henv, hbs, hsc⟩ := id F
  refine cm_sz fun hu => ?_
  have hz := cm_size hrel hS hbs hcn hu
  refine va_newaK hx hb (hts _ harr) rfl hd rfl hx0 rfl (by cases t <;> simp [newarray.typeOf, componentBytes] <;> omega) hRc hRs hz fun H1 cA e1 z1 o1 hAr hNm => ?_
  have hRA := (cm_arrs F tp ht).2
  have hcA : s.vm.findClass ("[" ++ (newarray.typeOf t).toString) = some (aC kd) := by
    cases t <;> exact hRA
  cases hNm.symm.trans hcA
  exact kk H1 (cm_push hrel hz (fun q hq => o1 q (by rw [← hz]; exact hq)) (hat H1 e1)) (cm_pushS hS (by rw [z1, hz]) (fun q hq => o1 q (by rw [← hz]; exact hq)))
/-- anewarray -/
theorem cm_newq (F : cm_fix p s m args meth c M base D aC ex sc) (hrel : cm_rel base D aC h H) (hS : va_S (fun q => base ≤ q) s.heap H locs) (hcn : s.heap.size + cells = base + cm_n h) {ix ci kd tp : Nat} (hci : cm_cC (cm_M M).2.1 ix = some ci) (ht : (cm_tyl aC)[tp]? = some (aC kd, .object (cm_ownN ci))) (hAO : va_AO (cm_ownN ci) s) (hk16 : 16 ≤ kd ∧ kd ≤ 18) {x : Int32} (hx0 : ¬ x < 0) (hxm : x.toNatClampNeg ≤ 60000000)
    (hRc : cells + 1 ≤ R.cells) (hRs : slots + x.toNatClampNeg ≤ R.slots) (hd : decode (cm_M M).2.2.1 pc = .ok (.anewarray ix, 3))
    (kk : ∀ (H' : Heap), cm_rel base D aC (cm_mk h kd x.toNatClampNeg) H' → va_S (fun q => base ≤ q) s.heap H' locs → W p l e R s m args below meth c H' locs (cells + 1) (slots + x.toNatClampNeg) Q (F0 m (pc + 3) ls (.ref (base + cm_n h) :: rest))) : W p l e R s m args below meth c H locs cells slots Q (F0 m pc ls (.int x :: rest)) := by
  obtain ⟨hx, hb, hml, hr, hown, hts, hlo, hnm, henv, hbs, hsc⟩ := id F
  refine cm_sz fun hu => ?_
  have hz := cm_size hrel hS hbs hcn hu
  refine W.anew hx hb hown (hts _ (cm_cC_spec hci).2.1) (va_AO.use hAO) rfl hd rfl hx0 (by omega) hRc hRs fun cA kA comp f1 f2 f3 f4 => ?_
  obtain ⟨kA', comp', -, -, -, hcA⟩ := (cm_arrs F tp ht).2
  cases f1.symm.trans hcA
  generalize hH1 : H.push ({ cls := aC kd, slots := Array.replicate x.toNatClampNeg .null, vm := .none } : Cell) = H1
  have z1 : H1.size = H.size + 1 := by rw [← hH1, Array.size_push]
  have e1 : H1[H.size]? = some (arrV (aC kd) x.toNatClampNeg (fun _ => .null)) := by rw [← hH1, Array.getElem?_push_size, ← arrV_new]
  have o1 : ∀ q : Nat, q < H.size → H1[q]? = H[q]? := fun q hq => by rw [← hH1, Array.getElem?_push, if_neg (Nat.ne_of_lt hq)]
  rw [hz] at e1 ⊢
  refine kk H1 (cm_push hrel hz o1 ?_) (cm_pushS hS z1 o1)
  have hkd : cm_kd (cm_mk h kd x.toNatClampNeg) (cm_n h) = kd := by simp [cm_kd, cm_mk, cm_u1, cm_n]
  have hln : cm_ln (cm_mk h kd x.toNatClampNeg) (cm_n h) = x.toNatClampNeg := by simp [cm_ln, cm_mk, cm_u1, cm_n]
  rw [cm_el_R (by rw [hkd]; exact hk16.1) (by rw [hkd]; omega), hkd, hln]
  show H1[base + cm_n h]? = some (vp_cell _ _)
  rw [vp_cell_q, e1]
  simp [cm_R, cm_mk, cm_row, cm_n, va_rf]
/-- new -/
theorem cm_newo (F : cm_fix p s m args meth c M base D aC ex sc) (hrel : cm_rel base D aC h H) (hS : va_S (fun q => base ≤ q) s.heap H locs) (hcn : s.heap.size + cells = base + cm_n h) {ix ci : Nat} (hci : cm_cC (cm_M M).2.1 ix = some ci)
    (hRc : cells + 1 ≤ R.cells) (hRs : slots + cm_N ci ≤ R.slots) (hd : decode (cm_M M).2.2.1 pc = .ok (.new ix, 3))
    (kk : ∀ (H' : Heap), cm_rel base D aC (cm_mk h ci (cm_N ci)) H' → va_S (fun q => base ≤ q) s.heap H' locs → W p l e R s m args below meth c H' locs (cells + 1) (slots + cm_N ci) Q (F0 m (pc + 3) ls (.ref (base + cm_n h) :: rest))) : W p l e R s m args below meth c H locs cells slots Q (F0 m pc ls rest) := by
  obtain ⟨hx, hb, hml, hr, hown, hts, hlo, hnm, henv, hbs, hsc⟩ := id F
  obtain ⟨h1, w1, w2, w3⟩ := cm_cC_spec hci
  obtain ⟨g1, g2, g3, g4, g5⟩ := cm_class h1
  refine cm_sz fun hu => ?_
  have hz := cm_size hrel hS hbs hcn hu
  have hKn := henv.1.1 ci _ g1
  refine W.newcK hx hb hown (hts _ w1) (hts _ w2) (hts _ w3) rfl hd hRc hRs hKn.2.1 hz fun H1 kC hkC e1 z1 o1 => ?_
  refine kk H1 (cm_push hrel hz (fun q hq => o1 q (by rw [← hz]; exact hq)) ?_) (cm_pushS hS (by rw [z1, hz]) (fun q hq => o1 q (by rw [← hz]; exact hq)))
  have hkd : cm_kd (cm_mk h ci (cm_N ci)) (cm_n h) = ci := by simp [cm_kd, cm_mk, cm_u1, cm_n]
  rw [cm_el_obj (by rw [hkd]; exact h1), hkd]
  refine ⟨_, g1, (u_born (cm_ty ci) hts g2 hKn hkC e1 g3).to fun k hk => ?_⟩
  have hk : k < cm_N ci := hk
  simp only [vp_V, List.getD_eq_getElem?_getD, List.getElem?_map, List.getElem?_range hk, Option.map_some, Option.getD_some]
  have hnf := List.all_eq_true.mp (List.all_eq_true.mp cm_nofl ci (List.mem_range.mpr h1)) k (List.mem_range.mpr hk)
  simp only [decide_eq_true_eq] at hnf
  cases hty : cm_ty ci k
  case float => exact absurd hty hnf.1
  case double => exact absurd hty hnf.2
  all_goals simp [cm_gv, cm_tr, defaultValue, cm_I, cm_J, cm_R, cm_mk, cm_row, cm_n, va_rf]
/-- one instruction that neither calls nor returns -/
theorem cm_sim1 (F : cm_fix p s m args meth c M base D aC ex sc) (hrel : cm_rel base D aC h H) (hS : va_S (fun q => base ≤ q) s.heap H locs) {cl cl' : cmL} (hl : cm_lr base ex ls cl (cm_M M).2.2.2.1) (hcn : s.heap.size + cells = base + cm_n h) {i : Instr} {n pc' : Nat} {st st' : List Value} (hd : decode (cm_M M).2.2.1 pc = .ok (i, n)) (hlk : cm_lk i n = true) (hst : cm_st sc M i pc n cl st h = some (pc', cl', st', h'))
    {cells' slots' : Nat} (hc : cells' = cells + (cm_n h' - cm_n h)) (hs : slots' = slots + (cm_sl h' - cm_sl h)) (hRc : cells' ≤ R.cells) (hRs : slots' ≤ R.slots)
    (kk : cm_k p l e R s m args below meth c Q base D aC ex (cm_M M).2.2.2.1 pc' cl' st' h' cells' slots') : W p l e R s m args below meth c H locs cells slots Q (F0 m pc ls (st.map (cm_tr base ex))) := by
  obtain ⟨hx, hb, hml, hr, hown, hts, hlo, hnm, henv, hbs, hsc⟩ := id F
  have e0 : cm_n h' = cm_n h → cm_sl h' = cm_sl h → cells = cells' ∧ slots = slots' := fun a b => ⟨by omega, by omega⟩
  have hlen := hl.2.2.1
  cases i with
  | iconst v => obtain rfl : n = 1 := eq_of_beq hlk
                cases hst; obtain ⟨rfl, rfl⟩ := e0 rfl rfl
                exact lv_iconst hx hb hd rfl (kk ls H locs hrel hS hl)
  | bipush v => obtain rfl : n = 2 := eq_of_beq hlk
                cases hst; obtain ⟨rfl, rfl⟩ := e0 rfl rfl
                exact lv_bipush hx hb hd rfl (kk ls H locs hrel hS hl)
  | sipush v => obtain rfl : n = 3 := eq_of_beq hlk
                cases hst; obtain ⟨rfl, rfl⟩ := e0 rfl rfl
                exact lv_sipush hx hb hd rfl (kk ls H locs hrel hS hl)
  | lconst v => obtain rfl : n = 1 := eq_of_beq hlk
                cases hst; obtain ⟨rfl, rfl⟩ := e0 rfl rfl
                exact lv_lconst hx hb hd rfl (kk ls H locs hrel hS hl)
  | aconst_null => obtain rfl : n = 1 := eq_of_beq hlk
                   cases hst; obtain ⟨rfl, rfl⟩ := e0 rfl rfl
                   exact lv_null hx hb hd (kk ls H locs hrel hS hl)
  | ldc ix =>
    obtain rfl : n = 2 := eq_of_beq hlk
    simp only [cm_st] at hst
    split at hst
    · rename_i v hv
      cases hst; obtain ⟨rfl, rfl⟩ := e0 rfl rfl
      exact lv_ldc hx hb hown (hts _ (cm_cI_spec hv)) hd (kk ls H locs hrel hS hl)
    · split at hst
      · rename_i j hj
        cases hst; obtain ⟨rfl, rfl⟩ := e0 rfl rfl
        unfold cm_cS at hj
        split at hj
        · rename_i hcc
          cases hj
          rcases hcc with ⟨q1, rfl⟩ | ⟨q1, rfl⟩
          · rw [q1] at hown
            exact va_ldcS hx hb (own := RX6) hown henv.2.2.2.1 hd (kk ls H locs hrel hS hl)
          · rw [q1] at hown
            exact va_ldcS hx hb (own := RX10) hown henv.2.2.2.2.2 hd (kk ls H locs hrel hS hl)
        · split at hj
          · rename_i hcc
            cases hj
            obtain ⟨q1, rfl⟩ := hcc
            rw [q1] at hown
            exact va_ldcS hx hb (own := RX6) hown henv.2.2.2.2.1 hd (kk ls H locs hrel hS hl)
          · cases hj
      · cases hst
  | ldc_w ix =>
    obtain rfl : n = 3 := eq_of_beq hlk
    simp only [cm_st] at hst
    split at hst
    · rename_i v hv
      cases hst; obtain ⟨rfl, rfl⟩ := e0 rfl rfl
      exact lv_ldcw hx hb hown (hts _ (cm_cI_spec hv)) hd (kk ls H locs hrel hS hl)
    · cases hst
  | ldc2_w ix =>
    obtain rfl : n = 3 := eq_of_beq hlk
    simp only [cm_st] at hst
    split at hst
    · rename_i v hv
      cases hst; obtain ⟨rfl, rfl⟩ := e0 rfl rfl
      exact lv_ldc2 hx hb hown (hts _ (cm_cJ_spec hv)) hd (kk ls H locs hrel hS hl)
    · cases hst
  | iload_n k =>
    obtain rfl : n = 1 := eq_of_beq hlk
    obtain ⟨x, h1, h2⟩ := cm_oi_inv hst
    cases h2; obtain ⟨rfl, rfl⟩ := e0 rfl rfl
    exact lv_iload_n hx hb hd rfl (hl.2.2.2 _ _ h1) (kk ls H locs hrel hS hl)
  | iload k =>
    obtain rfl : n = 2 := eq_of_beq hlk
    obtain ⟨x, h1, h2⟩ := cm_oi_inv hst
    cases h2; obtain ⟨rfl, rfl⟩ := e0 rfl rfl
    exact lv_iload hx hb hd (hl.2.2.2 _ _ h1) (kk ls H locs hrel hS hl)
  | lload_n k =>
    obtain rfl : n = 1 := eq_of_beq hlk
    obtain ⟨x, h1, h2⟩ := cm_oj_inv hst
    cases h2; obtain ⟨rfl, rfl⟩ := e0 rfl rfl
    exact lv_lload_n hx hb hd rfl (hl.2.2.2 _ _ h1) (kk ls H locs hrel hS hl)
  | lload k =>
    obtain rfl : n = 2 := eq_of_beq hlk
    obtain ⟨x, h1, h2⟩ := cm_oj_inv hst
    cases h2; obtain ⟨rfl, rfl⟩ := e0 rfl rfl
    exact lv_lload hx hb hd (hl.2.2.2 _ _ h1) (kk ls H locs hrel hS hl)
  | aload_n k =>
    obtain rfl : n = 1 := eq_of_beq hlk
    simp only [cm_st] at hst
    rcases cm_oa_inv hst with ⟨x, h1, h2⟩ | ⟨h1, h2⟩ | ⟨x, h1, h2⟩
    · cases h2; obtain ⟨rfl, rfl⟩ := e0 rfl rfl
      exact lv_aload_n hx hb hd rfl (hl.2.2.2 _ _ h1) (kk ls H locs hrel hS hl)
    · cases h2; obtain ⟨rfl, rfl⟩ := e0 rfl rfl
      exact lv_aload_nN hx hb hd rfl (hl.2.2.2 _ _ h1) (kk ls H locs hrel hS hl)
    · cases h2; obtain ⟨rfl, rfl⟩ := e0 rfl rfl
      exact lv_aload_n hx hb hd rfl (hl.2.2.2 _ _ h1) (kk ls H locs hrel hS hl)
  | aload k =>
    obtain rfl : n = 2 := eq_of_beq hlk
    simp only [cm_st] at hst
    rcases cm_oa_inv hst with ⟨x, h1, h2⟩ | ⟨h1, h2⟩ | ⟨x, h1, h2⟩
    · cases h2; obtain ⟨rfl, rfl⟩ := e0 rfl rfl
      exact lv_aload hx hb hd (hl.2.2.2 _ _ h1) (kk ls H locs hrel hS hl)
    · cases h2; obtain ⟨rfl, rfl⟩ := e0 rfl rfl
      exact lv_aloadN hx hb hd (hl.2.2.2 _ _ h1) (kk ls H locs hrel hS hl)
    · cases h2; obtain ⟨rfl, rfl⟩ := e0 rfl rfl
      exact lv_aload hx hb hd (hl.2.2.2 _ _ h1) (kk ls H locs hrel hS hl)
  | istore_n k =>
    obtain rfl : n = 1 := eq_of_beq hlk
    obtain ⟨x, r, rfl, h2⟩ := cm_i1_inv hst
    obtain ⟨hk, h2⟩ := cm_if_inv h2
    cases h2; obtain ⟨rfl, rfl⟩ := e0 rfl rfl
    exact lv_istore_n hx hb hd rfl (cm_lr_has hl) (by rw [← hlen]; exact hk) rfl fun ls' hl' => kk ls' H locs hrel hS (cm_lr_st1 hlen rfl hl')
  | istore k =>
    obtain rfl : n = 2 := eq_of_beq hlk
    obtain ⟨x, r, rfl, h2⟩ := cm_i1_inv hst
    obtain ⟨hk, h2⟩ := cm_if_inv h2
    cases h2; obtain ⟨rfl, rfl⟩ := e0 rfl rfl
    exact lv_istore hx hb hd (cm_lr_has hl) (by rw [← hlen]; exact hk) rfl fun ls' hl' => kk ls' H locs hrel hS (cm_lr_st1 hlen rfl hl')
  | lstore_n k =>
    obtain rfl : n = 1 := eq_of_beq hlk
    obtain ⟨x, r, rfl, h2⟩ := cm_j1_inv hst
    obtain ⟨hk, h2⟩ := cm_if_inv h2
    cases h2; obtain ⟨rfl, rfl⟩ := e0 rfl rfl
    exact lv_lstore_n hx hb hd rfl (cm_lr_has hl) (by rw [← hlen]; exact hk) rfl fun ls' hl' => kk ls' H locs hrel hS (cm_lr_st2 hlen rfl hl')
  | lstore k =>
    obtain rfl : n = 2 := eq_of_beq hlk
    obtain ⟨x, r, rfl, h2⟩ := cm_j1_inv hst
    obtain ⟨hk, h2⟩ := cm_if_inv h2
    cases h2; obtain ⟨rfl, rfl⟩ := e0 rfl rfl
    exact lv_lstore hx hb hd (cm_lr_has hl) (by rw [← hlen]; exact hk) rfl fun ls' hl' => kk ls' H locs hrel hS (cm_lr_st2 hlen rfl hl')
  | astore_n k =>
    obtain rfl : n = 1 := eq_of_beq hlk
    simp only [cm_st] at hst
    rcases cm_va1_inv hst with ⟨x, r, rfl, h2⟩ | ⟨r, rfl, h2⟩
    · obtain ⟨hk, h2⟩ := cm_if_inv h2
      cases h2; obtain ⟨rfl, rfl⟩ := e0 rfl rfl
      exact lv_astore_n hx hb hd rfl (cm_lr_has hl) (by rw [← hlen]; exact hk) rfl fun ls' hl' => kk ls' H locs hrel hS (cm_lr_st1 hlen rfl hl')
    · obtain ⟨hk, h2⟩ := cm_if_inv h2
      cases h2; obtain ⟨rfl, rfl⟩ := e0 rfl rfl
      exact lv_astore_nN hx hb hd rfl (cm_lr_has hl) (by rw [← hlen]; exact hk) rfl fun ls' hl' => kk ls' H locs hrel hS (cm_lr_st1 hlen rfl hl')
  | astore k =>
    obtain rfl : n = 2 := eq_of_beq hlk
    simp only [cm_st] at hst
    rcases cm_va1_inv hst with ⟨x, r, rfl, h2⟩ | ⟨r, rfl, h2⟩
    · obtain ⟨hk, h2⟩ := cm_if_inv h2
      cases h2; obtain ⟨rfl, rfl⟩ := e0 rfl rfl
      exact lv_astore hx hb hd (cm_lr_has hl) (by rw [← hlen]; exact hk) rfl fun ls' hl' => kk ls' H locs hrel hS (cm_lr_st1 hlen rfl hl')
    · obtain ⟨hk, h2⟩ := cm_if_inv h2
      cases h2; obtain ⟨rfl, rfl⟩ := e0 rfl rfl
      exact lv_astoreN hx hb hd (cm_lr_has hl) (by rw [← hlen]; exact hk) rfl fun ls' hl' => kk ls' H locs hrel hS (cm_lr_st1 hlen rfl hl')
  | iinc k d =>
    obtain rfl : n = 3 := eq_of_beq hlk
    obtain ⟨x, h1, h2⟩ := cm_oi_inv hst
    obtain ⟨hk, h2⟩ := cm_if_inv h2
    cases h2; obtain ⟨rfl, rfl⟩ := e0 rfl rfl
    obtain ⟨j, hj⟩ := List.getElem?_of_mem (cm_as_mem (base := base) (ex := ex) hlen h1)
    exact lv_iinc hx hb hd (cm_lr_has hl) hj rfl (by rw [← hlen]; exact hk) rfl fun ls' hl' => kk ls' H locs hrel hS (cm_lr_st1 hlen rfl hl')
  | iadd =>
    obtain rfl : n = 1 := eq_of_beq hlk
    obtain ⟨a, b, r, rfl, h2⟩ := cm_ii_inv hst
    cases h2; obtain ⟨rfl, rfl⟩ := e0 rfl rfl
    exact lv_iadd hx hb hd (kk ls H locs hrel hS hl)
  | isub =>
    obtain rfl : n = 1 := eq_of_beq hlk
    obtain ⟨a, b, r, rfl, h2⟩ := cm_ii_inv hst
    cases h2; obtain ⟨rfl, rfl⟩ := e0 rfl rfl
    exact lv_isub hx hb hd (kk ls H locs hrel hS hl)
  | imul =>
    obtain rfl : n = 1 := eq_of_beq hlk
    obtain ⟨a, b, r, rfl, h2⟩ := cm_ii_inv hst
    cases h2; obtain ⟨rfl, rfl⟩ := e0 rfl rfl
    exact lv_imul hx hb hd (kk ls H locs hrel hS hl)
  | iand =>
    obtain rfl : n = 1 := eq_of_beq hlk
    obtain ⟨a, b, r, rfl, h2⟩ := cm_ii_inv hst
    cases h2; obtain ⟨rfl, rfl⟩ := e0 rfl rfl
    exact lv_iand hx hb hd (kk ls H locs hrel hS hl)
  | ior =>
    obtain rfl : n = 1 := eq_of_beq hlk
    obtain ⟨a, b, r, rfl, h2⟩ := cm_ii_inv hst
    cases h2; obtain ⟨rfl, rfl⟩ := e0 rfl rfl
    exact lv_ior hx hb hd (kk ls H locs hrel hS hl)
  | ishl =>
    obtain rfl : n = 1 := eq_of_beq hlk
    obtain ⟨a, b, r, rfl, h2⟩ := cm_ii_inv hst
    cases h2; obtain ⟨rfl, rfl⟩ := e0 rfl rfl
    exact lv_ishl hx hb hd (kk ls H locs hrel hS hl)
  | ishr =>
    obtain rfl : n = 1 := eq_of_beq hlk
    obtain ⟨a, b, r, rfl, h2⟩ := cm_ii_inv hst
    cases h2; obtain ⟨rfl, rfl⟩ := e0 rfl rfl
    exact lv_ishr hx hb hd (kk ls H locs hrel hS hl)
  | iushr =>
    obtain rfl : n = 1 := eq_of_beq hlk
    obtain ⟨a, b, r, rfl, h2⟩ := cm_ii_inv hst
    cases h2; obtain ⟨rfl, rfl⟩ := e0 rfl rfl
    exact lv_iushr hx hb hd rfl (kk ls H locs hrel hS hl)
  | ladd =>
    obtain rfl : n = 1 := eq_of_beq hlk
    obtain ⟨a, b, r, rfl, h2⟩ := cm_jj_inv hst
    cases h2; obtain ⟨rfl, rfl⟩ := e0 rfl rfl
    exact lv_ladd hx hb hd (kk ls H locs hrel hS hl)
  | lsub =>
    obtain rfl : n = 1 := eq_of_beq hlk
    obtain ⟨a, b, r, rfl, h2⟩ := cm_jj_inv hst
    cases h2; obtain ⟨rfl, rfl⟩ := e0 rfl rfl
    exact lv_lsub hx hb hd (kk ls H locs hrel hS hl)
  | lmul =>
    obtain rfl : n = 1 := eq_of_beq hlk
    obtain ⟨a, b, r, rfl, h2⟩ := cm_jj_inv hst
    cases h2; obtain ⟨rfl, rfl⟩ := e0 rfl rfl
    exact lv_lmul hx hb hd (kk ls H locs hrel hS hl)
  | lcmp =>
    obtain rfl : n = 1 := eq_of_beq hlk
    obtain ⟨a, b, r, rfl, h2⟩ := cm_jj_inv hst
    cases h2; obtain ⟨rfl, rfl⟩ := e0 rfl rfl
    exact W.lcmp hx hb hd (kk ls H locs hrel hS hl)
  | idiv =>
    obtain rfl : n = 1 := eq_of_beq hlk
    obtain ⟨a, b, r, rfl, h2⟩ := cm_ii_inv hst
    split at h2
    · cases h2
    · rename_i hne
      cases h2; obtain ⟨rfl, rfl⟩ := e0 rfl rfl
      exact lv_idiv hx hb hd hne (kk ls H locs hrel hS hl)
  | irem =>
    obtain rfl : n = 1 := eq_of_beq hlk
    obtain ⟨a, b, r, rfl, h2⟩ := cm_ii_inv hst
    split at h2
    · cases h2
    · rename_i hne
      cases h2; obtain ⟨rfl, rfl⟩ := e0 rfl rfl
      exact lv_irem hx hb hd hne (kk ls H locs hrel hS hl)
  | ldiv =>
    obtain rfl : n = 1 := eq_of_beq hlk
    obtain ⟨a, b, r, rfl, h2⟩ := cm_jj_inv hst
    split at h2
    · cases h2
    · rename_i hne
      cases h2; obtain ⟨rfl, rfl⟩ := e0 rfl rfl
      exact lv_ldiv hx hb hd hne (kk ls H locs hrel hS hl)
  | lrem =>
    obtain rfl : n = 1 := eq_of_beq hlk
    obtain ⟨a, b, r, rfl, h2⟩ := cm_jj_inv hst
    split at h2
    · cases h2
    · rename_i hne
      cases h2; obtain ⟨rfl, rfl⟩ := e0 rfl rfl
      exact lv_lrem hx hb hd hne (kk ls H locs hrel hS hl)
  | i2l =>
    obtain rfl : n = 1 := eq_of_beq hlk
    obtain ⟨a, r, rfl, h2⟩ := cm_i1_inv hst
    cases h2; obtain ⟨rfl, rfl⟩ := e0 rfl rfl
    exact lv_i2l hx hb hd rfl (kk ls H locs hrel hS hl)
  | l2i =>
    obtain rfl : n = 1 := eq_of_beq hlk
    obtain ⟨a, r, rfl, h2⟩ := cm_j1_inv hst
    cases h2; obtain ⟨rfl, rfl⟩ := e0 rfl rfl
    exact lv_l2i hx hb hd rfl (kk ls H locs hrel hS hl)
  | i2c =>
    obtain rfl : n = 1 := eq_of_beq hlk
    obtain ⟨a, r, rfl, h2⟩ := cm_i1_inv hst
    cases h2; obtain ⟨rfl, rfl⟩ := e0 rfl rfl
    exact lv_i2c hx hb hd rfl (kk ls H locs hrel hS hl)
  | dup =>
    obtain rfl : n = 1 := eq_of_beq hlk
    simp only [cm_st] at hst
    split at hst
    · obtain ⟨hv, h2⟩ := cm_if_inv hst
      cases h2; obtain ⟨rfl, rfl⟩ := e0 rfl rfl
      exact lv_dup hx hb hd (by rw [cm_tr_cat]; exact hv) (kk ls H locs hrel hS hl)
    · cases hst
  | pop =>
    obtain rfl : n = 1 := eq_of_beq hlk
    simp only [cm_st] at hst
    split at hst
    · obtain ⟨hv, h2⟩ := cm_if_inv hst
      cases h2; obtain ⟨rfl, rfl⟩ := e0 rfl rfl
      exact lv_pop hx hb hd (by rw [cm_tr_cat]; exact hv) (kk ls H locs hrel hS hl)
    · cases hst
  | dup2 =>
    obtain rfl : n = 1 := eq_of_beq hlk
    simp only [cm_st] at hst
    split at hst
    · obtain ⟨hv, h2⟩ := cm_if_inv hst
      cases h2; obtain ⟨rfl, rfl⟩ := e0 rfl rfl
      exact lv_dup2_11 hx hb hd (by rw [cm_tr_cat]; exact hv.1) (by rw [cm_tr_cat]; exact hv.2) (kk ls H locs hrel hS hl)
    · cases hst
  | goto off =>
    obtain rfl : n = 3 := eq_of_beq hlk
    obtain ⟨ht, rfl, rfl, rfl⟩ := cm_br_inv hst
    obtain ⟨rfl, rfl⟩ := e0 rfl rfl
    exact lv_goto hx hb hd ht (kk ls H locs hrel hS hl)
  | ifCond o off =>
    obtain rfl : n = 3 := eq_of_beq hlk
    cases o
    case eq =>
      obtain ⟨a, r, rfl, h2⟩ := cm_i1_inv hst
      · obtain ⟨tgt, ht, rfl, rfl, rfl, ⟨hcd, rfl⟩ | ⟨hcd, rfl⟩⟩ := cm_cb_inv h2
        · obtain ⟨rfl, rfl⟩ := e0 rfl rfl
          exact lv_if_eq hx hb hd ht (fun _ => kk ls H locs hrel hS hl) (fun q => by first | exact absurd hcd q | exact absurd q hcd)
        · obtain ⟨rfl, rfl⟩ := e0 rfl rfl
          exact lv_if_eq hx hb hd ht (fun q => by first | exact absurd q hcd | exact absurd hcd q) (fun q => kk ls H locs hrel hS hl)
    case ne =>
      obtain ⟨a, r, rfl, h2⟩ := cm_i1_inv hst
      · obtain ⟨tgt, ht, rfl, rfl, rfl, ⟨hcd, rfl⟩ | ⟨hcd, rfl⟩⟩ := cm_cb_inv h2
        · obtain ⟨rfl, rfl⟩ := e0 rfl rfl
          exact lv_if_ne hx hb hd ht (fun _ => kk ls H locs hrel hS hl) (fun q => by first | exact absurd hcd q | exact absurd q hcd)
        · obtain ⟨rfl, rfl⟩ := e0 rfl rfl
          exact lv_if_ne hx hb hd ht (fun q => by first | exact absurd q hcd | exact absurd hcd q) (fun q => kk ls H locs hrel hS hl)
    case lt =>
      obtain ⟨a, r, rfl, h2⟩ := cm_i1_inv hst
      · obtain ⟨tgt, ht, rfl, rfl, rfl, ⟨hcd, rfl⟩ | ⟨hcd, rfl⟩⟩ := cm_cb_inv h2
        · obtain ⟨rfl, rfl⟩ := e0 rfl rfl
          exact lv_if_lt hx hb hd ht (fun _ => kk ls H locs hrel hS hl) (fun q => by first | exact absurd hcd q | exact absurd q hcd)
        · obtain ⟨rfl, rfl⟩ := e0 rfl rfl
          exact lv_if_lt hx hb hd ht (fun q => by first | exact absurd q hcd | exact absurd hcd q) (fun q => kk ls H locs hrel hS hl)
    case ge =>
      obtain ⟨a, r, rfl, h2⟩ := cm_i1_inv hst
      · obtain ⟨tgt, ht, rfl, rfl, rfl, ⟨hcd, rfl⟩ | ⟨hcd, rfl⟩⟩ := cm_cb_inv h2
        · obtain ⟨rfl, rfl⟩ := e0 rfl rfl
          exact lv_if_ge hx hb hd ht (fun _ => kk ls H locs hrel hS hl) (fun q => by first | exact absurd hcd q | exact absurd q hcd)
        · obtain ⟨rfl, rfl⟩ := e0 rfl rfl
          exact lv_if_ge hx hb hd ht (fun q => by first | exact absurd q hcd | exact absurd hcd q) (fun q => kk ls H locs hrel hS hl)
    case gt =>
      obtain ⟨a, r, rfl, h2⟩ := cm_i1_inv hst
      · obtain ⟨tgt, ht, rfl, rfl, rfl, ⟨hcd, rfl⟩ | ⟨hcd, rfl⟩⟩ := cm_cb_inv h2
        · obtain ⟨rfl, rfl⟩ := e0 rfl rfl
          exact lv_if_gt hx hb hd ht (fun _ => kk ls H locs hrel hS hl) (fun q => by first | exact absurd hcd q | exact absurd q hcd)
        · obtain ⟨rfl, rfl⟩ := e0 rfl rfl
          exact lv_if_gt hx hb hd ht (fun q => by first | exact absurd q hcd | exact absurd hcd q) (fun q => kk ls H locs hrel hS hl)
    case le =>
      obtain ⟨a, r, rfl, h2⟩ := cm_i1_inv hst
      · obtain ⟨tgt, ht, rfl, rfl, rfl, ⟨hcd, rfl⟩ | ⟨hcd, rfl⟩⟩ := cm_cb_inv h2
        · obtain ⟨rfl, rfl⟩ := e0 rfl rfl
          exact lv_if_le hx hb hd ht (fun _ => kk ls H locs hrel hS hl) (fun q => by first | exact absurd hcd q | exact absurd q hcd)
        · obtain ⟨rfl, rfl⟩ := e0 rfl rfl
          exact lv_if_le hx hb hd ht (fun q => by first | exact absurd q hcd | exact absurd hcd q) (fun q => kk ls H locs hrel hS hl)
  | if_icmp o off =>
    obtain rfl : n = 3 := eq_of_beq hlk
    cases o
    case eq =>
      obtain ⟨a, b, r, rfl, h2⟩ := cm_ii_inv hst
      · obtain ⟨tgt, ht, rfl, rfl, rfl, ⟨hcd, rfl⟩ | ⟨hcd, rfl⟩⟩ := cm_cb_inv h2
        · obtain ⟨rfl, rfl⟩ := e0 rfl rfl
          exact lv_icmp_eq hx hb hd ht (fun _ => kk ls H locs hrel hS hl) (fun q => by first | exact absurd hcd q | exact absurd q hcd)
        · obtain ⟨rfl, rfl⟩ := e0 rfl rfl
          exact lv_icmp_eq hx hb hd ht (fun q => by first | exact absurd q hcd | exact absurd hcd q) (fun q => kk ls H locs hrel hS hl)
    case ne =>
      obtain ⟨a, b, r, rfl, h2⟩ := cm_ii_inv hst
      · obtain ⟨tgt, ht, rfl, rfl, rfl, ⟨hcd, rfl⟩ | ⟨hcd, rfl⟩⟩ := cm_cb_inv h2
        · obtain ⟨rfl, rfl⟩ := e0 rfl rfl
          exact lv_icmp_ne hx hb hd ht (fun _ => kk ls H locs hrel hS hl) (fun q => by first | exact absurd hcd q | exact absurd q hcd)
        · obtain ⟨rfl, rfl⟩ := e0 rfl rfl
          exact lv_icmp_ne hx hb hd ht (fun q => by first | exact absurd q hcd | exact absurd hcd q) (fun q => kk ls H locs hrel hS hl)
    case lt =>
      obtain ⟨a, b, r, rfl, h2⟩ := cm_ii_inv hst
      · obtain ⟨tgt, ht, rfl, rfl, rfl, ⟨hcd, rfl⟩ | ⟨hcd, rfl⟩⟩ := cm_cb_inv h2
        · obtain ⟨rfl, rfl⟩ := e0 rfl rfl
          exact lv_icmp_lt hx hb hd ht (fun _ => kk ls H locs hrel hS hl) (fun q => by first | exact absurd hcd q | exact absurd q hcd)
        · obtain ⟨rfl, rfl⟩ := e0 rfl rfl
          exact lv_icmp_lt hx hb hd ht (fun q => by first | exact absurd q hcd | exact absurd hcd q) (fun q => kk ls H locs hrel hS hl)
    case ge =>
      obtain ⟨a, b, r, rfl, h2⟩ := cm_ii_inv hst
      · obtain ⟨tgt, ht, rfl, rfl, rfl, ⟨hcd, rfl⟩ | ⟨hcd, rfl⟩⟩ := cm_cb_inv h2
        · obtain ⟨rfl, rfl⟩ := e0 rfl rfl
          exact lv_icmp_ge hx hb hd ht (fun _ => kk ls H locs hrel hS hl) (fun q => by first | exact absurd hcd q | exact absurd q hcd)
        · obtain ⟨rfl, rfl⟩ := e0 rfl rfl
          exact lv_icmp_ge hx hb hd ht (fun q => by first | exact absurd q hcd | exact absurd hcd q) (fun q => kk ls H locs hrel hS hl)
    case gt =>
      obtain ⟨a, b, r, rfl, h2⟩ := cm_ii_inv hst
      · obtain ⟨tgt, ht, rfl, rfl, rfl, ⟨hcd, rfl⟩ | ⟨hcd, rfl⟩⟩ := cm_cb_inv h2
        · obtain ⟨rfl, rfl⟩ := e0 rfl rfl
          exact lv_icmp_gt hx hb hd ht (fun _ => kk ls H locs hrel hS hl) (fun q => by first | exact absurd hcd q | exact absurd q hcd)
        · obtain ⟨rfl, rfl⟩ := e0 rfl rfl
          exact lv_icmp_gt hx hb hd ht (fun q => by first | exact absurd q hcd | exact absurd hcd q) (fun q => kk ls H locs hrel hS hl)
    case le =>
      obtain ⟨a, b, r, rfl, h2⟩ := cm_ii_inv hst
      · obtain ⟨tgt, ht, rfl, rfl, rfl, ⟨hcd, rfl⟩ | ⟨hcd, rfl⟩⟩ := cm_cb_inv h2
        · obtain ⟨rfl, rfl⟩ := e0 rfl rfl
          exact lv_icmp_le hx hb hd ht (fun _ => kk ls H locs hrel hS hl) (fun q => by first | exact absurd hcd q | exact absurd q hcd)
        · obtain ⟨rfl, rfl⟩ := e0 rfl rfl
          exact lv_icmp_le hx hb hd ht (fun q => by first | exact absurd q hcd | exact absurd hcd q) (fun q => kk ls H locs hrel hS hl)
  | ifnull off =>
    obtain rfl : n = 3 := eq_of_beq hlk
    simp only [cm_st] at hst
    rcases cm_q1_inv hst with ⟨r, rfl, h2⟩ | ⟨a, r, rfl, h2⟩
    · obtain ⟨ht, rfl, rfl, rfl⟩ := cm_br_inv h2
      obtain ⟨rfl, rfl⟩ := e0 rfl rfl
      exact lv_ifnullN hx hb hd ht (kk ls H locs hrel hS hl)
    · cases h2
      obtain ⟨rfl, rfl⟩ := e0 rfl rfl
      exact lv_ifnull hx hb hd (kk ls H locs hrel hS hl)
  | ifnonnull off =>
    obtain rfl : n = 3 := eq_of_beq hlk
    simp only [cm_st] at hst
    rcases cm_q1_inv hst with ⟨r, rfl, h2⟩ | ⟨a, r, rfl, h2⟩
    · cases h2
      obtain ⟨rfl, rfl⟩ := e0 rfl rfl
      exact lv_ifnonnullN hx hb hd (kk ls H locs hrel hS hl)
    · obtain ⟨ht, rfl, rfl, rfl⟩ := cm_br_inv h2
      obtain ⟨rfl, rfl⟩ := e0 rfl rfl
      exact lv_ifnonnull hx hb hd ht (kk ls H locs hrel hS hl)
  | tableswitch dflt lo hi offs =>
    obtain ⟨x, r, rfl, h2⟩ := cm_i1_inv hst
    split at h2
    · rename_i hcd
      obtain ⟨ht, rfl, rfl, rfl⟩ := cm_br_inv h2
      obtain ⟨rfl, rfl⟩ := e0 rfl rfl
      exact lv_tableOut hx hb hd hcd ht (kk ls H locs hrel hS hl)
    · rename_i hcd
      split at h2
      · rename_i off ho
        obtain ⟨ht, rfl, rfl, rfl⟩ := cm_br_inv h2
        obtain ⟨rfl, rfl⟩ := e0 rfl rfl
        exact lv_tableIn hx hb hd (fun q => hcd (Or.inl q)) (fun q => hcd (Or.inr q)) ho ht (kk ls H locs hrel hS hl)
      · cases h2
  | getfield ix =>
    obtain rfl : n = 3 := eq_of_beq hlk
    simp only [cm_st] at hst
    split at hst
    · rename_i ci k nest hf
      obtain ⟨a, r, rfl, h2⟩ := cm_a1_inv hst
      obtain ⟨⟨g1, g2⟩, h2⟩ := cm_if_inv h2
      cases h2; obtain ⟨rfl, rfl⟩ := e0 rfl rfl
      exact cm_getf F hrel hf g1 g2 hd (kk ls H locs hrel hS hl)
    · cases hst
  | putfield ix =>
    obtain rfl : n = 3 := eq_of_beq hlk
    simp only [cm_st] at hst
    split at hst
    · rename_i ci k nest hf
      obtain ⟨a, v, r, rfl, h2⟩ := cm_va_inv hst
      obtain ⟨⟨g1, g2, g3⟩, h2⟩ := cm_if_inv h2
      split at h2
      · rename_i h1 hpv
        cases h2
        obtain ⟨q1, q2, -⟩ := cm_pv_spec (base := base) (ex := ex) hpv
        obtain ⟨rfl, rfl⟩ := e0 q1 q2
        exact cm_putf F hrel hS hf g1 g2 g3 hpv hd (fun H' locs' r1 r2 => kk ls H' locs' r1 r2 hl)
      · cases h2
    · cases hst
  | iaload =>
    obtain rfl : n = 1 := eq_of_beq hlk
    simp only [cm_st] at hst
    split at hst
    · obtain ⟨⟨g1, g2⟩, h2⟩ := cm_if_inv hst
      cases h2; obtain ⟨rfl, rfl⟩ := e0 rfl rfl
      exact va_sld hx hb hsc.1 (Nat.lt_of_lt_of_le hsc.2.1 hbs) (Nat.not_le.mpr hsc.2.1) hS (cm_vpin g1 g2) hd (kk ls H locs hrel hS hl)
    · obtain ⟨a, i, r, rfl, h2⟩ := cm_ia_inv hst
      obtain ⟨⟨g1, g2, g3, g4⟩, h2⟩ := cm_if_inv h2
      cases h2; obtain ⟨rfl, rfl⟩ := e0 rfl rfl
      have he := cm_ws_get (base := base) (aC := aC) g2
      rw [cm_el_I (Or.inr (Or.inl g1)), g1] at he
      exact va_iald hx hb henv.1 hrel a 1 he rfl (cm_vpin g3 g4) hd (kk ls H locs hrel hS hl)
  | caload =>
    obtain rfl : n = 1 := eq_of_beq hlk
    obtain ⟨a, i, r, rfl, h2⟩ := cm_ia_inv hst
    obtain ⟨⟨g1, g2, g3, g4⟩, h2⟩ := cm_if_inv h2
    cases h2; obtain ⟨rfl, rfl⟩ := e0 rfl rfl
    have he := cm_ws_get (base := base) (aC := aC) g2
    rw [cm_el_I (Or.inl g1), g1] at he
    exact va_cald hx hb henv.1 hrel a 0 he rfl (cm_vpin g3 g4) hd (kk ls H locs hrel hS hl)
  | baload =>
    obtain rfl : n = 1 := eq_of_beq hlk
    obtain ⟨a, i, r, rfl, h2⟩ := cm_ia_inv hst
    obtain ⟨⟨g1, g2, g3, g4⟩, h2⟩ := cm_if_inv h2
    cases h2; obtain ⟨rfl, rfl⟩ := e0 rfl rfl
    have he := cm_ws_get (base := base) (aC := aC) g2
    rw [cm_el_I (Or.inr (Or.inr g1)), g1] at he
    exact va_zald hx hb henv.1 hrel a 3 he rfl (cm_vpin g3 g4) hd (kk ls H locs hrel hS hl)
  | laload =>
    obtain rfl : n = 1 := eq_of_beq hlk
    obtain ⟨a, i, r, rfl, h2⟩ := cm_ia_inv hst
    obtain ⟨⟨g1, g2, g3, g4⟩, h2⟩ := cm_if_inv h2
    cases h2; obtain ⟨rfl, rfl⟩ := e0 rfl rfl
    have he := cm_ws_get (base := base) (aC := aC) g2
    rw [cm_el_J g1] at he
    exact va_lald hx hb henv.1 hrel a 2 he rfl (cm_vpin g3 g4) hd (kk ls H locs hrel hS hl)
  | aaload =>
    obtain rfl : n = 1 := eq_of_beq hlk
    obtain ⟨a, i, r, rfl, h2⟩ := cm_ia_inv hst
    obtain ⟨⟨⟨g1, g2, g3, g4⟩, g5, g6⟩, h2⟩ := cm_if_inv h2
    cases h2; obtain ⟨rfl, rfl⟩ := e0 rfl rfl
    have he := cm_ws_get (base := base) (aC := aC) g2
    rw [cm_el_R g5 (by omega)] at he
    have hk := kk ls H locs hrel hS hl
    simp only [List.map_cons, cm_trq] at hk
    rcases (show cm_kd h a = 16 ∨ cm_kd h a = 17 ∨ cm_kd h a = 18 by omega) with q | q | q
    · rw [q] at he
      exact va_aldq hx hb henv.1 hrel a 4 he rfl (cm_vpin g3 g4) hd hk
    · rw [q] at he
      exact va_aldq hx hb henv.1 hrel a 5 he rfl (cm_vpin g3 g4) hd hk
    · rw [q] at he
      exact va_aldq hx hb henv.1 hrel a 6 he rfl (cm_vpin g3 g4) hd hk
  | iastore =>
    obtain rfl : n = 1 := eq_of_beq hlk
    obtain ⟨a, i, x, r, rfl, h2⟩ := cm_iia_inv hst
    obtain ⟨⟨g1, g2, g3, g4⟩, h2⟩ := cm_if_inv h2
    cases h2; obtain ⟨rfl, rfl⟩ := e0 rfl rfl
    have he := cm_ws_get (base := base) (aC := aC) g2
    rw [cm_el_I (Or.inr (Or.inl g1)), g1] at he
    refine va_iast hx hb henv.1 hrel cm_ws_D hS a 1 he rfl (cm_vpin g3 g4) hd fun H1 locs1 hP _ hS1 => kk ls H1 locs1 ?_ hS1 hl
    have hw := cm_setI_ws (base := base) (aC := aC) (h := h) (a := a) (i := i.toNatClampNeg) (x := x) (Or.inr (Or.inl g1))
    rw [g1] at hw
    rw [hw] at hP
    exact hP
  | castore =>
    obtain rfl : n = 1 := eq_of_beq hlk
    obtain ⟨a, i, x, r, rfl, h2⟩ := cm_iia_inv hst
    obtain ⟨⟨g1, g2, g3, g4⟩, h2⟩ := cm_if_inv h2
    cases h2; obtain ⟨rfl, rfl⟩ := e0 rfl rfl
    have he := cm_ws_get (base := base) (aC := aC) g2
    rw [cm_el_I (Or.inl g1), g1] at he
    refine va_cast hx hb henv.1 hrel cm_ws_D hS a 0 he rfl (cm_vpin g3 g4) hd fun H1 locs1 hP _ hS1 => kk ls H1 locs1 ?_ hS1 hl
    have hw := cm_setI_ws (base := base) (aC := aC) (h := h) (a := a) (i := i.toNatClampNeg) (x := vp_nar .char x) (Or.inl g1)
    rw [g1] at hw
    rw [hw] at hP
    exact hP
  | bastore =>
    obtain rfl : n = 1 := eq_of_beq hlk
    obtain ⟨a, i, x, r, rfl, h2⟩ := cm_iia_inv hst
    obtain ⟨⟨g1, g2, g3, g4⟩, h2⟩ := cm_if_inv h2
    cases h2; obtain ⟨rfl, rfl⟩ := e0 rfl rfl
    have he := cm_ws_get (base := base) (aC := aC) g2
    rw [cm_el_I (Or.inr (Or.inr g1)), g1] at he
    refine va_zast hx hb henv.1 hrel cm_ws_D hS a 3 he rfl (cm_vpin g3 g4) hd fun H1 locs1 hP _ hS1 => kk ls H1 locs1 ?_ hS1 hl
    have hw := cm_setI_ws (base := base) (aC := aC) (h := h) (a := a) (i := i.toNatClampNeg) (x := vp_nar .boolean x) (Or.inr (Or.inr g1))
    rw [g1] at hw
    rw [hw] at hP
    exact hP
  | lastore =>
    obtain rfl : n = 1 := eq_of_beq hlk
    obtain ⟨a, i, x, r, rfl, h2⟩ := cm_jia_inv hst
    obtain ⟨⟨g1, g2, g3, g4⟩, h2⟩ := cm_if_inv h2
    cases h2; obtain ⟨rfl, rfl⟩ := e0 rfl rfl
    have he := cm_ws_get (base := base) (aC := aC) g2
    rw [cm_el_J g1] at he
    refine va_last hx hb henv.1 hrel cm_ws_D hS a 2 he rfl (cm_vpin g3 g4) hd fun H1 locs1 hP _ hS1 => kk ls H1 locs1 ?_ hS1 hl
    rw [cm_setJ_ws g1] at hP
    exact hP
  | aastore =>
    obtain rfl : n = 1 := eq_of_beq hlk
    obtain ⟨a, i, x, r, rfl, h2⟩ := cm_ria_inv hst
    obtain ⟨⟨⟨g1, g2, g3, g4⟩, g5, g6⟩, h2⟩ := cm_if_inv h2
    cases h2; obtain ⟨rfl, rfl⟩ := e0 rfl rfl
    have h16 : 16 ≤ cm_kd h a := by omega
    have he := cm_ws_get (base := base) (aC := aC) g2
    have h19 : ¬ cm_kd h a = 19 := by omega
    rw [cm_el_R h16 h19] at he
    have hv := cm_ws_get (base := base) (aC := aC) g5
    rw [cm_el_obj (by omega)] at hv
    have hw := cm_setR_ws (base := base) (aC := aC) (h := h) (a := a) (i := i.toNatClampNeg) (x := x) h16 h19
    rcases g6 with ⟨q, qx⟩ | ⟨q, qx⟩ | ⟨q, qx⟩
    · rw [q] at he hw
      rw [qx] at hv
      refine va_astq hx hb henv.1 hrel cm_ws_D hS a 4 x 1 he rfl hv rfl (cm_vpin g3 g4) hd fun H1 locs1 hP _ hS1 => kk ls H1 locs1 ?_ hS1 hl
      rw [hw] at hP
      exact hP
    · rw [q] at he hw
      rw [qx] at hv
      refine va_astq hx hb henv.1 hrel cm_ws_D hS a 5 x 3 he rfl hv rfl (cm_vpin g3 g4) hd fun H1 locs1 hP _ hS1 => kk ls H1 locs1 ?_ hS1 hl
      rw [hw] at hP
      exact hP
    · rw [q] at he hw
      rw [qx] at hv
      refine va_astq hx hb henv.1 hrel cm_ws_D hS a 6 x 9 he rfl hv rfl (cm_vpin g3 g4) hd fun H1 locs1 hP _ hS1 => kk ls H1 locs1 ?_ hS1 hl
      rw [hw] at hP
      exact hP
  | arraylength =>
    obtain rfl : n = 1 := eq_of_beq hlk
    simp only [cm_st] at hst
    split at hst
    · cases hst; obtain ⟨rfl, rfl⟩ := e0 rfl rfl
      exact va_slen hx hb hsc.1 (Nat.lt_of_lt_of_le hsc.2.1 hbs) (Nat.not_le.mpr hsc.2.1) hS hd (kk ls H locs hrel hS hl)
    · obtain ⟨a, r, rfl, h2⟩ := cm_a1_inv hst
      obtain ⟨⟨g1, g2, g3⟩, h2⟩ := cm_if_inv h2
      cases h2; obtain ⟨rfl, rfl⟩ := e0 rfl rfl
      have he := cm_ws_get (base := base) (aC := aC) g3
      rcases (show cm_kd h a = 12 ∨ cm_kd h a = 13 ∨ cm_kd h a = 14 ∨ cm_kd h a = 15 ∨ cm_kd h a = 16 ∨ cm_kd h a = 17 ∨ cm_kd h a = 18 by omega) with q | q | q | q | q | q | q
      · rw [cm_el_I (Or.inl q), q] at he
        exact va_alen hx hb henv.1 hrel a 0 he (ty := .char) rfl rfl hd (kk ls H locs hrel hS hl)
      · rw [cm_el_I (Or.inr (Or.inl q)), q] at he
        exact va_alen hx hb henv.1 hrel a 1 he (ty := .int) rfl rfl hd (kk ls H locs hrel hS hl)
      · rw [cm_el_J q] at he
        exact va_alen hx hb henv.1 hrel a 2 he (ty := .long) rfl rfl hd (kk ls H locs hrel hS hl)
      · rw [cm_el_I (Or.inr (Or.inr q)), q] at he
        exact va_alen hx hb henv.1 hrel a 3 he (ty := .boolean) rfl rfl hd (kk ls H locs hrel hS hl)
      · rw [cm_el_R (by omega), q] at he
        exact va_alen hx hb henv.1 hrel a 4 he (ty := .object RX1) rfl rfl hd (kk ls H locs hrel hS hl)
      · rw [cm_el_R (by omega), q] at he
        exact va_alen hx hb henv.1 hrel a 5 he (ty := .object RX3) rfl rfl hd (kk ls H locs hrel hS hl)
      · rw [cm_el_R (by omega), q] at he
        exact va_alen hx hb henv.1 hrel a 6 he (ty := .object RX9) rfl rfl hd (kk ls H locs hrel hS hl)
  | newarray t =>
    obtain rfl : n = 2 := eq_of_beq hlk
    obtain ⟨x, r, rfl, h2⟩ := cm_i1_inv hst
    obtain ⟨⟨g1, g2⟩, h2⟩ := cm_if_inv h2
    cases t
    case char =>
      cases h2
      obtain rfl : cells' = cells + 1 := by rw [hc]; simp [cm_n, cm_mk]
      obtain rfl : slots' = slots + x.toNatClampNeg := by rw [hs]; simp [cm_sl, cm_mk]
      refine cm_newa F hrel hS hcn (kd := 12) (tp := 0) rfl g1 g2 ?_ hRc hRs (cm_arrG _ (by decide)) hd (fun H' r1 r2 => kk ls H' locs r1 r2 hl)
      intro H1 e1
      rw [cm_el_I (Or.inl (by simp [cm_kd, cm_mk, cm_u1, cm_n]))]
      show H1[base + cm_n h]? = some (vp_cell _ _)
      rw [vp_cell_i, e1]
      simp [cm_I, cm_kd, cm_ln, cm_mk, cm_u1, cm_row, cm_n, defaultValue, newarray.typeOf]
    case int =>
      cases h2
      obtain rfl : cells' = cells + 1 := by rw [hc]; simp [cm_n, cm_mk]
      obtain rfl : slots' = slots + x.toNatClampNeg := by rw [hs]; simp [cm_sl, cm_mk]
      refine cm_newa F hrel hS hcn (kd := 13) (tp := 1) rfl g1 g2 ?_ hRc hRs (cm_arrG _ (by decide)) hd (fun H' r1 r2 => kk ls H' locs r1 r2 hl)
      intro H1 e1
      rw [cm_el_I (Or.inr (Or.inl (by simp [cm_kd, cm_mk, cm_u1, cm_n])))]
      show H1[base + cm_n h]? = some (vp_cell _ _)
      rw [vp_cell_i, e1]
      simp [cm_I, cm_kd, cm_ln, cm_mk, cm_u1, cm_row, cm_n, defaultValue, newarray.typeOf]
    case long =>
      cases h2
      obtain rfl : cells' = cells + 1 := by rw [hc]; simp [cm_n, cm_mk]
      obtain rfl : slots' = slots + x.toNatClampNeg := by rw [hs]; simp [cm_sl, cm_mk]
      refine cm_newa F hrel hS hcn (kd := 14) (tp := 2) rfl g1 g2 ?_ hRc hRs (cm_arrG _ (by decide)) hd (fun H' r1 r2 => kk ls H' locs r1 r2 hl)
      intro H1 e1
      rw [cm_el_J (by simp [cm_kd, cm_mk, cm_u1, cm_n])]
      show H1[base + cm_n h]? = some (vp_cell _ _)
      rw [vp_cell_l, e1]
      simp [cm_J, cm_ln, cm_mk, cm_u1, cm_row, cm_n, defaultValue, newarray.typeOf]
    case boolean =>
      cases h2
      obtain rfl : cells' = cells + 1 := by rw [hc]; simp [cm_n, cm_mk]
      obtain rfl : slots' = slots + x.toNatClampNeg := by rw [hs]; simp [cm_sl, cm_mk]
      refine cm_newa F hrel hS hcn (kd := 15) (tp := 3) rfl g1 g2 ?_ hRc hRs (cm_arrG _ (by decide)) hd (fun H' r1 r2 => kk ls H' locs r1 r2 hl)
      intro H1 e1
      rw [cm_el_I (Or.inr (Or.inr (by simp [cm_kd, cm_mk, cm_u1, cm_n])))]
      show H1[base + cm_n h]? = some (vp_cell _ _)
      rw [vp_cell_i, e1]
      simp [cm_I, cm_kd, cm_ln, cm_mk, cm_u1, cm_row, cm_n, defaultValue, newarray.typeOf]
    all_goals cases h2
  | anewarray ix =>
    obtain rfl : n = 3 := eq_of_beq hlk
    obtain ⟨x, r, rfl, h2⟩ := cm_i1_inv hst
    obtain ⟨⟨g1, g2⟩, h2⟩ := cm_if_inv h2
    split at h2
    · rename_i hci
      cases h2
      obtain rfl : cells' = cells + 1 := by rw [hc]; simp [cm_n, cm_mk]
      obtain rfl : slots' = slots + x.toNatClampNeg := by rw [hs]; simp [cm_sl, cm_mk]
      exact cm_newq F hrel hS hcn hci (kd := 16) (tp := 4) rfl henv.2.2.1.1 (by decide) g1 g2 hRc hRs hd (fun H' r1 r2 => kk ls H' locs r1 r2 hl)
    · rename_i hci
      cases h2
      obtain rfl : cells' = cells + 1 := by rw [hc]; simp [cm_n, cm_mk]
      obtain rfl : slots' = slots + x.toNatClampNeg := by rw [hs]; simp [cm_sl, cm_mk]
      exact cm_newq F hrel hS hcn hci (kd := 17) (tp := 5) rfl henv.2.2.1.2.1 (by decide) g1 g2 hRc hRs hd (fun H' r1 r2 => kk ls H' locs r1 r2 hl)
    · rename_i hci
      cases h2
      obtain rfl : cells' = cells + 1 := by rw [hc]; simp [cm_n, cm_mk]
      obtain rfl : slots' = slots + x.toNatClampNeg := by rw [hs]; simp [cm_sl, cm_mk]
      exact cm_newq F hrel hS hcn hci (kd := 18) (tp := 6) rfl henv.2.2.1.2.2 (by decide) g1 g2 hRc hRs hd (fun H' r1 r2 => kk ls H' locs r1 r2 hl)
    · cases h2
  | new ix =>
    obtain rfl : n = 3 := eq_of_beq hlk
    simp only [cm_st] at hst
    split at hst
    · rename_i ci hci
      cases hst
      obtain rfl : cells' = cells + 1 := by rw [hc]; simp [cm_n, cm_mk]
      obtain rfl : slots' = slots + cm_N ci := by rw [hs]; simp [cm_sl, cm_mk]
      exact cm_newo F hrel hS hcn hci hRc hRs hd (fun H' r1 r2 => kk ls H' locs r1 r2 hl)
    · cases hst
  | _ => exact nomatch hst
end CMB
