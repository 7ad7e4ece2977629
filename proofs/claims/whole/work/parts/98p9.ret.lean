/-! ===== the run: whatever the clean machine answers, the machine answers ===== -/
theorem cm_cM_spec {oc ix M k kind : Nat} (h : cm_cM oc ix = some (M, kind, k)) : M < cm_nm ∧ ((parseMethodDescriptor (cm_M M).1.desc).map (fun d => d.parameters.length) = some k ∨ 6 ≤ kind) ∧
    (kind = 0 → Cond.methodLink (cm_ownN oc) ix (cm_M M).1 ∈ cm_G ∧ Cond.instanceMethod (cm_M M).1 ∈ cm_G ∧ Cond.selects (cm_M M).1.cls (cm_M M).1 (cm_M M).1 ∈ cm_G) ∧
    (kind = 1 → Cond.methodLinkNest (cm_ownN oc) ix (cm_M M).1 "ClogHouse" ∈ cm_B ∧ Cond.instanceMethod (cm_M M).1 ∈ cm_G ∧ Cond.selects (cm_M M).1.cls (cm_M M).1 (cm_M M).1 ∈ cm_G) ∧
    (kind = 2 → Cond.methodLink (cm_ownN oc) ix (cm_M M).1 ∈ cm_G ∧ Cond.static (cm_M M).1 ∈ cm_G) ∧
    (kind = 3 → Cond.methodLinkNest (cm_ownN oc) ix (cm_M M).1 "ClogHouse" ∈ cm_B ∧ Cond.static (cm_M M).1 ∈ cm_G) ∧
    (kind = 4 → Cond.methodLink (cm_ownN oc) ix (cm_M M).1 ∈ cm_G ∧ Cond.instanceMethod (cm_M M).1 ∈ cm_G ∧ (cm_M M).1.name = "<init>") ∧
    (kind = 5 → Cond.methodLinkNest (cm_ownN oc) ix (cm_M M).1 "ClogHouse" ∈ cm_B ∧ Cond.instanceMethod (cm_M M).1 ∈ cm_G ∧ (cm_M M).1.name = "<init>") ∧
    (kind = 13 → Cond.methodLink (cm_ownN oc) ix cm_lwN ∈ cm_G ∧ M = 133) ∧ (kind = 6 → Cond.methodLink (cm_ownN oc) ix objectInit ∈ cm_G) ∧ (kind = 7 → Cond.methodLink (cm_ownN oc) ix Lib.Math.max.name ∈ cm_G) ∧ (kind = 8 → Cond.methodLink (cm_ownN oc) ix Lib.Math.min.name ∈ cm_G) ∧
    (kind = 9 → Cond.methodLink (cm_ownN oc) ix Lib.MathLoose.max_long.x ∈ cm_G) ∧ (kind = 10 → Cond.methodLink (cm_ownN oc) ix Lib.MathLoose.min_long.x ∈ cm_G) ∧ (kind = 11 → Cond.methodLink (cm_ownN oc) ix arraycopyName ∈ cm_G) := by
  unfold cm_cM at h
  obtain ⟨e, he, hq⟩ := Option.map_eq_some_iff.mp h
  obtain ⟨h1, h2, h3⟩ := cm_fnd he
  obtain ⟨a, b, c, d, p1, p2, p3, np⟩ := e
  dsimp only at hq h2 h3
  cases hq
  subst h2; subst h3
  have h4 := cm_okE _ h1
  simp only [cm_chE, Bool.and_eq_true, decide_eq_true_eq] at h4
  obtain ⟨⟨h5, h6⟩, h7⟩ := h4
  have G : ∀ {w : Cond} {j : Nat}, lw_tbl[j]? = some w → goodWord w = true → w ∈ cm_G := fun q g => cm_G_of (List.mem_of_getElem? q) g
  have B : ∀ {w : Cond} {j : Nat}, lw_tbl[j]? = some w → cm_isN w = true → w ∈ cm_B := fun q g => cm_B_of (List.mem_of_getElem? q) g
  refine ⟨h5, h6, ?_, ?_, ?_, ?_, ?_, ?_, ?_, ?_, ?_, ?_, ?_, ?_, ?_⟩ <;> intro hk <;> subst hk <;> simp only [Bool.and_eq_true, decide_eq_true_eq] at h7
  · exact ⟨G h7.1.1 rfl, G h7.1.2 rfl, G h7.2 rfl⟩
  · exact ⟨B h7.1.1 rfl, G h7.1.2 rfl, G h7.2 rfl⟩
  · exact ⟨G h7.1 rfl, G h7.2 rfl⟩
  · exact ⟨B h7.1 rfl, G h7.2 rfl⟩
  · exact ⟨G h7.1.1 rfl, G h7.1.2 rfl, h7.2⟩
  · exact ⟨B h7.1.1 rfl, G h7.1.2 rfl, h7.2⟩
  · exact ⟨G h7.1 rfl, h7.2⟩
  · exact G h7 rfl
  · exact G h7 rfl
  · exact G h7 rfl
  · exact G h7 rfl
  · exact G h7 rfl
  · exact G h7 rfl
def cm_wsM (M : Nat) : List Cond := Cond.code (cm_M M).1 (cm_M M).2.2.1 (cm_M M).2.2.2.1 (cm_M M).2.2.2.2 :: cm_G
theorem cm_wsM_good {M : Nat} (h : M < cm_nm) : GoodIn cm_G (cm_wsM M) := fun w hw => by
  have hm : w ∈ cm_G := by
    rcases List.mem_cons.mp hw with rfl | hw
    · exact (cm_M2 h).1
    · exact hw
  exact ⟨hm, good_of_word (List.mem_filter.mp hm).2⟩
/-- a method's start and end -/
def cm_pre (base : Nat) (D : va_G) (aC : Nat → ClassId) (ex : Nat → Nat) (sc : cmS) (as : List Value) (h : cmH) : Array Value → State → Prop := va_Pc (as.map (cm_tr base ex)) fun U => cm_rel base D aC h U.heap ∧ cm_env D aC ex U ∧ cm_scr base ex sc U U.heap ∧ U.heap.size = base + cm_n h
def cm_post (base : Nat) (D : va_G) (aC : Nat → ClassId) (ex : Nat → Nat) (v : Option Value) (h' : cmH) : Array Value → State → Outcome → State → Prop := fun _ st oc t => cm_isX v = false ∧ oc = .returned (v.map (cm_tr base ex)) ∧ cm_rel base D aC h' t.heap ∧ (∀ q, q < base → t.heap[q]? = st.heap[q]?) ∧ st.heap.size ≤ t.heap.size
theorem cm_pre_blind {base : Nat} {D : va_G} {aC : Nat → ClassId} {ex : Nat → Nat} {sc : cmS} {as : List Value} {h : cmH} : FrameBlind (cm_pre base D aC ex sc as h) := by
  intro a U g mk q
  obtain ⟨q0, q1, q2, q3, q4⟩ := q
  have hW : U.WarmedH (U.calling g mk a).vm := State.WarmedH.refl U
  exact ⟨q0, q1, q2.warm hW, q3.keep hW.alike (fun _ _ => rfl) q3.2.2.1, q4⟩
def cm_xc (base : Nat) (D : va_G) (aC : Nat → ClassId) (v : Option Value) (h' : cmH) : String → State → State → Prop := fun E st t => cm_isX v = true ∧ E = "java/util/NoSuchElementException" ∧ cm_rel base D aC h' t.heap ∧ (∀ q, q < base → t.heap[q]? = st.heap[q]?) ∧ st.heap.size ≤ t.heap.size
section CMC
variable {p : Program} {l : Launch} {e : Env} {R : Room} {s : State} {m : MethodId} {args : Array Value} {below : List Frame} {meth : Method} {c : Code} {H : Heap} {locs : List Loc} {cells slots : Nat} {Q : State → Prop}
variable {M base : Nat} {D : va_G} {aC : Nat → ClassId} {ex : Nat → Nat} {sc : cmS} {h h' : cmH} {pc : Nat} {ls : Array Slot} {rest : List Value}
/-- behind a call -/
theorem cm_after {mc ms : Nat} {st0 : List Value} {a : Array Value} {v : Option Value} (hr : va_Run p l e R s m args below meth c H locs cells slots mc ms (F0 m pc ls st0) rest (cm_post base D aC ex v h' a) (fun q => base ≤ q)) (hS : va_S (fun q => base ≤ q) s.heap H locs)
    (kk : ∀ (H1 : Heap) (locs1 : List Loc), cm_rel base D aC h' H1 → va_S (fun q => base ≤ q) s.heap H1 locs1 → W p l e R s m args below meth c H1 locs1 (cells + mc) (slots + ms) Q (F0 m (pc + 3) ls ((v.map (cm_tr base ex)).toList ++ rest))) : W p l e R s m args below meth c H locs cells slots Q (F0 m pc ls st0) := by
  intro T hT X
  obtain ⟨v', st₀, t, T', L, h0, X', hL, e1, e2, ⟨-, hv, hP, hk, hz⟩, st⟩ := hr T hT X
  cases hv
  rw [h0] at hk hz
  obtain ⟨t2, a1, b1⟩ := kk T'.heap (locs ++ L) (by rw [e1]; exact hP)
    ⟨Nat.le_trans hS.1 (by rw [e1]; exact hz), fun q h1 h2 => by rw [e1, hk q (by omega)]; exact hS.2.1 q h1 h2, fun q hq => by
      rcases List.mem_append.mp hq with h | h
      · exact hS.2.2 q h
      · exact hL q h⟩ T' rfl X'
  exact ⟨t2, st t2 a1, b1⟩
/-- returns -/
theorem cm_ret1 (F : cm_fix p s m args meth c M base D aC ex sc) (hrel : cm_rel base D aC h H) (hS : va_S (fun q => base ≤ q) s.heap H locs) {i : Instr} {n : Nat} {st : List Value} {v : Option Value} (hd : decode (cm_M M).2.2.1 pc = .ok (i, n)) (hlk : cm_lk i n = true) (hst : cm_rt M i st = some v) : W p l e R s m args below meth c H locs cells slots (MQ below (cm_post base D aC ex v h) args s cells slots (fun q => base ≤ q)) (F0 m pc ls (st.map (cm_tr base ex))) := by
  obtain ⟨hx, hb, hml, hr, hown, hts, hlo, hnm, henv, hbs, hsc⟩ := id F
  have hxv : cm_isX v = false := by
    unfold cm_rt at hst
    split at hst <;> (try split at hst) <;> first | (cases hst; done) | (cases hst; rfl) | (obtain ⟨-, h2⟩ := cm_if_inv hst; cases h2; rfl)
  have hq : ∀ (w : Option Value), w = v.map (cm_tr base ex) → ∀ t : State, t.heap = H → s.WarmedH t.vm → cm_post base D aC ex v h args s (.returned w) t := by
    intro w hw t ht _
    subst ht
    exact ⟨hxv, by rw [hw], hrel, fun q hq => hS.2.1 q (Nat.lt_of_lt_of_le hq hbs) (Nat.not_le.mpr hq), hS.1⟩
  unfold cm_rt at hst
  split at hst
  · obtain rfl : n = 1 := eq_of_beq hlk
    obtain ⟨h1, h2⟩ := cm_if_inv hst
    cases h2
    exact W.vret hx hb (hr.trans h1) (hq _ rfl) hS.2.2 hd hlo
  · obtain rfl : n = 1 := eq_of_beq hlk
    rename_i v0
    split at hst
    · rename_i hty
      cases hst
      exact W.zret hx hb (hr.trans hty) rfl (hq _ rfl) hS.2.2 hd hlo
    · rename_i hty
      obtain ⟨h1, h2⟩ := cm_if_inv hst
      cases h2
      exact W.zret hx hb (hr.trans hty) (by rcases h1 with rfl | rfl <;> rfl) (hq _ rfl) hS.2.2 hd hlo
    · rename_i hty
      obtain ⟨h1, h2⟩ := cm_if_inv hst
      cases h2
      exact W.zret hx hb (hr.trans hty) (cm_narC h1.1 h1.2) (hq _ rfl) hS.2.2 hd hlo
    · cases hst
  · obtain rfl : n = 1 := eq_of_beq hlk
    obtain ⟨h1, h2⟩ := cm_if_inv hst
    cases h2
    exact W.lret hx hb (hr.trans h1) (hq _ rfl) hS.2.2 hd hlo
  · obtain rfl : n = 1 := eq_of_beq hlk
    split at hst
    · rename_i hty
      cases hst
      exact W.aret hx hb (hr.trans hty) (Or.inl ⟨_, rfl⟩) (Or.inl rfl) (hq _ rfl) hS.2.2 hd hlo
    · cases hst
  · obtain rfl : n = 1 := eq_of_beq hlk
    split at hst
    · rename_i hty
      cases hst
      exact W.aret hx hb (hr.trans hty) (Or.inl ⟨_, rfl⟩) (Or.inr ⟨_, rfl⟩) (hq _ rfl) hS.2.2 hd hlo
    · cases hst
  · cases hst
theorem cm_wd_tr (r : List Value) : ((r.map (cm_tr base ex)).map fun v => v.category).sum = cm_wd r := by
  unfold cm_wd
  rw [List.map_map]
  congr 1
  exact List.map_congr_left fun v _ => cm_tr_cat base ex v
end CMC
