/-! ===== the run ===== -/
def cm_RunOK (l : Launch) (sc : cmS) (f : Nat) : Prop := ∀ (d M pc : Nat) (cl : cmL) (st : List Value) (h : cmH) (v : Option Value) (h' : cmH), cm_ex sc f d M pc cl st h = some (v, h') →
    ∀ (p : Program) (e : Env) (R : Room) (s : State) (m : MethodId) (args : Array Value) (below : List Frame) (meth : Method) (c : Code) (H : Heap) (locs : List Loc) (ls : Array Slot) (base : Nat) (D : va_G) (aC : Nat → ClassId) (ex : Nat → Nat) (n0 sl0 : Nat), cm_fix p s m args meth c M base D aC ex sc → (M = 133 → ∀ x ∈ c.exceptionTable.toList, False) → cm_rel base D aC h H → va_S (fun q => base ≤ q) s.heap H locs → cm_lr base ex ls cl (cm_M M).2.2.2.1 → s.heap.size = base + n0 → n0 ≤ cm_n h → sl0 ≤ cm_sl h → d ≤ R.frames → 60 * d ≤ R.locals → cm_n h' - n0 ≤ R.cells → cm_sl h' - sl0 ≤ R.slots →
      W p l e R s m args below meth c H locs (cm_n h - n0) (cm_sl h - sl0) (vx_MQ below (cm_post base D aC ex v h') (cm_xc base D aC v h') args s (cm_n h' - n0) (cm_sl h' - sl0) (fun q => base ≤ q)) (F0 m pc ls (st.map (cm_tr base ex)))
/-- a method's contract out of its run: it returns, or throws -/
theorem cm_metX {l : Launch} {sc : cmS} {f d M' : Nat} {as : List Value} {h h1 : cmH} {v : Option Value} {base : Nat} {D : va_G} {aC : Nat → ClassId} {ex : Nat → Nat} (ih : cm_RunOK l sc f) (hM' : M' < cm_nm) (hcall : cm_ex sc f d M' 0 (cm_en M' as) [] h = some (v, h1)) (hlay : (cm_lay as).length ≤ (cm_M M').2.2.2.1) :
    vx_Met l (cm_M M').1 (cm_wsM M') ({ frames := d, cells := cm_n h1 - cm_n h, slots := cm_sl h1 - cm_sl h, locals := 60 * d }) (cm_pre base D aC ex sc as h) (cm_post base D aC ex v h1) (cm_xc base D aC v h1) (cm_n h1 - cm_n h) (cm_sl h1 - cm_sl h) (fun q => base ≤ q) := by
  obtain ⟨m1, m2, m3, m4, m5⟩ := cm_M1 hM'
  refine vx_ofW (cc := (cm_M M').2.2.1) (maxL := (cm_M M').2.2.2.1) (ret := (cm_M M').2.2.2.2) m2 rfl ?_
  intro p e s m args below meth c s₁ B hml ht hv
  obtain ⟨rfl, v1, v2, v3, v4⟩ := hv
  have hts := atoms_spec (ws := cm_wsM M') B.pre
  have hown := findClass_of_methodNamed B.named
  rw [m1] at hown
  have F' : cm_fix p s m ((as.map (cm_tr base ex)).toArray) meth c M' base D aC ex sc := ⟨B.exec, B.bytes, hml, B.returns, hown, fun w hw => hts w (List.mem_cons_of_mem _ hw), B.notSynchronized, fun q => (name_of_methodNamed B.named B.method).1.trans q, v2, by omega, v3⟩
  have hW := ih _ _ _ _ _ _ _ _ hcall p e ({ frames := d, cells := cm_n h1 - cm_n h, slots := cm_sl h1 - cm_sl h, locals := 60 * d }) s m ((as.map (cm_tr base ex)).toArray) below meth c s.heap [] _ base D aC ex (cm_n h) (cm_sl h) F' (fun _ => ht) v1 va_S.rf (cm_en_lr hlay) v4 (Nat.le_refl _) (Nat.le_refl _) (Nat.le_refl _) (Nat.le_refl _) (Nat.le_refl _) (Nat.le_refl _)
  rw [Nat.sub_self, Nat.sub_self] at hW
  rw [lg_entry_eq]
  exact hW
/-- .. and where the answer is no throw, it returns -/
theorem cm_metN {l : Launch} {y : MethodName} {ws : List Cond} {rm : Room} {Pc : Array Value → State → Prop} {Qc : Array Value → State → Outcome → State → Prop} {XC : String → State → State → Prop} {mc ms : Nat} {free : Addr → Prop} (h : vx_Met l y ws rm Pc Qc XC mc ms free) (hx : ∀ E st t, ¬ XC E st t) : Met l y ws rm Pc Qc mc ms free := by
  intro p e ha hc hk s m args below hf happ hP hK
  obtain ⟨n, o, h1, h2, h3, hQ⟩ := h p e ha hc hk s m args below hf happ hP hK
  rcases hQ with hQ | ⟨q, -, E, ce, L, hXC, -⟩
  · exact ⟨n, o, h1, h2, h3, hQ⟩
  · exact absurd hXC (hx _ _ _)
theorem cm_ca_lay {g kind M k : Nat} {st as r : List Value} {h : cmH} (hca : cm_ca g kind M k st h = some (as, r)) : (cm_lay as).length ≤ (cm_M M).2.2.2.1 := by
  unfold cm_ca at hca
  split at hca
  · split at hca
    · obtain ⟨⟨w1, w2⟩, h2⟩ := cm_if_inv hca
      cases h2
      exact w2
    · cases hca
  · split at hca
    · split at hca
      · obtain ⟨⟨w1, w2, w3⟩, h2⟩ := cm_if_inv hca
        cases h2
        exact w2
      · cases hca
    · cases hca
def cm_xn : List String := ["java/lang/RuntimeException", "java/lang/Exception"]
theorem cm_xw : ∀ w ∈ vx_at0 "ClogHouse" 219 "java/util/NoSuchElementException" cm_xn, w ∈ lw_tbl ∧ (goodWord w = true ∨ cm_isN w = true) ∧ (w.onTables = true ∨ goodWord w = true) := by decide +kernel
theorem cm_xk : Cond.classLink "ClogHouse" 217 "java/util/NoSuchElementException" ∈ cm_G := cm_G_of (by decide +kernel) rfl
theorem cm_xi : Cond.initialized "java/util/NoSuchElementException" ∈ cm_G := cm_G_of (by decide +kernel) rfl
theorem cm_xd0 : decode (cm_M 133).2.2.1 33 = .ok (.new 217, 3) := by decide +kernel
theorem cm_xd3 : decode (cm_M 133).2.2.1 36 = .ok (.dup, 1) := by decide +kernel
theorem cm_xd4 : decode (cm_M 133).2.2.1 37 = .ok (.invokespecial 219, 3) := by decide +kernel
theorem cm_xd7 : decode (cm_M 133).2.2.1 40 = .ok (.athrow, 1) := by decide +kernel
theorem cm_throw {l : Launch} {sc : cmS} (htr : l.stackTraces = false) {d : Nat} {st : List Value} {h : cmH} {p : Program} {e : Env} {R : Room} {s : State} {m : MethodId} {args : Array Value} {below : List Frame} {meth : Method} {c : Code} {H : Heap} {locs : List Loc} {ls : Array Slot} {base : Nat} {D : va_G} {aC : Nat → ClassId} {ex : Nat → Nat} {n0 sl0 : Nat} {cl : cmL} (F : cm_fix p s m args meth c 133 base D aC ex sc) (het : ∀ x ∈ c.exceptionTable.toList, False) (hrel : cm_rel base D aC h H) (hS : va_S (fun q => base ≤ q) s.heap H locs) (hl : cm_lr base ex ls cl (cm_M 133).2.2.2.1) (hs0 : s.heap.size = base + n0) (hn0 : n0 ≤ cm_n h) (hsl0 : sl0 ≤ cm_sl h) (hfr : d ≤ R.frames) (hlc : 60 * d ≤ R.locals) (hRc : cm_n h + 1 - n0 ≤ R.cells) (hRs : cm_sl h + 6 - sl0 ≤ R.slots) (h8 : 8 ≤ d) (hw : cm_wd st ≤ 8) :
    W p l e R s m args below meth c H locs (cm_n h - n0) (cm_sl h - sl0) (vx_MQ below (cm_post base D aC ex (some (.double 0)) (cm_mk h 19 6)) (cm_xc base D aC (some (.double 0)) (cm_mk h 19 6)) args s (cm_n h + 1 - n0) (cm_sl h + 6 - sl0) (fun q => base ≤ q)) (F0 m 33 ls (st.map (cm_tr base ex))) := by
  obtain ⟨hx, hb, hml, hr, hown, hts, hlo, hnm, henv, hbs, hsc⟩ := id F
  obtain ⟨-, -, -, -, -, hZ1, hZ2⟩ := id hsc
  refine cm_sz fun hu => ?_
  have hz := cm_size hrel hS hbs (by omega) hu
  have hat : ∀ w ∈ vx_at0 "ClogHouse" 219 "java/util/NoSuchElementException" cm_xn, w.before args s = true := fun w hw => by
    obtain ⟨h1, h2, h3⟩ := cm_xw w hw
    rcases h2 with h2 | h2
    · exact hts w (cm_G_of h1 h2)
    · rcases h3 with h3 | h3
      · exact va_Nw.use h3 (henv.2.1 w (cm_B_of h1 h2))
      · exact hts w (cm_G_of h1 h3)
  refine vx_throw0 (own := "ClogHouse") (cls := "java/util/NoSuchElementException") (names := cm_xn) (ik := 217) (ic := 219) (A := fun q => base ≤ q) hx hb htr hown (by decide +kernel) (by decide +kernel) (hts _ cm_xk) (hts _ cm_xi) hat (by decide +kernel) hZ1 hZ2 hS (by rw [hl.1, hml]) cm_xd0 cm_xd3 cm_xd4 cm_xd7 (fun x hx => (het x hx).elim) (by show 2 + 3 < _; omega) (by rw [cm_wd_tr]; show _ + (13 * (2 + 1) + 42) ≤ _; omega) (by omega) (by omega) hlo ?_ hS.2.2 (by omega) (by omega)
  intro t hal hsz hk hce
  obtain ⟨ce, e1, e2, e3⟩ := hce
  refine ⟨rfl, rfl, ?_, fun q hq => ?_, Nat.le_trans hS.1 hsz⟩
  · refine cm_push hrel hz hk ?_
    have hkd : cm_kd (cm_mk h 19 6) (cm_n h) = 19 := by simp [cm_kd, cm_mk, cm_u1, cm_n]
    have hel : cm_el base aC (cm_mk h 19 6) (cm_n h) = .inr (12, []) := by
      unfold cm_el; rw [if_neg (by omega), if_neg (by omega), if_pos hkd]
    rw [hel]
    rw [hz] at e1
    refine ⟨_, rfl, ce, e1, ?_, e2, fun k hk => absurd hk (Nat.not_lt_zero k)⟩
    have h12 := (henv.1.1 12 _ rfl).2.1
    exact Option.some.inj (e3.symm.trans h12)
  · rw [hk q (by omega)]
    exact hS.2.1 q (by omega) (Nat.not_le.mpr hq)
