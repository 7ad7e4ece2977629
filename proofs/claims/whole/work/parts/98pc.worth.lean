/-! ===== a throw of a callee, caught by the one row of this method's table ===== -/
theorem cx_find {e : Env} {S : State} {g : JFrame} {c : Code} {meth : Method} {a : Addr} {x : ExceptionTableEntry} {k : ClassId} {ce : Cell} (hm : S.vm.method? g.method = some meth) (hco : meth.code = some c) (htab : c.exceptionTable.toList = [x]) (hcov : covers x g.pc = true) (h0 : x.catchType ≠ 0)
    (hl : S.vm.ClassLinks e.platform g.method.cls x.catchType k) (hce : S.heap[a]? = some ce) (hob : ∀ z, ce.vm ≠ .statics z) (hk1 : ∃ z, S.vm.classes[ce.cls]? = some z) (hk2 : ∃ z, S.vm.classes[k]? = some z) (hfit : S.vm.assignable ce.cls k = true)
    (Q : Handler → Pre) (E : CtlPost) (d : Bool) (acts : List Action) : wp (findHandler g a) Q E e d acts S ↔ Q (.found x.handlerPc) d acts (S.setVm (S.vm.noted g.method.cls x.catchType (.cls k))) := by
  rw [W.findHandler_eq hm hco, htab]
  have al : S.vm.Alike (S.vm.noted g.method.cls x.catchType (.cls k)) := (Vm.Alike.refl S.vm).noted _ _ _
  have fit : (S.vm.noted g.method.cls x.catchType (.cls k)).assignable ce.cls k = true := by rw [al.assignable]; exact hfit
  obtain ⟨z1, e1⟩ := hk1
  obtain ⟨y1, f1, -⟩ := al.2.2 _ _ e1
  obtain ⟨z2, e2⟩ := hk2
  obtain ⟨y2, f2, -⟩ := al.2.2 _ _ e2
  obtain ⟨r1, r2⟩ := (resolveClass_links e.toSetting hl).op (op := VmOp.resolveClass g.method.cls x.catchType) rfl
  simp only [covers] at hcov
  simp [findHandler.go, hcov, h0, r1, r2, hce, hob, f1, f2, fit, VmOp.dirties, VmOp.acts]
theorem cx_steps {tb : Tables} {e : Env} {T target : State} {g : JFrame} {c : Code} {meth : Method} {below : List Frame} {a : Addr} {x : ExceptionTableEntry} {k : ClassId} {ce : Cell} (hat : At T g.method c below) (hm : T.vm.method? g.method = some meth) (hco : meth.code = some c) (htab : c.exceptionTable.toList = [x]) (hcov : covers x g.pc = true) (h0 : x.catchType ≠ 0)
    (hl : T.vm.ClassLinks e.platform g.method.cls x.catchType k) (hce : T.heap[a]? = some ce) (hob : ∀ z, ce.vm ≠ .statics z) (hk1 : ∃ z, T.vm.classes[ce.cls]? = some z) (hk2 : ∃ z, T.vm.classes[k]? = some z) (hfit : T.vm.assignable ce.cls k = true)
    (hrest : Steps tb e below ((T.setVm (T.vm.noted g.method.cls x.catchType (.cls k))).setTop { g with pc := x.handlerPc, stack := [.ref a] }) target) :
    Steps tb e below ((T.setTop g).pushFrame (.throwing a)) target := by
  obtain ⟨hgo, hw⟩ := hat.throwing a
  have find := cx_find (e := e) (S := (T.setTop g).pushFrame (.throwing a)) (g := g) (a := a) hm hco htab hcov h0 hl hce hob hk1 hk2 hfit
  have one : ∀ r : List Frame, (stepThrowing e ((T.setTop g).pushFrame (.throwing a)) a (.java g :: r)).1 = (((T.setTop g).pushFrame (.throwing a)).setVm (T.vm.noted g.method.cls x.catchType (.cls k))).setFrames (.java { g with pc := x.handlerPc, stack := [.ref a] } :: r) := by
    intro r
    simp only [stepThrowing, searchFrame, vmDo]
    generalize hr : Sem.go _ e false [] _ = res
    obtain ⟨as, rfl, ha⟩ := Sem.eq_ok_of hr (a := Handler.found x.handlerPc) (s' := ((T.setTop g).pushFrame (.throwing a)).setVm (T.vm.noted g.method.cls x.catchType (.cls k))) (acts' := []) (by simp [find]; rfl)
    rfl
  refine Steps.head hgo hw ?_
  rw [stepThread_throwing (frames_entered hat.top _), one]
  obtain ⟨g₀, hg⟩ := Option.isSome_iff_exists.mp hat.top
  obtain ⟨r, hr⟩ := State.topJava?_eq_some.mp hg
  have sw : ∀ (u : State) (F G : List Frame), ((u.setFrames F).setVm (T.vm.noted g.method.cls x.catchType (.cls k))).setFrames G = (u.setVm (T.vm.noted g.method.cls x.catchType (.cls k))).setFrames G := fun u F G => by
    show ((u.setVm (T.vm.noted g.method.cls x.catchType (.cls k))).setFrames F).setFrames G = _
    rw [State.setFrames_setFrames]
  rw [State.setTop_of_frames _ (show (T.setVm (T.vm.noted g.method.cls x.catchType (.cls k))).frames = .java g₀ :: r from hr)] at hrest
  rw [hr, List.tail_cons, State.pushFrame, sw, State.setTop_of_frames _ hr, sw]
  exact hrest
section CATCH
variable {p : Program} {l : Launch} {e : Env} {R : Room} {s : State} {m : MethodId} {args : Array Value} {below : List Frame} {meth : Method} {c : Code} {H : Heap} {locs : List Loc} {cells slots : Nat} {Q : State → Prop}
theorem cx_catch {own name E : String} {ce : Cell} {q : Addr} {x : ExceptionTableEntry} {pc : Nat} {ls : Array Slot} {rest : List Value} (hown : s.vm.findClass own = some m.cls) (htab : c.exceptionTable.toList = [x]) (hx : covers x pc = true) (h0 : x.catchType ≠ 0) (hlink : (Cond.classLink own x.catchType name).before args s = true) (hcast : (Cond.castable E name).before args s = true) (hcell : H[q]? = some ce) (hv : ce.vm = .none) (hcl : s.vm.findClass E = some ce.cls)
    (kk : W p l e R s m args below meth c H locs cells slots Q (F0 m x.handlerPc ls [.ref q])) : vx_W p l e R s m args below meth c H locs cells slots Q (F0 m pc ls rest) q := by
  intro T hT X
  have hpl : e.platform.magicAccessors = ({} : Platform).magicAccessors := by rw [X.admits.platform]
  obtain ⟨c3, c4, hc3, hc4, hasg⟩ := Cond.castable_spec hcast
  cases Option.some.inj (hc3.symm.trans hcl)
  obtain ⟨c5, hc5, hcl5⟩ := Cond.classLink_spec hown hlink e.platform hpl
  cases Option.some.inj (hc4.symm.trans hc5)
  have hW := X.warmed
  obtain ⟨dk, _, _, kt, hd, _, _, _, _, hkt, _, hopen⟩ := hcl5.here
  obtain ⟨kt', hkt', -⟩ := hW.alike.2.2 _ _ hkt
  obtain ⟨k9, h9, -⟩ := Vm.findClass_spec hcl
  obtain ⟨k9', h9', -⟩ := hW.alike.2.2 _ _ h9
  obtain ⟨t, a1, b1⟩ := kk (T.setVm (T.vm.noted m.cls x.catchType (.cls c4))) hT (X.noted (hW.noted hd hopen (State.rightAt_cls hcl5)))
  exact ⟨t, cx_steps (g := F0 m pc ls rest) (k := c4) X.here X.method' X.code htab hx h0 (hW.classLinks hcl5) (by rw [hT]; exact hcell) (fun z => by rw [hv]; exact (fun w => by cases w)) ⟨k9', h9'⟩ ⟨kt', hkt'⟩ (by rw [hW.alike.assignable]; exact hasg) a1, b1⟩
end CATCH
/-! ===== the law's own worth ===== -/
theorem d223_0 : decode (cm_M 223).2.2.1 0 = .ok (.aload 9, 2) := by decide +kernel
theorem d223_2 : decode (cm_M 223).2.2.1 2 = .ok (.iconst 0, 1) := by decide +kernel
theorem d223_3 : decode (cm_M 223).2.2.1 3 = .ok (.aload_n 0, 1) := by decide +kernel
theorem d223_4 : decode (cm_M 223).2.2.1 4 = .ok (.iload_n 1, 1) := by decide +kernel
theorem d223_5 : decode (cm_M 223).2.2.1 5 = .ok (.iload_n 2, 1) := by decide +kernel
theorem d223_6 : decode (cm_M 223).2.2.1 6 = .ok (.iload_n 3, 1) := by decide +kernel
theorem d223_7 : decode (cm_M 223).2.2.1 7 = .ok (.iload 4, 2) := by decide +kernel
theorem d223_9 : decode (cm_M 223).2.2.1 9 = .ok (.iload 5, 2) := by decide +kernel
theorem d223_11 : decode (cm_M 223).2.2.1 11 = .ok (.iload 6, 2) := by decide +kernel
theorem d223_13 : decode (cm_M 223).2.2.1 13 = .ok (.iload 7, 2) := by decide +kernel
theorem d223_15 : decode (cm_M 223).2.2.1 15 = .ok (.iload 8, 2) := by decide +kernel
theorem d223_17 : decode (cm_M 223).2.2.1 17 = .ok (.invokevirtual 7, 3) := by decide +kernel
theorem d223_20 : decode (cm_M 223).2.2.1 20 = .ok (.i2l, 1) := by decide +kernel
theorem d223_21 : decode (cm_M 223).2.2.1 21 = .ok (.lastore, 1) := by decide +kernel
theorem d223_22 : decode (cm_M 223).2.2.1 22 = .ok (.goto 7, 3) := by decide +kernel
theorem d223_25 : decode (cm_M 223).2.2.1 25 = .ok (.astore 10, 2) := by decide +kernel
theorem d223_27 : decode (cm_M 223).2.2.1 27 = .ok (.iconst 1, 1) := by decide +kernel
theorem d223_28 : decode (cm_M 223).2.2.1 28 = .ok (.ireturn, 1) := by decide +kernel
theorem d223_29 : decode (cm_M 223).2.2.1 29 = .ok (.iconst 0, 1) := by decide +kernel
theorem d223_30 : decode (cm_M 223).2.2.1 30 = .ok (.ireturn, 1) := by decide +kernel
theorem cm_M223 : cm_M 223 = (cm_lwN, 12, method_3_code, 11, some .int) := by
  have hl : cm_ms0.length = 222 := by decide +kernel
  unfold cm_M cm_ms
  rw [List.getD_eq_getElem?_getD, List.getElem?_append_right (by rw [hl]; decide), hl]
  rfl
theorem cm_M133 : (cm_M 133).1 = ⟨"ClogHouse", "worth", "(IIIIIIII)I"⟩ ∧ (cm_M 133).2.1 = 10 ∧ (cm_M 133).2.2.2.1 = 10 := by decide +kernel
def cm_wWo : Cond := Cond.codeWith cm_lwN method_3_code 11 (some .int) [(0, 22, 25, 13)]
set_option maxRecDepth 100000 in
theorem cm_wWt : cm_wWo ∈ lw_tbl := List.mem_of_getElem? (i := 1151) rfl
theorem cm_wWg : cm_wWo ∈ cm_G := cm_G_of cm_wWt rfl
def cm_wsW : List Cond := cm_wWo :: cm_G
theorem cm_wsW_good : GoodIn cm_G cm_wsW := fun w hw => by
  have hm : w ∈ cm_G := by
    rcases List.mem_cons.mp hw with rfl | hw
    · exact cm_wWg
    · exact hw
  exact ⟨hm, good_of_word (List.mem_filter.mp hm).2⟩
theorem cm_wWl : Cond.methodLink "ClogHouseLaw" 7 ⟨"ClogHouse", "worth", "(IIIIIIII)I"⟩ ∈ cm_G := cm_G_of (List.mem_of_getElem? (i := 1153) (by decide +kernel)) rfl
theorem cm_wWi : Cond.instanceMethod ⟨"ClogHouse", "worth", "(IIIIIIII)I"⟩ ∈ cm_G := cm_G_of (by decide +kernel) rfl
theorem cm_wWs : Cond.selects "ClogHouse" ⟨"ClogHouse", "worth", "(IIIIIIII)I"⟩ ⟨"ClogHouse", "worth", "(IIIIIIII)I"⟩ ∈ cm_G := cm_G_of (by decide +kernel) rfl
theorem cm_wWc : Cond.classLink "ClogHouseLaw" 13 "java/util/NoSuchElementException" ∈ cm_G := cm_G_of (List.mem_of_getElem? (i := 1152) (by decide +kernel)) rfl
theorem cm_wWx : Cond.castable "java/util/NoSuchElementException" "java/util/NoSuchElementException" ∈ cm_B := cm_B_of (by decide +kernel) rfl
theorem cm_wWst : Cond.static cm_lwN ∈ cm_G := cm_G_of (List.mem_of_getElem? (i := 1150) (by decide +kernel)) rfl
theorem cm_wWin : Cond.initialized "ClogHouseLaw" ∈ cm_G := cm_G_of (List.mem_of_getElem? (i := 120) (by decide +kernel)) rfl
/-- what the law's own worth makes of the class's -/
def R13 (v1 : Option Value) (h1 : cmH) (o : Nat) (v2 : Option Value) (h2 : cmH) : Prop := (∃ w, v1 = some (.int w) ∧ cm_ok h1 14 o 0 ∧ v2 = some (.int 0) ∧ h2 = cm_setJ h1 o 0 w.toInt64) ∨ ∃ z, v1 = some (.double z) ∧ v2 = some (.int 1) ∧ h2 = h1
theorem R13.ns {v1 v2 : Option Value} {h1 h2 : cmH} {o : Nat} (r : R13 v1 h1 o v2 h2) : cm_n h2 = cm_n h1 ∧ cm_sl h2 = cm_sl h1 := by
  rcases r with ⟨w, -, -, -, rfl⟩ | ⟨z, -, -, rfl⟩
  · exact ⟨rfl, rfl⟩
  · exact ⟨rfl, rfl⟩
section WORTH
variable {p : Program} {l : Launch} {e : Env} {R : Room} {s : State} {m : MethodId} {args : Array Value} {below : List Frame} {meth : Method} {c : Code} {H : Heap} {locs : List Loc} {cells slots : Nat} {Q : State → Prop}
variable {M base : Nat} {D : va_G} {aC : Nat → ClassId} {ex : Nat → Nat} {sc : cmS} {h h' : cmH} {pc : Nat} {ls : Array Slot}
/-- an instruction that makes nothing -/
theorem cm_sim0 (F : cm_fix p s m args meth c M base D aC ex sc) (hrel : cm_rel base D aC h H) (hS : va_S (fun q => base ≤ q) s.heap H locs) {cl cl' : cmL} (hl : cm_lr base ex ls cl (cm_M M).2.2.2.1) (hcn : s.heap.size + cells = base + cm_n h) {i : Instr} {n pc' : Nat} {st st' : List Value} (hd : decode (cm_M M).2.2.1 pc = .ok (i, n)) (hlk : cm_lk i n = true) (hst : cm_st sc M i pc n cl st h = some (pc', cl', st', h')) (hR : cells ≤ R.cells ∧ slots ≤ R.slots) (e1 : cm_n h' = cm_n h) (e2 : cm_sl h' = cm_sl h)
    (kk : cm_k p l e R s m args below meth c Q base D aC ex (cm_M M).2.2.2.1 pc' cl' st' h' cells slots) : W p l e R s m args below meth c H locs cells slots Q (F0 m pc ls (st.map (cm_tr base ex))) :=
  cm_sim1 F hrel hS hl hcn hd hlk hst (cells' := cells) (slots' := slots) (by omega) (by omega) hR.1 hR.2 kk
theorem cm_w13_inv {st as r : List Value} {x o : Nat} (hw : cm_w13 st = some (as, x, o, r)) : ∃ p0 p1 p2 p3 p4 p5 p6 p7 : Int32, st = .ref o :: .int p7 :: .int p6 :: .int p5 :: .int p4 :: .int p3 :: .int p2 :: .int p1 :: .int p0 :: .ref x :: r ∧ as = [.ref x, .int p0, .int p1, .int p2, .int p3, .int p4, .int p5, .int p6, .int p7] ∧ cm_wd r ≤ 8 := by
  unfold cm_w13 at hw
  split at hw
  · obtain ⟨w1, hw⟩ := cm_if_inv hw
    cases hw
    exact ⟨_, _, _, _, _, _, _, _, rfl, rfl, w1⟩
  · cases hw
set_option maxHeartbeats 4000000 in
theorem cm_metW {f d x o : Nat} {h1 h2 : cmH} {v1 v2 : Option Value} {p0 p1 p2 p3 p4 p5 p6 p7 : Int32} (ih : cm_RunOK l sc f) (hcall : cm_ex sc f d 133 0 (cm_en 133 [.ref x, .int p0, .int p1, .int p2, .int p3, .int p4, .int p5, .int p6, .int p7]) [] h = some (v1, h1)) (hx : cm_kd h x = 10 ∧ x < cm_n h) (hr : R13 v1 h1 o v2 h2) :
    Met l cm_lwN cm_wsW ({ frames := d + 1, cells := cm_n h1 - cm_n h, slots := cm_sl h1 - cm_sl h, locals := 60 * (d + 1) }) (cm_pre base D aC ex sc [.ref x, .int p0, .int p1, .int p2, .int p3, .int p4, .int p5, .int p6, .int p7, .ref o] h) (cm_post base D aC ex v2 h2) (cm_n h1 - cm_n h) (cm_sl h1 - cm_sl h) (fun q => base ≤ q) := by
  refine cm_metN (XC := fun _ _ _ => False) (vx_ofWH (cc := method_3_code) (maxL := 11) (ret := some .int) (hh := [(0, 22, 25, 13)]) (by decide) rfl ?_) (fun E st t q => q)
  intro p e s m args below meth c s₁ B hml hv
  obtain ⟨rfl, v3, v4, v5, v6⟩ := hv
  have hts := atoms_spec (ws := cm_wsW) B.pre
  have hG : ∀ w ∈ cm_G, w.before _ s = true := fun w hw => hts w (List.mem_cons_of_mem _ hw)
  have hown : s.vm.findClass "ClogHouseLaw" = some m.cls := findClass_of_methodNamed B.named
  have htab : c.exceptionTable.toList = tableOf [(0, 22, 25, 13)] := vx_table (x := cm_lwN) B (hts _ List.mem_cons_self)
  have F : cm_fix p s m _ meth c 223 base D aC ex sc := ⟨B.exec, by rw [cm_M223]; exact B.bytes, by rw [cm_M223]; exact hml, by rw [cm_M223]; exact B.returns, by rw [cm_M223]; exact hown, hG, B.notSynchronized, fun q => by rw [cm_M223] at q; exact absurd q (by decide), v4, by omega, v5⟩
  have e11 : (cm_M 223).2.2.2.1 = 11 := by rw [cm_M223]
  have ee : cm_en 223 [.ref x, .int p0, .int p1, .int p2, .int p3, .int p4, .int p5, .int p6, .int p7, .ref o] = [some (.ref x), some (.int p0), some (.int p1), some (.int p2), some (.int p3), some (.int p4), some (.int p5), some (.int p6), some (.int p7), some (.ref o), none] := by
    unfold cm_en; rw [cm_M223]; rfl
  have hlr : cm_lr base ex ((lg_sl (List.map (cm_tr base ex) [Value.ref x, .int p0, .int p1, .int p2, .int p3, .int p4, .int p5, .int p6, .int p7, .ref o]) ++ List.replicate (11 - (lg_sl (List.map (cm_tr base ex) [Value.ref x, .int p0, .int p1, .int p2, .int p3, .int p4, .int p5, .int p6, .int p7, .ref o])).length) Slot.unset).toArray) [some (.ref x), some (.int p0), some (.int p1), some (.int p2), some (.int p3), some (.int p4), some (.int p5), some (.int p6), some (.int p7), some (.ref o), none] 11 := by
    have := cm_en_lr (base := base) (ex := ex) (M := 223) (as := [.ref x, .int p0, .int p1, .int p2, .int p3, .int p4, .int p5, .int p6, .int p7, .ref o]) (by rw [cm_M223]; exact Nat.le_of_ble_eq_true rfl)
    rw [ee, e11] at this
    exact this
  rw [lg_entry_eq]
  generalize (lg_sl (List.map (cm_tr base ex) [Value.ref x, .int p0, .int p1, .int p2, .int p3, .int p4, .int p5, .int p6, .int p7, .ref o]) ++ List.replicate (11 - (lg_sl (List.map (cm_tr base ex) [Value.ref x, .int p0, .int p1, .int p2, .int p3, .int p4, .int p5, .int p6, .int p7, .ref o])).length) Slot.unset).toArray = ls0 at hlr ⊢
  have hlr2 : cm_lr base ex ls0 [some (.ref x), some (.int p0), some (.int p1), some (.int p2), some (.int p3), some (.int p4), some (.int p5), some (.int p6), some (.int p7), some (.ref o), none] (cm_M 223).2.2.2.1 := by rw [e11]; exact hlr
  have hc0 : s.heap.size + 0 = base + cm_n h := by omega
  have hR0 : ∀ {k n : Nat}, k ≤ cm_n h1 - cm_n h → n ≤ cm_sl h1 - cm_sl h → k ≤ (headSpec cm_wsW ({ frames := d + 1, cells := cm_n h1 - cm_n h, slots := cm_sl h1 - cm_sl h, locals := 60 * (d + 1) } : Room)).room.cells ∧ n ≤ (headSpec cm_wsW ({ frames := d + 1, cells := cm_n h1 - cm_n h, slots := cm_sl h1 - cm_sl h, locals := 60 * (d + 1) } : Room)).room.slots := fun a b => ⟨a, b⟩
  have hR1 := hR0 (Nat.zero_le _) (Nat.zero_le _)
  refine cm_sim0 (st := []) F v3 va_S.rf hlr2 hc0 d223_0 rfl rfl hR1 rfl rfl fun ls H locs hrel hS hl => ?_
  refine cm_sim0 F hrel hS hl hc0 d223_2 rfl rfl hR1 rfl rfl fun ls H locs hrel hS hl => ?_
  refine cm_sim0 F hrel hS hl hc0 d223_3 rfl rfl hR1 rfl rfl fun ls H locs hrel hS hl => ?_
  refine cm_sim0 F hrel hS hl hc0 d223_4 rfl rfl hR1 rfl rfl fun ls H locs hrel hS hl => ?_
  refine cm_sim0 F hrel hS hl hc0 d223_5 rfl rfl hR1 rfl rfl fun ls H locs hrel hS hl => ?_
  refine cm_sim0 F hrel hS hl hc0 d223_6 rfl rfl hR1 rfl rfl fun ls H locs hrel hS hl => ?_
  refine cm_sim0 F hrel hS hl hc0 d223_7 rfl rfl hR1 rfl rfl fun ls H locs hrel hS hl => ?_
  refine cm_sim0 F hrel hS hl hc0 d223_9 rfl rfl hR1 rfl rfl fun ls H locs hrel hS hl => ?_
  refine cm_sim0 F hrel hS hl hc0 d223_11 rfl rfl hR1 rfl rfl fun ls H locs hrel hS hl => ?_
  refine cm_sim0 F hrel hS hl hc0 d223_13 rfl rfl hR1 rfl rfl fun ls H locs hrel hS hl => ?_
  refine cm_sim0 F hrel hS hl hc0 d223_15 rfl rfl hR1 rfl rfl fun ls H locs hrel hS hl => ?_
  obtain ⟨hxx, hb, hml', hr', hown', hts', hlo, hnm, henv, hbs, hsc⟩ := id F
  refine cm_sz fun hu => ?_
  have hz := cm_size hrel hS hbs hc0 hu
  obtain ⟨m1, m2, m3, m4, m5⟩ := cm_M1 (M := 133) (by decide)
  obtain ⟨m6, m7⟩ := cm_M2 (M := 133) (by decide)
  have hM := cm_metX (base := base) (D := D) (aC := aC) (ex := ex) ih (M' := 133) (by decide) hcall (by rw [cm_M133.2.2]; exact Nat.le_of_ble_eq_true rfl)
  have hfix : CallFix p m c (cm_M 223).2.2.1 (cm_M 223).2.2.2.1 s _ cm_G (cm_ownN (cm_M 223).2.1) := ⟨hxx, hb, hml', hown', hts'⟩
  have hbsz : ∀ U : State, U.heap = H → s.WarmedH U.vm → cm_rel base D aC h U.heap ∧ cm_env D aC ex U ∧ cm_scr base ex sc U U.heap ∧ U.heap.size = base + cm_n h := fun U hU hW => by
    subst hU
    exact ⟨hrel, henv.warm hW, hsc.keep hW.alike (fun q hq => hS.2.1 q (Nat.lt_of_lt_of_le hq hbs) (Nat.not_le.mpr hq)) (Nat.le_trans hbs hS.1), hz⟩
  have hpV : PreV s H (cm_M 133).1.cls (base + x) (cm_pre base D aC ex sc [.ref x, .int p0, .int p1, .int p2, .int p3, .int p4, .int p5, .int p6, .int p7] h) ([.int p0, .int p1, .int p2, .int p3, .int p4, .int p5, .int p6, .int p7].map (cm_tr base ex)) := by
    obtain ⟨g1, -⟩ := cm_class (ci := 10) (by decide)
    have he := cm_ws_get (base := base) (aC := aC) hx.2
    rw [cm_el_obj (by omega), hx.1] at he
    refine ⟨cm_pre_blind, ?_, fun U hU hW => ⟨rfl, hbsz U hU hW⟩⟩
    have := va_recv henv.1 hrel g1 he
    rw [cm_M133.1]
    exact this
  have hw1 : Cond.methodLink (cm_ownN (cm_M 223).2.1) 7 (cm_M 133).1 ∈ cm_G := by rw [cm_M223, cm_M133.1]; exact cm_wWl
  have hw2 : Cond.instanceMethod (cm_M 133).1 ∈ cm_G := by rw [cm_M133.1]; exact cm_wWi
  have hw3 : Cond.selects (cm_M 133).1.cls (cm_M 133).1 (cm_M 133).1 ∈ cm_G := by rw [cm_M133.1]; exact cm_wWs
  have run := vx_runV (R := ({ frames := d + 1, cells := cm_n h1 - cm_n h, slots := cm_sl h1 - cm_sl h, locals := 60 * (d + 1) } : Room)) (below := below) (locs := locs) (cells := 0) (slots := 0) (e := e) (meth := meth) (g := F0 m 17 ls ([.int p7, .int p6, .int p5, .int p4, .int p3, .int p2, .int p1, .int p0, .ref x, .int 0, .ref o].map (cm_tr base ex))) (rest := [.int 0, .ref (base + o)]) hfix hM ⟨callB_of 8 hts' (cm_wsM_good (M := 133) (by decide)) rfl rfl rfl (hts' _ m7) (hts' _ hw1) ⟨m4, m5, by rw [cm_M133.1]; decide⟩ ⟨Nat.le_refl _, by show 8 + ((cm_M 133).2.2.2.1 + 11) + 60 * d ≤ 60 * (d + 1); rw [cm_M133.2.2]; omega⟩, hts' _ hw2, hts' _ hw3⟩ hpV rfl rfl hl.1 rfl (lv_room (Nat.le_of_ble_eq_true rfl)) d223_17 ⟨Nat.le_of_eq (Nat.zero_add _), Nat.le_of_eq (Nat.zero_add _)⟩
  intro T hT X
  rcases run T hT X with ⟨v', st₀, t, T', L, h0, X', hL, e1, e2, ⟨hxv, hv', hP, hk, hz'⟩, st⟩ | ⟨q, st₀, t, T', L, E, ce, h0, X', hL, e1, e2, ⟨hxv, hE, hP, hk, hz'⟩, hce, hcv, hcl, st⟩
  · -- it returned
    have hS' : va_S (fun q => base ≤ q) s.heap T'.heap (locs ++ L) := by
      rw [h0] at hk hz'
      exact ⟨Nat.le_trans hS.1 (by rw [e1]; exact hz'), fun q h1 h2 => by rw [e1, hk q (by omega)]; exact hS.2.1 q h1 h2, fun q hq => by
        rcases List.mem_append.mp hq with h | h
        · exact hS.2.2 q h
        · exact hL q h⟩
    rcases hr with ⟨w, rfl, hok, rfl, rfl⟩ | ⟨z, rfl, -⟩
    · have hP' : cm_rel base D aC h1 T'.heap := by rw [e1]; exact hP
      obtain ⟨a1, a2⟩ := cm_ex_mono _ _ _ _ _ _ _ _ _ hcall
      have hc1 : s.heap.size + (0 + (cm_n h1 - cm_n h)) = base + cm_n h1 := by omega
      have hR2 := hR0 (k := 0 + (cm_n h1 - cm_n h)) (n := 0 + (cm_sl h1 - cm_sl h)) (by omega) (by omega)
      have kk : W p l e ({ frames := d + 1, cells := cm_n h1 - cm_n h, slots := cm_sl h1 - cm_sl h, locals := 60 * (d + 1) } : Room) s m ((List.map (cm_tr base ex) [Value.ref x, .int p0, .int p1, .int p2, .int p3, .int p4, .int p5, .int p6, .int p7, .ref o]).toArray) below meth c T'.heap (locs ++ L) (0 + (cm_n h1 - cm_n h)) (0 + (cm_sl h1 - cm_sl h)) (vx_MQ below (cm_post base D aC ex (some (.int 0)) (cm_setJ h1 o 0 w.toInt64)) (fun _ _ _ => False) ((List.map (cm_tr base ex) [Value.ref x, .int p0, .int p1, .int p2, .int p3, .int p4, .int p5, .int p6, .int p7, .ref o]).toArray) s (cm_n h1 - cm_n h) (cm_sl h1 - cm_sl h) (fun q => base ≤ q)) (F0 m 20 ls ([.int w, .int 0, .ref o].map (cm_tr base ex))) := by
        refine cm_sim0 F hP' hS' hl hc1 d223_20 rfl rfl hR2 rfl rfl fun ls H locs hrel hS hl => ?_
        refine cm_sim0 (h' := cm_setJ h1 o 0 w.toInt64) F hrel hS hl hc1 d223_21 rfl (if_pos hok) hR2 rfl rfl fun ls H locs hrel hS hl => ?_
        refine cm_sim0 F hrel hS hl hc1 d223_22 rfl rfl hR2 rfl rfl fun ls H locs hrel hS hl => ?_
        refine cm_sim0 F hrel hS hl hc1 d223_29 rfl rfl hR2 rfl rfl fun ls H locs hrel hS hl => ?_
        have fin := cm_ret1 (p := p) (l := l) (e := e) (R := ({ frames := d + 1, cells := cm_n h1 - cm_n h, slots := cm_sl h1 - cm_sl h, locals := 60 * (d + 1) } : Room)) (below := below) (cells := 0 + (cm_n h1 - cm_n h)) (slots := 0 + (cm_sl h1 - cm_sl h)) (ls := ls) (st := [.int 0]) (v := some (.int 0)) F hrel hS d223_30 rfl (by unfold cm_rt; rw [cm_M223])
        rw [Nat.zero_add, Nat.zero_add] at fin ⊢
        exact vx_ret fin
      obtain ⟨t2, b1, b2⟩ := kk T' rfl X'
      cases hv'
      exact ⟨t2, st t2 b1, b2⟩
    · cases hxv
  · -- it threw
    subst hE
    have hS' : va_S (fun q => base ≤ q) s.heap T'.heap (locs ++ L) := by
      rw [h0] at hk hz'
      exact ⟨Nat.le_trans hS.1 (by rw [e1]; exact hz'), fun q h1 h2 => by rw [e1, hk q (by omega)]; exact hS.2.1 q h1 h2, fun q hq => by
        rcases List.mem_append.mp hq with h | h
        · exact hS.2.2 q h
        · exact hL q h⟩
    rcases hr with ⟨w, rfl, -⟩ | ⟨z, rfl, rfl, rfl⟩
    · cases hxv
    · have hP' : cm_rel base D aC h2 T'.heap := by rw [e1]; exact hP
      have kk : W p l e ({ frames := d + 1, cells := cm_n h2 - cm_n h, slots := cm_sl h2 - cm_sl h, locals := 60 * (d + 1) } : Room) s m ((List.map (cm_tr base ex) [Value.ref x, .int p0, .int p1, .int p2, .int p3, .int p4, .int p5, .int p6, .int p7, .ref o]).toArray) below meth c T'.heap (locs ++ L) (0 + (cm_n h2 - cm_n h)) (0 + (cm_sl h2 - cm_sl h)) (vx_MQ below (cm_post base D aC ex (some (.int 1)) h2) (fun _ _ _ => False) ((List.map (cm_tr base ex) [Value.ref x, .int p0, .int p1, .int p2, .int p3, .int p4, .int p5, .int p6, .int p7, .ref o]).toArray) s (cm_n h2 - cm_n h) (cm_sl h2 - cm_sl h) (fun q => base ≤ q)) (F0 m 25 ls [.ref q]) := by
        refine lv_astore hxx hb d223_25 (cm_lr_has hl) (by rw [cm_M223]; decide) rfl fun ls' hl' => ?_
        refine lv_iconst hxx hb d223_27 rfl ?_
        have fin := cm_ret1 (p := p) (l := l) (e := e) (R := ({ frames := d + 1, cells := cm_n h2 - cm_n h, slots := cm_sl h2 - cm_sl h, locals := 60 * (d + 1) } : Room)) (below := below) (cells := 0 + (cm_n h2 - cm_n h)) (slots := 0 + (cm_sl h2 - cm_sl h)) (ls := ls') (st := [.int 1]) (v := some (.int 1)) F hP' hS' d223_28 rfl (by unfold cm_rt; rw [cm_M223])
        rw [Nat.zero_add, Nat.zero_add] at fin ⊢
        exact vx_ret fin
      have ct := cx_catch (pc := 17) (rest := [.int 0, .ref (base + o)]) (x := (tableOf [(0, 22, 25, 13)]).head!) hown htab rfl (by decide) (hG _ cm_wWc) (va_Nw.use rfl (henv.2.1 _ cm_wWx)) (by rw [e1]; exact hce) hcv hcl kk
      obtain ⟨t2, b1, b2⟩ := ct T' rfl X'
      exact ⟨t2, st.trans b1, b2⟩
theorem cm_13 {f d1 M' k ix n x o : Nat} {i : Instr} {st as r : List Value} {cl : cmL} {h1 h2 : cmH} {v1 v2 : Option Value} (F : cm_fix p s m args meth c M base D aC ex sc) (ih : cm_RunOK l sc f) (hrel : cm_rel base D aC h H) (hS : va_S (fun q => base ≤ q) s.heap H locs) (hz : H.size = base + cm_n h) (hl : cm_lr base ex ls cl (cm_M M).2.2.2.1) (hcM : cm_cM (cm_M M).2.1 ix = some (M', 13, k)) (hi : cm_cx i = some (1, ix)) (hd : decode (cm_M M).2.2.1 pc = .ok (i, n)) (hlk : cm_lk i n = true) (hw : cm_w13 st = some (as, x, o, r)) (hx : cm_kd h x = 10 ∧ x < cm_n h) (hcall : cm_ex sc f d1 133 0 (cm_en 133 as) [] h = some (v1, h1)) (hr : R13 v1 h1 o v2 h2) (hfr : d1 + 1 + 1 ≤ R.frames) (hlc : 60 * (d1 + 1 + 1) ≤ R.locals) (hf : cells + (cm_n h2 - cm_n h) ≤ R.cells ∧ slots + (cm_sl h2 - cm_sl h) ≤ R.slots) :
    va_Run p l e R s m args below meth c H locs cells slots (cm_n h2 - cm_n h) (cm_sl h2 - cm_sl h) (F0 m pc ls (st.map (cm_tr base ex))) (r.map (cm_tr base ex)) (cm_post base D aC ex v2 h2 (((as ++ [Value.ref o]).map (cm_tr base ex)).toArray)) (fun q => base ≤ q) := by
  obtain ⟨hxx, hb, hml, hrt, hown, hts, hlo, hnm, henv, hbs, hsc⟩ := id F
  obtain ⟨p0, p1, p2, p3, p4, p5, p6, p7, rfl, rfl, hwr⟩ := cm_w13_inv hw
  obtain ⟨n1, n2⟩ := hr.ns
  have hM := cm_metW (base := base) (D := D) (aC := aC) (ex := ex) ih hcall hx hr
  rw [n1, n2] at hf ⊢
  obtain ⟨q1, -⟩ := (cm_cM_spec hcM).2.2.2.2.2.2.2.2.1 rfl
  have hi2 : i = .invokestatic ix := by
    cases i <;> first | (cases hi; done) | (simp only [cm_cx, Option.some.injEq, Prod.mk.injEq] at hi; first | (rw [hi.2]; done) | (exfalso; omega))
  subst hi2
  obtain rfl : n = 3 := eq_of_beq hlk
  have hfix : CallFix p m c (cm_M M).2.2.1 (cm_M M).2.2.2.1 s args cm_G (cm_ownN (cm_M M).2.1) := ⟨hxx, hb, hml, hown, hts⟩
  have hpS : PreS s H (cm_pre base D aC ex sc [.ref x, .int p0, .int p1, .int p2, .int p3, .int p4, .int p5, .int p6, .int p7, .ref o] h) ([.ref x, .int p0, .int p1, .int p2, .int p3, .int p4, .int p5, .int p6, .int p7, .ref o].map (cm_tr base ex)) := ⟨cm_pre_blind, fun U hU hW => ⟨rfl, by
    subst hU
    exact ⟨hrel, henv.warm hW, hsc.keep hW.alike (fun q hq => hS.2.1 q (Nat.lt_of_lt_of_le hq hbs) (Nat.not_le.mpr hq)) (Nat.le_trans hbs hS.1), hz⟩⟩⟩
  have cw : vx_CSW R s args (cm_ownN (cm_M M).2.1) ix cm_lwN method_3_code 11 (some .int) [(0, 22, 25, 13)] cm_wsW ({ frames := d1 + 1, cells := cm_n h1 - cm_n h, slots := cm_sl h1 - cm_sl h, locals := 60 * (d1 + 1) }) (cm_n h1 - cm_n h) (cm_sl h1 - cm_sl h) 10 := by
    refine ⟨⟨rfl, rfl, hfr, by show 8 + (11 + 11) + 60 * (d1 + 1) ≤ _; omega, pay_in hts cm_wsW_good, List.mem_cons_self⟩, hts _ cm_wWg, hts _ cm_wWin, ⟨by decide, by decide⟩, fun sig hsig => ?_, hts _ q1, hts _ cm_wWst⟩
    have h2 : (parseMethodDescriptor cm_lwN.desc).map (fun d => d.parameters.length) = some 10 := by decide +kernel
    rw [hsig] at h2
    exact (Option.some.inj h2).symm
  exact vx_runSW hfix hM cw hpS rfl rfl hl.1 rfl (lv_room (by rw [cm_wd_tr]; exact hwr)) hd hf
end WORTH
