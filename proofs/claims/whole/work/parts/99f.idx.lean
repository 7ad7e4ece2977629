/-! ===== String.indexOf of the two constants, over the JDK's own code ===== -/
def jyI : MethodName := ⟨"java/lang/String", "indexOf", "(I)I"⟩
def jyII : MethodName := ⟨"java/lang/String", "indexOf", "(II)I"⟩
def jyL : MethodName := ⟨"java/lang/String", "isLatin1", "()Z"⟩
def jyN : MethodName := ⟨"java/lang/String", "length", "()I"⟩
def jyC : MethodName := ⟨"java/lang/String", "coder", "()B"⟩
def jyX : MethodName := ⟨"java/lang/StringLatin1", "indexOf", "([BIII)I"⟩
def jyE : MethodName := ⟨"java/lang/StringLatin1", "canEncode", "(I)Z"⟩
def jyK : MethodName := ⟨"java/lang/StringLatin1", "indexOfChar", "([BIII)I"⟩
def jw (y : MethodName) (cc : ByteArray) (n : Nat) (r : Option FieldType) : List Cond := Cond.code y cc n r :: cm_G
theorem jw_good {y : MethodName} {cc : ByteArray} {n : Nat} {r : Option FieldType} (h : Cond.code y cc n r ∈ cm_G) : GoodIn cm_G (jw y cc n r) := fun w hw => by
  have hm : w ∈ cm_G := by
    rcases List.mem_cons.mp hw with rfl | hw
    · exact h
    · exact hw
  exact ⟨hm, good_of_word (List.mem_filter.mp hm).2⟩
set_option maxRecDepth 100000 in
theorem jcI : Cond.code jyI prog_18_method_79_code 2 (some .int) ∈ cm_G := cm_G_of (List.mem_of_getElem? (i := 663) rfl) rfl
set_option maxRecDepth 100000 in
theorem jcII : Cond.code jyII prog_18_method_80_code 3 (some .int) ∈ cm_G := cm_G_of (List.mem_of_getElem? (i := 667) rfl) rfl
set_option maxRecDepth 100000 in
theorem jcL : Cond.code jyL prog_18_method_154_code 1 (some .boolean) ∈ cm_G := cm_G_of (List.mem_of_getElem? (i := 671) rfl) rfl
set_option maxRecDepth 100000 in
theorem jcN : Cond.code jyN prog_18_method_54_code 1 (some .int) ∈ cm_G := cm_G_of (List.mem_of_getElem? (i := 677) rfl) rfl
set_option maxRecDepth 100000 in
theorem jcC : Cond.code jyC prog_18_method_152_code 1 (some .byte) ∈ cm_G := cm_G_of (List.mem_of_getElem? (i := 681) rfl) rfl
set_option maxRecDepth 100000 in
theorem jcX : Cond.code jyX prog_19_method_22_code 4 (some .int) ∈ cm_G := cm_G_of (List.mem_of_getElem? (i := 684) rfl) rfl
set_option maxRecDepth 100000 in
theorem jcE : Cond.code jyE prog_19_method_4_code 1 (some .boolean) ∈ cm_G := cm_G_of (List.mem_of_getElem? (i := 687) rfl) rfl
set_option maxRecDepth 100000 in
theorem jcK : Cond.code jyK prog_19_method_23_code 6 (some .int) ∈ cm_G := cm_G_of (List.mem_of_getElem? (i := 692) rfl) rfl
theorem jg (w : Cond) (k : Nat) (h : (lw_tbl[k]? == some w) = true) (g : goodWord w = true) : w ∈ cm_G := cm_G_of (List.mem_of_getElem? (i := k) (eq_of_beq h)) g
theorem jiS : Cond.initialized "java/lang/String" ∈ cm_G := cm_G_of (List.mem_of_getElem? (i := 135) (by decide +kernel)) rfl
theorem jiX : Cond.initialized "java/lang/StringLatin1" ∈ cm_G := cm_G_of (List.mem_of_getElem? (i := 136) (by decide +kernel)) rfl
theorem jlI6 : Cond.methodLink "ClogHouse$Reader" 71 jyI ∈ cm_G := cm_G_of (List.mem_of_getElem? (i := 660) (by decide +kernel)) rfl
theorem jlI10 : Cond.methodLink "ClogHouse" 212 jyI ∈ cm_G := cm_G_of (List.mem_of_getElem? (i := 1158) (by decide +kernel)) rfl
theorem jmI : Cond.instanceMethod jyI ∈ cm_G ∧ Cond.selects "java/lang/String" jyI jyI ∈ cm_G := ⟨cm_G_of (List.mem_of_getElem? (i := 661) (by decide +kernel)) rfl, cm_G_of (List.mem_of_getElem? (i := 662) (by decide +kernel)) rfl⟩
theorem jmII : Cond.methodLink "java/lang/String" 633 jyII ∈ cm_G ∧ Cond.instanceMethod jyII ∈ cm_G ∧ Cond.selects "java/lang/String" jyII jyII ∈ cm_G := ⟨cm_G_of (List.mem_of_getElem? (i := 664) (by decide +kernel)) rfl, cm_G_of (List.mem_of_getElem? (i := 665) (by decide +kernel)) rfl, cm_G_of (List.mem_of_getElem? (i := 666) (by decide +kernel)) rfl⟩
theorem jmL : Cond.methodLink "java/lang/String" 492 jyL ∈ cm_G ∧ Cond.instanceMethod jyL ∈ cm_G ∧ Cond.selects "java/lang/String" jyL jyL ∈ cm_G := ⟨cm_G_of (List.mem_of_getElem? (i := 668) (by decide +kernel)) rfl, cm_G_of (List.mem_of_getElem? (i := 669) (by decide +kernel)) rfl, cm_G_of (List.mem_of_getElem? (i := 670) (by decide +kernel)) rfl⟩
theorem jmN : Cond.methodLink "java/lang/String" 505 jyN ∈ cm_G ∧ Cond.instanceMethod jyN ∈ cm_G ∧ Cond.selects "java/lang/String" jyN jyN ∈ cm_G := ⟨cm_G_of (List.mem_of_getElem? (i := 674) (by decide +kernel)) rfl, cm_G_of (List.mem_of_getElem? (i := 675) (by decide +kernel)) rfl, cm_G_of (List.mem_of_getElem? (i := 676) (by decide +kernel)) rfl⟩
theorem jmC : Cond.methodLink "java/lang/String" 335 jyC ∈ cm_G ∧ Cond.instanceMethod jyC ∈ cm_G ∧ Cond.selects "java/lang/String" jyC jyC ∈ cm_G := ⟨cm_G_of (List.mem_of_getElem? (i := 678) (by decide +kernel)) rfl, cm_G_of (List.mem_of_getElem? (i := 679) (by decide +kernel)) rfl, cm_G_of (List.mem_of_getElem? (i := 680) (by decide +kernel)) rfl⟩
theorem jmX : Cond.methodLink "java/lang/String" 637 jyX ∈ cm_G ∧ Cond.static jyX ∈ cm_G := ⟨cm_G_of (List.mem_of_getElem? (i := 682) (by decide +kernel)) rfl, cm_G_of (List.mem_of_getElem? (i := 683) (by decide +kernel)) rfl⟩
theorem jmE : Cond.methodLink "java/lang/StringLatin1" 88 jyE ∈ cm_G ∧ Cond.static jyE ∈ cm_G := ⟨cm_G_of (List.mem_of_getElem? (i := 685) (by decide +kernel)) rfl, cm_G_of (List.mem_of_getElem? (i := 686) (by decide +kernel)) rfl⟩
theorem jmK : Cond.methodLink "java/lang/StringLatin1" 95 jyK ∈ cm_G ∧ Cond.static jyK ∈ cm_G := ⟨cm_G_of (List.mem_of_getElem? (i := 690) (by decide +kernel)) rfl, cm_G_of (List.mem_of_getElem? (i := 691) (by decide +kernel)) rfl⟩
theorem jlMx : Cond.methodLink "java/lang/StringLatin1" 92 Lib.Math.max.name ∈ cm_G := cm_G_of (List.mem_of_getElem? (i := 688) (by decide +kernel)) rfl
theorem jlMn : Cond.methodLink "java/lang/StringLatin1" 38 Lib.Math.min.name ∈ cm_G := cm_G_of (List.mem_of_getElem? (i := 689) (by decide +kernel)) rfl
theorem jfS : Cond.fieldLink "java/lang/String" 38 "java/lang/String" "COMPACT_STRINGS" "Z" ∈ cm_G := cm_G_of (List.mem_of_getElem? (i := 672) (by decide +kernel)) rfl
theorem jfC : Cond.fieldLink "java/lang/String" 15 "java/lang/String" "coder" "B" ∈ cm_G := cm_G_of (List.mem_of_getElem? (i := 1784) (by decide +kernel)) rfl
theorem jfV : Cond.fieldLink "java/lang/String" 9 "java/lang/String" "value" "[B" ∈ cm_G := cm_G_of (List.mem_of_getElem? (i := 1785) (by decide +kernel)) rfl
theorem jdI_0 : decode prog_18_method_79_code 0 = .ok (.aload_n 0, 1) := by decide +kernel
theorem jdI_1 : decode prog_18_method_79_code 1 = .ok (.iload_n 1, 1) := by decide +kernel
theorem jdI_2 : decode prog_18_method_79_code 2 = .ok (.iconst 0, 1) := by decide +kernel
theorem jdI_3 : decode prog_18_method_79_code 3 = .ok (.invokevirtual 633, 3) := by decide +kernel
theorem jdI_6 : decode prog_18_method_79_code 6 = .ok (.ireturn, 1) := by decide +kernel
theorem jdII_0 : decode prog_18_method_80_code 0 = .ok (.aload_n 0, 1) := by decide +kernel
theorem jdII_1 : decode prog_18_method_80_code 1 = .ok (.invokevirtual 492, 3) := by decide +kernel
theorem jdII_4 : decode prog_18_method_80_code 4 = .ok (.ifCond .eq 19, 3) := by decide +kernel
theorem jdII_7 : decode prog_18_method_80_code 7 = .ok (.aload_n 0, 1) := by decide +kernel
theorem jdII_8 : decode prog_18_method_80_code 8 = .ok (.getfield 9, 3) := by decide +kernel
theorem jdII_11 : decode prog_18_method_80_code 11 = .ok (.iload_n 1, 1) := by decide +kernel
theorem jdII_12 : decode prog_18_method_80_code 12 = .ok (.iload_n 2, 1) := by decide +kernel
theorem jdII_13 : decode prog_18_method_80_code 13 = .ok (.aload_n 0, 1) := by decide +kernel
theorem jdII_14 : decode prog_18_method_80_code 14 = .ok (.invokevirtual 505, 3) := by decide +kernel
theorem jdII_17 : decode prog_18_method_80_code 17 = .ok (.invokestatic 637, 3) := by decide +kernel
theorem jdII_20 : decode prog_18_method_80_code 20 = .ok (.goto 16, 3) := by decide +kernel
theorem jdII_36 : decode prog_18_method_80_code 36 = .ok (.ireturn, 1) := by decide +kernel
theorem jdL_0 : decode prog_18_method_154_code 0 = .ok (.getstatic 38, 3) := by decide +kernel
theorem jdL_3 : decode prog_18_method_154_code 3 = .ok (.ifCond .eq 14, 3) := by decide +kernel
theorem jdL_6 : decode prog_18_method_154_code 6 = .ok (.aload_n 0, 1) := by decide +kernel
theorem jdL_7 : decode prog_18_method_154_code 7 = .ok (.getfield 15, 3) := by decide +kernel
theorem jdL_10 : decode prog_18_method_154_code 10 = .ok (.ifCond .ne 7, 3) := by decide +kernel
theorem jdL_13 : decode prog_18_method_154_code 13 = .ok (.iconst 1, 1) := by decide +kernel
theorem jdL_14 : decode prog_18_method_154_code 14 = .ok (.goto 4, 3) := by decide +kernel
theorem jdL_18 : decode prog_18_method_154_code 18 = .ok (.ireturn, 1) := by decide +kernel
theorem jdN_0 : decode prog_18_method_54_code 0 = .ok (.aload_n 0, 1) := by decide +kernel
theorem jdN_1 : decode prog_18_method_54_code 1 = .ok (.getfield 9, 3) := by decide +kernel
theorem jdN_4 : decode prog_18_method_54_code 4 = .ok (.arraylength, 1) := by decide +kernel
theorem jdN_5 : decode prog_18_method_54_code 5 = .ok (.aload_n 0, 1) := by decide +kernel
theorem jdN_6 : decode prog_18_method_54_code 6 = .ok (.invokevirtual 335, 3) := by decide +kernel
theorem jdN_9 : decode prog_18_method_54_code 9 = .ok (.ishr, 1) := by decide +kernel
theorem jdN_10 : decode prog_18_method_54_code 10 = .ok (.ireturn, 1) := by decide +kernel
theorem jdC_0 : decode prog_18_method_152_code 0 = .ok (.getstatic 38, 3) := by decide +kernel
theorem jdC_3 : decode prog_18_method_152_code 3 = .ok (.ifCond .eq 10, 3) := by decide +kernel
theorem jdC_6 : decode prog_18_method_152_code 6 = .ok (.aload_n 0, 1) := by decide +kernel
theorem jdC_7 : decode prog_18_method_152_code 7 = .ok (.getfield 15, 3) := by decide +kernel
theorem jdC_10 : decode prog_18_method_152_code 10 = .ok (.goto 4, 3) := by decide +kernel
theorem jdC_14 : decode prog_18_method_152_code 14 = .ok (.ireturn, 1) := by decide +kernel
theorem jdX_0 : decode prog_19_method_22_code 0 = .ok (.iload_n 1, 1) := by decide +kernel
theorem jdX_1 : decode prog_19_method_22_code 1 = .ok (.invokestatic 88, 3) := by decide +kernel
theorem jdX_4 : decode prog_19_method_22_code 4 = .ok (.ifCond .ne 5, 3) := by decide +kernel
theorem jdX_7 : decode prog_19_method_22_code 7 = .ok (.iconst (-1), 1) := by decide +kernel
theorem jdX_8 : decode prog_19_method_22_code 8 = .ok (.ireturn, 1) := by decide +kernel
theorem jdX_9 : decode prog_19_method_22_code 9 = .ok (.iload_n 2, 1) := by decide +kernel
theorem jdX_10 : decode prog_19_method_22_code 10 = .ok (.iconst 0, 1) := by decide +kernel
theorem jdX_11 : decode prog_19_method_22_code 11 = .ok (.invokestatic 92, 3) := by decide +kernel
theorem jdX_14 : decode prog_19_method_22_code 14 = .ok (.istore_n 2, 1) := by decide +kernel
theorem jdX_15 : decode prog_19_method_22_code 15 = .ok (.iload_n 3, 1) := by decide +kernel
theorem jdX_16 : decode prog_19_method_22_code 16 = .ok (.aload_n 0, 1) := by decide +kernel
theorem jdX_17 : decode prog_19_method_22_code 17 = .ok (.arraylength, 1) := by decide +kernel
theorem jdX_18 : decode prog_19_method_22_code 18 = .ok (.invokestatic 38, 3) := by decide +kernel
theorem jdX_21 : decode prog_19_method_22_code 21 = .ok (.istore_n 3, 1) := by decide +kernel
theorem jdX_22 : decode prog_19_method_22_code 22 = .ok (.iload_n 2, 1) := by decide +kernel
theorem jdX_23 : decode prog_19_method_22_code 23 = .ok (.iload_n 3, 1) := by decide +kernel
theorem jdX_24 : decode prog_19_method_22_code 24 = .ok (.if_icmp .lt 5, 3) := by decide +kernel
theorem jdX_27 : decode prog_19_method_22_code 27 = .ok (.iconst (-1), 1) := by decide +kernel
theorem jdX_28 : decode prog_19_method_22_code 28 = .ok (.ireturn, 1) := by decide +kernel
theorem jdX_29 : decode prog_19_method_22_code 29 = .ok (.aload_n 0, 1) := by decide +kernel
theorem jdX_30 : decode prog_19_method_22_code 30 = .ok (.iload_n 1, 1) := by decide +kernel
theorem jdX_31 : decode prog_19_method_22_code 31 = .ok (.iload_n 2, 1) := by decide +kernel
theorem jdX_32 : decode prog_19_method_22_code 32 = .ok (.iload_n 3, 1) := by decide +kernel
theorem jdX_33 : decode prog_19_method_22_code 33 = .ok (.invokestatic 95, 3) := by decide +kernel
theorem jdX_36 : decode prog_19_method_22_code 36 = .ok (.ireturn, 1) := by decide +kernel
theorem jdE_0 : decode prog_19_method_4_code 0 = .ok (.iload_n 0, 1) := by decide +kernel
theorem jdE_1 : decode prog_19_method_4_code 1 = .ok (.ifCond .lt 14, 3) := by decide +kernel
theorem jdE_4 : decode prog_19_method_4_code 4 = .ok (.iload_n 0, 1) := by decide +kernel
theorem jdE_5 : decode prog_19_method_4_code 5 = .ok (.sipush 255, 3) := by decide +kernel
theorem jdE_8 : decode prog_19_method_4_code 8 = .ok (.if_icmp .gt 7, 3) := by decide +kernel
theorem jdE_11 : decode prog_19_method_4_code 11 = .ok (.iconst 1, 1) := by decide +kernel
theorem jdE_12 : decode prog_19_method_4_code 12 = .ok (.goto 4, 3) := by decide +kernel
theorem jdE_15 : decode prog_19_method_4_code 15 = .ok (.iconst 0, 1) := by decide +kernel
theorem jdE_16 : decode prog_19_method_4_code 16 = .ok (.ireturn, 1) := by decide +kernel
theorem jdK_0 : decode prog_19_method_23_code 0 = .ok (.iload_n 1, 1) := by decide +kernel
theorem jdK_1 : decode prog_19_method_23_code 1 = .ok (.i2b, 1) := by decide +kernel
theorem jdK_2 : decode prog_19_method_23_code 2 = .ok (.istore 4, 2) := by decide +kernel
theorem jdK_4 : decode prog_19_method_23_code 4 = .ok (.iload_n 2, 1) := by decide +kernel
theorem jdK_5 : decode prog_19_method_23_code 5 = .ok (.istore 5, 2) := by decide +kernel
theorem jdK_7 : decode prog_19_method_23_code 7 = .ok (.iload 5, 2) := by decide +kernel
theorem jdK_9 : decode prog_19_method_23_code 9 = .ok (.iload_n 3, 1) := by decide +kernel
theorem jdK_10 : decode prog_19_method_23_code 10 = .ok (.if_icmp .ge 21, 3) := by decide +kernel
theorem jdK_13 : decode prog_19_method_23_code 13 = .ok (.aload_n 0, 1) := by decide +kernel
theorem jdK_14 : decode prog_19_method_23_code 14 = .ok (.iload 5, 2) := by decide +kernel
theorem jdK_16 : decode prog_19_method_23_code 16 = .ok (.baload, 1) := by decide +kernel
theorem jdK_17 : decode prog_19_method_23_code 17 = .ok (.iload 4, 2) := by decide +kernel
theorem jdK_19 : decode prog_19_method_23_code 19 = .ok (.if_icmp .ne 6, 3) := by decide +kernel
theorem jdK_22 : decode prog_19_method_23_code 22 = .ok (.iload 5, 2) := by decide +kernel
theorem jdK_24 : decode prog_19_method_23_code 24 = .ok (.ireturn, 1) := by decide +kernel
theorem jdK_25 : decode prog_19_method_23_code 25 = .ok (.iinc 5 1, 3) := by decide +kernel
theorem jdK_28 : decode prog_19_method_23_code 28 = .ok (.goto (-21), 3) := by decide +kernel
theorem jdK_31 : decode prog_19_method_23_code 31 = .ok (.iconst (-1), 1) := by decide +kernel
theorem jdK_32 : decode prog_19_method_23_code 32 = .ok (.ireturn, 1) := by decide +kernel
/-- the two constants, and COMPACT_STRINGS -/
def jx_S (base : Nat) (ex adV : Nat → Nat) (U : State) (H : Heap) : Prop := vk_S 2 [4, 6] cm_txt (fun i => ex (i + 1)) adV (fun q => base ≤ q) U H ∧ va_Z "java/lang/String" "COMPACT_STRINGS" "Z" (.int 1) (fun q => base ≤ q) U H
theorem jx_S.moved {base : Nat} {ex adV : Nat → Nat} {u U : State} {H : Heap} (hvm : u.vm.Alike U.vm) (h : jx_S base ex adV u H) : jx_S base ex adV U H := ⟨vk_S.moved hvm h.1, va_Z.moved hvm h.2⟩
def jx_P (base : Nat) (ex adV : Nat → Nat) (av : List Value) : Array Value → State → Prop := va_Pc av fun U => jx_S base ex adV U U.heap
def jx_Q (v : Int32) : Array Value → State → Outcome → State → Prop := fun _ st oc t => oc = .returned (some (.int v)) ∧ t.heap = st.heap
theorem jx_blind {base : Nat} {ex adV : Nat → Nat} {av : List Value} : FrameBlind (jx_P base ex adV av) := by
  intro a U g mk q
  obtain ⟨q0, q1⟩ := q
  have hW : U.WarmedH (U.calling g mk a).vm := State.WarmedH.refl U
  exact ⟨q0, q1.moved hW.alike⟩
/-- the first place of x from k on, m places -/
def jr (l : List Int32) (x : Int32) : Nat → Nat → Int32
  | 0, _ => -1
  | m + 1, k => if l.getD k 0 = x then nI k else jr l x m (k + 1)
def jn (i : Nat) : Nat := [4, 6].getD i 0
section JDK
variable {p : Program} {l : Launch} {e : Env} {R : Room} {s : State} {m : MethodId} {args : Array Value} {below : List Frame} {meth : Method} {c : Code} {H : Heap} {locs : List Loc} {cells slots : Nat} {Q : State → Prop}
variable {base : Nat} {ex adV : Nat → Nat} {pc : Nat} {ls : Array Slot} {rest st0 : List Value} {a : Array Value}
theorem jx_go {v : Int32} (hr : va_Run p l e R s m args below meth c H locs cells slots 0 0 (F0 m pc ls st0) rest (jx_Q v a) (fun _ => False)) (kk : W p l e R s m args below meth c H locs cells slots Q (F0 m (pc + 3) ls (.int v :: rest))) : W p l e R s m args below meth c H locs cells slots Q (F0 m pc ls st0) := by
  intro T hT X
  obtain ⟨v', st₀, t, T', L, h0, X', hL, e1, e2, ⟨hv, hh⟩, st⟩ := hr T hT X
  cases hv
  have hL0 : L = [] := by
    cases L with
    | nil => rfl
    | cons z L => exact (hL z List.mem_cons_self).elim
  subst hL0
  rw [List.append_nil] at X'
  obtain ⟨t2, a1, b1⟩ := kk T' (e1.trans (hh.trans h0)) X'
  exact ⟨t2, st t2 a1, b1⟩
/-- a call of a String's own method -/
theorem jx_runV {cc bytes : ByteArray} {nL maxL n index i : Nat} {ret : Option FieldType} {y : MethodName} {rm : Room} {own : String} {As : List Value} {v : Int32} (S : CallFix p m c cc nL s args cm_G own) (hi : i < 2) (hs : jx_S base ex adV s s.heap) (hS : va_S (fun q => base ≤ q) s.heap H locs)
    (hM : Met l y (jw y bytes maxL ret) rm (jx_P base ex adV (.ref (ex (i + 1)) :: As)) (jx_Q v) 0 0 (fun _ => False)) (hc : Cond.code y bytes maxL ret ∈ cm_G) (h0 : rm.cells = 0 ∧ rm.slots = 0) (hl : Cond.methodLink own index y ∈ cm_G) (hin : Cond.instanceMethod y ∈ cm_G) (hse : Cond.selects "java/lang/String" y y ∈ cm_G) (hy : y.cls = "java/lang/String") (hd : (parseMethodDescriptor y.desc).map (fun d => d.parameters.length) = some n) (hR : rm.frames + 1 ≤ R.frames ∧ 8 + (maxL + 11) + rm.locals ≤ R.locals) (hn : As.length = n) (hsz : ls.size = nL) (hw : (rest.map fun v => v.category).sum ≤ 8) (hdg : decode cc pc = .ok (.invokevirtual index, 3)) (hf : cells ≤ R.cells ∧ slots ≤ R.slots)
    (kk : W p l e R s m args below meth c H locs cells slots Q (F0 m (pc + 3) ls (.int v :: rest))) : W p l e R s m args below meth c H locs cells slots Q (F0 m pc ls (As.reverse ++ .ref (ex (i + 1)) :: rest)) := by
  have hts := S.2.2.2.2
  have hs' : ∀ U : State, U.heap = H → s.WarmedH U.vm → jx_S base ex adV U U.heap := fun U hU hW => by
    subst hU
    exact jx_S.moved hW.alike ⟨hs.1.kept hS.2.1, hs.2.kept hS.2.1⟩
  refine jx_go (va_runV (As := As) (rest := rest) (C := "java/lang/String") S hM ⟨callB_of n hts (jw_good hc) rfl h0.1 h0.2 (by rw [hy]; exact hts _ jiS) (hts _ hl) ⟨by rw [hy]; decide, by rw [hy]; decide, hd⟩ hR, hts _ hin, hts _ hse⟩ ⟨jx_blind, vk_recv hs.1 hi hS, fun U hU hW => ⟨rfl, hs' U hU hW⟩⟩ rfl hn hsz rfl (lv_room hw) hdg hf) kk
theorem jx_runS {cc bytes : ByteArray} {nL maxL n index : Nat} {ret : Option FieldType} {y : MethodName} {rm : Room} {own : String} {As : List Value} {v : Int32} (S : CallFix p m c cc nL s args cm_G own) (hs : jx_S base ex adV s s.heap) (hS : va_S (fun q => base ≤ q) s.heap H locs)
    (hM : Met l y (jw y bytes maxL ret) rm (jx_P base ex adV As) (jx_Q v) 0 0 (fun _ => False)) (hc : Cond.code y bytes maxL ret ∈ cm_G) (h0 : rm.cells = 0 ∧ rm.slots = 0) (hl : Cond.methodLink own index y ∈ cm_G) (hst : Cond.static y ∈ cm_G) (hy : y.cls = "java/lang/StringLatin1") (hd : (parseMethodDescriptor y.desc).map (fun d => d.parameters.length) = some n) (hR : rm.frames + 1 ≤ R.frames ∧ 8 + (maxL + 11) + rm.locals ≤ R.locals) (hn : As.length = n) (hsz : ls.size = nL) (hw : (rest.map fun v => v.category).sum ≤ 8) (hdg : decode cc pc = .ok (.invokestatic index, 3)) (hf : cells ≤ R.cells ∧ slots ≤ R.slots)
    (kk : W p l e R s m args below meth c H locs cells slots Q (F0 m (pc + 3) ls (.int v :: rest))) : W p l e R s m args below meth c H locs cells slots Q (F0 m pc ls (As.reverse ++ rest)) := by
  have hts := S.2.2.2.2
  have hs' : ∀ U : State, U.heap = H → s.WarmedH U.vm → jx_S base ex adV U U.heap := fun U hU hW => by
    subst hU
    exact jx_S.moved hW.alike ⟨hs.1.kept hS.2.1, hs.2.kept hS.2.1⟩
  refine jx_go (va_runS (As := As) (rest := rest) S hM ⟨callB_of n hts (jw_good hc) rfl h0.1 h0.2 (by rw [hy]; exact hts _ jiX) (hts _ hl) ⟨by rw [hy]; decide, by rw [hy]; decide, hd⟩ hR, hts _ hst⟩ ⟨jx_blind, fun U hU hW => ⟨rfl, hs' U hU hW⟩⟩ rfl hn hsz rfl (lv_room hw) hdg hf) kk
end JDK
section JDK2
variable {l : Launch} {base : Nat} {ex adV : Nat → Nat}
theorem jx_E (x : Int32) : Met l jyE (jw jyE prog_19_method_4_code 1 (some .boolean)) ({ frames := 0, cells := 0, slots := 0, locals := 0 }) (jx_P base ex adV [.int x]) (jx_Q (if x < 0 then 0 else if 255 < x then 0 else 1)) 0 0 (fun _ => False) := by
  refine Met.ofW (cc := prog_19_method_4_code) (maxL := 1) (ret := some .boolean) (by decide) rfl ?_
  intro p e s m args below meth c s₁ B hml hv
  obtain ⟨rfl, hs⟩ := hv
  have hx := B.exec
  have hb := B.bytes
  have hr := B.returns
  have hlocks := B.notSynchronized
  have hl := lv_entry ([.int x]) (n := 1) (Nat.le_of_ble_eq_true rfl)
  rw [lg_entry_eq]
  generalize (lg_sl ([.int x]) ++ List.replicate (1 - (lg_sl ([.int x])).length) Slot.unset).toArray = ls at hl ⊢
  have hl : lv_has ls 1 [(0, .int x)] := hl
  have end0 : ∀ v : Int32, (v = 0 ∨ v = 1) → v = (if x < 0 then 0 else if 255 < x then 0 else 1) → W p l e (headSpec (jw jyE prog_19_method_4_code 1 (some .boolean)) ({ frames := 0, cells := 0, slots := 0, locals := 0 } : Room)).room s m (([Value.int x] : List Value).toArray) below meth c s.heap [] 0 0 (MQ below (jx_Q (if x < 0 then 0 else if 255 < x then 0 else 1)) (([Value.int x] : List Value).toArray) s 0 0 (fun _ => False)) (F0 m 16 ls [.int v]) := fun v h1 h2 =>
    W.zret hx hb hr (by rcases h1 with rfl | rfl <;> rfl) (fun t ht _ => ⟨by rw [h2], ht⟩) (fun q h => nomatch h) jdE_16
  refine lv_iload_n hx hb jdE_0 rfl (lv_at hl 0 rfl) (lv_if_lt (tgt := 15) hx hb jdE_1 (by decide) (fun w => ?_) (fun w => ?_))
  · exact lv_iconst hx hb jdE_15 rfl (end0 0 (Or.inl rfl) (by rw [if_pos w]))
  · refine lv_iload_n hx hb jdE_4 rfl (lv_at hl 0 rfl) (lv_sipush (v := 255) hx hb jdE_5 (by decide) (lv_icmp_gt (tgt := 15) hx hb jdE_8 (by decide) (fun w2 => ?_) (fun w2 => ?_)))
    · exact lv_iconst hx hb jdE_15 rfl (end0 0 (Or.inl rfl) (by rw [if_neg w, if_pos w2]))
    · exact lv_iconst hx hb jdE_11 rfl (lv_goto (tgt := 16) hx hb jdE_12 (by decide) (end0 1 (Or.inr rfl) (by rw [if_neg w, if_neg w2])))
theorem jx_K {i : Nat} (hi : i < 2) (x : Int32) : Met l jyK (jw jyK prog_19_method_23_code 6 (some .int)) ({ frames := 0, cells := 0, slots := 0, locals := 0 }) (jx_P base ex adV [.ref (adV i), .int x, .int 0, .int (nI (jn i))]) (jx_Q (jr (cm_txt.getD i []) x.toInt8.toInt32 (jn i) 0)) 0 0 (fun _ => False) := by
  refine Met.ofW (cc := prog_19_method_23_code) (maxL := 6) (ret := some .int) (by decide) rfl ?_
  intro p e s m args below meth c s₁ B hml hv
  obtain ⟨rfl, hs⟩ := hv
  have hx := B.exec
  have hb := B.bytes
  have hr := B.returns
  have hlocks := B.notSynchronized
  have hT := (hs.1.1 i hi).2.2.2
  have hn6 : jn i ≤ 6 := by
    rcases (show i = 0 ∨ i = 1 by omega) with rfl | rfl <;> decide
  have hS : va_S (fun q => base ≤ q) s.heap s.heap [] := va_S.rf
  have hl := lv_entry ([.ref (adV i), .int x, .int 0, .int (nI (jn i))]) (n := 6) (Nat.le_of_ble_eq_true rfl)
  rw [lg_entry_eq]
  generalize (lg_sl ([.ref (adV i), .int x, .int 0, .int (nI (jn i))]) ++ List.replicate (6 - (lg_sl ([.ref (adV i), .int x, .int 0, .int (nI (jn i))])).length) Slot.unset).toArray = ls at hl ⊢
  have hl : lv_has ls 6 [(0, .ref (adV i)), (1, .int x), (2, .int 0), (3, .int (nI (jn i)))] := hl
  generalize hy : x.toInt8.toInt32 = y
  generalize hr0 : jr (cm_txt.getD i []) y (jn i) 0 = r0
  refine lv_iload_n hx hb jdK_0 rfl (lv_at hl 1 rfl) (lv_i2b hx hb jdK_1 hy ?_)
  refine lv_istore (lv' := [(4, .int y), (0, .ref (adV i)), (1, .int x), (2, .int 0), (3, .int (nI (jn i)))]) hx hb jdK_2 hl (by decide) rfl fun ls hl => ?_
  refine lv_iload_n hx hb jdK_4 rfl (lv_at hl 3 rfl) ?_
  refine lv_istore (lv' := [(5, .int 0), (4, .int y), (0, .ref (adV i)), (1, .int x), (2, .int 0), (3, .int (nI (jn i)))]) hx hb jdK_5 hl (by decide) rfl fun ls hl => ?_
  have ret : ∀ (ls : Array Slot) (v : Int32) (pc : Nat), v = r0 → decode prog_19_method_23_code pc = .ok (.ireturn, 1) → W p l e (headSpec (jw jyK prog_19_method_23_code 6 (some .int)) ({ frames := 0, cells := 0, slots := 0, locals := 0 } : Room)).room s m (([Value.ref (adV i), .int x, .int 0, .int (nI (jn i))] : List Value).toArray) below meth c s.heap [] 0 0 (MQ below (jx_Q r0) (([Value.ref (adV i), .int x, .int 0, .int (nI (jn i))] : List Value).toArray) s 0 0 (fun _ => False)) (F0 m pc ls [.int v]) := fun ls v pc h1 h2 =>
    W.iret hx hb hr (fun t ht _ => ⟨by rw [h1], ht⟩) (fun q h => nomatch h) h2
  suffices gen : ∀ (d k : Nat) (ls : Array Slot), k + d = jn i → lv_has ls 6 [(5, .int (nI k)), (4, .int y), (0, .ref (adV i)), (1, .int x), (2, .int 0), (3, .int (nI (jn i)))] → jr (cm_txt.getD i []) y d k = r0 → W p l e (headSpec (jw jyK prog_19_method_23_code 6 (some .int)) ({ frames := 0, cells := 0, slots := 0, locals := 0 } : Room)).room s m (([Value.ref (adV i), .int x, .int 0, .int (nI (jn i))] : List Value).toArray) below meth c s.heap [] 0 0 (MQ below (jx_Q r0) (([Value.ref (adV i), .int x, .int 0, .int (nI (jn i))] : List Value).toArray) s 0 0 (fun _ => False)) (F0 m 7 ls []) from gen (jn i) 0 ls (Nat.zero_add _) hl hr0
  intro d
  induction d with
  | zero =>
    intro k ls hk hl hj
    obtain rfl : k = jn i := by omega
    refine lv_iload hx hb jdK_7 (lv_at hl 0 rfl) (lv_iload_n hx hb jdK_9 rfl (lv_at hl 5 rfl) (lv_icmp_ge (tgt := 31) hx hb jdK_10 (by decide) (fun _ => ?_) (fun w => absurd (Int32.le_refl _) w)))
    exact lv_iconst hx hb jdK_31 rfl (ret ls _ 32 hj jdK_32)
  | succ d ih =>
    intro k ls hk hl hj
    refine lv_iload hx hb jdK_7 (lv_at hl 0 rfl) (lv_iload_n hx hb jdK_9 rfl (lv_at hl 5 rfl) (lv_icmp_ge (tgt := 31) hx hb jdK_10 (by decide) (fun w => absurd w (nI_ge (by omega) (by omega))) (fun _ => ?_)))
    refine lv_aload_n hx hb jdK_13 rfl (lv_at hl 2 rfl) (lv_iload hx hb jdK_14 (lv_at hl 0 rfl) ?_)
    refine va_tb (v := .int ((cm_txt.getD i []).getD k 0)) hx hb hT hS (vp_in_nI (by show k < jn i; omega) (by show jn i < _; omega)) (by rw [nI_clamp (by omega)]) jdK_16 ?_
    refine lv_iload hx hb jdK_17 (lv_at hl 1 rfl) (lv_icmp_ne (tgt := 25) hx hb jdK_19 (by decide) (fun w => ?_) (fun w => ?_))
    · refine lv_iinc (k := 0) (lv' := [(5, .int (nI (k + 1))), (4, .int y), (0, .ref (adV i)), (1, .int x), (2, .int 0), (3, .int (nI (jn i)))]) hx hb jdK_25 hl rfl (nI_1 k) (by decide) rfl fun ls hl => ?_
      refine lv_goto (tgt := 7) hx hb jdK_28 (by decide) (ih (k + 1) ls (by omega) hl ?_)
      rw [← hj]
      exact (if_neg w).symm
    · refine lv_iload hx hb jdK_22 (lv_at hl 0 rfl) (ret ls _ 24 ?_ jdK_24)
      rw [← hj]
      exact (if_pos w).symm
theorem jx_C {i : Nat} (hi : i < 2) : Met l jyC (jw jyC prog_18_method_152_code 1 (some .byte)) ({ frames := 0, cells := 0, slots := 0, locals := 0 }) (jx_P base ex adV [.ref (ex (i + 1))]) (jx_Q 0) 0 0 (fun _ => False) := by
  refine Met.ofW (cc := prog_18_method_152_code) (maxL := 1) (ret := some .byte) (by decide) rfl ?_
  intro p e s m args below meth c s₁ B hml hv
  obtain ⟨rfl, hs⟩ := hv
  have hx := B.exec
  have hb := B.bytes
  have hr := B.returns
  have hlocks := B.notSynchronized
  have hts := atoms_spec (ws := jw jyC prog_18_method_152_code 1 (some .byte)) B.pre
  have hG : ∀ w ∈ cm_G, w.before _ s = true := fun w hw => hts w (List.mem_cons_of_mem _ hw)
  have hown : s.vm.findClass "java/lang/String" = some m.cls := findClass_of_methodNamed B.named
  have hS : va_S (fun q => base ≤ q) s.heap s.heap [] := va_S.rf
  have hl := lv_entry ([.ref (ex (i + 1))]) (n := 1) (Nat.le_of_ble_eq_true rfl)
  rw [lg_entry_eq]
  generalize (lg_sl ([.ref (ex (i + 1))]) ++ List.replicate (1 - (lg_sl ([.ref (ex (i + 1))])).length) Slot.unset).toArray = ls at hl ⊢
  have hl : lv_has ls 1 [(0, .ref (ex (i + 1)))] := hl
  refine va_gets hx hb hs.2 hS hown (hG _ jfS) (fun _ h => h) jdC_0 (lv_if_eq (tgt := 13) hx hb jdC_3 (by decide) (fun w => absurd w (by decide)) (fun _ => ?_))
  refine lv_aload_n hx hb jdC_6 rfl (lv_at hl 0 rfl) (vk_getf hx hb (hs.1.1 i hi).2.1 hS hown (hG _ jfC) (fun _ h => h) jdC_7 ?_)
  exact lv_goto (tgt := 14) hx hb jdC_10 (by decide) (W.zret hx hb hr rfl (fun t ht _ => ⟨rfl, ht⟩) (fun q h => nomatch h) jdC_14)
theorem jx_L {i : Nat} (hi : i < 2) : Met l jyL (jw jyL prog_18_method_154_code 1 (some .boolean)) ({ frames := 0, cells := 0, slots := 0, locals := 0 }) (jx_P base ex adV [.ref (ex (i + 1))]) (jx_Q 1) 0 0 (fun _ => False) := by
  refine Met.ofW (cc := prog_18_method_154_code) (maxL := 1) (ret := some .boolean) (by decide) rfl ?_
  intro p e s m args below meth c s₁ B hml hv
  obtain ⟨rfl, hs⟩ := hv
  have hx := B.exec
  have hb := B.bytes
  have hr := B.returns
  have hlocks := B.notSynchronized
  have hts := atoms_spec (ws := jw jyL prog_18_method_154_code 1 (some .boolean)) B.pre
  have hG : ∀ w ∈ cm_G, w.before _ s = true := fun w hw => hts w (List.mem_cons_of_mem _ hw)
  have hown : s.vm.findClass "java/lang/String" = some m.cls := findClass_of_methodNamed B.named
  have hS : va_S (fun q => base ≤ q) s.heap s.heap [] := va_S.rf
  have hl := lv_entry ([.ref (ex (i + 1))]) (n := 1) (Nat.le_of_ble_eq_true rfl)
  rw [lg_entry_eq]
  generalize (lg_sl ([.ref (ex (i + 1))]) ++ List.replicate (1 - (lg_sl ([.ref (ex (i + 1))])).length) Slot.unset).toArray = ls at hl ⊢
  have hl : lv_has ls 1 [(0, .ref (ex (i + 1)))] := hl
  refine va_gets hx hb hs.2 hS hown (hG _ jfS) (fun _ h => h) jdL_0 (lv_if_eq (tgt := 17) hx hb jdL_3 (by decide) (fun w => absurd w (by decide)) (fun _ => ?_))
  refine lv_aload_n hx hb jdL_6 rfl (lv_at hl 0 rfl) (vk_getf hx hb (hs.1.1 i hi).2.1 hS hown (hG _ jfC) (fun _ h => h) jdL_7 ?_)
  refine lv_if_ne (tgt := 17) hx hb jdL_10 (by decide) (fun w => absurd rfl w) (fun _ => lv_iconst hx hb jdL_13 rfl ?_)
  exact lv_goto (tgt := 18) hx hb jdL_14 (by decide) (W.zret hx hb hr rfl (fun t ht _ => ⟨rfl, ht⟩) (fun q h => nomatch h) jdL_18)
theorem jx_N {i : Nat} (hi : i < 2) : Met l jyN (jw jyN prog_18_method_54_code 1 (some .int)) ({ frames := 1, cells := 0, slots := 0, locals := 60 }) (jx_P base ex adV [.ref (ex (i + 1))]) (jx_Q (nI (jn i))) 0 0 (fun _ => False) := by
  refine Met.ofW (cc := prog_18_method_54_code) (maxL := 1) (ret := some .int) (by decide) rfl ?_
  intro p e s m args below meth c s₁ B hml hv
  obtain ⟨rfl, hs⟩ := hv
  have hx := B.exec
  have hb := B.bytes
  have hr := B.returns
  have hlocks := B.notSynchronized
  have hts := atoms_spec (ws := jw jyN prog_18_method_54_code 1 (some .int)) B.pre
  have hG : ∀ w ∈ cm_G, w.before _ s = true := fun w hw => hts w (List.mem_cons_of_mem _ hw)
  have hown : s.vm.findClass "java/lang/String" = some m.cls := findClass_of_methodNamed B.named
  have hS : va_S (fun q => base ≤ q) s.heap s.heap [] := va_S.rf
  have hl := lv_entry ([.ref (ex (i + 1))]) (n := 1) (Nat.le_of_ble_eq_true rfl)
  rw [lg_entry_eq]
  generalize (lg_sl ([.ref (ex (i + 1))]) ++ List.replicate (1 - (lg_sl ([.ref (ex (i + 1))])).length) Slot.unset).toArray = ls at hl ⊢
  have hl : lv_has ls 1 [(0, .ref (ex (i + 1)))] := hl
  refine lv_aload_n hx hb jdN_0 rfl (lv_at hl 0 rfl) (vk_getf hx hb (hs.1.1 i hi).2.2.1 hS hown (hG _ jfV) (fun _ h => h) jdN_1 ?_)
  refine va_tlen (v := nI (jn i)) hx hb (hs.1.1 i hi).2.2.2 hS rfl jdN_4 ?_
  refine lv_aload_n hx hb jdN_5 rfl (lv_at hl 0 rfl) ?_
  refine jx_runV (n := 0) (As := []) (rest := [.int (nI (jn i))]) (i := i) ⟨hx, hb, hml, hown, hG⟩ hi hs hS (jx_C hi) jcC ⟨rfl, rfl⟩ jmC.1 jmC.2.1 jmC.2.2 rfl (by decide +kernel) ⟨Nat.le_of_ble_eq_true rfl, Nat.le_of_ble_eq_true rfl⟩ rfl hl.1 (Nat.le_of_ble_eq_true rfl) jdN_6 ⟨Nat.le_refl _, Nat.le_refl _⟩ ?_
  refine lv_ishr hx hb jdN_9 ?_
  have e0 : nI (jn i) >>> ((0 : Int32) &&& 31) = nI (jn i) := by
    rcases (show i = 0 ∨ i = 1 by omega) with rfl | rfl <;> decide
  rw [e0]
  exact W.iret hx hb hr (fun t ht _ => ⟨rfl, ht⟩) (fun q h => nomatch h) jdN_10
/-- what StringLatin1.indexOf answers -/
def jrX (i : Nat) (x : Int32) : Int32 := if (if x < 0 then (0 : Int32) else if 255 < x then 0 else 1) = 0 then -1 else jr (cm_txt.getD i []) x.toInt8.toInt32 (jn i) 0
theorem jx_X {i : Nat} (hi : i < 2) (x : Int32) : Met l jyX (jw jyX prog_19_method_22_code 4 (some .int)) ({ frames := 2, cells := 0, slots := 0, locals := 120 }) (jx_P base ex adV [.ref (adV i), .int x, .int 0, .int (nI (jn i))]) (jx_Q (jrX i x)) 0 0 (fun _ => False) := by
  refine Met.ofW (cc := prog_19_method_22_code) (maxL := 4) (ret := some .int) (by decide) rfl ?_
  intro p e s m args below meth c s₁ B hml hv
  obtain ⟨rfl, hs⟩ := hv
  have hx := B.exec
  have hb := B.bytes
  have hr := B.returns
  have hlocks := B.notSynchronized
  have hts := atoms_spec (ws := jw jyX prog_19_method_22_code 4 (some .int)) B.pre
  have hG : ∀ w ∈ cm_G, w.before _ s = true := fun w hw => hts w (List.mem_cons_of_mem _ hw)
  have hown : s.vm.findClass "java/lang/StringLatin1" = some m.cls := findClass_of_methodNamed B.named
  have hT := (hs.1.1 i hi).2.2.2
  have hS : va_S (fun q => base ≤ q) s.heap s.heap [] := va_S.rf
  have hl := lv_entry ([.ref (adV i), .int x, .int 0, .int (nI (jn i))]) (n := 4) (Nat.le_of_ble_eq_true rfl)
  rw [lg_entry_eq]
  generalize (lg_sl ([.ref (adV i), .int x, .int 0, .int (nI (jn i))]) ++ List.replicate (4 - (lg_sl ([.ref (adV i), .int x, .int 0, .int (nI (jn i))])).length) Slot.unset).toArray = ls at hl ⊢
  have hl : lv_has ls 4 [(0, .ref (adV i)), (1, .int x), (2, .int 0), (3, .int (nI (jn i)))] := hl
  refine lv_iload_n hx hb jdX_0 rfl (lv_at hl 1 rfl) ?_
  refine jx_runS (n := 1) (As := [.int x]) (rest := []) ⟨hx, hb, hml, hown, hG⟩ hs hS (jx_E x) jcE ⟨rfl, rfl⟩ jmE.1 jmE.2 rfl (by decide +kernel) ⟨Nat.le_of_ble_eq_true rfl, Nat.le_of_ble_eq_true rfl⟩ rfl hl.1 (Nat.le_of_ble_eq_true rfl) jdX_1 ⟨Nat.le_refl _, Nat.le_refl _⟩ ?_
  refine lv_if_ne (tgt := 9) hx hb jdX_4 (by decide) (fun w => ?_) (fun w => lv_iconst hx hb jdX_7 rfl (W.iret hx hb hr (fun t ht _ => ⟨by unfold jrX; rw [if_pos w]; rfl, ht⟩) (fun q h => nomatch h) jdX_8))
  refine lv_iload_n hx hb jdX_9 rfl (lv_at hl 2 rfl) (lv_iconst hx hb jdX_10 rfl ?_)
  refine va_mmax hx hb (by rw [hml, hl.1]) hown (hG _ jlMx) (hG _ cm_wMx1) (hG _ cm_wMat) (hG _ cm_wMx2) (Nat.le_of_ble_eq_true rfl) (Nat.le_of_ble_eq_true rfl) (Nat.le_refl _) (Nat.le_refl _) jdX_11 ?_
  refine lv_istore_n (lv' := [(2, .int 0), (0, .ref (adV i)), (1, .int x), (3, .int (nI (jn i)))]) hx hb jdX_14 rfl hl (by decide) rfl fun ls hl => ?_
  refine lv_iload_n hx hb jdX_15 rfl (lv_at hl 3 rfl) (lv_aload_n hx hb jdX_16 rfl (lv_at hl 1 rfl) ?_)
  refine va_tlen (v := nI (jn i)) hx hb hT hS rfl jdX_17 ?_
  refine va_mmin hx hb (by rw [hml, hl.1]) hown (hG _ jlMn) (hG _ cm_wMn1) (hG _ cm_wMat) (hG _ cm_wMn2) (Nat.le_of_ble_eq_true rfl) (Nat.le_of_ble_eq_true rfl) (Nat.le_refl _) (Nat.le_refl _) jdX_18 ?_
  have emin : (if nI (jn i) < nI (jn i) then nI (jn i) else nI (jn i)) = nI (jn i) := by split <;> rfl
  rw [emin]
  refine lv_istore_n (lv' := [(3, .int (nI (jn i))), (2, .int 0), (0, .ref (adV i)), (1, .int x)]) hx hb jdX_21 rfl hl (by decide) rfl fun ls hl => ?_
  refine lv_iload_n hx hb jdX_22 rfl (lv_at hl 1 rfl) (lv_iload_n hx hb jdX_23 rfl (lv_at hl 0 rfl) ?_)
  refine lv_icmp_lt (tgt := 29) hx hb jdX_24 (by decide) (fun _ => ?_) (fun w2 => absurd (by rcases (show i = 0 ∨ i = 1 by omega) with rfl | rfl <;> decide) w2)
  refine lv_aload_n hx hb jdX_29 rfl (lv_at hl 2 rfl) (lv_iload_n hx hb jdX_30 rfl (lv_at hl 3 rfl) (lv_iload_n hx hb jdX_31 rfl (lv_at hl 1 rfl) (lv_iload_n hx hb jdX_32 rfl (lv_at hl 0 rfl) ?_)))
  refine jx_runS (n := 4) (As := [.ref (adV i), .int x, .int 0, .int (nI (jn i))]) (rest := []) ⟨hx, hb, hml, hown, hG⟩ hs hS (jx_K hi x) jcK ⟨rfl, rfl⟩ jmK.1 jmK.2 rfl (by decide +kernel) ⟨Nat.le_of_ble_eq_true rfl, Nat.le_of_ble_eq_true rfl⟩ rfl hl.1 (Nat.le_of_ble_eq_true rfl) jdX_33 ⟨Nat.le_refl _, Nat.le_refl _⟩ ?_
  exact W.iret hx hb hr (fun t ht _ => ⟨by unfold jrX; rw [if_neg w], ht⟩) (fun q h => nomatch h) jdX_36
theorem jx_II {i : Nat} (hi : i < 2) (x : Int32) : Met l jyII (jw jyII prog_18_method_80_code 3 (some .int)) ({ frames := 3, cells := 0, slots := 0, locals := 180 }) (jx_P base ex adV [.ref (ex (i + 1)), .int x, .int 0]) (jx_Q (jrX i x)) 0 0 (fun _ => False) := by
  refine Met.ofW (cc := prog_18_method_80_code) (maxL := 3) (ret := some .int) (by decide) rfl ?_
  intro p e s m args below meth c s₁ B hml hv
  obtain ⟨rfl, hs⟩ := hv
  have hx := B.exec
  have hb := B.bytes
  have hr := B.returns
  have hlocks := B.notSynchronized
  have hts := atoms_spec (ws := jw jyII prog_18_method_80_code 3 (some .int)) B.pre
  have hG : ∀ w ∈ cm_G, w.before _ s = true := fun w hw => hts w (List.mem_cons_of_mem _ hw)
  have hown : s.vm.findClass "java/lang/String" = some m.cls := findClass_of_methodNamed B.named
  have hS : va_S (fun q => base ≤ q) s.heap s.heap [] := va_S.rf
  have hl := lv_entry ([.ref (ex (i + 1)), .int x, .int 0]) (n := 3) (Nat.le_of_ble_eq_true rfl)
  rw [lg_entry_eq]
  generalize (lg_sl ([.ref (ex (i + 1)), .int x, .int 0]) ++ List.replicate (3 - (lg_sl ([.ref (ex (i + 1)), .int x, .int 0])).length) Slot.unset).toArray = ls at hl ⊢
  have hl : lv_has ls 3 [(0, .ref (ex (i + 1))), (1, .int x), (2, .int 0)] := hl
  refine lv_aload_n hx hb jdII_0 rfl (lv_at hl 0 rfl) ?_
  refine jx_runV (n := 0) (As := []) (rest := []) (i := i) ⟨hx, hb, hml, hown, hG⟩ hi hs hS (jx_L hi) jcL ⟨rfl, rfl⟩ jmL.1 jmL.2.1 jmL.2.2 rfl (by decide +kernel) ⟨Nat.le_of_ble_eq_true rfl, Nat.le_of_ble_eq_true rfl⟩ rfl hl.1 (Nat.le_of_ble_eq_true rfl) jdII_1 ⟨Nat.le_refl _, Nat.le_refl _⟩ ?_
  refine lv_if_eq (tgt := 23) hx hb jdII_4 (by decide) (fun w => absurd w (by decide)) (fun _ => ?_)
  refine lv_aload_n hx hb jdII_7 rfl (lv_at hl 0 rfl) (vk_getf hx hb (hs.1.1 i hi).2.2.1 hS hown (hG _ jfV) (fun _ h => h) jdII_8 ?_)
  refine lv_iload_n hx hb jdII_11 rfl (lv_at hl 1 rfl) (lv_iload_n hx hb jdII_12 rfl (lv_at hl 2 rfl) (lv_aload_n hx hb jdII_13 rfl (lv_at hl 0 rfl) ?_))
  refine jx_runV (n := 0) (As := []) (rest := [.int 0, .int x, .ref (adV i)]) (i := i) ⟨hx, hb, hml, hown, hG⟩ hi hs hS (jx_N hi) jcN ⟨rfl, rfl⟩ jmN.1 jmN.2.1 jmN.2.2 rfl (by decide +kernel) ⟨Nat.le_of_ble_eq_true rfl, Nat.le_of_ble_eq_true rfl⟩ rfl hl.1 (Nat.le_of_ble_eq_true rfl) jdII_14 ⟨Nat.le_refl _, Nat.le_refl _⟩ ?_
  refine jx_runS (n := 4) (As := [.ref (adV i), .int x, .int 0, .int (nI (jn i))]) (rest := []) ⟨hx, hb, hml, hown, hG⟩ hs hS (jx_X hi x) jcX ⟨rfl, rfl⟩ jmX.1 jmX.2 rfl (by decide +kernel) ⟨Nat.le_of_ble_eq_true rfl, Nat.le_of_ble_eq_true rfl⟩ rfl hl.1 (Nat.le_of_ble_eq_true rfl) jdII_17 ⟨Nat.le_refl _, Nat.le_refl _⟩ ?_
  exact lv_goto (tgt := 36) hx hb jdII_20 (by decide) (W.iret hx hb hr (fun t ht _ => ⟨rfl, ht⟩) (fun q h => nomatch h) jdII_36)
theorem jx_I {i : Nat} (hi : i < 2) (x : Int32) : Met l jyI (jw jyI prog_18_method_79_code 2 (some .int)) ({ frames := 4, cells := 0, slots := 0, locals := 240 }) (jx_P base ex adV [.ref (ex (i + 1)), .int x]) (jx_Q (jrX i x)) 0 0 (fun _ => False) := by
  refine Met.ofW (cc := prog_18_method_79_code) (maxL := 2) (ret := some .int) (by decide) rfl ?_
  intro p e s m args below meth c s₁ B hml hv
  obtain ⟨rfl, hs⟩ := hv
  have hx := B.exec
  have hb := B.bytes
  have hr := B.returns
  have hlocks := B.notSynchronized
  have hts := atoms_spec (ws := jw jyI prog_18_method_79_code 2 (some .int)) B.pre
  have hG : ∀ w ∈ cm_G, w.before _ s = true := fun w hw => hts w (List.mem_cons_of_mem _ hw)
  have hown : s.vm.findClass "java/lang/String" = some m.cls := findClass_of_methodNamed B.named
  have hS : va_S (fun q => base ≤ q) s.heap s.heap [] := va_S.rf
  have hl := lv_entry ([.ref (ex (i + 1)), .int x]) (n := 2) (Nat.le_of_ble_eq_true rfl)
  rw [lg_entry_eq]
  generalize (lg_sl ([.ref (ex (i + 1)), .int x]) ++ List.replicate (2 - (lg_sl ([.ref (ex (i + 1)), .int x])).length) Slot.unset).toArray = ls at hl ⊢
  have hl : lv_has ls 2 [(0, .ref (ex (i + 1))), (1, .int x)] := hl
  refine lv_aload_n hx hb jdI_0 rfl (lv_at hl 0 rfl) (lv_iload_n hx hb jdI_1 rfl (lv_at hl 1 rfl) (lv_iconst hx hb jdI_2 rfl ?_))
  refine jx_runV (n := 2) (As := [.int x, .int 0]) (rest := []) (i := i) ⟨hx, hb, hml, hown, hG⟩ hi hs hS (jx_II hi x) jcII ⟨rfl, rfl⟩ jmII.1 jmII.2.1 jmII.2.2 rfl (by decide +kernel) ⟨Nat.le_of_ble_eq_true rfl, Nat.le_of_ble_eq_true rfl⟩ rfl hl.1 (Nat.le_of_ble_eq_true rfl) jdI_3 ⟨Nat.le_refl _, Nat.le_refl _⟩ ?_
  exact W.iret hx hb hr (fun t ht _ => ⟨rfl, ht⟩) (fun q h => nomatch h) jdI_6
end JDK2
theorem jx_tab : ∀ n, n < 256 → jr (cm_txt.getD 0 []) (nI n).toInt8.toInt32 (jn 0) 0 = cm_ix 1 (nI n) ∧ jr (cm_txt.getD 1 []) (nI n).toInt8.toInt32 (jn 1) 0 = cm_ix 2 (nI n) := by decide +kernel
theorem jx_no : ∀ (j : Nat) (x : Int32), (x < 0 ∨ 255 < x) → cm_ix j x = -1 := by
  intro j x h
  have ne : ∀ v : Int32, 0 ≤ v → v ≤ 255 → x ≠ v := fun v h1 h2 e => by
    subst e
    rcases h with h | h
    · exact absurd h1 (Int32.not_le.mpr h)
    · exact absurd h2 (Int32.not_le.mpr h)
  unfold cm_ix
  split
  · rw [if_neg (ne 119 (by decide) (by decide)), if_neg (ne 114 (by decide) (by decide)), if_neg (ne 99 (by decide) (by decide)), if_neg (ne 117 (by decide) (by decide))]
  · rw [if_neg (ne 112 (by decide) (by decide)), if_neg (ne 104 (by decide) (by decide)), if_neg (ne 111 (by decide) (by decide)), if_neg (ne 105 (by decide) (by decide)), if_neg (ne 110 (by decide) (by decide)), if_neg (ne 107 (by decide) (by decide))]
theorem jx_eq {i : Nat} (hi : i < 2) (x : Int32) : jrX i x = cm_ix (i + 1) x := by
  unfold jrX
  by_cases h1 : x < 0
  · rw [if_pos h1, if_pos rfl]; exact (jx_no _ x (Or.inl h1)).symm
  · by_cases h2 : 255 < x
    · rw [if_neg h1, if_pos h2, if_pos rfl]; exact (jx_no _ x (Or.inr h2)).symm
    · rw [if_neg h1, if_neg h2, if_neg (by decide)]
      obtain ⟨n, -, hn, rfl⟩ := (in_nI (x := x) 0 255 rfl rfl (by decide) (by decide)).mp ⟨Int32.not_lt.mp h1, Int32.not_lt.mp h2⟩
      have := jx_tab n (by omega)
      rcases (show i = 0 ∨ i = 1 by omega) with rfl | rfl
      · exact this.1
      · exact this.2
theorem cm_mt12 : (cm_mt.all fun e => !(e.2.2.2.1 == 12) || (e.1 == 6 && e.2.1 == 71) || (e.1 == 10 && e.2.1 == 212)) = true := by decide +kernel
theorem cm_cM12 {oc ix M k : Nat} (h : cm_cM oc ix = some (M, 12, k)) : Cond.methodLink (cm_ownN oc) ix jyI ∈ cm_G := by
  unfold cm_cM at h
  obtain ⟨e, he, hq⟩ := Option.map_eq_some_iff.mp h
  obtain ⟨h1, h2, h3⟩ := cm_fnd he
  have h4 := List.all_eq_true.mp cm_mt12 e h1
  have h12 : e.2.2.2.1 = 12 := (Prod.mk.inj (Prod.mk.inj hq).2).1
  rw [h12] at h4
  simp only [beq_self_eq_true, Bool.not_true, Bool.false_or, Bool.or_eq_true, Bool.and_eq_true, beq_iff_eq] at h4
  rw [h2, h3] at h4
  rcases h4 with ⟨rfl, rfl⟩ | ⟨rfl, rfl⟩
  · exact jlI6
  · exact jlI10
theorem cm_idx (l : Launch) (sc : cmS) : cm_idxOK l sc := by
  intro p e R s m args below meth c H locs cells slots Q M base D aC ex ls rest pc ix M' k j x F hS hsz hcM hj hfr hlc hRc hRs hw hd kk
  obtain ⟨hx, hb, hml, hr, hown, hts, hlo, hnm, henv, hbs, hsc⟩ := F
  obtain ⟨-, -, -, ⟨adV, hk⟩, hz, -⟩ := hsc
  obtain ⟨i, hi, rfl⟩ : ∃ i, i < 2 ∧ j = i + 1 := ⟨j - 1, by omega, by omega⟩
  have hM : Met l jyI (jw jyI prog_18_method_79_code 2 (some .int)) ({ frames := 4, cells := 0, slots := 0, locals := 240 }) (jx_P base ex adV (.ref (ex (i + 1)) :: [.int x])) (jx_Q (cm_ix (i + 1) x)) 0 0 (fun _ => False) := by
    rw [← jx_eq hi]
    exact jx_I hi x
  exact jx_runV (n := 1) (As := [.int x]) (rest := rest) (i := i) ⟨hx, hb, hml, hown, hts⟩ hi ⟨hk, hz⟩ hS hM jcI ⟨rfl, rfl⟩ (cm_cM12 hcM) jmI.1 jmI.2 rfl (by decide +kernel) ⟨by show 4 + 1 ≤ _; omega, by show 8 + (2 + 11) + 240 ≤ _; omega⟩ rfl hsz hw hd ⟨hRc, hRs⟩ kk
