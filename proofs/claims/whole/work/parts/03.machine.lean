/-! ===== the clean machine: what the bytecode does, over a memory of total functions. Addresses are counted from 0 in the order of making; .retAddr 0 stands for the law's script, .retAddr 1 and 2 for the two String constants ===== -/
abbrev cmH : Type := (Nat × Nat) × (Nat → Nat) × (Nat → Nat) × (Nat → Nat → Int32) × (Nat → Nat → Int64) × (Nat → Nat → Option Nat)
abbrev cmL : Type := List (Option Value)
abbrev cmS : Type := Nat × (Nat → Int32)
def cm_n (h : cmH) : Nat := h.1.1
def cm_sl (h : cmH) : Nat := h.1.2
def cm_kd (h : cmH) : Nat → Nat := h.2.1
def cm_ln (h : cmH) : Nat → Nat := h.2.2.1
def cm_I (h : cmH) : Nat → Nat → Int32 := h.2.2.2.1
def cm_J (h : cmH) : Nat → Nat → Int64 := h.2.2.2.2.1
def cm_R (h : cmH) : Nat → Nat → Option Nat := h.2.2.2.2.2
def cm_u1 {α : Type} (f : Nat → α) (a : Nat) (v : α) : Nat → α := fun b => if b = a then v else f b
def cm_u2 {α : Type} (f : Nat → Nat → α) (a k : Nat) (v : α) : Nat → Nat → α := fun b j => if b = a ∧ j = k then v else f b j
def cm_row {α : Type} (f : Nat → Nat → α) (a : Nat) (r : Nat → α) : Nat → Nat → α := fun b j => if b = a then r j else f b j
def cm_setI (h : cmH) (a k : Nat) (v : Int32) : cmH := (h.1, h.2.1, h.2.2.1, cm_u2 h.2.2.2.1 a k v, h.2.2.2.2.1, h.2.2.2.2.2)
def cm_setJ (h : cmH) (a k : Nat) (v : Int64) : cmH := (h.1, h.2.1, h.2.2.1, h.2.2.2.1, cm_u2 h.2.2.2.2.1 a k v, h.2.2.2.2.2)
def cm_setR (h : cmH) (a k : Nat) (v : Option Nat) : cmH := (h.1, h.2.1, h.2.2.1, h.2.2.2.1, h.2.2.2.2.1, cm_u2 h.2.2.2.2.2 a k v)
def cm_rowI (h : cmH) (a : Nat) (r : Nat → Int32) : cmH := (h.1, h.2.1, h.2.2.1, cm_row h.2.2.2.1 a r, h.2.2.2.2.1, h.2.2.2.2.2)
def cm_mk (h : cmH) (kd ln : Nat) : cmH := ((h.1.1 + 1, h.1.2 + ln), cm_u1 h.2.1 h.1.1 kd, cm_u1 h.2.2.1 h.1.1 ln, cm_row h.2.2.2.1 h.1.1 (fun _ => 0), cm_row h.2.2.2.2.1 h.1.1 (fun _ => 0), cm_row h.2.2.2.2.2 h.1.1 (fun _ => none))
/-- the pool -/
def cm_fld (oc ix : Nat) : Option (Nat × Nat × Bool) := (cm_fl.find? fun e => e.1 == oc && e.2.1 == ix).map fun e => (e.2.2.1, e.2.2.2.1, e.2.2.2.2.1)
def cm_cI (oc ix : Nat) : Option Int32 := (cm_ct.find? fun e => e.1 == oc && e.2.1 == ix).map fun e => e.2.2.1
def cm_cJ (oc ix : Nat) : Option Int64 := (cm_cj.find? fun e => e.1 == oc && e.2.1 == ix).map fun e => e.2.2.1
def cm_cS (oc ix : Nat) : Option Nat := if oc = 6 ∧ ix = 69 ∨ oc = 10 ∧ ix = 210 then some 1 else if oc = 6 ∧ ix = 118 then some 2 else none
def cm_cC (oc ix : Nat) : Option Nat := (cm_nw.find? fun e => e.1 == oc && e.2.1 == ix).map fun e => e.2.2.1
def cm_cM (oc ix : Nat) : Option (Nat × Nat × Nat) := (cm_mt.find? fun e => e.1 == oc && e.2.1 == ix).map fun e => (e.2.2.1, e.2.2.2.1, e.2.2.2.2.2.2.2)
/-- what an instruction takes off the stack -/
def cm_i1 {β : Type} (st : List Value) (k : Int32 → List Value → Option β) : Option β := match st with
  | .int a :: r => k a r
  | _ => none
def cm_j1 {β : Type} (st : List Value) (k : Int64 → List Value → Option β) : Option β := match st with
  | .long a :: r => k a r
  | _ => none
def cm_ii {β : Type} (st : List Value) (k : Int32 → Int32 → List Value → Option β) : Option β := match st with
  | .int b :: .int a :: r => k a b r
  | _ => none
def cm_jj {β : Type} (st : List Value) (k : Int64 → Int64 → List Value → Option β) : Option β := match st with
  | .long b :: .long a :: r => k a b r
  | _ => none
def cm_a1 {β : Type} (st : List Value) (k : Nat → List Value → Option β) : Option β := match st with
  | .ref a :: r => k a r
  | _ => none
def cm_ia {β : Type} (st : List Value) (k : Nat → Int32 → List Value → Option β) : Option β := match st with
  | .int i :: .ref a :: r => k a i r
  | _ => none
def cm_iia {β : Type} (st : List Value) (k : Nat → Int32 → Int32 → List Value → Option β) : Option β := match st with
  | .int x :: .int i :: .ref a :: r => k a i x r
  | _ => none
def cm_jia {β : Type} (st : List Value) (k : Nat → Int32 → Int64 → List Value → Option β) : Option β := match st with
  | .long x :: .int i :: .ref a :: r => k a i x r
  | _ => none
def cm_ria {β : Type} (st : List Value) (k : Nat → Int32 → Nat → List Value → Option β) : Option β := match st with
  | .ref x :: .int i :: .ref a :: r => k a i x r
  | _ => none
def cm_va {β : Type} (st : List Value) (k : Nat → Value → List Value → Option β) : Option β := match st with
  | v :: .ref a :: r => k a v r
  | _ => none
/-- a reference that is null or a cell -/
def cm_q1 {β : Type} (st : List Value) (kn : List Value → Option β) (kr : Nat → List Value → Option β) : Option β := match st with
  | .null :: r => kn r
  | .ref a :: r => kr a r
  | _ => none
/-- locals -/
def cm_lg : cmL → Nat → Option Value
  | [], _ => none
  | a :: _, 0 => a
  | _ :: l, k + 1 => cm_lg l k
def cm_isJ : Option Value → Bool
  | some v => v.category == 2
  | none => false
def cm_ls1 : cmL → Nat → Value → cmL
  | [], _, _ => []
  | _ :: l, 0, v => some v :: l
  | a :: l, 1, v => (if cm_isJ a then none else a) :: cm_ls1 l 0 v
  | a :: l, k + 2, v => a :: cm_ls1 l (k + 1) v
def cm_clr : cmL → cmL
  | [] => []
  | _ :: l => none :: l
def cm_ls2 : cmL → Nat → Value → cmL
  | [], _, _ => []
  | _ :: l, 0, v => some v :: cm_clr l
  | a :: l, 1, v => (if cm_isJ a then none else a) :: cm_ls2 l 0 v
  | a :: l, k + 2, v => a :: cm_ls2 l (k + 1) v
def cm_oi {β : Type} (o : Option Value) (k : Int32 → Option β) : Option β := match o with
  | some (.int x) => k x
  | _ => none
def cm_oj {β : Type} (o : Option Value) (k : Int64 → Option β) : Option β := match o with
  | some (.long x) => k x
  | _ => none
def cm_oa {β : Type} (o : Option Value) (k : Value → Option β) : Option β := match o with
  | some (.ref a) => k (.ref a)
  | some .null => k .null
  | some (.retAddr j) => k (.retAddr j)
  | _ => none
def cm_va1 {β : Type} (st : List Value) (k : Value → List Value → Option β) : Option β := match st with
  | .ref a :: r => k (.ref a) r
  | .null :: r => k .null r
  | _ => none
/-- a slot's value by its type -/
def cm_gv (h : cmH) (ty : FieldType) (a k : Nat) : Value := match ty with
  | .long => .long (cm_J h a k)
  | .object _ => va_rf (cm_R h a k)
  | .array _ => va_rf (cm_R h a k)
  | _ => .int (cm_I h a k)
def cm_pv (h : cmH) (ty : FieldType) (a k : Nat) (v : Value) : Option cmH := match ty, v with
  | .long, .long x => some (cm_setJ h a k x)
  | .object _, .ref b => some (cm_setR h a k (some b))
  | .object _, .null => some (cm_setR h a k none)
  | .array _, .ref b => some (cm_setR h a k (some b))
  | .array _, .null => some (cm_setR h a k none)
  | .int, .int x => some (cm_setI h a k x)
  | .boolean, .int x => if x = 0 ∨ x = 1 then some (cm_setI h a k x) else none
  | .char, .int x => if 0 ≤ x ∧ x ≤ 65535 then some (cm_setI h a k x) else none
  | _, _ => none
abbrev cm_ok (h : cmH) (kd a : Nat) (i : Int32) : Prop := cm_kd h a = kd ∧ a < cm_n h ∧ ¬ i < 0 ∧ i.toNatClampNeg < cm_ln h a
abbrev cmR : Type := Nat × cmL × List Value × cmH
def cm_br (pc : Nat) (off : Int) (ls : cmL) (st : List Value) (h : cmH) : Option cmR := if 0 ≤ (pc : Int) + off then some (((pc : Int) + off).toNat, ls, st, h) else none
/-- a branch on a condition -/
def cm_cb (b : Prop) [Decidable b] (pc : Nat) (off : Int) (ls : cmL) (st : List Value) (h : cmH) : Option cmR := if 0 ≤ (pc : Int) + off then (if b then some (((pc : Int) + off).toNat, ls, st, h) else some (pc + 3, ls, st, h)) else none
/-- one instruction that neither calls nor returns -/
def cm_st (sc : cmS) (M : Nat) (i : Instr) (pc n : Nat) (ls : cmL) (st : List Value) (h : cmH) : Option cmR :=
  match i with
  | .iconst v => some (pc + 1, ls, .int (Int32.ofInt v) :: st, h)
  | .bipush v => some (pc + 2, ls, .int (Int8.ofInt v).toInt32 :: st, h)
  | .sipush v => some (pc + 3, ls, .int (Int16.ofInt v).toInt32 :: st, h)
  | .lconst v => some (pc + 1, ls, .long (Int64.ofNat v) :: st, h)
  | .aconst_null => some (pc + 1, ls, .null :: st, h)
  | .ldc ix => match cm_cI (cm_M M).2.1 ix with
    | some v => some (pc + 2, ls, .int v :: st, h)
    | none => match cm_cS (cm_M M).2.1 ix with
      | some j => some (pc + 2, ls, .retAddr j :: st, h)
      | none => none
  | .ldc_w ix => match cm_cI (cm_M M).2.1 ix with
    | some v => some (pc + 3, ls, .int v :: st, h)
    | none => none
  | .ldc2_w ix => match cm_cJ (cm_M M).2.1 ix with
    | some v => some (pc + 3, ls, .long v :: st, h)
    | none => none
  | .iload_n k => cm_oi (cm_lg ls k) fun x => some (pc + 1, ls, .int x :: st, h)
  | .iload k => cm_oi (cm_lg ls k) fun x => some (pc + 2, ls, .int x :: st, h)
  | .lload_n k => cm_oj (cm_lg ls k) fun x => some (pc + 1, ls, .long x :: st, h)
  | .lload k => cm_oj (cm_lg ls k) fun x => some (pc + 2, ls, .long x :: st, h)
  | .aload_n k => cm_oa (cm_lg ls k) fun x => some (pc + 1, ls, x :: st, h)
  | .aload k => cm_oa (cm_lg ls k) fun x => some (pc + 2, ls, x :: st, h)
  | .istore_n k => cm_i1 st fun x r => if (k : Nat) < ls.length then some (pc + 1, cm_ls1 ls k (.int x), r, h) else none
  | .istore k => cm_i1 st fun x r => if k < ls.length then some (pc + 2, cm_ls1 ls k (.int x), r, h) else none
  | .lstore_n k => cm_j1 st fun x r => if (k : Nat) + 1 < ls.length then some (pc + 1, cm_ls2 ls k (.long x), r, h) else none
  | .lstore k => cm_j1 st fun x r => if k + 1 < ls.length then some (pc + 2, cm_ls2 ls k (.long x), r, h) else none
  | .astore_n k => cm_va1 st fun x r => if (k : Nat) < ls.length then some (pc + 1, cm_ls1 ls k x, r, h) else none
  | .astore k => cm_va1 st fun x r => if k < ls.length then some (pc + 2, cm_ls1 ls k x, r, h) else none
  | .iinc k c => cm_oi (cm_lg ls k) fun x => if k < ls.length then some (pc + 3, cm_ls1 ls k (.int (x + Int32.ofInt c)), st, h) else none
  | .iadd => cm_ii st fun a b r => some (pc + 1, ls, .int (a + b) :: r, h)
  | .isub => cm_ii st fun a b r => some (pc + 1, ls, .int (a - b) :: r, h)
  | .imul => cm_ii st fun a b r => some (pc + 1, ls, .int (a * b) :: r, h)
  | .idiv => cm_ii st fun a b r => if b = 0 then none else some (pc + 1, ls, .int (a / b) :: r, h)
  | .irem => cm_ii st fun a b r => if b = 0 then none else some (pc + 1, ls, .int (a - a / b * b) :: r, h)
  | .iand => cm_ii st fun a b r => some (pc + 1, ls, .int (a &&& b) :: r, h)
  | .ior => cm_ii st fun a b r => some (pc + 1, ls, .int (a ||| b) :: r, h)
  | .ishl => cm_ii st fun a b r => some (pc + 1, ls, .int (a <<< (b &&& 31)) :: r, h)
  | .ishr => cm_ii st fun a b r => some (pc + 1, ls, .int (a >>> (b &&& 31)) :: r, h)
  | .iushr => cm_ii st fun a b r => some (pc + 1, ls, .int (a.toUInt32 >>> (b.toUInt32 &&& Int32.toUInt32 31)).toInt32 :: r, h)
  | .ladd => cm_jj st fun a b r => some (pc + 1, ls, .long (a + b) :: r, h)
  | .lsub => cm_jj st fun a b r => some (pc + 1, ls, .long (a - b) :: r, h)
  | .lmul => cm_jj st fun a b r => some (pc + 1, ls, .long (a * b) :: r, h)
  | .ldiv => cm_jj st fun a b r => if b = 0 then none else some (pc + 1, ls, .long (a / b) :: r, h)
  | .lrem => cm_jj st fun a b r => if b = 0 then none else some (pc + 1, ls, .long (a - a / b * b) :: r, h)
  | .lcmp => cm_jj st fun a b r => some (pc + 1, ls, .int (lg_cmp a b) :: r, h)
  | .i2l => cm_i1 st fun a r => some (pc + 1, ls, .long a.toInt64 :: r, h)
  | .l2i => cm_j1 st fun a r => some (pc + 1, ls, .int a.toInt32 :: r, h)
  | .i2c => cm_i1 st fun a r => some (pc + 1, ls, .int (a.toUInt32 % 65536).toInt32 :: r, h)
  | .dup => match st with
    | v :: r => if v.category = 1 then some (pc + 1, ls, v :: v :: r, h) else none
    | _ => none
  | .pop => match st with
    | v :: r => if v.category = 1 then some (pc + 1, ls, r, h) else none
    | _ => none
  | .dup2 => match st with
    | v :: w :: r => if v.category = 1 ∧ w.category = 1 then some (pc + 1, ls, v :: w :: v :: w :: r, h) else none
    | _ => none
  | .goto off => cm_br pc off ls st h
  | .ifCond .eq off => cm_i1 st fun a r => cm_cb (a = 0) pc off ls r h
  | .ifCond .ne off => cm_i1 st fun a r => cm_cb (¬ a = 0) pc off ls r h
  | .ifCond .lt off => cm_i1 st fun a r => cm_cb (a < 0) pc off ls r h
  | .ifCond .ge off => cm_i1 st fun a r => cm_cb (0 ≤ a) pc off ls r h
  | .ifCond .gt off => cm_i1 st fun a r => cm_cb (0 < a) pc off ls r h
  | .ifCond .le off => cm_i1 st fun a r => cm_cb (a ≤ 0) pc off ls r h
  | .if_icmp .eq off => cm_ii st fun a b r => cm_cb (a = b) pc off ls r h
  | .if_icmp .ne off => cm_ii st fun a b r => cm_cb (¬ a = b) pc off ls r h
  | .if_icmp .lt off => cm_ii st fun a b r => cm_cb (a < b) pc off ls r h
  | .if_icmp .ge off => cm_ii st fun a b r => cm_cb (b ≤ a) pc off ls r h
  | .if_icmp .gt off => cm_ii st fun a b r => cm_cb (b < a) pc off ls r h
  | .if_icmp .le off => cm_ii st fun a b r => cm_cb (a ≤ b) pc off ls r h
  | .ifnull off => cm_q1 st (fun r => cm_br pc off ls r h) fun _ r => some (pc + 3, ls, r, h)
  | .ifnonnull off => cm_q1 st (fun r => some (pc + 3, ls, r, h)) fun _ r => cm_br pc off ls r h
  | .tableswitch dflt lo hi offs => cm_i1 st fun x r => if x.toInt < lo ∨ hi < x.toInt then cm_br pc dflt ls r h else match offs[(x.toInt - lo).toNat]? with
    | some off => cm_br pc off ls r h
    | none => none
  | .getfield ix => match cm_fld (cm_M M).2.1 ix with
    | some (ci, k, _) => cm_a1 st fun a r => if cm_kd h a = ci ∧ a < cm_n h then some (pc + 3, ls, cm_gv h (cm_ty ci k) a k :: r, h) else none
    | none => none
  | .putfield ix => match cm_fld (cm_M M).2.1 ix with
    | some (ci, k, nest) => cm_va st fun a v r => if cm_kd h a = ci ∧ a < cm_n h ∧ ((cm_T ci k).2.2.2 = false ∨ ((cm_M M).1.name = "<init>" ∧ (cm_M M).2.1 = ci ∧ nest = false)) then match cm_pv h (cm_ty ci k) a k v with
        | some h' => some (pc + 3, ls, r, h')
        | none => none
      else none
    | none => none
  | .iaload => match st with
    | .int i :: .retAddr 0 :: r => if ¬ i < 0 ∧ i.toNatClampNeg < sc.1 then some (pc + 1, ls, .int (sc.2 i.toNatClampNeg) :: r, h) else none
    | _ => cm_ia st fun a i r => if cm_ok h 13 a i then some (pc + 1, ls, .int (cm_I h a i.toNatClampNeg) :: r, h) else none
  | .caload => cm_ia st fun a i r => if cm_ok h 12 a i then some (pc + 1, ls, .int (cm_I h a i.toNatClampNeg) :: r, h) else none
  | .baload => cm_ia st fun a i r => if cm_ok h 15 a i then some (pc + 1, ls, .int (cm_I h a i.toNatClampNeg) :: r, h) else none
  | .laload => cm_ia st fun a i r => if cm_ok h 14 a i then some (pc + 1, ls, .long (cm_J h a i.toNatClampNeg) :: r, h) else none
  | .aaload => cm_ia st fun a i r => if cm_ok h (cm_kd h a) a i ∧ 16 ≤ cm_kd h a ∧ cm_kd h a ≤ 18 then some (pc + 1, ls, va_rf (cm_R h a i.toNatClampNeg) :: r, h) else none
  | .iastore => cm_iia st fun a i x r => if cm_ok h 13 a i then some (pc + 1, ls, r, cm_setI h a i.toNatClampNeg x) else none
  | .castore => cm_iia st fun a i x r => if cm_ok h 12 a i then some (pc + 1, ls, r, cm_setI h a i.toNatClampNeg (vp_nar .char x)) else none
  | .bastore => cm_iia st fun a i x r => if cm_ok h 15 a i then some (pc + 1, ls, r, cm_setI h a i.toNatClampNeg (vp_nar .boolean x)) else none
  | .lastore => cm_jia st fun a i x r => if cm_ok h 14 a i then some (pc + 1, ls, r, cm_setJ h a i.toNatClampNeg x) else none
  | .aastore => cm_ria st fun a i x r => if cm_ok h (cm_kd h a) a i ∧ x < cm_n h ∧ ((cm_kd h a = 16 ∧ cm_kd h x = 1) ∨ (cm_kd h a = 17 ∧ cm_kd h x = 3) ∨ (cm_kd h a = 18 ∧ cm_kd h x = 9)) then some (pc + 1, ls, r, cm_setR h a i.toNatClampNeg (some x)) else none
  | .arraylength => match st with
    | .retAddr 0 :: r => some (pc + 1, ls, .int (Int32.ofNat sc.1) :: r, h)
    | _ => cm_a1 st fun a r => if 12 ≤ cm_kd h a ∧ cm_kd h a ≤ 18 ∧ a < cm_n h then some (pc + 1, ls, .int (Int32.ofNat (cm_ln h a)) :: r, h) else none
  | .newarray t => cm_i1 st fun x r => if ¬ x < 0 ∧ x.toNatClampNeg ≤ 60000000 then match t with
      | .char => some (pc + 2, ls, .ref (cm_n h) :: r, cm_mk h 12 x.toNatClampNeg)
      | .int => some (pc + 2, ls, .ref (cm_n h) :: r, cm_mk h 13 x.toNatClampNeg)
      | .long => some (pc + 2, ls, .ref (cm_n h) :: r, cm_mk h 14 x.toNatClampNeg)
      | .boolean => some (pc + 2, ls, .ref (cm_n h) :: r, cm_mk h 15 x.toNatClampNeg)
      | _ => none
    else none
  | .anewarray ix => cm_i1 st fun x r => if ¬ x < 0 ∧ x.toNatClampNeg ≤ 60000000 then match cm_cC (cm_M M).2.1 ix with
      | some 1 => some (pc + 3, ls, .ref (cm_n h) :: r, cm_mk h 16 x.toNatClampNeg)
      | some 3 => some (pc + 3, ls, .ref (cm_n h) :: r, cm_mk h 17 x.toNatClampNeg)
      | some 9 => some (pc + 3, ls, .ref (cm_n h) :: r, cm_mk h 18 x.toNatClampNeg)
      | _ => none
    else none
  | .new ix => match cm_cC (cm_M M).2.1 ix with
    | some ci => some (pc + 3, ls, .ref (cm_n h) :: st, cm_mk h ci (cm_N ci))
    | none => none
  | _ => none
/-- returns -/
def cm_rt (M : Nat) (i : Instr) (st : List Value) : Option (Option Value) := match i, st with
  | .return_, [] => if (cm_M M).2.2.2.2 = none then some none else none
  | .ireturn, [.int v] => match (cm_M M).2.2.2.2 with
    | some .int => some (some (.int v))
    | some .boolean => if v = 0 ∨ v = 1 then some (some (.int v)) else none
    | some .char => if 0 ≤ v ∧ v ≤ 65535 then some (some (.int v)) else none
    | _ => none
  | .lreturn, [.long v] => if (cm_M M).2.2.2.2 = some .long then some (some (.long v)) else none
  | .areturn, [.null] => match (cm_M M).2.2.2.2 with
    | some (.object _) => some (some .null)
    | _ => none
  | .areturn, [.ref a] => match (cm_M M).2.2.2.2 with
    | some (.object _) => some (some (.ref a))
    | _ => none
  | _, _ => none
/-- String.indexOf of the two constants: "wrcu" and "phoink" -/
def cm_ix (j : Nat) (x : Int32) : Int32 :=
  if j = 1 then (if x = 119 then 0 else if x = 114 then 1 else if x = 99 then 2 else if x = 117 then 3 else -1)
  else (if x = 112 then 0 else if x = 104 then 1 else if x = 111 then 2 else if x = 105 then 3 else if x = 110 then 4 else if x = 107 then 5 else -1)
def cm_wd (r : List Value) : Nat := (r.map fun v => v.category).sum
/-- calls of the library's methods -/
def cm_pr (kind : Nat) (st : List Value) (h : cmH) : Option (List Value × cmH) := match kind, st with
  | 6, .ref _ :: r => if cm_wd r ≤ 8 then some (r, h) else none
  | 7, .int y :: .int x :: r => if cm_wd r ≤ 8 then some (.int (if x < y then y else x) :: r, h) else none
  | 8, .int y :: .int x :: r => if cm_wd r ≤ 8 then some (.int (if y < x then y else x) :: r, h) else none
  | 9, .long y :: .long x :: r => if cm_wd r ≤ 8 then some (.long (if y < x then x else y) :: r, h) else none
  | 10, .long y :: .long x :: r => if cm_wd r ≤ 8 then some (.long (if y < x then y else x) :: r, h) else none
  | 11, .int n :: .int dp :: .ref b :: .int sp :: .ref a :: r => if cm_wd r ≤ 8 ∧ a < cm_n h ∧ b < cm_n h ∧ cm_kd h a = 13 ∧ cm_kd h b = 13 ∧ ¬ sp < 0 ∧ ¬ dp < 0 ∧ ¬ n < 0 ∧ sp.toNatClampNeg + n.toNatClampNeg ≤ cm_ln h a ∧ dp.toNatClampNeg + n.toNatClampNeg ≤ cm_ln h b
      then some (r, cm_rowI h b (va_cpy (cm_I h a) (cm_I h b) sp.toNatClampNeg dp.toNatClampNeg n.toNatClampNeg)) else none
  | 12, .int x :: .retAddr j :: r => if cm_wd r ≤ 8 ∧ (j = 1 ∨ j = 2) then some (.int (cm_ix j x) :: r, h) else none
  | _, _ => none
def cm_lay : List Value → cmL
  | [] => []
  | v :: r => if v.category = 2 then some v :: none :: cm_lay r else some v :: cm_lay r
def cm_en (M : Nat) (as : List Value) : cmL := cm_lay as ++ List.replicate ((cm_M M).2.2.2.1 - (cm_lay as).length) none
/-- a call's instruction: its entry -/
def cm_cx (i : Instr) : Option (Nat × Nat) := match i with
  | .invokevirtual ix => some (0, ix)
  | .invokestatic ix => some (1, ix)
  | .invokespecial ix => some (2, ix)
  | _ => none
def cm_isr (i : Instr) : Bool := match i with
  | .return_ => true
  | .ireturn => true
  | .lreturn => true
  | .areturn => true
  | _ => false
/-- the arguments off the stack: k of them, the first lowest; none where the stack is short -/
def cm_tk : Nat → List Value → List Value → Option (List Value × List Value)
  | 0, acc, st => some (acc, st)
  | k + 1, acc, v :: st => cm_tk k (v :: acc) st
  | _ + 1, _, [] => none
/-- the callee and its arguments: (kind of the instruction, method's kind) must fit; a receiver must be a cell of the method's class -/
def cm_ca (g kind M k : Nat) (st : List Value) (h : cmH) : Option (List Value × List Value) :=
  if g = 1 ∧ (kind = 2 ∨ kind = 3) then match cm_tk k [] st with
    | some (as, r) => if cm_wd r ≤ 8 ∧ (cm_lay as).length ≤ (cm_M M).2.2.2.1 then some (as, r) else none
    | none => none
  else if g = 0 ∧ (kind = 0 ∨ kind = 1) ∨ g = 2 ∧ (kind = 4 ∨ kind = 5) then match cm_tk k [] st with
    | some (as, .ref a :: r) => if cm_wd r ≤ 8 ∧ (cm_lay (.ref a :: as)).length ≤ (cm_M M).2.2.2.1 ∧ a < cm_n h ∧ cm_kd h a = (cm_M M).2.1 ∧ (cm_M M).2.1 < 12 ∧ (g = 0 ∨ (cm_M M).2.2.2.2 = none) then some (.ref a :: as, r) else none
    | _ => none
  else none
/-- an instruction's length -/
def cm_lk (i : Instr) (n : Nat) : Bool := match i with
  | .tableswitch _ _ _ _ => true
  | .bipush _ | .ldc _ | .iload _ | .lload _ | .aload _ | .istore _ | .lstore _ | .astore _ | .newarray _ => n == 2
  | .sipush _ | .ldc_w _ | .ldc2_w _ | .iinc _ _ | .goto _ | .ifCond _ _ | .if_icmp _ _ | .ifnull _ | .ifnonnull _ | .getfield _ | .putfield _ | .anewarray _ | .new _ | .invokevirtual _ | .invokestatic _ | .invokespecial _ => n == 3
  | _ => n == 1
/-- the library's methods: by which instruction -/
def cm_gk (g kind d : Nat) : Bool := (kind == 6 && g == 2) || (7 ≤ kind && kind ≤ 11 && g == 1) || (kind == 12 && g == 0 && 8 ≤ d)
/-- an answer .double stands for a throw of NoSuchElementException -/
def cm_isX : Option Value → Bool
  | some (.double _) => true
  | _ => false
/-- the one place that throws: ClogHouse.worth, at 33 -/
def cm_thr (M pc d : Nat) (st : List Value) : Bool := decide (M = 133) && decide (pc = 33) && decide (8 ≤ d) && decide (cm_wd st ≤ 8)
/-- the law's own worth(x, p0 .. p7, out) -/
def cm_w13 : List Value → Option (List Value × Nat × Nat × List Value)
  | .ref o :: .int p7 :: .int p6 :: .int p5 :: .int p4 :: .int p3 :: .int p2 :: .int p1 :: .int p0 :: .ref x :: r => if cm_wd r ≤ 8 then some ([.ref x, .int p0, .int p1, .int p2, .int p3, .int p4, .int p5, .int p6, .int p7], x, o, r) else none
  | _ => none
/-- the run: fuel, depth, method, place, locals, stack, memory -/
def cm_ex (sc : cmS) : Nat → Nat → Nat → Nat → cmL → List Value → cmH → Option (Option Value × cmH)
  | 0, _, _, _, _, _, _ => none
  | f + 1, d, M, pc, ls, st, h => match decode (cm_M M).2.2.1 pc with
    | .error _ => none
    | .ok (i, n) =>
      if cm_lk i n = false then none else
      if cm_isr i = true then (cm_rt M i st).map fun v => (v, h) else
      match cm_cx i with
      | some (g, ix) => match d with
        | 0 => none
        | d + 1 => match cm_cM (cm_M M).2.1 ix with
          | none => none
          | some (M', kind, k) =>
            if kind = 13 then (match d, cm_w13 st with
              | d1 + 1, some (as, x, o, r) => if g = 1 ∧ cm_kd h x = 10 ∧ x < cm_n h then match cm_ex sc f d1 133 0 (cm_en 133 as) [] h with
                  | some (some (.int w), h') => if cm_ok h' 14 o 0 then cm_ex sc f (d1 + 2) M (pc + 3) ls (.int 0 :: r) (cm_setJ h' o 0 w.toInt64) else none
                  | some (some (.double _), h') => cm_ex sc f (d1 + 2) M (pc + 3) ls (.int 1 :: r) h'
                  | _ => none
                else none
              | _, _ => none)
            else if 6 ≤ kind then (if cm_gk g kind d = true then match cm_pr kind st h with
              | some (st', h') => cm_ex sc f (d + 1) M (pc + 3) ls st' h'
              | none => none
            else none)
            else match cm_ca g kind M' k st h with
              | none => none
              | some (as, r) => match cm_ex sc f d M' 0 (cm_en M' as) [] h with
                | none => none
                | some (v, h') => if cm_isX v = true then none else cm_ex sc f (d + 1) M (pc + 3) ls (v.toList ++ r) h'
      | none => match cm_st sc M i pc n ls st h with
        | none => if cm_thr M pc d st = true then some (some (.double 0), cm_mk h 19 6) else none
        | some (pc', ls', st', h') => cm_ex sc f d M pc' ls' st' h'
