/-! ===== further rows ===== -/
section WLX
variable {sc : cmS} {d M pc n : Nat} {ls : cmL} {st : List Value} {h : cmH} {Q : Option Value → cmH → Prop} {i : Instr}
theorem wl_ic {z : Int} {v : Int32} (hd : decode (cm_M M).2.2.1 pc = .ok (.iconst z, 1)) (hv : Int32.ofInt z = v) (k : cm_wp sc d M (pc + 1) ls (.int v :: st) h Q) : cm_wp sc d M pc ls st h Q := by
  subst hv; exact wl_st hd rfl rfl rfl rfl k
theorem wl_bi {z : Int} {v : Int32} (hd : decode (cm_M M).2.2.1 pc = .ok (.bipush z, 2)) (hv : (Int8.ofInt z).toInt32 = v) (k : cm_wp sc d M (pc + 2) ls (.int v :: st) h Q) : cm_wp sc d M pc ls st h Q := by
  subst hv; exact wl_st hd rfl rfl rfl rfl k
theorem wl_si {z : Int} {v : Int32} (hd : decode (cm_M M).2.2.1 pc = .ok (.sipush z, 3)) (hv : (Int16.ofInt z).toInt32 = v) (k : cm_wp sc d M (pc + 3) ls (.int v :: st) h Q) : cm_wp sc d M pc ls st h Q := by
  subst hv; exact wl_st hd rfl rfl rfl rfl k
theorem wl_lc {z : Fin 2} {v : Int64} (hd : decode (cm_M M).2.2.1 pc = .ok (.lconst z, 1)) (hv : Int64.ofNat z = v) (k : cm_wp sc d M (pc + 1) ls (.long v :: st) h Q) : cm_wp sc d M pc ls st h Q := by
  subst hv; exact wl_st hd rfl rfl rfl rfl k
theorem wl_cS {ix j : Nat} (hd : decode (cm_M M).2.2.1 pc = .ok (.ldc ix, 2)) (hc : cm_cI (cm_M M).2.1 ix = none) (hs : cm_cS (cm_M M).2.1 ix = some j) (k : cm_wp sc d M (pc + 2) ls (.retAddr j :: st) h Q) : cm_wp sc d M pc ls st h Q := by
  refine wl_st (pc' := pc + 2) (ls' := ls) (st' := .retAddr j :: st) (h' := h) hd rfl rfl rfl ?_ k
  show (match cm_cI (cm_M M).2.1 ix with | some v => _ | none => _) = _
  rw [hc]
  show (match cm_cS (cm_M M).2.1 ix with | some j => _ | none => _) = _
  rw [hs]
theorem wl_tsI {dflt lo hi off : Int} {offs : Array Int} {len tgt : Nat} {x v : Int32} (hd : decode (cm_M M).2.2.1 pc = .ok (.tableswitch dflt lo hi offs, len)) (hx : x = v) (ho : offs[(v.toInt - lo).toNat]? = some off) (h1 : lo ≤ v.toInt) (h2 : v.toInt ≤ hi) (ht : (pc : Int) + off = (tgt : Int)) (k : cm_wp sc d M tgt ls st h Q) : cm_wp sc d M pc ls (.int x :: st) h Q := by
  subst hx
  have hok : ∃ tgt : Nat, (x.toInt < lo ∨ hi < x.toInt) ∧ (pc : Int) + dflt = (tgt : Int) ∨ (lo ≤ x.toInt ∧ x.toInt ≤ hi ∧ ∃ off, offs[(x.toInt - lo).toNat]? = some off ∧ (pc : Int) + off = (tgt : Int)) := ⟨tgt, Or.inr ⟨h1, h2, off, ho, ht⟩⟩
  refine wl_ts hd (fun t q => ?_) hok
  rcases q with ⟨q, -⟩ | ⟨-, -, o2, q1, q2⟩
  · omega
  · cases ho.symm.trans q1
    have : t = tgt := by omega
    rw [this]; exact k
theorem wl_tsO {dflt lo hi : Int} {offs : Array Int} {len tgt : Nat} {x : Int32} (hd : decode (cm_M M).2.2.1 pc = .ok (.tableswitch dflt lo hi offs, len)) (hx : x.toInt < lo ∨ hi < x.toInt) (ht : (pc : Int) + dflt = (tgt : Int)) (k : cm_wp sc d M tgt ls st h Q) : cm_wp sc d M pc ls (.int x :: st) h Q := by
  refine wl_ts hd (fun t q => ?_) ⟨tgt, Or.inl ⟨hx, ht⟩⟩
  rcases q with ⟨-, q⟩ | ⟨q1, q2, -⟩
  · have : t = tgt := by omega
    rw [this]; exact k
  · omega
theorem wl_rq {o : Option Nat} {C : String} (hd : decode (cm_M M).2.2.1 pc = .ok (.areturn, 1)) (ht : (cm_M M).2.2.2.2 = some (.object C)) (k : Q (some (va_rf o)) h) : cm_wp sc d M pc ls [va_rf o] h Q := by
  refine wl_rt (v := some (va_rf o)) hd rfl rfl ?_ k
  cases o <;> (show (match (cm_M M).2.2.2.2 with | some (.object _) => _ | _ => _) = _; rw [ht]; rfl)
theorem wl_rz {v : Int32} (hd : decode (cm_M M).2.2.1 pc = .ok (.ireturn, 1)) (ht : (cm_M M).2.2.2.2 = some .boolean) (hv : v = 0 ∨ v = 1) (k : Q (some (.int v)) h) : cm_wp sc d M pc ls [.int v] h Q := by
  refine wl_rt (v := some (.int v)) hd rfl rfl ?_ k
  show (match (cm_M M).2.2.2.2 with | some .int => _ | some .boolean => _ | some .char => _ | _ => _) = _
  rw [ht]
  exact if_pos hv
theorem wl_rc {v : Int32} (hd : decode (cm_M M).2.2.1 pc = .ok (.ireturn, 1)) (ht : (cm_M M).2.2.2.2 = some .char) (hv : 0 ≤ v ∧ v ≤ 65535) (k : Q (some (.int v)) h) : cm_wp sc d M pc ls [.int v] h Q := by
  refine wl_rt (v := some (.int v)) hd rfl rfl ?_ k
  show (match (cm_M M).2.2.2.2 with | some .int => _ | some .boolean => _ | some .char => _ | _ => _) = _
  rw [ht]
  exact if_pos hv
theorem cm_pvZ {a k : Nat} {v : Int32} (hv : v = 0 ∨ v = 1) : cm_pv h .boolean a k (.int v) = some (cm_setI h a k v) := if_pos hv
theorem cm_pvC {a k : Nat} {v : Int32} (hv : 0 ≤ v ∧ v ≤ 65535) : cm_pv h .char a k (.int v) = some (cm_setI h a k v) := if_pos hv
theorem cm_pr11 {x dp sp : Int32} {a b : Nat} {r : List Value} (hg : cm_wd r ≤ 8 ∧ a < cm_n h ∧ b < cm_n h ∧ cm_kd h a = 13 ∧ cm_kd h b = 13 ∧ ¬ sp < 0 ∧ ¬ dp < 0 ∧ ¬ x < 0 ∧ sp.toNatClampNeg + x.toNatClampNeg ≤ cm_ln h a ∧ dp.toNatClampNeg + x.toNatClampNeg ≤ cm_ln h b) : cm_pr 11 (.int x :: .int dp :: .ref b :: .int sp :: .ref a :: r) h = some (r, cm_rowI h b (va_cpy (cm_I h a) (cm_I h b) sp.toNatClampNeg dp.toNatClampNeg x.toNatClampNeg)) := if_pos hg
theorem wl_gr {ix ci k a b : Nat} {nest : Bool} (hd : decode (cm_M M).2.2.1 pc = .ok (.getfield ix, 3)) (hf : cm_fld (cm_M M).2.1 ix = some (ci, k, nest)) (hg : cm_kd h a = ci ∧ a < cm_n h) (hr : cm_gv h (cm_ty ci k) a k = va_rf (cm_R h a k)) (hb : cm_R h a k = some b) (kk : cm_wp sc d M (pc + 3) ls (.ref b :: st) h Q) : cm_wp sc d M pc ls (.ref a :: st) h Q :=
  wl_gf hd hf hg (hr.trans (congrArg va_rf hb)) kk
theorem wl_na {t : ArrayType} {kd N : Nat} {x : Int32} (hd : decode (cm_M M).2.2.1 pc = .ok (.newarray t, 2)) (hk : t = .char ∧ kd = 12 ∨ t = .int ∧ kd = 13 ∨ t = .long ∧ kd = 14 ∨ t = .boolean ∧ kd = 15) (hx : ¬ x < 0 ∧ x.toNatClampNeg ≤ 60000000) (hN : x.toNatClampNeg = N) (k : cm_wp sc d M (pc + 2) ls (.ref (cm_n h) :: st) (cm_mk h kd N) Q) : cm_wp sc d M pc ls (.int x :: st) h Q := by
  subst hN
  refine wl_st (pc' := pc + 2) (ls' := ls) (st' := .ref (cm_n h) :: st) (h' := cm_mk h kd x.toNatClampNeg) hd rfl rfl rfl ?_ k
  show (if ¬ x < 0 ∧ x.toNatClampNeg ≤ 60000000 then _ else _) = _
  rw [if_pos hx]
  rcases hk with ⟨rfl, rfl⟩ | ⟨rfl, rfl⟩ | ⟨rfl, rfl⟩ | ⟨rfl, rfl⟩ <;> rfl
theorem cm_isJq {o : Option Nat} : cm_isJ (some (va_rf o)) = false := by cases o <;> rfl
theorem wl_is {k : Nat} {x : Int32} {ls' : cmL} (hd : decode (cm_M M).2.2.1 pc = .ok (.istore k, 2)) (hl : k < ls.length) (hl' : cm_ls1 ls k (.int x) = ls') (kk : cm_wp sc d M (pc + 2) ls' st h Q) : cm_wp sc d M pc ls (.int x :: st) h Q := by
  subst hl'
  refine wl_st (pc' := pc + 2) (ls' := cm_ls1 ls k (.int x)) (st' := st) (h' := h) hd rfl rfl rfl ?_ kk
  show (if k < ls.length then _ else _) = _
  rw [if_pos hl]
theorem wl_isn {k : Fin 4} {x : Int32} {ls' : cmL} (hd : decode (cm_M M).2.2.1 pc = .ok (.istore_n k, 1)) (hl : (k : Nat) < ls.length) (hl' : cm_ls1 ls k (.int x) = ls') (kk : cm_wp sc d M (pc + 1) ls' st h Q) : cm_wp sc d M pc ls (.int x :: st) h Q := by
  subst hl'
  refine wl_st (pc' := pc + 1) (ls' := cm_ls1 ls k (.int x)) (st' := st) (h' := h) hd rfl rfl rfl ?_ kk
  show (if (k : Nat) < ls.length then _ else _) = _
  rw [if_pos hl]
theorem wl_js {k : Nat} {x : Int64} {ls' : cmL} (hd : decode (cm_M M).2.2.1 pc = .ok (.lstore k, 2)) (hl : k + 1 < ls.length) (hl' : cm_ls2 ls k (.long x) = ls') (kk : cm_wp sc d M (pc + 2) ls' st h Q) : cm_wp sc d M pc ls (.long x :: st) h Q := by
  subst hl'
  refine wl_st (pc' := pc + 2) (ls' := cm_ls2 ls k (.long x)) (st' := st) (h' := h) hd rfl rfl rfl ?_ kk
  show (if k + 1 < ls.length then _ else _) = _
  rw [if_pos hl]
theorem wl_jsn {k : Fin 4} {x : Int64} {ls' : cmL} (hd : decode (cm_M M).2.2.1 pc = .ok (.lstore_n k, 1)) (hl : (k : Nat) + 1 < ls.length) (hl' : cm_ls2 ls k (.long x) = ls') (kk : cm_wp sc d M (pc + 1) ls' st h Q) : cm_wp sc d M pc ls (.long x :: st) h Q := by
  subst hl'
  refine wl_st (pc' := pc + 1) (ls' := cm_ls2 ls k (.long x)) (st' := st) (h' := h) hd rfl rfl rfl ?_ kk
  show (if (k : Nat) + 1 < ls.length then _ else _) = _
  rw [if_pos hl]
theorem wl_rs {k : Nat} {x : Nat} {ls' : cmL} (hd : decode (cm_M M).2.2.1 pc = .ok (.astore k, 2)) (hl : k < ls.length) (hl' : cm_ls1 ls k (.ref x) = ls') (kk : cm_wp sc d M (pc + 2) ls' st h Q) : cm_wp sc d M pc ls (.ref x :: st) h Q := by
  subst hl'
  refine wl_st (pc' := pc + 2) (ls' := cm_ls1 ls k (.ref x)) (st' := st) (h' := h) hd rfl rfl rfl ?_ kk
  show (if k < ls.length then _ else _) = _
  rw [if_pos hl]
theorem wl_rsn {k : Fin 4} {x : Nat} {ls' : cmL} (hd : decode (cm_M M).2.2.1 pc = .ok (.astore_n k, 1)) (hl : (k : Nat) < ls.length) (hl' : cm_ls1 ls k (.ref x) = ls') (kk : cm_wp sc d M (pc + 1) ls' st h Q) : cm_wp sc d M pc ls (.ref x :: st) h Q := by
  subst hl'
  refine wl_st (pc' := pc + 1) (ls' := cm_ls1 ls k (.ref x)) (st' := st) (h' := h) hd rfl rfl rfl ?_ kk
  show (if (k : Nat) < ls.length then _ else _) = _
  rw [if_pos hl]
theorem wl_ii {k : Nat} {c : Int} {x : Int32} {ls' : cmL} (hd : decode (cm_M M).2.2.1 pc = .ok (.iinc k c, 3)) (hl : k < ls.length) (hx : cm_lg ls k = some (.int x)) (hl' : cm_ls1 ls k (.int (x + Int32.ofInt c)) = ls') (kk : cm_wp sc d M (pc + 3) ls' st h Q) : cm_wp sc d M pc ls st h Q := by
  subst hl'
  refine wl_st (pc' := pc + 3) (ls' := cm_ls1 ls k (.int (x + Int32.ofInt c))) (st' := st) (h' := h) hd rfl rfl rfl ?_ kk
  simp only [cm_st, hx, cm_oi]
  rw [if_pos hl]
theorem cm_rw {o : Option Nat} {b : Nat} (P : Option Nat → Prop) (hb : o = some b) (k : P (some b)) : P o := by rw [hb]; exact k
theorem gk12 (h : 8 ≤ d) : cm_gk 0 12 d = true := by simp [cm_gk, h]
end WLX
/-- the one place that throws -/
theorem wl_thr {sc : cmS} {d ix : Nat} {ls : cmL} {st : List Value} {h : cmH} {Q : Option Value → cmH → Prop} (hd : decode (cm_M 133).2.2.1 33 = .ok (.new ix, 3)) (hn : cm_cC (cm_M 133).2.1 ix = none) (h8 : 8 ≤ d) (hw : cm_wd st ≤ 8) (k : Q (some (.double 0)) (cm_mk h 19 6)) : cm_wp sc d 133 33 ls st h Q := by
  refine ⟨1, some (.double 0), cm_mk h 19 6, ?_, k⟩
  have hst : cm_st sc 133 (.new ix) 33 3 ls st h = none := by
    show (match cm_cC (cm_M 133).2.1 ix with | some ci => _ | none => _) = _
    rw [hn]
  have ht : cm_thr 133 33 d st = true := by simp [cm_thr, h8, hw]
  unfold cm_ex
  simp only [hd, cm_lk, cm_isr, cm_cx, hst, ht, if_true, beq_self_eq_true, Bool.true_eq_false, Bool.false_eq_true, if_false]
/-- the law's own call of worth, caught -/
def cm_c13 (sc : cmS) (d : Nat) (as : List Value) (o : Nat) (h : cmH) (K0 : Int32 → cmH → Prop) (K1 : cmH → Prop) : Prop := cm_wp sc d 133 0 (cm_en 133 as) [] h fun v h' => (∃ w, v = some (.int w) ∧ cm_ok h' 14 o 0 ∧ K0 w h') ∨ (v = some (.double 0) ∧ K1 h')
theorem wl_13 {sc : cmS} {d M pc ix M' k o x : Nat} {p0 p1 p2 p3 p4 p5 p6 p7 : Int32} {r : List Value} {ls : cmL} {h : cmH} {Q : Option Value → cmH → Prop} (hd : decode (cm_M M).2.2.1 pc = .ok (.invokestatic ix, 3)) (hm : cm_cM (cm_M M).2.1 ix = some (M', 13, k)) (hw : cm_wd r ≤ 8) (hg : cm_kd h x = 10 ∧ x < cm_n h) (kk : cm_c13 sc d [.ref x, .int p0, .int p1, .int p2, .int p3, .int p4, .int p5, .int p6, .int p7] o h (fun w h' => cm_wp sc (d + 2) M (pc + 3) ls (.int 0 :: r) (cm_setJ h' o 0 w.toInt64) Q) (fun h' => cm_wp sc (d + 2) M (pc + 3) ls (.int 1 :: r) h' Q)) : cm_wp sc (d + 2) M pc ls (.ref o :: .int p7 :: .int p6 :: .int p5 :: .int p4 :: .int p3 :: .int p2 :: .int p1 :: .int p0 :: .ref x :: r) h Q := by
  have hw13 : cm_w13 (.ref o :: .int p7 :: .int p6 :: .int p5 :: .int p4 :: .int p3 :: .int p2 :: .int p1 :: .int p0 :: .ref x :: r) = some ([.ref x, .int p0, .int p1, .int p2, .int p3, .int p4, .int p5, .int p6, .int p7], x, o, r) := if_pos hw
  obtain ⟨f, v, h1, a, b⟩ := kk
  rcases b with ⟨w, rfl, hok, f2, v2, h2, a2, b2⟩ | ⟨rfl, f2, v2, h2, a2, b2⟩
  · refine ⟨f + f2 + 1, v2, h2, ?_, b2⟩
    unfold cm_ex
    simp only [hd, cm_lk, cm_isr, cm_cx, hm, hw13, hg, beq_self_eq_true, Bool.true_eq_false, Bool.false_eq_true, if_false, if_true, true_and, and_self]
    rw [cm_fuelN f2 a]
    simp only [if_pos hok]
    have := cm_fuelN f a2
    rw [Nat.add_comm f2 f] at this
    exact this
  · refine ⟨f + f2 + 1, v2, h2, ?_, b2⟩
    unfold cm_ex
    simp only [hd, cm_lk, cm_isr, cm_cx, hm, hw13, hg, beq_self_eq_true, Bool.true_eq_false, Bool.false_eq_true, if_false, if_true, true_and, and_self]
    rw [cm_fuelN f2 a]
    have := cm_fuelN f a2
    rw [Nat.add_comm f2 f] at this
    exact this
