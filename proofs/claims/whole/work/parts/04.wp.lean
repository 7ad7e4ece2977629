/-! ===== what a run comes to: cm_wp, and a row an instruction ===== -/
def cm_wp (sc : cmS) (d M pc : Nat) (ls : cmL) (st : List Value) (h : cmH) (Q : Option Value → cmH → Prop) : Prop := ∃ f v h', cm_ex sc f d M pc ls st h = some (v, h') ∧ Q v h'
theorem cm_fuel {sc : cmS} : ∀ (f d M pc : Nat) (ls : cmL) (st : List Value) (h : cmH) (r : Option Value × cmH), cm_ex sc f d M pc ls st h = some r → cm_ex sc (f + 1) d M pc ls st h = some r := by
  intro f
  induction f with
  | zero => intro d M pc ls st h r q; cases q
  | succ f ih =>
    intro d M pc ls st h r q
    unfold cm_ex at q ⊢
    split at q
    · cases q
    · split at q
      · cases q
      · rename_i hlk
        simp only [hlk, if_false]
        split at q
        · rename_i hr
          simp only [hr, if_true]
          exact q
        · rename_i hr
          simp only [hr, if_false]
          split at q
          · cases d with
            | zero => cases q
            | succ d =>
              dsimp only at q ⊢
              split at q
              · cases q
              · split at q
                · rename_i hk
                  simp only [hk, if_true]
                  cases d with
                  | zero => cases q
                  | succ d1 =>
                    cases hw : cm_w13 st with
                    | none => rw [hw] at q; cases q
                    | some y =>
                      obtain ⟨as, x, o, r⟩ := y
                      rw [hw] at q
                      dsimp only at q ⊢
                      split at q
                      · rename_i hg
                        simp only [hg, and_self, if_true]
                        split at q
                        · rename_i hc
                          rw [ih _ _ _ _ _ _ _ hc]
                          dsimp only
                          split at q
                          · rename_i ho
                            rw [if_pos ho]
                            exact ih _ _ _ _ _ _ _ q
                          · cases q
                        · rename_i hc
                          rw [ih _ _ _ _ _ _ _ hc]
                          exact ih _ _ _ _ _ _ _ q
                        · cases q
                      · cases q
                · rename_i hk
                  simp only [hk, if_false]
                  split at q
                  · rename_i hk6
                    simp only [hk6, if_true]
                    split at q
                    · rename_i hg
                      simp only [hg, if_true]
                      split at q
                      · exact ih _ _ _ _ _ _ _ q
                      · cases q
                    · cases q
                  · rename_i hk6
                    simp only [hk6, if_false]
                    split at q
                    · cases q
                    · split at q
                      · cases q
                      · rename_i hc
                        split at q
                        · cases q
                        · rename_i hx
                          rw [ih _ _ _ _ _ _ _ hc]
                          simp only [hx, if_false]
                          exact ih _ _ _ _ _ _ _ q
          · split at q
            · exact q
            · exact ih _ _ _ _ _ _ _ q
theorem cm_fuelN {sc : cmS} {f d M pc : Nat} {ls : cmL} {st : List Value} {h : cmH} {r : Option Value × cmH} (k : Nat) (q : cm_ex sc f d M pc ls st h = some r) : cm_ex sc (f + k) d M pc ls st h = some r := by
  induction k with
  | zero => exact q
  | succ k ih => exact cm_fuel _ _ _ _ _ _ _ _ ih
section WL
variable {sc : cmS} {d M pc n : Nat} {ls : cmL} {st : List Value} {h : cmH} {Q : Option Value → cmH → Prop} {i : Instr}
theorem cm_wp.mono {Q' : Option Value → cmH → Prop} (w : cm_wp sc d M pc ls st h Q) (q : ∀ v h', Q v h' → Q' v h') : cm_wp sc d M pc ls st h Q' := by
  obtain ⟨f, v, h', a, b⟩ := w
  exact ⟨f, v, h', a, q v h' b⟩
theorem wl_st {pc' : Nat} {ls' : cmL} {st' : List Value} {h' : cmH} (hd : decode (cm_M M).2.2.1 pc = .ok (i, n)) (hlk : cm_lk i n = true) (hr : cm_isr i = false) (hc : cm_cx i = none) (hst : cm_st sc M i pc n ls st h = some (pc', ls', st', h')) (k : cm_wp sc d M pc' ls' st' h' Q) : cm_wp sc d M pc ls st h Q := by
  obtain ⟨f, v, h1, a, b⟩ := k
  refine ⟨f + 1, v, h1, ?_, b⟩
  unfold cm_ex
  simp only [hd, hlk, hr, hc, hst, Bool.true_eq_false, Bool.false_eq_true, if_false]
  exact a
theorem wl_rt {v : Option Value} (hd : decode (cm_M M).2.2.1 pc = .ok (i, n)) (hlk : cm_lk i n = true) (hr : cm_isr i = true) (hst : cm_rt M i st = some v) (k : Q v h) : cm_wp sc d M pc ls st h Q := by
  refine ⟨1, v, h, ?_, k⟩
  unfold cm_ex
  simp only [hd, hlk, hr, hst, Bool.true_eq_false, if_false, if_true, Option.map_some]
theorem wl_pr {g ix M' kind k : Nat} {st' : List Value} {h' : cmH} (hd : decode (cm_M M).2.2.1 pc = .ok (i, n)) (hlk : cm_lk i n = true) (hr : cm_isr i = false) (hc : cm_cx i = some (g, ix)) (hm : cm_cM (cm_M M).2.1 ix = some (M', kind, k)) (hk : 6 ≤ kind) (hg : cm_gk g kind d = true) (hp : cm_pr kind st h = some (st', h')) (kk : cm_wp sc (d + 1) M (pc + 3) ls st' h' Q) : cm_wp sc (d + 1) M pc ls st h Q := by
  have h13 : ¬ kind = 13 := fun q => by subst q; simp [cm_gk] at hg
  obtain ⟨f, v, h1, a, b⟩ := kk
  refine ⟨f + 1, v, h1, ?_, b⟩
  unfold cm_ex
  simp only [hd, hlk, hr, hc, hm, h13, hk, hg, hp, Bool.true_eq_false, Bool.false_eq_true, if_false, if_true]
  exact a
theorem wl_ca {g ix M' kind k : Nat} {as r : List Value} (hd : decode (cm_M M).2.2.1 pc = .ok (i, n)) (hlk : cm_lk i n = true) (hr : cm_isr i = false) (hc : cm_cx i = some (g, ix)) (hm : cm_cM (cm_M M).2.1 ix = some (M', kind, k)) (hk : ¬ 6 ≤ kind) (hp : cm_ca g kind M' k st h = some (as, r)) (h13 : ¬ kind = 13) (kk : cm_wp sc d M' 0 (cm_en M' as) [] h fun v h' => cm_isX v = false ∧ cm_wp sc (d + 1) M (pc + 3) ls (v.toList ++ r) h' Q) : cm_wp sc (d + 1) M pc ls st h Q := by
  obtain ⟨f, v, h1, a, hxv, f2, v2, h2, a2, b⟩ := kk
  refine ⟨f + f2 + 1, v2, h2, ?_, b⟩
  unfold cm_ex
  simp only [hd, hlk, hr, hc, hm, hk, h13, hp, Bool.true_eq_false, Bool.false_eq_true, if_false]
  rw [cm_fuelN f2 a]
  simp only [hxv, Bool.false_eq_true, if_false]
  have := cm_fuelN f a2
  rw [Nat.add_comm f2 f] at this
  exact this
/-- a call and what comes of it, by the type of its answer -/
def cm_ci (sc : cmS) (d M : Nat) (as : List Value) (h : cmH) (K : Int32 → cmH → Prop) : Prop := cm_wp sc d M 0 (cm_en M as) [] h fun v h' => ∃ x, v = some (.int x) ∧ K x h'
def cm_cj' (sc : cmS) (d M : Nat) (as : List Value) (h : cmH) (K : Int64 → cmH → Prop) : Prop := cm_wp sc d M 0 (cm_en M as) [] h fun v h' => ∃ x, v = some (.long x) ∧ K x h'
def cm_cq (sc : cmS) (d M : Nat) (as : List Value) (h : cmH) (K : Option Nat → cmH → Prop) : Prop := cm_wp sc d M 0 (cm_en M as) [] h fun v h' => ∃ o, v = some (va_rf o) ∧ K o h'
def cm_cv (sc : cmS) (d M : Nat) (as : List Value) (h : cmH) (K : cmH → Prop) : Prop := cm_wp sc d M 0 (cm_en M as) [] h fun v h' => v = none ∧ K h'
theorem wl_ci {g ix M' kind k : Nat} {as r : List Value} (hd : decode (cm_M M).2.2.1 pc = .ok (i, n)) (hlk : cm_lk i n = true) (hr : cm_isr i = false) (hc : cm_cx i = some (g, ix)) (hm : cm_cM (cm_M M).2.1 ix = some (M', kind, k)) (hk : ¬ 6 ≤ kind) (hp : cm_ca g kind M' k st h = some (as, r)) (kk : cm_ci sc d M' as h fun x h' => cm_wp sc (d + 1) M (pc + 3) ls (.int x :: r) h' Q) : cm_wp sc (d + 1) M pc ls st h Q :=
  wl_ca hd hlk hr hc hm hk hp (by omega) (cm_wp.mono kk fun v h' q => by obtain ⟨x, rfl, q⟩ := q; exact ⟨by first | rfl | (cases x <;> rfl), q⟩)
theorem wl_cj {g ix M' kind k : Nat} {as r : List Value} (hd : decode (cm_M M).2.2.1 pc = .ok (i, n)) (hlk : cm_lk i n = true) (hr : cm_isr i = false) (hc : cm_cx i = some (g, ix)) (hm : cm_cM (cm_M M).2.1 ix = some (M', kind, k)) (hk : ¬ 6 ≤ kind) (hp : cm_ca g kind M' k st h = some (as, r)) (kk : cm_cj' sc d M' as h fun x h' => cm_wp sc (d + 1) M (pc + 3) ls (.long x :: r) h' Q) : cm_wp sc (d + 1) M pc ls st h Q :=
  wl_ca hd hlk hr hc hm hk hp (by omega) (cm_wp.mono kk fun v h' q => by obtain ⟨x, rfl, q⟩ := q; exact ⟨by first | rfl | (cases x <;> rfl), q⟩)
theorem wl_cq {g ix M' kind k : Nat} {as r : List Value} (hd : decode (cm_M M).2.2.1 pc = .ok (i, n)) (hlk : cm_lk i n = true) (hr : cm_isr i = false) (hc : cm_cx i = some (g, ix)) (hm : cm_cM (cm_M M).2.1 ix = some (M', kind, k)) (hk : ¬ 6 ≤ kind) (hp : cm_ca g kind M' k st h = some (as, r)) (kk : cm_cq sc d M' as h fun x h' => cm_wp sc (d + 1) M (pc + 3) ls (va_rf x :: r) h' Q) : cm_wp sc (d + 1) M pc ls st h Q :=
  wl_ca hd hlk hr hc hm hk hp (by omega) (cm_wp.mono kk fun v h' q => by obtain ⟨x, rfl, q⟩ := q; exact ⟨by first | rfl | (cases x <;> rfl), q⟩)
theorem wl_cv {g ix M' kind k : Nat} {as r : List Value} (hd : decode (cm_M M).2.2.1 pc = .ok (i, n)) (hlk : cm_lk i n = true) (hr : cm_isr i = false) (hc : cm_cx i = some (g, ix)) (hm : cm_cM (cm_M M).2.1 ix = some (M', kind, k)) (hk : ¬ 6 ≤ kind) (hp : cm_ca g kind M' k st h = some (as, r)) (kk : cm_cv sc d M' as h fun h' => cm_wp sc (d + 1) M (pc + 3) ls r h' Q) : cm_wp sc (d + 1) M pc ls st h Q :=
  wl_ca hd hlk hr hc hm hk hp (by omega) (cm_wp.mono kk fun v h' q => by obtain ⟨rfl, q⟩ := q; exact ⟨rfl, q⟩)
/-- the arguments fit -/
theorem ca_s {kind M' k : Nat} {as r : List Value} (hk : kind = 2 ∨ kind = 3) (ht : cm_tk k [] st = some (as, r)) (hw : cm_wd r ≤ 8) (hl : (cm_lay as).length ≤ (cm_M M').2.2.2.1) : cm_ca 1 kind M' k st h = some (as, r) := by
  unfold cm_ca
  rw [if_pos ⟨rfl, hk⟩, ht]
  simp only [hw, hl, and_self, if_true]
theorem ca_v {kind M' k a : Nat} {as r : List Value} (hk : kind = 0 ∨ kind = 1) (ht : cm_tk k [] st = some (as, .ref a :: r)) (hw : cm_wd r ≤ 8) (hl : (cm_lay (.ref a :: as)).length ≤ (cm_M M').2.2.2.1) (hn : a < cm_n h) (hkd : cm_kd h a = (cm_M M').2.1) (h12 : (cm_M M').2.1 < 12) : cm_ca 0 kind M' k st h = some (.ref a :: as, r) := by
  unfold cm_ca
  rw [if_neg (by omega), if_pos (Or.inl ⟨rfl, hk⟩), ht]
  simp only [hw, hl, hn, hkd, h12, true_or, and_self, if_true]
theorem ca_i {kind M' k a : Nat} {as r : List Value} (hk : kind = 4 ∨ kind = 5) (ht : cm_tk k [] st = some (as, .ref a :: r)) (hw : cm_wd r ≤ 8) (hl : (cm_lay (.ref a :: as)).length ≤ (cm_M M').2.2.2.1) (hn : a < cm_n h) (hkd : cm_kd h a = (cm_M M').2.1) (h12 : (cm_M M').2.1 < 12) (hret : (cm_M M').2.2.2.2 = none) : cm_ca 2 kind M' k st h = some (.ref a :: as, r) := by
  unfold cm_ca
  rw [if_neg (by omega), if_pos (Or.inr ⟨rfl, hk⟩), ht]
  simp only [hw, hl, hn, hkd, h12, hret, or_true, and_self, if_true]
/-- branches -/
theorem wl_cb {b : Prop} [Decidable b] {off : Int} {tgt pc3 : Nat} {st' : List Value} (hd : decode (cm_M M).2.2.1 pc = .ok (i, n)) (hlk : cm_lk i n = true) (hr : cm_isr i = false) (hc : cm_cx i = none) (hst : cm_st sc M i pc n ls st h = cm_cb b pc off ls st' h) (ht : (pc : Int) + off = (tgt : Int)) (h3 : pc + 3 = pc3) (kt : b → cm_wp sc d M tgt ls st' h Q) (kf : ¬ b → cm_wp sc d M pc3 ls st' h Q) : cm_wp sc d M pc ls st h Q := by
  subst h3
  unfold cm_cb at hst
  rw [if_pos (by omega), ht] at hst
  by_cases hb : b
  · rw [if_pos hb] at hst
    exact wl_st hd hlk hr hc hst (kt hb)
  · rw [if_neg hb] at hst
    exact wl_st hd hlk hr hc hst (kf hb)
theorem wl_go {off : Int} {tgt : Nat} (hd : decode (cm_M M).2.2.1 pc = .ok (.goto off, 3)) (ht : (pc : Int) + off = (tgt : Int)) (k : cm_wp sc d M tgt ls st h Q) : cm_wp sc d M pc ls st h Q := by
  refine wl_st (pc' := tgt) (ls' := ls) (st' := st) (h' := h) hd rfl rfl rfl ?_ k
  show cm_br pc off ls st h = _
  unfold cm_br
  rw [if_pos (by omega), ht]
  rfl
theorem wl_nu {off : Int} {tgt pc3 : Nat} {o : Option Nat} (hd : decode (cm_M M).2.2.1 pc = .ok (.ifnull off, 3)) (ht : (pc : Int) + off = (tgt : Int)) (h3 : pc + 3 = pc3) (kn : o = none → cm_wp sc d M tgt ls st h Q) (kr : ∀ a, o = some a → cm_wp sc d M pc3 ls st h Q) : cm_wp sc d M pc ls (va_rf o :: st) h Q := by
  subst h3
  cases o with
  | none =>
    refine wl_st (pc' := tgt) (ls' := ls) (st' := st) (h' := h) hd rfl rfl rfl ?_ (kn rfl)
    show cm_br pc off ls st h = _
    unfold cm_br
    rw [if_pos (by omega), ht]
    rfl
  | some a => exact wl_st hd rfl rfl rfl rfl (kr a rfl)
theorem wl_nn {off : Int} {tgt pc3 : Nat} {o : Option Nat} (hd : decode (cm_M M).2.2.1 pc = .ok (.ifnonnull off, 3)) (ht : (pc : Int) + off = (tgt : Int)) (h3 : pc + 3 = pc3) (kr : ∀ a, o = some a → cm_wp sc d M tgt ls st h Q) (kn : o = none → cm_wp sc d M pc3 ls st h Q) : cm_wp sc d M pc ls (va_rf o :: st) h Q := by
  subst h3
  cases o with
  | some a =>
    refine wl_st (pc' := tgt) (ls' := ls) (st' := st) (h' := h) hd rfl rfl rfl ?_ (kr a rfl)
    show cm_br pc off ls st h = _
    unfold cm_br
    rw [if_pos (by omega), ht]
    rfl
  | none => exact wl_st hd rfl rfl rfl rfl (kn rfl)
theorem wl_ts {dflt lo hi : Int} {offs : Array Int} {len : Nat} {x : Int32} (hd : decode (cm_M M).2.2.1 pc = .ok (.tableswitch dflt lo hi offs, len)) (k : ∀ tgt : Nat, (x.toInt < lo ∨ hi < x.toInt) ∧ (pc : Int) + dflt = (tgt : Int) ∨ (lo ≤ x.toInt ∧ x.toInt ≤ hi ∧ ∃ off, offs[(x.toInt - lo).toNat]? = some off ∧ (pc : Int) + off = (tgt : Int)) → cm_wp sc d M tgt ls st h Q) (hok : ∃ tgt : Nat, (x.toInt < lo ∨ hi < x.toInt) ∧ (pc : Int) + dflt = (tgt : Int) ∨ (lo ≤ x.toInt ∧ x.toInt ≤ hi ∧ ∃ off, offs[(x.toInt - lo).toNat]? = some off ∧ (pc : Int) + off = (tgt : Int))) : cm_wp sc d M pc ls (.int x :: st) h Q := by
  obtain ⟨tgt, ht⟩ := hok
  refine wl_st (pc' := tgt) (ls' := ls) (st' := st) (h' := h) hd rfl rfl rfl ?_ (k tgt ht)
  show (if x.toInt < lo ∨ hi < x.toInt then cm_br pc dflt ls st h else _) = _
  rcases ht with ⟨h1, h2⟩ | ⟨h1, h2, off, h3, h4⟩
  · rw [if_pos h1]
    unfold cm_br
    rw [if_pos (by omega), h2]
    rfl
  · rw [if_neg (by omega)]
    simp only [h3]
    unfold cm_br
    rw [if_pos (by omega), h4]
    rfl
/-- fields -/
theorem wl_gf {ix ci k a : Nat} {nest : Bool} {v : Value} (hd : decode (cm_M M).2.2.1 pc = .ok (.getfield ix, 3)) (hf : cm_fld (cm_M M).2.1 ix = some (ci, k, nest)) (hg : cm_kd h a = ci ∧ a < cm_n h) (hv : cm_gv h (cm_ty ci k) a k = v) (kk : cm_wp sc d M (pc + 3) ls (v :: st) h Q) : cm_wp sc d M pc ls (.ref a :: st) h Q := by
  refine wl_st (pc' := pc + 3) (ls' := ls) (st' := v :: st) (h' := h) hd rfl rfl rfl ?_ kk
  show (match cm_fld (cm_M M).2.1 ix with | some (ci, k, _) => _ | none => _) = _
  rw [hf]
  show (if cm_kd h a = ci ∧ a < cm_n h then _ else _) = _
  rw [if_pos hg, hv]
theorem wl_pf {ix ci k a : Nat} {nest : Bool} {v : Value} {h' : cmH} (hd : decode (cm_M M).2.2.1 pc = .ok (.putfield ix, 3)) (hf : cm_fld (cm_M M).2.1 ix = some (ci, k, nest)) (hg : cm_kd h a = ci ∧ a < cm_n h) (hfin : (cm_T ci k).2.2.2 = false ∨ ((cm_M M).1.name = "<init>" ∧ (cm_M M).2.1 = ci ∧ nest = false)) (hv : cm_pv h (cm_ty ci k) a k v = some h') (kk : cm_wp sc d M (pc + 3) ls st h' Q) : cm_wp sc d M pc ls (v :: .ref a :: st) h Q := by
  refine wl_st (pc' := pc + 3) (ls' := ls) (st' := st) (h' := h') hd rfl rfl rfl ?_ kk
  show (match cm_fld (cm_M M).2.1 ix with | some (ci, k, nest) => _ | none => _) = _
  rw [hf]
  show (if cm_kd h a = ci ∧ a < cm_n h ∧ ((cm_T ci k).2.2.2 = false ∨ ((cm_M M).1.name = "<init>" ∧ (cm_M M).2.1 = ci ∧ nest = false)) then _ else _) = _
  rw [if_pos ⟨hg.1, hg.2, hfin⟩, hv]
/-- guards -/
theorem wl_if {g : Prop} [Decidable g] {pc' : Nat} {ls' : cmL} {st' : List Value} {h' : cmH} (hd : decode (cm_M M).2.2.1 pc = .ok (i, n)) (hlk : cm_lk i n = true) (hr : cm_isr i = false) (hc : cm_cx i = none) (hst : cm_st sc M i pc n ls st h = if g then some (pc', ls', st', h') else none) (hg : g) (k : cm_wp sc d M pc' ls' st' h' Q) : cm_wp sc d M pc ls st h Q :=
  wl_st hd hlk hr hc (hst.trans (if_pos hg)) k
theorem wl_ne {g : Prop} [Decidable g] {pc' : Nat} {ls' : cmL} {st' : List Value} {h' : cmH} (hd : decode (cm_M M).2.2.1 pc = .ok (i, n)) (hlk : cm_lk i n = true) (hr : cm_isr i = false) (hc : cm_cx i = none) (hst : cm_st sc M i pc n ls st h = if g then none else some (pc', ls', st', h')) (hg : ¬ g) (k : cm_wp sc d M pc' ls' st' h' Q) : cm_wp sc d M pc ls st h Q :=
  wl_st hd hlk hr hc (hst.trans (if_neg hg)) k
theorem wl_nw {ix ci : Nat} (hd : decode (cm_M M).2.2.1 pc = .ok (.new ix, 3)) (hc : cm_cC (cm_M M).2.1 ix = some ci) (k : cm_wp sc d M (pc + 3) ls (.ref (cm_n h) :: st) (cm_mk h ci (cm_N ci)) Q) : cm_wp sc d M pc ls st h Q := by
  refine wl_st (pc' := pc + 3) (ls' := ls) (st' := .ref (cm_n h) :: st) (h' := cm_mk h ci (cm_N ci)) hd rfl rfl rfl ?_ k
  show (match cm_cC (cm_M M).2.1 ix with | some ci => _ | none => _) = _
  rw [hc]
theorem wl_an {ix ci kd : Nat} {x : Int32} (hd : decode (cm_M M).2.2.1 pc = .ok (.anewarray ix, 3)) (hc : cm_cC (cm_M M).2.1 ix = some ci) (hk : ci = 1 ∧ kd = 16 ∨ ci = 3 ∧ kd = 17 ∨ ci = 9 ∧ kd = 18) (hx : ¬ x < 0 ∧ x.toNatClampNeg ≤ 60000000) (k : cm_wp sc d M (pc + 3) ls (.ref (cm_n h) :: st) (cm_mk h kd x.toNatClampNeg) Q) : cm_wp sc d M pc ls (.int x :: st) h Q := by
  refine wl_st (pc' := pc + 3) (ls' := ls) (st' := .ref (cm_n h) :: st) (h' := cm_mk h kd x.toNatClampNeg) hd rfl rfl rfl ?_ k
  show (if ¬ x < 0 ∧ x.toNatClampNeg ≤ 60000000 then _ else _) = _
  rw [if_pos hx, hc]
  rcases hk with ⟨rfl, rfl⟩ | ⟨rfl, rfl⟩ | ⟨rfl, rfl⟩ <;> rfl
theorem wl_cI {ix : Nat} {v : Int32} (hd : decode (cm_M M).2.2.1 pc = .ok (.ldc ix, 2)) (hc : cm_cI (cm_M M).2.1 ix = some v) (k : cm_wp sc d M (pc + 2) ls (.int v :: st) h Q) : cm_wp sc d M pc ls st h Q := by
  refine wl_st (pc' := pc + 2) (ls' := ls) (st' := .int v :: st) (h' := h) hd rfl rfl rfl ?_ k
  show (match cm_cI (cm_M M).2.1 ix with | some v => _ | none => _) = _
  rw [hc]
theorem wl_cIw {ix : Nat} {v : Int32} (hd : decode (cm_M M).2.2.1 pc = .ok (.ldc_w ix, 3)) (hc : cm_cI (cm_M M).2.1 ix = some v) (k : cm_wp sc d M (pc + 3) ls (.int v :: st) h Q) : cm_wp sc d M pc ls st h Q := by
  refine wl_st (pc' := pc + 3) (ls' := ls) (st' := .int v :: st) (h' := h) hd rfl rfl rfl ?_ k
  show (match cm_cI (cm_M M).2.1 ix with | some v => _ | none => _) = _
  rw [hc]
theorem wl_cJ {ix : Nat} {v : Int64} (hd : decode (cm_M M).2.2.1 pc = .ok (.ldc2_w ix, 3)) (hc : cm_cJ (cm_M M).2.1 ix = some v) (k : cm_wp sc d M (pc + 3) ls (.long v :: st) h Q) : cm_wp sc d M pc ls st h Q := by
  refine wl_st (pc' := pc + 3) (ls' := ls) (st' := .long v :: st) (h' := h) hd rfl rfl rfl ?_ k
  show (match cm_cJ (cm_M M).2.1 ix with | some v => _ | none => _) = _
  rw [hc]
theorem wl_al {k : Nat} {o : Option Nat} (hd : decode (cm_M M).2.2.1 pc = .ok (i, n)) (hi : i = .aload k ∧ n = 2 ∨ (∃ f : Fin 4, i = .aload_n f ∧ (f : Nat) = k) ∧ n = 1) (hl : cm_lg ls k = some (va_rf o)) (kk : cm_wp sc d M (pc + n) ls (va_rf o :: st) h Q) : cm_wp sc d M pc ls st h Q := by
  rcases hi with ⟨rfl, rfl⟩ | ⟨⟨f, rfl, rfl⟩, rfl⟩
  · refine wl_st (pc' := pc + 2) (ls' := ls) (st' := va_rf o :: st) (h' := h) hd rfl rfl rfl ?_ kk
    simp only [cm_st, hl]
    cases o <;> rfl
  · refine wl_st (pc' := pc + 1) (ls' := ls) (st' := va_rf o :: st) (h' := h) hd rfl rfl rfl ?_ kk
    simp only [cm_st, hl]
    cases o <;> rfl
theorem wl_as {k : Nat} {o : Option Nat} {ls' : cmL} (hd : decode (cm_M M).2.2.1 pc = .ok (i, n)) (hi : i = .astore k ∧ n = 2 ∨ (∃ f : Fin 4, i = .astore_n f ∧ (f : Nat) = k) ∧ n = 1) (hl : k < ls.length) (hl' : cm_ls1 ls k (va_rf o) = ls') (kk : cm_wp sc d M (pc + n) ls' st h Q) : cm_wp sc d M pc ls (va_rf o :: st) h Q := by
  subst hl'
  rcases hi with ⟨rfl, rfl⟩ | ⟨⟨f, rfl, rfl⟩, rfl⟩
  · refine wl_st (pc' := pc + 2) (ls' := cm_ls1 ls k (va_rf o)) (st' := st) (h' := h) hd rfl rfl rfl ?_ kk
    cases o <;> (show (if k < ls.length then _ else _) = _; rw [if_pos hl]; rfl)
  · refine wl_st (pc' := pc + 1) (ls' := cm_ls1 ls f (va_rf o)) (st' := st) (h' := h) hd rfl rfl rfl ?_ kk
    cases o <;> (show (if (f : Nat) < ls.length then _ else _) = _; rw [if_pos hl]; rfl)
theorem wl_ald {a : Nat} {x : Int32} (hd : decode (cm_M M).2.2.1 pc = .ok (.aaload, 1)) (hg : cm_ok h (cm_kd h a) a x ∧ 16 ≤ cm_kd h a ∧ cm_kd h a ≤ 18) (k : cm_wp sc d M (pc + 1) ls (va_rf (cm_R h a x.toNatClampNeg) :: st) h Q) : cm_wp sc d M pc ls (.int x :: .ref a :: st) h Q := by
  refine wl_st (pc' := pc + 1) (ls' := ls) (st' := va_rf (cm_R h a x.toNatClampNeg) :: st) (h' := h) hd rfl rfl rfl ?_ k
  show (if cm_ok h (cm_kd h a) a x ∧ 16 ≤ cm_kd h a ∧ cm_kd h a ≤ 18 then _ else _) = _
  rw [if_pos hg]
end WL
