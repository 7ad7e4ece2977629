/-! ===== the run, second half: calls ===== -/
theorem cm_wObj1 : Cond.instanceMethod objectInit ∈ cm_G := cm_G_of (by decide +kernel) rfl
theorem cm_wObj2 : Cond.code objectInit ⟨#[0xb1]⟩ 1 none ∈ cm_G := cm_G_of (by decide +kernel) rfl
theorem cm_wMat : Cond.initialized "java/lang/Math" ∈ cm_G := cm_G_of (by decide +kernel) rfl
theorem cm_wMx1 : Cond.static Lib.Math.max.name ∈ cm_G := cm_G_of (by decide +kernel) rfl
theorem cm_wMx2 : Cond.code Lib.Math.max.name Lib.Math.max.code 2 (some .int) ∈ cm_G := cm_G_of (by decide +kernel) rfl
theorem cm_wMn1 : Cond.static Lib.Math.min.name ∈ cm_G := cm_G_of (by decide +kernel) rfl
theorem cm_wMn2 : Cond.code Lib.Math.min.name Lib.Math.min.code 2 (some .int) ∈ cm_G := cm_G_of (by decide +kernel) rfl
theorem cm_wLx1 : Cond.static Lib.MathLoose.max_long.x ∈ cm_G := cm_G_of (by decide +kernel) rfl
theorem cm_wLx2 : Cond.code Lib.MathLoose.max_long.x Lib.MathLoose.max_long.code 4 (some .long) ∈ cm_G := cm_G_of (by decide +kernel) rfl
theorem cm_wLn1 : Cond.static Lib.MathLoose.min_long.x ∈ cm_G := cm_G_of (by decide +kernel) rfl
theorem cm_wLn2 : Cond.code Lib.MathLoose.min_long.x Lib.MathLoose.min_long.code 4 (some .long) ∈ cm_G := cm_G_of (by decide +kernel) rfl
theorem cm_wAc1 : Cond.native arraycopyName ∈ cm_G := cm_G_of (by decide +kernel) rfl
theorem cm_wAc2 : Cond.static arraycopyName ∈ cm_G := cm_G_of (by decide +kernel) rfl
theorem cm_wSys : Cond.initialized "java/lang/System" ∈ cm_G := cm_G_of (by decide +kernel) rfl
theorem cm_tk_spec : ∀ (k : Nat) (acc st as r : List Value), cm_tk k acc st = some (as, r) → ∃ pre, st = pre ++ r ∧ as = pre.reverse ++ acc ∧ pre.length = k := by
  intro k
  induction k with
  | zero =>
    intro acc st as r h
    cases h
    exact ⟨[], rfl, rfl, rfl⟩
  | succ k ih =>
    intro acc st as r h
    cases st with
    | nil => cases h
    | cons v st =>
      obtain ⟨pre, h1, h2, h3⟩ := ih (v :: acc) st as r h
      exact ⟨v :: pre, by rw [h1]; rfl, by rw [h2]; simp, by simp [h3]⟩
section CMD
variable {p : Program} {l : Launch} {e : Env} {R : Room} {s : State} {m : MethodId} {args : Array Value} {below : List Frame} {meth : Method} {c : Code} {H : Heap} {locs : List Loc} {cells slots : Nat} {Q : State → Prop}
variable {M base : Nat} {D : va_G} {aC : Nat → ClassId} {ex : Nat → Nat} {sc : cmS} {h h' : cmH} {pc : Nat} {ls : Array Slot} {rest : List Value}
theorem cm_callM (F : cm_fix p s m args meth c M base D aC ex sc) (hrel : cm_rel base D aC h H) (hS : va_S (fun q => base ≤ q) s.heap H locs) (hz : H.size = base + cm_n h) {cl : cmL} (hl : cm_lr base ex ls cl (cm_M M).2.2.2.1) {M' kind k g ix n mc ms : Nat} {i : Instr} {st as r : List Value} {v : Option Value} {rm : Room}
    (hM : Met l (cm_M M').1 (cm_wsM M') rm (cm_pre base D aC ex sc as h) (cm_post base D aC ex v h') mc ms (fun q => base ≤ q)) (hrc : rm.cells = mc) (hrs : rm.slots = ms) (hfr : rm.frames + 1 ≤ R.frames) (hlc : 30 + rm.locals ≤ R.locals) (hcM : cm_cM (cm_M M).2.1 ix = some (M', kind, k)) (hk6 : ¬ 6 ≤ kind) (hca : cm_ca g kind M' k st h = some (as, r)) (hi : cm_cx i = some (g, ix)) (hd : decode (cm_M M).2.2.1 pc = .ok (i, n)) (hlk : cm_lk i n = true) (hf : cells + mc ≤ R.cells ∧ slots + ms ≤ R.slots) :
    va_Run p l e R s m args below meth c H locs cells slots mc ms (F0 m pc ls (st.map (cm_tr base ex))) (r.map (cm_tr base ex)) (cm_post base D aC ex v h' ((as.map (cm_tr base ex)).toArray)) (fun q => base ≤ q) := by
  obtain ⟨hx, hb, hml, hr, hown, hts, hlo, hnm, henv, hbs, hsc⟩ := id F
  obtain ⟨c1, c2, c3, c4, c5, c6, c7, c8, -⟩ := cm_cM_spec hcM
  have c2' := c2.resolve_right hk6
  obtain ⟨m1, m2, m3, m4, m5⟩ := cm_M1 c1
  obtain ⟨m6, m7⟩ := cm_M2 c1
  have hfix : CallFix p m c (cm_M M).2.2.1 (cm_M M).2.2.2.1 s args cm_G (cm_ownN (cm_M M).2.1) := ⟨hx, hb, hml, hown, hts⟩
  have hbsz : ∀ U : State, U.heap = H → s.WarmedH U.vm → cm_rel base D aC h U.heap ∧ cm_env D aC ex U ∧ cm_scr base ex sc U U.heap ∧ U.heap.size = base + cm_n h := fun U hU hW => by
    subst hU
    exact ⟨hrel, henv.warm hW, hsc.keep hW.alike (fun q hq => hS.2.1 q (Nat.lt_of_lt_of_le hq hbs) (Nat.not_le.mpr hq)) (Nat.le_trans hbs hS.1), hz⟩
  have hR2 : rm.frames + 1 ≤ R.frames ∧ 8 + ((cm_M M').2.2.2.1 + 11) + rm.locals ≤ R.locals := ⟨hfr, by omega⟩
  have hdd : (cm_M M').1.cls ≠ "java/lang/invoke/MethodHandle" ∧ (cm_M M').1.cls ≠ "java/lang/invoke/VarHandle" ∧ (parseMethodDescriptor (cm_M M').1.desc).map (fun d => d.parameters.length) = some k := ⟨m4, m5, c2'⟩
  unfold cm_ca at hca
  split at hca
  · rename_i hg
    split at hca
    · rename_i as' r' htk
      obtain ⟨⟨w1, w2⟩, hca⟩ := cm_if_inv hca
      cases hca
      obtain ⟨pre, t1, t2, t3⟩ := cm_tk_spec _ _ _ _ _ htk
      have hi2 : i = .invokestatic ix := by
        cases i <;> first | (cases hi; done) | (simp only [cm_cx, Option.some.injEq, Prod.mk.injEq] at hi; first | (rw [hi.2]; done) | (exfalso; omega))
      subst hi2
      obtain rfl : n = 3 := eq_of_beq hlk
      have hst : st.map (cm_tr base ex) = (as.map (cm_tr base ex)).reverse ++ r.map (cm_tr base ex) := by rw [t1, t2]; simp
      have hn : (as.map (cm_tr base ex)).length = k := by rw [t2]; simp [t3]
      have hpS : PreS s H (cm_pre base D aC ex sc as h) (as.map (cm_tr base ex)) := ⟨cm_pre_blind, fun U hU hW => ⟨rfl, hbsz U hU hW⟩⟩
      rcases hg.2 with rfl | rfl
      · obtain ⟨q1, q2⟩ := c5 rfl
        exact va_runS hfix hM ⟨callB_of k hts (cm_wsM_good c1) rfl hrc hrs (hts _ m7) (hts _ q1) hdd hR2, hts _ q2⟩ hpS rfl hn hl.1 hst (lv_room (by rw [cm_wd_tr]; exact w1)) hd hf
      · obtain ⟨q1, q2⟩ := c6 rfl
        exact va_runSN hfix hM ⟨va_cnB k hts (cm_wsM_good c1) rfl hrc hrs (henv.2.1 _ q1) (hts _ m7) hdd hR2, hts _ q2, trivial⟩ hpS rfl hn hl.1 hst (lv_room (by rw [cm_wd_tr]; exact w1)) hd hf
    · cases hca
  · split at hca
    · rename_i hg
      split at hca
      · rename_i as' a r' htk
        obtain ⟨⟨w1, w2, w3, w4, w5, w6⟩, hca⟩ := cm_if_inv hca
        cases hca
        obtain ⟨pre, t1, t2, t3⟩ := cm_tk_spec _ _ _ _ _ htk
        have hst : st.map (cm_tr base ex) = (as'.map (cm_tr base ex)).reverse ++ .ref (base + a) :: r.map (cm_tr base ex) := by rw [t1, t2]; simp [cm_tr]
        have hn : (as'.map (cm_tr base ex)).length = k := by rw [t2]; simp [t3]
        have hpS : PreS s H (cm_pre base D aC ex sc (.ref a :: as') h) (.ref (base + a) :: as'.map (cm_tr base ex)) := ⟨cm_pre_blind, fun U hU hW => ⟨rfl, hbsz U hU hW⟩⟩
        by_cases hg0 : g = 0
        · have hkk : kind = 0 ∨ kind = 1 := by omega
          have hi2 : i = .invokevirtual ix := by
            cases i <;> first | (cases hi; done) | (simp only [cm_cx, Option.some.injEq, Prod.mk.injEq] at hi; first | (rw [hi.2]; done) | (exfalso; omega))
          subst hi2
          obtain rfl : n = 3 := eq_of_beq hlk
          have hpV : (cm_M M').2.1 < 12 → PreV s H (cm_M M').1.cls (base + a) (cm_pre base D aC ex sc (.ref a :: as') h) (as'.map (cm_tr base ex)) := fun h12 => by
            obtain ⟨g1, -⟩ := cm_class h12
            have he := cm_ws_get (base := base) (aC := aC) w3
            rw [cm_el_obj (by omega), w4] at he
            refine ⟨cm_pre_blind, ?_, hpS.2⟩
            rw [m1]
            exact va_recv henv.1 hrel g1 he
          rcases hkk with rfl | rfl
          · obtain ⟨q1, q2, q3⟩ := c3 rfl
            exact va_runV hfix hM ⟨callB_of k hts (cm_wsM_good c1) rfl hrc hrs (hts _ m7) (hts _ q1) hdd hR2, hts _ q2, hts _ q3⟩ (hpV w5) rfl hn hl.1 hst (lv_room (by rw [cm_wd_tr]; exact w1)) hd hf
          · obtain ⟨q1, q2, q3⟩ := c4 rfl
            exact va_runVN hfix hM ⟨va_cnB k hts (cm_wsM_good c1) rfl hrc hrs (henv.2.1 _ q1) (hts _ m7) hdd hR2, hts _ q2, hts _ q3⟩ (hpV w5) rfl hn hl.1 hst (lv_room (by rw [cm_wd_tr]; exact w1)) hd hf
        · have hkk : kind = 4 ∨ kind = 5 := by omega
          have hi2 : i = .invokespecial ix := by
            cases i <;> first | (cases hi; done) | (simp only [cm_cx, Option.some.injEq, Prod.mk.injEq] at hi; first | (rw [hi.2]; done) | (exfalso; omega))
          subst hi2
          obtain rfl : n = 3 := eq_of_beq hlk
          have hrn : (cm_M M').2.2.2.2 = none := w6.resolve_left hg0
          have hws : cm_wsM M' = Cond.code (cm_M M').1 (cm_M M').2.2.1 (cm_M M').2.2.2.1 none :: cm_G := by unfold cm_wsM; rw [hrn]
          rcases hkk with rfl | rfl
          · obtain ⟨q1, q2, q3⟩ := c7 rfl
            exact va_runI hfix hM ⟨callB_of k hts (cm_wsM_good c1) hws hrc hrs (hts _ m7) (hts _ q1) hdd hR2, q3, hts _ q2⟩ hpS rfl hn hl.1 hst (lv_room (by rw [cm_wd_tr]; exact w1)) hd hf
          · obtain ⟨q1, q2, q3⟩ := c8 rfl
            exact va_runIN hfix hM ⟨va_cnB k hts (cm_wsM_good c1) hws hrc hrs (henv.2.1 _ q1) (hts _ m7) hdd hR2, q3, hts _ q2⟩ hpS rfl hn hl.1 hst (lv_room (by rw [cm_wd_tr]; exact w1)) hd hf
      · cases hca
    · cases hca
/-- String.indexOf of the two constants (owed: see NOTES.md) -/
def cm_idxOK (l : Launch) (sc : cmS) : Prop := ∀ (p : Program) (e : Env) (R : Room) (s : State) (m : MethodId) (args : Array Value) (below : List Frame) (meth : Method) (c : Code) (H : Heap) (locs : List Loc) (cells slots : Nat) (Q : State → Prop) (M base : Nat) (D : va_G) (aC : Nat → ClassId) (ex : Nat → Nat) (ls : Array Slot) (rest : List Value) (pc ix M' k j : Nat) (x : Int32),
  cm_fix p s m args meth c M base D aC ex sc → va_S (fun q => base ≤ q) s.heap H locs → ls.size = (cm_M M).2.2.2.1 → cm_cM (cm_M M).2.1 ix = some (M', 12, k) → j = 1 ∨ j = 2 → 9 ≤ R.frames → 540 ≤ R.locals → cells ≤ R.cells → slots ≤ R.slots → (rest.map fun v => v.category).sum ≤ 8 → decode (cm_M M).2.2.1 pc = .ok (.invokevirtual ix, 3) →
  W p l e R s m args below meth c H locs cells slots Q (F0 m (pc + 3) ls (.int (cm_ix j x) :: rest)) → W p l e R s m args below meth c H locs cells slots Q (F0 m pc ls (.int x :: .ref (ex j) :: rest))
theorem cm_prim (hix : cm_idxOK l sc) (F : cm_fix p s m args meth c M base D aC ex sc) (hrel : cm_rel base D aC h H) (hS : va_S (fun q => base ≤ q) s.heap H locs) {cl : cmL} (hl : cm_lr base ex ls cl (cm_M M).2.2.2.1) {M' kind k g ix n d : Nat} {i : Instr} {st st' : List Value} (hfr : d + 1 ≤ R.frames) (hlc : 60 * (d + 1) ≤ R.locals) (hRc : cells ≤ R.cells) (hRs : slots ≤ R.slots)
    (hcM : cm_cM (cm_M M).2.1 ix = some (M', kind, k)) (hgk : cm_gk g kind d = true) (hpr : cm_pr kind st h = some (st', h')) (hi : cm_cx i = some (g, ix)) (hd : decode (cm_M M).2.2.1 pc = .ok (i, n)) (hlk : cm_lk i n = true)
    (kk : cm_k p l e R s m args below meth c Q base D aC ex (cm_M M).2.2.2.1 (pc + 3) cl st' h' cells slots) : W p l e R s m args below meth c H locs cells slots Q (F0 m pc ls (st.map (cm_tr base ex))) := by
  obtain ⟨hx, hb, hml, hr, hown, hts, hlo, hnm, henv, hbs, hsc⟩ := id F
  obtain ⟨-, -, -, -, -, -, -, -, -, c9, c10, c11, c12, c13, c14⟩ := cm_cM_spec hcM
  have hls : c.maxLocals = ls.size := by rw [hml, hl.1]
  unfold cm_pr at hpr
  split at hpr
  · obtain ⟨w1, h2⟩ := cm_if_inv hpr
    cases h2
    have hi2 : i = .invokespecial ix := by
      have hg : g = 2 := by simpa [cm_gk] using hgk
      cases i <;> first | (cases hi; done) | (simp only [cm_cx, Option.some.injEq, Prod.mk.injEq] at hi; first | (rw [hi.2]; done) | (exfalso; omega))
    subst hi2
    obtain rfl : n = 3 := eq_of_beq hlk
    refine W.objInit hx hb hown (hts _ (c9 rfl)) (hts _ cm_wObj1) (hts _ cm_wObj2) rfl hls.symm rfl hd (by omega) ?_ (kk ls H locs hrel hS hl)
    have h3 := lv_room (m := m) (pc := pc) (ls := ls) (rest := st'.map (cm_tr base ex)) (st := st'.map (cm_tr base ex)) (by rw [cm_wd_tr]; exact w1)
    show 2 * 0 + _ + 12 ≤ _
    rw [cm_wd_tr]
    omega
  · obtain ⟨w1, h2⟩ := cm_if_inv hpr
    cases h2
    have hi2 : i = .invokestatic ix := by
      have hg : g = 1 := by simpa [cm_gk] using hgk
      cases i <;> first | (cases hi; done) | (simp only [cm_cx, Option.some.injEq, Prod.mk.injEq] at hi; first | (rw [hi.2]; done) | (exfalso; omega))
    subst hi2
    obtain rfl : n = 3 := eq_of_beq hlk
    exact va_mmax hx hb hls hown (hts _ (c10 rfl)) (hts _ cm_wMx1) (hts _ cm_wMat) (hts _ cm_wMx2) (by omega) (by rw [cm_wd_tr]; omega) hRc hRs hd (kk ls H locs hrel hS hl)
  · obtain ⟨w1, h2⟩ := cm_if_inv hpr
    cases h2
    have hi2 : i = .invokestatic ix := by
      have hg : g = 1 := by simpa [cm_gk] using hgk
      cases i <;> first | (cases hi; done) | (simp only [cm_cx, Option.some.injEq, Prod.mk.injEq] at hi; first | (rw [hi.2]; done) | (exfalso; omega))
    subst hi2
    obtain rfl : n = 3 := eq_of_beq hlk
    exact va_mmin hx hb hls hown (hts _ (c11 rfl)) (hts _ cm_wMn1) (hts _ cm_wMat) (hts _ cm_wMn2) (by omega) (by rw [cm_wd_tr]; omega) hRc hRs hd (kk ls H locs hrel hS hl)
  · obtain ⟨w1, h2⟩ := cm_if_inv hpr
    cases h2
    have hi2 : i = .invokestatic ix := by
      have hg : g = 1 := by simpa [cm_gk] using hgk
      cases i <;> first | (cases hi; done) | (simp only [cm_cx, Option.some.injEq, Prod.mk.injEq] at hi; first | (rw [hi.2]; done) | (exfalso; omega))
    subst hi2
    obtain rfl : n = 3 := eq_of_beq hlk
    exact va_mmax_long hx hb hls hown (hts _ (c12 rfl)) (hts _ cm_wLx1) (hts _ cm_wMat) (hts _ cm_wLx2) (by omega) (by rw [cm_wd_tr]; omega) hRc hRs hd (kk ls H locs hrel hS hl)
  · obtain ⟨w1, h2⟩ := cm_if_inv hpr
    cases h2
    have hi2 : i = .invokestatic ix := by
      have hg : g = 1 := by simpa [cm_gk] using hgk
      cases i <;> first | (cases hi; done) | (simp only [cm_cx, Option.some.injEq, Prod.mk.injEq] at hi; first | (rw [hi.2]; done) | (exfalso; omega))
    subst hi2
    obtain rfl : n = 3 := eq_of_beq hlk
    exact va_mmin_long hx hb hls hown (hts _ (c13 rfl)) (hts _ cm_wLn1) (hts _ cm_wMat) (hts _ cm_wLn2) (by omega) (by rw [cm_wd_tr]; omega) hRc hRs hd (kk ls H locs hrel hS hl)
  · obtain ⟨⟨w1, w2, w3, w4, w5, w6, w7, w8, w9, w10⟩, h2⟩ := cm_if_inv hpr
    rename_i nn dp b sp a r
    cases h2
    have hi2 : i = .invokestatic ix := by
      have hg : g = 1 := by simpa [cm_gk] using hgk
      cases i <;> first | (cases hi; done) | (simp only [cm_cx, Option.some.injEq, Prod.mk.injEq] at hi; first | (rw [hi.2]; done) | (exfalso; omega))
    subst hi2
    obtain rfl : n = 3 := eq_of_beq hlk
    have he0 := cm_ws_get (base := base) (aC := aC) w2
    rw [cm_el_I (Or.inr (Or.inl w4)), w4] at he0
    have he1 := cm_ws_get (base := base) (aC := aC) w3
    rw [cm_el_I (Or.inr (Or.inl w5)), w5] at he1
    have hnf : nativeFrameWords "java/lang/System" "arraycopy" 5 = 7 := by decide +kernel
    refine va_copyi hx hb hls hown (hts _ (c14 rfl)) (hts _ cm_wAc1) (hts _ cm_wAc2) (hts _ cm_wSys) henv.1 hrel cm_ws_D hS a b 1 1 he0 he1 rfl rfl rfl w6 w7 w8 w9 w10 (fun _ _ => rfl) (by omega) (by rw [cm_wd_tr, hnf]; omega) hd fun H1 locs1 hP _ hS1 => kk ls H1 locs1 ?_ hS1 hl
    have hw := cm_rowI_ws (base := base) (aC := aC) (h := h) (a := b) (r := va_cpy (cm_I h a) (cm_I h b) sp.toNatClampNeg dp.toNatClampNeg nn.toNatClampNeg) w5
    rw [w5] at hw
    rw [hw] at hP
    exact hP
  · obtain ⟨⟨w1, w2⟩, h2⟩ := cm_if_inv hpr
    cases h2
    have hg : g = 0 ∧ 8 ≤ d := by simpa [cm_gk] using hgk
    have hi2 : i = .invokevirtual ix := by
      cases i <;> first | (cases hi; done) | (simp only [cm_cx, Option.some.injEq, Prod.mk.injEq] at hi; first | (rw [hi.2]; done) | (exfalso; omega))
    subst hi2
    obtain rfl : n = 3 := eq_of_beq hlk
    exact hix p e R s m args below meth c H locs cells slots Q M base D aC ex ls _ pc ix M' k _ _ F hS hl.1 hcM w2 (by omega) (by omega) hRc hRs (by rw [cm_wd_tr]; exact w1) hd (kk ls H locs hrel hS hl)
  · cases hpr
end CMD
