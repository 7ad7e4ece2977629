-- ClogHouse$Filter.heldOfSize(I)I
theorem d67_0 : decode (cm_M 67).2.2.1 0 = .ok (.iload_n 1, 1) := by decide +kernel
theorem d67_1 : decode (cm_M 67).2.2.1 1 = .ok (.invokestatic 53, 3) := by decide +kernel
theorem d67_4 : decode (cm_M 67).2.2.1 4 = .ok (.ifCond .eq 12, 3) := by decide +kernel
theorem d67_7 : decode (cm_M 67).2.2.1 7 = .ok (.aload_n 0, 1) := by decide +kernel
theorem d67_8 : decode (cm_M 67).2.2.1 8 = .ok (.getfield 17, 3) := by decide +kernel
theorem d67_11 : decode (cm_M 67).2.2.1 11 = .ok (.iload_n 1, 1) := by decide +kernel
theorem d67_12 : decode (cm_M 67).2.2.1 12 = .ok (.iaload, 1) := by decide +kernel
theorem d67_13 : decode (cm_M 67).2.2.1 13 = .ok (.goto 4, 3) := by decide +kernel
theorem d67_16 : decode (cm_M 67).2.2.1 16 = .ok (.iconst 0, 1) := by decide +kernel
theorem d67_17 : decode (cm_M 67).2.2.1 17 = .ok (.istore_n 2, 1) := by decide +kernel
theorem d67_18 : decode (cm_M 67).2.2.1 18 = .ok (.iconst 0, 1) := by decide +kernel
theorem d67_19 : decode (cm_M 67).2.2.1 19 = .ok (.istore_n 3, 1) := by decide +kernel
theorem d67_20 : decode (cm_M 67).2.2.1 20 = .ok (.iload_n 3, 1) := by decide +kernel
theorem d67_21 : decode (cm_M 67).2.2.1 21 = .ok (.aload_n 0, 1) := by decide +kernel
theorem d67_22 : decode (cm_M 67).2.2.1 22 = .ok (.getfield 43, 3) := by decide +kernel
theorem d67_25 : decode (cm_M 67).2.2.1 25 = .ok (.if_icmp .ge 38, 3) := by decide +kernel
theorem d67_28 : decode (cm_M 67).2.2.1 28 = .ok (.aload_n 0, 1) := by decide +kernel
theorem d67_29 : decode (cm_M 67).2.2.1 29 = .ok (.iload_n 3, 1) := by decide +kernel
theorem d67_30 : decode (cm_M 67).2.2.1 30 = .ok (.invokevirtual 57, 3) := by decide +kernel
theorem d67_33 : decode (cm_M 67).2.2.1 33 = .ok (.astore 4, 2) := by decide +kernel
theorem d67_35 : decode (cm_M 67).2.2.1 35 = .ok (.aload 4, 2) := by decide +kernel
theorem d67_37 : decode (cm_M 67).2.2.1 37 = .ok (.ifnull 20, 3) := by decide +kernel
theorem d67_40 : decode (cm_M 67).2.2.1 40 = .ok (.iload_n 1, 1) := by decide +kernel
theorem d67_41 : decode (cm_M 67).2.2.1 41 = .ok (.invokestatic 53, 3) := by decide +kernel
theorem d67_44 : decode (cm_M 67).2.2.1 44 = .ok (.ifCond .eq 13, 3) := by decide +kernel
theorem d67_47 : decode (cm_M 67).2.2.1 47 = .ok (.iload_n 2, 1) := by decide +kernel
theorem d67_48 : decode (cm_M 67).2.2.1 48 = .ok (.aload 4, 2) := by decide +kernel
theorem d67_50 : decode (cm_M 67).2.2.1 50 = .ok (.getfield 61, 3) := by decide +kernel
theorem d67_53 : decode (cm_M 67).2.2.1 53 = .ok (.iload_n 1, 1) := by decide +kernel
theorem d67_54 : decode (cm_M 67).2.2.1 54 = .ok (.iaload, 1) := by decide +kernel
theorem d67_55 : decode (cm_M 67).2.2.1 55 = .ok (.iadd, 1) := by decide +kernel
theorem d67_56 : decode (cm_M 67).2.2.1 56 = .ok (.istore_n 2, 1) := by decide +kernel
theorem d67_57 : decode (cm_M 67).2.2.1 57 = .ok (.iinc 3 1, 3) := by decide +kernel
theorem d67_60 : decode (cm_M 67).2.2.1 60 = .ok (.goto (-40), 3) := by decide +kernel
theorem d67_63 : decode (cm_M 67).2.2.1 63 = .ok (.iload_n 2, 1) := by decide +kernel
theorem d67_64 : decode (cm_M 67).2.2.1 64 = .ok (.ireturn, 1) := by decide +kernel
theorem s67_0 {sc : cmS} {d : Nat} {h : cmH} {Q : Option Value → cmH → Prop} (a0 : Nat) (x1 : Int32) (u2 : Option Value) (u3 : Option Value) (u4 : Option Value) (H : cm_ci sc d 12 [.int x1] h (fun r h' => cm_wp sc (d + 1) 67 4 [some (.ref a0), some (.int x1), u2, u3, u4] [.int r] h' Q)) : cm_wp sc (d + 1) 67 0 [some (.ref a0), some (.int x1), u2, u3, u4] [] h Q :=
  wl_st d67_0 rfl rfl rfl rfl (wl_ci d67_1 rfl rfl rfl pm3_53 (by decide) (ca_s (Or.inr rfl) rfl (Nat.le_of_ble_eq_true rfl) (Nat.le_of_ble_eq_true rfl)) H)
theorem s67_4 {sc : cmS} {d : Nat} {h : cmH} {Q : Option Value → cmH → Prop} (a0 : Nat) (x1 : Int32) (u2 : Option Value) (u3 : Option Value) (u4 : Option Value) (sx0 : Int32) (H : (((sx0 = 0) → cm_wp sc d 67 17 [some (.ref a0), some (.int x1), u2, u3, u4] [.int (0 : Int32)] h Q) ∧ (¬ (sx0 = 0) → (FL h a0) ∧ (IX 8 x1) ∧ cm_wp sc d 67 17 [some (.ref a0), some (.int x1), u2, u3, u4] [.int (cm_I h (a0 + 2) x1.toNatClampNeg)] h Q))) : cm_wp sc d 67 4 [some (.ref a0), some (.int x1), u2, u3, u4] [.int sx0] h Q :=
  wl_cb (b := sx0 = 0) (off := 12) (tgt := 16) (pc3 := 7) (st' := []) d67_4 rfl rfl rfl rfl (by decide) rfl (fun c1 => wl_ic (v := 0) d67_16 rfl ((H.1 c1))) (fun c1 => wl_st d67_7 rfl rfl rfl rfl (And.elim (fun g2 g2k => wl_gr (b := (a0 + 2)) d67_8 pf3_17 (FL.k g2) rfl (FL.r1 g2) (wl_st d67_11 rfl rfl rfl rfl (And.elim (fun g3 g3k => wl_if (g := cm_ok h 13 (a0 + 2) x1) (st' := [.int (cm_I h (a0 + 2) x1.toNatClampNeg)]) d67_12 rfl rfl rfl rfl (FL.o1 g2 g3) (wl_go (tgt := 17) d67_13 (by decide) (g3k))) g2k))) (H.2 c1)))
theorem s67_17 {sc : cmS} {d : Nat} {h : cmH} {Q : Option Value → cmH → Prop} (a0 : Nat) (x1 : Int32) (u2 : Option Value) (u3 : Option Value) (u4 : Option Value) (sx0 : Int32) (H : cm_wp sc d 67 20 [some (.ref a0), some (.int x1), some (.int sx0), some (.int (0 : Int32)), u4] [] h Q) : cm_wp sc d 67 17 [some (.ref a0), some (.int x1), u2, u3, u4] [.int sx0] h Q :=
  wl_st (ls' := [some (.ref a0), some (.int x1), some (.int sx0), u3, u4]) d67_17 rfl rfl rfl rfl (wl_ic (v := 0) d67_18 rfl (wl_st (ls' := [some (.ref a0), some (.int x1), some (.int sx0), some (.int (0 : Int32)), u4]) d67_19 rfl rfl rfl rfl (H)))
theorem s67_20 {sc : cmS} {d : Nat} {h : cmH} {Q : Option Value → cmH → Prop} (a0 : Nat) (x1 : Int32) (x2 : Int32) (x3 : Int32) (u4 : Option Value) (H : (FL h a0) ∧ ((((cm_I h a0 3) ≤ x3) → Q (some (.int x2)) h) ∧ (¬ ((cm_I h a0 3) ≤ x3) → cm_cq sc d 23 [.ref a0, .int x3] h (fun r h' => cm_wp sc (d + 1) 67 33 [some (.ref a0), some (.int x1), some (.int x2), some (.int x3), u4] [va_rf r] h' Q)))) : cm_wp sc (d + 1) 67 20 [some (.ref a0), some (.int x1), some (.int x2), some (.int x3), u4] [] h Q :=
  wl_st d67_20 rfl rfl rfl rfl (wl_st d67_21 rfl rfl rfl rfl (And.elim (fun g1 g1k => wl_gf (v := .int (cm_I h a0 3)) d67_22 pf3_43 (FL.k g1) rfl (wl_cb (b := (cm_I h a0 3) ≤ x3) (off := 38) (tgt := 63) (pc3 := 28) (st' := []) d67_25 rfl rfl rfl rfl (by decide) rfl (fun c2 => wl_st d67_63 rfl rfl rfl rfl (wl_rt d67_64 rfl rfl rfl (g1k.1 c2))) (fun c2 => wl_st d67_28 rfl rfl rfl rfl (wl_st d67_29 rfl rfl rfl rfl (wl_cq d67_30 rfl rfl rfl pm3_57 (by decide) (ca_v (Or.inl rfl) rfl (Nat.le_of_ble_eq_true rfl) (Nat.le_of_ble_eq_true rfl) (FL.k g1).2 (FL.k g1).1 (by decide)) (g1k.2 c2)))))) H))
theorem s67_33 {sc : cmS} {d : Nat} {h : cmH} {Q : Option Value → cmH → Prop} (a0 : Nat) (x1 : Int32) (x2 : Int32) (x3 : Int32) (u4 : Option Value) (so0 : Option Nat) (H : ((so0 = none → cm_wp sc (d + 1) 67 57 [some (.ref a0), some (.int x1), some (.int x2), some (.int x3), some (va_rf so0)] [] h Q) ∧ (∀ b2, so0 = some b2 → cm_ci sc d 12 [.int x1] h (fun r h' => cm_wp sc (d + 1) 67 44 [some (.ref a0), some (.int x1), some (.int x2), some (.int x3), some (.ref b2)] [.int r] h' Q)))) : cm_wp sc (d + 1) 67 33 [some (.ref a0), some (.int x1), some (.int x2), some (.int x3), u4] [va_rf so0] h Q :=
  wl_as (k := 4) (ls' := [some (.ref a0), some (.int x1), some (.int x2), some (.int x3), some (va_rf so0)]) d67_33 (Or.inl ⟨rfl, rfl⟩) (Nat.le_of_ble_eq_true rfl) rfl (wl_al (k := 4) d67_35 (Or.inl ⟨rfl, rfl⟩) rfl (wl_nu (o := so0) (tgt := 57) (pc3 := 40) d67_37 (by decide) rfl (fun c1 => (H.1 c1)) (fun b2 c1 => cm_rw (fun oo => cm_wp sc (d + 1) 67 40 [some (.ref a0), some (.int x1), some (.int x2), some (.int x3), some (va_rf oo)] [] h Q) c1 (wl_st d67_40 rfl rfl rfl rfl (wl_ci d67_41 rfl rfl rfl pm3_53 (by decide) (ca_s (Or.inr rfl) rfl (Nat.le_of_ble_eq_true rfl) (Nat.le_of_ble_eq_true rfl)) (H.2 b2 c1))))))
theorem s67_44 {sc : cmS} {d : Nat} {h : cmH} {Q : Option Value → cmH → Prop} (a0 : Nat) (x1 : Int32) (x2 : Int32) (x3 : Int32) (o4 : Option Nat) (sx0 : Int32) (H : (((sx0 = 0) → cm_wp sc d 67 57 [some (.ref a0), some (.int x1), some (.int x2), some (.int x3), some (va_rf o4)] [] h Q) ∧ (¬ (sx0 = 0) → ∃ b2, o4 = some b2 ∧ (CE h b2) ∧ (IX 8 x1) ∧ cm_wp sc d 67 57 [some (.ref a0), some (.int x1), some (.int (x2 + (cm_I h (b2 + 1) x1.toNatClampNeg))), some (.int x3), some (.ref b2)] [] h Q))) : cm_wp sc d 67 44 [some (.ref a0), some (.int x1), some (.int x2), some (.int x3), some (va_rf o4)] [.int sx0] h Q :=
  wl_cb (b := sx0 = 0) (off := 13) (tgt := 57) (pc3 := 47) (st' := []) d67_44 rfl rfl rfl rfl (by decide) rfl (fun c1 => (H.1 c1)) (fun c1 => wl_st d67_47 rfl rfl rfl rfl (Exists.elim (H.2 c1) fun b2 b2q => And.elim (fun b2e b2k => cm_rw (fun oo => cm_wp sc d 67 48 [some (.ref a0), some (.int x1), some (.int x2), some (.int x3), some (va_rf oo)] [.int x2] h Q) b2e (wl_st d67_48 rfl rfl rfl rfl (And.elim (fun g3 g3k => wl_gr (b := (b2 + 1)) d67_50 pf3_61 (CE.k g3) rfl (CE.r0 g3) (wl_st d67_53 rfl rfl rfl rfl (And.elim (fun g4 g4k => wl_if (g := cm_ok h 13 (b2 + 1) x1) (st' := [.int (cm_I h (b2 + 1) x1.toNatClampNeg), .int x2]) d67_54 rfl rfl rfl rfl (CE.o0 g3 g4) (wl_st d67_55 rfl rfl rfl rfl (wl_st (ls' := [some (.ref a0), some (.int x1), some (.int (x2 + (cm_I h (b2 + 1) x1.toNatClampNeg))), some (.int x3), some (.ref b2)]) d67_56 rfl rfl rfl rfl (g4k)))) g3k))) b2k))) b2q))
theorem s67_57 {sc : cmS} {d : Nat} {h : cmH} {Q : Option Value → cmH → Prop} (a0 : Nat) (x1 : Int32) (x2 : Int32) (x3 : Int32) (o4 : Option Nat) (H : cm_wp sc d 67 20 [some (.ref a0), some (.int x1), some (.int x2), some (.int (x3 + 1)), some (va_rf o4)] [] h Q) : cm_wp sc d 67 57 [some (.ref a0), some (.int x1), some (.int x2), some (.int x3), some (va_rf o4)] [] h Q :=
  wl_st (ls' := [some (.ref a0), some (.int x1), some (.int x2), some (.int (x3 + 1)), some (va_rf o4)]) d67_57 rfl rfl rfl rfl (wl_go (tgt := 20) d67_60 (by decide) (H))
-- ClogHouse$Filter.makeClean()V
theorem d69_0 : decode (cm_M 69).2.2.1 0 = .ok (.aload_n 0, 1) := by decide +kernel
theorem d69_1 : decode (cm_M 69).2.2.1 1 = .ok (.getfield 17, 3) := by decide +kernel
theorem d69_4 : decode (cm_M 69).2.2.1 4 = .ok (.iconst 0, 1) := by decide +kernel
theorem d69_5 : decode (cm_M 69).2.2.1 5 = .ok (.invokestatic 141, 3) := by decide +kernel
theorem d69_8 : decode (cm_M 69).2.2.1 8 = .ok (.iconst 0, 1) := by decide +kernel
theorem d69_9 : decode (cm_M 69).2.2.1 9 = .ok (.istore_n 1, 1) := by decide +kernel
theorem d69_10 : decode (cm_M 69).2.2.1 10 = .ok (.iload_n 1, 1) := by decide +kernel
theorem d69_11 : decode (cm_M 69).2.2.1 11 = .ok (.aload_n 0, 1) := by decide +kernel
theorem d69_12 : decode (cm_M 69).2.2.1 12 = .ok (.getfield 43, 3) := by decide +kernel
theorem d69_15 : decode (cm_M 69).2.2.1 15 = .ok (.if_icmp .ge 23, 3) := by decide +kernel
theorem d69_18 : decode (cm_M 69).2.2.1 18 = .ok (.aload_n 0, 1) := by decide +kernel
theorem d69_19 : decode (cm_M 69).2.2.1 19 = .ok (.iload_n 1, 1) := by decide +kernel
theorem d69_20 : decode (cm_M 69).2.2.1 20 = .ok (.invokevirtual 57, 3) := by decide +kernel
theorem d69_23 : decode (cm_M 69).2.2.1 23 = .ok (.astore_n 2, 1) := by decide +kernel
theorem d69_24 : decode (cm_M 69).2.2.1 24 = .ok (.aload_n 2, 1) := by decide +kernel
theorem d69_25 : decode (cm_M 69).2.2.1 25 = .ok (.ifnull 7, 3) := by decide +kernel
theorem d69_28 : decode (cm_M 69).2.2.1 28 = .ok (.aload_n 2, 1) := by decide +kernel
theorem d69_29 : decode (cm_M 69).2.2.1 29 = .ok (.invokevirtual 147, 3) := by decide +kernel
theorem d69_32 : decode (cm_M 69).2.2.1 32 = .ok (.iinc 1 1, 3) := by decide +kernel
theorem d69_35 : decode (cm_M 69).2.2.1 35 = .ok (.goto (-25), 3) := by decide +kernel
theorem d69_38 : decode (cm_M 69).2.2.1 38 = .ok (.return_, 1) := by decide +kernel
theorem s69_0 {sc : cmS} {d : Nat} {h : cmH} {Q : Option Value → cmH → Prop} (a0 : Nat) (u1 : Option Value) (u2 : Option Value) (H : (FL h a0) ∧ cm_cv sc d 2 [.ref (a0 + 2), .int (0 : Int32)] h (fun h' => cm_wp sc (d + 1) 69 8 [some (.ref a0), u1, u2] [] h' Q)) : cm_wp sc (d + 1) 69 0 [some (.ref a0), u1, u2] [] h Q :=
  wl_st d69_0 rfl rfl rfl rfl (And.elim (fun g1 g1k => wl_gr (b := (a0 + 2)) d69_1 pf3_17 (FL.k g1) rfl (FL.r1 g1) (wl_ic (v := 0) d69_4 rfl (wl_cv d69_5 rfl rfl rfl pm3_141 (by decide) (ca_s (Or.inl rfl) rfl (Nat.le_of_ble_eq_true rfl) (Nat.le_of_ble_eq_true rfl)) g1k))) H)
theorem s69_8 {sc : cmS} {d : Nat} {h : cmH} {Q : Option Value → cmH → Prop} (a0 : Nat) (u1 : Option Value) (u2 : Option Value) (H : cm_wp sc d 69 10 [some (.ref a0), some (.int (0 : Int32)), u2] [] h Q) : cm_wp sc d 69 8 [some (.ref a0), u1, u2] [] h Q :=
  wl_ic (v := 0) d69_8 rfl (wl_st (ls' := [some (.ref a0), some (.int (0 : Int32)), u2]) d69_9 rfl rfl rfl rfl (H))
theorem s69_10 {sc : cmS} {d : Nat} {h : cmH} {Q : Option Value → cmH → Prop} (a0 : Nat) (x1 : Int32) (u2 : Option Value) (H : (FL h a0) ∧ ((((cm_I h a0 3) ≤ x1) → Q none h) ∧ (¬ ((cm_I h a0 3) ≤ x1) → cm_cq sc d 23 [.ref a0, .int x1] h (fun r h' => cm_wp sc (d + 1) 69 23 [some (.ref a0), some (.int x1), u2] [va_rf r] h' Q)))) : cm_wp sc (d + 1) 69 10 [some (.ref a0), some (.int x1), u2] [] h Q :=
  wl_st d69_10 rfl rfl rfl rfl (wl_st d69_11 rfl rfl rfl rfl (And.elim (fun g1 g1k => wl_gf (v := .int (cm_I h a0 3)) d69_12 pf3_43 (FL.k g1) rfl (wl_cb (b := (cm_I h a0 3) ≤ x1) (off := 23) (tgt := 38) (pc3 := 18) (st' := []) d69_15 rfl rfl rfl rfl (by decide) rfl (fun c2 => wl_rt d69_38 rfl rfl rfl (g1k.1 c2)) (fun c2 => wl_st d69_18 rfl rfl rfl rfl (wl_st d69_19 rfl rfl rfl rfl (wl_cq d69_20 rfl rfl rfl pm3_57 (by decide) (ca_v (Or.inl rfl) rfl (Nat.le_of_ble_eq_true rfl) (Nat.le_of_ble_eq_true rfl) (FL.k g1).2 (FL.k g1).1 (by decide)) (g1k.2 c2)))))) H))
theorem s69_23 {sc : cmS} {d : Nat} {h : cmH} {Q : Option Value → cmH → Prop} (a0 : Nat) (x1 : Int32) (u2 : Option Value) (so0 : Option Nat) (H : ((so0 = none → cm_wp sc (d + 1) 69 32 [some (.ref a0), some (.int x1), some (va_rf so0)] [] h Q) ∧ (∀ b2, so0 = some b2 → (CE h b2) ∧ cm_cv sc d 70 [.ref b2] h (fun h' => cm_wp sc (d + 1) 69 32 [some (.ref a0), some (.int x1), some (.ref b2)] [] h' Q)))) : cm_wp sc (d + 1) 69 23 [some (.ref a0), some (.int x1), u2] [va_rf so0] h Q :=
  wl_as (k := 2) (ls' := [some (.ref a0), some (.int x1), some (va_rf so0)]) d69_23 (Or.inr ⟨⟨_, rfl, rfl⟩, rfl⟩) (Nat.le_of_ble_eq_true rfl) rfl (wl_al (k := 2) d69_24 (Or.inr ⟨⟨_, rfl, rfl⟩, rfl⟩) rfl (wl_nu (o := so0) (tgt := 32) (pc3 := 28) d69_25 (by decide) rfl (fun c1 => (H.1 c1)) (fun b2 c1 => cm_rw (fun oo => cm_wp sc (d + 1) 69 28 [some (.ref a0), some (.int x1), some (va_rf oo)] [] h Q) c1 (wl_st d69_28 rfl rfl rfl rfl (And.elim (fun g3 g3k => wl_cv d69_29 rfl rfl rfl pm3_147 (by decide) (ca_v (Or.inr rfl) rfl (Nat.le_of_ble_eq_true rfl) (Nat.le_of_ble_eq_true rfl) (CE.k g3).2 (CE.k g3).1 (by decide)) g3k) (H.2 b2 c1))))))
theorem s69_32 {sc : cmS} {d : Nat} {h : cmH} {Q : Option Value → cmH → Prop} (a0 : Nat) (x1 : Int32) (o2 : Option Nat) (H : cm_wp sc d 69 10 [some (.ref a0), some (.int (x1 + 1)), some (va_rf o2)] [] h Q) : cm_wp sc d 69 32 [some (.ref a0), some (.int x1), some (va_rf o2)] [] h Q :=
  wl_st (ls' := [some (.ref a0), some (.int (x1 + 1)), some (va_rf o2)]) d69_32 rfl rfl rfl rfl (wl_go (tgt := 10) d69_35 (by decide) (H))
-- ClogHouse$Filter.washOut(ILClogHouse$Grains;LClogHouse$Books;)V
theorem d72_0 : decode (cm_M 72).2.2.1 0 = .ok (.iconst 0, 1) := by decide +kernel
theorem d72_1 : decode (cm_M 72).2.2.1 1 = .ok (.istore 4, 2) := by decide +kernel
theorem d72_3 : decode (cm_M 72).2.2.1 3 = .ok (.iload 4, 2) := by decide +kernel
theorem d72_5 : decode (cm_M 72).2.2.1 5 = .ok (.aload_n 0, 1) := by decide +kernel
theorem d72_6 : decode (cm_M 72).2.2.1 6 = .ok (.getfield 43, 3) := by decide +kernel
theorem d72_9 : decode (cm_M 72).2.2.1 9 = .ok (.if_icmp .ge 55, 3) := by decide +kernel
theorem d72_12 : decode (cm_M 72).2.2.1 12 = .ok (.aload_n 0, 1) := by decide +kernel
theorem d72_13 : decode (cm_M 72).2.2.1 13 = .ok (.iload 4, 2) := by decide +kernel
theorem d72_15 : decode (cm_M 72).2.2.1 15 = .ok (.invokevirtual 57, 3) := by decide +kernel
theorem d72_18 : decode (cm_M 72).2.2.1 18 = .ok (.astore 5, 2) := by decide +kernel
theorem d72_20 : decode (cm_M 72).2.2.1 20 = .ok (.aload 5, 2) := by decide +kernel
theorem d72_22 : decode (cm_M 72).2.2.1 22 = .ok (.ifnull 36, 3) := by decide +kernel
theorem d72_25 : decode (cm_M 72).2.2.1 25 = .ok (.aload 5, 2) := by decide +kernel
theorem d72_27 : decode (cm_M 72).2.2.1 27 = .ok (.iload_n 1, 1) := by decide +kernel
theorem d72_28 : decode (cm_M 72).2.2.1 28 = .ok (.aload_n 2, 1) := by decide +kernel
theorem d72_29 : decode (cm_M 72).2.2.1 29 = .ok (.aload_n 3, 1) := by decide +kernel
theorem d72_30 : decode (cm_M 72).2.2.1 30 = .ok (.invokevirtual 111, 3) := by decide +kernel
theorem d72_33 : decode (cm_M 72).2.2.1 33 = .ok (.iload_n 1, 1) := by decide +kernel
theorem d72_34 : decode (cm_M 72).2.2.1 34 = .ok (.aload_n 0, 1) := by decide +kernel
theorem d72_35 : decode (cm_M 72).2.2.1 35 = .ok (.getfield 28, 3) := by decide +kernel
theorem d72_38 : decode (cm_M 72).2.2.1 38 = .ok (.if_icmp .le 20, 3) := by decide +kernel
theorem d72_41 : decode (cm_M 72).2.2.1 41 = .ok (.aload 5, 2) := by decide +kernel
theorem d72_43 : decode (cm_M 72).2.2.1 43 = .ok (.bipush 20, 2) := by decide +kernel
theorem d72_45 : decode (cm_M 72).2.2.1 45 = .ok (.aload 5, 2) := by decide +kernel
theorem d72_47 : decode (cm_M 72).2.2.1 47 = .ok (.getfield 115, 3) := by decide +kernel
theorem d72_50 : decode (cm_M 72).2.2.1 50 = .ok (.iconst 1, 1) := by decide +kernel
theorem d72_51 : decode (cm_M 72).2.2.1 51 = .ok (.iadd, 1) := by decide +kernel
theorem d72_52 : decode (cm_M 72).2.2.1 52 = .ok (.invokestatic 118, 3) := by decide +kernel
theorem d72_55 : decode (cm_M 72).2.2.1 55 = .ok (.putfield 115, 3) := by decide +kernel
theorem d72_58 : decode (cm_M 72).2.2.1 58 = .ok (.iinc 4 1, 3) := by decide +kernel
theorem d72_61 : decode (cm_M 72).2.2.1 61 = .ok (.goto (-58), 3) := by decide +kernel
theorem d72_64 : decode (cm_M 72).2.2.1 64 = .ok (.iconst 0, 1) := by decide +kernel
theorem d72_65 : decode (cm_M 72).2.2.1 65 = .ok (.istore 4, 2) := by decide +kernel
theorem d72_67 : decode (cm_M 72).2.2.1 67 = .ok (.iload 4, 2) := by decide +kernel
theorem d72_69 : decode (cm_M 72).2.2.1 69 = .ok (.bipush 8, 2) := by decide +kernel
theorem d72_71 : decode (cm_M 72).2.2.1 71 = .ok (.if_icmp .ge 30, 3) := by decide +kernel
theorem d72_74 : decode (cm_M 72).2.2.1 74 = .ok (.aload_n 3, 1) := by decide +kernel
theorem d72_75 : decode (cm_M 72).2.2.1 75 = .ok (.iload 4, 2) := by decide +kernel
theorem d72_77 : decode (cm_M 72).2.2.1 77 = .ok (.aload_n 0, 1) := by decide +kernel
theorem d72_78 : decode (cm_M 72).2.2.1 78 = .ok (.getfield 17, 3) := by decide +kernel
theorem d72_81 : decode (cm_M 72).2.2.1 81 = .ok (.iload 4, 2) := by decide +kernel
theorem d72_83 : decode (cm_M 72).2.2.1 83 = .ok (.iaload, 1) := by decide +kernel
theorem d72_84 : decode (cm_M 72).2.2.1 84 = .ok (.invokevirtual 121, 3) := by decide +kernel
theorem d72_87 : decode (cm_M 72).2.2.1 87 = .ok (.aload_n 0, 1) := by decide +kernel
theorem d72_88 : decode (cm_M 72).2.2.1 88 = .ok (.getfield 17, 3) := by decide +kernel
theorem d72_91 : decode (cm_M 72).2.2.1 91 = .ok (.iload 4, 2) := by decide +kernel
theorem d72_93 : decode (cm_M 72).2.2.1 93 = .ok (.iconst 0, 1) := by decide +kernel
theorem d72_94 : decode (cm_M 72).2.2.1 94 = .ok (.iastore, 1) := by decide +kernel
theorem d72_95 : decode (cm_M 72).2.2.1 95 = .ok (.iinc 4 1, 3) := by decide +kernel
theorem d72_98 : decode (cm_M 72).2.2.1 98 = .ok (.goto (-31), 3) := by decide +kernel
theorem d72_101 : decode (cm_M 72).2.2.1 101 = .ok (.aload_n 0, 1) := by decide +kernel
theorem d72_102 : decode (cm_M 72).2.2.1 102 = .ok (.iconst 0, 1) := by decide +kernel
theorem d72_103 : decode (cm_M 72).2.2.1 103 = .ok (.putfield 126, 3) := by decide +kernel
theorem d72_106 : decode (cm_M 72).2.2.1 106 = .ok (.aload_n 0, 1) := by decide +kernel
theorem d72_107 : decode (cm_M 72).2.2.1 107 = .ok (.dup, 1) := by decide +kernel
theorem d72_108 : decode (cm_M 72).2.2.1 108 = .ok (.getfield 129, 3) := by decide +kernel
theorem d72_111 : decode (cm_M 72).2.2.1 111 = .ok (.iconst 1, 1) := by decide +kernel
theorem d72_112 : decode (cm_M 72).2.2.1 112 = .ok (.iadd, 1) := by decide +kernel
theorem d72_113 : decode (cm_M 72).2.2.1 113 = .ok (.putfield 129, 3) := by decide +kernel
theorem d72_116 : decode (cm_M 72).2.2.1 116 = .ok (.return_, 1) := by decide +kernel
theorem s72_0 {sc : cmS} {d : Nat} {h : cmH} {Q : Option Value → cmH → Prop} (a0 : Nat) (x1 : Int32) (u4 : Option Value) (u5 : Option Value) (H : cm_wp sc d 72 3 [some (.ref a0), some (.int x1), some (.ref 1), some (.ref 14), some (.int (0 : Int32)), u5] [] h Q) : cm_wp sc d 72 0 [some (.ref a0), some (.int x1), some (.ref 1), some (.ref 14), u4, u5] [] h Q :=
  wl_ic (v := 0) d72_0 rfl (wl_st (ls' := [some (.ref a0), some (.int x1), some (.ref 1), some (.ref 14), some (.int (0 : Int32)), u5]) d72_1 rfl rfl rfl rfl (H))
theorem s72_3 {sc : cmS} {d : Nat} {h : cmH} {Q : Option Value → cmH → Prop} (a0 : Nat) (x1 : Int32) (x4 : Int32) (u5 : Option Value) (H : (FL h a0) ∧ ((((cm_I h a0 3) ≤ x4) → cm_wp sc (d + 1) 72 67 [some (.ref a0), some (.int x1), some (.ref 1), some (.ref 14), some (.int (0 : Int32)), u5] [] h Q) ∧ (¬ ((cm_I h a0 3) ≤ x4) → cm_cq sc d 23 [.ref a0, .int x4] h (fun r h' => cm_wp sc (d + 1) 72 18 [some (.ref a0), some (.int x1), some (.ref 1), some (.ref 14), some (.int x4), u5] [va_rf r] h' Q)))) : cm_wp sc (d + 1) 72 3 [some (.ref a0), some (.int x1), some (.ref 1), some (.ref 14), some (.int x4), u5] [] h Q :=
  wl_st d72_3 rfl rfl rfl rfl (wl_st d72_5 rfl rfl rfl rfl (And.elim (fun g1 g1k => wl_gf (v := .int (cm_I h a0 3)) d72_6 pf3_43 (FL.k g1) rfl (wl_cb (b := (cm_I h a0 3) ≤ x4) (off := 55) (tgt := 64) (pc3 := 12) (st' := []) d72_9 rfl rfl rfl rfl (by decide) rfl (fun c2 => wl_ic (v := 0) d72_64 rfl (wl_st (ls' := [some (.ref a0), some (.int x1), some (.ref 1), some (.ref 14), some (.int (0 : Int32)), u5]) d72_65 rfl rfl rfl rfl ((g1k.1 c2)))) (fun c2 => wl_st d72_12 rfl rfl rfl rfl (wl_st d72_13 rfl rfl rfl rfl (wl_cq d72_15 rfl rfl rfl pm3_57 (by decide) (ca_v (Or.inl rfl) rfl (Nat.le_of_ble_eq_true rfl) (Nat.le_of_ble_eq_true rfl) (FL.k g1).2 (FL.k g1).1 (by decide)) (g1k.2 c2)))))) H))
theorem s72_18 {sc : cmS} {d : Nat} {h : cmH} {Q : Option Value → cmH → Prop} (a0 : Nat) (x1 : Int32) (x4 : Int32) (u5 : Option Value) (so0 : Option Nat) (H : ((so0 = none → cm_wp sc (d + 1) 72 58 [some (.ref a0), some (.int x1), some (.ref 1), some (.ref 14), some (.int x4), some (va_rf so0)] [] h Q) ∧ (∀ b2, so0 = some b2 → (CE h b2) ∧ cm_cv sc d 73 [.ref b2, .int x1, .ref 1, .ref 14] h (fun h' => cm_wp sc (d + 1) 72 33 [some (.ref a0), some (.int x1), some (.ref 1), some (.ref 14), some (.int x4), some (.ref b2)] [] h' Q)))) : cm_wp sc (d + 1) 72 18 [some (.ref a0), some (.int x1), some (.ref 1), some (.ref 14), some (.int x4), u5] [va_rf so0] h Q :=
  wl_as (k := 5) (ls' := [some (.ref a0), some (.int x1), some (.ref 1), some (.ref 14), some (.int x4), some (va_rf so0)]) d72_18 (Or.inl ⟨rfl, rfl⟩) (Nat.le_of_ble_eq_true rfl) rfl (wl_al (k := 5) d72_20 (Or.inl ⟨rfl, rfl⟩) rfl (wl_nu (o := so0) (tgt := 58) (pc3 := 25) d72_22 (by decide) rfl (fun c1 => (H.1 c1)) (fun b2 c1 => cm_rw (fun oo => cm_wp sc (d + 1) 72 25 [some (.ref a0), some (.int x1), some (.ref 1), some (.ref 14), some (.int x4), some (va_rf oo)] [] h Q) c1 (wl_st d72_25 rfl rfl rfl rfl (wl_st d72_27 rfl rfl rfl rfl (wl_st d72_28 rfl rfl rfl rfl (wl_st d72_29 rfl rfl rfl rfl (And.elim (fun g3 g3k => wl_cv d72_30 rfl rfl rfl pm3_111 (by decide) (ca_v (Or.inr rfl) rfl (Nat.le_of_ble_eq_true rfl) (Nat.le_of_ble_eq_true rfl) (CE.k g3).2 (CE.k g3).1 (by decide)) g3k) (H.2 b2 c1)))))))))
theorem s72_33 {sc : cmS} {d : Nat} {h : cmH} {Q : Option Value → cmH → Prop} (a0 : Nat) (x1 : Int32) (x4 : Int32) (o5 : Option Nat) (H : (FL h a0) ∧ (((x1 ≤ (cm_I h a0 5)) → cm_wp sc (d + 1) 72 58 [some (.ref a0), some (.int x1), some (.ref 1), some (.ref 14), some (.int x4), some (va_rf o5)] [] h Q) ∧ (¬ (x1 ≤ (cm_I h a0 5)) → ∃ b3, o5 = some b3 ∧ (CE h b3) ∧ cm_wp sc (d + 1) 72 58 [some (.ref a0), some (.int x1), some (.ref 1), some (.ref 14), some (.int x4), some (.ref b3)] [] (cm_setI h b3 4 (if ((cm_I h b3 4) + (1 : Int32)) < (20 : Int32) then ((cm_I h b3 4) + (1 : Int32)) else (20 : Int32))) Q))) : cm_wp sc (d + 1) 72 33 [some (.ref a0), some (.int x1), some (.ref 1), some (.ref 14), some (.int x4), some (va_rf o5)] [] h Q :=
  wl_st d72_33 rfl rfl rfl rfl (wl_st d72_34 rfl rfl rfl rfl (And.elim (fun g1 g1k => wl_gf (v := .int (cm_I h a0 5)) d72_35 pf3_28 (FL.k g1) rfl (wl_cb (b := x1 ≤ (cm_I h a0 5)) (off := 20) (tgt := 58) (pc3 := 41) (st' := []) d72_38 rfl rfl rfl rfl (by decide) rfl (fun c2 => (g1k.1 c2)) (fun c2 => Exists.elim (g1k.2 c2) fun b3 b3q => And.elim (fun b3e b3k => cm_rw (fun oo => cm_wp sc (d + 1) 72 41 [some (.ref a0), some (.int x1), some (.ref 1), some (.ref 14), some (.int x4), some (va_rf oo)] [] h Q) b3e (wl_st d72_41 rfl rfl rfl rfl (wl_bi (v := 20) d72_43 rfl (wl_st d72_45 rfl rfl rfl rfl (And.elim (fun g4 g4k => wl_gf (v := .int (cm_I h b3 4)) d72_47 pf3_115 (CE.k g4) rfl (wl_ic (v := 1) d72_50 rfl (wl_st d72_51 rfl rfl rfl rfl (wl_pr (st' := [.int (if ((cm_I h b3 4) + (1 : Int32)) < (20 : Int32) then ((cm_I h b3 4) + (1 : Int32)) else (20 : Int32)), .ref b3]) d72_52 rfl rfl rfl pm3_118 (by decide) rfl rfl (wl_pf (h' := (cm_setI h b3 4 (if ((cm_I h b3 4) + (1 : Int32)) < (20 : Int32) then ((cm_I h b3 4) + (1 : Int32)) else (20 : Int32)))) d72_55 pf3_115 (CE.k g4) (Or.inl rfl) rfl (g4k)))))) b3k))))) b3q))) H))
theorem s72_58 {sc : cmS} {d : Nat} {h : cmH} {Q : Option Value → cmH → Prop} (a0 : Nat) (x1 : Int32) (x4 : Int32) (o5 : Option Nat) (H : cm_wp sc d 72 3 [some (.ref a0), some (.int x1), some (.ref 1), some (.ref 14), some (.int (x4 + 1)), some (va_rf o5)] [] h Q) : cm_wp sc d 72 58 [some (.ref a0), some (.int x1), some (.ref 1), some (.ref 14), some (.int x4), some (va_rf o5)] [] h Q :=
  wl_st (ls' := [some (.ref a0), some (.int x1), some (.ref 1), some (.ref 14), some (.int (x4 + 1)), some (va_rf o5)]) d72_58 rfl rfl rfl rfl (wl_go (tgt := 3) d72_61 (by decide) (H))
theorem s72_67 {sc : cmS} {d : Nat} {h : cmH} {Q : Option Value → cmH → Prop} (L : LY h) (a0 : Nat) (x1 : Int32) (x4 : Int32) (u5 : Option Value) (H : ((((8 : Int32) ≤ x4) → (FL h a0) ∧ Q none (cm_setI (cm_setI h a0 9 (0 : Int32)) a0 10 ((cm_I (cm_setI h a0 9 (0 : Int32)) a0 10) + (1 : Int32)))) ∧ (¬ ((8 : Int32) ≤ x4) → (FL h a0) ∧ (IX 8 x4) ∧ cm_cv sc d 74 [.ref 14, .int x4, .int (cm_I h (a0 + 2) x4.toNatClampNeg)] h (fun h' => cm_wp sc (d + 1) 72 87 [some (.ref a0), some (.int x1), some (.ref 1), some (.ref 14), some (.int x4), u5] [] h' Q)))) : cm_wp sc (d + 1) 72 67 [some (.ref a0), some (.int x1), some (.ref 1), some (.ref 14), some (.int x4), u5] [] h Q :=
  wl_st d72_67 rfl rfl rfl rfl (wl_bi (v := 8) d72_69 rfl (wl_cb (b := (8 : Int32) ≤ x4) (off := 30) (tgt := 101) (pc3 := 74) (st' := []) d72_71 rfl rfl rfl rfl (by decide) rfl (fun c1 => wl_st d72_101 rfl rfl rfl rfl (wl_ic (v := 0) d72_102 rfl (And.elim (fun g2 g2k => wl_pf (h' := (cm_setI h a0 9 (0 : Int32))) d72_103 pf3_126 (FL.k g2) (Or.inl rfl) rfl (wl_st d72_106 rfl rfl rfl rfl (wl_st d72_107 rfl rfl rfl rfl (wl_gf (v := .int (cm_I (cm_setI h a0 9 (0 : Int32)) a0 10)) d72_108 pf3_129 (FL.k g2) rfl (wl_ic (v := 1) d72_111 rfl (wl_st d72_112 rfl rfl rfl rfl (wl_pf (h' := (cm_setI (cm_setI h a0 9 (0 : Int32)) a0 10 ((cm_I (cm_setI h a0 9 (0 : Int32)) a0 10) + (1 : Int32)))) d72_113 pf3_129 (FL.k g2) (Or.inl rfl) rfl (wl_rt d72_116 rfl rfl rfl g2k)))))))) (H.1 c1)))) (fun c1 => wl_st d72_74 rfl rfl rfl rfl (wl_st d72_75 rfl rfl rfl rfl (wl_st d72_77 rfl rfl rfl rfl (And.elim (fun g3 g3k => wl_gr (b := (a0 + 2)) d72_78 pf3_17 (FL.k g3) rfl (FL.r1 g3) (wl_st d72_81 rfl rfl rfl rfl (And.elim (fun g4 g4k => wl_if (g := cm_ok h 13 (a0 + 2) x4) (st' := [.int (cm_I h (a0 + 2) x4.toNatClampNeg), .int x4, .ref 14]) d72_83 rfl rfl rfl rfl (FL.o1 g3 g4) (wl_cv d72_84 rfl rfl rfl pm3_121 (by decide) (ca_v (Or.inr rfl) rfl (Nat.le_of_ble_eq_true rfl) (Nat.le_of_ble_eq_true rfl) (ly_k L 14 rfl).2 (ly_k L 14 rfl).1 (by decide)) g4k)) g3k))) (H.2 c1)))))))
theorem s72_87 {sc : cmS} {d : Nat} {h : cmH} {Q : Option Value → cmH → Prop} (a0 : Nat) (x1 : Int32) (x4 : Int32) (u5 : Option Value) (H : (FL h a0) ∧ (IX 8 x4) ∧ cm_wp sc d 72 67 [some (.ref a0), some (.int x1), some (.ref 1), some (.ref 14), some (.int (x4 + 1)), u5] [] (cm_setI h (a0 + 2) x4.toNatClampNeg (0 : Int32)) Q) : cm_wp sc d 72 87 [some (.ref a0), some (.int x1), some (.ref 1), some (.ref 14), some (.int x4), u5] [] h Q :=
  wl_st d72_87 rfl rfl rfl rfl (And.elim (fun g1 g1k => wl_gr (b := (a0 + 2)) d72_88 pf3_17 (FL.k g1) rfl (FL.r1 g1) (wl_st d72_91 rfl rfl rfl rfl (wl_ic (v := 0) d72_93 rfl (And.elim (fun g2 g2k => wl_if (h' := (cm_setI h (a0 + 2) x4.toNatClampNeg (0 : Int32))) d72_94 rfl rfl rfl rfl (FL.o1 g1 g2) (wl_st (ls' := [some (.ref a0), some (.int x1), some (.ref 1), some (.ref 14), some (.int (x4 + 1)), u5]) d72_95 rfl rfl rfl rfl (wl_go (tgt := 67) d72_98 (by decide) (g2k)))) g1k)))) H)
-- ClogHouse$Filter.weightNow()J
theorem d76_0 : decode (cm_M 76).2.2.1 0 = .ok (.aload_n 0, 1) := by decide +kernel
theorem d76_1 : decode (cm_M 76).2.2.1 1 = .ok (.invokevirtual 68, 3) := by decide +kernel
theorem d76_4 : decode (cm_M 76).2.2.1 4 = .ok (.istore_n 1, 1) := by decide +kernel
theorem d76_5 : decode (cm_M 76).2.2.1 5 = .ok (.iload_n 1, 1) := by decide +kernel
theorem d76_6 : decode (cm_M 76).2.2.1 6 = .ok (.iconst (-1), 1) := by decide +kernel
theorem d76_7 : decode (cm_M 76).2.2.1 7 = .ok (.if_icmp .ne 7, 3) := by decide +kernel
theorem d76_10 : decode (cm_M 76).2.2.1 10 = .ok (.lconst 0, 1) := by decide +kernel
theorem d76_11 : decode (cm_M 76).2.2.1 11 = .ok (.goto 20, 3) := by decide +kernel
theorem d76_14 : decode (cm_M 76).2.2.1 14 = .ok (.ldc2_w 71, 3) := by decide +kernel
theorem d76_17 : decode (cm_M 76).2.2.1 17 = .ok (.iconst 1, 1) := by decide +kernel
theorem d76_18 : decode (cm_M 76).2.2.1 18 = .ok (.iload_n 1, 1) := by decide +kernel
theorem d76_19 : decode (cm_M 76).2.2.1 19 = .ok (.aload_n 0, 1) := by decide +kernel
theorem d76_20 : decode (cm_M 76).2.2.1 20 = .ok (.invokevirtual 73, 3) := by decide +kernel
theorem d76_23 : decode (cm_M 76).2.2.1 23 = .ok (.iadd, 1) := by decide +kernel
theorem d76_24 : decode (cm_M 76).2.2.1 24 = .ok (.invokestatic 76, 3) := by decide +kernel
theorem d76_27 : decode (cm_M 76).2.2.1 27 = .ok (.i2l, 1) := by decide +kernel
theorem d76_28 : decode (cm_M 76).2.2.1 28 = .ok (.invokestatic 82, 3) := by decide +kernel
theorem d76_31 : decode (cm_M 76).2.2.1 31 = .ok (.lreturn, 1) := by decide +kernel
theorem s76_0 {sc : cmS} {d : Nat} {h : cmH} {Q : Option Value → cmH → Prop} (a0 : Nat) (u1 : Option Value) (H : (FL h a0) ∧ cm_ci sc d 30 [.ref a0] h (fun r h' => cm_wp sc (d + 1) 76 4 [some (.ref a0), u1] [.int r] h' Q)) : cm_wp sc (d + 1) 76 0 [some (.ref a0), u1] [] h Q :=
  wl_st d76_0 rfl rfl rfl rfl (And.elim (fun g1 g1k => wl_ci d76_1 rfl rfl rfl pm3_68 (by decide) (ca_v (Or.inl rfl) rfl (Nat.le_of_ble_eq_true rfl) (Nat.le_of_ble_eq_true rfl) (FL.k g1).2 (FL.k g1).1 (by decide)) g1k) H)
theorem s76_4 {sc : cmS} {d : Nat} {h : cmH} {Q : Option Value → cmH → Prop} (a0 : Nat) (u1 : Option Value) (sx0 : Int32) (H : (((¬ sx0 = (-1 : Int32)) → (FL h a0) ∧ cm_ci sc d 29 [.ref a0] h (fun r h' => cm_wp sc (d + 1) 76 23 [some (.ref a0), some (.int sx0)] [.int r, .int sx0, .int (1 : Int32), .long (1000000 : Int64)] h' Q)) ∧ (¬ (¬ sx0 = (-1 : Int32)) → cm_wp sc (d + 1) 76 31 [some (.ref a0), some (.int sx0)] [.long (0 : Int64)] h Q))) : cm_wp sc (d + 1) 76 4 [some (.ref a0), u1] [.int sx0] h Q :=
  wl_st (ls' := [some (.ref a0), some (.int sx0)]) d76_4 rfl rfl rfl rfl (wl_st d76_5 rfl rfl rfl rfl (wl_ic (v := (-1)) d76_6 rfl (wl_cb (b := ¬ sx0 = (-1 : Int32)) (off := 7) (tgt := 14) (pc3 := 10) (st' := []) d76_7 rfl rfl rfl rfl (by decide) rfl (fun c1 => wl_cJ (v := 1000000) d76_14 pj3_71 (wl_ic (v := 1) d76_17 rfl (wl_st d76_18 rfl rfl rfl rfl (wl_st d76_19 rfl rfl rfl rfl (And.elim (fun g2 g2k => wl_ci d76_20 rfl rfl rfl pm3_73 (by decide) (ca_v (Or.inl rfl) rfl (Nat.le_of_ble_eq_true rfl) (Nat.le_of_ble_eq_true rfl) (FL.k g2).2 (FL.k g2).1 (by decide)) g2k) (H.1 c1)))))) (fun c1 => wl_lc (v := 0) d76_10 rfl (wl_go (tgt := 31) d76_11 (by decide) ((H.2 c1)))))))
theorem s76_23 {sc : cmS} {d : Nat} {h : cmH} {Q : Option Value → cmH → Prop} (a0 : Nat) (x1 : Int32) (sx0 : Int32) (sx1 : Int32) (sx2 : Int32) (sy3 : Int64) (H : cm_cj' sc d 33 [.long sy3, .long ((if sx2 < (sx1 + sx0) then (sx1 + sx0) else sx2).toInt64)] h (fun r h' => cm_wp sc (d + 1) 76 31 [some (.ref a0), some (.int x1)] [.long r] h' Q)) : cm_wp sc (d + 1) 76 23 [some (.ref a0), some (.int x1)] [.int sx0, .int sx1, .int sx2, .long sy3] h Q :=
  wl_st d76_23 rfl rfl rfl rfl (wl_pr (st' := [.int (if sx2 < (sx1 + sx0) then (sx1 + sx0) else sx2), .long sy3]) d76_24 rfl rfl rfl pm3_76 (by decide) rfl rfl (wl_st d76_27 rfl rfl rfl rfl (wl_cj d76_28 rfl rfl rfl pm3_82 (by decide) (ca_s (Or.inr rfl) rfl (Nat.le_of_ble_eq_true rfl) (Nat.le_of_ble_eq_true rfl)) H)))
theorem s76_31 {sc : cmS} {d : Nat} {h : cmH} {Q : Option Value → cmH → Prop} (a0 : Nat) (x1 : Int32) (sy0 : Int64) (H : Q (some (.long sy0)) h) : cm_wp sc d 76 31 [some (.ref a0), some (.int x1)] [.long sy0] h Q :=
  wl_rt d76_31 rfl rfl rfl H
-- ClogHouse$Filter.loadInAll()I
theorem d84_0 : decode (cm_M 84).2.2.1 0 = .ok (.iconst 0, 1) := by decide +kernel
theorem d84_1 : decode (cm_M 84).2.2.1 1 = .ok (.istore_n 1, 1) := by decide +kernel
theorem d84_2 : decode (cm_M 84).2.2.1 2 = .ok (.iconst 0, 1) := by decide +kernel
theorem d84_3 : decode (cm_M 84).2.2.1 3 = .ok (.istore_n 2, 1) := by decide +kernel
theorem d84_4 : decode (cm_M 84).2.2.1 4 = .ok (.iload_n 2, 1) := by decide +kernel
theorem d84_5 : decode (cm_M 84).2.2.1 5 = .ok (.bipush 8, 2) := by decide +kernel
theorem d84_7 : decode (cm_M 84).2.2.1 7 = .ok (.if_icmp .ge 18, 3) := by decide +kernel
theorem d84_10 : decode (cm_M 84).2.2.1 10 = .ok (.iload_n 1, 1) := by decide +kernel
theorem d84_11 : decode (cm_M 84).2.2.1 11 = .ok (.aload_n 0, 1) := by decide +kernel
theorem d84_12 : decode (cm_M 84).2.2.1 12 = .ok (.getfield 21, 3) := by decide +kernel
theorem d84_15 : decode (cm_M 84).2.2.1 15 = .ok (.iload_n 2, 1) := by decide +kernel
theorem d84_16 : decode (cm_M 84).2.2.1 16 = .ok (.iaload, 1) := by decide +kernel
theorem d84_17 : decode (cm_M 84).2.2.1 17 = .ok (.iadd, 1) := by decide +kernel
theorem d84_18 : decode (cm_M 84).2.2.1 18 = .ok (.istore_n 1, 1) := by decide +kernel
theorem d84_19 : decode (cm_M 84).2.2.1 19 = .ok (.iinc 2 1, 3) := by decide +kernel
theorem d84_22 : decode (cm_M 84).2.2.1 22 = .ok (.goto (-18), 3) := by decide +kernel
theorem d84_25 : decode (cm_M 84).2.2.1 25 = .ok (.iload_n 1, 1) := by decide +kernel
theorem d84_26 : decode (cm_M 84).2.2.1 26 = .ok (.ireturn, 1) := by decide +kernel
theorem s84_0 {sc : cmS} {d : Nat} {h : cmH} {Q : Option Value → cmH → Prop} (a0 : Nat) (u1 : Option Value) (u2 : Option Value) (H : cm_wp sc d 84 4 [some (.ref a0), some (.int (0 : Int32)), some (.int (0 : Int32))] [] h Q) : cm_wp sc d 84 0 [some (.ref a0), u1, u2] [] h Q :=
  wl_ic (v := 0) d84_0 rfl (wl_st (ls' := [some (.ref a0), some (.int (0 : Int32)), u2]) d84_1 rfl rfl rfl rfl (wl_ic (v := 0) d84_2 rfl (wl_st (ls' := [some (.ref a0), some (.int (0 : Int32)), some (.int (0 : Int32))]) d84_3 rfl rfl rfl rfl (H))))
theorem s84_4 {sc : cmS} {d : Nat} {h : cmH} {Q : Option Value → cmH → Prop} (a0 : Nat) (x1 : Int32) (x2 : Int32) (H : ((((8 : Int32) ≤ x2) → Q (some (.int x1)) h) ∧ (¬ ((8 : Int32) ≤ x2) → (FL h a0) ∧ (IX 8 x2) ∧ cm_wp sc d 84 4 [some (.ref a0), some (.int (x1 + (cm_I h (a0 + 3) x2.toNatClampNeg))), some (.int (x2 + 1))] [] h Q))) : cm_wp sc d 84 4 [some (.ref a0), some (.int x1), some (.int x2)] [] h Q :=
  wl_st d84_4 rfl rfl rfl rfl (wl_bi (v := 8) d84_5 rfl (wl_cb (b := (8 : Int32) ≤ x2) (off := 18) (tgt := 25) (pc3 := 10) (st' := []) d84_7 rfl rfl rfl rfl (by decide) rfl (fun c1 => wl_st d84_25 rfl rfl rfl rfl (wl_rt d84_26 rfl rfl rfl (H.1 c1))) (fun c1 => wl_st d84_10 rfl rfl rfl rfl (wl_st d84_11 rfl rfl rfl rfl (And.elim (fun g2 g2k => wl_gr (b := (a0 + 3)) d84_12 pf3_21 (FL.k g2) rfl (FL.r2 g2) (wl_st d84_15 rfl rfl rfl rfl (And.elim (fun g3 g3k => wl_if (g := cm_ok h 13 (a0 + 3) x2) (st' := [.int (cm_I h (a0 + 3) x2.toNatClampNeg), .int x1]) d84_16 rfl rfl rfl rfl (FL.o2 g2 g3) (wl_st d84_17 rfl rfl rfl rfl (wl_st (ls' := [some (.ref a0), some (.int (x1 + (cm_I h (a0 + 3) x2.toNatClampNeg))), some (.int x2)]) d84_18 rfl rfl rfl rfl (wl_st (ls' := [some (.ref a0), some (.int (x1 + (cm_I h (a0 + 3) x2.toNatClampNeg))), some (.int (x2 + 1))]) d84_19 rfl rfl rfl rfl (wl_go (tgt := 4) d84_22 (by decide) (g3k)))))) g2k))) (H.2 c1))))))
-- ClogHouse$Filter.pass(ILClogHouse$Grains;)Z
theorem d85_0 : decode (cm_M 85).2.2.1 0 = .ok (.aload_n 0, 1) := by decide +kernel
theorem d85_1 : decode (cm_M 85).2.2.1 1 = .ok (.iload_n 1, 1) := by decide +kernel
theorem d85_2 : decode (cm_M 85).2.2.1 2 = .ok (.invokevirtual 91, 3) := by decide +kernel
theorem d85_5 : decode (cm_M 85).2.2.1 5 = .ok (.istore_n 3, 1) := by decide +kernel
theorem d85_6 : decode (cm_M 85).2.2.1 6 = .ok (.iload_n 3, 1) := by decide +kernel
theorem d85_7 : decode (cm_M 85).2.2.1 7 = .ok (.iconst (-1), 1) := by decide +kernel
theorem d85_8 : decode (cm_M 85).2.2.1 8 = .ok (.if_icmp .ne 5, 3) := by decide +kernel
theorem d85_11 : decode (cm_M 85).2.2.1 11 = .ok (.iconst 0, 1) := by decide +kernel
theorem d85_12 : decode (cm_M 85).2.2.1 12 = .ok (.ireturn, 1) := by decide +kernel
theorem d85_13 : decode (cm_M 85).2.2.1 13 = .ok (.aload_n 0, 1) := by decide +kernel
theorem d85_14 : decode (cm_M 85).2.2.1 14 = .ok (.iload_n 3, 1) := by decide +kernel
theorem d85_15 : decode (cm_M 85).2.2.1 15 = .ok (.putfield 95, 3) := by decide +kernel
theorem d85_18 : decode (cm_M 85).2.2.1 18 = .ok (.aload_n 0, 1) := by decide +kernel
theorem d85_19 : decode (cm_M 85).2.2.1 19 = .ok (.iconst 0, 1) := by decide +kernel
theorem d85_20 : decode (cm_M 85).2.2.1 20 = .ok (.invokevirtual 57, 3) := by decide +kernel
theorem d85_23 : decode (cm_M 85).2.2.1 23 = .ok (.astore 4, 2) := by decide +kernel
theorem d85_25 : decode (cm_M 85).2.2.1 25 = .ok (.aload 4, 2) := by decide +kernel
theorem d85_27 : decode (cm_M 85).2.2.1 27 = .ok (.ifnonnull 8, 3) := by decide +kernel
theorem d85_30 : decode (cm_M 85).2.2.1 30 = .ok (.bipush 8, 2) := by decide +kernel
theorem d85_32 : decode (cm_M 85).2.2.1 32 = .ok (.goto 8, 3) := by decide +kernel
theorem d85_35 : decode (cm_M 85).2.2.1 35 = .ok (.aload 4, 2) := by decide +kernel
theorem d85_37 : decode (cm_M 85).2.2.1 37 = .ok (.invokevirtual 98, 3) := by decide +kernel
theorem d85_40 : decode (cm_M 85).2.2.1 40 = .ok (.istore 5, 2) := by decide +kernel
theorem d85_42 : decode (cm_M 85).2.2.1 42 = .ok (.iload 5, 2) := by decide +kernel
theorem d85_44 : decode (cm_M 85).2.2.1 44 = .ok (.istore 6, 2) := by decide +kernel
theorem d85_46 : decode (cm_M 85).2.2.1 46 = .ok (.iload 6, 2) := by decide +kernel
theorem d85_48 : decode (cm_M 85).2.2.1 48 = .ok (.bipush 8, 2) := by decide +kernel
theorem d85_50 : decode (cm_M 85).2.2.1 50 = .ok (.if_icmp .ge 42, 3) := by decide +kernel
theorem d85_53 : decode (cm_M 85).2.2.1 53 = .ok (.iload 6, 2) := by decide +kernel
theorem d85_55 : decode (cm_M 85).2.2.1 55 = .ok (.invokestatic 53, 3) := by decide +kernel
theorem d85_58 : decode (cm_M 85).2.2.1 58 = .ok (.ifCond .eq 28, 3) := by decide +kernel
theorem d85_61 : decode (cm_M 85).2.2.1 61 = .ok (.aload_n 0, 1) := by decide +kernel
theorem d85_62 : decode (cm_M 85).2.2.1 62 = .ok (.getfield 17, 3) := by decide +kernel
theorem d85_65 : decode (cm_M 85).2.2.1 65 = .ok (.iload 6, 2) := by decide +kernel
theorem d85_67 : decode (cm_M 85).2.2.1 67 = .ok (.dup2, 1) := by decide +kernel
theorem d85_68 : decode (cm_M 85).2.2.1 68 = .ok (.iaload, 1) := by decide +kernel
theorem d85_69 : decode (cm_M 85).2.2.1 69 = .ok (.aload_n 0, 1) := by decide +kernel
theorem d85_70 : decode (cm_M 85).2.2.1 70 = .ok (.getfield 21, 3) := by decide +kernel
theorem d85_73 : decode (cm_M 85).2.2.1 73 = .ok (.iload 6, 2) := by decide +kernel
theorem d85_75 : decode (cm_M 85).2.2.1 75 = .ok (.iaload, 1) := by decide +kernel
theorem d85_76 : decode (cm_M 85).2.2.1 76 = .ok (.iadd, 1) := by decide +kernel
theorem d85_77 : decode (cm_M 85).2.2.1 77 = .ok (.iastore, 1) := by decide +kernel
theorem d85_78 : decode (cm_M 85).2.2.1 78 = .ok (.aload_n 0, 1) := by decide +kernel
theorem d85_79 : decode (cm_M 85).2.2.1 79 = .ok (.getfield 21, 3) := by decide +kernel
theorem d85_82 : decode (cm_M 85).2.2.1 82 = .ok (.iload 6, 2) := by decide +kernel
theorem d85_84 : decode (cm_M 85).2.2.1 84 = .ok (.iconst 0, 1) := by decide +kernel
theorem d85_85 : decode (cm_M 85).2.2.1 85 = .ok (.iastore, 1) := by decide +kernel
theorem d85_86 : decode (cm_M 85).2.2.1 86 = .ok (.iinc 6 1, 3) := by decide +kernel
theorem d85_89 : decode (cm_M 85).2.2.1 89 = .ok (.goto (-43), 3) := by decide +kernel
theorem d85_92 : decode (cm_M 85).2.2.1 92 = .ok (.iconst 0, 1) := by decide +kernel
theorem d85_93 : decode (cm_M 85).2.2.1 93 = .ok (.istore 6, 2) := by decide +kernel
theorem d85_95 : decode (cm_M 85).2.2.1 95 = .ok (.iload 6, 2) := by decide +kernel
theorem d85_97 : decode (cm_M 85).2.2.1 97 = .ok (.aload_n 0, 1) := by decide +kernel
theorem d85_98 : decode (cm_M 85).2.2.1 98 = .ok (.getfield 43, 3) := by decide +kernel
theorem d85_101 : decode (cm_M 85).2.2.1 101 = .ok (.if_icmp .ge 32, 3) := by decide +kernel
theorem d85_104 : decode (cm_M 85).2.2.1 104 = .ok (.aload_n 0, 1) := by decide +kernel
theorem d85_105 : decode (cm_M 85).2.2.1 105 = .ok (.iload 6, 2) := by decide +kernel
theorem d85_107 : decode (cm_M 85).2.2.1 107 = .ok (.invokevirtual 57, 3) := by decide +kernel
theorem d85_110 : decode (cm_M 85).2.2.1 110 = .ok (.astore 7, 2) := by decide +kernel
theorem d85_112 : decode (cm_M 85).2.2.1 112 = .ok (.aload 7, 2) := by decide +kernel
theorem d85_114 : decode (cm_M 85).2.2.1 114 = .ok (.ifnull 13, 3) := by decide +kernel
theorem d85_117 : decode (cm_M 85).2.2.1 117 = .ok (.aload 7, 2) := by decide +kernel
theorem d85_119 : decode (cm_M 85).2.2.1 119 = .ok (.aload_n 0, 1) := by decide +kernel
theorem d85_120 : decode (cm_M 85).2.2.1 120 = .ok (.getfield 21, 3) := by decide +kernel
theorem d85_123 : decode (cm_M 85).2.2.1 123 = .ok (.aload_n 2, 1) := by decide +kernel
theorem d85_124 : decode (cm_M 85).2.2.1 124 = .ok (.invokevirtual 101, 3) := by decide +kernel
theorem d85_127 : decode (cm_M 85).2.2.1 127 = .ok (.iinc 6 1, 3) := by decide +kernel
theorem d85_130 : decode (cm_M 85).2.2.1 130 = .ok (.goto (-35), 3) := by decide +kernel
theorem d85_133 : decode (cm_M 85).2.2.1 133 = .ok (.iconst 1, 1) := by decide +kernel
theorem d85_134 : decode (cm_M 85).2.2.1 134 = .ok (.ireturn, 1) := by decide +kernel
theorem s85_0 {sc : cmS} {d : Nat} {h : cmH} {Q : Option Value → cmH → Prop} (a0 : Nat) (x1 : Int32) (u3 : Option Value) (u4 : Option Value) (u5 : Option Value) (u6 : Option Value) (u7 : Option Value) (H : (FL h a0) ∧ cm_ci sc d 32 [.ref a0, .int x1] h (fun r h' => cm_wp sc (d + 1) 85 5 [some (.ref a0), some (.int x1), some (.ref 1), u3, u4, u5, u6, u7] [.int r] h' Q)) : cm_wp sc (d + 1) 85 0 [some (.ref a0), some (.int x1), some (.ref 1), u3, u4, u5, u6, u7] [] h Q :=
  wl_st d85_0 rfl rfl rfl rfl (wl_st d85_1 rfl rfl rfl rfl (And.elim (fun g1 g1k => wl_ci d85_2 rfl rfl rfl pm3_91 (by decide) (ca_v (Or.inl rfl) rfl (Nat.le_of_ble_eq_true rfl) (Nat.le_of_ble_eq_true rfl) (FL.k g1).2 (FL.k g1).1 (by decide)) g1k) H))
theorem s85_5 {sc : cmS} {d : Nat} {h : cmH} {Q : Option Value → cmH → Prop} (a0 : Nat) (x1 : Int32) (u3 : Option Value) (u4 : Option Value) (u5 : Option Value) (u6 : Option Value) (u7 : Option Value) (sx0 : Int32) (H : (((¬ sx0 = (-1 : Int32)) → (FL h a0) ∧ cm_cq sc d 23 [.ref a0, .int (0 : Int32)] (cm_setI h a0 12 sx0) (fun r h' => cm_wp sc (d + 1) 85 23 [some (.ref a0), some (.int x1), some (.ref 1), some (.int sx0), u4, u5, u6, u7] [va_rf r] h' Q)) ∧ (¬ (¬ sx0 = (-1 : Int32)) → Q (some (.int (0 : Int32))) h))) : cm_wp sc (d + 1) 85 5 [some (.ref a0), some (.int x1), some (.ref 1), u3, u4, u5, u6, u7] [.int sx0] h Q :=
  wl_st (ls' := [some (.ref a0), some (.int x1), some (.ref 1), some (.int sx0), u4, u5, u6, u7]) d85_5 rfl rfl rfl rfl (wl_st d85_6 rfl rfl rfl rfl (wl_ic (v := (-1)) d85_7 rfl (wl_cb (b := ¬ sx0 = (-1 : Int32)) (off := 5) (tgt := 13) (pc3 := 11) (st' := []) d85_8 rfl rfl rfl rfl (by decide) rfl (fun c1 => wl_st d85_13 rfl rfl rfl rfl (wl_st d85_14 rfl rfl rfl rfl (And.elim (fun g2 g2k => wl_pf (h' := (cm_setI h a0 12 sx0)) d85_15 pf3_95 (FL.k g2) (Or.inl rfl) rfl (wl_st d85_18 rfl rfl rfl rfl (wl_ic (v := 0) d85_19 rfl (wl_cq d85_20 rfl rfl rfl pm3_57 (by decide) (ca_v (Or.inl rfl) rfl (Nat.le_of_ble_eq_true rfl) (Nat.le_of_ble_eq_true rfl) (FL.k g2).2 (FL.k g2).1 (by decide)) g2k)))) (H.1 c1)))) (fun c1 => wl_ic (v := 0) d85_11 rfl (wl_rz d85_12 rfl (by decide) (H.2 c1))))))
theorem s85_23 {sc : cmS} {d : Nat} {h : cmH} {Q : Option Value → cmH → Prop} (a0 : Nat) (x1 : Int32) (x3 : Int32) (u4 : Option Value) (u5 : Option Value) (u6 : Option Value) (u7 : Option Value) (so0 : Option Nat) (H : ((so0 = none → cm_wp sc (d + 1) 85 40 [some (.ref a0), some (.int x1), some (.ref 1), some (.int x3), some (va_rf so0), u5, u6, u7] [.int (8 : Int32)] h Q) ∧ (∀ b2, so0 = some b2 → (CE h b2) ∧ cm_ci sc d 24 [.ref b2] h (fun r h' => cm_wp sc (d + 1) 85 40 [some (.ref a0), some (.int x1), some (.ref 1), some (.int x3), some (.ref b2), u5, u6, u7] [.int r] h' Q)))) : cm_wp sc (d + 1) 85 23 [some (.ref a0), some (.int x1), some (.ref 1), some (.int x3), u4, u5, u6, u7] [va_rf so0] h Q :=
  wl_as (k := 4) (ls' := [some (.ref a0), some (.int x1), some (.ref 1), some (.int x3), some (va_rf so0), u5, u6, u7]) d85_23 (Or.inl ⟨rfl, rfl⟩) (Nat.le_of_ble_eq_true rfl) rfl (wl_al (k := 4) d85_25 (Or.inl ⟨rfl, rfl⟩) rfl (wl_nn (o := so0) (tgt := 35) (pc3 := 30) d85_27 (by decide) rfl (fun b2 c1 => cm_rw (fun oo => cm_wp sc (d + 1) 85 35 [some (.ref a0), some (.int x1), some (.ref 1), some (.int x3), some (va_rf oo), u5, u6, u7] [] h Q) c1 (wl_st d85_35 rfl rfl rfl rfl (And.elim (fun g3 g3k => wl_ci d85_37 rfl rfl rfl pm3_98 (by decide) (ca_v (Or.inr rfl) rfl (Nat.le_of_ble_eq_true rfl) (Nat.le_of_ble_eq_true rfl) (CE.k g3).2 (CE.k g3).1 (by decide)) g3k) (H.2 b2 c1)))) (fun c1 => wl_bi (v := 8) d85_30 rfl (wl_go (tgt := 40) d85_32 (by decide) ((H.1 c1))))))
theorem s85_40 {sc : cmS} {d : Nat} {h : cmH} {Q : Option Value → cmH → Prop} (a0 : Nat) (x1 : Int32) (x3 : Int32) (o4 : Option Nat) (u5 : Option Value) (u6 : Option Value) (u7 : Option Value) (sx0 : Int32) (H : cm_wp sc d 85 46 [some (.ref a0), some (.int x1), some (.ref 1), some (.int x3), some (va_rf o4), some (.int sx0), some (.int sx0), u7] [] h Q) : cm_wp sc d 85 40 [some (.ref a0), some (.int x1), some (.ref 1), some (.int x3), some (va_rf o4), u5, u6, u7] [.int sx0] h Q :=
  wl_is (ls' := [some (.ref a0), some (.int x1), some (.ref 1), some (.int x3), some (va_rf o4), some (.int sx0), u6, u7]) d85_40 (Nat.le_of_ble_eq_true rfl) (by simp [cm_ls1, cm_ls2, cm_clr, cm_isJq]) (wl_st d85_42 rfl rfl rfl rfl (wl_st (ls' := [some (.ref a0), some (.int x1), some (.ref 1), some (.int x3), some (va_rf o4), some (.int sx0), some (.int sx0), u7]) d85_44 rfl rfl rfl rfl (H)))
theorem s85_46 {sc : cmS} {d : Nat} {h : cmH} {Q : Option Value → cmH → Prop} (a0 : Nat) (x1 : Int32) (x3 : Int32) (o4 : Option Nat) (x5 : Int32) (x6 : Int32) (u7 : Option Value) (H : ((((8 : Int32) ≤ x6) → cm_wp sc (d + 1) 85 95 [some (.ref a0), some (.int x1), some (.ref 1), some (.int x3), some (va_rf o4), some (.int x5), some (.int (0 : Int32)), u7] [] h Q) ∧ (¬ ((8 : Int32) ≤ x6) → cm_ci sc d 12 [.int x6] h (fun r h' => cm_wp sc (d + 1) 85 58 [some (.ref a0), some (.int x1), some (.ref 1), some (.int x3), some (va_rf o4), some (.int x5), some (.int x6), u7] [.int r] h' Q)))) : cm_wp sc (d + 1) 85 46 [some (.ref a0), some (.int x1), some (.ref 1), some (.int x3), some (va_rf o4), some (.int x5), some (.int x6), u7] [] h Q :=
  wl_st d85_46 rfl rfl rfl rfl (wl_bi (v := 8) d85_48 rfl (wl_cb (b := (8 : Int32) ≤ x6) (off := 42) (tgt := 92) (pc3 := 53) (st' := []) d85_50 rfl rfl rfl rfl (by decide) rfl (fun c1 => wl_ic (v := 0) d85_92 rfl (wl_st (ls' := [some (.ref a0), some (.int x1), some (.ref 1), some (.int x3), some (va_rf o4), some (.int x5), some (.int (0 : Int32)), u7]) d85_93 rfl rfl rfl rfl ((H.1 c1)))) (fun c1 => wl_st d85_53 rfl rfl rfl rfl (wl_ci d85_55 rfl rfl rfl pm3_53 (by decide) (ca_s (Or.inr rfl) rfl (Nat.le_of_ble_eq_true rfl) (Nat.le_of_ble_eq_true rfl)) (H.2 c1)))))
theorem s85_58 {sc : cmS} {d : Nat} {h : cmH} {Q : Option Value → cmH → Prop} (a0 : Nat) (x1 : Int32) (x3 : Int32) (o4 : Option Nat) (x5 : Int32) (x6 : Int32) (u7 : Option Value) (sx0 : Int32) (H : (((sx0 = 0) → cm_wp sc d 85 86 [some (.ref a0), some (.int x1), some (.ref 1), some (.int x3), some (va_rf o4), some (.int x5), some (.int x6), u7] [] h Q) ∧ (¬ (sx0 = 0) → (FL h a0) ∧ (IX 8 x6) ∧ cm_wp sc d 85 86 [some (.ref a0), some (.int x1), some (.ref 1), some (.int x3), some (va_rf o4), some (.int x5), some (.int x6), u7] [] (cm_setI (cm_setI h (a0 + 2) x6.toNatClampNeg ((cm_I h (a0 + 2) x6.toNatClampNeg) + (cm_I h (a0 + 3) x6.toNatClampNeg))) (a0 + 3) x6.toNatClampNeg (0 : Int32)) Q))) : cm_wp sc d 85 58 [some (.ref a0), some (.int x1), some (.ref 1), some (.int x3), some (va_rf o4), some (.int x5), some (.int x6), u7] [.int sx0] h Q :=
  wl_cb (b := sx0 = 0) (off := 28) (tgt := 86) (pc3 := 61) (st' := []) d85_58 rfl rfl rfl rfl (by decide) rfl (fun c1 => (H.1 c1)) (fun c1 => wl_st d85_61 rfl rfl rfl rfl (And.elim (fun g2 g2k => wl_gr (b := (a0 + 2)) d85_62 pf3_17 (FL.k g2) rfl (FL.r1 g2) (wl_st d85_65 rfl rfl rfl rfl (wl_st d85_67 rfl rfl rfl rfl (And.elim (fun g3 g3k => wl_if (g := cm_ok h 13 (a0 + 2) x6) (st' := [.int (cm_I h (a0 + 2) x6.toNatClampNeg), .int x6, .ref (a0 + 2)]) d85_68 rfl rfl rfl rfl (FL.o1 g2 g3) (wl_st d85_69 rfl rfl rfl rfl (wl_gr (b := (a0 + 3)) d85_70 pf3_21 (FL.k g2) rfl (FL.r2 g2) (wl_st d85_73 rfl rfl rfl rfl (wl_if (g := cm_ok h 13 (a0 + 3) x6) (st' := [.int (cm_I h (a0 + 3) x6.toNatClampNeg), .int (cm_I h (a0 + 2) x6.toNatClampNeg), .int x6, .ref (a0 + 2)]) d85_75 rfl rfl rfl rfl (FL.o2 g2 g3) (wl_st d85_76 rfl rfl rfl rfl (wl_if (h' := (cm_setI h (a0 + 2) x6.toNatClampNeg ((cm_I h (a0 + 2) x6.toNatClampNeg) + (cm_I h (a0 + 3) x6.toNatClampNeg)))) d85_77 rfl rfl rfl rfl (FL.o1 g2 g3) (wl_st d85_78 rfl rfl rfl rfl (wl_gr (b := (a0 + 3)) d85_79 pf3_21 (FL.k g2) rfl (FL.r2 g2) (wl_st d85_82 rfl rfl rfl rfl (wl_ic (v := 0) d85_84 rfl (wl_if (h' := (cm_setI (cm_setI h (a0 + 2) x6.toNatClampNeg ((cm_I h (a0 + 2) x6.toNatClampNeg) + (cm_I h (a0 + 3) x6.toNatClampNeg))) (a0 + 3) x6.toNatClampNeg (0 : Int32))) d85_85 rfl rfl rfl rfl (FL.o2 g2 g3) (g3k))))))))))))) g2k)))) (H.2 c1)))
theorem s85_86 {sc : cmS} {d : Nat} {h : cmH} {Q : Option Value → cmH → Prop} (a0 : Nat) (x1 : Int32) (x3 : Int32) (o4 : Option Nat) (x5 : Int32) (x6 : Int32) (u7 : Option Value) (H : cm_wp sc d 85 46 [some (.ref a0), some (.int x1), some (.ref 1), some (.int x3), some (va_rf o4), some (.int x5), some (.int (x6 + 1)), u7] [] h Q) : cm_wp sc d 85 86 [some (.ref a0), some (.int x1), some (.ref 1), some (.int x3), some (va_rf o4), some (.int x5), some (.int x6), u7] [] h Q :=
  wl_st (ls' := [some (.ref a0), some (.int x1), some (.ref 1), some (.int x3), some (va_rf o4), some (.int x5), some (.int (x6 + 1)), u7]) d85_86 rfl rfl rfl rfl (wl_go (tgt := 46) d85_89 (by decide) (H))
theorem s85_95 {sc : cmS} {d : Nat} {h : cmH} {Q : Option Value → cmH → Prop} (a0 : Nat) (x1 : Int32) (x3 : Int32) (o4 : Option Nat) (x5 : Int32) (x6 : Int32) (u7 : Option Value) (H : (FL h a0) ∧ ((((cm_I h a0 3) ≤ x6) → Q (some (.int (1 : Int32))) h) ∧ (¬ ((cm_I h a0 3) ≤ x6) → cm_cq sc d 23 [.ref a0, .int x6] h (fun r h' => cm_wp sc (d + 1) 85 110 [some (.ref a0), some (.int x1), some (.ref 1), some (.int x3), some (va_rf o4), some (.int x5), some (.int x6), u7] [va_rf r] h' Q)))) : cm_wp sc (d + 1) 85 95 [some (.ref a0), some (.int x1), some (.ref 1), some (.int x3), some (va_rf o4), some (.int x5), some (.int x6), u7] [] h Q :=
  wl_st d85_95 rfl rfl rfl rfl (wl_st d85_97 rfl rfl rfl rfl (And.elim (fun g1 g1k => wl_gf (v := .int (cm_I h a0 3)) d85_98 pf3_43 (FL.k g1) rfl (wl_cb (b := (cm_I h a0 3) ≤ x6) (off := 32) (tgt := 133) (pc3 := 104) (st' := []) d85_101 rfl rfl rfl rfl (by decide) rfl (fun c2 => wl_ic (v := 1) d85_133 rfl (wl_rz d85_134 rfl (by decide) (g1k.1 c2))) (fun c2 => wl_st d85_104 rfl rfl rfl rfl (wl_st d85_105 rfl rfl rfl rfl (wl_cq d85_107 rfl rfl rfl pm3_57 (by decide) (ca_v (Or.inl rfl) rfl (Nat.le_of_ble_eq_true rfl) (Nat.le_of_ble_eq_true rfl) (FL.k g1).2 (FL.k g1).1 (by decide)) (g1k.2 c2)))))) H))
theorem s85_110 {sc : cmS} {d : Nat} {h : cmH} {Q : Option Value → cmH → Prop} (a0 : Nat) (x1 : Int32) (x3 : Int32) (o4 : Option Nat) (x5 : Int32) (x6 : Int32) (u7 : Option Value) (so0 : Option Nat) (H : ((so0 = none → cm_wp sc (d + 1) 85 127 [some (.ref a0), some (.int x1), some (.ref 1), some (.int x3), some (va_rf o4), some (.int x5), some (.int x6), some (va_rf so0)] [] h Q) ∧ (∀ b2, so0 = some b2 → (FL h a0) ∧ (CE h b2) ∧ cm_cv sc d 86 [.ref b2, .ref (a0 + 3), .ref 1] h (fun h' => cm_wp sc (d + 1) 85 127 [some (.ref a0), some (.int x1), some (.ref 1), some (.int x3), some (va_rf o4), some (.int x5), some (.int x6), some (.ref b2)] [] h' Q)))) : cm_wp sc (d + 1) 85 110 [some (.ref a0), some (.int x1), some (.ref 1), some (.int x3), some (va_rf o4), some (.int x5), some (.int x6), u7] [va_rf so0] h Q :=
  wl_as (k := 7) (ls' := [some (.ref a0), some (.int x1), some (.ref 1), some (.int x3), some (va_rf o4), some (.int x5), some (.int x6), some (va_rf so0)]) d85_110 (Or.inl ⟨rfl, rfl⟩) (Nat.le_of_ble_eq_true rfl) rfl (wl_al (k := 7) d85_112 (Or.inl ⟨rfl, rfl⟩) rfl (wl_nu (o := so0) (tgt := 127) (pc3 := 117) d85_114 (by decide) rfl (fun c1 => (H.1 c1)) (fun b2 c1 => cm_rw (fun oo => cm_wp sc (d + 1) 85 117 [some (.ref a0), some (.int x1), some (.ref 1), some (.int x3), some (va_rf o4), some (.int x5), some (.int x6), some (va_rf oo)] [] h Q) c1 (wl_st d85_117 rfl rfl rfl rfl (wl_st d85_119 rfl rfl rfl rfl (And.elim (fun g3 g3k => wl_gr (b := (a0 + 3)) d85_120 pf3_21 (FL.k g3) rfl (FL.r2 g3) (wl_st d85_123 rfl rfl rfl rfl (And.elim (fun g4 g4k => wl_cv d85_124 rfl rfl rfl pm3_101 (by decide) (ca_v (Or.inr rfl) rfl (Nat.le_of_ble_eq_true rfl) (Nat.le_of_ble_eq_true rfl) (CE.k g4).2 (CE.k g4).1 (by decide)) g4k) g3k))) (H.2 b2 c1)))))))
theorem s85_127 {sc : cmS} {d : Nat} {h : cmH} {Q : Option Value → cmH → Prop} (a0 : Nat) (x1 : Int32) (x3 : Int32) (o4 : Option Nat) (x5 : Int32) (x6 : Int32) (o7 : Option Nat) (H : cm_wp sc d 85 95 [some (.ref a0), some (.int x1), some (.ref 1), some (.int x3), some (va_rf o4), some (.int x5), some (.int (x6 + 1)), some (va_rf o7)] [] h Q) : cm_wp sc d 85 127 [some (.ref a0), some (.int x1), some (.ref 1), some (.int x3), some (va_rf o4), some (.int x5), some (.int x6), some (va_rf o7)] [] h Q :=
  wl_st (ls' := [some (.ref a0), some (.int x1), some (.ref 1), some (.int x3), some (va_rf o4), some (.int x5), some (.int (x6 + 1)), some (va_rf o7)]) d85_127 rfl rfl rfl rfl (wl_go (tgt := 95) d85_130 (by decide) (H))
-- ClogHouse$Filter.rememberBest(II)V
theorem d88_0 : decode (cm_M 88).2.2.1 0 = .ok (.iload_n 2, 1) := by decide +kernel
theorem d88_1 : decode (cm_M 88).2.2.1 1 = .ok (.ifCond .le 35, 3) := by decide +kernel
theorem d88_4 : decode (cm_M 88).2.2.1 4 = .ok (.aload_n 0, 1) := by decide +kernel
theorem d88_5 : decode (cm_M 88).2.2.1 5 = .ok (.getfield 40, 3) := by decide +kernel
theorem d88_8 : decode (cm_M 88).2.2.1 8 = .ok (.iconst (-1), 1) := by decide +kernel
theorem d88_9 : decode (cm_M 88).2.2.1 9 = .ok (.if_icmp .eq 14, 3) := by decide +kernel
theorem d88_12 : decode (cm_M 88).2.2.1 12 = .ok (.aload_n 0, 1) := by decide +kernel
theorem d88_13 : decode (cm_M 88).2.2.1 13 = .ok (.getfield 105, 3) := by decide +kernel
theorem d88_16 : decode (cm_M 88).2.2.1 16 = .ok (.aload_n 0, 1) := by decide +kernel
theorem d88_17 : decode (cm_M 88).2.2.1 17 = .ok (.getfield 108, 3) := by decide +kernel
theorem d88_20 : decode (cm_M 88).2.2.1 20 = .ok (.if_icmp .ge 16, 3) := by decide +kernel
theorem d88_23 : decode (cm_M 88).2.2.1 23 = .ok (.aload_n 0, 1) := by decide +kernel
theorem d88_24 : decode (cm_M 88).2.2.1 24 = .ok (.iload_n 1, 1) := by decide +kernel
theorem d88_25 : decode (cm_M 88).2.2.1 25 = .ok (.putfield 40, 3) := by decide +kernel
theorem d88_28 : decode (cm_M 88).2.2.1 28 = .ok (.aload_n 0, 1) := by decide +kernel
theorem d88_29 : decode (cm_M 88).2.2.1 29 = .ok (.aload_n 0, 1) := by decide +kernel
theorem d88_30 : decode (cm_M 88).2.2.1 30 = .ok (.getfield 105, 3) := by decide +kernel
theorem d88_33 : decode (cm_M 88).2.2.1 33 = .ok (.putfield 108, 3) := by decide +kernel
theorem d88_36 : decode (cm_M 88).2.2.1 36 = .ok (.return_, 1) := by decide +kernel
theorem s88_0 {sc : cmS} {d : Nat} {h : cmH} {Q : Option Value → cmH → Prop} (a0 : Nat) (x1 : Int32) (x2 : Int32) (H : (((x2 ≤ 0) → Q none h) ∧ (¬ (x2 ≤ 0) → (FL h a0) ∧ ((((cm_I h a0 14) = (-1 : Int32)) → cm_wp sc d 88 23 [some (.ref a0), some (.int x1), some (.int x2)] [] h Q) ∧ (¬ ((cm_I h a0 14) = (-1 : Int32)) → ((((cm_I h a0 15) ≤ (cm_I h a0 13)) → Q none h) ∧ (¬ ((cm_I h a0 15) ≤ (cm_I h a0 13)) → cm_wp sc d 88 23 [some (.ref a0), some (.int x1), some (.int x2)] [] h Q))))))) : cm_wp sc d 88 0 [some (.ref a0), some (.int x1), some (.int x2)] [] h Q :=
  wl_st d88_0 rfl rfl rfl rfl (wl_cb (b := x2 ≤ 0) (off := 35) (tgt := 36) (pc3 := 4) (st' := []) d88_1 rfl rfl rfl rfl (by decide) rfl (fun c1 => wl_rt d88_36 rfl rfl rfl (H.1 c1)) (fun c1 => wl_st d88_4 rfl rfl rfl rfl (And.elim (fun g2 g2k => wl_gf (v := .int (cm_I h a0 14)) d88_5 pf3_40 (FL.k g2) rfl (wl_ic (v := (-1)) d88_8 rfl (wl_cb (b := (cm_I h a0 14) = (-1 : Int32)) (off := 14) (tgt := 23) (pc3 := 12) (st' := []) d88_9 rfl rfl rfl rfl (by decide) rfl (fun c3 => (g2k.1 c3)) (fun c3 => wl_st d88_12 rfl rfl rfl rfl (wl_gf (v := .int (cm_I h a0 13)) d88_13 pf3_105 (FL.k g2) rfl (wl_st d88_16 rfl rfl rfl rfl (wl_gf (v := .int (cm_I h a0 15)) d88_17 pf3_108 (FL.k g2) rfl (wl_cb (b := (cm_I h a0 15) ≤ (cm_I h a0 13)) (off := 16) (tgt := 36) (pc3 := 23) (st' := []) d88_20 rfl rfl rfl rfl (by decide) rfl (fun c4 => wl_rt d88_36 rfl rfl rfl ((g2k.2 c3).1 c4)) (fun c4 => ((g2k.2 c3).2 c4)))))))))) (H.2 c1))))
theorem s88_23 {sc : cmS} {d : Nat} {h : cmH} {Q : Option Value → cmH → Prop} (a0 : Nat) (x1 : Int32) (x2 : Int32) (H : (FL h a0) ∧ Q none (cm_setI (cm_setI h a0 14 x1) a0 15 (cm_I (cm_setI h a0 14 x1) a0 13))) : cm_wp sc d 88 23 [some (.ref a0), some (.int x1), some (.int x2)] [] h Q :=
  wl_st d88_23 rfl rfl rfl rfl (wl_st d88_24 rfl rfl rfl rfl (And.elim (fun g1 g1k => wl_pf (h' := (cm_setI h a0 14 x1)) d88_25 pf3_40 (FL.k g1) (Or.inl rfl) rfl (wl_st d88_28 rfl rfl rfl rfl (wl_st d88_29 rfl rfl rfl rfl (wl_gf (v := .int (cm_I (cm_setI h a0 14 x1) a0 13)) d88_30 pf3_105 (FL.k g1) rfl (wl_pf (h' := (cm_setI (cm_setI h a0 14 x1) a0 15 (cm_I (cm_setI h a0 14 x1) a0 13))) d88_33 pf3_108 (FL.k g1) (Or.inl rfl) rfl (wl_rt d88_36 rfl rfl rfl g1k)))))) H))
-- ClogHouse$Filter.digestOnto(I)I
theorem d129_0 : decode (cm_M 129).2.2.1 0 = .ok (.bipush 31, 2) := by decide +kernel
theorem d129_2 : decode (cm_M 129).2.2.1 2 = .ok (.iload_n 1, 1) := by decide +kernel
theorem d129_3 : decode (cm_M 129).2.2.1 3 = .ok (.imul, 1) := by decide +kernel
theorem d129_4 : decode (cm_M 129).2.2.1 4 = .ok (.aload_n 0, 1) := by decide +kernel
theorem d129_5 : decode (cm_M 129).2.2.1 5 = .ok (.getfield 37, 3) := by decide +kernel
theorem d129_8 : decode (cm_M 129).2.2.1 8 = .ok (.iadd, 1) := by decide +kernel
theorem d129_9 : decode (cm_M 129).2.2.1 9 = .ok (.istore_n 2, 1) := by decide +kernel
theorem d129_10 : decode (cm_M 129).2.2.1 10 = .ok (.bipush 31, 2) := by decide +kernel
theorem d129_12 : decode (cm_M 129).2.2.1 12 = .ok (.iload_n 2, 1) := by decide +kernel
theorem d129_13 : decode (cm_M 129).2.2.1 13 = .ok (.imul, 1) := by decide +kernel
theorem d129_14 : decode (cm_M 129).2.2.1 14 = .ok (.aload_n 0, 1) := by decide +kernel
theorem d129_15 : decode (cm_M 129).2.2.1 15 = .ok (.getfield 126, 3) := by decide +kernel
theorem d129_18 : decode (cm_M 129).2.2.1 18 = .ok (.iadd, 1) := by decide +kernel
theorem d129_19 : decode (cm_M 129).2.2.1 19 = .ok (.istore_n 2, 1) := by decide +kernel
theorem d129_20 : decode (cm_M 129).2.2.1 20 = .ok (.bipush 31, 2) := by decide +kernel
theorem d129_22 : decode (cm_M 129).2.2.1 22 = .ok (.iload_n 2, 1) := by decide +kernel
theorem d129_23 : decode (cm_M 129).2.2.1 23 = .ok (.imul, 1) := by decide +kernel
theorem d129_24 : decode (cm_M 129).2.2.1 24 = .ok (.aload_n 0, 1) := by decide +kernel
theorem d129_25 : decode (cm_M 129).2.2.1 25 = .ok (.getfield 129, 3) := by decide +kernel
theorem d129_28 : decode (cm_M 129).2.2.1 28 = .ok (.iadd, 1) := by decide +kernel
theorem d129_29 : decode (cm_M 129).2.2.1 29 = .ok (.istore_n 2, 1) := by decide +kernel
theorem d129_30 : decode (cm_M 129).2.2.1 30 = .ok (.iconst 0, 1) := by decide +kernel
theorem d129_31 : decode (cm_M 129).2.2.1 31 = .ok (.istore_n 3, 1) := by decide +kernel
theorem d129_32 : decode (cm_M 129).2.2.1 32 = .ok (.iload_n 3, 1) := by decide +kernel
theorem d129_33 : decode (cm_M 129).2.2.1 33 = .ok (.bipush 8, 2) := by decide +kernel
theorem d129_35 : decode (cm_M 129).2.2.1 35 = .ok (.if_icmp .ge 21, 3) := by decide +kernel
theorem d129_38 : decode (cm_M 129).2.2.1 38 = .ok (.bipush 31, 2) := by decide +kernel
theorem d129_40 : decode (cm_M 129).2.2.1 40 = .ok (.iload_n 2, 1) := by decide +kernel
theorem d129_41 : decode (cm_M 129).2.2.1 41 = .ok (.imul, 1) := by decide +kernel
theorem d129_42 : decode (cm_M 129).2.2.1 42 = .ok (.aload_n 0, 1) := by decide +kernel
theorem d129_43 : decode (cm_M 129).2.2.1 43 = .ok (.getfield 17, 3) := by decide +kernel
theorem d129_46 : decode (cm_M 129).2.2.1 46 = .ok (.iload_n 3, 1) := by decide +kernel
theorem d129_47 : decode (cm_M 129).2.2.1 47 = .ok (.iaload, 1) := by decide +kernel
theorem d129_48 : decode (cm_M 129).2.2.1 48 = .ok (.iadd, 1) := by decide +kernel
theorem d129_49 : decode (cm_M 129).2.2.1 49 = .ok (.istore_n 2, 1) := by decide +kernel
theorem d129_50 : decode (cm_M 129).2.2.1 50 = .ok (.iinc 3 1, 3) := by decide +kernel
theorem d129_53 : decode (cm_M 129).2.2.1 53 = .ok (.goto (-21), 3) := by decide +kernel
theorem d129_56 : decode (cm_M 129).2.2.1 56 = .ok (.iconst 0, 1) := by decide +kernel
theorem d129_57 : decode (cm_M 129).2.2.1 57 = .ok (.istore_n 3, 1) := by decide +kernel
theorem d129_58 : decode (cm_M 129).2.2.1 58 = .ok (.iload_n 3, 1) := by decide +kernel
theorem d129_59 : decode (cm_M 129).2.2.1 59 = .ok (.aload_n 0, 1) := by decide +kernel
theorem d129_60 : decode (cm_M 129).2.2.1 60 = .ok (.getfield 43, 3) := by decide +kernel
theorem d129_63 : decode (cm_M 129).2.2.1 63 = .ok (.if_icmp .ge 76, 3) := by decide +kernel
theorem d129_66 : decode (cm_M 129).2.2.1 66 = .ok (.aload_n 0, 1) := by decide +kernel
theorem d129_67 : decode (cm_M 129).2.2.1 67 = .ok (.iload_n 3, 1) := by decide +kernel
theorem d129_68 : decode (cm_M 129).2.2.1 68 = .ok (.invokevirtual 57, 3) := by decide +kernel
theorem d129_71 : decode (cm_M 129).2.2.1 71 = .ok (.astore 4, 2) := by decide +kernel
theorem d129_73 : decode (cm_M 129).2.2.1 73 = .ok (.aload 4, 2) := by decide +kernel
theorem d129_75 : decode (cm_M 129).2.2.1 75 = .ok (.ifnull 58, 3) := by decide +kernel
theorem d129_78 : decode (cm_M 129).2.2.1 78 = .ok (.bipush 31, 2) := by decide +kernel
theorem d129_80 : decode (cm_M 129).2.2.1 80 = .ok (.iload_n 2, 1) := by decide +kernel
theorem d129_81 : decode (cm_M 129).2.2.1 81 = .ok (.imul, 1) := by decide +kernel
theorem d129_82 : decode (cm_M 129).2.2.1 82 = .ok (.aload 4, 2) := by decide +kernel
theorem d129_84 : decode (cm_M 129).2.2.1 84 = .ok (.getfield 115, 3) := by decide +kernel
theorem d129_87 : decode (cm_M 129).2.2.1 87 = .ok (.iadd, 1) := by decide +kernel
theorem d129_88 : decode (cm_M 129).2.2.1 88 = .ok (.istore_n 2, 1) := by decide +kernel
theorem d129_89 : decode (cm_M 129).2.2.1 89 = .ok (.iconst 0, 1) := by decide +kernel
theorem d129_90 : decode (cm_M 129).2.2.1 90 = .ok (.istore 5, 2) := by decide +kernel
theorem d129_92 : decode (cm_M 129).2.2.1 92 = .ok (.iload 5, 2) := by decide +kernel
theorem d129_94 : decode (cm_M 129).2.2.1 94 = .ok (.bipush 8, 2) := by decide +kernel
theorem d129_96 : decode (cm_M 129).2.2.1 96 = .ok (.if_icmp .ge 37, 3) := by decide +kernel
theorem d129_99 : decode (cm_M 129).2.2.1 99 = .ok (.bipush 31, 2) := by decide +kernel
theorem d129_101 : decode (cm_M 129).2.2.1 101 = .ok (.iload_n 2, 1) := by decide +kernel
theorem d129_102 : decode (cm_M 129).2.2.1 102 = .ok (.imul, 1) := by decide +kernel
theorem d129_103 : decode (cm_M 129).2.2.1 103 = .ok (.aload 4, 2) := by decide +kernel
theorem d129_105 : decode (cm_M 129).2.2.1 105 = .ok (.getfield 61, 3) := by decide +kernel
theorem d129_108 : decode (cm_M 129).2.2.1 108 = .ok (.iload 5, 2) := by decide +kernel
theorem d129_110 : decode (cm_M 129).2.2.1 110 = .ok (.iaload, 1) := by decide +kernel
theorem d129_111 : decode (cm_M 129).2.2.1 111 = .ok (.iadd, 1) := by decide +kernel
theorem d129_112 : decode (cm_M 129).2.2.1 112 = .ok (.istore_n 2, 1) := by decide +kernel
theorem d129_113 : decode (cm_M 129).2.2.1 113 = .ok (.bipush 31, 2) := by decide +kernel
theorem d129_115 : decode (cm_M 129).2.2.1 115 = .ok (.iload_n 2, 1) := by decide +kernel
theorem d129_116 : decode (cm_M 129).2.2.1 116 = .ok (.imul, 1) := by decide +kernel
theorem d129_117 : decode (cm_M 129).2.2.1 117 = .ok (.aload 4, 2) := by decide +kernel
theorem d129_119 : decode (cm_M 129).2.2.1 119 = .ok (.getfield 156, 3) := by decide +kernel
theorem d129_122 : decode (cm_M 129).2.2.1 122 = .ok (.iload 5, 2) := by decide +kernel
theorem d129_124 : decode (cm_M 129).2.2.1 124 = .ok (.iaload, 1) := by decide +kernel
theorem d129_125 : decode (cm_M 129).2.2.1 125 = .ok (.iadd, 1) := by decide +kernel
theorem d129_126 : decode (cm_M 129).2.2.1 126 = .ok (.istore_n 2, 1) := by decide +kernel
theorem d129_127 : decode (cm_M 129).2.2.1 127 = .ok (.iinc 5 1, 3) := by decide +kernel
theorem d129_130 : decode (cm_M 129).2.2.1 130 = .ok (.goto (-38), 3) := by decide +kernel
theorem d129_133 : decode (cm_M 129).2.2.1 133 = .ok (.iinc 3 1, 3) := by decide +kernel
theorem d129_136 : decode (cm_M 129).2.2.1 136 = .ok (.goto (-78), 3) := by decide +kernel
theorem d129_139 : decode (cm_M 129).2.2.1 139 = .ok (.iload_n 2, 1) := by decide +kernel
theorem d129_140 : decode (cm_M 129).2.2.1 140 = .ok (.ireturn, 1) := by decide +kernel
theorem s129_0 {sc : cmS} {d : Nat} {h : cmH} {Q : Option Value → cmH → Prop} (a0 : Nat) (x1 : Int32) (u2 : Option Value) (u3 : Option Value) (u4 : Option Value) (u5 : Option Value) (H : (FL h a0) ∧ cm_wp sc d 129 32 [some (.ref a0), some (.int x1), some (.int (((31 : Int32) * (((31 : Int32) * (((31 : Int32) * x1) + (cm_I h a0 8))) + (cm_I h a0 9))) + (cm_I h a0 10))), some (.int (0 : Int32)), u4, u5] [] h Q) : cm_wp sc d 129 0 [some (.ref a0), some (.int x1), u2, u3, u4, u5] [] h Q :=
  wl_bi (v := 31) d129_0 rfl (wl_st d129_2 rfl rfl rfl rfl (wl_st d129_3 rfl rfl rfl rfl (wl_st d129_4 rfl rfl rfl rfl (And.elim (fun g1 g1k => wl_gf (v := .int (cm_I h a0 8)) d129_5 pf3_37 (FL.k g1) rfl (wl_st d129_8 rfl rfl rfl rfl (wl_st (ls' := [some (.ref a0), some (.int x1), some (.int (((31 : Int32) * x1) + (cm_I h a0 8))), u3, u4, u5]) d129_9 rfl rfl rfl rfl (wl_bi (v := 31) d129_10 rfl (wl_st d129_12 rfl rfl rfl rfl (wl_st d129_13 rfl rfl rfl rfl (wl_st d129_14 rfl rfl rfl rfl (wl_gf (v := .int (cm_I h a0 9)) d129_15 pf3_126 (FL.k g1) rfl (wl_st d129_18 rfl rfl rfl rfl (wl_st (ls' := [some (.ref a0), some (.int x1), some (.int (((31 : Int32) * (((31 : Int32) * x1) + (cm_I h a0 8))) + (cm_I h a0 9))), u3, u4, u5]) d129_19 rfl rfl rfl rfl (wl_bi (v := 31) d129_20 rfl (wl_st d129_22 rfl rfl rfl rfl (wl_st d129_23 rfl rfl rfl rfl (wl_st d129_24 rfl rfl rfl rfl (wl_gf (v := .int (cm_I h a0 10)) d129_25 pf3_129 (FL.k g1) rfl (wl_st d129_28 rfl rfl rfl rfl (wl_st (ls' := [some (.ref a0), some (.int x1), some (.int (((31 : Int32) * (((31 : Int32) * (((31 : Int32) * x1) + (cm_I h a0 8))) + (cm_I h a0 9))) + (cm_I h a0 10))), u3, u4, u5]) d129_29 rfl rfl rfl rfl (wl_ic (v := 0) d129_30 rfl (wl_st (ls' := [some (.ref a0), some (.int x1), some (.int (((31 : Int32) * (((31 : Int32) * (((31 : Int32) * x1) + (cm_I h a0 8))) + (cm_I h a0 9))) + (cm_I h a0 10))), some (.int (0 : Int32)), u4, u5]) d129_31 rfl rfl rfl rfl (g1k)))))))))))))))))))) H))))
theorem s129_32 {sc : cmS} {d : Nat} {h : cmH} {Q : Option Value → cmH → Prop} (a0 : Nat) (x1 : Int32) (x2 : Int32) (x3 : Int32) (u4 : Option Value) (u5 : Option Value) (H : ((((8 : Int32) ≤ x3) → cm_wp sc d 129 58 [some (.ref a0), some (.int x1), some (.int x2), some (.int (0 : Int32)), u4, u5] [] h Q) ∧ (¬ ((8 : Int32) ≤ x3) → (FL h a0) ∧ (IX 8 x3) ∧ cm_wp sc d 129 32 [some (.ref a0), some (.int x1), some (.int (((31 : Int32) * x2) + (cm_I h (a0 + 2) x3.toNatClampNeg))), some (.int (x3 + 1)), u4, u5] [] h Q))) : cm_wp sc d 129 32 [some (.ref a0), some (.int x1), some (.int x2), some (.int x3), u4, u5] [] h Q :=
  wl_st d129_32 rfl rfl rfl rfl (wl_bi (v := 8) d129_33 rfl (wl_cb (b := (8 : Int32) ≤ x3) (off := 21) (tgt := 56) (pc3 := 38) (st' := []) d129_35 rfl rfl rfl rfl (by decide) rfl (fun c1 => wl_ic (v := 0) d129_56 rfl (wl_st (ls' := [some (.ref a0), some (.int x1), some (.int x2), some (.int (0 : Int32)), u4, u5]) d129_57 rfl rfl rfl rfl ((H.1 c1)))) (fun c1 => wl_bi (v := 31) d129_38 rfl (wl_st d129_40 rfl rfl rfl rfl (wl_st d129_41 rfl rfl rfl rfl (wl_st d129_42 rfl rfl rfl rfl (And.elim (fun g2 g2k => wl_gr (b := (a0 + 2)) d129_43 pf3_17 (FL.k g2) rfl (FL.r1 g2) (wl_st d129_46 rfl rfl rfl rfl (And.elim (fun g3 g3k => wl_if (g := cm_ok h 13 (a0 + 2) x3) (st' := [.int (cm_I h (a0 + 2) x3.toNatClampNeg), .int ((31 : Int32) * x2)]) d129_47 rfl rfl rfl rfl (FL.o1 g2 g3) (wl_st d129_48 rfl rfl rfl rfl (wl_st (ls' := [some (.ref a0), some (.int x1), some (.int (((31 : Int32) * x2) + (cm_I h (a0 + 2) x3.toNatClampNeg))), some (.int x3), u4, u5]) d129_49 rfl rfl rfl rfl (wl_st (ls' := [some (.ref a0), some (.int x1), some (.int (((31 : Int32) * x2) + (cm_I h (a0 + 2) x3.toNatClampNeg))), some (.int (x3 + 1)), u4, u5]) d129_50 rfl rfl rfl rfl (wl_go (tgt := 32) d129_53 (by decide) (g3k)))))) g2k))) (H.2 c1))))))))
theorem s129_58 {sc : cmS} {d : Nat} {h : cmH} {Q : Option Value → cmH → Prop} (a0 : Nat) (x1 : Int32) (x2 : Int32) (x3 : Int32) (u4 : Option Value) (u5 : Option Value) (H : (FL h a0) ∧ ((((cm_I h a0 3) ≤ x3) → Q (some (.int x2)) h) ∧ (¬ ((cm_I h a0 3) ≤ x3) → cm_cq sc d 23 [.ref a0, .int x3] h (fun r h' => cm_wp sc (d + 1) 129 71 [some (.ref a0), some (.int x1), some (.int x2), some (.int x3), u4, u5] [va_rf r] h' Q)))) : cm_wp sc (d + 1) 129 58 [some (.ref a0), some (.int x1), some (.int x2), some (.int x3), u4, u5] [] h Q :=
  wl_st d129_58 rfl rfl rfl rfl (wl_st d129_59 rfl rfl rfl rfl (And.elim (fun g1 g1k => wl_gf (v := .int (cm_I h a0 3)) d129_60 pf3_43 (FL.k g1) rfl (wl_cb (b := (cm_I h a0 3) ≤ x3) (off := 76) (tgt := 139) (pc3 := 66) (st' := []) d129_63 rfl rfl rfl rfl (by decide) rfl (fun c2 => wl_st d129_139 rfl rfl rfl rfl (wl_rt d129_140 rfl rfl rfl (g1k.1 c2))) (fun c2 => wl_st d129_66 rfl rfl rfl rfl (wl_st d129_67 rfl rfl rfl rfl (wl_cq d129_68 rfl rfl rfl pm3_57 (by decide) (ca_v (Or.inl rfl) rfl (Nat.le_of_ble_eq_true rfl) (Nat.le_of_ble_eq_true rfl) (FL.k g1).2 (FL.k g1).1 (by decide)) (g1k.2 c2)))))) H))
theorem s129_71 {sc : cmS} {d : Nat} {h : cmH} {Q : Option Value → cmH → Prop} (a0 : Nat) (x1 : Int32) (x2 : Int32) (x3 : Int32) (u4 : Option Value) (u5 : Option Value) (so0 : Option Nat) (H : ((so0 = none → cm_wp sc d 129 133 [some (.ref a0), some (.int x1), some (.int x2), some (.int x3), some (va_rf so0), u5] [] h Q) ∧ (∀ b2, so0 = some b2 → (CE h b2) ∧ cm_wp sc d 129 92 [some (.ref a0), some (.int x1), some (.int (((31 : Int32) * x2) + (cm_I h b2 4))), some (.int x3), some (.ref b2), some (.int (0 : Int32))] [] h Q))) : cm_wp sc d 129 71 [some (.ref a0), some (.int x1), some (.int x2), some (.int x3), u4, u5] [va_rf so0] h Q :=
  wl_as (k := 4) (ls' := [some (.ref a0), some (.int x1), some (.int x2), some (.int x3), some (va_rf so0), u5]) d129_71 (Or.inl ⟨rfl, rfl⟩) (Nat.le_of_ble_eq_true rfl) rfl (wl_al (k := 4) d129_73 (Or.inl ⟨rfl, rfl⟩) rfl (wl_nu (o := so0) (tgt := 133) (pc3 := 78) d129_75 (by decide) rfl (fun c1 => (H.1 c1)) (fun b2 c1 => cm_rw (fun oo => cm_wp sc d 129 78 [some (.ref a0), some (.int x1), some (.int x2), some (.int x3), some (va_rf oo), u5] [] h Q) c1 (wl_bi (v := 31) d129_78 rfl (wl_st d129_80 rfl rfl rfl rfl (wl_st d129_81 rfl rfl rfl rfl (wl_st d129_82 rfl rfl rfl rfl (And.elim (fun g3 g3k => wl_gf (v := .int (cm_I h b2 4)) d129_84 pf3_115 (CE.k g3) rfl (wl_st d129_87 rfl rfl rfl rfl (wl_st (ls' := [some (.ref a0), some (.int x1), some (.int (((31 : Int32) * x2) + (cm_I h b2 4))), some (.int x3), some (.ref b2), u5]) d129_88 rfl rfl rfl rfl (wl_ic (v := 0) d129_89 rfl (wl_st (ls' := [some (.ref a0), some (.int x1), some (.int (((31 : Int32) * x2) + (cm_I h b2 4))), some (.int x3), some (.ref b2), some (.int (0 : Int32))]) d129_90 rfl rfl rfl rfl (g3k)))))) (H.2 b2 c1)))))))))
theorem s129_92 {sc : cmS} {d : Nat} {h : cmH} {Q : Option Value → cmH → Prop} (a0 : Nat) (x1 : Int32) (x2 : Int32) (x3 : Int32) (o4 : Option Nat) (x5 : Int32) (H : ((((8 : Int32) ≤ x5) → cm_wp sc d 129 133 [some (.ref a0), some (.int x1), some (.int x2), some (.int x3), some (va_rf o4), some (.int x5)] [] h Q) ∧ (¬ ((8 : Int32) ≤ x5) → ∃ b2, o4 = some b2 ∧ (CE h b2) ∧ (IX 8 x5) ∧ cm_wp sc d 129 92 [some (.ref a0), some (.int x1), some (.int (((31 : Int32) * (((31 : Int32) * x2) + (cm_I h (b2 + 1) x5.toNatClampNeg))) + (cm_I h (b2 + 2) x5.toNatClampNeg))), some (.int x3), some (.ref b2), some (.int (x5 + 1))] [] h Q))) : cm_wp sc d 129 92 [some (.ref a0), some (.int x1), some (.int x2), some (.int x3), some (va_rf o4), some (.int x5)] [] h Q :=
  wl_st d129_92 rfl rfl rfl rfl (wl_bi (v := 8) d129_94 rfl (wl_cb (b := (8 : Int32) ≤ x5) (off := 37) (tgt := 133) (pc3 := 99) (st' := []) d129_96 rfl rfl rfl rfl (by decide) rfl (fun c1 => (H.1 c1)) (fun c1 => wl_bi (v := 31) d129_99 rfl (wl_st d129_101 rfl rfl rfl rfl (wl_st d129_102 rfl rfl rfl rfl (Exists.elim (H.2 c1) fun b2 b2q => And.elim (fun b2e b2k => cm_rw (fun oo => cm_wp sc d 129 103 [some (.ref a0), some (.int x1), some (.int x2), some (.int x3), some (va_rf oo), some (.int x5)] [.int ((31 : Int32) * x2)] h Q) b2e (wl_st d129_103 rfl rfl rfl rfl (And.elim (fun g3 g3k => wl_gr (b := (b2 + 1)) d129_105 pf3_61 (CE.k g3) rfl (CE.r0 g3) (wl_st d129_108 rfl rfl rfl rfl (And.elim (fun g4 g4k => wl_if (g := cm_ok h 13 (b2 + 1) x5) (st' := [.int (cm_I h (b2 + 1) x5.toNatClampNeg), .int ((31 : Int32) * x2)]) d129_110 rfl rfl rfl rfl (CE.o0 g3 g4) (wl_st d129_111 rfl rfl rfl rfl (wl_st (ls' := [some (.ref a0), some (.int x1), some (.int (((31 : Int32) * x2) + (cm_I h (b2 + 1) x5.toNatClampNeg))), some (.int x3), some (.ref b2), some (.int x5)]) d129_112 rfl rfl rfl rfl (wl_bi (v := 31) d129_113 rfl (wl_st d129_115 rfl rfl rfl rfl (wl_st d129_116 rfl rfl rfl rfl (wl_st d129_117 rfl rfl rfl rfl (wl_gr (b := (b2 + 2)) d129_119 pf3_156 (CE.k g3) rfl (CE.r1 g3) (wl_st d129_122 rfl rfl rfl rfl (wl_if (g := cm_ok h 13 (b2 + 2) x5) (st' := [.int (cm_I h (b2 + 2) x5.toNatClampNeg), .int ((31 : Int32) * (((31 : Int32) * x2) + (cm_I h (b2 + 1) x5.toNatClampNeg)))]) d129_124 rfl rfl rfl rfl (CE.o1 g3 g4) (wl_st d129_125 rfl rfl rfl rfl (wl_st (ls' := [some (.ref a0), some (.int x1), some (.int (((31 : Int32) * (((31 : Int32) * x2) + (cm_I h (b2 + 1) x5.toNatClampNeg))) + (cm_I h (b2 + 2) x5.toNatClampNeg))), some (.int x3), some (.ref b2), some (.int x5)]) d129_126 rfl rfl rfl rfl (wl_st (ls' := [some (.ref a0), some (.int x1), some (.int (((31 : Int32) * (((31 : Int32) * x2) + (cm_I h (b2 + 1) x5.toNatClampNeg))) + (cm_I h (b2 + 2) x5.toNatClampNeg))), some (.int x3), some (.ref b2), some (.int (x5 + 1))]) d129_127 rfl rfl rfl rfl (wl_go (tgt := 92) d129_130 (by decide) (g4k))))))))))))))) g3k))) b2k))) b2q))))))
theorem s129_133 {sc : cmS} {d : Nat} {h : cmH} {Q : Option Value → cmH → Prop} (a0 : Nat) (x1 : Int32) (x2 : Int32) (x3 : Int32) (o4 : Option Nat) (u5 : Option Value) (H : cm_wp sc d 129 58 [some (.ref a0), some (.int x1), some (.int x2), some (.int (x3 + 1)), some (va_rf o4), u5] [] h Q) : cm_wp sc d 129 133 [some (.ref a0), some (.int x1), some (.int x2), some (.int x3), some (va_rf o4), u5] [] h Q :=
  wl_st (ls' := [some (.ref a0), some (.int x1), some (.int x2), some (.int (x3 + 1)), some (va_rf o4), u5]) d129_133 rfl rfl rfl rfl (wl_go (tgt := 58) d129_136 (by decide) (H))
-- ClogHouse$Grains.<init>()V
theorem d1_0 : decode (cm_M 1).2.2.1 0 = .ok (.aload_n 0, 1) := by decide +kernel
theorem d1_1 : decode (cm_M 1).2.2.1 1 = .ok (.invokespecial 3, 3) := by decide +kernel
theorem d1_4 : decode (cm_M 1).2.2.1 4 = .ok (.aload_n 0, 1) := by decide +kernel
theorem d1_5 : decode (cm_M 1).2.2.1 5 = .ok (.bipush 8, 2) := by decide +kernel
theorem d1_7 : decode (cm_M 1).2.2.1 7 = .ok (.newarray .int, 2) := by decide +kernel
theorem d1_9 : decode (cm_M 1).2.2.1 9 = .ok (.putfield 9, 3) := by decide +kernel
theorem d1_12 : decode (cm_M 1).2.2.1 12 = .ok (.aload_n 0, 1) := by decide +kernel
theorem d1_13 : decode (cm_M 1).2.2.1 13 = .ok (.bipush 8, 2) := by decide +kernel
theorem d1_15 : decode (cm_M 1).2.2.1 15 = .ok (.newarray .int, 2) := by decide +kernel
theorem d1_17 : decode (cm_M 1).2.2.1 17 = .ok (.putfield 15, 3) := by decide +kernel
theorem d1_20 : decode (cm_M 1).2.2.1 20 = .ok (.aload_n 0, 1) := by decide +kernel
theorem d1_21 : decode (cm_M 1).2.2.1 21 = .ok (.bipush 8, 2) := by decide +kernel
theorem d1_23 : decode (cm_M 1).2.2.1 23 = .ok (.newarray .int, 2) := by decide +kernel
theorem d1_25 : decode (cm_M 1).2.2.1 25 = .ok (.putfield 18, 3) := by decide +kernel
theorem d1_28 : decode (cm_M 1).2.2.1 28 = .ok (.aload_n 0, 1) := by decide +kernel
theorem d1_29 : decode (cm_M 1).2.2.1 29 = .ok (.getfield 9, 3) := by decide +kernel
theorem d1_32 : decode (cm_M 1).2.2.1 32 = .ok (.sipush 200, 3) := by decide +kernel
theorem d1_35 : decode (cm_M 1).2.2.1 35 = .ok (.invokestatic 21, 3) := by decide +kernel
theorem d1_38 : decode (cm_M 1).2.2.1 38 = .ok (.aload_n 0, 1) := by decide +kernel
theorem d1_39 : decode (cm_M 1).2.2.1 39 = .ok (.getfield 15, 3) := by decide +kernel
theorem d1_42 : decode (cm_M 1).2.2.1 42 = .ok (.sipush 600, 3) := by decide +kernel
theorem d1_45 : decode (cm_M 1).2.2.1 45 = .ok (.invokestatic 21, 3) := by decide +kernel
theorem d1_48 : decode (cm_M 1).2.2.1 48 = .ok (.aload_n 0, 1) := by decide +kernel
theorem d1_49 : decode (cm_M 1).2.2.1 49 = .ok (.getfield 18, 3) := by decide +kernel
theorem d1_52 : decode (cm_M 1).2.2.1 52 = .ok (.bipush 50, 2) := by decide +kernel
theorem d1_54 : decode (cm_M 1).2.2.1 54 = .ok (.invokestatic 21, 3) := by decide +kernel
theorem d1_57 : decode (cm_M 1).2.2.1 57 = .ok (.return_, 1) := by decide +kernel
theorem s1_0 {sc : cmS} {d : Nat} {h : cmH} {Q : Option Value → cmH → Prop} (a0 : Nat) (H : cm_wp sc (d + 1) 1 9 [some (.ref a0)] [.ref (cm_n h), .ref a0] (cm_mk h 13 8) Q) : cm_wp sc (d + 1) 1 0 [some (.ref a0)] [] h Q :=
  wl_st d1_0 rfl rfl rfl rfl (wl_pr (st' := []) d1_1 rfl rfl rfl pm4_3 (by decide) rfl rfl (wl_st d1_4 rfl rfl rfl rfl (wl_bi (v := 8) d1_5 rfl (wl_na (kd := 13) (N := 8) d1_7 (by decide) (by decide) rfl (H)))))
theorem s1_9 {sc : cmS} {d : Nat} {h : cmH} {Q : Option Value → cmH → Prop} (a0 : Nat) (sa0 : Nat) (sa1 : Nat) (H : (cm_kd h sa1 = 4 ∧ sa1 < cm_n h) ∧ cm_wp sc d 1 17 [some (.ref a0)] [.ref (cm_n (cm_setR h sa1 0 (some sa0))), .ref a0] (cm_mk (cm_setR h sa1 0 (some sa0)) 13 8) Q) : cm_wp sc d 1 9 [some (.ref a0)] [.ref sa0, .ref sa1] h Q :=
  And.elim (fun g1 g1k => wl_pf (h' := (cm_setR h sa1 0 (some sa0))) d1_9 pf4_9 g1 (Or.inr ⟨rfl, rfl, rfl⟩) rfl (wl_st d1_12 rfl rfl rfl rfl (wl_bi (v := 8) d1_13 rfl (wl_na (kd := 13) (N := 8) d1_15 (by decide) (by decide) rfl (g1k))))) H
theorem s1_17 {sc : cmS} {d : Nat} {h : cmH} {Q : Option Value → cmH → Prop} (a0 : Nat) (sa0 : Nat) (sa1 : Nat) (H : (cm_kd h sa1 = 4 ∧ sa1 < cm_n h) ∧ cm_wp sc d 1 25 [some (.ref a0)] [.ref (cm_n (cm_setR h sa1 1 (some sa0))), .ref a0] (cm_mk (cm_setR h sa1 1 (some sa0)) 13 8) Q) : cm_wp sc d 1 17 [some (.ref a0)] [.ref sa0, .ref sa1] h Q :=
  And.elim (fun g1 g1k => wl_pf (h' := (cm_setR h sa1 1 (some sa0))) d1_17 pf4_15 g1 (Or.inr ⟨rfl, rfl, rfl⟩) rfl (wl_st d1_20 rfl rfl rfl rfl (wl_bi (v := 8) d1_21 rfl (wl_na (kd := 13) (N := 8) d1_23 (by decide) (by decide) rfl (g1k))))) H
theorem s1_25 {sc : cmS} {d : Nat} {h : cmH} {Q : Option Value → cmH → Prop} (a0 : Nat) (sa0 : Nat) (sa1 : Nat) (H : (cm_kd h sa1 = 4 ∧ sa1 < cm_n h) ∧ (cm_kd h a0 = 4 ∧ a0 < cm_n h) ∧ ∃ b3, cm_R (cm_setR h sa1 2 (some sa0)) a0 0 = some b3 ∧ cm_cv sc d 2 [.ref b3, .int (200 : Int32)] (cm_setR h sa1 2 (some sa0)) (fun h' => cm_wp sc (d + 1) 1 38 [some (.ref a0)] [] h' Q)) : cm_wp sc (d + 1) 1 25 [some (.ref a0)] [.ref sa0, .ref sa1] h Q :=
  And.elim (fun g1 g1k => wl_pf (h' := (cm_setR h sa1 2 (some sa0))) d1_25 pf4_18 g1 (Or.inr ⟨rfl, rfl, rfl⟩) rfl (wl_st d1_28 rfl rfl rfl rfl (And.elim (fun g2 g2k => Exists.elim g2k fun b3 b3q => And.elim (fun b3e b3k => wl_gr (b := b3) d1_29 pf4_9 g2 rfl b3e (wl_si (v := 200) d1_32 rfl (wl_cv d1_35 rfl rfl rfl pm4_21 (by decide) (ca_s (Or.inl rfl) rfl (Nat.le_of_ble_eq_true rfl) (Nat.le_of_ble_eq_true rfl)) b3k))) b3q) g1k))) H
theorem s1_38 {sc : cmS} {d : Nat} {h : cmH} {Q : Option Value → cmH → Prop} (a0 : Nat) (H : (cm_kd h a0 = 4 ∧ a0 < cm_n h) ∧ ∃ b2, cm_R h a0 1 = some b2 ∧ cm_cv sc d 2 [.ref b2, .int (600 : Int32)] h (fun h' => cm_wp sc (d + 1) 1 48 [some (.ref a0)] [] h' Q)) : cm_wp sc (d + 1) 1 38 [some (.ref a0)] [] h Q :=
  wl_st d1_38 rfl rfl rfl rfl (And.elim (fun g1 g1k => Exists.elim g1k fun b2 b2q => And.elim (fun b2e b2k => wl_gr (b := b2) d1_39 pf4_15 g1 rfl b2e (wl_si (v := 600) d1_42 rfl (wl_cv d1_45 rfl rfl rfl pm4_21 (by decide) (ca_s (Or.inl rfl) rfl (Nat.le_of_ble_eq_true rfl) (Nat.le_of_ble_eq_true rfl)) b2k))) b2q) H)
theorem s1_48 {sc : cmS} {d : Nat} {h : cmH} {Q : Option Value → cmH → Prop} (a0 : Nat) (H : (cm_kd h a0 = 4 ∧ a0 < cm_n h) ∧ ∃ b2, cm_R h a0 2 = some b2 ∧ cm_cv sc d 2 [.ref b2, .int (50 : Int32)] h (fun h' => cm_wp sc (d + 1) 1 57 [some (.ref a0)] [] h' Q)) : cm_wp sc (d + 1) 1 48 [some (.ref a0)] [] h Q :=
  wl_st d1_48 rfl rfl rfl rfl (And.elim (fun g1 g1k => Exists.elim g1k fun b2 b2q => And.elim (fun b2e b2k => wl_gr (b := b2) d1_49 pf4_18 g1 rfl b2e (wl_bi (v := 50) d1_52 rfl (wl_cv d1_54 rfl rfl rfl pm4_21 (by decide) (ca_s (Or.inl rfl) rfl (Nat.le_of_ble_eq_true rfl) (Nat.le_of_ble_eq_true rfl)) b2k))) b2q) H)
theorem s1_57 {sc : cmS} {d : Nat} {h : cmH} {Q : Option Value → cmH → Prop} (a0 : Nat) (H : Q none h) : cm_wp sc d 1 57 [some (.ref a0)] [] h Q :=
  wl_rt d1_57 rfl rfl rfl H
-- ClogHouse$Layers.<init>()V
theorem d7_0 : decode (cm_M 7).2.2.1 0 = .ok (.aload_n 0, 1) := by decide +kernel
theorem d7_1 : decode (cm_M 7).2.2.1 1 = .ok (.invokespecial 3, 3) := by decide +kernel
theorem d7_4 : decode (cm_M 7).2.2.1 4 = .ok (.aload_n 0, 1) := by decide +kernel
theorem d7_5 : decode (cm_M 7).2.2.1 5 = .ok (.bipush 6, 2) := by decide +kernel
theorem d7_7 : decode (cm_M 7).2.2.1 7 = .ok (.newarray .int, 2) := by decide +kernel
theorem d7_9 : decode (cm_M 7).2.2.1 9 = .ok (.putfield 9, 3) := by decide +kernel
theorem d7_12 : decode (cm_M 7).2.2.1 12 = .ok (.aload_n 0, 1) := by decide +kernel
theorem d7_13 : decode (cm_M 7).2.2.1 13 = .ok (.bipush 6, 2) := by decide +kernel
theorem d7_15 : decode (cm_M 7).2.2.1 15 = .ok (.newarray .int, 2) := by decide +kernel
theorem d7_17 : decode (cm_M 7).2.2.1 17 = .ok (.putfield 15, 3) := by decide +kernel
theorem d7_20 : decode (cm_M 7).2.2.1 20 = .ok (.aload_n 0, 1) := by decide +kernel
theorem d7_21 : decode (cm_M 7).2.2.1 21 = .ok (.bipush 6, 2) := by decide +kernel
theorem d7_23 : decode (cm_M 7).2.2.1 23 = .ok (.newarray .int, 2) := by decide +kernel
theorem d7_25 : decode (cm_M 7).2.2.1 25 = .ok (.putfield 18, 3) := by decide +kernel
theorem d7_28 : decode (cm_M 7).2.2.1 28 = .ok (.aload_n 0, 1) := by decide +kernel
theorem d7_29 : decode (cm_M 7).2.2.1 29 = .ok (.bipush 6, 2) := by decide +kernel
theorem d7_31 : decode (cm_M 7).2.2.1 31 = .ok (.newarray .int, 2) := by decide +kernel
theorem d7_33 : decode (cm_M 7).2.2.1 33 = .ok (.putfield 21, 3) := by decide +kernel
theorem d7_36 : decode (cm_M 7).2.2.1 36 = .ok (.aload_n 0, 1) := by decide +kernel
theorem d7_37 : decode (cm_M 7).2.2.1 37 = .ok (.new 24, 3) := by decide +kernel
theorem d7_40 : decode (cm_M 7).2.2.1 40 = .ok (.dup, 1) := by decide +kernel
theorem d7_41 : decode (cm_M 7).2.2.1 41 = .ok (.invokespecial 26, 3) := by decide +kernel
theorem d7_44 : decode (cm_M 7).2.2.1 44 = .ok (.putfield 27, 3) := by decide +kernel
theorem d7_47 : decode (cm_M 7).2.2.1 47 = .ok (.aload_n 0, 1) := by decide +kernel
theorem d7_48 : decode (cm_M 7).2.2.1 48 = .ok (.iconst (-1), 1) := by decide +kernel
theorem d7_49 : decode (cm_M 7).2.2.1 49 = .ok (.putfield 31, 3) := by decide +kernel
theorem d7_52 : decode (cm_M 7).2.2.1 52 = .ok (.return_, 1) := by decide +kernel
theorem s7_0 {sc : cmS} {d : Nat} {h : cmH} {Q : Option Value → cmH → Prop} (a0 : Nat) (H : cm_wp sc (d + 1) 7 9 [some (.ref a0)] [.ref (cm_n h), .ref a0] (cm_mk h 13 6) Q) : cm_wp sc (d + 1) 7 0 [some (.ref a0)] [] h Q :=
  wl_st d7_0 rfl rfl rfl rfl (wl_pr (st' := []) d7_1 rfl rfl rfl pm5_3 (by decide) rfl rfl (wl_st d7_4 rfl rfl rfl rfl (wl_bi (v := 6) d7_5 rfl (wl_na (kd := 13) (N := 6) d7_7 (by decide) (by decide) rfl (H)))))
theorem s7_9 {sc : cmS} {d : Nat} {h : cmH} {Q : Option Value → cmH → Prop} (a0 : Nat) (sa0 : Nat) (sa1 : Nat) (H : (cm_kd h sa1 = 5 ∧ sa1 < cm_n h) ∧ cm_wp sc d 7 17 [some (.ref a0)] [.ref (cm_n (cm_setR h sa1 0 (some sa0))), .ref a0] (cm_mk (cm_setR h sa1 0 (some sa0)) 13 6) Q) : cm_wp sc d 7 9 [some (.ref a0)] [.ref sa0, .ref sa1] h Q :=
  And.elim (fun g1 g1k => wl_pf (h' := (cm_setR h sa1 0 (some sa0))) d7_9 pf5_9 g1 (Or.inr ⟨rfl, rfl, rfl⟩) rfl (wl_st d7_12 rfl rfl rfl rfl (wl_bi (v := 6) d7_13 rfl (wl_na (kd := 13) (N := 6) d7_15 (by decide) (by decide) rfl (g1k))))) H
theorem s7_17 {sc : cmS} {d : Nat} {h : cmH} {Q : Option Value → cmH → Prop} (a0 : Nat) (sa0 : Nat) (sa1 : Nat) (H : (cm_kd h sa1 = 5 ∧ sa1 < cm_n h) ∧ cm_wp sc d 7 25 [some (.ref a0)] [.ref (cm_n (cm_setR h sa1 1 (some sa0))), .ref a0] (cm_mk (cm_setR h sa1 1 (some sa0)) 13 6) Q) : cm_wp sc d 7 17 [some (.ref a0)] [.ref sa0, .ref sa1] h Q :=
  And.elim (fun g1 g1k => wl_pf (h' := (cm_setR h sa1 1 (some sa0))) d7_17 pf5_15 g1 (Or.inr ⟨rfl, rfl, rfl⟩) rfl (wl_st d7_20 rfl rfl rfl rfl (wl_bi (v := 6) d7_21 rfl (wl_na (kd := 13) (N := 6) d7_23 (by decide) (by decide) rfl (g1k))))) H
theorem s7_25 {sc : cmS} {d : Nat} {h : cmH} {Q : Option Value → cmH → Prop} (a0 : Nat) (sa0 : Nat) (sa1 : Nat) (H : (cm_kd h sa1 = 5 ∧ sa1 < cm_n h) ∧ cm_wp sc d 7 33 [some (.ref a0)] [.ref (cm_n (cm_setR h sa1 2 (some sa0))), .ref a0] (cm_mk (cm_setR h sa1 2 (some sa0)) 13 6) Q) : cm_wp sc d 7 25 [some (.ref a0)] [.ref sa0, .ref sa1] h Q :=
  And.elim (fun g1 g1k => wl_pf (h' := (cm_setR h sa1 2 (some sa0))) d7_25 pf5_18 g1 (Or.inr ⟨rfl, rfl, rfl⟩) rfl (wl_st d7_28 rfl rfl rfl rfl (wl_bi (v := 6) d7_29 rfl (wl_na (kd := 13) (N := 6) d7_31 (by decide) (by decide) rfl (g1k))))) H
theorem s7_33 {sc : cmS} {d : Nat} {h : cmH} {Q : Option Value → cmH → Prop} (a0 : Nat) (sa0 : Nat) (sa1 : Nat) (H : (cm_kd h sa1 = 5 ∧ sa1 < cm_n h) ∧ cm_wp sc d 7 40 [some (.ref a0)] [.ref (cm_n (cm_setR h sa1 3 (some sa0))), .ref a0] (cm_mk (cm_setR h sa1 3 (some sa0)) 3 20) Q) : cm_wp sc d 7 33 [some (.ref a0)] [.ref sa0, .ref sa1] h Q :=
  And.elim (fun g1 g1k => wl_pf (h' := (cm_setR h sa1 3 (some sa0))) d7_33 pf5_21 g1 (Or.inr ⟨rfl, rfl, rfl⟩) rfl (wl_st d7_36 rfl rfl rfl rfl (wl_nw d7_37 pn5_24 (g1k)))) H
theorem s7_40 {sc : cmS} {d : Nat} {h : cmH} {Q : Option Value → cmH → Prop} (a0 : Nat) (sa0 : Nat) (sa1 : Nat) (H : (FL h sa0) ∧ cm_cv sc d 8 [.ref sa0] h (fun h' => cm_wp sc (d + 1) 7 44 [some (.ref a0)] [.ref sa0, .ref sa1] h' Q)) : cm_wp sc (d + 1) 7 40 [some (.ref a0)] [.ref sa0, .ref sa1] h Q :=
  wl_st d7_40 rfl rfl rfl rfl (And.elim (fun g1 g1k => wl_cv d7_41 rfl rfl rfl pm5_26 (by decide) (ca_i (Or.inr rfl) rfl (Nat.le_of_ble_eq_true rfl) (Nat.le_of_ble_eq_true rfl) (FL.k g1).2 (FL.k g1).1 (by decide) rfl) g1k) H)
theorem s7_44 {sc : cmS} {d : Nat} {h : cmH} {Q : Option Value → cmH → Prop} (a0 : Nat) (sa0 : Nat) (sa1 : Nat) (H : (cm_kd h sa1 = 5 ∧ sa1 < cm_n h) ∧ (cm_kd h a0 = 5 ∧ a0 < cm_n h) ∧ Q none (cm_setI (cm_setR h sa1 4 (some sa0)) a0 7 (-1 : Int32))) : cm_wp sc d 7 44 [some (.ref a0)] [.ref sa0, .ref sa1] h Q :=
  And.elim (fun g1 g1k => wl_pf (h' := (cm_setR h sa1 4 (some sa0))) d7_44 pf5_27 g1 (Or.inr ⟨rfl, rfl, rfl⟩) rfl (wl_st d7_47 rfl rfl rfl rfl (wl_ic (v := (-1)) d7_48 rfl (And.elim (fun g2 g2k => wl_pf (h' := (cm_setI (cm_setR h sa1 4 (some sa0)) a0 7 (-1 : Int32))) d7_49 pf5_31 g2 (Or.inl rfl) rfl (wl_rt d7_52 rfl rfl rfl g2k)) g1k)))) H
-- ClogHouse$Layers.forgetOrder()V
theorem d14_0 : decode (cm_M 14).2.2.1 0 = .ok (.aload_n 0, 1) := by decide +kernel
theorem d14_1 : decode (cm_M 14).2.2.1 1 = .ok (.iconst (-1), 1) := by decide +kernel
theorem d14_2 : decode (cm_M 14).2.2.1 2 = .ok (.putfield 31, 3) := by decide +kernel
theorem d14_5 : decode (cm_M 14).2.2.1 5 = .ok (.return_, 1) := by decide +kernel
theorem s14_0 {sc : cmS} {d : Nat} {h : cmH} {Q : Option Value → cmH → Prop} (L : LY h)  (H : Q none (cm_setI h 21 7 (-1 : Int32))) : cm_wp sc d 14 0 [some (.ref 21)] [] h Q :=
  wl_st d14_0 rfl rfl rfl rfl (wl_ic (v := (-1)) d14_1 rfl (wl_pf (h' := (cm_setI h 21 7 (-1 : Int32))) d14_2 pf5_31 (ly_k L 21 rfl) (Or.inl rfl) rfl (wl_rt d14_5 rfl rfl rfl H)))
-- ClogHouse$Layers.addLayer(II)I
theorem d102_0 : decode (cm_M 102).2.2.1 0 = .ok (.aload_n 0, 1) := by decide +kernel
theorem d102_1 : decode (cm_M 102).2.2.1 1 = .ok (.getfield 35, 3) := by decide +kernel
theorem d102_4 : decode (cm_M 102).2.2.1 4 = .ok (.ifCond .lt 24, 3) := by decide +kernel
theorem d102_7 : decode (cm_M 102).2.2.1 7 = .ok (.aload_n 0, 1) := by decide +kernel
theorem d102_8 : decode (cm_M 102).2.2.1 8 = .ok (.getfield 35, 3) := by decide +kernel
theorem d102_11 : decode (cm_M 102).2.2.1 11 = .ok (.bipush 6, 2) := by decide +kernel
theorem d102_13 : decode (cm_M 102).2.2.1 13 = .ok (.if_icmp .ge 15, 3) := by decide +kernel
theorem d102_16 : decode (cm_M 102).2.2.1 16 = .ok (.aload_n 0, 1) := by decide +kernel
theorem d102_17 : decode (cm_M 102).2.2.1 17 = .ok (.getfield 27, 3) := by decide +kernel
theorem d102_20 : decode (cm_M 102).2.2.1 20 = .ok (.iload_n 1, 1) := by decide +kernel
theorem d102_21 : decode (cm_M 102).2.2.1 21 = .ok (.iload_n 2, 1) := by decide +kernel
theorem d102_22 : decode (cm_M 102).2.2.1 22 = .ok (.invokevirtual 38, 3) := by decide +kernel
theorem d102_25 : decode (cm_M 102).2.2.1 25 = .ok (.ifCond .ne 5, 3) := by decide +kernel
theorem d102_28 : decode (cm_M 102).2.2.1 28 = .ok (.iconst (-1), 1) := by decide +kernel
theorem d102_29 : decode (cm_M 102).2.2.1 29 = .ok (.ireturn, 1) := by decide +kernel
theorem d102_30 : decode (cm_M 102).2.2.1 30 = .ok (.aload_n 0, 1) := by decide +kernel
theorem d102_31 : decode (cm_M 102).2.2.1 31 = .ok (.getfield 9, 3) := by decide +kernel
theorem d102_34 : decode (cm_M 102).2.2.1 34 = .ok (.aload_n 0, 1) := by decide +kernel
theorem d102_35 : decode (cm_M 102).2.2.1 35 = .ok (.getfield 35, 3) := by decide +kernel
theorem d102_38 : decode (cm_M 102).2.2.1 38 = .ok (.iload_n 1, 1) := by decide +kernel
theorem d102_39 : decode (cm_M 102).2.2.1 39 = .ok (.iastore, 1) := by decide +kernel
theorem d102_40 : decode (cm_M 102).2.2.1 40 = .ok (.aload_n 0, 1) := by decide +kernel
theorem d102_41 : decode (cm_M 102).2.2.1 41 = .ok (.getfield 15, 3) := by decide +kernel
theorem d102_44 : decode (cm_M 102).2.2.1 44 = .ok (.aload_n 0, 1) := by decide +kernel
theorem d102_45 : decode (cm_M 102).2.2.1 45 = .ok (.getfield 35, 3) := by decide +kernel
theorem d102_48 : decode (cm_M 102).2.2.1 48 = .ok (.iload_n 2, 1) := by decide +kernel
theorem d102_49 : decode (cm_M 102).2.2.1 49 = .ok (.iastore, 1) := by decide +kernel
theorem d102_50 : decode (cm_M 102).2.2.1 50 = .ok (.aload_n 0, 1) := by decide +kernel
theorem d102_51 : decode (cm_M 102).2.2.1 51 = .ok (.dup, 1) := by decide +kernel
theorem d102_52 : decode (cm_M 102).2.2.1 52 = .ok (.getfield 35, 3) := by decide +kernel
theorem d102_55 : decode (cm_M 102).2.2.1 55 = .ok (.iconst 1, 1) := by decide +kernel
theorem d102_56 : decode (cm_M 102).2.2.1 56 = .ok (.iadd, 1) := by decide +kernel
theorem d102_57 : decode (cm_M 102).2.2.1 57 = .ok (.putfield 35, 3) := by decide +kernel
theorem d102_60 : decode (cm_M 102).2.2.1 60 = .ok (.aload_n 0, 1) := by decide +kernel
theorem d102_61 : decode (cm_M 102).2.2.1 61 = .ok (.invokevirtual 42, 3) := by decide +kernel
theorem d102_64 : decode (cm_M 102).2.2.1 64 = .ok (.aload_n 0, 1) := by decide +kernel
theorem d102_65 : decode (cm_M 102).2.2.1 65 = .ok (.getfield 35, 3) := by decide +kernel
theorem d102_68 : decode (cm_M 102).2.2.1 68 = .ok (.iconst 1, 1) := by decide +kernel
theorem d102_69 : decode (cm_M 102).2.2.1 69 = .ok (.isub, 1) := by decide +kernel
theorem d102_70 : decode (cm_M 102).2.2.1 70 = .ok (.ireturn, 1) := by decide +kernel
theorem s102_0 {sc : cmS} {d : Nat} {h : cmH} {Q : Option Value → cmH → Prop} (L : LY h) (x1 : Int32) (x2 : Int32) (H : ((((cm_I h 21 5) < 0) → Q (some (.int (-1 : Int32))) h) ∧ (¬ ((cm_I h 21 5) < 0) → ((((6 : Int32) ≤ (cm_I h 21 5)) → Q (some (.int (-1 : Int32))) h) ∧ (¬ ((6 : Int32) ≤ (cm_I h 21 5)) → cm_ci sc d 18 [.ref 26, .int x1, .int x2] h (fun r h' => cm_wp sc (d + 1) 102 25 [some (.ref 21), some (.int x1), some (.int x2)] [.int r] h' Q)))))) : cm_wp sc (d + 1) 102 0 [some (.ref 21), some (.int x1), some (.int x2)] [] h Q :=
  wl_st d102_0 rfl rfl rfl rfl (wl_gf (v := .int (cm_I h 21 5)) d102_1 pf5_35 (ly_k L 21 rfl) rfl (wl_cb (b := (cm_I h 21 5) < 0) (off := 24) (tgt := 28) (pc3 := 7) (st' := []) d102_4 rfl rfl rfl rfl (by decide) rfl (fun c1 => wl_ic (v := (-1)) d102_28 rfl (wl_rt d102_29 rfl rfl rfl (H.1 c1))) (fun c1 => wl_st d102_7 rfl rfl rfl rfl (wl_gf (v := .int (cm_I h 21 5)) d102_8 pf5_35 (ly_k L 21 rfl) rfl (wl_bi (v := 6) d102_11 rfl (wl_cb (b := (6 : Int32) ≤ (cm_I h 21 5)) (off := 15) (tgt := 28) (pc3 := 16) (st' := []) d102_13 rfl rfl rfl rfl (by decide) rfl (fun c2 => wl_ic (v := (-1)) d102_28 rfl (wl_rt d102_29 rfl rfl rfl ((H.2 c1).1 c2))) (fun c2 => wl_st d102_16 rfl rfl rfl rfl (wl_gr (b := 26) d102_17 pf5_27 (ly_k L 21 rfl) rfl (ly_r L 21 4 rfl) (wl_st d102_20 rfl rfl rfl rfl (wl_st d102_21 rfl rfl rfl rfl (wl_ci d102_22 rfl rfl rfl pm5_38 (by decide) (ca_v (Or.inr rfl) rfl (Nat.le_of_ble_eq_true rfl) (Nat.le_of_ble_eq_true rfl) (ly_k L 26 rfl).2 (ly_k L 26 rfl).1 (by decide)) ((H.2 c1).2 c2))))))))))))
theorem s102_25 {sc : cmS} {d : Nat} {h : cmH} {Q : Option Value → cmH → Prop} (L : LY h) (x1 : Int32) (x2 : Int32) (sx0 : Int32) (H : (((¬ sx0 = 0) → (IX 6 (cm_I h 21 5)) ∧ cm_cv sc d 14 [.ref 21] (cm_setI (cm_setI (cm_setI h 22 (cm_I h 21 5).toNatClampNeg x1) 23 (cm_I h 21 5).toNatClampNeg x2) 21 5 ((cm_I h 21 5) + (1 : Int32))) (fun h' => cm_wp sc (d + 1) 102 64 [some (.ref 21), some (.int x1), some (.int x2)] [] h' Q)) ∧ (¬ (¬ sx0 = 0) → Q (some (.int (-1 : Int32))) h))) : cm_wp sc (d + 1) 102 25 [some (.ref 21), some (.int x1), some (.int x2)] [.int sx0] h Q :=
  wl_cb (b := ¬ sx0 = 0) (off := 5) (tgt := 30) (pc3 := 28) (st' := []) d102_25 rfl rfl rfl rfl (by decide) rfl (fun c1 => wl_st d102_30 rfl rfl rfl rfl (wl_gr (b := 22) d102_31 pf5_9 (ly_k L 21 rfl) rfl (ly_r L 21 0 rfl) (wl_st d102_34 rfl rfl rfl rfl (wl_gf (v := .int (cm_I h 21 5)) d102_35 pf5_35 (ly_k L 21 rfl) rfl (wl_st d102_38 rfl rfl rfl rfl (And.elim (fun g2 g2k => wl_if (h' := (cm_setI h 22 (cm_I h 21 5).toNatClampNeg x1)) d102_39 rfl rfl rfl rfl (ly_o L 22 rfl g2) (wl_st d102_40 rfl rfl rfl rfl (wl_gr (b := 23) d102_41 pf5_15 (ly_k L 21 rfl) rfl (ly_r L 21 1 rfl) (wl_st d102_44 rfl rfl rfl rfl (wl_gf (v := .int (cm_I h 21 5)) d102_45 pf5_35 (ly_k L 21 rfl) rfl (wl_st d102_48 rfl rfl rfl rfl (wl_if (h' := (cm_setI (cm_setI h 22 (cm_I h 21 5).toNatClampNeg x1) 23 (cm_I h 21 5).toNatClampNeg x2)) d102_49 rfl rfl rfl rfl (ly_o L 23 rfl g2) (wl_st d102_50 rfl rfl rfl rfl (wl_st d102_51 rfl rfl rfl rfl (wl_gf (v := .int (cm_I h 21 5)) d102_52 pf5_35 (ly_k L 21 rfl) rfl (wl_ic (v := 1) d102_55 rfl (wl_st d102_56 rfl rfl rfl rfl (wl_pf (h' := (cm_setI (cm_setI (cm_setI h 22 (cm_I h 21 5).toNatClampNeg x1) 23 (cm_I h 21 5).toNatClampNeg x2) 21 5 ((cm_I h 21 5) + (1 : Int32)))) d102_57 pf5_35 (ly_k L 21 rfl) (Or.inl rfl) rfl (wl_st d102_60 rfl rfl rfl rfl (wl_cv d102_61 rfl rfl rfl pm5_42 (by decide) (ca_v (Or.inl rfl) rfl (Nat.le_of_ble_eq_true rfl) (Nat.le_of_ble_eq_true rfl) (ly_k L 21 rfl).2 (ly_k L 21 rfl).1 (by decide)) g2k))))))))))))))) (H.1 c1))))))) (fun c1 => wl_ic (v := (-1)) d102_28 rfl (wl_rt d102_29 rfl rfl rfl (H.2 c1)))
theorem s102_64 {sc : cmS} {d : Nat} {h : cmH} {Q : Option Value → cmH → Prop} (L : LY h) (x1 : Int32) (x2 : Int32) (H : Q (some (.int ((cm_I h 21 5) - (1 : Int32)))) h) : cm_wp sc d 102 64 [some (.ref 21), some (.int x1), some (.int x2)] [] h Q :=
  wl_st d102_64 rfl rfl rfl rfl (wl_gf (v := .int (cm_I h 21 5)) d102_65 pf5_35 (ly_k L 21 rfl) rfl (wl_ic (v := 1) d102_68 rfl (wl_st d102_69 rfl rfl rfl rfl (wl_rt d102_70 rfl rfl rfl H))))
-- ClogHouse$Layers.findOrder(ILClogHouse$Stream;LClogHouse$Grains;)V
theorem d104_0 : decode (cm_M 104).2.2.1 0 = .ok (.aload_n 0, 1) := by decide +kernel
theorem d104_1 : decode (cm_M 104).2.2.1 1 = .ok (.getfield 31, 3) := by decide +kernel
theorem d104_4 : decode (cm_M 104).2.2.1 4 = .ok (.iload_n 1, 1) := by decide +kernel
theorem d104_5 : decode (cm_M 104).2.2.1 5 = .ok (.if_icmp .ne 4, 3) := by decide +kernel
theorem d104_8 : decode (cm_M 104).2.2.1 8 = .ok (.return_, 1) := by decide +kernel
theorem d104_9 : decode (cm_M 104).2.2.1 9 = .ok (.iconst 0, 1) := by decide +kernel
theorem d104_10 : decode (cm_M 104).2.2.1 10 = .ok (.istore 4, 2) := by decide +kernel
theorem d104_12 : decode (cm_M 104).2.2.1 12 = .ok (.iload 4, 2) := by decide +kernel
theorem d104_14 : decode (cm_M 104).2.2.1 14 = .ok (.bipush 6, 2) := by decide +kernel
theorem d104_16 : decode (cm_M 104).2.2.1 16 = .ok (.if_icmp .ge 18, 3) := by decide +kernel
theorem d104_19 : decode (cm_M 104).2.2.1 19 = .ok (.aload_n 0, 1) := by decide +kernel
theorem d104_20 : decode (cm_M 104).2.2.1 20 = .ok (.getfield 18, 3) := by decide +kernel
theorem d104_23 : decode (cm_M 104).2.2.1 23 = .ok (.iload 4, 2) := by decide +kernel
theorem d104_25 : decode (cm_M 104).2.2.1 25 = .ok (.iload 4, 2) := by decide +kernel
theorem d104_27 : decode (cm_M 104).2.2.1 27 = .ok (.iastore, 1) := by decide +kernel
theorem d104_28 : decode (cm_M 104).2.2.1 28 = .ok (.iinc 4 1, 3) := by decide +kernel
theorem d104_31 : decode (cm_M 104).2.2.1 31 = .ok (.goto (-19), 3) := by decide +kernel
theorem d104_34 : decode (cm_M 104).2.2.1 34 = .ok (.aload_n 0, 1) := by decide +kernel
theorem d104_35 : decode (cm_M 104).2.2.1 35 = .ok (.iconst (-1), 1) := by decide +kernel
theorem d104_36 : decode (cm_M 104).2.2.1 36 = .ok (.putfield 45, 3) := by decide +kernel
theorem d104_39 : decode (cm_M 104).2.2.1 39 = .ok (.iconst 1, 1) := by decide +kernel
theorem d104_40 : decode (cm_M 104).2.2.1 40 = .ok (.istore 4, 2) := by decide +kernel
theorem d104_42 : decode (cm_M 104).2.2.1 42 = .ok (.iconst 0, 1) := by decide +kernel
theorem d104_43 : decode (cm_M 104).2.2.1 43 = .ok (.istore 5, 2) := by decide +kernel
theorem d104_45 : decode (cm_M 104).2.2.1 45 = .ok (.iload 5, 2) := by decide +kernel
theorem d104_47 : decode (cm_M 104).2.2.1 47 = .ok (.sipush 720, 3) := by decide +kernel
theorem d104_50 : decode (cm_M 104).2.2.1 50 = .ok (.if_icmp .ge 68, 3) := by decide +kernel
theorem d104_53 : decode (cm_M 104).2.2.1 53 = .ok (.iload 4, 2) := by decide +kernel
theorem d104_55 : decode (cm_M 104).2.2.1 55 = .ok (.ifCond .eq 63, 3) := by decide +kernel
theorem d104_58 : decode (cm_M 104).2.2.1 58 = .ok (.aload_n 0, 1) := by decide +kernel
theorem d104_59 : decode (cm_M 104).2.2.1 59 = .ok (.getfield 45, 3) := by decide +kernel
theorem d104_62 : decode (cm_M 104).2.2.1 62 = .ok (.bipush 100, 2) := by decide +kernel
theorem d104_64 : decode (cm_M 104).2.2.1 64 = .ok (.if_icmp .ge 54, 3) := by decide +kernel
theorem d104_67 : decode (cm_M 104).2.2.1 67 = .ok (.aload_n 0, 1) := by decide +kernel
theorem d104_68 : decode (cm_M 104).2.2.1 68 = .ok (.iload_n 1, 1) := by decide +kernel
theorem d104_69 : decode (cm_M 104).2.2.1 69 = .ok (.aload_n 2, 1) := by decide +kernel
theorem d104_70 : decode (cm_M 104).2.2.1 70 = .ok (.aload_n 3, 1) := by decide +kernel
theorem d104_71 : decode (cm_M 104).2.2.1 71 = .ok (.invokevirtual 48, 3) := by decide +kernel
theorem d104_74 : decode (cm_M 104).2.2.1 74 = .ok (.istore 6, 2) := by decide +kernel
theorem d104_76 : decode (cm_M 104).2.2.1 76 = .ok (.iload 6, 2) := by decide +kernel
theorem d104_78 : decode (cm_M 104).2.2.1 78 = .ok (.aload_n 0, 1) := by decide +kernel
theorem d104_79 : decode (cm_M 104).2.2.1 79 = .ok (.getfield 45, 3) := by decide +kernel
theorem d104_82 : decode (cm_M 104).2.2.1 82 = .ok (.if_icmp .le 24, 3) := by decide +kernel
theorem d104_85 : decode (cm_M 104).2.2.1 85 = .ok (.aload_n 0, 1) := by decide +kernel
theorem d104_86 : decode (cm_M 104).2.2.1 86 = .ok (.iload 6, 2) := by decide +kernel
theorem d104_88 : decode (cm_M 104).2.2.1 88 = .ok (.putfield 45, 3) := by decide +kernel
theorem d104_91 : decode (cm_M 104).2.2.1 91 = .ok (.aload_n 0, 1) := by decide +kernel
theorem d104_92 : decode (cm_M 104).2.2.1 92 = .ok (.getfield 18, 3) := by decide +kernel
theorem d104_95 : decode (cm_M 104).2.2.1 95 = .ok (.iconst 0, 1) := by decide +kernel
theorem d104_96 : decode (cm_M 104).2.2.1 96 = .ok (.aload_n 0, 1) := by decide +kernel
theorem d104_97 : decode (cm_M 104).2.2.1 97 = .ok (.getfield 21, 3) := by decide +kernel
theorem d104_100 : decode (cm_M 104).2.2.1 100 = .ok (.iconst 0, 1) := by decide +kernel
theorem d104_101 : decode (cm_M 104).2.2.1 101 = .ok (.bipush 6, 2) := by decide +kernel
theorem d104_103 : decode (cm_M 104).2.2.1 103 = .ok (.invokestatic 52, 3) := by decide +kernel
theorem d104_106 : decode (cm_M 104).2.2.1 106 = .ok (.aload_n 0, 1) := by decide +kernel
theorem d104_107 : decode (cm_M 104).2.2.1 107 = .ok (.invokevirtual 58, 3) := by decide +kernel
theorem d104_110 : decode (cm_M 104).2.2.1 110 = .ok (.istore 4, 2) := by decide +kernel
theorem d104_112 : decode (cm_M 104).2.2.1 112 = .ok (.iinc 5 1, 3) := by decide +kernel
theorem d104_115 : decode (cm_M 104).2.2.1 115 = .ok (.goto (-70), 3) := by decide +kernel
theorem d104_118 : decode (cm_M 104).2.2.1 118 = .ok (.aload_n 0, 1) := by decide +kernel
theorem d104_119 : decode (cm_M 104).2.2.1 119 = .ok (.iload_n 1, 1) := by decide +kernel
theorem d104_120 : decode (cm_M 104).2.2.1 120 = .ok (.putfield 31, 3) := by decide +kernel
theorem d104_123 : decode (cm_M 104).2.2.1 123 = .ok (.return_, 1) := by decide +kernel
theorem s104_0 {sc : cmS} {d : Nat} {h : cmH} {Q : Option Value → cmH → Prop} (L : LY h) (x1 : Int32) (u4 : Option Value) (u5 : Option Value) (u6 : Option Value) (H : (((¬ (cm_I h 21 7) = x1) → cm_wp sc d 104 12 [some (.ref 21), some (.int x1), some (.ref 12), some (.ref 1), some (.int (0 : Int32)), u5, u6] [] h Q) ∧ (¬ (¬ (cm_I h 21 7) = x1) → Q none h))) : cm_wp sc d 104 0 [some (.ref 21), some (.int x1), some (.ref 12), some (.ref 1), u4, u5, u6] [] h Q :=
  wl_st d104_0 rfl rfl rfl rfl (wl_gf (v := .int (cm_I h 21 7)) d104_1 pf5_31 (ly_k L 21 rfl) rfl (wl_st d104_4 rfl rfl rfl rfl (wl_cb (b := ¬ (cm_I h 21 7) = x1) (off := 4) (tgt := 9) (pc3 := 8) (st' := []) d104_5 rfl rfl rfl rfl (by decide) rfl (fun c1 => wl_ic (v := 0) d104_9 rfl (wl_st (ls' := [some (.ref 21), some (.int x1), some (.ref 12), some (.ref 1), some (.int (0 : Int32)), u5, u6]) d104_10 rfl rfl rfl rfl ((H.1 c1)))) (fun c1 => wl_rt d104_8 rfl rfl rfl (H.2 c1)))))
theorem s104_12 {sc : cmS} {d : Nat} {h : cmH} {Q : Option Value → cmH → Prop} (L : LY h) (x1 : Int32) (x4 : Int32) (u5 : Option Value) (u6 : Option Value) (H : ((((6 : Int32) ≤ x4) → cm_wp sc d 104 45 [some (.ref 21), some (.int x1), some (.ref 12), some (.ref 1), some (.int (1 : Int32)), some (.int (0 : Int32)), u6] [] (cm_setI h 21 6 (-1 : Int32)) Q) ∧ (¬ ((6 : Int32) ≤ x4) → (IX 6 x4) ∧ cm_wp sc d 104 12 [some (.ref 21), some (.int x1), some (.ref 12), some (.ref 1), some (.int (x4 + 1)), u5, u6] [] (cm_setI h 24 x4.toNatClampNeg x4) Q))) : cm_wp sc d 104 12 [some (.ref 21), some (.int x1), some (.ref 12), some (.ref 1), some (.int x4), u5, u6] [] h Q :=
  wl_st d104_12 rfl rfl rfl rfl (wl_bi (v := 6) d104_14 rfl (wl_cb (b := (6 : Int32) ≤ x4) (off := 18) (tgt := 34) (pc3 := 19) (st' := []) d104_16 rfl rfl rfl rfl (by decide) rfl (fun c1 => wl_st d104_34 rfl rfl rfl rfl (wl_ic (v := (-1)) d104_35 rfl (wl_pf (h' := (cm_setI h 21 6 (-1 : Int32))) d104_36 pf5_45 (ly_k L 21 rfl) (Or.inl rfl) rfl (wl_ic (v := 1) d104_39 rfl (wl_st (ls' := [some (.ref 21), some (.int x1), some (.ref 12), some (.ref 1), some (.int (1 : Int32)), u5, u6]) d104_40 rfl rfl rfl rfl (wl_ic (v := 0) d104_42 rfl (wl_st (ls' := [some (.ref 21), some (.int x1), some (.ref 12), some (.ref 1), some (.int (1 : Int32)), some (.int (0 : Int32)), u6]) d104_43 rfl rfl rfl rfl ((H.1 c1))))))))) (fun c1 => wl_st d104_19 rfl rfl rfl rfl (wl_gr (b := 24) d104_20 pf5_18 (ly_k L 21 rfl) rfl (ly_r L 21 2 rfl) (wl_st d104_23 rfl rfl rfl rfl (wl_st d104_25 rfl rfl rfl rfl (And.elim (fun g2 g2k => wl_if (h' := (cm_setI h 24 x4.toNatClampNeg x4)) d104_27 rfl rfl rfl rfl (ly_o L 24 rfl g2) (wl_st (ls' := [some (.ref 21), some (.int x1), some (.ref 12), some (.ref 1), some (.int (x4 + 1)), u5, u6]) d104_28 rfl rfl rfl rfl (wl_go (tgt := 12) d104_31 (by decide) (g2k)))) (H.2 c1))))))))
theorem s104_45 {sc : cmS} {d : Nat} {h : cmH} {Q : Option Value → cmH → Prop} (L : LY h) (x1 : Int32) (x4 : Int32) (x5 : Int32) (u6 : Option Value) (H : ((((720 : Int32) ≤ x5) → cm_wp sc (d + 1) 104 118 [some (.ref 21), some (.int x1), some (.ref 12), some (.ref 1), some (.int x4), some (.int x5), u6] [] h Q) ∧ (¬ ((720 : Int32) ≤ x5) → (((x4 = 0) → cm_wp sc (d + 1) 104 118 [some (.ref 21), some (.int x1), some (.ref 12), some (.ref 1), some (.int x4), some (.int x5), u6] [] h Q) ∧ (¬ (x4 = 0) → ((((100 : Int32) ≤ (cm_I h 21 6)) → cm_wp sc (d + 1) 104 118 [some (.ref 21), some (.int x1), some (.ref 12), some (.ref 1), some (.int x4), some (.int x5), u6] [] h Q) ∧ (¬ ((100 : Int32) ≤ (cm_I h 21 6)) → cm_ci sc d 105 [.ref 21, .int x1, .ref 12, .ref 1] h (fun r h' => cm_wp sc (d + 1) 104 74 [some (.ref 21), some (.int x1), some (.ref 12), some (.ref 1), some (.int x4), some (.int x5), u6] [.int r] h' Q)))))))) : cm_wp sc (d + 1) 104 45 [some (.ref 21), some (.int x1), some (.ref 12), some (.ref 1), some (.int x4), some (.int x5), u6] [] h Q :=
  wl_st d104_45 rfl rfl rfl rfl (wl_si (v := 720) d104_47 rfl (wl_cb (b := (720 : Int32) ≤ x5) (off := 68) (tgt := 118) (pc3 := 53) (st' := []) d104_50 rfl rfl rfl rfl (by decide) rfl (fun c1 => (H.1 c1)) (fun c1 => wl_st d104_53 rfl rfl rfl rfl (wl_cb (b := x4 = 0) (off := 63) (tgt := 118) (pc3 := 58) (st' := []) d104_55 rfl rfl rfl rfl (by decide) rfl (fun c2 => ((H.2 c1).1 c2)) (fun c2 => wl_st d104_58 rfl rfl rfl rfl (wl_gf (v := .int (cm_I h 21 6)) d104_59 pf5_45 (ly_k L 21 rfl) rfl (wl_bi (v := 100) d104_62 rfl (wl_cb (b := (100 : Int32) ≤ (cm_I h 21 6)) (off := 54) (tgt := 118) (pc3 := 67) (st' := []) d104_64 rfl rfl rfl rfl (by decide) rfl (fun c3 => (((H.2 c1).2 c2).1 c3)) (fun c3 => wl_st d104_67 rfl rfl rfl rfl (wl_st d104_68 rfl rfl rfl rfl (wl_st d104_69 rfl rfl rfl rfl (wl_st d104_70 rfl rfl rfl rfl (wl_ci d104_71 rfl rfl rfl pm5_48 (by decide) (ca_v (Or.inl rfl) rfl (Nat.le_of_ble_eq_true rfl) (Nat.le_of_ble_eq_true rfl) (ly_k L 21 rfl).2 (ly_k L 21 rfl).1 (by decide)) (((H.2 c1).2 c2).2 c3))))))))))))))
theorem s104_74 {sc : cmS} {d : Nat} {h : cmH} {Q : Option Value → cmH → Prop} (L : LY h) (x1 : Int32) (x4 : Int32) (x5 : Int32) (u6 : Option Value) (sx0 : Int32) (H : (((sx0 ≤ (cm_I h 21 6)) → cm_wp sc (d + 1) 104 106 [some (.ref 21), some (.int x1), some (.ref 12), some (.ref 1), some (.int x4), some (.int x5), some (.int sx0)] [] h Q) ∧ (¬ (sx0 ≤ (cm_I h 21 6)) → (24 < cm_n h ∧ 25 < cm_n h ∧ cm_kd h 24 = 13 ∧ cm_kd h 25 = 13 ∧ ¬ (0 : Int32) < 0 ∧ ¬ (0 : Int32) < 0 ∧ ¬ (6 : Int32) < 0 ∧ (0 : Int32).toNatClampNeg + (6 : Int32).toNatClampNeg ≤ cm_ln h 24 ∧ (0 : Int32).toNatClampNeg + (6 : Int32).toNatClampNeg ≤ cm_ln h 25) ∧ cm_wp sc (d + 1) 104 106 [some (.ref 21), some (.int x1), some (.ref 12), some (.ref 1), some (.int x4), some (.int x5), some (.int sx0)] [] (cm_rowI (cm_setI h 21 6 sx0) 25 (va_cpy (cm_I (cm_setI h 21 6 sx0) 24) (cm_I (cm_setI h 21 6 sx0) 25) (0 : Int32).toNatClampNeg (0 : Int32).toNatClampNeg (6 : Int32).toNatClampNeg)) Q))) : cm_wp sc (d + 1) 104 74 [some (.ref 21), some (.int x1), some (.ref 12), some (.ref 1), some (.int x4), some (.int x5), u6] [.int sx0] h Q :=
  wl_st (ls' := [some (.ref 21), some (.int x1), some (.ref 12), some (.ref 1), some (.int x4), some (.int x5), some (.int sx0)]) d104_74 rfl rfl rfl rfl (wl_st d104_76 rfl rfl rfl rfl (wl_st d104_78 rfl rfl rfl rfl (wl_gf (v := .int (cm_I h 21 6)) d104_79 pf5_45 (ly_k L 21 rfl) rfl (wl_cb (b := sx0 ≤ (cm_I h 21 6)) (off := 24) (tgt := 106) (pc3 := 85) (st' := []) d104_82 rfl rfl rfl rfl (by decide) rfl (fun c1 => (H.1 c1)) (fun c1 => wl_st d104_85 rfl rfl rfl rfl (wl_st d104_86 rfl rfl rfl rfl (wl_pf (h' := (cm_setI h 21 6 sx0)) d104_88 pf5_45 (ly_k L 21 rfl) (Or.inl rfl) rfl (wl_st d104_91 rfl rfl rfl rfl (wl_gr (b := 24) d104_92 pf5_18 (ly_k L 21 rfl) rfl (ly_r L 21 2 rfl) (wl_ic (v := 0) d104_95 rfl (wl_st d104_96 rfl rfl rfl rfl (wl_gr (b := 25) d104_97 pf5_21 (ly_k L 21 rfl) rfl (ly_r L 21 3 rfl) (wl_ic (v := 0) d104_100 rfl (wl_bi (v := 6) d104_101 rfl (And.elim (fun g2 g2k => wl_pr (h' := (cm_rowI (cm_setI h 21 6 sx0) 25 (va_cpy (cm_I (cm_setI h 21 6 sx0) 24) (cm_I (cm_setI h 21 6 sx0) 25) (0 : Int32).toNatClampNeg (0 : Int32).toNatClampNeg (6 : Int32).toNatClampNeg))) d104_103 rfl rfl rfl pm5_52 (by decide) rfl (cm_pr11 ⟨Nat.le_of_ble_eq_true rfl, g2⟩) (g2k)) (H.2 c1))))))))))))))))
theorem s104_106 {sc : cmS} {d : Nat} {h : cmH} {Q : Option Value → cmH → Prop} (L : LY h) (x1 : Int32) (x4 : Int32) (x5 : Int32) (x6 : Int32) (H : cm_ci sc d 108 [.ref 21] h (fun r h' => cm_wp sc (d + 1) 104 110 [some (.ref 21), some (.int x1), some (.ref 12), some (.ref 1), some (.int x4), some (.int x5), some (.int x6)] [.int r] h' Q)) : cm_wp sc (d + 1) 104 106 [some (.ref 21), some (.int x1), some (.ref 12), some (.ref 1), some (.int x4), some (.int x5), some (.int x6)] [] h Q :=
  wl_st d104_106 rfl rfl rfl rfl (wl_ci d104_107 rfl rfl rfl pm5_58 (by decide) (ca_v (Or.inl rfl) rfl (Nat.le_of_ble_eq_true rfl) (Nat.le_of_ble_eq_true rfl) (ly_k L 21 rfl).2 (ly_k L 21 rfl).1 (by decide)) H)
theorem s104_110 {sc : cmS} {d : Nat} {h : cmH} {Q : Option Value → cmH → Prop} (x1 : Int32) (x4 : Int32) (x5 : Int32) (x6 : Int32) (sx0 : Int32) (H : cm_wp sc d 104 45 [some (.ref 21), some (.int x1), some (.ref 12), some (.ref 1), some (.int sx0), some (.int (x5 + 1)), some (.int x6)] [] h Q) : cm_wp sc d 104 110 [some (.ref 21), some (.int x1), some (.ref 12), some (.ref 1), some (.int x4), some (.int x5), some (.int x6)] [.int sx0] h Q :=
  wl_st (ls' := [some (.ref 21), some (.int x1), some (.ref 12), some (.ref 1), some (.int sx0), some (.int x5), some (.int x6)]) d104_110 rfl rfl rfl rfl (wl_st (ls' := [some (.ref 21), some (.int x1), some (.ref 12), some (.ref 1), some (.int sx0), some (.int (x5 + 1)), some (.int x6)]) d104_112 rfl rfl rfl rfl (wl_go (tgt := 45) d104_115 (by decide) (H)))
theorem s104_118 {sc : cmS} {d : Nat} {h : cmH} {Q : Option Value → cmH → Prop} (L : LY h) (x1 : Int32) (x4 : Int32) (x5 : Int32) (u6 : Option Value) (H : Q none (cm_setI h 21 7 x1)) : cm_wp sc d 104 118 [some (.ref 21), some (.int x1), some (.ref 12), some (.ref 1), some (.int x4), some (.int x5), u6] [] h Q :=
  wl_st d104_118 rfl rfl rfl rfl (wl_st d104_119 rfl rfl rfl rfl (wl_pf (h' := (cm_setI h 21 7 x1)) d104_120 pf5_31 (ly_k L 21 rfl) (Or.inl rfl) rfl (wl_rt d104_123 rfl rfl rfl H)))
-- ClogHouse$Layers.hoursOfTried(ILClogHouse$Stream;LClogHouse$Grains;)I
theorem d105_0 : decode (cm_M 105).2.2.1 0 = .ok (.aload_n 2, 1) := by decide +kernel
theorem d105_1 : decode (cm_M 105).2.2.1 1 = .ok (.invokevirtual 62, 3) := by decide +kernel
theorem d105_4 : decode (cm_M 105).2.2.1 4 = .ok (.istore 4, 2) := by decide +kernel
theorem d105_6 : decode (cm_M 105).2.2.1 6 = .ok (.iload 4, 2) := by decide +kernel
theorem d105_8 : decode (cm_M 105).2.2.1 8 = .ok (.iload_n 1, 1) := by decide +kernel
theorem d105_9 : decode (cm_M 105).2.2.1 9 = .ok (.if_icmp .gt 6, 3) := by decide +kernel
theorem d105_12 : decode (cm_M 105).2.2.1 12 = .ok (.bipush 100, 2) := by decide +kernel
theorem d105_14 : decode (cm_M 105).2.2.1 14 = .ok (.ireturn, 1) := by decide +kernel
theorem d105_15 : decode (cm_M 105).2.2.1 15 = .ok (.aload_n 0, 1) := by decide +kernel
theorem d105_16 : decode (cm_M 105).2.2.1 16 = .ok (.invokevirtual 68, 3) := by decide +kernel
theorem d105_19 : decode (cm_M 105).2.2.1 19 = .ok (.iconst 0, 1) := by decide +kernel
theorem d105_20 : decode (cm_M 105).2.2.1 20 = .ok (.istore 5, 2) := by decide +kernel
theorem d105_22 : decode (cm_M 105).2.2.1 22 = .ok (.iload 5, 2) := by decide +kernel
theorem d105_24 : decode (cm_M 105).2.2.1 24 = .ok (.bipush 100, 2) := by decide +kernel
theorem d105_26 : decode (cm_M 105).2.2.1 26 = .ok (.if_icmp .ge 94, 3) := by decide +kernel
theorem d105_29 : decode (cm_M 105).2.2.1 29 = .ok (.iconst 0, 1) := by decide +kernel
theorem d105_30 : decode (cm_M 105).2.2.1 30 = .ok (.istore 6, 2) := by decide +kernel
theorem d105_32 : decode (cm_M 105).2.2.1 32 = .ok (.iload 6, 2) := by decide +kernel
theorem d105_34 : decode (cm_M 105).2.2.1 34 = .ok (.bipush 8, 2) := by decide +kernel
theorem d105_36 : decode (cm_M 105).2.2.1 36 = .ok (.if_icmp .ge 25, 3) := by decide +kernel
theorem d105_39 : decode (cm_M 105).2.2.1 39 = .ok (.aload_n 0, 1) := by decide +kernel
theorem d105_40 : decode (cm_M 105).2.2.1 40 = .ok (.getfield 27, 3) := by decide +kernel
theorem d105_43 : decode (cm_M 105).2.2.1 43 = .ok (.getfield 71, 3) := by decide +kernel
theorem d105_46 : decode (cm_M 105).2.2.1 46 = .ok (.iload 6, 2) := by decide +kernel
theorem d105_48 : decode (cm_M 105).2.2.1 48 = .ok (.aload_n 2, 1) := by decide +kernel
theorem d105_49 : decode (cm_M 105).2.2.1 49 = .ok (.iload 6, 2) := by decide +kernel
theorem d105_51 : decode (cm_M 105).2.2.1 51 = .ok (.invokevirtual 74, 3) := by decide +kernel
theorem d105_54 : decode (cm_M 105).2.2.1 54 = .ok (.iastore, 1) := by decide +kernel
theorem d105_55 : decode (cm_M 105).2.2.1 55 = .ok (.iinc 6 1, 3) := by decide +kernel
theorem d105_58 : decode (cm_M 105).2.2.1 58 = .ok (.goto (-26), 3) := by decide +kernel
theorem d105_61 : decode (cm_M 105).2.2.1 61 = .ok (.aload_n 0, 1) := by decide +kernel
theorem d105_62 : decode (cm_M 105).2.2.1 62 = .ok (.getfield 27, 3) := by decide +kernel
theorem d105_65 : decode (cm_M 105).2.2.1 65 = .ok (.invokevirtual 78, 3) := by decide +kernel
theorem d105_68 : decode (cm_M 105).2.2.1 68 = .ok (.lconst 0, 1) := by decide +kernel
theorem d105_69 : decode (cm_M 105).2.2.1 69 = .ok (.lcmp, 1) := by decide +kernel
theorem d105_70 : decode (cm_M 105).2.2.1 70 = .ok (.ifCond .le 22, 3) := by decide +kernel
theorem d105_73 : decode (cm_M 105).2.2.1 73 = .ok (.aload_n 0, 1) := by decide +kernel
theorem d105_74 : decode (cm_M 105).2.2.1 74 = .ok (.getfield 27, 3) := by decide +kernel
theorem d105_77 : decode (cm_M 105).2.2.1 77 = .ok (.aload_n 2, 1) := by decide +kernel
theorem d105_78 : decode (cm_M 105).2.2.1 78 = .ok (.getfield 82, 3) := by decide +kernel
theorem d105_81 : decode (cm_M 105).2.2.1 81 = .ok (.aload_n 3, 1) := by decide +kernel
theorem d105_82 : decode (cm_M 105).2.2.1 82 = .ok (.invokevirtual 85, 3) := by decide +kernel
theorem d105_85 : decode (cm_M 105).2.2.1 85 = .ok (.ifCond .eq 7, 3) := by decide +kernel
theorem d105_88 : decode (cm_M 105).2.2.1 88 = .ok (.iconst 1, 1) := by decide +kernel
theorem d105_89 : decode (cm_M 105).2.2.1 89 = .ok (.goto 4, 3) := by decide +kernel
theorem d105_92 : decode (cm_M 105).2.2.1 92 = .ok (.iconst 0, 1) := by decide +kernel
theorem d105_93 : decode (cm_M 105).2.2.1 93 = .ok (.istore 6, 2) := by decide +kernel
theorem d105_95 : decode (cm_M 105).2.2.1 95 = .ok (.iload 6, 2) := by decide +kernel
theorem d105_97 : decode (cm_M 105).2.2.1 97 = .ok (.ifCond .eq 14, 3) := by decide +kernel
theorem d105_100 : decode (cm_M 105).2.2.1 100 = .ok (.aload_n 0, 1) := by decide +kernel
theorem d105_101 : decode (cm_M 105).2.2.1 101 = .ok (.getfield 27, 3) := by decide +kernel
theorem d105_104 : decode (cm_M 105).2.2.1 104 = .ok (.invokevirtual 89, 3) := by decide +kernel
theorem d105_107 : decode (cm_M 105).2.2.1 107 = .ok (.iload_n 1, 1) := by decide +kernel
theorem d105_108 : decode (cm_M 105).2.2.1 108 = .ok (.if_icmp .le 6, 3) := by decide +kernel
theorem d105_111 : decode (cm_M 105).2.2.1 111 = .ok (.iload 5, 2) := by decide +kernel
theorem d105_113 : decode (cm_M 105).2.2.1 113 = .ok (.ireturn, 1) := by decide +kernel
theorem d105_114 : decode (cm_M 105).2.2.1 114 = .ok (.iinc 5 1, 3) := by decide +kernel
theorem d105_117 : decode (cm_M 105).2.2.1 117 = .ok (.goto (-95), 3) := by decide +kernel
theorem d105_120 : decode (cm_M 105).2.2.1 120 = .ok (.bipush 100, 2) := by decide +kernel
theorem d105_122 : decode (cm_M 105).2.2.1 122 = .ok (.ireturn, 1) := by decide +kernel
theorem s105_0 {sc : cmS} {d : Nat} {h : cmH} {Q : Option Value → cmH → Prop} (L : LY h) (x1 : Int32) (u4 : Option Value) (u5 : Option Value) (u6 : Option Value) (H : cm_ci sc d 106 [.ref 12] h (fun r h' => cm_wp sc (d + 1) 105 4 [some (.ref 21), some (.int x1), some (.ref 12), some (.ref 1), u4, u5, u6] [.int r] h' Q)) : cm_wp sc (d + 1) 105 0 [some (.ref 21), some (.int x1), some (.ref 12), some (.ref 1), u4, u5, u6] [] h Q :=
  wl_st d105_0 rfl rfl rfl rfl (wl_ci d105_1 rfl rfl rfl pm5_62 (by decide) (ca_v (Or.inr rfl) rfl (Nat.le_of_ble_eq_true rfl) (Nat.le_of_ble_eq_true rfl) (ly_k L 12 rfl).2 (ly_k L 12 rfl).1 (by decide)) H)
theorem s105_4 {sc : cmS} {d : Nat} {h : cmH} {Q : Option Value → cmH → Prop} (L : LY h) (x1 : Int32) (u4 : Option Value) (u5 : Option Value) (u6 : Option Value) (sx0 : Int32) (H : (((x1 < sx0) → cm_cv sc d 107 [.ref 21] h (fun h' => cm_wp sc (d + 1) 105 19 [some (.ref 21), some (.int x1), some (.ref 12), some (.ref 1), some (.int sx0), u5, u6] [] h' Q)) ∧ (¬ (x1 < sx0) → Q (some (.int (100 : Int32))) h))) : cm_wp sc (d + 1) 105 4 [some (.ref 21), some (.int x1), some (.ref 12), some (.ref 1), u4, u5, u6] [.int sx0] h Q :=
  wl_st (ls' := [some (.ref 21), some (.int x1), some (.ref 12), some (.ref 1), some (.int sx0), u5, u6]) d105_4 rfl rfl rfl rfl (wl_st d105_6 rfl rfl rfl rfl (wl_st d105_8 rfl rfl rfl rfl (wl_cb (b := x1 < sx0) (off := 6) (tgt := 15) (pc3 := 12) (st' := []) d105_9 rfl rfl rfl rfl (by decide) rfl (fun c1 => wl_st d105_15 rfl rfl rfl rfl (wl_cv d105_16 rfl rfl rfl pm5_68 (by decide) (ca_v (Or.inl rfl) rfl (Nat.le_of_ble_eq_true rfl) (Nat.le_of_ble_eq_true rfl) (ly_k L 21 rfl).2 (ly_k L 21 rfl).1 (by decide)) (H.1 c1))) (fun c1 => wl_bi (v := 100) d105_12 rfl (wl_rt d105_14 rfl rfl rfl (H.2 c1))))))
theorem s105_19 {sc : cmS} {d : Nat} {h : cmH} {Q : Option Value → cmH → Prop} (x1 : Int32) (x4 : Int32) (u5 : Option Value) (u6 : Option Value) (H : cm_wp sc d 105 22 [some (.ref 21), some (.int x1), some (.ref 12), some (.ref 1), some (.int x4), some (.int (0 : Int32)), u6] [] h Q) : cm_wp sc d 105 19 [some (.ref 21), some (.int x1), some (.ref 12), some (.ref 1), some (.int x4), u5, u6] [] h Q :=
  wl_ic (v := 0) d105_19 rfl (wl_st (ls' := [some (.ref 21), some (.int x1), some (.ref 12), some (.ref 1), some (.int x4), some (.int (0 : Int32)), u6]) d105_20 rfl rfl rfl rfl (H))
theorem s105_22 {sc : cmS} {d : Nat} {h : cmH} {Q : Option Value → cmH → Prop} (x1 : Int32) (x4 : Int32) (x5 : Int32) (u6 : Option Value) (H : ((((100 : Int32) ≤ x5) → Q (some (.int (100 : Int32))) h) ∧ (¬ ((100 : Int32) ≤ x5) → cm_wp sc d 105 32 [some (.ref 21), some (.int x1), some (.ref 12), some (.ref 1), some (.int x4), some (.int x5), some (.int (0 : Int32))] [] h Q))) : cm_wp sc d 105 22 [some (.ref 21), some (.int x1), some (.ref 12), some (.ref 1), some (.int x4), some (.int x5), u6] [] h Q :=
  wl_st d105_22 rfl rfl rfl rfl (wl_bi (v := 100) d105_24 rfl (wl_cb (b := (100 : Int32) ≤ x5) (off := 94) (tgt := 120) (pc3 := 29) (st' := []) d105_26 rfl rfl rfl rfl (by decide) rfl (fun c1 => wl_bi (v := 100) d105_120 rfl (wl_rt d105_122 rfl rfl rfl (H.1 c1))) (fun c1 => wl_ic (v := 0) d105_29 rfl (wl_st (ls' := [some (.ref 21), some (.int x1), some (.ref 12), some (.ref 1), some (.int x4), some (.int x5), some (.int (0 : Int32))]) d105_30 rfl rfl rfl rfl ((H.2 c1))))))
theorem s105_32 {sc : cmS} {d : Nat} {h : cmH} {Q : Option Value → cmH → Prop} (L : LY h) (x1 : Int32) (x4 : Int32) (x5 : Int32) (x6 : Int32) (H : ((((8 : Int32) ≤ x6) → cm_cj' sc d 76 [.ref 26] h (fun r h' => cm_wp sc (d + 1) 105 68 [some (.ref 21), some (.int x1), some (.ref 12), some (.ref 1), some (.int x4), some (.int x5), some (.int x6)] [.long r] h' Q)) ∧ (¬ ((8 : Int32) ≤ x6) → cm_ci sc d 78 [.ref 12, .int x6] h (fun r h' => cm_wp sc (d + 1) 105 54 [some (.ref 21), some (.int x1), some (.ref 12), some (.ref 1), some (.int x4), some (.int x5), some (.int x6)] [.int r, .int x6, .ref 29] h' Q)))) : cm_wp sc (d + 1) 105 32 [some (.ref 21), some (.int x1), some (.ref 12), some (.ref 1), some (.int x4), some (.int x5), some (.int x6)] [] h Q :=
  wl_st d105_32 rfl rfl rfl rfl (wl_bi (v := 8) d105_34 rfl (wl_cb (b := (8 : Int32) ≤ x6) (off := 25) (tgt := 61) (pc3 := 39) (st' := []) d105_36 rfl rfl rfl rfl (by decide) rfl (fun c1 => wl_st d105_61 rfl rfl rfl rfl (wl_gr (b := 26) d105_62 pf5_27 (ly_k L 21 rfl) rfl (ly_r L 21 4 rfl) (wl_cj d105_65 rfl rfl rfl pm5_78 (by decide) (ca_v (Or.inr rfl) rfl (Nat.le_of_ble_eq_true rfl) (Nat.le_of_ble_eq_true rfl) (ly_k L 26 rfl).2 (ly_k L 26 rfl).1 (by decide)) (H.1 c1)))) (fun c1 => wl_st d105_39 rfl rfl rfl rfl (wl_gr (b := 26) d105_40 pf5_27 (ly_k L 21 rfl) rfl (ly_r L 21 4 rfl) (wl_gr (b := 29) d105_43 pf5_71 (ly_k L 26 rfl) rfl (ly_r L 26 2 rfl) (wl_st d105_46 rfl rfl rfl rfl (wl_st d105_48 rfl rfl rfl rfl (wl_st d105_49 rfl rfl rfl rfl (wl_ci d105_51 rfl rfl rfl pm5_74 (by decide) (ca_v (Or.inr rfl) rfl (Nat.le_of_ble_eq_true rfl) (Nat.le_of_ble_eq_true rfl) (ly_k L 12 rfl).2 (ly_k L 12 rfl).1 (by decide)) (H.2 c1))))))))))
theorem s105_54 {sc : cmS} {d : Nat} {h : cmH} {Q : Option Value → cmH → Prop} (L : LY h) (x1 : Int32) (x4 : Int32) (x5 : Int32) (x6 : Int32) (sx0 : Int32) (sx1 : Int32) (H : (IX 8 sx1) ∧ cm_wp sc d 105 32 [some (.ref 21), some (.int x1), some (.ref 12), some (.ref 1), some (.int x4), some (.int x5), some (.int (x6 + 1))] [] (cm_setI h 29 sx1.toNatClampNeg sx0) Q) : cm_wp sc d 105 54 [some (.ref 21), some (.int x1), some (.ref 12), some (.ref 1), some (.int x4), some (.int x5), some (.int x6)] [.int sx0, .int sx1, .ref 29] h Q :=
  And.elim (fun g1 g1k => wl_if (h' := (cm_setI h 29 sx1.toNatClampNeg sx0)) d105_54 rfl rfl rfl rfl (ly_o L 29 rfl g1) (wl_st (ls' := [some (.ref 21), some (.int x1), some (.ref 12), some (.ref 1), some (.int x4), some (.int x5), some (.int (x6 + 1))]) d105_55 rfl rfl rfl rfl (wl_go (tgt := 32) d105_58 (by decide) (g1k)))) H
theorem s105_68 {sc : cmS} {d : Nat} {h : cmH} {Q : Option Value → cmH → Prop} (L : LY h) (x1 : Int32) (x4 : Int32) (x5 : Int32) (x6 : Int32) (sy0 : Int64) (H : ((((lg_cmp sy0 (0 : Int64)) ≤ 0) → cm_wp sc (d + 1) 105 92 [some (.ref 21), some (.int x1), some (.ref 12), some (.ref 1), some (.int x4), some (.int x5), some (.int x6)] [] h Q) ∧ (¬ ((lg_cmp sy0 (0 : Int64)) ≤ 0) → cm_ci sc d 85 [.ref 26, .int (cm_I h 12 1), .ref 1] h (fun r h' => cm_wp sc (d + 1) 105 85 [some (.ref 21), some (.int x1), some (.ref 12), some (.ref 1), some (.int x4), some (.int x5), some (.int x6)] [.int r] h' Q)))) : cm_wp sc (d + 1) 105 68 [some (.ref 21), some (.int x1), some (.ref 12), some (.ref 1), some (.int x4), some (.int x5), some (.int x6)] [.long sy0] h Q :=
  wl_lc (v := 0) d105_68 rfl (wl_st d105_69 rfl rfl rfl rfl (wl_cb (b := (lg_cmp sy0 (0 : Int64)) ≤ 0) (off := 22) (tgt := 92) (pc3 := 73) (st' := []) d105_70 rfl rfl rfl rfl (by decide) rfl (fun c1 => (H.1 c1)) (fun c1 => wl_st d105_73 rfl rfl rfl rfl (wl_gr (b := 26) d105_74 pf5_27 (ly_k L 21 rfl) rfl (ly_r L 21 4 rfl) (wl_st d105_77 rfl rfl rfl rfl (wl_gf (v := .int (cm_I h 12 1)) d105_78 pf5_82 (ly_k L 12 rfl) rfl (wl_st d105_81 rfl rfl rfl rfl (wl_ci d105_82 rfl rfl rfl pm5_85 (by decide) (ca_v (Or.inr rfl) rfl (Nat.le_of_ble_eq_true rfl) (Nat.le_of_ble_eq_true rfl) (ly_k L 26 rfl).2 (ly_k L 26 rfl).1 (by decide)) (H.2 c1)))))))))
theorem s105_85 {sc : cmS} {d : Nat} {h : cmH} {Q : Option Value → cmH → Prop} (x1 : Int32) (x4 : Int32) (x5 : Int32) (x6 : Int32) (sx0 : Int32) (H : (((sx0 = 0) → cm_wp sc d 105 92 [some (.ref 21), some (.int x1), some (.ref 12), some (.ref 1), some (.int x4), some (.int x5), some (.int x6)] [] h Q) ∧ (¬ (sx0 = 0) → cm_wp sc d 105 93 [some (.ref 21), some (.int x1), some (.ref 12), some (.ref 1), some (.int x4), some (.int x5), some (.int x6)] [.int (1 : Int32)] h Q))) : cm_wp sc d 105 85 [some (.ref 21), some (.int x1), some (.ref 12), some (.ref 1), some (.int x4), some (.int x5), some (.int x6)] [.int sx0] h Q :=
  wl_cb (b := sx0 = 0) (off := 7) (tgt := 92) (pc3 := 88) (st' := []) d105_85 rfl rfl rfl rfl (by decide) rfl (fun c1 => (H.1 c1)) (fun c1 => wl_ic (v := 1) d105_88 rfl (wl_go (tgt := 93) d105_89 (by decide) ((H.2 c1))))
theorem s105_92 {sc : cmS} {d : Nat} {h : cmH} {Q : Option Value → cmH → Prop} (x1 : Int32) (x4 : Int32) (x5 : Int32) (x6 : Int32) (H : cm_wp sc d 105 93 [some (.ref 21), some (.int x1), some (.ref 12), some (.ref 1), some (.int x4), some (.int x5), some (.int x6)] [.int (0 : Int32)] h Q) : cm_wp sc d 105 92 [some (.ref 21), some (.int x1), some (.ref 12), some (.ref 1), some (.int x4), some (.int x5), some (.int x6)] [] h Q :=
  wl_ic (v := 0) d105_92 rfl (H)
theorem s105_93 {sc : cmS} {d : Nat} {h : cmH} {Q : Option Value → cmH → Prop} (L : LY h) (x1 : Int32) (x4 : Int32) (x5 : Int32) (x6 : Int32) (sx0 : Int32) (H : (((sx0 = 0) → Q (some (.int x5)) h) ∧ (¬ (sx0 = 0) → cm_ci sc d 84 [.ref 26] h (fun r h' => cm_wp sc (d + 1) 105 107 [some (.ref 21), some (.int x1), some (.ref 12), some (.ref 1), some (.int x4), some (.int x5), some (.int sx0)] [.int r] h' Q)))) : cm_wp sc (d + 1) 105 93 [some (.ref 21), some (.int x1), some (.ref 12), some (.ref 1), some (.int x4), some (.int x5), some (.int x6)] [.int sx0] h Q :=
  wl_st (ls' := [some (.ref 21), some (.int x1), some (.ref 12), some (.ref 1), some (.int x4), some (.int x5), some (.int sx0)]) d105_93 rfl rfl rfl rfl (wl_st d105_95 rfl rfl rfl rfl (wl_cb (b := sx0 = 0) (off := 14) (tgt := 111) (pc3 := 100) (st' := []) d105_97 rfl rfl rfl rfl (by decide) rfl (fun c1 => wl_st d105_111 rfl rfl rfl rfl (wl_rt d105_113 rfl rfl rfl (H.1 c1))) (fun c1 => wl_st d105_100 rfl rfl rfl rfl (wl_gr (b := 26) d105_101 pf5_27 (ly_k L 21 rfl) rfl (ly_r L 21 4 rfl) (wl_ci d105_104 rfl rfl rfl pm5_89 (by decide) (ca_v (Or.inr rfl) rfl (Nat.le_of_ble_eq_true rfl) (Nat.le_of_ble_eq_true rfl) (ly_k L 26 rfl).2 (ly_k L 26 rfl).1 (by decide)) (H.2 c1))))))
theorem s105_107 {sc : cmS} {d : Nat} {h : cmH} {Q : Option Value → cmH → Prop} (x1 : Int32) (x4 : Int32) (x5 : Int32) (x6 : Int32) (sx0 : Int32) (H : (((sx0 ≤ x1) → cm_wp sc d 105 22 [some (.ref 21), some (.int x1), some (.ref 12), some (.ref 1), some (.int x4), some (.int (x5 + 1)), some (.int x6)] [] h Q) ∧ (¬ (sx0 ≤ x1) → Q (some (.int x5)) h))) : cm_wp sc d 105 107 [some (.ref 21), some (.int x1), some (.ref 12), some (.ref 1), some (.int x4), some (.int x5), some (.int x6)] [.int sx0] h Q :=
  wl_st d105_107 rfl rfl rfl rfl (wl_cb (b := sx0 ≤ x1) (off := 6) (tgt := 114) (pc3 := 111) (st' := []) d105_108 rfl rfl rfl rfl (by decide) rfl (fun c1 => wl_st (ls' := [some (.ref 21), some (.int x1), some (.ref 12), some (.ref 1), some (.int x4), some (.int (x5 + 1)), some (.int x6)]) d105_114 rfl rfl rfl rfl (wl_go (tgt := 22) d105_117 (by decide) ((H.1 c1)))) (fun c1 => wl_st d105_111 rfl rfl rfl rfl (wl_rt d105_113 rfl rfl rfl (H.2 c1))))
-- ClogHouse$Layers.layOut()V
theorem d107_0 : decode (cm_M 107).2.2.1 0 = .ok (.iconst 0, 1) := by decide +kernel
theorem d107_1 : decode (cm_M 107).2.2.1 1 = .ok (.istore_n 1, 1) := by decide +kernel
theorem d107_2 : decode (cm_M 107).2.2.1 2 = .ok (.iload_n 1, 1) := by decide +kernel
theorem d107_3 : decode (cm_M 107).2.2.1 3 = .ok (.aload_n 0, 1) := by decide +kernel
theorem d107_4 : decode (cm_M 107).2.2.1 4 = .ok (.getfield 35, 3) := by decide +kernel
theorem d107_7 : decode (cm_M 107).2.2.1 7 = .ok (.if_icmp .ge 64, 3) := by decide +kernel
theorem d107_10 : decode (cm_M 107).2.2.1 10 = .ok (.iload_n 1, 1) := by decide +kernel
theorem d107_11 : decode (cm_M 107).2.2.1 11 = .ok (.bipush 6, 2) := by decide +kernel
theorem d107_13 : decode (cm_M 107).2.2.1 13 = .ok (.if_icmp .ge 58, 3) := by decide +kernel
theorem d107_16 : decode (cm_M 107).2.2.1 16 = .ok (.aload_n 0, 1) := by decide +kernel
theorem d107_17 : decode (cm_M 107).2.2.1 17 = .ok (.getfield 27, 3) := by decide +kernel
theorem d107_20 : decode (cm_M 107).2.2.1 20 = .ok (.iload_n 1, 1) := by decide +kernel
theorem d107_21 : decode (cm_M 107).2.2.1 21 = .ok (.invokevirtual 92, 3) := by decide +kernel
theorem d107_24 : decode (cm_M 107).2.2.1 24 = .ok (.astore_n 2, 1) := by decide +kernel
theorem d107_25 : decode (cm_M 107).2.2.1 25 = .ok (.aload_n 0, 1) := by decide +kernel
theorem d107_26 : decode (cm_M 107).2.2.1 26 = .ok (.getfield 18, 3) := by decide +kernel
theorem d107_29 : decode (cm_M 107).2.2.1 29 = .ok (.iload_n 1, 1) := by decide +kernel
theorem d107_30 : decode (cm_M 107).2.2.1 30 = .ok (.iaload, 1) := by decide +kernel
theorem d107_31 : decode (cm_M 107).2.2.1 31 = .ok (.istore_n 3, 1) := by decide +kernel
theorem d107_32 : decode (cm_M 107).2.2.1 32 = .ok (.aload_n 2, 1) := by decide +kernel
theorem d107_33 : decode (cm_M 107).2.2.1 33 = .ok (.ifnull 32, 3) := by decide +kernel
theorem d107_36 : decode (cm_M 107).2.2.1 36 = .ok (.iload_n 3, 1) := by decide +kernel
theorem d107_37 : decode (cm_M 107).2.2.1 37 = .ok (.iconst 0, 1) := by decide +kernel
theorem d107_38 : decode (cm_M 107).2.2.1 38 = .ok (.iconst 5, 1) := by decide +kernel
theorem d107_39 : decode (cm_M 107).2.2.1 39 = .ok (.invokestatic 96, 3) := by decide +kernel
theorem d107_42 : decode (cm_M 107).2.2.1 42 = .ok (.ifCond .eq 23, 3) := by decide +kernel
theorem d107_45 : decode (cm_M 107).2.2.1 45 = .ok (.aload_n 2, 1) := by decide +kernel
theorem d107_46 : decode (cm_M 107).2.2.1 46 = .ok (.aload_n 0, 1) := by decide +kernel
theorem d107_47 : decode (cm_M 107).2.2.1 47 = .ok (.getfield 9, 3) := by decide +kernel
theorem d107_50 : decode (cm_M 107).2.2.1 50 = .ok (.iload_n 3, 1) := by decide +kernel
theorem d107_51 : decode (cm_M 107).2.2.1 51 = .ok (.iaload, 1) := by decide +kernel
theorem d107_52 : decode (cm_M 107).2.2.1 52 = .ok (.putfield 100, 3) := by decide +kernel
theorem d107_55 : decode (cm_M 107).2.2.1 55 = .ok (.aload_n 2, 1) := by decide +kernel
theorem d107_56 : decode (cm_M 107).2.2.1 56 = .ok (.aload_n 0, 1) := by decide +kernel
theorem d107_57 : decode (cm_M 107).2.2.1 57 = .ok (.getfield 15, 3) := by decide +kernel
theorem d107_60 : decode (cm_M 107).2.2.1 60 = .ok (.iload_n 3, 1) := by decide +kernel
theorem d107_61 : decode (cm_M 107).2.2.1 61 = .ok (.iaload, 1) := by decide +kernel
theorem d107_62 : decode (cm_M 107).2.2.1 62 = .ok (.putfield 105, 3) := by decide +kernel
theorem d107_65 : decode (cm_M 107).2.2.1 65 = .ok (.iinc 1 1, 3) := by decide +kernel
theorem d107_68 : decode (cm_M 107).2.2.1 68 = .ok (.goto (-66), 3) := by decide +kernel
theorem d107_71 : decode (cm_M 107).2.2.1 71 = .ok (.aload_n 0, 1) := by decide +kernel
theorem d107_72 : decode (cm_M 107).2.2.1 72 = .ok (.getfield 27, 3) := by decide +kernel
theorem d107_75 : decode (cm_M 107).2.2.1 75 = .ok (.invokevirtual 108, 3) := by decide +kernel
theorem d107_78 : decode (cm_M 107).2.2.1 78 = .ok (.return_, 1) := by decide +kernel
theorem s107_0 {sc : cmS} {d : Nat} {h : cmH} {Q : Option Value → cmH → Prop} (u1 : Option Value) (u2 : Option Value) (u3 : Option Value) (H : cm_wp sc d 107 2 [some (.ref 21), some (.int (0 : Int32)), u2, u3] [] h Q) : cm_wp sc d 107 0 [some (.ref 21), u1, u2, u3] [] h Q :=
  wl_ic (v := 0) d107_0 rfl (wl_st (ls' := [some (.ref 21), some (.int (0 : Int32)), u2, u3]) d107_1 rfl rfl rfl rfl (H))
theorem s107_2 {sc : cmS} {d : Nat} {h : cmH} {Q : Option Value → cmH → Prop} (L : LY h) (x1 : Int32) (u2 : Option Value) (u3 : Option Value) (H : ((((cm_I h 21 5) ≤ x1) → cm_wp sc (d + 1) 107 71 [some (.ref 21), some (.int x1), u2, u3] [] h Q) ∧ (¬ ((cm_I h 21 5) ≤ x1) → ((((6 : Int32) ≤ x1) → cm_wp sc (d + 1) 107 71 [some (.ref 21), some (.int x1), u2, u3] [] h Q) ∧ (¬ ((6 : Int32) ≤ x1) → cm_cq sc d 23 [.ref 26, .int x1] h (fun r h' => cm_wp sc (d + 1) 107 24 [some (.ref 21), some (.int x1), u2, u3] [va_rf r] h' Q)))))) : cm_wp sc (d + 1) 107 2 [some (.ref 21), some (.int x1), u2, u3] [] h Q :=
  wl_st d107_2 rfl rfl rfl rfl (wl_st d107_3 rfl rfl rfl rfl (wl_gf (v := .int (cm_I h 21 5)) d107_4 pf5_35 (ly_k L 21 rfl) rfl (wl_cb (b := (cm_I h 21 5) ≤ x1) (off := 64) (tgt := 71) (pc3 := 10) (st' := []) d107_7 rfl rfl rfl rfl (by decide) rfl (fun c1 => (H.1 c1)) (fun c1 => wl_st d107_10 rfl rfl rfl rfl (wl_bi (v := 6) d107_11 rfl (wl_cb (b := (6 : Int32) ≤ x1) (off := 58) (tgt := 71) (pc3 := 16) (st' := []) d107_13 rfl rfl rfl rfl (by decide) rfl (fun c2 => ((H.2 c1).1 c2)) (fun c2 => wl_st d107_16 rfl rfl rfl rfl (wl_gr (b := 26) d107_17 pf5_27 (ly_k L 21 rfl) rfl (ly_r L 21 4 rfl) (wl_st d107_20 rfl rfl rfl rfl (wl_cq d107_21 rfl rfl rfl pm5_92 (by decide) (ca_v (Or.inr rfl) rfl (Nat.le_of_ble_eq_true rfl) (Nat.le_of_ble_eq_true rfl) (ly_k L 26 rfl).2 (ly_k L 26 rfl).1 (by decide)) ((H.2 c1).2 c2)))))))))))
theorem s107_24 {sc : cmS} {d : Nat} {h : cmH} {Q : Option Value → cmH → Prop} (L : LY h) (x1 : Int32) (u2 : Option Value) (u3 : Option Value) (so0 : Option Nat) (H : (IX 6 x1) ∧ ((so0 = none → cm_wp sc (d + 1) 107 65 [some (.ref 21), some (.int x1), some (va_rf so0), some (.int (cm_I h 24 x1.toNatClampNeg))] [] h Q) ∧ (∀ b3, so0 = some b3 → cm_ci sc d 13 [.int (cm_I h 24 x1.toNatClampNeg), .int (0 : Int32), .int (5 : Int32)] h (fun r h' => cm_wp sc (d + 1) 107 42 [some (.ref 21), some (.int x1), some (.ref b3), some (.int (cm_I h 24 x1.toNatClampNeg))] [.int r] h' Q)))) : cm_wp sc (d + 1) 107 24 [some (.ref 21), some (.int x1), u2, u3] [va_rf so0] h Q :=
  wl_as (k := 2) (ls' := [some (.ref 21), some (.int x1), some (va_rf so0), u3]) d107_24 (Or.inr ⟨⟨_, rfl, rfl⟩, rfl⟩) (Nat.le_of_ble_eq_true rfl) rfl (wl_st d107_25 rfl rfl rfl rfl (wl_gr (b := 24) d107_26 pf5_18 (ly_k L 21 rfl) rfl (ly_r L 21 2 rfl) (wl_st d107_29 rfl rfl rfl rfl (And.elim (fun g1 g1k => wl_if (g := cm_ok h 13 24 x1) (st' := [.int (cm_I h 24 x1.toNatClampNeg)]) d107_30 rfl rfl rfl rfl (ly_o L 24 rfl g1) (wl_isn (ls' := [some (.ref 21), some (.int x1), some (va_rf so0), some (.int (cm_I h 24 x1.toNatClampNeg))]) d107_31 (Nat.le_of_ble_eq_true rfl) (by simp [cm_ls1, cm_ls2, cm_clr, cm_isJq]) (wl_al (k := 2) d107_32 (Or.inr ⟨⟨_, rfl, rfl⟩, rfl⟩) rfl (wl_nu (o := so0) (tgt := 65) (pc3 := 36) d107_33 (by decide) rfl (fun c2 => (g1k.1 c2)) (fun b3 c2 => cm_rw (fun oo => cm_wp sc (d + 1) 107 36 [some (.ref 21), some (.int x1), some (va_rf oo), some (.int (cm_I h 24 x1.toNatClampNeg))] [] h Q) c2 (wl_st d107_36 rfl rfl rfl rfl (wl_ic (v := 0) d107_37 rfl (wl_ic (v := 5) d107_38 rfl (wl_ci d107_39 rfl rfl rfl pm5_96 (by decide) (ca_s (Or.inr rfl) rfl (Nat.le_of_ble_eq_true rfl) (Nat.le_of_ble_eq_true rfl)) (g1k.2 b3 c2)))))))))) H))))
theorem s107_42 {sc : cmS} {d : Nat} {h : cmH} {Q : Option Value → cmH → Prop} (L : LY h) (x1 : Int32) (o2 : Option Nat) (x3 : Int32) (sx0 : Int32) (H : (((sx0 = 0) → cm_wp sc d 107 65 [some (.ref 21), some (.int x1), some (va_rf o2), some (.int x3)] [] h Q) ∧ (¬ (sx0 = 0) → ∃ b2, o2 = some b2 ∧ (IX 6 x3) ∧ (CE h b2) ∧ cm_wp sc d 107 65 [some (.ref 21), some (.int x1), some (.ref b2), some (.int x3)] [] (cm_setI (cm_setI h b2 3 (cm_I h 22 x3.toNatClampNeg)) b2 5 (cm_I (cm_setI h b2 3 (cm_I h 22 x3.toNatClampNeg)) 23 x3.toNatClampNeg)) Q))) : cm_wp sc d 107 42 [some (.ref 21), some (.int x1), some (va_rf o2), some (.int x3)] [.int sx0] h Q :=
  wl_cb (b := sx0 = 0) (off := 23) (tgt := 65) (pc3 := 45) (st' := []) d107_42 rfl rfl rfl rfl (by decide) rfl (fun c1 => (H.1 c1)) (fun c1 => Exists.elim (H.2 c1) fun b2 b2q => And.elim (fun b2e b2k => cm_rw (fun oo => cm_wp sc d 107 45 [some (.ref 21), some (.int x1), some (va_rf oo), some (.int x3)] [] h Q) b2e (wl_st d107_45 rfl rfl rfl rfl (wl_st d107_46 rfl rfl rfl rfl (wl_gr (b := 22) d107_47 pf5_9 (ly_k L 21 rfl) rfl (ly_r L 21 0 rfl) (wl_st d107_50 rfl rfl rfl rfl (And.elim (fun g3 g3k => wl_if (g := cm_ok h 13 22 x3) (st' := [.int (cm_I h 22 x3.toNatClampNeg), .ref b2]) d107_51 rfl rfl rfl rfl (ly_o L 22 rfl g3) (And.elim (fun g4 g4k => wl_pf (h' := (cm_setI h b2 3 (cm_I h 22 x3.toNatClampNeg))) d107_52 pf5_100 (CE.k g4) (Or.inl rfl) rfl (wl_st d107_55 rfl rfl rfl rfl (wl_st d107_56 rfl rfl rfl rfl (wl_gr (b := 23) d107_57 pf5_15 (ly_k L 21 rfl) rfl (ly_r L 21 1 rfl) (wl_st d107_60 rfl rfl rfl rfl (wl_if (g := cm_ok (cm_setI h b2 3 (cm_I h 22 x3.toNatClampNeg)) 13 23 x3) (st' := [.int (cm_I (cm_setI h b2 3 (cm_I h 22 x3.toNatClampNeg)) 23 x3.toNatClampNeg), .ref b2]) d107_61 rfl rfl rfl rfl (ly_o L 23 rfl g3) (wl_pf (h' := (cm_setI (cm_setI h b2 3 (cm_I h 22 x3.toNatClampNeg)) b2 5 (cm_I (cm_setI h b2 3 (cm_I h 22 x3.toNatClampNeg)) 23 x3.toNatClampNeg))) d107_62 pf5_105 (CE.k g4) (Or.inl rfl) rfl (g4k)))))))) g3k)) b2k)))))) b2q)
theorem s107_65 {sc : cmS} {d : Nat} {h : cmH} {Q : Option Value → cmH → Prop} (x1 : Int32) (o2 : Option Nat) (x3 : Int32) (H : cm_wp sc d 107 2 [some (.ref 21), some (.int (x1 + 1)), some (va_rf o2), some (.int x3)] [] h Q) : cm_wp sc d 107 65 [some (.ref 21), some (.int x1), some (va_rf o2), some (.int x3)] [] h Q :=
  wl_st (ls' := [some (.ref 21), some (.int (x1 + 1)), some (va_rf o2), some (.int x3)]) d107_65 rfl rfl rfl rfl (wl_go (tgt := 2) d107_68 (by decide) (H))
theorem s107_71 {sc : cmS} {d : Nat} {h : cmH} {Q : Option Value → cmH → Prop} (L : LY h) (x1 : Int32) (u2 : Option Value) (u3 : Option Value) (H : cm_cv sc d 69 [.ref 26] h (fun h' => cm_wp sc (d + 1) 107 78 [some (.ref 21), some (.int x1), u2, u3] [] h' Q)) : cm_wp sc (d + 1) 107 71 [some (.ref 21), some (.int x1), u2, u3] [] h Q :=
  wl_st d107_71 rfl rfl rfl rfl (wl_gr (b := 26) d107_72 pf5_27 (ly_k L 21 rfl) rfl (ly_r L 21 4 rfl) (wl_cv d107_75 rfl rfl rfl pm5_108 (by decide) (ca_v (Or.inr rfl) rfl (Nat.le_of_ble_eq_true rfl) (Nat.le_of_ble_eq_true rfl) (ly_k L 26 rfl).2 (ly_k L 26 rfl).1 (by decide)) H))
theorem s107_78 {sc : cmS} {d : Nat} {h : cmH} {Q : Option Value → cmH → Prop} (x1 : Int32) (u2 : Option Value) (u3 : Option Value) (H : Q none h) : cm_wp sc d 107 78 [some (.ref 21), some (.int x1), u2, u3] [] h Q :=
  wl_rt d107_78 rfl rfl rfl H
-- ClogHouse$Layers.toNextOrder()Z
theorem d108_0 : decode (cm_M 108).2.2.1 0 = .ok (.aload_n 0, 1) := by decide +kernel
theorem d108_1 : decode (cm_M 108).2.2.1 1 = .ok (.getfield 35, 3) := by decide +kernel
theorem d108_4 : decode (cm_M 108).2.2.1 4 = .ok (.iconst 2, 1) := by decide +kernel
theorem d108_5 : decode (cm_M 108).2.2.1 5 = .ok (.isub, 1) := by decide +kernel
theorem d108_6 : decode (cm_M 108).2.2.1 6 = .ok (.istore_n 1, 1) := by decide +kernel
theorem d108_7 : decode (cm_M 108).2.2.1 7 = .ok (.iload_n 1, 1) := by decide +kernel
theorem d108_8 : decode (cm_M 108).2.2.1 8 = .ok (.ifCond .lt 34, 3) := by decide +kernel
theorem d108_11 : decode (cm_M 108).2.2.1 11 = .ok (.iload_n 1, 1) := by decide +kernel
theorem d108_12 : decode (cm_M 108).2.2.1 12 = .ok (.iconst 1, 1) := by decide +kernel
theorem d108_13 : decode (cm_M 108).2.2.1 13 = .ok (.iadd, 1) := by decide +kernel
theorem d108_14 : decode (cm_M 108).2.2.1 14 = .ok (.bipush 6, 2) := by decide +kernel
theorem d108_16 : decode (cm_M 108).2.2.1 16 = .ok (.if_icmp .ge 26, 3) := by decide +kernel
theorem d108_19 : decode (cm_M 108).2.2.1 19 = .ok (.aload_n 0, 1) := by decide +kernel
theorem d108_20 : decode (cm_M 108).2.2.1 20 = .ok (.getfield 18, 3) := by decide +kernel
theorem d108_23 : decode (cm_M 108).2.2.1 23 = .ok (.iload_n 1, 1) := by decide +kernel
theorem d108_24 : decode (cm_M 108).2.2.1 24 = .ok (.iaload, 1) := by decide +kernel
theorem d108_25 : decode (cm_M 108).2.2.1 25 = .ok (.aload_n 0, 1) := by decide +kernel
theorem d108_26 : decode (cm_M 108).2.2.1 26 = .ok (.getfield 18, 3) := by decide +kernel
theorem d108_29 : decode (cm_M 108).2.2.1 29 = .ok (.iload_n 1, 1) := by decide +kernel
theorem d108_30 : decode (cm_M 108).2.2.1 30 = .ok (.iconst 1, 1) := by decide +kernel
theorem d108_31 : decode (cm_M 108).2.2.1 31 = .ok (.iadd, 1) := by decide +kernel
theorem d108_32 : decode (cm_M 108).2.2.1 32 = .ok (.iaload, 1) := by decide +kernel
theorem d108_33 : decode (cm_M 108).2.2.1 33 = .ok (.if_icmp .le 9, 3) := by decide +kernel
theorem d108_36 : decode (cm_M 108).2.2.1 36 = .ok (.iinc 1 (-1), 3) := by decide +kernel
theorem d108_39 : decode (cm_M 108).2.2.1 39 = .ok (.goto (-32), 3) := by decide +kernel
theorem d108_42 : decode (cm_M 108).2.2.1 42 = .ok (.iload_n 1, 1) := by decide +kernel
theorem d108_43 : decode (cm_M 108).2.2.1 43 = .ok (.ifCond .ge 5, 3) := by decide +kernel
theorem d108_46 : decode (cm_M 108).2.2.1 46 = .ok (.iconst 0, 1) := by decide +kernel
theorem d108_47 : decode (cm_M 108).2.2.1 47 = .ok (.ireturn, 1) := by decide +kernel
theorem d108_48 : decode (cm_M 108).2.2.1 48 = .ok (.aload_n 0, 1) := by decide +kernel
theorem d108_49 : decode (cm_M 108).2.2.1 49 = .ok (.getfield 35, 3) := by decide +kernel
theorem d108_52 : decode (cm_M 108).2.2.1 52 = .ok (.bipush 6, 2) := by decide +kernel
theorem d108_54 : decode (cm_M 108).2.2.1 54 = .ok (.invokestatic 111, 3) := by decide +kernel
theorem d108_57 : decode (cm_M 108).2.2.1 57 = .ok (.iconst 1, 1) := by decide +kernel
theorem d108_58 : decode (cm_M 108).2.2.1 58 = .ok (.isub, 1) := by decide +kernel
theorem d108_59 : decode (cm_M 108).2.2.1 59 = .ok (.istore_n 2, 1) := by decide +kernel
theorem d108_60 : decode (cm_M 108).2.2.1 60 = .ok (.iload_n 2, 1) := by decide +kernel
theorem d108_61 : decode (cm_M 108).2.2.1 61 = .ok (.iload_n 1, 1) := by decide +kernel
theorem d108_62 : decode (cm_M 108).2.2.1 62 = .ok (.if_icmp .le 24, 3) := by decide +kernel
theorem d108_65 : decode (cm_M 108).2.2.1 65 = .ok (.aload_n 0, 1) := by decide +kernel
theorem d108_66 : decode (cm_M 108).2.2.1 66 = .ok (.getfield 18, 3) := by decide +kernel
theorem d108_69 : decode (cm_M 108).2.2.1 69 = .ok (.iload_n 2, 1) := by decide +kernel
theorem d108_70 : decode (cm_M 108).2.2.1 70 = .ok (.iaload, 1) := by decide +kernel
theorem d108_71 : decode (cm_M 108).2.2.1 71 = .ok (.aload_n 0, 1) := by decide +kernel
theorem d108_72 : decode (cm_M 108).2.2.1 72 = .ok (.getfield 18, 3) := by decide +kernel
theorem d108_75 : decode (cm_M 108).2.2.1 75 = .ok (.iload_n 1, 1) := by decide +kernel
theorem d108_76 : decode (cm_M 108).2.2.1 76 = .ok (.iaload, 1) := by decide +kernel
theorem d108_77 : decode (cm_M 108).2.2.1 77 = .ok (.if_icmp .ge 9, 3) := by decide +kernel
theorem d108_80 : decode (cm_M 108).2.2.1 80 = .ok (.iinc 2 (-1), 3) := by decide +kernel
theorem d108_83 : decode (cm_M 108).2.2.1 83 = .ok (.goto (-23), 3) := by decide +kernel
theorem d108_86 : decode (cm_M 108).2.2.1 86 = .ok (.aload_n 0, 1) := by decide +kernel
theorem d108_87 : decode (cm_M 108).2.2.1 87 = .ok (.iload_n 1, 1) := by decide +kernel
theorem d108_88 : decode (cm_M 108).2.2.1 88 = .ok (.iload_n 2, 1) := by decide +kernel
theorem d108_89 : decode (cm_M 108).2.2.1 89 = .ok (.invokevirtual 117, 3) := by decide +kernel
theorem d108_92 : decode (cm_M 108).2.2.1 92 = .ok (.iload_n 1, 1) := by decide +kernel
theorem d108_93 : decode (cm_M 108).2.2.1 93 = .ok (.iconst 1, 1) := by decide +kernel
theorem d108_94 : decode (cm_M 108).2.2.1 94 = .ok (.iadd, 1) := by decide +kernel
theorem d108_95 : decode (cm_M 108).2.2.1 95 = .ok (.istore_n 3, 1) := by decide +kernel
theorem d108_96 : decode (cm_M 108).2.2.1 96 = .ok (.aload_n 0, 1) := by decide +kernel
theorem d108_97 : decode (cm_M 108).2.2.1 97 = .ok (.getfield 35, 3) := by decide +kernel
theorem d108_100 : decode (cm_M 108).2.2.1 100 = .ok (.iconst 1, 1) := by decide +kernel
theorem d108_101 : decode (cm_M 108).2.2.1 101 = .ok (.isub, 1) := by decide +kernel
theorem d108_102 : decode (cm_M 108).2.2.1 102 = .ok (.istore 4, 2) := by decide +kernel
theorem d108_104 : decode (cm_M 108).2.2.1 104 = .ok (.iload_n 3, 1) := by decide +kernel
theorem d108_105 : decode (cm_M 108).2.2.1 105 = .ok (.iload 4, 2) := by decide +kernel
theorem d108_107 : decode (cm_M 108).2.2.1 107 = .ok (.if_icmp .ge 19, 3) := by decide +kernel
theorem d108_110 : decode (cm_M 108).2.2.1 110 = .ok (.aload_n 0, 1) := by decide +kernel
theorem d108_111 : decode (cm_M 108).2.2.1 111 = .ok (.iload_n 3, 1) := by decide +kernel
theorem d108_112 : decode (cm_M 108).2.2.1 112 = .ok (.iload 4, 2) := by decide +kernel
theorem d108_114 : decode (cm_M 108).2.2.1 114 = .ok (.invokevirtual 117, 3) := by decide +kernel
theorem d108_117 : decode (cm_M 108).2.2.1 117 = .ok (.iinc 3 1, 3) := by decide +kernel
theorem d108_120 : decode (cm_M 108).2.2.1 120 = .ok (.iinc 4 (-1), 3) := by decide +kernel
theorem d108_123 : decode (cm_M 108).2.2.1 123 = .ok (.goto (-19), 3) := by decide +kernel
theorem d108_126 : decode (cm_M 108).2.2.1 126 = .ok (.iconst 1, 1) := by decide +kernel
theorem d108_127 : decode (cm_M 108).2.2.1 127 = .ok (.ireturn, 1) := by decide +kernel
theorem s108_0 {sc : cmS} {d : Nat} {h : cmH} {Q : Option Value → cmH → Prop} (L : LY h) (u1 : Option Value) (u2 : Option Value) (u3 : Option Value) (u4 : Option Value) (H : cm_wp sc d 108 7 [some (.ref 21), some (.int ((cm_I h 21 5) - (2 : Int32))), u2, u3, u4] [] h Q) : cm_wp sc d 108 0 [some (.ref 21), u1, u2, u3, u4] [] h Q :=
  wl_st d108_0 rfl rfl rfl rfl (wl_gf (v := .int (cm_I h 21 5)) d108_1 pf5_35 (ly_k L 21 rfl) rfl (wl_ic (v := 2) d108_4 rfl (wl_st d108_5 rfl rfl rfl rfl (wl_st (ls' := [some (.ref 21), some (.int ((cm_I h 21 5) - (2 : Int32))), u2, u3, u4]) d108_6 rfl rfl rfl rfl (H)))))
theorem s108_7 {sc : cmS} {d : Nat} {h : cmH} {Q : Option Value → cmH → Prop} (L : LY h) (x1 : Int32) (u2 : Option Value) (u3 : Option Value) (u4 : Option Value) (H : (((x1 < 0) → cm_wp sc d 108 42 [some (.ref 21), some (.int x1), u2, u3, u4] [] h Q) ∧ (¬ (x1 < 0) → ((((6 : Int32) ≤ (x1 + (1 : Int32))) → cm_wp sc d 108 42 [some (.ref 21), some (.int x1), u2, u3, u4] [] h Q) ∧ (¬ ((6 : Int32) ≤ (x1 + (1 : Int32))) → (IX 6 x1) ∧ (IX 6 (x1 + (1 : Int32))) ∧ ((((cm_I h 24 x1.toNatClampNeg) ≤ (cm_I h 24 (x1 + (1 : Int32)).toNatClampNeg)) → cm_wp sc d 108 42 [some (.ref 21), some (.int x1), u2, u3, u4] [] h Q) ∧ (¬ ((cm_I h 24 x1.toNatClampNeg) ≤ (cm_I h 24 (x1 + (1 : Int32)).toNatClampNeg)) → cm_wp sc d 108 7 [some (.ref 21), some (.int (x1 + (-1))), u2, u3, u4] [] h Q))))))) : cm_wp sc d 108 7 [some (.ref 21), some (.int x1), u2, u3, u4] [] h Q :=
  wl_st d108_7 rfl rfl rfl rfl (wl_cb (b := x1 < 0) (off := 34) (tgt := 42) (pc3 := 11) (st' := []) d108_8 rfl rfl rfl rfl (by decide) rfl (fun c1 => (H.1 c1)) (fun c1 => wl_st d108_11 rfl rfl rfl rfl (wl_ic (v := 1) d108_12 rfl (wl_st d108_13 rfl rfl rfl rfl (wl_bi (v := 6) d108_14 rfl (wl_cb (b := (6 : Int32) ≤ (x1 + (1 : Int32))) (off := 26) (tgt := 42) (pc3 := 19) (st' := []) d108_16 rfl rfl rfl rfl (by decide) rfl (fun c2 => ((H.2 c1).1 c2)) (fun c2 => wl_st d108_19 rfl rfl rfl rfl (wl_gr (b := 24) d108_20 pf5_18 (ly_k L 21 rfl) rfl (ly_r L 21 2 rfl) (wl_st d108_23 rfl rfl rfl rfl (And.elim (fun g3 g3k => wl_if (g := cm_ok h 13 24 x1) (st' := [.int (cm_I h 24 x1.toNatClampNeg)]) d108_24 rfl rfl rfl rfl (ly_o L 24 rfl g3) (wl_st d108_25 rfl rfl rfl rfl (wl_gr (b := 24) d108_26 pf5_18 (ly_k L 21 rfl) rfl (ly_r L 21 2 rfl) (wl_st d108_29 rfl rfl rfl rfl (wl_ic (v := 1) d108_30 rfl (wl_st d108_31 rfl rfl rfl rfl (And.elim (fun g4 g4k => wl_if (g := cm_ok h 13 24 (x1 + (1 : Int32))) (st' := [.int (cm_I h 24 (x1 + (1 : Int32)).toNatClampNeg), .int (cm_I h 24 x1.toNatClampNeg)]) d108_32 rfl rfl rfl rfl (ly_o L 24 rfl g4) (wl_cb (b := (cm_I h 24 x1.toNatClampNeg) ≤ (cm_I h 24 (x1 + (1 : Int32)).toNatClampNeg)) (off := 9) (tgt := 42) (pc3 := 36) (st' := []) d108_33 rfl rfl rfl rfl (by decide) rfl (fun c5 => (g4k.1 c5)) (fun c5 => wl_st (ls' := [some (.ref 21), some (.int (x1 + (-1))), u2, u3, u4]) d108_36 rfl rfl rfl rfl (wl_go (tgt := 7) d108_39 (by decide) ((g4k.2 c5)))))) g3k))))))) ((H.2 c1).2 c2)))))))))))
theorem s108_42 {sc : cmS} {d : Nat} {h : cmH} {Q : Option Value → cmH → Prop} (L : LY h) (x1 : Int32) (u2 : Option Value) (u3 : Option Value) (u4 : Option Value) (H : (((0 ≤ x1) → cm_wp sc (d + 1) 108 60 [some (.ref 21), some (.int x1), some (.int ((if (6 : Int32) < (cm_I h 21 5) then (6 : Int32) else (cm_I h 21 5)) - (1 : Int32))), u3, u4] [] h Q) ∧ (¬ (0 ≤ x1) → Q (some (.int (0 : Int32))) h))) : cm_wp sc (d + 1) 108 42 [some (.ref 21), some (.int x1), u2, u3, u4] [] h Q :=
  wl_st d108_42 rfl rfl rfl rfl (wl_cb (b := 0 ≤ x1) (off := 5) (tgt := 48) (pc3 := 46) (st' := []) d108_43 rfl rfl rfl rfl (by decide) rfl (fun c1 => wl_st d108_48 rfl rfl rfl rfl (wl_gf (v := .int (cm_I h 21 5)) d108_49 pf5_35 (ly_k L 21 rfl) rfl (wl_bi (v := 6) d108_52 rfl (wl_pr (st' := [.int (if (6 : Int32) < (cm_I h 21 5) then (6 : Int32) else (cm_I h 21 5))]) d108_54 rfl rfl rfl pm5_111 (by decide) rfl rfl (wl_ic (v := 1) d108_57 rfl (wl_st d108_58 rfl rfl rfl rfl (wl_st (ls' := [some (.ref 21), some (.int x1), some (.int ((if (6 : Int32) < (cm_I h 21 5) then (6 : Int32) else (cm_I h 21 5)) - (1 : Int32))), u3, u4]) d108_59 rfl rfl rfl rfl ((H.1 c1))))))))) (fun c1 => wl_ic (v := 0) d108_46 rfl (wl_rz d108_47 rfl (by decide) (H.2 c1))))
theorem s108_60 {sc : cmS} {d : Nat} {h : cmH} {Q : Option Value → cmH → Prop} (L : LY h) (x1 : Int32) (x2 : Int32) (u3 : Option Value) (u4 : Option Value) (H : (((x2 ≤ x1) → cm_wp sc d 108 86 [some (.ref 21), some (.int x1), some (.int x2), u3, u4] [] h Q) ∧ (¬ (x2 ≤ x1) → (IX 6 x2) ∧ (IX 6 x1) ∧ ((((cm_I h 24 x1.toNatClampNeg) ≤ (cm_I h 24 x2.toNatClampNeg)) → cm_wp sc d 108 86 [some (.ref 21), some (.int x1), some (.int x2), u3, u4] [] h Q) ∧ (¬ ((cm_I h 24 x1.toNatClampNeg) ≤ (cm_I h 24 x2.toNatClampNeg)) → cm_wp sc d 108 60 [some (.ref 21), some (.int x1), some (.int (x2 + (-1))), u3, u4] [] h Q))))) : cm_wp sc d 108 60 [some (.ref 21), some (.int x1), some (.int x2), u3, u4] [] h Q :=
  wl_st d108_60 rfl rfl rfl rfl (wl_st d108_61 rfl rfl rfl rfl (wl_cb (b := x2 ≤ x1) (off := 24) (tgt := 86) (pc3 := 65) (st' := []) d108_62 rfl rfl rfl rfl (by decide) rfl (fun c1 => (H.1 c1)) (fun c1 => wl_st d108_65 rfl rfl rfl rfl (wl_gr (b := 24) d108_66 pf5_18 (ly_k L 21 rfl) rfl (ly_r L 21 2 rfl) (wl_st d108_69 rfl rfl rfl rfl (And.elim (fun g2 g2k => wl_if (g := cm_ok h 13 24 x2) (st' := [.int (cm_I h 24 x2.toNatClampNeg)]) d108_70 rfl rfl rfl rfl (ly_o L 24 rfl g2) (wl_st d108_71 rfl rfl rfl rfl (wl_gr (b := 24) d108_72 pf5_18 (ly_k L 21 rfl) rfl (ly_r L 21 2 rfl) (wl_st d108_75 rfl rfl rfl rfl (And.elim (fun g3 g3k => wl_if (g := cm_ok h 13 24 x1) (st' := [.int (cm_I h 24 x1.toNatClampNeg), .int (cm_I h 24 x2.toNatClampNeg)]) d108_76 rfl rfl rfl rfl (ly_o L 24 rfl g3) (wl_cb (b := (cm_I h 24 x1.toNatClampNeg) ≤ (cm_I h 24 x2.toNatClampNeg)) (off := 9) (tgt := 86) (pc3 := 80) (st' := []) d108_77 rfl rfl rfl rfl (by decide) rfl (fun c4 => (g3k.1 c4)) (fun c4 => wl_st (ls' := [some (.ref 21), some (.int x1), some (.int (x2 + (-1))), u3, u4]) d108_80 rfl rfl rfl rfl (wl_go (tgt := 60) d108_83 (by decide) ((g3k.2 c4)))))) g2k))))) (H.2 c1)))))))
theorem s108_86 {sc : cmS} {d : Nat} {h : cmH} {Q : Option Value → cmH → Prop} (L : LY h) (x1 : Int32) (x2 : Int32) (u3 : Option Value) (u4 : Option Value) (H : cm_cv sc d 109 [.ref 21, .int x1, .int x2] h (fun h' => cm_wp sc (d + 1) 108 92 [some (.ref 21), some (.int x1), some (.int x2), u3, u4] [] h' Q)) : cm_wp sc (d + 1) 108 86 [some (.ref 21), some (.int x1), some (.int x2), u3, u4] [] h Q :=
  wl_st d108_86 rfl rfl rfl rfl (wl_st d108_87 rfl rfl rfl rfl (wl_st d108_88 rfl rfl rfl rfl (wl_cv d108_89 rfl rfl rfl pm5_117 (by decide) (ca_v (Or.inl rfl) rfl (Nat.le_of_ble_eq_true rfl) (Nat.le_of_ble_eq_true rfl) (ly_k L 21 rfl).2 (ly_k L 21 rfl).1 (by decide)) H)))
theorem s108_92 {sc : cmS} {d : Nat} {h : cmH} {Q : Option Value → cmH → Prop} (L : LY h) (x1 : Int32) (x2 : Int32) (u3 : Option Value) (u4 : Option Value) (H : cm_wp sc d 108 104 [some (.ref 21), some (.int x1), some (.int x2), some (.int (x1 + (1 : Int32))), some (.int ((cm_I h 21 5) - (1 : Int32)))] [] h Q) : cm_wp sc d 108 92 [some (.ref 21), some (.int x1), some (.int x2), u3, u4] [] h Q :=
  wl_st d108_92 rfl rfl rfl rfl (wl_ic (v := 1) d108_93 rfl (wl_st d108_94 rfl rfl rfl rfl (wl_st (ls' := [some (.ref 21), some (.int x1), some (.int x2), some (.int (x1 + (1 : Int32))), u4]) d108_95 rfl rfl rfl rfl (wl_st d108_96 rfl rfl rfl rfl (wl_gf (v := .int (cm_I h 21 5)) d108_97 pf5_35 (ly_k L 21 rfl) rfl (wl_ic (v := 1) d108_100 rfl (wl_st d108_101 rfl rfl rfl rfl (wl_st (ls' := [some (.ref 21), some (.int x1), some (.int x2), some (.int (x1 + (1 : Int32))), some (.int ((cm_I h 21 5) - (1 : Int32)))]) d108_102 rfl rfl rfl rfl (H)))))))))
theorem s108_104 {sc : cmS} {d : Nat} {h : cmH} {Q : Option Value → cmH → Prop} (L : LY h) (x1 : Int32) (x2 : Int32) (x3 : Int32) (x4 : Int32) (H : (((x4 ≤ x3) → Q (some (.int (1 : Int32))) h) ∧ (¬ (x4 ≤ x3) → cm_cv sc d 109 [.ref 21, .int x3, .int x4] h (fun h' => cm_wp sc (d + 1) 108 117 [some (.ref 21), some (.int x1), some (.int x2), some (.int x3), some (.int x4)] [] h' Q)))) : cm_wp sc (d + 1) 108 104 [some (.ref 21), some (.int x1), some (.int x2), some (.int x3), some (.int x4)] [] h Q :=
  wl_st d108_104 rfl rfl rfl rfl (wl_st d108_105 rfl rfl rfl rfl (wl_cb (b := x4 ≤ x3) (off := 19) (tgt := 126) (pc3 := 110) (st' := []) d108_107 rfl rfl rfl rfl (by decide) rfl (fun c1 => wl_ic (v := 1) d108_126 rfl (wl_rz d108_127 rfl (by decide) (H.1 c1))) (fun c1 => wl_st d108_110 rfl rfl rfl rfl (wl_st d108_111 rfl rfl rfl rfl (wl_st d108_112 rfl rfl rfl rfl (wl_cv d108_114 rfl rfl rfl pm5_117 (by decide) (ca_v (Or.inl rfl) rfl (Nat.le_of_ble_eq_true rfl) (Nat.le_of_ble_eq_true rfl) (ly_k L 21 rfl).2 (ly_k L 21 rfl).1 (by decide)) (H.2 c1)))))))
theorem s108_117 {sc : cmS} {d : Nat} {h : cmH} {Q : Option Value → cmH → Prop} (x1 : Int32) (x2 : Int32) (x3 : Int32) (x4 : Int32) (H : cm_wp sc d 108 104 [some (.ref 21), some (.int x1), some (.int x2), some (.int (x3 + 1)), some (.int (x4 + (-1)))] [] h Q) : cm_wp sc d 108 117 [some (.ref 21), some (.int x1), some (.int x2), some (.int x3), some (.int x4)] [] h Q :=
  wl_st (ls' := [some (.ref 21), some (.int x1), some (.int x2), some (.int (x3 + 1)), some (.int x4)]) d108_117 rfl rfl rfl rfl (wl_st (ls' := [some (.ref 21), some (.int x1), some (.int x2), some (.int (x3 + 1)), some (.int (x4 + (-1)))]) d108_120 rfl rfl rfl rfl (wl_go (tgt := 104) d108_123 (by decide) (H)))
-- ClogHouse$Layers.swap(II)V
theorem d109_0 : decode (cm_M 109).2.2.1 0 = .ok (.iload_n 1, 1) := by decide +kernel
theorem d109_1 : decode (cm_M 109).2.2.1 1 = .ok (.iconst 0, 1) := by decide +kernel
theorem d109_2 : decode (cm_M 109).2.2.1 2 = .ok (.iconst 5, 1) := by decide +kernel
theorem d109_3 : decode (cm_M 109).2.2.1 3 = .ok (.invokestatic 96, 3) := by decide +kernel
theorem d109_6 : decode (cm_M 109).2.2.1 6 = .ok (.ifCond .eq 38, 3) := by decide +kernel
theorem d109_9 : decode (cm_M 109).2.2.1 9 = .ok (.iload_n 2, 1) := by decide +kernel
theorem d109_10 : decode (cm_M 109).2.2.1 10 = .ok (.iconst 0, 1) := by decide +kernel
theorem d109_11 : decode (cm_M 109).2.2.1 11 = .ok (.iconst 5, 1) := by decide +kernel
theorem d109_12 : decode (cm_M 109).2.2.1 12 = .ok (.invokestatic 96, 3) := by decide +kernel
theorem d109_15 : decode (cm_M 109).2.2.1 15 = .ok (.ifCond .eq 29, 3) := by decide +kernel
theorem d109_18 : decode (cm_M 109).2.2.1 18 = .ok (.aload_n 0, 1) := by decide +kernel
theorem d109_19 : decode (cm_M 109).2.2.1 19 = .ok (.getfield 18, 3) := by decide +kernel
theorem d109_22 : decode (cm_M 109).2.2.1 22 = .ok (.iload_n 1, 1) := by decide +kernel
theorem d109_23 : decode (cm_M 109).2.2.1 23 = .ok (.iaload, 1) := by decide +kernel
theorem d109_24 : decode (cm_M 109).2.2.1 24 = .ok (.istore_n 3, 1) := by decide +kernel
theorem d109_25 : decode (cm_M 109).2.2.1 25 = .ok (.aload_n 0, 1) := by decide +kernel
theorem d109_26 : decode (cm_M 109).2.2.1 26 = .ok (.getfield 18, 3) := by decide +kernel
theorem d109_29 : decode (cm_M 109).2.2.1 29 = .ok (.iload_n 1, 1) := by decide +kernel
theorem d109_30 : decode (cm_M 109).2.2.1 30 = .ok (.aload_n 0, 1) := by decide +kernel
theorem d109_31 : decode (cm_M 109).2.2.1 31 = .ok (.getfield 18, 3) := by decide +kernel
theorem d109_34 : decode (cm_M 109).2.2.1 34 = .ok (.iload_n 2, 1) := by decide +kernel
theorem d109_35 : decode (cm_M 109).2.2.1 35 = .ok (.iaload, 1) := by decide +kernel
theorem d109_36 : decode (cm_M 109).2.2.1 36 = .ok (.iastore, 1) := by decide +kernel
theorem d109_37 : decode (cm_M 109).2.2.1 37 = .ok (.aload_n 0, 1) := by decide +kernel
theorem d109_38 : decode (cm_M 109).2.2.1 38 = .ok (.getfield 18, 3) := by decide +kernel
theorem d109_41 : decode (cm_M 109).2.2.1 41 = .ok (.iload_n 2, 1) := by decide +kernel
theorem d109_42 : decode (cm_M 109).2.2.1 42 = .ok (.iload_n 3, 1) := by decide +kernel
theorem d109_43 : decode (cm_M 109).2.2.1 43 = .ok (.iastore, 1) := by decide +kernel
theorem d109_44 : decode (cm_M 109).2.2.1 44 = .ok (.return_, 1) := by decide +kernel
theorem s109_0 {sc : cmS} {d : Nat} {h : cmH} {Q : Option Value → cmH → Prop} (x1 : Int32) (x2 : Int32) (u3 : Option Value) (H : cm_ci sc d 13 [.int x1, .int (0 : Int32), .int (5 : Int32)] h (fun r h' => cm_wp sc (d + 1) 109 6 [some (.ref 21), some (.int x1), some (.int x2), u3] [.int r] h' Q)) : cm_wp sc (d + 1) 109 0 [some (.ref 21), some (.int x1), some (.int x2), u3] [] h Q :=
  wl_st d109_0 rfl rfl rfl rfl (wl_ic (v := 0) d109_1 rfl (wl_ic (v := 5) d109_2 rfl (wl_ci d109_3 rfl rfl rfl pm5_96 (by decide) (ca_s (Or.inr rfl) rfl (Nat.le_of_ble_eq_true rfl) (Nat.le_of_ble_eq_true rfl)) H)))
theorem s109_6 {sc : cmS} {d : Nat} {h : cmH} {Q : Option Value → cmH → Prop} (x1 : Int32) (x2 : Int32) (u3 : Option Value) (sx0 : Int32) (H : (((sx0 = 0) → Q none h) ∧ (¬ (sx0 = 0) → cm_ci sc d 13 [.int x2, .int (0 : Int32), .int (5 : Int32)] h (fun r h' => cm_wp sc (d + 1) 109 15 [some (.ref 21), some (.int x1), some (.int x2), u3] [.int r] h' Q)))) : cm_wp sc (d + 1) 109 6 [some (.ref 21), some (.int x1), some (.int x2), u3] [.int sx0] h Q :=
  wl_cb (b := sx0 = 0) (off := 38) (tgt := 44) (pc3 := 9) (st' := []) d109_6 rfl rfl rfl rfl (by decide) rfl (fun c1 => wl_rt d109_44 rfl rfl rfl (H.1 c1)) (fun c1 => wl_st d109_9 rfl rfl rfl rfl (wl_ic (v := 0) d109_10 rfl (wl_ic (v := 5) d109_11 rfl (wl_ci d109_12 rfl rfl rfl pm5_96 (by decide) (ca_s (Or.inr rfl) rfl (Nat.le_of_ble_eq_true rfl) (Nat.le_of_ble_eq_true rfl)) (H.2 c1)))))
theorem s109_15 {sc : cmS} {d : Nat} {h : cmH} {Q : Option Value → cmH → Prop} (L : LY h) (x1 : Int32) (x2 : Int32) (u3 : Option Value) (sx0 : Int32) (H : (((sx0 = 0) → Q none h) ∧ (¬ (sx0 = 0) → (IX 6 x1) ∧ (IX 6 x2) ∧ Q none (cm_setI (cm_setI h 24 x1.toNatClampNeg (cm_I h 24 x2.toNatClampNeg)) 24 x2.toNatClampNeg (cm_I h 24 x1.toNatClampNeg))))) : cm_wp sc d 109 15 [some (.ref 21), some (.int x1), some (.int x2), u3] [.int sx0] h Q :=
  wl_cb (b := sx0 = 0) (off := 29) (tgt := 44) (pc3 := 18) (st' := []) d109_15 rfl rfl rfl rfl (by decide) rfl (fun c1 => wl_rt d109_44 rfl rfl rfl (H.1 c1)) (fun c1 => wl_st d109_18 rfl rfl rfl rfl (wl_gr (b := 24) d109_19 pf5_18 (ly_k L 21 rfl) rfl (ly_r L 21 2 rfl) (wl_st d109_22 rfl rfl rfl rfl (And.elim (fun g2 g2k => wl_if (g := cm_ok h 13 24 x1) (st' := [.int (cm_I h 24 x1.toNatClampNeg)]) d109_23 rfl rfl rfl rfl (ly_o L 24 rfl g2) (wl_st (ls' := [some (.ref 21), some (.int x1), some (.int x2), some (.int (cm_I h 24 x1.toNatClampNeg))]) d109_24 rfl rfl rfl rfl (wl_st d109_25 rfl rfl rfl rfl (wl_gr (b := 24) d109_26 pf5_18 (ly_k L 21 rfl) rfl (ly_r L 21 2 rfl) (wl_st d109_29 rfl rfl rfl rfl (wl_st d109_30 rfl rfl rfl rfl (wl_gr (b := 24) d109_31 pf5_18 (ly_k L 21 rfl) rfl (ly_r L 21 2 rfl) (wl_st d109_34 rfl rfl rfl rfl (And.elim (fun g3 g3k => wl_if (g := cm_ok h 13 24 x2) (st' := [.int (cm_I h 24 x2.toNatClampNeg), .int x1, .ref 24]) d109_35 rfl rfl rfl rfl (ly_o L 24 rfl g3) (wl_if (h' := (cm_setI h 24 x1.toNatClampNeg (cm_I h 24 x2.toNatClampNeg))) d109_36 rfl rfl rfl rfl (ly_o L 24 rfl g2) (wl_st d109_37 rfl rfl rfl rfl (wl_gr (b := 24) d109_38 pf5_18 (ly_k L 21 rfl) rfl (ly_r L 21 2 rfl) (wl_st d109_41 rfl rfl rfl rfl (wl_st d109_42 rfl rfl rfl rfl (wl_if (h' := (cm_setI (cm_setI h 24 x1.toNatClampNeg (cm_I h 24 x2.toNatClampNeg)) 24 x2.toNatClampNeg (cm_I h 24 x1.toNatClampNeg))) d109_43 rfl rfl rfl rfl (ly_o L 24 rfl g3) (wl_rt d109_44 rfl rfl rfl g3k)))))))) g2k))))))))) (H.2 c1)))))
-- ClogHouse$Reader.<init>()V
theorem d4_0 : decode (cm_M 4).2.2.1 0 = .ok (.aload_n 0, 1) := by decide +kernel
theorem d4_1 : decode (cm_M 4).2.2.1 1 = .ok (.invokespecial 3, 3) := by decide +kernel
theorem d4_4 : decode (cm_M 4).2.2.1 4 = .ok (.aload_n 0, 1) := by decide +kernel
theorem d4_5 : decode (cm_M 4).2.2.1 5 = .ok (.bipush 6, 2) := by decide +kernel
theorem d4_7 : decode (cm_M 4).2.2.1 7 = .ok (.newarray .int, 2) := by decide +kernel
theorem d4_9 : decode (cm_M 4).2.2.1 9 = .ok (.putfield 9, 3) := by decide +kernel
theorem d4_12 : decode (cm_M 4).2.2.1 12 = .ok (.aload_n 0, 1) := by decide +kernel
theorem d4_13 : decode (cm_M 4).2.2.1 13 = .ok (.iconst 0, 1) := by decide +kernel
theorem d4_14 : decode (cm_M 4).2.2.1 14 = .ok (.newarray .char, 2) := by decide +kernel
theorem d4_16 : decode (cm_M 4).2.2.1 16 = .ok (.putfield 15, 3) := by decide +kernel
theorem d4_19 : decode (cm_M 4).2.2.1 19 = .ok (.return_, 1) := by decide +kernel
theorem s4_0 {sc : cmS} {d : Nat} {h : cmH} {Q : Option Value → cmH → Prop} (a0 : Nat) (H : (cm_kd (cm_mk h 13 6) a0 = 6 ∧ a0 < cm_n (cm_mk h 13 6)) ∧ (cm_kd (cm_mk (cm_setR (cm_mk h 13 6) a0 0 (some (cm_n h))) 12 0) a0 = 6 ∧ a0 < cm_n (cm_mk (cm_setR (cm_mk h 13 6) a0 0 (some (cm_n h))) 12 0)) ∧ Q none (cm_setR (cm_mk (cm_setR (cm_mk h 13 6) a0 0 (some (cm_n h))) 12 0) a0 1 (some (cm_n (cm_setR (cm_mk h 13 6) a0 0 (some (cm_n h))))))) : cm_wp sc (d + 1) 4 0 [some (.ref a0)] [] h Q :=
  wl_st d4_0 rfl rfl rfl rfl (wl_pr (st' := []) d4_1 rfl rfl rfl pm6_3 (by decide) rfl rfl (wl_st d4_4 rfl rfl rfl rfl (wl_bi (v := 6) d4_5 rfl (wl_na (kd := 13) (N := 6) d4_7 (by decide) (by decide) rfl (And.elim (fun g1 g1k => wl_pf (h' := (cm_setR (cm_mk h 13 6) a0 0 (some (cm_n h)))) d4_9 pf6_9 g1 (Or.inr ⟨rfl, rfl, rfl⟩) rfl (wl_st d4_12 rfl rfl rfl rfl (wl_ic (v := 0) d4_13 rfl (wl_na (kd := 12) (N := 0) d4_14 (by decide) (by decide) rfl (And.elim (fun g2 g2k => wl_pf (h' := (cm_setR (cm_mk (cm_setR (cm_mk h 13 6) a0 0 (some (cm_n h))) 12 0) a0 1 (some (cm_n (cm_setR (cm_mk h 13 6) a0 0 (some (cm_n h))))))) d4_16 pf6_15 g2 (Or.inl rfl) rfl (wl_rt d4_19 rfl rfl rfl g2k)) g1k))))) H)))))
