-- ClogHouse.bytesIn(I)I
theorem d35_0 : decode (cm_M 35).2.2.1 0 = .ok (.iconst 0, 1) := by decide +kernel
theorem d35_1 : decode (cm_M 35).2.2.1 1 = .ok (.istore_n 1, 1) := by decide +kernel
theorem d35_2 : decode (cm_M 35).2.2.1 2 = .ok (.bipush 24, 2) := by decide +kernel
theorem d35_4 : decode (cm_M 35).2.2.1 4 = .ok (.istore_n 2, 1) := by decide +kernel
theorem d35_5 : decode (cm_M 35).2.2.1 5 = .ok (.iload_n 2, 1) := by decide +kernel
theorem d35_6 : decode (cm_M 35).2.2.1 6 = .ok (.ifCond .lt 22, 3) := by decide +kernel
theorem d35_9 : decode (cm_M 35).2.2.1 9 = .ok (.iload_n 0, 1) := by decide +kernel
theorem d35_10 : decode (cm_M 35).2.2.1 10 = .ok (.iload_n 2, 1) := by decide +kernel
theorem d35_11 : decode (cm_M 35).2.2.1 11 = .ok (.iushr, 1) := by decide +kernel
theorem d35_12 : decode (cm_M 35).2.2.1 12 = .ok (.sipush 255, 3) := by decide +kernel
theorem d35_15 : decode (cm_M 35).2.2.1 15 = .ok (.iand, 1) := by decide +kernel
theorem d35_16 : decode (cm_M 35).2.2.1 16 = .ok (.ifCond .eq 6, 3) := by decide +kernel
theorem d35_19 : decode (cm_M 35).2.2.1 19 = .ok (.iinc 1 1, 3) := by decide +kernel
theorem d35_22 : decode (cm_M 35).2.2.1 22 = .ok (.iinc 2 (-8), 3) := by decide +kernel
theorem d35_25 : decode (cm_M 35).2.2.1 25 = .ok (.goto (-20), 3) := by decide +kernel
theorem d35_28 : decode (cm_M 35).2.2.1 28 = .ok (.iload_n 1, 1) := by decide +kernel
theorem d35_29 : decode (cm_M 35).2.2.1 29 = .ok (.ireturn, 1) := by decide +kernel
theorem s35_0 {sc : cmS} {d : Nat} {h : cmH} {Q : Option Value → cmH → Prop} (x0 : Int32) (u1 : Option Value) (u2 : Option Value) (H : cm_wp sc d 35 5 [some (.int x0), some (.int (0 : Int32)), some (.int (24 : Int32))] [] h Q) : cm_wp sc d 35 0 [some (.int x0), u1, u2] [] h Q :=
  wl_ic (v := 0) d35_0 rfl (wl_st (ls' := [some (.int x0), some (.int (0 : Int32)), u2]) d35_1 rfl rfl rfl rfl (wl_bi (v := 24) d35_2 rfl (wl_st (ls' := [some (.int x0), some (.int (0 : Int32)), some (.int (24 : Int32))]) d35_4 rfl rfl rfl rfl (H))))
theorem s35_5 {sc : cmS} {d : Nat} {h : cmH} {Q : Option Value → cmH → Prop} (x0 : Int32) (x1 : Int32) (x2 : Int32) (H : (((x2 < 0) → Q (some (.int x1)) h) ∧ (¬ (x2 < 0) → ((((((x0.toUInt32 >>> (x2.toUInt32 &&& Int32.toUInt32 31)).toInt32) &&& (255 : Int32)) = 0) → cm_wp sc d 35 22 [some (.int x0), some (.int x1), some (.int x2)] [] h Q) ∧ (¬ ((((x0.toUInt32 >>> (x2.toUInt32 &&& Int32.toUInt32 31)).toInt32) &&& (255 : Int32)) = 0) → cm_wp sc d 35 22 [some (.int x0), some (.int (x1 + 1)), some (.int x2)] [] h Q))))) : cm_wp sc d 35 5 [some (.int x0), some (.int x1), some (.int x2)] [] h Q :=
  wl_st d35_5 rfl rfl rfl rfl (wl_cb (b := x2 < 0) (off := 22) (tgt := 28) (pc3 := 9) (st' := []) d35_6 rfl rfl rfl rfl (by decide) rfl (fun c1 => wl_st d35_28 rfl rfl rfl rfl (wl_rt d35_29 rfl rfl rfl (H.1 c1))) (fun c1 => wl_st d35_9 rfl rfl rfl rfl (wl_st d35_10 rfl rfl rfl rfl (wl_st d35_11 rfl rfl rfl rfl (wl_si (v := 255) d35_12 rfl (wl_st d35_15 rfl rfl rfl rfl (wl_cb (b := (((x0.toUInt32 >>> (x2.toUInt32 &&& Int32.toUInt32 31)).toInt32) &&& (255 : Int32)) = 0) (off := 6) (tgt := 22) (pc3 := 19) (st' := []) d35_16 rfl rfl rfl rfl (by decide) rfl (fun c2 => ((H.2 c1).1 c2)) (fun c2 => wl_st (ls' := [some (.int x0), some (.int (x1 + 1)), some (.int x2)]) d35_19 rfl rfl rfl rfl (((H.2 c1).2 c2))))))))))
theorem s35_22 {sc : cmS} {d : Nat} {h : cmH} {Q : Option Value → cmH → Prop} (x0 : Int32) (x1 : Int32) (x2 : Int32) (H : cm_wp sc d 35 5 [some (.int x0), some (.int x1), some (.int (x2 + (-8)))] [] h Q) : cm_wp sc d 35 22 [some (.int x0), some (.int x1), some (.int x2)] [] h Q :=
  wl_st (ls' := [some (.int x0), some (.int x1), some (.int (x2 + (-8)))]) d35_22 rfl rfl rfl rfl (wl_go (tgt := 5) d35_25 (by decide) (H))
-- ClogHouse.end(I)Z
theorem d37_0 : decode (cm_M 37).2.2.1 0 = .ok (.iload_n 1, 1) := by decide +kernel
theorem d37_1 : decode (cm_M 37).2.2.1 1 = .ok (.iconst 0, 1) := by decide +kernel
theorem d37_2 : decode (cm_M 37).2.2.1 2 = .ok (.aload_n 0, 1) := by decide +kernel
theorem d37_3 : decode (cm_M 37).2.2.1 3 = .ok (.getfield 27, 3) := by decide +kernel
theorem d37_6 : decode (cm_M 37).2.2.1 6 = .ok (.getfield 186, 3) := by decide +kernel
theorem d37_9 : decode (cm_M 37).2.2.1 9 = .ok (.invokestatic 81, 3) := by decide +kernel
theorem d37_12 : decode (cm_M 37).2.2.1 12 = .ok (.ifCond .ne 5, 3) := by decide +kernel
theorem d37_15 : decode (cm_M 37).2.2.1 15 = .ok (.iconst 0, 1) := by decide +kernel
theorem d37_16 : decode (cm_M 37).2.2.1 16 = .ok (.ireturn, 1) := by decide +kernel
theorem d37_17 : decode (cm_M 37).2.2.1 17 = .ok (.aload_n 0, 1) := by decide +kernel
theorem d37_18 : decode (cm_M 37).2.2.1 18 = .ok (.getfield 27, 3) := by decide +kernel
theorem d37_21 : decode (cm_M 37).2.2.1 21 = .ok (.iload_n 1, 1) := by decide +kernel
theorem d37_22 : decode (cm_M 37).2.2.1 22 = .ok (.putfield 186, 3) := by decide +kernel
theorem d37_25 : decode (cm_M 37).2.2.1 25 = .ok (.iconst 1, 1) := by decide +kernel
theorem d37_26 : decode (cm_M 37).2.2.1 26 = .ok (.ireturn, 1) := by decide +kernel
theorem s37_0 {sc : cmS} {d : Nat} {h : cmH} {Q : Option Value → cmH → Prop} (L : LY h) (x1 : Int32) (H : cm_ci sc d 13 [.int x1, .int (0 : Int32), .int (cm_I h 6 1)] h (fun r h' => cm_wp sc (d + 1) 37 12 [some (.ref 0), some (.int x1)] [.int r] h' Q)) : cm_wp sc (d + 1) 37 0 [some (.ref 0), some (.int x1)] [] h Q :=
  wl_st d37_0 rfl rfl rfl rfl (wl_ic (v := 0) d37_1 rfl (wl_st d37_2 rfl rfl rfl rfl (wl_gr (b := 6) d37_3 pf10_27 (ly_k L 0 rfl) rfl (ly_r L 0 2 rfl) (wl_gf (v := .int (cm_I h 6 1)) d37_6 pf10_186 (ly_k L 6 rfl) rfl (wl_ci d37_9 rfl rfl rfl pm10_81 (by decide) (ca_s (Or.inl rfl) rfl (Nat.le_of_ble_eq_true rfl) (Nat.le_of_ble_eq_true rfl)) H)))))
theorem s37_12 {sc : cmS} {d : Nat} {h : cmH} {Q : Option Value → cmH → Prop} (L : LY h) (x1 : Int32) (sx0 : Int32) (H : (((¬ sx0 = 0) → Q (some (.int (1 : Int32))) (cm_setI h 6 1 x1)) ∧ (¬ (¬ sx0 = 0) → Q (some (.int (0 : Int32))) h))) : cm_wp sc d 37 12 [some (.ref 0), some (.int x1)] [.int sx0] h Q :=
  wl_cb (b := ¬ sx0 = 0) (off := 5) (tgt := 17) (pc3 := 15) (st' := []) d37_12 rfl rfl rfl rfl (by decide) rfl (fun c1 => wl_st d37_17 rfl rfl rfl rfl (wl_gr (b := 6) d37_18 pf10_27 (ly_k L 0 rfl) rfl (ly_r L 0 2 rfl) (wl_st d37_21 rfl rfl rfl rfl (wl_pf (h' := (cm_setI h 6 1 x1)) d37_22 pf10_186 (ly_k L 6 rfl) (Or.inl rfl) rfl (wl_ic (v := 1) d37_25 rfl (wl_rz d37_26 rfl (by decide) (H.1 c1))))))) (fun c1 => wl_ic (v := 0) d37_15 rfl (wl_rz d37_16 rfl (by decide) (H.2 c1)))
-- ClogHouse.fault()I
theorem d38_0 : decode (cm_M 38).2.2.1 0 = .ok (.aload_n 0, 1) := by decide +kernel
theorem d38_1 : decode (cm_M 38).2.2.1 1 = .ok (.getfield 38, 3) := by decide +kernel
theorem d38_4 : decode (cm_M 38).2.2.1 4 = .ok (.aload_n 0, 1) := by decide +kernel
theorem d38_5 : decode (cm_M 38).2.2.1 5 = .ok (.getfield 27, 3) := by decide +kernel
theorem d38_8 : decode (cm_M 38).2.2.1 8 = .ok (.invokevirtual 192, 3) := by decide +kernel
theorem d38_11 : decode (cm_M 38).2.2.1 11 = .ok (.ireturn, 1) := by decide +kernel
theorem s38_0 {sc : cmS} {d : Nat} {h : cmH} {Q : Option Value → cmH → Prop} (L : LY h)  (H : cm_ci sc d 39 [.ref 9, .ref 6] h (fun r h' => cm_wp sc (d + 1) 38 11 [some (.ref 0)] [.int r] h' Q)) : cm_wp sc (d + 1) 38 0 [some (.ref 0)] [] h Q :=
  wl_st d38_0 rfl rfl rfl rfl (wl_gr (b := 9) d38_1 pf10_38 (ly_k L 0 rfl) rfl (ly_r L 0 4 rfl) (wl_st d38_4 rfl rfl rfl rfl (wl_gr (b := 6) d38_5 pf10_27 (ly_k L 0 rfl) rfl (ly_r L 0 2 rfl) (wl_ci d38_8 rfl rfl rfl pm10_192 (by decide) (ca_v (Or.inr rfl) rfl (Nat.le_of_ble_eq_true rfl) (Nat.le_of_ble_eq_true rfl) (ly_k L 9 rfl).2 (ly_k L 9 rfl).1 (by decide)) H))))
theorem s38_11 {sc : cmS} {d : Nat} {h : cmH} {Q : Option Value → cmH → Prop} (sx0 : Int32) (H : Q (some (.int sx0)) h) : cm_wp sc d 38 11 [some (.ref 0)] [.int sx0] h Q :=
  wl_rt d38_11 rfl rfl rfl H
-- ClogHouse.rules()I
theorem d55_0 : decode (cm_M 55).2.2.1 0 = .ok (.aload_n 0, 1) := by decide +kernel
theorem d55_1 : decode (cm_M 55).2.2.1 1 = .ok (.getfield 196, 3) := by decide +kernel
theorem d55_4 : decode (cm_M 55).2.2.1 4 = .ok (.ifCond .lt 27, 3) := by decide +kernel
theorem d55_7 : decode (cm_M 55).2.2.1 7 = .ok (.aload_n 0, 1) := by decide +kernel
theorem d55_8 : decode (cm_M 55).2.2.1 8 = .ok (.getfield 196, 3) := by decide +kernel
theorem d55_11 : decode (cm_M 55).2.2.1 11 = .ok (.bipush 12, 2) := by decide +kernel
theorem d55_13 : decode (cm_M 55).2.2.1 13 = .ok (.if_icmp .ge 18, 3) := by decide +kernel
theorem d55_16 : decode (cm_M 55).2.2.1 16 = .ok (.aload_n 0, 1) := by decide +kernel
theorem d55_17 : decode (cm_M 55).2.2.1 17 = .ok (.getfield 38, 3) := by decide +kernel
theorem d55_20 : decode (cm_M 55).2.2.1 20 = .ok (.aload_n 0, 1) := by decide +kernel
theorem d55_21 : decode (cm_M 55).2.2.1 21 = .ok (.getfield 27, 3) := by decide +kernel
theorem d55_24 : decode (cm_M 55).2.2.1 24 = .ok (.invokevirtual 192, 3) := by decide +kernel
theorem d55_27 : decode (cm_M 55).2.2.1 27 = .ok (.iconst (-1), 1) := by decide +kernel
theorem d55_28 : decode (cm_M 55).2.2.1 28 = .ok (.if_icmp .eq 5, 3) := by decide +kernel
theorem d55_31 : decode (cm_M 55).2.2.1 31 = .ok (.iconst (-1), 1) := by decide +kernel
theorem d55_32 : decode (cm_M 55).2.2.1 32 = .ok (.ireturn, 1) := by decide +kernel
theorem d55_33 : decode (cm_M 55).2.2.1 33 = .ok (.new 22, 3) := by decide +kernel
theorem d55_36 : decode (cm_M 55).2.2.1 36 = .ok (.dup, 1) := by decide +kernel
theorem d55_37 : decode (cm_M 55).2.2.1 37 = .ok (.aload_n 0, 1) := by decide +kernel
theorem d55_38 : decode (cm_M 55).2.2.1 38 = .ok (.getfield 27, 3) := by decide +kernel
theorem d55_41 : decode (cm_M 55).2.2.1 41 = .ok (.getfield 186, 3) := by decide +kernel
theorem d55_44 : decode (cm_M 55).2.2.1 44 = .ok (.invokespecial 24, 3) := by decide +kernel
theorem d55_47 : decode (cm_M 55).2.2.1 47 = .ok (.astore_n 1, 1) := by decide +kernel
theorem d55_48 : decode (cm_M 55).2.2.1 48 = .ok (.aload_n 1, 1) := by decide +kernel
theorem d55_49 : decode (cm_M 55).2.2.1 49 = .ok (.aload_n 0, 1) := by decide +kernel
theorem d55_50 : decode (cm_M 55).2.2.1 50 = .ok (.getfield 27, 3) := by decide +kernel
theorem d55_53 : decode (cm_M 55).2.2.1 53 = .ok (.invokevirtual 199, 3) := by decide +kernel
theorem d55_56 : decode (cm_M 55).2.2.1 56 = .ok (.aload_n 0, 1) := by decide +kernel
theorem d55_57 : decode (cm_M 55).2.2.1 57 = .ok (.getfield 31, 3) := by decide +kernel
theorem d55_60 : decode (cm_M 55).2.2.1 60 = .ok (.aload_n 0, 1) := by decide +kernel
theorem d55_61 : decode (cm_M 55).2.2.1 61 = .ok (.getfield 196, 3) := by decide +kernel
theorem d55_64 : decode (cm_M 55).2.2.1 64 = .ok (.aload_n 1, 1) := by decide +kernel
theorem d55_65 : decode (cm_M 55).2.2.1 65 = .ok (.aastore, 1) := by decide +kernel
theorem d55_66 : decode (cm_M 55).2.2.1 66 = .ok (.aload_n 0, 1) := by decide +kernel
theorem d55_67 : decode (cm_M 55).2.2.1 67 = .ok (.getfield 27, 3) := by decide +kernel
theorem d55_70 : decode (cm_M 55).2.2.1 70 = .ok (.iconst 0, 1) := by decide +kernel
theorem d55_71 : decode (cm_M 55).2.2.1 71 = .ok (.putfield 186, 3) := by decide +kernel
theorem d55_74 : decode (cm_M 55).2.2.1 74 = .ok (.aload_n 0, 1) := by decide +kernel
theorem d55_75 : decode (cm_M 55).2.2.1 75 = .ok (.dup, 1) := by decide +kernel
theorem d55_76 : decode (cm_M 55).2.2.1 76 = .ok (.getfield 196, 3) := by decide +kernel
theorem d55_79 : decode (cm_M 55).2.2.1 79 = .ok (.iconst 1, 1) := by decide +kernel
theorem d55_80 : decode (cm_M 55).2.2.1 80 = .ok (.iadd, 1) := by decide +kernel
theorem d55_81 : decode (cm_M 55).2.2.1 81 = .ok (.putfield 196, 3) := by decide +kernel
theorem d55_84 : decode (cm_M 55).2.2.1 84 = .ok (.aload_n 0, 1) := by decide +kernel
theorem d55_85 : decode (cm_M 55).2.2.1 85 = .ok (.getfield 196, 3) := by decide +kernel
theorem d55_88 : decode (cm_M 55).2.2.1 88 = .ok (.iconst 1, 1) := by decide +kernel
theorem d55_89 : decode (cm_M 55).2.2.1 89 = .ok (.isub, 1) := by decide +kernel
theorem d55_90 : decode (cm_M 55).2.2.1 90 = .ok (.ireturn, 1) := by decide +kernel
theorem s55_0 {sc : cmS} {d : Nat} {h : cmH} {Q : Option Value → cmH → Prop} (L : LY h) (u1 : Option Value) (H : ((((cm_I h 0 11) < 0) → Q (some (.int (-1 : Int32))) h) ∧ (¬ ((cm_I h 0 11) < 0) → ((((12 : Int32) ≤ (cm_I h 0 11)) → Q (some (.int (-1 : Int32))) h) ∧ (¬ ((12 : Int32) ≤ (cm_I h 0 11)) → cm_ci sc d 39 [.ref 9, .ref 6] h (fun r h' => cm_wp sc (d + 1) 55 27 [some (.ref 0), u1] [.int r] h' Q)))))) : cm_wp sc (d + 1) 55 0 [some (.ref 0), u1] [] h Q :=
  wl_st d55_0 rfl rfl rfl rfl (wl_gf (v := .int (cm_I h 0 11)) d55_1 pf10_196 (ly_k L 0 rfl) rfl (wl_cb (b := (cm_I h 0 11) < 0) (off := 27) (tgt := 31) (pc3 := 7) (st' := []) d55_4 rfl rfl rfl rfl (by decide) rfl (fun c1 => wl_ic (v := (-1)) d55_31 rfl (wl_rt d55_32 rfl rfl rfl (H.1 c1))) (fun c1 => wl_st d55_7 rfl rfl rfl rfl (wl_gf (v := .int (cm_I h 0 11)) d55_8 pf10_196 (ly_k L 0 rfl) rfl (wl_bi (v := 12) d55_11 rfl (wl_cb (b := (12 : Int32) ≤ (cm_I h 0 11)) (off := 18) (tgt := 31) (pc3 := 16) (st' := []) d55_13 rfl rfl rfl rfl (by decide) rfl (fun c2 => wl_ic (v := (-1)) d55_31 rfl (wl_rt d55_32 rfl rfl rfl ((H.2 c1).1 c2))) (fun c2 => wl_st d55_16 rfl rfl rfl rfl (wl_gr (b := 9) d55_17 pf10_38 (ly_k L 0 rfl) rfl (ly_r L 0 4 rfl) (wl_st d55_20 rfl rfl rfl rfl (wl_gr (b := 6) d55_21 pf10_27 (ly_k L 0 rfl) rfl (ly_r L 0 2 rfl) (wl_ci d55_24 rfl rfl rfl pm10_192 (by decide) (ca_v (Or.inr rfl) rfl (Nat.le_of_ble_eq_true rfl) (Nat.le_of_ble_eq_true rfl) (ly_k L 9 rfl).2 (ly_k L 9 rfl).1 (by decide)) ((H.2 c1).2 c2))))))))))))
theorem s55_27 {sc : cmS} {d : Nat} {h : cmH} {Q : Option Value → cmH → Prop} (u1 : Option Value) (sx0 : Int32) (H : (((sx0 = (-1 : Int32)) → (cm_kd (cm_mk h 9 2) 0 = 10 ∧ 0 < cm_n (cm_mk h 9 2)) ∧ ∃ b3, cm_R (cm_mk h 9 2) 0 2 = some b3 ∧ (cm_kd (cm_mk h 9 2) b3 = 9 ∧ b3 < cm_n (cm_mk h 9 2)) ∧ (cm_kd (cm_mk h 9 2) (cm_n h) = 9 ∧ (cm_n h) < cm_n (cm_mk h 9 2)) ∧ cm_cv sc d 3 [.ref (cm_n h), .int (cm_I (cm_mk h 9 2) b3 1)] (cm_mk h 9 2) (fun h' => cm_wp sc (d + 1) 55 47 [some (.ref 0), u1] [.ref (cm_n h)] h' Q)) ∧ (¬ (sx0 = (-1 : Int32)) → Q (some (.int (-1 : Int32))) h))) : cm_wp sc (d + 1) 55 27 [some (.ref 0), u1] [.int sx0] h Q :=
  wl_ic (v := (-1)) d55_27 rfl (wl_cb (b := sx0 = (-1 : Int32)) (off := 5) (tgt := 33) (pc3 := 31) (st' := []) d55_28 rfl rfl rfl rfl (by decide) rfl (fun c1 => wl_nw d55_33 pn10_22 (wl_st d55_36 rfl rfl rfl rfl (wl_st d55_37 rfl rfl rfl rfl (And.elim (fun g2 g2k => Exists.elim g2k fun b3 b3q => And.elim (fun b3e b3k => wl_gr (b := b3) d55_38 pf10_27 g2 rfl b3e (And.elim (fun g4 g4k => wl_gf (v := .int (cm_I (cm_mk h 9 2) b3 1)) d55_41 pf10_186 g4 rfl (And.elim (fun g5 g5k => wl_cv d55_44 rfl rfl rfl pm10_24 (by decide) (ca_i (Or.inr rfl) rfl (Nat.le_of_ble_eq_true rfl) (Nat.le_of_ble_eq_true rfl) g5.2 g5.1 (by decide) rfl) g5k) g4k)) b3k)) b3q) (H.1 c1))))) (fun c1 => wl_ic (v := (-1)) d55_31 rfl (wl_rt d55_32 rfl rfl rfl (H.2 c1))))
theorem s55_47 {sc : cmS} {d : Nat} {h : cmH} {Q : Option Value → cmH → Prop} (L : LY h) (u1 : Option Value) (sa0 : Nat) (H : (TX h sa0) ∧ cm_cv sc d 56 [.ref sa0, .ref 6] h (fun h' => cm_wp sc (d + 1) 55 56 [some (.ref 0), some (.ref sa0)] [] h' Q)) : cm_wp sc (d + 1) 55 47 [some (.ref 0), u1] [.ref sa0] h Q :=
  wl_st (ls' := [some (.ref 0), some (.ref sa0)]) d55_47 rfl rfl rfl rfl (wl_st d55_48 rfl rfl rfl rfl (wl_st d55_49 rfl rfl rfl rfl (wl_gr (b := 6) d55_50 pf10_27 (ly_k L 0 rfl) rfl (ly_r L 0 2 rfl) (And.elim (fun g1 g1k => wl_cv d55_53 rfl rfl rfl pm10_199 (by decide) (ca_v (Or.inr rfl) rfl (Nat.le_of_ble_eq_true rfl) (Nat.le_of_ble_eq_true rfl) (TX.k g1).2 (TX.k g1).1 (by decide)) g1k) H))))
theorem s55_56 {sc : cmS} {d : Nat} {h : cmH} {Q : Option Value → cmH → Prop} (L : LY h) (a1 : Nat) (H : (cm_ok h (cm_kd h 8) 8 (cm_I h 0 11) ∧ a1 < cm_n h ∧ ((cm_kd h 8 = 16 ∧ cm_kd h a1 = 1) ∨ (cm_kd h 8 = 17 ∧ cm_kd h a1 = 3) ∨ (cm_kd h 8 = 18 ∧ cm_kd h a1 = 9))) ∧ (cm_kd h 0 = 10 ∧ 0 < cm_n h) ∧ ∃ b3, cm_R (cm_setR h 8 (cm_I h 0 11).toNatClampNeg (some a1)) 0 2 = some b3 ∧ (cm_kd h b3 = 9 ∧ b3 < cm_n h) ∧ Q (some (.int (((cm_I (cm_setI (cm_setR h 8 (cm_I h 0 11).toNatClampNeg (some a1)) b3 1 (0 : Int32)) 0 11) + (1 : Int32)) - (1 : Int32)))) (cm_setI (cm_setI (cm_setR h 8 (cm_I h 0 11).toNatClampNeg (some a1)) b3 1 (0 : Int32)) 0 11 ((cm_I (cm_setI (cm_setR h 8 (cm_I h 0 11).toNatClampNeg (some a1)) b3 1 (0 : Int32)) 0 11) + (1 : Int32)))) : cm_wp sc d 55 56 [some (.ref 0), some (.ref a1)] [] h Q :=
  wl_st d55_56 rfl rfl rfl rfl (wl_gr (b := 8) d55_57 pf10_31 (ly_k L 0 rfl) rfl (ly_r L 0 3 rfl) (wl_st d55_60 rfl rfl rfl rfl (wl_gf (v := .int (cm_I h 0 11)) d55_61 pf10_196 (ly_k L 0 rfl) rfl (wl_st d55_64 rfl rfl rfl rfl (And.elim (fun g1 g1k => wl_if (h' := (cm_setR h 8 (cm_I h 0 11).toNatClampNeg (some a1))) d55_65 rfl rfl rfl rfl g1 (wl_st d55_66 rfl rfl rfl rfl (And.elim (fun g2 g2k => Exists.elim g2k fun b3 b3q => And.elim (fun b3e b3k => wl_gr (b := b3) d55_67 pf10_27 g2 rfl b3e (wl_ic (v := 0) d55_70 rfl (And.elim (fun g4 g4k => wl_pf (h' := (cm_setI (cm_setR h 8 (cm_I h 0 11).toNatClampNeg (some a1)) b3 1 (0 : Int32))) d55_71 pf10_186 g4 (Or.inl rfl) rfl (wl_st d55_74 rfl rfl rfl rfl (wl_st d55_75 rfl rfl rfl rfl (wl_gf (v := .int (cm_I (cm_setI (cm_setR h 8 (cm_I h 0 11).toNatClampNeg (some a1)) b3 1 (0 : Int32)) 0 11)) d55_76 pf10_196 g2 rfl (wl_ic (v := 1) d55_79 rfl (wl_st d55_80 rfl rfl rfl rfl (wl_pf (h' := (cm_setI (cm_setI (cm_setR h 8 (cm_I h 0 11).toNatClampNeg (some a1)) b3 1 (0 : Int32)) 0 11 ((cm_I (cm_setI (cm_setR h 8 (cm_I h 0 11).toNatClampNeg (some a1)) b3 1 (0 : Int32)) 0 11) + (1 : Int32)))) d55_81 pf10_196 g2 (Or.inl rfl) rfl (wl_st d55_84 rfl rfl rfl rfl (wl_gf (v := .int ((cm_I (cm_setI (cm_setR h 8 (cm_I h 0 11).toNatClampNeg (some a1)) b3 1 (0 : Int32)) 0 11) + (1 : Int32))) d55_85 pf10_196 g2 rfl (wl_ic (v := 1) d55_88 rfl (wl_st d55_89 rfl rfl rfl rfl (wl_rt d55_90 rfl rfl rfl g4k)))))))))))) b3k))) b3q) g1k))) H)))))
-- ClogHouse.rule(II)Z
theorem d57_0 : decode (cm_M 57).2.2.1 0 = .ok (.aload_n 0, 1) := by decide +kernel
theorem d57_1 : decode (cm_M 57).2.2.1 1 = .ok (.iload_n 1, 1) := by decide +kernel
theorem d57_2 : decode (cm_M 57).2.2.1 2 = .ok (.invokevirtual 103, 3) := by decide +kernel
theorem d57_5 : decode (cm_M 57).2.2.1 5 = .ok (.astore_n 3, 1) := by decide +kernel
theorem d57_6 : decode (cm_M 57).2.2.1 6 = .ok (.aload_n 3, 1) := by decide +kernel
theorem d57_7 : decode (cm_M 57).2.2.1 7 = .ok (.ifnull 17, 3) := by decide +kernel
theorem d57_10 : decode (cm_M 57).2.2.1 10 = .ok (.iload_n 2, 1) := by decide +kernel
theorem d57_11 : decode (cm_M 57).2.2.1 11 = .ok (.iconst (-1), 1) := by decide +kernel
theorem d57_12 : decode (cm_M 57).2.2.1 12 = .ok (.aload_n 0, 1) := by decide +kernel
theorem d57_13 : decode (cm_M 57).2.2.1 13 = .ok (.getfield 196, 3) := by decide +kernel
theorem d57_16 : decode (cm_M 57).2.2.1 16 = .ok (.iconst 1, 1) := by decide +kernel
theorem d57_17 : decode (cm_M 57).2.2.1 17 = .ok (.isub, 1) := by decide +kernel
theorem d57_18 : decode (cm_M 57).2.2.1 18 = .ok (.invokestatic 81, 3) := by decide +kernel
theorem d57_21 : decode (cm_M 57).2.2.1 21 = .ok (.ifCond .ne 5, 3) := by decide +kernel
theorem d57_24 : decode (cm_M 57).2.2.1 24 = .ok (.iconst 0, 1) := by decide +kernel
theorem d57_25 : decode (cm_M 57).2.2.1 25 = .ok (.ireturn, 1) := by decide +kernel
theorem d57_26 : decode (cm_M 57).2.2.1 26 = .ok (.aload_n 3, 1) := by decide +kernel
theorem d57_27 : decode (cm_M 57).2.2.1 27 = .ok (.iload_n 2, 1) := by decide +kernel
theorem d57_28 : decode (cm_M 57).2.2.1 28 = .ok (.putfield 203, 3) := by decide +kernel
theorem d57_31 : decode (cm_M 57).2.2.1 31 = .ok (.iconst 1, 1) := by decide +kernel
theorem d57_32 : decode (cm_M 57).2.2.1 32 = .ok (.ireturn, 1) := by decide +kernel
theorem s57_0 {sc : cmS} {d : Nat} {h : cmH} {Q : Option Value → cmH → Prop} (L : LY h) (x1 : Int32) (x2 : Int32) (u3 : Option Value) (H : cm_cq sc d 17 [.ref 0, .int x1] h (fun r h' => cm_wp sc (d + 1) 57 5 [some (.ref 0), some (.int x1), some (.int x2), u3] [va_rf r] h' Q)) : cm_wp sc (d + 1) 57 0 [some (.ref 0), some (.int x1), some (.int x2), u3] [] h Q :=
  wl_st d57_0 rfl rfl rfl rfl (wl_st d57_1 rfl rfl rfl rfl (wl_cq d57_2 rfl rfl rfl pm10_103 (by decide) (ca_v (Or.inl rfl) rfl (Nat.le_of_ble_eq_true rfl) (Nat.le_of_ble_eq_true rfl) (ly_k L 0 rfl).2 (ly_k L 0 rfl).1 (by decide)) H))
theorem s57_5 {sc : cmS} {d : Nat} {h : cmH} {Q : Option Value → cmH → Prop} (L : LY h) (x1 : Int32) (x2 : Int32) (u3 : Option Value) (so0 : Option Nat) (H : ((so0 = none → Q (some (.int (0 : Int32))) h) ∧ (∀ b2, so0 = some b2 → cm_ci sc d 13 [.int x2, .int (-1 : Int32), .int ((cm_I h 0 11) - (1 : Int32))] h (fun r h' => cm_wp sc (d + 1) 57 21 [some (.ref 0), some (.int x1), some (.int x2), some (.ref b2)] [.int r] h' Q)))) : cm_wp sc (d + 1) 57 5 [some (.ref 0), some (.int x1), some (.int x2), u3] [va_rf so0] h Q :=
  wl_as (k := 3) (ls' := [some (.ref 0), some (.int x1), some (.int x2), some (va_rf so0)]) d57_5 (Or.inr ⟨⟨_, rfl, rfl⟩, rfl⟩) (Nat.le_of_ble_eq_true rfl) rfl (wl_al (k := 3) d57_6 (Or.inr ⟨⟨_, rfl, rfl⟩, rfl⟩) rfl (wl_nu (o := so0) (tgt := 24) (pc3 := 10) d57_7 (by decide) rfl (fun c1 => wl_ic (v := 0) d57_24 rfl (wl_rz d57_25 rfl (by decide) (H.1 c1))) (fun b2 c1 => cm_rw (fun oo => cm_wp sc (d + 1) 57 10 [some (.ref 0), some (.int x1), some (.int x2), some (va_rf oo)] [] h Q) c1 (wl_st d57_10 rfl rfl rfl rfl (wl_ic (v := (-1)) d57_11 rfl (wl_st d57_12 rfl rfl rfl rfl (wl_gf (v := .int (cm_I h 0 11)) d57_13 pf10_196 (ly_k L 0 rfl) rfl (wl_ic (v := 1) d57_16 rfl (wl_st d57_17 rfl rfl rfl rfl (wl_ci d57_18 rfl rfl rfl pm10_81 (by decide) (ca_s (Or.inl rfl) rfl (Nat.le_of_ble_eq_true rfl) (Nat.le_of_ble_eq_true rfl)) (H.2 b2 c1)))))))))))
theorem s57_21 {sc : cmS} {d : Nat} {h : cmH} {Q : Option Value → cmH → Prop} (x1 : Int32) (x2 : Int32) (o3 : Option Nat) (sx0 : Int32) (H : (((¬ sx0 = 0) → ∃ b2, o3 = some b2 ∧ (FL h b2) ∧ Q (some (.int (1 : Int32))) (cm_setI h b2 7 x2)) ∧ (¬ (¬ sx0 = 0) → Q (some (.int (0 : Int32))) h))) : cm_wp sc d 57 21 [some (.ref 0), some (.int x1), some (.int x2), some (va_rf o3)] [.int sx0] h Q :=
  wl_cb (b := ¬ sx0 = 0) (off := 5) (tgt := 26) (pc3 := 24) (st' := []) d57_21 rfl rfl rfl rfl (by decide) rfl (fun c1 => Exists.elim (H.1 c1) fun b2 b2q => And.elim (fun b2e b2k => cm_rw (fun oo => cm_wp sc d 57 26 [some (.ref 0), some (.int x1), some (.int x2), some (va_rf oo)] [] h Q) b2e (wl_st d57_26 rfl rfl rfl rfl (wl_st d57_27 rfl rfl rfl rfl (And.elim (fun g3 g3k => wl_pf (h' := (cm_setI h b2 7 x2)) d57_28 pf10_203 (FL.k g3) (Or.inl rfl) rfl (wl_ic (v := 1) d57_31 rfl (wl_rz d57_32 rfl (by decide) g3k))) b2k)))) b2q) (fun c1 => wl_ic (v := 0) d57_24 rfl (wl_rz d57_25 rfl (by decide) (H.2 c1)))
-- ClogHouse.stream(I)Z
theorem d58_0 : decode (cm_M 58).2.2.1 0 = .ok (.iload_n 1, 1) := by decide +kernel
theorem d58_1 : decode (cm_M 58).2.2.1 1 = .ok (.iconst 1, 1) := by decide +kernel
theorem d58_2 : decode (cm_M 58).2.2.1 2 = .ok (.sipush 1000, 3) := by decide +kernel
theorem d58_5 : decode (cm_M 58).2.2.1 5 = .ok (.invokestatic 81, 3) := by decide +kernel
theorem d58_8 : decode (cm_M 58).2.2.1 8 = .ok (.ifCond .ne 5, 3) := by decide +kernel
theorem d58_11 : decode (cm_M 58).2.2.1 11 = .ok (.iconst 0, 1) := by decide +kernel
theorem d58_12 : decode (cm_M 58).2.2.1 12 = .ok (.ireturn, 1) := by decide +kernel
theorem d58_13 : decode (cm_M 58).2.2.1 13 = .ok (.aload_n 0, 1) := by decide +kernel
theorem d58_14 : decode (cm_M 58).2.2.1 14 = .ok (.getfield 45, 3) := by decide +kernel
theorem d58_17 : decode (cm_M 58).2.2.1 17 = .ok (.iload_n 1, 1) := by decide +kernel
theorem d58_18 : decode (cm_M 58).2.2.1 18 = .ok (.putfield 228, 3) := by decide +kernel
theorem d58_21 : decode (cm_M 58).2.2.1 21 = .ok (.aload_n 0, 1) := by decide +kernel
theorem d58_22 : decode (cm_M 58).2.2.1 22 = .ok (.getfield 59, 3) := by decide +kernel
theorem d58_25 : decode (cm_M 58).2.2.1 25 = .ok (.invokevirtual 95, 3) := by decide +kernel
theorem d58_28 : decode (cm_M 58).2.2.1 28 = .ok (.iconst 1, 1) := by decide +kernel
theorem d58_29 : decode (cm_M 58).2.2.1 29 = .ok (.ireturn, 1) := by decide +kernel
theorem s58_0 {sc : cmS} {d : Nat} {h : cmH} {Q : Option Value → cmH → Prop} (x1 : Int32) (H : cm_ci sc d 13 [.int x1, .int (1 : Int32), .int (1000 : Int32)] h (fun r h' => cm_wp sc (d + 1) 58 8 [some (.ref 0), some (.int x1)] [.int r] h' Q)) : cm_wp sc (d + 1) 58 0 [some (.ref 0), some (.int x1)] [] h Q :=
  wl_st d58_0 rfl rfl rfl rfl (wl_ic (v := 1) d58_1 rfl (wl_si (v := 1000) d58_2 rfl (wl_ci d58_5 rfl rfl rfl pm10_81 (by decide) (ca_s (Or.inl rfl) rfl (Nat.le_of_ble_eq_true rfl) (Nat.le_of_ble_eq_true rfl)) H)))
theorem s58_8 {sc : cmS} {d : Nat} {h : cmH} {Q : Option Value → cmH → Prop} (L : LY h) (x1 : Int32) (sx0 : Int32) (H : (((¬ sx0 = 0) → cm_cv sc d 14 [.ref 21] (cm_setI h 12 1 x1) (fun h' => cm_wp sc (d + 1) 58 28 [some (.ref 0), some (.int x1)] [] h' Q)) ∧ (¬ (¬ sx0 = 0) → Q (some (.int (0 : Int32))) h))) : cm_wp sc (d + 1) 58 8 [some (.ref 0), some (.int x1)] [.int sx0] h Q :=
  wl_cb (b := ¬ sx0 = 0) (off := 5) (tgt := 13) (pc3 := 11) (st' := []) d58_8 rfl rfl rfl rfl (by decide) rfl (fun c1 => wl_st d58_13 rfl rfl rfl rfl (wl_gr (b := 12) d58_14 pf10_45 (ly_k L 0 rfl) rfl (ly_r L 0 5 rfl) (wl_st d58_17 rfl rfl rfl rfl (wl_pf (h' := (cm_setI h 12 1 x1)) d58_18 pf10_228 (ly_k L 12 rfl) (Or.inl rfl) rfl (wl_st d58_21 rfl rfl rfl rfl (wl_gr (b := 21) d58_22 pf10_59 (ly_k L 0 rfl) rfl (ly_r L 0 7 rfl) (wl_cv d58_25 rfl rfl rfl pm10_95 (by decide) (ca_v (Or.inr rfl) rfl (Nat.le_of_ble_eq_true rfl) (Nat.le_of_ble_eq_true rfl) (ly_k L 21 rfl).2 (ly_k L 21 rfl).1 (by decide)) (H.1 c1)))))))) (fun c1 => wl_ic (v := 0) d58_11 rfl (wl_rz d58_12 rfl (by decide) (H.2 c1)))
theorem s58_28 {sc : cmS} {d : Nat} {h : cmH} {Q : Option Value → cmH → Prop} (x1 : Int32) (H : Q (some (.int (1 : Int32))) h) : cm_wp sc d 58 28 [some (.ref 0), some (.int x1)] [] h Q :=
  wl_ic (v := 1) d58_28 rfl (wl_rz d58_29 rfl (by decide) H)
-- ClogHouse.come(II)Z
theorem d59_0 : decode (cm_M 59).2.2.1 0 = .ok (.iload_n 1, 1) := by decide +kernel
theorem d59_1 : decode (cm_M 59).2.2.1 1 = .ok (.invokestatic 77, 3) := by decide +kernel
theorem d59_4 : decode (cm_M 59).2.2.1 4 = .ok (.ifCond .eq 14, 3) := by decide +kernel
theorem d59_7 : decode (cm_M 59).2.2.1 7 = .ok (.iload_n 2, 1) := by decide +kernel
theorem d59_8 : decode (cm_M 59).2.2.1 8 = .ok (.iconst 0, 1) := by decide +kernel
theorem d59_9 : decode (cm_M 59).2.2.1 9 = .ok (.sipush 9999, 3) := by decide +kernel
theorem d59_12 : decode (cm_M 59).2.2.1 12 = .ok (.invokestatic 81, 3) := by decide +kernel
theorem d59_15 : decode (cm_M 59).2.2.1 15 = .ok (.ifCond .ne 5, 3) := by decide +kernel
theorem d59_18 : decode (cm_M 59).2.2.1 18 = .ok (.iconst 0, 1) := by decide +kernel
theorem d59_19 : decode (cm_M 59).2.2.1 19 = .ok (.ireturn, 1) := by decide +kernel
theorem d59_20 : decode (cm_M 59).2.2.1 20 = .ok (.aload_n 0, 1) := by decide +kernel
theorem d59_21 : decode (cm_M 59).2.2.1 21 = .ok (.getfield 45, 3) := by decide +kernel
theorem d59_24 : decode (cm_M 59).2.2.1 24 = .ok (.getfield 231, 3) := by decide +kernel
theorem d59_27 : decode (cm_M 59).2.2.1 27 = .ok (.iload_n 1, 1) := by decide +kernel
theorem d59_28 : decode (cm_M 59).2.2.1 28 = .ok (.iload_n 2, 1) := by decide +kernel
theorem d59_29 : decode (cm_M 59).2.2.1 29 = .ok (.iastore, 1) := by decide +kernel
theorem d59_30 : decode (cm_M 59).2.2.1 30 = .ok (.aload_n 0, 1) := by decide +kernel
theorem d59_31 : decode (cm_M 59).2.2.1 31 = .ok (.getfield 59, 3) := by decide +kernel
theorem d59_34 : decode (cm_M 59).2.2.1 34 = .ok (.invokevirtual 95, 3) := by decide +kernel
theorem d59_37 : decode (cm_M 59).2.2.1 37 = .ok (.iconst 1, 1) := by decide +kernel
theorem d59_38 : decode (cm_M 59).2.2.1 38 = .ok (.ireturn, 1) := by decide +kernel
theorem s59_0 {sc : cmS} {d : Nat} {h : cmH} {Q : Option Value → cmH → Prop} (x1 : Int32) (x2 : Int32) (H : cm_ci sc d 12 [.int x1] h (fun r h' => cm_wp sc (d + 1) 59 4 [some (.ref 0), some (.int x1), some (.int x2)] [.int r] h' Q)) : cm_wp sc (d + 1) 59 0 [some (.ref 0), some (.int x1), some (.int x2)] [] h Q :=
  wl_st d59_0 rfl rfl rfl rfl (wl_ci d59_1 rfl rfl rfl pm10_77 (by decide) (ca_s (Or.inl rfl) rfl (Nat.le_of_ble_eq_true rfl) (Nat.le_of_ble_eq_true rfl)) H)
theorem s59_4 {sc : cmS} {d : Nat} {h : cmH} {Q : Option Value → cmH → Prop} (x1 : Int32) (x2 : Int32) (sx0 : Int32) (H : (((sx0 = 0) → Q (some (.int (0 : Int32))) h) ∧ (¬ (sx0 = 0) → cm_ci sc d 13 [.int x2, .int (0 : Int32), .int (9999 : Int32)] h (fun r h' => cm_wp sc (d + 1) 59 15 [some (.ref 0), some (.int x1), some (.int x2)] [.int r] h' Q)))) : cm_wp sc (d + 1) 59 4 [some (.ref 0), some (.int x1), some (.int x2)] [.int sx0] h Q :=
  wl_cb (b := sx0 = 0) (off := 14) (tgt := 18) (pc3 := 7) (st' := []) d59_4 rfl rfl rfl rfl (by decide) rfl (fun c1 => wl_ic (v := 0) d59_18 rfl (wl_rz d59_19 rfl (by decide) (H.1 c1))) (fun c1 => wl_st d59_7 rfl rfl rfl rfl (wl_ic (v := 0) d59_8 rfl (wl_si (v := 9999) d59_9 rfl (wl_ci d59_12 rfl rfl rfl pm10_81 (by decide) (ca_s (Or.inl rfl) rfl (Nat.le_of_ble_eq_true rfl) (Nat.le_of_ble_eq_true rfl)) (H.2 c1)))))
theorem s59_15 {sc : cmS} {d : Nat} {h : cmH} {Q : Option Value → cmH → Prop} (L : LY h) (x1 : Int32) (x2 : Int32) (sx0 : Int32) (H : (((¬ sx0 = 0) → (IX 8 x1) ∧ cm_cv sc d 14 [.ref 21] (cm_setI h 13 x1.toNatClampNeg x2) (fun h' => cm_wp sc (d + 1) 59 37 [some (.ref 0), some (.int x1), some (.int x2)] [] h' Q)) ∧ (¬ (¬ sx0 = 0) → Q (some (.int (0 : Int32))) h))) : cm_wp sc (d + 1) 59 15 [some (.ref 0), some (.int x1), some (.int x2)] [.int sx0] h Q :=
  wl_cb (b := ¬ sx0 = 0) (off := 5) (tgt := 20) (pc3 := 18) (st' := []) d59_15 rfl rfl rfl rfl (by decide) rfl (fun c1 => wl_st d59_20 rfl rfl rfl rfl (wl_gr (b := 12) d59_21 pf10_45 (ly_k L 0 rfl) rfl (ly_r L 0 5 rfl) (wl_gr (b := 13) d59_24 pf10_231 (ly_k L 12 rfl) rfl (ly_r L 12 0 rfl) (wl_st d59_27 rfl rfl rfl rfl (wl_st d59_28 rfl rfl rfl rfl (And.elim (fun g2 g2k => wl_if (h' := (cm_setI h 13 x1.toNatClampNeg x2)) d59_29 rfl rfl rfl rfl (ly_o L 13 rfl g2) (wl_st d59_30 rfl rfl rfl rfl (wl_gr (b := 21) d59_31 pf10_59 (ly_k L 0 rfl) rfl (ly_r L 0 7 rfl) (wl_cv d59_34 rfl rfl rfl pm10_95 (by decide) (ca_v (Or.inr rfl) rfl (Nat.le_of_ble_eq_true rfl) (Nat.le_of_ble_eq_true rfl) (ly_k L 21 rfl).2 (ly_k L 21 rfl).1 (by decide)) g2k)))) (H.1 c1))))))) (fun c1 => wl_ic (v := 0) d59_18 rfl (wl_rz d59_19 rfl (by decide) (H.2 c1)))
theorem s59_37 {sc : cmS} {d : Nat} {h : cmH} {Q : Option Value → cmH → Prop} (x1 : Int32) (x2 : Int32) (H : Q (some (.int (1 : Int32))) h) : cm_wp sc d 59 37 [some (.ref 0), some (.int x1), some (.int x2)] [] h Q :=
  wl_ic (v := 1) d59_37 rfl (wl_rz d59_38 rfl (by decide) H)
-- ClogHouse.hours(I)I
theorem d60_0 : decode (cm_M 60).2.2.1 0 = .ok (.iload_n 1, 1) := by decide +kernel
theorem d60_1 : decode (cm_M 60).2.2.1 1 = .ok (.iconst 0, 1) := by decide +kernel
theorem d60_2 : decode (cm_M 60).2.2.1 2 = .ok (.sipush 200, 3) := by decide +kernel
theorem d60_5 : decode (cm_M 60).2.2.1 5 = .ok (.invokestatic 81, 3) := by decide +kernel
theorem d60_8 : decode (cm_M 60).2.2.1 8 = .ok (.ifCond .eq 15, 3) := by decide +kernel
theorem d60_11 : decode (cm_M 60).2.2.1 11 = .ok (.aload_n 0, 1) := by decide +kernel
theorem d60_12 : decode (cm_M 60).2.2.1 12 = .ok (.getfield 234, 3) := by decide +kernel
theorem d60_15 : decode (cm_M 60).2.2.1 15 = .ok (.iload_n 1, 1) := by decide +kernel
theorem d60_16 : decode (cm_M 60).2.2.1 16 = .ok (.iadd, 1) := by decide +kernel
theorem d60_17 : decode (cm_M 60).2.2.1 17 = .ok (.sipush 2000, 3) := by decide +kernel
theorem d60_20 : decode (cm_M 60).2.2.1 20 = .ok (.if_icmp .le 5, 3) := by decide +kernel
theorem d60_23 : decode (cm_M 60).2.2.1 23 = .ok (.iconst (-1), 1) := by decide +kernel
theorem d60_24 : decode (cm_M 60).2.2.1 24 = .ok (.ireturn, 1) := by decide +kernel
theorem d60_25 : decode (cm_M 60).2.2.1 25 = .ok (.iconst 0, 1) := by decide +kernel
theorem d60_26 : decode (cm_M 60).2.2.1 26 = .ok (.istore_n 2, 1) := by decide +kernel
theorem d60_27 : decode (cm_M 60).2.2.1 27 = .ok (.iload_n 2, 1) := by decide +kernel
theorem d60_28 : decode (cm_M 60).2.2.1 28 = .ok (.iload_n 1, 1) := by decide +kernel
theorem d60_29 : decode (cm_M 60).2.2.1 29 = .ok (.if_icmp .ge 111, 3) := by decide +kernel
theorem d60_32 : decode (cm_M 60).2.2.1 32 = .ok (.aload_n 0, 1) := by decide +kernel
theorem d60_33 : decode (cm_M 60).2.2.1 33 = .ok (.dup, 1) := by decide +kernel
theorem d60_34 : decode (cm_M 60).2.2.1 34 = .ok (.getfield 234, 3) := by decide +kernel
theorem d60_37 : decode (cm_M 60).2.2.1 37 = .ok (.iconst 1, 1) := by decide +kernel
theorem d60_38 : decode (cm_M 60).2.2.1 38 = .ok (.iadd, 1) := by decide +kernel
theorem d60_39 : decode (cm_M 60).2.2.1 39 = .ok (.putfield 234, 3) := by decide +kernel
theorem d60_42 : decode (cm_M 60).2.2.1 42 = .ok (.iconst 0, 1) := by decide +kernel
theorem d60_43 : decode (cm_M 60).2.2.1 43 = .ok (.istore_n 3, 1) := by decide +kernel
theorem d60_44 : decode (cm_M 60).2.2.1 44 = .ok (.iload_n 3, 1) := by decide +kernel
theorem d60_45 : decode (cm_M 60).2.2.1 45 = .ok (.aload_n 0, 1) := by decide +kernel
theorem d60_46 : decode (cm_M 60).2.2.1 46 = .ok (.getfield 98, 3) := by decide +kernel
theorem d60_49 : decode (cm_M 60).2.2.1 49 = .ok (.if_icmp .ge 14, 3) := by decide +kernel
theorem d60_52 : decode (cm_M 60).2.2.1 52 = .ok (.aload_n 0, 1) := by decide +kernel
theorem d60_53 : decode (cm_M 60).2.2.1 53 = .ok (.iload_n 3, 1) := by decide +kernel
theorem d60_54 : decode (cm_M 60).2.2.1 54 = .ok (.invokevirtual 237, 3) := by decide +kernel
theorem d60_57 : decode (cm_M 60).2.2.1 57 = .ok (.iinc 3 1, 3) := by decide +kernel
theorem d60_60 : decode (cm_M 60).2.2.1 60 = .ok (.goto (-16), 3) := by decide +kernel
theorem d60_63 : decode (cm_M 60).2.2.1 63 = .ok (.iconst 0, 1) := by decide +kernel
theorem d60_64 : decode (cm_M 60).2.2.1 64 = .ok (.istore_n 3, 1) := by decide +kernel
theorem d60_65 : decode (cm_M 60).2.2.1 65 = .ok (.iload_n 3, 1) := by decide +kernel
theorem d60_66 : decode (cm_M 60).2.2.1 66 = .ok (.aload_n 0, 1) := by decide +kernel
theorem d60_67 : decode (cm_M 60).2.2.1 67 = .ok (.getfield 98, 3) := by decide +kernel
theorem d60_70 : decode (cm_M 60).2.2.1 70 = .ok (.if_icmp .ge 14, 3) := by decide +kernel
theorem d60_73 : decode (cm_M 60).2.2.1 73 = .ok (.aload_n 0, 1) := by decide +kernel
theorem d60_74 : decode (cm_M 60).2.2.1 74 = .ok (.iload_n 3, 1) := by decide +kernel
theorem d60_75 : decode (cm_M 60).2.2.1 75 = .ok (.invokevirtual 240, 3) := by decide +kernel
theorem d60_78 : decode (cm_M 60).2.2.1 78 = .ok (.iinc 3 1, 3) := by decide +kernel
theorem d60_81 : decode (cm_M 60).2.2.1 81 = .ok (.goto (-16), 3) := by decide +kernel
theorem d60_84 : decode (cm_M 60).2.2.1 84 = .ok (.aload_n 0, 1) := by decide +kernel
theorem d60_85 : decode (cm_M 60).2.2.1 85 = .ok (.invokevirtual 243, 3) := by decide +kernel
theorem d60_88 : decode (cm_M 60).2.2.1 88 = .ok (.aload_n 0, 1) := by decide +kernel
theorem d60_89 : decode (cm_M 60).2.2.1 89 = .ok (.invokevirtual 246, 3) := by decide +kernel
theorem d60_92 : decode (cm_M 60).2.2.1 92 = .ok (.iconst 0, 1) := by decide +kernel
theorem d60_93 : decode (cm_M 60).2.2.1 93 = .ok (.istore_n 3, 1) := by decide +kernel
theorem d60_94 : decode (cm_M 60).2.2.1 94 = .ok (.iload_n 3, 1) := by decide +kernel
theorem d60_95 : decode (cm_M 60).2.2.1 95 = .ok (.aload_n 0, 1) := by decide +kernel
theorem d60_96 : decode (cm_M 60).2.2.1 96 = .ok (.getfield 98, 3) := by decide +kernel
theorem d60_99 : decode (cm_M 60).2.2.1 99 = .ok (.if_icmp .ge 14, 3) := by decide +kernel
theorem d60_102 : decode (cm_M 60).2.2.1 102 = .ok (.aload_n 0, 1) := by decide +kernel
theorem d60_103 : decode (cm_M 60).2.2.1 103 = .ok (.iload_n 3, 1) := by decide +kernel
theorem d60_104 : decode (cm_M 60).2.2.1 104 = .ok (.invokevirtual 249, 3) := by decide +kernel
theorem d60_107 : decode (cm_M 60).2.2.1 107 = .ok (.iinc 3 1, 3) := by decide +kernel
theorem d60_110 : decode (cm_M 60).2.2.1 110 = .ok (.goto (-16), 3) := by decide +kernel
theorem d60_113 : decode (cm_M 60).2.2.1 113 = .ok (.iconst 0, 1) := by decide +kernel
theorem d60_114 : decode (cm_M 60).2.2.1 114 = .ok (.istore_n 3, 1) := by decide +kernel
theorem d60_115 : decode (cm_M 60).2.2.1 115 = .ok (.iload_n 3, 1) := by decide +kernel
theorem d60_116 : decode (cm_M 60).2.2.1 116 = .ok (.aload_n 0, 1) := by decide +kernel
theorem d60_117 : decode (cm_M 60).2.2.1 117 = .ok (.getfield 98, 3) := by decide +kernel
theorem d60_120 : decode (cm_M 60).2.2.1 120 = .ok (.if_icmp .ge 14, 3) := by decide +kernel
theorem d60_123 : decode (cm_M 60).2.2.1 123 = .ok (.aload_n 0, 1) := by decide +kernel
theorem d60_124 : decode (cm_M 60).2.2.1 124 = .ok (.iload_n 3, 1) := by decide +kernel
theorem d60_125 : decode (cm_M 60).2.2.1 125 = .ok (.invokevirtual 252, 3) := by decide +kernel
theorem d60_128 : decode (cm_M 60).2.2.1 128 = .ok (.iinc 3 1, 3) := by decide +kernel
theorem d60_131 : decode (cm_M 60).2.2.1 131 = .ok (.goto (-16), 3) := by decide +kernel
theorem d60_134 : decode (cm_M 60).2.2.1 134 = .ok (.iinc 2 1, 3) := by decide +kernel
theorem d60_137 : decode (cm_M 60).2.2.1 137 = .ok (.goto (-110), 3) := by decide +kernel
theorem d60_140 : decode (cm_M 60).2.2.1 140 = .ok (.aload_n 0, 1) := by decide +kernel
theorem d60_141 : decode (cm_M 60).2.2.1 141 = .ok (.getfield 234, 3) := by decide +kernel
theorem d60_144 : decode (cm_M 60).2.2.1 144 = .ok (.ireturn, 1) := by decide +kernel
theorem s60_0 {sc : cmS} {d : Nat} {h : cmH} {Q : Option Value → cmH → Prop} (x1 : Int32) (u2 : Option Value) (u3 : Option Value) (H : cm_ci sc d 13 [.int x1, .int (0 : Int32), .int (200 : Int32)] h (fun r h' => cm_wp sc (d + 1) 60 8 [some (.ref 0), some (.int x1), u2, u3] [.int r] h' Q)) : cm_wp sc (d + 1) 60 0 [some (.ref 0), some (.int x1), u2, u3] [] h Q :=
  wl_st d60_0 rfl rfl rfl rfl (wl_ic (v := 0) d60_1 rfl (wl_si (v := 200) d60_2 rfl (wl_ci d60_5 rfl rfl rfl pm10_81 (by decide) (ca_s (Or.inl rfl) rfl (Nat.le_of_ble_eq_true rfl) (Nat.le_of_ble_eq_true rfl)) H)))
theorem s60_8 {sc : cmS} {d : Nat} {h : cmH} {Q : Option Value → cmH → Prop} (L : LY h) (x1 : Int32) (u2 : Option Value) (u3 : Option Value) (sx0 : Int32) (H : (((sx0 = 0) → Q (some (.int (-1 : Int32))) h) ∧ (¬ (sx0 = 0) → (((((cm_I h 0 12) + x1) ≤ (2000 : Int32)) → cm_wp sc d 60 27 [some (.ref 0), some (.int x1), some (.int (0 : Int32)), u3] [] h Q) ∧ (¬ (((cm_I h 0 12) + x1) ≤ (2000 : Int32)) → Q (some (.int (-1 : Int32))) h))))) : cm_wp sc d 60 8 [some (.ref 0), some (.int x1), u2, u3] [.int sx0] h Q :=
  wl_cb (b := sx0 = 0) (off := 15) (tgt := 23) (pc3 := 11) (st' := []) d60_8 rfl rfl rfl rfl (by decide) rfl (fun c1 => wl_ic (v := (-1)) d60_23 rfl (wl_rt d60_24 rfl rfl rfl (H.1 c1))) (fun c1 => wl_st d60_11 rfl rfl rfl rfl (wl_gf (v := .int (cm_I h 0 12)) d60_12 pf10_234 (ly_k L 0 rfl) rfl (wl_st d60_15 rfl rfl rfl rfl (wl_st d60_16 rfl rfl rfl rfl (wl_si (v := 2000) d60_17 rfl (wl_cb (b := ((cm_I h 0 12) + x1) ≤ (2000 : Int32)) (off := 5) (tgt := 25) (pc3 := 23) (st' := []) d60_20 rfl rfl rfl rfl (by decide) rfl (fun c2 => wl_ic (v := 0) d60_25 rfl (wl_st (ls' := [some (.ref 0), some (.int x1), some (.int (0 : Int32)), u3]) d60_26 rfl rfl rfl rfl (((H.2 c1).1 c2)))) (fun c2 => wl_ic (v := (-1)) d60_23 rfl (wl_rt d60_24 rfl rfl rfl ((H.2 c1).2 c2)))))))))
theorem s60_27 {sc : cmS} {d : Nat} {h : cmH} {Q : Option Value → cmH → Prop} (L : LY h) (x1 : Int32) (x2 : Int32) (u3 : Option Value) (H : (((x1 ≤ x2) → Q (some (.int (cm_I h 0 12))) h) ∧ (¬ (x1 ≤ x2) → cm_wp sc d 60 44 [some (.ref 0), some (.int x1), some (.int x2), some (.int (0 : Int32))] [] (cm_setI h 0 12 ((cm_I h 0 12) + (1 : Int32))) Q))) : cm_wp sc d 60 27 [some (.ref 0), some (.int x1), some (.int x2), u3] [] h Q :=
  wl_st d60_27 rfl rfl rfl rfl (wl_st d60_28 rfl rfl rfl rfl (wl_cb (b := x1 ≤ x2) (off := 111) (tgt := 140) (pc3 := 32) (st' := []) d60_29 rfl rfl rfl rfl (by decide) rfl (fun c1 => wl_st d60_140 rfl rfl rfl rfl (wl_gf (v := .int (cm_I h 0 12)) d60_141 pf10_234 (ly_k L 0 rfl) rfl (wl_rt d60_144 rfl rfl rfl (H.1 c1)))) (fun c1 => wl_st d60_32 rfl rfl rfl rfl (wl_st d60_33 rfl rfl rfl rfl (wl_gf (v := .int (cm_I h 0 12)) d60_34 pf10_234 (ly_k L 0 rfl) rfl (wl_ic (v := 1) d60_37 rfl (wl_st d60_38 rfl rfl rfl rfl (wl_pf (h' := (cm_setI h 0 12 ((cm_I h 0 12) + (1 : Int32)))) d60_39 pf10_234 (ly_k L 0 rfl) (Or.inl rfl) rfl (wl_ic (v := 0) d60_42 rfl (wl_st (ls' := [some (.ref 0), some (.int x1), some (.int x2), some (.int (0 : Int32))]) d60_43 rfl rfl rfl rfl ((H.2 c1))))))))))))
theorem s60_44 {sc : cmS} {d : Nat} {h : cmH} {Q : Option Value → cmH → Prop} (L : LY h) (x1 : Int32) (x2 : Int32) (x3 : Int32) (H : ((((cm_I h 0 10) ≤ x3) → cm_wp sc (d + 1) 60 65 [some (.ref 0), some (.int x1), some (.int x2), some (.int (0 : Int32))] [] h Q) ∧ (¬ ((cm_I h 0 10) ≤ x3) → cm_cv sc d 61 [.ref 0, .int x3] h (fun h' => cm_wp sc (d + 1) 60 57 [some (.ref 0), some (.int x1), some (.int x2), some (.int x3)] [] h' Q)))) : cm_wp sc (d + 1) 60 44 [some (.ref 0), some (.int x1), some (.int x2), some (.int x3)] [] h Q :=
  wl_st d60_44 rfl rfl rfl rfl (wl_st d60_45 rfl rfl rfl rfl (wl_gf (v := .int (cm_I h 0 10)) d60_46 pf10_98 (ly_k L 0 rfl) rfl (wl_cb (b := (cm_I h 0 10) ≤ x3) (off := 14) (tgt := 63) (pc3 := 52) (st' := []) d60_49 rfl rfl rfl rfl (by decide) rfl (fun c1 => wl_ic (v := 0) d60_63 rfl (wl_st (ls' := [some (.ref 0), some (.int x1), some (.int x2), some (.int (0 : Int32))]) d60_64 rfl rfl rfl rfl ((H.1 c1)))) (fun c1 => wl_st d60_52 rfl rfl rfl rfl (wl_st d60_53 rfl rfl rfl rfl (wl_cv d60_54 rfl rfl rfl pm10_237 (by decide) (ca_v (Or.inl rfl) rfl (Nat.le_of_ble_eq_true rfl) (Nat.le_of_ble_eq_true rfl) (ly_k L 0 rfl).2 (ly_k L 0 rfl).1 (by decide)) (H.2 c1)))))))
theorem s60_57 {sc : cmS} {d : Nat} {h : cmH} {Q : Option Value → cmH → Prop} (x1 : Int32) (x2 : Int32) (x3 : Int32) (H : cm_wp sc d 60 44 [some (.ref 0), some (.int x1), some (.int x2), some (.int (x3 + 1))] [] h Q) : cm_wp sc d 60 57 [some (.ref 0), some (.int x1), some (.int x2), some (.int x3)] [] h Q :=
  wl_st (ls' := [some (.ref 0), some (.int x1), some (.int x2), some (.int (x3 + 1))]) d60_57 rfl rfl rfl rfl (wl_go (tgt := 44) d60_60 (by decide) (H))
theorem s60_65 {sc : cmS} {d : Nat} {h : cmH} {Q : Option Value → cmH → Prop} (L : LY h) (x1 : Int32) (x2 : Int32) (x3 : Int32) (H : ((((cm_I h 0 10) ≤ x3) → cm_cv sc d 75 [.ref 0] h (fun h' => cm_wp sc (d + 1) 60 88 [some (.ref 0), some (.int x1), some (.int x2), some (.int x3)] [] h' Q)) ∧ (¬ ((cm_I h 0 10) ≤ x3) → cm_cv sc d 71 [.ref 0, .int x3] h (fun h' => cm_wp sc (d + 1) 60 78 [some (.ref 0), some (.int x1), some (.int x2), some (.int x3)] [] h' Q)))) : cm_wp sc (d + 1) 60 65 [some (.ref 0), some (.int x1), some (.int x2), some (.int x3)] [] h Q :=
  wl_st d60_65 rfl rfl rfl rfl (wl_st d60_66 rfl rfl rfl rfl (wl_gf (v := .int (cm_I h 0 10)) d60_67 pf10_98 (ly_k L 0 rfl) rfl (wl_cb (b := (cm_I h 0 10) ≤ x3) (off := 14) (tgt := 84) (pc3 := 73) (st' := []) d60_70 rfl rfl rfl rfl (by decide) rfl (fun c1 => wl_st d60_84 rfl rfl rfl rfl (wl_cv d60_85 rfl rfl rfl pm10_243 (by decide) (ca_v (Or.inl rfl) rfl (Nat.le_of_ble_eq_true rfl) (Nat.le_of_ble_eq_true rfl) (ly_k L 0 rfl).2 (ly_k L 0 rfl).1 (by decide)) (H.1 c1))) (fun c1 => wl_st d60_73 rfl rfl rfl rfl (wl_st d60_74 rfl rfl rfl rfl (wl_cv d60_75 rfl rfl rfl pm10_240 (by decide) (ca_v (Or.inl rfl) rfl (Nat.le_of_ble_eq_true rfl) (Nat.le_of_ble_eq_true rfl) (ly_k L 0 rfl).2 (ly_k L 0 rfl).1 (by decide)) (H.2 c1)))))))
theorem s60_78 {sc : cmS} {d : Nat} {h : cmH} {Q : Option Value → cmH → Prop} (x1 : Int32) (x2 : Int32) (x3 : Int32) (H : cm_wp sc d 60 65 [some (.ref 0), some (.int x1), some (.int x2), some (.int (x3 + 1))] [] h Q) : cm_wp sc d 60 78 [some (.ref 0), some (.int x1), some (.int x2), some (.int x3)] [] h Q :=
  wl_st (ls' := [some (.ref 0), some (.int x1), some (.int x2), some (.int (x3 + 1))]) d60_78 rfl rfl rfl rfl (wl_go (tgt := 65) d60_81 (by decide) (H))
theorem s60_88 {sc : cmS} {d : Nat} {h : cmH} {Q : Option Value → cmH → Prop} (L : LY h) (x1 : Int32) (x2 : Int32) (x3 : Int32) (H : cm_cv sc d 77 [.ref 0] h (fun h' => cm_wp sc (d + 1) 60 92 [some (.ref 0), some (.int x1), some (.int x2), some (.int x3)] [] h' Q)) : cm_wp sc (d + 1) 60 88 [some (.ref 0), some (.int x1), some (.int x2), some (.int x3)] [] h Q :=
  wl_st d60_88 rfl rfl rfl rfl (wl_cv d60_89 rfl rfl rfl pm10_246 (by decide) (ca_v (Or.inl rfl) rfl (Nat.le_of_ble_eq_true rfl) (Nat.le_of_ble_eq_true rfl) (ly_k L 0 rfl).2 (ly_k L 0 rfl).1 (by decide)) H)
theorem s60_92 {sc : cmS} {d : Nat} {h : cmH} {Q : Option Value → cmH → Prop} (x1 : Int32) (x2 : Int32) (x3 : Int32) (H : cm_wp sc d 60 94 [some (.ref 0), some (.int x1), some (.int x2), some (.int (0 : Int32))] [] h Q) : cm_wp sc d 60 92 [some (.ref 0), some (.int x1), some (.int x2), some (.int x3)] [] h Q :=
  wl_ic (v := 0) d60_92 rfl (wl_st (ls' := [some (.ref 0), some (.int x1), some (.int x2), some (.int (0 : Int32))]) d60_93 rfl rfl rfl rfl (H))
theorem s60_94 {sc : cmS} {d : Nat} {h : cmH} {Q : Option Value → cmH → Prop} (L : LY h) (x1 : Int32) (x2 : Int32) (x3 : Int32) (H : ((((cm_I h 0 10) ≤ x3) → cm_wp sc (d + 1) 60 115 [some (.ref 0), some (.int x1), some (.int x2), some (.int (0 : Int32))] [] h Q) ∧ (¬ ((cm_I h 0 10) ≤ x3) → cm_cv sc d 83 [.ref 0, .int x3] h (fun h' => cm_wp sc (d + 1) 60 107 [some (.ref 0), some (.int x1), some (.int x2), some (.int x3)] [] h' Q)))) : cm_wp sc (d + 1) 60 94 [some (.ref 0), some (.int x1), some (.int x2), some (.int x3)] [] h Q :=
  wl_st d60_94 rfl rfl rfl rfl (wl_st d60_95 rfl rfl rfl rfl (wl_gf (v := .int (cm_I h 0 10)) d60_96 pf10_98 (ly_k L 0 rfl) rfl (wl_cb (b := (cm_I h 0 10) ≤ x3) (off := 14) (tgt := 113) (pc3 := 102) (st' := []) d60_99 rfl rfl rfl rfl (by decide) rfl (fun c1 => wl_ic (v := 0) d60_113 rfl (wl_st (ls' := [some (.ref 0), some (.int x1), some (.int x2), some (.int (0 : Int32))]) d60_114 rfl rfl rfl rfl ((H.1 c1)))) (fun c1 => wl_st d60_102 rfl rfl rfl rfl (wl_st d60_103 rfl rfl rfl rfl (wl_cv d60_104 rfl rfl rfl pm10_249 (by decide) (ca_v (Or.inl rfl) rfl (Nat.le_of_ble_eq_true rfl) (Nat.le_of_ble_eq_true rfl) (ly_k L 0 rfl).2 (ly_k L 0 rfl).1 (by decide)) (H.2 c1)))))))
theorem s60_107 {sc : cmS} {d : Nat} {h : cmH} {Q : Option Value → cmH → Prop} (x1 : Int32) (x2 : Int32) (x3 : Int32) (H : cm_wp sc d 60 94 [some (.ref 0), some (.int x1), some (.int x2), some (.int (x3 + 1))] [] h Q) : cm_wp sc d 60 107 [some (.ref 0), some (.int x1), some (.int x2), some (.int x3)] [] h Q :=
  wl_st (ls' := [some (.ref 0), some (.int x1), some (.int x2), some (.int (x3 + 1))]) d60_107 rfl rfl rfl rfl (wl_go (tgt := 94) d60_110 (by decide) (H))
theorem s60_115 {sc : cmS} {d : Nat} {h : cmH} {Q : Option Value → cmH → Prop} (L : LY h) (x1 : Int32) (x2 : Int32) (x3 : Int32) (H : ((((cm_I h 0 10) ≤ x3) → cm_wp sc (d + 1) 60 27 [some (.ref 0), some (.int x1), some (.int (x2 + 1)), some (.int x3)] [] h Q) ∧ (¬ ((cm_I h 0 10) ≤ x3) → cm_cv sc d 89 [.ref 0, .int x3] h (fun h' => cm_wp sc (d + 1) 60 128 [some (.ref 0), some (.int x1), some (.int x2), some (.int x3)] [] h' Q)))) : cm_wp sc (d + 1) 60 115 [some (.ref 0), some (.int x1), some (.int x2), some (.int x3)] [] h Q :=
  wl_st d60_115 rfl rfl rfl rfl (wl_st d60_116 rfl rfl rfl rfl (wl_gf (v := .int (cm_I h 0 10)) d60_117 pf10_98 (ly_k L 0 rfl) rfl (wl_cb (b := (cm_I h 0 10) ≤ x3) (off := 14) (tgt := 134) (pc3 := 123) (st' := []) d60_120 rfl rfl rfl rfl (by decide) rfl (fun c1 => wl_st (ls' := [some (.ref 0), some (.int x1), some (.int (x2 + 1)), some (.int x3)]) d60_134 rfl rfl rfl rfl (wl_go (tgt := 27) d60_137 (by decide) ((H.1 c1)))) (fun c1 => wl_st d60_123 rfl rfl rfl rfl (wl_st d60_124 rfl rfl rfl rfl (wl_cv d60_125 rfl rfl rfl pm10_252 (by decide) (ca_v (Or.inl rfl) rfl (Nat.le_of_ble_eq_true rfl) (Nat.le_of_ble_eq_true rfl) (ly_k L 0 rfl).2 (ly_k L 0 rfl).1 (by decide)) (H.2 c1)))))))
theorem s60_128 {sc : cmS} {d : Nat} {h : cmH} {Q : Option Value → cmH → Prop} (x1 : Int32) (x2 : Int32) (x3 : Int32) (H : cm_wp sc d 60 115 [some (.ref 0), some (.int x1), some (.int x2), some (.int (x3 + 1))] [] h Q) : cm_wp sc d 60 128 [some (.ref 0), some (.int x1), some (.int x2), some (.int x3)] [] h Q :=
  wl_st (ls' := [some (.ref 0), some (.int x1), some (.int x2), some (.int (x3 + 1))]) d60_128 rfl rfl rfl rfl (wl_go (tgt := 115) d60_131 (by decide) (H))
-- ClogHouse.decide(I)V
theorem d61_0 : decode (cm_M 61).2.2.1 0 = .ok (.aload_n 0, 1) := by decide +kernel
theorem d61_1 : decode (cm_M 61).2.2.1 1 = .ok (.iload_n 1, 1) := by decide +kernel
theorem d61_2 : decode (cm_M 61).2.2.1 2 = .ok (.invokevirtual 103, 3) := by decide +kernel
theorem d61_5 : decode (cm_M 61).2.2.1 5 = .ok (.astore_n 2, 1) := by decide +kernel
theorem d61_6 : decode (cm_M 61).2.2.1 6 = .ok (.aload_n 2, 1) := by decide +kernel
theorem d61_7 : decode (cm_M 61).2.2.1 7 = .ok (.ifnull 27, 3) := by decide +kernel
theorem d61_10 : decode (cm_M 61).2.2.1 10 = .ok (.aload_n 2, 1) := by decide +kernel
theorem d61_11 : decode (cm_M 61).2.2.1 11 = .ok (.getfield 115, 3) := by decide +kernel
theorem d61_14 : decode (cm_M 61).2.2.1 14 = .ok (.iconst 1, 1) := by decide +kernel
theorem d61_15 : decode (cm_M 61).2.2.1 15 = .ok (.if_icmp .lt 19, 3) := by decide +kernel
theorem d61_18 : decode (cm_M 61).2.2.1 18 = .ok (.aload_n 2, 1) := by decide +kernel
theorem d61_19 : decode (cm_M 61).2.2.1 19 = .ok (.getfield 155, 3) := by decide +kernel
theorem d61_22 : decode (cm_M 61).2.2.1 22 = .ok (.iconst 4, 1) := by decide +kernel
theorem d61_23 : decode (cm_M 61).2.2.1 23 = .ok (.if_icmp .eq 11, 3) := by decide +kernel
theorem d61_26 : decode (cm_M 61).2.2.1 26 = .ok (.aload_n 2, 1) := by decide +kernel
theorem d61_27 : decode (cm_M 61).2.2.1 27 = .ok (.getfield 155, 3) := by decide +kernel
theorem d61_30 : decode (cm_M 61).2.2.1 30 = .ok (.iconst 5, 1) := by decide +kernel
theorem d61_31 : decode (cm_M 61).2.2.1 31 = .ok (.if_icmp .ne 4, 3) := by decide +kernel
theorem d61_34 : decode (cm_M 61).2.2.1 34 = .ok (.return_, 1) := by decide +kernel
theorem d61_35 : decode (cm_M 61).2.2.1 35 = .ok (.aload_n 2, 1) := by decide +kernel
theorem d61_36 : decode (cm_M 61).2.2.1 36 = .ok (.iconst 1, 1) := by decide +kernel
theorem d61_37 : decode (cm_M 61).2.2.1 37 = .ok (.putfield 155, 3) := by decide +kernel
theorem d61_40 : decode (cm_M 61).2.2.1 40 = .ok (.aload_n 0, 1) := by decide +kernel
theorem d61_41 : decode (cm_M 61).2.2.1 41 = .ok (.aload_n 2, 1) := by decide +kernel
theorem d61_42 : decode (cm_M 61).2.2.1 42 = .ok (.getfield 203, 3) := by decide +kernel
theorem d61_45 : decode (cm_M 61).2.2.1 45 = .ok (.invokevirtual 206, 3) := by decide +kernel
theorem d61_48 : decode (cm_M 61).2.2.1 48 = .ok (.astore_n 3, 1) := by decide +kernel
theorem d61_49 : decode (cm_M 61).2.2.1 49 = .ok (.aload_n 3, 1) := by decide +kernel
theorem d61_50 : decode (cm_M 61).2.2.1 50 = .ok (.ifnonnull 4, 3) := by decide +kernel
theorem d61_53 : decode (cm_M 61).2.2.1 53 = .ok (.return_, 1) := by decide +kernel
theorem d61_54 : decode (cm_M 61).2.2.1 54 = .ok (.aload_n 2, 1) := by decide +kernel
theorem d61_55 : decode (cm_M 61).2.2.1 55 = .ok (.aload_n 0, 1) := by decide +kernel
theorem d61_56 : decode (cm_M 61).2.2.1 56 = .ok (.getfield 38, 3) := by decide +kernel
theorem d61_59 : decode (cm_M 61).2.2.1 59 = .ok (.iload_n 1, 1) := by decide +kernel
theorem d61_60 : decode (cm_M 61).2.2.1 60 = .ok (.invokevirtual 367, 3) := by decide +kernel
theorem d61_63 : decode (cm_M 61).2.2.1 63 = .ok (.aload_n 0, 1) := by decide +kernel
theorem d61_64 : decode (cm_M 61).2.2.1 64 = .ok (.getfield 38, 3) := by decide +kernel
theorem d61_67 : decode (cm_M 61).2.2.1 67 = .ok (.bipush 99, 2) := by decide +kernel
theorem d61_69 : decode (cm_M 61).2.2.1 69 = .ok (.aload_n 3, 1) := by decide +kernel
theorem d61_70 : decode (cm_M 61).2.2.1 70 = .ok (.invokevirtual 224, 3) := by decide +kernel
theorem d61_73 : decode (cm_M 61).2.2.1 73 = .ok (.ifCond .eq 14, 3) := by decide +kernel
theorem d61_76 : decode (cm_M 61).2.2.1 76 = .ok (.aload_n 2, 1) := by decide +kernel
theorem d61_77 : decode (cm_M 61).2.2.1 77 = .ok (.aload_n 0, 1) := by decide +kernel
theorem d61_78 : decode (cm_M 61).2.2.1 78 = .ok (.getfield 52, 3) := by decide +kernel
theorem d61_81 : decode (cm_M 61).2.2.1 81 = .ok (.invokevirtual 255, 3) := by decide +kernel
theorem d61_84 : decode (cm_M 61).2.2.1 84 = .ok (.goto 57, 3) := by decide +kernel
theorem d61_87 : decode (cm_M 61).2.2.1 87 = .ok (.aload_n 0, 1) := by decide +kernel
theorem d61_88 : decode (cm_M 61).2.2.1 88 = .ok (.getfield 38, 3) := by decide +kernel
theorem d61_91 : decode (cm_M 61).2.2.1 91 = .ok (.bipush 119, 2) := by decide +kernel
theorem d61_93 : decode (cm_M 61).2.2.1 93 = .ok (.aload_n 3, 1) := by decide +kernel
theorem d61_94 : decode (cm_M 61).2.2.1 94 = .ok (.invokevirtual 224, 3) := by decide +kernel
theorem d61_97 : decode (cm_M 61).2.2.1 97 = .ok (.ifCond .eq 26, 3) := by decide +kernel
theorem d61_100 : decode (cm_M 61).2.2.1 100 = .ok (.aload_n 2, 1) := by decide +kernel
theorem d61_101 : decode (cm_M 61).2.2.1 101 = .ok (.aload_n 2, 1) := by decide +kernel
theorem d61_102 : decode (cm_M 61).2.2.1 102 = .ok (.getfield 161, 3) := by decide +kernel
theorem d61_105 : decode (cm_M 61).2.2.1 105 = .ok (.aload_n 2, 1) := by decide +kernel
theorem d61_106 : decode (cm_M 61).2.2.1 106 = .ok (.getfield 124, 3) := by decide +kernel
theorem d61_109 : decode (cm_M 61).2.2.1 109 = .ok (.if_icmp .ge 7, 3) := by decide +kernel
theorem d61_112 : decode (cm_M 61).2.2.1 112 = .ok (.iconst 2, 1) := by decide +kernel
theorem d61_113 : decode (cm_M 61).2.2.1 113 = .ok (.goto 4, 3) := by decide +kernel
theorem d61_116 : decode (cm_M 61).2.2.1 116 = .ok (.iconst 5, 1) := by decide +kernel
theorem d61_117 : decode (cm_M 61).2.2.1 117 = .ok (.putfield 155, 3) := by decide +kernel
theorem d61_120 : decode (cm_M 61).2.2.1 120 = .ok (.goto 21, 3) := by decide +kernel
theorem d61_123 : decode (cm_M 61).2.2.1 123 = .ok (.aload_n 0, 1) := by decide +kernel
theorem d61_124 : decode (cm_M 61).2.2.1 124 = .ok (.getfield 38, 3) := by decide +kernel
theorem d61_127 : decode (cm_M 61).2.2.1 127 = .ok (.bipush 114, 2) := by decide +kernel
theorem d61_129 : decode (cm_M 61).2.2.1 129 = .ok (.aload_n 3, 1) := by decide +kernel
theorem d61_130 : decode (cm_M 61).2.2.1 130 = .ok (.invokevirtual 224, 3) := by decide +kernel
theorem d61_133 : decode (cm_M 61).2.2.1 133 = .ok (.ifCond .eq 8, 3) := by decide +kernel
theorem d61_136 : decode (cm_M 61).2.2.1 136 = .ok (.aload_n 2, 1) := by decide +kernel
theorem d61_137 : decode (cm_M 61).2.2.1 137 = .ok (.iconst 3, 1) := by decide +kernel
theorem d61_138 : decode (cm_M 61).2.2.1 138 = .ok (.putfield 155, 3) := by decide +kernel
theorem d61_141 : decode (cm_M 61).2.2.1 141 = .ok (.return_, 1) := by decide +kernel
theorem s61_0 {sc : cmS} {d : Nat} {h : cmH} {Q : Option Value → cmH → Prop} (L : LY h) (x1 : Int32) (u2 : Option Value) (u3 : Option Value) (H : cm_cq sc d 17 [.ref 0, .int x1] h (fun r h' => cm_wp sc (d + 1) 61 5 [some (.ref 0), some (.int x1), u2, u3] [va_rf r] h' Q)) : cm_wp sc (d + 1) 61 0 [some (.ref 0), some (.int x1), u2, u3] [] h Q :=
  wl_st d61_0 rfl rfl rfl rfl (wl_st d61_1 rfl rfl rfl rfl (wl_cq d61_2 rfl rfl rfl pm10_103 (by decide) (ca_v (Or.inl rfl) rfl (Nat.le_of_ble_eq_true rfl) (Nat.le_of_ble_eq_true rfl) (ly_k L 0 rfl).2 (ly_k L 0 rfl).1 (by decide)) H))
theorem s61_5 {sc : cmS} {d : Nat} {h : cmH} {Q : Option Value → cmH → Prop} (L : LY h) (x1 : Int32) (u2 : Option Value) (u3 : Option Value) (so0 : Option Nat) (H : ((so0 = none → Q none h) ∧ (∀ b2, so0 = some b2 → (FL h b2) ∧ ((((cm_I h b2 3) < (1 : Int32)) → Q none h) ∧ (¬ ((cm_I h b2 3) < (1 : Int32)) → ((((cm_I h b2 8) = (4 : Int32)) → Q none h) ∧ (¬ ((cm_I h b2 8) = (4 : Int32)) → (((¬ (cm_I h b2 8) = (5 : Int32)) → cm_cq sc d 62 [.ref 0, .int (cm_I (cm_setI h b2 8 (1 : Int32)) b2 7)] (cm_setI h b2 8 (1 : Int32)) (fun r h' => cm_wp sc (d + 1) 61 48 [some (.ref 0), some (.int x1), some (.ref b2), u3] [va_rf r] h' Q)) ∧ (¬ (¬ (cm_I h b2 8) = (5 : Int32)) → Q none h))))))))) : cm_wp sc (d + 1) 61 5 [some (.ref 0), some (.int x1), u2, u3] [va_rf so0] h Q :=
  wl_as (k := 2) (ls' := [some (.ref 0), some (.int x1), some (va_rf so0), u3]) d61_5 (Or.inr ⟨⟨_, rfl, rfl⟩, rfl⟩) (Nat.le_of_ble_eq_true rfl) rfl (wl_al (k := 2) d61_6 (Or.inr ⟨⟨_, rfl, rfl⟩, rfl⟩) rfl (wl_nu (o := so0) (tgt := 34) (pc3 := 10) d61_7 (by decide) rfl (fun c1 => wl_rt d61_34 rfl rfl rfl (H.1 c1)) (fun b2 c1 => cm_rw (fun oo => cm_wp sc (d + 1) 61 10 [some (.ref 0), some (.int x1), some (va_rf oo), u3] [] h Q) c1 (wl_st d61_10 rfl rfl rfl rfl (And.elim (fun g3 g3k => wl_gf (v := .int (cm_I h b2 3)) d61_11 pf10_115 (FL.k g3) rfl (wl_ic (v := 1) d61_14 rfl (wl_cb (b := (cm_I h b2 3) < (1 : Int32)) (off := 19) (tgt := 34) (pc3 := 18) (st' := []) d61_15 rfl rfl rfl rfl (by decide) rfl (fun c4 => wl_rt d61_34 rfl rfl rfl (g3k.1 c4)) (fun c4 => wl_st d61_18 rfl rfl rfl rfl (wl_gf (v := .int (cm_I h b2 8)) d61_19 pf10_155 (FL.k g3) rfl (wl_ic (v := 4) d61_22 rfl (wl_cb (b := (cm_I h b2 8) = (4 : Int32)) (off := 11) (tgt := 34) (pc3 := 26) (st' := []) d61_23 rfl rfl rfl rfl (by decide) rfl (fun c5 => wl_rt d61_34 rfl rfl rfl ((g3k.2 c4).1 c5)) (fun c5 => wl_st d61_26 rfl rfl rfl rfl (wl_gf (v := .int (cm_I h b2 8)) d61_27 pf10_155 (FL.k g3) rfl (wl_ic (v := 5) d61_30 rfl (wl_cb (b := ¬ (cm_I h b2 8) = (5 : Int32)) (off := 4) (tgt := 35) (pc3 := 34) (st' := []) d61_31 rfl rfl rfl rfl (by decide) rfl (fun c6 => wl_st d61_35 rfl rfl rfl rfl (wl_ic (v := 1) d61_36 rfl (wl_pf (h' := (cm_setI h b2 8 (1 : Int32))) d61_37 pf10_155 (FL.k g3) (Or.inl rfl) rfl (wl_st d61_40 rfl rfl rfl rfl (wl_st d61_41 rfl rfl rfl rfl (wl_gf (v := .int (cm_I (cm_setI h b2 8 (1 : Int32)) b2 7)) d61_42 pf10_203 (FL.k g3) rfl (wl_cq d61_45 rfl rfl rfl pm10_206 (by decide) (ca_v (Or.inl rfl) rfl (Nat.le_of_ble_eq_true rfl) (Nat.le_of_ble_eq_true rfl) (ly_k L 0 rfl).2 (ly_k L 0 rfl).1 (by decide)) (((g3k.2 c4).2 c5).1 c6)))))))) (fun c6 => wl_rt d61_34 rfl rfl rfl (((g3k.2 c4).2 c5).2 c6))))))))))))) (H.2 b2 c1))))))
theorem s61_48 {sc : cmS} {d : Nat} {h : cmH} {Q : Option Value → cmH → Prop} (L : LY h) (x1 : Int32) (o2 : Option Nat) (u3 : Option Value) (so0 : Option Nat) (H : ((so0 = none → Q none h) ∧ (∀ b2, so0 = some b2 → ∃ b3, o2 = some b3 ∧ (FL h b3) ∧ cm_cv sc d 63 [.ref b3, .ref 9, .int x1] h (fun h' => cm_wp sc (d + 1) 61 63 [some (.ref 0), some (.int x1), some (.ref b3), some (.ref b2)] [] h' Q)))) : cm_wp sc (d + 1) 61 48 [some (.ref 0), some (.int x1), some (va_rf o2), u3] [va_rf so0] h Q :=
  wl_as (k := 3) (ls' := [some (.ref 0), some (.int x1), some (va_rf o2), some (va_rf so0)]) d61_48 (Or.inr ⟨⟨_, rfl, rfl⟩, rfl⟩) (Nat.le_of_ble_eq_true rfl) (by simp [cm_ls1, cm_ls2, cm_clr, cm_isJq]) (wl_al (k := 3) d61_49 (Or.inr ⟨⟨_, rfl, rfl⟩, rfl⟩) rfl (wl_nn (o := so0) (tgt := 54) (pc3 := 53) d61_50 (by decide) rfl (fun b2 c1 => cm_rw (fun oo => cm_wp sc (d + 1) 61 54 [some (.ref 0), some (.int x1), some (va_rf o2), some (va_rf oo)] [] h Q) c1 (Exists.elim (H.2 b2 c1) fun b3 b3q => And.elim (fun b3e b3k => cm_rw (fun oo => cm_wp sc (d + 1) 61 54 [some (.ref 0), some (.int x1), some (va_rf oo), some (.ref b2)] [] h Q) b3e (wl_st d61_54 rfl rfl rfl rfl (wl_st d61_55 rfl rfl rfl rfl (wl_gr (b := 9) d61_56 pf10_38 (ly_k L 0 rfl) rfl (ly_r L 0 4 rfl) (wl_st d61_59 rfl rfl rfl rfl (And.elim (fun g4 g4k => wl_cv d61_60 rfl rfl rfl pm10_367 (by decide) (ca_v (Or.inr rfl) rfl (Nat.le_of_ble_eq_true rfl) (Nat.le_of_ble_eq_true rfl) (FL.k g4).2 (FL.k g4).1 (by decide)) g4k) b3k)))))) b3q)) (fun c1 => wl_rt d61_53 rfl rfl rfl (H.1 c1))))
theorem s61_63 {sc : cmS} {d : Nat} {h : cmH} {Q : Option Value → cmH → Prop} (L : LY h) (x1 : Int32) (o2 : Option Nat) (o3 : Option Nat) (H : ∃ b1, o3 = some b1 ∧ cm_ci sc d 65 [.ref 9, .int (99 : Int32), .ref b1] h (fun r h' => cm_wp sc (d + 1) 61 73 [some (.ref 0), some (.int x1), some (va_rf o2), some (.ref b1)] [.int r] h' Q)) : cm_wp sc (d + 1) 61 63 [some (.ref 0), some (.int x1), some (va_rf o2), some (va_rf o3)] [] h Q :=
  wl_st d61_63 rfl rfl rfl rfl (wl_gr (b := 9) d61_64 pf10_38 (ly_k L 0 rfl) rfl (ly_r L 0 4 rfl) (wl_bi (v := 99) d61_67 rfl (Exists.elim H fun b1 b1q => And.elim (fun b1e b1k => cm_rw (fun oo => cm_wp sc (d + 1) 61 69 [some (.ref 0), some (.int x1), some (va_rf o2), some (va_rf oo)] [.int (99 : Int32), .ref 9] h Q) b1e (wl_st d61_69 rfl rfl rfl rfl (wl_ci d61_70 rfl rfl rfl pm10_224 (by decide) (ca_v (Or.inr rfl) rfl (Nat.le_of_ble_eq_true rfl) (Nat.le_of_ble_eq_true rfl) (ly_k L 9 rfl).2 (ly_k L 9 rfl).1 (by decide)) b1k))) b1q)))
theorem s61_73 {sc : cmS} {d : Nat} {h : cmH} {Q : Option Value → cmH → Prop} (L : LY h) (x1 : Int32) (o2 : Option Nat) (o3 : Option Nat) (sx0 : Int32) (H : (((sx0 = 0) → ∃ b2, o3 = some b2 ∧ cm_ci sc d 65 [.ref 9, .int (119 : Int32), .ref b2] h (fun r h' => cm_wp sc (d + 1) 61 97 [some (.ref 0), some (.int x1), some (va_rf o2), some (.ref b2)] [.int r] h' Q)) ∧ (¬ (sx0 = 0) → ∃ b3, o2 = some b3 ∧ (FL h b3) ∧ cm_cv sc d 66 [.ref b3, .ref 14] h (fun h' => cm_wp sc (d + 1) 61 84 [some (.ref 0), some (.int x1), some (.ref b3), some (va_rf o3)] [] h' Q)))) : cm_wp sc (d + 1) 61 73 [some (.ref 0), some (.int x1), some (va_rf o2), some (va_rf o3)] [.int sx0] h Q :=
  wl_cb (b := sx0 = 0) (off := 14) (tgt := 87) (pc3 := 76) (st' := []) d61_73 rfl rfl rfl rfl (by decide) rfl (fun c1 => wl_st d61_87 rfl rfl rfl rfl (wl_gr (b := 9) d61_88 pf10_38 (ly_k L 0 rfl) rfl (ly_r L 0 4 rfl) (wl_bi (v := 119) d61_91 rfl (Exists.elim (H.1 c1) fun b2 b2q => And.elim (fun b2e b2k => cm_rw (fun oo => cm_wp sc (d + 1) 61 93 [some (.ref 0), some (.int x1), some (va_rf o2), some (va_rf oo)] [.int (119 : Int32), .ref 9] h Q) b2e (wl_st d61_93 rfl rfl rfl rfl (wl_ci d61_94 rfl rfl rfl pm10_224 (by decide) (ca_v (Or.inr rfl) rfl (Nat.le_of_ble_eq_true rfl) (Nat.le_of_ble_eq_true rfl) (ly_k L 9 rfl).2 (ly_k L 9 rfl).1 (by decide)) b2k))) b2q)))) (fun c1 => Exists.elim (H.2 c1) fun b3 b3q => And.elim (fun b3e b3k => cm_rw (fun oo => cm_wp sc (d + 1) 61 76 [some (.ref 0), some (.int x1), some (va_rf oo), some (va_rf o3)] [] h Q) b3e (wl_st d61_76 rfl rfl rfl rfl (wl_st d61_77 rfl rfl rfl rfl (wl_gr (b := 14) d61_78 pf10_52 (ly_k L 0 rfl) rfl (ly_r L 0 6 rfl) (And.elim (fun g4 g4k => wl_cv d61_81 rfl rfl rfl pm10_255 (by decide) (ca_v (Or.inr rfl) rfl (Nat.le_of_ble_eq_true rfl) (Nat.le_of_ble_eq_true rfl) (FL.k g4).2 (FL.k g4).1 (by decide)) g4k) b3k))))) b3q)
theorem s61_84 {sc : cmS} {d : Nat} {h : cmH} {Q : Option Value → cmH → Prop} (x1 : Int32) (o2 : Option Nat) (o3 : Option Nat) (H : Q none h) : cm_wp sc d 61 84 [some (.ref 0), some (.int x1), some (va_rf o2), some (va_rf o3)] [] h Q :=
  wl_go (tgt := 141) d61_84 (by decide) (wl_rt d61_141 rfl rfl rfl H)
theorem s61_97 {sc : cmS} {d : Nat} {h : cmH} {Q : Option Value → cmH → Prop} (L : LY h) (x1 : Int32) (o2 : Option Nat) (o3 : Option Nat) (sx0 : Int32) (H : (((sx0 = 0) → ∃ b2, o3 = some b2 ∧ cm_ci sc d 65 [.ref 9, .int (114 : Int32), .ref b2] h (fun r h' => cm_wp sc (d + 1) 61 133 [some (.ref 0), some (.int x1), some (va_rf o2), some (.ref b2)] [.int r] h' Q)) ∧ (¬ (sx0 = 0) → ∃ b3, o2 = some b3 ∧ (FL h b3) ∧ ((((cm_I h b3 6) ≤ (cm_I h b3 10)) → cm_wp sc (d + 1) 61 117 [some (.ref 0), some (.int x1), some (.ref b3), some (va_rf o3)] [.int (5 : Int32), .ref b3] h Q) ∧ (¬ ((cm_I h b3 6) ≤ (cm_I h b3 10)) → cm_wp sc (d + 1) 61 117 [some (.ref 0), some (.int x1), some (.ref b3), some (va_rf o3)] [.int (2 : Int32), .ref b3] h Q))))) : cm_wp sc (d + 1) 61 97 [some (.ref 0), some (.int x1), some (va_rf o2), some (va_rf o3)] [.int sx0] h Q :=
  wl_cb (b := sx0 = 0) (off := 26) (tgt := 123) (pc3 := 100) (st' := []) d61_97 rfl rfl rfl rfl (by decide) rfl (fun c1 => wl_st d61_123 rfl rfl rfl rfl (wl_gr (b := 9) d61_124 pf10_38 (ly_k L 0 rfl) rfl (ly_r L 0 4 rfl) (wl_bi (v := 114) d61_127 rfl (Exists.elim (H.1 c1) fun b2 b2q => And.elim (fun b2e b2k => cm_rw (fun oo => cm_wp sc (d + 1) 61 129 [some (.ref 0), some (.int x1), some (va_rf o2), some (va_rf oo)] [.int (114 : Int32), .ref 9] h Q) b2e (wl_st d61_129 rfl rfl rfl rfl (wl_ci d61_130 rfl rfl rfl pm10_224 (by decide) (ca_v (Or.inr rfl) rfl (Nat.le_of_ble_eq_true rfl) (Nat.le_of_ble_eq_true rfl) (ly_k L 9 rfl).2 (ly_k L 9 rfl).1 (by decide)) b2k))) b2q)))) (fun c1 => Exists.elim (H.2 c1) fun b3 b3q => And.elim (fun b3e b3k => cm_rw (fun oo => cm_wp sc (d + 1) 61 100 [some (.ref 0), some (.int x1), some (va_rf oo), some (va_rf o3)] [] h Q) b3e (wl_st d61_100 rfl rfl rfl rfl (wl_st d61_101 rfl rfl rfl rfl (And.elim (fun g4 g4k => wl_gf (v := .int (cm_I h b3 10)) d61_102 pf10_161 (FL.k g4) rfl (wl_st d61_105 rfl rfl rfl rfl (wl_gf (v := .int (cm_I h b3 6)) d61_106 pf10_124 (FL.k g4) rfl (wl_cb (b := (cm_I h b3 6) ≤ (cm_I h b3 10)) (off := 7) (tgt := 116) (pc3 := 112) (st' := [.ref b3]) d61_109 rfl rfl rfl rfl (by decide) rfl (fun c5 => wl_ic (v := 5) d61_116 rfl ((g4k.1 c5))) (fun c5 => wl_ic (v := 2) d61_112 rfl (wl_go (tgt := 117) d61_113 (by decide) ((g4k.2 c5)))))))) b3k)))) b3q)
theorem s61_117 {sc : cmS} {d : Nat} {h : cmH} {Q : Option Value → cmH → Prop} (x1 : Int32) (o2 : Option Nat) (o3 : Option Nat) (sx0 : Int32) (so1 : Option Nat) (H : ∃ b1, so1 = some b1 ∧ (FL h b1) ∧ Q none (cm_setI h b1 8 sx0)) : cm_wp sc d 61 117 [some (.ref 0), some (.int x1), some (va_rf o2), some (va_rf o3)] [.int sx0, va_rf so1] h Q :=
  Exists.elim H fun b1 b1q => And.elim (fun b1e b1k => cm_rw (fun oo => cm_wp sc d 61 117 [some (.ref 0), some (.int x1), some (va_rf o2), some (va_rf o3)] [.int sx0, va_rf oo] h Q) b1e (And.elim (fun g2 g2k => wl_pf (h' := (cm_setI h b1 8 sx0)) d61_117 pf10_155 (FL.k g2) (Or.inl rfl) rfl (wl_go (tgt := 141) d61_120 (by decide) (wl_rt d61_141 rfl rfl rfl g2k))) b1k)) b1q
theorem s61_133 {sc : cmS} {d : Nat} {h : cmH} {Q : Option Value → cmH → Prop} (x1 : Int32) (o2 : Option Nat) (o3 : Option Nat) (sx0 : Int32) (H : (((sx0 = 0) → Q none h) ∧ (¬ (sx0 = 0) → ∃ b2, o2 = some b2 ∧ (FL h b2) ∧ Q none (cm_setI h b2 8 (3 : Int32))))) : cm_wp sc d 61 133 [some (.ref 0), some (.int x1), some (va_rf o2), some (va_rf o3)] [.int sx0] h Q :=
  wl_cb (b := sx0 = 0) (off := 8) (tgt := 141) (pc3 := 136) (st' := []) d61_133 rfl rfl rfl rfl (by decide) rfl (fun c1 => wl_rt d61_141 rfl rfl rfl (H.1 c1)) (fun c1 => Exists.elim (H.2 c1) fun b2 b2q => And.elim (fun b2e b2k => cm_rw (fun oo => cm_wp sc d 61 136 [some (.ref 0), some (.int x1), some (va_rf oo), some (va_rf o3)] [] h Q) b2e (wl_st d61_136 rfl rfl rfl rfl (wl_ic (v := 3) d61_137 rfl (And.elim (fun g3 g3k => wl_pf (h' := (cm_setI h b2 8 (3 : Int32))) d61_138 pf10_155 (FL.k g3) (Or.inl rfl) rfl (wl_rt d61_141 rfl rfl rfl g3k)) b2k)))) b2q)
-- ClogHouse.rulesAt(I)LClogHouse$Text;
theorem d62_0 : decode (cm_M 62).2.2.1 0 = .ok (.iload_n 1, 1) := by decide +kernel
theorem d62_1 : decode (cm_M 62).2.2.1 1 = .ok (.iconst 0, 1) := by decide +kernel
theorem d62_2 : decode (cm_M 62).2.2.1 2 = .ok (.aload_n 0, 1) := by decide +kernel
theorem d62_3 : decode (cm_M 62).2.2.1 3 = .ok (.getfield 196, 3) := by decide +kernel
theorem d62_6 : decode (cm_M 62).2.2.1 6 = .ok (.iconst 1, 1) := by decide +kernel
theorem d62_7 : decode (cm_M 62).2.2.1 7 = .ok (.isub, 1) := by decide +kernel
theorem d62_8 : decode (cm_M 62).2.2.1 8 = .ok (.invokestatic 81, 3) := by decide +kernel
theorem d62_11 : decode (cm_M 62).2.2.1 11 = .ok (.ifCond .eq 21, 3) := by decide +kernel
theorem d62_14 : decode (cm_M 62).2.2.1 14 = .ok (.iload_n 1, 1) := by decide +kernel
theorem d62_15 : decode (cm_M 62).2.2.1 15 = .ok (.aload_n 0, 1) := by decide +kernel
theorem d62_16 : decode (cm_M 62).2.2.1 16 = .ok (.getfield 31, 3) := by decide +kernel
theorem d62_19 : decode (cm_M 62).2.2.1 19 = .ok (.arraylength, 1) := by decide +kernel
theorem d62_20 : decode (cm_M 62).2.2.1 20 = .ok (.if_icmp .ge 12, 3) := by decide +kernel
theorem d62_23 : decode (cm_M 62).2.2.1 23 = .ok (.aload_n 0, 1) := by decide +kernel
theorem d62_24 : decode (cm_M 62).2.2.1 24 = .ok (.getfield 31, 3) := by decide +kernel
theorem d62_27 : decode (cm_M 62).2.2.1 27 = .ok (.iload_n 1, 1) := by decide +kernel
theorem d62_28 : decode (cm_M 62).2.2.1 28 = .ok (.aaload, 1) := by decide +kernel
theorem d62_29 : decode (cm_M 62).2.2.1 29 = .ok (.goto 4, 3) := by decide +kernel
theorem d62_32 : decode (cm_M 62).2.2.1 32 = .ok (.aconst_null, 1) := by decide +kernel
theorem d62_33 : decode (cm_M 62).2.2.1 33 = .ok (.areturn, 1) := by decide +kernel
theorem s62_0 {sc : cmS} {d : Nat} {h : cmH} {Q : Option Value → cmH → Prop} (L : LY h) (x1 : Int32) (H : cm_ci sc d 13 [.int x1, .int (0 : Int32), .int ((cm_I h 0 11) - (1 : Int32))] h (fun r h' => cm_wp sc (d + 1) 62 11 [some (.ref 0), some (.int x1)] [.int r] h' Q)) : cm_wp sc (d + 1) 62 0 [some (.ref 0), some (.int x1)] [] h Q :=
  wl_st d62_0 rfl rfl rfl rfl (wl_ic (v := 0) d62_1 rfl (wl_st d62_2 rfl rfl rfl rfl (wl_gf (v := .int (cm_I h 0 11)) d62_3 pf10_196 (ly_k L 0 rfl) rfl (wl_ic (v := 1) d62_6 rfl (wl_st d62_7 rfl rfl rfl rfl (wl_ci d62_8 rfl rfl rfl pm10_81 (by decide) (ca_s (Or.inl rfl) rfl (Nat.le_of_ble_eq_true rfl) (Nat.le_of_ble_eq_true rfl)) H))))))
theorem s62_11 {sc : cmS} {d : Nat} {h : cmH} {Q : Option Value → cmH → Prop} (L : LY h) (x1 : Int32) (sx0 : Int32) (H : (((sx0 = 0) → Q (some (va_rf none)) h) ∧ (¬ (sx0 = 0) → ((((12 : Int32) ≤ x1) → Q (some (va_rf none)) h) ∧ (¬ ((12 : Int32) ≤ x1) → (IX 12 x1) ∧ Q (some (va_rf (cm_R h 8 x1.toNatClampNeg))) h))))) : cm_wp sc d 62 11 [some (.ref 0), some (.int x1)] [.int sx0] h Q :=
  wl_cb (b := sx0 = 0) (off := 21) (tgt := 32) (pc3 := 14) (st' := []) d62_11 rfl rfl rfl rfl (by decide) rfl (fun c1 => wl_st d62_32 rfl rfl rfl rfl (wl_rq d62_33 rfl (H.1 c1))) (fun c1 => wl_st d62_14 rfl rfl rfl rfl (wl_st d62_15 rfl rfl rfl rfl (wl_gr (b := 8) d62_16 pf10_31 (ly_k L 0 rfl) rfl (ly_r L 0 3 rfl) (wl_aln (v := 12) d62_19 (ly_la L 8 rfl) rfl (wl_cb (b := (12 : Int32) ≤ x1) (off := 12) (tgt := 32) (pc3 := 23) (st' := []) d62_20 rfl rfl rfl rfl (by decide) rfl (fun c2 => wl_st d62_32 rfl rfl rfl rfl (wl_rq d62_33 rfl ((H.2 c1).1 c2))) (fun c2 => wl_st d62_23 rfl rfl rfl rfl (wl_gr (b := 8) d62_24 pf10_31 (ly_k L 0 rfl) rfl (ly_r L 0 3 rfl) (wl_st d62_27 rfl rfl rfl rfl (And.elim (fun g3 g3k => wl_ald d62_28 (ly_oq L 8 rfl g3) (wl_go (tgt := 33) d62_29 (by decide) (wl_rq d62_33 rfl g3k))) ((H.2 c1).2 c2))))))))))
-- ClogHouse.wash(I)V
theorem d71_0 : decode (cm_M 71).2.2.1 0 = .ok (.aload_n 0, 1) := by decide +kernel
theorem d71_1 : decode (cm_M 71).2.2.1 1 = .ok (.iload_n 1, 1) := by decide +kernel
theorem d71_2 : decode (cm_M 71).2.2.1 2 = .ok (.invokevirtual 103, 3) := by decide +kernel
theorem d71_5 : decode (cm_M 71).2.2.1 5 = .ok (.astore_n 2, 1) := by decide +kernel
theorem d71_6 : decode (cm_M 71).2.2.1 6 = .ok (.aload_n 2, 1) := by decide +kernel
theorem d71_7 : decode (cm_M 71).2.2.1 7 = .ok (.ifnonnull 4, 3) := by decide +kernel
theorem d71_10 : decode (cm_M 71).2.2.1 10 = .ok (.return_, 1) := by decide +kernel
theorem d71_11 : decode (cm_M 71).2.2.1 11 = .ok (.aload_n 0, 1) := by decide +kernel
theorem d71_12 : decode (cm_M 71).2.2.1 12 = .ok (.aload_n 2, 1) := by decide +kernel
theorem d71_13 : decode (cm_M 71).2.2.1 13 = .ok (.getfield 203, 3) := by decide +kernel
theorem d71_16 : decode (cm_M 71).2.2.1 16 = .ok (.invokevirtual 206, 3) := by decide +kernel
theorem d71_19 : decode (cm_M 71).2.2.1 19 = .ok (.astore_n 3, 1) := by decide +kernel
theorem d71_20 : decode (cm_M 71).2.2.1 20 = .ok (.aload_n 2, 1) := by decide +kernel
theorem d71_21 : decode (cm_M 71).2.2.1 21 = .ok (.getfield 155, 3) := by decide +kernel
theorem d71_24 : decode (cm_M 71).2.2.1 24 = .ok (.iconst 2, 1) := by decide +kernel
theorem d71_25 : decode (cm_M 71).2.2.1 25 = .ok (.if_icmp .ne 52, 3) := by decide +kernel
theorem d71_28 : decode (cm_M 71).2.2.1 28 = .ok (.aload_n 3, 1) := by decide +kernel
theorem d71_29 : decode (cm_M 71).2.2.1 29 = .ok (.ifnull 48, 3) := by decide +kernel
theorem d71_32 : decode (cm_M 71).2.2.1 32 = .ok (.aload_n 2, 1) := by decide +kernel
theorem d71_33 : decode (cm_M 71).2.2.1 33 = .ok (.aload_n 0, 1) := by decide +kernel
theorem d71_34 : decode (cm_M 71).2.2.1 34 = .ok (.getfield 38, 3) := by decide +kernel
theorem d71_37 : decode (cm_M 71).2.2.1 37 = .ok (.iload_n 1, 1) := by decide +kernel
theorem d71_38 : decode (cm_M 71).2.2.1 38 = .ok (.invokevirtual 367, 3) := by decide +kernel
theorem d71_41 : decode (cm_M 71).2.2.1 41 = .ok (.aload_n 0, 1) := by decide +kernel
theorem d71_42 : decode (cm_M 71).2.2.1 42 = .ok (.getfield 38, 3) := by decide +kernel
theorem d71_45 : decode (cm_M 71).2.2.1 45 = .ok (.bipush 117, 2) := by decide +kernel
theorem d71_47 : decode (cm_M 71).2.2.1 47 = .ok (.aload_n 3, 1) := by decide +kernel
theorem d71_48 : decode (cm_M 71).2.2.1 48 = .ok (.invokevirtual 224, 3) := by decide +kernel
theorem d71_51 : decode (cm_M 71).2.2.1 51 = .ok (.istore 4, 2) := by decide +kernel
theorem d71_53 : decode (cm_M 71).2.2.1 53 = .ok (.aload_n 2, 1) := by decide +kernel
theorem d71_54 : decode (cm_M 71).2.2.1 54 = .ok (.iconst 0, 1) := by decide +kernel
theorem d71_55 : decode (cm_M 71).2.2.1 55 = .ok (.sipush 1000, 3) := by decide +kernel
theorem d71_58 : decode (cm_M 71).2.2.1 58 = .ok (.iload 4, 2) := by decide +kernel
theorem d71_60 : decode (cm_M 71).2.2.1 60 = .ok (.invokestatic 371, 3) := by decide +kernel
theorem d71_63 : decode (cm_M 71).2.2.1 63 = .ok (.invokestatic 376, 3) := by decide +kernel
theorem d71_66 : decode (cm_M 71).2.2.1 66 = .ok (.aload_n 0, 1) := by decide +kernel
theorem d71_67 : decode (cm_M 71).2.2.1 67 = .ok (.getfield 10, 3) := by decide +kernel
theorem d71_70 : decode (cm_M 71).2.2.1 70 = .ok (.aload_n 0, 1) := by decide +kernel
theorem d71_71 : decode (cm_M 71).2.2.1 71 = .ok (.getfield 52, 3) := by decide +kernel
theorem d71_74 : decode (cm_M 71).2.2.1 74 = .ok (.invokevirtual 379, 3) := by decide +kernel
theorem d71_77 : decode (cm_M 71).2.2.1 77 = .ok (.aload_n 2, 1) := by decide +kernel
theorem d71_78 : decode (cm_M 71).2.2.1 78 = .ok (.iconst 0, 1) := by decide +kernel
theorem d71_79 : decode (cm_M 71).2.2.1 79 = .ok (.putfield 170, 3) := by decide +kernel
theorem d71_82 : decode (cm_M 71).2.2.1 82 = .ok (.aload_n 2, 1) := by decide +kernel
theorem d71_83 : decode (cm_M 71).2.2.1 83 = .ok (.iconst 0, 1) := by decide +kernel
theorem d71_84 : decode (cm_M 71).2.2.1 84 = .ok (.putfield 173, 3) := by decide +kernel
theorem d71_87 : decode (cm_M 71).2.2.1 87 = .ok (.aload_n 2, 1) := by decide +kernel
theorem d71_88 : decode (cm_M 71).2.2.1 88 = .ok (.iconst 0, 1) := by decide +kernel
theorem d71_89 : decode (cm_M 71).2.2.1 89 = .ok (.putfield 176, 3) := by decide +kernel
theorem d71_92 : decode (cm_M 71).2.2.1 92 = .ok (.aload_n 2, 1) := by decide +kernel
theorem d71_93 : decode (cm_M 71).2.2.1 93 = .ok (.aload_n 2, 1) := by decide +kernel
theorem d71_94 : decode (cm_M 71).2.2.1 94 = .ok (.getfield 155, 3) := by decide +kernel
theorem d71_97 : decode (cm_M 71).2.2.1 97 = .ok (.iconst 1, 1) := by decide +kernel
theorem d71_98 : decode (cm_M 71).2.2.1 98 = .ok (.if_icmp .ne 7, 3) := by decide +kernel
theorem d71_101 : decode (cm_M 71).2.2.1 101 = .ok (.iconst 1, 1) := by decide +kernel
theorem d71_102 : decode (cm_M 71).2.2.1 102 = .ok (.goto 4, 3) := by decide +kernel
theorem d71_105 : decode (cm_M 71).2.2.1 105 = .ok (.iconst 0, 1) := by decide +kernel
theorem d71_106 : decode (cm_M 71).2.2.1 106 = .ok (.putfield 383, 3) := by decide +kernel
theorem d71_109 : decode (cm_M 71).2.2.1 109 = .ok (.aload_n 2, 1) := by decide +kernel
theorem d71_110 : decode (cm_M 71).2.2.1 110 = .ok (.aload_n 2, 1) := by decide +kernel
theorem d71_111 : decode (cm_M 71).2.2.1 111 = .ok (.getfield 107, 3) := by decide +kernel
theorem d71_114 : decode (cm_M 71).2.2.1 114 = .ok (.ifCond .ne 10, 3) := by decide +kernel
theorem d71_117 : decode (cm_M 71).2.2.1 117 = .ok (.aload_n 2, 1) := by decide +kernel
theorem d71_118 : decode (cm_M 71).2.2.1 118 = .ok (.getfield 383, 3) := by decide +kernel
theorem d71_121 : decode (cm_M 71).2.2.1 121 = .ok (.ifCond .eq 7, 3) := by decide +kernel
theorem d71_124 : decode (cm_M 71).2.2.1 124 = .ok (.iconst 1, 1) := by decide +kernel
theorem d71_125 : decode (cm_M 71).2.2.1 125 = .ok (.goto 4, 3) := by decide +kernel
theorem d71_128 : decode (cm_M 71).2.2.1 128 = .ok (.iconst 0, 1) := by decide +kernel
theorem d71_129 : decode (cm_M 71).2.2.1 129 = .ok (.putfield 107, 3) := by decide +kernel
theorem d71_132 : decode (cm_M 71).2.2.1 132 = .ok (.return_, 1) := by decide +kernel
theorem s71_0 {sc : cmS} {d : Nat} {h : cmH} {Q : Option Value → cmH → Prop} (L : LY h) (x1 : Int32) (u2 : Option Value) (u3 : Option Value) (u4 : Option Value) (H : cm_cq sc d 17 [.ref 0, .int x1] h (fun r h' => cm_wp sc (d + 1) 71 5 [some (.ref 0), some (.int x1), u2, u3, u4] [va_rf r] h' Q)) : cm_wp sc (d + 1) 71 0 [some (.ref 0), some (.int x1), u2, u3, u4] [] h Q :=
  wl_st d71_0 rfl rfl rfl rfl (wl_st d71_1 rfl rfl rfl rfl (wl_cq d71_2 rfl rfl rfl pm10_103 (by decide) (ca_v (Or.inl rfl) rfl (Nat.le_of_ble_eq_true rfl) (Nat.le_of_ble_eq_true rfl) (ly_k L 0 rfl).2 (ly_k L 0 rfl).1 (by decide)) H))
theorem s71_5 {sc : cmS} {d : Nat} {h : cmH} {Q : Option Value → cmH → Prop} (L : LY h) (x1 : Int32) (u2 : Option Value) (u3 : Option Value) (u4 : Option Value) (so0 : Option Nat) (H : ((so0 = none → Q none h) ∧ (∀ b2, so0 = some b2 → (FL h b2) ∧ cm_cq sc d 62 [.ref 0, .int (cm_I h b2 7)] h (fun r h' => cm_wp sc (d + 1) 71 19 [some (.ref 0), some (.int x1), some (.ref b2), u3, u4] [va_rf r] h' Q)))) : cm_wp sc (d + 1) 71 5 [some (.ref 0), some (.int x1), u2, u3, u4] [va_rf so0] h Q :=
  wl_as (k := 2) (ls' := [some (.ref 0), some (.int x1), some (va_rf so0), u3, u4]) d71_5 (Or.inr ⟨⟨_, rfl, rfl⟩, rfl⟩) (Nat.le_of_ble_eq_true rfl) rfl (wl_al (k := 2) d71_6 (Or.inr ⟨⟨_, rfl, rfl⟩, rfl⟩) rfl (wl_nn (o := so0) (tgt := 11) (pc3 := 10) d71_7 (by decide) rfl (fun b2 c1 => cm_rw (fun oo => cm_wp sc (d + 1) 71 11 [some (.ref 0), some (.int x1), some (va_rf oo), u3, u4] [] h Q) c1 (wl_st d71_11 rfl rfl rfl rfl (wl_st d71_12 rfl rfl rfl rfl (And.elim (fun g3 g3k => wl_gf (v := .int (cm_I h b2 7)) d71_13 pf10_203 (FL.k g3) rfl (wl_cq d71_16 rfl rfl rfl pm10_206 (by decide) (ca_v (Or.inl rfl) rfl (Nat.le_of_ble_eq_true rfl) (Nat.le_of_ble_eq_true rfl) (ly_k L 0 rfl).2 (ly_k L 0 rfl).1 (by decide)) g3k)) (H.2 b2 c1))))) (fun c1 => wl_rt d71_10 rfl rfl rfl (H.1 c1))))
theorem s71_19 {sc : cmS} {d : Nat} {h : cmH} {Q : Option Value → cmH → Prop} (L : LY h) (x1 : Int32) (o2 : Option Nat) (u3 : Option Value) (u4 : Option Value) (so0 : Option Nat) (H : ∃ b1, o2 = some b1 ∧ (FL h b1) ∧ (((¬ (cm_I h b1 8) = (2 : Int32)) → cm_wp sc (d + 1) 71 77 [some (.ref 0), some (.int x1), some (.ref b1), some (va_rf so0), u4] [] h Q) ∧ (¬ (¬ (cm_I h b1 8) = (2 : Int32)) → ((so0 = none → cm_wp sc (d + 1) 71 77 [some (.ref 0), some (.int x1), some (.ref b1), some (va_rf so0), u4] [] h Q) ∧ (∀ b5, so0 = some b5 → cm_cv sc d 63 [.ref b1, .ref 9, .int x1] h (fun h' => cm_wp sc (d + 1) 71 41 [some (.ref 0), some (.int x1), some (.ref b1), some (.ref b5), u4] [] h' Q)))))) : cm_wp sc (d + 1) 71 19 [some (.ref 0), some (.int x1), some (va_rf o2), u3, u4] [va_rf so0] h Q :=
  wl_as (k := 3) (ls' := [some (.ref 0), some (.int x1), some (va_rf o2), some (va_rf so0), u4]) d71_19 (Or.inr ⟨⟨_, rfl, rfl⟩, rfl⟩) (Nat.le_of_ble_eq_true rfl) (by simp [cm_ls1, cm_ls2, cm_clr, cm_isJq]) (Exists.elim H fun b1 b1q => And.elim (fun b1e b1k => cm_rw (fun oo => cm_wp sc (d + 1) 71 20 [some (.ref 0), some (.int x1), some (va_rf oo), some (va_rf so0), u4] [] h Q) b1e (wl_st d71_20 rfl rfl rfl rfl (And.elim (fun g2 g2k => wl_gf (v := .int (cm_I h b1 8)) d71_21 pf10_155 (FL.k g2) rfl (wl_ic (v := 2) d71_24 rfl (wl_cb (b := ¬ (cm_I h b1 8) = (2 : Int32)) (off := 52) (tgt := 77) (pc3 := 28) (st' := []) d71_25 rfl rfl rfl rfl (by decide) rfl (fun c3 => (g2k.1 c3)) (fun c3 => wl_al (k := 3) d71_28 (Or.inr ⟨⟨_, rfl, rfl⟩, rfl⟩) rfl (wl_nu (o := so0) (tgt := 77) (pc3 := 32) d71_29 (by decide) rfl (fun c4 => ((g2k.2 c3).1 c4)) (fun b5 c4 => cm_rw (fun oo => cm_wp sc (d + 1) 71 32 [some (.ref 0), some (.int x1), some (.ref b1), some (va_rf oo), u4] [] h Q) c4 (wl_st d71_32 rfl rfl rfl rfl (wl_st d71_33 rfl rfl rfl rfl (wl_gr (b := 9) d71_34 pf10_38 (ly_k L 0 rfl) rfl (ly_r L 0 4 rfl) (wl_st d71_37 rfl rfl rfl rfl (wl_cv d71_38 rfl rfl rfl pm10_367 (by decide) (ca_v (Or.inr rfl) rfl (Nat.le_of_ble_eq_true rfl) (Nat.le_of_ble_eq_true rfl) (FL.k g2).2 (FL.k g2).1 (by decide)) ((g2k.2 c3).2 b5 c4)))))))))))) b1k))) b1q)
theorem s71_41 {sc : cmS} {d : Nat} {h : cmH} {Q : Option Value → cmH → Prop} (L : LY h) (x1 : Int32) (o2 : Option Nat) (o3 : Option Nat) (u4 : Option Value) (H : ∃ b1, o3 = some b1 ∧ cm_ci sc d 65 [.ref 9, .int (117 : Int32), .ref b1] h (fun r h' => cm_wp sc (d + 1) 71 51 [some (.ref 0), some (.int x1), some (va_rf o2), some (.ref b1), u4] [.int r] h' Q)) : cm_wp sc (d + 1) 71 41 [some (.ref 0), some (.int x1), some (va_rf o2), some (va_rf o3), u4] [] h Q :=
  wl_st d71_41 rfl rfl rfl rfl (wl_gr (b := 9) d71_42 pf10_38 (ly_k L 0 rfl) rfl (ly_r L 0 4 rfl) (wl_bi (v := 117) d71_45 rfl (Exists.elim H fun b1 b1q => And.elim (fun b1e b1k => cm_rw (fun oo => cm_wp sc (d + 1) 71 47 [some (.ref 0), some (.int x1), some (va_rf o2), some (va_rf oo), u4] [.int (117 : Int32), .ref 9] h Q) b1e (wl_st d71_47 rfl rfl rfl rfl (wl_ci d71_48 rfl rfl rfl pm10_224 (by decide) (ca_v (Or.inr rfl) rfl (Nat.le_of_ble_eq_true rfl) (Nat.le_of_ble_eq_true rfl) (ly_k L 9 rfl).2 (ly_k L 9 rfl).1 (by decide)) b1k))) b1q)))
theorem s71_51 {sc : cmS} {d : Nat} {h : cmH} {Q : Option Value → cmH → Prop} (L : LY h) (x1 : Int32) (o2 : Option Nat) (o3 : Option Nat) (u4 : Option Value) (sx0 : Int32) (H : ∃ b1, o2 = some b1 ∧ (FL h b1) ∧ cm_cv sc d 72 [.ref b1, .int (if (0 : Int32) < (if sx0 < (1000 : Int32) then sx0 else (1000 : Int32)) then (if sx0 < (1000 : Int32) then sx0 else (1000 : Int32)) else (0 : Int32)), .ref 1, .ref 14] h (fun h' => cm_wp sc (d + 1) 71 77 [some (.ref 0), some (.int x1), some (.ref b1), some (va_rf o3), some (.int sx0)] [] h' Q)) : cm_wp sc (d + 1) 71 51 [some (.ref 0), some (.int x1), some (va_rf o2), some (va_rf o3), u4] [.int sx0] h Q :=
  wl_is (ls' := [some (.ref 0), some (.int x1), some (va_rf o2), some (va_rf o3), some (.int sx0)]) d71_51 (Nat.le_of_ble_eq_true rfl) (by simp [cm_ls1, cm_ls2, cm_clr, cm_isJq]) (Exists.elim H fun b1 b1q => And.elim (fun b1e b1k => cm_rw (fun oo => cm_wp sc (d + 1) 71 53 [some (.ref 0), some (.int x1), some (va_rf oo), some (va_rf o3), some (.int sx0)] [] h Q) b1e (wl_st d71_53 rfl rfl rfl rfl (wl_ic (v := 0) d71_54 rfl (wl_si (v := 1000) d71_55 rfl (wl_st d71_58 rfl rfl rfl rfl (wl_pr (st' := [.int (if sx0 < (1000 : Int32) then sx0 else (1000 : Int32)), .int (0 : Int32), .ref b1]) d71_60 rfl rfl rfl pm10_371 (by decide) rfl rfl (wl_pr (st' := [.int (if (0 : Int32) < (if sx0 < (1000 : Int32) then sx0 else (1000 : Int32)) then (if sx0 < (1000 : Int32) then sx0 else (1000 : Int32)) else (0 : Int32)), .ref b1]) d71_63 rfl rfl rfl pm10_376 (by decide) rfl rfl (wl_st d71_66 rfl rfl rfl rfl (wl_gr (b := 1) d71_67 pf10_10 (ly_k L 0 rfl) rfl (ly_r L 0 0 rfl) (wl_st d71_70 rfl rfl rfl rfl (wl_gr (b := 14) d71_71 pf10_52 (ly_k L 0 rfl) rfl (ly_r L 0 6 rfl) (And.elim (fun g2 g2k => wl_cv d71_74 rfl rfl rfl pm10_379 (by decide) (ca_v (Or.inr rfl) rfl (Nat.le_of_ble_eq_true rfl) (Nat.le_of_ble_eq_true rfl) (FL.k g2).2 (FL.k g2).1 (by decide)) g2k) b1k)))))))))))) b1q)
theorem s71_77 {sc : cmS} {d : Nat} {h : cmH} {Q : Option Value → cmH → Prop} (x1 : Int32) (o2 : Option Nat) (o3 : Option Nat) (u4 : Option Value) (H : ∃ b1, o2 = some b1 ∧ (FL h b1) ∧ (((¬ (cm_I (cm_setI (cm_setI (cm_setI h b1 11 (0 : Int32)) b1 12 (0 : Int32)) b1 13 (0 : Int32)) b1 8) = (1 : Int32)) → cm_wp sc d 71 106 [some (.ref 0), some (.int x1), some (.ref b1), some (va_rf o3), u4] [.int (0 : Int32), .ref b1] (cm_setI (cm_setI (cm_setI h b1 11 (0 : Int32)) b1 12 (0 : Int32)) b1 13 (0 : Int32)) Q) ∧ (¬ (¬ (cm_I (cm_setI (cm_setI (cm_setI h b1 11 (0 : Int32)) b1 12 (0 : Int32)) b1 13 (0 : Int32)) b1 8) = (1 : Int32)) → cm_wp sc d 71 106 [some (.ref 0), some (.int x1), some (.ref b1), some (va_rf o3), u4] [.int (1 : Int32), .ref b1] (cm_setI (cm_setI (cm_setI h b1 11 (0 : Int32)) b1 12 (0 : Int32)) b1 13 (0 : Int32)) Q))) : cm_wp sc d 71 77 [some (.ref 0), some (.int x1), some (va_rf o2), some (va_rf o3), u4] [] h Q :=
  Exists.elim H fun b1 b1q => And.elim (fun b1e b1k => cm_rw (fun oo => cm_wp sc d 71 77 [some (.ref 0), some (.int x1), some (va_rf oo), some (va_rf o3), u4] [] h Q) b1e (wl_st d71_77 rfl rfl rfl rfl (wl_ic (v := 0) d71_78 rfl (And.elim (fun g2 g2k => wl_pf (h' := (cm_setI h b1 11 (0 : Int32))) d71_79 pf10_170 (FL.k g2) (Or.inl rfl) rfl (wl_st d71_82 rfl rfl rfl rfl (wl_ic (v := 0) d71_83 rfl (wl_pf (h' := (cm_setI (cm_setI h b1 11 (0 : Int32)) b1 12 (0 : Int32))) d71_84 pf10_173 (FL.k g2) (Or.inl rfl) rfl (wl_st d71_87 rfl rfl rfl rfl (wl_ic (v := 0) d71_88 rfl (wl_pf (h' := (cm_setI (cm_setI (cm_setI h b1 11 (0 : Int32)) b1 12 (0 : Int32)) b1 13 (0 : Int32))) d71_89 pf10_176 (FL.k g2) (Or.inl rfl) rfl (wl_st d71_92 rfl rfl rfl rfl (wl_st d71_93 rfl rfl rfl rfl (wl_gf (v := .int (cm_I (cm_setI (cm_setI (cm_setI h b1 11 (0 : Int32)) b1 12 (0 : Int32)) b1 13 (0 : Int32)) b1 8)) d71_94 pf10_155 (FL.k g2) rfl (wl_ic (v := 1) d71_97 rfl (wl_cb (b := ¬ (cm_I (cm_setI (cm_setI (cm_setI h b1 11 (0 : Int32)) b1 12 (0 : Int32)) b1 13 (0 : Int32)) b1 8) = (1 : Int32)) (off := 7) (tgt := 105) (pc3 := 101) (st' := [.ref b1]) d71_98 rfl rfl rfl rfl (by decide) rfl (fun c3 => wl_ic (v := 0) d71_105 rfl ((g2k.1 c3))) (fun c3 => wl_ic (v := 1) d71_101 rfl (wl_go (tgt := 106) d71_102 (by decide) ((g2k.2 c3)))))))))))))))) b1k)))) b1q
theorem s71_106 {sc : cmS} {d : Nat} {h : cmH} {Q : Option Value → cmH → Prop} (x1 : Int32) (o2 : Option Nat) (o3 : Option Nat) (u4 : Option Value) (sx0 : Int32) (so1 : Option Nat) (H : ∃ b1, so1 = some b1 ∧ (FL h b1) ∧ (sx0 = 0 ∨ sx0 = 1) ∧ ∃ b4, o2 = some b4 ∧ (FL h b4) ∧ (((¬ (cm_I (cm_setI h b1 18 sx0) b4 17) = 0) → cm_wp sc d 71 124 [some (.ref 0), some (.int x1), some (.ref b4), some (va_rf o3), u4] [.ref b4] (cm_setI h b1 18 sx0) Q) ∧ (¬ (¬ (cm_I (cm_setI h b1 18 sx0) b4 17) = 0) → ((((cm_I (cm_setI h b1 18 sx0) b4 18) = 0) → cm_wp sc d 71 129 [some (.ref 0), some (.int x1), some (.ref b4), some (va_rf o3), u4] [.int (0 : Int32), .ref b4] (cm_setI h b1 18 sx0) Q) ∧ (¬ ((cm_I (cm_setI h b1 18 sx0) b4 18) = 0) → cm_wp sc d 71 124 [some (.ref 0), some (.int x1), some (.ref b4), some (va_rf o3), u4] [.ref b4] (cm_setI h b1 18 sx0) Q))))) : cm_wp sc d 71 106 [some (.ref 0), some (.int x1), some (va_rf o2), some (va_rf o3), u4] [.int sx0, va_rf so1] h Q :=
  Exists.elim H fun b1 b1q => And.elim (fun b1e b1k => cm_rw (fun oo => cm_wp sc d 71 106 [some (.ref 0), some (.int x1), some (va_rf o2), some (va_rf o3), u4] [.int sx0, va_rf oo] h Q) b1e (And.elim (fun g2 g2k => And.elim (fun g3 g3k => wl_pf (h' := (cm_setI h b1 18 sx0)) d71_106 pf10_383 (FL.k g2) (Or.inl rfl) (cm_pvZ g3) (Exists.elim g3k fun b4 b4q => And.elim (fun b4e b4k => cm_rw (fun oo => cm_wp sc d 71 109 [some (.ref 0), some (.int x1), some (va_rf oo), some (va_rf o3), u4] [] (cm_setI h b1 18 sx0) Q) b4e (wl_st d71_109 rfl rfl rfl rfl (wl_st d71_110 rfl rfl rfl rfl (And.elim (fun g5 g5k => wl_gf (v := .int (cm_I (cm_setI h b1 18 sx0) b4 17)) d71_111 pf10_107 (FL.k g5) rfl (wl_cb (b := ¬ (cm_I (cm_setI h b1 18 sx0) b4 17) = 0) (off := 10) (tgt := 124) (pc3 := 117) (st' := [.ref b4]) d71_114 rfl rfl rfl rfl (by decide) rfl (fun c6 => (g5k.1 c6)) (fun c6 => wl_st d71_117 rfl rfl rfl rfl (wl_gf (v := .int (cm_I (cm_setI h b1 18 sx0) b4 18)) d71_118 pf10_383 (FL.k g5) rfl (wl_cb (b := (cm_I (cm_setI h b1 18 sx0) b4 18) = 0) (off := 7) (tgt := 128) (pc3 := 124) (st' := [.ref b4]) d71_121 rfl rfl rfl rfl (by decide) rfl (fun c7 => wl_ic (v := 0) d71_128 rfl (((g5k.2 c6).1 c7))) (fun c7 => ((g5k.2 c6).2 c7))))))) b4k)))) b4q)) g2k) b1k)) b1q
theorem s71_124 {sc : cmS} {d : Nat} {h : cmH} {Q : Option Value → cmH → Prop} (x1 : Int32) (o2 : Option Nat) (o3 : Option Nat) (u4 : Option Value) (so0 : Option Nat) (H : cm_wp sc d 71 129 [some (.ref 0), some (.int x1), some (va_rf o2), some (va_rf o3), u4] [.int (1 : Int32), va_rf so0] h Q) : cm_wp sc d 71 124 [some (.ref 0), some (.int x1), some (va_rf o2), some (va_rf o3), u4] [va_rf so0] h Q :=
  wl_ic (v := 1) d71_124 rfl (wl_go (tgt := 129) d71_125 (by decide) (H))
theorem s71_129 {sc : cmS} {d : Nat} {h : cmH} {Q : Option Value → cmH → Prop} (x1 : Int32) (o2 : Option Nat) (o3 : Option Nat) (u4 : Option Value) (sx0 : Int32) (so1 : Option Nat) (H : ∃ b1, so1 = some b1 ∧ (FL h b1) ∧ (sx0 = 0 ∨ sx0 = 1) ∧ Q none (cm_setI h b1 17 sx0)) : cm_wp sc d 71 129 [some (.ref 0), some (.int x1), some (va_rf o2), some (va_rf o3), u4] [.int sx0, va_rf so1] h Q :=
  Exists.elim H fun b1 b1q => And.elim (fun b1e b1k => cm_rw (fun oo => cm_wp sc d 71 129 [some (.ref 0), some (.int x1), some (va_rf o2), some (va_rf o3), u4] [.int sx0, va_rf oo] h Q) b1e (And.elim (fun g2 g2k => And.elim (fun g3 g3k => wl_pf (h' := (cm_setI h b1 17 sx0)) d71_129 pf10_107 (FL.k g2) (Or.inl rfl) (cm_pvZ g3) (wl_rt d71_132 rfl rfl rfl g3k)) g2k) b1k)) b1q
-- ClogHouse.shareStream()V
theorem d75_0 : decode (cm_M 75).2.2.1 0 = .ok (.lconst 0, 1) := by decide +kernel
theorem d75_1 : decode (cm_M 75).2.2.1 1 = .ok (.lstore_n 1, 1) := by decide +kernel
theorem d75_2 : decode (cm_M 75).2.2.1 2 = .ok (.iconst 0, 1) := by decide +kernel
theorem d75_3 : decode (cm_M 75).2.2.1 3 = .ok (.istore_n 3, 1) := by decide +kernel
theorem d75_4 : decode (cm_M 75).2.2.1 4 = .ok (.iload_n 3, 1) := by decide +kernel
theorem d75_5 : decode (cm_M 75).2.2.1 5 = .ok (.aload_n 0, 1) := by decide +kernel
theorem d75_6 : decode (cm_M 75).2.2.1 6 = .ok (.getfield 98, 3) := by decide +kernel
theorem d75_9 : decode (cm_M 75).2.2.1 9 = .ok (.if_icmp .ge 66, 3) := by decide +kernel
theorem d75_12 : decode (cm_M 75).2.2.1 12 = .ok (.aload_n 0, 1) := by decide +kernel
theorem d75_13 : decode (cm_M 75).2.2.1 13 = .ok (.iload_n 3, 1) := by decide +kernel
theorem d75_14 : decode (cm_M 75).2.2.1 14 = .ok (.invokevirtual 103, 3) := by decide +kernel
theorem d75_17 : decode (cm_M 75).2.2.1 17 = .ok (.astore 4, 2) := by decide +kernel
theorem d75_19 : decode (cm_M 75).2.2.1 19 = .ok (.aload 4, 2) := by decide +kernel
theorem d75_21 : decode (cm_M 75).2.2.1 21 = .ok (.ifnull 48, 3) := by decide +kernel
theorem d75_24 : decode (cm_M 75).2.2.1 24 = .ok (.aload 4, 2) := by decide +kernel
theorem d75_26 : decode (cm_M 75).2.2.1 26 = .ok (.getfield 383, 3) := by decide +kernel
theorem d75_29 : decode (cm_M 75).2.2.1 29 = .ok (.ifCond .eq 40, 3) := by decide +kernel
theorem d75_32 : decode (cm_M 75).2.2.1 32 = .ok (.aload 4, 2) := by decide +kernel
theorem d75_34 : decode (cm_M 75).2.2.1 34 = .ok (.aload 4, 2) := by decide +kernel
theorem d75_36 : decode (cm_M 75).2.2.1 36 = .ok (.invokevirtual 386, 3) := by decide +kernel
theorem d75_39 : decode (cm_M 75).2.2.1 39 = .ok (.putfield 390, 3) := by decide +kernel
theorem d75_42 : decode (cm_M 75).2.2.1 42 = .ok (.aload 4, 2) := by decide +kernel
theorem d75_44 : decode (cm_M 75).2.2.1 44 = .ok (.aload 4, 2) := by decide +kernel
theorem d75_46 : decode (cm_M 75).2.2.1 46 = .ok (.invokevirtual 167, 3) := by decide +kernel
theorem d75_49 : decode (cm_M 75).2.2.1 49 = .ok (.iconst (-1), 1) := by decide +kernel
theorem d75_50 : decode (cm_M 75).2.2.1 50 = .ok (.if_icmp .ne 7, 3) := by decide +kernel
theorem d75_53 : decode (cm_M 75).2.2.1 53 = .ok (.iconst 1, 1) := by decide +kernel
theorem d75_54 : decode (cm_M 75).2.2.1 54 = .ok (.goto 4, 3) := by decide +kernel
theorem d75_57 : decode (cm_M 75).2.2.1 57 = .ok (.iconst 0, 1) := by decide +kernel
theorem d75_58 : decode (cm_M 75).2.2.1 58 = .ok (.putfield 394, 3) := by decide +kernel
theorem d75_61 : decode (cm_M 75).2.2.1 61 = .ok (.lload_n 1, 1) := by decide +kernel
theorem d75_62 : decode (cm_M 75).2.2.1 62 = .ok (.aload 4, 2) := by decide +kernel
theorem d75_64 : decode (cm_M 75).2.2.1 64 = .ok (.getfield 390, 3) := by decide +kernel
theorem d75_67 : decode (cm_M 75).2.2.1 67 = .ok (.ladd, 1) := by decide +kernel
theorem d75_68 : decode (cm_M 75).2.2.1 68 = .ok (.lstore_n 1, 1) := by decide +kernel
theorem d75_69 : decode (cm_M 75).2.2.1 69 = .ok (.iinc 3 1, 3) := by decide +kernel
theorem d75_72 : decode (cm_M 75).2.2.1 72 = .ok (.goto (-68), 3) := by decide +kernel
theorem d75_75 : decode (cm_M 75).2.2.1 75 = .ok (.aload_n 0, 1) := by decide +kernel
theorem d75_76 : decode (cm_M 75).2.2.1 76 = .ok (.getfield 45, 3) := by decide +kernel
theorem d75_79 : decode (cm_M 75).2.2.1 79 = .ok (.getfield 228, 3) := by decide +kernel
theorem d75_82 : decode (cm_M 75).2.2.1 82 = .ok (.istore_n 3, 1) := by decide +kernel
theorem d75_83 : decode (cm_M 75).2.2.1 83 = .ok (.iconst 0, 1) := by decide +kernel
theorem d75_84 : decode (cm_M 75).2.2.1 84 = .ok (.istore 4, 2) := by decide +kernel
theorem d75_86 : decode (cm_M 75).2.2.1 86 = .ok (.iload 4, 2) := by decide +kernel
theorem d75_88 : decode (cm_M 75).2.2.1 88 = .ok (.aload_n 0, 1) := by decide +kernel
theorem d75_89 : decode (cm_M 75).2.2.1 89 = .ok (.getfield 98, 3) := by decide +kernel
theorem d75_92 : decode (cm_M 75).2.2.1 92 = .ok (.if_icmp .ge 62, 3) := by decide +kernel
theorem d75_95 : decode (cm_M 75).2.2.1 95 = .ok (.aload_n 0, 1) := by decide +kernel
theorem d75_96 : decode (cm_M 75).2.2.1 96 = .ok (.iload 4, 2) := by decide +kernel
theorem d75_98 : decode (cm_M 75).2.2.1 98 = .ok (.invokevirtual 103, 3) := by decide +kernel
theorem d75_101 : decode (cm_M 75).2.2.1 101 = .ok (.astore 5, 2) := by decide +kernel
theorem d75_103 : decode (cm_M 75).2.2.1 103 = .ok (.aload 5, 2) := by decide +kernel
theorem d75_105 : decode (cm_M 75).2.2.1 105 = .ok (.ifnull 43, 3) := by decide +kernel
theorem d75_108 : decode (cm_M 75).2.2.1 108 = .ok (.aload 5, 2) := by decide +kernel
theorem d75_110 : decode (cm_M 75).2.2.1 110 = .ok (.getfield 383, 3) := by decide +kernel
theorem d75_113 : decode (cm_M 75).2.2.1 113 = .ok (.ifCond .eq 35, 3) := by decide +kernel
theorem d75_116 : decode (cm_M 75).2.2.1 116 = .ok (.aload 5, 2) := by decide +kernel
theorem d75_118 : decode (cm_M 75).2.2.1 118 = .ok (.aload_n 0, 1) := by decide +kernel
theorem d75_119 : decode (cm_M 75).2.2.1 119 = .ok (.getfield 45, 3) := by decide +kernel
theorem d75_122 : decode (cm_M 75).2.2.1 122 = .ok (.getfield 228, 3) := by decide +kernel
theorem d75_125 : decode (cm_M 75).2.2.1 125 = .ok (.i2l, 1) := by decide +kernel
theorem d75_126 : decode (cm_M 75).2.2.1 126 = .ok (.aload 5, 2) := by decide +kernel
theorem d75_128 : decode (cm_M 75).2.2.1 128 = .ok (.getfield 390, 3) := by decide +kernel
theorem d75_131 : decode (cm_M 75).2.2.1 131 = .ok (.lmul, 1) := by decide +kernel
theorem d75_132 : decode (cm_M 75).2.2.1 132 = .ok (.lload_n 1, 1) := by decide +kernel
theorem d75_133 : decode (cm_M 75).2.2.1 133 = .ok (.invokestatic 283, 3) := by decide +kernel
theorem d75_136 : decode (cm_M 75).2.2.1 136 = .ok (.l2i, 1) := by decide +kernel
theorem d75_137 : decode (cm_M 75).2.2.1 137 = .ok (.putfield 170, 3) := by decide +kernel
theorem d75_140 : decode (cm_M 75).2.2.1 140 = .ok (.iload_n 3, 1) := by decide +kernel
theorem d75_141 : decode (cm_M 75).2.2.1 141 = .ok (.aload 5, 2) := by decide +kernel
theorem d75_143 : decode (cm_M 75).2.2.1 143 = .ok (.getfield 170, 3) := by decide +kernel
theorem d75_146 : decode (cm_M 75).2.2.1 146 = .ok (.isub, 1) := by decide +kernel
theorem d75_147 : decode (cm_M 75).2.2.1 147 = .ok (.istore_n 3, 1) := by decide +kernel
theorem d75_148 : decode (cm_M 75).2.2.1 148 = .ok (.iinc 4 1, 3) := by decide +kernel
theorem d75_151 : decode (cm_M 75).2.2.1 151 = .ok (.goto (-65), 3) := by decide +kernel
theorem d75_154 : decode (cm_M 75).2.2.1 154 = .ok (.iconst 0, 1) := by decide +kernel
theorem d75_155 : decode (cm_M 75).2.2.1 155 = .ok (.istore 4, 2) := by decide +kernel
theorem d75_157 : decode (cm_M 75).2.2.1 157 = .ok (.iload 4, 2) := by decide +kernel
theorem d75_159 : decode (cm_M 75).2.2.1 159 = .ok (.aload_n 0, 1) := by decide +kernel
theorem d75_160 : decode (cm_M 75).2.2.1 160 = .ok (.getfield 98, 3) := by decide +kernel
theorem d75_163 : decode (cm_M 75).2.2.1 163 = .ok (.if_icmp .ge 58, 3) := by decide +kernel
theorem d75_166 : decode (cm_M 75).2.2.1 166 = .ok (.iload_n 3, 1) := by decide +kernel
theorem d75_167 : decode (cm_M 75).2.2.1 167 = .ok (.ifCond .le 54, 3) := by decide +kernel
theorem d75_170 : decode (cm_M 75).2.2.1 170 = .ok (.aload_n 0, 1) := by decide +kernel
theorem d75_171 : decode (cm_M 75).2.2.1 171 = .ok (.iload 4, 2) := by decide +kernel
theorem d75_173 : decode (cm_M 75).2.2.1 173 = .ok (.invokevirtual 103, 3) := by decide +kernel
theorem d75_176 : decode (cm_M 75).2.2.1 176 = .ok (.astore 5, 2) := by decide +kernel
theorem d75_178 : decode (cm_M 75).2.2.1 178 = .ok (.aload 5, 2) := by decide +kernel
theorem d75_180 : decode (cm_M 75).2.2.1 180 = .ok (.ifnull 35, 3) := by decide +kernel
theorem d75_183 : decode (cm_M 75).2.2.1 183 = .ok (.aload 5, 2) := by decide +kernel
theorem d75_185 : decode (cm_M 75).2.2.1 185 = .ok (.getfield 383, 3) := by decide +kernel
theorem d75_188 : decode (cm_M 75).2.2.1 188 = .ok (.ifCond .eq 27, 3) := by decide +kernel
theorem d75_191 : decode (cm_M 75).2.2.1 191 = .ok (.aload 5, 2) := by decide +kernel
theorem d75_193 : decode (cm_M 75).2.2.1 193 = .ok (.getfield 390, 3) := by decide +kernel
theorem d75_196 : decode (cm_M 75).2.2.1 196 = .ok (.lconst 0, 1) := by decide +kernel
theorem d75_197 : decode (cm_M 75).2.2.1 197 = .ok (.lcmp, 1) := by decide +kernel
theorem d75_198 : decode (cm_M 75).2.2.1 198 = .ok (.ifCond .le 17, 3) := by decide +kernel
theorem d75_201 : decode (cm_M 75).2.2.1 201 = .ok (.aload 5, 2) := by decide +kernel
theorem d75_203 : decode (cm_M 75).2.2.1 203 = .ok (.dup, 1) := by decide +kernel
theorem d75_204 : decode (cm_M 75).2.2.1 204 = .ok (.getfield 170, 3) := by decide +kernel
theorem d75_207 : decode (cm_M 75).2.2.1 207 = .ok (.iconst 1, 1) := by decide +kernel
theorem d75_208 : decode (cm_M 75).2.2.1 208 = .ok (.iadd, 1) := by decide +kernel
theorem d75_209 : decode (cm_M 75).2.2.1 209 = .ok (.putfield 170, 3) := by decide +kernel
theorem d75_212 : decode (cm_M 75).2.2.1 212 = .ok (.iinc 3 (-1), 3) := by decide +kernel
theorem d75_215 : decode (cm_M 75).2.2.1 215 = .ok (.iinc 4 1, 3) := by decide +kernel
theorem d75_218 : decode (cm_M 75).2.2.1 218 = .ok (.goto (-61), 3) := by decide +kernel
theorem d75_221 : decode (cm_M 75).2.2.1 221 = .ok (.return_, 1) := by decide +kernel
theorem s75_0 {sc : cmS} {d : Nat} {h : cmH} {Q : Option Value → cmH → Prop} (u1 : Option Value) (u2 : Option Value) (u3 : Option Value) (u4 : Option Value) (u5 : Option Value) (H : cm_wp sc d 75 4 [some (.ref 0), some (.long (0 : Int64)), none, some (.int (0 : Int32)), u4, u5] [] h Q) : cm_wp sc d 75 0 [some (.ref 0), u1, u2, u3, u4, u5] [] h Q :=
  wl_lc (v := 0) d75_0 rfl (wl_st (ls' := [some (.ref 0), some (.long (0 : Int64)), none, u3, u4, u5]) d75_1 rfl rfl rfl rfl (wl_ic (v := 0) d75_2 rfl (wl_st (ls' := [some (.ref 0), some (.long (0 : Int64)), none, some (.int (0 : Int32)), u4, u5]) d75_3 rfl rfl rfl rfl (H))))
theorem s75_4 {sc : cmS} {d : Nat} {h : cmH} {Q : Option Value → cmH → Prop} (L : LY h) (y1 : Int64) (x3 : Int32) (u4 : Option Value) (u5 : Option Value) (H : ((((cm_I h 0 10) ≤ x3) → cm_wp sc (d + 1) 75 86 [some (.ref 0), some (.long y1), none, some (.int (cm_I h 12 1)), some (.int (0 : Int32)), u5] [] h Q) ∧ (¬ ((cm_I h 0 10) ≤ x3) → cm_cq sc d 17 [.ref 0, .int x3] h (fun r h' => cm_wp sc (d + 1) 75 17 [some (.ref 0), some (.long y1), none, some (.int x3), u4, u5] [va_rf r] h' Q)))) : cm_wp sc (d + 1) 75 4 [some (.ref 0), some (.long y1), none, some (.int x3), u4, u5] [] h Q :=
  wl_st d75_4 rfl rfl rfl rfl (wl_st d75_5 rfl rfl rfl rfl (wl_gf (v := .int (cm_I h 0 10)) d75_6 pf10_98 (ly_k L 0 rfl) rfl (wl_cb (b := (cm_I h 0 10) ≤ x3) (off := 66) (tgt := 75) (pc3 := 12) (st' := []) d75_9 rfl rfl rfl rfl (by decide) rfl (fun c1 => wl_st d75_75 rfl rfl rfl rfl (wl_gr (b := 12) d75_76 pf10_45 (ly_k L 0 rfl) rfl (ly_r L 0 5 rfl) (wl_gf (v := .int (cm_I h 12 1)) d75_79 pf10_228 (ly_k L 12 rfl) rfl (wl_st (ls' := [some (.ref 0), some (.long y1), none, some (.int (cm_I h 12 1)), u4, u5]) d75_82 rfl rfl rfl rfl (wl_ic (v := 0) d75_83 rfl (wl_st (ls' := [some (.ref 0), some (.long y1), none, some (.int (cm_I h 12 1)), some (.int (0 : Int32)), u5]) d75_84 rfl rfl rfl rfl ((H.1 c1)))))))) (fun c1 => wl_st d75_12 rfl rfl rfl rfl (wl_st d75_13 rfl rfl rfl rfl (wl_cq d75_14 rfl rfl rfl pm10_103 (by decide) (ca_v (Or.inl rfl) rfl (Nat.le_of_ble_eq_true rfl) (Nat.le_of_ble_eq_true rfl) (ly_k L 0 rfl).2 (ly_k L 0 rfl).1 (by decide)) (H.2 c1)))))))
theorem s75_17 {sc : cmS} {d : Nat} {h : cmH} {Q : Option Value → cmH → Prop} (y1 : Int64) (x3 : Int32) (u4 : Option Value) (u5 : Option Value) (so0 : Option Nat) (H : ((so0 = none → cm_wp sc (d + 1) 75 69 [some (.ref 0), some (.long y1), none, some (.int x3), some (va_rf so0), u5] [] h Q) ∧ (∀ b2, so0 = some b2 → (FL h b2) ∧ ((((cm_I h b2 18) = 0) → cm_wp sc (d + 1) 75 69 [some (.ref 0), some (.long y1), none, some (.int x3), some (.ref b2), u5] [] h Q) ∧ (¬ ((cm_I h b2 18) = 0) → cm_cj' sc d 76 [.ref b2] h (fun r h' => cm_wp sc (d + 1) 75 39 [some (.ref 0), some (.long y1), none, some (.int x3), some (.ref b2), u5] [.long r, .ref b2] h' Q)))))) : cm_wp sc (d + 1) 75 17 [some (.ref 0), some (.long y1), none, some (.int x3), u4, u5] [va_rf so0] h Q :=
  wl_as (k := 4) (ls' := [some (.ref 0), some (.long y1), none, some (.int x3), some (va_rf so0), u5]) d75_17 (Or.inl ⟨rfl, rfl⟩) (Nat.le_of_ble_eq_true rfl) rfl (wl_al (k := 4) d75_19 (Or.inl ⟨rfl, rfl⟩) rfl (wl_nu (o := so0) (tgt := 69) (pc3 := 24) d75_21 (by decide) rfl (fun c1 => (H.1 c1)) (fun b2 c1 => cm_rw (fun oo => cm_wp sc (d + 1) 75 24 [some (.ref 0), some (.long y1), none, some (.int x3), some (va_rf oo), u5] [] h Q) c1 (wl_st d75_24 rfl rfl rfl rfl (And.elim (fun g3 g3k => wl_gf (v := .int (cm_I h b2 18)) d75_26 pf10_383 (FL.k g3) rfl (wl_cb (b := (cm_I h b2 18) = 0) (off := 40) (tgt := 69) (pc3 := 32) (st' := []) d75_29 rfl rfl rfl rfl (by decide) rfl (fun c4 => (g3k.1 c4)) (fun c4 => wl_st d75_32 rfl rfl rfl rfl (wl_st d75_34 rfl rfl rfl rfl (wl_cj d75_36 rfl rfl rfl pm10_386 (by decide) (ca_v (Or.inr rfl) rfl (Nat.le_of_ble_eq_true rfl) (Nat.le_of_ble_eq_true rfl) (FL.k g3).2 (FL.k g3).1 (by decide)) (g3k.2 c4)))))) (H.2 b2 c1))))))
theorem s75_39 {sc : cmS} {d : Nat} {h : cmH} {Q : Option Value → cmH → Prop} (y1 : Int64) (x3 : Int32) (o4 : Option Nat) (u5 : Option Value) (sy0 : Int64) (so1 : Option Nat) (H : ∃ b1, so1 = some b1 ∧ (FL h b1) ∧ ∃ b3, o4 = some b3 ∧ (FL h b3) ∧ cm_ci sc d 30 [.ref b3] (cm_setJ h b1 16 sy0) (fun r h' => cm_wp sc (d + 1) 75 49 [some (.ref 0), some (.long y1), none, some (.int x3), some (.ref b3), u5] [.int r, .ref b3] h' Q)) : cm_wp sc (d + 1) 75 39 [some (.ref 0), some (.long y1), none, some (.int x3), some (va_rf o4), u5] [.long sy0, va_rf so1] h Q :=
  Exists.elim H fun b1 b1q => And.elim (fun b1e b1k => cm_rw (fun oo => cm_wp sc (d + 1) 75 39 [some (.ref 0), some (.long y1), none, some (.int x3), some (va_rf o4), u5] [.long sy0, va_rf oo] h Q) b1e (And.elim (fun g2 g2k => wl_pf (h' := (cm_setJ h b1 16 sy0)) d75_39 pf10_390 (FL.k g2) (Or.inl rfl) rfl (Exists.elim g2k fun b3 b3q => And.elim (fun b3e b3k => cm_rw (fun oo => cm_wp sc (d + 1) 75 42 [some (.ref 0), some (.long y1), none, some (.int x3), some (va_rf oo), u5] [] (cm_setJ h b1 16 sy0) Q) b3e (wl_st d75_42 rfl rfl rfl rfl (wl_st d75_44 rfl rfl rfl rfl (And.elim (fun g4 g4k => wl_ci d75_46 rfl rfl rfl pm10_167 (by decide) (ca_v (Or.inr rfl) rfl (Nat.le_of_ble_eq_true rfl) (Nat.le_of_ble_eq_true rfl) (FL.k g4).2 (FL.k g4).1 (by decide)) g4k) b3k)))) b3q)) b1k)) b1q
theorem s75_49 {sc : cmS} {d : Nat} {h : cmH} {Q : Option Value → cmH → Prop} (y1 : Int64) (x3 : Int32) (o4 : Option Nat) (u5 : Option Value) (sx0 : Int32) (so1 : Option Nat) (H : (((¬ sx0 = (-1 : Int32)) → cm_wp sc d 75 58 [some (.ref 0), some (.long y1), none, some (.int x3), some (va_rf o4), u5] [.int (0 : Int32), va_rf so1] h Q) ∧ (¬ (¬ sx0 = (-1 : Int32)) → cm_wp sc d 75 58 [some (.ref 0), some (.long y1), none, some (.int x3), some (va_rf o4), u5] [.int (1 : Int32), va_rf so1] h Q))) : cm_wp sc d 75 49 [some (.ref 0), some (.long y1), none, some (.int x3), some (va_rf o4), u5] [.int sx0, va_rf so1] h Q :=
  wl_ic (v := (-1)) d75_49 rfl (wl_cb (b := ¬ sx0 = (-1 : Int32)) (off := 7) (tgt := 57) (pc3 := 53) (st' := [va_rf so1]) d75_50 rfl rfl rfl rfl (by decide) rfl (fun c1 => wl_ic (v := 0) d75_57 rfl ((H.1 c1))) (fun c1 => wl_ic (v := 1) d75_53 rfl (wl_go (tgt := 58) d75_54 (by decide) ((H.2 c1)))))
theorem s75_58 {sc : cmS} {d : Nat} {h : cmH} {Q : Option Value → cmH → Prop} (y1 : Int64) (x3 : Int32) (o4 : Option Nat) (u5 : Option Value) (sx0 : Int32) (so1 : Option Nat) (H : ∃ b1, so1 = some b1 ∧ (FL h b1) ∧ (sx0 = 0 ∨ sx0 = 1) ∧ ∃ b4, o4 = some b4 ∧ (FL h b4) ∧ cm_wp sc d 75 69 [some (.ref 0), some (.long (y1 + (cm_J h b4 16))), none, some (.int x3), some (.ref b4), u5] [] (cm_setI h b1 19 sx0) Q) : cm_wp sc d 75 58 [some (.ref 0), some (.long y1), none, some (.int x3), some (va_rf o4), u5] [.int sx0, va_rf so1] h Q :=
  Exists.elim H fun b1 b1q => And.elim (fun b1e b1k => cm_rw (fun oo => cm_wp sc d 75 58 [some (.ref 0), some (.long y1), none, some (.int x3), some (va_rf o4), u5] [.int sx0, va_rf oo] h Q) b1e (And.elim (fun g2 g2k => And.elim (fun g3 g3k => wl_pf (h' := (cm_setI h b1 19 sx0)) d75_58 pf10_394 (FL.k g2) (Or.inl rfl) (cm_pvZ g3) (wl_st d75_61 rfl rfl rfl rfl (Exists.elim g3k fun b4 b4q => And.elim (fun b4e b4k => cm_rw (fun oo => cm_wp sc d 75 62 [some (.ref 0), some (.long y1), none, some (.int x3), some (va_rf oo), u5] [.long y1] (cm_setI h b1 19 sx0) Q) b4e (wl_st d75_62 rfl rfl rfl rfl (And.elim (fun g5 g5k => wl_gf (v := .long (cm_J h b4 16)) d75_64 pf10_390 (FL.k g5) rfl (wl_st d75_67 rfl rfl rfl rfl (wl_st (ls' := [some (.ref 0), some (.long (y1 + (cm_J h b4 16))), none, some (.int x3), some (.ref b4), u5]) d75_68 rfl rfl rfl rfl (g5k)))) b4k))) b4q))) g2k) b1k)) b1q
theorem s75_69 {sc : cmS} {d : Nat} {h : cmH} {Q : Option Value → cmH → Prop} (y1 : Int64) (x3 : Int32) (o4 : Option Nat) (u5 : Option Value) (H : cm_wp sc d 75 4 [some (.ref 0), some (.long y1), none, some (.int (x3 + 1)), some (va_rf o4), u5] [] h Q) : cm_wp sc d 75 69 [some (.ref 0), some (.long y1), none, some (.int x3), some (va_rf o4), u5] [] h Q :=
  wl_st (ls' := [some (.ref 0), some (.long y1), none, some (.int (x3 + 1)), some (va_rf o4), u5]) d75_69 rfl rfl rfl rfl (wl_go (tgt := 4) d75_72 (by decide) (H))
theorem s75_86 {sc : cmS} {d : Nat} {h : cmH} {Q : Option Value → cmH → Prop} (L : LY h) (y1 : Int64) (x3 : Int32) (x4 : Int32) (u5 : Option Value) (H : ((((cm_I h 0 10) ≤ x4) → cm_wp sc (d + 1) 75 157 [some (.ref 0), some (.long y1), none, some (.int x3), some (.int (0 : Int32)), u5] [] h Q) ∧ (¬ ((cm_I h 0 10) ≤ x4) → cm_cq sc d 17 [.ref 0, .int x4] h (fun r h' => cm_wp sc (d + 1) 75 101 [some (.ref 0), some (.long y1), none, some (.int x3), some (.int x4), u5] [va_rf r] h' Q)))) : cm_wp sc (d + 1) 75 86 [some (.ref 0), some (.long y1), none, some (.int x3), some (.int x4), u5] [] h Q :=
  wl_st d75_86 rfl rfl rfl rfl (wl_st d75_88 rfl rfl rfl rfl (wl_gf (v := .int (cm_I h 0 10)) d75_89 pf10_98 (ly_k L 0 rfl) rfl (wl_cb (b := (cm_I h 0 10) ≤ x4) (off := 62) (tgt := 154) (pc3 := 95) (st' := []) d75_92 rfl rfl rfl rfl (by decide) rfl (fun c1 => wl_ic (v := 0) d75_154 rfl (wl_st (ls' := [some (.ref 0), some (.long y1), none, some (.int x3), some (.int (0 : Int32)), u5]) d75_155 rfl rfl rfl rfl ((H.1 c1)))) (fun c1 => wl_st d75_95 rfl rfl rfl rfl (wl_st d75_96 rfl rfl rfl rfl (wl_cq d75_98 rfl rfl rfl pm10_103 (by decide) (ca_v (Or.inl rfl) rfl (Nat.le_of_ble_eq_true rfl) (Nat.le_of_ble_eq_true rfl) (ly_k L 0 rfl).2 (ly_k L 0 rfl).1 (by decide)) (H.2 c1)))))))
theorem s75_101 {sc : cmS} {d : Nat} {h : cmH} {Q : Option Value → cmH → Prop} (L : LY h) (y1 : Int64) (x3 : Int32) (x4 : Int32) (u5 : Option Value) (so0 : Option Nat) (H : ((so0 = none → cm_wp sc (d + 1) 75 148 [some (.ref 0), some (.long y1), none, some (.int x3), some (.int x4), some (va_rf so0)] [] h Q) ∧ (∀ b2, so0 = some b2 → (FL h b2) ∧ ((((cm_I h b2 18) = 0) → cm_wp sc (d + 1) 75 148 [some (.ref 0), some (.long y1), none, some (.int x3), some (.int x4), some (.ref b2)] [] h Q) ∧ (¬ ((cm_I h b2 18) = 0) → cm_cj' sc d 33 [.long (((cm_I h 12 1).toInt64) * (cm_J h b2 16)), .long y1] h (fun r h' => cm_wp sc (d + 1) 75 136 [some (.ref 0), some (.long y1), none, some (.int x3), some (.int x4), some (.ref b2)] [.long r, .ref b2] h' Q)))))) : cm_wp sc (d + 1) 75 101 [some (.ref 0), some (.long y1), none, some (.int x3), some (.int x4), u5] [va_rf so0] h Q :=
  wl_as (k := 5) (ls' := [some (.ref 0), some (.long y1), none, some (.int x3), some (.int x4), some (va_rf so0)]) d75_101 (Or.inl ⟨rfl, rfl⟩) (Nat.le_of_ble_eq_true rfl) rfl (wl_al (k := 5) d75_103 (Or.inl ⟨rfl, rfl⟩) rfl (wl_nu (o := so0) (tgt := 148) (pc3 := 108) d75_105 (by decide) rfl (fun c1 => (H.1 c1)) (fun b2 c1 => cm_rw (fun oo => cm_wp sc (d + 1) 75 108 [some (.ref 0), some (.long y1), none, some (.int x3), some (.int x4), some (va_rf oo)] [] h Q) c1 (wl_st d75_108 rfl rfl rfl rfl (And.elim (fun g3 g3k => wl_gf (v := .int (cm_I h b2 18)) d75_110 pf10_383 (FL.k g3) rfl (wl_cb (b := (cm_I h b2 18) = 0) (off := 35) (tgt := 148) (pc3 := 116) (st' := []) d75_113 rfl rfl rfl rfl (by decide) rfl (fun c4 => (g3k.1 c4)) (fun c4 => wl_st d75_116 rfl rfl rfl rfl (wl_st d75_118 rfl rfl rfl rfl (wl_gr (b := 12) d75_119 pf10_45 (ly_k L 0 rfl) rfl (ly_r L 0 5 rfl) (wl_gf (v := .int (cm_I h 12 1)) d75_122 pf10_228 (ly_k L 12 rfl) rfl (wl_st d75_125 rfl rfl rfl rfl (wl_st d75_126 rfl rfl rfl rfl (wl_gf (v := .long (cm_J h b2 16)) d75_128 pf10_390 (FL.k g3) rfl (wl_st d75_131 rfl rfl rfl rfl (wl_st d75_132 rfl rfl rfl rfl (wl_cj d75_133 rfl rfl rfl pm10_283 (by decide) (ca_s (Or.inl rfl) rfl (Nat.le_of_ble_eq_true rfl) (Nat.le_of_ble_eq_true rfl)) (g3k.2 c4))))))))))))) (H.2 b2 c1))))))
theorem s75_136 {sc : cmS} {d : Nat} {h : cmH} {Q : Option Value → cmH → Prop} (y1 : Int64) (x3 : Int32) (x4 : Int32) (o5 : Option Nat) (sy0 : Int64) (so1 : Option Nat) (H : ∃ b1, so1 = some b1 ∧ (FL h b1) ∧ ∃ b3, o5 = some b3 ∧ (FL h b3) ∧ cm_wp sc d 75 148 [some (.ref 0), some (.long y1), none, some (.int (x3 - (cm_I (cm_setI h b1 11 (sy0.toInt32)) b3 11))), some (.int x4), some (.ref b3)] [] (cm_setI h b1 11 (sy0.toInt32)) Q) : cm_wp sc d 75 136 [some (.ref 0), some (.long y1), none, some (.int x3), some (.int x4), some (va_rf o5)] [.long sy0, va_rf so1] h Q :=
  wl_st d75_136 rfl rfl rfl rfl (Exists.elim H fun b1 b1q => And.elim (fun b1e b1k => cm_rw (fun oo => cm_wp sc d 75 137 [some (.ref 0), some (.long y1), none, some (.int x3), some (.int x4), some (va_rf o5)] [.int (sy0.toInt32), va_rf oo] h Q) b1e (And.elim (fun g2 g2k => wl_pf (h' := (cm_setI h b1 11 (sy0.toInt32))) d75_137 pf10_170 (FL.k g2) (Or.inl rfl) rfl (wl_st d75_140 rfl rfl rfl rfl (Exists.elim g2k fun b3 b3q => And.elim (fun b3e b3k => cm_rw (fun oo => cm_wp sc d 75 141 [some (.ref 0), some (.long y1), none, some (.int x3), some (.int x4), some (va_rf oo)] [.int x3] (cm_setI h b1 11 (sy0.toInt32)) Q) b3e (wl_st d75_141 rfl rfl rfl rfl (And.elim (fun g4 g4k => wl_gf (v := .int (cm_I (cm_setI h b1 11 (sy0.toInt32)) b3 11)) d75_143 pf10_170 (FL.k g4) rfl (wl_st d75_146 rfl rfl rfl rfl (wl_st (ls' := [some (.ref 0), some (.long y1), none, some (.int (x3 - (cm_I (cm_setI h b1 11 (sy0.toInt32)) b3 11))), some (.int x4), some (.ref b3)]) d75_147 rfl rfl rfl rfl (g4k)))) b3k))) b3q))) b1k)) b1q)
theorem s75_148 {sc : cmS} {d : Nat} {h : cmH} {Q : Option Value → cmH → Prop} (y1 : Int64) (x3 : Int32) (x4 : Int32) (o5 : Option Nat) (H : cm_wp sc d 75 86 [some (.ref 0), some (.long y1), none, some (.int x3), some (.int (x4 + 1)), some (va_rf o5)] [] h Q) : cm_wp sc d 75 148 [some (.ref 0), some (.long y1), none, some (.int x3), some (.int x4), some (va_rf o5)] [] h Q :=
  wl_st (ls' := [some (.ref 0), some (.long y1), none, some (.int x3), some (.int (x4 + 1)), some (va_rf o5)]) d75_148 rfl rfl rfl rfl (wl_go (tgt := 86) d75_151 (by decide) (H))
theorem s75_157 {sc : cmS} {d : Nat} {h : cmH} {Q : Option Value → cmH → Prop} (L : LY h) (y1 : Int64) (x3 : Int32) (x4 : Int32) (u5 : Option Value) (H : ((((cm_I h 0 10) ≤ x4) → Q none h) ∧ (¬ ((cm_I h 0 10) ≤ x4) → (((x3 ≤ 0) → Q none h) ∧ (¬ (x3 ≤ 0) → cm_cq sc d 17 [.ref 0, .int x4] h (fun r h' => cm_wp sc (d + 1) 75 176 [some (.ref 0), some (.long y1), none, some (.int x3), some (.int x4), u5] [va_rf r] h' Q)))))) : cm_wp sc (d + 1) 75 157 [some (.ref 0), some (.long y1), none, some (.int x3), some (.int x4), u5] [] h Q :=
  wl_st d75_157 rfl rfl rfl rfl (wl_st d75_159 rfl rfl rfl rfl (wl_gf (v := .int (cm_I h 0 10)) d75_160 pf10_98 (ly_k L 0 rfl) rfl (wl_cb (b := (cm_I h 0 10) ≤ x4) (off := 58) (tgt := 221) (pc3 := 166) (st' := []) d75_163 rfl rfl rfl rfl (by decide) rfl (fun c1 => wl_rt d75_221 rfl rfl rfl (H.1 c1)) (fun c1 => wl_st d75_166 rfl rfl rfl rfl (wl_cb (b := x3 ≤ 0) (off := 54) (tgt := 221) (pc3 := 170) (st' := []) d75_167 rfl rfl rfl rfl (by decide) rfl (fun c2 => wl_rt d75_221 rfl rfl rfl ((H.2 c1).1 c2)) (fun c2 => wl_st d75_170 rfl rfl rfl rfl (wl_st d75_171 rfl rfl rfl rfl (wl_cq d75_173 rfl rfl rfl pm10_103 (by decide) (ca_v (Or.inl rfl) rfl (Nat.le_of_ble_eq_true rfl) (Nat.le_of_ble_eq_true rfl) (ly_k L 0 rfl).2 (ly_k L 0 rfl).1 (by decide)) ((H.2 c1).2 c2)))))))))
theorem s75_176 {sc : cmS} {d : Nat} {h : cmH} {Q : Option Value → cmH → Prop} (y1 : Int64) (x3 : Int32) (x4 : Int32) (u5 : Option Value) (so0 : Option Nat) (H : ((so0 = none → cm_wp sc d 75 215 [some (.ref 0), some (.long y1), none, some (.int x3), some (.int x4), some (va_rf so0)] [] h Q) ∧ (∀ b2, so0 = some b2 → (FL h b2) ∧ ((((cm_I h b2 18) = 0) → cm_wp sc d 75 215 [some (.ref 0), some (.long y1), none, some (.int x3), some (.int x4), some (.ref b2)] [] h Q) ∧ (¬ ((cm_I h b2 18) = 0) → ((((lg_cmp (cm_J h b2 16) (0 : Int64)) ≤ 0) → cm_wp sc d 75 215 [some (.ref 0), some (.long y1), none, some (.int x3), some (.int x4), some (.ref b2)] [] h Q) ∧ (¬ ((lg_cmp (cm_J h b2 16) (0 : Int64)) ≤ 0) → cm_wp sc d 75 215 [some (.ref 0), some (.long y1), none, some (.int (x3 + (-1))), some (.int x4), some (.ref b2)] [] (cm_setI h b2 11 ((cm_I h b2 11) + (1 : Int32))) Q))))))) : cm_wp sc d 75 176 [some (.ref 0), some (.long y1), none, some (.int x3), some (.int x4), u5] [va_rf so0] h Q :=
  wl_as (k := 5) (ls' := [some (.ref 0), some (.long y1), none, some (.int x3), some (.int x4), some (va_rf so0)]) d75_176 (Or.inl ⟨rfl, rfl⟩) (Nat.le_of_ble_eq_true rfl) rfl (wl_al (k := 5) d75_178 (Or.inl ⟨rfl, rfl⟩) rfl (wl_nu (o := so0) (tgt := 215) (pc3 := 183) d75_180 (by decide) rfl (fun c1 => (H.1 c1)) (fun b2 c1 => cm_rw (fun oo => cm_wp sc d 75 183 [some (.ref 0), some (.long y1), none, some (.int x3), some (.int x4), some (va_rf oo)] [] h Q) c1 (wl_st d75_183 rfl rfl rfl rfl (And.elim (fun g3 g3k => wl_gf (v := .int (cm_I h b2 18)) d75_185 pf10_383 (FL.k g3) rfl (wl_cb (b := (cm_I h b2 18) = 0) (off := 27) (tgt := 215) (pc3 := 191) (st' := []) d75_188 rfl rfl rfl rfl (by decide) rfl (fun c4 => (g3k.1 c4)) (fun c4 => wl_st d75_191 rfl rfl rfl rfl (wl_gf (v := .long (cm_J h b2 16)) d75_193 pf10_390 (FL.k g3) rfl (wl_lc (v := 0) d75_196 rfl (wl_st d75_197 rfl rfl rfl rfl (wl_cb (b := (lg_cmp (cm_J h b2 16) (0 : Int64)) ≤ 0) (off := 17) (tgt := 215) (pc3 := 201) (st' := []) d75_198 rfl rfl rfl rfl (by decide) rfl (fun c5 => ((g3k.2 c4).1 c5)) (fun c5 => wl_st d75_201 rfl rfl rfl rfl (wl_st d75_203 rfl rfl rfl rfl (wl_gf (v := .int (cm_I h b2 11)) d75_204 pf10_170 (FL.k g3) rfl (wl_ic (v := 1) d75_207 rfl (wl_st d75_208 rfl rfl rfl rfl (wl_pf (h' := (cm_setI h b2 11 ((cm_I h b2 11) + (1 : Int32)))) d75_209 pf10_170 (FL.k g3) (Or.inl rfl) rfl (wl_st (ls' := [some (.ref 0), some (.long y1), none, some (.int (x3 + (-1))), some (.int x4), some (.ref b2)]) d75_212 rfl rfl rfl rfl (((g3k.2 c4).2 c5)))))))))))))))) (H.2 b2 c1))))))
theorem s75_215 {sc : cmS} {d : Nat} {h : cmH} {Q : Option Value → cmH → Prop} (y1 : Int64) (x3 : Int32) (x4 : Int32) (o5 : Option Nat) (H : cm_wp sc d 75 157 [some (.ref 0), some (.long y1), none, some (.int x3), some (.int (x4 + 1)), some (va_rf o5)] [] h Q) : cm_wp sc d 75 215 [some (.ref 0), some (.long y1), none, some (.int x3), some (.int x4), some (va_rf o5)] [] h Q :=
  wl_st (ls' := [some (.ref 0), some (.long y1), none, some (.int x3), some (.int (x4 + 1)), some (va_rf o5)]) d75_215 rfl rfl rfl rfl (wl_go (tgt := 157) d75_218 (by decide) (H))
-- ClogHouse.shareGrains()V
theorem d77_0 : decode (cm_M 77).2.2.1 0 = .ok (.iconst 0, 1) := by decide +kernel
theorem d77_1 : decode (cm_M 77).2.2.1 1 = .ok (.istore_n 1, 1) := by decide +kernel
theorem d77_2 : decode (cm_M 77).2.2.1 2 = .ok (.iload_n 1, 1) := by decide +kernel
theorem d77_3 : decode (cm_M 77).2.2.1 3 = .ok (.bipush 8, 2) := by decide +kernel
theorem d77_5 : decode (cm_M 77).2.2.1 5 = .ok (.if_icmp .ge 172, 3) := by decide +kernel
theorem d77_8 : decode (cm_M 77).2.2.1 8 = .ok (.aload_n 0, 1) := by decide +kernel
theorem d77_9 : decode (cm_M 77).2.2.1 9 = .ok (.getfield 45, 3) := by decide +kernel
theorem d77_12 : decode (cm_M 77).2.2.1 12 = .ok (.iload_n 1, 1) := by decide +kernel
theorem d77_13 : decode (cm_M 77).2.2.1 13 = .ok (.invokevirtual 397, 3) := by decide +kernel
theorem d77_16 : decode (cm_M 77).2.2.1 16 = .ok (.istore_n 2, 1) := by decide +kernel
theorem d77_17 : decode (cm_M 77).2.2.1 17 = .ok (.aload_n 0, 1) := by decide +kernel
theorem d77_18 : decode (cm_M 77).2.2.1 18 = .ok (.getfield 52, 3) := by decide +kernel
theorem d77_21 : decode (cm_M 77).2.2.1 21 = .ok (.aload_n 0, 1) := by decide +kernel
theorem d77_22 : decode (cm_M 77).2.2.1 22 = .ok (.getfield 234, 3) := by decide +kernel
theorem d77_25 : decode (cm_M 77).2.2.1 25 = .ok (.iload_n 1, 1) := by decide +kernel
theorem d77_26 : decode (cm_M 77).2.2.1 26 = .ok (.iload_n 2, 1) := by decide +kernel
theorem d77_27 : decode (cm_M 77).2.2.1 27 = .ok (.invokevirtual 400, 3) := by decide +kernel
theorem d77_30 : decode (cm_M 77).2.2.1 30 = .ok (.iload_n 2, 1) := by decide +kernel
theorem d77_31 : decode (cm_M 77).2.2.1 31 = .ok (.istore_n 3, 1) := by decide +kernel
theorem d77_32 : decode (cm_M 77).2.2.1 32 = .ok (.iconst 0, 1) := by decide +kernel
theorem d77_33 : decode (cm_M 77).2.2.1 33 = .ok (.istore 4, 2) := by decide +kernel
theorem d77_35 : decode (cm_M 77).2.2.1 35 = .ok (.iload 4, 2) := by decide +kernel
theorem d77_37 : decode (cm_M 77).2.2.1 37 = .ok (.aload_n 0, 1) := by decide +kernel
theorem d77_38 : decode (cm_M 77).2.2.1 38 = .ok (.getfield 98, 3) := by decide +kernel
theorem d77_41 : decode (cm_M 77).2.2.1 41 = .ok (.if_icmp .ge 60, 3) := by decide +kernel
theorem d77_44 : decode (cm_M 77).2.2.1 44 = .ok (.aload_n 0, 1) := by decide +kernel
theorem d77_45 : decode (cm_M 77).2.2.1 45 = .ok (.iload 4, 2) := by decide +kernel
theorem d77_47 : decode (cm_M 77).2.2.1 47 = .ok (.invokevirtual 103, 3) := by decide +kernel
theorem d77_50 : decode (cm_M 77).2.2.1 50 = .ok (.astore 5, 2) := by decide +kernel
theorem d77_52 : decode (cm_M 77).2.2.1 52 = .ok (.aload 5, 2) := by decide +kernel
theorem d77_54 : decode (cm_M 77).2.2.1 54 = .ok (.ifnull 41, 3) := by decide +kernel
theorem d77_57 : decode (cm_M 77).2.2.1 57 = .ok (.aload 5, 2) := by decide +kernel
theorem d77_59 : decode (cm_M 77).2.2.1 59 = .ok (.getfield 404, 3) := by decide +kernel
theorem d77_62 : decode (cm_M 77).2.2.1 62 = .ok (.iload_n 1, 1) := by decide +kernel
theorem d77_63 : decode (cm_M 77).2.2.1 63 = .ok (.iload_n 2, 1) := by decide +kernel
theorem d77_64 : decode (cm_M 77).2.2.1 64 = .ok (.i2l, 1) := by decide +kernel
theorem d77_65 : decode (cm_M 77).2.2.1 65 = .ok (.aload 5, 2) := by decide +kernel
theorem d77_67 : decode (cm_M 77).2.2.1 67 = .ok (.getfield 170, 3) := by decide +kernel
theorem d77_70 : decode (cm_M 77).2.2.1 70 = .ok (.i2l, 1) := by decide +kernel
theorem d77_71 : decode (cm_M 77).2.2.1 71 = .ok (.lmul, 1) := by decide +kernel
theorem d77_72 : decode (cm_M 77).2.2.1 72 = .ok (.aload_n 0, 1) := by decide +kernel
theorem d77_73 : decode (cm_M 77).2.2.1 73 = .ok (.getfield 45, 3) := by decide +kernel
theorem d77_76 : decode (cm_M 77).2.2.1 76 = .ok (.getfield 228, 3) := by decide +kernel
theorem d77_79 : decode (cm_M 77).2.2.1 79 = .ok (.i2l, 1) := by decide +kernel
theorem d77_80 : decode (cm_M 77).2.2.1 80 = .ok (.invokestatic 283, 3) := by decide +kernel
theorem d77_83 : decode (cm_M 77).2.2.1 83 = .ok (.l2i, 1) := by decide +kernel
theorem d77_84 : decode (cm_M 77).2.2.1 84 = .ok (.iastore, 1) := by decide +kernel
theorem d77_85 : decode (cm_M 77).2.2.1 85 = .ok (.iload_n 3, 1) := by decide +kernel
theorem d77_86 : decode (cm_M 77).2.2.1 86 = .ok (.aload 5, 2) := by decide +kernel
theorem d77_88 : decode (cm_M 77).2.2.1 88 = .ok (.getfield 404, 3) := by decide +kernel
theorem d77_91 : decode (cm_M 77).2.2.1 91 = .ok (.iload_n 1, 1) := by decide +kernel
theorem d77_92 : decode (cm_M 77).2.2.1 92 = .ok (.iaload, 1) := by decide +kernel
theorem d77_93 : decode (cm_M 77).2.2.1 93 = .ok (.isub, 1) := by decide +kernel
theorem d77_94 : decode (cm_M 77).2.2.1 94 = .ok (.istore_n 3, 1) := by decide +kernel
theorem d77_95 : decode (cm_M 77).2.2.1 95 = .ok (.iinc 4 1, 3) := by decide +kernel
theorem d77_98 : decode (cm_M 77).2.2.1 98 = .ok (.goto (-63), 3) := by decide +kernel
theorem d77_101 : decode (cm_M 77).2.2.1 101 = .ok (.iconst 0, 1) := by decide +kernel
theorem d77_102 : decode (cm_M 77).2.2.1 102 = .ok (.istore 4, 2) := by decide +kernel
theorem d77_104 : decode (cm_M 77).2.2.1 104 = .ok (.iload 4, 2) := by decide +kernel
theorem d77_106 : decode (cm_M 77).2.2.1 106 = .ok (.aload_n 0, 1) := by decide +kernel
theorem d77_107 : decode (cm_M 77).2.2.1 107 = .ok (.getfield 98, 3) := by decide +kernel
theorem d77_110 : decode (cm_M 77).2.2.1 110 = .ok (.if_icmp .ge 48, 3) := by decide +kernel
theorem d77_113 : decode (cm_M 77).2.2.1 113 = .ok (.iload_n 3, 1) := by decide +kernel
theorem d77_114 : decode (cm_M 77).2.2.1 114 = .ok (.ifCond .le 44, 3) := by decide +kernel
theorem d77_117 : decode (cm_M 77).2.2.1 117 = .ok (.aload_n 0, 1) := by decide +kernel
theorem d77_118 : decode (cm_M 77).2.2.1 118 = .ok (.iload 4, 2) := by decide +kernel
theorem d77_120 : decode (cm_M 77).2.2.1 120 = .ok (.invokevirtual 103, 3) := by decide +kernel
theorem d77_123 : decode (cm_M 77).2.2.1 123 = .ok (.astore 5, 2) := by decide +kernel
theorem d77_125 : decode (cm_M 77).2.2.1 125 = .ok (.aload 5, 2) := by decide +kernel
theorem d77_127 : decode (cm_M 77).2.2.1 127 = .ok (.ifnull 25, 3) := by decide +kernel
theorem d77_130 : decode (cm_M 77).2.2.1 130 = .ok (.aload 5, 2) := by decide +kernel
theorem d77_132 : decode (cm_M 77).2.2.1 132 = .ok (.getfield 170, 3) := by decide +kernel
theorem d77_135 : decode (cm_M 77).2.2.1 135 = .ok (.ifCond .le 17, 3) := by decide +kernel
theorem d77_138 : decode (cm_M 77).2.2.1 138 = .ok (.aload 5, 2) := by decide +kernel
theorem d77_140 : decode (cm_M 77).2.2.1 140 = .ok (.getfield 404, 3) := by decide +kernel
theorem d77_143 : decode (cm_M 77).2.2.1 143 = .ok (.iload_n 1, 1) := by decide +kernel
theorem d77_144 : decode (cm_M 77).2.2.1 144 = .ok (.dup2, 1) := by decide +kernel
theorem d77_145 : decode (cm_M 77).2.2.1 145 = .ok (.iaload, 1) := by decide +kernel
theorem d77_146 : decode (cm_M 77).2.2.1 146 = .ok (.iconst 1, 1) := by decide +kernel
theorem d77_147 : decode (cm_M 77).2.2.1 147 = .ok (.iadd, 1) := by decide +kernel
theorem d77_148 : decode (cm_M 77).2.2.1 148 = .ok (.iastore, 1) := by decide +kernel
theorem d77_149 : decode (cm_M 77).2.2.1 149 = .ok (.iinc 3 (-1), 3) := by decide +kernel
theorem d77_152 : decode (cm_M 77).2.2.1 152 = .ok (.iinc 4 1, 3) := by decide +kernel
theorem d77_155 : decode (cm_M 77).2.2.1 155 = .ok (.goto (-51), 3) := by decide +kernel
theorem d77_158 : decode (cm_M 77).2.2.1 158 = .ok (.aload_n 0, 1) := by decide +kernel
theorem d77_159 : decode (cm_M 77).2.2.1 159 = .ok (.getfield 52, 3) := by decide +kernel
theorem d77_162 : decode (cm_M 77).2.2.1 162 = .ok (.aload_n 0, 1) := by decide +kernel
theorem d77_163 : decode (cm_M 77).2.2.1 163 = .ok (.getfield 234, 3) := by decide +kernel
theorem d77_166 : decode (cm_M 77).2.2.1 166 = .ok (.iload_n 1, 1) := by decide +kernel
theorem d77_167 : decode (cm_M 77).2.2.1 167 = .ok (.iload_n 3, 1) := by decide +kernel
theorem d77_168 : decode (cm_M 77).2.2.1 168 = .ok (.invokevirtual 407, 3) := by decide +kernel
theorem d77_171 : decode (cm_M 77).2.2.1 171 = .ok (.iinc 1 1, 3) := by decide +kernel
theorem d77_174 : decode (cm_M 77).2.2.1 174 = .ok (.goto (-172), 3) := by decide +kernel
theorem d77_177 : decode (cm_M 77).2.2.1 177 = .ok (.return_, 1) := by decide +kernel
theorem s77_0 {sc : cmS} {d : Nat} {h : cmH} {Q : Option Value → cmH → Prop} (u1 : Option Value) (u2 : Option Value) (u3 : Option Value) (u4 : Option Value) (u5 : Option Value) (H : cm_wp sc d 77 2 [some (.ref 0), some (.int (0 : Int32)), u2, u3, u4, u5] [] h Q) : cm_wp sc d 77 0 [some (.ref 0), u1, u2, u3, u4, u5] [] h Q :=
  wl_ic (v := 0) d77_0 rfl (wl_st (ls' := [some (.ref 0), some (.int (0 : Int32)), u2, u3, u4, u5]) d77_1 rfl rfl rfl rfl (H))
theorem s77_2 {sc : cmS} {d : Nat} {h : cmH} {Q : Option Value → cmH → Prop} (L : LY h) (x1 : Int32) (u2 : Option Value) (u3 : Option Value) (u4 : Option Value) (u5 : Option Value) (H : ((((8 : Int32) ≤ x1) → Q none h) ∧ (¬ ((8 : Int32) ≤ x1) → cm_ci sc d 78 [.ref 12, .int x1] h (fun r h' => cm_wp sc (d + 1) 77 16 [some (.ref 0), some (.int x1), u2, u3, u4, u5] [.int r] h' Q)))) : cm_wp sc (d + 1) 77 2 [some (.ref 0), some (.int x1), u2, u3, u4, u5] [] h Q :=
  wl_st d77_2 rfl rfl rfl rfl (wl_bi (v := 8) d77_3 rfl (wl_cb (b := (8 : Int32) ≤ x1) (off := 172) (tgt := 177) (pc3 := 8) (st' := []) d77_5 rfl rfl rfl rfl (by decide) rfl (fun c1 => wl_rt d77_177 rfl rfl rfl (H.1 c1)) (fun c1 => wl_st d77_8 rfl rfl rfl rfl (wl_gr (b := 12) d77_9 pf10_45 (ly_k L 0 rfl) rfl (ly_r L 0 5 rfl) (wl_st d77_12 rfl rfl rfl rfl (wl_ci d77_13 rfl rfl rfl pm10_397 (by decide) (ca_v (Or.inr rfl) rfl (Nat.le_of_ble_eq_true rfl) (Nat.le_of_ble_eq_true rfl) (ly_k L 12 rfl).2 (ly_k L 12 rfl).1 (by decide)) (H.2 c1)))))))
theorem s77_16 {sc : cmS} {d : Nat} {h : cmH} {Q : Option Value → cmH → Prop} (L : LY h) (x1 : Int32) (u2 : Option Value) (u3 : Option Value) (u4 : Option Value) (u5 : Option Value) (sx0 : Int32) (H : cm_cv sc d 79 [.ref 14, .int (cm_I h 0 12), .int x1, .int sx0] h (fun h' => cm_wp sc (d + 1) 77 30 [some (.ref 0), some (.int x1), some (.int sx0), u3, u4, u5] [] h' Q)) : cm_wp sc (d + 1) 77 16 [some (.ref 0), some (.int x1), u2, u3, u4, u5] [.int sx0] h Q :=
  wl_st (ls' := [some (.ref 0), some (.int x1), some (.int sx0), u3, u4, u5]) d77_16 rfl rfl rfl rfl (wl_st d77_17 rfl rfl rfl rfl (wl_gr (b := 14) d77_18 pf10_52 (ly_k L 0 rfl) rfl (ly_r L 0 6 rfl) (wl_st d77_21 rfl rfl rfl rfl (wl_gf (v := .int (cm_I h 0 12)) d77_22 pf10_234 (ly_k L 0 rfl) rfl (wl_st d77_25 rfl rfl rfl rfl (wl_st d77_26 rfl rfl rfl rfl (wl_cv d77_27 rfl rfl rfl pm10_400 (by decide) (ca_v (Or.inr rfl) rfl (Nat.le_of_ble_eq_true rfl) (Nat.le_of_ble_eq_true rfl) (ly_k L 14 rfl).2 (ly_k L 14 rfl).1 (by decide)) H)))))))
theorem s77_30 {sc : cmS} {d : Nat} {h : cmH} {Q : Option Value → cmH → Prop} (x1 : Int32) (x2 : Int32) (u3 : Option Value) (u4 : Option Value) (u5 : Option Value) (H : cm_wp sc d 77 35 [some (.ref 0), some (.int x1), some (.int x2), some (.int x2), some (.int (0 : Int32)), u5] [] h Q) : cm_wp sc d 77 30 [some (.ref 0), some (.int x1), some (.int x2), u3, u4, u5] [] h Q :=
  wl_st d77_30 rfl rfl rfl rfl (wl_st (ls' := [some (.ref 0), some (.int x1), some (.int x2), some (.int x2), u4, u5]) d77_31 rfl rfl rfl rfl (wl_ic (v := 0) d77_32 rfl (wl_st (ls' := [some (.ref 0), some (.int x1), some (.int x2), some (.int x2), some (.int (0 : Int32)), u5]) d77_33 rfl rfl rfl rfl (H))))
theorem s77_35 {sc : cmS} {d : Nat} {h : cmH} {Q : Option Value → cmH → Prop} (L : LY h) (x1 : Int32) (x2 : Int32) (x3 : Int32) (x4 : Int32) (u5 : Option Value) (H : ((((cm_I h 0 10) ≤ x4) → cm_wp sc (d + 1) 77 104 [some (.ref 0), some (.int x1), some (.int x2), some (.int x3), some (.int (0 : Int32)), u5] [] h Q) ∧ (¬ ((cm_I h 0 10) ≤ x4) → cm_cq sc d 17 [.ref 0, .int x4] h (fun r h' => cm_wp sc (d + 1) 77 50 [some (.ref 0), some (.int x1), some (.int x2), some (.int x3), some (.int x4), u5] [va_rf r] h' Q)))) : cm_wp sc (d + 1) 77 35 [some (.ref 0), some (.int x1), some (.int x2), some (.int x3), some (.int x4), u5] [] h Q :=
  wl_st d77_35 rfl rfl rfl rfl (wl_st d77_37 rfl rfl rfl rfl (wl_gf (v := .int (cm_I h 0 10)) d77_38 pf10_98 (ly_k L 0 rfl) rfl (wl_cb (b := (cm_I h 0 10) ≤ x4) (off := 60) (tgt := 101) (pc3 := 44) (st' := []) d77_41 rfl rfl rfl rfl (by decide) rfl (fun c1 => wl_ic (v := 0) d77_101 rfl (wl_st (ls' := [some (.ref 0), some (.int x1), some (.int x2), some (.int x3), some (.int (0 : Int32)), u5]) d77_102 rfl rfl rfl rfl ((H.1 c1)))) (fun c1 => wl_st d77_44 rfl rfl rfl rfl (wl_st d77_45 rfl rfl rfl rfl (wl_cq d77_47 rfl rfl rfl pm10_103 (by decide) (ca_v (Or.inl rfl) rfl (Nat.le_of_ble_eq_true rfl) (Nat.le_of_ble_eq_true rfl) (ly_k L 0 rfl).2 (ly_k L 0 rfl).1 (by decide)) (H.2 c1)))))))
theorem s77_50 {sc : cmS} {d : Nat} {h : cmH} {Q : Option Value → cmH → Prop} (L : LY h) (x1 : Int32) (x2 : Int32) (x3 : Int32) (x4 : Int32) (u5 : Option Value) (so0 : Option Nat) (H : ((so0 = none → cm_wp sc (d + 1) 77 95 [some (.ref 0), some (.int x1), some (.int x2), some (.int x3), some (.int x4), some (va_rf so0)] [] h Q) ∧ (∀ b2, so0 = some b2 → (FL h b2) ∧ cm_cj' sc d 33 [.long ((x2.toInt64) * ((cm_I h b2 11).toInt64)), .long ((cm_I h 12 1).toInt64)] h (fun r h' => cm_wp sc (d + 1) 77 83 [some (.ref 0), some (.int x1), some (.int x2), some (.int x3), some (.int x4), some (.ref b2)] [.long r, .int x1, .ref (b2 + 3)] h' Q)))) : cm_wp sc (d + 1) 77 50 [some (.ref 0), some (.int x1), some (.int x2), some (.int x3), some (.int x4), u5] [va_rf so0] h Q :=
  wl_as (k := 5) (ls' := [some (.ref 0), some (.int x1), some (.int x2), some (.int x3), some (.int x4), some (va_rf so0)]) d77_50 (Or.inl ⟨rfl, rfl⟩) (Nat.le_of_ble_eq_true rfl) rfl (wl_al (k := 5) d77_52 (Or.inl ⟨rfl, rfl⟩) rfl (wl_nu (o := so0) (tgt := 95) (pc3 := 57) d77_54 (by decide) rfl (fun c1 => (H.1 c1)) (fun b2 c1 => cm_rw (fun oo => cm_wp sc (d + 1) 77 57 [some (.ref 0), some (.int x1), some (.int x2), some (.int x3), some (.int x4), some (va_rf oo)] [] h Q) c1 (wl_st d77_57 rfl rfl rfl rfl (And.elim (fun g3 g3k => wl_gr (b := (b2 + 3)) d77_59 pf10_404 (FL.k g3) rfl (FL.r2 g3) (wl_st d77_62 rfl rfl rfl rfl (wl_st d77_63 rfl rfl rfl rfl (wl_st d77_64 rfl rfl rfl rfl (wl_st d77_65 rfl rfl rfl rfl (wl_gf (v := .int (cm_I h b2 11)) d77_67 pf10_170 (FL.k g3) rfl (wl_st d77_70 rfl rfl rfl rfl (wl_st d77_71 rfl rfl rfl rfl (wl_st d77_72 rfl rfl rfl rfl (wl_gr (b := 12) d77_73 pf10_45 (ly_k L 0 rfl) rfl (ly_r L 0 5 rfl) (wl_gf (v := .int (cm_I h 12 1)) d77_76 pf10_228 (ly_k L 12 rfl) rfl (wl_st d77_79 rfl rfl rfl rfl (wl_cj d77_80 rfl rfl rfl pm10_283 (by decide) (ca_s (Or.inl rfl) rfl (Nat.le_of_ble_eq_true rfl) (Nat.le_of_ble_eq_true rfl)) g3k))))))))))))) (H.2 b2 c1))))))
theorem s77_83 {sc : cmS} {d : Nat} {h : cmH} {Q : Option Value → cmH → Prop} (x1 : Int32) (x2 : Int32) (x3 : Int32) (x4 : Int32) (o5 : Option Nat) (sy0 : Int64) (sx1 : Int32) (sa2 : Nat) (H : (cm_ok h 13 sa2 sx1) ∧ ∃ b2, o5 = some b2 ∧ (FL h b2) ∧ (IX 8 x1) ∧ cm_wp sc d 77 95 [some (.ref 0), some (.int x1), some (.int x2), some (.int (x3 - (cm_I (cm_setI h sa2 sx1.toNatClampNeg (sy0.toInt32)) (b2 + 3) x1.toNatClampNeg))), some (.int x4), some (.ref b2)] [] (cm_setI h sa2 sx1.toNatClampNeg (sy0.toInt32)) Q) : cm_wp sc d 77 83 [some (.ref 0), some (.int x1), some (.int x2), some (.int x3), some (.int x4), some (va_rf o5)] [.long sy0, .int sx1, .ref sa2] h Q :=
  wl_st d77_83 rfl rfl rfl rfl (And.elim (fun g1 g1k => wl_if (h' := (cm_setI h sa2 sx1.toNatClampNeg (sy0.toInt32))) d77_84 rfl rfl rfl rfl g1 (wl_st d77_85 rfl rfl rfl rfl (Exists.elim g1k fun b2 b2q => And.elim (fun b2e b2k => cm_rw (fun oo => cm_wp sc d 77 86 [some (.ref 0), some (.int x1), some (.int x2), some (.int x3), some (.int x4), some (va_rf oo)] [.int x3] (cm_setI h sa2 sx1.toNatClampNeg (sy0.toInt32)) Q) b2e (wl_st d77_86 rfl rfl rfl rfl (And.elim (fun g3 g3k => wl_gr (b := (b2 + 3)) d77_88 pf10_404 (FL.k g3) rfl (FL.r2 g3) (wl_st d77_91 rfl rfl rfl rfl (And.elim (fun g4 g4k => wl_if (g := cm_ok (cm_setI h sa2 sx1.toNatClampNeg (sy0.toInt32)) 13 (b2 + 3) x1) (st' := [.int (cm_I (cm_setI h sa2 sx1.toNatClampNeg (sy0.toInt32)) (b2 + 3) x1.toNatClampNeg), .int x3]) d77_92 rfl rfl rfl rfl (FL.o2 g3 g4) (wl_st d77_93 rfl rfl rfl rfl (wl_st (ls' := [some (.ref 0), some (.int x1), some (.int x2), some (.int (x3 - (cm_I (cm_setI h sa2 sx1.toNatClampNeg (sy0.toInt32)) (b2 + 3) x1.toNatClampNeg))), some (.int x4), some (.ref b2)]) d77_94 rfl rfl rfl rfl (g4k)))) g3k))) b2k))) b2q))) H)
theorem s77_95 {sc : cmS} {d : Nat} {h : cmH} {Q : Option Value → cmH → Prop} (x1 : Int32) (x2 : Int32) (x3 : Int32) (x4 : Int32) (o5 : Option Nat) (H : cm_wp sc d 77 35 [some (.ref 0), some (.int x1), some (.int x2), some (.int x3), some (.int (x4 + 1)), some (va_rf o5)] [] h Q) : cm_wp sc d 77 95 [some (.ref 0), some (.int x1), some (.int x2), some (.int x3), some (.int x4), some (va_rf o5)] [] h Q :=
  wl_st (ls' := [some (.ref 0), some (.int x1), some (.int x2), some (.int x3), some (.int (x4 + 1)), some (va_rf o5)]) d77_95 rfl rfl rfl rfl (wl_go (tgt := 35) d77_98 (by decide) (H))
theorem s77_104 {sc : cmS} {d : Nat} {h : cmH} {Q : Option Value → cmH → Prop} (L : LY h) (x1 : Int32) (x2 : Int32) (x3 : Int32) (x4 : Int32) (u5 : Option Value) (H : ((((cm_I h 0 10) ≤ x4) → cm_wp sc (d + 1) 77 158 [some (.ref 0), some (.int x1), some (.int x2), some (.int x3), some (.int x4), u5] [] h Q) ∧ (¬ ((cm_I h 0 10) ≤ x4) → (((x3 ≤ 0) → cm_wp sc (d + 1) 77 158 [some (.ref 0), some (.int x1), some (.int x2), some (.int x3), some (.int x4), u5] [] h Q) ∧ (¬ (x3 ≤ 0) → cm_cq sc d 17 [.ref 0, .int x4] h (fun r h' => cm_wp sc (d + 1) 77 123 [some (.ref 0), some (.int x1), some (.int x2), some (.int x3), some (.int x4), u5] [va_rf r] h' Q)))))) : cm_wp sc (d + 1) 77 104 [some (.ref 0), some (.int x1), some (.int x2), some (.int x3), some (.int x4), u5] [] h Q :=
  wl_st d77_104 rfl rfl rfl rfl (wl_st d77_106 rfl rfl rfl rfl (wl_gf (v := .int (cm_I h 0 10)) d77_107 pf10_98 (ly_k L 0 rfl) rfl (wl_cb (b := (cm_I h 0 10) ≤ x4) (off := 48) (tgt := 158) (pc3 := 113) (st' := []) d77_110 rfl rfl rfl rfl (by decide) rfl (fun c1 => (H.1 c1)) (fun c1 => wl_st d77_113 rfl rfl rfl rfl (wl_cb (b := x3 ≤ 0) (off := 44) (tgt := 158) (pc3 := 117) (st' := []) d77_114 rfl rfl rfl rfl (by decide) rfl (fun c2 => ((H.2 c1).1 c2)) (fun c2 => wl_st d77_117 rfl rfl rfl rfl (wl_st d77_118 rfl rfl rfl rfl (wl_cq d77_120 rfl rfl rfl pm10_103 (by decide) (ca_v (Or.inl rfl) rfl (Nat.le_of_ble_eq_true rfl) (Nat.le_of_ble_eq_true rfl) (ly_k L 0 rfl).2 (ly_k L 0 rfl).1 (by decide)) ((H.2 c1).2 c2)))))))))
theorem s77_123 {sc : cmS} {d : Nat} {h : cmH} {Q : Option Value → cmH → Prop} (x1 : Int32) (x2 : Int32) (x3 : Int32) (x4 : Int32) (u5 : Option Value) (so0 : Option Nat) (H : ((so0 = none → cm_wp sc d 77 152 [some (.ref 0), some (.int x1), some (.int x2), some (.int x3), some (.int x4), some (va_rf so0)] [] h Q) ∧ (∀ b2, so0 = some b2 → (FL h b2) ∧ ((((cm_I h b2 11) ≤ 0) → cm_wp sc d 77 152 [some (.ref 0), some (.int x1), some (.int x2), some (.int x3), some (.int x4), some (.ref b2)] [] h Q) ∧ (¬ ((cm_I h b2 11) ≤ 0) → (IX 8 x1) ∧ cm_wp sc d 77 152 [some (.ref 0), some (.int x1), some (.int x2), some (.int (x3 + (-1))), some (.int x4), some (.ref b2)] [] (cm_setI h (b2 + 3) x1.toNatClampNeg ((cm_I h (b2 + 3) x1.toNatClampNeg) + (1 : Int32))) Q))))) : cm_wp sc d 77 123 [some (.ref 0), some (.int x1), some (.int x2), some (.int x3), some (.int x4), u5] [va_rf so0] h Q :=
  wl_as (k := 5) (ls' := [some (.ref 0), some (.int x1), some (.int x2), some (.int x3), some (.int x4), some (va_rf so0)]) d77_123 (Or.inl ⟨rfl, rfl⟩) (Nat.le_of_ble_eq_true rfl) rfl (wl_al (k := 5) d77_125 (Or.inl ⟨rfl, rfl⟩) rfl (wl_nu (o := so0) (tgt := 152) (pc3 := 130) d77_127 (by decide) rfl (fun c1 => (H.1 c1)) (fun b2 c1 => cm_rw (fun oo => cm_wp sc d 77 130 [some (.ref 0), some (.int x1), some (.int x2), some (.int x3), some (.int x4), some (va_rf oo)] [] h Q) c1 (wl_st d77_130 rfl rfl rfl rfl (And.elim (fun g3 g3k => wl_gf (v := .int (cm_I h b2 11)) d77_132 pf10_170 (FL.k g3) rfl (wl_cb (b := (cm_I h b2 11) ≤ 0) (off := 17) (tgt := 152) (pc3 := 138) (st' := []) d77_135 rfl rfl rfl rfl (by decide) rfl (fun c4 => (g3k.1 c4)) (fun c4 => wl_st d77_138 rfl rfl rfl rfl (wl_gr (b := (b2 + 3)) d77_140 pf10_404 (FL.k g3) rfl (FL.r2 g3) (wl_st d77_143 rfl rfl rfl rfl (wl_st d77_144 rfl rfl rfl rfl (And.elim (fun g5 g5k => wl_if (g := cm_ok h 13 (b2 + 3) x1) (st' := [.int (cm_I h (b2 + 3) x1.toNatClampNeg), .int x1, .ref (b2 + 3)]) d77_145 rfl rfl rfl rfl (FL.o2 g3 g5) (wl_ic (v := 1) d77_146 rfl (wl_st d77_147 rfl rfl rfl rfl (wl_if (h' := (cm_setI h (b2 + 3) x1.toNatClampNeg ((cm_I h (b2 + 3) x1.toNatClampNeg) + (1 : Int32)))) d77_148 rfl rfl rfl rfl (FL.o2 g3 g5) (wl_st (ls' := [some (.ref 0), some (.int x1), some (.int x2), some (.int (x3 + (-1))), some (.int x4), some (.ref b2)]) d77_149 rfl rfl rfl rfl (g5k)))))) (g3k.2 c4)))))))) (H.2 b2 c1))))))
theorem s77_152 {sc : cmS} {d : Nat} {h : cmH} {Q : Option Value → cmH → Prop} (x1 : Int32) (x2 : Int32) (x3 : Int32) (x4 : Int32) (o5 : Option Nat) (H : cm_wp sc d 77 104 [some (.ref 0), some (.int x1), some (.int x2), some (.int x3), some (.int (x4 + 1)), some (va_rf o5)] [] h Q) : cm_wp sc d 77 152 [some (.ref 0), some (.int x1), some (.int x2), some (.int x3), some (.int x4), some (va_rf o5)] [] h Q :=
  wl_st (ls' := [some (.ref 0), some (.int x1), some (.int x2), some (.int x3), some (.int (x4 + 1)), some (va_rf o5)]) d77_152 rfl rfl rfl rfl (wl_go (tgt := 104) d77_155 (by decide) (H))
theorem s77_158 {sc : cmS} {d : Nat} {h : cmH} {Q : Option Value → cmH → Prop} (L : LY h) (x1 : Int32) (x2 : Int32) (x3 : Int32) (x4 : Int32) (u5 : Option Value) (H : cm_cv sc d 82 [.ref 14, .int (cm_I h 0 12), .int x1, .int x3] h (fun h' => cm_wp sc (d + 1) 77 171 [some (.ref 0), some (.int x1), some (.int x2), some (.int x3), some (.int x4), u5] [] h' Q)) : cm_wp sc (d + 1) 77 158 [some (.ref 0), some (.int x1), some (.int x2), some (.int x3), some (.int x4), u5] [] h Q :=
  wl_st d77_158 rfl rfl rfl rfl (wl_gr (b := 14) d77_159 pf10_52 (ly_k L 0 rfl) rfl (ly_r L 0 6 rfl) (wl_st d77_162 rfl rfl rfl rfl (wl_gf (v := .int (cm_I h 0 12)) d77_163 pf10_234 (ly_k L 0 rfl) rfl (wl_st d77_166 rfl rfl rfl rfl (wl_st d77_167 rfl rfl rfl rfl (wl_cv d77_168 rfl rfl rfl pm10_407 (by decide) (ca_v (Or.inr rfl) rfl (Nat.le_of_ble_eq_true rfl) (Nat.le_of_ble_eq_true rfl) (ly_k L 14 rfl).2 (ly_k L 14 rfl).1 (by decide)) H))))))
theorem s77_171 {sc : cmS} {d : Nat} {h : cmH} {Q : Option Value → cmH → Prop} (x1 : Int32) (x2 : Int32) (x3 : Int32) (x4 : Int32) (u5 : Option Value) (H : cm_wp sc d 77 2 [some (.ref 0), some (.int (x1 + 1)), some (.int x2), some (.int x3), some (.int x4), u5] [] h Q) : cm_wp sc d 77 171 [some (.ref 0), some (.int x1), some (.int x2), some (.int x3), some (.int x4), u5] [] h Q :=
  wl_st (ls' := [some (.ref 0), some (.int (x1 + 1)), some (.int x2), some (.int x3), some (.int x4), u5]) d77_171 rfl rfl rfl rfl (wl_go (tgt := 2) d77_174 (by decide) (H))
-- ClogHouse.run(I)V
theorem d83_0 : decode (cm_M 83).2.2.1 0 = .ok (.aload_n 0, 1) := by decide +kernel
theorem d83_1 : decode (cm_M 83).2.2.1 1 = .ok (.iload_n 1, 1) := by decide +kernel
theorem d83_2 : decode (cm_M 83).2.2.1 2 = .ok (.invokevirtual 103, 3) := by decide +kernel
theorem d83_5 : decode (cm_M 83).2.2.1 5 = .ok (.astore_n 2, 1) := by decide +kernel
theorem d83_6 : decode (cm_M 83).2.2.1 6 = .ok (.aload_n 2, 1) := by decide +kernel
theorem d83_7 : decode (cm_M 83).2.2.1 7 = .ok (.ifnull 11, 3) := by decide +kernel
theorem d83_10 : decode (cm_M 83).2.2.1 10 = .ok (.aload_n 2, 1) := by decide +kernel
theorem d83_11 : decode (cm_M 83).2.2.1 11 = .ok (.getfield 170, 3) := by decide +kernel
theorem d83_14 : decode (cm_M 83).2.2.1 14 = .ok (.iconst 1, 1) := by decide +kernel
theorem d83_15 : decode (cm_M 83).2.2.1 15 = .ok (.if_icmp .ge 4, 3) := by decide +kernel
theorem d83_18 : decode (cm_M 83).2.2.1 18 = .ok (.return_, 1) := by decide +kernel
theorem d83_19 : decode (cm_M 83).2.2.1 19 = .ok (.aload_n 2, 1) := by decide +kernel
theorem d83_20 : decode (cm_M 83).2.2.1 20 = .ok (.invokevirtual 410, 3) := by decide +kernel
theorem d83_23 : decode (cm_M 83).2.2.1 23 = .ok (.istore_n 3, 1) := by decide +kernel
theorem d83_24 : decode (cm_M 83).2.2.1 24 = .ok (.aload_n 2, 1) := by decide +kernel
theorem d83_25 : decode (cm_M 83).2.2.1 25 = .ok (.aload_n 2, 1) := by decide +kernel
theorem d83_26 : decode (cm_M 83).2.2.1 26 = .ok (.getfield 170, 3) := by decide +kernel
theorem d83_29 : decode (cm_M 83).2.2.1 29 = .ok (.aload_n 0, 1) := by decide +kernel
theorem d83_30 : decode (cm_M 83).2.2.1 30 = .ok (.getfield 10, 3) := by decide +kernel
theorem d83_33 : decode (cm_M 83).2.2.1 33 = .ok (.invokevirtual 413, 3) := by decide +kernel
theorem d83_36 : decode (cm_M 83).2.2.1 36 = .ok (.istore 4, 2) := by decide +kernel
theorem d83_38 : decode (cm_M 83).2.2.1 38 = .ok (.iconst 0, 1) := by decide +kernel
theorem d83_39 : decode (cm_M 83).2.2.1 39 = .ok (.istore 5, 2) := by decide +kernel
theorem d83_41 : decode (cm_M 83).2.2.1 41 = .ok (.iload 5, 2) := by decide +kernel
theorem d83_43 : decode (cm_M 83).2.2.1 43 = .ok (.bipush 8, 2) := by decide +kernel
theorem d83_45 : decode (cm_M 83).2.2.1 45 = .ok (.if_icmp .ge 57, 3) := by decide +kernel
theorem d83_48 : decode (cm_M 83).2.2.1 48 = .ok (.iload 4, 2) := by decide +kernel
theorem d83_50 : decode (cm_M 83).2.2.1 50 = .ok (.ifCond .eq 26, 3) := by decide +kernel
theorem d83_53 : decode (cm_M 83).2.2.1 53 = .ok (.aload_n 0, 1) := by decide +kernel
theorem d83_54 : decode (cm_M 83).2.2.1 54 = .ok (.getfield 52, 3) := by decide +kernel
theorem d83_57 : decode (cm_M 83).2.2.1 57 = .ok (.aload_n 0, 1) := by decide +kernel
theorem d83_58 : decode (cm_M 83).2.2.1 58 = .ok (.getfield 234, 3) := by decide +kernel
theorem d83_61 : decode (cm_M 83).2.2.1 61 = .ok (.iload 5, 2) := by decide +kernel
theorem d83_63 : decode (cm_M 83).2.2.1 63 = .ok (.aload_n 2, 1) := by decide +kernel
theorem d83_64 : decode (cm_M 83).2.2.1 64 = .ok (.getfield 404, 3) := by decide +kernel
theorem d83_67 : decode (cm_M 83).2.2.1 67 = .ok (.iload 5, 2) := by decide +kernel
theorem d83_69 : decode (cm_M 83).2.2.1 69 = .ok (.iaload, 1) := by decide +kernel
theorem d83_70 : decode (cm_M 83).2.2.1 70 = .ok (.invokevirtual 417, 3) := by decide +kernel
theorem d83_73 : decode (cm_M 83).2.2.1 73 = .ok (.goto 23, 3) := by decide +kernel
theorem d83_76 : decode (cm_M 83).2.2.1 76 = .ok (.aload_n 0, 1) := by decide +kernel
theorem d83_77 : decode (cm_M 83).2.2.1 77 = .ok (.getfield 52, 3) := by decide +kernel
theorem d83_80 : decode (cm_M 83).2.2.1 80 = .ok (.aload_n 0, 1) := by decide +kernel
theorem d83_81 : decode (cm_M 83).2.2.1 81 = .ok (.getfield 234, 3) := by decide +kernel
theorem d83_84 : decode (cm_M 83).2.2.1 84 = .ok (.iload 5, 2) := by decide +kernel
theorem d83_86 : decode (cm_M 83).2.2.1 86 = .ok (.aload_n 2, 1) := by decide +kernel
theorem d83_87 : decode (cm_M 83).2.2.1 87 = .ok (.getfield 404, 3) := by decide +kernel
theorem d83_90 : decode (cm_M 83).2.2.1 90 = .ok (.iload 5, 2) := by decide +kernel
theorem d83_92 : decode (cm_M 83).2.2.1 92 = .ok (.iaload, 1) := by decide +kernel
theorem d83_93 : decode (cm_M 83).2.2.1 93 = .ok (.invokevirtual 407, 3) := by decide +kernel
theorem d83_96 : decode (cm_M 83).2.2.1 96 = .ok (.iinc 5 1, 3) := by decide +kernel
theorem d83_99 : decode (cm_M 83).2.2.1 99 = .ok (.goto (-58), 3) := by decide +kernel
theorem d83_102 : decode (cm_M 83).2.2.1 102 = .ok (.iload 4, 2) := by decide +kernel
theorem d83_104 : decode (cm_M 83).2.2.1 104 = .ok (.ifCond .eq 23, 3) := by decide +kernel
theorem d83_107 : decode (cm_M 83).2.2.1 107 = .ok (.aload_n 2, 1) := by decide +kernel
theorem d83_108 : decode (cm_M 83).2.2.1 108 = .ok (.aload_n 2, 1) := by decide +kernel
theorem d83_109 : decode (cm_M 83).2.2.1 109 = .ok (.invokevirtual 410, 3) := by decide +kernel
theorem d83_112 : decode (cm_M 83).2.2.1 112 = .ok (.putfield 176, 3) := by decide +kernel
theorem d83_115 : decode (cm_M 83).2.2.1 115 = .ok (.aload_n 2, 1) := by decide +kernel
theorem d83_116 : decode (cm_M 83).2.2.1 116 = .ok (.aload_n 0, 1) := by decide +kernel
theorem d83_117 : decode (cm_M 83).2.2.1 117 = .ok (.getfield 234, 3) := by decide +kernel
theorem d83_120 : decode (cm_M 83).2.2.1 120 = .ok (.iload_n 3, 1) := by decide +kernel
theorem d83_121 : decode (cm_M 83).2.2.1 121 = .ok (.invokevirtual 420, 3) := by decide +kernel
theorem d83_124 : decode (cm_M 83).2.2.1 124 = .ok (.goto 8, 3) := by decide +kernel
theorem d83_127 : decode (cm_M 83).2.2.1 127 = .ok (.aload_n 2, 1) := by decide +kernel
theorem d83_128 : decode (cm_M 83).2.2.1 128 = .ok (.iconst 1, 1) := by decide +kernel
theorem d83_129 : decode (cm_M 83).2.2.1 129 = .ok (.putfield 394, 3) := by decide +kernel
theorem d83_132 : decode (cm_M 83).2.2.1 132 = .ok (.return_, 1) := by decide +kernel
theorem s83_0 {sc : cmS} {d : Nat} {h : cmH} {Q : Option Value → cmH → Prop} (L : LY h) (x1 : Int32) (u2 : Option Value) (u3 : Option Value) (u4 : Option Value) (u5 : Option Value) (H : cm_cq sc d 17 [.ref 0, .int x1] h (fun r h' => cm_wp sc (d + 1) 83 5 [some (.ref 0), some (.int x1), u2, u3, u4, u5] [va_rf r] h' Q)) : cm_wp sc (d + 1) 83 0 [some (.ref 0), some (.int x1), u2, u3, u4, u5] [] h Q :=
  wl_st d83_0 rfl rfl rfl rfl (wl_st d83_1 rfl rfl rfl rfl (wl_cq d83_2 rfl rfl rfl pm10_103 (by decide) (ca_v (Or.inl rfl) rfl (Nat.le_of_ble_eq_true rfl) (Nat.le_of_ble_eq_true rfl) (ly_k L 0 rfl).2 (ly_k L 0 rfl).1 (by decide)) H))
theorem s83_5 {sc : cmS} {d : Nat} {h : cmH} {Q : Option Value → cmH → Prop} (x1 : Int32) (u2 : Option Value) (u3 : Option Value) (u4 : Option Value) (u5 : Option Value) (so0 : Option Nat) (H : ((so0 = none → Q none h) ∧ (∀ b2, so0 = some b2 → (FL h b2) ∧ ((((1 : Int32) ≤ (cm_I h b2 11)) → cm_ci sc d 84 [.ref b2] h (fun r h' => cm_wp sc (d + 1) 83 23 [some (.ref 0), some (.int x1), some (.ref b2), u3, u4, u5] [.int r] h' Q)) ∧ (¬ ((1 : Int32) ≤ (cm_I h b2 11)) → Q none h))))) : cm_wp sc (d + 1) 83 5 [some (.ref 0), some (.int x1), u2, u3, u4, u5] [va_rf so0] h Q :=
  wl_as (k := 2) (ls' := [some (.ref 0), some (.int x1), some (va_rf so0), u3, u4, u5]) d83_5 (Or.inr ⟨⟨_, rfl, rfl⟩, rfl⟩) (Nat.le_of_ble_eq_true rfl) rfl (wl_al (k := 2) d83_6 (Or.inr ⟨⟨_, rfl, rfl⟩, rfl⟩) rfl (wl_nu (o := so0) (tgt := 18) (pc3 := 10) d83_7 (by decide) rfl (fun c1 => wl_rt d83_18 rfl rfl rfl (H.1 c1)) (fun b2 c1 => cm_rw (fun oo => cm_wp sc (d + 1) 83 10 [some (.ref 0), some (.int x1), some (va_rf oo), u3, u4, u5] [] h Q) c1 (wl_st d83_10 rfl rfl rfl rfl (And.elim (fun g3 g3k => wl_gf (v := .int (cm_I h b2 11)) d83_11 pf10_170 (FL.k g3) rfl (wl_ic (v := 1) d83_14 rfl (wl_cb (b := (1 : Int32) ≤ (cm_I h b2 11)) (off := 4) (tgt := 19) (pc3 := 18) (st' := []) d83_15 rfl rfl rfl rfl (by decide) rfl (fun c4 => wl_st d83_19 rfl rfl rfl rfl (wl_ci d83_20 rfl rfl rfl pm10_410 (by decide) (ca_v (Or.inr rfl) rfl (Nat.le_of_ble_eq_true rfl) (Nat.le_of_ble_eq_true rfl) (FL.k g3).2 (FL.k g3).1 (by decide)) (g3k.1 c4))) (fun c4 => wl_rt d83_18 rfl rfl rfl (g3k.2 c4))))) (H.2 b2 c1))))))
theorem s83_23 {sc : cmS} {d : Nat} {h : cmH} {Q : Option Value → cmH → Prop} (L : LY h) (x1 : Int32) (o2 : Option Nat) (u3 : Option Value) (u4 : Option Value) (u5 : Option Value) (sx0 : Int32) (H : ∃ b1, o2 = some b1 ∧ (FL h b1) ∧ cm_ci sc d 85 [.ref b1, .int (cm_I h b1 11), .ref 1] h (fun r h' => cm_wp sc (d + 1) 83 36 [some (.ref 0), some (.int x1), some (.ref b1), some (.int sx0), u4, u5] [.int r] h' Q)) : cm_wp sc (d + 1) 83 23 [some (.ref 0), some (.int x1), some (va_rf o2), u3, u4, u5] [.int sx0] h Q :=
  wl_isn (ls' := [some (.ref 0), some (.int x1), some (va_rf o2), some (.int sx0), u4, u5]) d83_23 (Nat.le_of_ble_eq_true rfl) (by simp [cm_ls1, cm_ls2, cm_clr, cm_isJq]) (Exists.elim H fun b1 b1q => And.elim (fun b1e b1k => cm_rw (fun oo => cm_wp sc (d + 1) 83 24 [some (.ref 0), some (.int x1), some (va_rf oo), some (.int sx0), u4, u5] [] h Q) b1e (wl_st d83_24 rfl rfl rfl rfl (wl_st d83_25 rfl rfl rfl rfl (And.elim (fun g2 g2k => wl_gf (v := .int (cm_I h b1 11)) d83_26 pf10_170 (FL.k g2) rfl (wl_st d83_29 rfl rfl rfl rfl (wl_gr (b := 1) d83_30 pf10_10 (ly_k L 0 rfl) rfl (ly_r L 0 0 rfl) (wl_ci d83_33 rfl rfl rfl pm10_413 (by decide) (ca_v (Or.inr rfl) rfl (Nat.le_of_ble_eq_true rfl) (Nat.le_of_ble_eq_true rfl) (FL.k g2).2 (FL.k g2).1 (by decide)) g2k)))) b1k)))) b1q)
theorem s83_36 {sc : cmS} {d : Nat} {h : cmH} {Q : Option Value → cmH → Prop} (x1 : Int32) (o2 : Option Nat) (x3 : Int32) (u4 : Option Value) (u5 : Option Value) (sx0 : Int32) (H : cm_wp sc d 83 41 [some (.ref 0), some (.int x1), some (va_rf o2), some (.int x3), some (.int sx0), some (.int (0 : Int32))] [] h Q) : cm_wp sc d 83 36 [some (.ref 0), some (.int x1), some (va_rf o2), some (.int x3), u4, u5] [.int sx0] h Q :=
  wl_st (ls' := [some (.ref 0), some (.int x1), some (va_rf o2), some (.int x3), some (.int sx0), u5]) d83_36 rfl rfl rfl rfl (wl_ic (v := 0) d83_38 rfl (wl_st (ls' := [some (.ref 0), some (.int x1), some (va_rf o2), some (.int x3), some (.int sx0), some (.int (0 : Int32))]) d83_39 rfl rfl rfl rfl (H)))
theorem s83_41 {sc : cmS} {d : Nat} {h : cmH} {Q : Option Value → cmH → Prop} (L : LY h) (x1 : Int32) (o2 : Option Nat) (x3 : Int32) (x4 : Int32) (x5 : Int32) (H : ((((8 : Int32) ≤ x5) → (((x4 = 0) → ∃ b3, o2 = some b3 ∧ (FL h b3) ∧ Q none (cm_setI h b3 19 (1 : Int32))) ∧ (¬ (x4 = 0) → ∃ b5, o2 = some b5 ∧ (FL h b5) ∧ cm_ci sc d 84 [.ref b5] h (fun r h' => cm_wp sc (d + 1) 83 112 [some (.ref 0), some (.int x1), some (.ref b5), some (.int x3), some (.int x4), some (.int x5)] [.int r, .ref b5] h' Q)))) ∧ (¬ ((8 : Int32) ≤ x5) → (((x4 = 0) → ∃ b8, o2 = some b8 ∧ (FL h b8) ∧ (IX 8 x5) ∧ cm_cv sc d 82 [.ref 14, .int (cm_I h 0 12), .int x5, .int (cm_I h (b8 + 3) x5.toNatClampNeg)] h (fun h' => cm_wp sc (d + 1) 83 96 [some (.ref 0), some (.int x1), some (.ref b8), some (.int x3), some (.int x4), some (.int x5)] [] h' Q)) ∧ (¬ (x4 = 0) → ∃ b11, o2 = some b11 ∧ (FL h b11) ∧ (IX 8 x5) ∧ cm_cv sc d 87 [.ref 14, .int (cm_I h 0 12), .int x5, .int (cm_I h (b11 + 3) x5.toNatClampNeg)] h (fun h' => cm_wp sc (d + 1) 83 73 [some (.ref 0), some (.int x1), some (.ref b11), some (.int x3), some (.int x4), some (.int x5)] [] h' Q)))))) : cm_wp sc (d + 1) 83 41 [some (.ref 0), some (.int x1), some (va_rf o2), some (.int x3), some (.int x4), some (.int x5)] [] h Q :=
  wl_st d83_41 rfl rfl rfl rfl (wl_bi (v := 8) d83_43 rfl (wl_cb (b := (8 : Int32) ≤ x5) (off := 57) (tgt := 102) (pc3 := 48) (st' := []) d83_45 rfl rfl rfl rfl (by decide) rfl (fun c1 => wl_st d83_102 rfl rfl rfl rfl (wl_cb (b := x4 = 0) (off := 23) (tgt := 127) (pc3 := 107) (st' := []) d83_104 rfl rfl rfl rfl (by decide) rfl (fun c2 => Exists.elim ((H.1 c1).1 c2) fun b3 b3q => And.elim (fun b3e b3k => cm_rw (fun oo => cm_wp sc (d + 1) 83 127 [some (.ref 0), some (.int x1), some (va_rf oo), some (.int x3), some (.int x4), some (.int x5)] [] h Q) b3e (wl_st d83_127 rfl rfl rfl rfl (wl_ic (v := 1) d83_128 rfl (And.elim (fun g4 g4k => wl_pf (h' := (cm_setI h b3 19 (1 : Int32))) d83_129 pf10_394 (FL.k g4) (Or.inl rfl) (cm_pvZ (by decide)) (wl_rt d83_132 rfl rfl rfl g4k)) b3k)))) b3q) (fun c2 => Exists.elim ((H.1 c1).2 c2) fun b5 b5q => And.elim (fun b5e b5k => cm_rw (fun oo => cm_wp sc (d + 1) 83 107 [some (.ref 0), some (.int x1), some (va_rf oo), some (.int x3), some (.int x4), some (.int x5)] [] h Q) b5e (wl_st d83_107 rfl rfl rfl rfl (wl_st d83_108 rfl rfl rfl rfl (And.elim (fun g6 g6k => wl_ci d83_109 rfl rfl rfl pm10_410 (by decide) (ca_v (Or.inr rfl) rfl (Nat.le_of_ble_eq_true rfl) (Nat.le_of_ble_eq_true rfl) (FL.k g6).2 (FL.k g6).1 (by decide)) g6k) b5k)))) b5q))) (fun c1 => wl_st d83_48 rfl rfl rfl rfl (wl_cb (b := x4 = 0) (off := 26) (tgt := 76) (pc3 := 53) (st' := []) d83_50 rfl rfl rfl rfl (by decide) rfl (fun c7 => wl_st d83_76 rfl rfl rfl rfl (wl_gr (b := 14) d83_77 pf10_52 (ly_k L 0 rfl) rfl (ly_r L 0 6 rfl) (wl_st d83_80 rfl rfl rfl rfl (wl_gf (v := .int (cm_I h 0 12)) d83_81 pf10_234 (ly_k L 0 rfl) rfl (wl_st d83_84 rfl rfl rfl rfl (Exists.elim ((H.2 c1).1 c7) fun b8 b8q => And.elim (fun b8e b8k => cm_rw (fun oo => cm_wp sc (d + 1) 83 86 [some (.ref 0), some (.int x1), some (va_rf oo), some (.int x3), some (.int x4), some (.int x5)] [.int x5, .int (cm_I h 0 12), .ref 14] h Q) b8e (wl_st d83_86 rfl rfl rfl rfl (And.elim (fun g9 g9k => wl_gr (b := (b8 + 3)) d83_87 pf10_404 (FL.k g9) rfl (FL.r2 g9) (wl_st d83_90 rfl rfl rfl rfl (And.elim (fun g10 g10k => wl_if (g := cm_ok h 13 (b8 + 3) x5) (st' := [.int (cm_I h (b8 + 3) x5.toNatClampNeg), .int x5, .int (cm_I h 0 12), .ref 14]) d83_92 rfl rfl rfl rfl (FL.o2 g9 g10) (wl_cv d83_93 rfl rfl rfl pm10_407 (by decide) (ca_v (Or.inr rfl) rfl (Nat.le_of_ble_eq_true rfl) (Nat.le_of_ble_eq_true rfl) (ly_k L 14 rfl).2 (ly_k L 14 rfl).1 (by decide)) g10k)) g9k))) b8k))) b8q)))))) (fun c7 => wl_st d83_53 rfl rfl rfl rfl (wl_gr (b := 14) d83_54 pf10_52 (ly_k L 0 rfl) rfl (ly_r L 0 6 rfl) (wl_st d83_57 rfl rfl rfl rfl (wl_gf (v := .int (cm_I h 0 12)) d83_58 pf10_234 (ly_k L 0 rfl) rfl (wl_st d83_61 rfl rfl rfl rfl (Exists.elim ((H.2 c1).2 c7) fun b11 b11q => And.elim (fun b11e b11k => cm_rw (fun oo => cm_wp sc (d + 1) 83 63 [some (.ref 0), some (.int x1), some (va_rf oo), some (.int x3), some (.int x4), some (.int x5)] [.int x5, .int (cm_I h 0 12), .ref 14] h Q) b11e (wl_st d83_63 rfl rfl rfl rfl (And.elim (fun g12 g12k => wl_gr (b := (b11 + 3)) d83_64 pf10_404 (FL.k g12) rfl (FL.r2 g12) (wl_st d83_67 rfl rfl rfl rfl (And.elim (fun g13 g13k => wl_if (g := cm_ok h 13 (b11 + 3) x5) (st' := [.int (cm_I h (b11 + 3) x5.toNatClampNeg), .int x5, .int (cm_I h 0 12), .ref 14]) d83_69 rfl rfl rfl rfl (FL.o2 g12 g13) (wl_cv d83_70 rfl rfl rfl pm10_417 (by decide) (ca_v (Or.inr rfl) rfl (Nat.le_of_ble_eq_true rfl) (Nat.le_of_ble_eq_true rfl) (ly_k L 14 rfl).2 (ly_k L 14 rfl).1 (by decide)) g13k)) g12k))) b11k))) b11q))))))))))
theorem s83_73 {sc : cmS} {d : Nat} {h : cmH} {Q : Option Value → cmH → Prop} (x1 : Int32) (o2 : Option Nat) (x3 : Int32) (x4 : Int32) (x5 : Int32) (H : cm_wp sc d 83 96 [some (.ref 0), some (.int x1), some (va_rf o2), some (.int x3), some (.int x4), some (.int x5)] [] h Q) : cm_wp sc d 83 73 [some (.ref 0), some (.int x1), some (va_rf o2), some (.int x3), some (.int x4), some (.int x5)] [] h Q :=
  wl_go (tgt := 96) d83_73 (by decide) (H)
theorem s83_96 {sc : cmS} {d : Nat} {h : cmH} {Q : Option Value → cmH → Prop} (x1 : Int32) (o2 : Option Nat) (x3 : Int32) (x4 : Int32) (x5 : Int32) (H : cm_wp sc d 83 41 [some (.ref 0), some (.int x1), some (va_rf o2), some (.int x3), some (.int x4), some (.int (x5 + 1))] [] h Q) : cm_wp sc d 83 96 [some (.ref 0), some (.int x1), some (va_rf o2), some (.int x3), some (.int x4), some (.int x5)] [] h Q :=
  wl_st (ls' := [some (.ref 0), some (.int x1), some (va_rf o2), some (.int x3), some (.int x4), some (.int (x5 + 1))]) d83_96 rfl rfl rfl rfl (wl_go (tgt := 41) d83_99 (by decide) (H))
theorem s83_112 {sc : cmS} {d : Nat} {h : cmH} {Q : Option Value → cmH → Prop} (L : LY h) (x1 : Int32) (o2 : Option Nat) (x3 : Int32) (x4 : Int32) (x5 : Int32) (sx0 : Int32) (so1 : Option Nat) (H : ∃ b1, so1 = some b1 ∧ (FL h b1) ∧ ∃ b3, o2 = some b3 ∧ (FL h b3) ∧ cm_cv sc d 88 [.ref b3, .int (cm_I (cm_setI h b1 13 sx0) 0 12), .int x3] (cm_setI h b1 13 sx0) (fun h' => cm_wp sc (d + 1) 83 124 [some (.ref 0), some (.int x1), some (.ref b3), some (.int x3), some (.int x4), some (.int x5)] [] h' Q)) : cm_wp sc (d + 1) 83 112 [some (.ref 0), some (.int x1), some (va_rf o2), some (.int x3), some (.int x4), some (.int x5)] [.int sx0, va_rf so1] h Q :=
  Exists.elim H fun b1 b1q => And.elim (fun b1e b1k => cm_rw (fun oo => cm_wp sc (d + 1) 83 112 [some (.ref 0), some (.int x1), some (va_rf o2), some (.int x3), some (.int x4), some (.int x5)] [.int sx0, va_rf oo] h Q) b1e (And.elim (fun g2 g2k => wl_pf (h' := (cm_setI h b1 13 sx0)) d83_112 pf10_176 (FL.k g2) (Or.inl rfl) rfl (Exists.elim g2k fun b3 b3q => And.elim (fun b3e b3k => cm_rw (fun oo => cm_wp sc (d + 1) 83 115 [some (.ref 0), some (.int x1), some (va_rf oo), some (.int x3), some (.int x4), some (.int x5)] [] (cm_setI h b1 13 sx0) Q) b3e (wl_st d83_115 rfl rfl rfl rfl (wl_st d83_116 rfl rfl rfl rfl (wl_gf (v := .int (cm_I (cm_setI h b1 13 sx0) 0 12)) d83_117 pf10_234 (ly_k L 0 rfl) rfl (wl_st d83_120 rfl rfl rfl rfl (And.elim (fun g4 g4k => wl_cv d83_121 rfl rfl rfl pm10_420 (by decide) (ca_v (Or.inr rfl) rfl (Nat.le_of_ble_eq_true rfl) (Nat.le_of_ble_eq_true rfl) (FL.k g4).2 (FL.k g4).1 (by decide)) g4k) b3k)))))) b3q)) b1k)) b1q
theorem s83_124 {sc : cmS} {d : Nat} {h : cmH} {Q : Option Value → cmH → Prop} (x1 : Int32) (o2 : Option Nat) (x3 : Int32) (x4 : Int32) (x5 : Int32) (H : Q none h) : cm_wp sc d 83 124 [some (.ref 0), some (.int x1), some (va_rf o2), some (.int x3), some (.int x4), some (.int x5)] [] h Q :=
  wl_go (tgt := 132) d83_124 (by decide) (wl_rt d83_132 rfl rfl rfl H)
-- ClogHouse.closeHour(I)V
theorem d89_0 : decode (cm_M 89).2.2.1 0 = .ok (.aload_n 0, 1) := by decide +kernel
theorem d89_1 : decode (cm_M 89).2.2.1 1 = .ok (.iload_n 1, 1) := by decide +kernel
theorem d89_2 : decode (cm_M 89).2.2.1 2 = .ok (.invokevirtual 103, 3) := by decide +kernel
theorem d89_5 : decode (cm_M 89).2.2.1 5 = .ok (.astore_n 2, 1) := by decide +kernel
theorem d89_6 : decode (cm_M 89).2.2.1 6 = .ok (.aload_n 2, 1) := by decide +kernel
theorem d89_7 : decode (cm_M 89).2.2.1 7 = .ok (.ifnonnull 4, 3) := by decide +kernel
theorem d89_10 : decode (cm_M 89).2.2.1 10 = .ok (.return_, 1) := by decide +kernel
theorem d89_11 : decode (cm_M 89).2.2.1 11 = .ok (.aload_n 2, 1) := by decide +kernel
theorem d89_12 : decode (cm_M 89).2.2.1 12 = .ok (.getfield 155, 3) := by decide +kernel
theorem d89_15 : decode (cm_M 89).2.2.1 15 = .ok (.iconst 1, 1) := by decide +kernel
theorem d89_16 : decode (cm_M 89).2.2.1 16 = .ok (.if_icmp .eq 11, 3) := by decide +kernel
theorem d89_19 : decode (cm_M 89).2.2.1 19 = .ok (.aload_n 2, 1) := by decide +kernel
theorem d89_20 : decode (cm_M 89).2.2.1 20 = .ok (.getfield 155, 3) := by decide +kernel
theorem d89_23 : decode (cm_M 89).2.2.1 23 = .ok (.iconst 3, 1) := by decide +kernel
theorem d89_24 : decode (cm_M 89).2.2.1 24 = .ok (.if_icmp .ne 13, 3) := by decide +kernel
theorem d89_27 : decode (cm_M 89).2.2.1 27 = .ok (.aload_n 2, 1) := by decide +kernel
theorem d89_28 : decode (cm_M 89).2.2.1 28 = .ok (.dup, 1) := by decide +kernel
theorem d89_29 : decode (cm_M 89).2.2.1 29 = .ok (.getfield 158, 3) := by decide +kernel
theorem d89_32 : decode (cm_M 89).2.2.1 32 = .ok (.iconst 1, 1) := by decide +kernel
theorem d89_33 : decode (cm_M 89).2.2.1 33 = .ok (.iadd, 1) := by decide +kernel
theorem d89_34 : decode (cm_M 89).2.2.1 34 = .ok (.putfield 158, 3) := by decide +kernel
theorem d89_37 : decode (cm_M 89).2.2.1 37 = .ok (.aload_n 2, 1) := by decide +kernel
theorem d89_38 : decode (cm_M 89).2.2.1 38 = .ok (.getfield 394, 3) := by decide +kernel
theorem d89_41 : decode (cm_M 89).2.2.1 41 = .ok (.ifCond .eq 13, 3) := by decide +kernel
theorem d89_44 : decode (cm_M 89).2.2.1 44 = .ok (.aload_n 2, 1) := by decide +kernel
theorem d89_45 : decode (cm_M 89).2.2.1 45 = .ok (.iconst 4, 1) := by decide +kernel
theorem d89_46 : decode (cm_M 89).2.2.1 46 = .ok (.putfield 155, 3) := by decide +kernel
theorem d89_49 : decode (cm_M 89).2.2.1 49 = .ok (.aload_n 2, 1) := by decide +kernel
theorem d89_50 : decode (cm_M 89).2.2.1 50 = .ok (.iconst 0, 1) := by decide +kernel
theorem d89_51 : decode (cm_M 89).2.2.1 51 = .ok (.putfield 394, 3) := by decide +kernel
theorem d89_54 : decode (cm_M 89).2.2.1 54 = .ok (.return_, 1) := by decide +kernel
theorem s89_0 {sc : cmS} {d : Nat} {h : cmH} {Q : Option Value → cmH → Prop} (L : LY h) (x1 : Int32) (u2 : Option Value) (H : cm_cq sc d 17 [.ref 0, .int x1] h (fun r h' => cm_wp sc (d + 1) 89 5 [some (.ref 0), some (.int x1), u2] [va_rf r] h' Q)) : cm_wp sc (d + 1) 89 0 [some (.ref 0), some (.int x1), u2] [] h Q :=
  wl_st d89_0 rfl rfl rfl rfl (wl_st d89_1 rfl rfl rfl rfl (wl_cq d89_2 rfl rfl rfl pm10_103 (by decide) (ca_v (Or.inl rfl) rfl (Nat.le_of_ble_eq_true rfl) (Nat.le_of_ble_eq_true rfl) (ly_k L 0 rfl).2 (ly_k L 0 rfl).1 (by decide)) H))
theorem s89_5 {sc : cmS} {d : Nat} {h : cmH} {Q : Option Value → cmH → Prop} (x1 : Int32) (u2 : Option Value) (so0 : Option Nat) (H : ((so0 = none → Q none h) ∧ (∀ b2, so0 = some b2 → (FL h b2) ∧ ((((cm_I h b2 8) = (1 : Int32)) → cm_wp sc d 89 27 [some (.ref 0), some (.int x1), some (.ref b2)] [] h Q) ∧ (¬ ((cm_I h b2 8) = (1 : Int32)) → (((¬ (cm_I h b2 8) = (3 : Int32)) → cm_wp sc d 89 37 [some (.ref 0), some (.int x1), some (.ref b2)] [] h Q) ∧ (¬ (¬ (cm_I h b2 8) = (3 : Int32)) → cm_wp sc d 89 27 [some (.ref 0), some (.int x1), some (.ref b2)] [] h Q))))))) : cm_wp sc d 89 5 [some (.ref 0), some (.int x1), u2] [va_rf so0] h Q :=
  wl_as (k := 2) (ls' := [some (.ref 0), some (.int x1), some (va_rf so0)]) d89_5 (Or.inr ⟨⟨_, rfl, rfl⟩, rfl⟩) (Nat.le_of_ble_eq_true rfl) rfl (wl_al (k := 2) d89_6 (Or.inr ⟨⟨_, rfl, rfl⟩, rfl⟩) rfl (wl_nn (o := so0) (tgt := 11) (pc3 := 10) d89_7 (by decide) rfl (fun b2 c1 => cm_rw (fun oo => cm_wp sc d 89 11 [some (.ref 0), some (.int x1), some (va_rf oo)] [] h Q) c1 (wl_st d89_11 rfl rfl rfl rfl (And.elim (fun g3 g3k => wl_gf (v := .int (cm_I h b2 8)) d89_12 pf10_155 (FL.k g3) rfl (wl_ic (v := 1) d89_15 rfl (wl_cb (b := (cm_I h b2 8) = (1 : Int32)) (off := 11) (tgt := 27) (pc3 := 19) (st' := []) d89_16 rfl rfl rfl rfl (by decide) rfl (fun c4 => (g3k.1 c4)) (fun c4 => wl_st d89_19 rfl rfl rfl rfl (wl_gf (v := .int (cm_I h b2 8)) d89_20 pf10_155 (FL.k g3) rfl (wl_ic (v := 3) d89_23 rfl (wl_cb (b := ¬ (cm_I h b2 8) = (3 : Int32)) (off := 13) (tgt := 37) (pc3 := 27) (st' := []) d89_24 rfl rfl rfl rfl (by decide) rfl (fun c5 => ((g3k.2 c4).1 c5)) (fun c5 => ((g3k.2 c4).2 c5))))))))) (H.2 b2 c1)))) (fun c1 => wl_rt d89_10 rfl rfl rfl (H.1 c1))))
theorem s89_27 {sc : cmS} {d : Nat} {h : cmH} {Q : Option Value → cmH → Prop} (x1 : Int32) (o2 : Option Nat) (H : ∃ b1, o2 = some b1 ∧ (FL h b1) ∧ cm_wp sc d 89 37 [some (.ref 0), some (.int x1), some (.ref b1)] [] (cm_setI h b1 9 ((cm_I h b1 9) + (1 : Int32))) Q) : cm_wp sc d 89 27 [some (.ref 0), some (.int x1), some (va_rf o2)] [] h Q :=
  Exists.elim H fun b1 b1q => And.elim (fun b1e b1k => cm_rw (fun oo => cm_wp sc d 89 27 [some (.ref 0), some (.int x1), some (va_rf oo)] [] h Q) b1e (wl_st d89_27 rfl rfl rfl rfl (wl_st d89_28 rfl rfl rfl rfl (And.elim (fun g2 g2k => wl_gf (v := .int (cm_I h b1 9)) d89_29 pf10_158 (FL.k g2) rfl (wl_ic (v := 1) d89_32 rfl (wl_st d89_33 rfl rfl rfl rfl (wl_pf (h' := (cm_setI h b1 9 ((cm_I h b1 9) + (1 : Int32)))) d89_34 pf10_158 (FL.k g2) (Or.inl rfl) rfl (g2k))))) b1k)))) b1q
theorem s89_37 {sc : cmS} {d : Nat} {h : cmH} {Q : Option Value → cmH → Prop} (x1 : Int32) (o2 : Option Nat) (H : ∃ b1, o2 = some b1 ∧ (FL h b1) ∧ ((((cm_I h b1 19) = 0) → Q none h) ∧ (¬ ((cm_I h b1 19) = 0) → Q none (cm_setI (cm_setI h b1 8 (4 : Int32)) b1 19 (0 : Int32))))) : cm_wp sc d 89 37 [some (.ref 0), some (.int x1), some (va_rf o2)] [] h Q :=
  Exists.elim H fun b1 b1q => And.elim (fun b1e b1k => cm_rw (fun oo => cm_wp sc d 89 37 [some (.ref 0), some (.int x1), some (va_rf oo)] [] h Q) b1e (wl_st d89_37 rfl rfl rfl rfl (And.elim (fun g2 g2k => wl_gf (v := .int (cm_I h b1 19)) d89_38 pf10_394 (FL.k g2) rfl (wl_cb (b := (cm_I h b1 19) = 0) (off := 13) (tgt := 54) (pc3 := 44) (st' := []) d89_41 rfl rfl rfl rfl (by decide) rfl (fun c3 => wl_rt d89_54 rfl rfl rfl (g2k.1 c3)) (fun c3 => wl_st d89_44 rfl rfl rfl rfl (wl_ic (v := 4) d89_45 rfl (wl_pf (h' := (cm_setI h b1 8 (4 : Int32))) d89_46 pf10_155 (FL.k g2) (Or.inl rfl) rfl (wl_st d89_49 rfl rfl rfl rfl (wl_ic (v := 0) d89_50 rfl (wl_pf (h' := (cm_setI (cm_setI h b1 8 (4 : Int32)) b1 19 (0 : Int32))) d89_51 pf10_394 (FL.k g2) (Or.inl rfl) (cm_pvZ (by decide)) (wl_rt d89_54 rfl rfl rfl (g2k.2 c3)))))))))) b1k))) b1q
-- ClogHouse.hand(II)Z
theorem d90_0 : decode (cm_M 90).2.2.1 0 = .ok (.aload_n 0, 1) := by decide +kernel
theorem d90_1 : decode (cm_M 90).2.2.1 1 = .ok (.iload_n 1, 1) := by decide +kernel
theorem d90_2 : decode (cm_M 90).2.2.1 2 = .ok (.invokevirtual 103, 3) := by decide +kernel
theorem d90_5 : decode (cm_M 90).2.2.1 5 = .ok (.astore_n 3, 1) := by decide +kernel
theorem d90_6 : decode (cm_M 90).2.2.1 6 = .ok (.aload_n 3, 1) := by decide +kernel
theorem d90_7 : decode (cm_M 90).2.2.1 7 = .ok (.ifnull 12, 3) := by decide +kernel
theorem d90_10 : decode (cm_M 90).2.2.1 10 = .ok (.iload_n 2, 1) := by decide +kernel
theorem d90_11 : decode (cm_M 90).2.2.1 11 = .ok (.iconst 0, 1) := by decide +kernel
theorem d90_12 : decode (cm_M 90).2.2.1 12 = .ok (.iconst 2, 1) := by decide +kernel
theorem d90_13 : decode (cm_M 90).2.2.1 13 = .ok (.invokestatic 81, 3) := by decide +kernel
theorem d90_16 : decode (cm_M 90).2.2.1 16 = .ok (.ifCond .ne 5, 3) := by decide +kernel
theorem d90_19 : decode (cm_M 90).2.2.1 19 = .ok (.iconst 0, 1) := by decide +kernel
theorem d90_20 : decode (cm_M 90).2.2.1 20 = .ok (.ireturn, 1) := by decide +kernel
theorem d90_21 : decode (cm_M 90).2.2.1 21 = .ok (.iload_n 2, 1) := by decide +kernel
theorem d90_22 : decode (cm_M 90).2.2.1 22 = .ok (.ifCond .ne 18, 3) := by decide +kernel
theorem d90_25 : decode (cm_M 90).2.2.1 25 = .ok (.aload_n 3, 1) := by decide +kernel
theorem d90_26 : decode (cm_M 90).2.2.1 26 = .ok (.aload_n 0, 1) := by decide +kernel
theorem d90_27 : decode (cm_M 90).2.2.1 27 = .ok (.getfield 52, 3) := by decide +kernel
theorem d90_30 : decode (cm_M 90).2.2.1 30 = .ok (.invokevirtual 255, 3) := by decide +kernel
theorem d90_33 : decode (cm_M 90).2.2.1 33 = .ok (.aload_n 3, 1) := by decide +kernel
theorem d90_34 : decode (cm_M 90).2.2.1 34 = .ok (.iconst 0, 1) := by decide +kernel
theorem d90_35 : decode (cm_M 90).2.2.1 35 = .ok (.putfield 155, 3) := by decide +kernel
theorem d90_38 : decode (cm_M 90).2.2.1 38 = .ok (.iconst 1, 1) := by decide +kernel
theorem d90_39 : decode (cm_M 90).2.2.1 39 = .ok (.ireturn, 1) := by decide +kernel
theorem d90_40 : decode (cm_M 90).2.2.1 40 = .ok (.aload_n 3, 1) := by decide +kernel
theorem d90_41 : decode (cm_M 90).2.2.1 41 = .ok (.getfield 155, 3) := by decide +kernel
theorem d90_44 : decode (cm_M 90).2.2.1 44 = .ok (.iconst 4, 1) := by decide +kernel
theorem d90_45 : decode (cm_M 90).2.2.1 45 = .ok (.if_icmp .ne 7, 3) := by decide +kernel
theorem d90_48 : decode (cm_M 90).2.2.1 48 = .ok (.iconst 1, 1) := by decide +kernel
theorem d90_49 : decode (cm_M 90).2.2.1 49 = .ok (.goto 4, 3) := by decide +kernel
theorem d90_52 : decode (cm_M 90).2.2.1 52 = .ok (.iconst 0, 1) := by decide +kernel
theorem d90_53 : decode (cm_M 90).2.2.1 53 = .ok (.istore 4, 2) := by decide +kernel
theorem d90_55 : decode (cm_M 90).2.2.1 55 = .ok (.iload 4, 2) := by decide +kernel
theorem d90_57 : decode (cm_M 90).2.2.1 57 = .ok (.iload_n 2, 1) := by decide +kernel
theorem d90_58 : decode (cm_M 90).2.2.1 58 = .ok (.iconst 1, 1) := by decide +kernel
theorem d90_59 : decode (cm_M 90).2.2.1 59 = .ok (.if_icmp .ne 7, 3) := by decide +kernel
theorem d90_62 : decode (cm_M 90).2.2.1 62 = .ok (.iconst 1, 1) := by decide +kernel
theorem d90_63 : decode (cm_M 90).2.2.1 63 = .ok (.goto 4, 3) := by decide +kernel
theorem d90_66 : decode (cm_M 90).2.2.1 66 = .ok (.iconst 0, 1) := by decide +kernel
theorem d90_67 : decode (cm_M 90).2.2.1 67 = .ok (.if_icmp .ne 5, 3) := by decide +kernel
theorem d90_70 : decode (cm_M 90).2.2.1 70 = .ok (.iconst 0, 1) := by decide +kernel
theorem d90_71 : decode (cm_M 90).2.2.1 71 = .ok (.ireturn, 1) := by decide +kernel
theorem d90_72 : decode (cm_M 90).2.2.1 72 = .ok (.aload_n 3, 1) := by decide +kernel
theorem d90_73 : decode (cm_M 90).2.2.1 73 = .ok (.iload 4, 2) := by decide +kernel
theorem d90_75 : decode (cm_M 90).2.2.1 75 = .ok (.ifCond .eq 7, 3) := by decide +kernel
theorem d90_78 : decode (cm_M 90).2.2.1 78 = .ok (.iconst 0, 1) := by decide +kernel
theorem d90_79 : decode (cm_M 90).2.2.1 79 = .ok (.goto 4, 3) := by decide +kernel
theorem d90_82 : decode (cm_M 90).2.2.1 82 = .ok (.iconst 4, 1) := by decide +kernel
theorem d90_83 : decode (cm_M 90).2.2.1 83 = .ok (.putfield 155, 3) := by decide +kernel
theorem d90_86 : decode (cm_M 90).2.2.1 86 = .ok (.iconst 1, 1) := by decide +kernel
theorem d90_87 : decode (cm_M 90).2.2.1 87 = .ok (.ireturn, 1) := by decide +kernel
theorem s90_0 {sc : cmS} {d : Nat} {h : cmH} {Q : Option Value → cmH → Prop} (L : LY h) (x1 : Int32) (x2 : Int32) (u3 : Option Value) (u4 : Option Value) (H : cm_cq sc d 17 [.ref 0, .int x1] h (fun r h' => cm_wp sc (d + 1) 90 5 [some (.ref 0), some (.int x1), some (.int x2), u3, u4] [va_rf r] h' Q)) : cm_wp sc (d + 1) 90 0 [some (.ref 0), some (.int x1), some (.int x2), u3, u4] [] h Q :=
  wl_st d90_0 rfl rfl rfl rfl (wl_st d90_1 rfl rfl rfl rfl (wl_cq d90_2 rfl rfl rfl pm10_103 (by decide) (ca_v (Or.inl rfl) rfl (Nat.le_of_ble_eq_true rfl) (Nat.le_of_ble_eq_true rfl) (ly_k L 0 rfl).2 (ly_k L 0 rfl).1 (by decide)) H))
theorem s90_5 {sc : cmS} {d : Nat} {h : cmH} {Q : Option Value → cmH → Prop} (x1 : Int32) (x2 : Int32) (u3 : Option Value) (u4 : Option Value) (so0 : Option Nat) (H : ((so0 = none → Q (some (.int (0 : Int32))) h) ∧ (∀ b2, so0 = some b2 → cm_ci sc d 13 [.int x2, .int (0 : Int32), .int (2 : Int32)] h (fun r h' => cm_wp sc (d + 1) 90 16 [some (.ref 0), some (.int x1), some (.int x2), some (.ref b2), u4] [.int r] h' Q)))) : cm_wp sc (d + 1) 90 5 [some (.ref 0), some (.int x1), some (.int x2), u3, u4] [va_rf so0] h Q :=
  wl_as (k := 3) (ls' := [some (.ref 0), some (.int x1), some (.int x2), some (va_rf so0), u4]) d90_5 (Or.inr ⟨⟨_, rfl, rfl⟩, rfl⟩) (Nat.le_of_ble_eq_true rfl) rfl (wl_al (k := 3) d90_6 (Or.inr ⟨⟨_, rfl, rfl⟩, rfl⟩) rfl (wl_nu (o := so0) (tgt := 19) (pc3 := 10) d90_7 (by decide) rfl (fun c1 => wl_ic (v := 0) d90_19 rfl (wl_rz d90_20 rfl (by decide) (H.1 c1))) (fun b2 c1 => cm_rw (fun oo => cm_wp sc (d + 1) 90 10 [some (.ref 0), some (.int x1), some (.int x2), some (va_rf oo), u4] [] h Q) c1 (wl_st d90_10 rfl rfl rfl rfl (wl_ic (v := 0) d90_11 rfl (wl_ic (v := 2) d90_12 rfl (wl_ci d90_13 rfl rfl rfl pm10_81 (by decide) (ca_s (Or.inl rfl) rfl (Nat.le_of_ble_eq_true rfl) (Nat.le_of_ble_eq_true rfl)) (H.2 b2 c1))))))))
theorem s90_16 {sc : cmS} {d : Nat} {h : cmH} {Q : Option Value → cmH → Prop} (L : LY h) (x1 : Int32) (x2 : Int32) (o3 : Option Nat) (u4 : Option Value) (sx0 : Int32) (H : (((¬ sx0 = 0) → (((¬ x2 = 0) → ∃ b3, o3 = some b3 ∧ (FL h b3) ∧ (((¬ (cm_I h b3 8) = (4 : Int32)) → cm_wp sc (d + 1) 90 53 [some (.ref 0), some (.int x1), some (.int x2), some (.ref b3), u4] [.int (0 : Int32)] h Q) ∧ (¬ (¬ (cm_I h b3 8) = (4 : Int32)) → cm_wp sc (d + 1) 90 53 [some (.ref 0), some (.int x1), some (.int x2), some (.ref b3), u4] [.int (1 : Int32)] h Q))) ∧ (¬ (¬ x2 = 0) → ∃ b6, o3 = some b6 ∧ (FL h b6) ∧ cm_cv sc d 66 [.ref b6, .ref 14] h (fun h' => cm_wp sc (d + 1) 90 33 [some (.ref 0), some (.int x1), some (.int x2), some (.ref b6), u4] [] h' Q)))) ∧ (¬ (¬ sx0 = 0) → Q (some (.int (0 : Int32))) h))) : cm_wp sc (d + 1) 90 16 [some (.ref 0), some (.int x1), some (.int x2), some (va_rf o3), u4] [.int sx0] h Q :=
  wl_cb (b := ¬ sx0 = 0) (off := 5) (tgt := 21) (pc3 := 19) (st' := []) d90_16 rfl rfl rfl rfl (by decide) rfl (fun c1 => wl_st d90_21 rfl rfl rfl rfl (wl_cb (b := ¬ x2 = 0) (off := 18) (tgt := 40) (pc3 := 25) (st' := []) d90_22 rfl rfl rfl rfl (by decide) rfl (fun c2 => Exists.elim ((H.1 c1).1 c2) fun b3 b3q => And.elim (fun b3e b3k => cm_rw (fun oo => cm_wp sc (d + 1) 90 40 [some (.ref 0), some (.int x1), some (.int x2), some (va_rf oo), u4] [] h Q) b3e (wl_st d90_40 rfl rfl rfl rfl (And.elim (fun g4 g4k => wl_gf (v := .int (cm_I h b3 8)) d90_41 pf10_155 (FL.k g4) rfl (wl_ic (v := 4) d90_44 rfl (wl_cb (b := ¬ (cm_I h b3 8) = (4 : Int32)) (off := 7) (tgt := 52) (pc3 := 48) (st' := []) d90_45 rfl rfl rfl rfl (by decide) rfl (fun c5 => wl_ic (v := 0) d90_52 rfl ((g4k.1 c5))) (fun c5 => wl_ic (v := 1) d90_48 rfl (wl_go (tgt := 53) d90_49 (by decide) ((g4k.2 c5))))))) b3k))) b3q) (fun c2 => Exists.elim ((H.1 c1).2 c2) fun b6 b6q => And.elim (fun b6e b6k => cm_rw (fun oo => cm_wp sc (d + 1) 90 25 [some (.ref 0), some (.int x1), some (.int x2), some (va_rf oo), u4] [] h Q) b6e (wl_st d90_25 rfl rfl rfl rfl (wl_st d90_26 rfl rfl rfl rfl (wl_gr (b := 14) d90_27 pf10_52 (ly_k L 0 rfl) rfl (ly_r L 0 6 rfl) (And.elim (fun g7 g7k => wl_cv d90_30 rfl rfl rfl pm10_255 (by decide) (ca_v (Or.inr rfl) rfl (Nat.le_of_ble_eq_true rfl) (Nat.le_of_ble_eq_true rfl) (FL.k g7).2 (FL.k g7).1 (by decide)) g7k) b6k))))) b6q))) (fun c1 => wl_ic (v := 0) d90_19 rfl (wl_rz d90_20 rfl (by decide) (H.2 c1)))
theorem s90_33 {sc : cmS} {d : Nat} {h : cmH} {Q : Option Value → cmH → Prop} (x1 : Int32) (x2 : Int32) (o3 : Option Nat) (u4 : Option Value) (H : ∃ b1, o3 = some b1 ∧ (FL h b1) ∧ Q (some (.int (1 : Int32))) (cm_setI h b1 8 (0 : Int32))) : cm_wp sc d 90 33 [some (.ref 0), some (.int x1), some (.int x2), some (va_rf o3), u4] [] h Q :=
  Exists.elim H fun b1 b1q => And.elim (fun b1e b1k => cm_rw (fun oo => cm_wp sc d 90 33 [some (.ref 0), some (.int x1), some (.int x2), some (va_rf oo), u4] [] h Q) b1e (wl_st d90_33 rfl rfl rfl rfl (wl_ic (v := 0) d90_34 rfl (And.elim (fun g2 g2k => wl_pf (h' := (cm_setI h b1 8 (0 : Int32))) d90_35 pf10_155 (FL.k g2) (Or.inl rfl) rfl (wl_ic (v := 1) d90_38 rfl (wl_rz d90_39 rfl (by decide) g2k))) b1k)))) b1q
theorem s90_53 {sc : cmS} {d : Nat} {h : cmH} {Q : Option Value → cmH → Prop} (x1 : Int32) (x2 : Int32) (o3 : Option Nat) (u4 : Option Value) (sx0 : Int32) (H : (((¬ x2 = (1 : Int32)) → cm_wp sc d 90 67 [some (.ref 0), some (.int x1), some (.int x2), some (va_rf o3), some (.int sx0)] [.int (0 : Int32), .int sx0] h Q) ∧ (¬ (¬ x2 = (1 : Int32)) → cm_wp sc d 90 67 [some (.ref 0), some (.int x1), some (.int x2), some (va_rf o3), some (.int sx0)] [.int (1 : Int32), .int sx0] h Q))) : cm_wp sc d 90 53 [some (.ref 0), some (.int x1), some (.int x2), some (va_rf o3), u4] [.int sx0] h Q :=
  wl_is (ls' := [some (.ref 0), some (.int x1), some (.int x2), some (va_rf o3), some (.int sx0)]) d90_53 (Nat.le_of_ble_eq_true rfl) (by simp [cm_ls1, cm_ls2, cm_clr, cm_isJq]) (wl_st d90_55 rfl rfl rfl rfl (wl_st d90_57 rfl rfl rfl rfl (wl_ic (v := 1) d90_58 rfl (wl_cb (b := ¬ x2 = (1 : Int32)) (off := 7) (tgt := 66) (pc3 := 62) (st' := [.int sx0]) d90_59 rfl rfl rfl rfl (by decide) rfl (fun c1 => wl_ic (v := 0) d90_66 rfl ((H.1 c1))) (fun c1 => wl_ic (v := 1) d90_62 rfl (wl_go (tgt := 67) d90_63 (by decide) ((H.2 c1))))))))
theorem s90_67 {sc : cmS} {d : Nat} {h : cmH} {Q : Option Value → cmH → Prop} (x1 : Int32) (x2 : Int32) (o3 : Option Nat) (x4 : Int32) (sx0 : Int32) (sx1 : Int32) (H : (((¬ sx1 = sx0) → ∃ b2, o3 = some b2 ∧ (((x4 = 0) → cm_wp sc d 90 83 [some (.ref 0), some (.int x1), some (.int x2), some (.ref b2), some (.int x4)] [.int (4 : Int32), .ref b2] h Q) ∧ (¬ (x4 = 0) → cm_wp sc d 90 83 [some (.ref 0), some (.int x1), some (.int x2), some (.ref b2), some (.int x4)] [.int (0 : Int32), .ref b2] h Q))) ∧ (¬ (¬ sx1 = sx0) → Q (some (.int (0 : Int32))) h))) : cm_wp sc d 90 67 [some (.ref 0), some (.int x1), some (.int x2), some (va_rf o3), some (.int x4)] [.int sx0, .int sx1] h Q :=
  wl_cb (b := ¬ sx1 = sx0) (off := 5) (tgt := 72) (pc3 := 70) (st' := []) d90_67 rfl rfl rfl rfl (by decide) rfl (fun c1 => Exists.elim (H.1 c1) fun b2 b2q => And.elim (fun b2e b2k => cm_rw (fun oo => cm_wp sc d 90 72 [some (.ref 0), some (.int x1), some (.int x2), some (va_rf oo), some (.int x4)] [] h Q) b2e (wl_st d90_72 rfl rfl rfl rfl (wl_st d90_73 rfl rfl rfl rfl (wl_cb (b := x4 = 0) (off := 7) (tgt := 82) (pc3 := 78) (st' := [.ref b2]) d90_75 rfl rfl rfl rfl (by decide) rfl (fun c3 => wl_ic (v := 4) d90_82 rfl ((b2k.1 c3))) (fun c3 => wl_ic (v := 0) d90_78 rfl (wl_go (tgt := 83) d90_79 (by decide) ((b2k.2 c3)))))))) b2q) (fun c1 => wl_ic (v := 0) d90_70 rfl (wl_rz d90_71 rfl (by decide) (H.2 c1)))
theorem s90_83 {sc : cmS} {d : Nat} {h : cmH} {Q : Option Value → cmH → Prop} (x1 : Int32) (x2 : Int32) (o3 : Option Nat) (x4 : Int32) (sx0 : Int32) (so1 : Option Nat) (H : ∃ b1, so1 = some b1 ∧ (FL h b1) ∧ Q (some (.int (1 : Int32))) (cm_setI h b1 8 sx0)) : cm_wp sc d 90 83 [some (.ref 0), some (.int x1), some (.int x2), some (va_rf o3), some (.int x4)] [.int sx0, va_rf so1] h Q :=
  Exists.elim H fun b1 b1q => And.elim (fun b1e b1k => cm_rw (fun oo => cm_wp sc d 90 83 [some (.ref 0), some (.int x1), some (.int x2), some (va_rf o3), some (.int x4)] [.int sx0, va_rf oo] h Q) b1e (And.elim (fun g2 g2k => wl_pf (h' := (cm_setI h b1 8 sx0)) d90_83 pf10_155 (FL.k g2) (Or.inl rfl) rfl (wl_ic (v := 1) d90_86 rfl (wl_rz d90_87 rfl (by decide) g2k))) b1k)) b1q
