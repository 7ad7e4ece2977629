-- ClogHouse$Readings.addReading(IIII)I
theorem d116_0 : decode (cm_M 116).2.2.1 0 = .ok (.aload_n 0, 1) := by decide +kernel
theorem d116_1 : decode (cm_M 116).2.2.1 1 = .ok (.getfield 24, 3) := by decide +kernel
theorem d116_4 : decode (cm_M 116).2.2.1 4 = .ok (.ifCond .lt 12, 3) := by decide +kernel
theorem d116_7 : decode (cm_M 116).2.2.1 7 = .ok (.aload_n 0, 1) := by decide +kernel
theorem d116_8 : decode (cm_M 116).2.2.1 8 = .ok (.getfield 24, 3) := by decide +kernel
theorem d116_11 : decode (cm_M 116).2.2.1 11 = .ok (.bipush 100, 2) := by decide +kernel
theorem d116_13 : decode (cm_M 116).2.2.1 13 = .ok (.if_icmp .lt 5, 3) := by decide +kernel
theorem d116_16 : decode (cm_M 116).2.2.1 16 = .ok (.iconst (-1), 1) := by decide +kernel
theorem d116_17 : decode (cm_M 116).2.2.1 17 = .ok (.ireturn, 1) := by decide +kernel
theorem d116_18 : decode (cm_M 116).2.2.1 18 = .ok (.aload_n 0, 1) := by decide +kernel
theorem d116_19 : decode (cm_M 116).2.2.1 19 = .ok (.getfield 9, 3) := by decide +kernel
theorem d116_22 : decode (cm_M 116).2.2.1 22 = .ok (.aload_n 0, 1) := by decide +kernel
theorem d116_23 : decode (cm_M 116).2.2.1 23 = .ok (.getfield 24, 3) := by decide +kernel
theorem d116_26 : decode (cm_M 116).2.2.1 26 = .ok (.iload_n 1, 1) := by decide +kernel
theorem d116_27 : decode (cm_M 116).2.2.1 27 = .ok (.iastore, 1) := by decide +kernel
theorem d116_28 : decode (cm_M 116).2.2.1 28 = .ok (.aload_n 0, 1) := by decide +kernel
theorem d116_29 : decode (cm_M 116).2.2.1 29 = .ok (.getfield 15, 3) := by decide +kernel
theorem d116_32 : decode (cm_M 116).2.2.1 32 = .ok (.aload_n 0, 1) := by decide +kernel
theorem d116_33 : decode (cm_M 116).2.2.1 33 = .ok (.getfield 24, 3) := by decide +kernel
theorem d116_36 : decode (cm_M 116).2.2.1 36 = .ok (.iload_n 2, 1) := by decide +kernel
theorem d116_37 : decode (cm_M 116).2.2.1 37 = .ok (.iastore, 1) := by decide +kernel
theorem d116_38 : decode (cm_M 116).2.2.1 38 = .ok (.aload_n 0, 1) := by decide +kernel
theorem d116_39 : decode (cm_M 116).2.2.1 39 = .ok (.getfield 18, 3) := by decide +kernel
theorem d116_42 : decode (cm_M 116).2.2.1 42 = .ok (.aload_n 0, 1) := by decide +kernel
theorem d116_43 : decode (cm_M 116).2.2.1 43 = .ok (.getfield 24, 3) := by decide +kernel
theorem d116_46 : decode (cm_M 116).2.2.1 46 = .ok (.iload_n 3, 1) := by decide +kernel
theorem d116_47 : decode (cm_M 116).2.2.1 47 = .ok (.iastore, 1) := by decide +kernel
theorem d116_48 : decode (cm_M 116).2.2.1 48 = .ok (.aload_n 0, 1) := by decide +kernel
theorem d116_49 : decode (cm_M 116).2.2.1 49 = .ok (.getfield 21, 3) := by decide +kernel
theorem d116_52 : decode (cm_M 116).2.2.1 52 = .ok (.aload_n 0, 1) := by decide +kernel
theorem d116_53 : decode (cm_M 116).2.2.1 53 = .ok (.getfield 24, 3) := by decide +kernel
theorem d116_56 : decode (cm_M 116).2.2.1 56 = .ok (.iload 4, 2) := by decide +kernel
theorem d116_58 : decode (cm_M 116).2.2.1 58 = .ok (.iastore, 1) := by decide +kernel
theorem d116_59 : decode (cm_M 116).2.2.1 59 = .ok (.aload_n 0, 1) := by decide +kernel
theorem d116_60 : decode (cm_M 116).2.2.1 60 = .ok (.dup, 1) := by decide +kernel
theorem d116_61 : decode (cm_M 116).2.2.1 61 = .ok (.getfield 24, 3) := by decide +kernel
theorem d116_64 : decode (cm_M 116).2.2.1 64 = .ok (.iconst 1, 1) := by decide +kernel
theorem d116_65 : decode (cm_M 116).2.2.1 65 = .ok (.iadd, 1) := by decide +kernel
theorem d116_66 : decode (cm_M 116).2.2.1 66 = .ok (.putfield 24, 3) := by decide +kernel
theorem d116_69 : decode (cm_M 116).2.2.1 69 = .ok (.aload_n 0, 1) := by decide +kernel
theorem d116_70 : decode (cm_M 116).2.2.1 70 = .ok (.getfield 24, 3) := by decide +kernel
theorem d116_73 : decode (cm_M 116).2.2.1 73 = .ok (.iconst 1, 1) := by decide +kernel
theorem d116_74 : decode (cm_M 116).2.2.1 74 = .ok (.isub, 1) := by decide +kernel
theorem d116_75 : decode (cm_M 116).2.2.1 75 = .ok (.ireturn, 1) := by decide +kernel
theorem s116_0 {sc : cmS} {d : Nat} {h : cmH} {Q : Option Value → cmH → Prop} (L : LY h) (x1 : Int32) (x2 : Int32) (x3 : Int32) (x4 : Int32) (H : ((((cm_I h 33 4) < 0) → Q (some (.int (-1 : Int32))) h) ∧ (¬ ((cm_I h 33 4) < 0) → ((((cm_I h 33 4) < (100 : Int32)) → (IX 100 (cm_I h 33 4)) ∧ Q (some (.int (((cm_I h 33 4) + (1 : Int32)) - (1 : Int32)))) (cm_setI (cm_setI (cm_setI (cm_setI (cm_setI h 34 (cm_I h 33 4).toNatClampNeg x1) 35 (cm_I h 33 4).toNatClampNeg x2) 36 (cm_I h 33 4).toNatClampNeg x3) 37 (cm_I h 33 4).toNatClampNeg x4) 33 4 ((cm_I h 33 4) + (1 : Int32)))) ∧ (¬ ((cm_I h 33 4) < (100 : Int32)) → Q (some (.int (-1 : Int32))) h))))) : cm_wp sc d 116 0 [some (.ref 33), some (.int x1), some (.int x2), some (.int x3), some (.int x4)] [] h Q :=
  wl_st d116_0 rfl rfl rfl rfl (wl_gf (v := .int (cm_I h 33 4)) d116_1 pf7_24 (ly_k L 33 rfl) rfl (wl_cb (b := (cm_I h 33 4) < 0) (off := 12) (tgt := 16) (pc3 := 7) (st' := []) d116_4 rfl rfl rfl rfl (by decide) rfl (fun c1 => wl_ic (v := (-1)) d116_16 rfl (wl_rt d116_17 rfl rfl rfl (H.1 c1))) (fun c1 => wl_st d116_7 rfl rfl rfl rfl (wl_gf (v := .int (cm_I h 33 4)) d116_8 pf7_24 (ly_k L 33 rfl) rfl (wl_bi (v := 100) d116_11 rfl (wl_cb (b := (cm_I h 33 4) < (100 : Int32)) (off := 5) (tgt := 18) (pc3 := 16) (st' := []) d116_13 rfl rfl rfl rfl (by decide) rfl (fun c2 => wl_st d116_18 rfl rfl rfl rfl (wl_gr (b := 34) d116_19 pf7_9 (ly_k L 33 rfl) rfl (ly_r L 33 0 rfl) (wl_st d116_22 rfl rfl rfl rfl (wl_gf (v := .int (cm_I h 33 4)) d116_23 pf7_24 (ly_k L 33 rfl) rfl (wl_st d116_26 rfl rfl rfl rfl (And.elim (fun g3 g3k => wl_if (h' := (cm_setI h 34 (cm_I h 33 4).toNatClampNeg x1)) d116_27 rfl rfl rfl rfl (ly_o L 34 rfl g3) (wl_st d116_28 rfl rfl rfl rfl (wl_gr (b := 35) d116_29 pf7_15 (ly_k L 33 rfl) rfl (ly_r L 33 1 rfl) (wl_st d116_32 rfl rfl rfl rfl (wl_gf (v := .int (cm_I h 33 4)) d116_33 pf7_24 (ly_k L 33 rfl) rfl (wl_st d116_36 rfl rfl rfl rfl (wl_if (h' := (cm_setI (cm_setI h 34 (cm_I h 33 4).toNatClampNeg x1) 35 (cm_I h 33 4).toNatClampNeg x2)) d116_37 rfl rfl rfl rfl (ly_o L 35 rfl g3) (wl_st d116_38 rfl rfl rfl rfl (wl_gr (b := 36) d116_39 pf7_18 (ly_k L 33 rfl) rfl (ly_r L 33 2 rfl) (wl_st d116_42 rfl rfl rfl rfl (wl_gf (v := .int (cm_I h 33 4)) d116_43 pf7_24 (ly_k L 33 rfl) rfl (wl_st d116_46 rfl rfl rfl rfl (wl_if (h' := (cm_setI (cm_setI (cm_setI h 34 (cm_I h 33 4).toNatClampNeg x1) 35 (cm_I h 33 4).toNatClampNeg x2) 36 (cm_I h 33 4).toNatClampNeg x3)) d116_47 rfl rfl rfl rfl (ly_o L 36 rfl g3) (wl_st d116_48 rfl rfl rfl rfl (wl_gr (b := 37) d116_49 pf7_21 (ly_k L 33 rfl) rfl (ly_r L 33 3 rfl) (wl_st d116_52 rfl rfl rfl rfl (wl_gf (v := .int (cm_I h 33 4)) d116_53 pf7_24 (ly_k L 33 rfl) rfl (wl_st d116_56 rfl rfl rfl rfl (wl_if (h' := (cm_setI (cm_setI (cm_setI (cm_setI h 34 (cm_I h 33 4).toNatClampNeg x1) 35 (cm_I h 33 4).toNatClampNeg x2) 36 (cm_I h 33 4).toNatClampNeg x3) 37 (cm_I h 33 4).toNatClampNeg x4)) d116_58 rfl rfl rfl rfl (ly_o L 37 rfl g3) (wl_st d116_59 rfl rfl rfl rfl (wl_st d116_60 rfl rfl rfl rfl (wl_gf (v := .int (cm_I h 33 4)) d116_61 pf7_24 (ly_k L 33 rfl) rfl (wl_ic (v := 1) d116_64 rfl (wl_st d116_65 rfl rfl rfl rfl (wl_pf (h' := (cm_setI (cm_setI (cm_setI (cm_setI (cm_setI h 34 (cm_I h 33 4).toNatClampNeg x1) 35 (cm_I h 33 4).toNatClampNeg x2) 36 (cm_I h 33 4).toNatClampNeg x3) 37 (cm_I h 33 4).toNatClampNeg x4) 33 4 ((cm_I h 33 4) + (1 : Int32)))) d116_66 pf7_24 (ly_k L 33 rfl) (Or.inl rfl) rfl (wl_st d116_69 rfl rfl rfl rfl (wl_gf (v := .int ((cm_I h 33 4) + (1 : Int32))) d116_70 pf7_24 (ly_k L 33 rfl) rfl (wl_ic (v := 1) d116_73 rfl (wl_st d116_74 rfl rfl rfl rfl (wl_rt d116_75 rfl rfl rfl g3k)))))))))))))))))))))))))))))) ((H.2 c1).1 c2))))))) (fun c2 => wl_ic (v := (-1)) d116_16 rfl (wl_rt d116_17 rfl rfl rfl ((H.2 c1).2 c2)))))))))
-- ClogHouse$Readings.narrowAll(II)V
theorem d118_0 : decode (cm_M 118).2.2.1 0 = .ok (.aload_n 0, 1) := by decide +kernel
theorem d118_1 : decode (cm_M 118).2.2.1 1 = .ok (.invokevirtual 47, 3) := by decide +kernel
theorem d118_4 : decode (cm_M 118).2.2.1 4 = .ok (.iconst 0, 1) := by decide +kernel
theorem d118_5 : decode (cm_M 118).2.2.1 5 = .ok (.istore_n 3, 1) := by decide +kernel
theorem d118_6 : decode (cm_M 118).2.2.1 6 = .ok (.iload_n 3, 1) := by decide +kernel
theorem d118_7 : decode (cm_M 118).2.2.1 7 = .ok (.aload_n 0, 1) := by decide +kernel
theorem d118_8 : decode (cm_M 118).2.2.1 8 = .ok (.getfield 24, 3) := by decide +kernel
theorem d118_11 : decode (cm_M 118).2.2.1 11 = .ok (.if_icmp .ge 17, 3) := by decide +kernel
theorem d118_14 : decode (cm_M 118).2.2.1 14 = .ok (.aload_n 0, 1) := by decide +kernel
theorem d118_15 : decode (cm_M 118).2.2.1 15 = .ok (.iload_n 3, 1) := by decide +kernel
theorem d118_16 : decode (cm_M 118).2.2.1 16 = .ok (.iload_n 1, 1) := by decide +kernel
theorem d118_17 : decode (cm_M 118).2.2.1 17 = .ok (.iload_n 2, 1) := by decide +kernel
theorem d118_18 : decode (cm_M 118).2.2.1 18 = .ok (.invokevirtual 50, 3) := by decide +kernel
theorem d118_21 : decode (cm_M 118).2.2.1 21 = .ok (.pop, 1) := by decide +kernel
theorem d118_22 : decode (cm_M 118).2.2.1 22 = .ok (.iinc 3 1, 3) := by decide +kernel
theorem d118_25 : decode (cm_M 118).2.2.1 25 = .ok (.goto (-19), 3) := by decide +kernel
theorem d118_28 : decode (cm_M 118).2.2.1 28 = .ok (.return_, 1) := by decide +kernel
theorem s118_0 {sc : cmS} {d : Nat} {h : cmH} {Q : Option Value → cmH → Prop} (L : LY h) (x1 : Int32) (x2 : Int32) (u3 : Option Value) (H : cm_cv sc d 119 [.ref 33] h (fun h' => cm_wp sc (d + 1) 118 4 [some (.ref 33), some (.int x1), some (.int x2), u3] [] h' Q)) : cm_wp sc (d + 1) 118 0 [some (.ref 33), some (.int x1), some (.int x2), u3] [] h Q :=
  wl_st d118_0 rfl rfl rfl rfl (wl_cv d118_1 rfl rfl rfl pm7_47 (by decide) (ca_v (Or.inl rfl) rfl (Nat.le_of_ble_eq_true rfl) (Nat.le_of_ble_eq_true rfl) (ly_k L 33 rfl).2 (ly_k L 33 rfl).1 (by decide)) H)
theorem s118_4 {sc : cmS} {d : Nat} {h : cmH} {Q : Option Value → cmH → Prop} (x1 : Int32) (x2 : Int32) (u3 : Option Value) (H : cm_wp sc d 118 6 [some (.ref 33), some (.int x1), some (.int x2), some (.int (0 : Int32))] [] h Q) : cm_wp sc d 118 4 [some (.ref 33), some (.int x1), some (.int x2), u3] [] h Q :=
  wl_ic (v := 0) d118_4 rfl (wl_st (ls' := [some (.ref 33), some (.int x1), some (.int x2), some (.int (0 : Int32))]) d118_5 rfl rfl rfl rfl (H))
theorem s118_6 {sc : cmS} {d : Nat} {h : cmH} {Q : Option Value → cmH → Prop} (L : LY h) (x1 : Int32) (x2 : Int32) (x3 : Int32) (H : ((((cm_I h 33 4) ≤ x3) → Q none h) ∧ (¬ ((cm_I h 33 4) ≤ x3) → cm_ci sc d 120 [.ref 33, .int x3, .int x1, .int x2] h (fun r h' => cm_wp sc (d + 1) 118 21 [some (.ref 33), some (.int x1), some (.int x2), some (.int x3)] [.int r] h' Q)))) : cm_wp sc (d + 1) 118 6 [some (.ref 33), some (.int x1), some (.int x2), some (.int x3)] [] h Q :=
  wl_st d118_6 rfl rfl rfl rfl (wl_st d118_7 rfl rfl rfl rfl (wl_gf (v := .int (cm_I h 33 4)) d118_8 pf7_24 (ly_k L 33 rfl) rfl (wl_cb (b := (cm_I h 33 4) ≤ x3) (off := 17) (tgt := 28) (pc3 := 14) (st' := []) d118_11 rfl rfl rfl rfl (by decide) rfl (fun c1 => wl_rt d118_28 rfl rfl rfl (H.1 c1)) (fun c1 => wl_st d118_14 rfl rfl rfl rfl (wl_st d118_15 rfl rfl rfl rfl (wl_st d118_16 rfl rfl rfl rfl (wl_st d118_17 rfl rfl rfl rfl (wl_ci d118_18 rfl rfl rfl pm7_50 (by decide) (ca_v (Or.inl rfl) rfl (Nat.le_of_ble_eq_true rfl) (Nat.le_of_ble_eq_true rfl) (ly_k L 33 rfl).2 (ly_k L 33 rfl).1 (by decide)) (H.2 c1)))))))))
theorem s118_21 {sc : cmS} {d : Nat} {h : cmH} {Q : Option Value → cmH → Prop} (x1 : Int32) (x2 : Int32) (x3 : Int32) (sx0 : Int32) (H : cm_wp sc d 118 6 [some (.ref 33), some (.int x1), some (.int x2), some (.int (x3 + 1))] [] h Q) : cm_wp sc d 118 21 [some (.ref 33), some (.int x1), some (.int x2), some (.int x3)] [.int sx0] h Q :=
  wl_st d118_21 rfl rfl rfl rfl (wl_st (ls' := [some (.ref 33), some (.int x1), some (.int x2), some (.int (x3 + 1))]) d118_22 rfl rfl rfl rfl (wl_go (tgt := 6) d118_25 (by decide) (H)))
-- ClogHouse$Readings.openRange()V
theorem d119_0 : decode (cm_M 119).2.2.1 0 = .ok (.aload_n 0, 1) := by decide +kernel
theorem d119_1 : decode (cm_M 119).2.2.1 1 = .ok (.iconst 1, 1) := by decide +kernel
theorem d119_2 : decode (cm_M 119).2.2.1 2 = .ok (.putfield 28, 3) := by decide +kernel
theorem d119_5 : decode (cm_M 119).2.2.1 5 = .ok (.aload_n 0, 1) := by decide +kernel
theorem d119_6 : decode (cm_M 119).2.2.1 6 = .ok (.sipush 10000, 3) := by decide +kernel
theorem d119_9 : decode (cm_M 119).2.2.1 9 = .ok (.putfield 31, 3) := by decide +kernel
theorem d119_12 : decode (cm_M 119).2.2.1 12 = .ok (.return_, 1) := by decide +kernel
theorem s119_0 {sc : cmS} {d : Nat} {h : cmH} {Q : Option Value → cmH → Prop} (L : LY h)  (H : Q none (cm_setI (cm_setI h 33 5 (1 : Int32)) 33 6 (10000 : Int32))) : cm_wp sc d 119 0 [some (.ref 33)] [] h Q :=
  wl_st d119_0 rfl rfl rfl rfl (wl_ic (v := 1) d119_1 rfl (wl_pf (h' := (cm_setI h 33 5 (1 : Int32))) d119_2 pf7_28 (ly_k L 33 rfl) (Or.inl rfl) rfl (wl_st d119_5 rfl rfl rfl rfl (wl_si (v := 10000) d119_6 rfl (wl_pf (h' := (cm_setI (cm_setI h 33 5 (1 : Int32)) 33 6 (10000 : Int32))) d119_9 pf7_31 (ly_k L 33 rfl) (Or.inl rfl) rfl (wl_rt d119_12 rfl rfl rfl H))))))
-- ClogHouse$Readings.narrow(III)Z
theorem d120_0 : decode (cm_M 120).2.2.1 0 = .ok (.iload_n 1, 1) := by decide +kernel
theorem d120_1 : decode (cm_M 120).2.2.1 1 = .ok (.iconst 0, 1) := by decide +kernel
theorem d120_2 : decode (cm_M 120).2.2.1 2 = .ok (.bipush 99, 2) := by decide +kernel
theorem d120_4 : decode (cm_M 120).2.2.1 4 = .ok (.invokestatic 34, 3) := by decide +kernel
theorem d120_7 : decode (cm_M 120).2.2.1 7 = .ok (.ifCond .eq 23, 3) := by decide +kernel
theorem d120_10 : decode (cm_M 120).2.2.1 10 = .ok (.aload_n 0, 1) := by decide +kernel
theorem d120_11 : decode (cm_M 120).2.2.1 11 = .ok (.getfield 9, 3) := by decide +kernel
theorem d120_14 : decode (cm_M 120).2.2.1 14 = .ok (.iload_n 1, 1) := by decide +kernel
theorem d120_15 : decode (cm_M 120).2.2.1 15 = .ok (.iaload, 1) := by decide +kernel
theorem d120_16 : decode (cm_M 120).2.2.1 16 = .ok (.iload_n 2, 1) := by decide +kernel
theorem d120_17 : decode (cm_M 120).2.2.1 17 = .ok (.if_icmp .ne 13, 3) := by decide +kernel
theorem d120_20 : decode (cm_M 120).2.2.1 20 = .ok (.aload_n 0, 1) := by decide +kernel
theorem d120_21 : decode (cm_M 120).2.2.1 21 = .ok (.getfield 21, 3) := by decide +kernel
theorem d120_24 : decode (cm_M 120).2.2.1 24 = .ok (.iload_n 1, 1) := by decide +kernel
theorem d120_25 : decode (cm_M 120).2.2.1 25 = .ok (.iaload, 1) := by decide +kernel
theorem d120_26 : decode (cm_M 120).2.2.1 26 = .ok (.iload_n 3, 1) := by decide +kernel
theorem d120_27 : decode (cm_M 120).2.2.1 27 = .ok (.if_icmp .le 5, 3) := by decide +kernel
theorem d120_30 : decode (cm_M 120).2.2.1 30 = .ok (.iconst 0, 1) := by decide +kernel
theorem d120_31 : decode (cm_M 120).2.2.1 31 = .ok (.ireturn, 1) := by decide +kernel
theorem d120_32 : decode (cm_M 120).2.2.1 32 = .ok (.aload_n 0, 1) := by decide +kernel
theorem d120_33 : decode (cm_M 120).2.2.1 33 = .ok (.aload_n 0, 1) := by decide +kernel
theorem d120_34 : decode (cm_M 120).2.2.1 34 = .ok (.getfield 28, 3) := by decide +kernel
theorem d120_37 : decode (cm_M 120).2.2.1 37 = .ok (.aload_n 0, 1) := by decide +kernel
theorem d120_38 : decode (cm_M 120).2.2.1 38 = .ok (.getfield 15, 3) := by decide +kernel
theorem d120_41 : decode (cm_M 120).2.2.1 41 = .ok (.iload_n 1, 1) := by decide +kernel
theorem d120_42 : decode (cm_M 120).2.2.1 42 = .ok (.iaload, 1) := by decide +kernel
theorem d120_43 : decode (cm_M 120).2.2.1 43 = .ok (.invokestatic 38, 3) := by decide +kernel
theorem d120_46 : decode (cm_M 120).2.2.1 46 = .ok (.putfield 28, 3) := by decide +kernel
theorem d120_49 : decode (cm_M 120).2.2.1 49 = .ok (.aload_n 0, 1) := by decide +kernel
theorem d120_50 : decode (cm_M 120).2.2.1 50 = .ok (.aload_n 0, 1) := by decide +kernel
theorem d120_51 : decode (cm_M 120).2.2.1 51 = .ok (.getfield 31, 3) := by decide +kernel
theorem d120_54 : decode (cm_M 120).2.2.1 54 = .ok (.aload_n 0, 1) := by decide +kernel
theorem d120_55 : decode (cm_M 120).2.2.1 55 = .ok (.getfield 18, 3) := by decide +kernel
theorem d120_58 : decode (cm_M 120).2.2.1 58 = .ok (.iload_n 1, 1) := by decide +kernel
theorem d120_59 : decode (cm_M 120).2.2.1 59 = .ok (.iaload, 1) := by decide +kernel
theorem d120_60 : decode (cm_M 120).2.2.1 60 = .ok (.invokestatic 44, 3) := by decide +kernel
theorem d120_63 : decode (cm_M 120).2.2.1 63 = .ok (.putfield 31, 3) := by decide +kernel
theorem d120_66 : decode (cm_M 120).2.2.1 66 = .ok (.iconst 1, 1) := by decide +kernel
theorem d120_67 : decode (cm_M 120).2.2.1 67 = .ok (.ireturn, 1) := by decide +kernel
theorem s120_0 {sc : cmS} {d : Nat} {h : cmH} {Q : Option Value → cmH → Prop} (x1 : Int32) (x2 : Int32) (x3 : Int32) (H : cm_ci sc d 13 [.int x1, .int (0 : Int32), .int (99 : Int32)] h (fun r h' => cm_wp sc (d + 1) 120 7 [some (.ref 33), some (.int x1), some (.int x2), some (.int x3)] [.int r] h' Q)) : cm_wp sc (d + 1) 120 0 [some (.ref 33), some (.int x1), some (.int x2), some (.int x3)] [] h Q :=
  wl_st d120_0 rfl rfl rfl rfl (wl_ic (v := 0) d120_1 rfl (wl_bi (v := 99) d120_2 rfl (wl_ci d120_4 rfl rfl rfl pm7_34 (by decide) (ca_s (Or.inr rfl) rfl (Nat.le_of_ble_eq_true rfl) (Nat.le_of_ble_eq_true rfl)) H)))
theorem s120_7 {sc : cmS} {d : Nat} {h : cmH} {Q : Option Value → cmH → Prop} (L : LY h) (x1 : Int32) (x2 : Int32) (x3 : Int32) (sx0 : Int32) (H : (((sx0 = 0) → Q (some (.int (0 : Int32))) h) ∧ (¬ (sx0 = 0) → (IX 100 x1) ∧ (((¬ (cm_I h 34 x1.toNatClampNeg) = x2) → Q (some (.int (0 : Int32))) h) ∧ (¬ (¬ (cm_I h 34 x1.toNatClampNeg) = x2) → ((((cm_I h 37 x1.toNatClampNeg) ≤ x3) → Q (some (.int (1 : Int32))) (cm_setI (cm_setI h 33 5 (if (cm_I h 33 5) < (cm_I h 35 x1.toNatClampNeg) then (cm_I h 35 x1.toNatClampNeg) else (cm_I h 33 5))) 33 6 (if (cm_I h 36 x1.toNatClampNeg) < (cm_I h 33 6) then (cm_I h 36 x1.toNatClampNeg) else (cm_I h 33 6)))) ∧ (¬ ((cm_I h 37 x1.toNatClampNeg) ≤ x3) → Q (some (.int (0 : Int32))) h))))))) : cm_wp sc (d + 1) 120 7 [some (.ref 33), some (.int x1), some (.int x2), some (.int x3)] [.int sx0] h Q :=
  wl_cb (b := sx0 = 0) (off := 23) (tgt := 30) (pc3 := 10) (st' := []) d120_7 rfl rfl rfl rfl (by decide) rfl (fun c1 => wl_ic (v := 0) d120_30 rfl (wl_rz d120_31 rfl (by decide) (H.1 c1))) (fun c1 => wl_st d120_10 rfl rfl rfl rfl (wl_gr (b := 34) d120_11 pf7_9 (ly_k L 33 rfl) rfl (ly_r L 33 0 rfl) (wl_st d120_14 rfl rfl rfl rfl (And.elim (fun g2 g2k => wl_if (g := cm_ok h 13 34 x1) (st' := [.int (cm_I h 34 x1.toNatClampNeg)]) d120_15 rfl rfl rfl rfl (ly_o L 34 rfl g2) (wl_st d120_16 rfl rfl rfl rfl (wl_cb (b := ¬ (cm_I h 34 x1.toNatClampNeg) = x2) (off := 13) (tgt := 30) (pc3 := 20) (st' := []) d120_17 rfl rfl rfl rfl (by decide) rfl (fun c3 => wl_ic (v := 0) d120_30 rfl (wl_rz d120_31 rfl (by decide) (g2k.1 c3))) (fun c3 => wl_st d120_20 rfl rfl rfl rfl (wl_gr (b := 37) d120_21 pf7_21 (ly_k L 33 rfl) rfl (ly_r L 33 3 rfl) (wl_st d120_24 rfl rfl rfl rfl (wl_if (g := cm_ok h 13 37 x1) (st' := [.int (cm_I h 37 x1.toNatClampNeg)]) d120_25 rfl rfl rfl rfl (ly_o L 37 rfl g2) (wl_st d120_26 rfl rfl rfl rfl (wl_cb (b := (cm_I h 37 x1.toNatClampNeg) ≤ x3) (off := 5) (tgt := 32) (pc3 := 30) (st' := []) d120_27 rfl rfl rfl rfl (by decide) rfl (fun c4 => wl_st d120_32 rfl rfl rfl rfl (wl_st d120_33 rfl rfl rfl rfl (wl_gf (v := .int (cm_I h 33 5)) d120_34 pf7_28 (ly_k L 33 rfl) rfl (wl_st d120_37 rfl rfl rfl rfl (wl_gr (b := 35) d120_38 pf7_15 (ly_k L 33 rfl) rfl (ly_r L 33 1 rfl) (wl_st d120_41 rfl rfl rfl rfl (wl_if (g := cm_ok h 13 35 x1) (st' := [.int (cm_I h 35 x1.toNatClampNeg), .int (cm_I h 33 5), .ref 33]) d120_42 rfl rfl rfl rfl (ly_o L 35 rfl g2) (wl_pr (st' := [.int (if (cm_I h 33 5) < (cm_I h 35 x1.toNatClampNeg) then (cm_I h 35 x1.toNatClampNeg) else (cm_I h 33 5)), .ref 33]) d120_43 rfl rfl rfl pm7_38 (by decide) rfl rfl (wl_pf (h' := (cm_setI h 33 5 (if (cm_I h 33 5) < (cm_I h 35 x1.toNatClampNeg) then (cm_I h 35 x1.toNatClampNeg) else (cm_I h 33 5)))) d120_46 pf7_28 (ly_k L 33 rfl) (Or.inl rfl) rfl (wl_st d120_49 rfl rfl rfl rfl (wl_st d120_50 rfl rfl rfl rfl (wl_gf (v := .int (cm_I h 33 6)) d120_51 pf7_31 (ly_k L 33 rfl) rfl (wl_st d120_54 rfl rfl rfl rfl (wl_gr (b := 36) d120_55 pf7_18 (ly_k L 33 rfl) rfl (ly_r L 33 2 rfl) (wl_st d120_58 rfl rfl rfl rfl (wl_if (g := cm_ok (cm_setI h 33 5 (if (cm_I h 33 5) < (cm_I h 35 x1.toNatClampNeg) then (cm_I h 35 x1.toNatClampNeg) else (cm_I h 33 5))) 13 36 x1) (st' := [.int (cm_I h 36 x1.toNatClampNeg), .int (cm_I h 33 6), .ref 33]) d120_59 rfl rfl rfl rfl (ly_o L 36 rfl g2) (wl_pr (st' := [.int (if (cm_I h 36 x1.toNatClampNeg) < (cm_I h 33 6) then (cm_I h 36 x1.toNatClampNeg) else (cm_I h 33 6)), .ref 33]) d120_60 rfl rfl rfl pm7_44 (by decide) rfl rfl (wl_pf (h' := (cm_setI (cm_setI h 33 5 (if (cm_I h 33 5) < (cm_I h 35 x1.toNatClampNeg) then (cm_I h 35 x1.toNatClampNeg) else (cm_I h 33 5))) 33 6 (if (cm_I h 36 x1.toNatClampNeg) < (cm_I h 33 6) then (cm_I h 36 x1.toNatClampNeg) else (cm_I h 33 6)))) d120_63 pf7_31 (ly_k L 33 rfl) (Or.inl rfl) rfl (wl_ic (v := 1) d120_66 rfl (wl_rz d120_67 rfl (by decide) ((g2k.2 c3).1 c4))))))))))))))))))))) (fun c4 => wl_ic (v := 0) d120_30 rfl (wl_rz d120_31 rfl (by decide) ((g2k.2 c3).2 c4)))))))))))) (H.2 c1)))))
-- ClogHouse$Readings.leastHeld(LClogHouse$Cell;)I
theorem d121_0 : decode (cm_M 121).2.2.1 0 = .ok (.aload_n 1, 1) := by decide +kernel
theorem d121_1 : decode (cm_M 121).2.2.1 1 = .ok (.getfield 61, 3) := by decide +kernel
theorem d121_4 : decode (cm_M 121).2.2.1 4 = .ok (.istore_n 2, 1) := by decide +kernel
theorem d121_5 : decode (cm_M 121).2.2.1 5 = .ok (.iload_n 2, 1) := by decide +kernel
theorem d121_6 : decode (cm_M 121).2.2.1 6 = .ok (.iconst 1, 1) := by decide +kernel
theorem d121_7 : decode (cm_M 121).2.2.1 7 = .ok (.if_icmp .lt 29, 3) := by decide +kernel
theorem d121_10 : decode (cm_M 121).2.2.1 10 = .ok (.aload_n 0, 1) := by decide +kernel
theorem d121_11 : decode (cm_M 121).2.2.1 11 = .ok (.iload_n 2, 1) := by decide +kernel
theorem d121_12 : decode (cm_M 121).2.2.1 12 = .ok (.invokevirtual 66, 3) := by decide +kernel
theorem d121_15 : decode (cm_M 121).2.2.1 15 = .ok (.ifCond .eq 15, 3) := by decide +kernel
theorem d121_18 : decode (cm_M 121).2.2.1 18 = .ok (.aload_n 1, 1) := by decide +kernel
theorem d121_19 : decode (cm_M 121).2.2.1 19 = .ok (.getfield 61, 3) := by decide +kernel
theorem d121_22 : decode (cm_M 121).2.2.1 22 = .ok (.iload_n 2, 1) := by decide +kernel
theorem d121_23 : decode (cm_M 121).2.2.1 23 = .ok (.isub, 1) := by decide +kernel
theorem d121_24 : decode (cm_M 121).2.2.1 24 = .ok (.aload_n 1, 1) := by decide +kernel
theorem d121_25 : decode (cm_M 121).2.2.1 25 = .ok (.getfield 70, 3) := by decide +kernel
theorem d121_28 : decode (cm_M 121).2.2.1 28 = .ok (.imul, 1) := by decide +kernel
theorem d121_29 : decode (cm_M 121).2.2.1 29 = .ok (.ireturn, 1) := by decide +kernel
theorem d121_30 : decode (cm_M 121).2.2.1 30 = .ok (.iinc 2 (-1), 3) := by decide +kernel
theorem d121_33 : decode (cm_M 121).2.2.1 33 = .ok (.goto (-28), 3) := by decide +kernel
theorem d121_36 : decode (cm_M 121).2.2.1 36 = .ok (.iconst (-1), 1) := by decide +kernel
theorem d121_37 : decode (cm_M 121).2.2.1 37 = .ok (.ireturn, 1) := by decide +kernel
theorem s121_0 {sc : cmS} {d : Nat} {h : cmH} {Q : Option Value → cmH → Prop} (a1 : Nat) (u2 : Option Value) (H : (CE h a1) ∧ cm_wp sc d 121 5 [some (.ref 33), some (.ref a1), some (.int (cm_I h a1 4))] [] h Q) : cm_wp sc d 121 0 [some (.ref 33), some (.ref a1), u2] [] h Q :=
  wl_st d121_0 rfl rfl rfl rfl (And.elim (fun g1 g1k => wl_gf (v := .int (cm_I h a1 4)) d121_1 pf7_61 (CE.k g1) rfl (wl_st (ls' := [some (.ref 33), some (.ref a1), some (.int (cm_I h a1 4))]) d121_4 rfl rfl rfl rfl (g1k))) H)
theorem s121_5 {sc : cmS} {d : Nat} {h : cmH} {Q : Option Value → cmH → Prop} (L : LY h) (a1 : Nat) (x2 : Int32) (H : (((x2 < (1 : Int32)) → Q (some (.int (-1 : Int32))) h) ∧ (¬ (x2 < (1 : Int32)) → cm_ci sc d 122 [.ref 33, .int x2] h (fun r h' => cm_wp sc (d + 1) 121 15 [some (.ref 33), some (.ref a1), some (.int x2)] [.int r] h' Q)))) : cm_wp sc (d + 1) 121 5 [some (.ref 33), some (.ref a1), some (.int x2)] [] h Q :=
  wl_st d121_5 rfl rfl rfl rfl (wl_ic (v := 1) d121_6 rfl (wl_cb (b := x2 < (1 : Int32)) (off := 29) (tgt := 36) (pc3 := 10) (st' := []) d121_7 rfl rfl rfl rfl (by decide) rfl (fun c1 => wl_ic (v := (-1)) d121_36 rfl (wl_rt d121_37 rfl rfl rfl (H.1 c1))) (fun c1 => wl_st d121_10 rfl rfl rfl rfl (wl_st d121_11 rfl rfl rfl rfl (wl_ci d121_12 rfl rfl rfl pm7_66 (by decide) (ca_v (Or.inl rfl) rfl (Nat.le_of_ble_eq_true rfl) (Nat.le_of_ble_eq_true rfl) (ly_k L 33 rfl).2 (ly_k L 33 rfl).1 (by decide)) (H.2 c1))))))
theorem s121_15 {sc : cmS} {d : Nat} {h : cmH} {Q : Option Value → cmH → Prop} (a1 : Nat) (x2 : Int32) (sx0 : Int32) (H : (((sx0 = 0) → cm_wp sc d 121 5 [some (.ref 33), some (.ref a1), some (.int (x2 + (-1)))] [] h Q) ∧ (¬ (sx0 = 0) → (CE h a1) ∧ Q (some (.int (((cm_I h a1 4) - x2) * (cm_I h a1 5)))) h))) : cm_wp sc d 121 15 [some (.ref 33), some (.ref a1), some (.int x2)] [.int sx0] h Q :=
  wl_cb (b := sx0 = 0) (off := 15) (tgt := 30) (pc3 := 18) (st' := []) d121_15 rfl rfl rfl rfl (by decide) rfl (fun c1 => wl_st (ls' := [some (.ref 33), some (.ref a1), some (.int (x2 + (-1)))]) d121_30 rfl rfl rfl rfl (wl_go (tgt := 5) d121_33 (by decide) ((H.1 c1)))) (fun c1 => wl_st d121_18 rfl rfl rfl rfl (And.elim (fun g2 g2k => wl_gf (v := .int (cm_I h a1 4)) d121_19 pf7_61 (CE.k g2) rfl (wl_st d121_22 rfl rfl rfl rfl (wl_st d121_23 rfl rfl rfl rfl (wl_st d121_24 rfl rfl rfl rfl (wl_gf (v := .int (cm_I h a1 5)) d121_25 pf7_70 (CE.k g2) rfl (wl_st d121_28 rfl rfl rfl rfl (wl_rt d121_29 rfl rfl rfl g2k))))))) (H.2 c1)))
-- ClogHouse$Readings.fits(I)Z
theorem d122_0 : decode (cm_M 122).2.2.1 0 = .ok (.iload_n 1, 1) := by decide +kernel
theorem d122_1 : decode (cm_M 122).2.2.1 1 = .ok (.invokestatic 57, 3) := by decide +kernel
theorem d122_4 : decode (cm_M 122).2.2.1 4 = .ok (.aload_n 0, 1) := by decide +kernel
theorem d122_5 : decode (cm_M 122).2.2.1 5 = .ok (.getfield 28, 3) := by decide +kernel
theorem d122_8 : decode (cm_M 122).2.2.1 8 = .ok (.aload_n 0, 1) := by decide +kernel
theorem d122_9 : decode (cm_M 122).2.2.1 9 = .ok (.getfield 31, 3) := by decide +kernel
theorem d122_12 : decode (cm_M 122).2.2.1 12 = .ok (.invokestatic 34, 3) := by decide +kernel
theorem d122_15 : decode (cm_M 122).2.2.1 15 = .ok (.ireturn, 1) := by decide +kernel
theorem s122_0 {sc : cmS} {d : Nat} {h : cmH} {Q : Option Value → cmH → Prop} (x1 : Int32) (H : cm_ci sc d 26 [.int x1] h (fun r h' => cm_wp sc (d + 1) 122 4 [some (.ref 33), some (.int x1)] [.int r] h' Q)) : cm_wp sc (d + 1) 122 0 [some (.ref 33), some (.int x1)] [] h Q :=
  wl_st d122_0 rfl rfl rfl rfl (wl_ci d122_1 rfl rfl rfl pm7_57 (by decide) (ca_s (Or.inr rfl) rfl (Nat.le_of_ble_eq_true rfl) (Nat.le_of_ble_eq_true rfl)) H)
theorem s122_4 {sc : cmS} {d : Nat} {h : cmH} {Q : Option Value → cmH → Prop} (L : LY h) (x1 : Int32) (sx0 : Int32) (H : cm_ci sc d 13 [.int sx0, .int (cm_I h 33 5), .int (cm_I h 33 6)] h (fun r h' => cm_wp sc (d + 1) 122 15 [some (.ref 33), some (.int x1)] [.int r] h' Q)) : cm_wp sc (d + 1) 122 4 [some (.ref 33), some (.int x1)] [.int sx0] h Q :=
  wl_st d122_4 rfl rfl rfl rfl (wl_gf (v := .int (cm_I h 33 5)) d122_5 pf7_28 (ly_k L 33 rfl) rfl (wl_st d122_8 rfl rfl rfl rfl (wl_gf (v := .int (cm_I h 33 6)) d122_9 pf7_31 (ly_k L 33 rfl) rfl (wl_ci d122_12 rfl rfl rfl pm7_34 (by decide) (ca_s (Or.inr rfl) rfl (Nat.le_of_ble_eq_true rfl) (Nat.le_of_ble_eq_true rfl)) H))))
theorem s122_15 {sc : cmS} {d : Nat} {h : cmH} {Q : Option Value → cmH → Prop} (x1 : Int32) (sx0 : Int32) (H : (sx0 = 0 ∨ sx0 = 1) ∧ Q (some (.int sx0)) h) : cm_wp sc d 122 15 [some (.ref 33), some (.int x1)] [.int sx0] h Q :=
  And.elim (fun g1 g1k => wl_rz d122_15 rfl g1 g1k) H
-- ClogHouse$Readings.greatestHeld(LClogHouse$Cell;)I
theorem d123_0 : decode (cm_M 123).2.2.1 0 = .ok (.iconst 1, 1) := by decide +kernel
theorem d123_1 : decode (cm_M 123).2.2.1 1 = .ok (.istore_n 2, 1) := by decide +kernel
theorem d123_2 : decode (cm_M 123).2.2.1 2 = .ok (.iload_n 2, 1) := by decide +kernel
theorem d123_3 : decode (cm_M 123).2.2.1 3 = .ok (.aload_n 1, 1) := by decide +kernel
theorem d123_4 : decode (cm_M 123).2.2.1 4 = .ok (.getfield 61, 3) := by decide +kernel
theorem d123_7 : decode (cm_M 123).2.2.1 7 = .ok (.if_icmp .gt 33, 3) := by decide +kernel
theorem d123_10 : decode (cm_M 123).2.2.1 10 = .ok (.aload_n 0, 1) := by decide +kernel
theorem d123_11 : decode (cm_M 123).2.2.1 11 = .ok (.iload_n 2, 1) := by decide +kernel
theorem d123_12 : decode (cm_M 123).2.2.1 12 = .ok (.invokevirtual 66, 3) := by decide +kernel
theorem d123_15 : decode (cm_M 123).2.2.1 15 = .ok (.ifCond .eq 19, 3) := by decide +kernel
theorem d123_18 : decode (cm_M 123).2.2.1 18 = .ok (.aload_n 1, 1) := by decide +kernel
theorem d123_19 : decode (cm_M 123).2.2.1 19 = .ok (.getfield 61, 3) := by decide +kernel
theorem d123_22 : decode (cm_M 123).2.2.1 22 = .ok (.iload_n 2, 1) := by decide +kernel
theorem d123_23 : decode (cm_M 123).2.2.1 23 = .ok (.isub, 1) := by decide +kernel
theorem d123_24 : decode (cm_M 123).2.2.1 24 = .ok (.iconst 1, 1) := by decide +kernel
theorem d123_25 : decode (cm_M 123).2.2.1 25 = .ok (.iadd, 1) := by decide +kernel
theorem d123_26 : decode (cm_M 123).2.2.1 26 = .ok (.aload_n 1, 1) := by decide +kernel
theorem d123_27 : decode (cm_M 123).2.2.1 27 = .ok (.getfield 70, 3) := by decide +kernel
theorem d123_30 : decode (cm_M 123).2.2.1 30 = .ok (.imul, 1) := by decide +kernel
theorem d123_31 : decode (cm_M 123).2.2.1 31 = .ok (.iconst 1, 1) := by decide +kernel
theorem d123_32 : decode (cm_M 123).2.2.1 32 = .ok (.isub, 1) := by decide +kernel
theorem d123_33 : decode (cm_M 123).2.2.1 33 = .ok (.ireturn, 1) := by decide +kernel
theorem d123_34 : decode (cm_M 123).2.2.1 34 = .ok (.iinc 2 1, 3) := by decide +kernel
theorem d123_37 : decode (cm_M 123).2.2.1 37 = .ok (.goto (-35), 3) := by decide +kernel
theorem d123_40 : decode (cm_M 123).2.2.1 40 = .ok (.iconst (-1), 1) := by decide +kernel
theorem d123_41 : decode (cm_M 123).2.2.1 41 = .ok (.ireturn, 1) := by decide +kernel
theorem s123_0 {sc : cmS} {d : Nat} {h : cmH} {Q : Option Value → cmH → Prop} (a1 : Nat) (u2 : Option Value) (H : cm_wp sc d 123 2 [some (.ref 33), some (.ref a1), some (.int (1 : Int32))] [] h Q) : cm_wp sc d 123 0 [some (.ref 33), some (.ref a1), u2] [] h Q :=
  wl_ic (v := 1) d123_0 rfl (wl_st (ls' := [some (.ref 33), some (.ref a1), some (.int (1 : Int32))]) d123_1 rfl rfl rfl rfl (H))
theorem s123_2 {sc : cmS} {d : Nat} {h : cmH} {Q : Option Value → cmH → Prop} (L : LY h) (a1 : Nat) (x2 : Int32) (H : (CE h a1) ∧ ((((cm_I h a1 4) < x2) → Q (some (.int (-1 : Int32))) h) ∧ (¬ ((cm_I h a1 4) < x2) → cm_ci sc d 122 [.ref 33, .int x2] h (fun r h' => cm_wp sc (d + 1) 123 15 [some (.ref 33), some (.ref a1), some (.int x2)] [.int r] h' Q)))) : cm_wp sc (d + 1) 123 2 [some (.ref 33), some (.ref a1), some (.int x2)] [] h Q :=
  wl_st d123_2 rfl rfl rfl rfl (wl_st d123_3 rfl rfl rfl rfl (And.elim (fun g1 g1k => wl_gf (v := .int (cm_I h a1 4)) d123_4 pf7_61 (CE.k g1) rfl (wl_cb (b := (cm_I h a1 4) < x2) (off := 33) (tgt := 40) (pc3 := 10) (st' := []) d123_7 rfl rfl rfl rfl (by decide) rfl (fun c2 => wl_ic (v := (-1)) d123_40 rfl (wl_rt d123_41 rfl rfl rfl (g1k.1 c2))) (fun c2 => wl_st d123_10 rfl rfl rfl rfl (wl_st d123_11 rfl rfl rfl rfl (wl_ci d123_12 rfl rfl rfl pm7_66 (by decide) (ca_v (Or.inl rfl) rfl (Nat.le_of_ble_eq_true rfl) (Nat.le_of_ble_eq_true rfl) (ly_k L 33 rfl).2 (ly_k L 33 rfl).1 (by decide)) (g1k.2 c2)))))) H))
theorem s123_15 {sc : cmS} {d : Nat} {h : cmH} {Q : Option Value → cmH → Prop} (a1 : Nat) (x2 : Int32) (sx0 : Int32) (H : (((sx0 = 0) → cm_wp sc d 123 2 [some (.ref 33), some (.ref a1), some (.int (x2 + 1))] [] h Q) ∧ (¬ (sx0 = 0) → (CE h a1) ∧ Q (some (.int (((((cm_I h a1 4) - x2) + (1 : Int32)) * (cm_I h a1 5)) - (1 : Int32)))) h))) : cm_wp sc d 123 15 [some (.ref 33), some (.ref a1), some (.int x2)] [.int sx0] h Q :=
  wl_cb (b := sx0 = 0) (off := 19) (tgt := 34) (pc3 := 18) (st' := []) d123_15 rfl rfl rfl rfl (by decide) rfl (fun c1 => wl_st (ls' := [some (.ref 33), some (.ref a1), some (.int (x2 + 1))]) d123_34 rfl rfl rfl rfl (wl_go (tgt := 2) d123_37 (by decide) ((H.1 c1)))) (fun c1 => wl_st d123_18 rfl rfl rfl rfl (And.elim (fun g2 g2k => wl_gf (v := .int (cm_I h a1 4)) d123_19 pf7_61 (CE.k g2) rfl (wl_st d123_22 rfl rfl rfl rfl (wl_st d123_23 rfl rfl rfl rfl (wl_ic (v := 1) d123_24 rfl (wl_st d123_25 rfl rfl rfl rfl (wl_st d123_26 rfl rfl rfl rfl (wl_gf (v := .int (cm_I h a1 5)) d123_27 pf7_70 (CE.k g2) rfl (wl_st d123_30 rfl rfl rfl rfl (wl_ic (v := 1) d123_31 rfl (wl_st d123_32 rfl rfl rfl rfl (wl_rt d123_33 rfl rfl rfl g2k))))))))))) (H.2 c1)))
-- ClogHouse$Readings.firstBarring(IILClogHouse$Cell;)I
theorem d125_0 : decode (cm_M 125).2.2.1 0 = .ok (.aload_n 0, 1) := by decide +kernel
theorem d125_1 : decode (cm_M 125).2.2.1 1 = .ok (.invokevirtual 47, 3) := by decide +kernel
theorem d125_4 : decode (cm_M 125).2.2.1 4 = .ok (.iconst 0, 1) := by decide +kernel
theorem d125_5 : decode (cm_M 125).2.2.1 5 = .ok (.istore 4, 2) := by decide +kernel
theorem d125_7 : decode (cm_M 125).2.2.1 7 = .ok (.iload 4, 2) := by decide +kernel
theorem d125_9 : decode (cm_M 125).2.2.1 9 = .ok (.aload_n 0, 1) := by decide +kernel
theorem d125_10 : decode (cm_M 125).2.2.1 10 = .ok (.getfield 24, 3) := by decide +kernel
theorem d125_13 : decode (cm_M 125).2.2.1 13 = .ok (.if_icmp .ge 32, 3) := by decide +kernel
theorem d125_16 : decode (cm_M 125).2.2.1 16 = .ok (.aload_n 0, 1) := by decide +kernel
theorem d125_17 : decode (cm_M 125).2.2.1 17 = .ok (.iload 4, 2) := by decide +kernel
theorem d125_19 : decode (cm_M 125).2.2.1 19 = .ok (.iload_n 1, 1) := by decide +kernel
theorem d125_20 : decode (cm_M 125).2.2.1 20 = .ok (.iload_n 2, 1) := by decide +kernel
theorem d125_21 : decode (cm_M 125).2.2.1 21 = .ok (.invokevirtual 50, 3) := by decide +kernel
theorem d125_24 : decode (cm_M 125).2.2.1 24 = .ok (.ifCond .eq 15, 3) := by decide +kernel
theorem d125_27 : decode (cm_M 125).2.2.1 27 = .ok (.aload_n 0, 1) := by decide +kernel
theorem d125_28 : decode (cm_M 125).2.2.1 28 = .ok (.aload_n 3, 1) := by decide +kernel
theorem d125_29 : decode (cm_M 125).2.2.1 29 = .ok (.invokevirtual 53, 3) := by decide +kernel
theorem d125_32 : decode (cm_M 125).2.2.1 32 = .ok (.iconst (-1), 1) := by decide +kernel
theorem d125_33 : decode (cm_M 125).2.2.1 33 = .ok (.if_icmp .ne 6, 3) := by decide +kernel
theorem d125_36 : decode (cm_M 125).2.2.1 36 = .ok (.iload 4, 2) := by decide +kernel
theorem d125_38 : decode (cm_M 125).2.2.1 38 = .ok (.ireturn, 1) := by decide +kernel
theorem d125_39 : decode (cm_M 125).2.2.1 39 = .ok (.iinc 4 1, 3) := by decide +kernel
theorem d125_42 : decode (cm_M 125).2.2.1 42 = .ok (.goto (-35), 3) := by decide +kernel
theorem d125_45 : decode (cm_M 125).2.2.1 45 = .ok (.iconst (-1), 1) := by decide +kernel
theorem d125_46 : decode (cm_M 125).2.2.1 46 = .ok (.ireturn, 1) := by decide +kernel
theorem s125_0 {sc : cmS} {d : Nat} {h : cmH} {Q : Option Value → cmH → Prop} (L : LY h) (x1 : Int32) (x2 : Int32) (a3 : Nat) (u4 : Option Value) (H : cm_cv sc d 119 [.ref 33] h (fun h' => cm_wp sc (d + 1) 125 4 [some (.ref 33), some (.int x1), some (.int x2), some (.ref a3), u4] [] h' Q)) : cm_wp sc (d + 1) 125 0 [some (.ref 33), some (.int x1), some (.int x2), some (.ref a3), u4] [] h Q :=
  wl_st d125_0 rfl rfl rfl rfl (wl_cv d125_1 rfl rfl rfl pm7_47 (by decide) (ca_v (Or.inl rfl) rfl (Nat.le_of_ble_eq_true rfl) (Nat.le_of_ble_eq_true rfl) (ly_k L 33 rfl).2 (ly_k L 33 rfl).1 (by decide)) H)
theorem s125_4 {sc : cmS} {d : Nat} {h : cmH} {Q : Option Value → cmH → Prop} (x1 : Int32) (x2 : Int32) (a3 : Nat) (u4 : Option Value) (H : cm_wp sc d 125 7 [some (.ref 33), some (.int x1), some (.int x2), some (.ref a3), some (.int (0 : Int32))] [] h Q) : cm_wp sc d 125 4 [some (.ref 33), some (.int x1), some (.int x2), some (.ref a3), u4] [] h Q :=
  wl_ic (v := 0) d125_4 rfl (wl_st (ls' := [some (.ref 33), some (.int x1), some (.int x2), some (.ref a3), some (.int (0 : Int32))]) d125_5 rfl rfl rfl rfl (H))
theorem s125_7 {sc : cmS} {d : Nat} {h : cmH} {Q : Option Value → cmH → Prop} (L : LY h) (x1 : Int32) (x2 : Int32) (a3 : Nat) (x4 : Int32) (H : ((((cm_I h 33 4) ≤ x4) → Q (some (.int (-1 : Int32))) h) ∧ (¬ ((cm_I h 33 4) ≤ x4) → cm_ci sc d 120 [.ref 33, .int x4, .int x1, .int x2] h (fun r h' => cm_wp sc (d + 1) 125 24 [some (.ref 33), some (.int x1), some (.int x2), some (.ref a3), some (.int x4)] [.int r] h' Q)))) : cm_wp sc (d + 1) 125 7 [some (.ref 33), some (.int x1), some (.int x2), some (.ref a3), some (.int x4)] [] h Q :=
  wl_st d125_7 rfl rfl rfl rfl (wl_st d125_9 rfl rfl rfl rfl (wl_gf (v := .int (cm_I h 33 4)) d125_10 pf7_24 (ly_k L 33 rfl) rfl (wl_cb (b := (cm_I h 33 4) ≤ x4) (off := 32) (tgt := 45) (pc3 := 16) (st' := []) d125_13 rfl rfl rfl rfl (by decide) rfl (fun c1 => wl_ic (v := (-1)) d125_45 rfl (wl_rt d125_46 rfl rfl rfl (H.1 c1))) (fun c1 => wl_st d125_16 rfl rfl rfl rfl (wl_st d125_17 rfl rfl rfl rfl (wl_st d125_19 rfl rfl rfl rfl (wl_st d125_20 rfl rfl rfl rfl (wl_ci d125_21 rfl rfl rfl pm7_50 (by decide) (ca_v (Or.inl rfl) rfl (Nat.le_of_ble_eq_true rfl) (Nat.le_of_ble_eq_true rfl) (ly_k L 33 rfl).2 (ly_k L 33 rfl).1 (by decide)) (H.2 c1)))))))))
theorem s125_24 {sc : cmS} {d : Nat} {h : cmH} {Q : Option Value → cmH → Prop} (L : LY h) (x1 : Int32) (x2 : Int32) (a3 : Nat) (x4 : Int32) (sx0 : Int32) (H : (((sx0 = 0) → cm_wp sc (d + 1) 125 39 [some (.ref 33), some (.int x1), some (.int x2), some (.ref a3), some (.int x4)] [] h Q) ∧ (¬ (sx0 = 0) → cm_ci sc d 121 [.ref 33, .ref a3] h (fun r h' => cm_wp sc (d + 1) 125 32 [some (.ref 33), some (.int x1), some (.int x2), some (.ref a3), some (.int x4)] [.int r] h' Q)))) : cm_wp sc (d + 1) 125 24 [some (.ref 33), some (.int x1), some (.int x2), some (.ref a3), some (.int x4)] [.int sx0] h Q :=
  wl_cb (b := sx0 = 0) (off := 15) (tgt := 39) (pc3 := 27) (st' := []) d125_24 rfl rfl rfl rfl (by decide) rfl (fun c1 => (H.1 c1)) (fun c1 => wl_st d125_27 rfl rfl rfl rfl (wl_st d125_28 rfl rfl rfl rfl (wl_ci d125_29 rfl rfl rfl pm7_53 (by decide) (ca_v (Or.inl rfl) rfl (Nat.le_of_ble_eq_true rfl) (Nat.le_of_ble_eq_true rfl) (ly_k L 33 rfl).2 (ly_k L 33 rfl).1 (by decide)) (H.2 c1))))
theorem s125_32 {sc : cmS} {d : Nat} {h : cmH} {Q : Option Value → cmH → Prop} (x1 : Int32) (x2 : Int32) (a3 : Nat) (x4 : Int32) (sx0 : Int32) (H : (((¬ sx0 = (-1 : Int32)) → cm_wp sc d 125 39 [some (.ref 33), some (.int x1), some (.int x2), some (.ref a3), some (.int x4)] [] h Q) ∧ (¬ (¬ sx0 = (-1 : Int32)) → Q (some (.int x4)) h))) : cm_wp sc d 125 32 [some (.ref 33), some (.int x1), some (.int x2), some (.ref a3), some (.int x4)] [.int sx0] h Q :=
  wl_ic (v := (-1)) d125_32 rfl (wl_cb (b := ¬ sx0 = (-1 : Int32)) (off := 6) (tgt := 39) (pc3 := 36) (st' := []) d125_33 rfl rfl rfl rfl (by decide) rfl (fun c1 => (H.1 c1)) (fun c1 => wl_st d125_36 rfl rfl rfl rfl (wl_rt d125_38 rfl rfl rfl (H.2 c1))))
theorem s125_39 {sc : cmS} {d : Nat} {h : cmH} {Q : Option Value → cmH → Prop} (x1 : Int32) (x2 : Int32) (a3 : Nat) (x4 : Int32) (H : cm_wp sc d 125 7 [some (.ref 33), some (.int x1), some (.int x2), some (.ref a3), some (.int (x4 + 1))] [] h Q) : cm_wp sc d 125 39 [some (.ref 33), some (.int x1), some (.int x2), some (.ref a3), some (.int x4)] [] h Q :=
  wl_st (ls' := [some (.ref 33), some (.int x1), some (.int x2), some (.ref a3), some (.int (x4 + 1))]) d125_39 rfl rfl rfl rfl (wl_go (tgt := 7) d125_42 (by decide) (H))
-- ClogHouse$Stream.<init>()V
theorem d5_0 : decode (cm_M 5).2.2.1 0 = .ok (.aload_n 0, 1) := by decide +kernel
theorem d5_1 : decode (cm_M 5).2.2.1 1 = .ok (.invokespecial 3, 3) := by decide +kernel
theorem d5_4 : decode (cm_M 5).2.2.1 4 = .ok (.aload_n 0, 1) := by decide +kernel
theorem d5_5 : decode (cm_M 5).2.2.1 5 = .ok (.bipush 8, 2) := by decide +kernel
theorem d5_7 : decode (cm_M 5).2.2.1 7 = .ok (.newarray .int, 2) := by decide +kernel
theorem d5_9 : decode (cm_M 5).2.2.1 9 = .ok (.putfield 9, 3) := by decide +kernel
theorem d5_12 : decode (cm_M 5).2.2.1 12 = .ok (.return_, 1) := by decide +kernel
theorem s5_0 {sc : cmS} {d : Nat} {h : cmH} {Q : Option Value → cmH → Prop} (a0 : Nat) (H : (cm_kd (cm_mk h 13 8) a0 = 8 ∧ a0 < cm_n (cm_mk h 13 8)) ∧ Q none (cm_setR (cm_mk h 13 8) a0 0 (some (cm_n h)))) : cm_wp sc (d + 1) 5 0 [some (.ref a0)] [] h Q :=
  wl_st d5_0 rfl rfl rfl rfl (wl_pr (st' := []) d5_1 rfl rfl rfl pm8_3 (by decide) rfl rfl (wl_st d5_4 rfl rfl rfl rfl (wl_bi (v := 8) d5_5 rfl (wl_na (kd := 13) (N := 8) d5_7 (by decide) (by decide) rfl (And.elim (fun g1 g1k => wl_pf (h' := (cm_setR (cm_mk h 13 8) a0 0 (some (cm_n h)))) d5_9 pf8_9 g1 (Or.inr ⟨rfl, rfl, rfl⟩) rfl (wl_rt d5_12 rfl rfl rfl g1k)) H)))))
-- ClogHouse$Stream.comingOf(I)I
theorem d78_0 : decode (cm_M 78).2.2.1 0 = .ok (.aload_n 0, 1) := by decide +kernel
theorem d78_1 : decode (cm_M 78).2.2.1 1 = .ok (.getfield 15, 3) := by decide +kernel
theorem d78_4 : decode (cm_M 78).2.2.1 4 = .ok (.iconst 1, 1) := by decide +kernel
theorem d78_5 : decode (cm_M 78).2.2.1 5 = .ok (.if_icmp .lt 10, 3) := by decide +kernel
theorem d78_8 : decode (cm_M 78).2.2.1 8 = .ok (.iload_n 1, 1) := by decide +kernel
theorem d78_9 : decode (cm_M 78).2.2.1 9 = .ok (.invokestatic 19, 3) := by decide +kernel
theorem d78_12 : decode (cm_M 78).2.2.1 12 = .ok (.ifCond .ne 7, 3) := by decide +kernel
theorem d78_15 : decode (cm_M 78).2.2.1 15 = .ok (.iconst 0, 1) := by decide +kernel
theorem d78_16 : decode (cm_M 78).2.2.1 16 = .ok (.goto 9, 3) := by decide +kernel
theorem d78_19 : decode (cm_M 78).2.2.1 19 = .ok (.aload_n 0, 1) := by decide +kernel
theorem d78_20 : decode (cm_M 78).2.2.1 20 = .ok (.getfield 9, 3) := by decide +kernel
theorem d78_23 : decode (cm_M 78).2.2.1 23 = .ok (.iload_n 1, 1) := by decide +kernel
theorem d78_24 : decode (cm_M 78).2.2.1 24 = .ok (.iaload, 1) := by decide +kernel
theorem d78_25 : decode (cm_M 78).2.2.1 25 = .ok (.ireturn, 1) := by decide +kernel
theorem s78_0 {sc : cmS} {d : Nat} {h : cmH} {Q : Option Value → cmH → Prop} (L : LY h) (x1 : Int32) (H : ((((cm_I h 12 1) < (1 : Int32)) → cm_wp sc (d + 1) 78 15 [some (.ref 12), some (.int x1)] [] h Q) ∧ (¬ ((cm_I h 12 1) < (1 : Int32)) → cm_ci sc d 12 [.int x1] h (fun r h' => cm_wp sc (d + 1) 78 12 [some (.ref 12), some (.int x1)] [.int r] h' Q)))) : cm_wp sc (d + 1) 78 0 [some (.ref 12), some (.int x1)] [] h Q :=
  wl_st d78_0 rfl rfl rfl rfl (wl_gf (v := .int (cm_I h 12 1)) d78_1 pf8_15 (ly_k L 12 rfl) rfl (wl_ic (v := 1) d78_4 rfl (wl_cb (b := (cm_I h 12 1) < (1 : Int32)) (off := 10) (tgt := 15) (pc3 := 8) (st' := []) d78_5 rfl rfl rfl rfl (by decide) rfl (fun c1 => (H.1 c1)) (fun c1 => wl_st d78_8 rfl rfl rfl rfl (wl_ci d78_9 rfl rfl rfl pm8_19 (by decide) (ca_s (Or.inr rfl) rfl (Nat.le_of_ble_eq_true rfl) (Nat.le_of_ble_eq_true rfl)) (H.2 c1))))))
theorem s78_12 {sc : cmS} {d : Nat} {h : cmH} {Q : Option Value → cmH → Prop} (L : LY h) (x1 : Int32) (sx0 : Int32) (H : (((¬ sx0 = 0) → (IX 8 x1) ∧ Q (some (.int (cm_I h 13 x1.toNatClampNeg))) h) ∧ (¬ (¬ sx0 = 0) → cm_wp sc d 78 15 [some (.ref 12), some (.int x1)] [] h Q))) : cm_wp sc d 78 12 [some (.ref 12), some (.int x1)] [.int sx0] h Q :=
  wl_cb (b := ¬ sx0 = 0) (off := 7) (tgt := 19) (pc3 := 15) (st' := []) d78_12 rfl rfl rfl rfl (by decide) rfl (fun c1 => wl_st d78_19 rfl rfl rfl rfl (wl_gr (b := 13) d78_20 pf8_9 (ly_k L 12 rfl) rfl (ly_r L 12 0 rfl) (wl_st d78_23 rfl rfl rfl rfl (And.elim (fun g2 g2k => wl_if (g := cm_ok h 13 13 x1) (st' := [.int (cm_I h 13 x1.toNatClampNeg)]) d78_24 rfl rfl rfl rfl (ly_o L 13 rfl g2) (wl_rt d78_25 rfl rfl rfl g2k)) (H.1 c1))))) (fun c1 => (H.2 c1))
theorem s78_15 {sc : cmS} {d : Nat} {h : cmH} {Q : Option Value → cmH → Prop} (x1 : Int32) (H : Q (some (.int (0 : Int32))) h) : cm_wp sc d 78 15 [some (.ref 12), some (.int x1)] [] h Q :=
  wl_ic (v := 0) d78_15 rfl (wl_go (tgt := 25) d78_16 (by decide) (wl_rt d78_25 rfl rfl rfl H))
-- ClogHouse$Stream.comingInAll()I
theorem d106_0 : decode (cm_M 106).2.2.1 0 = .ok (.iconst 0, 1) := by decide +kernel
theorem d106_1 : decode (cm_M 106).2.2.1 1 = .ok (.istore_n 1, 1) := by decide +kernel
theorem d106_2 : decode (cm_M 106).2.2.1 2 = .ok (.iconst 0, 1) := by decide +kernel
theorem d106_3 : decode (cm_M 106).2.2.1 3 = .ok (.istore_n 2, 1) := by decide +kernel
theorem d106_4 : decode (cm_M 106).2.2.1 4 = .ok (.iload_n 2, 1) := by decide +kernel
theorem d106_5 : decode (cm_M 106).2.2.1 5 = .ok (.bipush 8, 2) := by decide +kernel
theorem d106_7 : decode (cm_M 106).2.2.1 7 = .ok (.if_icmp .ge 17, 3) := by decide +kernel
theorem d106_10 : decode (cm_M 106).2.2.1 10 = .ok (.iload_n 1, 1) := by decide +kernel
theorem d106_11 : decode (cm_M 106).2.2.1 11 = .ok (.aload_n 0, 1) := by decide +kernel
theorem d106_12 : decode (cm_M 106).2.2.1 12 = .ok (.iload_n 2, 1) := by decide +kernel
theorem d106_13 : decode (cm_M 106).2.2.1 13 = .ok (.invokevirtual 23, 3) := by decide +kernel
theorem d106_16 : decode (cm_M 106).2.2.1 16 = .ok (.iadd, 1) := by decide +kernel
theorem d106_17 : decode (cm_M 106).2.2.1 17 = .ok (.istore_n 1, 1) := by decide +kernel
theorem d106_18 : decode (cm_M 106).2.2.1 18 = .ok (.iinc 2 1, 3) := by decide +kernel
theorem d106_21 : decode (cm_M 106).2.2.1 21 = .ok (.goto (-17), 3) := by decide +kernel
theorem d106_24 : decode (cm_M 106).2.2.1 24 = .ok (.iload_n 1, 1) := by decide +kernel
theorem d106_25 : decode (cm_M 106).2.2.1 25 = .ok (.ireturn, 1) := by decide +kernel
theorem s106_0 {sc : cmS} {d : Nat} {h : cmH} {Q : Option Value → cmH → Prop} (u1 : Option Value) (u2 : Option Value) (H : cm_wp sc d 106 4 [some (.ref 12), some (.int (0 : Int32)), some (.int (0 : Int32))] [] h Q) : cm_wp sc d 106 0 [some (.ref 12), u1, u2] [] h Q :=
  wl_ic (v := 0) d106_0 rfl (wl_st (ls' := [some (.ref 12), some (.int (0 : Int32)), u2]) d106_1 rfl rfl rfl rfl (wl_ic (v := 0) d106_2 rfl (wl_st (ls' := [some (.ref 12), some (.int (0 : Int32)), some (.int (0 : Int32))]) d106_3 rfl rfl rfl rfl (H))))
theorem s106_4 {sc : cmS} {d : Nat} {h : cmH} {Q : Option Value → cmH → Prop} (L : LY h) (x1 : Int32) (x2 : Int32) (H : ((((8 : Int32) ≤ x2) → Q (some (.int x1)) h) ∧ (¬ ((8 : Int32) ≤ x2) → cm_ci sc d 78 [.ref 12, .int x2] h (fun r h' => cm_wp sc (d + 1) 106 16 [some (.ref 12), some (.int x1), some (.int x2)] [.int r, .int x1] h' Q)))) : cm_wp sc (d + 1) 106 4 [some (.ref 12), some (.int x1), some (.int x2)] [] h Q :=
  wl_st d106_4 rfl rfl rfl rfl (wl_bi (v := 8) d106_5 rfl (wl_cb (b := (8 : Int32) ≤ x2) (off := 17) (tgt := 24) (pc3 := 10) (st' := []) d106_7 rfl rfl rfl rfl (by decide) rfl (fun c1 => wl_st d106_24 rfl rfl rfl rfl (wl_rt d106_25 rfl rfl rfl (H.1 c1))) (fun c1 => wl_st d106_10 rfl rfl rfl rfl (wl_st d106_11 rfl rfl rfl rfl (wl_st d106_12 rfl rfl rfl rfl (wl_ci d106_13 rfl rfl rfl pm8_23 (by decide) (ca_v (Or.inl rfl) rfl (Nat.le_of_ble_eq_true rfl) (Nat.le_of_ble_eq_true rfl) (ly_k L 12 rfl).2 (ly_k L 12 rfl).1 (by decide)) (H.2 c1)))))))
theorem s106_16 {sc : cmS} {d : Nat} {h : cmH} {Q : Option Value → cmH → Prop} (x1 : Int32) (x2 : Int32) (sx0 : Int32) (sx1 : Int32) (H : cm_wp sc d 106 4 [some (.ref 12), some (.int (sx1 + sx0)), some (.int (x2 + 1))] [] h Q) : cm_wp sc d 106 16 [some (.ref 12), some (.int x1), some (.int x2)] [.int sx0, .int sx1] h Q :=
  wl_st d106_16 rfl rfl rfl rfl (wl_st (ls' := [some (.ref 12), some (.int (sx1 + sx0)), some (.int x2)]) d106_17 rfl rfl rfl rfl (wl_st (ls' := [some (.ref 12), some (.int (sx1 + sx0)), some (.int (x2 + 1))]) d106_18 rfl rfl rfl rfl (wl_go (tgt := 4) d106_21 (by decide) (H))))
-- ClogHouse$Text.<init>(I)V
theorem d3_0 : decode (cm_M 3).2.2.1 0 = .ok (.aload_n 0, 1) := by decide +kernel
theorem d3_1 : decode (cm_M 3).2.2.1 1 = .ok (.invokespecial 1, 3) := by decide +kernel
theorem d3_4 : decode (cm_M 3).2.2.1 4 = .ok (.aload_n 0, 1) := by decide +kernel
theorem d3_5 : decode (cm_M 3).2.2.1 5 = .ok (.iconst 0, 1) := by decide +kernel
theorem d3_6 : decode (cm_M 3).2.2.1 6 = .ok (.iload_n 1, 1) := by decide +kernel
theorem d3_7 : decode (cm_M 3).2.2.1 7 = .ok (.invokestatic 7, 3) := by decide +kernel
theorem d3_10 : decode (cm_M 3).2.2.1 10 = .ok (.newarray .char, 2) := by decide +kernel
theorem d3_12 : decode (cm_M 3).2.2.1 12 = .ok (.putfield 13, 3) := by decide +kernel
theorem d3_15 : decode (cm_M 3).2.2.1 15 = .ok (.return_, 1) := by decide +kernel
theorem s3_0 {sc : cmS} {d : Nat} {h : cmH} {Q : Option Value → cmH → Prop} (a0 : Nat) (x1 : Int32) (H : (¬ (if (0 : Int32) < x1 then x1 else (0 : Int32)) < 0 ∧ (if (0 : Int32) < x1 then x1 else (0 : Int32)).toNatClampNeg ≤ 60000000) ∧ (cm_kd (cm_mk h 12 (if (0 : Int32) < x1 then x1 else (0 : Int32)).toNatClampNeg) a0 = 9 ∧ a0 < cm_n (cm_mk h 12 (if (0 : Int32) < x1 then x1 else (0 : Int32)).toNatClampNeg)) ∧ Q none (cm_setR (cm_mk h 12 (if (0 : Int32) < x1 then x1 else (0 : Int32)).toNatClampNeg) a0 0 (some (cm_n h)))) : cm_wp sc (d + 1) 3 0 [some (.ref a0), some (.int x1)] [] h Q :=
  wl_st d3_0 rfl rfl rfl rfl (wl_pr (st' := []) d3_1 rfl rfl rfl pm9_1 (by decide) rfl rfl (wl_st d3_4 rfl rfl rfl rfl (wl_ic (v := 0) d3_5 rfl (wl_st d3_6 rfl rfl rfl rfl (wl_pr (st' := [.int (if (0 : Int32) < x1 then x1 else (0 : Int32)), .ref a0]) d3_7 rfl rfl rfl pm9_7 (by decide) rfl rfl (And.elim (fun g1 g1k => wl_na (kd := 12) d3_10 (by decide) g1 rfl (And.elim (fun g2 g2k => wl_pf (h' := (cm_setR (cm_mk h 12 (if (0 : Int32) < x1 then x1 else (0 : Int32)).toNatClampNeg) a0 0 (some (cm_n h)))) d3_12 pf9_13 g2 (Or.inr ⟨rfl, rfl, rfl⟩) rfl (wl_rt d3_15 rfl rfl rfl g2k)) g1k)) H))))))
-- ClogHouse$Text.addBytes(I)V
theorem d36_0 : decode (cm_M 36).2.2.1 0 = .ok (.bipush 24, 2) := by decide +kernel
theorem d36_2 : decode (cm_M 36).2.2.1 2 = .ok (.istore_n 2, 1) := by decide +kernel
theorem d36_3 : decode (cm_M 36).2.2.1 3 = .ok (.iload_n 2, 1) := by decide +kernel
theorem d36_4 : decode (cm_M 36).2.2.1 4 = .ok (.ifCond .lt 61, 3) := by decide +kernel
theorem d36_7 : decode (cm_M 36).2.2.1 7 = .ok (.iload_n 1, 1) := by decide +kernel
theorem d36_8 : decode (cm_M 36).2.2.1 8 = .ok (.iload_n 2, 1) := by decide +kernel
theorem d36_9 : decode (cm_M 36).2.2.1 9 = .ok (.iushr, 1) := by decide +kernel
theorem d36_10 : decode (cm_M 36).2.2.1 10 = .ok (.sipush 255, 3) := by decide +kernel
theorem d36_13 : decode (cm_M 36).2.2.1 13 = .ok (.iand, 1) := by decide +kernel
theorem d36_14 : decode (cm_M 36).2.2.1 14 = .ok (.istore_n 3, 1) := by decide +kernel
theorem d36_15 : decode (cm_M 36).2.2.1 15 = .ok (.iload_n 3, 1) := by decide +kernel
theorem d36_16 : decode (cm_M 36).2.2.1 16 = .ok (.ifCond .eq 43, 3) := by decide +kernel
theorem d36_19 : decode (cm_M 36).2.2.1 19 = .ok (.aload_n 0, 1) := by decide +kernel
theorem d36_20 : decode (cm_M 36).2.2.1 20 = .ok (.getfield 19, 3) := by decide +kernel
theorem d36_23 : decode (cm_M 36).2.2.1 23 = .ok (.ifCond .lt 36, 3) := by decide +kernel
theorem d36_26 : decode (cm_M 36).2.2.1 26 = .ok (.aload_n 0, 1) := by decide +kernel
theorem d36_27 : decode (cm_M 36).2.2.1 27 = .ok (.getfield 19, 3) := by decide +kernel
theorem d36_30 : decode (cm_M 36).2.2.1 30 = .ok (.aload_n 0, 1) := by decide +kernel
theorem d36_31 : decode (cm_M 36).2.2.1 31 = .ok (.getfield 13, 3) := by decide +kernel
theorem d36_34 : decode (cm_M 36).2.2.1 34 = .ok (.arraylength, 1) := by decide +kernel
theorem d36_35 : decode (cm_M 36).2.2.1 35 = .ok (.if_icmp .ge 24, 3) := by decide +kernel
theorem d36_38 : decode (cm_M 36).2.2.1 38 = .ok (.aload_n 0, 1) := by decide +kernel
theorem d36_39 : decode (cm_M 36).2.2.1 39 = .ok (.getfield 13, 3) := by decide +kernel
theorem d36_42 : decode (cm_M 36).2.2.1 42 = .ok (.aload_n 0, 1) := by decide +kernel
theorem d36_43 : decode (cm_M 36).2.2.1 43 = .ok (.getfield 19, 3) := by decide +kernel
theorem d36_46 : decode (cm_M 36).2.2.1 46 = .ok (.iload_n 3, 1) := by decide +kernel
theorem d36_47 : decode (cm_M 36).2.2.1 47 = .ok (.i2c, 1) := by decide +kernel
theorem d36_48 : decode (cm_M 36).2.2.1 48 = .ok (.castore, 1) := by decide +kernel
theorem d36_49 : decode (cm_M 36).2.2.1 49 = .ok (.aload_n 0, 1) := by decide +kernel
theorem d36_50 : decode (cm_M 36).2.2.1 50 = .ok (.dup, 1) := by decide +kernel
theorem d36_51 : decode (cm_M 36).2.2.1 51 = .ok (.getfield 19, 3) := by decide +kernel
theorem d36_54 : decode (cm_M 36).2.2.1 54 = .ok (.iconst 1, 1) := by decide +kernel
theorem d36_55 : decode (cm_M 36).2.2.1 55 = .ok (.iadd, 1) := by decide +kernel
theorem d36_56 : decode (cm_M 36).2.2.1 56 = .ok (.putfield 19, 3) := by decide +kernel
theorem d36_59 : decode (cm_M 36).2.2.1 59 = .ok (.iinc 2 (-8), 3) := by decide +kernel
theorem d36_62 : decode (cm_M 36).2.2.1 62 = .ok (.goto (-59), 3) := by decide +kernel
theorem d36_65 : decode (cm_M 36).2.2.1 65 = .ok (.return_, 1) := by decide +kernel
theorem s36_0 {sc : cmS} {d : Nat} {h : cmH} {Q : Option Value → cmH → Prop} (a0 : Nat) (x1 : Int32) (u2 : Option Value) (u3 : Option Value) (H : cm_wp sc d 36 3 [some (.ref a0), some (.int x1), some (.int (24 : Int32)), u3] [] h Q) : cm_wp sc d 36 0 [some (.ref a0), some (.int x1), u2, u3] [] h Q :=
  wl_bi (v := 24) d36_0 rfl (wl_st (ls' := [some (.ref a0), some (.int x1), some (.int (24 : Int32)), u3]) d36_2 rfl rfl rfl rfl (H))
theorem s36_3 {sc : cmS} {d : Nat} {h : cmH} {Q : Option Value → cmH → Prop} (a0 : Nat) (x1 : Int32) (x2 : Int32) (u3 : Option Value) (H : (((x2 < 0) → Q none h) ∧ (¬ (x2 < 0) → ((((((x1.toUInt32 >>> (x2.toUInt32 &&& Int32.toUInt32 31)).toInt32) &&& (255 : Int32)) = 0) → cm_wp sc d 36 59 [some (.ref a0), some (.int x1), some (.int x2), some (.int (((x1.toUInt32 >>> (x2.toUInt32 &&& Int32.toUInt32 31)).toInt32) &&& (255 : Int32)))] [] h Q) ∧ (¬ ((((x1.toUInt32 >>> (x2.toUInt32 &&& Int32.toUInt32 31)).toInt32) &&& (255 : Int32)) = 0) → (TX h a0) ∧ ((((cm_I h a0 1) < 0) → cm_wp sc d 36 59 [some (.ref a0), some (.int x1), some (.int x2), some (.int (((x1.toUInt32 >>> (x2.toUInt32 &&& Int32.toUInt32 31)).toInt32) &&& (255 : Int32)))] [] h Q) ∧ (¬ ((cm_I h a0 1) < 0) → (12 ≤ cm_kd h (a0 + 1) ∧ cm_kd h (a0 + 1) ≤ 18 ∧ (a0 + 1) < cm_n h) ∧ ((((Int32.ofNat (cm_ln h (a0 + 1))) ≤ (cm_I h a0 1)) → cm_wp sc d 36 59 [some (.ref a0), some (.int x1), some (.int x2), some (.int (((x1.toUInt32 >>> (x2.toUInt32 &&& Int32.toUInt32 31)).toInt32) &&& (255 : Int32)))] [] h Q) ∧ (¬ ((Int32.ofNat (cm_ln h (a0 + 1))) ≤ (cm_I h a0 1)) → (cm_ok h 12 (a0 + 1) (cm_I h a0 1)) ∧ cm_wp sc d 36 59 [some (.ref a0), some (.int x1), some (.int x2), some (.int (((x1.toUInt32 >>> (x2.toUInt32 &&& Int32.toUInt32 31)).toInt32) &&& (255 : Int32)))] [] (cm_setI (cm_setI h (a0 + 1) (cm_I h a0 1).toNatClampNeg (vp_nar .char (((((x1.toUInt32 >>> (x2.toUInt32 &&& Int32.toUInt32 31)).toInt32) &&& (255 : Int32)).toUInt32 % 65536).toInt32))) a0 1 ((cm_I (cm_setI h (a0 + 1) (cm_I h a0 1).toNatClampNeg (vp_nar .char (((((x1.toUInt32 >>> (x2.toUInt32 &&& Int32.toUInt32 31)).toInt32) &&& (255 : Int32)).toUInt32 % 65536).toInt32))) a0 1) + (1 : Int32))) Q))))))))) : cm_wp sc d 36 3 [some (.ref a0), some (.int x1), some (.int x2), u3] [] h Q :=
  wl_st d36_3 rfl rfl rfl rfl (wl_cb (b := x2 < 0) (off := 61) (tgt := 65) (pc3 := 7) (st' := []) d36_4 rfl rfl rfl rfl (by decide) rfl (fun c1 => wl_rt d36_65 rfl rfl rfl (H.1 c1)) (fun c1 => wl_st d36_7 rfl rfl rfl rfl (wl_st d36_8 rfl rfl rfl rfl (wl_st d36_9 rfl rfl rfl rfl (wl_si (v := 255) d36_10 rfl (wl_st d36_13 rfl rfl rfl rfl (wl_st (ls' := [some (.ref a0), some (.int x1), some (.int x2), some (.int (((x1.toUInt32 >>> (x2.toUInt32 &&& Int32.toUInt32 31)).toInt32) &&& (255 : Int32)))]) d36_14 rfl rfl rfl rfl (wl_st d36_15 rfl rfl rfl rfl (wl_cb (b := (((x1.toUInt32 >>> (x2.toUInt32 &&& Int32.toUInt32 31)).toInt32) &&& (255 : Int32)) = 0) (off := 43) (tgt := 59) (pc3 := 19) (st' := []) d36_16 rfl rfl rfl rfl (by decide) rfl (fun c2 => ((H.2 c1).1 c2)) (fun c2 => wl_st d36_19 rfl rfl rfl rfl (And.elim (fun g3 g3k => wl_gf (v := .int (cm_I h a0 1)) d36_20 pf9_19 (TX.k g3) rfl (wl_cb (b := (cm_I h a0 1) < 0) (off := 36) (tgt := 59) (pc3 := 26) (st' := []) d36_23 rfl rfl rfl rfl (by decide) rfl (fun c4 => (g3k.1 c4)) (fun c4 => wl_st d36_26 rfl rfl rfl rfl (wl_gf (v := .int (cm_I h a0 1)) d36_27 pf9_19 (TX.k g3) rfl (wl_st d36_30 rfl rfl rfl rfl (wl_gr (b := (a0 + 1)) d36_31 pf9_13 (TX.k g3) rfl (TX.r0 g3) (And.elim (fun g5 g5k => wl_if (st' := [.int (Int32.ofNat (cm_ln h (a0 + 1))), .int (cm_I h a0 1)]) d36_34 rfl rfl rfl rfl g5 (wl_cb (b := (Int32.ofNat (cm_ln h (a0 + 1))) ≤ (cm_I h a0 1)) (off := 24) (tgt := 59) (pc3 := 38) (st' := []) d36_35 rfl rfl rfl rfl (by decide) rfl (fun c6 => (g5k.1 c6)) (fun c6 => wl_st d36_38 rfl rfl rfl rfl (wl_gr (b := (a0 + 1)) d36_39 pf9_13 (TX.k g3) rfl (TX.r0 g3) (wl_st d36_42 rfl rfl rfl rfl (wl_gf (v := .int (cm_I h a0 1)) d36_43 pf9_19 (TX.k g3) rfl (wl_st d36_46 rfl rfl rfl rfl (wl_st d36_47 rfl rfl rfl rfl (And.elim (fun g7 g7k => wl_if (h' := (cm_setI h (a0 + 1) (cm_I h a0 1).toNatClampNeg (vp_nar .char (((((x1.toUInt32 >>> (x2.toUInt32 &&& Int32.toUInt32 31)).toInt32) &&& (255 : Int32)).toUInt32 % 65536).toInt32)))) d36_48 rfl rfl rfl rfl g7 (wl_st d36_49 rfl rfl rfl rfl (wl_st d36_50 rfl rfl rfl rfl (wl_gf (v := .int (cm_I (cm_setI h (a0 + 1) (cm_I h a0 1).toNatClampNeg (vp_nar .char (((((x1.toUInt32 >>> (x2.toUInt32 &&& Int32.toUInt32 31)).toInt32) &&& (255 : Int32)).toUInt32 % 65536).toInt32))) a0 1)) d36_51 pf9_19 (TX.k g3) rfl (wl_ic (v := 1) d36_54 rfl (wl_st d36_55 rfl rfl rfl rfl (wl_pf (h' := (cm_setI (cm_setI h (a0 + 1) (cm_I h a0 1).toNatClampNeg (vp_nar .char (((((x1.toUInt32 >>> (x2.toUInt32 &&& Int32.toUInt32 31)).toInt32) &&& (255 : Int32)).toUInt32 % 65536).toInt32))) a0 1 ((cm_I (cm_setI h (a0 + 1) (cm_I h a0 1).toNatClampNeg (vp_nar .char (((((x1.toUInt32 >>> (x2.toUInt32 &&& Int32.toUInt32 31)).toInt32) &&& (255 : Int32)).toUInt32 % 65536).toInt32))) a0 1) + (1 : Int32)))) d36_56 pf9_19 (TX.k g3) (Or.inl rfl) rfl (g7k)))))))) (g5k.2 c6)))))))))) (g3k.2 c4)))))))) ((H.2 c1).2 c2))))))))))))
theorem s36_59 {sc : cmS} {d : Nat} {h : cmH} {Q : Option Value → cmH → Prop} (a0 : Nat) (x1 : Int32) (x2 : Int32) (x3 : Int32) (H : cm_wp sc d 36 3 [some (.ref a0), some (.int x1), some (.int (x2 + (-8))), some (.int x3)] [] h Q) : cm_wp sc d 36 59 [some (.ref a0), some (.int x1), some (.int x2), some (.int x3)] [] h Q :=
  wl_st (ls' := [some (.ref a0), some (.int x1), some (.int (x2 + (-8))), some (.int x3)]) d36_59 rfl rfl rfl rfl (wl_go (tgt := 3) d36_62 (by decide) (H))
-- ClogHouse$Text.copyFrom(LClogHouse$Text;)V
theorem d56_0 : decode (cm_M 56).2.2.1 0 = .ok (.aload_n 0, 1) := by decide +kernel
theorem d56_1 : decode (cm_M 56).2.2.1 1 = .ok (.aload_n 0, 1) := by decide +kernel
theorem d56_2 : decode (cm_M 56).2.2.1 2 = .ok (.getfield 13, 3) := by decide +kernel
theorem d56_5 : decode (cm_M 56).2.2.1 5 = .ok (.arraylength, 1) := by decide +kernel
theorem d56_6 : decode (cm_M 56).2.2.1 6 = .ok (.aload_n 1, 1) := by decide +kernel
theorem d56_7 : decode (cm_M 56).2.2.1 7 = .ok (.getfield 19, 3) := by decide +kernel
theorem d56_10 : decode (cm_M 56).2.2.1 10 = .ok (.invokestatic 23, 3) := by decide +kernel
theorem d56_13 : decode (cm_M 56).2.2.1 13 = .ok (.putfield 19, 3) := by decide +kernel
theorem d56_16 : decode (cm_M 56).2.2.1 16 = .ok (.iconst 0, 1) := by decide +kernel
theorem d56_17 : decode (cm_M 56).2.2.1 17 = .ok (.istore_n 2, 1) := by decide +kernel
theorem d56_18 : decode (cm_M 56).2.2.1 18 = .ok (.iload_n 2, 1) := by decide +kernel
theorem d56_19 : decode (cm_M 56).2.2.1 19 = .ok (.aload_n 0, 1) := by decide +kernel
theorem d56_20 : decode (cm_M 56).2.2.1 20 = .ok (.getfield 19, 3) := by decide +kernel
theorem d56_23 : decode (cm_M 56).2.2.1 23 = .ok (.if_icmp .ge 39, 3) := by decide +kernel
theorem d56_26 : decode (cm_M 56).2.2.1 26 = .ok (.iload_n 2, 1) := by decide +kernel
theorem d56_27 : decode (cm_M 56).2.2.1 27 = .ok (.aload_n 0, 1) := by decide +kernel
theorem d56_28 : decode (cm_M 56).2.2.1 28 = .ok (.getfield 13, 3) := by decide +kernel
theorem d56_31 : decode (cm_M 56).2.2.1 31 = .ok (.arraylength, 1) := by decide +kernel
theorem d56_32 : decode (cm_M 56).2.2.1 32 = .ok (.if_icmp .ge 30, 3) := by decide +kernel
theorem d56_35 : decode (cm_M 56).2.2.1 35 = .ok (.iload_n 2, 1) := by decide +kernel
theorem d56_36 : decode (cm_M 56).2.2.1 36 = .ok (.aload_n 1, 1) := by decide +kernel
theorem d56_37 : decode (cm_M 56).2.2.1 37 = .ok (.getfield 13, 3) := by decide +kernel
theorem d56_40 : decode (cm_M 56).2.2.1 40 = .ok (.arraylength, 1) := by decide +kernel
theorem d56_41 : decode (cm_M 56).2.2.1 41 = .ok (.if_icmp .ge 21, 3) := by decide +kernel
theorem d56_44 : decode (cm_M 56).2.2.1 44 = .ok (.aload_n 0, 1) := by decide +kernel
theorem d56_45 : decode (cm_M 56).2.2.1 45 = .ok (.getfield 13, 3) := by decide +kernel
theorem d56_48 : decode (cm_M 56).2.2.1 48 = .ok (.iload_n 2, 1) := by decide +kernel
theorem d56_49 : decode (cm_M 56).2.2.1 49 = .ok (.aload_n 1, 1) := by decide +kernel
theorem d56_50 : decode (cm_M 56).2.2.1 50 = .ok (.getfield 13, 3) := by decide +kernel
theorem d56_53 : decode (cm_M 56).2.2.1 53 = .ok (.iload_n 2, 1) := by decide +kernel
theorem d56_54 : decode (cm_M 56).2.2.1 54 = .ok (.caload, 1) := by decide +kernel
theorem d56_55 : decode (cm_M 56).2.2.1 55 = .ok (.castore, 1) := by decide +kernel
theorem d56_56 : decode (cm_M 56).2.2.1 56 = .ok (.iinc 2 1, 3) := by decide +kernel
theorem d56_59 : decode (cm_M 56).2.2.1 59 = .ok (.goto (-41), 3) := by decide +kernel
theorem d56_62 : decode (cm_M 56).2.2.1 62 = .ok (.return_, 1) := by decide +kernel
theorem s56_0 {sc : cmS} {d : Nat} {h : cmH} {Q : Option Value → cmH → Prop} (a0 : Nat) (a1 : Nat) (u2 : Option Value) (H : (TX h a0) ∧ (12 ≤ cm_kd h (a0 + 1) ∧ cm_kd h (a0 + 1) ≤ 18 ∧ (a0 + 1) < cm_n h) ∧ (TX h a1) ∧ cm_wp sc (d + 1) 56 18 [some (.ref a0), some (.ref a1), some (.int (0 : Int32))] [] (cm_setI h a0 1 (if (cm_I h a1 1) < (Int32.ofNat (cm_ln h (a0 + 1))) then (cm_I h a1 1) else (Int32.ofNat (cm_ln h (a0 + 1))))) Q) : cm_wp sc (d + 1) 56 0 [some (.ref a0), some (.ref a1), u2] [] h Q :=
  wl_st d56_0 rfl rfl rfl rfl (wl_st d56_1 rfl rfl rfl rfl (And.elim (fun g1 g1k => wl_gr (b := (a0 + 1)) d56_2 pf9_13 (TX.k g1) rfl (TX.r0 g1) (And.elim (fun g2 g2k => wl_if (st' := [.int (Int32.ofNat (cm_ln h (a0 + 1))), .ref a0]) d56_5 rfl rfl rfl rfl g2 (wl_st d56_6 rfl rfl rfl rfl (And.elim (fun g3 g3k => wl_gf (v := .int (cm_I h a1 1)) d56_7 pf9_19 (TX.k g3) rfl (wl_pr (st' := [.int (if (cm_I h a1 1) < (Int32.ofNat (cm_ln h (a0 + 1))) then (cm_I h a1 1) else (Int32.ofNat (cm_ln h (a0 + 1)))), .ref a0]) d56_10 rfl rfl rfl pm9_23 (by decide) rfl rfl (wl_pf (h' := (cm_setI h a0 1 (if (cm_I h a1 1) < (Int32.ofNat (cm_ln h (a0 + 1))) then (cm_I h a1 1) else (Int32.ofNat (cm_ln h (a0 + 1)))))) d56_13 pf9_19 (TX.k g1) (Or.inl rfl) rfl (wl_ic (v := 0) d56_16 rfl (wl_st (ls' := [some (.ref a0), some (.ref a1), some (.int (0 : Int32))]) d56_17 rfl rfl rfl rfl (g3k)))))) g2k))) g1k)) H))
theorem s56_18 {sc : cmS} {d : Nat} {h : cmH} {Q : Option Value → cmH → Prop} (a0 : Nat) (a1 : Nat) (x2 : Int32) (H : (TX h a0) ∧ ((((cm_I h a0 1) ≤ x2) → Q none h) ∧ (¬ ((cm_I h a0 1) ≤ x2) → (12 ≤ cm_kd h (a0 + 1) ∧ cm_kd h (a0 + 1) ≤ 18 ∧ (a0 + 1) < cm_n h) ∧ ((((Int32.ofNat (cm_ln h (a0 + 1))) ≤ x2) → Q none h) ∧ (¬ ((Int32.ofNat (cm_ln h (a0 + 1))) ≤ x2) → (TX h a1) ∧ (12 ≤ cm_kd h (a1 + 1) ∧ cm_kd h (a1 + 1) ≤ 18 ∧ (a1 + 1) < cm_n h) ∧ ((((Int32.ofNat (cm_ln h (a1 + 1))) ≤ x2) → Q none h) ∧ (¬ ((Int32.ofNat (cm_ln h (a1 + 1))) ≤ x2) → (cm_ok h 12 (a1 + 1) x2) ∧ (cm_ok h 12 (a0 + 1) x2) ∧ cm_wp sc d 56 18 [some (.ref a0), some (.ref a1), some (.int (x2 + 1))] [] (cm_setI h (a0 + 1) x2.toNatClampNeg (vp_nar .char (cm_I h (a1 + 1) x2.toNatClampNeg))) Q))))))) : cm_wp sc d 56 18 [some (.ref a0), some (.ref a1), some (.int x2)] [] h Q :=
  wl_st d56_18 rfl rfl rfl rfl (wl_st d56_19 rfl rfl rfl rfl (And.elim (fun g1 g1k => wl_gf (v := .int (cm_I h a0 1)) d56_20 pf9_19 (TX.k g1) rfl (wl_cb (b := (cm_I h a0 1) ≤ x2) (off := 39) (tgt := 62) (pc3 := 26) (st' := []) d56_23 rfl rfl rfl rfl (by decide) rfl (fun c2 => wl_rt d56_62 rfl rfl rfl (g1k.1 c2)) (fun c2 => wl_st d56_26 rfl rfl rfl rfl (wl_st d56_27 rfl rfl rfl rfl (wl_gr (b := (a0 + 1)) d56_28 pf9_13 (TX.k g1) rfl (TX.r0 g1) (And.elim (fun g3 g3k => wl_if (st' := [.int (Int32.ofNat (cm_ln h (a0 + 1))), .int x2]) d56_31 rfl rfl rfl rfl g3 (wl_cb (b := (Int32.ofNat (cm_ln h (a0 + 1))) ≤ x2) (off := 30) (tgt := 62) (pc3 := 35) (st' := []) d56_32 rfl rfl rfl rfl (by decide) rfl (fun c4 => wl_rt d56_62 rfl rfl rfl (g3k.1 c4)) (fun c4 => wl_st d56_35 rfl rfl rfl rfl (wl_st d56_36 rfl rfl rfl rfl (And.elim (fun g5 g5k => wl_gr (b := (a1 + 1)) d56_37 pf9_13 (TX.k g5) rfl (TX.r0 g5) (And.elim (fun g6 g6k => wl_if (st' := [.int (Int32.ofNat (cm_ln h (a1 + 1))), .int x2]) d56_40 rfl rfl rfl rfl g6 (wl_cb (b := (Int32.ofNat (cm_ln h (a1 + 1))) ≤ x2) (off := 21) (tgt := 62) (pc3 := 44) (st' := []) d56_41 rfl rfl rfl rfl (by decide) rfl (fun c7 => wl_rt d56_62 rfl rfl rfl (g6k.1 c7)) (fun c7 => wl_st d56_44 rfl rfl rfl rfl (wl_gr (b := (a0 + 1)) d56_45 pf9_13 (TX.k g1) rfl (TX.r0 g1) (wl_st d56_48 rfl rfl rfl rfl (wl_st d56_49 rfl rfl rfl rfl (wl_gr (b := (a1 + 1)) d56_50 pf9_13 (TX.k g5) rfl (TX.r0 g5) (wl_st d56_53 rfl rfl rfl rfl (And.elim (fun g8 g8k => wl_if (g := cm_ok h 12 (a1 + 1) x2) (st' := [.int (cm_I h (a1 + 1) x2.toNatClampNeg), .int x2, .ref (a0 + 1)]) d56_54 rfl rfl rfl rfl g8 (And.elim (fun g9 g9k => wl_if (h' := (cm_setI h (a0 + 1) x2.toNatClampNeg (vp_nar .char (cm_I h (a1 + 1) x2.toNatClampNeg)))) d56_55 rfl rfl rfl rfl g9 (wl_st (ls' := [some (.ref a0), some (.ref a1), some (.int (x2 + 1))]) d56_56 rfl rfl rfl rfl (wl_go (tgt := 18) d56_59 (by decide) (g9k)))) g8k)) (g6k.2 c7)))))))))) g5k)) (g3k.2 c4)))))) (g1k.2 c2))))))) H))
-- ClogHouse.<init>()V
theorem d0_0 : decode (cm_M 0).2.2.1 0 = .ok (.aload_n 0, 1) := by decide +kernel
theorem d0_1 : decode (cm_M 0).2.2.1 1 = .ok (.invokespecial 1, 3) := by decide +kernel
theorem d0_4 : decode (cm_M 0).2.2.1 4 = .ok (.aload_n 0, 1) := by decide +kernel
theorem d0_5 : decode (cm_M 0).2.2.1 5 = .ok (.new 7, 3) := by decide +kernel
theorem d0_8 : decode (cm_M 0).2.2.1 8 = .ok (.dup, 1) := by decide +kernel
theorem d0_9 : decode (cm_M 0).2.2.1 9 = .ok (.invokespecial 9, 3) := by decide +kernel
theorem d0_12 : decode (cm_M 0).2.2.1 12 = .ok (.putfield 10, 3) := by decide +kernel
theorem d0_15 : decode (cm_M 0).2.2.1 15 = .ok (.aload_n 0, 1) := by decide +kernel
theorem d0_16 : decode (cm_M 0).2.2.1 16 = .ok (.bipush 8, 2) := by decide +kernel
theorem d0_18 : decode (cm_M 0).2.2.1 18 = .ok (.anewarray 16, 3) := by decide +kernel
theorem d0_21 : decode (cm_M 0).2.2.1 21 = .ok (.putfield 18, 3) := by decide +kernel
theorem d0_24 : decode (cm_M 0).2.2.1 24 = .ok (.aload_n 0, 1) := by decide +kernel
theorem d0_25 : decode (cm_M 0).2.2.1 25 = .ok (.new 22, 3) := by decide +kernel
theorem d0_28 : decode (cm_M 0).2.2.1 28 = .ok (.dup, 1) := by decide +kernel
theorem d0_29 : decode (cm_M 0).2.2.1 29 = .ok (.sipush 160, 3) := by decide +kernel
theorem d0_32 : decode (cm_M 0).2.2.1 32 = .ok (.invokespecial 24, 3) := by decide +kernel
theorem d0_35 : decode (cm_M 0).2.2.1 35 = .ok (.putfield 27, 3) := by decide +kernel
theorem d0_38 : decode (cm_M 0).2.2.1 38 = .ok (.aload_n 0, 1) := by decide +kernel
theorem d0_39 : decode (cm_M 0).2.2.1 39 = .ok (.bipush 12, 2) := by decide +kernel
theorem d0_41 : decode (cm_M 0).2.2.1 41 = .ok (.anewarray 22, 3) := by decide +kernel
theorem d0_44 : decode (cm_M 0).2.2.1 44 = .ok (.putfield 31, 3) := by decide +kernel
theorem d0_47 : decode (cm_M 0).2.2.1 47 = .ok (.aload_n 0, 1) := by decide +kernel
theorem d0_48 : decode (cm_M 0).2.2.1 48 = .ok (.new 35, 3) := by decide +kernel
theorem d0_51 : decode (cm_M 0).2.2.1 51 = .ok (.dup, 1) := by decide +kernel
theorem d0_52 : decode (cm_M 0).2.2.1 52 = .ok (.invokespecial 37, 3) := by decide +kernel
theorem d0_55 : decode (cm_M 0).2.2.1 55 = .ok (.putfield 38, 3) := by decide +kernel
theorem d0_58 : decode (cm_M 0).2.2.1 58 = .ok (.aload_n 0, 1) := by decide +kernel
theorem d0_59 : decode (cm_M 0).2.2.1 59 = .ok (.new 42, 3) := by decide +kernel
theorem d0_62 : decode (cm_M 0).2.2.1 62 = .ok (.dup, 1) := by decide +kernel
theorem d0_63 : decode (cm_M 0).2.2.1 63 = .ok (.invokespecial 44, 3) := by decide +kernel
theorem d0_66 : decode (cm_M 0).2.2.1 66 = .ok (.putfield 45, 3) := by decide +kernel
theorem d0_69 : decode (cm_M 0).2.2.1 69 = .ok (.aload_n 0, 1) := by decide +kernel
theorem d0_70 : decode (cm_M 0).2.2.1 70 = .ok (.new 49, 3) := by decide +kernel
theorem d0_73 : decode (cm_M 0).2.2.1 73 = .ok (.dup, 1) := by decide +kernel
theorem d0_74 : decode (cm_M 0).2.2.1 74 = .ok (.invokespecial 51, 3) := by decide +kernel
theorem d0_77 : decode (cm_M 0).2.2.1 77 = .ok (.putfield 52, 3) := by decide +kernel
theorem d0_80 : decode (cm_M 0).2.2.1 80 = .ok (.aload_n 0, 1) := by decide +kernel
theorem d0_81 : decode (cm_M 0).2.2.1 81 = .ok (.new 56, 3) := by decide +kernel
theorem d0_84 : decode (cm_M 0).2.2.1 84 = .ok (.dup, 1) := by decide +kernel
theorem d0_85 : decode (cm_M 0).2.2.1 85 = .ok (.invokespecial 58, 3) := by decide +kernel
theorem d0_88 : decode (cm_M 0).2.2.1 88 = .ok (.putfield 59, 3) := by decide +kernel
theorem d0_91 : decode (cm_M 0).2.2.1 91 = .ok (.aload_n 0, 1) := by decide +kernel
theorem d0_92 : decode (cm_M 0).2.2.1 92 = .ok (.new 63, 3) := by decide +kernel
theorem d0_95 : decode (cm_M 0).2.2.1 95 = .ok (.dup, 1) := by decide +kernel
theorem d0_96 : decode (cm_M 0).2.2.1 96 = .ok (.invokespecial 65, 3) := by decide +kernel
theorem d0_99 : decode (cm_M 0).2.2.1 99 = .ok (.putfield 66, 3) := by decide +kernel
theorem d0_102 : decode (cm_M 0).2.2.1 102 = .ok (.aload_n 0, 1) := by decide +kernel
theorem d0_103 : decode (cm_M 0).2.2.1 103 = .ok (.new 70, 3) := by decide +kernel
theorem d0_106 : decode (cm_M 0).2.2.1 106 = .ok (.dup, 1) := by decide +kernel
theorem d0_107 : decode (cm_M 0).2.2.1 107 = .ok (.invokespecial 72, 3) := by decide +kernel
theorem d0_110 : decode (cm_M 0).2.2.1 110 = .ok (.putfield 73, 3) := by decide +kernel
theorem d0_113 : decode (cm_M 0).2.2.1 113 = .ok (.return_, 1) := by decide +kernel
theorem s0_0 {sc : cmS} {d : Nat} {h : cmH} {Q : Option Value → cmH → Prop} (a0 : Nat) (H : cm_wp sc (d + 1) 0 8 [some (.ref a0)] [.ref (cm_n h), .ref a0] (cm_mk h 4 3) Q) : cm_wp sc (d + 1) 0 0 [some (.ref a0)] [] h Q :=
  wl_st d0_0 rfl rfl rfl rfl (wl_pr (st' := []) d0_1 rfl rfl rfl pm10_1 (by decide) rfl rfl (wl_st d0_4 rfl rfl rfl rfl (wl_nw d0_5 pn10_7 (H))))
theorem s0_8 {sc : cmS} {d : Nat} {h : cmH} {Q : Option Value → cmH → Prop} (a0 : Nat) (sa0 : Nat) (sa1 : Nat) (H : (cm_kd h sa0 = 4 ∧ sa0 < cm_n h) ∧ cm_cv sc d 1 [.ref sa0] h (fun h' => cm_wp sc (d + 1) 0 12 [some (.ref a0)] [.ref sa0, .ref sa1] h' Q)) : cm_wp sc (d + 1) 0 8 [some (.ref a0)] [.ref sa0, .ref sa1] h Q :=
  wl_st d0_8 rfl rfl rfl rfl (And.elim (fun g1 g1k => wl_cv d0_9 rfl rfl rfl pm10_9 (by decide) (ca_i (Or.inr rfl) rfl (Nat.le_of_ble_eq_true rfl) (Nat.le_of_ble_eq_true rfl) g1.2 g1.1 (by decide) rfl) g1k) H)
theorem s0_12 {sc : cmS} {d : Nat} {h : cmH} {Q : Option Value → cmH → Prop} (a0 : Nat) (sa0 : Nat) (sa1 : Nat) (H : (cm_kd h sa1 = 10 ∧ sa1 < cm_n h) ∧ cm_wp sc d 0 21 [some (.ref a0)] [.ref (cm_n (cm_setR h sa1 0 (some sa0))), .ref a0] (cm_mk (cm_setR h sa1 0 (some sa0)) 17 8) Q) : cm_wp sc d 0 12 [some (.ref a0)] [.ref sa0, .ref sa1] h Q :=
  And.elim (fun g1 g1k => wl_pf (h' := (cm_setR h sa1 0 (some sa0))) d0_12 pf10_10 g1 (Or.inr ⟨rfl, rfl, rfl⟩) rfl (wl_st d0_15 rfl rfl rfl rfl (wl_bi (v := 8) d0_16 rfl (wl_an (kd := 17) d0_18 pn10_16 (by decide) (by decide) (g1k))))) H
theorem s0_21 {sc : cmS} {d : Nat} {h : cmH} {Q : Option Value → cmH → Prop} (a0 : Nat) (sa0 : Nat) (sa1 : Nat) (H : (cm_kd h sa1 = 10 ∧ sa1 < cm_n h) ∧ cm_wp sc d 0 28 [some (.ref a0)] [.ref (cm_n (cm_setR h sa1 1 (some sa0))), .ref a0] (cm_mk (cm_setR h sa1 1 (some sa0)) 9 2) Q) : cm_wp sc d 0 21 [some (.ref a0)] [.ref sa0, .ref sa1] h Q :=
  And.elim (fun g1 g1k => wl_pf (h' := (cm_setR h sa1 1 (some sa0))) d0_21 pf10_18 g1 (Or.inr ⟨rfl, rfl, rfl⟩) rfl (wl_st d0_24 rfl rfl rfl rfl (wl_nw d0_25 pn10_22 (g1k)))) H
theorem s0_28 {sc : cmS} {d : Nat} {h : cmH} {Q : Option Value → cmH → Prop} (a0 : Nat) (sa0 : Nat) (sa1 : Nat) (H : (TX h sa0) ∧ cm_cv sc d 3 [.ref sa0, .int (160 : Int32)] h (fun h' => cm_wp sc (d + 1) 0 35 [some (.ref a0)] [.ref sa0, .ref sa1] h' Q)) : cm_wp sc (d + 1) 0 28 [some (.ref a0)] [.ref sa0, .ref sa1] h Q :=
  wl_st d0_28 rfl rfl rfl rfl (wl_si (v := 160) d0_29 rfl (And.elim (fun g1 g1k => wl_cv d0_32 rfl rfl rfl pm10_24 (by decide) (ca_i (Or.inr rfl) rfl (Nat.le_of_ble_eq_true rfl) (Nat.le_of_ble_eq_true rfl) (TX.k g1).2 (TX.k g1).1 (by decide) rfl) g1k) H))
theorem s0_35 {sc : cmS} {d : Nat} {h : cmH} {Q : Option Value → cmH → Prop} (a0 : Nat) (sa0 : Nat) (sa1 : Nat) (H : (cm_kd h sa1 = 10 ∧ sa1 < cm_n h) ∧ cm_wp sc d 0 44 [some (.ref a0)] [.ref (cm_n (cm_setR h sa1 2 (some sa0))), .ref a0] (cm_mk (cm_setR h sa1 2 (some sa0)) 18 12) Q) : cm_wp sc d 0 35 [some (.ref a0)] [.ref sa0, .ref sa1] h Q :=
  And.elim (fun g1 g1k => wl_pf (h' := (cm_setR h sa1 2 (some sa0))) d0_35 pf10_27 g1 (Or.inr ⟨rfl, rfl, rfl⟩) rfl (wl_st d0_38 rfl rfl rfl rfl (wl_bi (v := 12) d0_39 rfl (wl_an (kd := 18) d0_41 pn10_22 (by decide) (by decide) (g1k))))) H
theorem s0_44 {sc : cmS} {d : Nat} {h : cmH} {Q : Option Value → cmH → Prop} (a0 : Nat) (sa0 : Nat) (sa1 : Nat) (H : (cm_kd h sa1 = 10 ∧ sa1 < cm_n h) ∧ cm_wp sc d 0 51 [some (.ref a0)] [.ref (cm_n (cm_setR h sa1 3 (some sa0))), .ref a0] (cm_mk (cm_setR h sa1 3 (some sa0)) 6 8) Q) : cm_wp sc d 0 44 [some (.ref a0)] [.ref sa0, .ref sa1] h Q :=
  And.elim (fun g1 g1k => wl_pf (h' := (cm_setR h sa1 3 (some sa0))) d0_44 pf10_31 g1 (Or.inr ⟨rfl, rfl, rfl⟩) rfl (wl_st d0_47 rfl rfl rfl rfl (wl_nw d0_48 pn10_35 (g1k)))) H
theorem s0_51 {sc : cmS} {d : Nat} {h : cmH} {Q : Option Value → cmH → Prop} (a0 : Nat) (sa0 : Nat) (sa1 : Nat) (H : (cm_kd h sa0 = 6 ∧ sa0 < cm_n h) ∧ cm_cv sc d 4 [.ref sa0] h (fun h' => cm_wp sc (d + 1) 0 55 [some (.ref a0)] [.ref sa0, .ref sa1] h' Q)) : cm_wp sc (d + 1) 0 51 [some (.ref a0)] [.ref sa0, .ref sa1] h Q :=
  wl_st d0_51 rfl rfl rfl rfl (And.elim (fun g1 g1k => wl_cv d0_52 rfl rfl rfl pm10_37 (by decide) (ca_i (Or.inr rfl) rfl (Nat.le_of_ble_eq_true rfl) (Nat.le_of_ble_eq_true rfl) g1.2 g1.1 (by decide) rfl) g1k) H)
theorem s0_55 {sc : cmS} {d : Nat} {h : cmH} {Q : Option Value → cmH → Prop} (a0 : Nat) (sa0 : Nat) (sa1 : Nat) (H : (cm_kd h sa1 = 10 ∧ sa1 < cm_n h) ∧ cm_wp sc d 0 62 [some (.ref a0)] [.ref (cm_n (cm_setR h sa1 4 (some sa0))), .ref a0] (cm_mk (cm_setR h sa1 4 (some sa0)) 8 2) Q) : cm_wp sc d 0 55 [some (.ref a0)] [.ref sa0, .ref sa1] h Q :=
  And.elim (fun g1 g1k => wl_pf (h' := (cm_setR h sa1 4 (some sa0))) d0_55 pf10_38 g1 (Or.inr ⟨rfl, rfl, rfl⟩) rfl (wl_st d0_58 rfl rfl rfl rfl (wl_nw d0_59 pn10_42 (g1k)))) H
theorem s0_62 {sc : cmS} {d : Nat} {h : cmH} {Q : Option Value → cmH → Prop} (a0 : Nat) (sa0 : Nat) (sa1 : Nat) (H : (cm_kd h sa0 = 8 ∧ sa0 < cm_n h) ∧ cm_cv sc d 5 [.ref sa0] h (fun h' => cm_wp sc (d + 1) 0 66 [some (.ref a0)] [.ref sa0, .ref sa1] h' Q)) : cm_wp sc (d + 1) 0 62 [some (.ref a0)] [.ref sa0, .ref sa1] h Q :=
  wl_st d0_62 rfl rfl rfl rfl (And.elim (fun g1 g1k => wl_cv d0_63 rfl rfl rfl pm10_44 (by decide) (ca_i (Or.inr rfl) rfl (Nat.le_of_ble_eq_true rfl) (Nat.le_of_ble_eq_true rfl) g1.2 g1.1 (by decide) rfl) g1k) H)
theorem s0_66 {sc : cmS} {d : Nat} {h : cmH} {Q : Option Value → cmH → Prop} (a0 : Nat) (sa0 : Nat) (sa1 : Nat) (H : (cm_kd h sa1 = 10 ∧ sa1 < cm_n h) ∧ cm_wp sc d 0 73 [some (.ref a0)] [.ref (cm_n (cm_setR h sa1 5 (some sa0))), .ref a0] (cm_mk (cm_setR h sa1 5 (some sa0)) 0 6) Q) : cm_wp sc d 0 66 [some (.ref a0)] [.ref sa0, .ref sa1] h Q :=
  And.elim (fun g1 g1k => wl_pf (h' := (cm_setR h sa1 5 (some sa0))) d0_66 pf10_45 g1 (Or.inr ⟨rfl, rfl, rfl⟩) rfl (wl_st d0_69 rfl rfl rfl rfl (wl_nw d0_70 pn10_49 (g1k)))) H
theorem s0_73 {sc : cmS} {d : Nat} {h : cmH} {Q : Option Value → cmH → Prop} (a0 : Nat) (sa0 : Nat) (sa1 : Nat) (H : (cm_kd h sa0 = 0 ∧ sa0 < cm_n h) ∧ cm_cv sc d 6 [.ref sa0] h (fun h' => cm_wp sc (d + 1) 0 77 [some (.ref a0)] [.ref sa0, .ref sa1] h' Q)) : cm_wp sc (d + 1) 0 73 [some (.ref a0)] [.ref sa0, .ref sa1] h Q :=
  wl_st d0_73 rfl rfl rfl rfl (And.elim (fun g1 g1k => wl_cv d0_74 rfl rfl rfl pm10_51 (by decide) (ca_i (Or.inr rfl) rfl (Nat.le_of_ble_eq_true rfl) (Nat.le_of_ble_eq_true rfl) g1.2 g1.1 (by decide) rfl) g1k) H)
theorem s0_77 {sc : cmS} {d : Nat} {h : cmH} {Q : Option Value → cmH → Prop} (a0 : Nat) (sa0 : Nat) (sa1 : Nat) (H : (cm_kd h sa1 = 10 ∧ sa1 < cm_n h) ∧ cm_wp sc d 0 84 [some (.ref a0)] [.ref (cm_n (cm_setR h sa1 6 (some sa0))), .ref a0] (cm_mk (cm_setR h sa1 6 (some sa0)) 5 8) Q) : cm_wp sc d 0 77 [some (.ref a0)] [.ref sa0, .ref sa1] h Q :=
  And.elim (fun g1 g1k => wl_pf (h' := (cm_setR h sa1 6 (some sa0))) d0_77 pf10_52 g1 (Or.inr ⟨rfl, rfl, rfl⟩) rfl (wl_st d0_80 rfl rfl rfl rfl (wl_nw d0_81 pn10_56 (g1k)))) H
theorem s0_84 {sc : cmS} {d : Nat} {h : cmH} {Q : Option Value → cmH → Prop} (a0 : Nat) (sa0 : Nat) (sa1 : Nat) (H : (cm_kd h sa0 = 5 ∧ sa0 < cm_n h) ∧ cm_cv sc d 7 [.ref sa0] h (fun h' => cm_wp sc (d + 1) 0 88 [some (.ref a0)] [.ref sa0, .ref sa1] h' Q)) : cm_wp sc (d + 1) 0 84 [some (.ref a0)] [.ref sa0, .ref sa1] h Q :=
  wl_st d0_84 rfl rfl rfl rfl (And.elim (fun g1 g1k => wl_cv d0_85 rfl rfl rfl pm10_58 (by decide) (ca_i (Or.inr rfl) rfl (Nat.le_of_ble_eq_true rfl) (Nat.le_of_ble_eq_true rfl) g1.2 g1.1 (by decide) rfl) g1k) H)
theorem s0_88 {sc : cmS} {d : Nat} {h : cmH} {Q : Option Value → cmH → Prop} (a0 : Nat) (sa0 : Nat) (sa1 : Nat) (H : (cm_kd h sa1 = 10 ∧ sa1 < cm_n h) ∧ cm_wp sc d 0 95 [some (.ref a0)] [.ref (cm_n (cm_setR h sa1 7 (some sa0))), .ref a0] (cm_mk (cm_setR h sa1 7 (some sa0)) 2 5) Q) : cm_wp sc d 0 88 [some (.ref a0)] [.ref sa0, .ref sa1] h Q :=
  And.elim (fun g1 g1k => wl_pf (h' := (cm_setR h sa1 7 (some sa0))) d0_88 pf10_59 g1 (Or.inr ⟨rfl, rfl, rfl⟩) rfl (wl_st d0_91 rfl rfl rfl rfl (wl_nw d0_92 pn10_63 (g1k)))) H
theorem s0_95 {sc : cmS} {d : Nat} {h : cmH} {Q : Option Value → cmH → Prop} (a0 : Nat) (sa0 : Nat) (sa1 : Nat) (H : (cm_kd h sa0 = 2 ∧ sa0 < cm_n h) ∧ cm_cv sc d 9 [.ref sa0] h (fun h' => cm_wp sc (d + 1) 0 99 [some (.ref a0)] [.ref sa0, .ref sa1] h' Q)) : cm_wp sc (d + 1) 0 95 [some (.ref a0)] [.ref sa0, .ref sa1] h Q :=
  wl_st d0_95 rfl rfl rfl rfl (And.elim (fun g1 g1k => wl_cv d0_96 rfl rfl rfl pm10_65 (by decide) (ca_i (Or.inr rfl) rfl (Nat.le_of_ble_eq_true rfl) (Nat.le_of_ble_eq_true rfl) g1.2 g1.1 (by decide) rfl) g1k) H)
theorem s0_99 {sc : cmS} {d : Nat} {h : cmH} {Q : Option Value → cmH → Prop} (a0 : Nat) (sa0 : Nat) (sa1 : Nat) (H : (cm_kd h sa1 = 10 ∧ sa1 < cm_n h) ∧ cm_wp sc d 0 106 [some (.ref a0)] [.ref (cm_n (cm_setR h sa1 8 (some sa0))), .ref a0] (cm_mk (cm_setR h sa1 8 (some sa0)) 7 7) Q) : cm_wp sc d 0 99 [some (.ref a0)] [.ref sa0, .ref sa1] h Q :=
  And.elim (fun g1 g1k => wl_pf (h' := (cm_setR h sa1 8 (some sa0))) d0_99 pf10_66 g1 (Or.inr ⟨rfl, rfl, rfl⟩) rfl (wl_st d0_102 rfl rfl rfl rfl (wl_nw d0_103 pn10_70 (g1k)))) H
theorem s0_106 {sc : cmS} {d : Nat} {h : cmH} {Q : Option Value → cmH → Prop} (a0 : Nat) (sa0 : Nat) (sa1 : Nat) (H : (cm_kd h sa0 = 7 ∧ sa0 < cm_n h) ∧ cm_cv sc d 10 [.ref sa0] h (fun h' => cm_wp sc (d + 1) 0 110 [some (.ref a0)] [.ref sa0, .ref sa1] h' Q)) : cm_wp sc (d + 1) 0 106 [some (.ref a0)] [.ref sa0, .ref sa1] h Q :=
  wl_st d0_106 rfl rfl rfl rfl (And.elim (fun g1 g1k => wl_cv d0_107 rfl rfl rfl pm10_72 (by decide) (ca_i (Or.inr rfl) rfl (Nat.le_of_ble_eq_true rfl) (Nat.le_of_ble_eq_true rfl) g1.2 g1.1 (by decide) rfl) g1k) H)
theorem s0_110 {sc : cmS} {d : Nat} {h : cmH} {Q : Option Value → cmH → Prop} (a0 : Nat) (sa0 : Nat) (sa1 : Nat) (H : (cm_kd h sa1 = 10 ∧ sa1 < cm_n h) ∧ Q none (cm_setR h sa1 9 (some sa0))) : cm_wp sc d 0 110 [some (.ref a0)] [.ref sa0, .ref sa1] h Q :=
  And.elim (fun g1 g1k => wl_pf (h' := (cm_setR h sa1 9 (some sa0))) d0_110 pf10_73 g1 (Or.inr ⟨rfl, rfl, rfl⟩) rfl (wl_rt d0_113 rfl rfl rfl g1k)) H
-- ClogHouse.grain(III)Z
theorem d11_0 : decode (cm_M 11).2.2.1 0 = .ok (.iload_n 1, 1) := by decide +kernel
theorem d11_1 : decode (cm_M 11).2.2.1 1 = .ok (.invokestatic 77, 3) := by decide +kernel
theorem d11_4 : decode (cm_M 11).2.2.1 4 = .ok (.ifCond .eq 23, 3) := by decide +kernel
theorem d11_7 : decode (cm_M 11).2.2.1 7 = .ok (.iload_n 2, 1) := by decide +kernel
theorem d11_8 : decode (cm_M 11).2.2.1 8 = .ok (.iconst 0, 1) := by decide +kernel
theorem d11_9 : decode (cm_M 11).2.2.1 9 = .ok (.iconst 2, 1) := by decide +kernel
theorem d11_10 : decode (cm_M 11).2.2.1 10 = .ok (.invokestatic 81, 3) := by decide +kernel
theorem d11_13 : decode (cm_M 11).2.2.1 13 = .ok (.ifCond .eq 14, 3) := by decide +kernel
theorem d11_16 : decode (cm_M 11).2.2.1 16 = .ok (.iload_n 3, 1) := by decide +kernel
theorem d11_17 : decode (cm_M 11).2.2.1 17 = .ok (.iconst 0, 1) := by decide +kernel
theorem d11_18 : decode (cm_M 11).2.2.1 18 = .ok (.sipush 1000, 3) := by decide +kernel
theorem d11_21 : decode (cm_M 11).2.2.1 21 = .ok (.invokestatic 81, 3) := by decide +kernel
theorem d11_24 : decode (cm_M 11).2.2.1 24 = .ok (.ifCond .ne 5, 3) := by decide +kernel
theorem d11_27 : decode (cm_M 11).2.2.1 27 = .ok (.iconst 0, 1) := by decide +kernel
theorem d11_28 : decode (cm_M 11).2.2.1 28 = .ok (.ireturn, 1) := by decide +kernel
theorem d11_29 : decode (cm_M 11).2.2.1 29 = .ok (.iload_n 2, 1) := by decide +kernel
theorem d11_30 : decode (cm_M 11).2.2.1 30 = .ok (.ifCond .ne 13, 3) := by decide +kernel
theorem d11_33 : decode (cm_M 11).2.2.1 33 = .ok (.aload_n 0, 1) := by decide +kernel
theorem d11_34 : decode (cm_M 11).2.2.1 34 = .ok (.getfield 10, 3) := by decide +kernel
theorem d11_37 : decode (cm_M 11).2.2.1 37 = .ok (.getfield 85, 3) := by decide +kernel
theorem d11_40 : decode (cm_M 11).2.2.1 40 = .ok (.goto 25, 3) := by decide +kernel
theorem d11_43 : decode (cm_M 11).2.2.1 43 = .ok (.iload_n 2, 1) := by decide +kernel
theorem d11_44 : decode (cm_M 11).2.2.1 44 = .ok (.iconst 1, 1) := by decide +kernel
theorem d11_45 : decode (cm_M 11).2.2.1 45 = .ok (.if_icmp .ne 13, 3) := by decide +kernel
theorem d11_48 : decode (cm_M 11).2.2.1 48 = .ok (.aload_n 0, 1) := by decide +kernel
theorem d11_49 : decode (cm_M 11).2.2.1 49 = .ok (.getfield 10, 3) := by decide +kernel
theorem d11_52 : decode (cm_M 11).2.2.1 52 = .ok (.getfield 89, 3) := by decide +kernel
theorem d11_55 : decode (cm_M 11).2.2.1 55 = .ok (.goto 10, 3) := by decide +kernel
theorem d11_58 : decode (cm_M 11).2.2.1 58 = .ok (.aload_n 0, 1) := by decide +kernel
theorem d11_59 : decode (cm_M 11).2.2.1 59 = .ok (.getfield 10, 3) := by decide +kernel
theorem d11_62 : decode (cm_M 11).2.2.1 62 = .ok (.getfield 92, 3) := by decide +kernel
theorem d11_65 : decode (cm_M 11).2.2.1 65 = .ok (.astore 4, 2) := by decide +kernel
theorem d11_67 : decode (cm_M 11).2.2.1 67 = .ok (.aload 4, 2) := by decide +kernel
theorem d11_69 : decode (cm_M 11).2.2.1 69 = .ok (.iload_n 1, 1) := by decide +kernel
theorem d11_70 : decode (cm_M 11).2.2.1 70 = .ok (.iload_n 3, 1) := by decide +kernel
theorem d11_71 : decode (cm_M 11).2.2.1 71 = .ok (.iastore, 1) := by decide +kernel
theorem d11_72 : decode (cm_M 11).2.2.1 72 = .ok (.aload_n 0, 1) := by decide +kernel
theorem d11_73 : decode (cm_M 11).2.2.1 73 = .ok (.getfield 59, 3) := by decide +kernel
theorem d11_76 : decode (cm_M 11).2.2.1 76 = .ok (.invokevirtual 95, 3) := by decide +kernel
theorem d11_79 : decode (cm_M 11).2.2.1 79 = .ok (.iconst 1, 1) := by decide +kernel
theorem d11_80 : decode (cm_M 11).2.2.1 80 = .ok (.ireturn, 1) := by decide +kernel
theorem s11_0 {sc : cmS} {d : Nat} {h : cmH} {Q : Option Value → cmH → Prop} (x1 : Int32) (x2 : Int32) (x3 : Int32) (u4 : Option Value) (H : cm_ci sc d 12 [.int x1] h (fun r h' => cm_wp sc (d + 1) 11 4 [some (.ref 0), some (.int x1), some (.int x2), some (.int x3), u4] [.int r] h' Q)) : cm_wp sc (d + 1) 11 0 [some (.ref 0), some (.int x1), some (.int x2), some (.int x3), u4] [] h Q :=
  wl_st d11_0 rfl rfl rfl rfl (wl_ci d11_1 rfl rfl rfl pm10_77 (by decide) (ca_s (Or.inl rfl) rfl (Nat.le_of_ble_eq_true rfl) (Nat.le_of_ble_eq_true rfl)) H)
theorem s11_4 {sc : cmS} {d : Nat} {h : cmH} {Q : Option Value → cmH → Prop} (x1 : Int32) (x2 : Int32) (x3 : Int32) (u4 : Option Value) (sx0 : Int32) (H : (((sx0 = 0) → Q (some (.int (0 : Int32))) h) ∧ (¬ (sx0 = 0) → cm_ci sc d 13 [.int x2, .int (0 : Int32), .int (2 : Int32)] h (fun r h' => cm_wp sc (d + 1) 11 13 [some (.ref 0), some (.int x1), some (.int x2), some (.int x3), u4] [.int r] h' Q)))) : cm_wp sc (d + 1) 11 4 [some (.ref 0), some (.int x1), some (.int x2), some (.int x3), u4] [.int sx0] h Q :=
  wl_cb (b := sx0 = 0) (off := 23) (tgt := 27) (pc3 := 7) (st' := []) d11_4 rfl rfl rfl rfl (by decide) rfl (fun c1 => wl_ic (v := 0) d11_27 rfl (wl_rz d11_28 rfl (by decide) (H.1 c1))) (fun c1 => wl_st d11_7 rfl rfl rfl rfl (wl_ic (v := 0) d11_8 rfl (wl_ic (v := 2) d11_9 rfl (wl_ci d11_10 rfl rfl rfl pm10_81 (by decide) (ca_s (Or.inl rfl) rfl (Nat.le_of_ble_eq_true rfl) (Nat.le_of_ble_eq_true rfl)) (H.2 c1)))))
theorem s11_13 {sc : cmS} {d : Nat} {h : cmH} {Q : Option Value → cmH → Prop} (x1 : Int32) (x2 : Int32) (x3 : Int32) (u4 : Option Value) (sx0 : Int32) (H : (((sx0 = 0) → Q (some (.int (0 : Int32))) h) ∧ (¬ (sx0 = 0) → cm_ci sc d 13 [.int x3, .int (0 : Int32), .int (1000 : Int32)] h (fun r h' => cm_wp sc (d + 1) 11 24 [some (.ref 0), some (.int x1), some (.int x2), some (.int x3), u4] [.int r] h' Q)))) : cm_wp sc (d + 1) 11 13 [some (.ref 0), some (.int x1), some (.int x2), some (.int x3), u4] [.int sx0] h Q :=
  wl_cb (b := sx0 = 0) (off := 14) (tgt := 27) (pc3 := 16) (st' := []) d11_13 rfl rfl rfl rfl (by decide) rfl (fun c1 => wl_ic (v := 0) d11_27 rfl (wl_rz d11_28 rfl (by decide) (H.1 c1))) (fun c1 => wl_st d11_16 rfl rfl rfl rfl (wl_ic (v := 0) d11_17 rfl (wl_si (v := 1000) d11_18 rfl (wl_ci d11_21 rfl rfl rfl pm10_81 (by decide) (ca_s (Or.inl rfl) rfl (Nat.le_of_ble_eq_true rfl) (Nat.le_of_ble_eq_true rfl)) (H.2 c1)))))
theorem s11_24 {sc : cmS} {d : Nat} {h : cmH} {Q : Option Value → cmH → Prop} (L : LY h) (x1 : Int32) (x2 : Int32) (x3 : Int32) (u4 : Option Value) (sx0 : Int32) (H : (((¬ sx0 = 0) → (((¬ x2 = 0) → (((¬ x2 = (1 : Int32)) → cm_wp sc d 11 65 [some (.ref 0), some (.int x1), some (.int x2), some (.int x3), u4] [.ref 4] h Q) ∧ (¬ (¬ x2 = (1 : Int32)) → cm_wp sc d 11 65 [some (.ref 0), some (.int x1), some (.int x2), some (.int x3), u4] [.ref 3] h Q))) ∧ (¬ (¬ x2 = 0) → cm_wp sc d 11 65 [some (.ref 0), some (.int x1), some (.int x2), some (.int x3), u4] [.ref 2] h Q))) ∧ (¬ (¬ sx0 = 0) → Q (some (.int (0 : Int32))) h))) : cm_wp sc d 11 24 [some (.ref 0), some (.int x1), some (.int x2), some (.int x3), u4] [.int sx0] h Q :=
  wl_cb (b := ¬ sx0 = 0) (off := 5) (tgt := 29) (pc3 := 27) (st' := []) d11_24 rfl rfl rfl rfl (by decide) rfl (fun c1 => wl_st d11_29 rfl rfl rfl rfl (wl_cb (b := ¬ x2 = 0) (off := 13) (tgt := 43) (pc3 := 33) (st' := []) d11_30 rfl rfl rfl rfl (by decide) rfl (fun c2 => wl_st d11_43 rfl rfl rfl rfl (wl_ic (v := 1) d11_44 rfl (wl_cb (b := ¬ x2 = (1 : Int32)) (off := 13) (tgt := 58) (pc3 := 48) (st' := []) d11_45 rfl rfl rfl rfl (by decide) rfl (fun c3 => wl_st d11_58 rfl rfl rfl rfl (wl_gr (b := 1) d11_59 pf10_10 (ly_k L 0 rfl) rfl (ly_r L 0 0 rfl) (wl_gr (b := 4) d11_62 pf10_92 (ly_k L 1 rfl) rfl (ly_r L 1 2 rfl) ((((H.1 c1).1 c2).1 c3))))) (fun c3 => wl_st d11_48 rfl rfl rfl rfl (wl_gr (b := 1) d11_49 pf10_10 (ly_k L 0 rfl) rfl (ly_r L 0 0 rfl) (wl_gr (b := 3) d11_52 pf10_89 (ly_k L 1 rfl) rfl (ly_r L 1 1 rfl) (wl_go (tgt := 65) d11_55 (by decide) ((((H.1 c1).1 c2).2 c3))))))))) (fun c2 => wl_st d11_33 rfl rfl rfl rfl (wl_gr (b := 1) d11_34 pf10_10 (ly_k L 0 rfl) rfl (ly_r L 0 0 rfl) (wl_gr (b := 2) d11_37 pf10_85 (ly_k L 1 rfl) rfl (ly_r L 1 0 rfl) (wl_go (tgt := 65) d11_40 (by decide) (((H.1 c1).2 c2)))))))) (fun c1 => wl_ic (v := 0) d11_27 rfl (wl_rz d11_28 rfl (by decide) (H.2 c1)))
theorem s11_65 {sc : cmS} {d : Nat} {h : cmH} {Q : Option Value → cmH → Prop} (L : LY h) (x1 : Int32) (x2 : Int32) (x3 : Int32) (u4 : Option Value) (sa0 : Nat) (H : (cm_ok h 13 sa0 x1) ∧ cm_cv sc d 14 [.ref 21] (cm_setI h sa0 x1.toNatClampNeg x3) (fun h' => cm_wp sc (d + 1) 11 79 [some (.ref 0), some (.int x1), some (.int x2), some (.int x3), some (.ref sa0)] [] h' Q)) : cm_wp sc (d + 1) 11 65 [some (.ref 0), some (.int x1), some (.int x2), some (.int x3), u4] [.ref sa0] h Q :=
  wl_st (ls' := [some (.ref 0), some (.int x1), some (.int x2), some (.int x3), some (.ref sa0)]) d11_65 rfl rfl rfl rfl (wl_st d11_67 rfl rfl rfl rfl (wl_st d11_69 rfl rfl rfl rfl (wl_st d11_70 rfl rfl rfl rfl (And.elim (fun g1 g1k => wl_if (h' := (cm_setI h sa0 x1.toNatClampNeg x3)) d11_71 rfl rfl rfl rfl g1 (wl_st d11_72 rfl rfl rfl rfl (wl_gr (b := 21) d11_73 pf10_59 (ly_k L 0 rfl) rfl (ly_r L 0 7 rfl) (wl_cv d11_76 rfl rfl rfl pm10_95 (by decide) (ca_v (Or.inr rfl) rfl (Nat.le_of_ble_eq_true rfl) (Nat.le_of_ble_eq_true rfl) (ly_k L 21 rfl).2 (ly_k L 21 rfl).1 (by decide)) g1k)))) H))))
theorem s11_79 {sc : cmS} {d : Nat} {h : cmH} {Q : Option Value → cmH → Prop} (x1 : Int32) (x2 : Int32) (x3 : Int32) (a4 : Nat) (H : Q (some (.int (1 : Int32))) h) : cm_wp sc d 11 79 [some (.ref 0), some (.int x1), some (.int x2), some (.int x3), some (.ref a4)] [] h Q :=
  wl_ic (v := 1) d11_79 rfl (wl_rz d11_80 rfl (by decide) H)
-- ClogHouse.isSize(I)Z
theorem d12_0 : decode (cm_M 12).2.2.1 0 = .ok (.iload_n 0, 1) := by decide +kernel
theorem d12_1 : decode (cm_M 12).2.2.1 1 = .ok (.ifCond .lt 13, 3) := by decide +kernel
theorem d12_4 : decode (cm_M 12).2.2.1 4 = .ok (.iload_n 0, 1) := by decide +kernel
theorem d12_5 : decode (cm_M 12).2.2.1 5 = .ok (.bipush 8, 2) := by decide +kernel
theorem d12_7 : decode (cm_M 12).2.2.1 7 = .ok (.if_icmp .ge 7, 3) := by decide +kernel
theorem d12_10 : decode (cm_M 12).2.2.1 10 = .ok (.iconst 1, 1) := by decide +kernel
theorem d12_11 : decode (cm_M 12).2.2.1 11 = .ok (.goto 4, 3) := by decide +kernel
theorem d12_14 : decode (cm_M 12).2.2.1 14 = .ok (.iconst 0, 1) := by decide +kernel
theorem d12_15 : decode (cm_M 12).2.2.1 15 = .ok (.ireturn, 1) := by decide +kernel
theorem s12_0 {sc : cmS} {d : Nat} {h : cmH} {Q : Option Value → cmH → Prop} (x0 : Int32) (H : (((x0 < 0) → Q (some (.int (0 : Int32))) h) ∧ (¬ (x0 < 0) → ((((8 : Int32) ≤ x0) → Q (some (.int (0 : Int32))) h) ∧ (¬ ((8 : Int32) ≤ x0) → Q (some (.int (1 : Int32))) h))))) : cm_wp sc d 12 0 [some (.int x0)] [] h Q :=
  wl_st d12_0 rfl rfl rfl rfl (wl_cb (b := x0 < 0) (off := 13) (tgt := 14) (pc3 := 4) (st' := []) d12_1 rfl rfl rfl rfl (by decide) rfl (fun c1 => wl_ic (v := 0) d12_14 rfl (wl_rz d12_15 rfl (by decide) (H.1 c1))) (fun c1 => wl_st d12_4 rfl rfl rfl rfl (wl_bi (v := 8) d12_5 rfl (wl_cb (b := (8 : Int32) ≤ x0) (off := 7) (tgt := 14) (pc3 := 10) (st' := []) d12_7 rfl rfl rfl rfl (by decide) rfl (fun c2 => wl_ic (v := 0) d12_14 rfl (wl_rz d12_15 rfl (by decide) ((H.2 c1).1 c2))) (fun c2 => wl_ic (v := 1) d12_10 rfl (wl_go (tgt := 15) d12_11 (by decide) (wl_rz d12_15 rfl (by decide) ((H.2 c1).2 c2))))))))
-- ClogHouse.isWithin(III)Z
theorem d13_0 : decode (cm_M 13).2.2.1 0 = .ok (.iload_n 0, 1) := by decide +kernel
theorem d13_1 : decode (cm_M 13).2.2.1 1 = .ok (.iload_n 1, 1) := by decide +kernel
theorem d13_2 : decode (cm_M 13).2.2.1 2 = .ok (.if_icmp .lt 12, 3) := by decide +kernel
theorem d13_5 : decode (cm_M 13).2.2.1 5 = .ok (.iload_n 0, 1) := by decide +kernel
theorem d13_6 : decode (cm_M 13).2.2.1 6 = .ok (.iload_n 2, 1) := by decide +kernel
theorem d13_7 : decode (cm_M 13).2.2.1 7 = .ok (.if_icmp .gt 7, 3) := by decide +kernel
theorem d13_10 : decode (cm_M 13).2.2.1 10 = .ok (.iconst 1, 1) := by decide +kernel
theorem d13_11 : decode (cm_M 13).2.2.1 11 = .ok (.goto 4, 3) := by decide +kernel
theorem d13_14 : decode (cm_M 13).2.2.1 14 = .ok (.iconst 0, 1) := by decide +kernel
theorem d13_15 : decode (cm_M 13).2.2.1 15 = .ok (.ireturn, 1) := by decide +kernel
theorem s13_0 {sc : cmS} {d : Nat} {h : cmH} {Q : Option Value → cmH → Prop} (x0 : Int32) (x1 : Int32) (x2 : Int32) (H : (((x0 < x1) → Q (some (.int (0 : Int32))) h) ∧ (¬ (x0 < x1) → (((x2 < x0) → Q (some (.int (0 : Int32))) h) ∧ (¬ (x2 < x0) → Q (some (.int (1 : Int32))) h))))) : cm_wp sc d 13 0 [some (.int x0), some (.int x1), some (.int x2)] [] h Q :=
  wl_st d13_0 rfl rfl rfl rfl (wl_st d13_1 rfl rfl rfl rfl (wl_cb (b := x0 < x1) (off := 12) (tgt := 14) (pc3 := 5) (st' := []) d13_2 rfl rfl rfl rfl (by decide) rfl (fun c1 => wl_ic (v := 0) d13_14 rfl (wl_rz d13_15 rfl (by decide) (H.1 c1))) (fun c1 => wl_st d13_5 rfl rfl rfl rfl (wl_st d13_6 rfl rfl rfl rfl (wl_cb (b := x2 < x0) (off := 7) (tgt := 14) (pc3 := 10) (st' := []) d13_7 rfl rfl rfl rfl (by decide) rfl (fun c2 => wl_ic (v := 0) d13_14 rfl (wl_rz d13_15 rfl (by decide) ((H.2 c1).1 c2))) (fun c2 => wl_ic (v := 1) d13_10 rfl (wl_go (tgt := 15) d13_11 (by decide) (wl_rz d13_15 rfl (by decide) ((H.2 c1).2 c2)))))))))
-- ClogHouse.filter()I
theorem d15_0 : decode (cm_M 15).2.2.1 0 = .ok (.aload_n 0, 1) := by decide +kernel
theorem d15_1 : decode (cm_M 15).2.2.1 1 = .ok (.getfield 98, 3) := by decide +kernel
theorem d15_4 : decode (cm_M 15).2.2.1 4 = .ok (.ifCond .lt 12, 3) := by decide +kernel
theorem d15_7 : decode (cm_M 15).2.2.1 7 = .ok (.aload_n 0, 1) := by decide +kernel
theorem d15_8 : decode (cm_M 15).2.2.1 8 = .ok (.getfield 98, 3) := by decide +kernel
theorem d15_11 : decode (cm_M 15).2.2.1 11 = .ok (.bipush 8, 2) := by decide +kernel
theorem d15_13 : decode (cm_M 15).2.2.1 13 = .ok (.if_icmp .lt 5, 3) := by decide +kernel
theorem d15_16 : decode (cm_M 15).2.2.1 16 = .ok (.iconst (-1), 1) := by decide +kernel
theorem d15_17 : decode (cm_M 15).2.2.1 17 = .ok (.ireturn, 1) := by decide +kernel
theorem d15_18 : decode (cm_M 15).2.2.1 18 = .ok (.aload_n 0, 1) := by decide +kernel
theorem d15_19 : decode (cm_M 15).2.2.1 19 = .ok (.getfield 18, 3) := by decide +kernel
theorem d15_22 : decode (cm_M 15).2.2.1 22 = .ok (.aload_n 0, 1) := by decide +kernel
theorem d15_23 : decode (cm_M 15).2.2.1 23 = .ok (.getfield 98, 3) := by decide +kernel
theorem d15_26 : decode (cm_M 15).2.2.1 26 = .ok (.new 16, 3) := by decide +kernel
theorem d15_29 : decode (cm_M 15).2.2.1 29 = .ok (.dup, 1) := by decide +kernel
theorem d15_30 : decode (cm_M 15).2.2.1 30 = .ok (.invokespecial 102, 3) := by decide +kernel
theorem d15_33 : decode (cm_M 15).2.2.1 33 = .ok (.aastore, 1) := by decide +kernel
theorem d15_34 : decode (cm_M 15).2.2.1 34 = .ok (.aload_n 0, 1) := by decide +kernel
theorem d15_35 : decode (cm_M 15).2.2.1 35 = .ok (.dup, 1) := by decide +kernel
theorem d15_36 : decode (cm_M 15).2.2.1 36 = .ok (.getfield 98, 3) := by decide +kernel
theorem d15_39 : decode (cm_M 15).2.2.1 39 = .ok (.iconst 1, 1) := by decide +kernel
theorem d15_40 : decode (cm_M 15).2.2.1 40 = .ok (.iadd, 1) := by decide +kernel
theorem d15_41 : decode (cm_M 15).2.2.1 41 = .ok (.putfield 98, 3) := by decide +kernel
theorem d15_44 : decode (cm_M 15).2.2.1 44 = .ok (.aload_n 0, 1) := by decide +kernel
theorem d15_45 : decode (cm_M 15).2.2.1 45 = .ok (.getfield 98, 3) := by decide +kernel
theorem d15_48 : decode (cm_M 15).2.2.1 48 = .ok (.iconst 1, 1) := by decide +kernel
theorem d15_49 : decode (cm_M 15).2.2.1 49 = .ok (.isub, 1) := by decide +kernel
theorem d15_50 : decode (cm_M 15).2.2.1 50 = .ok (.ireturn, 1) := by decide +kernel
theorem s15_0 {sc : cmS} {d : Nat} {h : cmH} {Q : Option Value → cmH → Prop} (L : LY h)  (H : ((((cm_I h 0 10) < 0) → Q (some (.int (-1 : Int32))) h) ∧ (¬ ((cm_I h 0 10) < 0) → ((((cm_I h 0 10) < (8 : Int32)) → (cm_kd (cm_mk h 3 20) (cm_n h) = 3 ∧ (cm_n h) < cm_n (cm_mk h 3 20)) ∧ cm_cv sc d 8 [.ref (cm_n h)] (cm_mk h 3 20) (fun h' => cm_wp sc (d + 1) 15 33 [some (.ref 0)] [.ref (cm_n h), .int (cm_I h 0 10), .ref 5] h' Q)) ∧ (¬ ((cm_I h 0 10) < (8 : Int32)) → Q (some (.int (-1 : Int32))) h))))) : cm_wp sc (d + 1) 15 0 [some (.ref 0)] [] h Q :=
  wl_st d15_0 rfl rfl rfl rfl (wl_gf (v := .int (cm_I h 0 10)) d15_1 pf10_98 (ly_k L 0 rfl) rfl (wl_cb (b := (cm_I h 0 10) < 0) (off := 12) (tgt := 16) (pc3 := 7) (st' := []) d15_4 rfl rfl rfl rfl (by decide) rfl (fun c1 => wl_ic (v := (-1)) d15_16 rfl (wl_rt d15_17 rfl rfl rfl (H.1 c1))) (fun c1 => wl_st d15_7 rfl rfl rfl rfl (wl_gf (v := .int (cm_I h 0 10)) d15_8 pf10_98 (ly_k L 0 rfl) rfl (wl_bi (v := 8) d15_11 rfl (wl_cb (b := (cm_I h 0 10) < (8 : Int32)) (off := 5) (tgt := 18) (pc3 := 16) (st' := []) d15_13 rfl rfl rfl rfl (by decide) rfl (fun c2 => wl_st d15_18 rfl rfl rfl rfl (wl_gr (b := 5) d15_19 pf10_18 (ly_k L 0 rfl) rfl (ly_r L 0 1 rfl) (wl_st d15_22 rfl rfl rfl rfl (wl_gf (v := .int (cm_I h 0 10)) d15_23 pf10_98 (ly_k L 0 rfl) rfl (wl_nw d15_26 pn10_16 (wl_st d15_29 rfl rfl rfl rfl (And.elim (fun g3 g3k => wl_cv d15_30 rfl rfl rfl pm10_102 (by decide) (ca_i (Or.inr rfl) rfl (Nat.le_of_ble_eq_true rfl) (Nat.le_of_ble_eq_true rfl) g3.2 g3.1 (by decide) rfl) g3k) ((H.2 c1).1 c2)))))))) (fun c2 => wl_ic (v := (-1)) d15_16 rfl (wl_rt d15_17 rfl rfl rfl ((H.2 c1).2 c2)))))))))
theorem s15_33 {sc : cmS} {d : Nat} {h : cmH} {Q : Option Value → cmH → Prop} (sa0 : Nat) (sx1 : Int32) (H : (cm_ok h (cm_kd h 5) 5 sx1 ∧ sa0 < cm_n h ∧ ((cm_kd h 5 = 16 ∧ cm_kd h sa0 = 1) ∨ (cm_kd h 5 = 17 ∧ cm_kd h sa0 = 3) ∨ (cm_kd h 5 = 18 ∧ cm_kd h sa0 = 9))) ∧ (cm_kd h 0 = 10 ∧ 0 < cm_n h) ∧ Q (some (.int (((cm_I h 0 10) + (1 : Int32)) - (1 : Int32)))) (cm_setI (cm_setR h 5 sx1.toNatClampNeg (some sa0)) 0 10 ((cm_I h 0 10) + (1 : Int32)))) : cm_wp sc d 15 33 [some (.ref 0)] [.ref sa0, .int sx1, .ref 5] h Q :=
  And.elim (fun g1 g1k => wl_if (h' := (cm_setR h 5 sx1.toNatClampNeg (some sa0))) d15_33 rfl rfl rfl rfl g1 (wl_st d15_34 rfl rfl rfl rfl (wl_st d15_35 rfl rfl rfl rfl (And.elim (fun g2 g2k => wl_gf (v := .int (cm_I h 0 10)) d15_36 pf10_98 g2 rfl (wl_ic (v := 1) d15_39 rfl (wl_st d15_40 rfl rfl rfl rfl (wl_pf (h' := (cm_setI (cm_setR h 5 sx1.toNatClampNeg (some sa0)) 0 10 ((cm_I h 0 10) + (1 : Int32)))) d15_41 pf10_98 g2 (Or.inl rfl) rfl (wl_st d15_44 rfl rfl rfl rfl (wl_gf (v := .int ((cm_I h 0 10) + (1 : Int32))) d15_45 pf10_98 g2 rfl (wl_ic (v := 1) d15_48 rfl (wl_st d15_49 rfl rfl rfl rfl (wl_rt d15_50 rfl rfl rfl g2k))))))))) g1k)))) H
-- ClogHouse.cell(III)I
theorem d16_0 : decode (cm_M 16).2.2.1 0 = .ok (.aload_n 0, 1) := by decide +kernel
theorem d16_1 : decode (cm_M 16).2.2.1 1 = .ok (.iload_n 1, 1) := by decide +kernel
theorem d16_2 : decode (cm_M 16).2.2.1 2 = .ok (.invokevirtual 103, 3) := by decide +kernel
theorem d16_5 : decode (cm_M 16).2.2.1 5 = .ok (.astore 4, 2) := by decide +kernel
theorem d16_7 : decode (cm_M 16).2.2.1 7 = .ok (.aload 4, 2) := by decide +kernel
theorem d16_9 : decode (cm_M 16).2.2.1 9 = .ok (.ifnull 32, 3) := by decide +kernel
theorem d16_12 : decode (cm_M 16).2.2.1 12 = .ok (.aload 4, 2) := by decide +kernel
theorem d16_14 : decode (cm_M 16).2.2.1 14 = .ok (.getfield 107, 3) := by decide +kernel
theorem d16_17 : decode (cm_M 16).2.2.1 17 = .ok (.ifCond .ne 24, 3) := by decide +kernel
theorem d16_20 : decode (cm_M 16).2.2.1 20 = .ok (.iload_n 2, 1) := by decide +kernel
theorem d16_21 : decode (cm_M 16).2.2.1 21 = .ok (.iconst 1, 1) := by decide +kernel
theorem d16_22 : decode (cm_M 16).2.2.1 22 = .ok (.bipush 20, 2) := by decide +kernel
theorem d16_24 : decode (cm_M 16).2.2.1 24 = .ok (.invokestatic 81, 3) := by decide +kernel
theorem d16_27 : decode (cm_M 16).2.2.1 27 = .ok (.ifCond .eq 14, 3) := by decide +kernel
theorem d16_30 : decode (cm_M 16).2.2.1 30 = .ok (.iload_n 3, 1) := by decide +kernel
theorem d16_31 : decode (cm_M 16).2.2.1 31 = .ok (.iconst 1, 1) := by decide +kernel
theorem d16_32 : decode (cm_M 16).2.2.1 32 = .ok (.sipush 1000, 3) := by decide +kernel
theorem d16_35 : decode (cm_M 16).2.2.1 35 = .ok (.invokestatic 81, 3) := by decide +kernel
theorem d16_38 : decode (cm_M 16).2.2.1 38 = .ok (.ifCond .ne 5, 3) := by decide +kernel
theorem d16_41 : decode (cm_M 16).2.2.1 41 = .ok (.iconst (-1), 1) := by decide +kernel
theorem d16_42 : decode (cm_M 16).2.2.1 42 = .ok (.ireturn, 1) := by decide +kernel
theorem d16_43 : decode (cm_M 16).2.2.1 43 = .ok (.aload 4, 2) := by decide +kernel
theorem d16_45 : decode (cm_M 16).2.2.1 45 = .ok (.iload_n 2, 1) := by decide +kernel
theorem d16_46 : decode (cm_M 16).2.2.1 46 = .ok (.iload_n 3, 1) := by decide +kernel
theorem d16_47 : decode (cm_M 16).2.2.1 47 = .ok (.invokevirtual 111, 3) := by decide +kernel
theorem d16_50 : decode (cm_M 16).2.2.1 50 = .ok (.ifCond .eq 11, 3) := by decide +kernel
theorem d16_53 : decode (cm_M 16).2.2.1 53 = .ok (.aload 4, 2) := by decide +kernel
theorem d16_55 : decode (cm_M 16).2.2.1 55 = .ok (.getfield 115, 3) := by decide +kernel
theorem d16_58 : decode (cm_M 16).2.2.1 58 = .ok (.goto 4, 3) := by decide +kernel
theorem d16_61 : decode (cm_M 16).2.2.1 61 = .ok (.iconst (-1), 1) := by decide +kernel
theorem d16_62 : decode (cm_M 16).2.2.1 62 = .ok (.ireturn, 1) := by decide +kernel
theorem s16_0 {sc : cmS} {d : Nat} {h : cmH} {Q : Option Value → cmH → Prop} (L : LY h) (x1 : Int32) (x2 : Int32) (x3 : Int32) (u4 : Option Value) (H : cm_cq sc d 17 [.ref 0, .int x1] h (fun r h' => cm_wp sc (d + 1) 16 5 [some (.ref 0), some (.int x1), some (.int x2), some (.int x3), u4] [va_rf r] h' Q)) : cm_wp sc (d + 1) 16 0 [some (.ref 0), some (.int x1), some (.int x2), some (.int x3), u4] [] h Q :=
  wl_st d16_0 rfl rfl rfl rfl (wl_st d16_1 rfl rfl rfl rfl (wl_cq d16_2 rfl rfl rfl pm10_103 (by decide) (ca_v (Or.inl rfl) rfl (Nat.le_of_ble_eq_true rfl) (Nat.le_of_ble_eq_true rfl) (ly_k L 0 rfl).2 (ly_k L 0 rfl).1 (by decide)) H))
theorem s16_5 {sc : cmS} {d : Nat} {h : cmH} {Q : Option Value → cmH → Prop} (x1 : Int32) (x2 : Int32) (x3 : Int32) (u4 : Option Value) (so0 : Option Nat) (H : ((so0 = none → Q (some (.int (-1 : Int32))) h) ∧ (∀ b2, so0 = some b2 → (FL h b2) ∧ (((¬ (cm_I h b2 17) = 0) → Q (some (.int (-1 : Int32))) h) ∧ (¬ (¬ (cm_I h b2 17) = 0) → cm_ci sc d 13 [.int x2, .int (1 : Int32), .int (20 : Int32)] h (fun r h' => cm_wp sc (d + 1) 16 27 [some (.ref 0), some (.int x1), some (.int x2), some (.int x3), some (.ref b2)] [.int r] h' Q)))))) : cm_wp sc (d + 1) 16 5 [some (.ref 0), some (.int x1), some (.int x2), some (.int x3), u4] [va_rf so0] h Q :=
  wl_as (k := 4) (ls' := [some (.ref 0), some (.int x1), some (.int x2), some (.int x3), some (va_rf so0)]) d16_5 (Or.inl ⟨rfl, rfl⟩) (Nat.le_of_ble_eq_true rfl) rfl (wl_al (k := 4) d16_7 (Or.inl ⟨rfl, rfl⟩) rfl (wl_nu (o := so0) (tgt := 41) (pc3 := 12) d16_9 (by decide) rfl (fun c1 => wl_ic (v := (-1)) d16_41 rfl (wl_rt d16_42 rfl rfl rfl (H.1 c1))) (fun b2 c1 => cm_rw (fun oo => cm_wp sc (d + 1) 16 12 [some (.ref 0), some (.int x1), some (.int x2), some (.int x3), some (va_rf oo)] [] h Q) c1 (wl_st d16_12 rfl rfl rfl rfl (And.elim (fun g3 g3k => wl_gf (v := .int (cm_I h b2 17)) d16_14 pf10_107 (FL.k g3) rfl (wl_cb (b := ¬ (cm_I h b2 17) = 0) (off := 24) (tgt := 41) (pc3 := 20) (st' := []) d16_17 rfl rfl rfl rfl (by decide) rfl (fun c4 => wl_ic (v := (-1)) d16_41 rfl (wl_rt d16_42 rfl rfl rfl (g3k.1 c4))) (fun c4 => wl_st d16_20 rfl rfl rfl rfl (wl_ic (v := 1) d16_21 rfl (wl_bi (v := 20) d16_22 rfl (wl_ci d16_24 rfl rfl rfl pm10_81 (by decide) (ca_s (Or.inl rfl) rfl (Nat.le_of_ble_eq_true rfl) (Nat.le_of_ble_eq_true rfl)) (g3k.2 c4))))))) (H.2 b2 c1))))))
theorem s16_27 {sc : cmS} {d : Nat} {h : cmH} {Q : Option Value → cmH → Prop} (x1 : Int32) (x2 : Int32) (x3 : Int32) (o4 : Option Nat) (sx0 : Int32) (H : (((sx0 = 0) → Q (some (.int (-1 : Int32))) h) ∧ (¬ (sx0 = 0) → cm_ci sc d 13 [.int x3, .int (1 : Int32), .int (1000 : Int32)] h (fun r h' => cm_wp sc (d + 1) 16 38 [some (.ref 0), some (.int x1), some (.int x2), some (.int x3), some (va_rf o4)] [.int r] h' Q)))) : cm_wp sc (d + 1) 16 27 [some (.ref 0), some (.int x1), some (.int x2), some (.int x3), some (va_rf o4)] [.int sx0] h Q :=
  wl_cb (b := sx0 = 0) (off := 14) (tgt := 41) (pc3 := 30) (st' := []) d16_27 rfl rfl rfl rfl (by decide) rfl (fun c1 => wl_ic (v := (-1)) d16_41 rfl (wl_rt d16_42 rfl rfl rfl (H.1 c1))) (fun c1 => wl_st d16_30 rfl rfl rfl rfl (wl_ic (v := 1) d16_31 rfl (wl_si (v := 1000) d16_32 rfl (wl_ci d16_35 rfl rfl rfl pm10_81 (by decide) (ca_s (Or.inl rfl) rfl (Nat.le_of_ble_eq_true rfl) (Nat.le_of_ble_eq_true rfl)) (H.2 c1)))))
theorem s16_38 {sc : cmS} {d : Nat} {h : cmH} {Q : Option Value → cmH → Prop} (x1 : Int32) (x2 : Int32) (x3 : Int32) (o4 : Option Nat) (sx0 : Int32) (H : (((¬ sx0 = 0) → ∃ b2, o4 = some b2 ∧ (FL h b2) ∧ cm_ci sc d 18 [.ref b2, .int x2, .int x3] h (fun r h' => cm_wp sc (d + 1) 16 50 [some (.ref 0), some (.int x1), some (.int x2), some (.int x3), some (.ref b2)] [.int r] h' Q)) ∧ (¬ (¬ sx0 = 0) → Q (some (.int (-1 : Int32))) h))) : cm_wp sc (d + 1) 16 38 [some (.ref 0), some (.int x1), some (.int x2), some (.int x3), some (va_rf o4)] [.int sx0] h Q :=
  wl_cb (b := ¬ sx0 = 0) (off := 5) (tgt := 43) (pc3 := 41) (st' := []) d16_38 rfl rfl rfl rfl (by decide) rfl (fun c1 => Exists.elim (H.1 c1) fun b2 b2q => And.elim (fun b2e b2k => cm_rw (fun oo => cm_wp sc (d + 1) 16 43 [some (.ref 0), some (.int x1), some (.int x2), some (.int x3), some (va_rf oo)] [] h Q) b2e (wl_st d16_43 rfl rfl rfl rfl (wl_st d16_45 rfl rfl rfl rfl (wl_st d16_46 rfl rfl rfl rfl (And.elim (fun g3 g3k => wl_ci d16_47 rfl rfl rfl pm10_111 (by decide) (ca_v (Or.inr rfl) rfl (Nat.le_of_ble_eq_true rfl) (Nat.le_of_ble_eq_true rfl) (FL.k g3).2 (FL.k g3).1 (by decide)) g3k) b2k))))) b2q) (fun c1 => wl_ic (v := (-1)) d16_41 rfl (wl_rt d16_42 rfl rfl rfl (H.2 c1)))
theorem s16_50 {sc : cmS} {d : Nat} {h : cmH} {Q : Option Value → cmH → Prop} (x1 : Int32) (x2 : Int32) (x3 : Int32) (o4 : Option Nat) (sx0 : Int32) (H : (((sx0 = 0) → Q (some (.int (-1 : Int32))) h) ∧ (¬ (sx0 = 0) → ∃ b2, o4 = some b2 ∧ (FL h b2) ∧ Q (some (.int (cm_I h b2 3))) h))) : cm_wp sc d 16 50 [some (.ref 0), some (.int x1), some (.int x2), some (.int x3), some (va_rf o4)] [.int sx0] h Q :=
  wl_cb (b := sx0 = 0) (off := 11) (tgt := 61) (pc3 := 53) (st' := []) d16_50 rfl rfl rfl rfl (by decide) rfl (fun c1 => wl_ic (v := (-1)) d16_61 rfl (wl_rt d16_62 rfl rfl rfl (H.1 c1))) (fun c1 => Exists.elim (H.2 c1) fun b2 b2q => And.elim (fun b2e b2k => cm_rw (fun oo => cm_wp sc d 16 53 [some (.ref 0), some (.int x1), some (.int x2), some (.int x3), some (va_rf oo)] [] h Q) b2e (wl_st d16_53 rfl rfl rfl rfl (And.elim (fun g3 g3k => wl_gf (v := .int (cm_I h b2 3)) d16_55 pf10_115 (FL.k g3) rfl (wl_go (tgt := 62) d16_58 (by decide) (wl_rt d16_62 rfl rfl rfl g3k))) b2k))) b2q)
-- ClogHouse.filterAt(I)LClogHouse$Filter;
theorem d17_0 : decode (cm_M 17).2.2.1 0 = .ok (.iload_n 1, 1) := by decide +kernel
theorem d17_1 : decode (cm_M 17).2.2.1 1 = .ok (.iconst 0, 1) := by decide +kernel
theorem d17_2 : decode (cm_M 17).2.2.1 2 = .ok (.aload_n 0, 1) := by decide +kernel
theorem d17_3 : decode (cm_M 17).2.2.1 3 = .ok (.getfield 98, 3) := by decide +kernel
theorem d17_6 : decode (cm_M 17).2.2.1 6 = .ok (.iconst 1, 1) := by decide +kernel
theorem d17_7 : decode (cm_M 17).2.2.1 7 = .ok (.isub, 1) := by decide +kernel
theorem d17_8 : decode (cm_M 17).2.2.1 8 = .ok (.invokestatic 81, 3) := by decide +kernel
theorem d17_11 : decode (cm_M 17).2.2.1 11 = .ok (.ifCond .eq 21, 3) := by decide +kernel
theorem d17_14 : decode (cm_M 17).2.2.1 14 = .ok (.iload_n 1, 1) := by decide +kernel
theorem d17_15 : decode (cm_M 17).2.2.1 15 = .ok (.aload_n 0, 1) := by decide +kernel
theorem d17_16 : decode (cm_M 17).2.2.1 16 = .ok (.getfield 18, 3) := by decide +kernel
theorem d17_19 : decode (cm_M 17).2.2.1 19 = .ok (.arraylength, 1) := by decide +kernel
theorem d17_20 : decode (cm_M 17).2.2.1 20 = .ok (.if_icmp .ge 12, 3) := by decide +kernel
theorem d17_23 : decode (cm_M 17).2.2.1 23 = .ok (.aload_n 0, 1) := by decide +kernel
theorem d17_24 : decode (cm_M 17).2.2.1 24 = .ok (.getfield 18, 3) := by decide +kernel
theorem d17_27 : decode (cm_M 17).2.2.1 27 = .ok (.iload_n 1, 1) := by decide +kernel
theorem d17_28 : decode (cm_M 17).2.2.1 28 = .ok (.aaload, 1) := by decide +kernel
theorem d17_29 : decode (cm_M 17).2.2.1 29 = .ok (.goto 4, 3) := by decide +kernel
theorem d17_32 : decode (cm_M 17).2.2.1 32 = .ok (.aconst_null, 1) := by decide +kernel
theorem d17_33 : decode (cm_M 17).2.2.1 33 = .ok (.areturn, 1) := by decide +kernel
theorem s17_0 {sc : cmS} {d : Nat} {h : cmH} {Q : Option Value → cmH → Prop} (L : LY h) (x1 : Int32) (H : cm_ci sc d 13 [.int x1, .int (0 : Int32), .int ((cm_I h 0 10) - (1 : Int32))] h (fun r h' => cm_wp sc (d + 1) 17 11 [some (.ref 0), some (.int x1)] [.int r] h' Q)) : cm_wp sc (d + 1) 17 0 [some (.ref 0), some (.int x1)] [] h Q :=
  wl_st d17_0 rfl rfl rfl rfl (wl_ic (v := 0) d17_1 rfl (wl_st d17_2 rfl rfl rfl rfl (wl_gf (v := .int (cm_I h 0 10)) d17_3 pf10_98 (ly_k L 0 rfl) rfl (wl_ic (v := 1) d17_6 rfl (wl_st d17_7 rfl rfl rfl rfl (wl_ci d17_8 rfl rfl rfl pm10_81 (by decide) (ca_s (Or.inl rfl) rfl (Nat.le_of_ble_eq_true rfl) (Nat.le_of_ble_eq_true rfl)) H))))))
theorem s17_11 {sc : cmS} {d : Nat} {h : cmH} {Q : Option Value → cmH → Prop} (L : LY h) (x1 : Int32) (sx0 : Int32) (H : (((sx0 = 0) → Q (some (va_rf none)) h) ∧ (¬ (sx0 = 0) → ((((8 : Int32) ≤ x1) → Q (some (va_rf none)) h) ∧ (¬ ((8 : Int32) ≤ x1) → (IX 8 x1) ∧ Q (some (va_rf (cm_R h 5 x1.toNatClampNeg))) h))))) : cm_wp sc d 17 11 [some (.ref 0), some (.int x1)] [.int sx0] h Q :=
  wl_cb (b := sx0 = 0) (off := 21) (tgt := 32) (pc3 := 14) (st' := []) d17_11 rfl rfl rfl rfl (by decide) rfl (fun c1 => wl_st d17_32 rfl rfl rfl rfl (wl_rq d17_33 rfl (H.1 c1))) (fun c1 => wl_st d17_14 rfl rfl rfl rfl (wl_st d17_15 rfl rfl rfl rfl (wl_gr (b := 5) d17_16 pf10_18 (ly_k L 0 rfl) rfl (ly_r L 0 1 rfl) (wl_aln (v := 8) d17_19 (ly_la L 5 rfl) rfl (wl_cb (b := (8 : Int32) ≤ x1) (off := 12) (tgt := 32) (pc3 := 23) (st' := []) d17_20 rfl rfl rfl rfl (by decide) rfl (fun c2 => wl_st d17_32 rfl rfl rfl rfl (wl_rq d17_33 rfl ((H.2 c1).1 c2))) (fun c2 => wl_st d17_23 rfl rfl rfl rfl (wl_gr (b := 5) d17_24 pf10_18 (ly_k L 0 rfl) rfl (ly_r L 0 1 rfl) (wl_st d17_27 rfl rfl rfl rfl (And.elim (fun g3 g3k => wl_ald d17_28 (ly_oq L 5 rfl g3) (wl_go (tgt := 33) d17_29 (by decide) (wl_rq d17_33 rfl g3k))) ((H.2 c1).2 c2))))))))))
-- ClogHouse.set(III)Z
theorem d20_0 : decode (cm_M 20).2.2.1 0 = .ok (.aload_n 0, 1) := by decide +kernel
theorem d20_1 : decode (cm_M 20).2.2.1 1 = .ok (.iload_n 1, 1) := by decide +kernel
theorem d20_2 : decode (cm_M 20).2.2.1 2 = .ok (.invokevirtual 103, 3) := by decide +kernel
theorem d20_5 : decode (cm_M 20).2.2.1 5 = .ok (.astore 4, 2) := by decide +kernel
theorem d20_7 : decode (cm_M 20).2.2.1 7 = .ok (.aload 4, 2) := by decide +kernel
theorem d20_9 : decode (cm_M 20).2.2.1 9 = .ok (.ifnull 34, 3) := by decide +kernel
theorem d20_12 : decode (cm_M 20).2.2.1 12 = .ok (.iload_n 2, 1) := by decide +kernel
theorem d20_13 : decode (cm_M 20).2.2.1 13 = .ok (.iconst 0, 1) := by decide +kernel
theorem d20_14 : decode (cm_M 20).2.2.1 14 = .ok (.iconst 2, 1) := by decide +kernel
theorem d20_15 : decode (cm_M 20).2.2.1 15 = .ok (.invokestatic 81, 3) := by decide +kernel
theorem d20_18 : decode (cm_M 20).2.2.1 18 = .ok (.ifCond .eq 25, 3) := by decide +kernel
theorem d20_21 : decode (cm_M 20).2.2.1 21 = .ok (.iload_n 3, 1) := by decide +kernel
theorem d20_22 : decode (cm_M 20).2.2.1 22 = .ok (.iconst 1, 1) := by decide +kernel
theorem d20_23 : decode (cm_M 20).2.2.1 23 = .ok (.iload_n 2, 1) := by decide +kernel
theorem d20_24 : decode (cm_M 20).2.2.1 24 = .ok (.iconst 2, 1) := by decide +kernel
theorem d20_25 : decode (cm_M 20).2.2.1 25 = .ok (.if_icmp .ne 9, 3) := by decide +kernel
theorem d20_28 : decode (cm_M 20).2.2.1 28 = .ok (.sipush 200, 3) := by decide +kernel
theorem d20_31 : decode (cm_M 20).2.2.1 31 = .ok (.goto 6, 3) := by decide +kernel
theorem d20_34 : decode (cm_M 20).2.2.1 34 = .ok (.sipush 1000, 3) := by decide +kernel
theorem d20_37 : decode (cm_M 20).2.2.1 37 = .ok (.invokestatic 81, 3) := by decide +kernel
theorem d20_40 : decode (cm_M 20).2.2.1 40 = .ok (.ifCond .ne 5, 3) := by decide +kernel
theorem d20_43 : decode (cm_M 20).2.2.1 43 = .ok (.iconst 0, 1) := by decide +kernel
theorem d20_44 : decode (cm_M 20).2.2.1 44 = .ok (.ireturn, 1) := by decide +kernel
theorem d20_45 : decode (cm_M 20).2.2.1 45 = .ok (.iload_n 2, 1) := by decide +kernel
theorem d20_46 : decode (cm_M 20).2.2.1 46 = .ok (.ifCond .ne 12, 3) := by decide +kernel
theorem d20_49 : decode (cm_M 20).2.2.1 49 = .ok (.aload 4, 2) := by decide +kernel
theorem d20_51 : decode (cm_M 20).2.2.1 51 = .ok (.iload_n 3, 1) := by decide +kernel
theorem d20_52 : decode (cm_M 20).2.2.1 52 = .ok (.putfield 118, 3) := by decide +kernel
theorem d20_55 : decode (cm_M 20).2.2.1 55 = .ok (.goto 23, 3) := by decide +kernel
theorem d20_58 : decode (cm_M 20).2.2.1 58 = .ok (.iload_n 2, 1) := by decide +kernel
theorem d20_59 : decode (cm_M 20).2.2.1 59 = .ok (.iconst 1, 1) := by decide +kernel
theorem d20_60 : decode (cm_M 20).2.2.1 60 = .ok (.if_icmp .ne 12, 3) := by decide +kernel
theorem d20_63 : decode (cm_M 20).2.2.1 63 = .ok (.aload 4, 2) := by decide +kernel
theorem d20_65 : decode (cm_M 20).2.2.1 65 = .ok (.iload_n 3, 1) := by decide +kernel
theorem d20_66 : decode (cm_M 20).2.2.1 66 = .ok (.putfield 121, 3) := by decide +kernel
theorem d20_69 : decode (cm_M 20).2.2.1 69 = .ok (.goto 9, 3) := by decide +kernel
theorem d20_72 : decode (cm_M 20).2.2.1 72 = .ok (.aload 4, 2) := by decide +kernel
theorem d20_74 : decode (cm_M 20).2.2.1 74 = .ok (.iload_n 3, 1) := by decide +kernel
theorem d20_75 : decode (cm_M 20).2.2.1 75 = .ok (.putfield 124, 3) := by decide +kernel
theorem d20_78 : decode (cm_M 20).2.2.1 78 = .ok (.iconst 1, 1) := by decide +kernel
theorem d20_79 : decode (cm_M 20).2.2.1 79 = .ok (.ireturn, 1) := by decide +kernel
theorem s20_0 {sc : cmS} {d : Nat} {h : cmH} {Q : Option Value → cmH → Prop} (L : LY h) (x1 : Int32) (x2 : Int32) (x3 : Int32) (u4 : Option Value) (H : cm_cq sc d 17 [.ref 0, .int x1] h (fun r h' => cm_wp sc (d + 1) 20 5 [some (.ref 0), some (.int x1), some (.int x2), some (.int x3), u4] [va_rf r] h' Q)) : cm_wp sc (d + 1) 20 0 [some (.ref 0), some (.int x1), some (.int x2), some (.int x3), u4] [] h Q :=
  wl_st d20_0 rfl rfl rfl rfl (wl_st d20_1 rfl rfl rfl rfl (wl_cq d20_2 rfl rfl rfl pm10_103 (by decide) (ca_v (Or.inl rfl) rfl (Nat.le_of_ble_eq_true rfl) (Nat.le_of_ble_eq_true rfl) (ly_k L 0 rfl).2 (ly_k L 0 rfl).1 (by decide)) H))
theorem s20_5 {sc : cmS} {d : Nat} {h : cmH} {Q : Option Value → cmH → Prop} (x1 : Int32) (x2 : Int32) (x3 : Int32) (u4 : Option Value) (so0 : Option Nat) (H : ((so0 = none → Q (some (.int (0 : Int32))) h) ∧ (∀ b2, so0 = some b2 → cm_ci sc d 13 [.int x2, .int (0 : Int32), .int (2 : Int32)] h (fun r h' => cm_wp sc (d + 1) 20 18 [some (.ref 0), some (.int x1), some (.int x2), some (.int x3), some (.ref b2)] [.int r] h' Q)))) : cm_wp sc (d + 1) 20 5 [some (.ref 0), some (.int x1), some (.int x2), some (.int x3), u4] [va_rf so0] h Q :=
  wl_as (k := 4) (ls' := [some (.ref 0), some (.int x1), some (.int x2), some (.int x3), some (va_rf so0)]) d20_5 (Or.inl ⟨rfl, rfl⟩) (Nat.le_of_ble_eq_true rfl) rfl (wl_al (k := 4) d20_7 (Or.inl ⟨rfl, rfl⟩) rfl (wl_nu (o := so0) (tgt := 43) (pc3 := 12) d20_9 (by decide) rfl (fun c1 => wl_ic (v := 0) d20_43 rfl (wl_rz d20_44 rfl (by decide) (H.1 c1))) (fun b2 c1 => cm_rw (fun oo => cm_wp sc (d + 1) 20 12 [some (.ref 0), some (.int x1), some (.int x2), some (.int x3), some (va_rf oo)] [] h Q) c1 (wl_st d20_12 rfl rfl rfl rfl (wl_ic (v := 0) d20_13 rfl (wl_ic (v := 2) d20_14 rfl (wl_ci d20_15 rfl rfl rfl pm10_81 (by decide) (ca_s (Or.inl rfl) rfl (Nat.le_of_ble_eq_true rfl) (Nat.le_of_ble_eq_true rfl)) (H.2 b2 c1))))))))
theorem s20_18 {sc : cmS} {d : Nat} {h : cmH} {Q : Option Value → cmH → Prop} (x1 : Int32) (x2 : Int32) (x3 : Int32) (o4 : Option Nat) (sx0 : Int32) (H : (((sx0 = 0) → Q (some (.int (0 : Int32))) h) ∧ (¬ (sx0 = 0) → (((¬ x2 = (2 : Int32)) → cm_wp sc d 20 37 [some (.ref 0), some (.int x1), some (.int x2), some (.int x3), some (va_rf o4)] [.int (1000 : Int32), .int (1 : Int32), .int x3] h Q) ∧ (¬ (¬ x2 = (2 : Int32)) → cm_wp sc d 20 37 [some (.ref 0), some (.int x1), some (.int x2), some (.int x3), some (va_rf o4)] [.int (200 : Int32), .int (1 : Int32), .int x3] h Q))))) : cm_wp sc d 20 18 [some (.ref 0), some (.int x1), some (.int x2), some (.int x3), some (va_rf o4)] [.int sx0] h Q :=
  wl_cb (b := sx0 = 0) (off := 25) (tgt := 43) (pc3 := 21) (st' := []) d20_18 rfl rfl rfl rfl (by decide) rfl (fun c1 => wl_ic (v := 0) d20_43 rfl (wl_rz d20_44 rfl (by decide) (H.1 c1))) (fun c1 => wl_st d20_21 rfl rfl rfl rfl (wl_ic (v := 1) d20_22 rfl (wl_st d20_23 rfl rfl rfl rfl (wl_ic (v := 2) d20_24 rfl (wl_cb (b := ¬ x2 = (2 : Int32)) (off := 9) (tgt := 34) (pc3 := 28) (st' := [.int (1 : Int32), .int x3]) d20_25 rfl rfl rfl rfl (by decide) rfl (fun c2 => wl_si (v := 1000) d20_34 rfl (((H.2 c1).1 c2))) (fun c2 => wl_si (v := 200) d20_28 rfl (wl_go (tgt := 37) d20_31 (by decide) (((H.2 c1).2 c2)))))))))
theorem s20_37 {sc : cmS} {d : Nat} {h : cmH} {Q : Option Value → cmH → Prop} (x1 : Int32) (x2 : Int32) (x3 : Int32) (o4 : Option Nat) (sx0 : Int32) (sx1 : Int32) (sx2 : Int32) (H : cm_ci sc d 13 [.int sx2, .int sx1, .int sx0] h (fun r h' => cm_wp sc (d + 1) 20 40 [some (.ref 0), some (.int x1), some (.int x2), some (.int x3), some (va_rf o4)] [.int r] h' Q)) : cm_wp sc (d + 1) 20 37 [some (.ref 0), some (.int x1), some (.int x2), some (.int x3), some (va_rf o4)] [.int sx0, .int sx1, .int sx2] h Q :=
  wl_ci d20_37 rfl rfl rfl pm10_81 (by decide) (ca_s (Or.inl rfl) rfl (Nat.le_of_ble_eq_true rfl) (Nat.le_of_ble_eq_true rfl)) H
theorem s20_40 {sc : cmS} {d : Nat} {h : cmH} {Q : Option Value → cmH → Prop} (x1 : Int32) (x2 : Int32) (x3 : Int32) (o4 : Option Nat) (sx0 : Int32) (H : (((¬ sx0 = 0) → (((¬ x2 = 0) → (((¬ x2 = (1 : Int32)) → ∃ b4, o4 = some b4 ∧ (FL h b4) ∧ Q (some (.int (1 : Int32))) (cm_setI h b4 6 x3)) ∧ (¬ (¬ x2 = (1 : Int32)) → ∃ b6, o4 = some b6 ∧ (FL h b6) ∧ Q (some (.int (1 : Int32))) (cm_setI h b6 5 x3)))) ∧ (¬ (¬ x2 = 0) → ∃ b8, o4 = some b8 ∧ (FL h b8) ∧ Q (some (.int (1 : Int32))) (cm_setI h b8 4 x3)))) ∧ (¬ (¬ sx0 = 0) → Q (some (.int (0 : Int32))) h))) : cm_wp sc d 20 40 [some (.ref 0), some (.int x1), some (.int x2), some (.int x3), some (va_rf o4)] [.int sx0] h Q :=
  wl_cb (b := ¬ sx0 = 0) (off := 5) (tgt := 45) (pc3 := 43) (st' := []) d20_40 rfl rfl rfl rfl (by decide) rfl (fun c1 => wl_st d20_45 rfl rfl rfl rfl (wl_cb (b := ¬ x2 = 0) (off := 12) (tgt := 58) (pc3 := 49) (st' := []) d20_46 rfl rfl rfl rfl (by decide) rfl (fun c2 => wl_st d20_58 rfl rfl rfl rfl (wl_ic (v := 1) d20_59 rfl (wl_cb (b := ¬ x2 = (1 : Int32)) (off := 12) (tgt := 72) (pc3 := 63) (st' := []) d20_60 rfl rfl rfl rfl (by decide) rfl (fun c3 => Exists.elim (((H.1 c1).1 c2).1 c3) fun b4 b4q => And.elim (fun b4e b4k => cm_rw (fun oo => cm_wp sc d 20 72 [some (.ref 0), some (.int x1), some (.int x2), some (.int x3), some (va_rf oo)] [] h Q) b4e (wl_st d20_72 rfl rfl rfl rfl (wl_st d20_74 rfl rfl rfl rfl (And.elim (fun g5 g5k => wl_pf (h' := (cm_setI h b4 6 x3)) d20_75 pf10_124 (FL.k g5) (Or.inl rfl) rfl (wl_ic (v := 1) d20_78 rfl (wl_rz d20_79 rfl (by decide) g5k))) b4k)))) b4q) (fun c3 => Exists.elim (((H.1 c1).1 c2).2 c3) fun b6 b6q => And.elim (fun b6e b6k => cm_rw (fun oo => cm_wp sc d 20 63 [some (.ref 0), some (.int x1), some (.int x2), some (.int x3), some (va_rf oo)] [] h Q) b6e (wl_st d20_63 rfl rfl rfl rfl (wl_st d20_65 rfl rfl rfl rfl (And.elim (fun g7 g7k => wl_pf (h' := (cm_setI h b6 5 x3)) d20_66 pf10_121 (FL.k g7) (Or.inl rfl) rfl (wl_go (tgt := 78) d20_69 (by decide) (wl_ic (v := 1) d20_78 rfl (wl_rz d20_79 rfl (by decide) g7k)))) b6k)))) b6q)))) (fun c2 => Exists.elim ((H.1 c1).2 c2) fun b8 b8q => And.elim (fun b8e b8k => cm_rw (fun oo => cm_wp sc d 20 49 [some (.ref 0), some (.int x1), some (.int x2), some (.int x3), some (va_rf oo)] [] h Q) b8e (wl_st d20_49 rfl rfl rfl rfl (wl_st d20_51 rfl rfl rfl rfl (And.elim (fun g9 g9k => wl_pf (h' := (cm_setI h b8 4 x3)) d20_52 pf10_118 (FL.k g9) (Or.inl rfl) rfl (wl_go (tgt := 78) d20_55 (by decide) (wl_ic (v := 1) d20_78 rfl (wl_rz d20_79 rfl (by decide) g9k)))) b8k)))) b8q))) (fun c1 => wl_ic (v := 0) d20_43 rfl (wl_rz d20_44 rfl (by decide) (H.2 c1)))
-- ClogHouse.celled(III)I
theorem d21_0 : decode (cm_M 21).2.2.1 0 = .ok (.aload_n 0, 1) := by decide +kernel
theorem d21_1 : decode (cm_M 21).2.2.1 1 = .ok (.iload_n 1, 1) := by decide +kernel
theorem d21_2 : decode (cm_M 21).2.2.1 2 = .ok (.iload_n 2, 1) := by decide +kernel
theorem d21_3 : decode (cm_M 21).2.2.1 3 = .ok (.invokevirtual 127, 3) := by decide +kernel
theorem d21_6 : decode (cm_M 21).2.2.1 6 = .ok (.astore 4, 2) := by decide +kernel
theorem d21_8 : decode (cm_M 21).2.2.1 8 = .ok (.aload 4, 2) := by decide +kernel
theorem d21_10 : decode (cm_M 21).2.2.1 10 = .ok (.ifnonnull 5, 3) := by decide +kernel
theorem d21_13 : decode (cm_M 21).2.2.1 13 = .ok (.iconst (-1), 1) := by decide +kernel
theorem d21_14 : decode (cm_M 21).2.2.1 14 = .ok (.ireturn, 1) := by decide +kernel
theorem d21_15 : decode (cm_M 21).2.2.1 15 = .ok (.iload_n 3, 1) := by decide +kernel
theorem d21_16 : decode (cm_M 21).2.2.1 16 = .ok (.tableswitch 66 0 4 #[36, 42, 48, 54, 60], 36) := by decide +kernel
theorem d21_52 : decode (cm_M 21).2.2.1 52 = .ok (.aload 4, 2) := by decide +kernel
theorem d21_54 : decode (cm_M 21).2.2.1 54 = .ok (.getfield 131, 3) := by decide +kernel
theorem d21_57 : decode (cm_M 21).2.2.1 57 = .ok (.ireturn, 1) := by decide +kernel
theorem d21_58 : decode (cm_M 21).2.2.1 58 = .ok (.aload 4, 2) := by decide +kernel
theorem d21_60 : decode (cm_M 21).2.2.1 60 = .ok (.getfield 136, 3) := by decide +kernel
theorem d21_63 : decode (cm_M 21).2.2.1 63 = .ok (.ireturn, 1) := by decide +kernel
theorem d21_64 : decode (cm_M 21).2.2.1 64 = .ok (.aload 4, 2) := by decide +kernel
theorem d21_66 : decode (cm_M 21).2.2.1 66 = .ok (.invokevirtual 139, 3) := by decide +kernel
theorem d21_69 : decode (cm_M 21).2.2.1 69 = .ok (.ireturn, 1) := by decide +kernel
theorem d21_70 : decode (cm_M 21).2.2.1 70 = .ok (.aload 4, 2) := by decide +kernel
theorem d21_72 : decode (cm_M 21).2.2.1 72 = .ok (.invokevirtual 143, 3) := by decide +kernel
theorem d21_75 : decode (cm_M 21).2.2.1 75 = .ok (.ireturn, 1) := by decide +kernel
theorem d21_76 : decode (cm_M 21).2.2.1 76 = .ok (.aload 4, 2) := by decide +kernel
theorem d21_78 : decode (cm_M 21).2.2.1 78 = .ok (.getfield 146, 3) := by decide +kernel
theorem d21_81 : decode (cm_M 21).2.2.1 81 = .ok (.ireturn, 1) := by decide +kernel
theorem d21_82 : decode (cm_M 21).2.2.1 82 = .ok (.iconst (-1), 1) := by decide +kernel
theorem d21_83 : decode (cm_M 21).2.2.1 83 = .ok (.ireturn, 1) := by decide +kernel
theorem s21_0 {sc : cmS} {d : Nat} {h : cmH} {Q : Option Value → cmH → Prop} (L : LY h) (x1 : Int32) (x2 : Int32) (x3 : Int32) (u4 : Option Value) (H : cm_cq sc d 22 [.ref 0, .int x1, .int x2] h (fun r h' => cm_wp sc (d + 1) 21 6 [some (.ref 0), some (.int x1), some (.int x2), some (.int x3), u4] [va_rf r] h' Q)) : cm_wp sc (d + 1) 21 0 [some (.ref 0), some (.int x1), some (.int x2), some (.int x3), u4] [] h Q :=
  wl_st d21_0 rfl rfl rfl rfl (wl_st d21_1 rfl rfl rfl rfl (wl_st d21_2 rfl rfl rfl rfl (wl_cq d21_3 rfl rfl rfl pm10_127 (by decide) (ca_v (Or.inl rfl) rfl (Nat.le_of_ble_eq_true rfl) (Nat.le_of_ble_eq_true rfl) (ly_k L 0 rfl).2 (ly_k L 0 rfl).1 (by decide)) H)))
theorem s21_6 {sc : cmS} {d : Nat} {h : cmH} {Q : Option Value → cmH → Prop} (x1 : Int32) (x2 : Int32) (x3 : Int32) (u4 : Option Value) (so0 : Option Nat) (H : ((so0 = none → Q (some (.int (-1 : Int32))) h) ∧ (∀ b2, so0 = some b2 → ((x3 = 0 → (CE h b2) ∧ Q (some (.int (cm_I h b2 4))) h) ∧ (x3 = 1 → (CE h b2) ∧ Q (some (.int (cm_I h b2 5))) h) ∧ (x3 = 2 → (CE h b2) ∧ cm_ci sc d 24 [.ref b2] h (fun r h' => cm_wp sc (d + 1) 21 69 [some (.ref 0), some (.int x1), some (.int x2), some (.int x3), some (.ref b2)] [.int r] h' Q)) ∧ (x3 = 3 → (CE h b2) ∧ cm_ci sc d 25 [.ref b2] h (fun r h' => cm_wp sc (d + 1) 21 75 [some (.ref 0), some (.int x1), some (.int x2), some (.int x3), some (.ref b2)] [.int r] h' Q)) ∧ (x3 = 4 → (CE h b2) ∧ Q (some (.int (cm_I h b2 2))) h) ∧ (¬ x3 = 0 → ¬ x3 = 1 → ¬ x3 = 2 → ¬ x3 = 3 → ¬ x3 = 4 → Q (some (.int (-1 : Int32))) h))))) : cm_wp sc (d + 1) 21 6 [some (.ref 0), some (.int x1), some (.int x2), some (.int x3), u4] [va_rf so0] h Q :=
  wl_as (k := 4) (ls' := [some (.ref 0), some (.int x1), some (.int x2), some (.int x3), some (va_rf so0)]) d21_6 (Or.inl ⟨rfl, rfl⟩) (Nat.le_of_ble_eq_true rfl) rfl (wl_al (k := 4) d21_8 (Or.inl ⟨rfl, rfl⟩) rfl (wl_nn (o := so0) (tgt := 15) (pc3 := 13) d21_10 (by decide) rfl (fun b2 c1 => cm_rw (fun oo => cm_wp sc (d + 1) 21 15 [some (.ref 0), some (.int x1), some (.int x2), some (.int x3), some (va_rf oo)] [] h Q) c1 (wl_st d21_15 rfl rfl rfl rfl ((if c8 : x3 = 0 then wl_tsI (v := 0) (tgt := 52) d21_16 c8 rfl (by decide) (by decide) (by decide) (wl_st d21_52 rfl rfl rfl rfl (And.elim (fun g3 g3k => wl_gf (v := .int (cm_I h b2 4)) d21_54 pf10_131 (CE.k g3) rfl (wl_rt d21_57 rfl rfl rfl g3k)) ((H.2 b2 c1).1 c8))) else (if c9 : x3 = 1 then wl_tsI (v := 1) (tgt := 58) d21_16 c9 rfl (by decide) (by decide) (by decide) (wl_st d21_58 rfl rfl rfl rfl (And.elim (fun g4 g4k => wl_gf (v := .int (cm_I h b2 5)) d21_60 pf10_136 (CE.k g4) rfl (wl_rt d21_63 rfl rfl rfl g4k)) ((H.2 b2 c1).2.1 c9))) else (if c10 : x3 = 2 then wl_tsI (v := 2) (tgt := 64) d21_16 c10 rfl (by decide) (by decide) (by decide) (wl_st d21_64 rfl rfl rfl rfl (And.elim (fun g5 g5k => wl_ci d21_66 rfl rfl rfl pm10_139 (by decide) (ca_v (Or.inr rfl) rfl (Nat.le_of_ble_eq_true rfl) (Nat.le_of_ble_eq_true rfl) (CE.k g5).2 (CE.k g5).1 (by decide)) g5k) ((H.2 b2 c1).2.2.1 c10))) else (if c11 : x3 = 3 then wl_tsI (v := 3) (tgt := 70) d21_16 c11 rfl (by decide) (by decide) (by decide) (wl_st d21_70 rfl rfl rfl rfl (And.elim (fun g6 g6k => wl_ci d21_72 rfl rfl rfl pm10_143 (by decide) (ca_v (Or.inr rfl) rfl (Nat.le_of_ble_eq_true rfl) (Nat.le_of_ble_eq_true rfl) (CE.k g6).2 (CE.k g6).1 (by decide)) g6k) ((H.2 b2 c1).2.2.2.1 c11))) else (if c12 : x3 = 4 then wl_tsI (v := 4) (tgt := 76) d21_16 c12 rfl (by decide) (by decide) (by decide) (wl_st d21_76 rfl rfl rfl rfl (And.elim (fun g7 g7k => wl_gf (v := .int (cm_I h b2 2)) d21_78 pf10_146 (CE.k g7) rfl (wl_rt d21_81 rfl rfl rfl g7k)) ((H.2 b2 c1).2.2.2.2.1 c12))) else wl_tsO (tgt := 82) d21_16 (by rcases (by omega : (x3).toInt < 0 ∨ 4 < (x3).toInt ∨ (x3).toInt = 0 ∨ (x3).toInt = 1 ∨ (x3).toInt = 2 ∨ (x3).toInt = 3 ∨ (x3).toInt = 4) with qq | qq | qq | qq | qq | qq | qq <;> first | exact Or.inl qq | exact Or.inr qq | exact absurd (Int32.toInt_inj.mp qq) c8 | exact absurd (Int32.toInt_inj.mp qq) c9 | exact absurd (Int32.toInt_inj.mp qq) c10 | exact absurd (Int32.toInt_inj.mp qq) c11 | exact absurd (Int32.toInt_inj.mp qq) c12) (by decide) (wl_ic (v := (-1)) d21_82 rfl (wl_rt d21_83 rfl rfl rfl ((H.2 b2 c1).2.2.2.2.2 c8 c9 c10 c11 c12))))))))))) (fun c1 => wl_ic (v := (-1)) d21_13 rfl (wl_rt d21_14 rfl rfl rfl (H.1 c1)))))
theorem s21_69 {sc : cmS} {d : Nat} {h : cmH} {Q : Option Value → cmH → Prop} (x1 : Int32) (x2 : Int32) (x3 : Int32) (o4 : Option Nat) (sx0 : Int32) (H : Q (some (.int sx0)) h) : cm_wp sc d 21 69 [some (.ref 0), some (.int x1), some (.int x2), some (.int x3), some (va_rf o4)] [.int sx0] h Q :=
  wl_rt d21_69 rfl rfl rfl H
theorem s21_75 {sc : cmS} {d : Nat} {h : cmH} {Q : Option Value → cmH → Prop} (x1 : Int32) (x2 : Int32) (x3 : Int32) (o4 : Option Nat) (sx0 : Int32) (H : Q (some (.int sx0)) h) : cm_wp sc d 21 75 [some (.ref 0), some (.int x1), some (.int x2), some (.int x3), some (va_rf o4)] [.int sx0] h Q :=
  wl_rt d21_75 rfl rfl rfl H
-- ClogHouse.cellAt(II)LClogHouse$Cell;
theorem d22_0 : decode (cm_M 22).2.2.1 0 = .ok (.aload_n 0, 1) := by decide +kernel
theorem d22_1 : decode (cm_M 22).2.2.1 1 = .ok (.iload_n 1, 1) := by decide +kernel
theorem d22_2 : decode (cm_M 22).2.2.1 2 = .ok (.invokevirtual 103, 3) := by decide +kernel
theorem d22_5 : decode (cm_M 22).2.2.1 5 = .ok (.astore_n 3, 1) := by decide +kernel
theorem d22_6 : decode (cm_M 22).2.2.1 6 = .ok (.aload_n 3, 1) := by decide +kernel
theorem d22_7 : decode (cm_M 22).2.2.1 7 = .ok (.ifnonnull 7, 3) := by decide +kernel
theorem d22_10 : decode (cm_M 22).2.2.1 10 = .ok (.aconst_null, 1) := by decide +kernel
theorem d22_11 : decode (cm_M 22).2.2.1 11 = .ok (.goto 8, 3) := by decide +kernel
theorem d22_14 : decode (cm_M 22).2.2.1 14 = .ok (.aload_n 3, 1) := by decide +kernel
theorem d22_15 : decode (cm_M 22).2.2.1 15 = .ok (.iload_n 2, 1) := by decide +kernel
theorem d22_16 : decode (cm_M 22).2.2.1 16 = .ok (.invokevirtual 423, 3) := by decide +kernel
theorem d22_19 : decode (cm_M 22).2.2.1 19 = .ok (.areturn, 1) := by decide +kernel
theorem s22_0 {sc : cmS} {d : Nat} {h : cmH} {Q : Option Value → cmH → Prop} (L : LY h) (x1 : Int32) (x2 : Int32) (u3 : Option Value) (H : cm_cq sc d 17 [.ref 0, .int x1] h (fun r h' => cm_wp sc (d + 1) 22 5 [some (.ref 0), some (.int x1), some (.int x2), u3] [va_rf r] h' Q)) : cm_wp sc (d + 1) 22 0 [some (.ref 0), some (.int x1), some (.int x2), u3] [] h Q :=
  wl_st d22_0 rfl rfl rfl rfl (wl_st d22_1 rfl rfl rfl rfl (wl_cq d22_2 rfl rfl rfl pm10_103 (by decide) (ca_v (Or.inl rfl) rfl (Nat.le_of_ble_eq_true rfl) (Nat.le_of_ble_eq_true rfl) (ly_k L 0 rfl).2 (ly_k L 0 rfl).1 (by decide)) H))
theorem s22_5 {sc : cmS} {d : Nat} {h : cmH} {Q : Option Value → cmH → Prop} (x1 : Int32) (x2 : Int32) (u3 : Option Value) (so0 : Option Nat) (H : ((so0 = none → cm_wp sc (d + 1) 22 19 [some (.ref 0), some (.int x1), some (.int x2), some (va_rf so0)] [va_rf none] h Q) ∧ (∀ b2, so0 = some b2 → (FL h b2) ∧ cm_cq sc d 23 [.ref b2, .int x2] h (fun r h' => cm_wp sc (d + 1) 22 19 [some (.ref 0), some (.int x1), some (.int x2), some (.ref b2)] [va_rf r] h' Q)))) : cm_wp sc (d + 1) 22 5 [some (.ref 0), some (.int x1), some (.int x2), u3] [va_rf so0] h Q :=
  wl_as (k := 3) (ls' := [some (.ref 0), some (.int x1), some (.int x2), some (va_rf so0)]) d22_5 (Or.inr ⟨⟨_, rfl, rfl⟩, rfl⟩) (Nat.le_of_ble_eq_true rfl) rfl (wl_al (k := 3) d22_6 (Or.inr ⟨⟨_, rfl, rfl⟩, rfl⟩) rfl (wl_nn (o := so0) (tgt := 14) (pc3 := 10) d22_7 (by decide) rfl (fun b2 c1 => cm_rw (fun oo => cm_wp sc (d + 1) 22 14 [some (.ref 0), some (.int x1), some (.int x2), some (va_rf oo)] [] h Q) c1 (wl_st d22_14 rfl rfl rfl rfl (wl_st d22_15 rfl rfl rfl rfl (And.elim (fun g3 g3k => wl_cq d22_16 rfl rfl rfl pm10_423 (by decide) (ca_v (Or.inr rfl) rfl (Nat.le_of_ble_eq_true rfl) (Nat.le_of_ble_eq_true rfl) (FL.k g3).2 (FL.k g3).1 (by decide)) g3k) (H.2 b2 c1))))) (fun c1 => wl_st d22_10 rfl rfl rfl rfl (wl_go (tgt := 19) d22_11 (by decide) ((H.1 c1))))))
theorem s22_19 {sc : cmS} {d : Nat} {h : cmH} {Q : Option Value → cmH → Prop} (x1 : Int32) (x2 : Int32) (o3 : Option Nat) (so0 : Option Nat) (H : Q (some (va_rf so0)) h) : cm_wp sc d 22 19 [some (.ref 0), some (.int x1), some (.int x2), some (va_rf o3)] [va_rf so0] h Q :=
  wl_rq d22_19 rfl H
-- ClogHouse.resistOf(I)I
theorem d26_0 : decode (cm_M 26).2.2.1 0 = .ok (.iload_n 0, 1) := by decide +kernel
theorem d26_1 : decode (cm_M 26).2.2.1 1 = .ok (.iconst 1, 1) := by decide +kernel
theorem d26_2 : decode (cm_M 26).2.2.1 2 = .ok (.if_icmp .ge 5, 3) := by decide +kernel
theorem d26_5 : decode (cm_M 26).2.2.1 5 = .ok (.iconst (-1), 1) := by decide +kernel
theorem d26_6 : decode (cm_M 26).2.2.1 6 = .ok (.ireturn, 1) := by decide +kernel
theorem d26_7 : decode (cm_M 26).2.2.1 7 = .ok (.sipush 10000, 3) := by decide +kernel
theorem d26_10 : decode (cm_M 26).2.2.1 10 = .ok (.iload_n 0, 1) := by decide +kernel
theorem d26_11 : decode (cm_M 26).2.2.1 11 = .ok (.idiv, 1) := by decide +kernel
theorem d26_12 : decode (cm_M 26).2.2.1 12 = .ok (.iload_n 0, 1) := by decide +kernel
theorem d26_13 : decode (cm_M 26).2.2.1 13 = .ok (.idiv, 1) := by decide +kernel
theorem d26_14 : decode (cm_M 26).2.2.1 14 = .ok (.istore_n 1, 1) := by decide +kernel
theorem d26_15 : decode (cm_M 26).2.2.1 15 = .ok (.iload_n 1, 1) := by decide +kernel
theorem d26_16 : decode (cm_M 26).2.2.1 16 = .ok (.iconst 1, 1) := by decide +kernel
theorem d26_17 : decode (cm_M 26).2.2.1 17 = .ok (.if_icmp .ge 7, 3) := by decide +kernel
theorem d26_20 : decode (cm_M 26).2.2.1 20 = .ok (.iconst 1, 1) := by decide +kernel
theorem d26_21 : decode (cm_M 26).2.2.1 21 = .ok (.goto 4, 3) := by decide +kernel
theorem d26_24 : decode (cm_M 26).2.2.1 24 = .ok (.iload_n 1, 1) := by decide +kernel
theorem d26_25 : decode (cm_M 26).2.2.1 25 = .ok (.ireturn, 1) := by decide +kernel
theorem s26_0 {sc : cmS} {d : Nat} {h : cmH} {Q : Option Value → cmH → Prop} (x0 : Int32) (u1 : Option Value) (H : ((((1 : Int32) ≤ x0) → (¬ x0 = 0) ∧ ((((1 : Int32) ≤ (((10000 : Int32) / x0) / x0)) → Q (some (.int (((10000 : Int32) / x0) / x0))) h) ∧ (¬ ((1 : Int32) ≤ (((10000 : Int32) / x0) / x0)) → Q (some (.int (1 : Int32))) h))) ∧ (¬ ((1 : Int32) ≤ x0) → Q (some (.int (-1 : Int32))) h))) : cm_wp sc d 26 0 [some (.int x0), u1] [] h Q :=
  wl_st d26_0 rfl rfl rfl rfl (wl_ic (v := 1) d26_1 rfl (wl_cb (b := (1 : Int32) ≤ x0) (off := 5) (tgt := 7) (pc3 := 5) (st' := []) d26_2 rfl rfl rfl rfl (by decide) rfl (fun c1 => wl_si (v := 10000) d26_7 rfl (wl_st d26_10 rfl rfl rfl rfl (And.elim (fun g2 g2k => wl_ne (g := x0 = 0) d26_11 rfl rfl rfl rfl g2 (wl_st d26_12 rfl rfl rfl rfl (wl_ne (g := x0 = 0) d26_13 rfl rfl rfl rfl g2 (wl_st (ls' := [some (.int x0), some (.int (((10000 : Int32) / x0) / x0))]) d26_14 rfl rfl rfl rfl (wl_st d26_15 rfl rfl rfl rfl (wl_ic (v := 1) d26_16 rfl (wl_cb (b := (1 : Int32) ≤ (((10000 : Int32) / x0) / x0)) (off := 7) (tgt := 24) (pc3 := 20) (st' := []) d26_17 rfl rfl rfl rfl (by decide) rfl (fun c3 => wl_st d26_24 rfl rfl rfl rfl (wl_rt d26_25 rfl rfl rfl (g2k.1 c3))) (fun c3 => wl_ic (v := 1) d26_20 rfl (wl_go (tgt := 25) d26_21 (by decide) (wl_rt d26_25 rfl rfl rfl (g2k.2 c3))))))))))) (H.1 c1)))) (fun c1 => wl_ic (v := (-1)) d26_5 rfl (wl_rt d26_6 rfl rfl rfl (H.2 c1)))))
-- ClogHouse.held(IIII)I
theorem d27_0 : decode (cm_M 27).2.2.1 0 = .ok (.aload_n 0, 1) := by decide +kernel
theorem d27_1 : decode (cm_M 27).2.2.1 1 = .ok (.iload_n 1, 1) := by decide +kernel
theorem d27_2 : decode (cm_M 27).2.2.1 2 = .ok (.iload_n 2, 1) := by decide +kernel
theorem d27_3 : decode (cm_M 27).2.2.1 3 = .ok (.invokevirtual 127, 3) := by decide +kernel
theorem d27_6 : decode (cm_M 27).2.2.1 6 = .ok (.astore 5, 2) := by decide +kernel
theorem d27_8 : decode (cm_M 27).2.2.1 8 = .ok (.aload 5, 2) := by decide +kernel
theorem d27_10 : decode (cm_M 27).2.2.1 10 = .ok (.ifnull 20, 3) := by decide +kernel
theorem d27_13 : decode (cm_M 27).2.2.1 13 = .ok (.iload_n 3, 1) := by decide +kernel
theorem d27_14 : decode (cm_M 27).2.2.1 14 = .ok (.invokestatic 77, 3) := by decide +kernel
theorem d27_17 : decode (cm_M 27).2.2.1 17 = .ok (.ifCond .eq 13, 3) := by decide +kernel
theorem d27_20 : decode (cm_M 27).2.2.1 20 = .ok (.iload 4, 2) := by decide +kernel
theorem d27_22 : decode (cm_M 27).2.2.1 22 = .ok (.iconst 0, 1) := by decide +kernel
theorem d27_23 : decode (cm_M 27).2.2.1 23 = .ok (.iconst 1, 1) := by decide +kernel
theorem d27_24 : decode (cm_M 27).2.2.1 24 = .ok (.invokestatic 81, 3) := by decide +kernel
theorem d27_27 : decode (cm_M 27).2.2.1 27 = .ok (.ifCond .ne 5, 3) := by decide +kernel
theorem d27_30 : decode (cm_M 27).2.2.1 30 = .ok (.iconst (-1), 1) := by decide +kernel
theorem d27_31 : decode (cm_M 27).2.2.1 31 = .ok (.ireturn, 1) := by decide +kernel
theorem d27_32 : decode (cm_M 27).2.2.1 32 = .ok (.iload 4, 2) := by decide +kernel
theorem d27_34 : decode (cm_M 27).2.2.1 34 = .ok (.ifCond .ne 13, 3) := by decide +kernel
theorem d27_37 : decode (cm_M 27).2.2.1 37 = .ok (.aload 5, 2) := by decide +kernel
theorem d27_39 : decode (cm_M 27).2.2.1 39 = .ok (.getfield 149, 3) := by decide +kernel
theorem d27_42 : decode (cm_M 27).2.2.1 42 = .ok (.iload_n 3, 1) := by decide +kernel
theorem d27_43 : decode (cm_M 27).2.2.1 43 = .ok (.iaload, 1) := by decide +kernel
theorem d27_44 : decode (cm_M 27).2.2.1 44 = .ok (.goto 10, 3) := by decide +kernel
theorem d27_47 : decode (cm_M 27).2.2.1 47 = .ok (.aload 5, 2) := by decide +kernel
theorem d27_49 : decode (cm_M 27).2.2.1 49 = .ok (.getfield 152, 3) := by decide +kernel
theorem d27_52 : decode (cm_M 27).2.2.1 52 = .ok (.iload_n 3, 1) := by decide +kernel
theorem d27_53 : decode (cm_M 27).2.2.1 53 = .ok (.iaload, 1) := by decide +kernel
theorem d27_54 : decode (cm_M 27).2.2.1 54 = .ok (.ireturn, 1) := by decide +kernel
theorem s27_0 {sc : cmS} {d : Nat} {h : cmH} {Q : Option Value → cmH → Prop} (L : LY h) (x1 : Int32) (x2 : Int32) (x3 : Int32) (x4 : Int32) (u5 : Option Value) (H : cm_cq sc d 22 [.ref 0, .int x1, .int x2] h (fun r h' => cm_wp sc (d + 1) 27 6 [some (.ref 0), some (.int x1), some (.int x2), some (.int x3), some (.int x4), u5] [va_rf r] h' Q)) : cm_wp sc (d + 1) 27 0 [some (.ref 0), some (.int x1), some (.int x2), some (.int x3), some (.int x4), u5] [] h Q :=
  wl_st d27_0 rfl rfl rfl rfl (wl_st d27_1 rfl rfl rfl rfl (wl_st d27_2 rfl rfl rfl rfl (wl_cq d27_3 rfl rfl rfl pm10_127 (by decide) (ca_v (Or.inl rfl) rfl (Nat.le_of_ble_eq_true rfl) (Nat.le_of_ble_eq_true rfl) (ly_k L 0 rfl).2 (ly_k L 0 rfl).1 (by decide)) H)))
theorem s27_6 {sc : cmS} {d : Nat} {h : cmH} {Q : Option Value → cmH → Prop} (x1 : Int32) (x2 : Int32) (x3 : Int32) (x4 : Int32) (u5 : Option Value) (so0 : Option Nat) (H : ((so0 = none → Q (some (.int (-1 : Int32))) h) ∧ (∀ b2, so0 = some b2 → cm_ci sc d 12 [.int x3] h (fun r h' => cm_wp sc (d + 1) 27 17 [some (.ref 0), some (.int x1), some (.int x2), some (.int x3), some (.int x4), some (.ref b2)] [.int r] h' Q)))) : cm_wp sc (d + 1) 27 6 [some (.ref 0), some (.int x1), some (.int x2), some (.int x3), some (.int x4), u5] [va_rf so0] h Q :=
  wl_as (k := 5) (ls' := [some (.ref 0), some (.int x1), some (.int x2), some (.int x3), some (.int x4), some (va_rf so0)]) d27_6 (Or.inl ⟨rfl, rfl⟩) (Nat.le_of_ble_eq_true rfl) rfl (wl_al (k := 5) d27_8 (Or.inl ⟨rfl, rfl⟩) rfl (wl_nu (o := so0) (tgt := 30) (pc3 := 13) d27_10 (by decide) rfl (fun c1 => wl_ic (v := (-1)) d27_30 rfl (wl_rt d27_31 rfl rfl rfl (H.1 c1))) (fun b2 c1 => cm_rw (fun oo => cm_wp sc (d + 1) 27 13 [some (.ref 0), some (.int x1), some (.int x2), some (.int x3), some (.int x4), some (va_rf oo)] [] h Q) c1 (wl_st d27_13 rfl rfl rfl rfl (wl_ci d27_14 rfl rfl rfl pm10_77 (by decide) (ca_s (Or.inl rfl) rfl (Nat.le_of_ble_eq_true rfl) (Nat.le_of_ble_eq_true rfl)) (H.2 b2 c1))))))
theorem s27_17 {sc : cmS} {d : Nat} {h : cmH} {Q : Option Value → cmH → Prop} (x1 : Int32) (x2 : Int32) (x3 : Int32) (x4 : Int32) (o5 : Option Nat) (sx0 : Int32) (H : (((sx0 = 0) → Q (some (.int (-1 : Int32))) h) ∧ (¬ (sx0 = 0) → cm_ci sc d 13 [.int x4, .int (0 : Int32), .int (1 : Int32)] h (fun r h' => cm_wp sc (d + 1) 27 27 [some (.ref 0), some (.int x1), some (.int x2), some (.int x3), some (.int x4), some (va_rf o5)] [.int r] h' Q)))) : cm_wp sc (d + 1) 27 17 [some (.ref 0), some (.int x1), some (.int x2), some (.int x3), some (.int x4), some (va_rf o5)] [.int sx0] h Q :=
  wl_cb (b := sx0 = 0) (off := 13) (tgt := 30) (pc3 := 20) (st' := []) d27_17 rfl rfl rfl rfl (by decide) rfl (fun c1 => wl_ic (v := (-1)) d27_30 rfl (wl_rt d27_31 rfl rfl rfl (H.1 c1))) (fun c1 => wl_st d27_20 rfl rfl rfl rfl (wl_ic (v := 0) d27_22 rfl (wl_ic (v := 1) d27_23 rfl (wl_ci d27_24 rfl rfl rfl pm10_81 (by decide) (ca_s (Or.inl rfl) rfl (Nat.le_of_ble_eq_true rfl) (Nat.le_of_ble_eq_true rfl)) (H.2 c1)))))
theorem s27_27 {sc : cmS} {d : Nat} {h : cmH} {Q : Option Value → cmH → Prop} (x1 : Int32) (x2 : Int32) (x3 : Int32) (x4 : Int32) (o5 : Option Nat) (sx0 : Int32) (H : (((¬ sx0 = 0) → (((¬ x4 = 0) → ∃ b3, o5 = some b3 ∧ (CE h b3) ∧ (IX 8 x3) ∧ Q (some (.int (cm_I h (b3 + 2) x3.toNatClampNeg))) h) ∧ (¬ (¬ x4 = 0) → ∃ b6, o5 = some b6 ∧ (CE h b6) ∧ (IX 8 x3) ∧ Q (some (.int (cm_I h (b6 + 1) x3.toNatClampNeg))) h))) ∧ (¬ (¬ sx0 = 0) → Q (some (.int (-1 : Int32))) h))) : cm_wp sc d 27 27 [some (.ref 0), some (.int x1), some (.int x2), some (.int x3), some (.int x4), some (va_rf o5)] [.int sx0] h Q :=
  wl_cb (b := ¬ sx0 = 0) (off := 5) (tgt := 32) (pc3 := 30) (st' := []) d27_27 rfl rfl rfl rfl (by decide) rfl (fun c1 => wl_st d27_32 rfl rfl rfl rfl (wl_cb (b := ¬ x4 = 0) (off := 13) (tgt := 47) (pc3 := 37) (st' := []) d27_34 rfl rfl rfl rfl (by decide) rfl (fun c2 => Exists.elim ((H.1 c1).1 c2) fun b3 b3q => And.elim (fun b3e b3k => cm_rw (fun oo => cm_wp sc d 27 47 [some (.ref 0), some (.int x1), some (.int x2), some (.int x3), some (.int x4), some (va_rf oo)] [] h Q) b3e (wl_st d27_47 rfl rfl rfl rfl (And.elim (fun g4 g4k => wl_gr (b := (b3 + 2)) d27_49 pf10_152 (CE.k g4) rfl (CE.r1 g4) (wl_st d27_52 rfl rfl rfl rfl (And.elim (fun g5 g5k => wl_if (g := cm_ok h 13 (b3 + 2) x3) (st' := [.int (cm_I h (b3 + 2) x3.toNatClampNeg)]) d27_53 rfl rfl rfl rfl (CE.o1 g4 g5) (wl_rt d27_54 rfl rfl rfl g5k)) g4k))) b3k))) b3q) (fun c2 => Exists.elim ((H.1 c1).2 c2) fun b6 b6q => And.elim (fun b6e b6k => cm_rw (fun oo => cm_wp sc d 27 37 [some (.ref 0), some (.int x1), some (.int x2), some (.int x3), some (.int x4), some (va_rf oo)] [] h Q) b6e (wl_st d27_37 rfl rfl rfl rfl (And.elim (fun g7 g7k => wl_gr (b := (b6 + 1)) d27_39 pf10_149 (CE.k g7) rfl (CE.r0 g7) (wl_st d27_42 rfl rfl rfl rfl (And.elim (fun g8 g8k => wl_if (g := cm_ok h 13 (b6 + 1) x3) (st' := [.int (cm_I h (b6 + 1) x3.toNatClampNeg)]) d27_43 rfl rfl rfl rfl (CE.o0 g7 g8) (wl_go (tgt := 54) d27_44 (by decide) (wl_rt d27_54 rfl rfl rfl g8k))) g7k))) b6k))) b6q))) (fun c1 => wl_ic (v := (-1)) d27_30 rfl (wl_rt d27_31 rfl rfl rfl (H.2 c1)))
-- ClogHouse.told(II)I
theorem d28_0 : decode (cm_M 28).2.2.1 0 = .ok (.aload_n 0, 1) := by decide +kernel
theorem d28_1 : decode (cm_M 28).2.2.1 1 = .ok (.iload_n 1, 1) := by decide +kernel
theorem d28_2 : decode (cm_M 28).2.2.1 2 = .ok (.invokevirtual 103, 3) := by decide +kernel
theorem d28_5 : decode (cm_M 28).2.2.1 5 = .ok (.astore_n 3, 1) := by decide +kernel
theorem d28_6 : decode (cm_M 28).2.2.1 6 = .ok (.aload_n 3, 1) := by decide +kernel
theorem d28_7 : decode (cm_M 28).2.2.1 7 = .ok (.ifnonnull 5, 3) := by decide +kernel
theorem d28_10 : decode (cm_M 28).2.2.1 10 = .ok (.iconst (-1), 1) := by decide +kernel
theorem d28_11 : decode (cm_M 28).2.2.1 11 = .ok (.ireturn, 1) := by decide +kernel
theorem d28_12 : decode (cm_M 28).2.2.1 12 = .ok (.iload_n 2, 1) := by decide +kernel
theorem d28_13 : decode (cm_M 28).2.2.1 13 = .ok (.tableswitch 96 0 8 #[51, 56, 61, 66, 71, 76, 81, 86, 91], 51) := by decide +kernel
theorem d28_64 : decode (cm_M 28).2.2.1 64 = .ok (.aload_n 3, 1) := by decide +kernel
theorem d28_65 : decode (cm_M 28).2.2.1 65 = .ok (.getfield 155, 3) := by decide +kernel
theorem d28_68 : decode (cm_M 28).2.2.1 68 = .ok (.ireturn, 1) := by decide +kernel
theorem d28_69 : decode (cm_M 28).2.2.1 69 = .ok (.aload_n 3, 1) := by decide +kernel
theorem d28_70 : decode (cm_M 28).2.2.1 70 = .ok (.getfield 158, 3) := by decide +kernel
theorem d28_73 : decode (cm_M 28).2.2.1 73 = .ok (.ireturn, 1) := by decide +kernel
theorem d28_74 : decode (cm_M 28).2.2.1 74 = .ok (.aload_n 3, 1) := by decide +kernel
theorem d28_75 : decode (cm_M 28).2.2.1 75 = .ok (.getfield 161, 3) := by decide +kernel
theorem d28_78 : decode (cm_M 28).2.2.1 78 = .ok (.ireturn, 1) := by decide +kernel
theorem d28_79 : decode (cm_M 28).2.2.1 79 = .ok (.aload_n 3, 1) := by decide +kernel
theorem d28_80 : decode (cm_M 28).2.2.1 80 = .ok (.invokevirtual 164, 3) := by decide +kernel
theorem d28_83 : decode (cm_M 28).2.2.1 83 = .ok (.ireturn, 1) := by decide +kernel
theorem d28_84 : decode (cm_M 28).2.2.1 84 = .ok (.aload_n 3, 1) := by decide +kernel
theorem d28_85 : decode (cm_M 28).2.2.1 85 = .ok (.invokevirtual 167, 3) := by decide +kernel
theorem d28_88 : decode (cm_M 28).2.2.1 88 = .ok (.ireturn, 1) := by decide +kernel
theorem d28_89 : decode (cm_M 28).2.2.1 89 = .ok (.aload_n 3, 1) := by decide +kernel
theorem d28_90 : decode (cm_M 28).2.2.1 90 = .ok (.getfield 115, 3) := by decide +kernel
theorem d28_93 : decode (cm_M 28).2.2.1 93 = .ok (.ireturn, 1) := by decide +kernel
theorem d28_94 : decode (cm_M 28).2.2.1 94 = .ok (.aload_n 3, 1) := by decide +kernel
theorem d28_95 : decode (cm_M 28).2.2.1 95 = .ok (.getfield 170, 3) := by decide +kernel
theorem d28_98 : decode (cm_M 28).2.2.1 98 = .ok (.ireturn, 1) := by decide +kernel
theorem d28_99 : decode (cm_M 28).2.2.1 99 = .ok (.aload_n 3, 1) := by decide +kernel
theorem d28_100 : decode (cm_M 28).2.2.1 100 = .ok (.getfield 173, 3) := by decide +kernel
theorem d28_103 : decode (cm_M 28).2.2.1 103 = .ok (.ireturn, 1) := by decide +kernel
theorem d28_104 : decode (cm_M 28).2.2.1 104 = .ok (.aload_n 3, 1) := by decide +kernel
theorem d28_105 : decode (cm_M 28).2.2.1 105 = .ok (.getfield 176, 3) := by decide +kernel
theorem d28_108 : decode (cm_M 28).2.2.1 108 = .ok (.ireturn, 1) := by decide +kernel
theorem d28_109 : decode (cm_M 28).2.2.1 109 = .ok (.iconst (-1), 1) := by decide +kernel
theorem d28_110 : decode (cm_M 28).2.2.1 110 = .ok (.ireturn, 1) := by decide +kernel
theorem s28_0 {sc : cmS} {d : Nat} {h : cmH} {Q : Option Value → cmH → Prop} (L : LY h) (x1 : Int32) (x2 : Int32) (u3 : Option Value) (H : cm_cq sc d 17 [.ref 0, .int x1] h (fun r h' => cm_wp sc (d + 1) 28 5 [some (.ref 0), some (.int x1), some (.int x2), u3] [va_rf r] h' Q)) : cm_wp sc (d + 1) 28 0 [some (.ref 0), some (.int x1), some (.int x2), u3] [] h Q :=
  wl_st d28_0 rfl rfl rfl rfl (wl_st d28_1 rfl rfl rfl rfl (wl_cq d28_2 rfl rfl rfl pm10_103 (by decide) (ca_v (Or.inl rfl) rfl (Nat.le_of_ble_eq_true rfl) (Nat.le_of_ble_eq_true rfl) (ly_k L 0 rfl).2 (ly_k L 0 rfl).1 (by decide)) H))
theorem s28_5 {sc : cmS} {d : Nat} {h : cmH} {Q : Option Value → cmH → Prop} (x1 : Int32) (x2 : Int32) (u3 : Option Value) (so0 : Option Nat) (H : ((so0 = none → Q (some (.int (-1 : Int32))) h) ∧ (∀ b2, so0 = some b2 → ((x2 = 0 → (FL h b2) ∧ Q (some (.int (cm_I h b2 8))) h) ∧ (x2 = 1 → (FL h b2) ∧ Q (some (.int (cm_I h b2 9))) h) ∧ (x2 = 2 → (FL h b2) ∧ Q (some (.int (cm_I h b2 10))) h) ∧ (x2 = 3 → (FL h b2) ∧ cm_ci sc d 29 [.ref b2] h (fun r h' => cm_wp sc (d + 1) 28 83 [some (.ref 0), some (.int x1), some (.int x2), some (.ref b2)] [.int r] h' Q)) ∧ (x2 = 4 → (FL h b2) ∧ cm_ci sc d 30 [.ref b2] h (fun r h' => cm_wp sc (d + 1) 28 88 [some (.ref 0), some (.int x1), some (.int x2), some (.ref b2)] [.int r] h' Q)) ∧ (x2 = 5 → (FL h b2) ∧ Q (some (.int (cm_I h b2 3))) h) ∧ (x2 = 6 → (FL h b2) ∧ Q (some (.int (cm_I h b2 11))) h) ∧ (x2 = 7 → (FL h b2) ∧ Q (some (.int (cm_I h b2 12))) h) ∧ (x2 = 8 → (FL h b2) ∧ Q (some (.int (cm_I h b2 13))) h) ∧ (¬ x2 = 0 → ¬ x2 = 1 → ¬ x2 = 2 → ¬ x2 = 3 → ¬ x2 = 4 → ¬ x2 = 5 → ¬ x2 = 6 → ¬ x2 = 7 → ¬ x2 = 8 → Q (some (.int (-1 : Int32))) h))))) : cm_wp sc (d + 1) 28 5 [some (.ref 0), some (.int x1), some (.int x2), u3] [va_rf so0] h Q :=
  wl_as (k := 3) (ls' := [some (.ref 0), some (.int x1), some (.int x2), some (va_rf so0)]) d28_5 (Or.inr ⟨⟨_, rfl, rfl⟩, rfl⟩) (Nat.le_of_ble_eq_true rfl) rfl (wl_al (k := 3) d28_6 (Or.inr ⟨⟨_, rfl, rfl⟩, rfl⟩) rfl (wl_nn (o := so0) (tgt := 12) (pc3 := 10) d28_7 (by decide) rfl (fun b2 c1 => cm_rw (fun oo => cm_wp sc (d + 1) 28 12 [some (.ref 0), some (.int x1), some (.int x2), some (va_rf oo)] [] h Q) c1 (wl_st d28_12 rfl rfl rfl rfl ((if c12 : x2 = 0 then wl_tsI (v := 0) (tgt := 64) d28_13 c12 rfl (by decide) (by decide) (by decide) (wl_st d28_64 rfl rfl rfl rfl (And.elim (fun g3 g3k => wl_gf (v := .int (cm_I h b2 8)) d28_65 pf10_155 (FL.k g3) rfl (wl_rt d28_68 rfl rfl rfl g3k)) ((H.2 b2 c1).1 c12))) else (if c13 : x2 = 1 then wl_tsI (v := 1) (tgt := 69) d28_13 c13 rfl (by decide) (by decide) (by decide) (wl_st d28_69 rfl rfl rfl rfl (And.elim (fun g4 g4k => wl_gf (v := .int (cm_I h b2 9)) d28_70 pf10_158 (FL.k g4) rfl (wl_rt d28_73 rfl rfl rfl g4k)) ((H.2 b2 c1).2.1 c13))) else (if c14 : x2 = 2 then wl_tsI (v := 2) (tgt := 74) d28_13 c14 rfl (by decide) (by decide) (by decide) (wl_st d28_74 rfl rfl rfl rfl (And.elim (fun g5 g5k => wl_gf (v := .int (cm_I h b2 10)) d28_75 pf10_161 (FL.k g5) rfl (wl_rt d28_78 rfl rfl rfl g5k)) ((H.2 b2 c1).2.2.1 c14))) else (if c15 : x2 = 3 then wl_tsI (v := 3) (tgt := 79) d28_13 c15 rfl (by decide) (by decide) (by decide) (wl_st d28_79 rfl rfl rfl rfl (And.elim (fun g6 g6k => wl_ci d28_80 rfl rfl rfl pm10_164 (by decide) (ca_v (Or.inr rfl) rfl (Nat.le_of_ble_eq_true rfl) (Nat.le_of_ble_eq_true rfl) (FL.k g6).2 (FL.k g6).1 (by decide)) g6k) ((H.2 b2 c1).2.2.2.1 c15))) else (if c16 : x2 = 4 then wl_tsI (v := 4) (tgt := 84) d28_13 c16 rfl (by decide) (by decide) (by decide) (wl_st d28_84 rfl rfl rfl rfl (And.elim (fun g7 g7k => wl_ci d28_85 rfl rfl rfl pm10_167 (by decide) (ca_v (Or.inr rfl) rfl (Nat.le_of_ble_eq_true rfl) (Nat.le_of_ble_eq_true rfl) (FL.k g7).2 (FL.k g7).1 (by decide)) g7k) ((H.2 b2 c1).2.2.2.2.1 c16))) else (if c17 : x2 = 5 then wl_tsI (v := 5) (tgt := 89) d28_13 c17 rfl (by decide) (by decide) (by decide) (wl_st d28_89 rfl rfl rfl rfl (And.elim (fun g8 g8k => wl_gf (v := .int (cm_I h b2 3)) d28_90 pf10_115 (FL.k g8) rfl (wl_rt d28_93 rfl rfl rfl g8k)) ((H.2 b2 c1).2.2.2.2.2.1 c17))) else (if c18 : x2 = 6 then wl_tsI (v := 6) (tgt := 94) d28_13 c18 rfl (by decide) (by decide) (by decide) (wl_st d28_94 rfl rfl rfl rfl (And.elim (fun g9 g9k => wl_gf (v := .int (cm_I h b2 11)) d28_95 pf10_170 (FL.k g9) rfl (wl_rt d28_98 rfl rfl rfl g9k)) ((H.2 b2 c1).2.2.2.2.2.2.1 c18))) else (if c19 : x2 = 7 then wl_tsI (v := 7) (tgt := 99) d28_13 c19 rfl (by decide) (by decide) (by decide) (wl_st d28_99 rfl rfl rfl rfl (And.elim (fun g10 g10k => wl_gf (v := .int (cm_I h b2 12)) d28_100 pf10_173 (FL.k g10) rfl (wl_rt d28_103 rfl rfl rfl g10k)) ((H.2 b2 c1).2.2.2.2.2.2.2.1 c19))) else (if c20 : x2 = 8 then wl_tsI (v := 8) (tgt := 104) d28_13 c20 rfl (by decide) (by decide) (by decide) (wl_st d28_104 rfl rfl rfl rfl (And.elim (fun g11 g11k => wl_gf (v := .int (cm_I h b2 13)) d28_105 pf10_176 (FL.k g11) rfl (wl_rt d28_108 rfl rfl rfl g11k)) ((H.2 b2 c1).2.2.2.2.2.2.2.2.1 c20))) else wl_tsO (tgt := 109) d28_13 (by rcases (by omega : (x2).toInt < 0 ∨ 8 < (x2).toInt ∨ (x2).toInt = 0 ∨ (x2).toInt = 1 ∨ (x2).toInt = 2 ∨ (x2).toInt = 3 ∨ (x2).toInt = 4 ∨ (x2).toInt = 5 ∨ (x2).toInt = 6 ∨ (x2).toInt = 7 ∨ (x2).toInt = 8) with qq | qq | qq | qq | qq | qq | qq | qq | qq | qq | qq <;> first | exact Or.inl qq | exact Or.inr qq | exact absurd (Int32.toInt_inj.mp qq) c12 | exact absurd (Int32.toInt_inj.mp qq) c13 | exact absurd (Int32.toInt_inj.mp qq) c14 | exact absurd (Int32.toInt_inj.mp qq) c15 | exact absurd (Int32.toInt_inj.mp qq) c16 | exact absurd (Int32.toInt_inj.mp qq) c17 | exact absurd (Int32.toInt_inj.mp qq) c18 | exact absurd (Int32.toInt_inj.mp qq) c19 | exact absurd (Int32.toInt_inj.mp qq) c20) (by decide) (wl_ic (v := (-1)) d28_109 rfl (wl_rt d28_110 rfl rfl rfl ((H.2 b2 c1).2.2.2.2.2.2.2.2.2 c12 c13 c14 c15 c16 c17 c18 c19 c20))))))))))))))) (fun c1 => wl_ic (v := (-1)) d28_10 rfl (wl_rt d28_11 rfl rfl rfl (H.1 c1)))))
theorem s28_83 {sc : cmS} {d : Nat} {h : cmH} {Q : Option Value → cmH → Prop} (x1 : Int32) (x2 : Int32) (o3 : Option Nat) (sx0 : Int32) (H : Q (some (.int sx0)) h) : cm_wp sc d 28 83 [some (.ref 0), some (.int x1), some (.int x2), some (va_rf o3)] [.int sx0] h Q :=
  wl_rt d28_83 rfl rfl rfl H
theorem s28_88 {sc : cmS} {d : Nat} {h : cmH} {Q : Option Value → cmH → Prop} (x1 : Int32) (x2 : Int32) (o3 : Option Nat) (sx0 : Int32) (H : Q (some (.int sx0)) h) : cm_wp sc d 28 88 [some (.ref 0), some (.int x1), some (.int x2), some (va_rf o3)] [.int sx0] h Q :=
  wl_rt d28_88 rfl rfl rfl H
-- ClogHouse.push(II)I
theorem d31_0 : decode (cm_M 31).2.2.1 0 = .ok (.aload_n 0, 1) := by decide +kernel
theorem d31_1 : decode (cm_M 31).2.2.1 1 = .ok (.iload_n 1, 1) := by decide +kernel
theorem d31_2 : decode (cm_M 31).2.2.1 2 = .ok (.invokevirtual 103, 3) := by decide +kernel
theorem d31_5 : decode (cm_M 31).2.2.1 5 = .ok (.astore_n 3, 1) := by decide +kernel
theorem d31_6 : decode (cm_M 31).2.2.1 6 = .ok (.aload_n 3, 1) := by decide +kernel
theorem d31_7 : decode (cm_M 31).2.2.1 7 = .ok (.ifnull 14, 3) := by decide +kernel
theorem d31_10 : decode (cm_M 31).2.2.1 10 = .ok (.iload_n 2, 1) := by decide +kernel
theorem d31_11 : decode (cm_M 31).2.2.1 11 = .ok (.iconst 1, 1) := by decide +kernel
theorem d31_12 : decode (cm_M 31).2.2.1 12 = .ok (.sipush 1000, 3) := by decide +kernel
theorem d31_15 : decode (cm_M 31).2.2.1 15 = .ok (.invokestatic 81, 3) := by decide +kernel
theorem d31_18 : decode (cm_M 31).2.2.1 18 = .ok (.ifCond .ne 7, 3) := by decide +kernel
theorem d31_21 : decode (cm_M 31).2.2.1 21 = .ok (.iconst (-1), 1) := by decide +kernel
theorem d31_22 : decode (cm_M 31).2.2.1 22 = .ok (.goto 8, 3) := by decide +kernel
theorem d31_25 : decode (cm_M 31).2.2.1 25 = .ok (.aload_n 3, 1) := by decide +kernel
theorem d31_26 : decode (cm_M 31).2.2.1 26 = .ok (.iload_n 2, 1) := by decide +kernel
theorem d31_27 : decode (cm_M 31).2.2.1 27 = .ok (.invokevirtual 179, 3) := by decide +kernel
theorem d31_30 : decode (cm_M 31).2.2.1 30 = .ok (.ireturn, 1) := by decide +kernel
theorem s31_0 {sc : cmS} {d : Nat} {h : cmH} {Q : Option Value → cmH → Prop} (L : LY h) (x1 : Int32) (x2 : Int32) (u3 : Option Value) (H : cm_cq sc d 17 [.ref 0, .int x1] h (fun r h' => cm_wp sc (d + 1) 31 5 [some (.ref 0), some (.int x1), some (.int x2), u3] [va_rf r] h' Q)) : cm_wp sc (d + 1) 31 0 [some (.ref 0), some (.int x1), some (.int x2), u3] [] h Q :=
  wl_st d31_0 rfl rfl rfl rfl (wl_st d31_1 rfl rfl rfl rfl (wl_cq d31_2 rfl rfl rfl pm10_103 (by decide) (ca_v (Or.inl rfl) rfl (Nat.le_of_ble_eq_true rfl) (Nat.le_of_ble_eq_true rfl) (ly_k L 0 rfl).2 (ly_k L 0 rfl).1 (by decide)) H))
theorem s31_5 {sc : cmS} {d : Nat} {h : cmH} {Q : Option Value → cmH → Prop} (x1 : Int32) (x2 : Int32) (u3 : Option Value) (so0 : Option Nat) (H : ((so0 = none → cm_wp sc (d + 1) 31 21 [some (.ref 0), some (.int x1), some (.int x2), some (va_rf so0)] [] h Q) ∧ (∀ b2, so0 = some b2 → cm_ci sc d 13 [.int x2, .int (1 : Int32), .int (1000 : Int32)] h (fun r h' => cm_wp sc (d + 1) 31 18 [some (.ref 0), some (.int x1), some (.int x2), some (.ref b2)] [.int r] h' Q)))) : cm_wp sc (d + 1) 31 5 [some (.ref 0), some (.int x1), some (.int x2), u3] [va_rf so0] h Q :=
  wl_as (k := 3) (ls' := [some (.ref 0), some (.int x1), some (.int x2), some (va_rf so0)]) d31_5 (Or.inr ⟨⟨_, rfl, rfl⟩, rfl⟩) (Nat.le_of_ble_eq_true rfl) rfl (wl_al (k := 3) d31_6 (Or.inr ⟨⟨_, rfl, rfl⟩, rfl⟩) rfl (wl_nu (o := so0) (tgt := 21) (pc3 := 10) d31_7 (by decide) rfl (fun c1 => (H.1 c1)) (fun b2 c1 => cm_rw (fun oo => cm_wp sc (d + 1) 31 10 [some (.ref 0), some (.int x1), some (.int x2), some (va_rf oo)] [] h Q) c1 (wl_st d31_10 rfl rfl rfl rfl (wl_ic (v := 1) d31_11 rfl (wl_si (v := 1000) d31_12 rfl (wl_ci d31_15 rfl rfl rfl pm10_81 (by decide) (ca_s (Or.inl rfl) rfl (Nat.le_of_ble_eq_true rfl) (Nat.le_of_ble_eq_true rfl)) (H.2 b2 c1))))))))
theorem s31_18 {sc : cmS} {d : Nat} {h : cmH} {Q : Option Value → cmH → Prop} (x1 : Int32) (x2 : Int32) (o3 : Option Nat) (sx0 : Int32) (H : (((¬ sx0 = 0) → ∃ b2, o3 = some b2 ∧ (FL h b2) ∧ cm_ci sc d 32 [.ref b2, .int x2] h (fun r h' => cm_wp sc (d + 1) 31 30 [some (.ref 0), some (.int x1), some (.int x2), some (.ref b2)] [.int r] h' Q)) ∧ (¬ (¬ sx0 = 0) → cm_wp sc (d + 1) 31 21 [some (.ref 0), some (.int x1), some (.int x2), some (va_rf o3)] [] h Q))) : cm_wp sc (d + 1) 31 18 [some (.ref 0), some (.int x1), some (.int x2), some (va_rf o3)] [.int sx0] h Q :=
  wl_cb (b := ¬ sx0 = 0) (off := 7) (tgt := 25) (pc3 := 21) (st' := []) d31_18 rfl rfl rfl rfl (by decide) rfl (fun c1 => Exists.elim (H.1 c1) fun b2 b2q => And.elim (fun b2e b2k => cm_rw (fun oo => cm_wp sc (d + 1) 31 25 [some (.ref 0), some (.int x1), some (.int x2), some (va_rf oo)] [] h Q) b2e (wl_st d31_25 rfl rfl rfl rfl (wl_st d31_26 rfl rfl rfl rfl (And.elim (fun g3 g3k => wl_ci d31_27 rfl rfl rfl pm10_179 (by decide) (ca_v (Or.inr rfl) rfl (Nat.le_of_ble_eq_true rfl) (Nat.le_of_ble_eq_true rfl) (FL.k g3).2 (FL.k g3).1 (by decide)) g3k) b2k)))) b2q) (fun c1 => (H.2 c1))
theorem s31_21 {sc : cmS} {d : Nat} {h : cmH} {Q : Option Value → cmH → Prop} (x1 : Int32) (x2 : Int32) (o3 : Option Nat) (H : cm_wp sc d 31 30 [some (.ref 0), some (.int x1), some (.int x2), some (va_rf o3)] [.int (-1 : Int32)] h Q) : cm_wp sc d 31 21 [some (.ref 0), some (.int x1), some (.int x2), some (va_rf o3)] [] h Q :=
  wl_ic (v := (-1)) d31_21 rfl (wl_go (tgt := 30) d31_22 (by decide) (H))
theorem s31_30 {sc : cmS} {d : Nat} {h : cmH} {Q : Option Value → cmH → Prop} (x1 : Int32) (x2 : Int32) (o3 : Option Nat) (sx0 : Int32) (H : Q (some (.int sx0)) h) : cm_wp sc d 31 30 [some (.ref 0), some (.int x1), some (.int x2), some (va_rf o3)] [.int sx0] h Q :=
  wl_rt d31_30 rfl rfl rfl H
-- ClogHouse.cut(JJ)J
theorem d33_0 : decode (cm_M 33).2.2.1 0 = .ok (.lload_n 2, 1) := by decide +kernel
theorem d33_1 : decode (cm_M 33).2.2.1 1 = .ok (.lconst 0, 1) := by decide +kernel
theorem d33_2 : decode (cm_M 33).2.2.1 2 = .ok (.lcmp, 1) := by decide +kernel
theorem d33_3 : decode (cm_M 33).2.2.1 3 = .ok (.ifCond .ne 7, 3) := by decide +kernel
theorem d33_6 : decode (cm_M 33).2.2.1 6 = .ok (.lconst 0, 1) := by decide +kernel
theorem d33_7 : decode (cm_M 33).2.2.1 7 = .ok (.goto 6, 3) := by decide +kernel
theorem d33_10 : decode (cm_M 33).2.2.1 10 = .ok (.lload_n 0, 1) := by decide +kernel
theorem d33_11 : decode (cm_M 33).2.2.1 11 = .ok (.lload_n 2, 1) := by decide +kernel
theorem d33_12 : decode (cm_M 33).2.2.1 12 = .ok (.ldiv, 1) := by decide +kernel
theorem d33_13 : decode (cm_M 33).2.2.1 13 = .ok (.lreturn, 1) := by decide +kernel
theorem s33_0 {sc : cmS} {d : Nat} {h : cmH} {Q : Option Value → cmH → Prop} (y0 : Int64) (y2 : Int64) (H : (((¬ (lg_cmp y2 (0 : Int64)) = 0) → (¬ y2 = 0) ∧ Q (some (.long (y0 / y2))) h) ∧ (¬ (¬ (lg_cmp y2 (0 : Int64)) = 0) → Q (some (.long (0 : Int64))) h))) : cm_wp sc d 33 0 [some (.long y0), none, some (.long y2), none] [] h Q :=
  wl_st d33_0 rfl rfl rfl rfl (wl_lc (v := 0) d33_1 rfl (wl_st d33_2 rfl rfl rfl rfl (wl_cb (b := ¬ (lg_cmp y2 (0 : Int64)) = 0) (off := 7) (tgt := 10) (pc3 := 6) (st' := []) d33_3 rfl rfl rfl rfl (by decide) rfl (fun c1 => wl_st d33_10 rfl rfl rfl rfl (wl_st d33_11 rfl rfl rfl rfl (And.elim (fun g2 g2k => wl_ne (g := y2 = 0) d33_12 rfl rfl rfl rfl g2 (wl_rt d33_13 rfl rfl rfl g2k)) (H.1 c1)))) (fun c1 => wl_lc (v := 0) d33_6 rfl (wl_go (tgt := 13) d33_7 (by decide) (wl_rt d33_13 rfl rfl rfl (H.2 c1)))))))
-- ClogHouse.feed(IIIII)I
theorem d34_0 : decode (cm_M 34).2.2.1 0 = .ok (.iload_n 1, 1) := by decide +kernel
theorem d34_1 : decode (cm_M 34).2.2.1 1 = .ok (.invokestatic 183, 3) := by decide +kernel
theorem d34_4 : decode (cm_M 34).2.2.1 4 = .ok (.iload_n 2, 1) := by decide +kernel
theorem d34_5 : decode (cm_M 34).2.2.1 5 = .ok (.invokestatic 183, 3) := by decide +kernel
theorem d34_8 : decode (cm_M 34).2.2.1 8 = .ok (.iadd, 1) := by decide +kernel
theorem d34_9 : decode (cm_M 34).2.2.1 9 = .ok (.iload_n 3, 1) := by decide +kernel
theorem d34_10 : decode (cm_M 34).2.2.1 10 = .ok (.invokestatic 183, 3) := by decide +kernel
theorem d34_13 : decode (cm_M 34).2.2.1 13 = .ok (.iadd, 1) := by decide +kernel
theorem d34_14 : decode (cm_M 34).2.2.1 14 = .ok (.iload 4, 2) := by decide +kernel
theorem d34_16 : decode (cm_M 34).2.2.1 16 = .ok (.invokestatic 183, 3) := by decide +kernel
theorem d34_19 : decode (cm_M 34).2.2.1 19 = .ok (.iadd, 1) := by decide +kernel
theorem d34_20 : decode (cm_M 34).2.2.1 20 = .ok (.iload 5, 2) := by decide +kernel
theorem d34_22 : decode (cm_M 34).2.2.1 22 = .ok (.invokestatic 183, 3) := by decide +kernel
theorem d34_25 : decode (cm_M 34).2.2.1 25 = .ok (.iadd, 1) := by decide +kernel
theorem d34_26 : decode (cm_M 34).2.2.1 26 = .ok (.istore 6, 2) := by decide +kernel
theorem d34_28 : decode (cm_M 34).2.2.1 28 = .ok (.aload_n 0, 1) := by decide +kernel
theorem d34_29 : decode (cm_M 34).2.2.1 29 = .ok (.getfield 27, 3) := by decide +kernel
theorem d34_32 : decode (cm_M 34).2.2.1 32 = .ok (.getfield 186, 3) := by decide +kernel
theorem d34_35 : decode (cm_M 34).2.2.1 35 = .ok (.iload 6, 2) := by decide +kernel
theorem d34_37 : decode (cm_M 34).2.2.1 37 = .ok (.iadd, 1) := by decide +kernel
theorem d34_38 : decode (cm_M 34).2.2.1 38 = .ok (.sipush 160, 3) := by decide +kernel
theorem d34_41 : decode (cm_M 34).2.2.1 41 = .ok (.if_icmp .le 5, 3) := by decide +kernel
theorem d34_44 : decode (cm_M 34).2.2.1 44 = .ok (.iconst (-1), 1) := by decide +kernel
theorem d34_45 : decode (cm_M 34).2.2.1 45 = .ok (.ireturn, 1) := by decide +kernel
theorem d34_46 : decode (cm_M 34).2.2.1 46 = .ok (.aload_n 0, 1) := by decide +kernel
theorem d34_47 : decode (cm_M 34).2.2.1 47 = .ok (.getfield 27, 3) := by decide +kernel
theorem d34_50 : decode (cm_M 34).2.2.1 50 = .ok (.iload_n 1, 1) := by decide +kernel
theorem d34_51 : decode (cm_M 34).2.2.1 51 = .ok (.invokevirtual 189, 3) := by decide +kernel
theorem d34_54 : decode (cm_M 34).2.2.1 54 = .ok (.aload_n 0, 1) := by decide +kernel
theorem d34_55 : decode (cm_M 34).2.2.1 55 = .ok (.getfield 27, 3) := by decide +kernel
theorem d34_58 : decode (cm_M 34).2.2.1 58 = .ok (.iload_n 2, 1) := by decide +kernel
theorem d34_59 : decode (cm_M 34).2.2.1 59 = .ok (.invokevirtual 189, 3) := by decide +kernel
theorem d34_62 : decode (cm_M 34).2.2.1 62 = .ok (.aload_n 0, 1) := by decide +kernel
theorem d34_63 : decode (cm_M 34).2.2.1 63 = .ok (.getfield 27, 3) := by decide +kernel
theorem d34_66 : decode (cm_M 34).2.2.1 66 = .ok (.iload_n 3, 1) := by decide +kernel
theorem d34_67 : decode (cm_M 34).2.2.1 67 = .ok (.invokevirtual 189, 3) := by decide +kernel
theorem d34_70 : decode (cm_M 34).2.2.1 70 = .ok (.aload_n 0, 1) := by decide +kernel
theorem d34_71 : decode (cm_M 34).2.2.1 71 = .ok (.getfield 27, 3) := by decide +kernel
theorem d34_74 : decode (cm_M 34).2.2.1 74 = .ok (.iload 4, 2) := by decide +kernel
theorem d34_76 : decode (cm_M 34).2.2.1 76 = .ok (.invokevirtual 189, 3) := by decide +kernel
theorem d34_79 : decode (cm_M 34).2.2.1 79 = .ok (.aload_n 0, 1) := by decide +kernel
theorem d34_80 : decode (cm_M 34).2.2.1 80 = .ok (.getfield 27, 3) := by decide +kernel
theorem d34_83 : decode (cm_M 34).2.2.1 83 = .ok (.iload 5, 2) := by decide +kernel
theorem d34_85 : decode (cm_M 34).2.2.1 85 = .ok (.invokevirtual 189, 3) := by decide +kernel
theorem d34_88 : decode (cm_M 34).2.2.1 88 = .ok (.aload_n 0, 1) := by decide +kernel
theorem d34_89 : decode (cm_M 34).2.2.1 89 = .ok (.getfield 27, 3) := by decide +kernel
theorem d34_92 : decode (cm_M 34).2.2.1 92 = .ok (.getfield 186, 3) := by decide +kernel
theorem d34_95 : decode (cm_M 34).2.2.1 95 = .ok (.ireturn, 1) := by decide +kernel
theorem s34_0 {sc : cmS} {d : Nat} {h : cmH} {Q : Option Value → cmH → Prop} (x1 : Int32) (x2 : Int32) (x3 : Int32) (x4 : Int32) (x5 : Int32) (u6 : Option Value) (H : cm_ci sc d 35 [.int x1] h (fun r h' => cm_wp sc (d + 1) 34 4 [some (.ref 0), some (.int x1), some (.int x2), some (.int x3), some (.int x4), some (.int x5), u6] [.int r] h' Q)) : cm_wp sc (d + 1) 34 0 [some (.ref 0), some (.int x1), some (.int x2), some (.int x3), some (.int x4), some (.int x5), u6] [] h Q :=
  wl_st d34_0 rfl rfl rfl rfl (wl_ci d34_1 rfl rfl rfl pm10_183 (by decide) (ca_s (Or.inl rfl) rfl (Nat.le_of_ble_eq_true rfl) (Nat.le_of_ble_eq_true rfl)) H)
theorem s34_4 {sc : cmS} {d : Nat} {h : cmH} {Q : Option Value → cmH → Prop} (x1 : Int32) (x2 : Int32) (x3 : Int32) (x4 : Int32) (x5 : Int32) (u6 : Option Value) (sx0 : Int32) (H : cm_ci sc d 35 [.int x2] h (fun r h' => cm_wp sc (d + 1) 34 8 [some (.ref 0), some (.int x1), some (.int x2), some (.int x3), some (.int x4), some (.int x5), u6] [.int r, .int sx0] h' Q)) : cm_wp sc (d + 1) 34 4 [some (.ref 0), some (.int x1), some (.int x2), some (.int x3), some (.int x4), some (.int x5), u6] [.int sx0] h Q :=
  wl_st d34_4 rfl rfl rfl rfl (wl_ci d34_5 rfl rfl rfl pm10_183 (by decide) (ca_s (Or.inl rfl) rfl (Nat.le_of_ble_eq_true rfl) (Nat.le_of_ble_eq_true rfl)) H)
theorem s34_8 {sc : cmS} {d : Nat} {h : cmH} {Q : Option Value → cmH → Prop} (x1 : Int32) (x2 : Int32) (x3 : Int32) (x4 : Int32) (x5 : Int32) (u6 : Option Value) (sx0 : Int32) (sx1 : Int32) (H : cm_ci sc d 35 [.int x3] h (fun r h' => cm_wp sc (d + 1) 34 13 [some (.ref 0), some (.int x1), some (.int x2), some (.int x3), some (.int x4), some (.int x5), u6] [.int r, .int (sx1 + sx0)] h' Q)) : cm_wp sc (d + 1) 34 8 [some (.ref 0), some (.int x1), some (.int x2), some (.int x3), some (.int x4), some (.int x5), u6] [.int sx0, .int sx1] h Q :=
  wl_st d34_8 rfl rfl rfl rfl (wl_st d34_9 rfl rfl rfl rfl (wl_ci d34_10 rfl rfl rfl pm10_183 (by decide) (ca_s (Or.inl rfl) rfl (Nat.le_of_ble_eq_true rfl) (Nat.le_of_ble_eq_true rfl)) H))
theorem s34_13 {sc : cmS} {d : Nat} {h : cmH} {Q : Option Value → cmH → Prop} (x1 : Int32) (x2 : Int32) (x3 : Int32) (x4 : Int32) (x5 : Int32) (u6 : Option Value) (sx0 : Int32) (sx1 : Int32) (H : cm_ci sc d 35 [.int x4] h (fun r h' => cm_wp sc (d + 1) 34 19 [some (.ref 0), some (.int x1), some (.int x2), some (.int x3), some (.int x4), some (.int x5), u6] [.int r, .int (sx1 + sx0)] h' Q)) : cm_wp sc (d + 1) 34 13 [some (.ref 0), some (.int x1), some (.int x2), some (.int x3), some (.int x4), some (.int x5), u6] [.int sx0, .int sx1] h Q :=
  wl_st d34_13 rfl rfl rfl rfl (wl_st d34_14 rfl rfl rfl rfl (wl_ci d34_16 rfl rfl rfl pm10_183 (by decide) (ca_s (Or.inl rfl) rfl (Nat.le_of_ble_eq_true rfl) (Nat.le_of_ble_eq_true rfl)) H))
theorem s34_19 {sc : cmS} {d : Nat} {h : cmH} {Q : Option Value → cmH → Prop} (x1 : Int32) (x2 : Int32) (x3 : Int32) (x4 : Int32) (x5 : Int32) (u6 : Option Value) (sx0 : Int32) (sx1 : Int32) (H : cm_ci sc d 35 [.int x5] h (fun r h' => cm_wp sc (d + 1) 34 25 [some (.ref 0), some (.int x1), some (.int x2), some (.int x3), some (.int x4), some (.int x5), u6] [.int r, .int (sx1 + sx0)] h' Q)) : cm_wp sc (d + 1) 34 19 [some (.ref 0), some (.int x1), some (.int x2), some (.int x3), some (.int x4), some (.int x5), u6] [.int sx0, .int sx1] h Q :=
  wl_st d34_19 rfl rfl rfl rfl (wl_st d34_20 rfl rfl rfl rfl (wl_ci d34_22 rfl rfl rfl pm10_183 (by decide) (ca_s (Or.inl rfl) rfl (Nat.le_of_ble_eq_true rfl) (Nat.le_of_ble_eq_true rfl)) H))
theorem s34_25 {sc : cmS} {d : Nat} {h : cmH} {Q : Option Value → cmH → Prop} (L : LY h) (x1 : Int32) (x2 : Int32) (x3 : Int32) (x4 : Int32) (x5 : Int32) (u6 : Option Value) (sx0 : Int32) (sx1 : Int32) (H : (((((cm_I h 6 1) + (sx1 + sx0)) ≤ (160 : Int32)) → cm_cv sc d 36 [.ref 6, .int x1] h (fun h' => cm_wp sc (d + 1) 34 54 [some (.ref 0), some (.int x1), some (.int x2), some (.int x3), some (.int x4), some (.int x5), some (.int (sx1 + sx0))] [] h' Q)) ∧ (¬ (((cm_I h 6 1) + (sx1 + sx0)) ≤ (160 : Int32)) → Q (some (.int (-1 : Int32))) h))) : cm_wp sc (d + 1) 34 25 [some (.ref 0), some (.int x1), some (.int x2), some (.int x3), some (.int x4), some (.int x5), u6] [.int sx0, .int sx1] h Q :=
  wl_st d34_25 rfl rfl rfl rfl (wl_st (ls' := [some (.ref 0), some (.int x1), some (.int x2), some (.int x3), some (.int x4), some (.int x5), some (.int (sx1 + sx0))]) d34_26 rfl rfl rfl rfl (wl_st d34_28 rfl rfl rfl rfl (wl_gr (b := 6) d34_29 pf10_27 (ly_k L 0 rfl) rfl (ly_r L 0 2 rfl) (wl_gf (v := .int (cm_I h 6 1)) d34_32 pf10_186 (ly_k L 6 rfl) rfl (wl_st d34_35 rfl rfl rfl rfl (wl_st d34_37 rfl rfl rfl rfl (wl_si (v := 160) d34_38 rfl (wl_cb (b := ((cm_I h 6 1) + (sx1 + sx0)) ≤ (160 : Int32)) (off := 5) (tgt := 46) (pc3 := 44) (st' := []) d34_41 rfl rfl rfl rfl (by decide) rfl (fun c1 => wl_st d34_46 rfl rfl rfl rfl (wl_gr (b := 6) d34_47 pf10_27 (ly_k L 0 rfl) rfl (ly_r L 0 2 rfl) (wl_st d34_50 rfl rfl rfl rfl (wl_cv d34_51 rfl rfl rfl pm10_189 (by decide) (ca_v (Or.inr rfl) rfl (Nat.le_of_ble_eq_true rfl) (Nat.le_of_ble_eq_true rfl) (ly_k L 6 rfl).2 (ly_k L 6 rfl).1 (by decide)) (H.1 c1))))) (fun c1 => wl_ic (v := (-1)) d34_44 rfl (wl_rt d34_45 rfl rfl rfl (H.2 c1)))))))))))
theorem s34_54 {sc : cmS} {d : Nat} {h : cmH} {Q : Option Value → cmH → Prop} (L : LY h) (x1 : Int32) (x2 : Int32) (x3 : Int32) (x4 : Int32) (x5 : Int32) (x6 : Int32) (H : cm_cv sc d 36 [.ref 6, .int x2] h (fun h' => cm_wp sc (d + 1) 34 62 [some (.ref 0), some (.int x1), some (.int x2), some (.int x3), some (.int x4), some (.int x5), some (.int x6)] [] h' Q)) : cm_wp sc (d + 1) 34 54 [some (.ref 0), some (.int x1), some (.int x2), some (.int x3), some (.int x4), some (.int x5), some (.int x6)] [] h Q :=
  wl_st d34_54 rfl rfl rfl rfl (wl_gr (b := 6) d34_55 pf10_27 (ly_k L 0 rfl) rfl (ly_r L 0 2 rfl) (wl_st d34_58 rfl rfl rfl rfl (wl_cv d34_59 rfl rfl rfl pm10_189 (by decide) (ca_v (Or.inr rfl) rfl (Nat.le_of_ble_eq_true rfl) (Nat.le_of_ble_eq_true rfl) (ly_k L 6 rfl).2 (ly_k L 6 rfl).1 (by decide)) H)))
theorem s34_62 {sc : cmS} {d : Nat} {h : cmH} {Q : Option Value → cmH → Prop} (L : LY h) (x1 : Int32) (x2 : Int32) (x3 : Int32) (x4 : Int32) (x5 : Int32) (x6 : Int32) (H : cm_cv sc d 36 [.ref 6, .int x3] h (fun h' => cm_wp sc (d + 1) 34 70 [some (.ref 0), some (.int x1), some (.int x2), some (.int x3), some (.int x4), some (.int x5), some (.int x6)] [] h' Q)) : cm_wp sc (d + 1) 34 62 [some (.ref 0), some (.int x1), some (.int x2), some (.int x3), some (.int x4), some (.int x5), some (.int x6)] [] h Q :=
  wl_st d34_62 rfl rfl rfl rfl (wl_gr (b := 6) d34_63 pf10_27 (ly_k L 0 rfl) rfl (ly_r L 0 2 rfl) (wl_st d34_66 rfl rfl rfl rfl (wl_cv d34_67 rfl rfl rfl pm10_189 (by decide) (ca_v (Or.inr rfl) rfl (Nat.le_of_ble_eq_true rfl) (Nat.le_of_ble_eq_true rfl) (ly_k L 6 rfl).2 (ly_k L 6 rfl).1 (by decide)) H)))
theorem s34_70 {sc : cmS} {d : Nat} {h : cmH} {Q : Option Value → cmH → Prop} (L : LY h) (x1 : Int32) (x2 : Int32) (x3 : Int32) (x4 : Int32) (x5 : Int32) (x6 : Int32) (H : cm_cv sc d 36 [.ref 6, .int x4] h (fun h' => cm_wp sc (d + 1) 34 79 [some (.ref 0), some (.int x1), some (.int x2), some (.int x3), some (.int x4), some (.int x5), some (.int x6)] [] h' Q)) : cm_wp sc (d + 1) 34 70 [some (.ref 0), some (.int x1), some (.int x2), some (.int x3), some (.int x4), some (.int x5), some (.int x6)] [] h Q :=
  wl_st d34_70 rfl rfl rfl rfl (wl_gr (b := 6) d34_71 pf10_27 (ly_k L 0 rfl) rfl (ly_r L 0 2 rfl) (wl_st d34_74 rfl rfl rfl rfl (wl_cv d34_76 rfl rfl rfl pm10_189 (by decide) (ca_v (Or.inr rfl) rfl (Nat.le_of_ble_eq_true rfl) (Nat.le_of_ble_eq_true rfl) (ly_k L 6 rfl).2 (ly_k L 6 rfl).1 (by decide)) H)))
theorem s34_79 {sc : cmS} {d : Nat} {h : cmH} {Q : Option Value → cmH → Prop} (L : LY h) (x1 : Int32) (x2 : Int32) (x3 : Int32) (x4 : Int32) (x5 : Int32) (x6 : Int32) (H : cm_cv sc d 36 [.ref 6, .int x5] h (fun h' => cm_wp sc (d + 1) 34 88 [some (.ref 0), some (.int x1), some (.int x2), some (.int x3), some (.int x4), some (.int x5), some (.int x6)] [] h' Q)) : cm_wp sc (d + 1) 34 79 [some (.ref 0), some (.int x1), some (.int x2), some (.int x3), some (.int x4), some (.int x5), some (.int x6)] [] h Q :=
  wl_st d34_79 rfl rfl rfl rfl (wl_gr (b := 6) d34_80 pf10_27 (ly_k L 0 rfl) rfl (ly_r L 0 2 rfl) (wl_st d34_83 rfl rfl rfl rfl (wl_cv d34_85 rfl rfl rfl pm10_189 (by decide) (ca_v (Or.inr rfl) rfl (Nat.le_of_ble_eq_true rfl) (Nat.le_of_ble_eq_true rfl) (ly_k L 6 rfl).2 (ly_k L 6 rfl).1 (by decide)) H)))
theorem s34_88 {sc : cmS} {d : Nat} {h : cmH} {Q : Option Value → cmH → Prop} (L : LY h) (x1 : Int32) (x2 : Int32) (x3 : Int32) (x4 : Int32) (x5 : Int32) (x6 : Int32) (H : Q (some (.int (cm_I h 6 1))) h) : cm_wp sc d 34 88 [some (.ref 0), some (.int x1), some (.int x2), some (.int x3), some (.int x4), some (.int x5), some (.int x6)] [] h Q :=
  wl_st d34_88 rfl rfl rfl rfl (wl_gr (b := 6) d34_89 pf10_27 (ly_k L 0 rfl) rfl (ly_r L 0 2 rfl) (wl_gf (v := .int (cm_I h 6 1)) d34_92 pf10_186 (ly_k L 6 rfl) rfl (wl_rt d34_95 rfl rfl rfl H)))
