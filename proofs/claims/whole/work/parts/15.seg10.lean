-- ClogHouseModel.ripe(I)I
theorem d200_0 : decode (cm_M 200).2.2.1 0 = .ok (.aload_n 0, 1) := by decide +kernel
theorem d200_1 : decode (cm_M 200).2.2.1 1 = .ok (.iload_n 1, 1) := by decide +kernel
theorem d200_2 : decode (cm_M 200).2.2.1 2 = .ok (.invokevirtual 168, 3) := by decide +kernel
theorem d200_5 : decode (cm_M 200).2.2.1 5 = .ok (.ifCond .eq 12, 3) := by decide +kernel
theorem d200_8 : decode (cm_M 200).2.2.1 8 = .ok (.aload_n 0, 1) := by decide +kernel
theorem d200_9 : decode (cm_M 200).2.2.1 9 = .ok (.getfield 102, 3) := by decide +kernel
theorem d200_12 : decode (cm_M 200).2.2.1 12 = .ok (.iload_n 1, 1) := by decide +kernel
theorem d200_13 : decode (cm_M 200).2.2.1 13 = .ok (.iaload, 1) := by decide +kernel
theorem d200_14 : decode (cm_M 200).2.2.1 14 = .ok (.goto 4, 3) := by decide +kernel
theorem d200_17 : decode (cm_M 200).2.2.1 17 = .ok (.iconst (-1), 1) := by decide +kernel
theorem d200_18 : decode (cm_M 200).2.2.1 18 = .ok (.ireturn, 1) := by decide +kernel
theorem s200_0 {sc : cmS} {d : Nat} {h : cmH} {Q : Option Value → cmH → Prop} (L : LY h) (x1 : Int32) (H : cm_ci sc d 140 [.ref 38, .int x1] h (fun r h' => cm_wp sc (d + 1) 200 5 [some (.ref 38), some (.int x1)] [.int r] h' Q)) : cm_wp sc (d + 1) 200 0 [some (.ref 38), some (.int x1)] [] h Q :=
  wl_st d200_0 rfl rfl rfl rfl (wl_st d200_1 rfl rfl rfl rfl (wl_ci d200_2 rfl rfl rfl pm11_168 (by decide) (ca_v (Or.inl rfl) rfl (Nat.le_of_ble_eq_true rfl) (Nat.le_of_ble_eq_true rfl) (ly_k L 38 rfl).2 (ly_k L 38 rfl).1 (by decide)) H))
theorem s200_5 {sc : cmS} {d : Nat} {h : cmH} {Q : Option Value → cmH → Prop} (L : LY h) (x1 : Int32) (sx0 : Int32) (H : (((sx0 = 0) → Q (some (.int (-1 : Int32))) h) ∧ (¬ (sx0 = 0) → (IX 8 x1) ∧ Q (some (.int (cm_I h 69 x1.toNatClampNeg))) h))) : cm_wp sc d 200 5 [some (.ref 38), some (.int x1)] [.int sx0] h Q :=
  wl_cb (b := sx0 = 0) (off := 12) (tgt := 17) (pc3 := 8) (st' := []) d200_5 rfl rfl rfl rfl (by decide) rfl (fun c1 => wl_ic (v := (-1)) d200_17 rfl (wl_rt d200_18 rfl rfl rfl (H.1 c1))) (fun c1 => wl_st d200_8 rfl rfl rfl rfl (wl_gr (b := 69) d200_9 pf11_102 (ly_k L 38 rfl) rfl (ly_r L 38 40 rfl) (wl_st d200_12 rfl rfl rfl rfl (And.elim (fun g2 g2k => wl_if (g := cm_ok h 13 69 x1) (st' := [.int (cm_I h 69 x1.toNatClampNeg)]) d200_13 rfl rfl rfl rfl (ly_o L 69 rfl g2) (wl_go (tgt := 18) d200_14 (by decide) (wl_rt d200_18 rfl rfl rfl g2k))) (H.2 c1)))))
-- ClogHouseModel.led(II)I
theorem d201_0 : decode (cm_M 201).2.2.1 0 = .ok (.iload_n 1, 1) := by decide +kernel
theorem d201_1 : decode (cm_M 201).2.2.1 1 = .ok (.iconst 0, 1) := by decide +kernel
theorem d201_2 : decode (cm_M 201).2.2.1 2 = .ok (.bipush 7, 2) := by decide +kernel
theorem d201_4 : decode (cm_M 201).2.2.1 4 = .ok (.invokestatic 161, 3) := by decide +kernel
theorem d201_7 : decode (cm_M 201).2.2.1 7 = .ok (.ifCond .eq 12, 3) := by decide +kernel
theorem d201_10 : decode (cm_M 201).2.2.1 10 = .ok (.iload_n 2, 1) := by decide +kernel
theorem d201_11 : decode (cm_M 201).2.2.1 11 = .ok (.iconst 0, 1) := by decide +kernel
theorem d201_12 : decode (cm_M 201).2.2.1 12 = .ok (.iconst 5, 1) := by decide +kernel
theorem d201_13 : decode (cm_M 201).2.2.1 13 = .ok (.invokestatic 161, 3) := by decide +kernel
theorem d201_16 : decode (cm_M 201).2.2.1 16 = .ok (.ifCond .ne 5, 3) := by decide +kernel
theorem d201_19 : decode (cm_M 201).2.2.1 19 = .ok (.iconst (-1), 1) := by decide +kernel
theorem d201_20 : decode (cm_M 201).2.2.1 20 = .ok (.ireturn, 1) := by decide +kernel
theorem d201_21 : decode (cm_M 201).2.2.1 21 = .ok (.iload_n 2, 1) := by decide +kernel
theorem d201_22 : decode (cm_M 201).2.2.1 22 = .ok (.iconst 1, 1) := by decide +kernel
theorem d201_23 : decode (cm_M 201).2.2.1 23 = .ok (.if_icmp .eq 15, 3) := by decide +kernel
theorem d201_26 : decode (cm_M 201).2.2.1 26 = .ok (.aload_n 0, 1) := by decide +kernel
theorem d201_27 : decode (cm_M 201).2.2.1 27 = .ok (.getfield 108, 3) := by decide +kernel
theorem d201_30 : decode (cm_M 201).2.2.1 30 = .ok (.bipush 6, 2) := by decide +kernel
theorem d201_32 : decode (cm_M 201).2.2.1 32 = .ok (.iload_n 1, 1) := by decide +kernel
theorem d201_33 : decode (cm_M 201).2.2.1 33 = .ok (.imul, 1) := by decide +kernel
theorem d201_34 : decode (cm_M 201).2.2.1 34 = .ok (.iload_n 2, 1) := by decide +kernel
theorem d201_35 : decode (cm_M 201).2.2.1 35 = .ok (.iadd, 1) := by decide +kernel
theorem d201_36 : decode (cm_M 201).2.2.1 36 = .ok (.iaload, 1) := by decide +kernel
theorem d201_37 : decode (cm_M 201).2.2.1 37 = .ok (.ireturn, 1) := by decide +kernel
theorem d201_38 : decode (cm_M 201).2.2.1 38 = .ok (.iconst 0, 1) := by decide +kernel
theorem d201_39 : decode (cm_M 201).2.2.1 39 = .ok (.istore_n 3, 1) := by decide +kernel
theorem d201_40 : decode (cm_M 201).2.2.1 40 = .ok (.iconst 0, 1) := by decide +kernel
theorem d201_41 : decode (cm_M 201).2.2.1 41 = .ok (.istore 4, 2) := by decide +kernel
theorem d201_43 : decode (cm_M 201).2.2.1 43 = .ok (.iload 4, 2) := by decide +kernel
theorem d201_45 : decode (cm_M 201).2.2.1 45 = .ok (.aload_n 0, 1) := by decide +kernel
theorem d201_46 : decode (cm_M 201).2.2.1 46 = .ok (.getfield 165, 3) := by decide +kernel
theorem d201_49 : decode (cm_M 201).2.2.1 49 = .ok (.if_icmp .ge 66, 3) := by decide +kernel
theorem d201_52 : decode (cm_M 201).2.2.1 52 = .ok (.iload_n 3, 1) := by decide +kernel
theorem d201_53 : decode (cm_M 201).2.2.1 53 = .ok (.aload_n 0, 1) := by decide +kernel
theorem d201_54 : decode (cm_M 201).2.2.1 54 = .ok (.getfield 37, 3) := by decide +kernel
theorem d201_57 : decode (cm_M 201).2.2.1 57 = .ok (.bipush 8, 2) := by decide +kernel
theorem d201_59 : decode (cm_M 201).2.2.1 59 = .ok (.iload 4, 2) := by decide +kernel
theorem d201_61 : decode (cm_M 201).2.2.1 61 = .ok (.imul, 1) := by decide +kernel
theorem d201_62 : decode (cm_M 201).2.2.1 62 = .ok (.iload_n 1, 1) := by decide +kernel
theorem d201_63 : decode (cm_M 201).2.2.1 63 = .ok (.iadd, 1) := by decide +kernel
theorem d201_64 : decode (cm_M 201).2.2.1 64 = .ok (.iaload, 1) := by decide +kernel
theorem d201_65 : decode (cm_M 201).2.2.1 65 = .ok (.iadd, 1) := by decide +kernel
theorem d201_66 : decode (cm_M 201).2.2.1 66 = .ok (.istore_n 3, 1) := by decide +kernel
theorem d201_67 : decode (cm_M 201).2.2.1 67 = .ok (.iconst 0, 1) := by decide +kernel
theorem d201_68 : decode (cm_M 201).2.2.1 68 = .ok (.istore 5, 2) := by decide +kernel
theorem d201_70 : decode (cm_M 201).2.2.1 70 = .ok (.iload 5, 2) := by decide +kernel
theorem d201_72 : decode (cm_M 201).2.2.1 72 = .ok (.aload_n 0, 1) := by decide +kernel
theorem d201_73 : decode (cm_M 201).2.2.1 73 = .ok (.getfield 19, 3) := by decide +kernel
theorem d201_76 : decode (cm_M 201).2.2.1 76 = .ok (.iload 4, 2) := by decide +kernel
theorem d201_78 : decode (cm_M 201).2.2.1 78 = .ok (.iaload, 1) := by decide +kernel
theorem d201_79 : decode (cm_M 201).2.2.1 79 = .ok (.if_icmp .ge 30, 3) := by decide +kernel
theorem d201_82 : decode (cm_M 201).2.2.1 82 = .ok (.iload_n 3, 1) := by decide +kernel
theorem d201_83 : decode (cm_M 201).2.2.1 83 = .ok (.aload_n 0, 1) := by decide +kernel
theorem d201_84 : decode (cm_M 201).2.2.1 84 = .ok (.getfield 31, 3) := by decide +kernel
theorem d201_87 : decode (cm_M 201).2.2.1 87 = .ok (.bipush 8, 2) := by decide +kernel
theorem d201_89 : decode (cm_M 201).2.2.1 89 = .ok (.bipush 10, 2) := by decide +kernel
theorem d201_91 : decode (cm_M 201).2.2.1 91 = .ok (.iload 4, 2) := by decide +kernel
theorem d201_93 : decode (cm_M 201).2.2.1 93 = .ok (.imul, 1) := by decide +kernel
theorem d201_94 : decode (cm_M 201).2.2.1 94 = .ok (.iload 5, 2) := by decide +kernel
theorem d201_96 : decode (cm_M 201).2.2.1 96 = .ok (.iadd, 1) := by decide +kernel
theorem d201_97 : decode (cm_M 201).2.2.1 97 = .ok (.imul, 1) := by decide +kernel
theorem d201_98 : decode (cm_M 201).2.2.1 98 = .ok (.iload_n 1, 1) := by decide +kernel
theorem d201_99 : decode (cm_M 201).2.2.1 99 = .ok (.iadd, 1) := by decide +kernel
theorem d201_100 : decode (cm_M 201).2.2.1 100 = .ok (.iaload, 1) := by decide +kernel
theorem d201_101 : decode (cm_M 201).2.2.1 101 = .ok (.iadd, 1) := by decide +kernel
theorem d201_102 : decode (cm_M 201).2.2.1 102 = .ok (.istore_n 3, 1) := by decide +kernel
theorem d201_103 : decode (cm_M 201).2.2.1 103 = .ok (.iinc 5 1, 3) := by decide +kernel
theorem d201_106 : decode (cm_M 201).2.2.1 106 = .ok (.goto (-36), 3) := by decide +kernel
theorem d201_109 : decode (cm_M 201).2.2.1 109 = .ok (.iinc 4 1, 3) := by decide +kernel
theorem d201_112 : decode (cm_M 201).2.2.1 112 = .ok (.goto (-69), 3) := by decide +kernel
theorem d201_115 : decode (cm_M 201).2.2.1 115 = .ok (.iload_n 3, 1) := by decide +kernel
theorem d201_116 : decode (cm_M 201).2.2.1 116 = .ok (.ireturn, 1) := by decide +kernel
theorem s201_0 {sc : cmS} {d : Nat} {h : cmH} {Q : Option Value → cmH → Prop} (x1 : Int32) (x2 : Int32) (u3 : Option Value) (u4 : Option Value) (u5 : Option Value) (H : cm_ci sc d 137 [.int x1, .int (0 : Int32), .int (7 : Int32)] h (fun r h' => cm_wp sc (d + 1) 201 7 [some (.ref 38), some (.int x1), some (.int x2), u3, u4, u5] [.int r] h' Q)) : cm_wp sc (d + 1) 201 0 [some (.ref 38), some (.int x1), some (.int x2), u3, u4, u5] [] h Q :=
  wl_st d201_0 rfl rfl rfl rfl (wl_ic (v := 0) d201_1 rfl (wl_bi (v := 7) d201_2 rfl (wl_ci d201_4 rfl rfl rfl pm11_161 (by decide) (ca_s (Or.inl rfl) rfl (Nat.le_of_ble_eq_true rfl) (Nat.le_of_ble_eq_true rfl)) H)))
theorem s201_7 {sc : cmS} {d : Nat} {h : cmH} {Q : Option Value → cmH → Prop} (x1 : Int32) (x2 : Int32) (u3 : Option Value) (u4 : Option Value) (u5 : Option Value) (sx0 : Int32) (H : (((sx0 = 0) → Q (some (.int (-1 : Int32))) h) ∧ (¬ (sx0 = 0) → cm_ci sc d 137 [.int x2, .int (0 : Int32), .int (5 : Int32)] h (fun r h' => cm_wp sc (d + 1) 201 16 [some (.ref 38), some (.int x1), some (.int x2), u3, u4, u5] [.int r] h' Q)))) : cm_wp sc (d + 1) 201 7 [some (.ref 38), some (.int x1), some (.int x2), u3, u4, u5] [.int sx0] h Q :=
  wl_cb (b := sx0 = 0) (off := 12) (tgt := 19) (pc3 := 10) (st' := []) d201_7 rfl rfl rfl rfl (by decide) rfl (fun c1 => wl_ic (v := (-1)) d201_19 rfl (wl_rt d201_20 rfl rfl rfl (H.1 c1))) (fun c1 => wl_st d201_10 rfl rfl rfl rfl (wl_ic (v := 0) d201_11 rfl (wl_ic (v := 5) d201_12 rfl (wl_ci d201_13 rfl rfl rfl pm11_161 (by decide) (ca_s (Or.inl rfl) rfl (Nat.le_of_ble_eq_true rfl) (Nat.le_of_ble_eq_true rfl)) (H.2 c1)))))
theorem s201_16 {sc : cmS} {d : Nat} {h : cmH} {Q : Option Value → cmH → Prop} (L : LY h) (x1 : Int32) (x2 : Int32) (u3 : Option Value) (u4 : Option Value) (u5 : Option Value) (sx0 : Int32) (H : (((¬ sx0 = 0) → (((x2 = (1 : Int32)) → cm_wp sc d 201 43 [some (.ref 38), some (.int x1), some (.int x2), some (.int (0 : Int32)), some (.int (0 : Int32)), u5] [] h Q) ∧ (¬ (x2 = (1 : Int32)) → (IX 48 (((6 : Int32) * x1) + x2)) ∧ Q (some (.int (cm_I h 71 (((6 : Int32) * x1) + x2).toNatClampNeg))) h))) ∧ (¬ (¬ sx0 = 0) → Q (some (.int (-1 : Int32))) h))) : cm_wp sc d 201 16 [some (.ref 38), some (.int x1), some (.int x2), u3, u4, u5] [.int sx0] h Q :=
  wl_cb (b := ¬ sx0 = 0) (off := 5) (tgt := 21) (pc3 := 19) (st' := []) d201_16 rfl rfl rfl rfl (by decide) rfl (fun c1 => wl_st d201_21 rfl rfl rfl rfl (wl_ic (v := 1) d201_22 rfl (wl_cb (b := x2 = (1 : Int32)) (off := 15) (tgt := 38) (pc3 := 26) (st' := []) d201_23 rfl rfl rfl rfl (by decide) rfl (fun c2 => wl_ic (v := 0) d201_38 rfl (wl_st (ls' := [some (.ref 38), some (.int x1), some (.int x2), some (.int (0 : Int32)), u4, u5]) d201_39 rfl rfl rfl rfl (wl_ic (v := 0) d201_40 rfl (wl_st (ls' := [some (.ref 38), some (.int x1), some (.int x2), some (.int (0 : Int32)), some (.int (0 : Int32)), u5]) d201_41 rfl rfl rfl rfl (((H.1 c1).1 c2)))))) (fun c2 => wl_st d201_26 rfl rfl rfl rfl (wl_gr (b := 71) d201_27 pf11_108 (ly_k L 38 rfl) rfl (ly_r L 38 42 rfl) (wl_bi (v := 6) d201_30 rfl (wl_st d201_32 rfl rfl rfl rfl (wl_st d201_33 rfl rfl rfl rfl (wl_st d201_34 rfl rfl rfl rfl (wl_st d201_35 rfl rfl rfl rfl (And.elim (fun g3 g3k => wl_if (g := cm_ok h 13 71 (((6 : Int32) * x1) + x2)) (st' := [.int (cm_I h 71 (((6 : Int32) * x1) + x2).toNatClampNeg)]) d201_36 rfl rfl rfl rfl (ly_o L 71 rfl g3) (wl_rt d201_37 rfl rfl rfl g3k)) ((H.1 c1).2 c2)))))))))))) (fun c1 => wl_ic (v := (-1)) d201_19 rfl (wl_rt d201_20 rfl rfl rfl (H.2 c1)))
theorem s201_43 {sc : cmS} {d : Nat} {h : cmH} {Q : Option Value → cmH → Prop} (L : LY h) (x1 : Int32) (x2 : Int32) (x3 : Int32) (x4 : Int32) (u5 : Option Value) (H : ((((cm_I h 38 24) ≤ x4) → Q (some (.int x3)) h) ∧ (¬ ((cm_I h 38 24) ≤ x4) → (IX 72 (((8 : Int32) * x4) + x1)) ∧ cm_wp sc d 201 70 [some (.ref 38), some (.int x1), some (.int x2), some (.int (x3 + (cm_I h 48 (((8 : Int32) * x4) + x1).toNatClampNeg))), some (.int x4), some (.int (0 : Int32))] [] h Q))) : cm_wp sc d 201 43 [some (.ref 38), some (.int x1), some (.int x2), some (.int x3), some (.int x4), u5] [] h Q :=
  wl_st d201_43 rfl rfl rfl rfl (wl_st d201_45 rfl rfl rfl rfl (wl_gf (v := .int (cm_I h 38 24)) d201_46 pf11_165 (ly_k L 38 rfl) rfl (wl_cb (b := (cm_I h 38 24) ≤ x4) (off := 66) (tgt := 115) (pc3 := 52) (st' := []) d201_49 rfl rfl rfl rfl (by decide) rfl (fun c1 => wl_st d201_115 rfl rfl rfl rfl (wl_rt d201_116 rfl rfl rfl (H.1 c1))) (fun c1 => wl_st d201_52 rfl rfl rfl rfl (wl_st d201_53 rfl rfl rfl rfl (wl_gr (b := 48) d201_54 pf11_37 (ly_k L 38 rfl) rfl (ly_r L 38 11 rfl) (wl_bi (v := 8) d201_57 rfl (wl_st d201_59 rfl rfl rfl rfl (wl_st d201_61 rfl rfl rfl rfl (wl_st d201_62 rfl rfl rfl rfl (wl_st d201_63 rfl rfl rfl rfl (And.elim (fun g2 g2k => wl_if (g := cm_ok h 13 48 (((8 : Int32) * x4) + x1)) (st' := [.int (cm_I h 48 (((8 : Int32) * x4) + x1).toNatClampNeg), .int x3]) d201_64 rfl rfl rfl rfl (ly_o L 48 rfl g2) (wl_st d201_65 rfl rfl rfl rfl (wl_st (ls' := [some (.ref 38), some (.int x1), some (.int x2), some (.int (x3 + (cm_I h 48 (((8 : Int32) * x4) + x1).toNatClampNeg))), some (.int x4), u5]) d201_66 rfl rfl rfl rfl (wl_ic (v := 0) d201_67 rfl (wl_st (ls' := [some (.ref 38), some (.int x1), some (.int x2), some (.int (x3 + (cm_I h 48 (((8 : Int32) * x4) + x1).toNatClampNeg))), some (.int x4), some (.int (0 : Int32))]) d201_68 rfl rfl rfl rfl (g2k)))))) (H.2 c1)))))))))))))
theorem s201_70 {sc : cmS} {d : Nat} {h : cmH} {Q : Option Value → cmH → Prop} (L : LY h) (x1 : Int32) (x2 : Int32) (x3 : Int32) (x4 : Int32) (x5 : Int32) (H : (IX 9 x4) ∧ ((((cm_I h 42 x4.toNatClampNeg) ≤ x5) → cm_wp sc d 201 43 [some (.ref 38), some (.int x1), some (.int x2), some (.int x3), some (.int (x4 + 1)), some (.int x5)] [] h Q) ∧ (¬ ((cm_I h 42 x4.toNatClampNeg) ≤ x5) → (IX 720 (((8 : Int32) * (((10 : Int32) * x4) + x5)) + x1)) ∧ cm_wp sc d 201 70 [some (.ref 38), some (.int x1), some (.int x2), some (.int (x3 + (cm_I h 46 (((8 : Int32) * (((10 : Int32) * x4) + x5)) + x1).toNatClampNeg))), some (.int x4), some (.int (x5 + 1))] [] h Q))) : cm_wp sc d 201 70 [some (.ref 38), some (.int x1), some (.int x2), some (.int x3), some (.int x4), some (.int x5)] [] h Q :=
  wl_st d201_70 rfl rfl rfl rfl (wl_st d201_72 rfl rfl rfl rfl (wl_gr (b := 42) d201_73 pf11_19 (ly_k L 38 rfl) rfl (ly_r L 38 5 rfl) (wl_st d201_76 rfl rfl rfl rfl (And.elim (fun g1 g1k => wl_if (g := cm_ok h 13 42 x4) (st' := [.int (cm_I h 42 x4.toNatClampNeg), .int x5]) d201_78 rfl rfl rfl rfl (ly_o L 42 rfl g1) (wl_cb (b := (cm_I h 42 x4.toNatClampNeg) ≤ x5) (off := 30) (tgt := 109) (pc3 := 82) (st' := []) d201_79 rfl rfl rfl rfl (by decide) rfl (fun c2 => wl_st (ls' := [some (.ref 38), some (.int x1), some (.int x2), some (.int x3), some (.int (x4 + 1)), some (.int x5)]) d201_109 rfl rfl rfl rfl (wl_go (tgt := 43) d201_112 (by decide) ((g1k.1 c2)))) (fun c2 => wl_st d201_82 rfl rfl rfl rfl (wl_st d201_83 rfl rfl rfl rfl (wl_gr (b := 46) d201_84 pf11_31 (ly_k L 38 rfl) rfl (ly_r L 38 9 rfl) (wl_bi (v := 8) d201_87 rfl (wl_bi (v := 10) d201_89 rfl (wl_st d201_91 rfl rfl rfl rfl (wl_st d201_93 rfl rfl rfl rfl (wl_st d201_94 rfl rfl rfl rfl (wl_st d201_96 rfl rfl rfl rfl (wl_st d201_97 rfl rfl rfl rfl (wl_st d201_98 rfl rfl rfl rfl (wl_st d201_99 rfl rfl rfl rfl (And.elim (fun g3 g3k => wl_if (g := cm_ok h 13 46 (((8 : Int32) * (((10 : Int32) * x4) + x5)) + x1)) (st' := [.int (cm_I h 46 (((8 : Int32) * (((10 : Int32) * x4) + x5)) + x1).toNatClampNeg), .int x3]) d201_100 rfl rfl rfl rfl (ly_o L 46 rfl g3) (wl_st d201_101 rfl rfl rfl rfl (wl_st (ls' := [some (.ref 38), some (.int x1), some (.int x2), some (.int (x3 + (cm_I h 46 (((8 : Int32) * (((10 : Int32) * x4) + x5)) + x1).toNatClampNeg))), some (.int x4), some (.int x5)]) d201_102 rfl rfl rfl rfl (wl_st (ls' := [some (.ref 38), some (.int x1), some (.int x2), some (.int (x3 + (cm_I h 46 (((8 : Int32) * (((10 : Int32) * x4) + x5)) + x1).toNatClampNeg))), some (.int x4), some (.int (x5 + 1))]) d201_103 rfl rfl rfl rfl (wl_go (tgt := 70) d201_106 (by decide) (g3k)))))) (g1k.2 c2)))))))))))))))) H))))
-- ClogHouseModel.digest()I
theorem d202_0 : decode (cm_M 202).2.2.1 0 = .ok (.sipush 217, 3) := by decide +kernel
theorem d202_3 : decode (cm_M 202).2.2.1 3 = .ok (.aload_n 0, 1) := by decide +kernel
theorem d202_4 : decode (cm_M 202).2.2.1 4 = .ok (.getfield 330, 3) := by decide +kernel
theorem d202_7 : decode (cm_M 202).2.2.1 7 = .ok (.iadd, 1) := by decide +kernel
theorem d202_8 : decode (cm_M 202).2.2.1 8 = .ok (.istore_n 1, 1) := by decide +kernel
theorem d202_9 : decode (cm_M 202).2.2.1 9 = .ok (.iconst 0, 1) := by decide +kernel
theorem d202_10 : decode (cm_M 202).2.2.1 10 = .ok (.istore_n 2, 1) := by decide +kernel
theorem d202_11 : decode (cm_M 202).2.2.1 11 = .ok (.iload_n 2, 1) := by decide +kernel
theorem d202_12 : decode (cm_M 202).2.2.1 12 = .ok (.aload_n 0, 1) := by decide +kernel
theorem d202_13 : decode (cm_M 202).2.2.1 13 = .ok (.getfield 165, 3) := by decide +kernel
theorem d202_16 : decode (cm_M 202).2.2.1 16 = .ok (.if_icmp .ge 167, 3) := by decide +kernel
theorem d202_19 : decode (cm_M 202).2.2.1 19 = .ok (.bipush 31, 2) := by decide +kernel
theorem d202_21 : decode (cm_M 202).2.2.1 21 = .ok (.iload_n 1, 1) := by decide +kernel
theorem d202_22 : decode (cm_M 202).2.2.1 22 = .ok (.imul, 1) := by decide +kernel
theorem d202_23 : decode (cm_M 202).2.2.1 23 = .ok (.aload_n 0, 1) := by decide +kernel
theorem d202_24 : decode (cm_M 202).2.2.1 24 = .ok (.getfield 49, 3) := by decide +kernel
theorem d202_27 : decode (cm_M 202).2.2.1 27 = .ok (.iload_n 2, 1) := by decide +kernel
theorem d202_28 : decode (cm_M 202).2.2.1 28 = .ok (.iaload, 1) := by decide +kernel
theorem d202_29 : decode (cm_M 202).2.2.1 29 = .ok (.iadd, 1) := by decide +kernel
theorem d202_30 : decode (cm_M 202).2.2.1 30 = .ok (.istore_n 1, 1) := by decide +kernel
theorem d202_31 : decode (cm_M 202).2.2.1 31 = .ok (.bipush 31, 2) := by decide +kernel
theorem d202_33 : decode (cm_M 202).2.2.1 33 = .ok (.iload_n 1, 1) := by decide +kernel
theorem d202_34 : decode (cm_M 202).2.2.1 34 = .ok (.imul, 1) := by decide +kernel
theorem d202_35 : decode (cm_M 202).2.2.1 35 = .ok (.aload_n 0, 1) := by decide +kernel
theorem d202_36 : decode (cm_M 202).2.2.1 36 = .ok (.getfield 52, 3) := by decide +kernel
theorem d202_39 : decode (cm_M 202).2.2.1 39 = .ok (.iload_n 2, 1) := by decide +kernel
theorem d202_40 : decode (cm_M 202).2.2.1 40 = .ok (.iaload, 1) := by decide +kernel
theorem d202_41 : decode (cm_M 202).2.2.1 41 = .ok (.iadd, 1) := by decide +kernel
theorem d202_42 : decode (cm_M 202).2.2.1 42 = .ok (.istore_n 1, 1) := by decide +kernel
theorem d202_43 : decode (cm_M 202).2.2.1 43 = .ok (.bipush 31, 2) := by decide +kernel
theorem d202_45 : decode (cm_M 202).2.2.1 45 = .ok (.iload_n 1, 1) := by decide +kernel
theorem d202_46 : decode (cm_M 202).2.2.1 46 = .ok (.imul, 1) := by decide +kernel
theorem d202_47 : decode (cm_M 202).2.2.1 47 = .ok (.aload_n 0, 1) := by decide +kernel
theorem d202_48 : decode (cm_M 202).2.2.1 48 = .ok (.getfield 55, 3) := by decide +kernel
theorem d202_51 : decode (cm_M 202).2.2.1 51 = .ok (.iload_n 2, 1) := by decide +kernel
theorem d202_52 : decode (cm_M 202).2.2.1 52 = .ok (.iaload, 1) := by decide +kernel
theorem d202_53 : decode (cm_M 202).2.2.1 53 = .ok (.iadd, 1) := by decide +kernel
theorem d202_54 : decode (cm_M 202).2.2.1 54 = .ok (.istore_n 1, 1) := by decide +kernel
theorem d202_55 : decode (cm_M 202).2.2.1 55 = .ok (.iconst 0, 1) := by decide +kernel
theorem d202_56 : decode (cm_M 202).2.2.1 56 = .ok (.istore_n 3, 1) := by decide +kernel
theorem d202_57 : decode (cm_M 202).2.2.1 57 = .ok (.iload_n 3, 1) := by decide +kernel
theorem d202_58 : decode (cm_M 202).2.2.1 58 = .ok (.bipush 8, 2) := by decide +kernel
theorem d202_60 : decode (cm_M 202).2.2.1 60 = .ok (.if_icmp .ge 26, 3) := by decide +kernel
theorem d202_63 : decode (cm_M 202).2.2.1 63 = .ok (.bipush 31, 2) := by decide +kernel
theorem d202_65 : decode (cm_M 202).2.2.1 65 = .ok (.iload_n 1, 1) := by decide +kernel
theorem d202_66 : decode (cm_M 202).2.2.1 66 = .ok (.imul, 1) := by decide +kernel
theorem d202_67 : decode (cm_M 202).2.2.1 67 = .ok (.aload_n 0, 1) := by decide +kernel
theorem d202_68 : decode (cm_M 202).2.2.1 68 = .ok (.getfield 37, 3) := by decide +kernel
theorem d202_71 : decode (cm_M 202).2.2.1 71 = .ok (.bipush 8, 2) := by decide +kernel
theorem d202_73 : decode (cm_M 202).2.2.1 73 = .ok (.iload_n 2, 1) := by decide +kernel
theorem d202_74 : decode (cm_M 202).2.2.1 74 = .ok (.imul, 1) := by decide +kernel
theorem d202_75 : decode (cm_M 202).2.2.1 75 = .ok (.iload_n 3, 1) := by decide +kernel
theorem d202_76 : decode (cm_M 202).2.2.1 76 = .ok (.iadd, 1) := by decide +kernel
theorem d202_77 : decode (cm_M 202).2.2.1 77 = .ok (.iaload, 1) := by decide +kernel
theorem d202_78 : decode (cm_M 202).2.2.1 78 = .ok (.iadd, 1) := by decide +kernel
theorem d202_79 : decode (cm_M 202).2.2.1 79 = .ok (.istore_n 1, 1) := by decide +kernel
theorem d202_80 : decode (cm_M 202).2.2.1 80 = .ok (.iinc 3 1, 3) := by decide +kernel
theorem d202_83 : decode (cm_M 202).2.2.1 83 = .ok (.goto (-26), 3) := by decide +kernel
theorem d202_86 : decode (cm_M 202).2.2.1 86 = .ok (.iconst 0, 1) := by decide +kernel
theorem d202_87 : decode (cm_M 202).2.2.1 87 = .ok (.istore_n 3, 1) := by decide +kernel
theorem d202_88 : decode (cm_M 202).2.2.1 88 = .ok (.iload_n 3, 1) := by decide +kernel
theorem d202_89 : decode (cm_M 202).2.2.1 89 = .ok (.aload_n 0, 1) := by decide +kernel
theorem d202_90 : decode (cm_M 202).2.2.1 90 = .ok (.getfield 19, 3) := by decide +kernel
theorem d202_93 : decode (cm_M 202).2.2.1 93 = .ok (.iload_n 2, 1) := by decide +kernel
theorem d202_94 : decode (cm_M 202).2.2.1 94 = .ok (.iaload, 1) := by decide +kernel
theorem d202_95 : decode (cm_M 202).2.2.1 95 = .ok (.if_icmp .ge 82, 3) := by decide +kernel
theorem d202_98 : decode (cm_M 202).2.2.1 98 = .ok (.bipush 31, 2) := by decide +kernel
theorem d202_100 : decode (cm_M 202).2.2.1 100 = .ok (.iload_n 1, 1) := by decide +kernel
theorem d202_101 : decode (cm_M 202).2.2.1 101 = .ok (.imul, 1) := by decide +kernel
theorem d202_102 : decode (cm_M 202).2.2.1 102 = .ok (.aload_n 0, 1) := by decide +kernel
theorem d202_103 : decode (cm_M 202).2.2.1 103 = .ok (.getfield 22, 3) := by decide +kernel
theorem d202_106 : decode (cm_M 202).2.2.1 106 = .ok (.bipush 10, 2) := by decide +kernel
theorem d202_108 : decode (cm_M 202).2.2.1 108 = .ok (.iload_n 2, 1) := by decide +kernel
theorem d202_109 : decode (cm_M 202).2.2.1 109 = .ok (.imul, 1) := by decide +kernel
theorem d202_110 : decode (cm_M 202).2.2.1 110 = .ok (.iload_n 3, 1) := by decide +kernel
theorem d202_111 : decode (cm_M 202).2.2.1 111 = .ok (.iadd, 1) := by decide +kernel
theorem d202_112 : decode (cm_M 202).2.2.1 112 = .ok (.iaload, 1) := by decide +kernel
theorem d202_113 : decode (cm_M 202).2.2.1 113 = .ok (.iadd, 1) := by decide +kernel
theorem d202_114 : decode (cm_M 202).2.2.1 114 = .ok (.istore_n 1, 1) := by decide +kernel
theorem d202_115 : decode (cm_M 202).2.2.1 115 = .ok (.iconst 0, 1) := by decide +kernel
theorem d202_116 : decode (cm_M 202).2.2.1 116 = .ok (.istore 4, 2) := by decide +kernel
theorem d202_118 : decode (cm_M 202).2.2.1 118 = .ok (.iload 4, 2) := by decide +kernel
theorem d202_120 : decode (cm_M 202).2.2.1 120 = .ok (.bipush 8, 2) := by decide +kernel
theorem d202_122 : decode (cm_M 202).2.2.1 122 = .ok (.if_icmp .ge 49, 3) := by decide +kernel
theorem d202_125 : decode (cm_M 202).2.2.1 125 = .ok (.bipush 8, 2) := by decide +kernel
theorem d202_127 : decode (cm_M 202).2.2.1 127 = .ok (.bipush 10, 2) := by decide +kernel
theorem d202_129 : decode (cm_M 202).2.2.1 129 = .ok (.iload_n 2, 1) := by decide +kernel
theorem d202_130 : decode (cm_M 202).2.2.1 130 = .ok (.imul, 1) := by decide +kernel
theorem d202_131 : decode (cm_M 202).2.2.1 131 = .ok (.iload_n 3, 1) := by decide +kernel
theorem d202_132 : decode (cm_M 202).2.2.1 132 = .ok (.iadd, 1) := by decide +kernel
theorem d202_133 : decode (cm_M 202).2.2.1 133 = .ok (.imul, 1) := by decide +kernel
theorem d202_134 : decode (cm_M 202).2.2.1 134 = .ok (.iload 4, 2) := by decide +kernel
theorem d202_136 : decode (cm_M 202).2.2.1 136 = .ok (.iadd, 1) := by decide +kernel
theorem d202_137 : decode (cm_M 202).2.2.1 137 = .ok (.istore 5, 2) := by decide +kernel
theorem d202_139 : decode (cm_M 202).2.2.1 139 = .ok (.bipush 31, 2) := by decide +kernel
theorem d202_141 : decode (cm_M 202).2.2.1 141 = .ok (.iload_n 1, 1) := by decide +kernel
theorem d202_142 : decode (cm_M 202).2.2.1 142 = .ok (.imul, 1) := by decide +kernel
theorem d202_143 : decode (cm_M 202).2.2.1 143 = .ok (.aload_n 0, 1) := by decide +kernel
theorem d202_144 : decode (cm_M 202).2.2.1 144 = .ok (.getfield 31, 3) := by decide +kernel
theorem d202_147 : decode (cm_M 202).2.2.1 147 = .ok (.iload 5, 2) := by decide +kernel
theorem d202_149 : decode (cm_M 202).2.2.1 149 = .ok (.iaload, 1) := by decide +kernel
theorem d202_150 : decode (cm_M 202).2.2.1 150 = .ok (.iadd, 1) := by decide +kernel
theorem d202_151 : decode (cm_M 202).2.2.1 151 = .ok (.istore_n 1, 1) := by decide +kernel
theorem d202_152 : decode (cm_M 202).2.2.1 152 = .ok (.bipush 31, 2) := by decide +kernel
theorem d202_154 : decode (cm_M 202).2.2.1 154 = .ok (.iload_n 1, 1) := by decide +kernel
theorem d202_155 : decode (cm_M 202).2.2.1 155 = .ok (.imul, 1) := by decide +kernel
theorem d202_156 : decode (cm_M 202).2.2.1 156 = .ok (.aload_n 0, 1) := by decide +kernel
theorem d202_157 : decode (cm_M 202).2.2.1 157 = .ok (.getfield 34, 3) := by decide +kernel
theorem d202_160 : decode (cm_M 202).2.2.1 160 = .ok (.iload 5, 2) := by decide +kernel
theorem d202_162 : decode (cm_M 202).2.2.1 162 = .ok (.iaload, 1) := by decide +kernel
theorem d202_163 : decode (cm_M 202).2.2.1 163 = .ok (.iadd, 1) := by decide +kernel
theorem d202_164 : decode (cm_M 202).2.2.1 164 = .ok (.istore_n 1, 1) := by decide +kernel
theorem d202_165 : decode (cm_M 202).2.2.1 165 = .ok (.iinc 4 1, 3) := by decide +kernel
theorem d202_168 : decode (cm_M 202).2.2.1 168 = .ok (.goto (-50), 3) := by decide +kernel
theorem d202_171 : decode (cm_M 202).2.2.1 171 = .ok (.iinc 3 1, 3) := by decide +kernel
theorem d202_174 : decode (cm_M 202).2.2.1 174 = .ok (.goto (-86), 3) := by decide +kernel
theorem d202_177 : decode (cm_M 202).2.2.1 177 = .ok (.iinc 2 1, 3) := by decide +kernel
theorem d202_180 : decode (cm_M 202).2.2.1 180 = .ok (.goto (-169), 3) := by decide +kernel
theorem d202_183 : decode (cm_M 202).2.2.1 183 = .ok (.iload_n 1, 1) := by decide +kernel
theorem d202_184 : decode (cm_M 202).2.2.1 184 = .ok (.ireturn, 1) := by decide +kernel
theorem s202_0 {sc : cmS} {d : Nat} {h : cmH} {Q : Option Value → cmH → Prop} (L : LY h) (u1 : Option Value) (u2 : Option Value) (u3 : Option Value) (u4 : Option Value) (u5 : Option Value) (H : cm_wp sc d 202 11 [some (.ref 38), some (.int ((217 : Int32) + (cm_I h 38 0))), some (.int (0 : Int32)), u3, u4, u5] [] h Q) : cm_wp sc d 202 0 [some (.ref 38), u1, u2, u3, u4, u5] [] h Q :=
  wl_si (v := 217) d202_0 rfl (wl_st d202_3 rfl rfl rfl rfl (wl_gf (v := .int (cm_I h 38 0)) d202_4 pf11_330 (ly_k L 38 rfl) rfl (wl_st d202_7 rfl rfl rfl rfl (wl_st (ls' := [some (.ref 38), some (.int ((217 : Int32) + (cm_I h 38 0))), u2, u3, u4, u5]) d202_8 rfl rfl rfl rfl (wl_ic (v := 0) d202_9 rfl (wl_st (ls' := [some (.ref 38), some (.int ((217 : Int32) + (cm_I h 38 0))), some (.int (0 : Int32)), u3, u4, u5]) d202_10 rfl rfl rfl rfl (H)))))))
theorem s202_11 {sc : cmS} {d : Nat} {h : cmH} {Q : Option Value → cmH → Prop} (L : LY h) (x1 : Int32) (x2 : Int32) (u3 : Option Value) (u4 : Option Value) (u5 : Option Value) (H : ((((cm_I h 38 24) ≤ x2) → Q (some (.int x1)) h) ∧ (¬ ((cm_I h 38 24) ≤ x2) → (IX 9 x2) ∧ cm_wp sc d 202 57 [some (.ref 38), some (.int (((31 : Int32) * (((31 : Int32) * (((31 : Int32) * x1) + (cm_I h 52 x2.toNatClampNeg))) + (cm_I h 53 x2.toNatClampNeg))) + (cm_I h 54 x2.toNatClampNeg))), some (.int x2), some (.int (0 : Int32)), u4, u5] [] h Q))) : cm_wp sc d 202 11 [some (.ref 38), some (.int x1), some (.int x2), u3, u4, u5] [] h Q :=
  wl_st d202_11 rfl rfl rfl rfl (wl_st d202_12 rfl rfl rfl rfl (wl_gf (v := .int (cm_I h 38 24)) d202_13 pf11_165 (ly_k L 38 rfl) rfl (wl_cb (b := (cm_I h 38 24) ≤ x2) (off := 167) (tgt := 183) (pc3 := 19) (st' := []) d202_16 rfl rfl rfl rfl (by decide) rfl (fun c1 => wl_st d202_183 rfl rfl rfl rfl (wl_rt d202_184 rfl rfl rfl (H.1 c1))) (fun c1 => wl_bi (v := 31) d202_19 rfl (wl_st d202_21 rfl rfl rfl rfl (wl_st d202_22 rfl rfl rfl rfl (wl_st d202_23 rfl rfl rfl rfl (wl_gr (b := 52) d202_24 pf11_49 (ly_k L 38 rfl) rfl (ly_r L 38 15 rfl) (wl_st d202_27 rfl rfl rfl rfl (And.elim (fun g2 g2k => wl_if (g := cm_ok h 13 52 x2) (st' := [.int (cm_I h 52 x2.toNatClampNeg), .int ((31 : Int32) * x1)]) d202_28 rfl rfl rfl rfl (ly_o L 52 rfl g2) (wl_st d202_29 rfl rfl rfl rfl (wl_st (ls' := [some (.ref 38), some (.int (((31 : Int32) * x1) + (cm_I h 52 x2.toNatClampNeg))), some (.int x2), u3, u4, u5]) d202_30 rfl rfl rfl rfl (wl_bi (v := 31) d202_31 rfl (wl_st d202_33 rfl rfl rfl rfl (wl_st d202_34 rfl rfl rfl rfl (wl_st d202_35 rfl rfl rfl rfl (wl_gr (b := 53) d202_36 pf11_52 (ly_k L 38 rfl) rfl (ly_r L 38 16 rfl) (wl_st d202_39 rfl rfl rfl rfl (wl_if (g := cm_ok h 13 53 x2) (st' := [.int (cm_I h 53 x2.toNatClampNeg), .int ((31 : Int32) * (((31 : Int32) * x1) + (cm_I h 52 x2.toNatClampNeg)))]) d202_40 rfl rfl rfl rfl (ly_o L 53 rfl g2) (wl_st d202_41 rfl rfl rfl rfl (wl_st (ls' := [some (.ref 38), some (.int (((31 : Int32) * (((31 : Int32) * x1) + (cm_I h 52 x2.toNatClampNeg))) + (cm_I h 53 x2.toNatClampNeg))), some (.int x2), u3, u4, u5]) d202_42 rfl rfl rfl rfl (wl_bi (v := 31) d202_43 rfl (wl_st d202_45 rfl rfl rfl rfl (wl_st d202_46 rfl rfl rfl rfl (wl_st d202_47 rfl rfl rfl rfl (wl_gr (b := 54) d202_48 pf11_55 (ly_k L 38 rfl) rfl (ly_r L 38 17 rfl) (wl_st d202_51 rfl rfl rfl rfl (wl_if (g := cm_ok h 13 54 x2) (st' := [.int (cm_I h 54 x2.toNatClampNeg), .int ((31 : Int32) * (((31 : Int32) * (((31 : Int32) * x1) + (cm_I h 52 x2.toNatClampNeg))) + (cm_I h 53 x2.toNatClampNeg)))]) d202_52 rfl rfl rfl rfl (ly_o L 54 rfl g2) (wl_st d202_53 rfl rfl rfl rfl (wl_st (ls' := [some (.ref 38), some (.int (((31 : Int32) * (((31 : Int32) * (((31 : Int32) * x1) + (cm_I h 52 x2.toNatClampNeg))) + (cm_I h 53 x2.toNatClampNeg))) + (cm_I h 54 x2.toNatClampNeg))), some (.int x2), u3, u4, u5]) d202_54 rfl rfl rfl rfl (wl_ic (v := 0) d202_55 rfl (wl_st (ls' := [some (.ref 38), some (.int (((31 : Int32) * (((31 : Int32) * (((31 : Int32) * x1) + (cm_I h 52 x2.toNatClampNeg))) + (cm_I h 53 x2.toNatClampNeg))) + (cm_I h 54 x2.toNatClampNeg))), some (.int x2), some (.int (0 : Int32)), u4, u5]) d202_56 rfl rfl rfl rfl (g2k)))))))))))))))))))))))) (H.2 c1)))))))))))
theorem s202_57 {sc : cmS} {d : Nat} {h : cmH} {Q : Option Value → cmH → Prop} (L : LY h) (x1 : Int32) (x2 : Int32) (x3 : Int32) (u4 : Option Value) (u5 : Option Value) (H : ((((8 : Int32) ≤ x3) → cm_wp sc d 202 88 [some (.ref 38), some (.int x1), some (.int x2), some (.int (0 : Int32)), u4, u5] [] h Q) ∧ (¬ ((8 : Int32) ≤ x3) → (IX 72 (((8 : Int32) * x2) + x3)) ∧ cm_wp sc d 202 57 [some (.ref 38), some (.int (((31 : Int32) * x1) + (cm_I h 48 (((8 : Int32) * x2) + x3).toNatClampNeg))), some (.int x2), some (.int (x3 + 1)), u4, u5] [] h Q))) : cm_wp sc d 202 57 [some (.ref 38), some (.int x1), some (.int x2), some (.int x3), u4, u5] [] h Q :=
  wl_st d202_57 rfl rfl rfl rfl (wl_bi (v := 8) d202_58 rfl (wl_cb (b := (8 : Int32) ≤ x3) (off := 26) (tgt := 86) (pc3 := 63) (st' := []) d202_60 rfl rfl rfl rfl (by decide) rfl (fun c1 => wl_ic (v := 0) d202_86 rfl (wl_st (ls' := [some (.ref 38), some (.int x1), some (.int x2), some (.int (0 : Int32)), u4, u5]) d202_87 rfl rfl rfl rfl ((H.1 c1)))) (fun c1 => wl_bi (v := 31) d202_63 rfl (wl_st d202_65 rfl rfl rfl rfl (wl_st d202_66 rfl rfl rfl rfl (wl_st d202_67 rfl rfl rfl rfl (wl_gr (b := 48) d202_68 pf11_37 (ly_k L 38 rfl) rfl (ly_r L 38 11 rfl) (wl_bi (v := 8) d202_71 rfl (wl_st d202_73 rfl rfl rfl rfl (wl_st d202_74 rfl rfl rfl rfl (wl_st d202_75 rfl rfl rfl rfl (wl_st d202_76 rfl rfl rfl rfl (And.elim (fun g2 g2k => wl_if (g := cm_ok h 13 48 (((8 : Int32) * x2) + x3)) (st' := [.int (cm_I h 48 (((8 : Int32) * x2) + x3).toNatClampNeg), .int ((31 : Int32) * x1)]) d202_77 rfl rfl rfl rfl (ly_o L 48 rfl g2) (wl_st d202_78 rfl rfl rfl rfl (wl_st (ls' := [some (.ref 38), some (.int (((31 : Int32) * x1) + (cm_I h 48 (((8 : Int32) * x2) + x3).toNatClampNeg))), some (.int x2), some (.int x3), u4, u5]) d202_79 rfl rfl rfl rfl (wl_st (ls' := [some (.ref 38), some (.int (((31 : Int32) * x1) + (cm_I h 48 (((8 : Int32) * x2) + x3).toNatClampNeg))), some (.int x2), some (.int (x3 + 1)), u4, u5]) d202_80 rfl rfl rfl rfl (wl_go (tgt := 57) d202_83 (by decide) (g2k)))))) (H.2 c1))))))))))))))
theorem s202_88 {sc : cmS} {d : Nat} {h : cmH} {Q : Option Value → cmH → Prop} (L : LY h) (x1 : Int32) (x2 : Int32) (x3 : Int32) (u4 : Option Value) (u5 : Option Value) (H : (IX 9 x2) ∧ ((((cm_I h 42 x2.toNatClampNeg) ≤ x3) → cm_wp sc d 202 11 [some (.ref 38), some (.int x1), some (.int (x2 + 1)), some (.int x3), u4, u5] [] h Q) ∧ (¬ ((cm_I h 42 x2.toNatClampNeg) ≤ x3) → (IX 90 (((10 : Int32) * x2) + x3)) ∧ cm_wp sc d 202 118 [some (.ref 38), some (.int (((31 : Int32) * x1) + (cm_I h 43 (((10 : Int32) * x2) + x3).toNatClampNeg))), some (.int x2), some (.int x3), some (.int (0 : Int32)), u5] [] h Q))) : cm_wp sc d 202 88 [some (.ref 38), some (.int x1), some (.int x2), some (.int x3), u4, u5] [] h Q :=
  wl_st d202_88 rfl rfl rfl rfl (wl_st d202_89 rfl rfl rfl rfl (wl_gr (b := 42) d202_90 pf11_19 (ly_k L 38 rfl) rfl (ly_r L 38 5 rfl) (wl_st d202_93 rfl rfl rfl rfl (And.elim (fun g1 g1k => wl_if (g := cm_ok h 13 42 x2) (st' := [.int (cm_I h 42 x2.toNatClampNeg), .int x3]) d202_94 rfl rfl rfl rfl (ly_o L 42 rfl g1) (wl_cb (b := (cm_I h 42 x2.toNatClampNeg) ≤ x3) (off := 82) (tgt := 177) (pc3 := 98) (st' := []) d202_95 rfl rfl rfl rfl (by decide) rfl (fun c2 => wl_st (ls' := [some (.ref 38), some (.int x1), some (.int (x2 + 1)), some (.int x3), u4, u5]) d202_177 rfl rfl rfl rfl (wl_go (tgt := 11) d202_180 (by decide) ((g1k.1 c2)))) (fun c2 => wl_bi (v := 31) d202_98 rfl (wl_st d202_100 rfl rfl rfl rfl (wl_st d202_101 rfl rfl rfl rfl (wl_st d202_102 rfl rfl rfl rfl (wl_gr (b := 43) d202_103 pf11_22 (ly_k L 38 rfl) rfl (ly_r L 38 6 rfl) (wl_bi (v := 10) d202_106 rfl (wl_st d202_108 rfl rfl rfl rfl (wl_st d202_109 rfl rfl rfl rfl (wl_st d202_110 rfl rfl rfl rfl (wl_st d202_111 rfl rfl rfl rfl (And.elim (fun g3 g3k => wl_if (g := cm_ok h 13 43 (((10 : Int32) * x2) + x3)) (st' := [.int (cm_I h 43 (((10 : Int32) * x2) + x3).toNatClampNeg), .int ((31 : Int32) * x1)]) d202_112 rfl rfl rfl rfl (ly_o L 43 rfl g3) (wl_st d202_113 rfl rfl rfl rfl (wl_st (ls' := [some (.ref 38), some (.int (((31 : Int32) * x1) + (cm_I h 43 (((10 : Int32) * x2) + x3).toNatClampNeg))), some (.int x2), some (.int x3), u4, u5]) d202_114 rfl rfl rfl rfl (wl_ic (v := 0) d202_115 rfl (wl_st (ls' := [some (.ref 38), some (.int (((31 : Int32) * x1) + (cm_I h 43 (((10 : Int32) * x2) + x3).toNatClampNeg))), some (.int x2), some (.int x3), some (.int (0 : Int32)), u5]) d202_116 rfl rfl rfl rfl (g3k)))))) (g1k.2 c2)))))))))))))) H))))
theorem s202_118 {sc : cmS} {d : Nat} {h : cmH} {Q : Option Value → cmH → Prop} (L : LY h) (x1 : Int32) (x2 : Int32) (x3 : Int32) (x4 : Int32) (u5 : Option Value) (H : ((((8 : Int32) ≤ x4) → cm_wp sc d 202 88 [some (.ref 38), some (.int x1), some (.int x2), some (.int (x3 + 1)), some (.int x4), u5] [] h Q) ∧ (¬ ((8 : Int32) ≤ x4) → (IX 720 (((8 : Int32) * (((10 : Int32) * x2) + x3)) + x4)) ∧ cm_wp sc d 202 118 [some (.ref 38), some (.int (((31 : Int32) * (((31 : Int32) * x1) + (cm_I h 46 (((8 : Int32) * (((10 : Int32) * x2) + x3)) + x4).toNatClampNeg))) + (cm_I h 47 (((8 : Int32) * (((10 : Int32) * x2) + x3)) + x4).toNatClampNeg))), some (.int x2), some (.int x3), some (.int (x4 + 1)), some (.int (((8 : Int32) * (((10 : Int32) * x2) + x3)) + x4))] [] h Q))) : cm_wp sc d 202 118 [some (.ref 38), some (.int x1), some (.int x2), some (.int x3), some (.int x4), u5] [] h Q :=
  wl_st d202_118 rfl rfl rfl rfl (wl_bi (v := 8) d202_120 rfl (wl_cb (b := (8 : Int32) ≤ x4) (off := 49) (tgt := 171) (pc3 := 125) (st' := []) d202_122 rfl rfl rfl rfl (by decide) rfl (fun c1 => wl_st (ls' := [some (.ref 38), some (.int x1), some (.int x2), some (.int (x3 + 1)), some (.int x4), u5]) d202_171 rfl rfl rfl rfl (wl_go (tgt := 88) d202_174 (by decide) ((H.1 c1)))) (fun c1 => wl_bi (v := 8) d202_125 rfl (wl_bi (v := 10) d202_127 rfl (wl_st d202_129 rfl rfl rfl rfl (wl_st d202_130 rfl rfl rfl rfl (wl_st d202_131 rfl rfl rfl rfl (wl_st d202_132 rfl rfl rfl rfl (wl_st d202_133 rfl rfl rfl rfl (wl_st d202_134 rfl rfl rfl rfl (wl_st d202_136 rfl rfl rfl rfl (wl_st (ls' := [some (.ref 38), some (.int x1), some (.int x2), some (.int x3), some (.int x4), some (.int (((8 : Int32) * (((10 : Int32) * x2) + x3)) + x4))]) d202_137 rfl rfl rfl rfl (wl_bi (v := 31) d202_139 rfl (wl_st d202_141 rfl rfl rfl rfl (wl_st d202_142 rfl rfl rfl rfl (wl_st d202_143 rfl rfl rfl rfl (wl_gr (b := 46) d202_144 pf11_31 (ly_k L 38 rfl) rfl (ly_r L 38 9 rfl) (wl_st d202_147 rfl rfl rfl rfl (And.elim (fun g2 g2k => wl_if (g := cm_ok h 13 46 (((8 : Int32) * (((10 : Int32) * x2) + x3)) + x4)) (st' := [.int (cm_I h 46 (((8 : Int32) * (((10 : Int32) * x2) + x3)) + x4).toNatClampNeg), .int ((31 : Int32) * x1)]) d202_149 rfl rfl rfl rfl (ly_o L 46 rfl g2) (wl_st d202_150 rfl rfl rfl rfl (wl_st (ls' := [some (.ref 38), some (.int (((31 : Int32) * x1) + (cm_I h 46 (((8 : Int32) * (((10 : Int32) * x2) + x3)) + x4).toNatClampNeg))), some (.int x2), some (.int x3), some (.int x4), some (.int (((8 : Int32) * (((10 : Int32) * x2) + x3)) + x4))]) d202_151 rfl rfl rfl rfl (wl_bi (v := 31) d202_152 rfl (wl_st d202_154 rfl rfl rfl rfl (wl_st d202_155 rfl rfl rfl rfl (wl_st d202_156 rfl rfl rfl rfl (wl_gr (b := 47) d202_157 pf11_34 (ly_k L 38 rfl) rfl (ly_r L 38 10 rfl) (wl_st d202_160 rfl rfl rfl rfl (wl_if (g := cm_ok h 13 47 (((8 : Int32) * (((10 : Int32) * x2) + x3)) + x4)) (st' := [.int (cm_I h 47 (((8 : Int32) * (((10 : Int32) * x2) + x3)) + x4).toNatClampNeg), .int ((31 : Int32) * (((31 : Int32) * x1) + (cm_I h 46 (((8 : Int32) * (((10 : Int32) * x2) + x3)) + x4).toNatClampNeg)))]) d202_162 rfl rfl rfl rfl (ly_o L 47 rfl g2) (wl_st d202_163 rfl rfl rfl rfl (wl_st (ls' := [some (.ref 38), some (.int (((31 : Int32) * (((31 : Int32) * x1) + (cm_I h 46 (((8 : Int32) * (((10 : Int32) * x2) + x3)) + x4).toNatClampNeg))) + (cm_I h 47 (((8 : Int32) * (((10 : Int32) * x2) + x3)) + x4).toNatClampNeg))), some (.int x2), some (.int x3), some (.int x4), some (.int (((8 : Int32) * (((10 : Int32) * x2) + x3)) + x4))]) d202_164 rfl rfl rfl rfl (wl_st (ls' := [some (.ref 38), some (.int (((31 : Int32) * (((31 : Int32) * x1) + (cm_I h 46 (((8 : Int32) * (((10 : Int32) * x2) + x3)) + x4).toNatClampNeg))) + (cm_I h 47 (((8 : Int32) * (((10 : Int32) * x2) + x3)) + x4).toNatClampNeg))), some (.int x2), some (.int x3), some (.int (x4 + 1)), some (.int (((8 : Int32) * (((10 : Int32) * x2) + x3)) + x4))]) d202_165 rfl rfl rfl rfl (wl_go (tgt := 118) d202_168 (by decide) (g2k))))))))))))))) (H.2 c1))))))))))))))))))))
-- ClogHouseModel.share(IIII)J
theorem d203_0 : decode (cm_M 203).2.2.1 0 = .ok (.iload_n 1, 1) := by decide +kernel
theorem d203_1 : decode (cm_M 203).2.2.1 1 = .ok (.iconst 1, 1) := by decide +kernel
theorem d203_2 : decode (cm_M 203).2.2.1 2 = .ok (.bipush 60, 2) := by decide +kernel
theorem d203_4 : decode (cm_M 203).2.2.1 4 = .ok (.invokestatic 161, 3) := by decide +kernel
theorem d203_7 : decode (cm_M 203).2.2.1 7 = .ok (.ifCond .eq 31, 3) := by decide +kernel
theorem d203_10 : decode (cm_M 203).2.2.1 10 = .ok (.iload_n 2, 1) := by decide +kernel
theorem d203_11 : decode (cm_M 203).2.2.1 11 = .ok (.iconst 0, 1) := by decide +kernel
theorem d203_12 : decode (cm_M 203).2.2.1 12 = .ok (.iload_n 1, 1) := by decide +kernel
theorem d203_13 : decode (cm_M 203).2.2.1 13 = .ok (.invokestatic 161, 3) := by decide +kernel
theorem d203_16 : decode (cm_M 203).2.2.1 16 = .ok (.ifCond .eq 22, 3) := by decide +kernel
theorem d203_19 : decode (cm_M 203).2.2.1 19 = .ok (.iload_n 3, 1) := by decide +kernel
theorem d203_20 : decode (cm_M 203).2.2.1 20 = .ok (.iconst 0, 1) := by decide +kernel
theorem d203_21 : decode (cm_M 203).2.2.1 21 = .ok (.iload_n 1, 1) := by decide +kernel
theorem d203_22 : decode (cm_M 203).2.2.1 22 = .ok (.invokestatic 161, 3) := by decide +kernel
theorem d203_25 : decode (cm_M 203).2.2.1 25 = .ok (.ifCond .eq 13, 3) := by decide +kernel
theorem d203_28 : decode (cm_M 203).2.2.1 28 = .ok (.iload 4, 2) := by decide +kernel
theorem d203_30 : decode (cm_M 203).2.2.1 30 = .ok (.iconst 0, 1) := by decide +kernel
theorem d203_31 : decode (cm_M 203).2.2.1 31 = .ok (.iconst 1, 1) := by decide +kernel
theorem d203_32 : decode (cm_M 203).2.2.1 32 = .ok (.invokestatic 161, 3) := by decide +kernel
theorem d203_35 : decode (cm_M 203).2.2.1 35 = .ok (.ifCond .ne 7, 3) := by decide +kernel
theorem d203_38 : decode (cm_M 203).2.2.1 38 = .ok (.ldc2_w 366, 3) := by decide +kernel
theorem d203_41 : decode (cm_M 203).2.2.1 41 = .ok (.lreturn, 1) := by decide +kernel
theorem d203_42 : decode (cm_M 203).2.2.1 42 = .ok (.iload_n 3, 1) := by decide +kernel
theorem d203_43 : decode (cm_M 203).2.2.1 43 = .ok (.iload_n 1, 1) := by decide +kernel
theorem d203_44 : decode (cm_M 203).2.2.1 44 = .ok (.iload_n 2, 1) := by decide +kernel
theorem d203_45 : decode (cm_M 203).2.2.1 45 = .ok (.isub, 1) := by decide +kernel
theorem d203_46 : decode (cm_M 203).2.2.1 46 = .ok (.if_icmp .le 7, 3) := by decide +kernel
theorem d203_49 : decode (cm_M 203).2.2.1 49 = .ok (.lconst 0, 1) := by decide +kernel
theorem d203_50 : decode (cm_M 203).2.2.1 50 = .ok (.goto 10, 3) := by decide +kernel
theorem d203_53 : decode (cm_M 203).2.2.1 53 = .ok (.iload_n 1, 1) := by decide +kernel
theorem d203_54 : decode (cm_M 203).2.2.1 54 = .ok (.iload_n 2, 1) := by decide +kernel
theorem d203_55 : decode (cm_M 203).2.2.1 55 = .ok (.isub, 1) := by decide +kernel
theorem d203_56 : decode (cm_M 203).2.2.1 56 = .ok (.iload_n 3, 1) := by decide +kernel
theorem d203_57 : decode (cm_M 203).2.2.1 57 = .ok (.invokestatic 368, 3) := by decide +kernel
theorem d203_60 : decode (cm_M 203).2.2.1 60 = .ok (.lstore 5, 2) := by decide +kernel
theorem d203_62 : decode (cm_M 203).2.2.1 62 = .ok (.iload_n 1, 1) := by decide +kernel
theorem d203_63 : decode (cm_M 203).2.2.1 63 = .ok (.iload_n 3, 1) := by decide +kernel
theorem d203_64 : decode (cm_M 203).2.2.1 64 = .ok (.invokestatic 368, 3) := by decide +kernel
theorem d203_67 : decode (cm_M 203).2.2.1 67 = .ok (.lstore 7, 2) := by decide +kernel
theorem d203_69 : decode (cm_M 203).2.2.1 69 = .ok (.lload 5, 2) := by decide +kernel
theorem d203_71 : decode (cm_M 203).2.2.1 71 = .ok (.lload 7, 2) := by decide +kernel
theorem d203_73 : decode (cm_M 203).2.2.1 73 = .ok (.invokestatic 363, 3) := by decide +kernel
theorem d203_76 : decode (cm_M 203).2.2.1 76 = .ok (.lstore 9, 2) := by decide +kernel
theorem d203_78 : decode (cm_M 203).2.2.1 78 = .ok (.iload 4, 2) := by decide +kernel
theorem d203_80 : decode (cm_M 203).2.2.1 80 = .ok (.ifCond .ne 11, 3) := by decide +kernel
theorem d203_83 : decode (cm_M 203).2.2.1 83 = .ok (.lload 5, 2) := by decide +kernel
theorem d203_85 : decode (cm_M 203).2.2.1 85 = .ok (.lload 9, 2) := by decide +kernel
theorem d203_87 : decode (cm_M 203).2.2.1 87 = .ok (.ldiv, 1) := by decide +kernel
theorem d203_88 : decode (cm_M 203).2.2.1 88 = .ok (.goto 8, 3) := by decide +kernel
theorem d203_91 : decode (cm_M 203).2.2.1 91 = .ok (.lload 7, 2) := by decide +kernel
theorem d203_93 : decode (cm_M 203).2.2.1 93 = .ok (.lload 9, 2) := by decide +kernel
theorem d203_95 : decode (cm_M 203).2.2.1 95 = .ok (.ldiv, 1) := by decide +kernel
theorem d203_96 : decode (cm_M 203).2.2.1 96 = .ok (.lreturn, 1) := by decide +kernel
theorem s203_0 {sc : cmS} {d : Nat} {h : cmH} {Q : Option Value → cmH → Prop} (x1 : Int32) (x2 : Int32) (x3 : Int32) (x4 : Int32) (u5 : Option Value) (u6 : Option Value) (u7 : Option Value) (u8 : Option Value) (u9 : Option Value) (u10 : Option Value) (H : cm_ci sc d 137 [.int x1, .int (1 : Int32), .int (60 : Int32)] h (fun r h' => cm_wp sc (d + 1) 203 7 [some (.ref 38), some (.int x1), some (.int x2), some (.int x3), some (.int x4), u5, u6, u7, u8, u9, u10] [.int r] h' Q)) : cm_wp sc (d + 1) 203 0 [some (.ref 38), some (.int x1), some (.int x2), some (.int x3), some (.int x4), u5, u6, u7, u8, u9, u10] [] h Q :=
  wl_st d203_0 rfl rfl rfl rfl (wl_ic (v := 1) d203_1 rfl (wl_bi (v := 60) d203_2 rfl (wl_ci d203_4 rfl rfl rfl pm11_161 (by decide) (ca_s (Or.inl rfl) rfl (Nat.le_of_ble_eq_true rfl) (Nat.le_of_ble_eq_true rfl)) H)))
theorem s203_7 {sc : cmS} {d : Nat} {h : cmH} {Q : Option Value → cmH → Prop} (x1 : Int32) (x2 : Int32) (x3 : Int32) (x4 : Int32) (u5 : Option Value) (u6 : Option Value) (u7 : Option Value) (u8 : Option Value) (u9 : Option Value) (u10 : Option Value) (sx0 : Int32) (H : (((sx0 = 0) → Q (some (.long (-1 : Int64))) h) ∧ (¬ (sx0 = 0) → cm_ci sc d 137 [.int x2, .int (0 : Int32), .int x1] h (fun r h' => cm_wp sc (d + 1) 203 16 [some (.ref 38), some (.int x1), some (.int x2), some (.int x3), some (.int x4), u5, u6, u7, u8, u9, u10] [.int r] h' Q)))) : cm_wp sc (d + 1) 203 7 [some (.ref 38), some (.int x1), some (.int x2), some (.int x3), some (.int x4), u5, u6, u7, u8, u9, u10] [.int sx0] h Q :=
  wl_cb (b := sx0 = 0) (off := 31) (tgt := 38) (pc3 := 10) (st' := []) d203_7 rfl rfl rfl rfl (by decide) rfl (fun c1 => wl_cJ (v := (-1)) d203_38 pj11_366 (wl_rt d203_41 rfl rfl rfl (H.1 c1))) (fun c1 => wl_st d203_10 rfl rfl rfl rfl (wl_ic (v := 0) d203_11 rfl (wl_st d203_12 rfl rfl rfl rfl (wl_ci d203_13 rfl rfl rfl pm11_161 (by decide) (ca_s (Or.inl rfl) rfl (Nat.le_of_ble_eq_true rfl) (Nat.le_of_ble_eq_true rfl)) (H.2 c1)))))
theorem s203_16 {sc : cmS} {d : Nat} {h : cmH} {Q : Option Value → cmH → Prop} (x1 : Int32) (x2 : Int32) (x3 : Int32) (x4 : Int32) (u5 : Option Value) (u6 : Option Value) (u7 : Option Value) (u8 : Option Value) (u9 : Option Value) (u10 : Option Value) (sx0 : Int32) (H : (((sx0 = 0) → Q (some (.long (-1 : Int64))) h) ∧ (¬ (sx0 = 0) → cm_ci sc d 137 [.int x3, .int (0 : Int32), .int x1] h (fun r h' => cm_wp sc (d + 1) 203 25 [some (.ref 38), some (.int x1), some (.int x2), some (.int x3), some (.int x4), u5, u6, u7, u8, u9, u10] [.int r] h' Q)))) : cm_wp sc (d + 1) 203 16 [some (.ref 38), some (.int x1), some (.int x2), some (.int x3), some (.int x4), u5, u6, u7, u8, u9, u10] [.int sx0] h Q :=
  wl_cb (b := sx0 = 0) (off := 22) (tgt := 38) (pc3 := 19) (st' := []) d203_16 rfl rfl rfl rfl (by decide) rfl (fun c1 => wl_cJ (v := (-1)) d203_38 pj11_366 (wl_rt d203_41 rfl rfl rfl (H.1 c1))) (fun c1 => wl_st d203_19 rfl rfl rfl rfl (wl_ic (v := 0) d203_20 rfl (wl_st d203_21 rfl rfl rfl rfl (wl_ci d203_22 rfl rfl rfl pm11_161 (by decide) (ca_s (Or.inl rfl) rfl (Nat.le_of_ble_eq_true rfl) (Nat.le_of_ble_eq_true rfl)) (H.2 c1)))))
theorem s203_25 {sc : cmS} {d : Nat} {h : cmH} {Q : Option Value → cmH → Prop} (x1 : Int32) (x2 : Int32) (x3 : Int32) (x4 : Int32) (u5 : Option Value) (u6 : Option Value) (u7 : Option Value) (u8 : Option Value) (u9 : Option Value) (u10 : Option Value) (sx0 : Int32) (H : (((sx0 = 0) → Q (some (.long (-1 : Int64))) h) ∧ (¬ (sx0 = 0) → cm_ci sc d 137 [.int x4, .int (0 : Int32), .int (1 : Int32)] h (fun r h' => cm_wp sc (d + 1) 203 35 [some (.ref 38), some (.int x1), some (.int x2), some (.int x3), some (.int x4), u5, u6, u7, u8, u9, u10] [.int r] h' Q)))) : cm_wp sc (d + 1) 203 25 [some (.ref 38), some (.int x1), some (.int x2), some (.int x3), some (.int x4), u5, u6, u7, u8, u9, u10] [.int sx0] h Q :=
  wl_cb (b := sx0 = 0) (off := 13) (tgt := 38) (pc3 := 28) (st' := []) d203_25 rfl rfl rfl rfl (by decide) rfl (fun c1 => wl_cJ (v := (-1)) d203_38 pj11_366 (wl_rt d203_41 rfl rfl rfl (H.1 c1))) (fun c1 => wl_st d203_28 rfl rfl rfl rfl (wl_ic (v := 0) d203_30 rfl (wl_ic (v := 1) d203_31 rfl (wl_ci d203_32 rfl rfl rfl pm11_161 (by decide) (ca_s (Or.inl rfl) rfl (Nat.le_of_ble_eq_true rfl) (Nat.le_of_ble_eq_true rfl)) (H.2 c1)))))
theorem s203_35 {sc : cmS} {d : Nat} {h : cmH} {Q : Option Value → cmH → Prop} (x1 : Int32) (x2 : Int32) (x3 : Int32) (x4 : Int32) (u5 : Option Value) (u6 : Option Value) (u7 : Option Value) (u8 : Option Value) (u9 : Option Value) (u10 : Option Value) (sx0 : Int32) (H : (((¬ sx0 = 0) → (((x3 ≤ (x1 - x2)) → cm_cj' sc d 204 [.int (x1 - x2), .int x3] h (fun r h' => cm_wp sc (d + 1) 203 60 [some (.ref 38), some (.int x1), some (.int x2), some (.int x3), some (.int x4), u5, u6, u7, u8, u9, u10] [.long r] h' Q)) ∧ (¬ (x3 ≤ (x1 - x2)) → cm_wp sc (d + 1) 203 60 [some (.ref 38), some (.int x1), some (.int x2), some (.int x3), some (.int x4), u5, u6, u7, u8, u9, u10] [.long (0 : Int64)] h Q))) ∧ (¬ (¬ sx0 = 0) → Q (some (.long (-1 : Int64))) h))) : cm_wp sc (d + 1) 203 35 [some (.ref 38), some (.int x1), some (.int x2), some (.int x3), some (.int x4), u5, u6, u7, u8, u9, u10] [.int sx0] h Q :=
  wl_cb (b := ¬ sx0 = 0) (off := 7) (tgt := 42) (pc3 := 38) (st' := []) d203_35 rfl rfl rfl rfl (by decide) rfl (fun c1 => wl_st d203_42 rfl rfl rfl rfl (wl_st d203_43 rfl rfl rfl rfl (wl_st d203_44 rfl rfl rfl rfl (wl_st d203_45 rfl rfl rfl rfl (wl_cb (b := x3 ≤ (x1 - x2)) (off := 7) (tgt := 53) (pc3 := 49) (st' := []) d203_46 rfl rfl rfl rfl (by decide) rfl (fun c2 => wl_st d203_53 rfl rfl rfl rfl (wl_st d203_54 rfl rfl rfl rfl (wl_st d203_55 rfl rfl rfl rfl (wl_st d203_56 rfl rfl rfl rfl (wl_cj d203_57 rfl rfl rfl pm11_368 (by decide) (ca_s (Or.inl rfl) rfl (Nat.le_of_ble_eq_true rfl) (Nat.le_of_ble_eq_true rfl)) ((H.1 c1).1 c2)))))) (fun c2 => wl_lc (v := 0) d203_49 rfl (wl_go (tgt := 60) d203_50 (by decide) (((H.1 c1).2 c2))))))))) (fun c1 => wl_cJ (v := (-1)) d203_38 pj11_366 (wl_rt d203_41 rfl rfl rfl (H.2 c1)))
theorem s203_60 {sc : cmS} {d : Nat} {h : cmH} {Q : Option Value → cmH → Prop} (x1 : Int32) (x2 : Int32) (x3 : Int32) (x4 : Int32) (u5 : Option Value) (u6 : Option Value) (u7 : Option Value) (u8 : Option Value) (u9 : Option Value) (u10 : Option Value) (sy0 : Int64) (H : cm_cj' sc d 204 [.int x1, .int x3] h (fun r h' => cm_wp sc (d + 1) 203 67 [some (.ref 38), some (.int x1), some (.int x2), some (.int x3), some (.int x4), some (.long sy0), none, u7, u8, u9, u10] [.long r] h' Q)) : cm_wp sc (d + 1) 203 60 [some (.ref 38), some (.int x1), some (.int x2), some (.int x3), some (.int x4), u5, u6, u7, u8, u9, u10] [.long sy0] h Q :=
  wl_st (ls' := [some (.ref 38), some (.int x1), some (.int x2), some (.int x3), some (.int x4), some (.long sy0), none, u7, u8, u9, u10]) d203_60 rfl rfl rfl rfl (wl_st d203_62 rfl rfl rfl rfl (wl_st d203_63 rfl rfl rfl rfl (wl_cj d203_64 rfl rfl rfl pm11_368 (by decide) (ca_s (Or.inl rfl) rfl (Nat.le_of_ble_eq_true rfl) (Nat.le_of_ble_eq_true rfl)) H)))
theorem s203_67 {sc : cmS} {d : Nat} {h : cmH} {Q : Option Value → cmH → Prop} (x1 : Int32) (x2 : Int32) (x3 : Int32) (x4 : Int32) (y5 : Int64) (u7 : Option Value) (u8 : Option Value) (u9 : Option Value) (u10 : Option Value) (sy0 : Int64) (H : cm_cj' sc d 206 [.long y5, .long sy0] h (fun r h' => cm_wp sc (d + 1) 203 76 [some (.ref 38), some (.int x1), some (.int x2), some (.int x3), some (.int x4), some (.long y5), none, some (.long sy0), none, u9, u10] [.long r] h' Q)) : cm_wp sc (d + 1) 203 67 [some (.ref 38), some (.int x1), some (.int x2), some (.int x3), some (.int x4), some (.long y5), none, u7, u8, u9, u10] [.long sy0] h Q :=
  wl_st (ls' := [some (.ref 38), some (.int x1), some (.int x2), some (.int x3), some (.int x4), some (.long y5), none, some (.long sy0), none, u9, u10]) d203_67 rfl rfl rfl rfl (wl_st d203_69 rfl rfl rfl rfl (wl_st d203_71 rfl rfl rfl rfl (wl_cj d203_73 rfl rfl rfl pm11_363 (by decide) (ca_s (Or.inl rfl) rfl (Nat.le_of_ble_eq_true rfl) (Nat.le_of_ble_eq_true rfl)) H)))
theorem s203_76 {sc : cmS} {d : Nat} {h : cmH} {Q : Option Value → cmH → Prop} (x1 : Int32) (x2 : Int32) (x3 : Int32) (x4 : Int32) (y5 : Int64) (y7 : Int64) (u9 : Option Value) (u10 : Option Value) (sy0 : Int64) (H : (((¬ x4 = 0) → (¬ sy0 = 0) ∧ Q (some (.long (y7 / sy0))) h) ∧ (¬ (¬ x4 = 0) → (¬ sy0 = 0) ∧ Q (some (.long (y5 / sy0))) h))) : cm_wp sc d 203 76 [some (.ref 38), some (.int x1), some (.int x2), some (.int x3), some (.int x4), some (.long y5), none, some (.long y7), none, u9, u10] [.long sy0] h Q :=
  wl_st (ls' := [some (.ref 38), some (.int x1), some (.int x2), some (.int x3), some (.int x4), some (.long y5), none, some (.long y7), none, some (.long sy0), none]) d203_76 rfl rfl rfl rfl (wl_st d203_78 rfl rfl rfl rfl (wl_cb (b := ¬ x4 = 0) (off := 11) (tgt := 91) (pc3 := 83) (st' := []) d203_80 rfl rfl rfl rfl (by decide) rfl (fun c1 => wl_st d203_91 rfl rfl rfl rfl (wl_st d203_93 rfl rfl rfl rfl (And.elim (fun g2 g2k => wl_ne (g := sy0 = 0) d203_95 rfl rfl rfl rfl g2 (wl_rt d203_96 rfl rfl rfl g2k)) (H.1 c1)))) (fun c1 => wl_st d203_83 rfl rfl rfl rfl (wl_st d203_85 rfl rfl rfl rfl (And.elim (fun g3 g3k => wl_ne (g := sy0 = 0) d203_87 rfl rfl rfl rfl g3 (wl_go (tgt := 96) d203_88 (by decide) (wl_rt d203_96 rfl rfl rfl g3k))) (H.2 c1))))))
-- ClogHouseModel.ways(II)J
theorem d204_0 : decode (cm_M 204).2.2.1 0 = .ok (.iload_n 0, 1) := by decide +kernel
theorem d204_1 : decode (cm_M 204).2.2.1 1 = .ok (.iload_n 1, 1) := by decide +kernel
theorem d204_2 : decode (cm_M 204).2.2.1 2 = .ok (.iload_n 0, 1) := by decide +kernel
theorem d204_3 : decode (cm_M 204).2.2.1 3 = .ok (.iload_n 1, 1) := by decide +kernel
theorem d204_4 : decode (cm_M 204).2.2.1 4 = .ok (.isub, 1) := by decide +kernel
theorem d204_5 : decode (cm_M 204).2.2.1 5 = .ok (.invokestatic 325, 3) := by decide +kernel
theorem d204_8 : decode (cm_M 204).2.2.1 8 = .ok (.invokestatic 372, 3) := by decide +kernel
theorem d204_11 : decode (cm_M 204).2.2.1 11 = .ok (.lreturn, 1) := by decide +kernel
theorem s204_0 {sc : cmS} {d : Nat} {h : cmH} {Q : Option Value → cmH → Prop} (x0 : Int32) (x1 : Int32) (H : cm_cj' sc d 205 [.int x0, .int (if (x0 - x1) < x1 then (x0 - x1) else x1)] h (fun r h' => cm_wp sc (d + 1) 204 11 [some (.int x0), some (.int x1)] [.long r] h' Q)) : cm_wp sc (d + 1) 204 0 [some (.int x0), some (.int x1)] [] h Q :=
  wl_st d204_0 rfl rfl rfl rfl (wl_st d204_1 rfl rfl rfl rfl (wl_st d204_2 rfl rfl rfl rfl (wl_st d204_3 rfl rfl rfl rfl (wl_st d204_4 rfl rfl rfl rfl (wl_pr (st' := [.int (if (x0 - x1) < x1 then (x0 - x1) else x1), .int x0]) d204_5 rfl rfl rfl pm11_325 (by decide) rfl rfl (wl_cj d204_8 rfl rfl rfl pm11_372 (by decide) (ca_s (Or.inl rfl) rfl (Nat.le_of_ble_eq_true rfl) (Nat.le_of_ble_eq_true rfl)) H))))))
theorem s204_11 {sc : cmS} {d : Nat} {h : cmH} {Q : Option Value → cmH → Prop} (x0 : Int32) (x1 : Int32) (sy0 : Int64) (H : Q (some (.long sy0)) h) : cm_wp sc d 204 11 [some (.int x0), some (.int x1)] [.long sy0] h Q :=
  wl_rt d204_11 rfl rfl rfl H
-- ClogHouseModel.choose(II)J
theorem d205_0 : decode (cm_M 205).2.2.1 0 = .ok (.lconst 1, 1) := by decide +kernel
theorem d205_1 : decode (cm_M 205).2.2.1 1 = .ok (.lstore_n 2, 1) := by decide +kernel
theorem d205_2 : decode (cm_M 205).2.2.1 2 = .ok (.iconst 0, 1) := by decide +kernel
theorem d205_3 : decode (cm_M 205).2.2.1 3 = .ok (.istore 4, 2) := by decide +kernel
theorem d205_5 : decode (cm_M 205).2.2.1 5 = .ok (.iload 4, 2) := by decide +kernel
theorem d205_7 : decode (cm_M 205).2.2.1 7 = .ok (.iload_n 1, 1) := by decide +kernel
theorem d205_8 : decode (cm_M 205).2.2.1 8 = .ok (.if_icmp .ge 23, 3) := by decide +kernel
theorem d205_11 : decode (cm_M 205).2.2.1 11 = .ok (.lload_n 2, 1) := by decide +kernel
theorem d205_12 : decode (cm_M 205).2.2.1 12 = .ok (.iload_n 0, 1) := by decide +kernel
theorem d205_13 : decode (cm_M 205).2.2.1 13 = .ok (.iload 4, 2) := by decide +kernel
theorem d205_15 : decode (cm_M 205).2.2.1 15 = .ok (.isub, 1) := by decide +kernel
theorem d205_16 : decode (cm_M 205).2.2.1 16 = .ok (.i2l, 1) := by decide +kernel
theorem d205_17 : decode (cm_M 205).2.2.1 17 = .ok (.lmul, 1) := by decide +kernel
theorem d205_18 : decode (cm_M 205).2.2.1 18 = .ok (.iload 4, 2) := by decide +kernel
theorem d205_20 : decode (cm_M 205).2.2.1 20 = .ok (.i2l, 1) := by decide +kernel
theorem d205_21 : decode (cm_M 205).2.2.1 21 = .ok (.lconst 1, 1) := by decide +kernel
theorem d205_22 : decode (cm_M 205).2.2.1 22 = .ok (.ladd, 1) := by decide +kernel
theorem d205_23 : decode (cm_M 205).2.2.1 23 = .ok (.ldiv, 1) := by decide +kernel
theorem d205_24 : decode (cm_M 205).2.2.1 24 = .ok (.lstore_n 2, 1) := by decide +kernel
theorem d205_25 : decode (cm_M 205).2.2.1 25 = .ok (.iinc 4 1, 3) := by decide +kernel
theorem d205_28 : decode (cm_M 205).2.2.1 28 = .ok (.goto (-23), 3) := by decide +kernel
theorem d205_31 : decode (cm_M 205).2.2.1 31 = .ok (.lload_n 2, 1) := by decide +kernel
theorem d205_32 : decode (cm_M 205).2.2.1 32 = .ok (.lreturn, 1) := by decide +kernel
theorem s205_0 {sc : cmS} {d : Nat} {h : cmH} {Q : Option Value → cmH → Prop} (x0 : Int32) (x1 : Int32) (u2 : Option Value) (u3 : Option Value) (u4 : Option Value) (H : cm_wp sc d 205 5 [some (.int x0), some (.int x1), some (.long (1 : Int64)), none, some (.int (0 : Int32))] [] h Q) : cm_wp sc d 205 0 [some (.int x0), some (.int x1), u2, u3, u4] [] h Q :=
  wl_lc (v := 1) d205_0 rfl (wl_st (ls' := [some (.int x0), some (.int x1), some (.long (1 : Int64)), none, u4]) d205_1 rfl rfl rfl rfl (wl_ic (v := 0) d205_2 rfl (wl_st (ls' := [some (.int x0), some (.int x1), some (.long (1 : Int64)), none, some (.int (0 : Int32))]) d205_3 rfl rfl rfl rfl (H))))
theorem s205_5 {sc : cmS} {d : Nat} {h : cmH} {Q : Option Value → cmH → Prop} (x0 : Int32) (x1 : Int32) (y2 : Int64) (x4 : Int32) (H : (((x1 ≤ x4) → Q (some (.long y2)) h) ∧ (¬ (x1 ≤ x4) → (¬ ((x4.toInt64) + (1 : Int64)) = 0) ∧ cm_wp sc d 205 5 [some (.int x0), some (.int x1), some (.long ((y2 * ((x0 - x4).toInt64)) / ((x4.toInt64) + (1 : Int64)))), none, some (.int (x4 + 1))] [] h Q))) : cm_wp sc d 205 5 [some (.int x0), some (.int x1), some (.long y2), none, some (.int x4)] [] h Q :=
  wl_st d205_5 rfl rfl rfl rfl (wl_st d205_7 rfl rfl rfl rfl (wl_cb (b := x1 ≤ x4) (off := 23) (tgt := 31) (pc3 := 11) (st' := []) d205_8 rfl rfl rfl rfl (by decide) rfl (fun c1 => wl_st d205_31 rfl rfl rfl rfl (wl_rt d205_32 rfl rfl rfl (H.1 c1))) (fun c1 => wl_st d205_11 rfl rfl rfl rfl (wl_st d205_12 rfl rfl rfl rfl (wl_st d205_13 rfl rfl rfl rfl (wl_st d205_15 rfl rfl rfl rfl (wl_st d205_16 rfl rfl rfl rfl (wl_st d205_17 rfl rfl rfl rfl (wl_st d205_18 rfl rfl rfl rfl (wl_st d205_20 rfl rfl rfl rfl (wl_lc (v := 1) d205_21 rfl (wl_st d205_22 rfl rfl rfl rfl (And.elim (fun g2 g2k => wl_ne (g := ((x4.toInt64) + (1 : Int64)) = 0) d205_23 rfl rfl rfl rfl g2 (wl_st (ls' := [some (.int x0), some (.int x1), some (.long ((y2 * ((x0 - x4).toInt64)) / ((x4.toInt64) + (1 : Int64)))), none, some (.int x4)]) d205_24 rfl rfl rfl rfl (wl_st (ls' := [some (.int x0), some (.int x1), some (.long ((y2 * ((x0 - x4).toInt64)) / ((x4.toInt64) + (1 : Int64)))), none, some (.int (x4 + 1))]) d205_25 rfl rfl rfl rfl (wl_go (tgt := 5) d205_28 (by decide) (g2k))))) (H.2 c1))))))))))))))
-- ClogHouseModel.divisor(JJ)J
theorem d206_0 : decode (cm_M 206).2.2.1 0 = .ok (.lload_n 2, 1) := by decide +kernel
theorem d206_1 : decode (cm_M 206).2.2.1 1 = .ok (.lconst 0, 1) := by decide +kernel
theorem d206_2 : decode (cm_M 206).2.2.1 2 = .ok (.lcmp, 1) := by decide +kernel
theorem d206_3 : decode (cm_M 206).2.2.1 3 = .ok (.ifCond .ne 7, 3) := by decide +kernel
theorem d206_6 : decode (cm_M 206).2.2.1 6 = .ok (.lload_n 0, 1) := by decide +kernel
theorem d206_7 : decode (cm_M 206).2.2.1 7 = .ok (.goto 10, 3) := by decide +kernel
theorem d206_10 : decode (cm_M 206).2.2.1 10 = .ok (.lload_n 2, 1) := by decide +kernel
theorem d206_11 : decode (cm_M 206).2.2.1 11 = .ok (.lload_n 0, 1) := by decide +kernel
theorem d206_12 : decode (cm_M 206).2.2.1 12 = .ok (.lload_n 2, 1) := by decide +kernel
theorem d206_13 : decode (cm_M 206).2.2.1 13 = .ok (.lrem, 1) := by decide +kernel
theorem d206_14 : decode (cm_M 206).2.2.1 14 = .ok (.invokestatic 363, 3) := by decide +kernel
theorem d206_17 : decode (cm_M 206).2.2.1 17 = .ok (.lreturn, 1) := by decide +kernel
theorem s206_0 {sc : cmS} {d : Nat} {h : cmH} {Q : Option Value → cmH → Prop} (y0 : Int64) (y2 : Int64) (H : (((¬ (lg_cmp y2 (0 : Int64)) = 0) → (¬ y2 = 0) ∧ cm_cj' sc d 206 [.long y2, .long (y0 - y0 / y2 * y2)] h (fun r h' => cm_wp sc (d + 1) 206 17 [some (.long y0), none, some (.long y2), none] [.long r] h' Q)) ∧ (¬ (¬ (lg_cmp y2 (0 : Int64)) = 0) → cm_wp sc (d + 1) 206 17 [some (.long y0), none, some (.long y2), none] [.long y0] h Q))) : cm_wp sc (d + 1) 206 0 [some (.long y0), none, some (.long y2), none] [] h Q :=
  wl_st d206_0 rfl rfl rfl rfl (wl_lc (v := 0) d206_1 rfl (wl_st d206_2 rfl rfl rfl rfl (wl_cb (b := ¬ (lg_cmp y2 (0 : Int64)) = 0) (off := 7) (tgt := 10) (pc3 := 6) (st' := []) d206_3 rfl rfl rfl rfl (by decide) rfl (fun c1 => wl_st d206_10 rfl rfl rfl rfl (wl_st d206_11 rfl rfl rfl rfl (wl_st d206_12 rfl rfl rfl rfl (And.elim (fun g2 g2k => wl_ne (g := y2 = 0) d206_13 rfl rfl rfl rfl g2 (wl_cj d206_14 rfl rfl rfl pm11_363 (by decide) (ca_s (Or.inl rfl) rfl (Nat.le_of_ble_eq_true rfl) (Nat.le_of_ble_eq_true rfl)) g2k)) (H.1 c1))))) (fun c1 => wl_st d206_6 rfl rfl rfl rfl (wl_go (tgt := 17) d206_7 (by decide) ((H.2 c1)))))))
theorem s206_17 {sc : cmS} {d : Nat} {h : cmH} {Q : Option Value → cmH → Prop} (y0 : Int64) (y2 : Int64) (sy0 : Int64) (H : Q (some (.long sy0)) h) : cm_wp sc d 206 17 [some (.long y0), none, some (.long y2), none] [.long sy0] h Q :=
  wl_rt d206_17 rfl rfl rfl H
-- ClogHouseModel.drops(III)I
theorem d207_0 : decode (cm_M 207).2.2.1 0 = .ok (.iload_n 1, 1) := by decide +kernel
theorem d207_1 : decode (cm_M 207).2.2.1 1 = .ok (.iconst 1, 1) := by decide +kernel
theorem d207_2 : decode (cm_M 207).2.2.1 2 = .ok (.bipush 60, 2) := by decide +kernel
theorem d207_4 : decode (cm_M 207).2.2.1 4 = .ok (.invokestatic 161, 3) := by decide +kernel
theorem d207_7 : decode (cm_M 207).2.2.1 7 = .ok (.ifCond .eq 23, 3) := by decide +kernel
theorem d207_10 : decode (cm_M 207).2.2.1 10 = .ok (.iload_n 2, 1) := by decide +kernel
theorem d207_11 : decode (cm_M 207).2.2.1 11 = .ok (.iconst 0, 1) := by decide +kernel
theorem d207_12 : decode (cm_M 207).2.2.1 12 = .ok (.iload_n 1, 1) := by decide +kernel
theorem d207_13 : decode (cm_M 207).2.2.1 13 = .ok (.invokestatic 161, 3) := by decide +kernel
theorem d207_16 : decode (cm_M 207).2.2.1 16 = .ok (.ifCond .eq 14, 3) := by decide +kernel
theorem d207_19 : decode (cm_M 207).2.2.1 19 = .ok (.iload_n 3, 1) := by decide +kernel
theorem d207_20 : decode (cm_M 207).2.2.1 20 = .ok (.iconst 1, 1) := by decide +kernel
theorem d207_21 : decode (cm_M 207).2.2.1 21 = .ok (.ldc_w 329, 3) := by decide +kernel
theorem d207_24 : decode (cm_M 207).2.2.1 24 = .ok (.invokestatic 161, 3) := by decide +kernel
theorem d207_27 : decode (cm_M 207).2.2.1 27 = .ok (.ifCond .ne 5, 3) := by decide +kernel
theorem d207_30 : decode (cm_M 207).2.2.1 30 = .ok (.iconst (-1), 1) := by decide +kernel
theorem d207_31 : decode (cm_M 207).2.2.1 31 = .ok (.ireturn, 1) := by decide +kernel
theorem d207_32 : decode (cm_M 207).2.2.1 32 = .ok (.iconst 0, 1) := by decide +kernel
theorem d207_33 : decode (cm_M 207).2.2.1 33 = .ok (.istore 4, 2) := by decide +kernel
theorem d207_35 : decode (cm_M 207).2.2.1 35 = .ok (.iload 4, 2) := by decide +kernel
theorem d207_37 : decode (cm_M 207).2.2.1 37 = .ok (.iload_n 1, 1) := by decide +kernel
theorem d207_38 : decode (cm_M 207).2.2.1 38 = .ok (.if_icmp .gt 49, 3) := by decide +kernel
theorem d207_41 : decode (cm_M 207).2.2.1 41 = .ok (.iload 4, 2) := by decide +kernel
theorem d207_43 : decode (cm_M 207).2.2.1 43 = .ok (.iload_n 1, 1) := by decide +kernel
theorem d207_44 : decode (cm_M 207).2.2.1 44 = .ok (.iload_n 2, 1) := by decide +kernel
theorem d207_45 : decode (cm_M 207).2.2.1 45 = .ok (.isub, 1) := by decide +kernel
theorem d207_46 : decode (cm_M 207).2.2.1 46 = .ok (.if_icmp .le 7, 3) := by decide +kernel
theorem d207_49 : decode (cm_M 207).2.2.1 49 = .ok (.lconst 0, 1) := by decide +kernel
theorem d207_50 : decode (cm_M 207).2.2.1 50 = .ok (.goto 11, 3) := by decide +kernel
theorem d207_53 : decode (cm_M 207).2.2.1 53 = .ok (.iload_n 1, 1) := by decide +kernel
theorem d207_54 : decode (cm_M 207).2.2.1 54 = .ok (.iload_n 2, 1) := by decide +kernel
theorem d207_55 : decode (cm_M 207).2.2.1 55 = .ok (.isub, 1) := by decide +kernel
theorem d207_56 : decode (cm_M 207).2.2.1 56 = .ok (.iload 4, 2) := by decide +kernel
theorem d207_58 : decode (cm_M 207).2.2.1 58 = .ok (.invokestatic 368, 3) := by decide +kernel
theorem d207_61 : decode (cm_M 207).2.2.1 61 = .ok (.lstore 5, 2) := by decide +kernel
theorem d207_63 : decode (cm_M 207).2.2.1 63 = .ok (.lload 5, 2) := by decide +kernel
theorem d207_65 : decode (cm_M 207).2.2.1 65 = .ok (.iload_n 1, 1) := by decide +kernel
theorem d207_66 : decode (cm_M 207).2.2.1 66 = .ok (.iload 4, 2) := by decide +kernel
theorem d207_68 : decode (cm_M 207).2.2.1 68 = .ok (.invokestatic 368, 3) := by decide +kernel
theorem d207_71 : decode (cm_M 207).2.2.1 71 = .ok (.iload_n 3, 1) := by decide +kernel
theorem d207_72 : decode (cm_M 207).2.2.1 72 = .ok (.i2l, 1) := by decide +kernel
theorem d207_73 : decode (cm_M 207).2.2.1 73 = .ok (.ldiv, 1) := by decide +kernel
theorem d207_74 : decode (cm_M 207).2.2.1 74 = .ok (.lcmp, 1) := by decide +kernel
theorem d207_75 : decode (cm_M 207).2.2.1 75 = .ok (.ifCond .gt 6, 3) := by decide +kernel
theorem d207_78 : decode (cm_M 207).2.2.1 78 = .ok (.iload 4, 2) := by decide +kernel
theorem d207_80 : decode (cm_M 207).2.2.1 80 = .ok (.ireturn, 1) := by decide +kernel
theorem d207_81 : decode (cm_M 207).2.2.1 81 = .ok (.iinc 4 1, 3) := by decide +kernel
theorem d207_84 : decode (cm_M 207).2.2.1 84 = .ok (.goto (-49), 3) := by decide +kernel
theorem d207_87 : decode (cm_M 207).2.2.1 87 = .ok (.iconst (-1), 1) := by decide +kernel
theorem d207_88 : decode (cm_M 207).2.2.1 88 = .ok (.ireturn, 1) := by decide +kernel
theorem s207_0 {sc : cmS} {d : Nat} {h : cmH} {Q : Option Value → cmH → Prop} (x1 : Int32) (x2 : Int32) (x3 : Int32) (u4 : Option Value) (u5 : Option Value) (u6 : Option Value) (H : cm_ci sc d 137 [.int x1, .int (1 : Int32), .int (60 : Int32)] h (fun r h' => cm_wp sc (d + 1) 207 7 [some (.ref 38), some (.int x1), some (.int x2), some (.int x3), u4, u5, u6] [.int r] h' Q)) : cm_wp sc (d + 1) 207 0 [some (.ref 38), some (.int x1), some (.int x2), some (.int x3), u4, u5, u6] [] h Q :=
  wl_st d207_0 rfl rfl rfl rfl (wl_ic (v := 1) d207_1 rfl (wl_bi (v := 60) d207_2 rfl (wl_ci d207_4 rfl rfl rfl pm11_161 (by decide) (ca_s (Or.inl rfl) rfl (Nat.le_of_ble_eq_true rfl) (Nat.le_of_ble_eq_true rfl)) H)))
theorem s207_7 {sc : cmS} {d : Nat} {h : cmH} {Q : Option Value → cmH → Prop} (x1 : Int32) (x2 : Int32) (x3 : Int32) (u4 : Option Value) (u5 : Option Value) (u6 : Option Value) (sx0 : Int32) (H : (((sx0 = 0) → Q (some (.int (-1 : Int32))) h) ∧ (¬ (sx0 = 0) → cm_ci sc d 137 [.int x2, .int (0 : Int32), .int x1] h (fun r h' => cm_wp sc (d + 1) 207 16 [some (.ref 38), some (.int x1), some (.int x2), some (.int x3), u4, u5, u6] [.int r] h' Q)))) : cm_wp sc (d + 1) 207 7 [some (.ref 38), some (.int x1), some (.int x2), some (.int x3), u4, u5, u6] [.int sx0] h Q :=
  wl_cb (b := sx0 = 0) (off := 23) (tgt := 30) (pc3 := 10) (st' := []) d207_7 rfl rfl rfl rfl (by decide) rfl (fun c1 => wl_ic (v := (-1)) d207_30 rfl (wl_rt d207_31 rfl rfl rfl (H.1 c1))) (fun c1 => wl_st d207_10 rfl rfl rfl rfl (wl_ic (v := 0) d207_11 rfl (wl_st d207_12 rfl rfl rfl rfl (wl_ci d207_13 rfl rfl rfl pm11_161 (by decide) (ca_s (Or.inl rfl) rfl (Nat.le_of_ble_eq_true rfl) (Nat.le_of_ble_eq_true rfl)) (H.2 c1)))))
theorem s207_16 {sc : cmS} {d : Nat} {h : cmH} {Q : Option Value → cmH → Prop} (x1 : Int32) (x2 : Int32) (x3 : Int32) (u4 : Option Value) (u5 : Option Value) (u6 : Option Value) (sx0 : Int32) (H : (((sx0 = 0) → Q (some (.int (-1 : Int32))) h) ∧ (¬ (sx0 = 0) → cm_ci sc d 137 [.int x3, .int (1 : Int32), .int (1000000 : Int32)] h (fun r h' => cm_wp sc (d + 1) 207 27 [some (.ref 38), some (.int x1), some (.int x2), some (.int x3), u4, u5, u6] [.int r] h' Q)))) : cm_wp sc (d + 1) 207 16 [some (.ref 38), some (.int x1), some (.int x2), some (.int x3), u4, u5, u6] [.int sx0] h Q :=
  wl_cb (b := sx0 = 0) (off := 14) (tgt := 30) (pc3 := 19) (st' := []) d207_16 rfl rfl rfl rfl (by decide) rfl (fun c1 => wl_ic (v := (-1)) d207_30 rfl (wl_rt d207_31 rfl rfl rfl (H.1 c1))) (fun c1 => wl_st d207_19 rfl rfl rfl rfl (wl_ic (v := 1) d207_20 rfl (wl_cIw (v := 1000000) d207_21 pc11_329 (wl_ci d207_24 rfl rfl rfl pm11_161 (by decide) (ca_s (Or.inl rfl) rfl (Nat.le_of_ble_eq_true rfl) (Nat.le_of_ble_eq_true rfl)) (H.2 c1)))))
theorem s207_27 {sc : cmS} {d : Nat} {h : cmH} {Q : Option Value → cmH → Prop} (x1 : Int32) (x2 : Int32) (x3 : Int32) (u4 : Option Value) (u5 : Option Value) (u6 : Option Value) (sx0 : Int32) (H : (((¬ sx0 = 0) → cm_wp sc d 207 35 [some (.ref 38), some (.int x1), some (.int x2), some (.int x3), some (.int (0 : Int32)), u5, u6] [] h Q) ∧ (¬ (¬ sx0 = 0) → Q (some (.int (-1 : Int32))) h))) : cm_wp sc d 207 27 [some (.ref 38), some (.int x1), some (.int x2), some (.int x3), u4, u5, u6] [.int sx0] h Q :=
  wl_cb (b := ¬ sx0 = 0) (off := 5) (tgt := 32) (pc3 := 30) (st' := []) d207_27 rfl rfl rfl rfl (by decide) rfl (fun c1 => wl_ic (v := 0) d207_32 rfl (wl_st (ls' := [some (.ref 38), some (.int x1), some (.int x2), some (.int x3), some (.int (0 : Int32)), u5, u6]) d207_33 rfl rfl rfl rfl ((H.1 c1)))) (fun c1 => wl_ic (v := (-1)) d207_30 rfl (wl_rt d207_31 rfl rfl rfl (H.2 c1)))
theorem s207_35 {sc : cmS} {d : Nat} {h : cmH} {Q : Option Value → cmH → Prop} (x1 : Int32) (x2 : Int32) (x3 : Int32) (x4 : Int32) (u5 : Option Value) (u6 : Option Value) (H : (((x1 < x4) → Q (some (.int (-1 : Int32))) h) ∧ (¬ (x1 < x4) → (((x4 ≤ (x1 - x2)) → cm_cj' sc d 204 [.int (x1 - x2), .int x4] h (fun r h' => cm_wp sc (d + 1) 207 61 [some (.ref 38), some (.int x1), some (.int x2), some (.int x3), some (.int x4), u5, u6] [.long r] h' Q)) ∧ (¬ (x4 ≤ (x1 - x2)) → cm_wp sc (d + 1) 207 61 [some (.ref 38), some (.int x1), some (.int x2), some (.int x3), some (.int x4), u5, u6] [.long (0 : Int64)] h Q))))) : cm_wp sc (d + 1) 207 35 [some (.ref 38), some (.int x1), some (.int x2), some (.int x3), some (.int x4), u5, u6] [] h Q :=
  wl_st d207_35 rfl rfl rfl rfl (wl_st d207_37 rfl rfl rfl rfl (wl_cb (b := x1 < x4) (off := 49) (tgt := 87) (pc3 := 41) (st' := []) d207_38 rfl rfl rfl rfl (by decide) rfl (fun c1 => wl_ic (v := (-1)) d207_87 rfl (wl_rt d207_88 rfl rfl rfl (H.1 c1))) (fun c1 => wl_st d207_41 rfl rfl rfl rfl (wl_st d207_43 rfl rfl rfl rfl (wl_st d207_44 rfl rfl rfl rfl (wl_st d207_45 rfl rfl rfl rfl (wl_cb (b := x4 ≤ (x1 - x2)) (off := 7) (tgt := 53) (pc3 := 49) (st' := []) d207_46 rfl rfl rfl rfl (by decide) rfl (fun c2 => wl_st d207_53 rfl rfl rfl rfl (wl_st d207_54 rfl rfl rfl rfl (wl_st d207_55 rfl rfl rfl rfl (wl_st d207_56 rfl rfl rfl rfl (wl_cj d207_58 rfl rfl rfl pm11_368 (by decide) (ca_s (Or.inl rfl) rfl (Nat.le_of_ble_eq_true rfl) (Nat.le_of_ble_eq_true rfl)) ((H.2 c1).1 c2)))))) (fun c2 => wl_lc (v := 0) d207_49 rfl (wl_go (tgt := 61) d207_50 (by decide) (((H.2 c1).2 c2)))))))))))
theorem s207_61 {sc : cmS} {d : Nat} {h : cmH} {Q : Option Value → cmH → Prop} (x1 : Int32) (x2 : Int32) (x3 : Int32) (x4 : Int32) (u5 : Option Value) (u6 : Option Value) (sy0 : Int64) (H : cm_cj' sc d 204 [.int x1, .int x4] h (fun r h' => cm_wp sc (d + 1) 207 71 [some (.ref 38), some (.int x1), some (.int x2), some (.int x3), some (.int x4), some (.long sy0), none] [.long r, .long sy0] h' Q)) : cm_wp sc (d + 1) 207 61 [some (.ref 38), some (.int x1), some (.int x2), some (.int x3), some (.int x4), u5, u6] [.long sy0] h Q :=
  wl_st (ls' := [some (.ref 38), some (.int x1), some (.int x2), some (.int x3), some (.int x4), some (.long sy0), none]) d207_61 rfl rfl rfl rfl (wl_st d207_63 rfl rfl rfl rfl (wl_st d207_65 rfl rfl rfl rfl (wl_st d207_66 rfl rfl rfl rfl (wl_cj d207_68 rfl rfl rfl pm11_368 (by decide) (ca_s (Or.inl rfl) rfl (Nat.le_of_ble_eq_true rfl) (Nat.le_of_ble_eq_true rfl)) H))))
theorem s207_71 {sc : cmS} {d : Nat} {h : cmH} {Q : Option Value → cmH → Prop} (x1 : Int32) (x2 : Int32) (x3 : Int32) (x4 : Int32) (y5 : Int64) (sy0 : Int64) (sy1 : Int64) (H : (¬ x3.toInt64 = 0) ∧ (((0 < (lg_cmp sy1 (sy0 / (x3.toInt64)))) → cm_wp sc d 207 35 [some (.ref 38), some (.int x1), some (.int x2), some (.int x3), some (.int (x4 + 1)), some (.long y5), none] [] h Q) ∧ (¬ (0 < (lg_cmp sy1 (sy0 / (x3.toInt64)))) → Q (some (.int x4)) h))) : cm_wp sc d 207 71 [some (.ref 38), some (.int x1), some (.int x2), some (.int x3), some (.int x4), some (.long y5), none] [.long sy0, .long sy1] h Q :=
  wl_st d207_71 rfl rfl rfl rfl (wl_st d207_72 rfl rfl rfl rfl (And.elim (fun g1 g1k => wl_ne (g := x3.toInt64 = 0) d207_73 rfl rfl rfl rfl g1 (wl_st d207_74 rfl rfl rfl rfl (wl_cb (b := 0 < (lg_cmp sy1 (sy0 / (x3.toInt64)))) (off := 6) (tgt := 81) (pc3 := 78) (st' := []) d207_75 rfl rfl rfl rfl (by decide) rfl (fun c2 => wl_st (ls' := [some (.ref 38), some (.int x1), some (.int x2), some (.int x3), some (.int (x4 + 1)), some (.long y5), none]) d207_81 rfl rfl rfl rfl (wl_go (tgt := 35) d207_84 (by decide) ((g1k.1 c2)))) (fun c2 => wl_st d207_78 rfl rfl rfl rfl (wl_rt d207_80 rfl rfl rfl (g1k.2 c2)))))) H))
-- ClogHouseModel.layer(II)I
theorem d208_0 : decode (cm_M 208).2.2.1 0 = .ok (.iload_n 1, 1) := by decide +kernel
theorem d208_1 : decode (cm_M 208).2.2.1 1 = .ok (.iconst 1, 1) := by decide +kernel
theorem d208_2 : decode (cm_M 208).2.2.1 2 = .ok (.bipush 20, 2) := by decide +kernel
theorem d208_4 : decode (cm_M 208).2.2.1 4 = .ok (.invokestatic 161, 3) := by decide +kernel
theorem d208_7 : decode (cm_M 208).2.2.1 7 = .ok (.ifCond .eq 23, 3) := by decide +kernel
theorem d208_10 : decode (cm_M 208).2.2.1 10 = .ok (.iload_n 2, 1) := by decide +kernel
theorem d208_11 : decode (cm_M 208).2.2.1 11 = .ok (.iconst 1, 1) := by decide +kernel
theorem d208_12 : decode (cm_M 208).2.2.1 12 = .ok (.sipush 1000, 3) := by decide +kernel
theorem d208_15 : decode (cm_M 208).2.2.1 15 = .ok (.invokestatic 161, 3) := by decide +kernel
theorem d208_18 : decode (cm_M 208).2.2.1 18 = .ok (.ifCond .eq 12, 3) := by decide +kernel
theorem d208_21 : decode (cm_M 208).2.2.1 21 = .ok (.aload_n 0, 1) := by decide +kernel
theorem d208_22 : decode (cm_M 208).2.2.1 22 = .ok (.getfield 375, 3) := by decide +kernel
theorem d208_25 : decode (cm_M 208).2.2.1 25 = .ok (.bipush 6, 2) := by decide +kernel
theorem d208_27 : decode (cm_M 208).2.2.1 27 = .ok (.if_icmp .ne 5, 3) := by decide +kernel
theorem d208_30 : decode (cm_M 208).2.2.1 30 = .ok (.iconst (-1), 1) := by decide +kernel
theorem d208_31 : decode (cm_M 208).2.2.1 31 = .ok (.ireturn, 1) := by decide +kernel
theorem d208_32 : decode (cm_M 208).2.2.1 32 = .ok (.aload_n 0, 1) := by decide +kernel
theorem d208_33 : decode (cm_M 208).2.2.1 33 = .ok (.getfield 126, 3) := by decide +kernel
theorem d208_36 : decode (cm_M 208).2.2.1 36 = .ok (.aload_n 0, 1) := by decide +kernel
theorem d208_37 : decode (cm_M 208).2.2.1 37 = .ok (.getfield 375, 3) := by decide +kernel
theorem d208_40 : decode (cm_M 208).2.2.1 40 = .ok (.iload_n 1, 1) := by decide +kernel
theorem d208_41 : decode (cm_M 208).2.2.1 41 = .ok (.iastore, 1) := by decide +kernel
theorem d208_42 : decode (cm_M 208).2.2.1 42 = .ok (.aload_n 0, 1) := by decide +kernel
theorem d208_43 : decode (cm_M 208).2.2.1 43 = .ok (.getfield 129, 3) := by decide +kernel
theorem d208_46 : decode (cm_M 208).2.2.1 46 = .ok (.aload_n 0, 1) := by decide +kernel
theorem d208_47 : decode (cm_M 208).2.2.1 47 = .ok (.getfield 375, 3) := by decide +kernel
theorem d208_50 : decode (cm_M 208).2.2.1 50 = .ok (.iload_n 2, 1) := by decide +kernel
theorem d208_51 : decode (cm_M 208).2.2.1 51 = .ok (.iastore, 1) := by decide +kernel
theorem d208_52 : decode (cm_M 208).2.2.1 52 = .ok (.aload_n 0, 1) := by decide +kernel
theorem d208_53 : decode (cm_M 208).2.2.1 53 = .ok (.dup, 1) := by decide +kernel
theorem d208_54 : decode (cm_M 208).2.2.1 54 = .ok (.getfield 375, 3) := by decide +kernel
theorem d208_57 : decode (cm_M 208).2.2.1 57 = .ok (.iconst 1, 1) := by decide +kernel
theorem d208_58 : decode (cm_M 208).2.2.1 58 = .ok (.iadd, 1) := by decide +kernel
theorem d208_59 : decode (cm_M 208).2.2.1 59 = .ok (.putfield 375, 3) := by decide +kernel
theorem d208_62 : decode (cm_M 208).2.2.1 62 = .ok (.aload_n 0, 1) := by decide +kernel
theorem d208_63 : decode (cm_M 208).2.2.1 63 = .ok (.getfield 375, 3) := by decide +kernel
theorem d208_66 : decode (cm_M 208).2.2.1 66 = .ok (.iconst 1, 1) := by decide +kernel
theorem d208_67 : decode (cm_M 208).2.2.1 67 = .ok (.isub, 1) := by decide +kernel
theorem d208_68 : decode (cm_M 208).2.2.1 68 = .ok (.ireturn, 1) := by decide +kernel
theorem s208_0 {sc : cmS} {d : Nat} {h : cmH} {Q : Option Value → cmH → Prop} (x1 : Int32) (x2 : Int32) (H : cm_ci sc d 137 [.int x1, .int (1 : Int32), .int (20 : Int32)] h (fun r h' => cm_wp sc (d + 1) 208 7 [some (.ref 38), some (.int x1), some (.int x2)] [.int r] h' Q)) : cm_wp sc (d + 1) 208 0 [some (.ref 38), some (.int x1), some (.int x2)] [] h Q :=
  wl_st d208_0 rfl rfl rfl rfl (wl_ic (v := 1) d208_1 rfl (wl_bi (v := 20) d208_2 rfl (wl_ci d208_4 rfl rfl rfl pm11_161 (by decide) (ca_s (Or.inl rfl) rfl (Nat.le_of_ble_eq_true rfl) (Nat.le_of_ble_eq_true rfl)) H)))
theorem s208_7 {sc : cmS} {d : Nat} {h : cmH} {Q : Option Value → cmH → Prop} (x1 : Int32) (x2 : Int32) (sx0 : Int32) (H : (((sx0 = 0) → Q (some (.int (-1 : Int32))) h) ∧ (¬ (sx0 = 0) → cm_ci sc d 137 [.int x2, .int (1 : Int32), .int (1000 : Int32)] h (fun r h' => cm_wp sc (d + 1) 208 18 [some (.ref 38), some (.int x1), some (.int x2)] [.int r] h' Q)))) : cm_wp sc (d + 1) 208 7 [some (.ref 38), some (.int x1), some (.int x2)] [.int sx0] h Q :=
  wl_cb (b := sx0 = 0) (off := 23) (tgt := 30) (pc3 := 10) (st' := []) d208_7 rfl rfl rfl rfl (by decide) rfl (fun c1 => wl_ic (v := (-1)) d208_30 rfl (wl_rt d208_31 rfl rfl rfl (H.1 c1))) (fun c1 => wl_st d208_10 rfl rfl rfl rfl (wl_ic (v := 1) d208_11 rfl (wl_si (v := 1000) d208_12 rfl (wl_ci d208_15 rfl rfl rfl pm11_161 (by decide) (ca_s (Or.inl rfl) rfl (Nat.le_of_ble_eq_true rfl) (Nat.le_of_ble_eq_true rfl)) (H.2 c1)))))
theorem s208_18 {sc : cmS} {d : Nat} {h : cmH} {Q : Option Value → cmH → Prop} (L : LY h) (x1 : Int32) (x2 : Int32) (sx0 : Int32) (H : (((sx0 = 0) → Q (some (.int (-1 : Int32))) h) ∧ (¬ (sx0 = 0) → (((¬ (cm_I h 38 53) = (6 : Int32)) → (IX 6 (cm_I h 38 53)) ∧ Q (some (.int (((cm_I h 38 53) + (1 : Int32)) - (1 : Int32)))) (cm_setI (cm_setI (cm_setI h 77 (cm_I h 38 53).toNatClampNeg x1) 78 (cm_I h 38 53).toNatClampNeg x2) 38 53 ((cm_I h 38 53) + (1 : Int32)))) ∧ (¬ (¬ (cm_I h 38 53) = (6 : Int32)) → Q (some (.int (-1 : Int32))) h))))) : cm_wp sc d 208 18 [some (.ref 38), some (.int x1), some (.int x2)] [.int sx0] h Q :=
  wl_cb (b := sx0 = 0) (off := 12) (tgt := 30) (pc3 := 21) (st' := []) d208_18 rfl rfl rfl rfl (by decide) rfl (fun c1 => wl_ic (v := (-1)) d208_30 rfl (wl_rt d208_31 rfl rfl rfl (H.1 c1))) (fun c1 => wl_st d208_21 rfl rfl rfl rfl (wl_gf (v := .int (cm_I h 38 53)) d208_22 pf11_375 (ly_k L 38 rfl) rfl (wl_bi (v := 6) d208_25 rfl (wl_cb (b := ¬ (cm_I h 38 53) = (6 : Int32)) (off := 5) (tgt := 32) (pc3 := 30) (st' := []) d208_27 rfl rfl rfl rfl (by decide) rfl (fun c2 => wl_st d208_32 rfl rfl rfl rfl (wl_gr (b := 77) d208_33 pf11_126 (ly_k L 38 rfl) rfl (ly_r L 38 49 rfl) (wl_st d208_36 rfl rfl rfl rfl (wl_gf (v := .int (cm_I h 38 53)) d208_37 pf11_375 (ly_k L 38 rfl) rfl (wl_st d208_40 rfl rfl rfl rfl (And.elim (fun g3 g3k => wl_if (h' := (cm_setI h 77 (cm_I h 38 53).toNatClampNeg x1)) d208_41 rfl rfl rfl rfl (ly_o L 77 rfl g3) (wl_st d208_42 rfl rfl rfl rfl (wl_gr (b := 78) d208_43 pf11_129 (ly_k L 38 rfl) rfl (ly_r L 38 50 rfl) (wl_st d208_46 rfl rfl rfl rfl (wl_gf (v := .int (cm_I h 38 53)) d208_47 pf11_375 (ly_k L 38 rfl) rfl (wl_st d208_50 rfl rfl rfl rfl (wl_if (h' := (cm_setI (cm_setI h 77 (cm_I h 38 53).toNatClampNeg x1) 78 (cm_I h 38 53).toNatClampNeg x2)) d208_51 rfl rfl rfl rfl (ly_o L 78 rfl g3) (wl_st d208_52 rfl rfl rfl rfl (wl_st d208_53 rfl rfl rfl rfl (wl_gf (v := .int (cm_I h 38 53)) d208_54 pf11_375 (ly_k L 38 rfl) rfl (wl_ic (v := 1) d208_57 rfl (wl_st d208_58 rfl rfl rfl rfl (wl_pf (h' := (cm_setI (cm_setI (cm_setI h 77 (cm_I h 38 53).toNatClampNeg x1) 78 (cm_I h 38 53).toNatClampNeg x2) 38 53 ((cm_I h 38 53) + (1 : Int32)))) d208_59 pf11_375 (ly_k L 38 rfl) (Or.inl rfl) rfl (wl_st d208_62 rfl rfl rfl rfl (wl_gf (v := .int ((cm_I h 38 53) + (1 : Int32))) d208_63 pf11_375 (ly_k L 38 rfl) rfl (wl_ic (v := 1) d208_66 rfl (wl_st d208_67 rfl rfl rfl rfl (wl_rt d208_68 rfl rfl rfl g3k)))))))))))))))))) ((H.2 c1).1 c2))))))) (fun c2 => wl_ic (v := (-1)) d208_30 rfl (wl_rt d208_31 rfl rfl rfl ((H.2 c1).2 c2)))))))
-- ClogHouseModel.order(II)I
theorem d209_0 : decode (cm_M 209).2.2.1 0 = .ok (.iload_n 1, 1) := by decide +kernel
theorem d209_1 : decode (cm_M 209).2.2.1 1 = .ok (.iconst 0, 1) := by decide +kernel
theorem d209_2 : decode (cm_M 209).2.2.1 2 = .ok (.ldc_w 329, 3) := by decide +kernel
theorem d209_5 : decode (cm_M 209).2.2.1 5 = .ok (.invokestatic 161, 3) := by decide +kernel
theorem d209_8 : decode (cm_M 209).2.2.1 8 = .ok (.ifCond .eq 31, 3) := by decide +kernel
theorem d209_11 : decode (cm_M 209).2.2.1 11 = .ok (.iload_n 2, 1) := by decide +kernel
theorem d209_12 : decode (cm_M 209).2.2.1 12 = .ok (.iconst (-1), 1) := by decide +kernel
theorem d209_13 : decode (cm_M 209).2.2.1 13 = .ok (.aload_n 0, 1) := by decide +kernel
theorem d209_14 : decode (cm_M 209).2.2.1 14 = .ok (.getfield 375, 3) := by decide +kernel
theorem d209_17 : decode (cm_M 209).2.2.1 17 = .ok (.iconst 1, 1) := by decide +kernel
theorem d209_18 : decode (cm_M 209).2.2.1 18 = .ok (.isub, 1) := by decide +kernel
theorem d209_19 : decode (cm_M 209).2.2.1 19 = .ok (.invokestatic 161, 3) := by decide +kernel
theorem d209_22 : decode (cm_M 209).2.2.1 22 = .ok (.ifCond .eq 17, 3) := by decide +kernel
theorem d209_25 : decode (cm_M 209).2.2.1 25 = .ok (.aload_n 0, 1) := by decide +kernel
theorem d209_26 : decode (cm_M 209).2.2.1 26 = .ok (.getfield 375, 3) := by decide +kernel
theorem d209_29 : decode (cm_M 209).2.2.1 29 = .ok (.ifCond .eq 10, 3) := by decide +kernel
theorem d209_32 : decode (cm_M 209).2.2.1 32 = .ok (.aload_n 0, 1) := by decide +kernel
theorem d209_33 : decode (cm_M 209).2.2.1 33 = .ok (.getfield 319, 3) := by decide +kernel
theorem d209_36 : decode (cm_M 209).2.2.1 36 = .ok (.ifCond .ne 5, 3) := by decide +kernel
theorem d209_39 : decode (cm_M 209).2.2.1 39 = .ok (.iconst (-1), 1) := by decide +kernel
theorem d209_40 : decode (cm_M 209).2.2.1 40 = .ok (.ireturn, 1) := by decide +kernel
theorem d209_41 : decode (cm_M 209).2.2.1 41 = .ok (.aload_n 0, 1) := by decide +kernel
theorem d209_42 : decode (cm_M 209).2.2.1 42 = .ok (.iconst (-1), 1) := by decide +kernel
theorem d209_43 : decode (cm_M 209).2.2.1 43 = .ok (.putfield 381, 3) := by decide +kernel
theorem d209_46 : decode (cm_M 209).2.2.1 46 = .ok (.aload_n 0, 1) := by decide +kernel
theorem d209_47 : decode (cm_M 209).2.2.1 47 = .ok (.iconst 0, 1) := by decide +kernel
theorem d209_48 : decode (cm_M 209).2.2.1 48 = .ok (.iconst 0, 1) := by decide +kernel
theorem d209_49 : decode (cm_M 209).2.2.1 49 = .ok (.iload_n 1, 1) := by decide +kernel
theorem d209_50 : decode (cm_M 209).2.2.1 50 = .ok (.invokevirtual 384, 3) := by decide +kernel
theorem d209_53 : decode (cm_M 209).2.2.1 53 = .ok (.iload_n 2, 1) := by decide +kernel
theorem d209_54 : decode (cm_M 209).2.2.1 54 = .ok (.iconst (-1), 1) := by decide +kernel
theorem d209_55 : decode (cm_M 209).2.2.1 55 = .ok (.if_icmp .ne 10, 3) := by decide +kernel
theorem d209_58 : decode (cm_M 209).2.2.1 58 = .ok (.aload_n 0, 1) := by decide +kernel
theorem d209_59 : decode (cm_M 209).2.2.1 59 = .ok (.getfield 381, 3) := by decide +kernel
theorem d209_62 : decode (cm_M 209).2.2.1 62 = .ok (.goto 9, 3) := by decide +kernel
theorem d209_65 : decode (cm_M 209).2.2.1 65 = .ok (.aload_n 0, 1) := by decide +kernel
theorem d209_66 : decode (cm_M 209).2.2.1 66 = .ok (.getfield 135, 3) := by decide +kernel
theorem d209_69 : decode (cm_M 209).2.2.1 69 = .ok (.iload_n 2, 1) := by decide +kernel
theorem d209_70 : decode (cm_M 209).2.2.1 70 = .ok (.iaload, 1) := by decide +kernel
theorem d209_71 : decode (cm_M 209).2.2.1 71 = .ok (.ireturn, 1) := by decide +kernel
theorem s209_0 {sc : cmS} {d : Nat} {h : cmH} {Q : Option Value → cmH → Prop} (x1 : Int32) (x2 : Int32) (H : cm_ci sc d 137 [.int x1, .int (0 : Int32), .int (1000000 : Int32)] h (fun r h' => cm_wp sc (d + 1) 209 8 [some (.ref 38), some (.int x1), some (.int x2)] [.int r] h' Q)) : cm_wp sc (d + 1) 209 0 [some (.ref 38), some (.int x1), some (.int x2)] [] h Q :=
  wl_st d209_0 rfl rfl rfl rfl (wl_ic (v := 0) d209_1 rfl (wl_cIw (v := 1000000) d209_2 pc11_329 (wl_ci d209_5 rfl rfl rfl pm11_161 (by decide) (ca_s (Or.inl rfl) rfl (Nat.le_of_ble_eq_true rfl) (Nat.le_of_ble_eq_true rfl)) H)))
theorem s209_8 {sc : cmS} {d : Nat} {h : cmH} {Q : Option Value → cmH → Prop} (L : LY h) (x1 : Int32) (x2 : Int32) (sx0 : Int32) (H : (((sx0 = 0) → Q (some (.int (-1 : Int32))) h) ∧ (¬ (sx0 = 0) → cm_ci sc d 137 [.int x2, .int (-1 : Int32), .int ((cm_I h 38 53) - (1 : Int32))] h (fun r h' => cm_wp sc (d + 1) 209 22 [some (.ref 38), some (.int x1), some (.int x2)] [.int r] h' Q)))) : cm_wp sc (d + 1) 209 8 [some (.ref 38), some (.int x1), some (.int x2)] [.int sx0] h Q :=
  wl_cb (b := sx0 = 0) (off := 31) (tgt := 39) (pc3 := 11) (st' := []) d209_8 rfl rfl rfl rfl (by decide) rfl (fun c1 => wl_ic (v := (-1)) d209_39 rfl (wl_rt d209_40 rfl rfl rfl (H.1 c1))) (fun c1 => wl_st d209_11 rfl rfl rfl rfl (wl_ic (v := (-1)) d209_12 rfl (wl_st d209_13 rfl rfl rfl rfl (wl_gf (v := .int (cm_I h 38 53)) d209_14 pf11_375 (ly_k L 38 rfl) rfl (wl_ic (v := 1) d209_17 rfl (wl_st d209_18 rfl rfl rfl rfl (wl_ci d209_19 rfl rfl rfl pm11_161 (by decide) (ca_s (Or.inl rfl) rfl (Nat.le_of_ble_eq_true rfl) (Nat.le_of_ble_eq_true rfl)) (H.2 c1))))))))
theorem s209_22 {sc : cmS} {d : Nat} {h : cmH} {Q : Option Value → cmH → Prop} (L : LY h) (x1 : Int32) (x2 : Int32) (sx0 : Int32) (H : (((sx0 = 0) → Q (some (.int (-1 : Int32))) h) ∧ (¬ (sx0 = 0) → ((((cm_I h 38 53) = 0) → Q (some (.int (-1 : Int32))) h) ∧ (¬ ((cm_I h 38 53) = 0) → (((¬ (cm_I h 38 48) = 0) → cm_cv sc d 210 [.ref 38, .int (0 : Int32), .int (0 : Int32), .int x1] (cm_setI h 38 54 (-1 : Int32)) (fun h' => cm_wp sc (d + 1) 209 53 [some (.ref 38), some (.int x1), some (.int x2)] [] h' Q)) ∧ (¬ (¬ (cm_I h 38 48) = 0) → Q (some (.int (-1 : Int32))) h))))))) : cm_wp sc (d + 1) 209 22 [some (.ref 38), some (.int x1), some (.int x2)] [.int sx0] h Q :=
  wl_cb (b := sx0 = 0) (off := 17) (tgt := 39) (pc3 := 25) (st' := []) d209_22 rfl rfl rfl rfl (by decide) rfl (fun c1 => wl_ic (v := (-1)) d209_39 rfl (wl_rt d209_40 rfl rfl rfl (H.1 c1))) (fun c1 => wl_st d209_25 rfl rfl rfl rfl (wl_gf (v := .int (cm_I h 38 53)) d209_26 pf11_375 (ly_k L 38 rfl) rfl (wl_cb (b := (cm_I h 38 53) = 0) (off := 10) (tgt := 39) (pc3 := 32) (st' := []) d209_29 rfl rfl rfl rfl (by decide) rfl (fun c2 => wl_ic (v := (-1)) d209_39 rfl (wl_rt d209_40 rfl rfl rfl ((H.2 c1).1 c2))) (fun c2 => wl_st d209_32 rfl rfl rfl rfl (wl_gf (v := .int (cm_I h 38 48)) d209_33 pf11_319 (ly_k L 38 rfl) rfl (wl_cb (b := ¬ (cm_I h 38 48) = 0) (off := 5) (tgt := 41) (pc3 := 39) (st' := []) d209_36 rfl rfl rfl rfl (by decide) rfl (fun c3 => wl_st d209_41 rfl rfl rfl rfl (wl_ic (v := (-1)) d209_42 rfl (wl_pf (h' := (cm_setI h 38 54 (-1 : Int32))) d209_43 pf11_381 (ly_k L 38 rfl) (Or.inl rfl) rfl (wl_st d209_46 rfl rfl rfl rfl (wl_ic (v := 0) d209_47 rfl (wl_ic (v := 0) d209_48 rfl (wl_st d209_49 rfl rfl rfl rfl (wl_cv d209_50 rfl rfl rfl pm11_384 (by decide) (ca_v (Or.inl rfl) rfl (Nat.le_of_ble_eq_true rfl) (Nat.le_of_ble_eq_true rfl) (ly_k L 38 rfl).2 (ly_k L 38 rfl).1 (by decide)) (((H.2 c1).2 c2).1 c3))))))))) (fun c3 => wl_ic (v := (-1)) d209_39 rfl (wl_rt d209_40 rfl rfl rfl (((H.2 c1).2 c2).2 c3)))))))))
theorem s209_53 {sc : cmS} {d : Nat} {h : cmH} {Q : Option Value → cmH → Prop} (L : LY h) (x1 : Int32) (x2 : Int32) (H : (((¬ x2 = (-1 : Int32)) → (IX 6 x2) ∧ Q (some (.int (cm_I h 80 x2.toNatClampNeg))) h) ∧ (¬ (¬ x2 = (-1 : Int32)) → Q (some (.int (cm_I h 38 54))) h))) : cm_wp sc d 209 53 [some (.ref 38), some (.int x1), some (.int x2)] [] h Q :=
  wl_st d209_53 rfl rfl rfl rfl (wl_ic (v := (-1)) d209_54 rfl (wl_cb (b := ¬ x2 = (-1 : Int32)) (off := 10) (tgt := 65) (pc3 := 58) (st' := []) d209_55 rfl rfl rfl rfl (by decide) rfl (fun c1 => wl_st d209_65 rfl rfl rfl rfl (wl_gr (b := 80) d209_66 pf11_135 (ly_k L 38 rfl) rfl (ly_r L 38 52 rfl) (wl_st d209_69 rfl rfl rfl rfl (And.elim (fun g2 g2k => wl_if (g := cm_ok h 13 80 x2) (st' := [.int (cm_I h 80 x2.toNatClampNeg)]) d209_70 rfl rfl rfl rfl (ly_o L 80 rfl g2) (wl_rt d209_71 rfl rfl rfl g2k)) (H.1 c1))))) (fun c1 => wl_st d209_58 rfl rfl rfl rfl (wl_gf (v := .int (cm_I h 38 54)) d209_59 pf11_381 (ly_k L 38 rfl) rfl (wl_go (tgt := 71) d209_62 (by decide) (wl_rt d209_71 rfl rfl rfl (H.2 c1)))))))
-- ClogHouseModel.arrange(III)V
theorem d210_0 : decode (cm_M 210).2.2.1 0 = .ok (.iload_n 1, 1) := by decide +kernel
theorem d210_1 : decode (cm_M 210).2.2.1 1 = .ok (.aload_n 0, 1) := by decide +kernel
theorem d210_2 : decode (cm_M 210).2.2.1 2 = .ok (.getfield 375, 3) := by decide +kernel
theorem d210_5 : decode (cm_M 210).2.2.1 5 = .ok (.if_icmp .ne 58, 3) := by decide +kernel
theorem d210_8 : decode (cm_M 210).2.2.1 8 = .ok (.aload_n 0, 1) := by decide +kernel
theorem d210_9 : decode (cm_M 210).2.2.1 9 = .ok (.iload_n 3, 1) := by decide +kernel
theorem d210_10 : decode (cm_M 210).2.2.1 10 = .ok (.invokevirtual 378, 3) := by decide +kernel
theorem d210_13 : decode (cm_M 210).2.2.1 13 = .ok (.istore 4, 2) := by decide +kernel
theorem d210_15 : decode (cm_M 210).2.2.1 15 = .ok (.iload 4, 2) := by decide +kernel
theorem d210_17 : decode (cm_M 210).2.2.1 17 = .ok (.aload_n 0, 1) := by decide +kernel
theorem d210_18 : decode (cm_M 210).2.2.1 18 = .ok (.getfield 381, 3) := by decide +kernel
theorem d210_21 : decode (cm_M 210).2.2.1 21 = .ok (.if_icmp .le 41, 3) := by decide +kernel
theorem d210_24 : decode (cm_M 210).2.2.1 24 = .ok (.aload_n 0, 1) := by decide +kernel
theorem d210_25 : decode (cm_M 210).2.2.1 25 = .ok (.iload 4, 2) := by decide +kernel
theorem d210_27 : decode (cm_M 210).2.2.1 27 = .ok (.putfield 381, 3) := by decide +kernel
theorem d210_30 : decode (cm_M 210).2.2.1 30 = .ok (.iconst 0, 1) := by decide +kernel
theorem d210_31 : decode (cm_M 210).2.2.1 31 = .ok (.istore 5, 2) := by decide +kernel
theorem d210_33 : decode (cm_M 210).2.2.1 33 = .ok (.iload 5, 2) := by decide +kernel
theorem d210_35 : decode (cm_M 210).2.2.1 35 = .ok (.aload_n 0, 1) := by decide +kernel
theorem d210_36 : decode (cm_M 210).2.2.1 36 = .ok (.getfield 375, 3) := by decide +kernel
theorem d210_39 : decode (cm_M 210).2.2.1 39 = .ok (.if_icmp .ge 23, 3) := by decide +kernel
theorem d210_42 : decode (cm_M 210).2.2.1 42 = .ok (.aload_n 0, 1) := by decide +kernel
theorem d210_43 : decode (cm_M 210).2.2.1 43 = .ok (.getfield 135, 3) := by decide +kernel
theorem d210_46 : decode (cm_M 210).2.2.1 46 = .ok (.iload 5, 2) := by decide +kernel
theorem d210_48 : decode (cm_M 210).2.2.1 48 = .ok (.aload_n 0, 1) := by decide +kernel
theorem d210_49 : decode (cm_M 210).2.2.1 49 = .ok (.getfield 132, 3) := by decide +kernel
theorem d210_52 : decode (cm_M 210).2.2.1 52 = .ok (.iload 5, 2) := by decide +kernel
theorem d210_54 : decode (cm_M 210).2.2.1 54 = .ok (.iaload, 1) := by decide +kernel
theorem d210_55 : decode (cm_M 210).2.2.1 55 = .ok (.iastore, 1) := by decide +kernel
theorem d210_56 : decode (cm_M 210).2.2.1 56 = .ok (.iinc 5 1, 3) := by decide +kernel
theorem d210_59 : decode (cm_M 210).2.2.1 59 = .ok (.goto (-26), 3) := by decide +kernel
theorem d210_62 : decode (cm_M 210).2.2.1 62 = .ok (.return_, 1) := by decide +kernel
theorem d210_63 : decode (cm_M 210).2.2.1 63 = .ok (.iconst 0, 1) := by decide +kernel
theorem d210_64 : decode (cm_M 210).2.2.1 64 = .ok (.istore 4, 2) := by decide +kernel
theorem d210_66 : decode (cm_M 210).2.2.1 66 = .ok (.iload 4, 2) := by decide +kernel
theorem d210_68 : decode (cm_M 210).2.2.1 68 = .ok (.aload_n 0, 1) := by decide +kernel
theorem d210_69 : decode (cm_M 210).2.2.1 69 = .ok (.getfield 375, 3) := by decide +kernel
theorem d210_72 : decode (cm_M 210).2.2.1 72 = .ok (.if_icmp .ge 40, 3) := by decide +kernel
theorem d210_75 : decode (cm_M 210).2.2.1 75 = .ok (.iload_n 2, 1) := by decide +kernel
theorem d210_76 : decode (cm_M 210).2.2.1 76 = .ok (.iload 4, 2) := by decide +kernel
theorem d210_78 : decode (cm_M 210).2.2.1 78 = .ok (.ishr, 1) := by decide +kernel
theorem d210_79 : decode (cm_M 210).2.2.1 79 = .ok (.iconst 1, 1) := by decide +kernel
theorem d210_80 : decode (cm_M 210).2.2.1 80 = .ok (.iand, 1) := by decide +kernel
theorem d210_81 : decode (cm_M 210).2.2.1 81 = .ok (.ifCond .ne 25, 3) := by decide +kernel
theorem d210_84 : decode (cm_M 210).2.2.1 84 = .ok (.aload_n 0, 1) := by decide +kernel
theorem d210_85 : decode (cm_M 210).2.2.1 85 = .ok (.getfield 132, 3) := by decide +kernel
theorem d210_88 : decode (cm_M 210).2.2.1 88 = .ok (.iload_n 1, 1) := by decide +kernel
theorem d210_89 : decode (cm_M 210).2.2.1 89 = .ok (.iload 4, 2) := by decide +kernel
theorem d210_91 : decode (cm_M 210).2.2.1 91 = .ok (.iastore, 1) := by decide +kernel
theorem d210_92 : decode (cm_M 210).2.2.1 92 = .ok (.aload_n 0, 1) := by decide +kernel
theorem d210_93 : decode (cm_M 210).2.2.1 93 = .ok (.iload_n 1, 1) := by decide +kernel
theorem d210_94 : decode (cm_M 210).2.2.1 94 = .ok (.iconst 1, 1) := by decide +kernel
theorem d210_95 : decode (cm_M 210).2.2.1 95 = .ok (.iadd, 1) := by decide +kernel
theorem d210_96 : decode (cm_M 210).2.2.1 96 = .ok (.iload_n 2, 1) := by decide +kernel
theorem d210_97 : decode (cm_M 210).2.2.1 97 = .ok (.iconst 1, 1) := by decide +kernel
theorem d210_98 : decode (cm_M 210).2.2.1 98 = .ok (.iload 4, 2) := by decide +kernel
theorem d210_100 : decode (cm_M 210).2.2.1 100 = .ok (.ishl, 1) := by decide +kernel
theorem d210_101 : decode (cm_M 210).2.2.1 101 = .ok (.ior, 1) := by decide +kernel
theorem d210_102 : decode (cm_M 210).2.2.1 102 = .ok (.iload_n 3, 1) := by decide +kernel
theorem d210_103 : decode (cm_M 210).2.2.1 103 = .ok (.invokevirtual 384, 3) := by decide +kernel
theorem d210_106 : decode (cm_M 210).2.2.1 106 = .ok (.iinc 4 1, 3) := by decide +kernel
theorem d210_109 : decode (cm_M 210).2.2.1 109 = .ok (.goto (-43), 3) := by decide +kernel
theorem d210_112 : decode (cm_M 210).2.2.1 112 = .ok (.return_, 1) := by decide +kernel
theorem s210_0 {sc : cmS} {d : Nat} {h : cmH} {Q : Option Value → cmH → Prop} (L : LY h) (x1 : Int32) (x2 : Int32) (x3 : Int32) (u4 : Option Value) (u5 : Option Value) (H : (((¬ x1 = (cm_I h 38 53)) → cm_wp sc (d + 1) 210 66 [some (.ref 38), some (.int x1), some (.int x2), some (.int x3), some (.int (0 : Int32)), u5] [] h Q) ∧ (¬ (¬ x1 = (cm_I h 38 53)) → cm_ci sc d 211 [.ref 38, .int x3] h (fun r h' => cm_wp sc (d + 1) 210 13 [some (.ref 38), some (.int x1), some (.int x2), some (.int x3), u4, u5] [.int r] h' Q)))) : cm_wp sc (d + 1) 210 0 [some (.ref 38), some (.int x1), some (.int x2), some (.int x3), u4, u5] [] h Q :=
  wl_st d210_0 rfl rfl rfl rfl (wl_st d210_1 rfl rfl rfl rfl (wl_gf (v := .int (cm_I h 38 53)) d210_2 pf11_375 (ly_k L 38 rfl) rfl (wl_cb (b := ¬ x1 = (cm_I h 38 53)) (off := 58) (tgt := 63) (pc3 := 8) (st' := []) d210_5 rfl rfl rfl rfl (by decide) rfl (fun c1 => wl_ic (v := 0) d210_63 rfl (wl_st (ls' := [some (.ref 38), some (.int x1), some (.int x2), some (.int x3), some (.int (0 : Int32)), u5]) d210_64 rfl rfl rfl rfl ((H.1 c1)))) (fun c1 => wl_st d210_8 rfl rfl rfl rfl (wl_st d210_9 rfl rfl rfl rfl (wl_ci d210_10 rfl rfl rfl pm11_378 (by decide) (ca_v (Or.inl rfl) rfl (Nat.le_of_ble_eq_true rfl) (Nat.le_of_ble_eq_true rfl) (ly_k L 38 rfl).2 (ly_k L 38 rfl).1 (by decide)) (H.2 c1)))))))
theorem s210_13 {sc : cmS} {d : Nat} {h : cmH} {Q : Option Value → cmH → Prop} (L : LY h) (x1 : Int32) (x2 : Int32) (x3 : Int32) (u4 : Option Value) (u5 : Option Value) (sx0 : Int32) (H : (((sx0 ≤ (cm_I h 38 54)) → Q none h) ∧ (¬ (sx0 ≤ (cm_I h 38 54)) → cm_wp sc d 210 33 [some (.ref 38), some (.int x1), some (.int x2), some (.int x3), some (.int sx0), some (.int (0 : Int32))] [] (cm_setI h 38 54 sx0) Q))) : cm_wp sc d 210 13 [some (.ref 38), some (.int x1), some (.int x2), some (.int x3), u4, u5] [.int sx0] h Q :=
  wl_st (ls' := [some (.ref 38), some (.int x1), some (.int x2), some (.int x3), some (.int sx0), u5]) d210_13 rfl rfl rfl rfl (wl_st d210_15 rfl rfl rfl rfl (wl_st d210_17 rfl rfl rfl rfl (wl_gf (v := .int (cm_I h 38 54)) d210_18 pf11_381 (ly_k L 38 rfl) rfl (wl_cb (b := sx0 ≤ (cm_I h 38 54)) (off := 41) (tgt := 62) (pc3 := 24) (st' := []) d210_21 rfl rfl rfl rfl (by decide) rfl (fun c1 => wl_rt d210_62 rfl rfl rfl (H.1 c1)) (fun c1 => wl_st d210_24 rfl rfl rfl rfl (wl_st d210_25 rfl rfl rfl rfl (wl_pf (h' := (cm_setI h 38 54 sx0)) d210_27 pf11_381 (ly_k L 38 rfl) (Or.inl rfl) rfl (wl_ic (v := 0) d210_30 rfl (wl_st (ls' := [some (.ref 38), some (.int x1), some (.int x2), some (.int x3), some (.int sx0), some (.int (0 : Int32))]) d210_31 rfl rfl rfl rfl ((H.2 c1)))))))))))
theorem s210_33 {sc : cmS} {d : Nat} {h : cmH} {Q : Option Value → cmH → Prop} (L : LY h) (x1 : Int32) (x2 : Int32) (x3 : Int32) (x4 : Int32) (x5 : Int32) (H : ((((cm_I h 38 53) ≤ x5) → Q none h) ∧ (¬ ((cm_I h 38 53) ≤ x5) → (IX 6 x5) ∧ cm_wp sc d 210 33 [some (.ref 38), some (.int x1), some (.int x2), some (.int x3), some (.int x4), some (.int (x5 + 1))] [] (cm_setI h 80 x5.toNatClampNeg (cm_I h 79 x5.toNatClampNeg)) Q))) : cm_wp sc d 210 33 [some (.ref 38), some (.int x1), some (.int x2), some (.int x3), some (.int x4), some (.int x5)] [] h Q :=
  wl_st d210_33 rfl rfl rfl rfl (wl_st d210_35 rfl rfl rfl rfl (wl_gf (v := .int (cm_I h 38 53)) d210_36 pf11_375 (ly_k L 38 rfl) rfl (wl_cb (b := (cm_I h 38 53) ≤ x5) (off := 23) (tgt := 62) (pc3 := 42) (st' := []) d210_39 rfl rfl rfl rfl (by decide) rfl (fun c1 => wl_rt d210_62 rfl rfl rfl (H.1 c1)) (fun c1 => wl_st d210_42 rfl rfl rfl rfl (wl_gr (b := 80) d210_43 pf11_135 (ly_k L 38 rfl) rfl (ly_r L 38 52 rfl) (wl_st d210_46 rfl rfl rfl rfl (wl_st d210_48 rfl rfl rfl rfl (wl_gr (b := 79) d210_49 pf11_132 (ly_k L 38 rfl) rfl (ly_r L 38 51 rfl) (wl_st d210_52 rfl rfl rfl rfl (And.elim (fun g2 g2k => wl_if (g := cm_ok h 13 79 x5) (st' := [.int (cm_I h 79 x5.toNatClampNeg), .int x5, .ref 80]) d210_54 rfl rfl rfl rfl (ly_o L 79 rfl g2) (wl_if (h' := (cm_setI h 80 x5.toNatClampNeg (cm_I h 79 x5.toNatClampNeg))) d210_55 rfl rfl rfl rfl (ly_o L 80 rfl g2) (wl_st (ls' := [some (.ref 38), some (.int x1), some (.int x2), some (.int x3), some (.int x4), some (.int (x5 + 1))]) d210_56 rfl rfl rfl rfl (wl_go (tgt := 33) d210_59 (by decide) (g2k))))) (H.2 c1)))))))))))
theorem s210_66 {sc : cmS} {d : Nat} {h : cmH} {Q : Option Value → cmH → Prop} (L : LY h) (x1 : Int32) (x2 : Int32) (x3 : Int32) (x4 : Int32) (u5 : Option Value) (H : ((((cm_I h 38 53) ≤ x4) → Q none h) ∧ (¬ ((cm_I h 38 53) ≤ x4) → (((¬ ((x2 >>> (x4 &&& 31)) &&& (1 : Int32)) = 0) → cm_wp sc (d + 1) 210 106 [some (.ref 38), some (.int x1), some (.int x2), some (.int x3), some (.int x4), u5] [] h Q) ∧ (¬ (¬ ((x2 >>> (x4 &&& 31)) &&& (1 : Int32)) = 0) → (IX 6 x1) ∧ cm_cv sc d 210 [.ref 38, .int (x1 + (1 : Int32)), .int (x2 ||| ((1 : Int32) <<< (x4 &&& 31))), .int x3] (cm_setI h 79 x1.toNatClampNeg x4) (fun h' => cm_wp sc (d + 1) 210 106 [some (.ref 38), some (.int x1), some (.int x2), some (.int x3), some (.int x4), u5] [] h' Q)))))) : cm_wp sc (d + 1) 210 66 [some (.ref 38), some (.int x1), some (.int x2), some (.int x3), some (.int x4), u5] [] h Q :=
  wl_st d210_66 rfl rfl rfl rfl (wl_st d210_68 rfl rfl rfl rfl (wl_gf (v := .int (cm_I h 38 53)) d210_69 pf11_375 (ly_k L 38 rfl) rfl (wl_cb (b := (cm_I h 38 53) ≤ x4) (off := 40) (tgt := 112) (pc3 := 75) (st' := []) d210_72 rfl rfl rfl rfl (by decide) rfl (fun c1 => wl_rt d210_112 rfl rfl rfl (H.1 c1)) (fun c1 => wl_st d210_75 rfl rfl rfl rfl (wl_st d210_76 rfl rfl rfl rfl (wl_st d210_78 rfl rfl rfl rfl (wl_ic (v := 1) d210_79 rfl (wl_st d210_80 rfl rfl rfl rfl (wl_cb (b := ¬ ((x2 >>> (x4 &&& 31)) &&& (1 : Int32)) = 0) (off := 25) (tgt := 106) (pc3 := 84) (st' := []) d210_81 rfl rfl rfl rfl (by decide) rfl (fun c2 => ((H.2 c1).1 c2)) (fun c2 => wl_st d210_84 rfl rfl rfl rfl (wl_gr (b := 79) d210_85 pf11_132 (ly_k L 38 rfl) rfl (ly_r L 38 51 rfl) (wl_st d210_88 rfl rfl rfl rfl (wl_st d210_89 rfl rfl rfl rfl (And.elim (fun g3 g3k => wl_if (h' := (cm_setI h 79 x1.toNatClampNeg x4)) d210_91 rfl rfl rfl rfl (ly_o L 79 rfl g3) (wl_st d210_92 rfl rfl rfl rfl (wl_st d210_93 rfl rfl rfl rfl (wl_ic (v := 1) d210_94 rfl (wl_st d210_95 rfl rfl rfl rfl (wl_st d210_96 rfl rfl rfl rfl (wl_ic (v := 1) d210_97 rfl (wl_st d210_98 rfl rfl rfl rfl (wl_st d210_100 rfl rfl rfl rfl (wl_st d210_101 rfl rfl rfl rfl (wl_st d210_102 rfl rfl rfl rfl (wl_cv d210_103 rfl rfl rfl pm11_384 (by decide) (ca_v (Or.inl rfl) rfl (Nat.le_of_ble_eq_true rfl) (Nat.le_of_ble_eq_true rfl) (ly_k L 38 rfl).2 (ly_k L 38 rfl).1 (by decide)) g3k)))))))))))) ((H.2 c1).2 c2)))))))))))))))
theorem s210_106 {sc : cmS} {d : Nat} {h : cmH} {Q : Option Value → cmH → Prop} (x1 : Int32) (x2 : Int32) (x3 : Int32) (x4 : Int32) (u5 : Option Value) (H : cm_wp sc d 210 66 [some (.ref 38), some (.int x1), some (.int x2), some (.int x3), some (.int (x4 + 1)), u5] [] h Q) : cm_wp sc d 210 106 [some (.ref 38), some (.int x1), some (.int x2), some (.int x3), some (.int x4), u5] [] h Q :=
  wl_st (ls' := [some (.ref 38), some (.int x1), some (.int x2), some (.int x3), some (.int (x4 + 1)), u5]) d210_106 rfl rfl rfl rfl (wl_go (tgt := 66) d210_109 (by decide) (H))
-- ClogHouseModel.lasts(I)I
theorem d211_0 : decode (cm_M 211).2.2.1 0 = .ok (.aload_n 0, 1) := by decide +kernel
theorem d211_1 : decode (cm_M 211).2.2.1 1 = .ok (.getfield 19, 3) := by decide +kernel
theorem d211_4 : decode (cm_M 211).2.2.1 4 = .ok (.bipush 8, 2) := by decide +kernel
theorem d211_6 : decode (cm_M 211).2.2.1 6 = .ok (.aload_n 0, 1) := by decide +kernel
theorem d211_7 : decode (cm_M 211).2.2.1 7 = .ok (.getfield 375, 3) := by decide +kernel
theorem d211_10 : decode (cm_M 211).2.2.1 10 = .ok (.iastore, 1) := by decide +kernel
theorem d211_11 : decode (cm_M 211).2.2.1 11 = .ok (.iconst 0, 1) := by decide +kernel
theorem d211_12 : decode (cm_M 211).2.2.1 12 = .ok (.istore_n 2, 1) := by decide +kernel
theorem d211_13 : decode (cm_M 211).2.2.1 13 = .ok (.iload_n 2, 1) := by decide +kernel
theorem d211_14 : decode (cm_M 211).2.2.1 14 = .ok (.aload_n 0, 1) := by decide +kernel
theorem d211_15 : decode (cm_M 211).2.2.1 15 = .ok (.getfield 375, 3) := by decide +kernel
theorem d211_18 : decode (cm_M 211).2.2.1 18 = .ok (.if_icmp .ge 49, 3) := by decide +kernel
theorem d211_21 : decode (cm_M 211).2.2.1 21 = .ok (.aload_n 0, 1) := by decide +kernel
theorem d211_22 : decode (cm_M 211).2.2.1 22 = .ok (.getfield 22, 3) := by decide +kernel
theorem d211_25 : decode (cm_M 211).2.2.1 25 = .ok (.bipush 80, 2) := by decide +kernel
theorem d211_27 : decode (cm_M 211).2.2.1 27 = .ok (.iload_n 2, 1) := by decide +kernel
theorem d211_28 : decode (cm_M 211).2.2.1 28 = .ok (.iadd, 1) := by decide +kernel
theorem d211_29 : decode (cm_M 211).2.2.1 29 = .ok (.aload_n 0, 1) := by decide +kernel
theorem d211_30 : decode (cm_M 211).2.2.1 30 = .ok (.getfield 126, 3) := by decide +kernel
theorem d211_33 : decode (cm_M 211).2.2.1 33 = .ok (.aload_n 0, 1) := by decide +kernel
theorem d211_34 : decode (cm_M 211).2.2.1 34 = .ok (.getfield 132, 3) := by decide +kernel
theorem d211_37 : decode (cm_M 211).2.2.1 37 = .ok (.iload_n 2, 1) := by decide +kernel
theorem d211_38 : decode (cm_M 211).2.2.1 38 = .ok (.iaload, 1) := by decide +kernel
theorem d211_39 : decode (cm_M 211).2.2.1 39 = .ok (.iaload, 1) := by decide +kernel
theorem d211_40 : decode (cm_M 211).2.2.1 40 = .ok (.iastore, 1) := by decide +kernel
theorem d211_41 : decode (cm_M 211).2.2.1 41 = .ok (.aload_n 0, 1) := by decide +kernel
theorem d211_42 : decode (cm_M 211).2.2.1 42 = .ok (.getfield 28, 3) := by decide +kernel
theorem d211_45 : decode (cm_M 211).2.2.1 45 = .ok (.bipush 80, 2) := by decide +kernel
theorem d211_47 : decode (cm_M 211).2.2.1 47 = .ok (.iload_n 2, 1) := by decide +kernel
theorem d211_48 : decode (cm_M 211).2.2.1 48 = .ok (.iadd, 1) := by decide +kernel
theorem d211_49 : decode (cm_M 211).2.2.1 49 = .ok (.aload_n 0, 1) := by decide +kernel
theorem d211_50 : decode (cm_M 211).2.2.1 50 = .ok (.getfield 129, 3) := by decide +kernel
theorem d211_53 : decode (cm_M 211).2.2.1 53 = .ok (.aload_n 0, 1) := by decide +kernel
theorem d211_54 : decode (cm_M 211).2.2.1 54 = .ok (.getfield 132, 3) := by decide +kernel
theorem d211_57 : decode (cm_M 211).2.2.1 57 = .ok (.iload_n 2, 1) := by decide +kernel
theorem d211_58 : decode (cm_M 211).2.2.1 58 = .ok (.iaload, 1) := by decide +kernel
theorem d211_59 : decode (cm_M 211).2.2.1 59 = .ok (.iaload, 1) := by decide +kernel
theorem d211_60 : decode (cm_M 211).2.2.1 60 = .ok (.iastore, 1) := by decide +kernel
theorem d211_61 : decode (cm_M 211).2.2.1 61 = .ok (.iinc 2 1, 3) := by decide +kernel
theorem d211_64 : decode (cm_M 211).2.2.1 64 = .ok (.goto (-51), 3) := by decide +kernel
theorem d211_67 : decode (cm_M 211).2.2.1 67 = .ok (.iconst 0, 1) := by decide +kernel
theorem d211_68 : decode (cm_M 211).2.2.1 68 = .ok (.istore_n 2, 1) := by decide +kernel
theorem d211_69 : decode (cm_M 211).2.2.1 69 = .ok (.iload_n 2, 1) := by decide +kernel
theorem d211_70 : decode (cm_M 211).2.2.1 70 = .ok (.bipush 80, 2) := by decide +kernel
theorem d211_72 : decode (cm_M 211).2.2.1 72 = .ok (.if_icmp .ge 20, 3) := by decide +kernel
theorem d211_75 : decode (cm_M 211).2.2.1 75 = .ok (.aload_n 0, 1) := by decide +kernel
theorem d211_76 : decode (cm_M 211).2.2.1 76 = .ok (.getfield 31, 3) := by decide +kernel
theorem d211_79 : decode (cm_M 211).2.2.1 79 = .ok (.sipush 640, 3) := by decide +kernel
theorem d211_82 : decode (cm_M 211).2.2.1 82 = .ok (.iload_n 2, 1) := by decide +kernel
theorem d211_83 : decode (cm_M 211).2.2.1 83 = .ok (.iadd, 1) := by decide +kernel
theorem d211_84 : decode (cm_M 211).2.2.1 84 = .ok (.iconst 0, 1) := by decide +kernel
theorem d211_85 : decode (cm_M 211).2.2.1 85 = .ok (.iastore, 1) := by decide +kernel
theorem d211_86 : decode (cm_M 211).2.2.1 86 = .ok (.iinc 2 1, 3) := by decide +kernel
theorem d211_89 : decode (cm_M 211).2.2.1 89 = .ok (.goto (-20), 3) := by decide +kernel
theorem d211_92 : decode (cm_M 211).2.2.1 92 = .ok (.iconst 0, 1) := by decide +kernel
theorem d211_93 : decode (cm_M 211).2.2.1 93 = .ok (.istore_n 2, 1) := by decide +kernel
theorem d211_94 : decode (cm_M 211).2.2.1 94 = .ok (.iload_n 2, 1) := by decide +kernel
theorem d211_95 : decode (cm_M 211).2.2.1 95 = .ok (.bipush 8, 2) := by decide +kernel
theorem d211_97 : decode (cm_M 211).2.2.1 97 = .ok (.if_icmp .ge 19, 3) := by decide +kernel
theorem d211_100 : decode (cm_M 211).2.2.1 100 = .ok (.aload_n 0, 1) := by decide +kernel
theorem d211_101 : decode (cm_M 211).2.2.1 101 = .ok (.getfield 37, 3) := by decide +kernel
theorem d211_104 : decode (cm_M 211).2.2.1 104 = .ok (.bipush 64, 2) := by decide +kernel
theorem d211_106 : decode (cm_M 211).2.2.1 106 = .ok (.iload_n 2, 1) := by decide +kernel
theorem d211_107 : decode (cm_M 211).2.2.1 107 = .ok (.iadd, 1) := by decide +kernel
theorem d211_108 : decode (cm_M 211).2.2.1 108 = .ok (.iconst 0, 1) := by decide +kernel
theorem d211_109 : decode (cm_M 211).2.2.1 109 = .ok (.iastore, 1) := by decide +kernel
theorem d211_110 : decode (cm_M 211).2.2.1 110 = .ok (.iinc 2 1, 3) := by decide +kernel
theorem d211_113 : decode (cm_M 211).2.2.1 113 = .ok (.goto (-19), 3) := by decide +kernel
theorem d211_116 : decode (cm_M 211).2.2.1 116 = .ok (.iconst 0, 1) := by decide +kernel
theorem d211_117 : decode (cm_M 211).2.2.1 117 = .ok (.istore_n 2, 1) := by decide +kernel
theorem d211_118 : decode (cm_M 211).2.2.1 118 = .ok (.iconst 0, 1) := by decide +kernel
theorem d211_119 : decode (cm_M 211).2.2.1 119 = .ok (.istore_n 3, 1) := by decide +kernel
theorem d211_120 : decode (cm_M 211).2.2.1 120 = .ok (.iload_n 3, 1) := by decide +kernel
theorem d211_121 : decode (cm_M 211).2.2.1 121 = .ok (.bipush 100, 2) := by decide +kernel
theorem d211_123 : decode (cm_M 211).2.2.1 123 = .ok (.if_icmp .ge 140, 3) := by decide +kernel
theorem d211_126 : decode (cm_M 211).2.2.1 126 = .ok (.iload_n 2, 1) := by decide +kernel
theorem d211_127 : decode (cm_M 211).2.2.1 127 = .ok (.ifCond .ne 16, 3) := by decide +kernel
theorem d211_130 : decode (cm_M 211).2.2.1 130 = .ok (.aload_n 0, 1) := by decide +kernel
theorem d211_131 : decode (cm_M 211).2.2.1 131 = .ok (.bipush 8, 2) := by decide +kernel
theorem d211_133 : decode (cm_M 211).2.2.1 133 = .ok (.invokevirtual 333, 3) := by decide +kernel
theorem d211_136 : decode (cm_M 211).2.2.1 136 = .ok (.ifCond .le 7, 3) := by decide +kernel
theorem d211_139 : decode (cm_M 211).2.2.1 139 = .ok (.iconst 1, 1) := by decide +kernel
theorem d211_140 : decode (cm_M 211).2.2.1 140 = .ok (.goto 4, 3) := by decide +kernel
theorem d211_143 : decode (cm_M 211).2.2.1 143 = .ok (.iconst 0, 1) := by decide +kernel
theorem d211_144 : decode (cm_M 211).2.2.1 144 = .ok (.istore 4, 2) := by decide +kernel
theorem d211_146 : decode (cm_M 211).2.2.1 146 = .ok (.iload_n 2, 1) := by decide +kernel
theorem d211_147 : decode (cm_M 211).2.2.1 147 = .ok (.ifCond .ne 13, 3) := by decide +kernel
theorem d211_150 : decode (cm_M 211).2.2.1 150 = .ok (.aload_n 0, 1) := by decide +kernel
theorem d211_151 : decode (cm_M 211).2.2.1 151 = .ok (.bipush 8, 2) := by decide +kernel
theorem d211_153 : decode (cm_M 211).2.2.1 153 = .ok (.invokevirtual 192, 3) := by decide +kernel
theorem d211_156 : decode (cm_M 211).2.2.1 156 = .ok (.iconst (-1), 1) := by decide +kernel
theorem d211_157 : decode (cm_M 211).2.2.1 157 = .ok (.if_icmp .ne 7, 3) := by decide +kernel
theorem d211_160 : decode (cm_M 211).2.2.1 160 = .ok (.iconst 1, 1) := by decide +kernel
theorem d211_161 : decode (cm_M 211).2.2.1 161 = .ok (.goto 4, 3) := by decide +kernel
theorem d211_164 : decode (cm_M 211).2.2.1 164 = .ok (.iconst 0, 1) := by decide +kernel
theorem d211_165 : decode (cm_M 211).2.2.1 165 = .ok (.istore_n 2, 1) := by decide +kernel
theorem d211_166 : decode (cm_M 211).2.2.1 166 = .ok (.iload 4, 2) := by decide +kernel
theorem d211_168 : decode (cm_M 211).2.2.1 168 = .ok (.ifCond .eq 22, 3) := by decide +kernel
theorem d211_171 : decode (cm_M 211).2.2.1 171 = .ok (.aload_n 0, 1) := by decide +kernel
theorem d211_172 : decode (cm_M 211).2.2.1 172 = .ok (.bipush 8, 2) := by decide +kernel
theorem d211_174 : decode (cm_M 211).2.2.1 174 = .ok (.aload_n 0, 1) := by decide +kernel
theorem d211_175 : decode (cm_M 211).2.2.1 175 = .ok (.getfield 319, 3) := by decide +kernel
theorem d211_178 : decode (cm_M 211).2.2.1 178 = .ok (.invokevirtual 206, 3) := by decide +kernel
theorem d211_181 : decode (cm_M 211).2.2.1 181 = .ok (.iconst (-1), 1) := by decide +kernel
theorem d211_182 : decode (cm_M 211).2.2.1 182 = .ok (.if_icmp .ne 8, 3) := by decide +kernel
theorem d211_185 : decode (cm_M 211).2.2.1 185 = .ok (.iconst 0, 1) := by decide +kernel
theorem d211_186 : decode (cm_M 211).2.2.1 186 = .ok (.istore 4, 2) := by decide +kernel
theorem d211_188 : decode (cm_M 211).2.2.1 188 = .ok (.iconst 1, 1) := by decide +kernel
theorem d211_189 : decode (cm_M 211).2.2.1 189 = .ok (.istore_n 2, 1) := by decide +kernel
theorem d211_190 : decode (cm_M 211).2.2.1 190 = .ok (.aload_n 0, 1) := by decide +kernel
theorem d211_191 : decode (cm_M 211).2.2.1 191 = .ok (.bipush 8, 2) := by decide +kernel
theorem d211_193 : decode (cm_M 211).2.2.1 193 = .ok (.invokevirtual 336, 3) := by decide +kernel
theorem d211_196 : decode (cm_M 211).2.2.1 196 = .ok (.iconst 0, 1) := by decide +kernel
theorem d211_197 : decode (cm_M 211).2.2.1 197 = .ok (.istore 5, 2) := by decide +kernel
theorem d211_199 : decode (cm_M 211).2.2.1 199 = .ok (.bipush 7, 2) := by decide +kernel
theorem d211_201 : decode (cm_M 211).2.2.1 201 = .ok (.istore 6, 2) := by decide +kernel
theorem d211_203 : decode (cm_M 211).2.2.1 203 = .ok (.iload 6, 2) := by decide +kernel
theorem d211_205 : decode (cm_M 211).2.2.1 205 = .ok (.ifCond .lt 44, 3) := by decide +kernel
theorem d211_208 : decode (cm_M 211).2.2.1 208 = .ok (.iload 5, 2) := by decide +kernel
theorem d211_210 : decode (cm_M 211).2.2.1 210 = .ok (.iload 4, 2) := by decide +kernel
theorem d211_212 : decode (cm_M 211).2.2.1 212 = .ok (.ifCond .eq 21, 3) := by decide +kernel
theorem d211_215 : decode (cm_M 211).2.2.1 215 = .ok (.aload_n 0, 1) := by decide +kernel
theorem d211_216 : decode (cm_M 211).2.2.1 216 = .ok (.bipush 8, 2) := by decide +kernel
theorem d211_218 : decode (cm_M 211).2.2.1 218 = .ok (.iload 6, 2) := by decide +kernel
theorem d211_220 : decode (cm_M 211).2.2.1 220 = .ok (.aload_n 0, 1) := by decide +kernel
theorem d211_221 : decode (cm_M 211).2.2.1 221 = .ok (.getfield 95, 3) := by decide +kernel
theorem d211_224 : decode (cm_M 211).2.2.1 224 = .ok (.iload 6, 2) := by decide +kernel
theorem d211_226 : decode (cm_M 211).2.2.1 226 = .ok (.iaload, 1) := by decide +kernel
theorem d211_227 : decode (cm_M 211).2.2.1 227 = .ok (.invokevirtual 348, 3) := by decide +kernel
theorem d211_230 : decode (cm_M 211).2.2.1 230 = .ok (.goto 10, 3) := by decide +kernel
theorem d211_233 : decode (cm_M 211).2.2.1 233 = .ok (.aload_n 0, 1) := by decide +kernel
theorem d211_234 : decode (cm_M 211).2.2.1 234 = .ok (.getfield 95, 3) := by decide +kernel
theorem d211_237 : decode (cm_M 211).2.2.1 237 = .ok (.iload 6, 2) := by decide +kernel
theorem d211_239 : decode (cm_M 211).2.2.1 239 = .ok (.iaload, 1) := by decide +kernel
theorem d211_240 : decode (cm_M 211).2.2.1 240 = .ok (.iadd, 1) := by decide +kernel
theorem d211_241 : decode (cm_M 211).2.2.1 241 = .ok (.istore 5, 2) := by decide +kernel
theorem d211_243 : decode (cm_M 211).2.2.1 243 = .ok (.iinc 6 (-1), 3) := by decide +kernel
theorem d211_246 : decode (cm_M 211).2.2.1 246 = .ok (.goto (-43), 3) := by decide +kernel
theorem d211_249 : decode (cm_M 211).2.2.1 249 = .ok (.iload 5, 2) := by decide +kernel
theorem d211_251 : decode (cm_M 211).2.2.1 251 = .ok (.iload_n 1, 1) := by decide +kernel
theorem d211_252 : decode (cm_M 211).2.2.1 252 = .ok (.if_icmp .le 5, 3) := by decide +kernel
theorem d211_255 : decode (cm_M 211).2.2.1 255 = .ok (.iload_n 3, 1) := by decide +kernel
theorem d211_256 : decode (cm_M 211).2.2.1 256 = .ok (.ireturn, 1) := by decide +kernel
theorem d211_257 : decode (cm_M 211).2.2.1 257 = .ok (.iinc 3 1, 3) := by decide +kernel
theorem d211_260 : decode (cm_M 211).2.2.1 260 = .ok (.goto (-140), 3) := by decide +kernel
theorem d211_263 : decode (cm_M 211).2.2.1 263 = .ok (.bipush 100, 2) := by decide +kernel
theorem d211_265 : decode (cm_M 211).2.2.1 265 = .ok (.ireturn, 1) := by decide +kernel
theorem s211_0 {sc : cmS} {d : Nat} {h : cmH} {Q : Option Value → cmH → Prop} (L : LY h) (x1 : Int32) (u2 : Option Value) (u3 : Option Value) (u4 : Option Value) (u5 : Option Value) (u6 : Option Value) (H : cm_wp sc d 211 13 [some (.ref 38), some (.int x1), some (.int (0 : Int32)), u3, u4, u5, u6] [] (cm_setI h 42 8 (cm_I h 38 53)) Q) : cm_wp sc d 211 0 [some (.ref 38), some (.int x1), u2, u3, u4, u5, u6] [] h Q :=
  wl_st d211_0 rfl rfl rfl rfl (wl_gr (b := 42) d211_1 pf11_19 (ly_k L 38 rfl) rfl (ly_r L 38 5 rfl) (wl_bi (v := 8) d211_4 rfl (wl_st d211_6 rfl rfl rfl rfl (wl_gf (v := .int (cm_I h 38 53)) d211_7 pf11_375 (ly_k L 38 rfl) rfl (wl_if (h' := (cm_setI h 42 8 (cm_I h 38 53))) d211_10 rfl rfl rfl rfl (ly_o L 42 rfl (by decide)) (wl_ic (v := 0) d211_11 rfl (wl_st (ls' := [some (.ref 38), some (.int x1), some (.int (0 : Int32)), u3, u4, u5, u6]) d211_12 rfl rfl rfl rfl (H))))))))
theorem s211_13 {sc : cmS} {d : Nat} {h : cmH} {Q : Option Value → cmH → Prop} (L : LY h) (x1 : Int32) (x2 : Int32) (u3 : Option Value) (u4 : Option Value) (u5 : Option Value) (u6 : Option Value) (H : ((((cm_I h 38 53) ≤ x2) → cm_wp sc d 211 69 [some (.ref 38), some (.int x1), some (.int (0 : Int32)), u3, u4, u5, u6] [] h Q) ∧ (¬ ((cm_I h 38 53) ≤ x2) → (IX 6 x2) ∧ (IX 6 (cm_I h 79 x2.toNatClampNeg)) ∧ (IX 90 ((80 : Int32) + x2)) ∧ cm_wp sc d 211 13 [some (.ref 38), some (.int x1), some (.int (x2 + 1)), u3, u4, u5, u6] [] (cm_setI (cm_setI h 43 ((80 : Int32) + x2).toNatClampNeg (cm_I h 77 (cm_I h 79 x2.toNatClampNeg).toNatClampNeg)) 45 ((80 : Int32) + x2).toNatClampNeg (cm_I h 78 (cm_I h 79 x2.toNatClampNeg).toNatClampNeg)) Q))) : cm_wp sc d 211 13 [some (.ref 38), some (.int x1), some (.int x2), u3, u4, u5, u6] [] h Q :=
  wl_st d211_13 rfl rfl rfl rfl (wl_st d211_14 rfl rfl rfl rfl (wl_gf (v := .int (cm_I h 38 53)) d211_15 pf11_375 (ly_k L 38 rfl) rfl (wl_cb (b := (cm_I h 38 53) ≤ x2) (off := 49) (tgt := 67) (pc3 := 21) (st' := []) d211_18 rfl rfl rfl rfl (by decide) rfl (fun c1 => wl_ic (v := 0) d211_67 rfl (wl_st (ls' := [some (.ref 38), some (.int x1), some (.int (0 : Int32)), u3, u4, u5, u6]) d211_68 rfl rfl rfl rfl ((H.1 c1)))) (fun c1 => wl_st d211_21 rfl rfl rfl rfl (wl_gr (b := 43) d211_22 pf11_22 (ly_k L 38 rfl) rfl (ly_r L 38 6 rfl) (wl_bi (v := 80) d211_25 rfl (wl_st d211_27 rfl rfl rfl rfl (wl_st d211_28 rfl rfl rfl rfl (wl_st d211_29 rfl rfl rfl rfl (wl_gr (b := 77) d211_30 pf11_126 (ly_k L 38 rfl) rfl (ly_r L 38 49 rfl) (wl_st d211_33 rfl rfl rfl rfl (wl_gr (b := 79) d211_34 pf11_132 (ly_k L 38 rfl) rfl (ly_r L 38 51 rfl) (wl_st d211_37 rfl rfl rfl rfl (And.elim (fun g2 g2k => wl_if (g := cm_ok h 13 79 x2) (st' := [.int (cm_I h 79 x2.toNatClampNeg), .ref 77, .int ((80 : Int32) + x2), .ref 43]) d211_38 rfl rfl rfl rfl (ly_o L 79 rfl g2) (And.elim (fun g3 g3k => wl_if (g := cm_ok h 13 77 (cm_I h 79 x2.toNatClampNeg)) (st' := [.int (cm_I h 77 (cm_I h 79 x2.toNatClampNeg).toNatClampNeg), .int ((80 : Int32) + x2), .ref 43]) d211_39 rfl rfl rfl rfl (ly_o L 77 rfl g3) (And.elim (fun g4 g4k => wl_if (h' := (cm_setI h 43 ((80 : Int32) + x2).toNatClampNeg (cm_I h 77 (cm_I h 79 x2.toNatClampNeg).toNatClampNeg))) d211_40 rfl rfl rfl rfl (ly_o L 43 rfl g4) (wl_st d211_41 rfl rfl rfl rfl (wl_gr (b := 45) d211_42 pf11_28 (ly_k L 38 rfl) rfl (ly_r L 38 8 rfl) (wl_bi (v := 80) d211_45 rfl (wl_st d211_47 rfl rfl rfl rfl (wl_st d211_48 rfl rfl rfl rfl (wl_st d211_49 rfl rfl rfl rfl (wl_gr (b := 78) d211_50 pf11_129 (ly_k L 38 rfl) rfl (ly_r L 38 50 rfl) (wl_st d211_53 rfl rfl rfl rfl (wl_gr (b := 79) d211_54 pf11_132 (ly_k L 38 rfl) rfl (ly_r L 38 51 rfl) (wl_st d211_57 rfl rfl rfl rfl (wl_if (g := cm_ok (cm_setI h 43 ((80 : Int32) + x2).toNatClampNeg (cm_I h 77 (cm_I h 79 x2.toNatClampNeg).toNatClampNeg)) 13 79 x2) (st' := [.int (cm_I h 79 x2.toNatClampNeg), .ref 78, .int ((80 : Int32) + x2), .ref 45]) d211_58 rfl rfl rfl rfl (ly_o L 79 rfl g2) (wl_if (g := cm_ok (cm_setI h 43 ((80 : Int32) + x2).toNatClampNeg (cm_I h 77 (cm_I h 79 x2.toNatClampNeg).toNatClampNeg)) 13 78 (cm_I h 79 x2.toNatClampNeg)) (st' := [.int (cm_I h 78 (cm_I h 79 x2.toNatClampNeg).toNatClampNeg), .int ((80 : Int32) + x2), .ref 45]) d211_59 rfl rfl rfl rfl (ly_o L 78 rfl g3) (wl_if (h' := (cm_setI (cm_setI h 43 ((80 : Int32) + x2).toNatClampNeg (cm_I h 77 (cm_I h 79 x2.toNatClampNeg).toNatClampNeg)) 45 ((80 : Int32) + x2).toNatClampNeg (cm_I h 78 (cm_I h 79 x2.toNatClampNeg).toNatClampNeg))) d211_60 rfl rfl rfl rfl (ly_o L 45 rfl g4) (wl_st (ls' := [some (.ref 38), some (.int x1), some (.int (x2 + 1)), u3, u4, u5, u6]) d211_61 rfl rfl rfl rfl (wl_go (tgt := 13) d211_64 (by decide) (g4k))))))))))))))))) g3k)) g2k)) (H.2 c1)))))))))))))))
theorem s211_69 {sc : cmS} {d : Nat} {h : cmH} {Q : Option Value → cmH → Prop} (L : LY h) (x1 : Int32) (x2 : Int32) (u3 : Option Value) (u4 : Option Value) (u5 : Option Value) (u6 : Option Value) (H : ((((80 : Int32) ≤ x2) → cm_wp sc d 211 94 [some (.ref 38), some (.int x1), some (.int (0 : Int32)), u3, u4, u5, u6] [] h Q) ∧ (¬ ((80 : Int32) ≤ x2) → (IX 720 ((640 : Int32) + x2)) ∧ cm_wp sc d 211 69 [some (.ref 38), some (.int x1), some (.int (x2 + 1)), u3, u4, u5, u6] [] (cm_setI h 46 ((640 : Int32) + x2).toNatClampNeg (0 : Int32)) Q))) : cm_wp sc d 211 69 [some (.ref 38), some (.int x1), some (.int x2), u3, u4, u5, u6] [] h Q :=
  wl_st d211_69 rfl rfl rfl rfl (wl_bi (v := 80) d211_70 rfl (wl_cb (b := (80 : Int32) ≤ x2) (off := 20) (tgt := 92) (pc3 := 75) (st' := []) d211_72 rfl rfl rfl rfl (by decide) rfl (fun c1 => wl_ic (v := 0) d211_92 rfl (wl_st (ls' := [some (.ref 38), some (.int x1), some (.int (0 : Int32)), u3, u4, u5, u6]) d211_93 rfl rfl rfl rfl ((H.1 c1)))) (fun c1 => wl_st d211_75 rfl rfl rfl rfl (wl_gr (b := 46) d211_76 pf11_31 (ly_k L 38 rfl) rfl (ly_r L 38 9 rfl) (wl_si (v := 640) d211_79 rfl (wl_st d211_82 rfl rfl rfl rfl (wl_st d211_83 rfl rfl rfl rfl (wl_ic (v := 0) d211_84 rfl (And.elim (fun g2 g2k => wl_if (h' := (cm_setI h 46 ((640 : Int32) + x2).toNatClampNeg (0 : Int32))) d211_85 rfl rfl rfl rfl (ly_o L 46 rfl g2) (wl_st (ls' := [some (.ref 38), some (.int x1), some (.int (x2 + 1)), u3, u4, u5, u6]) d211_86 rfl rfl rfl rfl (wl_go (tgt := 69) d211_89 (by decide) (g2k)))) (H.2 c1))))))))))
theorem s211_94 {sc : cmS} {d : Nat} {h : cmH} {Q : Option Value → cmH → Prop} (L : LY h) (x1 : Int32) (x2 : Int32) (u3 : Option Value) (u4 : Option Value) (u5 : Option Value) (u6 : Option Value) (H : ((((8 : Int32) ≤ x2) → cm_wp sc d 211 120 [some (.ref 38), some (.int x1), some (.int (0 : Int32)), some (.int (0 : Int32)), u4, u5, u6] [] h Q) ∧ (¬ ((8 : Int32) ≤ x2) → (IX 72 ((64 : Int32) + x2)) ∧ cm_wp sc d 211 94 [some (.ref 38), some (.int x1), some (.int (x2 + 1)), u3, u4, u5, u6] [] (cm_setI h 48 ((64 : Int32) + x2).toNatClampNeg (0 : Int32)) Q))) : cm_wp sc d 211 94 [some (.ref 38), some (.int x1), some (.int x2), u3, u4, u5, u6] [] h Q :=
  wl_st d211_94 rfl rfl rfl rfl (wl_bi (v := 8) d211_95 rfl (wl_cb (b := (8 : Int32) ≤ x2) (off := 19) (tgt := 116) (pc3 := 100) (st' := []) d211_97 rfl rfl rfl rfl (by decide) rfl (fun c1 => wl_ic (v := 0) d211_116 rfl (wl_st (ls' := [some (.ref 38), some (.int x1), some (.int (0 : Int32)), u3, u4, u5, u6]) d211_117 rfl rfl rfl rfl (wl_ic (v := 0) d211_118 rfl (wl_st (ls' := [some (.ref 38), some (.int x1), some (.int (0 : Int32)), some (.int (0 : Int32)), u4, u5, u6]) d211_119 rfl rfl rfl rfl ((H.1 c1)))))) (fun c1 => wl_st d211_100 rfl rfl rfl rfl (wl_gr (b := 48) d211_101 pf11_37 (ly_k L 38 rfl) rfl (ly_r L 38 11 rfl) (wl_bi (v := 64) d211_104 rfl (wl_st d211_106 rfl rfl rfl rfl (wl_st d211_107 rfl rfl rfl rfl (wl_ic (v := 0) d211_108 rfl (And.elim (fun g2 g2k => wl_if (h' := (cm_setI h 48 ((64 : Int32) + x2).toNatClampNeg (0 : Int32))) d211_109 rfl rfl rfl rfl (ly_o L 48 rfl g2) (wl_st (ls' := [some (.ref 38), some (.int x1), some (.int (x2 + 1)), u3, u4, u5, u6]) d211_110 rfl rfl rfl rfl (wl_go (tgt := 94) d211_113 (by decide) (g2k)))) (H.2 c1))))))))))
theorem s211_120 {sc : cmS} {d : Nat} {h : cmH} {Q : Option Value → cmH → Prop} (L : LY h) (x1 : Int32) (x2 : Int32) (x3 : Int32) (u4 : Option Value) (u5 : Option Value) (u6 : Option Value) (H : ((((100 : Int32) ≤ x3) → Q (some (.int (100 : Int32))) h) ∧ (¬ ((100 : Int32) ≤ x3) → (((¬ x2 = 0) → cm_wp sc (d + 1) 211 143 [some (.ref 38), some (.int x1), some (.int x2), some (.int x3), u4, u5, u6] [] h Q) ∧ (¬ (¬ x2 = 0) → cm_ci sc d 191 [.ref 38, .int (8 : Int32)] h (fun r h' => cm_wp sc (d + 1) 211 136 [some (.ref 38), some (.int x1), some (.int x2), some (.int x3), u4, u5, u6] [.int r] h' Q)))))) : cm_wp sc (d + 1) 211 120 [some (.ref 38), some (.int x1), some (.int x2), some (.int x3), u4, u5, u6] [] h Q :=
  wl_st d211_120 rfl rfl rfl rfl (wl_bi (v := 100) d211_121 rfl (wl_cb (b := (100 : Int32) ≤ x3) (off := 140) (tgt := 263) (pc3 := 126) (st' := []) d211_123 rfl rfl rfl rfl (by decide) rfl (fun c1 => wl_bi (v := 100) d211_263 rfl (wl_rt d211_265 rfl rfl rfl (H.1 c1))) (fun c1 => wl_st d211_126 rfl rfl rfl rfl (wl_cb (b := ¬ x2 = 0) (off := 16) (tgt := 143) (pc3 := 130) (st' := []) d211_127 rfl rfl rfl rfl (by decide) rfl (fun c2 => ((H.2 c1).1 c2)) (fun c2 => wl_st d211_130 rfl rfl rfl rfl (wl_bi (v := 8) d211_131 rfl (wl_ci d211_133 rfl rfl rfl pm11_333 (by decide) (ca_v (Or.inl rfl) rfl (Nat.le_of_ble_eq_true rfl) (Nat.le_of_ble_eq_true rfl) (ly_k L 38 rfl).2 (ly_k L 38 rfl).1 (by decide)) ((H.2 c1).2 c2))))))))
theorem s211_136 {sc : cmS} {d : Nat} {h : cmH} {Q : Option Value → cmH → Prop} (x1 : Int32) (x2 : Int32) (x3 : Int32) (u4 : Option Value) (u5 : Option Value) (u6 : Option Value) (sx0 : Int32) (H : (((sx0 ≤ 0) → cm_wp sc d 211 143 [some (.ref 38), some (.int x1), some (.int x2), some (.int x3), u4, u5, u6] [] h Q) ∧ (¬ (sx0 ≤ 0) → cm_wp sc d 211 144 [some (.ref 38), some (.int x1), some (.int x2), some (.int x3), u4, u5, u6] [.int (1 : Int32)] h Q))) : cm_wp sc d 211 136 [some (.ref 38), some (.int x1), some (.int x2), some (.int x3), u4, u5, u6] [.int sx0] h Q :=
  wl_cb (b := sx0 ≤ 0) (off := 7) (tgt := 143) (pc3 := 139) (st' := []) d211_136 rfl rfl rfl rfl (by decide) rfl (fun c1 => (H.1 c1)) (fun c1 => wl_ic (v := 1) d211_139 rfl (wl_go (tgt := 144) d211_140 (by decide) ((H.2 c1))))
theorem s211_143 {sc : cmS} {d : Nat} {h : cmH} {Q : Option Value → cmH → Prop} (x1 : Int32) (x2 : Int32) (x3 : Int32) (u4 : Option Value) (u5 : Option Value) (u6 : Option Value) (H : cm_wp sc d 211 144 [some (.ref 38), some (.int x1), some (.int x2), some (.int x3), u4, u5, u6] [.int (0 : Int32)] h Q) : cm_wp sc d 211 143 [some (.ref 38), some (.int x1), some (.int x2), some (.int x3), u4, u5, u6] [] h Q :=
  wl_ic (v := 0) d211_143 rfl (H)
theorem s211_144 {sc : cmS} {d : Nat} {h : cmH} {Q : Option Value → cmH → Prop} (L : LY h) (x1 : Int32) (x2 : Int32) (x3 : Int32) (u4 : Option Value) (u5 : Option Value) (u6 : Option Value) (sx0 : Int32) (H : (((¬ x2 = 0) → cm_wp sc (d + 1) 211 160 [some (.ref 38), some (.int x1), some (.int x2), some (.int x3), some (.int sx0), u5, u6] [] h Q) ∧ (¬ (¬ x2 = 0) → cm_ci sc d 144 [.ref 38, .int (8 : Int32)] h (fun r h' => cm_wp sc (d + 1) 211 156 [some (.ref 38), some (.int x1), some (.int x2), some (.int x3), some (.int sx0), u5, u6] [.int r] h' Q)))) : cm_wp sc (d + 1) 211 144 [some (.ref 38), some (.int x1), some (.int x2), some (.int x3), u4, u5, u6] [.int sx0] h Q :=
  wl_st (ls' := [some (.ref 38), some (.int x1), some (.int x2), some (.int x3), some (.int sx0), u5, u6]) d211_144 rfl rfl rfl rfl (wl_st d211_146 rfl rfl rfl rfl (wl_cb (b := ¬ x2 = 0) (off := 13) (tgt := 160) (pc3 := 150) (st' := []) d211_147 rfl rfl rfl rfl (by decide) rfl (fun c1 => (H.1 c1)) (fun c1 => wl_st d211_150 rfl rfl rfl rfl (wl_bi (v := 8) d211_151 rfl (wl_ci d211_153 rfl rfl rfl pm11_192 (by decide) (ca_v (Or.inl rfl) rfl (Nat.le_of_ble_eq_true rfl) (Nat.le_of_ble_eq_true rfl) (ly_k L 38 rfl).2 (ly_k L 38 rfl).1 (by decide)) (H.2 c1))))))
theorem s211_156 {sc : cmS} {d : Nat} {h : cmH} {Q : Option Value → cmH → Prop} (x1 : Int32) (x2 : Int32) (x3 : Int32) (x4 : Int32) (u5 : Option Value) (u6 : Option Value) (sx0 : Int32) (H : (((¬ sx0 = (-1 : Int32)) → cm_wp sc d 211 165 [some (.ref 38), some (.int x1), some (.int x2), some (.int x3), some (.int x4), u5, u6] [.int (0 : Int32)] h Q) ∧ (¬ (¬ sx0 = (-1 : Int32)) → cm_wp sc d 211 160 [some (.ref 38), some (.int x1), some (.int x2), some (.int x3), some (.int x4), u5, u6] [] h Q))) : cm_wp sc d 211 156 [some (.ref 38), some (.int x1), some (.int x2), some (.int x3), some (.int x4), u5, u6] [.int sx0] h Q :=
  wl_ic (v := (-1)) d211_156 rfl (wl_cb (b := ¬ sx0 = (-1 : Int32)) (off := 7) (tgt := 164) (pc3 := 160) (st' := []) d211_157 rfl rfl rfl rfl (by decide) rfl (fun c1 => wl_ic (v := 0) d211_164 rfl ((H.1 c1))) (fun c1 => (H.2 c1)))
theorem s211_160 {sc : cmS} {d : Nat} {h : cmH} {Q : Option Value → cmH → Prop} (x1 : Int32) (x2 : Int32) (x3 : Int32) (x4 : Int32) (u5 : Option Value) (u6 : Option Value) (H : cm_wp sc d 211 165 [some (.ref 38), some (.int x1), some (.int x2), some (.int x3), some (.int x4), u5, u6] [.int (1 : Int32)] h Q) : cm_wp sc d 211 160 [some (.ref 38), some (.int x1), some (.int x2), some (.int x3), some (.int x4), u5, u6] [] h Q :=
  wl_ic (v := 1) d211_160 rfl (wl_go (tgt := 165) d211_161 (by decide) (H))
theorem s211_165 {sc : cmS} {d : Nat} {h : cmH} {Q : Option Value → cmH → Prop} (L : LY h) (x1 : Int32) (x2 : Int32) (x3 : Int32) (x4 : Int32) (u5 : Option Value) (u6 : Option Value) (sx0 : Int32) (H : (((x4 = 0) → cm_wp sc (d + 1) 211 190 [some (.ref 38), some (.int x1), some (.int sx0), some (.int x3), some (.int x4), u5, u6] [] h Q) ∧ (¬ (x4 = 0) → cm_ci sc d 143 [.ref 38, .int (8 : Int32), .int (cm_I h 38 48)] h (fun r h' => cm_wp sc (d + 1) 211 181 [some (.ref 38), some (.int x1), some (.int sx0), some (.int x3), some (.int x4), u5, u6] [.int r] h' Q)))) : cm_wp sc (d + 1) 211 165 [some (.ref 38), some (.int x1), some (.int x2), some (.int x3), some (.int x4), u5, u6] [.int sx0] h Q :=
  wl_st (ls' := [some (.ref 38), some (.int x1), some (.int sx0), some (.int x3), some (.int x4), u5, u6]) d211_165 rfl rfl rfl rfl (wl_st d211_166 rfl rfl rfl rfl (wl_cb (b := x4 = 0) (off := 22) (tgt := 190) (pc3 := 171) (st' := []) d211_168 rfl rfl rfl rfl (by decide) rfl (fun c1 => (H.1 c1)) (fun c1 => wl_st d211_171 rfl rfl rfl rfl (wl_bi (v := 8) d211_172 rfl (wl_st d211_174 rfl rfl rfl rfl (wl_gf (v := .int (cm_I h 38 48)) d211_175 pf11_319 (ly_k L 38 rfl) rfl (wl_ci d211_178 rfl rfl rfl pm11_206 (by decide) (ca_v (Or.inl rfl) rfl (Nat.le_of_ble_eq_true rfl) (Nat.le_of_ble_eq_true rfl) (ly_k L 38 rfl).2 (ly_k L 38 rfl).1 (by decide)) (H.2 c1))))))))
theorem s211_181 {sc : cmS} {d : Nat} {h : cmH} {Q : Option Value → cmH → Prop} (x1 : Int32) (x2 : Int32) (x3 : Int32) (x4 : Int32) (u5 : Option Value) (u6 : Option Value) (sx0 : Int32) (H : (((¬ sx0 = (-1 : Int32)) → cm_wp sc d 211 190 [some (.ref 38), some (.int x1), some (.int x2), some (.int x3), some (.int x4), u5, u6] [] h Q) ∧ (¬ (¬ sx0 = (-1 : Int32)) → cm_wp sc d 211 190 [some (.ref 38), some (.int x1), some (.int (1 : Int32)), some (.int x3), some (.int (0 : Int32)), u5, u6] [] h Q))) : cm_wp sc d 211 181 [some (.ref 38), some (.int x1), some (.int x2), some (.int x3), some (.int x4), u5, u6] [.int sx0] h Q :=
  wl_ic (v := (-1)) d211_181 rfl (wl_cb (b := ¬ sx0 = (-1 : Int32)) (off := 8) (tgt := 190) (pc3 := 185) (st' := []) d211_182 rfl rfl rfl rfl (by decide) rfl (fun c1 => (H.1 c1)) (fun c1 => wl_ic (v := 0) d211_185 rfl (wl_st (ls' := [some (.ref 38), some (.int x1), some (.int x2), some (.int x3), some (.int (0 : Int32)), u5, u6]) d211_186 rfl rfl rfl rfl (wl_ic (v := 1) d211_188 rfl (wl_st (ls' := [some (.ref 38), some (.int x1), some (.int (1 : Int32)), some (.int x3), some (.int (0 : Int32)), u5, u6]) d211_189 rfl rfl rfl rfl ((H.2 c1)))))))
theorem s211_190 {sc : cmS} {d : Nat} {h : cmH} {Q : Option Value → cmH → Prop} (L : LY h) (x1 : Int32) (x2 : Int32) (x3 : Int32) (x4 : Int32) (u5 : Option Value) (u6 : Option Value) (H : cm_cv sc d 192 [.ref 38, .int (8 : Int32)] h (fun h' => cm_wp sc (d + 1) 211 196 [some (.ref 38), some (.int x1), some (.int x2), some (.int x3), some (.int x4), u5, u6] [] h' Q)) : cm_wp sc (d + 1) 211 190 [some (.ref 38), some (.int x1), some (.int x2), some (.int x3), some (.int x4), u5, u6] [] h Q :=
  wl_st d211_190 rfl rfl rfl rfl (wl_bi (v := 8) d211_191 rfl (wl_cv d211_193 rfl rfl rfl pm11_336 (by decide) (ca_v (Or.inl rfl) rfl (Nat.le_of_ble_eq_true rfl) (Nat.le_of_ble_eq_true rfl) (ly_k L 38 rfl).2 (ly_k L 38 rfl).1 (by decide)) H))
theorem s211_196 {sc : cmS} {d : Nat} {h : cmH} {Q : Option Value → cmH → Prop} (x1 : Int32) (x2 : Int32) (x3 : Int32) (x4 : Int32) (u5 : Option Value) (u6 : Option Value) (H : cm_wp sc d 211 203 [some (.ref 38), some (.int x1), some (.int x2), some (.int x3), some (.int x4), some (.int (0 : Int32)), some (.int (7 : Int32))] [] h Q) : cm_wp sc d 211 196 [some (.ref 38), some (.int x1), some (.int x2), some (.int x3), some (.int x4), u5, u6] [] h Q :=
  wl_ic (v := 0) d211_196 rfl (wl_st (ls' := [some (.ref 38), some (.int x1), some (.int x2), some (.int x3), some (.int x4), some (.int (0 : Int32)), u6]) d211_197 rfl rfl rfl rfl (wl_bi (v := 7) d211_199 rfl (wl_st (ls' := [some (.ref 38), some (.int x1), some (.int x2), some (.int x3), some (.int x4), some (.int (0 : Int32)), some (.int (7 : Int32))]) d211_201 rfl rfl rfl rfl (H))))
theorem s211_203 {sc : cmS} {d : Nat} {h : cmH} {Q : Option Value → cmH → Prop} (L : LY h) (x1 : Int32) (x2 : Int32) (x3 : Int32) (x4 : Int32) (x5 : Int32) (x6 : Int32) (H : (((x6 < 0) → (((x5 ≤ x1) → cm_wp sc (d + 1) 211 120 [some (.ref 38), some (.int x1), some (.int x2), some (.int (x3 + 1)), some (.int x4), some (.int x5), some (.int x6)] [] h Q) ∧ (¬ (x5 ≤ x1) → Q (some (.int x3)) h))) ∧ (¬ (x6 < 0) → (((x4 = 0) → (IX 8 x6) ∧ cm_wp sc (d + 1) 211 240 [some (.ref 38), some (.int x1), some (.int x2), some (.int x3), some (.int x4), some (.int x5), some (.int x6)] [.int (cm_I h 67 x6.toNatClampNeg), .int x5] h Q) ∧ (¬ (x4 = 0) → (IX 8 x6) ∧ cm_ci sc d 196 [.ref 38, .int (8 : Int32), .int x6, .int (cm_I h 67 x6.toNatClampNeg)] h (fun r h' => cm_wp sc (d + 1) 211 230 [some (.ref 38), some (.int x1), some (.int x2), some (.int x3), some (.int x4), some (.int x5), some (.int x6)] [.int r, .int x5] h' Q)))))) : cm_wp sc (d + 1) 211 203 [some (.ref 38), some (.int x1), some (.int x2), some (.int x3), some (.int x4), some (.int x5), some (.int x6)] [] h Q :=
  wl_st d211_203 rfl rfl rfl rfl (wl_cb (b := x6 < 0) (off := 44) (tgt := 249) (pc3 := 208) (st' := []) d211_205 rfl rfl rfl rfl (by decide) rfl (fun c1 => wl_st d211_249 rfl rfl rfl rfl (wl_st d211_251 rfl rfl rfl rfl (wl_cb (b := x5 ≤ x1) (off := 5) (tgt := 257) (pc3 := 255) (st' := []) d211_252 rfl rfl rfl rfl (by decide) rfl (fun c2 => wl_st (ls' := [some (.ref 38), some (.int x1), some (.int x2), some (.int (x3 + 1)), some (.int x4), some (.int x5), some (.int x6)]) d211_257 rfl rfl rfl rfl (wl_go (tgt := 120) d211_260 (by decide) (((H.1 c1).1 c2)))) (fun c2 => wl_st d211_255 rfl rfl rfl rfl (wl_rt d211_256 rfl rfl rfl ((H.1 c1).2 c2)))))) (fun c1 => wl_st d211_208 rfl rfl rfl rfl (wl_st d211_210 rfl rfl rfl rfl (wl_cb (b := x4 = 0) (off := 21) (tgt := 233) (pc3 := 215) (st' := [.int x5]) d211_212 rfl rfl rfl rfl (by decide) rfl (fun c3 => wl_st d211_233 rfl rfl rfl rfl (wl_gr (b := 67) d211_234 pf11_95 (ly_k L 38 rfl) rfl (ly_r L 38 38 rfl) (wl_st d211_237 rfl rfl rfl rfl (And.elim (fun g4 g4k => wl_if (g := cm_ok h 13 67 x6) (st' := [.int (cm_I h 67 x6.toNatClampNeg), .int x5]) d211_239 rfl rfl rfl rfl (ly_o L 67 rfl g4) (g4k)) ((H.2 c1).1 c3))))) (fun c3 => wl_st d211_215 rfl rfl rfl rfl (wl_bi (v := 8) d211_216 rfl (wl_st d211_218 rfl rfl rfl rfl (wl_st d211_220 rfl rfl rfl rfl (wl_gr (b := 67) d211_221 pf11_95 (ly_k L 38 rfl) rfl (ly_r L 38 38 rfl) (wl_st d211_224 rfl rfl rfl rfl (And.elim (fun g5 g5k => wl_if (g := cm_ok h 13 67 x6) (st' := [.int (cm_I h 67 x6.toNatClampNeg), .int x6, .int (8 : Int32), .ref 38, .int x5]) d211_226 rfl rfl rfl rfl (ly_o L 67 rfl g5) (wl_ci d211_227 rfl rfl rfl pm11_348 (by decide) (ca_v (Or.inl rfl) rfl (Nat.le_of_ble_eq_true rfl) (Nat.le_of_ble_eq_true rfl) (ly_k L 38 rfl).2 (ly_k L 38 rfl).1 (by decide)) g5k)) ((H.2 c1).2 c3))))))))))))
theorem s211_230 {sc : cmS} {d : Nat} {h : cmH} {Q : Option Value → cmH → Prop} (x1 : Int32) (x2 : Int32) (x3 : Int32) (x4 : Int32) (x5 : Int32) (x6 : Int32) (sx0 : Int32) (sx1 : Int32) (H : cm_wp sc d 211 240 [some (.ref 38), some (.int x1), some (.int x2), some (.int x3), some (.int x4), some (.int x5), some (.int x6)] [.int sx0, .int sx1] h Q) : cm_wp sc d 211 230 [some (.ref 38), some (.int x1), some (.int x2), some (.int x3), some (.int x4), some (.int x5), some (.int x6)] [.int sx0, .int sx1] h Q :=
  wl_go (tgt := 240) d211_230 (by decide) (H)
theorem s211_240 {sc : cmS} {d : Nat} {h : cmH} {Q : Option Value → cmH → Prop} (x1 : Int32) (x2 : Int32) (x3 : Int32) (x4 : Int32) (x5 : Int32) (x6 : Int32) (sx0 : Int32) (sx1 : Int32) (H : cm_wp sc d 211 203 [some (.ref 38), some (.int x1), some (.int x2), some (.int x3), some (.int x4), some (.int (sx1 + sx0)), some (.int (x6 + (-1)))] [] h Q) : cm_wp sc d 211 240 [some (.ref 38), some (.int x1), some (.int x2), some (.int x3), some (.int x4), some (.int x5), some (.int x6)] [.int sx0, .int sx1] h Q :=
  wl_st d211_240 rfl rfl rfl rfl (wl_st (ls' := [some (.ref 38), some (.int x1), some (.int x2), some (.int x3), some (.int x4), some (.int (sx1 + sx0)), some (.int x6)]) d211_241 rfl rfl rfl rfl (wl_st (ls' := [some (.ref 38), some (.int x1), some (.int x2), some (.int x3), some (.int x4), some (.int (sx1 + sx0)), some (.int (x6 + (-1)))]) d211_243 rfl rfl rfl rfl (wl_go (tgt := 203) d211_246 (by decide) (H))))
-- ClogHouseModel.cost(II)Z
theorem d212_0 : decode (cm_M 212).2.2.1 0 = .ok (.iload_n 1, 1) := by decide +kernel
theorem d212_1 : decode (cm_M 212).2.2.1 1 = .ok (.iconst (-1), 1) := by decide +kernel
theorem d212_2 : decode (cm_M 212).2.2.1 2 = .ok (.if_icmp .ne 23, 3) := by decide +kernel
theorem d212_5 : decode (cm_M 212).2.2.1 5 = .ok (.iload_n 2, 1) := by decide +kernel
theorem d212_6 : decode (cm_M 212).2.2.1 6 = .ok (.iconst 0, 1) := by decide +kernel
theorem d212_7 : decode (cm_M 212).2.2.1 7 = .ok (.sipush 10000, 3) := by decide +kernel
theorem d212_10 : decode (cm_M 212).2.2.1 10 = .ok (.invokestatic 161, 3) := by decide +kernel
theorem d212_13 : decode (cm_M 212).2.2.1 13 = .ok (.ifCond .ne 5, 3) := by decide +kernel
theorem d212_16 : decode (cm_M 212).2.2.1 16 = .ok (.iconst 0, 1) := by decide +kernel
theorem d212_17 : decode (cm_M 212).2.2.1 17 = .ok (.ireturn, 1) := by decide +kernel
theorem d212_18 : decode (cm_M 212).2.2.1 18 = .ok (.aload_n 0, 1) := by decide +kernel
theorem d212_19 : decode (cm_M 212).2.2.1 19 = .ok (.iload_n 2, 1) := by decide +kernel
theorem d212_20 : decode (cm_M 212).2.2.1 20 = .ok (.putfield 387, 3) := by decide +kernel
theorem d212_23 : decode (cm_M 212).2.2.1 23 = .ok (.iconst 1, 1) := by decide +kernel
theorem d212_24 : decode (cm_M 212).2.2.1 24 = .ok (.ireturn, 1) := by decide +kernel
theorem d212_25 : decode (cm_M 212).2.2.1 25 = .ok (.iload_n 1, 1) := by decide +kernel
theorem d212_26 : decode (cm_M 212).2.2.1 26 = .ok (.iconst 0, 1) := by decide +kernel
theorem d212_27 : decode (cm_M 212).2.2.1 27 = .ok (.bipush 19, 2) := by decide +kernel
theorem d212_29 : decode (cm_M 212).2.2.1 29 = .ok (.invokestatic 161, 3) := by decide +kernel
theorem d212_32 : decode (cm_M 212).2.2.1 32 = .ok (.ifCond .eq 14, 3) := by decide +kernel
theorem d212_35 : decode (cm_M 212).2.2.1 35 = .ok (.iload_n 2, 1) := by decide +kernel
theorem d212_36 : decode (cm_M 212).2.2.1 36 = .ok (.iconst 0, 1) := by decide +kernel
theorem d212_37 : decode (cm_M 212).2.2.1 37 = .ok (.sipush 1000, 3) := by decide +kernel
theorem d212_40 : decode (cm_M 212).2.2.1 40 = .ok (.invokestatic 161, 3) := by decide +kernel
theorem d212_43 : decode (cm_M 212).2.2.1 43 = .ok (.ifCond .ne 5, 3) := by decide +kernel
theorem d212_46 : decode (cm_M 212).2.2.1 46 = .ok (.iconst 0, 1) := by decide +kernel
theorem d212_47 : decode (cm_M 212).2.2.1 47 = .ok (.ireturn, 1) := by decide +kernel
theorem d212_48 : decode (cm_M 212).2.2.1 48 = .ok (.aload_n 0, 1) := by decide +kernel
theorem d212_49 : decode (cm_M 212).2.2.1 49 = .ok (.getfield 138, 3) := by decide +kernel
theorem d212_52 : decode (cm_M 212).2.2.1 52 = .ok (.iload_n 1, 1) := by decide +kernel
theorem d212_53 : decode (cm_M 212).2.2.1 53 = .ok (.iload_n 2, 1) := by decide +kernel
theorem d212_54 : decode (cm_M 212).2.2.1 54 = .ok (.iastore, 1) := by decide +kernel
theorem d212_55 : decode (cm_M 212).2.2.1 55 = .ok (.iconst 1, 1) := by decide +kernel
theorem d212_56 : decode (cm_M 212).2.2.1 56 = .ok (.ireturn, 1) := by decide +kernel
theorem s212_0 {sc : cmS} {d : Nat} {h : cmH} {Q : Option Value → cmH → Prop} (x1 : Int32) (x2 : Int32) (H : (((¬ x1 = (-1 : Int32)) → cm_ci sc d 137 [.int x1, .int (0 : Int32), .int (19 : Int32)] h (fun r h' => cm_wp sc (d + 1) 212 32 [some (.ref 38), some (.int x1), some (.int x2)] [.int r] h' Q)) ∧ (¬ (¬ x1 = (-1 : Int32)) → cm_ci sc d 137 [.int x2, .int (0 : Int32), .int (10000 : Int32)] h (fun r h' => cm_wp sc (d + 1) 212 13 [some (.ref 38), some (.int x1), some (.int x2)] [.int r] h' Q)))) : cm_wp sc (d + 1) 212 0 [some (.ref 38), some (.int x1), some (.int x2)] [] h Q :=
  wl_st d212_0 rfl rfl rfl rfl (wl_ic (v := (-1)) d212_1 rfl (wl_cb (b := ¬ x1 = (-1 : Int32)) (off := 23) (tgt := 25) (pc3 := 5) (st' := []) d212_2 rfl rfl rfl rfl (by decide) rfl (fun c1 => wl_st d212_25 rfl rfl rfl rfl (wl_ic (v := 0) d212_26 rfl (wl_bi (v := 19) d212_27 rfl (wl_ci d212_29 rfl rfl rfl pm11_161 (by decide) (ca_s (Or.inl rfl) rfl (Nat.le_of_ble_eq_true rfl) (Nat.le_of_ble_eq_true rfl)) (H.1 c1))))) (fun c1 => wl_st d212_5 rfl rfl rfl rfl (wl_ic (v := 0) d212_6 rfl (wl_si (v := 10000) d212_7 rfl (wl_ci d212_10 rfl rfl rfl pm11_161 (by decide) (ca_s (Or.inl rfl) rfl (Nat.le_of_ble_eq_true rfl) (Nat.le_of_ble_eq_true rfl)) (H.2 c1)))))))
theorem s212_13 {sc : cmS} {d : Nat} {h : cmH} {Q : Option Value → cmH → Prop} (L : LY h) (x1 : Int32) (x2 : Int32) (sx0 : Int32) (H : (((¬ sx0 = 0) → Q (some (.int (1 : Int32))) (cm_setI h 38 57 x2)) ∧ (¬ (¬ sx0 = 0) → Q (some (.int (0 : Int32))) h))) : cm_wp sc d 212 13 [some (.ref 38), some (.int x1), some (.int x2)] [.int sx0] h Q :=
  wl_cb (b := ¬ sx0 = 0) (off := 5) (tgt := 18) (pc3 := 16) (st' := []) d212_13 rfl rfl rfl rfl (by decide) rfl (fun c1 => wl_st d212_18 rfl rfl rfl rfl (wl_st d212_19 rfl rfl rfl rfl (wl_pf (h' := (cm_setI h 38 57 x2)) d212_20 pf11_387 (ly_k L 38 rfl) (Or.inl rfl) rfl (wl_ic (v := 1) d212_23 rfl (wl_rz d212_24 rfl (by decide) (H.1 c1)))))) (fun c1 => wl_ic (v := 0) d212_16 rfl (wl_rz d212_17 rfl (by decide) (H.2 c1)))
theorem s212_32 {sc : cmS} {d : Nat} {h : cmH} {Q : Option Value → cmH → Prop} (x1 : Int32) (x2 : Int32) (sx0 : Int32) (H : (((sx0 = 0) → Q (some (.int (0 : Int32))) h) ∧ (¬ (sx0 = 0) → cm_ci sc d 137 [.int x2, .int (0 : Int32), .int (1000 : Int32)] h (fun r h' => cm_wp sc (d + 1) 212 43 [some (.ref 38), some (.int x1), some (.int x2)] [.int r] h' Q)))) : cm_wp sc (d + 1) 212 32 [some (.ref 38), some (.int x1), some (.int x2)] [.int sx0] h Q :=
  wl_cb (b := sx0 = 0) (off := 14) (tgt := 46) (pc3 := 35) (st' := []) d212_32 rfl rfl rfl rfl (by decide) rfl (fun c1 => wl_ic (v := 0) d212_46 rfl (wl_rz d212_47 rfl (by decide) (H.1 c1))) (fun c1 => wl_st d212_35 rfl rfl rfl rfl (wl_ic (v := 0) d212_36 rfl (wl_si (v := 1000) d212_37 rfl (wl_ci d212_40 rfl rfl rfl pm11_161 (by decide) (ca_s (Or.inl rfl) rfl (Nat.le_of_ble_eq_true rfl) (Nat.le_of_ble_eq_true rfl)) (H.2 c1)))))
theorem s212_43 {sc : cmS} {d : Nat} {h : cmH} {Q : Option Value → cmH → Prop} (L : LY h) (x1 : Int32) (x2 : Int32) (sx0 : Int32) (H : (((¬ sx0 = 0) → (IX 20 x1) ∧ Q (some (.int (1 : Int32))) (cm_setI h 81 x1.toNatClampNeg x2)) ∧ (¬ (¬ sx0 = 0) → Q (some (.int (0 : Int32))) h))) : cm_wp sc d 212 43 [some (.ref 38), some (.int x1), some (.int x2)] [.int sx0] h Q :=
  wl_cb (b := ¬ sx0 = 0) (off := 5) (tgt := 48) (pc3 := 46) (st' := []) d212_43 rfl rfl rfl rfl (by decide) rfl (fun c1 => wl_st d212_48 rfl rfl rfl rfl (wl_gr (b := 81) d212_49 pf11_138 (ly_k L 38 rfl) rfl (ly_r L 38 55 rfl) (wl_st d212_52 rfl rfl rfl rfl (wl_st d212_53 rfl rfl rfl rfl (And.elim (fun g2 g2k => wl_if (h' := (cm_setI h 81 x1.toNatClampNeg x2)) d212_54 rfl rfl rfl rfl (ly_o L 81 rfl g2) (wl_ic (v := 1) d212_55 rfl (wl_rz d212_56 rfl (by decide) g2k))) (H.1 c1)))))) (fun c1 => wl_ic (v := 0) d212_46 rfl (wl_rz d212_47 rfl (by decide) (H.2 c1)))
-- ClogHouseModel.cheapest(III)I
theorem d213_0 : decode (cm_M 213).2.2.1 0 = .ok (.iload_n 1, 1) := by decide +kernel
theorem d213_1 : decode (cm_M 213).2.2.1 1 = .ok (.iconst 1, 1) := by decide +kernel
theorem d213_2 : decode (cm_M 213).2.2.1 2 = .ok (.bipush 60, 2) := by decide +kernel
theorem d213_4 : decode (cm_M 213).2.2.1 4 = .ok (.invokestatic 161, 3) := by decide +kernel
theorem d213_7 : decode (cm_M 213).2.2.1 7 = .ok (.ifCond .eq 22, 3) := by decide +kernel
theorem d213_10 : decode (cm_M 213).2.2.1 10 = .ok (.iload_n 2, 1) := by decide +kernel
theorem d213_11 : decode (cm_M 213).2.2.1 11 = .ok (.iconst 0, 1) := by decide +kernel
theorem d213_12 : decode (cm_M 213).2.2.1 12 = .ok (.bipush 19, 2) := by decide +kernel
theorem d213_14 : decode (cm_M 213).2.2.1 14 = .ok (.invokestatic 161, 3) := by decide +kernel
theorem d213_17 : decode (cm_M 213).2.2.1 17 = .ok (.ifCond .eq 12, 3) := by decide +kernel
theorem d213_20 : decode (cm_M 213).2.2.1 20 = .ok (.iload_n 3, 1) := by decide +kernel
theorem d213_21 : decode (cm_M 213).2.2.1 21 = .ok (.iconst 0, 1) := by decide +kernel
theorem d213_22 : decode (cm_M 213).2.2.1 22 = .ok (.iconst 1, 1) := by decide +kernel
theorem d213_23 : decode (cm_M 213).2.2.1 23 = .ok (.invokestatic 161, 3) := by decide +kernel
theorem d213_26 : decode (cm_M 213).2.2.1 26 = .ok (.ifCond .ne 5, 3) := by decide +kernel
theorem d213_29 : decode (cm_M 213).2.2.1 29 = .ok (.iconst (-1), 1) := by decide +kernel
theorem d213_30 : decode (cm_M 213).2.2.1 30 = .ok (.ireturn, 1) := by decide +kernel
theorem d213_31 : decode (cm_M 213).2.2.1 31 = .ok (.iconst 0, 1) := by decide +kernel
theorem d213_32 : decode (cm_M 213).2.2.1 32 = .ok (.istore 4, 2) := by decide +kernel
theorem d213_34 : decode (cm_M 213).2.2.1 34 = .ok (.iload 4, 2) := by decide +kernel
theorem d213_36 : decode (cm_M 213).2.2.1 36 = .ok (.bipush 81, 2) := by decide +kernel
theorem d213_38 : decode (cm_M 213).2.2.1 38 = .ok (.if_icmp .ge 17, 3) := by decide +kernel
theorem d213_41 : decode (cm_M 213).2.2.1 41 = .ok (.aload_n 0, 1) := by decide +kernel
theorem d213_42 : decode (cm_M 213).2.2.1 42 = .ok (.getfield 141, 3) := by decide +kernel
theorem d213_45 : decode (cm_M 213).2.2.1 45 = .ok (.iload 4, 2) := by decide +kernel
theorem d213_47 : decode (cm_M 213).2.2.1 47 = .ok (.lconst 0, 1) := by decide +kernel
theorem d213_48 : decode (cm_M 213).2.2.1 48 = .ok (.lastore, 1) := by decide +kernel
theorem d213_49 : decode (cm_M 213).2.2.1 49 = .ok (.iinc 4 1, 3) := by decide +kernel
theorem d213_52 : decode (cm_M 213).2.2.1 52 = .ok (.goto (-18), 3) := by decide +kernel
theorem d213_55 : decode (cm_M 213).2.2.1 55 = .ok (.iconst 1, 1) := by decide +kernel
theorem d213_56 : decode (cm_M 213).2.2.1 56 = .ok (.istore 4, 2) := by decide +kernel
theorem d213_58 : decode (cm_M 213).2.2.1 58 = .ok (.iload 4, 2) := by decide +kernel
theorem d213_60 : decode (cm_M 213).2.2.1 60 = .ok (.iload_n 1, 1) := by decide +kernel
theorem d213_61 : decode (cm_M 213).2.2.1 61 = .ok (.if_icmp .gt 62, 3) := by decide +kernel
theorem d213_64 : decode (cm_M 213).2.2.1 64 = .ok (.iconst 0, 1) := by decide +kernel
theorem d213_65 : decode (cm_M 213).2.2.1 65 = .ok (.istore 5, 2) := by decide +kernel
theorem d213_67 : decode (cm_M 213).2.2.1 67 = .ok (.iload 5, 2) := by decide +kernel
theorem d213_69 : decode (cm_M 213).2.2.1 69 = .ok (.bipush 80, 2) := by decide +kernel
theorem d213_71 : decode (cm_M 213).2.2.1 71 = .ok (.if_icmp .ge 46, 3) := by decide +kernel
theorem d213_74 : decode (cm_M 213).2.2.1 74 = .ok (.aload_n 0, 1) := by decide +kernel
theorem d213_75 : decode (cm_M 213).2.2.1 75 = .ok (.getfield 141, 3) := by decide +kernel
theorem d213_78 : decode (cm_M 213).2.2.1 78 = .ok (.bipush 81, 2) := by decide +kernel
theorem d213_80 : decode (cm_M 213).2.2.1 80 = .ok (.iload 4, 2) := by decide +kernel
theorem d213_82 : decode (cm_M 213).2.2.1 82 = .ok (.imul, 1) := by decide +kernel
theorem d213_83 : decode (cm_M 213).2.2.1 83 = .ok (.iload 5, 2) := by decide +kernel
theorem d213_85 : decode (cm_M 213).2.2.1 85 = .ok (.iadd, 1) := by decide +kernel
theorem d213_86 : decode (cm_M 213).2.2.1 86 = .ok (.aload_n 0, 1) := by decide +kernel
theorem d213_87 : decode (cm_M 213).2.2.1 87 = .ok (.iload 4, 2) := by decide +kernel
theorem d213_89 : decode (cm_M 213).2.2.1 89 = .ok (.iload 5, 2) := by decide +kernel
theorem d213_91 : decode (cm_M 213).2.2.1 91 = .ok (.invokevirtual 390, 3) := by decide +kernel
theorem d213_94 : decode (cm_M 213).2.2.1 94 = .ok (.aload_n 0, 1) := by decide +kernel
theorem d213_95 : decode (cm_M 213).2.2.1 95 = .ok (.getfield 387, 3) := by decide +kernel
theorem d213_98 : decode (cm_M 213).2.2.1 98 = .ok (.i2l, 1) := by decide +kernel
theorem d213_99 : decode (cm_M 213).2.2.1 99 = .ok (.aload_n 0, 1) := by decide +kernel
theorem d213_100 : decode (cm_M 213).2.2.1 100 = .ok (.iload 4, 2) := by decide +kernel
theorem d213_102 : decode (cm_M 213).2.2.1 102 = .ok (.iconst 0, 1) := by decide +kernel
theorem d213_103 : decode (cm_M 213).2.2.1 103 = .ok (.invokevirtual 390, 3) := by decide +kernel
theorem d213_106 : decode (cm_M 213).2.2.1 106 = .ok (.ladd, 1) := by decide +kernel
theorem d213_107 : decode (cm_M 213).2.2.1 107 = .ok (.invokestatic 300, 3) := by decide +kernel
theorem d213_110 : decode (cm_M 213).2.2.1 110 = .ok (.lastore, 1) := by decide +kernel
theorem d213_111 : decode (cm_M 213).2.2.1 111 = .ok (.iinc 5 1, 3) := by decide +kernel
theorem d213_114 : decode (cm_M 213).2.2.1 114 = .ok (.goto (-47), 3) := by decide +kernel
theorem d213_117 : decode (cm_M 213).2.2.1 117 = .ok (.iinc 4 1, 3) := by decide +kernel
theorem d213_120 : decode (cm_M 213).2.2.1 120 = .ok (.goto (-62), 3) := by decide +kernel
theorem d213_123 : decode (cm_M 213).2.2.1 123 = .ok (.iload_n 3, 1) := by decide +kernel
theorem d213_124 : decode (cm_M 213).2.2.1 124 = .ok (.ifCond .ne 16, 3) := by decide +kernel
theorem d213_127 : decode (cm_M 213).2.2.1 127 = .ok (.aload_n 0, 1) := by decide +kernel
theorem d213_128 : decode (cm_M 213).2.2.1 128 = .ok (.getfield 141, 3) := by decide +kernel
theorem d213_131 : decode (cm_M 213).2.2.1 131 = .ok (.bipush 81, 2) := by decide +kernel
theorem d213_133 : decode (cm_M 213).2.2.1 133 = .ok (.iload_n 1, 1) := by decide +kernel
theorem d213_134 : decode (cm_M 213).2.2.1 134 = .ok (.imul, 1) := by decide +kernel
theorem d213_135 : decode (cm_M 213).2.2.1 135 = .ok (.iload_n 2, 1) := by decide +kernel
theorem d213_136 : decode (cm_M 213).2.2.1 136 = .ok (.iadd, 1) := by decide +kernel
theorem d213_137 : decode (cm_M 213).2.2.1 137 = .ok (.laload, 1) := by decide +kernel
theorem d213_138 : decode (cm_M 213).2.2.1 138 = .ok (.l2i, 1) := by decide +kernel
theorem d213_139 : decode (cm_M 213).2.2.1 139 = .ok (.ireturn, 1) := by decide +kernel
theorem d213_140 : decode (cm_M 213).2.2.1 140 = .ok (.iload_n 1, 1) := by decide +kernel
theorem d213_141 : decode (cm_M 213).2.2.1 141 = .ok (.istore 4, 2) := by decide +kernel
theorem d213_143 : decode (cm_M 213).2.2.1 143 = .ok (.iload 4, 2) := by decide +kernel
theorem d213_145 : decode (cm_M 213).2.2.1 145 = .ok (.ifCond .le 47, 3) := by decide +kernel
theorem d213_148 : decode (cm_M 213).2.2.1 148 = .ok (.iload_n 2, 1) := by decide +kernel
theorem d213_149 : decode (cm_M 213).2.2.1 149 = .ok (.iload_n 1, 1) := by decide +kernel
theorem d213_150 : decode (cm_M 213).2.2.1 150 = .ok (.iadd, 1) := by decide +kernel
theorem d213_151 : decode (cm_M 213).2.2.1 151 = .ok (.iload 4, 2) := by decide +kernel
theorem d213_153 : decode (cm_M 213).2.2.1 153 = .ok (.isub, 1) := by decide +kernel
theorem d213_154 : decode (cm_M 213).2.2.1 154 = .ok (.istore 5, 2) := by decide +kernel
theorem d213_156 : decode (cm_M 213).2.2.1 156 = .ok (.aload_n 0, 1) := by decide +kernel
theorem d213_157 : decode (cm_M 213).2.2.1 157 = .ok (.iload 4, 2) := by decide +kernel
theorem d213_159 : decode (cm_M 213).2.2.1 159 = .ok (.iload 5, 2) := by decide +kernel
theorem d213_161 : decode (cm_M 213).2.2.1 161 = .ok (.invokevirtual 390, 3) := by decide +kernel
theorem d213_164 : decode (cm_M 213).2.2.1 164 = .ok (.aload_n 0, 1) := by decide +kernel
theorem d213_165 : decode (cm_M 213).2.2.1 165 = .ok (.getfield 387, 3) := by decide +kernel
theorem d213_168 : decode (cm_M 213).2.2.1 168 = .ok (.i2l, 1) := by decide +kernel
theorem d213_169 : decode (cm_M 213).2.2.1 169 = .ok (.aload_n 0, 1) := by decide +kernel
theorem d213_170 : decode (cm_M 213).2.2.1 170 = .ok (.iload 4, 2) := by decide +kernel
theorem d213_172 : decode (cm_M 213).2.2.1 172 = .ok (.iconst 0, 1) := by decide +kernel
theorem d213_173 : decode (cm_M 213).2.2.1 173 = .ok (.invokevirtual 390, 3) := by decide +kernel
theorem d213_176 : decode (cm_M 213).2.2.1 176 = .ok (.ladd, 1) := by decide +kernel
theorem d213_177 : decode (cm_M 213).2.2.1 177 = .ok (.lcmp, 1) := by decide +kernel
theorem d213_178 : decode (cm_M 213).2.2.1 178 = .ok (.ifCond .le 8, 3) := by decide +kernel
theorem d213_181 : decode (cm_M 213).2.2.1 181 = .ok (.iload_n 1, 1) := by decide +kernel
theorem d213_182 : decode (cm_M 213).2.2.1 182 = .ok (.iload 4, 2) := by decide +kernel
theorem d213_184 : decode (cm_M 213).2.2.1 184 = .ok (.isub, 1) := by decide +kernel
theorem d213_185 : decode (cm_M 213).2.2.1 185 = .ok (.ireturn, 1) := by decide +kernel
theorem d213_186 : decode (cm_M 213).2.2.1 186 = .ok (.iinc 4 (-1), 3) := by decide +kernel
theorem d213_189 : decode (cm_M 213).2.2.1 189 = .ok (.goto (-46), 3) := by decide +kernel
theorem d213_192 : decode (cm_M 213).2.2.1 192 = .ok (.iconst (-1), 1) := by decide +kernel
theorem d213_193 : decode (cm_M 213).2.2.1 193 = .ok (.ireturn, 1) := by decide +kernel
theorem s213_0 {sc : cmS} {d : Nat} {h : cmH} {Q : Option Value → cmH → Prop} (x1 : Int32) (x2 : Int32) (x3 : Int32) (u4 : Option Value) (u5 : Option Value) (H : cm_ci sc d 137 [.int x1, .int (1 : Int32), .int (60 : Int32)] h (fun r h' => cm_wp sc (d + 1) 213 7 [some (.ref 38), some (.int x1), some (.int x2), some (.int x3), u4, u5] [.int r] h' Q)) : cm_wp sc (d + 1) 213 0 [some (.ref 38), some (.int x1), some (.int x2), some (.int x3), u4, u5] [] h Q :=
  wl_st d213_0 rfl rfl rfl rfl (wl_ic (v := 1) d213_1 rfl (wl_bi (v := 60) d213_2 rfl (wl_ci d213_4 rfl rfl rfl pm11_161 (by decide) (ca_s (Or.inl rfl) rfl (Nat.le_of_ble_eq_true rfl) (Nat.le_of_ble_eq_true rfl)) H)))
theorem s213_7 {sc : cmS} {d : Nat} {h : cmH} {Q : Option Value → cmH → Prop} (x1 : Int32) (x2 : Int32) (x3 : Int32) (u4 : Option Value) (u5 : Option Value) (sx0 : Int32) (H : (((sx0 = 0) → Q (some (.int (-1 : Int32))) h) ∧ (¬ (sx0 = 0) → cm_ci sc d 137 [.int x2, .int (0 : Int32), .int (19 : Int32)] h (fun r h' => cm_wp sc (d + 1) 213 17 [some (.ref 38), some (.int x1), some (.int x2), some (.int x3), u4, u5] [.int r] h' Q)))) : cm_wp sc (d + 1) 213 7 [some (.ref 38), some (.int x1), some (.int x2), some (.int x3), u4, u5] [.int sx0] h Q :=
  wl_cb (b := sx0 = 0) (off := 22) (tgt := 29) (pc3 := 10) (st' := []) d213_7 rfl rfl rfl rfl (by decide) rfl (fun c1 => wl_ic (v := (-1)) d213_29 rfl (wl_rt d213_30 rfl rfl rfl (H.1 c1))) (fun c1 => wl_st d213_10 rfl rfl rfl rfl (wl_ic (v := 0) d213_11 rfl (wl_bi (v := 19) d213_12 rfl (wl_ci d213_14 rfl rfl rfl pm11_161 (by decide) (ca_s (Or.inl rfl) rfl (Nat.le_of_ble_eq_true rfl) (Nat.le_of_ble_eq_true rfl)) (H.2 c1)))))
theorem s213_17 {sc : cmS} {d : Nat} {h : cmH} {Q : Option Value → cmH → Prop} (x1 : Int32) (x2 : Int32) (x3 : Int32) (u4 : Option Value) (u5 : Option Value) (sx0 : Int32) (H : (((sx0 = 0) → Q (some (.int (-1 : Int32))) h) ∧ (¬ (sx0 = 0) → cm_ci sc d 137 [.int x3, .int (0 : Int32), .int (1 : Int32)] h (fun r h' => cm_wp sc (d + 1) 213 26 [some (.ref 38), some (.int x1), some (.int x2), some (.int x3), u4, u5] [.int r] h' Q)))) : cm_wp sc (d + 1) 213 17 [some (.ref 38), some (.int x1), some (.int x2), some (.int x3), u4, u5] [.int sx0] h Q :=
  wl_cb (b := sx0 = 0) (off := 12) (tgt := 29) (pc3 := 20) (st' := []) d213_17 rfl rfl rfl rfl (by decide) rfl (fun c1 => wl_ic (v := (-1)) d213_29 rfl (wl_rt d213_30 rfl rfl rfl (H.1 c1))) (fun c1 => wl_st d213_20 rfl rfl rfl rfl (wl_ic (v := 0) d213_21 rfl (wl_ic (v := 1) d213_22 rfl (wl_ci d213_23 rfl rfl rfl pm11_161 (by decide) (ca_s (Or.inl rfl) rfl (Nat.le_of_ble_eq_true rfl) (Nat.le_of_ble_eq_true rfl)) (H.2 c1)))))
theorem s213_26 {sc : cmS} {d : Nat} {h : cmH} {Q : Option Value → cmH → Prop} (x1 : Int32) (x2 : Int32) (x3 : Int32) (u4 : Option Value) (u5 : Option Value) (sx0 : Int32) (H : (((¬ sx0 = 0) → cm_wp sc d 213 34 [some (.ref 38), some (.int x1), some (.int x2), some (.int x3), some (.int (0 : Int32)), u5] [] h Q) ∧ (¬ (¬ sx0 = 0) → Q (some (.int (-1 : Int32))) h))) : cm_wp sc d 213 26 [some (.ref 38), some (.int x1), some (.int x2), some (.int x3), u4, u5] [.int sx0] h Q :=
  wl_cb (b := ¬ sx0 = 0) (off := 5) (tgt := 31) (pc3 := 29) (st' := []) d213_26 rfl rfl rfl rfl (by decide) rfl (fun c1 => wl_ic (v := 0) d213_31 rfl (wl_st (ls' := [some (.ref 38), some (.int x1), some (.int x2), some (.int x3), some (.int (0 : Int32)), u5]) d213_32 rfl rfl rfl rfl ((H.1 c1)))) (fun c1 => wl_ic (v := (-1)) d213_29 rfl (wl_rt d213_30 rfl rfl rfl (H.2 c1)))
theorem s213_34 {sc : cmS} {d : Nat} {h : cmH} {Q : Option Value → cmH → Prop} (L : LY h) (x1 : Int32) (x2 : Int32) (x3 : Int32) (x4 : Int32) (u5 : Option Value) (H : ((((81 : Int32) ≤ x4) → cm_wp sc d 213 58 [some (.ref 38), some (.int x1), some (.int x2), some (.int x3), some (.int (1 : Int32)), u5] [] h Q) ∧ (¬ ((81 : Int32) ≤ x4) → (IX 4941 x4) ∧ cm_wp sc d 213 34 [some (.ref 38), some (.int x1), some (.int x2), some (.int x3), some (.int (x4 + 1)), u5] [] (cm_setJ h 82 x4.toNatClampNeg (0 : Int64)) Q))) : cm_wp sc d 213 34 [some (.ref 38), some (.int x1), some (.int x2), some (.int x3), some (.int x4), u5] [] h Q :=
  wl_st d213_34 rfl rfl rfl rfl (wl_bi (v := 81) d213_36 rfl (wl_cb (b := (81 : Int32) ≤ x4) (off := 17) (tgt := 55) (pc3 := 41) (st' := []) d213_38 rfl rfl rfl rfl (by decide) rfl (fun c1 => wl_ic (v := 1) d213_55 rfl (wl_st (ls' := [some (.ref 38), some (.int x1), some (.int x2), some (.int x3), some (.int (1 : Int32)), u5]) d213_56 rfl rfl rfl rfl ((H.1 c1)))) (fun c1 => wl_st d213_41 rfl rfl rfl rfl (wl_gr (b := 82) d213_42 pf11_141 (ly_k L 38 rfl) rfl (ly_r L 38 56 rfl) (wl_st d213_45 rfl rfl rfl rfl (wl_lc (v := 0) d213_47 rfl (And.elim (fun g2 g2k => wl_if (h' := (cm_setJ h 82 x4.toNatClampNeg (0 : Int64))) d213_48 rfl rfl rfl rfl (ly_o L 82 rfl g2) (wl_st (ls' := [some (.ref 38), some (.int x1), some (.int x2), some (.int x3), some (.int (x4 + 1)), u5]) d213_49 rfl rfl rfl rfl (wl_go (tgt := 34) d213_52 (by decide) (g2k)))) (H.2 c1))))))))
theorem s213_58 {sc : cmS} {d : Nat} {h : cmH} {Q : Option Value → cmH → Prop} (L : LY h) (x1 : Int32) (x2 : Int32) (x3 : Int32) (x4 : Int32) (u5 : Option Value) (H : (((x1 < x4) → (((¬ x3 = 0) → cm_wp sc d 213 143 [some (.ref 38), some (.int x1), some (.int x2), some (.int x3), some (.int x1), u5] [] h Q) ∧ (¬ (¬ x3 = 0) → (IX 4941 (((81 : Int32) * x1) + x2)) ∧ Q (some (.int ((cm_J h 82 (((81 : Int32) * x1) + x2).toNatClampNeg).toInt32))) h))) ∧ (¬ (x1 < x4) → cm_wp sc d 213 67 [some (.ref 38), some (.int x1), some (.int x2), some (.int x3), some (.int x4), some (.int (0 : Int32))] [] h Q))) : cm_wp sc d 213 58 [some (.ref 38), some (.int x1), some (.int x2), some (.int x3), some (.int x4), u5] [] h Q :=
  wl_st d213_58 rfl rfl rfl rfl (wl_st d213_60 rfl rfl rfl rfl (wl_cb (b := x1 < x4) (off := 62) (tgt := 123) (pc3 := 64) (st' := []) d213_61 rfl rfl rfl rfl (by decide) rfl (fun c1 => wl_st d213_123 rfl rfl rfl rfl (wl_cb (b := ¬ x3 = 0) (off := 16) (tgt := 140) (pc3 := 127) (st' := []) d213_124 rfl rfl rfl rfl (by decide) rfl (fun c2 => wl_st d213_140 rfl rfl rfl rfl (wl_st (ls' := [some (.ref 38), some (.int x1), some (.int x2), some (.int x3), some (.int x1), u5]) d213_141 rfl rfl rfl rfl (((H.1 c1).1 c2)))) (fun c2 => wl_st d213_127 rfl rfl rfl rfl (wl_gr (b := 82) d213_128 pf11_141 (ly_k L 38 rfl) rfl (ly_r L 38 56 rfl) (wl_bi (v := 81) d213_131 rfl (wl_st d213_133 rfl rfl rfl rfl (wl_st d213_134 rfl rfl rfl rfl (wl_st d213_135 rfl rfl rfl rfl (wl_st d213_136 rfl rfl rfl rfl (And.elim (fun g3 g3k => wl_if (g := cm_ok h 14 82 (((81 : Int32) * x1) + x2)) (st' := [.long (cm_J h 82 (((81 : Int32) * x1) + x2).toNatClampNeg)]) d213_137 rfl rfl rfl rfl (ly_o L 82 rfl g3) (wl_st d213_138 rfl rfl rfl rfl (wl_rt d213_139 rfl rfl rfl g3k))) ((H.1 c1).2 c2))))))))))) (fun c1 => wl_ic (v := 0) d213_64 rfl (wl_st (ls' := [some (.ref 38), some (.int x1), some (.int x2), some (.int x3), some (.int x4), some (.int (0 : Int32))]) d213_65 rfl rfl rfl rfl ((H.2 c1))))))
theorem s213_67 {sc : cmS} {d : Nat} {h : cmH} {Q : Option Value → cmH → Prop} (L : LY h) (x1 : Int32) (x2 : Int32) (x3 : Int32) (x4 : Int32) (x5 : Int32) (H : ((((80 : Int32) ≤ x5) → cm_wp sc (d + 1) 213 58 [some (.ref 38), some (.int x1), some (.int x2), some (.int x3), some (.int (x4 + 1)), some (.int x5)] [] h Q) ∧ (¬ ((80 : Int32) ≤ x5) → cm_cj' sc d 214 [.ref 38, .int x4, .int x5] h (fun r h' => cm_wp sc (d + 1) 213 94 [some (.ref 38), some (.int x1), some (.int x2), some (.int x3), some (.int x4), some (.int x5)] [.long r, .int (((81 : Int32) * x4) + x5), .ref 82] h' Q)))) : cm_wp sc (d + 1) 213 67 [some (.ref 38), some (.int x1), some (.int x2), some (.int x3), some (.int x4), some (.int x5)] [] h Q :=
  wl_st d213_67 rfl rfl rfl rfl (wl_bi (v := 80) d213_69 rfl (wl_cb (b := (80 : Int32) ≤ x5) (off := 46) (tgt := 117) (pc3 := 74) (st' := []) d213_71 rfl rfl rfl rfl (by decide) rfl (fun c1 => wl_st (ls' := [some (.ref 38), some (.int x1), some (.int x2), some (.int x3), some (.int (x4 + 1)), some (.int x5)]) d213_117 rfl rfl rfl rfl (wl_go (tgt := 58) d213_120 (by decide) ((H.1 c1)))) (fun c1 => wl_st d213_74 rfl rfl rfl rfl (wl_gr (b := 82) d213_75 pf11_141 (ly_k L 38 rfl) rfl (ly_r L 38 56 rfl) (wl_bi (v := 81) d213_78 rfl (wl_st d213_80 rfl rfl rfl rfl (wl_st d213_82 rfl rfl rfl rfl (wl_st d213_83 rfl rfl rfl rfl (wl_st d213_85 rfl rfl rfl rfl (wl_st d213_86 rfl rfl rfl rfl (wl_st d213_87 rfl rfl rfl rfl (wl_st d213_89 rfl rfl rfl rfl (wl_cj d213_91 rfl rfl rfl pm11_390 (by decide) (ca_v (Or.inl rfl) rfl (Nat.le_of_ble_eq_true rfl) (Nat.le_of_ble_eq_true rfl) (ly_k L 38 rfl).2 (ly_k L 38 rfl).1 (by decide)) (H.2 c1))))))))))))))
theorem s213_94 {sc : cmS} {d : Nat} {h : cmH} {Q : Option Value → cmH → Prop} (L : LY h) (x1 : Int32) (x2 : Int32) (x3 : Int32) (x4 : Int32) (x5 : Int32) (sy0 : Int64) (sx1 : Int32) (H : cm_cj' sc d 214 [.ref 38, .int x4, .int (0 : Int32)] h (fun r h' => cm_wp sc (d + 1) 213 106 [some (.ref 38), some (.int x1), some (.int x2), some (.int x3), some (.int x4), some (.int x5)] [.long r, .long ((cm_I h 38 57).toInt64), .long sy0, .int sx1, .ref 82] h' Q)) : cm_wp sc (d + 1) 213 94 [some (.ref 38), some (.int x1), some (.int x2), some (.int x3), some (.int x4), some (.int x5)] [.long sy0, .int sx1, .ref 82] h Q :=
  wl_st d213_94 rfl rfl rfl rfl (wl_gf (v := .int (cm_I h 38 57)) d213_95 pf11_387 (ly_k L 38 rfl) rfl (wl_st d213_98 rfl rfl rfl rfl (wl_st d213_99 rfl rfl rfl rfl (wl_st d213_100 rfl rfl rfl rfl (wl_ic (v := 0) d213_102 rfl (wl_cj d213_103 rfl rfl rfl pm11_390 (by decide) (ca_v (Or.inl rfl) rfl (Nat.le_of_ble_eq_true rfl) (Nat.le_of_ble_eq_true rfl) (ly_k L 38 rfl).2 (ly_k L 38 rfl).1 (by decide)) H))))))
theorem s213_106 {sc : cmS} {d : Nat} {h : cmH} {Q : Option Value → cmH → Prop} (L : LY h) (x1 : Int32) (x2 : Int32) (x3 : Int32) (x4 : Int32) (x5 : Int32) (sy0 : Int64) (sy1 : Int64) (sy2 : Int64) (sx3 : Int32) (H : (IX 4941 sx3) ∧ cm_wp sc (d + 1) 213 67 [some (.ref 38), some (.int x1), some (.int x2), some (.int x3), some (.int x4), some (.int (x5 + 1))] [] (cm_setJ h 82 sx3.toNatClampNeg (if (sy1 + sy0) < sy2 then (sy1 + sy0) else sy2)) Q) : cm_wp sc (d + 1) 213 106 [some (.ref 38), some (.int x1), some (.int x2), some (.int x3), some (.int x4), some (.int x5)] [.long sy0, .long sy1, .long sy2, .int sx3, .ref 82] h Q :=
  wl_st d213_106 rfl rfl rfl rfl (wl_pr (st' := [.long (if (sy1 + sy0) < sy2 then (sy1 + sy0) else sy2), .int sx3, .ref 82]) d213_107 rfl rfl rfl pm11_300 (by decide) rfl rfl (And.elim (fun g1 g1k => wl_if (h' := (cm_setJ h 82 sx3.toNatClampNeg (if (sy1 + sy0) < sy2 then (sy1 + sy0) else sy2))) d213_110 rfl rfl rfl rfl (ly_o L 82 rfl g1) (wl_st (ls' := [some (.ref 38), some (.int x1), some (.int x2), some (.int x3), some (.int x4), some (.int (x5 + 1))]) d213_111 rfl rfl rfl rfl (wl_go (tgt := 67) d213_114 (by decide) (g1k)))) H))
theorem s213_143 {sc : cmS} {d : Nat} {h : cmH} {Q : Option Value → cmH → Prop} (L : LY h) (x1 : Int32) (x2 : Int32) (x3 : Int32) (x4 : Int32) (u5 : Option Value) (H : (((x4 ≤ 0) → Q (some (.int (-1 : Int32))) h) ∧ (¬ (x4 ≤ 0) → cm_cj' sc d 214 [.ref 38, .int x4, .int ((x2 + x1) - x4)] h (fun r h' => cm_wp sc (d + 1) 213 164 [some (.ref 38), some (.int x1), some (.int x2), some (.int x3), some (.int x4), some (.int ((x2 + x1) - x4))] [.long r] h' Q)))) : cm_wp sc (d + 1) 213 143 [some (.ref 38), some (.int x1), some (.int x2), some (.int x3), some (.int x4), u5] [] h Q :=
  wl_st d213_143 rfl rfl rfl rfl (wl_cb (b := x4 ≤ 0) (off := 47) (tgt := 192) (pc3 := 148) (st' := []) d213_145 rfl rfl rfl rfl (by decide) rfl (fun c1 => wl_ic (v := (-1)) d213_192 rfl (wl_rt d213_193 rfl rfl rfl (H.1 c1))) (fun c1 => wl_st d213_148 rfl rfl rfl rfl (wl_st d213_149 rfl rfl rfl rfl (wl_st d213_150 rfl rfl rfl rfl (wl_st d213_151 rfl rfl rfl rfl (wl_st d213_153 rfl rfl rfl rfl (wl_st (ls' := [some (.ref 38), some (.int x1), some (.int x2), some (.int x3), some (.int x4), some (.int ((x2 + x1) - x4))]) d213_154 rfl rfl rfl rfl (wl_st d213_156 rfl rfl rfl rfl (wl_st d213_157 rfl rfl rfl rfl (wl_st d213_159 rfl rfl rfl rfl (wl_cj d213_161 rfl rfl rfl pm11_390 (by decide) (ca_v (Or.inl rfl) rfl (Nat.le_of_ble_eq_true rfl) (Nat.le_of_ble_eq_true rfl) (ly_k L 38 rfl).2 (ly_k L 38 rfl).1 (by decide)) (H.2 c1))))))))))))
theorem s213_164 {sc : cmS} {d : Nat} {h : cmH} {Q : Option Value → cmH → Prop} (L : LY h) (x1 : Int32) (x2 : Int32) (x3 : Int32) (x4 : Int32) (x5 : Int32) (sy0 : Int64) (H : cm_cj' sc d 214 [.ref 38, .int x4, .int (0 : Int32)] h (fun r h' => cm_wp sc (d + 1) 213 176 [some (.ref 38), some (.int x1), some (.int x2), some (.int x3), some (.int x4), some (.int x5)] [.long r, .long ((cm_I h 38 57).toInt64), .long sy0] h' Q)) : cm_wp sc (d + 1) 213 164 [some (.ref 38), some (.int x1), some (.int x2), some (.int x3), some (.int x4), some (.int x5)] [.long sy0] h Q :=
  wl_st d213_164 rfl rfl rfl rfl (wl_gf (v := .int (cm_I h 38 57)) d213_165 pf11_387 (ly_k L 38 rfl) rfl (wl_st d213_168 rfl rfl rfl rfl (wl_st d213_169 rfl rfl rfl rfl (wl_st d213_170 rfl rfl rfl rfl (wl_ic (v := 0) d213_172 rfl (wl_cj d213_173 rfl rfl rfl pm11_390 (by decide) (ca_v (Or.inl rfl) rfl (Nat.le_of_ble_eq_true rfl) (Nat.le_of_ble_eq_true rfl) (ly_k L 38 rfl).2 (ly_k L 38 rfl).1 (by decide)) H))))))
theorem s213_176 {sc : cmS} {d : Nat} {h : cmH} {Q : Option Value → cmH → Prop} (x1 : Int32) (x2 : Int32) (x3 : Int32) (x4 : Int32) (x5 : Int32) (sy0 : Int64) (sy1 : Int64) (sy2 : Int64) (H : ((((lg_cmp sy2 (sy1 + sy0)) ≤ 0) → cm_wp sc d 213 143 [some (.ref 38), some (.int x1), some (.int x2), some (.int x3), some (.int (x4 + (-1))), some (.int x5)] [] h Q) ∧ (¬ ((lg_cmp sy2 (sy1 + sy0)) ≤ 0) → Q (some (.int (x1 - x4))) h))) : cm_wp sc d 213 176 [some (.ref 38), some (.int x1), some (.int x2), some (.int x3), some (.int x4), some (.int x5)] [.long sy0, .long sy1, .long sy2] h Q :=
  wl_st d213_176 rfl rfl rfl rfl (wl_st d213_177 rfl rfl rfl rfl (wl_cb (b := (lg_cmp sy2 (sy1 + sy0)) ≤ 0) (off := 8) (tgt := 186) (pc3 := 181) (st' := []) d213_178 rfl rfl rfl rfl (by decide) rfl (fun c1 => wl_st (ls' := [some (.ref 38), some (.int x1), some (.int x2), some (.int x3), some (.int (x4 + (-1))), some (.int x5)]) d213_186 rfl rfl rfl rfl (wl_go (tgt := 143) d213_189 (by decide) ((H.1 c1)))) (fun c1 => wl_st d213_181 rfl rfl rfl rfl (wl_st d213_182 rfl rfl rfl rfl (wl_st d213_184 rfl rfl rfl rfl (wl_rt d213_185 rfl rfl rfl (H.2 c1)))))))
