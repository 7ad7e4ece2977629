-- ClogHouseModel.from(II)J
theorem d214_0 : decode (cm_M 214).2.2.1 0 = .ok (.aload_n 0, 1) := by decide +kernel
theorem d214_1 : decode (cm_M 214).2.2.1 1 = .ok (.getfield 138, 3) := by decide +kernel
theorem d214_4 : decode (cm_M 214).2.2.1 4 = .ok (.bipush 19, 2) := by decide +kernel
theorem d214_6 : decode (cm_M 214).2.2.1 6 = .ok (.iload_n 2, 1) := by decide +kernel
theorem d214_7 : decode (cm_M 214).2.2.1 7 = .ok (.invokestatic 325, 3) := by decide +kernel
theorem d214_10 : decode (cm_M 214).2.2.1 10 = .ok (.iaload, 1) := by decide +kernel
theorem d214_11 : decode (cm_M 214).2.2.1 11 = .ok (.i2l, 1) := by decide +kernel
theorem d214_12 : decode (cm_M 214).2.2.1 12 = .ok (.aload_n 0, 1) := by decide +kernel
theorem d214_13 : decode (cm_M 214).2.2.1 13 = .ok (.getfield 141, 3) := by decide +kernel
theorem d214_16 : decode (cm_M 214).2.2.1 16 = .ok (.bipush 81, 2) := by decide +kernel
theorem d214_18 : decode (cm_M 214).2.2.1 18 = .ok (.iload_n 1, 1) := by decide +kernel
theorem d214_19 : decode (cm_M 214).2.2.1 19 = .ok (.iconst 1, 1) := by decide +kernel
theorem d214_20 : decode (cm_M 214).2.2.1 20 = .ok (.isub, 1) := by decide +kernel
theorem d214_21 : decode (cm_M 214).2.2.1 21 = .ok (.imul, 1) := by decide +kernel
theorem d214_22 : decode (cm_M 214).2.2.1 22 = .ok (.iload_n 2, 1) := by decide +kernel
theorem d214_23 : decode (cm_M 214).2.2.1 23 = .ok (.iadd, 1) := by decide +kernel
theorem d214_24 : decode (cm_M 214).2.2.1 24 = .ok (.iconst 1, 1) := by decide +kernel
theorem d214_25 : decode (cm_M 214).2.2.1 25 = .ok (.iadd, 1) := by decide +kernel
theorem d214_26 : decode (cm_M 214).2.2.1 26 = .ok (.laload, 1) := by decide +kernel
theorem d214_27 : decode (cm_M 214).2.2.1 27 = .ok (.ladd, 1) := by decide +kernel
theorem d214_28 : decode (cm_M 214).2.2.1 28 = .ok (.lreturn, 1) := by decide +kernel
theorem s214_0 {sc : cmS} {d : Nat} {h : cmH} {Q : Option Value → cmH → Prop} (L : LY h) (x1 : Int32) (x2 : Int32) (H : (IX 20 (if x2 < (19 : Int32) then x2 else (19 : Int32))) ∧ (IX 4941 ((((81 : Int32) * (x1 - (1 : Int32))) + x2) + (1 : Int32))) ∧ Q (some (.long (((cm_I h 81 (if x2 < (19 : Int32) then x2 else (19 : Int32)).toNatClampNeg).toInt64) + (cm_J h 82 ((((81 : Int32) * (x1 - (1 : Int32))) + x2) + (1 : Int32)).toNatClampNeg)))) h) : cm_wp sc (d + 1) 214 0 [some (.ref 38), some (.int x1), some (.int x2)] [] h Q :=
  wl_st d214_0 rfl rfl rfl rfl (wl_gr (b := 81) d214_1 pf11_138 (ly_k L 38 rfl) rfl (ly_r L 38 55 rfl) (wl_bi (v := 19) d214_4 rfl (wl_st d214_6 rfl rfl rfl rfl (wl_pr (st' := [.int (if x2 < (19 : Int32) then x2 else (19 : Int32)), .ref 81]) d214_7 rfl rfl rfl pm11_325 (by decide) rfl rfl (And.elim (fun g1 g1k => wl_if (g := cm_ok h 13 81 (if x2 < (19 : Int32) then x2 else (19 : Int32))) (st' := [.int (cm_I h 81 (if x2 < (19 : Int32) then x2 else (19 : Int32)).toNatClampNeg)]) d214_10 rfl rfl rfl rfl (ly_o L 81 rfl g1) (wl_st d214_11 rfl rfl rfl rfl (wl_st d214_12 rfl rfl rfl rfl (wl_gr (b := 82) d214_13 pf11_141 (ly_k L 38 rfl) rfl (ly_r L 38 56 rfl) (wl_bi (v := 81) d214_16 rfl (wl_st d214_18 rfl rfl rfl rfl (wl_ic (v := 1) d214_19 rfl (wl_st d214_20 rfl rfl rfl rfl (wl_st d214_21 rfl rfl rfl rfl (wl_st d214_22 rfl rfl rfl rfl (wl_st d214_23 rfl rfl rfl rfl (wl_ic (v := 1) d214_24 rfl (wl_st d214_25 rfl rfl rfl rfl (And.elim (fun g2 g2k => wl_if (g := cm_ok h 14 82 ((((81 : Int32) * (x1 - (1 : Int32))) + x2) + (1 : Int32))) (st' := [.long (cm_J h 82 ((((81 : Int32) * (x1 - (1 : Int32))) + x2) + (1 : Int32)).toNatClampNeg), .long ((cm_I h 81 (if x2 < (19 : Int32) then x2 else (19 : Int32)).toNatClampNeg).toInt64)]) d214_26 rfl rfl rfl rfl (ly_o L 82 rfl g2) (wl_st d214_27 rfl rfl rfl rfl (wl_rt d214_28 rfl rfl rfl g2k))) g1k)))))))))))))) H)))))
-- ClogHouseModel.gauge(IIII)I
theorem d215_0 : decode (cm_M 215).2.2.1 0 = .ok (.aload_n 0, 1) := by decide +kernel
theorem d215_1 : decode (cm_M 215).2.2.1 1 = .ok (.iload_n 1, 1) := by decide +kernel
theorem d215_2 : decode (cm_M 215).2.2.1 2 = .ok (.iload_n 2, 1) := by decide +kernel
theorem d215_3 : decode (cm_M 215).2.2.1 3 = .ok (.invokevirtual 209, 3) := by decide +kernel
theorem d215_6 : decode (cm_M 215).2.2.1 6 = .ok (.ifCond .eq 35, 3) := by decide +kernel
theorem d215_9 : decode (cm_M 215).2.2.1 9 = .ok (.iload_n 3, 1) := by decide +kernel
theorem d215_10 : decode (cm_M 215).2.2.1 10 = .ok (.iconst 1, 1) := by decide +kernel
theorem d215_11 : decode (cm_M 215).2.2.1 11 = .ok (.sipush 10000, 3) := by decide +kernel
theorem d215_14 : decode (cm_M 215).2.2.1 14 = .ok (.invokestatic 161, 3) := by decide +kernel
theorem d215_17 : decode (cm_M 215).2.2.1 17 = .ok (.ifCond .eq 24, 3) := by decide +kernel
theorem d215_20 : decode (cm_M 215).2.2.1 20 = .ok (.iload 4, 2) := by decide +kernel
theorem d215_22 : decode (cm_M 215).2.2.1 22 = .ok (.iload_n 3, 1) := by decide +kernel
theorem d215_23 : decode (cm_M 215).2.2.1 23 = .ok (.sipush 10000, 3) := by decide +kernel
theorem d215_26 : decode (cm_M 215).2.2.1 26 = .ok (.invokestatic 161, 3) := by decide +kernel
theorem d215_29 : decode (cm_M 215).2.2.1 29 = .ok (.ifCond .eq 12, 3) := by decide +kernel
theorem d215_32 : decode (cm_M 215).2.2.1 32 = .ok (.aload_n 0, 1) := by decide +kernel
theorem d215_33 : decode (cm_M 215).2.2.1 33 = .ok (.getfield 393, 3) := by decide +kernel
theorem d215_36 : decode (cm_M 215).2.2.1 36 = .ok (.bipush 100, 2) := by decide +kernel
theorem d215_38 : decode (cm_M 215).2.2.1 38 = .ok (.if_icmp .ne 5, 3) := by decide +kernel
theorem d215_41 : decode (cm_M 215).2.2.1 41 = .ok (.iconst (-1), 1) := by decide +kernel
theorem d215_42 : decode (cm_M 215).2.2.1 42 = .ok (.ireturn, 1) := by decide +kernel
theorem d215_43 : decode (cm_M 215).2.2.1 43 = .ok (.aload_n 0, 1) := by decide +kernel
theorem d215_44 : decode (cm_M 215).2.2.1 44 = .ok (.getfield 145, 3) := by decide +kernel
theorem d215_47 : decode (cm_M 215).2.2.1 47 = .ok (.aload_n 0, 1) := by decide +kernel
theorem d215_48 : decode (cm_M 215).2.2.1 48 = .ok (.getfield 393, 3) := by decide +kernel
theorem d215_51 : decode (cm_M 215).2.2.1 51 = .ok (.bipush 10, 2) := by decide +kernel
theorem d215_53 : decode (cm_M 215).2.2.1 53 = .ok (.iload_n 1, 1) := by decide +kernel
theorem d215_54 : decode (cm_M 215).2.2.1 54 = .ok (.imul, 1) := by decide +kernel
theorem d215_55 : decode (cm_M 215).2.2.1 55 = .ok (.iload_n 2, 1) := by decide +kernel
theorem d215_56 : decode (cm_M 215).2.2.1 56 = .ok (.iadd, 1) := by decide +kernel
theorem d215_57 : decode (cm_M 215).2.2.1 57 = .ok (.iastore, 1) := by decide +kernel
theorem d215_58 : decode (cm_M 215).2.2.1 58 = .ok (.aload_n 0, 1) := by decide +kernel
theorem d215_59 : decode (cm_M 215).2.2.1 59 = .ok (.getfield 148, 3) := by decide +kernel
theorem d215_62 : decode (cm_M 215).2.2.1 62 = .ok (.aload_n 0, 1) := by decide +kernel
theorem d215_63 : decode (cm_M 215).2.2.1 63 = .ok (.getfield 393, 3) := by decide +kernel
theorem d215_66 : decode (cm_M 215).2.2.1 66 = .ok (.iload_n 3, 1) := by decide +kernel
theorem d215_67 : decode (cm_M 215).2.2.1 67 = .ok (.iastore, 1) := by decide +kernel
theorem d215_68 : decode (cm_M 215).2.2.1 68 = .ok (.aload_n 0, 1) := by decide +kernel
theorem d215_69 : decode (cm_M 215).2.2.1 69 = .ok (.getfield 151, 3) := by decide +kernel
theorem d215_72 : decode (cm_M 215).2.2.1 72 = .ok (.aload_n 0, 1) := by decide +kernel
theorem d215_73 : decode (cm_M 215).2.2.1 73 = .ok (.getfield 393, 3) := by decide +kernel
theorem d215_76 : decode (cm_M 215).2.2.1 76 = .ok (.iload 4, 2) := by decide +kernel
theorem d215_78 : decode (cm_M 215).2.2.1 78 = .ok (.iastore, 1) := by decide +kernel
theorem d215_79 : decode (cm_M 215).2.2.1 79 = .ok (.aload_n 0, 1) := by decide +kernel
theorem d215_80 : decode (cm_M 215).2.2.1 80 = .ok (.getfield 154, 3) := by decide +kernel
theorem d215_83 : decode (cm_M 215).2.2.1 83 = .ok (.aload_n 0, 1) := by decide +kernel
theorem d215_84 : decode (cm_M 215).2.2.1 84 = .ok (.getfield 393, 3) := by decide +kernel
theorem d215_87 : decode (cm_M 215).2.2.1 87 = .ok (.aload_n 0, 1) := by decide +kernel
theorem d215_88 : decode (cm_M 215).2.2.1 88 = .ok (.getfield 330, 3) := by decide +kernel
theorem d215_91 : decode (cm_M 215).2.2.1 91 = .ok (.iastore, 1) := by decide +kernel
theorem d215_92 : decode (cm_M 215).2.2.1 92 = .ok (.aload_n 0, 1) := by decide +kernel
theorem d215_93 : decode (cm_M 215).2.2.1 93 = .ok (.dup, 1) := by decide +kernel
theorem d215_94 : decode (cm_M 215).2.2.1 94 = .ok (.getfield 393, 3) := by decide +kernel
theorem d215_97 : decode (cm_M 215).2.2.1 97 = .ok (.iconst 1, 1) := by decide +kernel
theorem d215_98 : decode (cm_M 215).2.2.1 98 = .ok (.iadd, 1) := by decide +kernel
theorem d215_99 : decode (cm_M 215).2.2.1 99 = .ok (.putfield 393, 3) := by decide +kernel
theorem d215_102 : decode (cm_M 215).2.2.1 102 = .ok (.aload_n 0, 1) := by decide +kernel
theorem d215_103 : decode (cm_M 215).2.2.1 103 = .ok (.getfield 393, 3) := by decide +kernel
theorem d215_106 : decode (cm_M 215).2.2.1 106 = .ok (.iconst 1, 1) := by decide +kernel
theorem d215_107 : decode (cm_M 215).2.2.1 107 = .ok (.isub, 1) := by decide +kernel
theorem d215_108 : decode (cm_M 215).2.2.1 108 = .ok (.ireturn, 1) := by decide +kernel
theorem s215_0 {sc : cmS} {d : Nat} {h : cmH} {Q : Option Value → cmH → Prop} (L : LY h) (x1 : Int32) (x2 : Int32) (x3 : Int32) (x4 : Int32) (H : cm_ci sc d 151 [.ref 38, .int x1, .int x2] h (fun r h' => cm_wp sc (d + 1) 215 6 [some (.ref 38), some (.int x1), some (.int x2), some (.int x3), some (.int x4)] [.int r] h' Q)) : cm_wp sc (d + 1) 215 0 [some (.ref 38), some (.int x1), some (.int x2), some (.int x3), some (.int x4)] [] h Q :=
  wl_st d215_0 rfl rfl rfl rfl (wl_st d215_1 rfl rfl rfl rfl (wl_st d215_2 rfl rfl rfl rfl (wl_ci d215_3 rfl rfl rfl pm11_209 (by decide) (ca_v (Or.inl rfl) rfl (Nat.le_of_ble_eq_true rfl) (Nat.le_of_ble_eq_true rfl) (ly_k L 38 rfl).2 (ly_k L 38 rfl).1 (by decide)) H)))
theorem s215_6 {sc : cmS} {d : Nat} {h : cmH} {Q : Option Value → cmH → Prop} (x1 : Int32) (x2 : Int32) (x3 : Int32) (x4 : Int32) (sx0 : Int32) (H : (((sx0 = 0) → Q (some (.int (-1 : Int32))) h) ∧ (¬ (sx0 = 0) → cm_ci sc d 137 [.int x3, .int (1 : Int32), .int (10000 : Int32)] h (fun r h' => cm_wp sc (d + 1) 215 17 [some (.ref 38), some (.int x1), some (.int x2), some (.int x3), some (.int x4)] [.int r] h' Q)))) : cm_wp sc (d + 1) 215 6 [some (.ref 38), some (.int x1), some (.int x2), some (.int x3), some (.int x4)] [.int sx0] h Q :=
  wl_cb (b := sx0 = 0) (off := 35) (tgt := 41) (pc3 := 9) (st' := []) d215_6 rfl rfl rfl rfl (by decide) rfl (fun c1 => wl_ic (v := (-1)) d215_41 rfl (wl_rt d215_42 rfl rfl rfl (H.1 c1))) (fun c1 => wl_st d215_9 rfl rfl rfl rfl (wl_ic (v := 1) d215_10 rfl (wl_si (v := 10000) d215_11 rfl (wl_ci d215_14 rfl rfl rfl pm11_161 (by decide) (ca_s (Or.inl rfl) rfl (Nat.le_of_ble_eq_true rfl) (Nat.le_of_ble_eq_true rfl)) (H.2 c1)))))
theorem s215_17 {sc : cmS} {d : Nat} {h : cmH} {Q : Option Value → cmH → Prop} (x1 : Int32) (x2 : Int32) (x3 : Int32) (x4 : Int32) (sx0 : Int32) (H : (((sx0 = 0) → Q (some (.int (-1 : Int32))) h) ∧ (¬ (sx0 = 0) → cm_ci sc d 137 [.int x4, .int x3, .int (10000 : Int32)] h (fun r h' => cm_wp sc (d + 1) 215 29 [some (.ref 38), some (.int x1), some (.int x2), some (.int x3), some (.int x4)] [.int r] h' Q)))) : cm_wp sc (d + 1) 215 17 [some (.ref 38), some (.int x1), some (.int x2), some (.int x3), some (.int x4)] [.int sx0] h Q :=
  wl_cb (b := sx0 = 0) (off := 24) (tgt := 41) (pc3 := 20) (st' := []) d215_17 rfl rfl rfl rfl (by decide) rfl (fun c1 => wl_ic (v := (-1)) d215_41 rfl (wl_rt d215_42 rfl rfl rfl (H.1 c1))) (fun c1 => wl_st d215_20 rfl rfl rfl rfl (wl_st d215_22 rfl rfl rfl rfl (wl_si (v := 10000) d215_23 rfl (wl_ci d215_26 rfl rfl rfl pm11_161 (by decide) (ca_s (Or.inl rfl) rfl (Nat.le_of_ble_eq_true rfl) (Nat.le_of_ble_eq_true rfl)) (H.2 c1)))))
theorem s215_29 {sc : cmS} {d : Nat} {h : cmH} {Q : Option Value → cmH → Prop} (L : LY h) (x1 : Int32) (x2 : Int32) (x3 : Int32) (x4 : Int32) (sx0 : Int32) (H : (((sx0 = 0) → Q (some (.int (-1 : Int32))) h) ∧ (¬ (sx0 = 0) → (((¬ (cm_I h 38 62) = (100 : Int32)) → (IX 100 (cm_I h 38 62)) ∧ Q (some (.int (((cm_I h 38 62) + (1 : Int32)) - (1 : Int32)))) (cm_setI (cm_setI (cm_setI (cm_setI (cm_setI h 83 (cm_I h 38 62).toNatClampNeg (((10 : Int32) * x1) + x2)) 84 (cm_I h 38 62).toNatClampNeg x3) 85 (cm_I h 38 62).toNatClampNeg x4) 86 (cm_I h 38 62).toNatClampNeg (cm_I h 38 0)) 38 62 ((cm_I h 38 62) + (1 : Int32)))) ∧ (¬ (¬ (cm_I h 38 62) = (100 : Int32)) → Q (some (.int (-1 : Int32))) h))))) : cm_wp sc d 215 29 [some (.ref 38), some (.int x1), some (.int x2), some (.int x3), some (.int x4)] [.int sx0] h Q :=
  wl_cb (b := sx0 = 0) (off := 12) (tgt := 41) (pc3 := 32) (st' := []) d215_29 rfl rfl rfl rfl (by decide) rfl (fun c1 => wl_ic (v := (-1)) d215_41 rfl (wl_rt d215_42 rfl rfl rfl (H.1 c1))) (fun c1 => wl_st d215_32 rfl rfl rfl rfl (wl_gf (v := .int (cm_I h 38 62)) d215_33 pf11_393 (ly_k L 38 rfl) rfl (wl_bi (v := 100) d215_36 rfl (wl_cb (b := ¬ (cm_I h 38 62) = (100 : Int32)) (off := 5) (tgt := 43) (pc3 := 41) (st' := []) d215_38 rfl rfl rfl rfl (by decide) rfl (fun c2 => wl_st d215_43 rfl rfl rfl rfl (wl_gr (b := 83) d215_44 pf11_145 (ly_k L 38 rfl) rfl (ly_r L 38 58 rfl) (wl_st d215_47 rfl rfl rfl rfl (wl_gf (v := .int (cm_I h 38 62)) d215_48 pf11_393 (ly_k L 38 rfl) rfl (wl_bi (v := 10) d215_51 rfl (wl_st d215_53 rfl rfl rfl rfl (wl_st d215_54 rfl rfl rfl rfl (wl_st d215_55 rfl rfl rfl rfl (wl_st d215_56 rfl rfl rfl rfl (And.elim (fun g3 g3k => wl_if (h' := (cm_setI h 83 (cm_I h 38 62).toNatClampNeg (((10 : Int32) * x1) + x2))) d215_57 rfl rfl rfl rfl (ly_o L 83 rfl g3) (wl_st d215_58 rfl rfl rfl rfl (wl_gr (b := 84) d215_59 pf11_148 (ly_k L 38 rfl) rfl (ly_r L 38 59 rfl) (wl_st d215_62 rfl rfl rfl rfl (wl_gf (v := .int (cm_I h 38 62)) d215_63 pf11_393 (ly_k L 38 rfl) rfl (wl_st d215_66 rfl rfl rfl rfl (wl_if (h' := (cm_setI (cm_setI h 83 (cm_I h 38 62).toNatClampNeg (((10 : Int32) * x1) + x2)) 84 (cm_I h 38 62).toNatClampNeg x3)) d215_67 rfl rfl rfl rfl (ly_o L 84 rfl g3) (wl_st d215_68 rfl rfl rfl rfl (wl_gr (b := 85) d215_69 pf11_151 (ly_k L 38 rfl) rfl (ly_r L 38 60 rfl) (wl_st d215_72 rfl rfl rfl rfl (wl_gf (v := .int (cm_I h 38 62)) d215_73 pf11_393 (ly_k L 38 rfl) rfl (wl_st d215_76 rfl rfl rfl rfl (wl_if (h' := (cm_setI (cm_setI (cm_setI h 83 (cm_I h 38 62).toNatClampNeg (((10 : Int32) * x1) + x2)) 84 (cm_I h 38 62).toNatClampNeg x3) 85 (cm_I h 38 62).toNatClampNeg x4)) d215_78 rfl rfl rfl rfl (ly_o L 85 rfl g3) (wl_st d215_79 rfl rfl rfl rfl (wl_gr (b := 86) d215_80 pf11_154 (ly_k L 38 rfl) rfl (ly_r L 38 61 rfl) (wl_st d215_83 rfl rfl rfl rfl (wl_gf (v := .int (cm_I h 38 62)) d215_84 pf11_393 (ly_k L 38 rfl) rfl (wl_st d215_87 rfl rfl rfl rfl (wl_gf (v := .int (cm_I h 38 0)) d215_88 pf11_330 (ly_k L 38 rfl) rfl (wl_if (h' := (cm_setI (cm_setI (cm_setI (cm_setI h 83 (cm_I h 38 62).toNatClampNeg (((10 : Int32) * x1) + x2)) 84 (cm_I h 38 62).toNatClampNeg x3) 85 (cm_I h 38 62).toNatClampNeg x4) 86 (cm_I h 38 62).toNatClampNeg (cm_I h 38 0))) d215_91 rfl rfl rfl rfl (ly_o L 86 rfl g3) (wl_st d215_92 rfl rfl rfl rfl (wl_st d215_93 rfl rfl rfl rfl (wl_gf (v := .int (cm_I h 38 62)) d215_94 pf11_393 (ly_k L 38 rfl) rfl (wl_ic (v := 1) d215_97 rfl (wl_st d215_98 rfl rfl rfl rfl (wl_pf (h' := (cm_setI (cm_setI (cm_setI (cm_setI (cm_setI h 83 (cm_I h 38 62).toNatClampNeg (((10 : Int32) * x1) + x2)) 84 (cm_I h 38 62).toNatClampNeg x3) 85 (cm_I h 38 62).toNatClampNeg x4) 86 (cm_I h 38 62).toNatClampNeg (cm_I h 38 0)) 38 62 ((cm_I h 38 62) + (1 : Int32)))) d215_99 pf11_393 (ly_k L 38 rfl) (Or.inl rfl) rfl (wl_st d215_102 rfl rfl rfl rfl (wl_gf (v := .int ((cm_I h 38 62) + (1 : Int32))) d215_103 pf11_393 (ly_k L 38 rfl) rfl (wl_ic (v := 1) d215_106 rfl (wl_st d215_107 rfl rfl rfl rfl (wl_rt d215_108 rfl rfl rfl g3k))))))))))))))))))))))))))))))) ((H.2 c1).1 c2))))))))))) (fun c2 => wl_ic (v := (-1)) d215_41 rfl (wl_rt d215_42 rfl rfl rfl ((H.2 c1).2 c2)))))))
-- ClogHouseModel.back(IIII)I
theorem d216_0 : decode (cm_M 216).2.2.1 0 = .ok (.aload_n 0, 1) := by decide +kernel
theorem d216_1 : decode (cm_M 216).2.2.1 1 = .ok (.iload_n 1, 1) := by decide +kernel
theorem d216_2 : decode (cm_M 216).2.2.1 2 = .ok (.iload_n 2, 1) := by decide +kernel
theorem d216_3 : decode (cm_M 216).2.2.1 3 = .ok (.iload_n 3, 1) := by decide +kernel
theorem d216_4 : decode (cm_M 216).2.2.1 4 = .ok (.invokevirtual 400, 3) := by decide +kernel
theorem d216_7 : decode (cm_M 216).2.2.1 7 = .ok (.ifCond .eq 33, 3) := by decide +kernel
theorem d216_10 : decode (cm_M 216).2.2.1 10 = .ok (.iload 4, 2) := by decide +kernel
theorem d216_12 : decode (cm_M 216).2.2.1 12 = .ok (.iconst 0, 1) := by decide +kernel
theorem d216_13 : decode (cm_M 216).2.2.1 13 = .ok (.iconst 1, 1) := by decide +kernel
theorem d216_14 : decode (cm_M 216).2.2.1 14 = .ok (.invokestatic 161, 3) := by decide +kernel
theorem d216_17 : decode (cm_M 216).2.2.1 17 = .ok (.ifCond .eq 23, 3) := by decide +kernel
theorem d216_20 : decode (cm_M 216).2.2.1 20 = .ok (.aload_n 0, 1) := by decide +kernel
theorem d216_21 : decode (cm_M 216).2.2.1 21 = .ok (.bipush 10, 2) := by decide +kernel
theorem d216_23 : decode (cm_M 216).2.2.1 23 = .ok (.iload_n 1, 1) := by decide +kernel
theorem d216_24 : decode (cm_M 216).2.2.1 24 = .ok (.imul, 1) := by decide +kernel
theorem d216_25 : decode (cm_M 216).2.2.1 25 = .ok (.iload_n 2, 1) := by decide +kernel
theorem d216_26 : decode (cm_M 216).2.2.1 26 = .ok (.iadd, 1) := by decide +kernel
theorem d216_27 : decode (cm_M 216).2.2.1 27 = .ok (.iload_n 3, 1) := by decide +kernel
theorem d216_28 : decode (cm_M 216).2.2.1 28 = .ok (.aload_n 0, 1) := by decide +kernel
theorem d216_29 : decode (cm_M 216).2.2.1 29 = .ok (.getfield 393, 3) := by decide +kernel
theorem d216_32 : decode (cm_M 216).2.2.1 32 = .ok (.iload 4, 2) := by decide +kernel
theorem d216_34 : decode (cm_M 216).2.2.1 34 = .ok (.invokevirtual 403, 3) := by decide +kernel
theorem d216_37 : decode (cm_M 216).2.2.1 37 = .ok (.goto 4, 3) := by decide +kernel
theorem d216_40 : decode (cm_M 216).2.2.1 40 = .ok (.iconst (-1), 1) := by decide +kernel
theorem d216_41 : decode (cm_M 216).2.2.1 41 = .ok (.ireturn, 1) := by decide +kernel
theorem s216_0 {sc : cmS} {d : Nat} {h : cmH} {Q : Option Value → cmH → Prop} (L : LY h) (x1 : Int32) (x2 : Int32) (x3 : Int32) (x4 : Int32) (H : cm_ci sc d 217 [.ref 38, .int x1, .int x2, .int x3] h (fun r h' => cm_wp sc (d + 1) 216 7 [some (.ref 38), some (.int x1), some (.int x2), some (.int x3), some (.int x4)] [.int r] h' Q)) : cm_wp sc (d + 1) 216 0 [some (.ref 38), some (.int x1), some (.int x2), some (.int x3), some (.int x4)] [] h Q :=
  wl_st d216_0 rfl rfl rfl rfl (wl_st d216_1 rfl rfl rfl rfl (wl_st d216_2 rfl rfl rfl rfl (wl_st d216_3 rfl rfl rfl rfl (wl_ci d216_4 rfl rfl rfl pm11_400 (by decide) (ca_v (Or.inl rfl) rfl (Nat.le_of_ble_eq_true rfl) (Nat.le_of_ble_eq_true rfl) (ly_k L 38 rfl).2 (ly_k L 38 rfl).1 (by decide)) H))))
theorem s216_7 {sc : cmS} {d : Nat} {h : cmH} {Q : Option Value → cmH → Prop} (x1 : Int32) (x2 : Int32) (x3 : Int32) (x4 : Int32) (sx0 : Int32) (H : (((sx0 = 0) → Q (some (.int (-1 : Int32))) h) ∧ (¬ (sx0 = 0) → cm_ci sc d 137 [.int x4, .int (0 : Int32), .int (1 : Int32)] h (fun r h' => cm_wp sc (d + 1) 216 17 [some (.ref 38), some (.int x1), some (.int x2), some (.int x3), some (.int x4)] [.int r] h' Q)))) : cm_wp sc (d + 1) 216 7 [some (.ref 38), some (.int x1), some (.int x2), some (.int x3), some (.int x4)] [.int sx0] h Q :=
  wl_cb (b := sx0 = 0) (off := 33) (tgt := 40) (pc3 := 10) (st' := []) d216_7 rfl rfl rfl rfl (by decide) rfl (fun c1 => wl_ic (v := (-1)) d216_40 rfl (wl_rt d216_41 rfl rfl rfl (H.1 c1))) (fun c1 => wl_st d216_10 rfl rfl rfl rfl (wl_ic (v := 0) d216_12 rfl (wl_ic (v := 1) d216_13 rfl (wl_ci d216_14 rfl rfl rfl pm11_161 (by decide) (ca_s (Or.inl rfl) rfl (Nat.le_of_ble_eq_true rfl) (Nat.le_of_ble_eq_true rfl)) (H.2 c1)))))
theorem s216_17 {sc : cmS} {d : Nat} {h : cmH} {Q : Option Value → cmH → Prop} (L : LY h) (x1 : Int32) (x2 : Int32) (x3 : Int32) (x4 : Int32) (sx0 : Int32) (H : (((sx0 = 0) → Q (some (.int (-1 : Int32))) h) ∧ (¬ (sx0 = 0) → cm_ci sc d 218 [.ref 38, .int (((10 : Int32) * x1) + x2), .int x3, .int (cm_I h 38 62), .int x4] h (fun r h' => cm_wp sc (d + 1) 216 37 [some (.ref 38), some (.int x1), some (.int x2), some (.int x3), some (.int x4)] [.int r] h' Q)))) : cm_wp sc (d + 1) 216 17 [some (.ref 38), some (.int x1), some (.int x2), some (.int x3), some (.int x4)] [.int sx0] h Q :=
  wl_cb (b := sx0 = 0) (off := 23) (tgt := 40) (pc3 := 20) (st' := []) d216_17 rfl rfl rfl rfl (by decide) rfl (fun c1 => wl_ic (v := (-1)) d216_40 rfl (wl_rt d216_41 rfl rfl rfl (H.1 c1))) (fun c1 => wl_st d216_20 rfl rfl rfl rfl (wl_bi (v := 10) d216_21 rfl (wl_st d216_23 rfl rfl rfl rfl (wl_st d216_24 rfl rfl rfl rfl (wl_st d216_25 rfl rfl rfl rfl (wl_st d216_26 rfl rfl rfl rfl (wl_st d216_27 rfl rfl rfl rfl (wl_st d216_28 rfl rfl rfl rfl (wl_gf (v := .int (cm_I h 38 62)) d216_29 pf11_393 (ly_k L 38 rfl) rfl (wl_st d216_32 rfl rfl rfl rfl (wl_ci d216_34 rfl rfl rfl pm11_403 (by decide) (ca_v (Or.inl rfl) rfl (Nat.le_of_ble_eq_true rfl) (Nat.le_of_ble_eq_true rfl) (ly_k L 38 rfl).2 (ly_k L 38 rfl).1 (by decide)) (H.2 c1))))))))))))
theorem s216_37 {sc : cmS} {d : Nat} {h : cmH} {Q : Option Value → cmH → Prop} (x1 : Int32) (x2 : Int32) (x3 : Int32) (x4 : Int32) (sx0 : Int32) (H : Q (some (.int sx0)) h) : cm_wp sc d 216 37 [some (.ref 38), some (.int x1), some (.int x2), some (.int x3), some (.int x4)] [.int sx0] h Q :=
  wl_go (tgt := 41) d216_37 (by decide) (wl_rt d216_41 rfl rfl rfl H)
-- ClogHouseModel.isAsked(III)Z
theorem d217_0 : decode (cm_M 217).2.2.1 0 = .ok (.aload_n 0, 1) := by decide +kernel
theorem d217_1 : decode (cm_M 217).2.2.1 1 = .ok (.iload_n 1, 1) := by decide +kernel
theorem d217_2 : decode (cm_M 217).2.2.1 2 = .ok (.iload_n 2, 1) := by decide +kernel
theorem d217_3 : decode (cm_M 217).2.2.1 3 = .ok (.invokevirtual 209, 3) := by decide +kernel
theorem d217_6 : decode (cm_M 217).2.2.1 6 = .ok (.ifCond .eq 19, 3) := by decide +kernel
theorem d217_9 : decode (cm_M 217).2.2.1 9 = .ok (.iload_n 3, 1) := by decide +kernel
theorem d217_10 : decode (cm_M 217).2.2.1 10 = .ok (.iconst 0, 1) := by decide +kernel
theorem d217_11 : decode (cm_M 217).2.2.1 11 = .ok (.aload_n 0, 1) := by decide +kernel
theorem d217_12 : decode (cm_M 217).2.2.1 12 = .ok (.getfield 330, 3) := by decide +kernel
theorem d217_15 : decode (cm_M 217).2.2.1 15 = .ok (.invokestatic 161, 3) := by decide +kernel
theorem d217_18 : decode (cm_M 217).2.2.1 18 = .ok (.ifCond .eq 7, 3) := by decide +kernel
theorem d217_21 : decode (cm_M 217).2.2.1 21 = .ok (.iconst 1, 1) := by decide +kernel
theorem d217_22 : decode (cm_M 217).2.2.1 22 = .ok (.goto 4, 3) := by decide +kernel
theorem d217_25 : decode (cm_M 217).2.2.1 25 = .ok (.iconst 0, 1) := by decide +kernel
theorem d217_26 : decode (cm_M 217).2.2.1 26 = .ok (.ireturn, 1) := by decide +kernel
theorem s217_0 {sc : cmS} {d : Nat} {h : cmH} {Q : Option Value → cmH → Prop} (L : LY h) (x1 : Int32) (x2 : Int32) (x3 : Int32) (H : cm_ci sc d 151 [.ref 38, .int x1, .int x2] h (fun r h' => cm_wp sc (d + 1) 217 6 [some (.ref 38), some (.int x1), some (.int x2), some (.int x3)] [.int r] h' Q)) : cm_wp sc (d + 1) 217 0 [some (.ref 38), some (.int x1), some (.int x2), some (.int x3)] [] h Q :=
  wl_st d217_0 rfl rfl rfl rfl (wl_st d217_1 rfl rfl rfl rfl (wl_st d217_2 rfl rfl rfl rfl (wl_ci d217_3 rfl rfl rfl pm11_209 (by decide) (ca_v (Or.inl rfl) rfl (Nat.le_of_ble_eq_true rfl) (Nat.le_of_ble_eq_true rfl) (ly_k L 38 rfl).2 (ly_k L 38 rfl).1 (by decide)) H)))
theorem s217_6 {sc : cmS} {d : Nat} {h : cmH} {Q : Option Value → cmH → Prop} (L : LY h) (x1 : Int32) (x2 : Int32) (x3 : Int32) (sx0 : Int32) (H : (((sx0 = 0) → Q (some (.int (0 : Int32))) h) ∧ (¬ (sx0 = 0) → cm_ci sc d 137 [.int x3, .int (0 : Int32), .int (cm_I h 38 0)] h (fun r h' => cm_wp sc (d + 1) 217 18 [some (.ref 38), some (.int x1), some (.int x2), some (.int x3)] [.int r] h' Q)))) : cm_wp sc (d + 1) 217 6 [some (.ref 38), some (.int x1), some (.int x2), some (.int x3)] [.int sx0] h Q :=
  wl_cb (b := sx0 = 0) (off := 19) (tgt := 25) (pc3 := 9) (st' := []) d217_6 rfl rfl rfl rfl (by decide) rfl (fun c1 => wl_ic (v := 0) d217_25 rfl (wl_rz d217_26 rfl (by decide) (H.1 c1))) (fun c1 => wl_st d217_9 rfl rfl rfl rfl (wl_ic (v := 0) d217_10 rfl (wl_st d217_11 rfl rfl rfl rfl (wl_gf (v := .int (cm_I h 38 0)) d217_12 pf11_330 (ly_k L 38 rfl) rfl (wl_ci d217_15 rfl rfl rfl pm11_161 (by decide) (ca_s (Or.inl rfl) rfl (Nat.le_of_ble_eq_true rfl) (Nat.le_of_ble_eq_true rfl)) (H.2 c1))))))
theorem s217_18 {sc : cmS} {d : Nat} {h : cmH} {Q : Option Value → cmH → Prop} (x1 : Int32) (x2 : Int32) (x3 : Int32) (sx0 : Int32) (H : (((sx0 = 0) → Q (some (.int (0 : Int32))) h) ∧ (¬ (sx0 = 0) → Q (some (.int (1 : Int32))) h))) : cm_wp sc d 217 18 [some (.ref 38), some (.int x1), some (.int x2), some (.int x3)] [.int sx0] h Q :=
  wl_cb (b := sx0 = 0) (off := 7) (tgt := 25) (pc3 := 21) (st' := []) d217_18 rfl rfl rfl rfl (by decide) rfl (fun c1 => wl_ic (v := 0) d217_25 rfl (wl_rz d217_26 rfl (by decide) (H.1 c1))) (fun c1 => wl_ic (v := 1) d217_21 rfl (wl_go (tgt := 26) d217_22 (by decide) (wl_rz d217_26 rfl (by decide) (H.2 c1))))
-- ClogHouseModel.readBack(IIII)I
theorem d218_0 : decode (cm_M 218).2.2.1 0 = .ok (.iconst (-1), 1) := by decide +kernel
theorem d218_1 : decode (cm_M 218).2.2.1 1 = .ok (.istore 5, 2) := by decide +kernel
theorem d218_3 : decode (cm_M 218).2.2.1 3 = .ok (.iconst 0, 1) := by decide +kernel
theorem d218_4 : decode (cm_M 218).2.2.1 4 = .ok (.istore 6, 2) := by decide +kernel
theorem d218_6 : decode (cm_M 218).2.2.1 6 = .ok (.iload 6, 2) := by decide +kernel
theorem d218_8 : decode (cm_M 218).2.2.1 8 = .ok (.aload_n 0, 1) := by decide +kernel
theorem d218_9 : decode (cm_M 218).2.2.1 9 = .ok (.getfield 22, 3) := by decide +kernel
theorem d218_12 : decode (cm_M 218).2.2.1 12 = .ok (.iload_n 1, 1) := by decide +kernel
theorem d218_13 : decode (cm_M 218).2.2.1 13 = .ok (.iaload, 1) := by decide +kernel
theorem d218_14 : decode (cm_M 218).2.2.1 14 = .ok (.aload_n 0, 1) := by decide +kernel
theorem d218_15 : decode (cm_M 218).2.2.1 15 = .ok (.getfield 28, 3) := by decide +kernel
theorem d218_18 : decode (cm_M 218).2.2.1 18 = .ok (.iload_n 1, 1) := by decide +kernel
theorem d218_19 : decode (cm_M 218).2.2.1 19 = .ok (.iaload, 1) := by decide +kernel
theorem d218_20 : decode (cm_M 218).2.2.1 20 = .ok (.imul, 1) := by decide +kernel
theorem d218_21 : decode (cm_M 218).2.2.1 21 = .ok (.if_icmp .ge 37, 3) := by decide +kernel
theorem d218_24 : decode (cm_M 218).2.2.1 24 = .ok (.iload 4, 2) := by decide +kernel
theorem d218_26 : decode (cm_M 218).2.2.1 26 = .ok (.iconst 1, 1) := by decide +kernel
theorem d218_27 : decode (cm_M 218).2.2.1 27 = .ok (.if_icmp .eq 9, 3) := by decide +kernel
theorem d218_30 : decode (cm_M 218).2.2.1 30 = .ok (.iload 5, 2) := by decide +kernel
theorem d218_32 : decode (cm_M 218).2.2.1 32 = .ok (.iconst (-1), 1) := by decide +kernel
theorem d218_33 : decode (cm_M 218).2.2.1 33 = .ok (.if_icmp .ne 19, 3) := by decide +kernel
theorem d218_36 : decode (cm_M 218).2.2.1 36 = .ok (.aload_n 0, 1) := by decide +kernel
theorem d218_37 : decode (cm_M 218).2.2.1 37 = .ok (.iload_n 1, 1) := by decide +kernel
theorem d218_38 : decode (cm_M 218).2.2.1 38 = .ok (.iload 6, 2) := by decide +kernel
theorem d218_40 : decode (cm_M 218).2.2.1 40 = .ok (.iload_n 2, 1) := by decide +kernel
theorem d218_41 : decode (cm_M 218).2.2.1 41 = .ok (.iload_n 3, 1) := by decide +kernel
theorem d218_42 : decode (cm_M 218).2.2.1 42 = .ok (.invokevirtual 396, 3) := by decide +kernel
theorem d218_45 : decode (cm_M 218).2.2.1 45 = .ok (.ifCond .eq 7, 3) := by decide +kernel
theorem d218_48 : decode (cm_M 218).2.2.1 48 = .ok (.iload 6, 2) := by decide +kernel
theorem d218_50 : decode (cm_M 218).2.2.1 50 = .ok (.istore 5, 2) := by decide +kernel
theorem d218_52 : decode (cm_M 218).2.2.1 52 = .ok (.iinc 6 1, 3) := by decide +kernel
theorem d218_55 : decode (cm_M 218).2.2.1 55 = .ok (.goto (-49), 3) := by decide +kernel
theorem d218_58 : decode (cm_M 218).2.2.1 58 = .ok (.iload 5, 2) := by decide +kernel
theorem d218_60 : decode (cm_M 218).2.2.1 60 = .ok (.ireturn, 1) := by decide +kernel
theorem s218_0 {sc : cmS} {d : Nat} {h : cmH} {Q : Option Value → cmH → Prop} (x1 : Int32) (x2 : Int32) (x3 : Int32) (x4 : Int32) (u5 : Option Value) (u6 : Option Value) (H : cm_wp sc d 218 6 [some (.ref 38), some (.int x1), some (.int x2), some (.int x3), some (.int x4), some (.int (-1 : Int32)), some (.int (0 : Int32))] [] h Q) : cm_wp sc d 218 0 [some (.ref 38), some (.int x1), some (.int x2), some (.int x3), some (.int x4), u5, u6] [] h Q :=
  wl_ic (v := (-1)) d218_0 rfl (wl_st (ls' := [some (.ref 38), some (.int x1), some (.int x2), some (.int x3), some (.int x4), some (.int (-1 : Int32)), u6]) d218_1 rfl rfl rfl rfl (wl_ic (v := 0) d218_3 rfl (wl_st (ls' := [some (.ref 38), some (.int x1), some (.int x2), some (.int x3), some (.int x4), some (.int (-1 : Int32)), some (.int (0 : Int32))]) d218_4 rfl rfl rfl rfl (H))))
theorem s218_6 {sc : cmS} {d : Nat} {h : cmH} {Q : Option Value → cmH → Prop} (L : LY h) (x1 : Int32) (x2 : Int32) (x3 : Int32) (x4 : Int32) (x5 : Int32) (x6 : Int32) (H : (IX 90 x1) ∧ (((((cm_I h 43 x1.toNatClampNeg) * (cm_I h 45 x1.toNatClampNeg)) ≤ x6) → Q (some (.int x5)) h) ∧ (¬ (((cm_I h 43 x1.toNatClampNeg) * (cm_I h 45 x1.toNatClampNeg)) ≤ x6) → (((x4 = (1 : Int32)) → cm_wp sc d 218 36 [some (.ref 38), some (.int x1), some (.int x2), some (.int x3), some (.int x4), some (.int x5), some (.int x6)] [] h Q) ∧ (¬ (x4 = (1 : Int32)) → (((¬ x5 = (-1 : Int32)) → cm_wp sc d 218 52 [some (.ref 38), some (.int x1), some (.int x2), some (.int x3), some (.int x4), some (.int x5), some (.int x6)] [] h Q) ∧ (¬ (¬ x5 = (-1 : Int32)) → cm_wp sc d 218 36 [some (.ref 38), some (.int x1), some (.int x2), some (.int x3), some (.int x4), some (.int x5), some (.int x6)] [] h Q))))))) : cm_wp sc d 218 6 [some (.ref 38), some (.int x1), some (.int x2), some (.int x3), some (.int x4), some (.int x5), some (.int x6)] [] h Q :=
  wl_st d218_6 rfl rfl rfl rfl (wl_st d218_8 rfl rfl rfl rfl (wl_gr (b := 43) d218_9 pf11_22 (ly_k L 38 rfl) rfl (ly_r L 38 6 rfl) (wl_st d218_12 rfl rfl rfl rfl (And.elim (fun g1 g1k => wl_if (g := cm_ok h 13 43 x1) (st' := [.int (cm_I h 43 x1.toNatClampNeg), .int x6]) d218_13 rfl rfl rfl rfl (ly_o L 43 rfl g1) (wl_st d218_14 rfl rfl rfl rfl (wl_gr (b := 45) d218_15 pf11_28 (ly_k L 38 rfl) rfl (ly_r L 38 8 rfl) (wl_st d218_18 rfl rfl rfl rfl (wl_if (g := cm_ok h 13 45 x1) (st' := [.int (cm_I h 45 x1.toNatClampNeg), .int (cm_I h 43 x1.toNatClampNeg), .int x6]) d218_19 rfl rfl rfl rfl (ly_o L 45 rfl g1) (wl_st d218_20 rfl rfl rfl rfl (wl_cb (b := ((cm_I h 43 x1.toNatClampNeg) * (cm_I h 45 x1.toNatClampNeg)) ≤ x6) (off := 37) (tgt := 58) (pc3 := 24) (st' := []) d218_21 rfl rfl rfl rfl (by decide) rfl (fun c2 => wl_st d218_58 rfl rfl rfl rfl (wl_rt d218_60 rfl rfl rfl (g1k.1 c2))) (fun c2 => wl_st d218_24 rfl rfl rfl rfl (wl_ic (v := 1) d218_26 rfl (wl_cb (b := x4 = (1 : Int32)) (off := 9) (tgt := 36) (pc3 := 30) (st' := []) d218_27 rfl rfl rfl rfl (by decide) rfl (fun c3 => ((g1k.2 c2).1 c3)) (fun c3 => wl_st d218_30 rfl rfl rfl rfl (wl_ic (v := (-1)) d218_32 rfl (wl_cb (b := ¬ x5 = (-1 : Int32)) (off := 19) (tgt := 52) (pc3 := 36) (st' := []) d218_33 rfl rfl rfl rfl (by decide) rfl (fun c4 => (((g1k.2 c2).2 c3).1 c4)) (fun c4 => (((g1k.2 c2).2 c3).2 c4))))))))))))))) H))))
theorem s218_36 {sc : cmS} {d : Nat} {h : cmH} {Q : Option Value → cmH → Prop} (L : LY h) (x1 : Int32) (x2 : Int32) (x3 : Int32) (x4 : Int32) (x5 : Int32) (x6 : Int32) (H : cm_ci sc d 219 [.ref 38, .int x1, .int x6, .int x2, .int x3] h (fun r h' => cm_wp sc (d + 1) 218 45 [some (.ref 38), some (.int x1), some (.int x2), some (.int x3), some (.int x4), some (.int x5), some (.int x6)] [.int r] h' Q)) : cm_wp sc (d + 1) 218 36 [some (.ref 38), some (.int x1), some (.int x2), some (.int x3), some (.int x4), some (.int x5), some (.int x6)] [] h Q :=
  wl_st d218_36 rfl rfl rfl rfl (wl_st d218_37 rfl rfl rfl rfl (wl_st d218_38 rfl rfl rfl rfl (wl_st d218_40 rfl rfl rfl rfl (wl_st d218_41 rfl rfl rfl rfl (wl_ci d218_42 rfl rfl rfl pm11_396 (by decide) (ca_v (Or.inl rfl) rfl (Nat.le_of_ble_eq_true rfl) (Nat.le_of_ble_eq_true rfl) (ly_k L 38 rfl).2 (ly_k L 38 rfl).1 (by decide)) H)))))
theorem s218_45 {sc : cmS} {d : Nat} {h : cmH} {Q : Option Value → cmH → Prop} (x1 : Int32) (x2 : Int32) (x3 : Int32) (x4 : Int32) (x5 : Int32) (x6 : Int32) (sx0 : Int32) (H : (((sx0 = 0) → cm_wp sc d 218 52 [some (.ref 38), some (.int x1), some (.int x2), some (.int x3), some (.int x4), some (.int x5), some (.int x6)] [] h Q) ∧ (¬ (sx0 = 0) → cm_wp sc d 218 52 [some (.ref 38), some (.int x1), some (.int x2), some (.int x3), some (.int x4), some (.int x6), some (.int x6)] [] h Q))) : cm_wp sc d 218 45 [some (.ref 38), some (.int x1), some (.int x2), some (.int x3), some (.int x4), some (.int x5), some (.int x6)] [.int sx0] h Q :=
  wl_cb (b := sx0 = 0) (off := 7) (tgt := 52) (pc3 := 48) (st' := []) d218_45 rfl rfl rfl rfl (by decide) rfl (fun c1 => (H.1 c1)) (fun c1 => wl_st d218_48 rfl rfl rfl rfl (wl_st (ls' := [some (.ref 38), some (.int x1), some (.int x2), some (.int x3), some (.int x4), some (.int x6), some (.int x6)]) d218_50 rfl rfl rfl rfl ((H.2 c1))))
theorem s218_52 {sc : cmS} {d : Nat} {h : cmH} {Q : Option Value → cmH → Prop} (x1 : Int32) (x2 : Int32) (x3 : Int32) (x4 : Int32) (x5 : Int32) (x6 : Int32) (H : cm_wp sc d 218 6 [some (.ref 38), some (.int x1), some (.int x2), some (.int x3), some (.int x4), some (.int x5), some (.int (x6 + 1))] [] h Q) : cm_wp sc d 218 52 [some (.ref 38), some (.int x1), some (.int x2), some (.int x3), some (.int x4), some (.int x5), some (.int x6)] [] h Q :=
  wl_st (ls' := [some (.ref 38), some (.int x1), some (.int x2), some (.int x3), some (.int x4), some (.int x5), some (.int (x6 + 1))]) d218_52 rfl rfl rfl rfl (wl_go (tgt := 6) d218_55 (by decide) (H))
-- ClogHouseModel.agrees(IIII)Z
theorem d219_0 : decode (cm_M 219).2.2.1 0 = .ok (.aload_n 0, 1) := by decide +kernel
theorem d219_1 : decode (cm_M 219).2.2.1 1 = .ok (.getfield 22, 3) := by decide +kernel
theorem d219_4 : decode (cm_M 219).2.2.1 4 = .ok (.iload_n 1, 1) := by decide +kernel
theorem d219_5 : decode (cm_M 219).2.2.1 5 = .ok (.iaload, 1) := by decide +kernel
theorem d219_6 : decode (cm_M 219).2.2.1 6 = .ok (.aload_n 0, 1) := by decide +kernel
theorem d219_7 : decode (cm_M 219).2.2.1 7 = .ok (.getfield 28, 3) := by decide +kernel
theorem d219_10 : decode (cm_M 219).2.2.1 10 = .ok (.iload_n 1, 1) := by decide +kernel
theorem d219_11 : decode (cm_M 219).2.2.1 11 = .ok (.iaload, 1) := by decide +kernel
theorem d219_12 : decode (cm_M 219).2.2.1 12 = .ok (.iload_n 2, 1) := by decide +kernel
theorem d219_13 : decode (cm_M 219).2.2.1 13 = .ok (.invokestatic 181, 3) := by decide +kernel
theorem d219_16 : decode (cm_M 219).2.2.1 16 = .ok (.invokestatic 188, 3) := by decide +kernel
theorem d219_19 : decode (cm_M 219).2.2.1 19 = .ok (.istore 5, 2) := by decide +kernel
theorem d219_21 : decode (cm_M 219).2.2.1 21 = .ok (.iconst 0, 1) := by decide +kernel
theorem d219_22 : decode (cm_M 219).2.2.1 22 = .ok (.istore 6, 2) := by decide +kernel
theorem d219_24 : decode (cm_M 219).2.2.1 24 = .ok (.iload 6, 2) := by decide +kernel
theorem d219_26 : decode (cm_M 219).2.2.1 26 = .ok (.iload 4, 2) := by decide +kernel
theorem d219_28 : decode (cm_M 219).2.2.1 28 = .ok (.if_icmp .ge 55, 3) := by decide +kernel
theorem d219_31 : decode (cm_M 219).2.2.1 31 = .ok (.aload_n 0, 1) := by decide +kernel
theorem d219_32 : decode (cm_M 219).2.2.1 32 = .ok (.getfield 145, 3) := by decide +kernel
theorem d219_35 : decode (cm_M 219).2.2.1 35 = .ok (.iload 6, 2) := by decide +kernel
theorem d219_37 : decode (cm_M 219).2.2.1 37 = .ok (.iaload, 1) := by decide +kernel
theorem d219_38 : decode (cm_M 219).2.2.1 38 = .ok (.iload_n 1, 1) := by decide +kernel
theorem d219_39 : decode (cm_M 219).2.2.1 39 = .ok (.if_icmp .ne 38, 3) := by decide +kernel
theorem d219_42 : decode (cm_M 219).2.2.1 42 = .ok (.aload_n 0, 1) := by decide +kernel
theorem d219_43 : decode (cm_M 219).2.2.1 43 = .ok (.getfield 154, 3) := by decide +kernel
theorem d219_46 : decode (cm_M 219).2.2.1 46 = .ok (.iload 6, 2) := by decide +kernel
theorem d219_48 : decode (cm_M 219).2.2.1 48 = .ok (.iaload, 1) := by decide +kernel
theorem d219_49 : decode (cm_M 219).2.2.1 49 = .ok (.iload_n 3, 1) := by decide +kernel
theorem d219_50 : decode (cm_M 219).2.2.1 50 = .ok (.if_icmp .gt 27, 3) := by decide +kernel
theorem d219_53 : decode (cm_M 219).2.2.1 53 = .ok (.iload 5, 2) := by decide +kernel
theorem d219_55 : decode (cm_M 219).2.2.1 55 = .ok (.aload_n 0, 1) := by decide +kernel
theorem d219_56 : decode (cm_M 219).2.2.1 56 = .ok (.getfield 148, 3) := by decide +kernel
theorem d219_59 : decode (cm_M 219).2.2.1 59 = .ok (.iload 6, 2) := by decide +kernel
theorem d219_61 : decode (cm_M 219).2.2.1 61 = .ok (.iaload, 1) := by decide +kernel
theorem d219_62 : decode (cm_M 219).2.2.1 62 = .ok (.aload_n 0, 1) := by decide +kernel
theorem d219_63 : decode (cm_M 219).2.2.1 63 = .ok (.getfield 151, 3) := by decide +kernel
theorem d219_66 : decode (cm_M 219).2.2.1 66 = .ok (.iload 6, 2) := by decide +kernel
theorem d219_68 : decode (cm_M 219).2.2.1 68 = .ok (.iaload, 1) := by decide +kernel
theorem d219_69 : decode (cm_M 219).2.2.1 69 = .ok (.invokestatic 161, 3) := by decide +kernel
theorem d219_72 : decode (cm_M 219).2.2.1 72 = .ok (.ifCond .ne 5, 3) := by decide +kernel
theorem d219_75 : decode (cm_M 219).2.2.1 75 = .ok (.iconst 0, 1) := by decide +kernel
theorem d219_76 : decode (cm_M 219).2.2.1 76 = .ok (.ireturn, 1) := by decide +kernel
theorem d219_77 : decode (cm_M 219).2.2.1 77 = .ok (.iinc 6 1, 3) := by decide +kernel
theorem d219_80 : decode (cm_M 219).2.2.1 80 = .ok (.goto (-56), 3) := by decide +kernel
theorem d219_83 : decode (cm_M 219).2.2.1 83 = .ok (.iconst 1, 1) := by decide +kernel
theorem d219_84 : decode (cm_M 219).2.2.1 84 = .ok (.ireturn, 1) := by decide +kernel
theorem s219_0 {sc : cmS} {d : Nat} {h : cmH} {Q : Option Value → cmH → Prop} (L : LY h) (x1 : Int32) (x2 : Int32) (x3 : Int32) (x4 : Int32) (u5 : Option Value) (u6 : Option Value) (H : (IX 90 x1) ∧ cm_ci sc d 147 [.int (cm_I h 43 x1.toNatClampNeg), .int (cm_I h 45 x1.toNatClampNeg), .int x2] h (fun r h' => cm_wp sc (d + 1) 219 16 [some (.ref 38), some (.int x1), some (.int x2), some (.int x3), some (.int x4), u5, u6] [.int r] h' Q)) : cm_wp sc (d + 1) 219 0 [some (.ref 38), some (.int x1), some (.int x2), some (.int x3), some (.int x4), u5, u6] [] h Q :=
  wl_st d219_0 rfl rfl rfl rfl (wl_gr (b := 43) d219_1 pf11_22 (ly_k L 38 rfl) rfl (ly_r L 38 6 rfl) (wl_st d219_4 rfl rfl rfl rfl (And.elim (fun g1 g1k => wl_if (g := cm_ok h 13 43 x1) (st' := [.int (cm_I h 43 x1.toNatClampNeg)]) d219_5 rfl rfl rfl rfl (ly_o L 43 rfl g1) (wl_st d219_6 rfl rfl rfl rfl (wl_gr (b := 45) d219_7 pf11_28 (ly_k L 38 rfl) rfl (ly_r L 38 8 rfl) (wl_st d219_10 rfl rfl rfl rfl (wl_if (g := cm_ok h 13 45 x1) (st' := [.int (cm_I h 45 x1.toNatClampNeg), .int (cm_I h 43 x1.toNatClampNeg)]) d219_11 rfl rfl rfl rfl (ly_o L 45 rfl g1) (wl_st d219_12 rfl rfl rfl rfl (wl_ci d219_13 rfl rfl rfl pm11_181 (by decide) (ca_s (Or.inl rfl) rfl (Nat.le_of_ble_eq_true rfl) (Nat.le_of_ble_eq_true rfl)) g1k))))))) H)))
theorem s219_16 {sc : cmS} {d : Nat} {h : cmH} {Q : Option Value → cmH → Prop} (x1 : Int32) (x2 : Int32) (x3 : Int32) (x4 : Int32) (u5 : Option Value) (u6 : Option Value) (sx0 : Int32) (H : cm_ci sc d 148 [.int sx0] h (fun r h' => cm_wp sc (d + 1) 219 19 [some (.ref 38), some (.int x1), some (.int x2), some (.int x3), some (.int x4), u5, u6] [.int r] h' Q)) : cm_wp sc (d + 1) 219 16 [some (.ref 38), some (.int x1), some (.int x2), some (.int x3), some (.int x4), u5, u6] [.int sx0] h Q :=
  wl_ci d219_16 rfl rfl rfl pm11_188 (by decide) (ca_s (Or.inl rfl) rfl (Nat.le_of_ble_eq_true rfl) (Nat.le_of_ble_eq_true rfl)) H
theorem s219_19 {sc : cmS} {d : Nat} {h : cmH} {Q : Option Value → cmH → Prop} (x1 : Int32) (x2 : Int32) (x3 : Int32) (x4 : Int32) (u5 : Option Value) (u6 : Option Value) (sx0 : Int32) (H : cm_wp sc d 219 24 [some (.ref 38), some (.int x1), some (.int x2), some (.int x3), some (.int x4), some (.int sx0), some (.int (0 : Int32))] [] h Q) : cm_wp sc d 219 19 [some (.ref 38), some (.int x1), some (.int x2), some (.int x3), some (.int x4), u5, u6] [.int sx0] h Q :=
  wl_st (ls' := [some (.ref 38), some (.int x1), some (.int x2), some (.int x3), some (.int x4), some (.int sx0), u6]) d219_19 rfl rfl rfl rfl (wl_ic (v := 0) d219_21 rfl (wl_st (ls' := [some (.ref 38), some (.int x1), some (.int x2), some (.int x3), some (.int x4), some (.int sx0), some (.int (0 : Int32))]) d219_22 rfl rfl rfl rfl (H)))
theorem s219_24 {sc : cmS} {d : Nat} {h : cmH} {Q : Option Value → cmH → Prop} (L : LY h) (x1 : Int32) (x2 : Int32) (x3 : Int32) (x4 : Int32) (x5 : Int32) (x6 : Int32) (H : (((x4 ≤ x6) → Q (some (.int (1 : Int32))) h) ∧ (¬ (x4 ≤ x6) → (IX 100 x6) ∧ (((¬ (cm_I h 83 x6.toNatClampNeg) = x1) → cm_wp sc (d + 1) 219 77 [some (.ref 38), some (.int x1), some (.int x2), some (.int x3), some (.int x4), some (.int x5), some (.int x6)] [] h Q) ∧ (¬ (¬ (cm_I h 83 x6.toNatClampNeg) = x1) → (((x3 < (cm_I h 86 x6.toNatClampNeg)) → cm_wp sc (d + 1) 219 77 [some (.ref 38), some (.int x1), some (.int x2), some (.int x3), some (.int x4), some (.int x5), some (.int x6)] [] h Q) ∧ (¬ (x3 < (cm_I h 86 x6.toNatClampNeg)) → cm_ci sc d 137 [.int x5, .int (cm_I h 84 x6.toNatClampNeg), .int (cm_I h 85 x6.toNatClampNeg)] h (fun r h' => cm_wp sc (d + 1) 219 72 [some (.ref 38), some (.int x1), some (.int x2), some (.int x3), some (.int x4), some (.int x5), some (.int x6)] [.int r] h' Q)))))))) : cm_wp sc (d + 1) 219 24 [some (.ref 38), some (.int x1), some (.int x2), some (.int x3), some (.int x4), some (.int x5), some (.int x6)] [] h Q :=
  wl_st d219_24 rfl rfl rfl rfl (wl_st d219_26 rfl rfl rfl rfl (wl_cb (b := x4 ≤ x6) (off := 55) (tgt := 83) (pc3 := 31) (st' := []) d219_28 rfl rfl rfl rfl (by decide) rfl (fun c1 => wl_ic (v := 1) d219_83 rfl (wl_rz d219_84 rfl (by decide) (H.1 c1))) (fun c1 => wl_st d219_31 rfl rfl rfl rfl (wl_gr (b := 83) d219_32 pf11_145 (ly_k L 38 rfl) rfl (ly_r L 38 58 rfl) (wl_st d219_35 rfl rfl rfl rfl (And.elim (fun g2 g2k => wl_if (g := cm_ok h 13 83 x6) (st' := [.int (cm_I h 83 x6.toNatClampNeg)]) d219_37 rfl rfl rfl rfl (ly_o L 83 rfl g2) (wl_st d219_38 rfl rfl rfl rfl (wl_cb (b := ¬ (cm_I h 83 x6.toNatClampNeg) = x1) (off := 38) (tgt := 77) (pc3 := 42) (st' := []) d219_39 rfl rfl rfl rfl (by decide) rfl (fun c3 => (g2k.1 c3)) (fun c3 => wl_st d219_42 rfl rfl rfl rfl (wl_gr (b := 86) d219_43 pf11_154 (ly_k L 38 rfl) rfl (ly_r L 38 61 rfl) (wl_st d219_46 rfl rfl rfl rfl (wl_if (g := cm_ok h 13 86 x6) (st' := [.int (cm_I h 86 x6.toNatClampNeg)]) d219_48 rfl rfl rfl rfl (ly_o L 86 rfl g2) (wl_st d219_49 rfl rfl rfl rfl (wl_cb (b := x3 < (cm_I h 86 x6.toNatClampNeg)) (off := 27) (tgt := 77) (pc3 := 53) (st' := []) d219_50 rfl rfl rfl rfl (by decide) rfl (fun c4 => ((g2k.2 c3).1 c4)) (fun c4 => wl_st d219_53 rfl rfl rfl rfl (wl_st d219_55 rfl rfl rfl rfl (wl_gr (b := 84) d219_56 pf11_148 (ly_k L 38 rfl) rfl (ly_r L 38 59 rfl) (wl_st d219_59 rfl rfl rfl rfl (wl_if (g := cm_ok h 13 84 x6) (st' := [.int (cm_I h 84 x6.toNatClampNeg), .int x5]) d219_61 rfl rfl rfl rfl (ly_o L 84 rfl g2) (wl_st d219_62 rfl rfl rfl rfl (wl_gr (b := 85) d219_63 pf11_151 (ly_k L 38 rfl) rfl (ly_r L 38 60 rfl) (wl_st d219_66 rfl rfl rfl rfl (wl_if (g := cm_ok h 13 85 x6) (st' := [.int (cm_I h 85 x6.toNatClampNeg), .int (cm_I h 84 x6.toNatClampNeg), .int x5]) d219_68 rfl rfl rfl rfl (ly_o L 85 rfl g2) (wl_ci d219_69 rfl rfl rfl pm11_161 (by decide) (ca_s (Or.inl rfl) rfl (Nat.le_of_ble_eq_true rfl) (Nat.le_of_ble_eq_true rfl)) ((g2k.2 c3).2 c4)))))))))))))))))))) (H.2 c1)))))))
theorem s219_72 {sc : cmS} {d : Nat} {h : cmH} {Q : Option Value → cmH → Prop} (x1 : Int32) (x2 : Int32) (x3 : Int32) (x4 : Int32) (x5 : Int32) (x6 : Int32) (sx0 : Int32) (H : (((¬ sx0 = 0) → cm_wp sc d 219 77 [some (.ref 38), some (.int x1), some (.int x2), some (.int x3), some (.int x4), some (.int x5), some (.int x6)] [] h Q) ∧ (¬ (¬ sx0 = 0) → Q (some (.int (0 : Int32))) h))) : cm_wp sc d 219 72 [some (.ref 38), some (.int x1), some (.int x2), some (.int x3), some (.int x4), some (.int x5), some (.int x6)] [.int sx0] h Q :=
  wl_cb (b := ¬ sx0 = 0) (off := 5) (tgt := 77) (pc3 := 75) (st' := []) d219_72 rfl rfl rfl rfl (by decide) rfl (fun c1 => (H.1 c1)) (fun c1 => wl_ic (v := 0) d219_75 rfl (wl_rz d219_76 rfl (by decide) (H.2 c1)))
theorem s219_77 {sc : cmS} {d : Nat} {h : cmH} {Q : Option Value → cmH → Prop} (x1 : Int32) (x2 : Int32) (x3 : Int32) (x4 : Int32) (x5 : Int32) (x6 : Int32) (H : cm_wp sc d 219 24 [some (.ref 38), some (.int x1), some (.int x2), some (.int x3), some (.int x4), some (.int x5), some (.int (x6 + 1))] [] h Q) : cm_wp sc d 219 77 [some (.ref 38), some (.int x1), some (.int x2), some (.int x3), some (.int x4), some (.int x5), some (.int x6)] [] h Q :=
  wl_st (ls' := [some (.ref 38), some (.int x1), some (.int x2), some (.int x3), some (.int x4), some (.int x5), some (.int (x6 + 1))]) d219_77 rfl rfl rfl rfl (wl_go (tgt := 24) d219_80 (by decide) (H))
-- ClogHouseModel.barred(III)I
theorem d220_0 : decode (cm_M 220).2.2.1 0 = .ok (.aload_n 0, 1) := by decide +kernel
theorem d220_1 : decode (cm_M 220).2.2.1 1 = .ok (.iload_n 1, 1) := by decide +kernel
theorem d220_2 : decode (cm_M 220).2.2.1 2 = .ok (.iload_n 2, 1) := by decide +kernel
theorem d220_3 : decode (cm_M 220).2.2.1 3 = .ok (.iload_n 3, 1) := by decide +kernel
theorem d220_4 : decode (cm_M 220).2.2.1 4 = .ok (.invokevirtual 400, 3) := by decide +kernel
theorem d220_7 : decode (cm_M 220).2.2.1 7 = .ok (.ifCond .ne 5, 3) := by decide +kernel
theorem d220_10 : decode (cm_M 220).2.2.1 10 = .ok (.iconst (-1), 1) := by decide +kernel
theorem d220_11 : decode (cm_M 220).2.2.1 11 = .ok (.ireturn, 1) := by decide +kernel
theorem d220_12 : decode (cm_M 220).2.2.1 12 = .ok (.iconst 0, 1) := by decide +kernel
theorem d220_13 : decode (cm_M 220).2.2.1 13 = .ok (.istore 4, 2) := by decide +kernel
theorem d220_15 : decode (cm_M 220).2.2.1 15 = .ok (.iload 4, 2) := by decide +kernel
theorem d220_17 : decode (cm_M 220).2.2.1 17 = .ok (.aload_n 0, 1) := by decide +kernel
theorem d220_18 : decode (cm_M 220).2.2.1 18 = .ok (.getfield 393, 3) := by decide +kernel
theorem d220_21 : decode (cm_M 220).2.2.1 21 = .ok (.if_icmp .ge 59, 3) := by decide +kernel
theorem d220_24 : decode (cm_M 220).2.2.1 24 = .ok (.aload_n 0, 1) := by decide +kernel
theorem d220_25 : decode (cm_M 220).2.2.1 25 = .ok (.getfield 145, 3) := by decide +kernel
theorem d220_28 : decode (cm_M 220).2.2.1 28 = .ok (.iload 4, 2) := by decide +kernel
theorem d220_30 : decode (cm_M 220).2.2.1 30 = .ok (.iaload, 1) := by decide +kernel
theorem d220_31 : decode (cm_M 220).2.2.1 31 = .ok (.bipush 10, 2) := by decide +kernel
theorem d220_33 : decode (cm_M 220).2.2.1 33 = .ok (.iload_n 1, 1) := by decide +kernel
theorem d220_34 : decode (cm_M 220).2.2.1 34 = .ok (.imul, 1) := by decide +kernel
theorem d220_35 : decode (cm_M 220).2.2.1 35 = .ok (.iload_n 2, 1) := by decide +kernel
theorem d220_36 : decode (cm_M 220).2.2.1 36 = .ok (.iadd, 1) := by decide +kernel
theorem d220_37 : decode (cm_M 220).2.2.1 37 = .ok (.if_icmp .ne 37, 3) := by decide +kernel
theorem d220_40 : decode (cm_M 220).2.2.1 40 = .ok (.aload_n 0, 1) := by decide +kernel
theorem d220_41 : decode (cm_M 220).2.2.1 41 = .ok (.getfield 154, 3) := by decide +kernel
theorem d220_44 : decode (cm_M 220).2.2.1 44 = .ok (.iload 4, 2) := by decide +kernel
theorem d220_46 : decode (cm_M 220).2.2.1 46 = .ok (.iaload, 1) := by decide +kernel
theorem d220_47 : decode (cm_M 220).2.2.1 47 = .ok (.iload_n 3, 1) := by decide +kernel
theorem d220_48 : decode (cm_M 220).2.2.1 48 = .ok (.if_icmp .gt 26, 3) := by decide +kernel
theorem d220_51 : decode (cm_M 220).2.2.1 51 = .ok (.aload_n 0, 1) := by decide +kernel
theorem d220_52 : decode (cm_M 220).2.2.1 52 = .ok (.bipush 10, 2) := by decide +kernel
theorem d220_54 : decode (cm_M 220).2.2.1 54 = .ok (.iload_n 1, 1) := by decide +kernel
theorem d220_55 : decode (cm_M 220).2.2.1 55 = .ok (.imul, 1) := by decide +kernel
theorem d220_56 : decode (cm_M 220).2.2.1 56 = .ok (.iload_n 2, 1) := by decide +kernel
theorem d220_57 : decode (cm_M 220).2.2.1 57 = .ok (.iadd, 1) := by decide +kernel
theorem d220_58 : decode (cm_M 220).2.2.1 58 = .ok (.iload_n 3, 1) := by decide +kernel
theorem d220_59 : decode (cm_M 220).2.2.1 59 = .ok (.iload 4, 2) := by decide +kernel
theorem d220_61 : decode (cm_M 220).2.2.1 61 = .ok (.iconst 1, 1) := by decide +kernel
theorem d220_62 : decode (cm_M 220).2.2.1 62 = .ok (.iadd, 1) := by decide +kernel
theorem d220_63 : decode (cm_M 220).2.2.1 63 = .ok (.iconst 0, 1) := by decide +kernel
theorem d220_64 : decode (cm_M 220).2.2.1 64 = .ok (.invokevirtual 403, 3) := by decide +kernel
theorem d220_67 : decode (cm_M 220).2.2.1 67 = .ok (.iconst (-1), 1) := by decide +kernel
theorem d220_68 : decode (cm_M 220).2.2.1 68 = .ok (.if_icmp .ne 6, 3) := by decide +kernel
theorem d220_71 : decode (cm_M 220).2.2.1 71 = .ok (.iload 4, 2) := by decide +kernel
theorem d220_73 : decode (cm_M 220).2.2.1 73 = .ok (.ireturn, 1) := by decide +kernel
theorem d220_74 : decode (cm_M 220).2.2.1 74 = .ok (.iinc 4 1, 3) := by decide +kernel
theorem d220_77 : decode (cm_M 220).2.2.1 77 = .ok (.goto (-62), 3) := by decide +kernel
theorem d220_80 : decode (cm_M 220).2.2.1 80 = .ok (.iconst (-1), 1) := by decide +kernel
theorem d220_81 : decode (cm_M 220).2.2.1 81 = .ok (.ireturn, 1) := by decide +kernel
theorem s220_0 {sc : cmS} {d : Nat} {h : cmH} {Q : Option Value → cmH → Prop} (L : LY h) (x1 : Int32) (x2 : Int32) (x3 : Int32) (u4 : Option Value) (H : cm_ci sc d 217 [.ref 38, .int x1, .int x2, .int x3] h (fun r h' => cm_wp sc (d + 1) 220 7 [some (.ref 38), some (.int x1), some (.int x2), some (.int x3), u4] [.int r] h' Q)) : cm_wp sc (d + 1) 220 0 [some (.ref 38), some (.int x1), some (.int x2), some (.int x3), u4] [] h Q :=
  wl_st d220_0 rfl rfl rfl rfl (wl_st d220_1 rfl rfl rfl rfl (wl_st d220_2 rfl rfl rfl rfl (wl_st d220_3 rfl rfl rfl rfl (wl_ci d220_4 rfl rfl rfl pm11_400 (by decide) (ca_v (Or.inl rfl) rfl (Nat.le_of_ble_eq_true rfl) (Nat.le_of_ble_eq_true rfl) (ly_k L 38 rfl).2 (ly_k L 38 rfl).1 (by decide)) H))))
theorem s220_7 {sc : cmS} {d : Nat} {h : cmH} {Q : Option Value → cmH → Prop} (x1 : Int32) (x2 : Int32) (x3 : Int32) (u4 : Option Value) (sx0 : Int32) (H : (((¬ sx0 = 0) → cm_wp sc d 220 15 [some (.ref 38), some (.int x1), some (.int x2), some (.int x3), some (.int (0 : Int32))] [] h Q) ∧ (¬ (¬ sx0 = 0) → Q (some (.int (-1 : Int32))) h))) : cm_wp sc d 220 7 [some (.ref 38), some (.int x1), some (.int x2), some (.int x3), u4] [.int sx0] h Q :=
  wl_cb (b := ¬ sx0 = 0) (off := 5) (tgt := 12) (pc3 := 10) (st' := []) d220_7 rfl rfl rfl rfl (by decide) rfl (fun c1 => wl_ic (v := 0) d220_12 rfl (wl_st (ls' := [some (.ref 38), some (.int x1), some (.int x2), some (.int x3), some (.int (0 : Int32))]) d220_13 rfl rfl rfl rfl ((H.1 c1)))) (fun c1 => wl_ic (v := (-1)) d220_10 rfl (wl_rt d220_11 rfl rfl rfl (H.2 c1)))
theorem s220_15 {sc : cmS} {d : Nat} {h : cmH} {Q : Option Value → cmH → Prop} (L : LY h) (x1 : Int32) (x2 : Int32) (x3 : Int32) (x4 : Int32) (H : ((((cm_I h 38 62) ≤ x4) → Q (some (.int (-1 : Int32))) h) ∧ (¬ ((cm_I h 38 62) ≤ x4) → (IX 100 x4) ∧ (((¬ (cm_I h 83 x4.toNatClampNeg) = (((10 : Int32) * x1) + x2)) → cm_wp sc (d + 1) 220 74 [some (.ref 38), some (.int x1), some (.int x2), some (.int x3), some (.int x4)] [] h Q) ∧ (¬ (¬ (cm_I h 83 x4.toNatClampNeg) = (((10 : Int32) * x1) + x2)) → (((x3 < (cm_I h 86 x4.toNatClampNeg)) → cm_wp sc (d + 1) 220 74 [some (.ref 38), some (.int x1), some (.int x2), some (.int x3), some (.int x4)] [] h Q) ∧ (¬ (x3 < (cm_I h 86 x4.toNatClampNeg)) → cm_ci sc d 218 [.ref 38, .int (((10 : Int32) * x1) + x2), .int x3, .int (x4 + (1 : Int32)), .int (0 : Int32)] h (fun r h' => cm_wp sc (d + 1) 220 67 [some (.ref 38), some (.int x1), some (.int x2), some (.int x3), some (.int x4)] [.int r] h' Q)))))))) : cm_wp sc (d + 1) 220 15 [some (.ref 38), some (.int x1), some (.int x2), some (.int x3), some (.int x4)] [] h Q :=
  wl_st d220_15 rfl rfl rfl rfl (wl_st d220_17 rfl rfl rfl rfl (wl_gf (v := .int (cm_I h 38 62)) d220_18 pf11_393 (ly_k L 38 rfl) rfl (wl_cb (b := (cm_I h 38 62) ≤ x4) (off := 59) (tgt := 80) (pc3 := 24) (st' := []) d220_21 rfl rfl rfl rfl (by decide) rfl (fun c1 => wl_ic (v := (-1)) d220_80 rfl (wl_rt d220_81 rfl rfl rfl (H.1 c1))) (fun c1 => wl_st d220_24 rfl rfl rfl rfl (wl_gr (b := 83) d220_25 pf11_145 (ly_k L 38 rfl) rfl (ly_r L 38 58 rfl) (wl_st d220_28 rfl rfl rfl rfl (And.elim (fun g2 g2k => wl_if (g := cm_ok h 13 83 x4) (st' := [.int (cm_I h 83 x4.toNatClampNeg)]) d220_30 rfl rfl rfl rfl (ly_o L 83 rfl g2) (wl_bi (v := 10) d220_31 rfl (wl_st d220_33 rfl rfl rfl rfl (wl_st d220_34 rfl rfl rfl rfl (wl_st d220_35 rfl rfl rfl rfl (wl_st d220_36 rfl rfl rfl rfl (wl_cb (b := ¬ (cm_I h 83 x4.toNatClampNeg) = (((10 : Int32) * x1) + x2)) (off := 37) (tgt := 74) (pc3 := 40) (st' := []) d220_37 rfl rfl rfl rfl (by decide) rfl (fun c3 => (g2k.1 c3)) (fun c3 => wl_st d220_40 rfl rfl rfl rfl (wl_gr (b := 86) d220_41 pf11_154 (ly_k L 38 rfl) rfl (ly_r L 38 61 rfl) (wl_st d220_44 rfl rfl rfl rfl (wl_if (g := cm_ok h 13 86 x4) (st' := [.int (cm_I h 86 x4.toNatClampNeg)]) d220_46 rfl rfl rfl rfl (ly_o L 86 rfl g2) (wl_st d220_47 rfl rfl rfl rfl (wl_cb (b := x3 < (cm_I h 86 x4.toNatClampNeg)) (off := 26) (tgt := 74) (pc3 := 51) (st' := []) d220_48 rfl rfl rfl rfl (by decide) rfl (fun c4 => ((g2k.2 c3).1 c4)) (fun c4 => wl_st d220_51 rfl rfl rfl rfl (wl_bi (v := 10) d220_52 rfl (wl_st d220_54 rfl rfl rfl rfl (wl_st d220_55 rfl rfl rfl rfl (wl_st d220_56 rfl rfl rfl rfl (wl_st d220_57 rfl rfl rfl rfl (wl_st d220_58 rfl rfl rfl rfl (wl_st d220_59 rfl rfl rfl rfl (wl_ic (v := 1) d220_61 rfl (wl_st d220_62 rfl rfl rfl rfl (wl_ic (v := 0) d220_63 rfl (wl_ci d220_64 rfl rfl rfl pm11_403 (by decide) (ca_v (Or.inl rfl) rfl (Nat.le_of_ble_eq_true rfl) (Nat.le_of_ble_eq_true rfl) (ly_k L 38 rfl).2 (ly_k L 38 rfl).1 (by decide)) ((g2k.2 c3).2 c4)))))))))))))))))))))))))) (H.2 c1))))))))
theorem s220_67 {sc : cmS} {d : Nat} {h : cmH} {Q : Option Value → cmH → Prop} (x1 : Int32) (x2 : Int32) (x3 : Int32) (x4 : Int32) (sx0 : Int32) (H : (((¬ sx0 = (-1 : Int32)) → cm_wp sc d 220 74 [some (.ref 38), some (.int x1), some (.int x2), some (.int x3), some (.int x4)] [] h Q) ∧ (¬ (¬ sx0 = (-1 : Int32)) → Q (some (.int x4)) h))) : cm_wp sc d 220 67 [some (.ref 38), some (.int x1), some (.int x2), some (.int x3), some (.int x4)] [.int sx0] h Q :=
  wl_ic (v := (-1)) d220_67 rfl (wl_cb (b := ¬ sx0 = (-1 : Int32)) (off := 6) (tgt := 74) (pc3 := 71) (st' := []) d220_68 rfl rfl rfl rfl (by decide) rfl (fun c1 => (H.1 c1)) (fun c1 => wl_st d220_71 rfl rfl rfl rfl (wl_rt d220_73 rfl rfl rfl (H.2 c1))))
theorem s220_74 {sc : cmS} {d : Nat} {h : cmH} {Q : Option Value → cmH → Prop} (x1 : Int32) (x2 : Int32) (x3 : Int32) (x4 : Int32) (H : cm_wp sc d 220 15 [some (.ref 38), some (.int x1), some (.int x2), some (.int x3), some (.int (x4 + 1))] [] h Q) : cm_wp sc d 220 74 [some (.ref 38), some (.int x1), some (.int x2), some (.int x3), some (.int x4)] [] h Q :=
  wl_st (ls' := [some (.ref 38), some (.int x1), some (.int x2), some (.int x3), some (.int (x4 + 1))]) d220_74 rfl rfl rfl rfl (wl_go (tgt := 15) d220_77 (by decide) (H))
-- ClogHouseModel.count(I)I
theorem d221_0 : decode (cm_M 221).2.2.1 0 = .ok (.iconst 0, 1) := by decide +kernel
theorem d221_1 : decode (cm_M 221).2.2.1 1 = .ok (.istore_n 2, 1) := by decide +kernel
theorem d221_2 : decode (cm_M 221).2.2.1 2 = .ok (.iconst 0, 1) := by decide +kernel
theorem d221_3 : decode (cm_M 221).2.2.1 3 = .ok (.istore_n 3, 1) := by decide +kernel
theorem d221_4 : decode (cm_M 221).2.2.1 4 = .ok (.iconst 0, 1) := by decide +kernel
theorem d221_5 : decode (cm_M 221).2.2.1 5 = .ok (.istore 4, 2) := by decide +kernel
theorem d221_7 : decode (cm_M 221).2.2.1 7 = .ok (.iconst 0, 1) := by decide +kernel
theorem d221_8 : decode (cm_M 221).2.2.1 8 = .ok (.istore 5, 2) := by decide +kernel
theorem d221_10 : decode (cm_M 221).2.2.1 10 = .ok (.iload 5, 2) := by decide +kernel
theorem d221_12 : decode (cm_M 221).2.2.1 12 = .ok (.aload_n 0, 1) := by decide +kernel
theorem d221_13 : decode (cm_M 221).2.2.1 13 = .ok (.getfield 165, 3) := by decide +kernel
theorem d221_16 : decode (cm_M 221).2.2.1 16 = .ok (.if_icmp .ge 67, 3) := by decide +kernel
theorem d221_19 : decode (cm_M 221).2.2.1 19 = .ok (.iload_n 2, 1) := by decide +kernel
theorem d221_20 : decode (cm_M 221).2.2.1 20 = .ok (.aload_n 0, 1) := by decide +kernel
theorem d221_21 : decode (cm_M 221).2.2.1 21 = .ok (.getfield 70, 3) := by decide +kernel
theorem d221_24 : decode (cm_M 221).2.2.1 24 = .ok (.iload 5, 2) := by decide +kernel
theorem d221_26 : decode (cm_M 221).2.2.1 26 = .ok (.baload, 1) := by decide +kernel
theorem d221_27 : decode (cm_M 221).2.2.1 27 = .ok (.ifCond .eq 7, 3) := by decide +kernel
theorem d221_30 : decode (cm_M 221).2.2.1 30 = .ok (.iconst 1, 1) := by decide +kernel
theorem d221_31 : decode (cm_M 221).2.2.1 31 = .ok (.goto 4, 3) := by decide +kernel
theorem d221_34 : decode (cm_M 221).2.2.1 34 = .ok (.iconst 0, 1) := by decide +kernel
theorem d221_35 : decode (cm_M 221).2.2.1 35 = .ok (.iadd, 1) := by decide +kernel
theorem d221_36 : decode (cm_M 221).2.2.1 36 = .ok (.istore_n 2, 1) := by decide +kernel
theorem d221_37 : decode (cm_M 221).2.2.1 37 = .ok (.iload_n 3, 1) := by decide +kernel
theorem d221_38 : decode (cm_M 221).2.2.1 38 = .ok (.aload_n 0, 1) := by decide +kernel
theorem d221_39 : decode (cm_M 221).2.2.1 39 = .ok (.getfield 49, 3) := by decide +kernel
theorem d221_42 : decode (cm_M 221).2.2.1 42 = .ok (.iload 5, 2) := by decide +kernel
theorem d221_44 : decode (cm_M 221).2.2.1 44 = .ok (.iaload, 1) := by decide +kernel
theorem d221_45 : decode (cm_M 221).2.2.1 45 = .ok (.iconst 4, 1) := by decide +kernel
theorem d221_46 : decode (cm_M 221).2.2.1 46 = .ok (.if_icmp .ne 7, 3) := by decide +kernel
theorem d221_49 : decode (cm_M 221).2.2.1 49 = .ok (.iconst 1, 1) := by decide +kernel
theorem d221_50 : decode (cm_M 221).2.2.1 50 = .ok (.goto 4, 3) := by decide +kernel
theorem d221_53 : decode (cm_M 221).2.2.1 53 = .ok (.iconst 0, 1) := by decide +kernel
theorem d221_54 : decode (cm_M 221).2.2.1 54 = .ok (.iadd, 1) := by decide +kernel
theorem d221_55 : decode (cm_M 221).2.2.1 55 = .ok (.istore_n 3, 1) := by decide +kernel
theorem d221_56 : decode (cm_M 221).2.2.1 56 = .ok (.iload 4, 2) := by decide +kernel
theorem d221_58 : decode (cm_M 221).2.2.1 58 = .ok (.aload_n 0, 1) := by decide +kernel
theorem d221_59 : decode (cm_M 221).2.2.1 59 = .ok (.getfield 49, 3) := by decide +kernel
theorem d221_62 : decode (cm_M 221).2.2.1 62 = .ok (.iload 5, 2) := by decide +kernel
theorem d221_64 : decode (cm_M 221).2.2.1 64 = .ok (.iaload, 1) := by decide +kernel
theorem d221_65 : decode (cm_M 221).2.2.1 65 = .ok (.iconst 5, 1) := by decide +kernel
theorem d221_66 : decode (cm_M 221).2.2.1 66 = .ok (.if_icmp .ne 7, 3) := by decide +kernel
theorem d221_69 : decode (cm_M 221).2.2.1 69 = .ok (.iconst 1, 1) := by decide +kernel
theorem d221_70 : decode (cm_M 221).2.2.1 70 = .ok (.goto 4, 3) := by decide +kernel
theorem d221_73 : decode (cm_M 221).2.2.1 73 = .ok (.iconst 0, 1) := by decide +kernel
theorem d221_74 : decode (cm_M 221).2.2.1 74 = .ok (.iadd, 1) := by decide +kernel
theorem d221_75 : decode (cm_M 221).2.2.1 75 = .ok (.istore 4, 2) := by decide +kernel
theorem d221_77 : decode (cm_M 221).2.2.1 77 = .ok (.iinc 5 1, 3) := by decide +kernel
theorem d221_80 : decode (cm_M 221).2.2.1 80 = .ok (.goto (-70), 3) := by decide +kernel
theorem d221_83 : decode (cm_M 221).2.2.1 83 = .ok (.iload_n 1, 1) := by decide +kernel
theorem d221_84 : decode (cm_M 221).2.2.1 84 = .ok (.tableswitch 98 0 9 #[56, 61, 66, 68, 70, 73, 78, 83, 88, 93], 56) := by decide +kernel
theorem d221_140 : decode (cm_M 221).2.2.1 140 = .ok (.aload_n 0, 1) := by decide +kernel
theorem d221_141 : decode (cm_M 221).2.2.1 141 = .ok (.getfield 330, 3) := by decide +kernel
theorem d221_144 : decode (cm_M 221).2.2.1 144 = .ok (.ireturn, 1) := by decide +kernel
theorem d221_145 : decode (cm_M 221).2.2.1 145 = .ok (.aload_n 0, 1) := by decide +kernel
theorem d221_146 : decode (cm_M 221).2.2.1 146 = .ok (.getfield 165, 3) := by decide +kernel
theorem d221_149 : decode (cm_M 221).2.2.1 149 = .ok (.ireturn, 1) := by decide +kernel
theorem d221_150 : decode (cm_M 221).2.2.1 150 = .ok (.iload_n 2, 1) := by decide +kernel
theorem d221_151 : decode (cm_M 221).2.2.1 151 = .ok (.ireturn, 1) := by decide +kernel
theorem d221_152 : decode (cm_M 221).2.2.1 152 = .ok (.iload_n 3, 1) := by decide +kernel
theorem d221_153 : decode (cm_M 221).2.2.1 153 = .ok (.ireturn, 1) := by decide +kernel
theorem d221_154 : decode (cm_M 221).2.2.1 154 = .ok (.iload 4, 2) := by decide +kernel
theorem d221_156 : decode (cm_M 221).2.2.1 156 = .ok (.ireturn, 1) := by decide +kernel
theorem d221_157 : decode (cm_M 221).2.2.1 157 = .ok (.aload_n 0, 1) := by decide +kernel
theorem d221_158 : decode (cm_M 221).2.2.1 158 = .ok (.getfield 290, 3) := by decide +kernel
theorem d221_161 : decode (cm_M 221).2.2.1 161 = .ok (.ireturn, 1) := by decide +kernel
theorem d221_162 : decode (cm_M 221).2.2.1 162 = .ok (.aload_n 0, 1) := by decide +kernel
theorem d221_163 : decode (cm_M 221).2.2.1 163 = .ok (.getfield 375, 3) := by decide +kernel
theorem d221_166 : decode (cm_M 221).2.2.1 166 = .ok (.ireturn, 1) := by decide +kernel
theorem d221_167 : decode (cm_M 221).2.2.1 167 = .ok (.aload_n 0, 1) := by decide +kernel
theorem d221_168 : decode (cm_M 221).2.2.1 168 = .ok (.getfield 393, 3) := by decide +kernel
theorem d221_171 : decode (cm_M 221).2.2.1 171 = .ok (.ireturn, 1) := by decide +kernel
theorem d221_172 : decode (cm_M 221).2.2.1 172 = .ok (.aload_n 0, 1) := by decide +kernel
theorem d221_173 : decode (cm_M 221).2.2.1 173 = .ok (.getfield 217, 3) := by decide +kernel
theorem d221_176 : decode (cm_M 221).2.2.1 176 = .ok (.ireturn, 1) := by decide +kernel
theorem d221_177 : decode (cm_M 221).2.2.1 177 = .ok (.aload_n 0, 1) := by decide +kernel
theorem d221_178 : decode (cm_M 221).2.2.1 178 = .ok (.getfield 319, 3) := by decide +kernel
theorem d221_181 : decode (cm_M 221).2.2.1 181 = .ok (.ireturn, 1) := by decide +kernel
theorem d221_182 : decode (cm_M 221).2.2.1 182 = .ok (.iconst (-1), 1) := by decide +kernel
theorem d221_183 : decode (cm_M 221).2.2.1 183 = .ok (.ireturn, 1) := by decide +kernel
theorem s221_0 {sc : cmS} {d : Nat} {h : cmH} {Q : Option Value → cmH → Prop} (x1 : Int32) (u2 : Option Value) (u3 : Option Value) (u4 : Option Value) (u5 : Option Value) (H : cm_wp sc d 221 10 [some (.ref 38), some (.int x1), some (.int (0 : Int32)), some (.int (0 : Int32)), some (.int (0 : Int32)), some (.int (0 : Int32))] [] h Q) : cm_wp sc d 221 0 [some (.ref 38), some (.int x1), u2, u3, u4, u5] [] h Q :=
  wl_ic (v := 0) d221_0 rfl (wl_st (ls' := [some (.ref 38), some (.int x1), some (.int (0 : Int32)), u3, u4, u5]) d221_1 rfl rfl rfl rfl (wl_ic (v := 0) d221_2 rfl (wl_st (ls' := [some (.ref 38), some (.int x1), some (.int (0 : Int32)), some (.int (0 : Int32)), u4, u5]) d221_3 rfl rfl rfl rfl (wl_ic (v := 0) d221_4 rfl (wl_st (ls' := [some (.ref 38), some (.int x1), some (.int (0 : Int32)), some (.int (0 : Int32)), some (.int (0 : Int32)), u5]) d221_5 rfl rfl rfl rfl (wl_ic (v := 0) d221_7 rfl (wl_st (ls' := [some (.ref 38), some (.int x1), some (.int (0 : Int32)), some (.int (0 : Int32)), some (.int (0 : Int32)), some (.int (0 : Int32))]) d221_8 rfl rfl rfl rfl (H))))))))
theorem s221_10 {sc : cmS} {d : Nat} {h : cmH} {Q : Option Value → cmH → Prop} (L : LY h) (x1 : Int32) (x2 : Int32) (x3 : Int32) (x4 : Int32) (x5 : Int32) (H : ((((cm_I h 38 24) ≤ x5) → ((x1 = 0 → Q (some (.int (cm_I h 38 0))) h) ∧ (x1 = 1 → Q (some (.int (cm_I h 38 24))) h) ∧ (x1 = 2 → Q (some (.int x2)) h) ∧ (x1 = 3 → Q (some (.int x3)) h) ∧ (x1 = 4 → Q (some (.int x4)) h) ∧ (x1 = 5 → Q (some (.int (cm_I h 38 34))) h) ∧ (x1 = 6 → Q (some (.int (cm_I h 38 53))) h) ∧ (x1 = 7 → Q (some (.int (cm_I h 38 62))) h) ∧ (x1 = 8 → Q (some (.int (cm_I h 38 29))) h) ∧ (x1 = 9 → Q (some (.int (cm_I h 38 48))) h) ∧ (¬ x1 = 0 → ¬ x1 = 1 → ¬ x1 = 2 → ¬ x1 = 3 → ¬ x1 = 4 → ¬ x1 = 5 → ¬ x1 = 6 → ¬ x1 = 7 → ¬ x1 = 8 → ¬ x1 = 9 → Q (some (.int (-1 : Int32))) h))) ∧ (¬ ((cm_I h 38 24) ≤ x5) → (IX 9 x5) ∧ ((((cm_I h 59 x5.toNatClampNeg) = 0) → cm_wp sc d 221 35 [some (.ref 38), some (.int x1), some (.int x2), some (.int x3), some (.int x4), some (.int x5)] [.int (0 : Int32), .int x2] h Q) ∧ (¬ ((cm_I h 59 x5.toNatClampNeg) = 0) → cm_wp sc d 221 35 [some (.ref 38), some (.int x1), some (.int x2), some (.int x3), some (.int x4), some (.int x5)] [.int (1 : Int32), .int x2] h Q))))) : cm_wp sc d 221 10 [some (.ref 38), some (.int x1), some (.int x2), some (.int x3), some (.int x4), some (.int x5)] [] h Q :=
  wl_st d221_10 rfl rfl rfl rfl (wl_st d221_12 rfl rfl rfl rfl (wl_gf (v := .int (cm_I h 38 24)) d221_13 pf11_165 (ly_k L 38 rfl) rfl (wl_cb (b := (cm_I h 38 24) ≤ x5) (off := 67) (tgt := 83) (pc3 := 19) (st' := []) d221_16 rfl rfl rfl rfl (by decide) rfl (fun c1 => wl_st d221_83 rfl rfl rfl rfl ((if c4 : x1 = 0 then wl_tsI (v := 0) (tgt := 140) d221_84 c4 rfl (by decide) (by decide) (by decide) (wl_st d221_140 rfl rfl rfl rfl (wl_gf (v := .int (cm_I h 38 0)) d221_141 pf11_330 (ly_k L 38 rfl) rfl (wl_rt d221_144 rfl rfl rfl ((H.1 c1).1 c4)))) else (if c5 : x1 = 1 then wl_tsI (v := 1) (tgt := 145) d221_84 c5 rfl (by decide) (by decide) (by decide) (wl_st d221_145 rfl rfl rfl rfl (wl_gf (v := .int (cm_I h 38 24)) d221_146 pf11_165 (ly_k L 38 rfl) rfl (wl_rt d221_149 rfl rfl rfl ((H.1 c1).2.1 c5)))) else (if c6 : x1 = 2 then wl_tsI (v := 2) (tgt := 150) d221_84 c6 rfl (by decide) (by decide) (by decide) (wl_st d221_150 rfl rfl rfl rfl (wl_rt d221_151 rfl rfl rfl ((H.1 c1).2.2.1 c6))) else (if c7 : x1 = 3 then wl_tsI (v := 3) (tgt := 152) d221_84 c7 rfl (by decide) (by decide) (by decide) (wl_st d221_152 rfl rfl rfl rfl (wl_rt d221_153 rfl rfl rfl ((H.1 c1).2.2.2.1 c7))) else (if c8 : x1 = 4 then wl_tsI (v := 4) (tgt := 154) d221_84 c8 rfl (by decide) (by decide) (by decide) (wl_st d221_154 rfl rfl rfl rfl (wl_rt d221_156 rfl rfl rfl ((H.1 c1).2.2.2.2.1 c8))) else (if c9 : x1 = 5 then wl_tsI (v := 5) (tgt := 157) d221_84 c9 rfl (by decide) (by decide) (by decide) (wl_st d221_157 rfl rfl rfl rfl (wl_gf (v := .int (cm_I h 38 34)) d221_158 pf11_290 (ly_k L 38 rfl) rfl (wl_rt d221_161 rfl rfl rfl ((H.1 c1).2.2.2.2.2.1 c9)))) else (if c10 : x1 = 6 then wl_tsI (v := 6) (tgt := 162) d221_84 c10 rfl (by decide) (by decide) (by decide) (wl_st d221_162 rfl rfl rfl rfl (wl_gf (v := .int (cm_I h 38 53)) d221_163 pf11_375 (ly_k L 38 rfl) rfl (wl_rt d221_166 rfl rfl rfl ((H.1 c1).2.2.2.2.2.2.1 c10)))) else (if c11 : x1 = 7 then wl_tsI (v := 7) (tgt := 167) d221_84 c11 rfl (by decide) (by decide) (by decide) (wl_st d221_167 rfl rfl rfl rfl (wl_gf (v := .int (cm_I h 38 62)) d221_168 pf11_393 (ly_k L 38 rfl) rfl (wl_rt d221_171 rfl rfl rfl ((H.1 c1).2.2.2.2.2.2.2.1 c11)))) else (if c12 : x1 = 8 then wl_tsI (v := 8) (tgt := 172) d221_84 c12 rfl (by decide) (by decide) (by decide) (wl_st d221_172 rfl rfl rfl rfl (wl_gf (v := .int (cm_I h 38 29)) d221_173 pf11_217 (ly_k L 38 rfl) rfl (wl_rt d221_176 rfl rfl rfl ((H.1 c1).2.2.2.2.2.2.2.2.1 c12)))) else (if c13 : x1 = 9 then wl_tsI (v := 9) (tgt := 177) d221_84 c13 rfl (by decide) (by decide) (by decide) (wl_st d221_177 rfl rfl rfl rfl (wl_gf (v := .int (cm_I h 38 48)) d221_178 pf11_319 (ly_k L 38 rfl) rfl (wl_rt d221_181 rfl rfl rfl ((H.1 c1).2.2.2.2.2.2.2.2.2.1 c13)))) else wl_tsO (tgt := 182) d221_84 (by rcases (by omega : (x1).toInt < 0 ∨ 9 < (x1).toInt ∨ (x1).toInt = 0 ∨ (x1).toInt = 1 ∨ (x1).toInt = 2 ∨ (x1).toInt = 3 ∨ (x1).toInt = 4 ∨ (x1).toInt = 5 ∨ (x1).toInt = 6 ∨ (x1).toInt = 7 ∨ (x1).toInt = 8 ∨ (x1).toInt = 9) with qq | qq | qq | qq | qq | qq | qq | qq | qq | qq | qq | qq <;> first | exact Or.inl qq | exact Or.inr qq | exact absurd (Int32.toInt_inj.mp qq) c4 | exact absurd (Int32.toInt_inj.mp qq) c5 | exact absurd (Int32.toInt_inj.mp qq) c6 | exact absurd (Int32.toInt_inj.mp qq) c7 | exact absurd (Int32.toInt_inj.mp qq) c8 | exact absurd (Int32.toInt_inj.mp qq) c9 | exact absurd (Int32.toInt_inj.mp qq) c10 | exact absurd (Int32.toInt_inj.mp qq) c11 | exact absurd (Int32.toInt_inj.mp qq) c12 | exact absurd (Int32.toInt_inj.mp qq) c13) (by decide) (wl_ic (v := (-1)) d221_182 rfl (wl_rt d221_183 rfl rfl rfl ((H.1 c1).2.2.2.2.2.2.2.2.2.2 c4 c5 c6 c7 c8 c9 c10 c11 c12 c13))))))))))))))) (fun c1 => wl_st d221_19 rfl rfl rfl rfl (wl_st d221_20 rfl rfl rfl rfl (wl_gr (b := 59) d221_21 pf11_70 (ly_k L 38 rfl) rfl (ly_r L 38 22 rfl) (wl_st d221_24 rfl rfl rfl rfl (And.elim (fun g2 g2k => wl_if (g := cm_ok h 15 59 x5) (st' := [.int (cm_I h 59 x5.toNatClampNeg), .int x2]) d221_26 rfl rfl rfl rfl (ly_o L 59 rfl g2) (wl_cb (b := (cm_I h 59 x5.toNatClampNeg) = 0) (off := 7) (tgt := 34) (pc3 := 30) (st' := [.int x2]) d221_27 rfl rfl rfl rfl (by decide) rfl (fun c3 => wl_ic (v := 0) d221_34 rfl ((g2k.1 c3))) (fun c3 => wl_ic (v := 1) d221_30 rfl (wl_go (tgt := 35) d221_31 (by decide) ((g2k.2 c3)))))) (H.2 c1)))))))))
theorem s221_35 {sc : cmS} {d : Nat} {h : cmH} {Q : Option Value → cmH → Prop} (L : LY h) (x1 : Int32) (x2 : Int32) (x3 : Int32) (x4 : Int32) (x5 : Int32) (sx0 : Int32) (sx1 : Int32) (H : (IX 9 x5) ∧ (((¬ (cm_I h 52 x5.toNatClampNeg) = (4 : Int32)) → cm_wp sc d 221 54 [some (.ref 38), some (.int x1), some (.int (sx1 + sx0)), some (.int x3), some (.int x4), some (.int x5)] [.int (0 : Int32), .int x3] h Q) ∧ (¬ (¬ (cm_I h 52 x5.toNatClampNeg) = (4 : Int32)) → cm_wp sc d 221 54 [some (.ref 38), some (.int x1), some (.int (sx1 + sx0)), some (.int x3), some (.int x4), some (.int x5)] [.int (1 : Int32), .int x3] h Q))) : cm_wp sc d 221 35 [some (.ref 38), some (.int x1), some (.int x2), some (.int x3), some (.int x4), some (.int x5)] [.int sx0, .int sx1] h Q :=
  wl_st d221_35 rfl rfl rfl rfl (wl_st (ls' := [some (.ref 38), some (.int x1), some (.int (sx1 + sx0)), some (.int x3), some (.int x4), some (.int x5)]) d221_36 rfl rfl rfl rfl (wl_st d221_37 rfl rfl rfl rfl (wl_st d221_38 rfl rfl rfl rfl (wl_gr (b := 52) d221_39 pf11_49 (ly_k L 38 rfl) rfl (ly_r L 38 15 rfl) (wl_st d221_42 rfl rfl rfl rfl (And.elim (fun g1 g1k => wl_if (g := cm_ok h 13 52 x5) (st' := [.int (cm_I h 52 x5.toNatClampNeg), .int x3]) d221_44 rfl rfl rfl rfl (ly_o L 52 rfl g1) (wl_ic (v := 4) d221_45 rfl (wl_cb (b := ¬ (cm_I h 52 x5.toNatClampNeg) = (4 : Int32)) (off := 7) (tgt := 53) (pc3 := 49) (st' := [.int x3]) d221_46 rfl rfl rfl rfl (by decide) rfl (fun c2 => wl_ic (v := 0) d221_53 rfl ((g1k.1 c2))) (fun c2 => wl_ic (v := 1) d221_49 rfl (wl_go (tgt := 54) d221_50 (by decide) ((g1k.2 c2))))))) H))))))
theorem s221_54 {sc : cmS} {d : Nat} {h : cmH} {Q : Option Value → cmH → Prop} (L : LY h) (x1 : Int32) (x2 : Int32) (x3 : Int32) (x4 : Int32) (x5 : Int32) (sx0 : Int32) (sx1 : Int32) (H : (IX 9 x5) ∧ (((¬ (cm_I h 52 x5.toNatClampNeg) = (5 : Int32)) → cm_wp sc d 221 74 [some (.ref 38), some (.int x1), some (.int x2), some (.int (sx1 + sx0)), some (.int x4), some (.int x5)] [.int (0 : Int32), .int x4] h Q) ∧ (¬ (¬ (cm_I h 52 x5.toNatClampNeg) = (5 : Int32)) → cm_wp sc d 221 74 [some (.ref 38), some (.int x1), some (.int x2), some (.int (sx1 + sx0)), some (.int x4), some (.int x5)] [.int (1 : Int32), .int x4] h Q))) : cm_wp sc d 221 54 [some (.ref 38), some (.int x1), some (.int x2), some (.int x3), some (.int x4), some (.int x5)] [.int sx0, .int sx1] h Q :=
  wl_st d221_54 rfl rfl rfl rfl (wl_st (ls' := [some (.ref 38), some (.int x1), some (.int x2), some (.int (sx1 + sx0)), some (.int x4), some (.int x5)]) d221_55 rfl rfl rfl rfl (wl_st d221_56 rfl rfl rfl rfl (wl_st d221_58 rfl rfl rfl rfl (wl_gr (b := 52) d221_59 pf11_49 (ly_k L 38 rfl) rfl (ly_r L 38 15 rfl) (wl_st d221_62 rfl rfl rfl rfl (And.elim (fun g1 g1k => wl_if (g := cm_ok h 13 52 x5) (st' := [.int (cm_I h 52 x5.toNatClampNeg), .int x4]) d221_64 rfl rfl rfl rfl (ly_o L 52 rfl g1) (wl_ic (v := 5) d221_65 rfl (wl_cb (b := ¬ (cm_I h 52 x5.toNatClampNeg) = (5 : Int32)) (off := 7) (tgt := 73) (pc3 := 69) (st' := [.int x4]) d221_66 rfl rfl rfl rfl (by decide) rfl (fun c2 => wl_ic (v := 0) d221_73 rfl ((g1k.1 c2))) (fun c2 => wl_ic (v := 1) d221_69 rfl (wl_go (tgt := 74) d221_70 (by decide) ((g1k.2 c2))))))) H))))))
theorem s221_74 {sc : cmS} {d : Nat} {h : cmH} {Q : Option Value → cmH → Prop} (x1 : Int32) (x2 : Int32) (x3 : Int32) (x4 : Int32) (x5 : Int32) (sx0 : Int32) (sx1 : Int32) (H : cm_wp sc d 221 10 [some (.ref 38), some (.int x1), some (.int x2), some (.int x3), some (.int (sx1 + sx0)), some (.int (x5 + 1))] [] h Q) : cm_wp sc d 221 74 [some (.ref 38), some (.int x1), some (.int x2), some (.int x3), some (.int x4), some (.int x5)] [.int sx0, .int sx1] h Q :=
  wl_st d221_74 rfl rfl rfl rfl (wl_st (ls' := [some (.ref 38), some (.int x1), some (.int x2), some (.int x3), some (.int (sx1 + sx0)), some (.int x5)]) d221_75 rfl rfl rfl rfl (wl_st (ls' := [some (.ref 38), some (.int x1), some (.int x2), some (.int x3), some (.int (sx1 + sx0)), some (.int (x5 + 1))]) d221_77 rfl rfl rfl rfl (wl_go (tgt := 10) d221_80 (by decide) (H))))
