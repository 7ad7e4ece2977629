-- ClogHouseModel.fault()I
theorem d157_0 : decode (cm_M 157).2.2.1 0 = .ok (.aload_n 0, 1) := by decide +kernel
theorem d157_1 : decode (cm_M 157).2.2.1 1 = .ok (.iconst 0, 1) := by decide +kernel
theorem d157_2 : decode (cm_M 157).2.2.1 2 = .ok (.putfield 220, 3) := by decide +kernel
theorem d157_5 : decode (cm_M 157).2.2.1 5 = .ok (.aload_n 0, 1) := by decide +kernel
theorem d157_6 : decode (cm_M 157).2.2.1 6 = .ok (.iconst (-1), 1) := by decide +kernel
theorem d157_7 : decode (cm_M 157).2.2.1 7 = .ok (.putfield 223, 3) := by decide +kernel
theorem d157_10 : decode (cm_M 157).2.2.1 10 = .ok (.aload_n 0, 1) := by decide +kernel
theorem d157_11 : decode (cm_M 157).2.2.1 11 = .ok (.iconst 0, 1) := by decide +kernel
theorem d157_12 : decode (cm_M 157).2.2.1 12 = .ok (.putfield 229, 3) := by decide +kernel
theorem d157_15 : decode (cm_M 157).2.2.1 15 = .ok (.aload_n 0, 1) := by decide +kernel
theorem d157_16 : decode (cm_M 157).2.2.1 16 = .ok (.iconst 0, 1) := by decide +kernel
theorem d157_17 : decode (cm_M 157).2.2.1 17 = .ok (.putfield 226, 3) := by decide +kernel
theorem d157_20 : decode (cm_M 157).2.2.1 20 = .ok (.aload_n 0, 1) := by decide +kernel
theorem d157_21 : decode (cm_M 157).2.2.1 21 = .ok (.invokevirtual 287, 3) := by decide +kernel
theorem d157_24 : decode (cm_M 157).2.2.1 24 = .ok (.aload_n 0, 1) := by decide +kernel
theorem d157_25 : decode (cm_M 157).2.2.1 25 = .ok (.getfield 223, 3) := by decide +kernel
theorem d157_28 : decode (cm_M 157).2.2.1 28 = .ok (.iconst (-1), 1) := by decide +kernel
theorem d157_29 : decode (cm_M 157).2.2.1 29 = .ok (.if_icmp .ne 29, 3) := by decide +kernel
theorem d157_32 : decode (cm_M 157).2.2.1 32 = .ok (.aload_n 0, 1) := by decide +kernel
theorem d157_33 : decode (cm_M 157).2.2.1 33 = .ok (.invokevirtual 235, 3) := by decide +kernel
theorem d157_36 : decode (cm_M 157).2.2.1 36 = .ok (.bipush 59, 2) := by decide +kernel
theorem d157_38 : decode (cm_M 157).2.2.1 38 = .ok (.if_icmp .ne 20, 3) := by decide +kernel
theorem d157_41 : decode (cm_M 157).2.2.1 41 = .ok (.aload_n 0, 1) := by decide +kernel
theorem d157_42 : decode (cm_M 157).2.2.1 42 = .ok (.dup, 1) := by decide +kernel
theorem d157_43 : decode (cm_M 157).2.2.1 43 = .ok (.getfield 220, 3) := by decide +kernel
theorem d157_46 : decode (cm_M 157).2.2.1 46 = .ok (.iconst 1, 1) := by decide +kernel
theorem d157_47 : decode (cm_M 157).2.2.1 47 = .ok (.iadd, 1) := by decide +kernel
theorem d157_48 : decode (cm_M 157).2.2.1 48 = .ok (.putfield 220, 3) := by decide +kernel
theorem d157_51 : decode (cm_M 157).2.2.1 51 = .ok (.aload_n 0, 1) := by decide +kernel
theorem d157_52 : decode (cm_M 157).2.2.1 52 = .ok (.invokevirtual 287, 3) := by decide +kernel
theorem d157_55 : decode (cm_M 157).2.2.1 55 = .ok (.goto (-31), 3) := by decide +kernel
theorem d157_58 : decode (cm_M 157).2.2.1 58 = .ok (.aload_n 0, 1) := by decide +kernel
theorem d157_59 : decode (cm_M 157).2.2.1 59 = .ok (.getfield 223, 3) := by decide +kernel
theorem d157_62 : decode (cm_M 157).2.2.1 62 = .ok (.iconst (-1), 1) := by decide +kernel
theorem d157_63 : decode (cm_M 157).2.2.1 63 = .ok (.if_icmp .ne 15, 3) := by decide +kernel
theorem d157_66 : decode (cm_M 157).2.2.1 66 = .ok (.aload_n 0, 1) := by decide +kernel
theorem d157_67 : decode (cm_M 157).2.2.1 67 = .ok (.invokevirtual 235, 3) := by decide +kernel
theorem d157_70 : decode (cm_M 157).2.2.1 70 = .ok (.iconst (-1), 1) := by decide +kernel
theorem d157_71 : decode (cm_M 157).2.2.1 71 = .ok (.if_icmp .eq 7, 3) := by decide +kernel
theorem d157_74 : decode (cm_M 157).2.2.1 74 = .ok (.aload_n 0, 1) := by decide +kernel
theorem d157_75 : decode (cm_M 157).2.2.1 75 = .ok (.invokevirtual 232, 3) := by decide +kernel
theorem d157_78 : decode (cm_M 157).2.2.1 78 = .ok (.aload_n 0, 1) := by decide +kernel
theorem d157_79 : decode (cm_M 157).2.2.1 79 = .ok (.getfield 223, 3) := by decide +kernel
theorem d157_82 : decode (cm_M 157).2.2.1 82 = .ok (.ireturn, 1) := by decide +kernel
theorem s157_0 {sc : cmS} {d : Nat} {h : cmH} {Q : Option Value → cmH → Prop} (L : LY h)  (H : cm_cv sc d 158 [.ref 38] (cm_setI (cm_setI (cm_setI (cm_setI h 38 30 (0 : Int32)) 38 31 (-1 : Int32)) 38 32 (0 : Int32)) 38 33 (0 : Int32)) (fun h' => cm_wp sc (d + 1) 157 24 [some (.ref 38)] [] h' Q)) : cm_wp sc (d + 1) 157 0 [some (.ref 38)] [] h Q :=
  wl_st d157_0 rfl rfl rfl rfl (wl_ic (v := 0) d157_1 rfl (wl_pf (h' := (cm_setI h 38 30 (0 : Int32))) d157_2 pf11_220 (ly_k L 38 rfl) (Or.inl rfl) rfl (wl_st d157_5 rfl rfl rfl rfl (wl_ic (v := (-1)) d157_6 rfl (wl_pf (h' := (cm_setI (cm_setI h 38 30 (0 : Int32)) 38 31 (-1 : Int32))) d157_7 pf11_223 (ly_k L 38 rfl) (Or.inl rfl) rfl (wl_st d157_10 rfl rfl rfl rfl (wl_ic (v := 0) d157_11 rfl (wl_pf (h' := (cm_setI (cm_setI (cm_setI h 38 30 (0 : Int32)) 38 31 (-1 : Int32)) 38 32 (0 : Int32))) d157_12 pf11_229 (ly_k L 38 rfl) (Or.inl rfl) rfl (wl_st d157_15 rfl rfl rfl rfl (wl_ic (v := 0) d157_16 rfl (wl_pf (h' := (cm_setI (cm_setI (cm_setI (cm_setI h 38 30 (0 : Int32)) 38 31 (-1 : Int32)) 38 32 (0 : Int32)) 38 33 (0 : Int32))) d157_17 pf11_226 (ly_k L 38 rfl) (Or.inl rfl) rfl (wl_st d157_20 rfl rfl rfl rfl (wl_cv d157_21 rfl rfl rfl pm11_287 (by decide) (ca_v (Or.inl rfl) rfl (Nat.le_of_ble_eq_true rfl) (Nat.le_of_ble_eq_true rfl) (ly_k L 38 rfl).2 (ly_k L 38 rfl).1 (by decide)) H)))))))))))))
theorem s157_24 {sc : cmS} {d : Nat} {h : cmH} {Q : Option Value → cmH → Prop} (L : LY h)  (H : (((¬ (cm_I h 38 31) = (-1 : Int32)) → cm_wp sc (d + 1) 157 58 [some (.ref 38)] [] h Q) ∧ (¬ (¬ (cm_I h 38 31) = (-1 : Int32)) → cm_ci sc d 159 [.ref 38] h (fun r h' => cm_wp sc (d + 1) 157 36 [some (.ref 38)] [.int r] h' Q)))) : cm_wp sc (d + 1) 157 24 [some (.ref 38)] [] h Q :=
  wl_st d157_24 rfl rfl rfl rfl (wl_gf (v := .int (cm_I h 38 31)) d157_25 pf11_223 (ly_k L 38 rfl) rfl (wl_ic (v := (-1)) d157_28 rfl (wl_cb (b := ¬ (cm_I h 38 31) = (-1 : Int32)) (off := 29) (tgt := 58) (pc3 := 32) (st' := []) d157_29 rfl rfl rfl rfl (by decide) rfl (fun c1 => (H.1 c1)) (fun c1 => wl_st d157_32 rfl rfl rfl rfl (wl_ci d157_33 rfl rfl rfl pm11_235 (by decide) (ca_v (Or.inl rfl) rfl (Nat.le_of_ble_eq_true rfl) (Nat.le_of_ble_eq_true rfl) (ly_k L 38 rfl).2 (ly_k L 38 rfl).1 (by decide)) (H.2 c1))))))
theorem s157_36 {sc : cmS} {d : Nat} {h : cmH} {Q : Option Value → cmH → Prop} (L : LY h) (sx0 : Int32) (H : (((¬ sx0 = (59 : Int32)) → cm_wp sc (d + 1) 157 58 [some (.ref 38)] [] h Q) ∧ (¬ (¬ sx0 = (59 : Int32)) → cm_cv sc d 158 [.ref 38] (cm_setI h 38 30 ((cm_I h 38 30) + (1 : Int32))) (fun h' => cm_wp sc (d + 1) 157 55 [some (.ref 38)] [] h' Q)))) : cm_wp sc (d + 1) 157 36 [some (.ref 38)] [.int sx0] h Q :=
  wl_bi (v := 59) d157_36 rfl (wl_cb (b := ¬ sx0 = (59 : Int32)) (off := 20) (tgt := 58) (pc3 := 41) (st' := []) d157_38 rfl rfl rfl rfl (by decide) rfl (fun c1 => (H.1 c1)) (fun c1 => wl_st d157_41 rfl rfl rfl rfl (wl_st d157_42 rfl rfl rfl rfl (wl_gf (v := .int (cm_I h 38 30)) d157_43 pf11_220 (ly_k L 38 rfl) rfl (wl_ic (v := 1) d157_46 rfl (wl_st d157_47 rfl rfl rfl rfl (wl_pf (h' := (cm_setI h 38 30 ((cm_I h 38 30) + (1 : Int32)))) d157_48 pf11_220 (ly_k L 38 rfl) (Or.inl rfl) rfl (wl_st d157_51 rfl rfl rfl rfl (wl_cv d157_52 rfl rfl rfl pm11_287 (by decide) (ca_v (Or.inl rfl) rfl (Nat.le_of_ble_eq_true rfl) (Nat.le_of_ble_eq_true rfl) (ly_k L 38 rfl).2 (ly_k L 38 rfl).1 (by decide)) (H.2 c1))))))))))
theorem s157_55 {sc : cmS} {d : Nat} {h : cmH} {Q : Option Value → cmH → Prop}  (H : cm_wp sc d 157 24 [some (.ref 38)] [] h Q) : cm_wp sc d 157 55 [some (.ref 38)] [] h Q :=
  wl_go (tgt := 24) d157_55 (by decide) (H)
theorem s157_58 {sc : cmS} {d : Nat} {h : cmH} {Q : Option Value → cmH → Prop} (L : LY h)  (H : (((¬ (cm_I h 38 31) = (-1 : Int32)) → cm_wp sc (d + 1) 157 78 [some (.ref 38)] [] h Q) ∧ (¬ (¬ (cm_I h 38 31) = (-1 : Int32)) → cm_ci sc d 159 [.ref 38] h (fun r h' => cm_wp sc (d + 1) 157 70 [some (.ref 38)] [.int r] h' Q)))) : cm_wp sc (d + 1) 157 58 [some (.ref 38)] [] h Q :=
  wl_st d157_58 rfl rfl rfl rfl (wl_gf (v := .int (cm_I h 38 31)) d157_59 pf11_223 (ly_k L 38 rfl) rfl (wl_ic (v := (-1)) d157_62 rfl (wl_cb (b := ¬ (cm_I h 38 31) = (-1 : Int32)) (off := 15) (tgt := 78) (pc3 := 66) (st' := []) d157_63 rfl rfl rfl rfl (by decide) rfl (fun c1 => (H.1 c1)) (fun c1 => wl_st d157_66 rfl rfl rfl rfl (wl_ci d157_67 rfl rfl rfl pm11_235 (by decide) (ca_v (Or.inl rfl) rfl (Nat.le_of_ble_eq_true rfl) (Nat.le_of_ble_eq_true rfl) (ly_k L 38 rfl).2 (ly_k L 38 rfl).1 (by decide)) (H.2 c1))))))
theorem s157_70 {sc : cmS} {d : Nat} {h : cmH} {Q : Option Value → cmH → Prop} (L : LY h) (sx0 : Int32) (H : (((sx0 = (-1 : Int32)) → cm_wp sc (d + 1) 157 78 [some (.ref 38)] [] h Q) ∧ (¬ (sx0 = (-1 : Int32)) → cm_cv sc d 161 [.ref 38] h (fun h' => cm_wp sc (d + 1) 157 78 [some (.ref 38)] [] h' Q)))) : cm_wp sc (d + 1) 157 70 [some (.ref 38)] [.int sx0] h Q :=
  wl_ic (v := (-1)) d157_70 rfl (wl_cb (b := sx0 = (-1 : Int32)) (off := 7) (tgt := 78) (pc3 := 74) (st' := []) d157_71 rfl rfl rfl rfl (by decide) rfl (fun c1 => (H.1 c1)) (fun c1 => wl_st d157_74 rfl rfl rfl rfl (wl_cv d157_75 rfl rfl rfl pm11_232 (by decide) (ca_v (Or.inl rfl) rfl (Nat.le_of_ble_eq_true rfl) (Nat.le_of_ble_eq_true rfl) (ly_k L 38 rfl).2 (ly_k L 38 rfl).1 (by decide)) (H.2 c1))))
theorem s157_78 {sc : cmS} {d : Nat} {h : cmH} {Q : Option Value → cmH → Prop} (L : LY h)  (H : Q (some (.int (cm_I h 38 31))) h) : cm_wp sc d 157 78 [some (.ref 38)] [] h Q :=
  wl_st d157_78 rfl rfl rfl rfl (wl_gf (v := .int (cm_I h 38 31)) d157_79 pf11_223 (ly_k L 38 rfl) rfl (wl_rt d157_82 rfl rfl rfl H))
-- ClogHouseModel.clause()V
theorem d158_0 : decode (cm_M 158).2.2.1 0 = .ok (.aload_n 0, 1) := by decide +kernel
theorem d158_1 : decode (cm_M 158).2.2.1 1 = .ok (.invokevirtual 235, 3) := by decide +kernel
theorem d158_4 : decode (cm_M 158).2.2.1 4 = .ok (.istore_n 1, 1) := by decide +kernel
theorem d158_5 : decode (cm_M 158).2.2.1 5 = .ok (.iload_n 1, 1) := by decide +kernel
theorem d158_6 : decode (cm_M 158).2.2.1 6 = .ok (.invokestatic 284, 3) := by decide +kernel
theorem d158_9 : decode (cm_M 158).2.2.1 9 = .ok (.ifCond .ne 8, 3) := by decide +kernel
theorem d158_12 : decode (cm_M 158).2.2.1 12 = .ok (.aload_n 0, 1) := by decide +kernel
theorem d158_13 : decode (cm_M 158).2.2.1 13 = .ok (.invokevirtual 232, 3) := by decide +kernel
theorem d158_16 : decode (cm_M 158).2.2.1 16 = .ok (.return_, 1) := by decide +kernel
theorem d158_17 : decode (cm_M 158).2.2.1 17 = .ok (.aload_n 0, 1) := by decide +kernel
theorem d158_18 : decode (cm_M 158).2.2.1 18 = .ok (.dup, 1) := by decide +kernel
theorem d158_19 : decode (cm_M 158).2.2.1 19 = .ok (.getfield 220, 3) := by decide +kernel
theorem d158_22 : decode (cm_M 158).2.2.1 22 = .ok (.iconst 1, 1) := by decide +kernel
theorem d158_23 : decode (cm_M 158).2.2.1 23 = .ok (.iadd, 1) := by decide +kernel
theorem d158_24 : decode (cm_M 158).2.2.1 24 = .ok (.putfield 220, 3) := by decide +kernel
theorem d158_27 : decode (cm_M 158).2.2.1 27 = .ok (.aload_n 0, 1) := by decide +kernel
theorem d158_28 : decode (cm_M 158).2.2.1 28 = .ok (.invokevirtual 235, 3) := by decide +kernel
theorem d158_31 : decode (cm_M 158).2.2.1 31 = .ok (.bipush 58, 2) := by decide +kernel
theorem d158_33 : decode (cm_M 158).2.2.1 33 = .ok (.if_icmp .eq 8, 3) := by decide +kernel
theorem d158_36 : decode (cm_M 158).2.2.1 36 = .ok (.aload_n 0, 1) := by decide +kernel
theorem d158_37 : decode (cm_M 158).2.2.1 37 = .ok (.invokevirtual 232, 3) := by decide +kernel
theorem d158_40 : decode (cm_M 158).2.2.1 40 = .ok (.return_, 1) := by decide +kernel
theorem d158_41 : decode (cm_M 158).2.2.1 41 = .ok (.aload_n 0, 1) := by decide +kernel
theorem d158_42 : decode (cm_M 158).2.2.1 42 = .ok (.dup, 1) := by decide +kernel
theorem d158_43 : decode (cm_M 158).2.2.1 43 = .ok (.getfield 220, 3) := by decide +kernel
theorem d158_46 : decode (cm_M 158).2.2.1 46 = .ok (.iconst 1, 1) := by decide +kernel
theorem d158_47 : decode (cm_M 158).2.2.1 47 = .ok (.iadd, 1) := by decide +kernel
theorem d158_48 : decode (cm_M 158).2.2.1 48 = .ok (.putfield 220, 3) := by decide +kernel
theorem d158_51 : decode (cm_M 158).2.2.1 51 = .ok (.aload_n 0, 1) := by decide +kernel
theorem d158_52 : decode (cm_M 158).2.2.1 52 = .ok (.iload_n 1, 1) := by decide +kernel
theorem d158_53 : decode (cm_M 158).2.2.1 53 = .ok (.invokevirtual 242, 3) := by decide +kernel
theorem d158_56 : decode (cm_M 158).2.2.1 56 = .ok (.aload_n 0, 1) := by decide +kernel
theorem d158_57 : decode (cm_M 158).2.2.1 57 = .ok (.invokevirtual 235, 3) := by decide +kernel
theorem d158_60 : decode (cm_M 158).2.2.1 60 = .ok (.istore_n 2, 1) := by decide +kernel
theorem d158_61 : decode (cm_M 158).2.2.1 61 = .ok (.iload_n 2, 1) := by decide +kernel
theorem d158_62 : decode (cm_M 158).2.2.1 62 = .ok (.bipush 33, 2) := by decide +kernel
theorem d158_64 : decode (cm_M 158).2.2.1 64 = .ok (.if_icmp .eq 13, 3) := by decide +kernel
theorem d158_67 : decode (cm_M 158).2.2.1 67 = .ok (.iload_n 2, 1) := by decide +kernel
theorem d158_68 : decode (cm_M 158).2.2.1 68 = .ok (.bipush 40, 2) := by decide +kernel
theorem d158_70 : decode (cm_M 158).2.2.1 70 = .ok (.if_icmp .eq 7, 3) := by decide +kernel
theorem d158_73 : decode (cm_M 158).2.2.1 73 = .ok (.iconst 1, 1) := by decide +kernel
theorem d158_74 : decode (cm_M 158).2.2.1 74 = .ok (.goto 4, 3) := by decide +kernel
theorem d158_77 : decode (cm_M 158).2.2.1 77 = .ok (.iconst 0, 1) := by decide +kernel
theorem d158_78 : decode (cm_M 158).2.2.1 78 = .ok (.istore_n 3, 1) := by decide +kernel
theorem d158_79 : decode (cm_M 158).2.2.1 79 = .ok (.aload_n 0, 1) := by decide +kernel
theorem d158_80 : decode (cm_M 158).2.2.1 80 = .ok (.getfield 226, 3) := by decide +kernel
theorem d158_83 : decode (cm_M 158).2.2.1 83 = .ok (.istore 4, 2) := by decide +kernel
theorem d158_85 : decode (cm_M 158).2.2.1 85 = .ok (.iload_n 3, 1) := by decide +kernel
theorem d158_86 : decode (cm_M 158).2.2.1 86 = .ok (.ifCond .eq 107, 3) := by decide +kernel
theorem d158_89 : decode (cm_M 158).2.2.1 89 = .ok (.aload_n 0, 1) := by decide +kernel
theorem d158_90 : decode (cm_M 158).2.2.1 90 = .ok (.invokevirtual 250, 3) := by decide +kernel
theorem d158_93 : decode (cm_M 158).2.2.1 93 = .ok (.aload_n 0, 1) := by decide +kernel
theorem d158_94 : decode (cm_M 158).2.2.1 94 = .ok (.getfield 223, 3) := by decide +kernel
theorem d158_97 : decode (cm_M 158).2.2.1 97 = .ok (.iconst (-1), 1) := by decide +kernel
theorem d158_98 : decode (cm_M 158).2.2.1 98 = .ok (.if_icmp .eq 4, 3) := by decide +kernel
theorem d158_101 : decode (cm_M 158).2.2.1 101 = .ok (.return_, 1) := by decide +kernel
theorem d158_102 : decode (cm_M 158).2.2.1 102 = .ok (.aload_n 0, 1) := by decide +kernel
theorem d158_103 : decode (cm_M 158).2.2.1 103 = .ok (.invokevirtual 235, 3) := by decide +kernel
theorem d158_106 : decode (cm_M 158).2.2.1 106 = .ok (.invokestatic 268, 3) := by decide +kernel
theorem d158_109 : decode (cm_M 158).2.2.1 109 = .ok (.ifCond .ne 84, 3) := by decide +kernel
theorem d158_112 : decode (cm_M 158).2.2.1 112 = .ok (.aload_n 0, 1) := by decide +kernel
theorem d158_113 : decode (cm_M 158).2.2.1 113 = .ok (.getfield 226, 3) := by decide +kernel
theorem d158_116 : decode (cm_M 158).2.2.1 116 = .ok (.iconst 1, 1) := by decide +kernel
theorem d158_117 : decode (cm_M 158).2.2.1 117 = .ok (.isub, 1) := by decide +kernel
theorem d158_118 : decode (cm_M 158).2.2.1 118 = .ok (.istore 5, 2) := by decide +kernel
theorem d158_120 : decode (cm_M 158).2.2.1 120 = .ok (.iload 5, 2) := by decide +kernel
theorem d158_122 : decode (cm_M 158).2.2.1 122 = .ok (.iload 4, 2) := by decide +kernel
theorem d158_124 : decode (cm_M 158).2.2.1 124 = .ok (.if_icmp .lt 25, 3) := by decide +kernel
theorem d158_127 : decode (cm_M 158).2.2.1 127 = .ok (.aload_n 0, 1) := by decide +kernel
theorem d158_128 : decode (cm_M 158).2.2.1 128 = .ok (.getfield 80, 3) := by decide +kernel
theorem d158_131 : decode (cm_M 158).2.2.1 131 = .ok (.iload 5, 2) := by decide +kernel
theorem d158_133 : decode (cm_M 158).2.2.1 133 = .ok (.iconst 3, 1) := by decide +kernel
theorem d158_134 : decode (cm_M 158).2.2.1 134 = .ok (.iadd, 1) := by decide +kernel
theorem d158_135 : decode (cm_M 158).2.2.1 135 = .ok (.aload_n 0, 1) := by decide +kernel
theorem d158_136 : decode (cm_M 158).2.2.1 136 = .ok (.getfield 80, 3) := by decide +kernel
theorem d158_139 : decode (cm_M 158).2.2.1 139 = .ok (.iload 5, 2) := by decide +kernel
theorem d158_141 : decode (cm_M 158).2.2.1 141 = .ok (.iaload, 1) := by decide +kernel
theorem d158_142 : decode (cm_M 158).2.2.1 142 = .ok (.iastore, 1) := by decide +kernel
theorem d158_143 : decode (cm_M 158).2.2.1 143 = .ok (.iinc 5 (-1), 3) := by decide +kernel
theorem d158_146 : decode (cm_M 158).2.2.1 146 = .ok (.goto (-26), 3) := by decide +kernel
theorem d158_149 : decode (cm_M 158).2.2.1 149 = .ok (.aload_n 0, 1) := by decide +kernel
theorem d158_150 : decode (cm_M 158).2.2.1 150 = .ok (.getfield 80, 3) := by decide +kernel
theorem d158_153 : decode (cm_M 158).2.2.1 153 = .ok (.iload 4, 2) := by decide +kernel
theorem d158_155 : decode (cm_M 158).2.2.1 155 = .ok (.iconst 0, 1) := by decide +kernel
theorem d158_156 : decode (cm_M 158).2.2.1 156 = .ok (.iastore, 1) := by decide +kernel
theorem d158_157 : decode (cm_M 158).2.2.1 157 = .ok (.aload_n 0, 1) := by decide +kernel
theorem d158_158 : decode (cm_M 158).2.2.1 158 = .ok (.getfield 80, 3) := by decide +kernel
theorem d158_161 : decode (cm_M 158).2.2.1 161 = .ok (.iload 4, 2) := by decide +kernel
theorem d158_163 : decode (cm_M 158).2.2.1 163 = .ok (.iconst 1, 1) := by decide +kernel
theorem d158_164 : decode (cm_M 158).2.2.1 164 = .ok (.iadd, 1) := by decide +kernel
theorem d158_165 : decode (cm_M 158).2.2.1 165 = .ok (.iconst 1, 1) := by decide +kernel
theorem d158_166 : decode (cm_M 158).2.2.1 166 = .ok (.iastore, 1) := by decide +kernel
theorem d158_167 : decode (cm_M 158).2.2.1 167 = .ok (.aload_n 0, 1) := by decide +kernel
theorem d158_168 : decode (cm_M 158).2.2.1 168 = .ok (.getfield 80, 3) := by decide +kernel
theorem d158_171 : decode (cm_M 158).2.2.1 171 = .ok (.iload 4, 2) := by decide +kernel
theorem d158_173 : decode (cm_M 158).2.2.1 173 = .ok (.iconst 2, 1) := by decide +kernel
theorem d158_174 : decode (cm_M 158).2.2.1 174 = .ok (.iadd, 1) := by decide +kernel
theorem d158_175 : decode (cm_M 158).2.2.1 175 = .ok (.iconst 2, 1) := by decide +kernel
theorem d158_176 : decode (cm_M 158).2.2.1 176 = .ok (.iastore, 1) := by decide +kernel
theorem d158_177 : decode (cm_M 158).2.2.1 177 = .ok (.aload_n 0, 1) := by decide +kernel
theorem d158_178 : decode (cm_M 158).2.2.1 178 = .ok (.dup, 1) := by decide +kernel
theorem d158_179 : decode (cm_M 158).2.2.1 179 = .ok (.getfield 226, 3) := by decide +kernel
theorem d158_182 : decode (cm_M 158).2.2.1 182 = .ok (.iconst 3, 1) := by decide +kernel
theorem d158_183 : decode (cm_M 158).2.2.1 183 = .ok (.iadd, 1) := by decide +kernel
theorem d158_184 : decode (cm_M 158).2.2.1 184 = .ok (.putfield 226, 3) := by decide +kernel
theorem d158_187 : decode (cm_M 158).2.2.1 187 = .ok (.aload_n 0, 1) := by decide +kernel
theorem d158_188 : decode (cm_M 158).2.2.1 188 = .ok (.iconst 3, 1) := by decide +kernel
theorem d158_189 : decode (cm_M 158).2.2.1 189 = .ok (.invokevirtual 242, 3) := by decide +kernel
theorem d158_192 : decode (cm_M 158).2.2.1 192 = .ok (.return_, 1) := by decide +kernel
theorem d158_193 : decode (cm_M 158).2.2.1 193 = .ok (.aload_n 0, 1) := by decide +kernel
theorem d158_194 : decode (cm_M 158).2.2.1 194 = .ok (.iload_n 3, 1) := by decide +kernel
theorem d158_195 : decode (cm_M 158).2.2.1 195 = .ok (.invokevirtual 274, 3) := by decide +kernel
theorem d158_198 : decode (cm_M 158).2.2.1 198 = .ok (.aload_n 0, 1) := by decide +kernel
theorem d158_199 : decode (cm_M 158).2.2.1 199 = .ok (.getfield 223, 3) := by decide +kernel
theorem d158_202 : decode (cm_M 158).2.2.1 202 = .ok (.iconst (-1), 1) := by decide +kernel
theorem d158_203 : decode (cm_M 158).2.2.1 203 = .ok (.if_icmp .ne 16, 3) := by decide +kernel
theorem d158_206 : decode (cm_M 158).2.2.1 206 = .ok (.aload_n 0, 1) := by decide +kernel
theorem d158_207 : decode (cm_M 158).2.2.1 207 = .ok (.invokevirtual 235, 3) := by decide +kernel
theorem d158_210 : decode (cm_M 158).2.2.1 210 = .ok (.bipush 63, 2) := by decide +kernel
theorem d158_212 : decode (cm_M 158).2.2.1 212 = .ok (.if_icmp .eq 7, 3) := by decide +kernel
theorem d158_215 : decode (cm_M 158).2.2.1 215 = .ok (.aload_n 0, 1) := by decide +kernel
theorem d158_216 : decode (cm_M 158).2.2.1 216 = .ok (.invokevirtual 232, 3) := by decide +kernel
theorem d158_219 : decode (cm_M 158).2.2.1 219 = .ok (.aload_n 0, 1) := by decide +kernel
theorem d158_220 : decode (cm_M 158).2.2.1 220 = .ok (.getfield 223, 3) := by decide +kernel
theorem d158_223 : decode (cm_M 158).2.2.1 223 = .ok (.iconst (-1), 1) := by decide +kernel
theorem d158_224 : decode (cm_M 158).2.2.1 224 = .ok (.if_icmp .eq 4, 3) := by decide +kernel
theorem d158_227 : decode (cm_M 158).2.2.1 227 = .ok (.return_, 1) := by decide +kernel
theorem d158_228 : decode (cm_M 158).2.2.1 228 = .ok (.aload_n 0, 1) := by decide +kernel
theorem d158_229 : decode (cm_M 158).2.2.1 229 = .ok (.dup, 1) := by decide +kernel
theorem d158_230 : decode (cm_M 158).2.2.1 230 = .ok (.getfield 220, 3) := by decide +kernel
theorem d158_233 : decode (cm_M 158).2.2.1 233 = .ok (.iconst 1, 1) := by decide +kernel
theorem d158_234 : decode (cm_M 158).2.2.1 234 = .ok (.iadd, 1) := by decide +kernel
theorem d158_235 : decode (cm_M 158).2.2.1 235 = .ok (.putfield 220, 3) := by decide +kernel
theorem d158_238 : decode (cm_M 158).2.2.1 238 = .ok (.aload_n 0, 1) := by decide +kernel
theorem d158_239 : decode (cm_M 158).2.2.1 239 = .ok (.iconst 2, 1) := by decide +kernel
theorem d158_240 : decode (cm_M 158).2.2.1 240 = .ok (.invokevirtual 242, 3) := by decide +kernel
theorem d158_243 : decode (cm_M 158).2.2.1 243 = .ok (.aload_n 0, 1) := by decide +kernel
theorem d158_244 : decode (cm_M 158).2.2.1 244 = .ok (.invokevirtual 250, 3) := by decide +kernel
theorem d158_247 : decode (cm_M 158).2.2.1 247 = .ok (.aload_n 0, 1) := by decide +kernel
theorem d158_248 : decode (cm_M 158).2.2.1 248 = .ok (.iconst 3, 1) := by decide +kernel
theorem d158_249 : decode (cm_M 158).2.2.1 249 = .ok (.invokevirtual 242, 3) := by decide +kernel
theorem d158_252 : decode (cm_M 158).2.2.1 252 = .ok (.return_, 1) := by decide +kernel
theorem s158_0 {sc : cmS} {d : Nat} {h : cmH} {Q : Option Value → cmH → Prop} (L : LY h) (u1 : Option Value) (u2 : Option Value) (u3 : Option Value) (u4 : Option Value) (u5 : Option Value) (H : cm_ci sc d 159 [.ref 38] h (fun r h' => cm_wp sc (d + 1) 158 4 [some (.ref 38), u1, u2, u3, u4, u5] [.int r] h' Q)) : cm_wp sc (d + 1) 158 0 [some (.ref 38), u1, u2, u3, u4, u5] [] h Q :=
  wl_st d158_0 rfl rfl rfl rfl (wl_ci d158_1 rfl rfl rfl pm11_235 (by decide) (ca_v (Or.inl rfl) rfl (Nat.le_of_ble_eq_true rfl) (Nat.le_of_ble_eq_true rfl) (ly_k L 38 rfl).2 (ly_k L 38 rfl).1 (by decide)) H)
theorem s158_4 {sc : cmS} {d : Nat} {h : cmH} {Q : Option Value → cmH → Prop} (u1 : Option Value) (u2 : Option Value) (u3 : Option Value) (u4 : Option Value) (u5 : Option Value) (sx0 : Int32) (H : cm_ci sc d 160 [.int sx0] h (fun r h' => cm_wp sc (d + 1) 158 9 [some (.ref 38), some (.int sx0), u2, u3, u4, u5] [.int r] h' Q)) : cm_wp sc (d + 1) 158 4 [some (.ref 38), u1, u2, u3, u4, u5] [.int sx0] h Q :=
  wl_st (ls' := [some (.ref 38), some (.int sx0), u2, u3, u4, u5]) d158_4 rfl rfl rfl rfl (wl_st d158_5 rfl rfl rfl rfl (wl_ci d158_6 rfl rfl rfl pm11_284 (by decide) (ca_s (Or.inl rfl) rfl (Nat.le_of_ble_eq_true rfl) (Nat.le_of_ble_eq_true rfl)) H))
theorem s158_9 {sc : cmS} {d : Nat} {h : cmH} {Q : Option Value → cmH → Prop} (L : LY h) (x1 : Int32) (u2 : Option Value) (u3 : Option Value) (u4 : Option Value) (u5 : Option Value) (sx0 : Int32) (H : (((¬ sx0 = 0) → cm_ci sc d 159 [.ref 38] (cm_setI h 38 30 ((cm_I h 38 30) + (1 : Int32))) (fun r h' => cm_wp sc (d + 1) 158 31 [some (.ref 38), some (.int x1), u2, u3, u4, u5] [.int r] h' Q)) ∧ (¬ (¬ sx0 = 0) → cm_cv sc d 161 [.ref 38] h (fun h' => cm_wp sc (d + 1) 158 16 [some (.ref 38), some (.int x1), u2, u3, u4, u5] [] h' Q)))) : cm_wp sc (d + 1) 158 9 [some (.ref 38), some (.int x1), u2, u3, u4, u5] [.int sx0] h Q :=
  wl_cb (b := ¬ sx0 = 0) (off := 8) (tgt := 17) (pc3 := 12) (st' := []) d158_9 rfl rfl rfl rfl (by decide) rfl (fun c1 => wl_st d158_17 rfl rfl rfl rfl (wl_st d158_18 rfl rfl rfl rfl (wl_gf (v := .int (cm_I h 38 30)) d158_19 pf11_220 (ly_k L 38 rfl) rfl (wl_ic (v := 1) d158_22 rfl (wl_st d158_23 rfl rfl rfl rfl (wl_pf (h' := (cm_setI h 38 30 ((cm_I h 38 30) + (1 : Int32)))) d158_24 pf11_220 (ly_k L 38 rfl) (Or.inl rfl) rfl (wl_st d158_27 rfl rfl rfl rfl (wl_ci d158_28 rfl rfl rfl pm11_235 (by decide) (ca_v (Or.inl rfl) rfl (Nat.le_of_ble_eq_true rfl) (Nat.le_of_ble_eq_true rfl) (ly_k L 38 rfl).2 (ly_k L 38 rfl).1 (by decide)) (H.1 c1))))))))) (fun c1 => wl_st d158_12 rfl rfl rfl rfl (wl_cv d158_13 rfl rfl rfl pm11_232 (by decide) (ca_v (Or.inl rfl) rfl (Nat.le_of_ble_eq_true rfl) (Nat.le_of_ble_eq_true rfl) (ly_k L 38 rfl).2 (ly_k L 38 rfl).1 (by decide)) (H.2 c1)))
theorem s158_16 {sc : cmS} {d : Nat} {h : cmH} {Q : Option Value → cmH → Prop} (x1 : Int32) (u2 : Option Value) (u3 : Option Value) (u4 : Option Value) (u5 : Option Value) (H : Q none h) : cm_wp sc d 158 16 [some (.ref 38), some (.int x1), u2, u3, u4, u5] [] h Q :=
  wl_rt d158_16 rfl rfl rfl H
theorem s158_31 {sc : cmS} {d : Nat} {h : cmH} {Q : Option Value → cmH → Prop} (L : LY h) (x1 : Int32) (u2 : Option Value) (u3 : Option Value) (u4 : Option Value) (u5 : Option Value) (sx0 : Int32) (H : (((sx0 = (58 : Int32)) → cm_cv sc d 162 [.ref 38, .int x1] (cm_setI h 38 30 ((cm_I h 38 30) + (1 : Int32))) (fun h' => cm_wp sc (d + 1) 158 56 [some (.ref 38), some (.int x1), u2, u3, u4, u5] [] h' Q)) ∧ (¬ (sx0 = (58 : Int32)) → cm_cv sc d 161 [.ref 38] h (fun h' => cm_wp sc (d + 1) 158 40 [some (.ref 38), some (.int x1), u2, u3, u4, u5] [] h' Q)))) : cm_wp sc (d + 1) 158 31 [some (.ref 38), some (.int x1), u2, u3, u4, u5] [.int sx0] h Q :=
  wl_bi (v := 58) d158_31 rfl (wl_cb (b := sx0 = (58 : Int32)) (off := 8) (tgt := 41) (pc3 := 36) (st' := []) d158_33 rfl rfl rfl rfl (by decide) rfl (fun c1 => wl_st d158_41 rfl rfl rfl rfl (wl_st d158_42 rfl rfl rfl rfl (wl_gf (v := .int (cm_I h 38 30)) d158_43 pf11_220 (ly_k L 38 rfl) rfl (wl_ic (v := 1) d158_46 rfl (wl_st d158_47 rfl rfl rfl rfl (wl_pf (h' := (cm_setI h 38 30 ((cm_I h 38 30) + (1 : Int32)))) d158_48 pf11_220 (ly_k L 38 rfl) (Or.inl rfl) rfl (wl_st d158_51 rfl rfl rfl rfl (wl_st d158_52 rfl rfl rfl rfl (wl_cv d158_53 rfl rfl rfl pm11_242 (by decide) (ca_v (Or.inl rfl) rfl (Nat.le_of_ble_eq_true rfl) (Nat.le_of_ble_eq_true rfl) (ly_k L 38 rfl).2 (ly_k L 38 rfl).1 (by decide)) (H.1 c1)))))))))) (fun c1 => wl_st d158_36 rfl rfl rfl rfl (wl_cv d158_37 rfl rfl rfl pm11_232 (by decide) (ca_v (Or.inl rfl) rfl (Nat.le_of_ble_eq_true rfl) (Nat.le_of_ble_eq_true rfl) (ly_k L 38 rfl).2 (ly_k L 38 rfl).1 (by decide)) (H.2 c1))))
theorem s158_40 {sc : cmS} {d : Nat} {h : cmH} {Q : Option Value → cmH → Prop} (x1 : Int32) (u2 : Option Value) (u3 : Option Value) (u4 : Option Value) (u5 : Option Value) (H : Q none h) : cm_wp sc d 158 40 [some (.ref 38), some (.int x1), u2, u3, u4, u5] [] h Q :=
  wl_rt d158_40 rfl rfl rfl H
theorem s158_56 {sc : cmS} {d : Nat} {h : cmH} {Q : Option Value → cmH → Prop} (L : LY h) (x1 : Int32) (u2 : Option Value) (u3 : Option Value) (u4 : Option Value) (u5 : Option Value) (H : cm_ci sc d 159 [.ref 38] h (fun r h' => cm_wp sc (d + 1) 158 60 [some (.ref 38), some (.int x1), u2, u3, u4, u5] [.int r] h' Q)) : cm_wp sc (d + 1) 158 56 [some (.ref 38), some (.int x1), u2, u3, u4, u5] [] h Q :=
  wl_st d158_56 rfl rfl rfl rfl (wl_ci d158_57 rfl rfl rfl pm11_235 (by decide) (ca_v (Or.inl rfl) rfl (Nat.le_of_ble_eq_true rfl) (Nat.le_of_ble_eq_true rfl) (ly_k L 38 rfl).2 (ly_k L 38 rfl).1 (by decide)) H)
theorem s158_60 {sc : cmS} {d : Nat} {h : cmH} {Q : Option Value → cmH → Prop} (x1 : Int32) (u2 : Option Value) (u3 : Option Value) (u4 : Option Value) (u5 : Option Value) (sx0 : Int32) (H : (((sx0 = (33 : Int32)) → cm_wp sc d 158 77 [some (.ref 38), some (.int x1), some (.int sx0), u3, u4, u5] [] h Q) ∧ (¬ (sx0 = (33 : Int32)) → (((sx0 = (40 : Int32)) → cm_wp sc d 158 77 [some (.ref 38), some (.int x1), some (.int sx0), u3, u4, u5] [] h Q) ∧ (¬ (sx0 = (40 : Int32)) → cm_wp sc d 158 78 [some (.ref 38), some (.int x1), some (.int sx0), u3, u4, u5] [.int (1 : Int32)] h Q))))) : cm_wp sc d 158 60 [some (.ref 38), some (.int x1), u2, u3, u4, u5] [.int sx0] h Q :=
  wl_st (ls' := [some (.ref 38), some (.int x1), some (.int sx0), u3, u4, u5]) d158_60 rfl rfl rfl rfl (wl_st d158_61 rfl rfl rfl rfl (wl_bi (v := 33) d158_62 rfl (wl_cb (b := sx0 = (33 : Int32)) (off := 13) (tgt := 77) (pc3 := 67) (st' := []) d158_64 rfl rfl rfl rfl (by decide) rfl (fun c1 => (H.1 c1)) (fun c1 => wl_st d158_67 rfl rfl rfl rfl (wl_bi (v := 40) d158_68 rfl (wl_cb (b := sx0 = (40 : Int32)) (off := 7) (tgt := 77) (pc3 := 73) (st' := []) d158_70 rfl rfl rfl rfl (by decide) rfl (fun c2 => ((H.2 c1).1 c2)) (fun c2 => wl_ic (v := 1) d158_73 rfl (wl_go (tgt := 78) d158_74 (by decide) (((H.2 c1).2 c2))))))))))
theorem s158_77 {sc : cmS} {d : Nat} {h : cmH} {Q : Option Value → cmH → Prop} (x1 : Int32) (x2 : Int32) (u3 : Option Value) (u4 : Option Value) (u5 : Option Value) (H : cm_wp sc d 158 78 [some (.ref 38), some (.int x1), some (.int x2), u3, u4, u5] [.int (0 : Int32)] h Q) : cm_wp sc d 158 77 [some (.ref 38), some (.int x1), some (.int x2), u3, u4, u5] [] h Q :=
  wl_ic (v := 0) d158_77 rfl (H)
theorem s158_78 {sc : cmS} {d : Nat} {h : cmH} {Q : Option Value → cmH → Prop} (L : LY h) (x1 : Int32) (x2 : Int32) (u3 : Option Value) (u4 : Option Value) (u5 : Option Value) (sx0 : Int32) (H : (((sx0 = 0) → cm_wp sc (d + 1) 158 193 [some (.ref 38), some (.int x1), some (.int x2), some (.int sx0), some (.int (cm_I h 38 33)), u5] [] h Q) ∧ (¬ (sx0 = 0) → cm_cv sc d 163 [.ref 38] h (fun h' => cm_wp sc (d + 1) 158 93 [some (.ref 38), some (.int x1), some (.int x2), some (.int sx0), some (.int (cm_I h 38 33)), u5] [] h' Q)))) : cm_wp sc (d + 1) 158 78 [some (.ref 38), some (.int x1), some (.int x2), u3, u4, u5] [.int sx0] h Q :=
  wl_st (ls' := [some (.ref 38), some (.int x1), some (.int x2), some (.int sx0), u4, u5]) d158_78 rfl rfl rfl rfl (wl_st d158_79 rfl rfl rfl rfl (wl_gf (v := .int (cm_I h 38 33)) d158_80 pf11_226 (ly_k L 38 rfl) rfl (wl_st (ls' := [some (.ref 38), some (.int x1), some (.int x2), some (.int sx0), some (.int (cm_I h 38 33)), u5]) d158_83 rfl rfl rfl rfl (wl_st d158_85 rfl rfl rfl rfl (wl_cb (b := sx0 = 0) (off := 107) (tgt := 193) (pc3 := 89) (st' := []) d158_86 rfl rfl rfl rfl (by decide) rfl (fun c1 => (H.1 c1)) (fun c1 => wl_st d158_89 rfl rfl rfl rfl (wl_cv d158_90 rfl rfl rfl pm11_250 (by decide) (ca_v (Or.inl rfl) rfl (Nat.le_of_ble_eq_true rfl) (Nat.le_of_ble_eq_true rfl) (ly_k L 38 rfl).2 (ly_k L 38 rfl).1 (by decide)) (H.2 c1))))))))
theorem s158_93 {sc : cmS} {d : Nat} {h : cmH} {Q : Option Value → cmH → Prop} (L : LY h) (x1 : Int32) (x2 : Int32) (x3 : Int32) (x4 : Int32) (u5 : Option Value) (H : ((((cm_I h 38 31) = (-1 : Int32)) → cm_ci sc d 159 [.ref 38] h (fun r h' => cm_wp sc (d + 1) 158 106 [some (.ref 38), some (.int x1), some (.int x2), some (.int x3), some (.int x4), u5] [.int r] h' Q)) ∧ (¬ ((cm_I h 38 31) = (-1 : Int32)) → Q none h))) : cm_wp sc (d + 1) 158 93 [some (.ref 38), some (.int x1), some (.int x2), some (.int x3), some (.int x4), u5] [] h Q :=
  wl_st d158_93 rfl rfl rfl rfl (wl_gf (v := .int (cm_I h 38 31)) d158_94 pf11_223 (ly_k L 38 rfl) rfl (wl_ic (v := (-1)) d158_97 rfl (wl_cb (b := (cm_I h 38 31) = (-1 : Int32)) (off := 4) (tgt := 102) (pc3 := 101) (st' := []) d158_98 rfl rfl rfl rfl (by decide) rfl (fun c1 => wl_st d158_102 rfl rfl rfl rfl (wl_ci d158_103 rfl rfl rfl pm11_235 (by decide) (ca_v (Or.inl rfl) rfl (Nat.le_of_ble_eq_true rfl) (Nat.le_of_ble_eq_true rfl) (ly_k L 38 rfl).2 (ly_k L 38 rfl).1 (by decide)) (H.1 c1))) (fun c1 => wl_rt d158_101 rfl rfl rfl (H.2 c1)))))
theorem s158_106 {sc : cmS} {d : Nat} {h : cmH} {Q : Option Value → cmH → Prop} (x1 : Int32) (x2 : Int32) (x3 : Int32) (x4 : Int32) (u5 : Option Value) (sx0 : Int32) (H : cm_ci sc d 171 [.int sx0] h (fun r h' => cm_wp sc (d + 1) 158 109 [some (.ref 38), some (.int x1), some (.int x2), some (.int x3), some (.int x4), u5] [.int r] h' Q)) : cm_wp sc (d + 1) 158 106 [some (.ref 38), some (.int x1), some (.int x2), some (.int x3), some (.int x4), u5] [.int sx0] h Q :=
  wl_ci d158_106 rfl rfl rfl pm11_268 (by decide) (ca_s (Or.inl rfl) rfl (Nat.le_of_ble_eq_true rfl) (Nat.le_of_ble_eq_true rfl)) H
theorem s158_109 {sc : cmS} {d : Nat} {h : cmH} {Q : Option Value → cmH → Prop} (L : LY h) (x1 : Int32) (x2 : Int32) (x3 : Int32) (x4 : Int32) (u5 : Option Value) (sx0 : Int32) (H : (((¬ sx0 = 0) → cm_wp sc d 158 193 [some (.ref 38), some (.int x1), some (.int x2), some (.int x3), some (.int x4), u5] [] h Q) ∧ (¬ (¬ sx0 = 0) → cm_wp sc d 158 120 [some (.ref 38), some (.int x1), some (.int x2), some (.int x3), some (.int x4), some (.int ((cm_I h 38 33) - (1 : Int32)))] [] h Q))) : cm_wp sc d 158 109 [some (.ref 38), some (.int x1), some (.int x2), some (.int x3), some (.int x4), u5] [.int sx0] h Q :=
  wl_cb (b := ¬ sx0 = 0) (off := 84) (tgt := 193) (pc3 := 112) (st' := []) d158_109 rfl rfl rfl rfl (by decide) rfl (fun c1 => (H.1 c1)) (fun c1 => wl_st d158_112 rfl rfl rfl rfl (wl_gf (v := .int (cm_I h 38 33)) d158_113 pf11_226 (ly_k L 38 rfl) rfl (wl_ic (v := 1) d158_116 rfl (wl_st d158_117 rfl rfl rfl rfl (wl_st (ls' := [some (.ref 38), some (.int x1), some (.int x2), some (.int x3), some (.int x4), some (.int ((cm_I h 38 33) - (1 : Int32)))]) d158_118 rfl rfl rfl rfl ((H.2 c1)))))))
theorem s158_120 {sc : cmS} {d : Nat} {h : cmH} {Q : Option Value → cmH → Prop} (L : LY h) (x1 : Int32) (x2 : Int32) (x3 : Int32) (x4 : Int32) (x5 : Int32) (H : (((x5 < x4) → (IX 420 x4) ∧ (IX 420 (x4 + (1 : Int32))) ∧ (IX 420 (x4 + (2 : Int32))) ∧ cm_cv sc d 162 [.ref 38, .int (3 : Int32)] (cm_setI (cm_setI (cm_setI (cm_setI h 62 x4.toNatClampNeg (0 : Int32)) 62 (x4 + (1 : Int32)).toNatClampNeg (1 : Int32)) 62 (x4 + (2 : Int32)).toNatClampNeg (2 : Int32)) 38 33 ((cm_I h 38 33) + (3 : Int32))) (fun h' => cm_wp sc (d + 1) 158 192 [some (.ref 38), some (.int x1), some (.int x2), some (.int x3), some (.int x4), some (.int x5)] [] h' Q)) ∧ (¬ (x5 < x4) → (IX 420 x5) ∧ (IX 420 (x5 + (3 : Int32))) ∧ cm_wp sc (d + 1) 158 120 [some (.ref 38), some (.int x1), some (.int x2), some (.int x3), some (.int x4), some (.int (x5 + (-1)))] [] (cm_setI h 62 (x5 + (3 : Int32)).toNatClampNeg (cm_I h 62 x5.toNatClampNeg)) Q))) : cm_wp sc (d + 1) 158 120 [some (.ref 38), some (.int x1), some (.int x2), some (.int x3), some (.int x4), some (.int x5)] [] h Q :=
  wl_st d158_120 rfl rfl rfl rfl (wl_st d158_122 rfl rfl rfl rfl (wl_cb (b := x5 < x4) (off := 25) (tgt := 149) (pc3 := 127) (st' := []) d158_124 rfl rfl rfl rfl (by decide) rfl (fun c1 => wl_st d158_149 rfl rfl rfl rfl (wl_gr (b := 62) d158_150 pf11_80 (ly_k L 38 rfl) rfl (ly_r L 38 26 rfl) (wl_st d158_153 rfl rfl rfl rfl (wl_ic (v := 0) d158_155 rfl (And.elim (fun g2 g2k => wl_if (h' := (cm_setI h 62 x4.toNatClampNeg (0 : Int32))) d158_156 rfl rfl rfl rfl (ly_o L 62 rfl g2) (wl_st d158_157 rfl rfl rfl rfl (wl_gr (b := 62) d158_158 pf11_80 (ly_k L 38 rfl) rfl (ly_r L 38 26 rfl) (wl_st d158_161 rfl rfl rfl rfl (wl_ic (v := 1) d158_163 rfl (wl_st d158_164 rfl rfl rfl rfl (wl_ic (v := 1) d158_165 rfl (And.elim (fun g3 g3k => wl_if (h' := (cm_setI (cm_setI h 62 x4.toNatClampNeg (0 : Int32)) 62 (x4 + (1 : Int32)).toNatClampNeg (1 : Int32))) d158_166 rfl rfl rfl rfl (ly_o L 62 rfl g3) (wl_st d158_167 rfl rfl rfl rfl (wl_gr (b := 62) d158_168 pf11_80 (ly_k L 38 rfl) rfl (ly_r L 38 26 rfl) (wl_st d158_171 rfl rfl rfl rfl (wl_ic (v := 2) d158_173 rfl (wl_st d158_174 rfl rfl rfl rfl (wl_ic (v := 2) d158_175 rfl (And.elim (fun g4 g4k => wl_if (h' := (cm_setI (cm_setI (cm_setI h 62 x4.toNatClampNeg (0 : Int32)) 62 (x4 + (1 : Int32)).toNatClampNeg (1 : Int32)) 62 (x4 + (2 : Int32)).toNatClampNeg (2 : Int32))) d158_176 rfl rfl rfl rfl (ly_o L 62 rfl g4) (wl_st d158_177 rfl rfl rfl rfl (wl_st d158_178 rfl rfl rfl rfl (wl_gf (v := .int (cm_I h 38 33)) d158_179 pf11_226 (ly_k L 38 rfl) rfl (wl_ic (v := 3) d158_182 rfl (wl_st d158_183 rfl rfl rfl rfl (wl_pf (h' := (cm_setI (cm_setI (cm_setI (cm_setI h 62 x4.toNatClampNeg (0 : Int32)) 62 (x4 + (1 : Int32)).toNatClampNeg (1 : Int32)) 62 (x4 + (2 : Int32)).toNatClampNeg (2 : Int32)) 38 33 ((cm_I h 38 33) + (3 : Int32)))) d158_184 pf11_226 (ly_k L 38 rfl) (Or.inl rfl) rfl (wl_st d158_187 rfl rfl rfl rfl (wl_ic (v := 3) d158_188 rfl (wl_cv d158_189 rfl rfl rfl pm11_242 (by decide) (ca_v (Or.inl rfl) rfl (Nat.le_of_ble_eq_true rfl) (Nat.le_of_ble_eq_true rfl) (ly_k L 38 rfl).2 (ly_k L 38 rfl).1 (by decide)) g4k)))))))))) g3k)))))))) g2k)))))))) (H.1 c1)))))) (fun c1 => wl_st d158_127 rfl rfl rfl rfl (wl_gr (b := 62) d158_128 pf11_80 (ly_k L 38 rfl) rfl (ly_r L 38 26 rfl) (wl_st d158_131 rfl rfl rfl rfl (wl_ic (v := 3) d158_133 rfl (wl_st d158_134 rfl rfl rfl rfl (wl_st d158_135 rfl rfl rfl rfl (wl_gr (b := 62) d158_136 pf11_80 (ly_k L 38 rfl) rfl (ly_r L 38 26 rfl) (wl_st d158_139 rfl rfl rfl rfl (And.elim (fun g5 g5k => wl_if (g := cm_ok h 13 62 x5) (st' := [.int (cm_I h 62 x5.toNatClampNeg), .int (x5 + (3 : Int32)), .ref 62]) d158_141 rfl rfl rfl rfl (ly_o L 62 rfl g5) (And.elim (fun g6 g6k => wl_if (h' := (cm_setI h 62 (x5 + (3 : Int32)).toNatClampNeg (cm_I h 62 x5.toNatClampNeg))) d158_142 rfl rfl rfl rfl (ly_o L 62 rfl g6) (wl_st (ls' := [some (.ref 38), some (.int x1), some (.int x2), some (.int x3), some (.int x4), some (.int (x5 + (-1)))]) d158_143 rfl rfl rfl rfl (wl_go (tgt := 120) d158_146 (by decide) (g6k)))) g5k)) (H.2 c1))))))))))))
theorem s158_192 {sc : cmS} {d : Nat} {h : cmH} {Q : Option Value → cmH → Prop} (x1 : Int32) (x2 : Int32) (x3 : Int32) (x4 : Int32) (x5 : Int32) (H : Q none h) : cm_wp sc d 158 192 [some (.ref 38), some (.int x1), some (.int x2), some (.int x3), some (.int x4), some (.int x5)] [] h Q :=
  wl_rt d158_192 rfl rfl rfl H
theorem s158_193 {sc : cmS} {d : Nat} {h : cmH} {Q : Option Value → cmH → Prop} (L : LY h) (x1 : Int32) (x2 : Int32) (x3 : Int32) (x4 : Int32) (u5 : Option Value) (H : cm_cv sc d 172 [.ref 38, .int x3] h (fun h' => cm_wp sc (d + 1) 158 198 [some (.ref 38), some (.int x1), some (.int x2), some (.int x3), some (.int x4), u5] [] h' Q)) : cm_wp sc (d + 1) 158 193 [some (.ref 38), some (.int x1), some (.int x2), some (.int x3), some (.int x4), u5] [] h Q :=
  wl_st d158_193 rfl rfl rfl rfl (wl_st d158_194 rfl rfl rfl rfl (wl_cv d158_195 rfl rfl rfl pm11_274 (by decide) (ca_v (Or.inl rfl) rfl (Nat.le_of_ble_eq_true rfl) (Nat.le_of_ble_eq_true rfl) (ly_k L 38 rfl).2 (ly_k L 38 rfl).1 (by decide)) H))
theorem s158_198 {sc : cmS} {d : Nat} {h : cmH} {Q : Option Value → cmH → Prop} (L : LY h) (x1 : Int32) (x2 : Int32) (x3 : Int32) (x4 : Int32) (u5 : Option Value) (H : (((¬ (cm_I h 38 31) = (-1 : Int32)) → cm_wp sc (d + 1) 158 219 [some (.ref 38), some (.int x1), some (.int x2), some (.int x3), some (.int x4), u5] [] h Q) ∧ (¬ (¬ (cm_I h 38 31) = (-1 : Int32)) → cm_ci sc d 159 [.ref 38] h (fun r h' => cm_wp sc (d + 1) 158 210 [some (.ref 38), some (.int x1), some (.int x2), some (.int x3), some (.int x4), u5] [.int r] h' Q)))) : cm_wp sc (d + 1) 158 198 [some (.ref 38), some (.int x1), some (.int x2), some (.int x3), some (.int x4), u5] [] h Q :=
  wl_st d158_198 rfl rfl rfl rfl (wl_gf (v := .int (cm_I h 38 31)) d158_199 pf11_223 (ly_k L 38 rfl) rfl (wl_ic (v := (-1)) d158_202 rfl (wl_cb (b := ¬ (cm_I h 38 31) = (-1 : Int32)) (off := 16) (tgt := 219) (pc3 := 206) (st' := []) d158_203 rfl rfl rfl rfl (by decide) rfl (fun c1 => (H.1 c1)) (fun c1 => wl_st d158_206 rfl rfl rfl rfl (wl_ci d158_207 rfl rfl rfl pm11_235 (by decide) (ca_v (Or.inl rfl) rfl (Nat.le_of_ble_eq_true rfl) (Nat.le_of_ble_eq_true rfl) (ly_k L 38 rfl).2 (ly_k L 38 rfl).1 (by decide)) (H.2 c1))))))
theorem s158_210 {sc : cmS} {d : Nat} {h : cmH} {Q : Option Value → cmH → Prop} (L : LY h) (x1 : Int32) (x2 : Int32) (x3 : Int32) (x4 : Int32) (u5 : Option Value) (sx0 : Int32) (H : (((sx0 = (63 : Int32)) → cm_wp sc (d + 1) 158 219 [some (.ref 38), some (.int x1), some (.int x2), some (.int x3), some (.int x4), u5] [] h Q) ∧ (¬ (sx0 = (63 : Int32)) → cm_cv sc d 161 [.ref 38] h (fun h' => cm_wp sc (d + 1) 158 219 [some (.ref 38), some (.int x1), some (.int x2), some (.int x3), some (.int x4), u5] [] h' Q)))) : cm_wp sc (d + 1) 158 210 [some (.ref 38), some (.int x1), some (.int x2), some (.int x3), some (.int x4), u5] [.int sx0] h Q :=
  wl_bi (v := 63) d158_210 rfl (wl_cb (b := sx0 = (63 : Int32)) (off := 7) (tgt := 219) (pc3 := 215) (st' := []) d158_212 rfl rfl rfl rfl (by decide) rfl (fun c1 => (H.1 c1)) (fun c1 => wl_st d158_215 rfl rfl rfl rfl (wl_cv d158_216 rfl rfl rfl pm11_232 (by decide) (ca_v (Or.inl rfl) rfl (Nat.le_of_ble_eq_true rfl) (Nat.le_of_ble_eq_true rfl) (ly_k L 38 rfl).2 (ly_k L 38 rfl).1 (by decide)) (H.2 c1))))
theorem s158_219 {sc : cmS} {d : Nat} {h : cmH} {Q : Option Value → cmH → Prop} (L : LY h) (x1 : Int32) (x2 : Int32) (x3 : Int32) (x4 : Int32) (u5 : Option Value) (H : ((((cm_I h 38 31) = (-1 : Int32)) → cm_cv sc d 162 [.ref 38, .int (2 : Int32)] (cm_setI h 38 30 ((cm_I h 38 30) + (1 : Int32))) (fun h' => cm_wp sc (d + 1) 158 243 [some (.ref 38), some (.int x1), some (.int x2), some (.int x3), some (.int x4), u5] [] h' Q)) ∧ (¬ ((cm_I h 38 31) = (-1 : Int32)) → Q none h))) : cm_wp sc (d + 1) 158 219 [some (.ref 38), some (.int x1), some (.int x2), some (.int x3), some (.int x4), u5] [] h Q :=
  wl_st d158_219 rfl rfl rfl rfl (wl_gf (v := .int (cm_I h 38 31)) d158_220 pf11_223 (ly_k L 38 rfl) rfl (wl_ic (v := (-1)) d158_223 rfl (wl_cb (b := (cm_I h 38 31) = (-1 : Int32)) (off := 4) (tgt := 228) (pc3 := 227) (st' := []) d158_224 rfl rfl rfl rfl (by decide) rfl (fun c1 => wl_st d158_228 rfl rfl rfl rfl (wl_st d158_229 rfl rfl rfl rfl (wl_gf (v := .int (cm_I h 38 30)) d158_230 pf11_220 (ly_k L 38 rfl) rfl (wl_ic (v := 1) d158_233 rfl (wl_st d158_234 rfl rfl rfl rfl (wl_pf (h' := (cm_setI h 38 30 ((cm_I h 38 30) + (1 : Int32)))) d158_235 pf11_220 (ly_k L 38 rfl) (Or.inl rfl) rfl (wl_st d158_238 rfl rfl rfl rfl (wl_ic (v := 2) d158_239 rfl (wl_cv d158_240 rfl rfl rfl pm11_242 (by decide) (ca_v (Or.inl rfl) rfl (Nat.le_of_ble_eq_true rfl) (Nat.le_of_ble_eq_true rfl) (ly_k L 38 rfl).2 (ly_k L 38 rfl).1 (by decide)) (H.1 c1)))))))))) (fun c1 => wl_rt d158_227 rfl rfl rfl (H.2 c1)))))
theorem s158_243 {sc : cmS} {d : Nat} {h : cmH} {Q : Option Value → cmH → Prop} (L : LY h) (x1 : Int32) (x2 : Int32) (x3 : Int32) (x4 : Int32) (u5 : Option Value) (H : cm_cv sc d 163 [.ref 38] h (fun h' => cm_wp sc (d + 1) 158 247 [some (.ref 38), some (.int x1), some (.int x2), some (.int x3), some (.int x4), u5] [] h' Q)) : cm_wp sc (d + 1) 158 243 [some (.ref 38), some (.int x1), some (.int x2), some (.int x3), some (.int x4), u5] [] h Q :=
  wl_st d158_243 rfl rfl rfl rfl (wl_cv d158_244 rfl rfl rfl pm11_250 (by decide) (ca_v (Or.inl rfl) rfl (Nat.le_of_ble_eq_true rfl) (Nat.le_of_ble_eq_true rfl) (ly_k L 38 rfl).2 (ly_k L 38 rfl).1 (by decide)) H)
theorem s158_247 {sc : cmS} {d : Nat} {h : cmH} {Q : Option Value → cmH → Prop} (L : LY h) (x1 : Int32) (x2 : Int32) (x3 : Int32) (x4 : Int32) (u5 : Option Value) (H : cm_cv sc d 162 [.ref 38, .int (3 : Int32)] h (fun h' => cm_wp sc (d + 1) 158 252 [some (.ref 38), some (.int x1), some (.int x2), some (.int x3), some (.int x4), u5] [] h' Q)) : cm_wp sc (d + 1) 158 247 [some (.ref 38), some (.int x1), some (.int x2), some (.int x3), some (.int x4), u5] [] h Q :=
  wl_st d158_247 rfl rfl rfl rfl (wl_ic (v := 3) d158_248 rfl (wl_cv d158_249 rfl rfl rfl pm11_242 (by decide) (ca_v (Or.inl rfl) rfl (Nat.le_of_ble_eq_true rfl) (Nat.le_of_ble_eq_true rfl) (ly_k L 38 rfl).2 (ly_k L 38 rfl).1 (by decide)) H))
theorem s158_252 {sc : cmS} {d : Nat} {h : cmH} {Q : Option Value → cmH → Prop} (x1 : Int32) (x2 : Int32) (x3 : Int32) (x4 : Int32) (u5 : Option Value) (H : Q none h) : cm_wp sc d 158 252 [some (.ref 38), some (.int x1), some (.int x2), some (.int x3), some (.int x4), u5] [] h Q :=
  wl_rt d158_252 rfl rfl rfl H
-- ClogHouseModel.look()I
theorem d159_0 : decode (cm_M 159).2.2.1 0 = .ok (.aload_n 0, 1) := by decide +kernel
theorem d159_1 : decode (cm_M 159).2.2.1 1 = .ok (.getfield 220, 3) := by decide +kernel
theorem d159_4 : decode (cm_M 159).2.2.1 4 = .ok (.aload_n 0, 1) := by decide +kernel
theorem d159_5 : decode (cm_M 159).2.2.1 5 = .ok (.getfield 217, 3) := by decide +kernel
theorem d159_8 : decode (cm_M 159).2.2.1 8 = .ok (.if_icmp .ge 30, 3) := by decide +kernel
theorem d159_11 : decode (cm_M 159).2.2.1 11 = .ok (.aload_n 0, 1) := by decide +kernel
theorem d159_12 : decode (cm_M 159).2.2.1 12 = .ok (.getfield 77, 3) := by decide +kernel
theorem d159_15 : decode (cm_M 159).2.2.1 15 = .ok (.aload_n 0, 1) := by decide +kernel
theorem d159_16 : decode (cm_M 159).2.2.1 16 = .ok (.getfield 220, 3) := by decide +kernel
theorem d159_19 : decode (cm_M 159).2.2.1 19 = .ok (.iaload, 1) := by decide +kernel
theorem d159_20 : decode (cm_M 159).2.2.1 20 = .ok (.bipush 32, 2) := by decide +kernel
theorem d159_22 : decode (cm_M 159).2.2.1 22 = .ok (.if_icmp .ne 16, 3) := by decide +kernel
theorem d159_25 : decode (cm_M 159).2.2.1 25 = .ok (.aload_n 0, 1) := by decide +kernel
theorem d159_26 : decode (cm_M 159).2.2.1 26 = .ok (.dup, 1) := by decide +kernel
theorem d159_27 : decode (cm_M 159).2.2.1 27 = .ok (.getfield 220, 3) := by decide +kernel
theorem d159_30 : decode (cm_M 159).2.2.1 30 = .ok (.iconst 1, 1) := by decide +kernel
theorem d159_31 : decode (cm_M 159).2.2.1 31 = .ok (.iadd, 1) := by decide +kernel
theorem d159_32 : decode (cm_M 159).2.2.1 32 = .ok (.putfield 220, 3) := by decide +kernel
theorem d159_35 : decode (cm_M 159).2.2.1 35 = .ok (.goto (-35), 3) := by decide +kernel
theorem d159_38 : decode (cm_M 159).2.2.1 38 = .ok (.aload_n 0, 1) := by decide +kernel
theorem d159_39 : decode (cm_M 159).2.2.1 39 = .ok (.getfield 220, 3) := by decide +kernel
theorem d159_42 : decode (cm_M 159).2.2.1 42 = .ok (.aload_n 0, 1) := by decide +kernel
theorem d159_43 : decode (cm_M 159).2.2.1 43 = .ok (.getfield 217, 3) := by decide +kernel
theorem d159_46 : decode (cm_M 159).2.2.1 46 = .ok (.if_icmp .ge 15, 3) := by decide +kernel
theorem d159_49 : decode (cm_M 159).2.2.1 49 = .ok (.aload_n 0, 1) := by decide +kernel
theorem d159_50 : decode (cm_M 159).2.2.1 50 = .ok (.getfield 77, 3) := by decide +kernel
theorem d159_53 : decode (cm_M 159).2.2.1 53 = .ok (.aload_n 0, 1) := by decide +kernel
theorem d159_54 : decode (cm_M 159).2.2.1 54 = .ok (.getfield 220, 3) := by decide +kernel
theorem d159_57 : decode (cm_M 159).2.2.1 57 = .ok (.iaload, 1) := by decide +kernel
theorem d159_58 : decode (cm_M 159).2.2.1 58 = .ok (.goto 4, 3) := by decide +kernel
theorem d159_61 : decode (cm_M 159).2.2.1 61 = .ok (.iconst (-1), 1) := by decide +kernel
theorem d159_62 : decode (cm_M 159).2.2.1 62 = .ok (.ireturn, 1) := by decide +kernel
theorem s159_0 {sc : cmS} {d : Nat} {h : cmH} {Q : Option Value → cmH → Prop} (L : LY h)  (H : ((((cm_I h 38 29) ≤ (cm_I h 38 30)) → cm_wp sc d 159 38 [some (.ref 38)] [] h Q) ∧ (¬ ((cm_I h 38 29) ≤ (cm_I h 38 30)) → (IX 160 (cm_I h 38 30)) ∧ (((¬ (cm_I h 61 (cm_I h 38 30).toNatClampNeg) = (32 : Int32)) → cm_wp sc d 159 38 [some (.ref 38)] [] h Q) ∧ (¬ (¬ (cm_I h 61 (cm_I h 38 30).toNatClampNeg) = (32 : Int32)) → cm_wp sc d 159 0 [some (.ref 38)] [] (cm_setI h 38 30 ((cm_I h 38 30) + (1 : Int32))) Q))))) : cm_wp sc d 159 0 [some (.ref 38)] [] h Q :=
  wl_st d159_0 rfl rfl rfl rfl (wl_gf (v := .int (cm_I h 38 30)) d159_1 pf11_220 (ly_k L 38 rfl) rfl (wl_st d159_4 rfl rfl rfl rfl (wl_gf (v := .int (cm_I h 38 29)) d159_5 pf11_217 (ly_k L 38 rfl) rfl (wl_cb (b := (cm_I h 38 29) ≤ (cm_I h 38 30)) (off := 30) (tgt := 38) (pc3 := 11) (st' := []) d159_8 rfl rfl rfl rfl (by decide) rfl (fun c1 => (H.1 c1)) (fun c1 => wl_st d159_11 rfl rfl rfl rfl (wl_gr (b := 61) d159_12 pf11_77 (ly_k L 38 rfl) rfl (ly_r L 38 25 rfl) (wl_st d159_15 rfl rfl rfl rfl (wl_gf (v := .int (cm_I h 38 30)) d159_16 pf11_220 (ly_k L 38 rfl) rfl (And.elim (fun g2 g2k => wl_if (g := cm_ok h 13 61 (cm_I h 38 30)) (st' := [.int (cm_I h 61 (cm_I h 38 30).toNatClampNeg)]) d159_19 rfl rfl rfl rfl (ly_o L 61 rfl g2) (wl_bi (v := 32) d159_20 rfl (wl_cb (b := ¬ (cm_I h 61 (cm_I h 38 30).toNatClampNeg) = (32 : Int32)) (off := 16) (tgt := 38) (pc3 := 25) (st' := []) d159_22 rfl rfl rfl rfl (by decide) rfl (fun c3 => (g2k.1 c3)) (fun c3 => wl_st d159_25 rfl rfl rfl rfl (wl_st d159_26 rfl rfl rfl rfl (wl_gf (v := .int (cm_I h 38 30)) d159_27 pf11_220 (ly_k L 38 rfl) rfl (wl_ic (v := 1) d159_30 rfl (wl_st d159_31 rfl rfl rfl rfl (wl_pf (h' := (cm_setI h 38 30 ((cm_I h 38 30) + (1 : Int32)))) d159_32 pf11_220 (ly_k L 38 rfl) (Or.inl rfl) rfl (wl_go (tgt := 0) d159_35 (by decide) ((g2k.2 c3)))))))))))) (H.2 c1))))))))))
theorem s159_38 {sc : cmS} {d : Nat} {h : cmH} {Q : Option Value → cmH → Prop} (L : LY h)  (H : ((((cm_I h 38 29) ≤ (cm_I h 38 30)) → Q (some (.int (-1 : Int32))) h) ∧ (¬ ((cm_I h 38 29) ≤ (cm_I h 38 30)) → (IX 160 (cm_I h 38 30)) ∧ Q (some (.int (cm_I h 61 (cm_I h 38 30).toNatClampNeg))) h))) : cm_wp sc d 159 38 [some (.ref 38)] [] h Q :=
  wl_st d159_38 rfl rfl rfl rfl (wl_gf (v := .int (cm_I h 38 30)) d159_39 pf11_220 (ly_k L 38 rfl) rfl (wl_st d159_42 rfl rfl rfl rfl (wl_gf (v := .int (cm_I h 38 29)) d159_43 pf11_217 (ly_k L 38 rfl) rfl (wl_cb (b := (cm_I h 38 29) ≤ (cm_I h 38 30)) (off := 15) (tgt := 61) (pc3 := 49) (st' := []) d159_46 rfl rfl rfl rfl (by decide) rfl (fun c1 => wl_ic (v := (-1)) d159_61 rfl (wl_rt d159_62 rfl rfl rfl (H.1 c1))) (fun c1 => wl_st d159_49 rfl rfl rfl rfl (wl_gr (b := 61) d159_50 pf11_77 (ly_k L 38 rfl) rfl (ly_r L 38 25 rfl) (wl_st d159_53 rfl rfl rfl rfl (wl_gf (v := .int (cm_I h 38 30)) d159_54 pf11_220 (ly_k L 38 rfl) rfl (And.elim (fun g2 g2k => wl_if (g := cm_ok h 13 61 (cm_I h 38 30)) (st' := [.int (cm_I h 61 (cm_I h 38 30).toNatClampNeg)]) d159_57 rfl rfl rfl rfl (ly_o L 61 rfl g2) (wl_go (tgt := 62) d159_58 (by decide) (wl_rt d159_62 rfl rfl rfl g2k))) (H.2 c1))))))))))
-- ClogHouseModel.isLabel(I)Z
theorem d160_0 : decode (cm_M 160).2.2.1 0 = .ok (.iload_n 0, 1) := by decide +kernel
theorem d160_1 : decode (cm_M 160).2.2.1 1 = .ok (.bipush 119, 2) := by decide +kernel
theorem d160_3 : decode (cm_M 160).2.2.1 3 = .ok (.if_icmp .eq 21, 3) := by decide +kernel
theorem d160_6 : decode (cm_M 160).2.2.1 6 = .ok (.iload_n 0, 1) := by decide +kernel
theorem d160_7 : decode (cm_M 160).2.2.1 7 = .ok (.bipush 114, 2) := by decide +kernel
theorem d160_9 : decode (cm_M 160).2.2.1 9 = .ok (.if_icmp .eq 15, 3) := by decide +kernel
theorem d160_12 : decode (cm_M 160).2.2.1 12 = .ok (.iload_n 0, 1) := by decide +kernel
theorem d160_13 : decode (cm_M 160).2.2.1 13 = .ok (.bipush 99, 2) := by decide +kernel
theorem d160_15 : decode (cm_M 160).2.2.1 15 = .ok (.if_icmp .eq 9, 3) := by decide +kernel
theorem d160_18 : decode (cm_M 160).2.2.1 18 = .ok (.iload_n 0, 1) := by decide +kernel
theorem d160_19 : decode (cm_M 160).2.2.1 19 = .ok (.bipush 117, 2) := by decide +kernel
theorem d160_21 : decode (cm_M 160).2.2.1 21 = .ok (.if_icmp .ne 7, 3) := by decide +kernel
theorem d160_24 : decode (cm_M 160).2.2.1 24 = .ok (.iconst 1, 1) := by decide +kernel
theorem d160_25 : decode (cm_M 160).2.2.1 25 = .ok (.goto 4, 3) := by decide +kernel
theorem d160_28 : decode (cm_M 160).2.2.1 28 = .ok (.iconst 0, 1) := by decide +kernel
theorem d160_29 : decode (cm_M 160).2.2.1 29 = .ok (.ireturn, 1) := by decide +kernel
theorem s160_0 {sc : cmS} {d : Nat} {h : cmH} {Q : Option Value → cmH → Prop} (x0 : Int32) (H : (((x0 = (119 : Int32)) → cm_wp sc d 160 24 [some (.int x0)] [] h Q) ∧ (¬ (x0 = (119 : Int32)) → (((x0 = (114 : Int32)) → cm_wp sc d 160 24 [some (.int x0)] [] h Q) ∧ (¬ (x0 = (114 : Int32)) → (((x0 = (99 : Int32)) → cm_wp sc d 160 24 [some (.int x0)] [] h Q) ∧ (¬ (x0 = (99 : Int32)) → (((¬ x0 = (117 : Int32)) → Q (some (.int (0 : Int32))) h) ∧ (¬ (¬ x0 = (117 : Int32)) → cm_wp sc d 160 24 [some (.int x0)] [] h Q))))))))) : cm_wp sc d 160 0 [some (.int x0)] [] h Q :=
  wl_st d160_0 rfl rfl rfl rfl (wl_bi (v := 119) d160_1 rfl (wl_cb (b := x0 = (119 : Int32)) (off := 21) (tgt := 24) (pc3 := 6) (st' := []) d160_3 rfl rfl rfl rfl (by decide) rfl (fun c1 => (H.1 c1)) (fun c1 => wl_st d160_6 rfl rfl rfl rfl (wl_bi (v := 114) d160_7 rfl (wl_cb (b := x0 = (114 : Int32)) (off := 15) (tgt := 24) (pc3 := 12) (st' := []) d160_9 rfl rfl rfl rfl (by decide) rfl (fun c2 => ((H.2 c1).1 c2)) (fun c2 => wl_st d160_12 rfl rfl rfl rfl (wl_bi (v := 99) d160_13 rfl (wl_cb (b := x0 = (99 : Int32)) (off := 9) (tgt := 24) (pc3 := 18) (st' := []) d160_15 rfl rfl rfl rfl (by decide) rfl (fun c3 => (((H.2 c1).2 c2).1 c3)) (fun c3 => wl_st d160_18 rfl rfl rfl rfl (wl_bi (v := 117) d160_19 rfl (wl_cb (b := ¬ x0 = (117 : Int32)) (off := 7) (tgt := 28) (pc3 := 24) (st' := []) d160_21 rfl rfl rfl rfl (by decide) rfl (fun c4 => wl_ic (v := 0) d160_28 rfl (wl_rz d160_29 rfl (by decide) ((((H.2 c1).2 c2).2 c3).1 c4))) (fun c4 => ((((H.2 c1).2 c2).2 c3).2 c4)))))))))))))
theorem s160_24 {sc : cmS} {d : Nat} {h : cmH} {Q : Option Value → cmH → Prop} (x0 : Int32) (H : Q (some (.int (1 : Int32))) h) : cm_wp sc d 160 24 [some (.int x0)] [] h Q :=
  wl_ic (v := 1) d160_24 rfl (wl_go (tgt := 29) d160_25 (by decide) (wl_rz d160_29 rfl (by decide) H))
-- ClogHouseModel.bad()V
theorem d161_0 : decode (cm_M 161).2.2.1 0 = .ok (.aload_n 0, 1) := by decide +kernel
theorem d161_1 : decode (cm_M 161).2.2.1 1 = .ok (.aload_n 0, 1) := by decide +kernel
theorem d161_2 : decode (cm_M 161).2.2.1 2 = .ok (.getfield 223, 3) := by decide +kernel
theorem d161_5 : decode (cm_M 161).2.2.1 5 = .ok (.iconst (-1), 1) := by decide +kernel
theorem d161_6 : decode (cm_M 161).2.2.1 6 = .ok (.if_icmp .ne 10, 3) := by decide +kernel
theorem d161_9 : decode (cm_M 161).2.2.1 9 = .ok (.aload_n 0, 1) := by decide +kernel
theorem d161_10 : decode (cm_M 161).2.2.1 10 = .ok (.getfield 220, 3) := by decide +kernel
theorem d161_13 : decode (cm_M 161).2.2.1 13 = .ok (.goto 7, 3) := by decide +kernel
theorem d161_16 : decode (cm_M 161).2.2.1 16 = .ok (.aload_n 0, 1) := by decide +kernel
theorem d161_17 : decode (cm_M 161).2.2.1 17 = .ok (.getfield 223, 3) := by decide +kernel
theorem d161_20 : decode (cm_M 161).2.2.1 20 = .ok (.putfield 223, 3) := by decide +kernel
theorem d161_23 : decode (cm_M 161).2.2.1 23 = .ok (.return_, 1) := by decide +kernel
theorem s161_0 {sc : cmS} {d : Nat} {h : cmH} {Q : Option Value → cmH → Prop} (L : LY h)  (H : (((¬ (cm_I h 38 31) = (-1 : Int32)) → cm_wp sc d 161 20 [some (.ref 38)] [.int (cm_I h 38 31), .ref 38] h Q) ∧ (¬ (¬ (cm_I h 38 31) = (-1 : Int32)) → cm_wp sc d 161 20 [some (.ref 38)] [.int (cm_I h 38 30), .ref 38] h Q))) : cm_wp sc d 161 0 [some (.ref 38)] [] h Q :=
  wl_st d161_0 rfl rfl rfl rfl (wl_st d161_1 rfl rfl rfl rfl (wl_gf (v := .int (cm_I h 38 31)) d161_2 pf11_223 (ly_k L 38 rfl) rfl (wl_ic (v := (-1)) d161_5 rfl (wl_cb (b := ¬ (cm_I h 38 31) = (-1 : Int32)) (off := 10) (tgt := 16) (pc3 := 9) (st' := [.ref 38]) d161_6 rfl rfl rfl rfl (by decide) rfl (fun c1 => wl_st d161_16 rfl rfl rfl rfl (wl_gf (v := .int (cm_I h 38 31)) d161_17 pf11_223 (ly_k L 38 rfl) rfl ((H.1 c1)))) (fun c1 => wl_st d161_9 rfl rfl rfl rfl (wl_gf (v := .int (cm_I h 38 30)) d161_10 pf11_220 (ly_k L 38 rfl) rfl (wl_go (tgt := 20) d161_13 (by decide) ((H.2 c1)))))))))
theorem s161_20 {sc : cmS} {d : Nat} {h : cmH} {Q : Option Value → cmH → Prop} (L : LY h) (sx0 : Int32) (H : Q none (cm_setI h 38 31 sx0)) : cm_wp sc d 161 20 [some (.ref 38)] [.int sx0, .ref 38] h Q :=
  wl_pf (h' := (cm_setI h 38 31 sx0)) d161_20 pf11_223 (ly_k L 38 rfl) (Or.inl rfl) rfl (wl_rt d161_23 rfl rfl rfl H)
-- ClogHouseModel.say(I)V
theorem d162_0 : decode (cm_M 162).2.2.1 0 = .ok (.aload_n 0, 1) := by decide +kernel
theorem d162_1 : decode (cm_M 162).2.2.1 1 = .ok (.getfield 80, 3) := by decide +kernel
theorem d162_4 : decode (cm_M 162).2.2.1 4 = .ok (.aload_n 0, 1) := by decide +kernel
theorem d162_5 : decode (cm_M 162).2.2.1 5 = .ok (.getfield 226, 3) := by decide +kernel
theorem d162_8 : decode (cm_M 162).2.2.1 8 = .ok (.iload_n 1, 1) := by decide +kernel
theorem d162_9 : decode (cm_M 162).2.2.1 9 = .ok (.iastore, 1) := by decide +kernel
theorem d162_10 : decode (cm_M 162).2.2.1 10 = .ok (.aload_n 0, 1) := by decide +kernel
theorem d162_11 : decode (cm_M 162).2.2.1 11 = .ok (.dup, 1) := by decide +kernel
theorem d162_12 : decode (cm_M 162).2.2.1 12 = .ok (.getfield 226, 3) := by decide +kernel
theorem d162_15 : decode (cm_M 162).2.2.1 15 = .ok (.iconst 1, 1) := by decide +kernel
theorem d162_16 : decode (cm_M 162).2.2.1 16 = .ok (.iadd, 1) := by decide +kernel
theorem d162_17 : decode (cm_M 162).2.2.1 17 = .ok (.putfield 226, 3) := by decide +kernel
theorem d162_20 : decode (cm_M 162).2.2.1 20 = .ok (.return_, 1) := by decide +kernel
theorem s162_0 {sc : cmS} {d : Nat} {h : cmH} {Q : Option Value → cmH → Prop} (L : LY h) (x1 : Int32) (H : (IX 420 (cm_I h 38 33)) ∧ Q none (cm_setI (cm_setI h 62 (cm_I h 38 33).toNatClampNeg x1) 38 33 ((cm_I h 38 33) + (1 : Int32)))) : cm_wp sc d 162 0 [some (.ref 38), some (.int x1)] [] h Q :=
  wl_st d162_0 rfl rfl rfl rfl (wl_gr (b := 62) d162_1 pf11_80 (ly_k L 38 rfl) rfl (ly_r L 38 26 rfl) (wl_st d162_4 rfl rfl rfl rfl (wl_gf (v := .int (cm_I h 38 33)) d162_5 pf11_226 (ly_k L 38 rfl) rfl (wl_st d162_8 rfl rfl rfl rfl (And.elim (fun g1 g1k => wl_if (h' := (cm_setI h 62 (cm_I h 38 33).toNatClampNeg x1)) d162_9 rfl rfl rfl rfl (ly_o L 62 rfl g1) (wl_st d162_10 rfl rfl rfl rfl (wl_st d162_11 rfl rfl rfl rfl (wl_gf (v := .int (cm_I h 38 33)) d162_12 pf11_226 (ly_k L 38 rfl) rfl (wl_ic (v := 1) d162_15 rfl (wl_st d162_16 rfl rfl rfl rfl (wl_pf (h' := (cm_setI (cm_setI h 62 (cm_I h 38 33).toNatClampNeg x1) 38 33 ((cm_I h 38 33) + (1 : Int32)))) d162_17 pf11_226 (ly_k L 38 rfl) (Or.inl rfl) rfl (wl_rt d162_20 rfl rfl rfl g1k)))))))) H)))))
-- ClogHouseModel.sum()V
theorem d163_0 : decode (cm_M 163).2.2.1 0 = .ok (.aload_n 0, 1) := by decide +kernel
theorem d163_1 : decode (cm_M 163).2.2.1 1 = .ok (.invokevirtual 265, 3) := by decide +kernel
theorem d163_4 : decode (cm_M 163).2.2.1 4 = .ok (.aload_n 0, 1) := by decide +kernel
theorem d163_5 : decode (cm_M 163).2.2.1 5 = .ok (.invokevirtual 235, 3) := by decide +kernel
theorem d163_8 : decode (cm_M 163).2.2.1 8 = .ok (.istore_n 1, 1) := by decide +kernel
theorem d163_9 : decode (cm_M 163).2.2.1 9 = .ok (.aload_n 0, 1) := by decide +kernel
theorem d163_10 : decode (cm_M 163).2.2.1 10 = .ok (.getfield 223, 3) := by decide +kernel
theorem d163_13 : decode (cm_M 163).2.2.1 13 = .ok (.iconst (-1), 1) := by decide +kernel
theorem d163_14 : decode (cm_M 163).2.2.1 14 = .ok (.if_icmp .ne 42, 3) := by decide +kernel
theorem d163_17 : decode (cm_M 163).2.2.1 17 = .ok (.iload_n 1, 1) := by decide +kernel
theorem d163_18 : decode (cm_M 163).2.2.1 18 = .ok (.bipush 43, 2) := by decide +kernel
theorem d163_20 : decode (cm_M 163).2.2.1 20 = .ok (.if_icmp .eq 9, 3) := by decide +kernel
theorem d163_23 : decode (cm_M 163).2.2.1 23 = .ok (.iload_n 1, 1) := by decide +kernel
theorem d163_24 : decode (cm_M 163).2.2.1 24 = .ok (.bipush 45, 2) := by decide +kernel
theorem d163_26 : decode (cm_M 163).2.2.1 26 = .ok (.if_icmp .ne 30, 3) := by decide +kernel
theorem d163_29 : decode (cm_M 163).2.2.1 29 = .ok (.aload_n 0, 1) := by decide +kernel
theorem d163_30 : decode (cm_M 163).2.2.1 30 = .ok (.dup, 1) := by decide +kernel
theorem d163_31 : decode (cm_M 163).2.2.1 31 = .ok (.getfield 220, 3) := by decide +kernel
theorem d163_34 : decode (cm_M 163).2.2.1 34 = .ok (.iconst 1, 1) := by decide +kernel
theorem d163_35 : decode (cm_M 163).2.2.1 35 = .ok (.iadd, 1) := by decide +kernel
theorem d163_36 : decode (cm_M 163).2.2.1 36 = .ok (.putfield 220, 3) := by decide +kernel
theorem d163_39 : decode (cm_M 163).2.2.1 39 = .ok (.aload_n 0, 1) := by decide +kernel
theorem d163_40 : decode (cm_M 163).2.2.1 40 = .ok (.invokevirtual 265, 3) := by decide +kernel
theorem d163_43 : decode (cm_M 163).2.2.1 43 = .ok (.aload_n 0, 1) := by decide +kernel
theorem d163_44 : decode (cm_M 163).2.2.1 44 = .ok (.iload_n 1, 1) := by decide +kernel
theorem d163_45 : decode (cm_M 163).2.2.1 45 = .ok (.invokevirtual 242, 3) := by decide +kernel
theorem d163_48 : decode (cm_M 163).2.2.1 48 = .ok (.aload_n 0, 1) := by decide +kernel
theorem d163_49 : decode (cm_M 163).2.2.1 49 = .ok (.invokevirtual 235, 3) := by decide +kernel
theorem d163_52 : decode (cm_M 163).2.2.1 52 = .ok (.istore_n 1, 1) := by decide +kernel
theorem d163_53 : decode (cm_M 163).2.2.1 53 = .ok (.goto (-44), 3) := by decide +kernel
theorem d163_56 : decode (cm_M 163).2.2.1 56 = .ok (.return_, 1) := by decide +kernel
theorem s163_0 {sc : cmS} {d : Nat} {h : cmH} {Q : Option Value → cmH → Prop} (L : LY h) (u1 : Option Value) (H : cm_cv sc d 164 [.ref 38] h (fun h' => cm_wp sc (d + 1) 163 4 [some (.ref 38), u1] [] h' Q)) : cm_wp sc (d + 1) 163 0 [some (.ref 38), u1] [] h Q :=
  wl_st d163_0 rfl rfl rfl rfl (wl_cv d163_1 rfl rfl rfl pm11_265 (by decide) (ca_v (Or.inl rfl) rfl (Nat.le_of_ble_eq_true rfl) (Nat.le_of_ble_eq_true rfl) (ly_k L 38 rfl).2 (ly_k L 38 rfl).1 (by decide)) H)
theorem s163_4 {sc : cmS} {d : Nat} {h : cmH} {Q : Option Value → cmH → Prop} (L : LY h) (u1 : Option Value) (H : cm_ci sc d 159 [.ref 38] h (fun r h' => cm_wp sc (d + 1) 163 8 [some (.ref 38), u1] [.int r] h' Q)) : cm_wp sc (d + 1) 163 4 [some (.ref 38), u1] [] h Q :=
  wl_st d163_4 rfl rfl rfl rfl (wl_ci d163_5 rfl rfl rfl pm11_235 (by decide) (ca_v (Or.inl rfl) rfl (Nat.le_of_ble_eq_true rfl) (Nat.le_of_ble_eq_true rfl) (ly_k L 38 rfl).2 (ly_k L 38 rfl).1 (by decide)) H)
theorem s163_8 {sc : cmS} {d : Nat} {h : cmH} {Q : Option Value → cmH → Prop} (u1 : Option Value) (sx0 : Int32) (H : cm_wp sc d 163 9 [some (.ref 38), some (.int sx0)] [] h Q) : cm_wp sc d 163 8 [some (.ref 38), u1] [.int sx0] h Q :=
  wl_st (ls' := [some (.ref 38), some (.int sx0)]) d163_8 rfl rfl rfl rfl (H)
theorem s163_9 {sc : cmS} {d : Nat} {h : cmH} {Q : Option Value → cmH → Prop} (L : LY h) (x1 : Int32) (H : (((¬ (cm_I h 38 31) = (-1 : Int32)) → Q none h) ∧ (¬ (¬ (cm_I h 38 31) = (-1 : Int32)) → (((x1 = (43 : Int32)) → cm_wp sc d 163 29 [some (.ref 38), some (.int x1)] [] h Q) ∧ (¬ (x1 = (43 : Int32)) → (((¬ x1 = (45 : Int32)) → Q none h) ∧ (¬ (¬ x1 = (45 : Int32)) → cm_wp sc d 163 29 [some (.ref 38), some (.int x1)] [] h Q))))))) : cm_wp sc d 163 9 [some (.ref 38), some (.int x1)] [] h Q :=
  wl_st d163_9 rfl rfl rfl rfl (wl_gf (v := .int (cm_I h 38 31)) d163_10 pf11_223 (ly_k L 38 rfl) rfl (wl_ic (v := (-1)) d163_13 rfl (wl_cb (b := ¬ (cm_I h 38 31) = (-1 : Int32)) (off := 42) (tgt := 56) (pc3 := 17) (st' := []) d163_14 rfl rfl rfl rfl (by decide) rfl (fun c1 => wl_rt d163_56 rfl rfl rfl (H.1 c1)) (fun c1 => wl_st d163_17 rfl rfl rfl rfl (wl_bi (v := 43) d163_18 rfl (wl_cb (b := x1 = (43 : Int32)) (off := 9) (tgt := 29) (pc3 := 23) (st' := []) d163_20 rfl rfl rfl rfl (by decide) rfl (fun c2 => ((H.2 c1).1 c2)) (fun c2 => wl_st d163_23 rfl rfl rfl rfl (wl_bi (v := 45) d163_24 rfl (wl_cb (b := ¬ x1 = (45 : Int32)) (off := 30) (tgt := 56) (pc3 := 29) (st' := []) d163_26 rfl rfl rfl rfl (by decide) rfl (fun c3 => wl_rt d163_56 rfl rfl rfl (((H.2 c1).2 c2).1 c3)) (fun c3 => (((H.2 c1).2 c2).2 c3)))))))))))
theorem s163_29 {sc : cmS} {d : Nat} {h : cmH} {Q : Option Value → cmH → Prop} (L : LY h) (x1 : Int32) (H : cm_cv sc d 164 [.ref 38] (cm_setI h 38 30 ((cm_I h 38 30) + (1 : Int32))) (fun h' => cm_wp sc (d + 1) 163 43 [some (.ref 38), some (.int x1)] [] h' Q)) : cm_wp sc (d + 1) 163 29 [some (.ref 38), some (.int x1)] [] h Q :=
  wl_st d163_29 rfl rfl rfl rfl (wl_st d163_30 rfl rfl rfl rfl (wl_gf (v := .int (cm_I h 38 30)) d163_31 pf11_220 (ly_k L 38 rfl) rfl (wl_ic (v := 1) d163_34 rfl (wl_st d163_35 rfl rfl rfl rfl (wl_pf (h' := (cm_setI h 38 30 ((cm_I h 38 30) + (1 : Int32)))) d163_36 pf11_220 (ly_k L 38 rfl) (Or.inl rfl) rfl (wl_st d163_39 rfl rfl rfl rfl (wl_cv d163_40 rfl rfl rfl pm11_265 (by decide) (ca_v (Or.inl rfl) rfl (Nat.le_of_ble_eq_true rfl) (Nat.le_of_ble_eq_true rfl) (ly_k L 38 rfl).2 (ly_k L 38 rfl).1 (by decide)) H)))))))
theorem s163_43 {sc : cmS} {d : Nat} {h : cmH} {Q : Option Value → cmH → Prop} (L : LY h) (x1 : Int32) (H : cm_cv sc d 162 [.ref 38, .int x1] h (fun h' => cm_wp sc (d + 1) 163 48 [some (.ref 38), some (.int x1)] [] h' Q)) : cm_wp sc (d + 1) 163 43 [some (.ref 38), some (.int x1)] [] h Q :=
  wl_st d163_43 rfl rfl rfl rfl (wl_st d163_44 rfl rfl rfl rfl (wl_cv d163_45 rfl rfl rfl pm11_242 (by decide) (ca_v (Or.inl rfl) rfl (Nat.le_of_ble_eq_true rfl) (Nat.le_of_ble_eq_true rfl) (ly_k L 38 rfl).2 (ly_k L 38 rfl).1 (by decide)) H))
theorem s163_48 {sc : cmS} {d : Nat} {h : cmH} {Q : Option Value → cmH → Prop} (L : LY h) (x1 : Int32) (H : cm_ci sc d 159 [.ref 38] h (fun r h' => cm_wp sc (d + 1) 163 52 [some (.ref 38), some (.int x1)] [.int r] h' Q)) : cm_wp sc (d + 1) 163 48 [some (.ref 38), some (.int x1)] [] h Q :=
  wl_st d163_48 rfl rfl rfl rfl (wl_ci d163_49 rfl rfl rfl pm11_235 (by decide) (ca_v (Or.inl rfl) rfl (Nat.le_of_ble_eq_true rfl) (Nat.le_of_ble_eq_true rfl) (ly_k L 38 rfl).2 (ly_k L 38 rfl).1 (by decide)) H)
theorem s163_52 {sc : cmS} {d : Nat} {h : cmH} {Q : Option Value → cmH → Prop} (x1 : Int32) (sx0 : Int32) (H : cm_wp sc d 163 9 [some (.ref 38), some (.int sx0)] [] h Q) : cm_wp sc d 163 52 [some (.ref 38), some (.int x1)] [.int sx0] h Q :=
  wl_st (ls' := [some (.ref 38), some (.int sx0)]) d163_52 rfl rfl rfl rfl (wl_go (tgt := 9) d163_53 (by decide) (H))
-- ClogHouseModel.term()V
theorem d164_0 : decode (cm_M 164).2.2.1 0 = .ok (.aload_n 0, 1) := by decide +kernel
theorem d164_1 : decode (cm_M 164).2.2.1 1 = .ok (.invokevirtual 262, 3) := by decide +kernel
theorem d164_4 : decode (cm_M 164).2.2.1 4 = .ok (.aload_n 0, 1) := by decide +kernel
theorem d164_5 : decode (cm_M 164).2.2.1 5 = .ok (.invokevirtual 235, 3) := by decide +kernel
theorem d164_8 : decode (cm_M 164).2.2.1 8 = .ok (.istore_n 1, 1) := by decide +kernel
theorem d164_9 : decode (cm_M 164).2.2.1 9 = .ok (.aload_n 0, 1) := by decide +kernel
theorem d164_10 : decode (cm_M 164).2.2.1 10 = .ok (.getfield 223, 3) := by decide +kernel
theorem d164_13 : decode (cm_M 164).2.2.1 13 = .ok (.iconst (-1), 1) := by decide +kernel
theorem d164_14 : decode (cm_M 164).2.2.1 14 = .ok (.if_icmp .ne 42, 3) := by decide +kernel
theorem d164_17 : decode (cm_M 164).2.2.1 17 = .ok (.iload_n 1, 1) := by decide +kernel
theorem d164_18 : decode (cm_M 164).2.2.1 18 = .ok (.bipush 42, 2) := by decide +kernel
theorem d164_20 : decode (cm_M 164).2.2.1 20 = .ok (.if_icmp .eq 9, 3) := by decide +kernel
theorem d164_23 : decode (cm_M 164).2.2.1 23 = .ok (.iload_n 1, 1) := by decide +kernel
theorem d164_24 : decode (cm_M 164).2.2.1 24 = .ok (.bipush 47, 2) := by decide +kernel
theorem d164_26 : decode (cm_M 164).2.2.1 26 = .ok (.if_icmp .ne 30, 3) := by decide +kernel
theorem d164_29 : decode (cm_M 164).2.2.1 29 = .ok (.aload_n 0, 1) := by decide +kernel
theorem d164_30 : decode (cm_M 164).2.2.1 30 = .ok (.dup, 1) := by decide +kernel
theorem d164_31 : decode (cm_M 164).2.2.1 31 = .ok (.getfield 220, 3) := by decide +kernel
theorem d164_34 : decode (cm_M 164).2.2.1 34 = .ok (.iconst 1, 1) := by decide +kernel
theorem d164_35 : decode (cm_M 164).2.2.1 35 = .ok (.iadd, 1) := by decide +kernel
theorem d164_36 : decode (cm_M 164).2.2.1 36 = .ok (.putfield 220, 3) := by decide +kernel
theorem d164_39 : decode (cm_M 164).2.2.1 39 = .ok (.aload_n 0, 1) := by decide +kernel
theorem d164_40 : decode (cm_M 164).2.2.1 40 = .ok (.invokevirtual 262, 3) := by decide +kernel
theorem d164_43 : decode (cm_M 164).2.2.1 43 = .ok (.aload_n 0, 1) := by decide +kernel
theorem d164_44 : decode (cm_M 164).2.2.1 44 = .ok (.iload_n 1, 1) := by decide +kernel
theorem d164_45 : decode (cm_M 164).2.2.1 45 = .ok (.invokevirtual 242, 3) := by decide +kernel
theorem d164_48 : decode (cm_M 164).2.2.1 48 = .ok (.aload_n 0, 1) := by decide +kernel
theorem d164_49 : decode (cm_M 164).2.2.1 49 = .ok (.invokevirtual 235, 3) := by decide +kernel
theorem d164_52 : decode (cm_M 164).2.2.1 52 = .ok (.istore_n 1, 1) := by decide +kernel
theorem d164_53 : decode (cm_M 164).2.2.1 53 = .ok (.goto (-44), 3) := by decide +kernel
theorem d164_56 : decode (cm_M 164).2.2.1 56 = .ok (.return_, 1) := by decide +kernel
theorem s164_0 {sc : cmS} {d : Nat} {h : cmH} {Q : Option Value → cmH → Prop} (L : LY h) (u1 : Option Value) (H : cm_cv sc d 165 [.ref 38] h (fun h' => cm_wp sc (d + 1) 164 4 [some (.ref 38), u1] [] h' Q)) : cm_wp sc (d + 1) 164 0 [some (.ref 38), u1] [] h Q :=
  wl_st d164_0 rfl rfl rfl rfl (wl_cv d164_1 rfl rfl rfl pm11_262 (by decide) (ca_v (Or.inl rfl) rfl (Nat.le_of_ble_eq_true rfl) (Nat.le_of_ble_eq_true rfl) (ly_k L 38 rfl).2 (ly_k L 38 rfl).1 (by decide)) H)
theorem s164_4 {sc : cmS} {d : Nat} {h : cmH} {Q : Option Value → cmH → Prop} (L : LY h) (u1 : Option Value) (H : cm_ci sc d 159 [.ref 38] h (fun r h' => cm_wp sc (d + 1) 164 8 [some (.ref 38), u1] [.int r] h' Q)) : cm_wp sc (d + 1) 164 4 [some (.ref 38), u1] [] h Q :=
  wl_st d164_4 rfl rfl rfl rfl (wl_ci d164_5 rfl rfl rfl pm11_235 (by decide) (ca_v (Or.inl rfl) rfl (Nat.le_of_ble_eq_true rfl) (Nat.le_of_ble_eq_true rfl) (ly_k L 38 rfl).2 (ly_k L 38 rfl).1 (by decide)) H)
theorem s164_8 {sc : cmS} {d : Nat} {h : cmH} {Q : Option Value → cmH → Prop} (u1 : Option Value) (sx0 : Int32) (H : cm_wp sc d 164 9 [some (.ref 38), some (.int sx0)] [] h Q) : cm_wp sc d 164 8 [some (.ref 38), u1] [.int sx0] h Q :=
  wl_st (ls' := [some (.ref 38), some (.int sx0)]) d164_8 rfl rfl rfl rfl (H)
theorem s164_9 {sc : cmS} {d : Nat} {h : cmH} {Q : Option Value → cmH → Prop} (L : LY h) (x1 : Int32) (H : (((¬ (cm_I h 38 31) = (-1 : Int32)) → Q none h) ∧ (¬ (¬ (cm_I h 38 31) = (-1 : Int32)) → (((x1 = (42 : Int32)) → cm_wp sc d 164 29 [some (.ref 38), some (.int x1)] [] h Q) ∧ (¬ (x1 = (42 : Int32)) → (((¬ x1 = (47 : Int32)) → Q none h) ∧ (¬ (¬ x1 = (47 : Int32)) → cm_wp sc d 164 29 [some (.ref 38), some (.int x1)] [] h Q))))))) : cm_wp sc d 164 9 [some (.ref 38), some (.int x1)] [] h Q :=
  wl_st d164_9 rfl rfl rfl rfl (wl_gf (v := .int (cm_I h 38 31)) d164_10 pf11_223 (ly_k L 38 rfl) rfl (wl_ic (v := (-1)) d164_13 rfl (wl_cb (b := ¬ (cm_I h 38 31) = (-1 : Int32)) (off := 42) (tgt := 56) (pc3 := 17) (st' := []) d164_14 rfl rfl rfl rfl (by decide) rfl (fun c1 => wl_rt d164_56 rfl rfl rfl (H.1 c1)) (fun c1 => wl_st d164_17 rfl rfl rfl rfl (wl_bi (v := 42) d164_18 rfl (wl_cb (b := x1 = (42 : Int32)) (off := 9) (tgt := 29) (pc3 := 23) (st' := []) d164_20 rfl rfl rfl rfl (by decide) rfl (fun c2 => ((H.2 c1).1 c2)) (fun c2 => wl_st d164_23 rfl rfl rfl rfl (wl_bi (v := 47) d164_24 rfl (wl_cb (b := ¬ x1 = (47 : Int32)) (off := 30) (tgt := 56) (pc3 := 29) (st' := []) d164_26 rfl rfl rfl rfl (by decide) rfl (fun c3 => wl_rt d164_56 rfl rfl rfl (((H.2 c1).2 c2).1 c3)) (fun c3 => (((H.2 c1).2 c2).2 c3)))))))))))
theorem s164_29 {sc : cmS} {d : Nat} {h : cmH} {Q : Option Value → cmH → Prop} (L : LY h) (x1 : Int32) (H : cm_cv sc d 165 [.ref 38] (cm_setI h 38 30 ((cm_I h 38 30) + (1 : Int32))) (fun h' => cm_wp sc (d + 1) 164 43 [some (.ref 38), some (.int x1)] [] h' Q)) : cm_wp sc (d + 1) 164 29 [some (.ref 38), some (.int x1)] [] h Q :=
  wl_st d164_29 rfl rfl rfl rfl (wl_st d164_30 rfl rfl rfl rfl (wl_gf (v := .int (cm_I h 38 30)) d164_31 pf11_220 (ly_k L 38 rfl) rfl (wl_ic (v := 1) d164_34 rfl (wl_st d164_35 rfl rfl rfl rfl (wl_pf (h' := (cm_setI h 38 30 ((cm_I h 38 30) + (1 : Int32)))) d164_36 pf11_220 (ly_k L 38 rfl) (Or.inl rfl) rfl (wl_st d164_39 rfl rfl rfl rfl (wl_cv d164_40 rfl rfl rfl pm11_262 (by decide) (ca_v (Or.inl rfl) rfl (Nat.le_of_ble_eq_true rfl) (Nat.le_of_ble_eq_true rfl) (ly_k L 38 rfl).2 (ly_k L 38 rfl).1 (by decide)) H)))))))
theorem s164_43 {sc : cmS} {d : Nat} {h : cmH} {Q : Option Value → cmH → Prop} (L : LY h) (x1 : Int32) (H : cm_cv sc d 162 [.ref 38, .int x1] h (fun h' => cm_wp sc (d + 1) 164 48 [some (.ref 38), some (.int x1)] [] h' Q)) : cm_wp sc (d + 1) 164 43 [some (.ref 38), some (.int x1)] [] h Q :=
  wl_st d164_43 rfl rfl rfl rfl (wl_st d164_44 rfl rfl rfl rfl (wl_cv d164_45 rfl rfl rfl pm11_242 (by decide) (ca_v (Or.inl rfl) rfl (Nat.le_of_ble_eq_true rfl) (Nat.le_of_ble_eq_true rfl) (ly_k L 38 rfl).2 (ly_k L 38 rfl).1 (by decide)) H))
theorem s164_48 {sc : cmS} {d : Nat} {h : cmH} {Q : Option Value → cmH → Prop} (L : LY h) (x1 : Int32) (H : cm_ci sc d 159 [.ref 38] h (fun r h' => cm_wp sc (d + 1) 164 52 [some (.ref 38), some (.int x1)] [.int r] h' Q)) : cm_wp sc (d + 1) 164 48 [some (.ref 38), some (.int x1)] [] h Q :=
  wl_st d164_48 rfl rfl rfl rfl (wl_ci d164_49 rfl rfl rfl pm11_235 (by decide) (ca_v (Or.inl rfl) rfl (Nat.le_of_ble_eq_true rfl) (Nat.le_of_ble_eq_true rfl) (ly_k L 38 rfl).2 (ly_k L 38 rfl).1 (by decide)) H)
theorem s164_52 {sc : cmS} {d : Nat} {h : cmH} {Q : Option Value → cmH → Prop} (x1 : Int32) (sx0 : Int32) (H : cm_wp sc d 164 9 [some (.ref 38), some (.int sx0)] [] h Q) : cm_wp sc d 164 52 [some (.ref 38), some (.int x1)] [.int sx0] h Q :=
  wl_st (ls' := [some (.ref 38), some (.int sx0)]) d164_52 rfl rfl rfl rfl (wl_go (tgt := 9) d164_53 (by decide) (H))
-- ClogHouseModel.atom()V
theorem d165_0 : decode (cm_M 165).2.2.1 0 = .ok (.aload_n 0, 1) := by decide +kernel
theorem d165_1 : decode (cm_M 165).2.2.1 1 = .ok (.invokevirtual 235, 3) := by decide +kernel
theorem d165_4 : decode (cm_M 165).2.2.1 4 = .ok (.istore_n 1, 1) := by decide +kernel
theorem d165_5 : decode (cm_M 165).2.2.1 5 = .ok (.iload_n 1, 1) := by decide +kernel
theorem d165_6 : decode (cm_M 165).2.2.1 6 = .ok (.bipush 91, 2) := by decide +kernel
theorem d165_8 : decode (cm_M 165).2.2.1 8 = .ok (.if_icmp .ne 23, 3) := by decide +kernel
theorem d165_11 : decode (cm_M 165).2.2.1 11 = .ok (.aload_n 0, 1) := by decide +kernel
theorem d165_12 : decode (cm_M 165).2.2.1 12 = .ok (.invokevirtual 246, 3) := by decide +kernel
theorem d165_15 : decode (cm_M 165).2.2.1 15 = .ok (.ifCond .eq 50, 3) := by decide +kernel
theorem d165_18 : decode (cm_M 165).2.2.1 18 = .ok (.aload_n 0, 1) := by decide +kernel
theorem d165_19 : decode (cm_M 165).2.2.1 19 = .ok (.invokevirtual 250, 3) := by decide +kernel
theorem d165_22 : decode (cm_M 165).2.2.1 22 = .ok (.aload_n 0, 1) := by decide +kernel
theorem d165_23 : decode (cm_M 165).2.2.1 23 = .ok (.bipush 93, 2) := by decide +kernel
theorem d165_25 : decode (cm_M 165).2.2.1 25 = .ok (.invokevirtual 253, 3) := by decide +kernel
theorem d165_28 : decode (cm_M 165).2.2.1 28 = .ok (.goto 37, 3) := by decide +kernel
theorem d165_31 : decode (cm_M 165).2.2.1 31 = .ok (.iload_n 1, 1) := by decide +kernel
theorem d165_32 : decode (cm_M 165).2.2.1 32 = .ok (.invokestatic 256, 3) := by decide +kernel
theorem d165_35 : decode (cm_M 165).2.2.1 35 = .ok (.ifCond .eq 26, 3) := by decide +kernel
theorem d165_38 : decode (cm_M 165).2.2.1 38 = .ok (.aload_n 0, 1) := by decide +kernel
theorem d165_39 : decode (cm_M 165).2.2.1 39 = .ok (.dup, 1) := by decide +kernel
theorem d165_40 : decode (cm_M 165).2.2.1 40 = .ok (.getfield 220, 3) := by decide +kernel
theorem d165_43 : decode (cm_M 165).2.2.1 43 = .ok (.iconst 1, 1) := by decide +kernel
theorem d165_44 : decode (cm_M 165).2.2.1 44 = .ok (.iadd, 1) := by decide +kernel
theorem d165_45 : decode (cm_M 165).2.2.1 45 = .ok (.putfield 220, 3) := by decide +kernel
theorem d165_48 : decode (cm_M 165).2.2.1 48 = .ok (.aload_n 0, 1) := by decide +kernel
theorem d165_49 : decode (cm_M 165).2.2.1 49 = .ok (.iconst 1, 1) := by decide +kernel
theorem d165_50 : decode (cm_M 165).2.2.1 50 = .ok (.invokevirtual 242, 3) := by decide +kernel
theorem d165_53 : decode (cm_M 165).2.2.1 53 = .ok (.aload_n 0, 1) := by decide +kernel
theorem d165_54 : decode (cm_M 165).2.2.1 54 = .ok (.iload_n 1, 1) := by decide +kernel
theorem d165_55 : decode (cm_M 165).2.2.1 55 = .ok (.invokevirtual 242, 3) := by decide +kernel
theorem d165_58 : decode (cm_M 165).2.2.1 58 = .ok (.goto 7, 3) := by decide +kernel
theorem d165_61 : decode (cm_M 165).2.2.1 61 = .ok (.aload_n 0, 1) := by decide +kernel
theorem d165_62 : decode (cm_M 165).2.2.1 62 = .ok (.invokevirtual 259, 3) := by decide +kernel
theorem d165_65 : decode (cm_M 165).2.2.1 65 = .ok (.return_, 1) := by decide +kernel
theorem s165_0 {sc : cmS} {d : Nat} {h : cmH} {Q : Option Value → cmH → Prop} (L : LY h) (u1 : Option Value) (H : cm_ci sc d 159 [.ref 38] h (fun r h' => cm_wp sc (d + 1) 165 4 [some (.ref 38), u1] [.int r] h' Q)) : cm_wp sc (d + 1) 165 0 [some (.ref 38), u1] [] h Q :=
  wl_st d165_0 rfl rfl rfl rfl (wl_ci d165_1 rfl rfl rfl pm11_235 (by decide) (ca_v (Or.inl rfl) rfl (Nat.le_of_ble_eq_true rfl) (Nat.le_of_ble_eq_true rfl) (ly_k L 38 rfl).2 (ly_k L 38 rfl).1 (by decide)) H)
theorem s165_4 {sc : cmS} {d : Nat} {h : cmH} {Q : Option Value → cmH → Prop} (L : LY h) (u1 : Option Value) (sx0 : Int32) (H : (((¬ sx0 = (91 : Int32)) → cm_ci sc d 168 [.int sx0] h (fun r h' => cm_wp sc (d + 1) 165 35 [some (.ref 38), some (.int sx0)] [.int r] h' Q)) ∧ (¬ (¬ sx0 = (91 : Int32)) → cm_ci sc d 166 [.ref 38] h (fun r h' => cm_wp sc (d + 1) 165 15 [some (.ref 38), some (.int sx0)] [.int r] h' Q)))) : cm_wp sc (d + 1) 165 4 [some (.ref 38), u1] [.int sx0] h Q :=
  wl_st (ls' := [some (.ref 38), some (.int sx0)]) d165_4 rfl rfl rfl rfl (wl_st d165_5 rfl rfl rfl rfl (wl_bi (v := 91) d165_6 rfl (wl_cb (b := ¬ sx0 = (91 : Int32)) (off := 23) (tgt := 31) (pc3 := 11) (st' := []) d165_8 rfl rfl rfl rfl (by decide) rfl (fun c1 => wl_st d165_31 rfl rfl rfl rfl (wl_ci d165_32 rfl rfl rfl pm11_256 (by decide) (ca_s (Or.inl rfl) rfl (Nat.le_of_ble_eq_true rfl) (Nat.le_of_ble_eq_true rfl)) (H.1 c1))) (fun c1 => wl_st d165_11 rfl rfl rfl rfl (wl_ci d165_12 rfl rfl rfl pm11_246 (by decide) (ca_v (Or.inl rfl) rfl (Nat.le_of_ble_eq_true rfl) (Nat.le_of_ble_eq_true rfl) (ly_k L 38 rfl).2 (ly_k L 38 rfl).1 (by decide)) (H.2 c1))))))
theorem s165_15 {sc : cmS} {d : Nat} {h : cmH} {Q : Option Value → cmH → Prop} (L : LY h) (x1 : Int32) (sx0 : Int32) (H : (((sx0 = 0) → cm_wp sc (d + 1) 165 65 [some (.ref 38), some (.int x1)] [] h Q) ∧ (¬ (sx0 = 0) → cm_cv sc d 163 [.ref 38] h (fun h' => cm_wp sc (d + 1) 165 22 [some (.ref 38), some (.int x1)] [] h' Q)))) : cm_wp sc (d + 1) 165 15 [some (.ref 38), some (.int x1)] [.int sx0] h Q :=
  wl_cb (b := sx0 = 0) (off := 50) (tgt := 65) (pc3 := 18) (st' := []) d165_15 rfl rfl rfl rfl (by decide) rfl (fun c1 => (H.1 c1)) (fun c1 => wl_st d165_18 rfl rfl rfl rfl (wl_cv d165_19 rfl rfl rfl pm11_250 (by decide) (ca_v (Or.inl rfl) rfl (Nat.le_of_ble_eq_true rfl) (Nat.le_of_ble_eq_true rfl) (ly_k L 38 rfl).2 (ly_k L 38 rfl).1 (by decide)) (H.2 c1)))
theorem s165_22 {sc : cmS} {d : Nat} {h : cmH} {Q : Option Value → cmH → Prop} (L : LY h) (x1 : Int32) (H : cm_cv sc d 167 [.ref 38, .int (93 : Int32)] h (fun h' => cm_wp sc (d + 1) 165 28 [some (.ref 38), some (.int x1)] [] h' Q)) : cm_wp sc (d + 1) 165 22 [some (.ref 38), some (.int x1)] [] h Q :=
  wl_st d165_22 rfl rfl rfl rfl (wl_bi (v := 93) d165_23 rfl (wl_cv d165_25 rfl rfl rfl pm11_253 (by decide) (ca_v (Or.inl rfl) rfl (Nat.le_of_ble_eq_true rfl) (Nat.le_of_ble_eq_true rfl) (ly_k L 38 rfl).2 (ly_k L 38 rfl).1 (by decide)) H))
theorem s165_28 {sc : cmS} {d : Nat} {h : cmH} {Q : Option Value → cmH → Prop} (x1 : Int32) (H : cm_wp sc d 165 65 [some (.ref 38), some (.int x1)] [] h Q) : cm_wp sc d 165 28 [some (.ref 38), some (.int x1)] [] h Q :=
  wl_go (tgt := 65) d165_28 (by decide) (H)
theorem s165_35 {sc : cmS} {d : Nat} {h : cmH} {Q : Option Value → cmH → Prop} (L : LY h) (x1 : Int32) (sx0 : Int32) (H : (((sx0 = 0) → cm_cv sc d 169 [.ref 38] h (fun h' => cm_wp sc (d + 1) 165 65 [some (.ref 38), some (.int x1)] [] h' Q)) ∧ (¬ (sx0 = 0) → cm_cv sc d 162 [.ref 38, .int (1 : Int32)] (cm_setI h 38 30 ((cm_I h 38 30) + (1 : Int32))) (fun h' => cm_wp sc (d + 1) 165 53 [some (.ref 38), some (.int x1)] [] h' Q)))) : cm_wp sc (d + 1) 165 35 [some (.ref 38), some (.int x1)] [.int sx0] h Q :=
  wl_cb (b := sx0 = 0) (off := 26) (tgt := 61) (pc3 := 38) (st' := []) d165_35 rfl rfl rfl rfl (by decide) rfl (fun c1 => wl_st d165_61 rfl rfl rfl rfl (wl_cv d165_62 rfl rfl rfl pm11_259 (by decide) (ca_v (Or.inl rfl) rfl (Nat.le_of_ble_eq_true rfl) (Nat.le_of_ble_eq_true rfl) (ly_k L 38 rfl).2 (ly_k L 38 rfl).1 (by decide)) (H.1 c1))) (fun c1 => wl_st d165_38 rfl rfl rfl rfl (wl_st d165_39 rfl rfl rfl rfl (wl_gf (v := .int (cm_I h 38 30)) d165_40 pf11_220 (ly_k L 38 rfl) rfl (wl_ic (v := 1) d165_43 rfl (wl_st d165_44 rfl rfl rfl rfl (wl_pf (h' := (cm_setI h 38 30 ((cm_I h 38 30) + (1 : Int32)))) d165_45 pf11_220 (ly_k L 38 rfl) (Or.inl rfl) rfl (wl_st d165_48 rfl rfl rfl rfl (wl_ic (v := 1) d165_49 rfl (wl_cv d165_50 rfl rfl rfl pm11_242 (by decide) (ca_v (Or.inl rfl) rfl (Nat.le_of_ble_eq_true rfl) (Nat.le_of_ble_eq_true rfl) (ly_k L 38 rfl).2 (ly_k L 38 rfl).1 (by decide)) (H.2 c1))))))))))
theorem s165_53 {sc : cmS} {d : Nat} {h : cmH} {Q : Option Value → cmH → Prop} (L : LY h) (x1 : Int32) (H : cm_cv sc d 162 [.ref 38, .int x1] h (fun h' => cm_wp sc (d + 1) 165 58 [some (.ref 38), some (.int x1)] [] h' Q)) : cm_wp sc (d + 1) 165 53 [some (.ref 38), some (.int x1)] [] h Q :=
  wl_st d165_53 rfl rfl rfl rfl (wl_st d165_54 rfl rfl rfl rfl (wl_cv d165_55 rfl rfl rfl pm11_242 (by decide) (ca_v (Or.inl rfl) rfl (Nat.le_of_ble_eq_true rfl) (Nat.le_of_ble_eq_true rfl) (ly_k L 38 rfl).2 (ly_k L 38 rfl).1 (by decide)) H))
theorem s165_58 {sc : cmS} {d : Nat} {h : cmH} {Q : Option Value → cmH → Prop} (x1 : Int32) (H : cm_wp sc d 165 65 [some (.ref 38), some (.int x1)] [] h Q) : cm_wp sc d 165 58 [some (.ref 38), some (.int x1)] [] h Q :=
  wl_go (tgt := 65) d165_58 (by decide) (H)
theorem s165_65 {sc : cmS} {d : Nat} {h : cmH} {Q : Option Value → cmH → Prop} (x1 : Int32) (H : Q none h) : cm_wp sc d 165 65 [some (.ref 38), some (.int x1)] [] h Q :=
  wl_rt d165_65 rfl rfl rfl H
-- ClogHouseModel.opens()Z
theorem d166_0 : decode (cm_M 166).2.2.1 0 = .ok (.aload_n 0, 1) := by decide +kernel
theorem d166_1 : decode (cm_M 166).2.2.1 1 = .ok (.getfield 229, 3) := by decide +kernel
theorem d166_4 : decode (cm_M 166).2.2.1 4 = .ok (.bipush 6, 2) := by decide +kernel
theorem d166_6 : decode (cm_M 166).2.2.1 6 = .ok (.if_icmp .ne 9, 3) := by decide +kernel
theorem d166_9 : decode (cm_M 166).2.2.1 9 = .ok (.aload_n 0, 1) := by decide +kernel
theorem d166_10 : decode (cm_M 166).2.2.1 10 = .ok (.invokevirtual 232, 3) := by decide +kernel
theorem d166_13 : decode (cm_M 166).2.2.1 13 = .ok (.iconst 0, 1) := by decide +kernel
theorem d166_14 : decode (cm_M 166).2.2.1 14 = .ok (.ireturn, 1) := by decide +kernel
theorem d166_15 : decode (cm_M 166).2.2.1 15 = .ok (.aload_n 0, 1) := by decide +kernel
theorem d166_16 : decode (cm_M 166).2.2.1 16 = .ok (.dup, 1) := by decide +kernel
theorem d166_17 : decode (cm_M 166).2.2.1 17 = .ok (.getfield 229, 3) := by decide +kernel
theorem d166_20 : decode (cm_M 166).2.2.1 20 = .ok (.iconst 1, 1) := by decide +kernel
theorem d166_21 : decode (cm_M 166).2.2.1 21 = .ok (.iadd, 1) := by decide +kernel
theorem d166_22 : decode (cm_M 166).2.2.1 22 = .ok (.putfield 229, 3) := by decide +kernel
theorem d166_25 : decode (cm_M 166).2.2.1 25 = .ok (.aload_n 0, 1) := by decide +kernel
theorem d166_26 : decode (cm_M 166).2.2.1 26 = .ok (.dup, 1) := by decide +kernel
theorem d166_27 : decode (cm_M 166).2.2.1 27 = .ok (.getfield 220, 3) := by decide +kernel
theorem d166_30 : decode (cm_M 166).2.2.1 30 = .ok (.iconst 1, 1) := by decide +kernel
theorem d166_31 : decode (cm_M 166).2.2.1 31 = .ok (.iadd, 1) := by decide +kernel
theorem d166_32 : decode (cm_M 166).2.2.1 32 = .ok (.putfield 220, 3) := by decide +kernel
theorem d166_35 : decode (cm_M 166).2.2.1 35 = .ok (.iconst 1, 1) := by decide +kernel
theorem d166_36 : decode (cm_M 166).2.2.1 36 = .ok (.ireturn, 1) := by decide +kernel
theorem s166_0 {sc : cmS} {d : Nat} {h : cmH} {Q : Option Value → cmH → Prop} (L : LY h)  (H : (((¬ (cm_I h 38 32) = (6 : Int32)) → Q (some (.int (1 : Int32))) (cm_setI (cm_setI h 38 32 ((cm_I h 38 32) + (1 : Int32))) 38 30 ((cm_I h 38 30) + (1 : Int32)))) ∧ (¬ (¬ (cm_I h 38 32) = (6 : Int32)) → cm_cv sc d 161 [.ref 38] h (fun h' => cm_wp sc (d + 1) 166 13 [some (.ref 38)] [] h' Q)))) : cm_wp sc (d + 1) 166 0 [some (.ref 38)] [] h Q :=
  wl_st d166_0 rfl rfl rfl rfl (wl_gf (v := .int (cm_I h 38 32)) d166_1 pf11_229 (ly_k L 38 rfl) rfl (wl_bi (v := 6) d166_4 rfl (wl_cb (b := ¬ (cm_I h 38 32) = (6 : Int32)) (off := 9) (tgt := 15) (pc3 := 9) (st' := []) d166_6 rfl rfl rfl rfl (by decide) rfl (fun c1 => wl_st d166_15 rfl rfl rfl rfl (wl_st d166_16 rfl rfl rfl rfl (wl_gf (v := .int (cm_I h 38 32)) d166_17 pf11_229 (ly_k L 38 rfl) rfl (wl_ic (v := 1) d166_20 rfl (wl_st d166_21 rfl rfl rfl rfl (wl_pf (h' := (cm_setI h 38 32 ((cm_I h 38 32) + (1 : Int32)))) d166_22 pf11_229 (ly_k L 38 rfl) (Or.inl rfl) rfl (wl_st d166_25 rfl rfl rfl rfl (wl_st d166_26 rfl rfl rfl rfl (wl_gf (v := .int (cm_I h 38 30)) d166_27 pf11_220 (ly_k L 38 rfl) rfl (wl_ic (v := 1) d166_30 rfl (wl_st d166_31 rfl rfl rfl rfl (wl_pf (h' := (cm_setI (cm_setI h 38 32 ((cm_I h 38 32) + (1 : Int32))) 38 30 ((cm_I h 38 30) + (1 : Int32)))) d166_32 pf11_220 (ly_k L 38 rfl) (Or.inl rfl) rfl (wl_ic (v := 1) d166_35 rfl (wl_rz d166_36 rfl (by decide) (H.1 c1))))))))))))))) (fun c1 => wl_st d166_9 rfl rfl rfl rfl (wl_cv d166_10 rfl rfl rfl pm11_232 (by decide) (ca_v (Or.inl rfl) rfl (Nat.le_of_ble_eq_true rfl) (Nat.le_of_ble_eq_true rfl) (ly_k L 38 rfl).2 (ly_k L 38 rfl).1 (by decide)) (H.2 c1))))))
theorem s166_13 {sc : cmS} {d : Nat} {h : cmH} {Q : Option Value → cmH → Prop}  (H : Q (some (.int (0 : Int32))) h) : cm_wp sc d 166 13 [some (.ref 38)] [] h Q :=
  wl_ic (v := 0) d166_13 rfl (wl_rz d166_14 rfl (by decide) H)
-- ClogHouseModel.closes(I)V
theorem d167_0 : decode (cm_M 167).2.2.1 0 = .ok (.aload_n 0, 1) := by decide +kernel
theorem d167_1 : decode (cm_M 167).2.2.1 1 = .ok (.getfield 223, 3) := by decide +kernel
theorem d167_4 : decode (cm_M 167).2.2.1 4 = .ok (.iconst (-1), 1) := by decide +kernel
theorem d167_5 : decode (cm_M 167).2.2.1 5 = .ok (.if_icmp .ne 15, 3) := by decide +kernel
theorem d167_8 : decode (cm_M 167).2.2.1 8 = .ok (.aload_n 0, 1) := by decide +kernel
theorem d167_9 : decode (cm_M 167).2.2.1 9 = .ok (.invokevirtual 235, 3) := by decide +kernel
theorem d167_12 : decode (cm_M 167).2.2.1 12 = .ok (.iload_n 1, 1) := by decide +kernel
theorem d167_13 : decode (cm_M 167).2.2.1 13 = .ok (.if_icmp .eq 7, 3) := by decide +kernel
theorem d167_16 : decode (cm_M 167).2.2.1 16 = .ok (.aload_n 0, 1) := by decide +kernel
theorem d167_17 : decode (cm_M 167).2.2.1 17 = .ok (.invokevirtual 232, 3) := by decide +kernel
theorem d167_20 : decode (cm_M 167).2.2.1 20 = .ok (.aload_n 0, 1) := by decide +kernel
theorem d167_21 : decode (cm_M 167).2.2.1 21 = .ok (.dup, 1) := by decide +kernel
theorem d167_22 : decode (cm_M 167).2.2.1 22 = .ok (.getfield 220, 3) := by decide +kernel
theorem d167_25 : decode (cm_M 167).2.2.1 25 = .ok (.iconst 1, 1) := by decide +kernel
theorem d167_26 : decode (cm_M 167).2.2.1 26 = .ok (.iadd, 1) := by decide +kernel
theorem d167_27 : decode (cm_M 167).2.2.1 27 = .ok (.putfield 220, 3) := by decide +kernel
theorem d167_30 : decode (cm_M 167).2.2.1 30 = .ok (.aload_n 0, 1) := by decide +kernel
theorem d167_31 : decode (cm_M 167).2.2.1 31 = .ok (.dup, 1) := by decide +kernel
theorem d167_32 : decode (cm_M 167).2.2.1 32 = .ok (.getfield 229, 3) := by decide +kernel
theorem d167_35 : decode (cm_M 167).2.2.1 35 = .ok (.iconst 1, 1) := by decide +kernel
theorem d167_36 : decode (cm_M 167).2.2.1 36 = .ok (.isub, 1) := by decide +kernel
theorem d167_37 : decode (cm_M 167).2.2.1 37 = .ok (.putfield 229, 3) := by decide +kernel
theorem d167_40 : decode (cm_M 167).2.2.1 40 = .ok (.return_, 1) := by decide +kernel
theorem s167_0 {sc : cmS} {d : Nat} {h : cmH} {Q : Option Value → cmH → Prop} (L : LY h) (x1 : Int32) (H : (((¬ (cm_I h 38 31) = (-1 : Int32)) → cm_wp sc (d + 1) 167 20 [some (.ref 38), some (.int x1)] [] h Q) ∧ (¬ (¬ (cm_I h 38 31) = (-1 : Int32)) → cm_ci sc d 159 [.ref 38] h (fun r h' => cm_wp sc (d + 1) 167 12 [some (.ref 38), some (.int x1)] [.int r] h' Q)))) : cm_wp sc (d + 1) 167 0 [some (.ref 38), some (.int x1)] [] h Q :=
  wl_st d167_0 rfl rfl rfl rfl (wl_gf (v := .int (cm_I h 38 31)) d167_1 pf11_223 (ly_k L 38 rfl) rfl (wl_ic (v := (-1)) d167_4 rfl (wl_cb (b := ¬ (cm_I h 38 31) = (-1 : Int32)) (off := 15) (tgt := 20) (pc3 := 8) (st' := []) d167_5 rfl rfl rfl rfl (by decide) rfl (fun c1 => (H.1 c1)) (fun c1 => wl_st d167_8 rfl rfl rfl rfl (wl_ci d167_9 rfl rfl rfl pm11_235 (by decide) (ca_v (Or.inl rfl) rfl (Nat.le_of_ble_eq_true rfl) (Nat.le_of_ble_eq_true rfl) (ly_k L 38 rfl).2 (ly_k L 38 rfl).1 (by decide)) (H.2 c1))))))
theorem s167_12 {sc : cmS} {d : Nat} {h : cmH} {Q : Option Value → cmH → Prop} (L : LY h) (x1 : Int32) (sx0 : Int32) (H : (((sx0 = x1) → cm_wp sc (d + 1) 167 20 [some (.ref 38), some (.int x1)] [] h Q) ∧ (¬ (sx0 = x1) → cm_cv sc d 161 [.ref 38] h (fun h' => cm_wp sc (d + 1) 167 20 [some (.ref 38), some (.int x1)] [] h' Q)))) : cm_wp sc (d + 1) 167 12 [some (.ref 38), some (.int x1)] [.int sx0] h Q :=
  wl_st d167_12 rfl rfl rfl rfl (wl_cb (b := sx0 = x1) (off := 7) (tgt := 20) (pc3 := 16) (st' := []) d167_13 rfl rfl rfl rfl (by decide) rfl (fun c1 => (H.1 c1)) (fun c1 => wl_st d167_16 rfl rfl rfl rfl (wl_cv d167_17 rfl rfl rfl pm11_232 (by decide) (ca_v (Or.inl rfl) rfl (Nat.le_of_ble_eq_true rfl) (Nat.le_of_ble_eq_true rfl) (ly_k L 38 rfl).2 (ly_k L 38 rfl).1 (by decide)) (H.2 c1))))
theorem s167_20 {sc : cmS} {d : Nat} {h : cmH} {Q : Option Value → cmH → Prop} (L : LY h) (x1 : Int32) (H : Q none (cm_setI (cm_setI h 38 30 ((cm_I h 38 30) + (1 : Int32))) 38 32 ((cm_I h 38 32) - (1 : Int32)))) : cm_wp sc d 167 20 [some (.ref 38), some (.int x1)] [] h Q :=
  wl_st d167_20 rfl rfl rfl rfl (wl_st d167_21 rfl rfl rfl rfl (wl_gf (v := .int (cm_I h 38 30)) d167_22 pf11_220 (ly_k L 38 rfl) rfl (wl_ic (v := 1) d167_25 rfl (wl_st d167_26 rfl rfl rfl rfl (wl_pf (h' := (cm_setI h 38 30 ((cm_I h 38 30) + (1 : Int32)))) d167_27 pf11_220 (ly_k L 38 rfl) (Or.inl rfl) rfl (wl_st d167_30 rfl rfl rfl rfl (wl_st d167_31 rfl rfl rfl rfl (wl_gf (v := .int (cm_I h 38 32)) d167_32 pf11_229 (ly_k L 38 rfl) rfl (wl_ic (v := 1) d167_35 rfl (wl_st d167_36 rfl rfl rfl rfl (wl_pf (h' := (cm_setI (cm_setI h 38 30 ((cm_I h 38 30) + (1 : Int32))) 38 32 ((cm_I h 38 32) - (1 : Int32)))) d167_37 pf11_229 (ly_k L 38 rfl) (Or.inl rfl) rfl (wl_rt d167_40 rfl rfl rfl H))))))))))))
-- ClogHouseModel.isLetter(I)Z
theorem d168_0 : decode (cm_M 168).2.2.1 0 = .ok (.iload_n 0, 1) := by decide +kernel
theorem d168_1 : decode (cm_M 168).2.2.1 1 = .ok (.bipush 112, 2) := by decide +kernel
theorem d168_3 : decode (cm_M 168).2.2.1 3 = .ok (.if_icmp .eq 33, 3) := by decide +kernel
theorem d168_6 : decode (cm_M 168).2.2.1 6 = .ok (.iload_n 0, 1) := by decide +kernel
theorem d168_7 : decode (cm_M 168).2.2.1 7 = .ok (.bipush 104, 2) := by decide +kernel
theorem d168_9 : decode (cm_M 168).2.2.1 9 = .ok (.if_icmp .eq 27, 3) := by decide +kernel
theorem d168_12 : decode (cm_M 168).2.2.1 12 = .ok (.iload_n 0, 1) := by decide +kernel
theorem d168_13 : decode (cm_M 168).2.2.1 13 = .ok (.bipush 111, 2) := by decide +kernel
theorem d168_15 : decode (cm_M 168).2.2.1 15 = .ok (.if_icmp .eq 21, 3) := by decide +kernel
theorem d168_18 : decode (cm_M 168).2.2.1 18 = .ok (.iload_n 0, 1) := by decide +kernel
theorem d168_19 : decode (cm_M 168).2.2.1 19 = .ok (.bipush 105, 2) := by decide +kernel
theorem d168_21 : decode (cm_M 168).2.2.1 21 = .ok (.if_icmp .eq 15, 3) := by decide +kernel
theorem d168_24 : decode (cm_M 168).2.2.1 24 = .ok (.iload_n 0, 1) := by decide +kernel
theorem d168_25 : decode (cm_M 168).2.2.1 25 = .ok (.bipush 110, 2) := by decide +kernel
theorem d168_27 : decode (cm_M 168).2.2.1 27 = .ok (.if_icmp .eq 9, 3) := by decide +kernel
theorem d168_30 : decode (cm_M 168).2.2.1 30 = .ok (.iload_n 0, 1) := by decide +kernel
theorem d168_31 : decode (cm_M 168).2.2.1 31 = .ok (.bipush 107, 2) := by decide +kernel
theorem d168_33 : decode (cm_M 168).2.2.1 33 = .ok (.if_icmp .ne 7, 3) := by decide +kernel
theorem d168_36 : decode (cm_M 168).2.2.1 36 = .ok (.iconst 1, 1) := by decide +kernel
theorem d168_37 : decode (cm_M 168).2.2.1 37 = .ok (.goto 4, 3) := by decide +kernel
theorem d168_40 : decode (cm_M 168).2.2.1 40 = .ok (.iconst 0, 1) := by decide +kernel
theorem d168_41 : decode (cm_M 168).2.2.1 41 = .ok (.ireturn, 1) := by decide +kernel
theorem s168_0 {sc : cmS} {d : Nat} {h : cmH} {Q : Option Value → cmH → Prop} (x0 : Int32) (H : (((x0 = (112 : Int32)) → cm_wp sc d 168 36 [some (.int x0)] [] h Q) ∧ (¬ (x0 = (112 : Int32)) → (((x0 = (104 : Int32)) → cm_wp sc d 168 36 [some (.int x0)] [] h Q) ∧ (¬ (x0 = (104 : Int32)) → (((x0 = (111 : Int32)) → cm_wp sc d 168 36 [some (.int x0)] [] h Q) ∧ (¬ (x0 = (111 : Int32)) → (((x0 = (105 : Int32)) → cm_wp sc d 168 36 [some (.int x0)] [] h Q) ∧ (¬ (x0 = (105 : Int32)) → (((x0 = (110 : Int32)) → cm_wp sc d 168 36 [some (.int x0)] [] h Q) ∧ (¬ (x0 = (110 : Int32)) → (((¬ x0 = (107 : Int32)) → Q (some (.int (0 : Int32))) h) ∧ (¬ (¬ x0 = (107 : Int32)) → cm_wp sc d 168 36 [some (.int x0)] [] h Q))))))))))))) : cm_wp sc d 168 0 [some (.int x0)] [] h Q :=
  wl_st d168_0 rfl rfl rfl rfl (wl_bi (v := 112) d168_1 rfl (wl_cb (b := x0 = (112 : Int32)) (off := 33) (tgt := 36) (pc3 := 6) (st' := []) d168_3 rfl rfl rfl rfl (by decide) rfl (fun c1 => (H.1 c1)) (fun c1 => wl_st d168_6 rfl rfl rfl rfl (wl_bi (v := 104) d168_7 rfl (wl_cb (b := x0 = (104 : Int32)) (off := 27) (tgt := 36) (pc3 := 12) (st' := []) d168_9 rfl rfl rfl rfl (by decide) rfl (fun c2 => ((H.2 c1).1 c2)) (fun c2 => wl_st d168_12 rfl rfl rfl rfl (wl_bi (v := 111) d168_13 rfl (wl_cb (b := x0 = (111 : Int32)) (off := 21) (tgt := 36) (pc3 := 18) (st' := []) d168_15 rfl rfl rfl rfl (by decide) rfl (fun c3 => (((H.2 c1).2 c2).1 c3)) (fun c3 => wl_st d168_18 rfl rfl rfl rfl (wl_bi (v := 105) d168_19 rfl (wl_cb (b := x0 = (105 : Int32)) (off := 15) (tgt := 36) (pc3 := 24) (st' := []) d168_21 rfl rfl rfl rfl (by decide) rfl (fun c4 => ((((H.2 c1).2 c2).2 c3).1 c4)) (fun c4 => wl_st d168_24 rfl rfl rfl rfl (wl_bi (v := 110) d168_25 rfl (wl_cb (b := x0 = (110 : Int32)) (off := 9) (tgt := 36) (pc3 := 30) (st' := []) d168_27 rfl rfl rfl rfl (by decide) rfl (fun c5 => (((((H.2 c1).2 c2).2 c3).2 c4).1 c5)) (fun c5 => wl_st d168_30 rfl rfl rfl rfl (wl_bi (v := 107) d168_31 rfl (wl_cb (b := ¬ x0 = (107 : Int32)) (off := 7) (tgt := 40) (pc3 := 36) (st' := []) d168_33 rfl rfl rfl rfl (by decide) rfl (fun c6 => wl_ic (v := 0) d168_40 rfl (wl_rz d168_41 rfl (by decide) ((((((H.2 c1).2 c2).2 c3).2 c4).2 c5).1 c6))) (fun c6 => ((((((H.2 c1).2 c2).2 c3).2 c4).2 c5).2 c6)))))))))))))))))))
theorem s168_36 {sc : cmS} {d : Nat} {h : cmH} {Q : Option Value → cmH → Prop} (x0 : Int32) (H : Q (some (.int (1 : Int32))) h) : cm_wp sc d 168 36 [some (.int x0)] [] h Q :=
  wl_ic (v := 1) d168_36 rfl (wl_go (tgt := 41) d168_37 (by decide) (wl_rz d168_41 rfl (by decide) H))
-- ClogHouseModel.number()V
theorem d169_0 : decode (cm_M 169).2.2.1 0 = .ok (.aload_n 0, 1) := by decide +kernel
theorem d169_1 : decode (cm_M 169).2.2.1 1 = .ok (.invokevirtual 235, 3) := by decide +kernel
theorem d169_4 : decode (cm_M 169).2.2.1 4 = .ok (.invokestatic 239, 3) := by decide +kernel
theorem d169_7 : decode (cm_M 169).2.2.1 7 = .ok (.ifCond .ne 8, 3) := by decide +kernel
theorem d169_10 : decode (cm_M 169).2.2.1 10 = .ok (.aload_n 0, 1) := by decide +kernel
theorem d169_11 : decode (cm_M 169).2.2.1 11 = .ok (.invokevirtual 232, 3) := by decide +kernel
theorem d169_14 : decode (cm_M 169).2.2.1 14 = .ok (.return_, 1) := by decide +kernel
theorem d169_15 : decode (cm_M 169).2.2.1 15 = .ok (.iconst 0, 1) := by decide +kernel
theorem d169_16 : decode (cm_M 169).2.2.1 16 = .ok (.istore_n 1, 1) := by decide +kernel
theorem d169_17 : decode (cm_M 169).2.2.1 17 = .ok (.iconst 0, 1) := by decide +kernel
theorem d169_18 : decode (cm_M 169).2.2.1 18 = .ok (.istore_n 2, 1) := by decide +kernel
theorem d169_19 : decode (cm_M 169).2.2.1 19 = .ok (.aload_n 0, 1) := by decide +kernel
theorem d169_20 : decode (cm_M 169).2.2.1 20 = .ok (.getfield 220, 3) := by decide +kernel
theorem d169_23 : decode (cm_M 169).2.2.1 23 = .ok (.aload_n 0, 1) := by decide +kernel
theorem d169_24 : decode (cm_M 169).2.2.1 24 = .ok (.getfield 217, 3) := by decide +kernel
theorem d169_27 : decode (cm_M 169).2.2.1 27 = .ok (.if_icmp .ge 62, 3) := by decide +kernel
theorem d169_30 : decode (cm_M 169).2.2.1 30 = .ok (.aload_n 0, 1) := by decide +kernel
theorem d169_31 : decode (cm_M 169).2.2.1 31 = .ok (.getfield 77, 3) := by decide +kernel
theorem d169_34 : decode (cm_M 169).2.2.1 34 = .ok (.aload_n 0, 1) := by decide +kernel
theorem d169_35 : decode (cm_M 169).2.2.1 35 = .ok (.getfield 220, 3) := by decide +kernel
theorem d169_38 : decode (cm_M 169).2.2.1 38 = .ok (.iaload, 1) := by decide +kernel
theorem d169_39 : decode (cm_M 169).2.2.1 39 = .ok (.invokestatic 239, 3) := by decide +kernel
theorem d169_42 : decode (cm_M 169).2.2.1 42 = .ok (.ifCond .eq 47, 3) := by decide +kernel
theorem d169_45 : decode (cm_M 169).2.2.1 45 = .ok (.iload_n 2, 1) := by decide +kernel
theorem d169_46 : decode (cm_M 169).2.2.1 46 = .ok (.iconst 4, 1) := by decide +kernel
theorem d169_47 : decode (cm_M 169).2.2.1 47 = .ok (.if_icmp .ne 8, 3) := by decide +kernel
theorem d169_50 : decode (cm_M 169).2.2.1 50 = .ok (.aload_n 0, 1) := by decide +kernel
theorem d169_51 : decode (cm_M 169).2.2.1 51 = .ok (.invokevirtual 232, 3) := by decide +kernel
theorem d169_54 : decode (cm_M 169).2.2.1 54 = .ok (.return_, 1) := by decide +kernel
theorem d169_55 : decode (cm_M 169).2.2.1 55 = .ok (.bipush 10, 2) := by decide +kernel
theorem d169_57 : decode (cm_M 169).2.2.1 57 = .ok (.iload_n 1, 1) := by decide +kernel
theorem d169_58 : decode (cm_M 169).2.2.1 58 = .ok (.imul, 1) := by decide +kernel
theorem d169_59 : decode (cm_M 169).2.2.1 59 = .ok (.aload_n 0, 1) := by decide +kernel
theorem d169_60 : decode (cm_M 169).2.2.1 60 = .ok (.getfield 77, 3) := by decide +kernel
theorem d169_63 : decode (cm_M 169).2.2.1 63 = .ok (.aload_n 0, 1) := by decide +kernel
theorem d169_64 : decode (cm_M 169).2.2.1 64 = .ok (.getfield 220, 3) := by decide +kernel
theorem d169_67 : decode (cm_M 169).2.2.1 67 = .ok (.iaload, 1) := by decide +kernel
theorem d169_68 : decode (cm_M 169).2.2.1 68 = .ok (.iadd, 1) := by decide +kernel
theorem d169_69 : decode (cm_M 169).2.2.1 69 = .ok (.bipush 48, 2) := by decide +kernel
theorem d169_71 : decode (cm_M 169).2.2.1 71 = .ok (.isub, 1) := by decide +kernel
theorem d169_72 : decode (cm_M 169).2.2.1 72 = .ok (.istore_n 1, 1) := by decide +kernel
theorem d169_73 : decode (cm_M 169).2.2.1 73 = .ok (.iinc 2 1, 3) := by decide +kernel
theorem d169_76 : decode (cm_M 169).2.2.1 76 = .ok (.aload_n 0, 1) := by decide +kernel
theorem d169_77 : decode (cm_M 169).2.2.1 77 = .ok (.dup, 1) := by decide +kernel
theorem d169_78 : decode (cm_M 169).2.2.1 78 = .ok (.getfield 220, 3) := by decide +kernel
theorem d169_81 : decode (cm_M 169).2.2.1 81 = .ok (.iconst 1, 1) := by decide +kernel
theorem d169_82 : decode (cm_M 169).2.2.1 82 = .ok (.iadd, 1) := by decide +kernel
theorem d169_83 : decode (cm_M 169).2.2.1 83 = .ok (.putfield 220, 3) := by decide +kernel
theorem d169_86 : decode (cm_M 169).2.2.1 86 = .ok (.goto (-67), 3) := by decide +kernel
theorem d169_89 : decode (cm_M 169).2.2.1 89 = .ok (.aload_n 0, 1) := by decide +kernel
theorem d169_90 : decode (cm_M 169).2.2.1 90 = .ok (.iconst 0, 1) := by decide +kernel
theorem d169_91 : decode (cm_M 169).2.2.1 91 = .ok (.invokevirtual 242, 3) := by decide +kernel
theorem d169_94 : decode (cm_M 169).2.2.1 94 = .ok (.aload_n 0, 1) := by decide +kernel
theorem d169_95 : decode (cm_M 169).2.2.1 95 = .ok (.iload_n 1, 1) := by decide +kernel
theorem d169_96 : decode (cm_M 169).2.2.1 96 = .ok (.invokevirtual 242, 3) := by decide +kernel
theorem d169_99 : decode (cm_M 169).2.2.1 99 = .ok (.return_, 1) := by decide +kernel
theorem s169_0 {sc : cmS} {d : Nat} {h : cmH} {Q : Option Value → cmH → Prop} (L : LY h) (u1 : Option Value) (u2 : Option Value) (H : cm_ci sc d 159 [.ref 38] h (fun r h' => cm_wp sc (d + 1) 169 4 [some (.ref 38), u1, u2] [.int r] h' Q)) : cm_wp sc (d + 1) 169 0 [some (.ref 38), u1, u2] [] h Q :=
  wl_st d169_0 rfl rfl rfl rfl (wl_ci d169_1 rfl rfl rfl pm11_235 (by decide) (ca_v (Or.inl rfl) rfl (Nat.le_of_ble_eq_true rfl) (Nat.le_of_ble_eq_true rfl) (ly_k L 38 rfl).2 (ly_k L 38 rfl).1 (by decide)) H)
theorem s169_4 {sc : cmS} {d : Nat} {h : cmH} {Q : Option Value → cmH → Prop} (u1 : Option Value) (u2 : Option Value) (sx0 : Int32) (H : cm_ci sc d 170 [.int sx0] h (fun r h' => cm_wp sc (d + 1) 169 7 [some (.ref 38), u1, u2] [.int r] h' Q)) : cm_wp sc (d + 1) 169 4 [some (.ref 38), u1, u2] [.int sx0] h Q :=
  wl_ci d169_4 rfl rfl rfl pm11_239 (by decide) (ca_s (Or.inl rfl) rfl (Nat.le_of_ble_eq_true rfl) (Nat.le_of_ble_eq_true rfl)) H
theorem s169_7 {sc : cmS} {d : Nat} {h : cmH} {Q : Option Value → cmH → Prop} (L : LY h) (u1 : Option Value) (u2 : Option Value) (sx0 : Int32) (H : (((¬ sx0 = 0) → cm_wp sc (d + 1) 169 19 [some (.ref 38), some (.int (0 : Int32)), some (.int (0 : Int32))] [] h Q) ∧ (¬ (¬ sx0 = 0) → cm_cv sc d 161 [.ref 38] h (fun h' => cm_wp sc (d + 1) 169 14 [some (.ref 38), u1, u2] [] h' Q)))) : cm_wp sc (d + 1) 169 7 [some (.ref 38), u1, u2] [.int sx0] h Q :=
  wl_cb (b := ¬ sx0 = 0) (off := 8) (tgt := 15) (pc3 := 10) (st' := []) d169_7 rfl rfl rfl rfl (by decide) rfl (fun c1 => wl_ic (v := 0) d169_15 rfl (wl_st (ls' := [some (.ref 38), some (.int (0 : Int32)), u2]) d169_16 rfl rfl rfl rfl (wl_ic (v := 0) d169_17 rfl (wl_st (ls' := [some (.ref 38), some (.int (0 : Int32)), some (.int (0 : Int32))]) d169_18 rfl rfl rfl rfl ((H.1 c1)))))) (fun c1 => wl_st d169_10 rfl rfl rfl rfl (wl_cv d169_11 rfl rfl rfl pm11_232 (by decide) (ca_v (Or.inl rfl) rfl (Nat.le_of_ble_eq_true rfl) (Nat.le_of_ble_eq_true rfl) (ly_k L 38 rfl).2 (ly_k L 38 rfl).1 (by decide)) (H.2 c1)))
theorem s169_14 {sc : cmS} {d : Nat} {h : cmH} {Q : Option Value → cmH → Prop} (u1 : Option Value) (u2 : Option Value) (H : Q none h) : cm_wp sc d 169 14 [some (.ref 38), u1, u2] [] h Q :=
  wl_rt d169_14 rfl rfl rfl H
theorem s169_19 {sc : cmS} {d : Nat} {h : cmH} {Q : Option Value → cmH → Prop} (L : LY h) (x1 : Int32) (x2 : Int32) (H : ((((cm_I h 38 29) ≤ (cm_I h 38 30)) → cm_wp sc (d + 1) 169 89 [some (.ref 38), some (.int x1), some (.int x2)] [] h Q) ∧ (¬ ((cm_I h 38 29) ≤ (cm_I h 38 30)) → (IX 160 (cm_I h 38 30)) ∧ cm_ci sc d 170 [.int (cm_I h 61 (cm_I h 38 30).toNatClampNeg)] h (fun r h' => cm_wp sc (d + 1) 169 42 [some (.ref 38), some (.int x1), some (.int x2)] [.int r] h' Q)))) : cm_wp sc (d + 1) 169 19 [some (.ref 38), some (.int x1), some (.int x2)] [] h Q :=
  wl_st d169_19 rfl rfl rfl rfl (wl_gf (v := .int (cm_I h 38 30)) d169_20 pf11_220 (ly_k L 38 rfl) rfl (wl_st d169_23 rfl rfl rfl rfl (wl_gf (v := .int (cm_I h 38 29)) d169_24 pf11_217 (ly_k L 38 rfl) rfl (wl_cb (b := (cm_I h 38 29) ≤ (cm_I h 38 30)) (off := 62) (tgt := 89) (pc3 := 30) (st' := []) d169_27 rfl rfl rfl rfl (by decide) rfl (fun c1 => (H.1 c1)) (fun c1 => wl_st d169_30 rfl rfl rfl rfl (wl_gr (b := 61) d169_31 pf11_77 (ly_k L 38 rfl) rfl (ly_r L 38 25 rfl) (wl_st d169_34 rfl rfl rfl rfl (wl_gf (v := .int (cm_I h 38 30)) d169_35 pf11_220 (ly_k L 38 rfl) rfl (And.elim (fun g2 g2k => wl_if (g := cm_ok h 13 61 (cm_I h 38 30)) (st' := [.int (cm_I h 61 (cm_I h 38 30).toNatClampNeg)]) d169_38 rfl rfl rfl rfl (ly_o L 61 rfl g2) (wl_ci d169_39 rfl rfl rfl pm11_239 (by decide) (ca_s (Or.inl rfl) rfl (Nat.le_of_ble_eq_true rfl) (Nat.le_of_ble_eq_true rfl)) g2k)) (H.2 c1))))))))))
theorem s169_42 {sc : cmS} {d : Nat} {h : cmH} {Q : Option Value → cmH → Prop} (L : LY h) (x1 : Int32) (x2 : Int32) (sx0 : Int32) (H : (((sx0 = 0) → cm_wp sc (d + 1) 169 89 [some (.ref 38), some (.int x1), some (.int x2)] [] h Q) ∧ (¬ (sx0 = 0) → (((¬ x2 = (4 : Int32)) → (IX 160 (cm_I h 38 30)) ∧ cm_wp sc (d + 1) 169 19 [some (.ref 38), some (.int ((((10 : Int32) * x1) + (cm_I h 61 (cm_I h 38 30).toNatClampNeg)) - (48 : Int32))), some (.int (x2 + 1))] [] (cm_setI h 38 30 ((cm_I h 38 30) + (1 : Int32))) Q) ∧ (¬ (¬ x2 = (4 : Int32)) → cm_cv sc d 161 [.ref 38] h (fun h' => cm_wp sc (d + 1) 169 54 [some (.ref 38), some (.int x1), some (.int x2)] [] h' Q)))))) : cm_wp sc (d + 1) 169 42 [some (.ref 38), some (.int x1), some (.int x2)] [.int sx0] h Q :=
  wl_cb (b := sx0 = 0) (off := 47) (tgt := 89) (pc3 := 45) (st' := []) d169_42 rfl rfl rfl rfl (by decide) rfl (fun c1 => (H.1 c1)) (fun c1 => wl_st d169_45 rfl rfl rfl rfl (wl_ic (v := 4) d169_46 rfl (wl_cb (b := ¬ x2 = (4 : Int32)) (off := 8) (tgt := 55) (pc3 := 50) (st' := []) d169_47 rfl rfl rfl rfl (by decide) rfl (fun c2 => wl_bi (v := 10) d169_55 rfl (wl_st d169_57 rfl rfl rfl rfl (wl_st d169_58 rfl rfl rfl rfl (wl_st d169_59 rfl rfl rfl rfl (wl_gr (b := 61) d169_60 pf11_77 (ly_k L 38 rfl) rfl (ly_r L 38 25 rfl) (wl_st d169_63 rfl rfl rfl rfl (wl_gf (v := .int (cm_I h 38 30)) d169_64 pf11_220 (ly_k L 38 rfl) rfl (And.elim (fun g3 g3k => wl_if (g := cm_ok h 13 61 (cm_I h 38 30)) (st' := [.int (cm_I h 61 (cm_I h 38 30).toNatClampNeg), .int ((10 : Int32) * x1)]) d169_67 rfl rfl rfl rfl (ly_o L 61 rfl g3) (wl_st d169_68 rfl rfl rfl rfl (wl_bi (v := 48) d169_69 rfl (wl_st d169_71 rfl rfl rfl rfl (wl_st (ls' := [some (.ref 38), some (.int ((((10 : Int32) * x1) + (cm_I h 61 (cm_I h 38 30).toNatClampNeg)) - (48 : Int32))), some (.int x2)]) d169_72 rfl rfl rfl rfl (wl_st (ls' := [some (.ref 38), some (.int ((((10 : Int32) * x1) + (cm_I h 61 (cm_I h 38 30).toNatClampNeg)) - (48 : Int32))), some (.int (x2 + 1))]) d169_73 rfl rfl rfl rfl (wl_st d169_76 rfl rfl rfl rfl (wl_st d169_77 rfl rfl rfl rfl (wl_gf (v := .int (cm_I h 38 30)) d169_78 pf11_220 (ly_k L 38 rfl) rfl (wl_ic (v := 1) d169_81 rfl (wl_st d169_82 rfl rfl rfl rfl (wl_pf (h' := (cm_setI h 38 30 ((cm_I h 38 30) + (1 : Int32)))) d169_83 pf11_220 (ly_k L 38 rfl) (Or.inl rfl) rfl (wl_go (tgt := 19) d169_86 (by decide) (g3k)))))))))))))) ((H.2 c1).1 c2))))))))) (fun c2 => wl_st d169_50 rfl rfl rfl rfl (wl_cv d169_51 rfl rfl rfl pm11_232 (by decide) (ca_v (Or.inl rfl) rfl (Nat.le_of_ble_eq_true rfl) (Nat.le_of_ble_eq_true rfl) (ly_k L 38 rfl).2 (ly_k L 38 rfl).1 (by decide)) ((H.2 c1).2 c2))))))
theorem s169_54 {sc : cmS} {d : Nat} {h : cmH} {Q : Option Value → cmH → Prop} (x1 : Int32) (x2 : Int32) (H : Q none h) : cm_wp sc d 169 54 [some (.ref 38), some (.int x1), some (.int x2)] [] h Q :=
  wl_rt d169_54 rfl rfl rfl H
theorem s169_89 {sc : cmS} {d : Nat} {h : cmH} {Q : Option Value → cmH → Prop} (L : LY h) (x1 : Int32) (x2 : Int32) (H : cm_cv sc d 162 [.ref 38, .int (0 : Int32)] h (fun h' => cm_wp sc (d + 1) 169 94 [some (.ref 38), some (.int x1), some (.int x2)] [] h' Q)) : cm_wp sc (d + 1) 169 89 [some (.ref 38), some (.int x1), some (.int x2)] [] h Q :=
  wl_st d169_89 rfl rfl rfl rfl (wl_ic (v := 0) d169_90 rfl (wl_cv d169_91 rfl rfl rfl pm11_242 (by decide) (ca_v (Or.inl rfl) rfl (Nat.le_of_ble_eq_true rfl) (Nat.le_of_ble_eq_true rfl) (ly_k L 38 rfl).2 (ly_k L 38 rfl).1 (by decide)) H))
theorem s169_94 {sc : cmS} {d : Nat} {h : cmH} {Q : Option Value → cmH → Prop} (L : LY h) (x1 : Int32) (x2 : Int32) (H : cm_cv sc d 162 [.ref 38, .int x1] h (fun h' => cm_wp sc (d + 1) 169 99 [some (.ref 38), some (.int x1), some (.int x2)] [] h' Q)) : cm_wp sc (d + 1) 169 94 [some (.ref 38), some (.int x1), some (.int x2)] [] h Q :=
  wl_st d169_94 rfl rfl rfl rfl (wl_st d169_95 rfl rfl rfl rfl (wl_cv d169_96 rfl rfl rfl pm11_242 (by decide) (ca_v (Or.inl rfl) rfl (Nat.le_of_ble_eq_true rfl) (Nat.le_of_ble_eq_true rfl) (ly_k L 38 rfl).2 (ly_k L 38 rfl).1 (by decide)) H))
theorem s169_99 {sc : cmS} {d : Nat} {h : cmH} {Q : Option Value → cmH → Prop} (x1 : Int32) (x2 : Int32) (H : Q none h) : cm_wp sc d 169 99 [some (.ref 38), some (.int x1), some (.int x2)] [] h Q :=
  wl_rt d169_99 rfl rfl rfl H
-- ClogHouseModel.isDigit(I)Z
theorem d170_0 : decode (cm_M 170).2.2.1 0 = .ok (.iload_n 0, 1) := by decide +kernel
theorem d170_1 : decode (cm_M 170).2.2.1 1 = .ok (.bipush 48, 2) := by decide +kernel
theorem d170_3 : decode (cm_M 170).2.2.1 3 = .ok (.if_icmp .lt 13, 3) := by decide +kernel
theorem d170_6 : decode (cm_M 170).2.2.1 6 = .ok (.iload_n 0, 1) := by decide +kernel
theorem d170_7 : decode (cm_M 170).2.2.1 7 = .ok (.bipush 57, 2) := by decide +kernel
theorem d170_9 : decode (cm_M 170).2.2.1 9 = .ok (.if_icmp .gt 7, 3) := by decide +kernel
theorem d170_12 : decode (cm_M 170).2.2.1 12 = .ok (.iconst 1, 1) := by decide +kernel
theorem d170_13 : decode (cm_M 170).2.2.1 13 = .ok (.goto 4, 3) := by decide +kernel
theorem d170_16 : decode (cm_M 170).2.2.1 16 = .ok (.iconst 0, 1) := by decide +kernel
theorem d170_17 : decode (cm_M 170).2.2.1 17 = .ok (.ireturn, 1) := by decide +kernel
theorem s170_0 {sc : cmS} {d : Nat} {h : cmH} {Q : Option Value → cmH → Prop} (x0 : Int32) (H : (((x0 < (48 : Int32)) → Q (some (.int (0 : Int32))) h) ∧ (¬ (x0 < (48 : Int32)) → ((((57 : Int32) < x0) → Q (some (.int (0 : Int32))) h) ∧ (¬ ((57 : Int32) < x0) → Q (some (.int (1 : Int32))) h))))) : cm_wp sc d 170 0 [some (.int x0)] [] h Q :=
  wl_st d170_0 rfl rfl rfl rfl (wl_bi (v := 48) d170_1 rfl (wl_cb (b := x0 < (48 : Int32)) (off := 13) (tgt := 16) (pc3 := 6) (st' := []) d170_3 rfl rfl rfl rfl (by decide) rfl (fun c1 => wl_ic (v := 0) d170_16 rfl (wl_rz d170_17 rfl (by decide) (H.1 c1))) (fun c1 => wl_st d170_6 rfl rfl rfl rfl (wl_bi (v := 57) d170_7 rfl (wl_cb (b := (57 : Int32) < x0) (off := 7) (tgt := 16) (pc3 := 12) (st' := []) d170_9 rfl rfl rfl rfl (by decide) rfl (fun c2 => wl_ic (v := 0) d170_16 rfl (wl_rz d170_17 rfl (by decide) ((H.2 c1).1 c2))) (fun c2 => wl_ic (v := 1) d170_12 rfl (wl_go (tgt := 17) d170_13 (by decide) (wl_rz d170_17 rfl (by decide) ((H.2 c1).2 c2)))))))))
-- ClogHouseModel.isSign(I)Z
theorem d171_0 : decode (cm_M 171).2.2.1 0 = .ok (.iload_n 0, 1) := by decide +kernel
theorem d171_1 : decode (cm_M 171).2.2.1 1 = .ok (.bipush 61, 2) := by decide +kernel
theorem d171_3 : decode (cm_M 171).2.2.1 3 = .ok (.if_icmp .eq 15, 3) := by decide +kernel
theorem d171_6 : decode (cm_M 171).2.2.1 6 = .ok (.iload_n 0, 1) := by decide +kernel
theorem d171_7 : decode (cm_M 171).2.2.1 7 = .ok (.bipush 60, 2) := by decide +kernel
theorem d171_9 : decode (cm_M 171).2.2.1 9 = .ok (.if_icmp .eq 9, 3) := by decide +kernel
theorem d171_12 : decode (cm_M 171).2.2.1 12 = .ok (.iload_n 0, 1) := by decide +kernel
theorem d171_13 : decode (cm_M 171).2.2.1 13 = .ok (.bipush 62, 2) := by decide +kernel
theorem d171_15 : decode (cm_M 171).2.2.1 15 = .ok (.if_icmp .ne 7, 3) := by decide +kernel
theorem d171_18 : decode (cm_M 171).2.2.1 18 = .ok (.iconst 1, 1) := by decide +kernel
theorem d171_19 : decode (cm_M 171).2.2.1 19 = .ok (.goto 4, 3) := by decide +kernel
theorem d171_22 : decode (cm_M 171).2.2.1 22 = .ok (.iconst 0, 1) := by decide +kernel
theorem d171_23 : decode (cm_M 171).2.2.1 23 = .ok (.ireturn, 1) := by decide +kernel
theorem s171_0 {sc : cmS} {d : Nat} {h : cmH} {Q : Option Value → cmH → Prop} (x0 : Int32) (H : (((x0 = (61 : Int32)) → cm_wp sc d 171 18 [some (.int x0)] [] h Q) ∧ (¬ (x0 = (61 : Int32)) → (((x0 = (60 : Int32)) → cm_wp sc d 171 18 [some (.int x0)] [] h Q) ∧ (¬ (x0 = (60 : Int32)) → (((¬ x0 = (62 : Int32)) → Q (some (.int (0 : Int32))) h) ∧ (¬ (¬ x0 = (62 : Int32)) → cm_wp sc d 171 18 [some (.int x0)] [] h Q))))))) : cm_wp sc d 171 0 [some (.int x0)] [] h Q :=
  wl_st d171_0 rfl rfl rfl rfl (wl_bi (v := 61) d171_1 rfl (wl_cb (b := x0 = (61 : Int32)) (off := 15) (tgt := 18) (pc3 := 6) (st' := []) d171_3 rfl rfl rfl rfl (by decide) rfl (fun c1 => (H.1 c1)) (fun c1 => wl_st d171_6 rfl rfl rfl rfl (wl_bi (v := 60) d171_7 rfl (wl_cb (b := x0 = (60 : Int32)) (off := 9) (tgt := 18) (pc3 := 12) (st' := []) d171_9 rfl rfl rfl rfl (by decide) rfl (fun c2 => ((H.2 c1).1 c2)) (fun c2 => wl_st d171_12 rfl rfl rfl rfl (wl_bi (v := 62) d171_13 rfl (wl_cb (b := ¬ x0 = (62 : Int32)) (off := 7) (tgt := 22) (pc3 := 18) (st' := []) d171_15 rfl rfl rfl rfl (by decide) rfl (fun c3 => wl_ic (v := 0) d171_22 rfl (wl_rz d171_23 rfl (by decide) (((H.2 c1).2 c2).1 c3))) (fun c3 => (((H.2 c1).2 c2).2 c3))))))))))
theorem s171_18 {sc : cmS} {d : Nat} {h : cmH} {Q : Option Value → cmH → Prop} (x0 : Int32) (H : Q (some (.int (1 : Int32))) h) : cm_wp sc d 171 18 [some (.int x0)] [] h Q :=
  wl_ic (v := 1) d171_18 rfl (wl_go (tgt := 23) d171_19 (by decide) (wl_rz d171_23 rfl (by decide) H))
-- ClogHouseModel.condition(Z)V
theorem d172_0 : decode (cm_M 172).2.2.1 0 = .ok (.aload_n 0, 1) := by decide +kernel
theorem d172_1 : decode (cm_M 172).2.2.1 1 = .ok (.iload_n 1, 1) := by decide +kernel
theorem d172_2 : decode (cm_M 172).2.2.1 2 = .ok (.invokevirtual 281, 3) := by decide +kernel
theorem d172_5 : decode (cm_M 172).2.2.1 5 = .ok (.aload_n 0, 1) := by decide +kernel
theorem d172_6 : decode (cm_M 172).2.2.1 6 = .ok (.getfield 223, 3) := by decide +kernel
theorem d172_9 : decode (cm_M 172).2.2.1 9 = .ok (.iconst (-1), 1) := by decide +kernel
theorem d172_10 : decode (cm_M 172).2.2.1 10 = .ok (.if_icmp .ne 36, 3) := by decide +kernel
theorem d172_13 : decode (cm_M 172).2.2.1 13 = .ok (.aload_n 0, 1) := by decide +kernel
theorem d172_14 : decode (cm_M 172).2.2.1 14 = .ok (.invokevirtual 235, 3) := by decide +kernel
theorem d172_17 : decode (cm_M 172).2.2.1 17 = .ok (.bipush 124, 2) := by decide +kernel
theorem d172_19 : decode (cm_M 172).2.2.1 19 = .ok (.if_icmp .ne 27, 3) := by decide +kernel
theorem d172_22 : decode (cm_M 172).2.2.1 22 = .ok (.aload_n 0, 1) := by decide +kernel
theorem d172_23 : decode (cm_M 172).2.2.1 23 = .ok (.dup, 1) := by decide +kernel
theorem d172_24 : decode (cm_M 172).2.2.1 24 = .ok (.getfield 220, 3) := by decide +kernel
theorem d172_27 : decode (cm_M 172).2.2.1 27 = .ok (.iconst 1, 1) := by decide +kernel
theorem d172_28 : decode (cm_M 172).2.2.1 28 = .ok (.iadd, 1) := by decide +kernel
theorem d172_29 : decode (cm_M 172).2.2.1 29 = .ok (.putfield 220, 3) := by decide +kernel
theorem d172_32 : decode (cm_M 172).2.2.1 32 = .ok (.aload_n 0, 1) := by decide +kernel
theorem d172_33 : decode (cm_M 172).2.2.1 33 = .ok (.iconst 0, 1) := by decide +kernel
theorem d172_34 : decode (cm_M 172).2.2.1 34 = .ok (.invokevirtual 281, 3) := by decide +kernel
theorem d172_37 : decode (cm_M 172).2.2.1 37 = .ok (.aload_n 0, 1) := by decide +kernel
theorem d172_38 : decode (cm_M 172).2.2.1 38 = .ok (.bipush 124, 2) := by decide +kernel
theorem d172_40 : decode (cm_M 172).2.2.1 40 = .ok (.invokevirtual 242, 3) := by decide +kernel
theorem d172_43 : decode (cm_M 172).2.2.1 43 = .ok (.goto (-38), 3) := by decide +kernel
theorem d172_46 : decode (cm_M 172).2.2.1 46 = .ok (.return_, 1) := by decide +kernel
theorem s172_0 {sc : cmS} {d : Nat} {h : cmH} {Q : Option Value → cmH → Prop} (L : LY h) (x1 : Int32) (H : cm_cv sc d 173 [.ref 38, .int x1] h (fun h' => cm_wp sc (d + 1) 172 5 [some (.ref 38), some (.int x1)] [] h' Q)) : cm_wp sc (d + 1) 172 0 [some (.ref 38), some (.int x1)] [] h Q :=
  wl_st d172_0 rfl rfl rfl rfl (wl_st d172_1 rfl rfl rfl rfl (wl_cv d172_2 rfl rfl rfl pm11_281 (by decide) (ca_v (Or.inl rfl) rfl (Nat.le_of_ble_eq_true rfl) (Nat.le_of_ble_eq_true rfl) (ly_k L 38 rfl).2 (ly_k L 38 rfl).1 (by decide)) H))
theorem s172_5 {sc : cmS} {d : Nat} {h : cmH} {Q : Option Value → cmH → Prop} (L : LY h) (x1 : Int32) (H : (((¬ (cm_I h 38 31) = (-1 : Int32)) → Q none h) ∧ (¬ (¬ (cm_I h 38 31) = (-1 : Int32)) → cm_ci sc d 159 [.ref 38] h (fun r h' => cm_wp sc (d + 1) 172 17 [some (.ref 38), some (.int x1)] [.int r] h' Q)))) : cm_wp sc (d + 1) 172 5 [some (.ref 38), some (.int x1)] [] h Q :=
  wl_st d172_5 rfl rfl rfl rfl (wl_gf (v := .int (cm_I h 38 31)) d172_6 pf11_223 (ly_k L 38 rfl) rfl (wl_ic (v := (-1)) d172_9 rfl (wl_cb (b := ¬ (cm_I h 38 31) = (-1 : Int32)) (off := 36) (tgt := 46) (pc3 := 13) (st' := []) d172_10 rfl rfl rfl rfl (by decide) rfl (fun c1 => wl_rt d172_46 rfl rfl rfl (H.1 c1)) (fun c1 => wl_st d172_13 rfl rfl rfl rfl (wl_ci d172_14 rfl rfl rfl pm11_235 (by decide) (ca_v (Or.inl rfl) rfl (Nat.le_of_ble_eq_true rfl) (Nat.le_of_ble_eq_true rfl) (ly_k L 38 rfl).2 (ly_k L 38 rfl).1 (by decide)) (H.2 c1))))))
theorem s172_17 {sc : cmS} {d : Nat} {h : cmH} {Q : Option Value → cmH → Prop} (L : LY h) (x1 : Int32) (sx0 : Int32) (H : (((¬ sx0 = (124 : Int32)) → Q none h) ∧ (¬ (¬ sx0 = (124 : Int32)) → cm_cv sc d 173 [.ref 38, .int (0 : Int32)] (cm_setI h 38 30 ((cm_I h 38 30) + (1 : Int32))) (fun h' => cm_wp sc (d + 1) 172 37 [some (.ref 38), some (.int x1)] [] h' Q)))) : cm_wp sc (d + 1) 172 17 [some (.ref 38), some (.int x1)] [.int sx0] h Q :=
  wl_bi (v := 124) d172_17 rfl (wl_cb (b := ¬ sx0 = (124 : Int32)) (off := 27) (tgt := 46) (pc3 := 22) (st' := []) d172_19 rfl rfl rfl rfl (by decide) rfl (fun c1 => wl_rt d172_46 rfl rfl rfl (H.1 c1)) (fun c1 => wl_st d172_22 rfl rfl rfl rfl (wl_st d172_23 rfl rfl rfl rfl (wl_gf (v := .int (cm_I h 38 30)) d172_24 pf11_220 (ly_k L 38 rfl) rfl (wl_ic (v := 1) d172_27 rfl (wl_st d172_28 rfl rfl rfl rfl (wl_pf (h' := (cm_setI h 38 30 ((cm_I h 38 30) + (1 : Int32)))) d172_29 pf11_220 (ly_k L 38 rfl) (Or.inl rfl) rfl (wl_st d172_32 rfl rfl rfl rfl (wl_ic (v := 0) d172_33 rfl (wl_cv d172_34 rfl rfl rfl pm11_281 (by decide) (ca_v (Or.inl rfl) rfl (Nat.le_of_ble_eq_true rfl) (Nat.le_of_ble_eq_true rfl) (ly_k L 38 rfl).2 (ly_k L 38 rfl).1 (by decide)) (H.2 c1)))))))))))
theorem s172_37 {sc : cmS} {d : Nat} {h : cmH} {Q : Option Value → cmH → Prop} (L : LY h) (x1 : Int32) (H : cm_cv sc d 162 [.ref 38, .int (124 : Int32)] h (fun h' => cm_wp sc (d + 1) 172 43 [some (.ref 38), some (.int x1)] [] h' Q)) : cm_wp sc (d + 1) 172 37 [some (.ref 38), some (.int x1)] [] h Q :=
  wl_st d172_37 rfl rfl rfl rfl (wl_bi (v := 124) d172_38 rfl (wl_cv d172_40 rfl rfl rfl pm11_242 (by decide) (ca_v (Or.inl rfl) rfl (Nat.le_of_ble_eq_true rfl) (Nat.le_of_ble_eq_true rfl) (ly_k L 38 rfl).2 (ly_k L 38 rfl).1 (by decide)) H))
theorem s172_43 {sc : cmS} {d : Nat} {h : cmH} {Q : Option Value → cmH → Prop} (x1 : Int32) (H : cm_wp sc d 172 5 [some (.ref 38), some (.int x1)] [] h Q) : cm_wp sc d 172 43 [some (.ref 38), some (.int x1)] [] h Q :=
  wl_go (tgt := 5) d172_43 (by decide) (H)
-- ClogHouseModel.part(Z)V
theorem d173_0 : decode (cm_M 173).2.2.1 0 = .ok (.iload_n 1, 1) := by decide +kernel
theorem d173_1 : decode (cm_M 173).2.2.1 1 = .ok (.ifCond .eq 10, 3) := by decide +kernel
theorem d173_4 : decode (cm_M 173).2.2.1 4 = .ok (.aload_n 0, 1) := by decide +kernel
theorem d173_5 : decode (cm_M 173).2.2.1 5 = .ok (.invokevirtual 278, 3) := by decide +kernel
theorem d173_8 : decode (cm_M 173).2.2.1 8 = .ok (.goto 7, 3) := by decide +kernel
theorem d173_11 : decode (cm_M 173).2.2.1 11 = .ok (.aload_n 0, 1) := by decide +kernel
theorem d173_12 : decode (cm_M 173).2.2.1 12 = .ok (.invokevirtual 271, 3) := by decide +kernel
theorem d173_15 : decode (cm_M 173).2.2.1 15 = .ok (.aload_n 0, 1) := by decide +kernel
theorem d173_16 : decode (cm_M 173).2.2.1 16 = .ok (.getfield 223, 3) := by decide +kernel
theorem d173_19 : decode (cm_M 173).2.2.1 19 = .ok (.iconst (-1), 1) := by decide +kernel
theorem d173_20 : decode (cm_M 173).2.2.1 20 = .ok (.if_icmp .ne 35, 3) := by decide +kernel
theorem d173_23 : decode (cm_M 173).2.2.1 23 = .ok (.aload_n 0, 1) := by decide +kernel
theorem d173_24 : decode (cm_M 173).2.2.1 24 = .ok (.invokevirtual 235, 3) := by decide +kernel
theorem d173_27 : decode (cm_M 173).2.2.1 27 = .ok (.bipush 38, 2) := by decide +kernel
theorem d173_29 : decode (cm_M 173).2.2.1 29 = .ok (.if_icmp .ne 26, 3) := by decide +kernel
theorem d173_32 : decode (cm_M 173).2.2.1 32 = .ok (.aload_n 0, 1) := by decide +kernel
theorem d173_33 : decode (cm_M 173).2.2.1 33 = .ok (.dup, 1) := by decide +kernel
theorem d173_34 : decode (cm_M 173).2.2.1 34 = .ok (.getfield 220, 3) := by decide +kernel
theorem d173_37 : decode (cm_M 173).2.2.1 37 = .ok (.iconst 1, 1) := by decide +kernel
theorem d173_38 : decode (cm_M 173).2.2.1 38 = .ok (.iadd, 1) := by decide +kernel
theorem d173_39 : decode (cm_M 173).2.2.1 39 = .ok (.putfield 220, 3) := by decide +kernel
theorem d173_42 : decode (cm_M 173).2.2.1 42 = .ok (.aload_n 0, 1) := by decide +kernel
theorem d173_43 : decode (cm_M 173).2.2.1 43 = .ok (.invokevirtual 271, 3) := by decide +kernel
theorem d173_46 : decode (cm_M 173).2.2.1 46 = .ok (.aload_n 0, 1) := by decide +kernel
theorem d173_47 : decode (cm_M 173).2.2.1 47 = .ok (.bipush 38, 2) := by decide +kernel
theorem d173_49 : decode (cm_M 173).2.2.1 49 = .ok (.invokevirtual 242, 3) := by decide +kernel
theorem d173_52 : decode (cm_M 173).2.2.1 52 = .ok (.goto (-37), 3) := by decide +kernel
theorem d173_55 : decode (cm_M 173).2.2.1 55 = .ok (.return_, 1) := by decide +kernel
theorem s173_0 {sc : cmS} {d : Nat} {h : cmH} {Q : Option Value → cmH → Prop} (L : LY h) (x1 : Int32) (H : (((x1 = 0) → cm_cv sc d 175 [.ref 38] h (fun h' => cm_wp sc (d + 1) 173 15 [some (.ref 38), some (.int x1)] [] h' Q)) ∧ (¬ (x1 = 0) → cm_cv sc d 174 [.ref 38] h (fun h' => cm_wp sc (d + 1) 173 8 [some (.ref 38), some (.int x1)] [] h' Q)))) : cm_wp sc (d + 1) 173 0 [some (.ref 38), some (.int x1)] [] h Q :=
  wl_st d173_0 rfl rfl rfl rfl (wl_cb (b := x1 = 0) (off := 10) (tgt := 11) (pc3 := 4) (st' := []) d173_1 rfl rfl rfl rfl (by decide) rfl (fun c1 => wl_st d173_11 rfl rfl rfl rfl (wl_cv d173_12 rfl rfl rfl pm11_271 (by decide) (ca_v (Or.inl rfl) rfl (Nat.le_of_ble_eq_true rfl) (Nat.le_of_ble_eq_true rfl) (ly_k L 38 rfl).2 (ly_k L 38 rfl).1 (by decide)) (H.1 c1))) (fun c1 => wl_st d173_4 rfl rfl rfl rfl (wl_cv d173_5 rfl rfl rfl pm11_278 (by decide) (ca_v (Or.inl rfl) rfl (Nat.le_of_ble_eq_true rfl) (Nat.le_of_ble_eq_true rfl) (ly_k L 38 rfl).2 (ly_k L 38 rfl).1 (by decide)) (H.2 c1))))
theorem s173_8 {sc : cmS} {d : Nat} {h : cmH} {Q : Option Value → cmH → Prop} (x1 : Int32) (H : cm_wp sc d 173 15 [some (.ref 38), some (.int x1)] [] h Q) : cm_wp sc d 173 8 [some (.ref 38), some (.int x1)] [] h Q :=
  wl_go (tgt := 15) d173_8 (by decide) (H)
theorem s173_15 {sc : cmS} {d : Nat} {h : cmH} {Q : Option Value → cmH → Prop} (L : LY h) (x1 : Int32) (H : (((¬ (cm_I h 38 31) = (-1 : Int32)) → Q none h) ∧ (¬ (¬ (cm_I h 38 31) = (-1 : Int32)) → cm_ci sc d 159 [.ref 38] h (fun r h' => cm_wp sc (d + 1) 173 27 [some (.ref 38), some (.int x1)] [.int r] h' Q)))) : cm_wp sc (d + 1) 173 15 [some (.ref 38), some (.int x1)] [] h Q :=
  wl_st d173_15 rfl rfl rfl rfl (wl_gf (v := .int (cm_I h 38 31)) d173_16 pf11_223 (ly_k L 38 rfl) rfl (wl_ic (v := (-1)) d173_19 rfl (wl_cb (b := ¬ (cm_I h 38 31) = (-1 : Int32)) (off := 35) (tgt := 55) (pc3 := 23) (st' := []) d173_20 rfl rfl rfl rfl (by decide) rfl (fun c1 => wl_rt d173_55 rfl rfl rfl (H.1 c1)) (fun c1 => wl_st d173_23 rfl rfl rfl rfl (wl_ci d173_24 rfl rfl rfl pm11_235 (by decide) (ca_v (Or.inl rfl) rfl (Nat.le_of_ble_eq_true rfl) (Nat.le_of_ble_eq_true rfl) (ly_k L 38 rfl).2 (ly_k L 38 rfl).1 (by decide)) (H.2 c1))))))
theorem s173_27 {sc : cmS} {d : Nat} {h : cmH} {Q : Option Value → cmH → Prop} (L : LY h) (x1 : Int32) (sx0 : Int32) (H : (((¬ sx0 = (38 : Int32)) → Q none h) ∧ (¬ (¬ sx0 = (38 : Int32)) → cm_cv sc d 175 [.ref 38] (cm_setI h 38 30 ((cm_I h 38 30) + (1 : Int32))) (fun h' => cm_wp sc (d + 1) 173 46 [some (.ref 38), some (.int x1)] [] h' Q)))) : cm_wp sc (d + 1) 173 27 [some (.ref 38), some (.int x1)] [.int sx0] h Q :=
  wl_bi (v := 38) d173_27 rfl (wl_cb (b := ¬ sx0 = (38 : Int32)) (off := 26) (tgt := 55) (pc3 := 32) (st' := []) d173_29 rfl rfl rfl rfl (by decide) rfl (fun c1 => wl_rt d173_55 rfl rfl rfl (H.1 c1)) (fun c1 => wl_st d173_32 rfl rfl rfl rfl (wl_st d173_33 rfl rfl rfl rfl (wl_gf (v := .int (cm_I h 38 30)) d173_34 pf11_220 (ly_k L 38 rfl) rfl (wl_ic (v := 1) d173_37 rfl (wl_st d173_38 rfl rfl rfl rfl (wl_pf (h' := (cm_setI h 38 30 ((cm_I h 38 30) + (1 : Int32)))) d173_39 pf11_220 (ly_k L 38 rfl) (Or.inl rfl) rfl (wl_st d173_42 rfl rfl rfl rfl (wl_cv d173_43 rfl rfl rfl pm11_271 (by decide) (ca_v (Or.inl rfl) rfl (Nat.le_of_ble_eq_true rfl) (Nat.le_of_ble_eq_true rfl) (ly_k L 38 rfl).2 (ly_k L 38 rfl).1 (by decide)) (H.2 c1))))))))))
theorem s173_46 {sc : cmS} {d : Nat} {h : cmH} {Q : Option Value → cmH → Prop} (L : LY h) (x1 : Int32) (H : cm_cv sc d 162 [.ref 38, .int (38 : Int32)] h (fun h' => cm_wp sc (d + 1) 173 52 [some (.ref 38), some (.int x1)] [] h' Q)) : cm_wp sc (d + 1) 173 46 [some (.ref 38), some (.int x1)] [] h Q :=
  wl_st d173_46 rfl rfl rfl rfl (wl_bi (v := 38) d173_47 rfl (wl_cv d173_49 rfl rfl rfl pm11_242 (by decide) (ca_v (Or.inl rfl) rfl (Nat.le_of_ble_eq_true rfl) (Nat.le_of_ble_eq_true rfl) (ly_k L 38 rfl).2 (ly_k L 38 rfl).1 (by decide)) H))
theorem s173_52 {sc : cmS} {d : Nat} {h : cmH} {Q : Option Value → cmH → Prop} (x1 : Int32) (H : cm_wp sc d 173 15 [some (.ref 38), some (.int x1)] [] h Q) : cm_wp sc d 173 52 [some (.ref 38), some (.int x1)] [] h Q :=
  wl_go (tgt := 15) d173_52 (by decide) (H)
-- ClogHouseModel.compare()V
theorem d174_0 : decode (cm_M 174).2.2.1 0 = .ok (.aload_n 0, 1) := by decide +kernel
theorem d174_1 : decode (cm_M 174).2.2.1 1 = .ok (.getfield 223, 3) := by decide +kernel
theorem d174_4 : decode (cm_M 174).2.2.1 4 = .ok (.iconst (-1), 1) := by decide +kernel
theorem d174_5 : decode (cm_M 174).2.2.1 5 = .ok (.if_icmp .ne 10, 3) := by decide +kernel
theorem d174_8 : decode (cm_M 174).2.2.1 8 = .ok (.aload_n 0, 1) := by decide +kernel
theorem d174_9 : decode (cm_M 174).2.2.1 9 = .ok (.invokevirtual 235, 3) := by decide +kernel
theorem d174_12 : decode (cm_M 174).2.2.1 12 = .ok (.goto 4, 3) := by decide +kernel
theorem d174_15 : decode (cm_M 174).2.2.1 15 = .ok (.iconst (-1), 1) := by decide +kernel
theorem d174_16 : decode (cm_M 174).2.2.1 16 = .ok (.istore_n 1, 1) := by decide +kernel
theorem d174_17 : decode (cm_M 174).2.2.1 17 = .ok (.iload_n 1, 1) := by decide +kernel
theorem d174_18 : decode (cm_M 174).2.2.1 18 = .ok (.invokestatic 268, 3) := by decide +kernel
theorem d174_21 : decode (cm_M 174).2.2.1 21 = .ok (.ifCond .ne 8, 3) := by decide +kernel
theorem d174_24 : decode (cm_M 174).2.2.1 24 = .ok (.aload_n 0, 1) := by decide +kernel
theorem d174_25 : decode (cm_M 174).2.2.1 25 = .ok (.invokevirtual 232, 3) := by decide +kernel
theorem d174_28 : decode (cm_M 174).2.2.1 28 = .ok (.return_, 1) := by decide +kernel
theorem d174_29 : decode (cm_M 174).2.2.1 29 = .ok (.aload_n 0, 1) := by decide +kernel
theorem d174_30 : decode (cm_M 174).2.2.1 30 = .ok (.dup, 1) := by decide +kernel
theorem d174_31 : decode (cm_M 174).2.2.1 31 = .ok (.getfield 220, 3) := by decide +kernel
theorem d174_34 : decode (cm_M 174).2.2.1 34 = .ok (.iconst 1, 1) := by decide +kernel
theorem d174_35 : decode (cm_M 174).2.2.1 35 = .ok (.iadd, 1) := by decide +kernel
theorem d174_36 : decode (cm_M 174).2.2.1 36 = .ok (.putfield 220, 3) := by decide +kernel
theorem d174_39 : decode (cm_M 174).2.2.1 39 = .ok (.aload_n 0, 1) := by decide +kernel
theorem d174_40 : decode (cm_M 174).2.2.1 40 = .ok (.invokevirtual 250, 3) := by decide +kernel
theorem d174_43 : decode (cm_M 174).2.2.1 43 = .ok (.aload_n 0, 1) := by decide +kernel
theorem d174_44 : decode (cm_M 174).2.2.1 44 = .ok (.iload_n 1, 1) := by decide +kernel
theorem d174_45 : decode (cm_M 174).2.2.1 45 = .ok (.invokevirtual 242, 3) := by decide +kernel
theorem d174_48 : decode (cm_M 174).2.2.1 48 = .ok (.return_, 1) := by decide +kernel
theorem s174_0 {sc : cmS} {d : Nat} {h : cmH} {Q : Option Value → cmH → Prop} (L : LY h) (u1 : Option Value) (H : (((¬ (cm_I h 38 31) = (-1 : Int32)) → cm_wp sc (d + 1) 174 16 [some (.ref 38), u1] [.int (-1 : Int32)] h Q) ∧ (¬ (¬ (cm_I h 38 31) = (-1 : Int32)) → cm_ci sc d 159 [.ref 38] h (fun r h' => cm_wp sc (d + 1) 174 12 [some (.ref 38), u1] [.int r] h' Q)))) : cm_wp sc (d + 1) 174 0 [some (.ref 38), u1] [] h Q :=
  wl_st d174_0 rfl rfl rfl rfl (wl_gf (v := .int (cm_I h 38 31)) d174_1 pf11_223 (ly_k L 38 rfl) rfl (wl_ic (v := (-1)) d174_4 rfl (wl_cb (b := ¬ (cm_I h 38 31) = (-1 : Int32)) (off := 10) (tgt := 15) (pc3 := 8) (st' := []) d174_5 rfl rfl rfl rfl (by decide) rfl (fun c1 => wl_ic (v := (-1)) d174_15 rfl ((H.1 c1))) (fun c1 => wl_st d174_8 rfl rfl rfl rfl (wl_ci d174_9 rfl rfl rfl pm11_235 (by decide) (ca_v (Or.inl rfl) rfl (Nat.le_of_ble_eq_true rfl) (Nat.le_of_ble_eq_true rfl) (ly_k L 38 rfl).2 (ly_k L 38 rfl).1 (by decide)) (H.2 c1))))))
theorem s174_12 {sc : cmS} {d : Nat} {h : cmH} {Q : Option Value → cmH → Prop} (u1 : Option Value) (sx0 : Int32) (H : cm_wp sc d 174 16 [some (.ref 38), u1] [.int sx0] h Q) : cm_wp sc d 174 12 [some (.ref 38), u1] [.int sx0] h Q :=
  wl_go (tgt := 16) d174_12 (by decide) (H)
theorem s174_16 {sc : cmS} {d : Nat} {h : cmH} {Q : Option Value → cmH → Prop} (u1 : Option Value) (sx0 : Int32) (H : cm_ci sc d 171 [.int sx0] h (fun r h' => cm_wp sc (d + 1) 174 21 [some (.ref 38), some (.int sx0)] [.int r] h' Q)) : cm_wp sc (d + 1) 174 16 [some (.ref 38), u1] [.int sx0] h Q :=
  wl_st (ls' := [some (.ref 38), some (.int sx0)]) d174_16 rfl rfl rfl rfl (wl_st d174_17 rfl rfl rfl rfl (wl_ci d174_18 rfl rfl rfl pm11_268 (by decide) (ca_s (Or.inl rfl) rfl (Nat.le_of_ble_eq_true rfl) (Nat.le_of_ble_eq_true rfl)) H))
theorem s174_21 {sc : cmS} {d : Nat} {h : cmH} {Q : Option Value → cmH → Prop} (L : LY h) (x1 : Int32) (sx0 : Int32) (H : (((¬ sx0 = 0) → cm_cv sc d 163 [.ref 38] (cm_setI h 38 30 ((cm_I h 38 30) + (1 : Int32))) (fun h' => cm_wp sc (d + 1) 174 43 [some (.ref 38), some (.int x1)] [] h' Q)) ∧ (¬ (¬ sx0 = 0) → cm_cv sc d 161 [.ref 38] h (fun h' => cm_wp sc (d + 1) 174 28 [some (.ref 38), some (.int x1)] [] h' Q)))) : cm_wp sc (d + 1) 174 21 [some (.ref 38), some (.int x1)] [.int sx0] h Q :=
  wl_cb (b := ¬ sx0 = 0) (off := 8) (tgt := 29) (pc3 := 24) (st' := []) d174_21 rfl rfl rfl rfl (by decide) rfl (fun c1 => wl_st d174_29 rfl rfl rfl rfl (wl_st d174_30 rfl rfl rfl rfl (wl_gf (v := .int (cm_I h 38 30)) d174_31 pf11_220 (ly_k L 38 rfl) rfl (wl_ic (v := 1) d174_34 rfl (wl_st d174_35 rfl rfl rfl rfl (wl_pf (h' := (cm_setI h 38 30 ((cm_I h 38 30) + (1 : Int32)))) d174_36 pf11_220 (ly_k L 38 rfl) (Or.inl rfl) rfl (wl_st d174_39 rfl rfl rfl rfl (wl_cv d174_40 rfl rfl rfl pm11_250 (by decide) (ca_v (Or.inl rfl) rfl (Nat.le_of_ble_eq_true rfl) (Nat.le_of_ble_eq_true rfl) (ly_k L 38 rfl).2 (ly_k L 38 rfl).1 (by decide)) (H.1 c1))))))))) (fun c1 => wl_st d174_24 rfl rfl rfl rfl (wl_cv d174_25 rfl rfl rfl pm11_232 (by decide) (ca_v (Or.inl rfl) rfl (Nat.le_of_ble_eq_true rfl) (Nat.le_of_ble_eq_true rfl) (ly_k L 38 rfl).2 (ly_k L 38 rfl).1 (by decide)) (H.2 c1)))
theorem s174_28 {sc : cmS} {d : Nat} {h : cmH} {Q : Option Value → cmH → Prop} (x1 : Int32) (H : Q none h) : cm_wp sc d 174 28 [some (.ref 38), some (.int x1)] [] h Q :=
  wl_rt d174_28 rfl rfl rfl H
theorem s174_43 {sc : cmS} {d : Nat} {h : cmH} {Q : Option Value → cmH → Prop} (L : LY h) (x1 : Int32) (H : cm_cv sc d 162 [.ref 38, .int x1] h (fun h' => cm_wp sc (d + 1) 174 48 [some (.ref 38), some (.int x1)] [] h' Q)) : cm_wp sc (d + 1) 174 43 [some (.ref 38), some (.int x1)] [] h Q :=
  wl_st d174_43 rfl rfl rfl rfl (wl_st d174_44 rfl rfl rfl rfl (wl_cv d174_45 rfl rfl rfl pm11_242 (by decide) (ca_v (Or.inl rfl) rfl (Nat.le_of_ble_eq_true rfl) (Nat.le_of_ble_eq_true rfl) (ly_k L 38 rfl).2 (ly_k L 38 rfl).1 (by decide)) H))
theorem s174_48 {sc : cmS} {d : Nat} {h : cmH} {Q : Option Value → cmH → Prop} (x1 : Int32) (H : Q none h) : cm_wp sc d 174 48 [some (.ref 38), some (.int x1)] [] h Q :=
  wl_rt d174_48 rfl rfl rfl H
-- ClogHouseModel.unit()V
theorem d175_0 : decode (cm_M 175).2.2.1 0 = .ok (.aload_n 0, 1) := by decide +kernel
theorem d175_1 : decode (cm_M 175).2.2.1 1 = .ok (.invokevirtual 235, 3) := by decide +kernel
theorem d175_4 : decode (cm_M 175).2.2.1 4 = .ok (.istore_n 1, 1) := by decide +kernel
theorem d175_5 : decode (cm_M 175).2.2.1 5 = .ok (.iload_n 1, 1) := by decide +kernel
theorem d175_6 : decode (cm_M 175).2.2.1 6 = .ok (.bipush 33, 2) := by decide +kernel
theorem d175_8 : decode (cm_M 175).2.2.1 8 = .ok (.if_icmp .ne 33, 3) := by decide +kernel
theorem d175_11 : decode (cm_M 175).2.2.1 11 = .ok (.aload_n 0, 1) := by decide +kernel
theorem d175_12 : decode (cm_M 175).2.2.1 12 = .ok (.invokevirtual 246, 3) := by decide +kernel
theorem d175_15 : decode (cm_M 175).2.2.1 15 = .ok (.ifCond .eq 61, 3) := by decide +kernel
theorem d175_18 : decode (cm_M 175).2.2.1 18 = .ok (.aload_n 0, 1) := by decide +kernel
theorem d175_19 : decode (cm_M 175).2.2.1 19 = .ok (.invokevirtual 271, 3) := by decide +kernel
theorem d175_22 : decode (cm_M 175).2.2.1 22 = .ok (.aload_n 0, 1) := by decide +kernel
theorem d175_23 : decode (cm_M 175).2.2.1 23 = .ok (.dup, 1) := by decide +kernel
theorem d175_24 : decode (cm_M 175).2.2.1 24 = .ok (.getfield 229, 3) := by decide +kernel
theorem d175_27 : decode (cm_M 175).2.2.1 27 = .ok (.iconst 1, 1) := by decide +kernel
theorem d175_28 : decode (cm_M 175).2.2.1 28 = .ok (.isub, 1) := by decide +kernel
theorem d175_29 : decode (cm_M 175).2.2.1 29 = .ok (.putfield 229, 3) := by decide +kernel
theorem d175_32 : decode (cm_M 175).2.2.1 32 = .ok (.aload_n 0, 1) := by decide +kernel
theorem d175_33 : decode (cm_M 175).2.2.1 33 = .ok (.bipush 33, 2) := by decide +kernel
theorem d175_35 : decode (cm_M 175).2.2.1 35 = .ok (.invokevirtual 242, 3) := by decide +kernel
theorem d175_38 : decode (cm_M 175).2.2.1 38 = .ok (.goto 38, 3) := by decide +kernel
theorem d175_41 : decode (cm_M 175).2.2.1 41 = .ok (.iload_n 1, 1) := by decide +kernel
theorem d175_42 : decode (cm_M 175).2.2.1 42 = .ok (.bipush 40, 2) := by decide +kernel
theorem d175_44 : decode (cm_M 175).2.2.1 44 = .ok (.if_icmp .ne 24, 3) := by decide +kernel
theorem d175_47 : decode (cm_M 175).2.2.1 47 = .ok (.aload_n 0, 1) := by decide +kernel
theorem d175_48 : decode (cm_M 175).2.2.1 48 = .ok (.invokevirtual 246, 3) := by decide +kernel
theorem d175_51 : decode (cm_M 175).2.2.1 51 = .ok (.ifCond .eq 25, 3) := by decide +kernel
theorem d175_54 : decode (cm_M 175).2.2.1 54 = .ok (.aload_n 0, 1) := by decide +kernel
theorem d175_55 : decode (cm_M 175).2.2.1 55 = .ok (.iconst 0, 1) := by decide +kernel
theorem d175_56 : decode (cm_M 175).2.2.1 56 = .ok (.invokevirtual 274, 3) := by decide +kernel
theorem d175_59 : decode (cm_M 175).2.2.1 59 = .ok (.aload_n 0, 1) := by decide +kernel
theorem d175_60 : decode (cm_M 175).2.2.1 60 = .ok (.bipush 41, 2) := by decide +kernel
theorem d175_62 : decode (cm_M 175).2.2.1 62 = .ok (.invokevirtual 253, 3) := by decide +kernel
theorem d175_65 : decode (cm_M 175).2.2.1 65 = .ok (.goto 11, 3) := by decide +kernel
theorem d175_68 : decode (cm_M 175).2.2.1 68 = .ok (.aload_n 0, 1) := by decide +kernel
theorem d175_69 : decode (cm_M 175).2.2.1 69 = .ok (.invokevirtual 250, 3) := by decide +kernel
theorem d175_72 : decode (cm_M 175).2.2.1 72 = .ok (.aload_n 0, 1) := by decide +kernel
theorem d175_73 : decode (cm_M 175).2.2.1 73 = .ok (.invokevirtual 278, 3) := by decide +kernel
theorem d175_76 : decode (cm_M 175).2.2.1 76 = .ok (.return_, 1) := by decide +kernel
theorem s175_0 {sc : cmS} {d : Nat} {h : cmH} {Q : Option Value → cmH → Prop} (L : LY h) (u1 : Option Value) (H : cm_ci sc d 159 [.ref 38] h (fun r h' => cm_wp sc (d + 1) 175 4 [some (.ref 38), u1] [.int r] h' Q)) : cm_wp sc (d + 1) 175 0 [some (.ref 38), u1] [] h Q :=
  wl_st d175_0 rfl rfl rfl rfl (wl_ci d175_1 rfl rfl rfl pm11_235 (by decide) (ca_v (Or.inl rfl) rfl (Nat.le_of_ble_eq_true rfl) (Nat.le_of_ble_eq_true rfl) (ly_k L 38 rfl).2 (ly_k L 38 rfl).1 (by decide)) H)
theorem s175_4 {sc : cmS} {d : Nat} {h : cmH} {Q : Option Value → cmH → Prop} (L : LY h) (u1 : Option Value) (sx0 : Int32) (H : (((¬ sx0 = (33 : Int32)) → (((¬ sx0 = (40 : Int32)) → cm_cv sc d 163 [.ref 38] h (fun h' => cm_wp sc (d + 1) 175 72 [some (.ref 38), some (.int sx0)] [] h' Q)) ∧ (¬ (¬ sx0 = (40 : Int32)) → cm_ci sc d 166 [.ref 38] h (fun r h' => cm_wp sc (d + 1) 175 51 [some (.ref 38), some (.int sx0)] [.int r] h' Q)))) ∧ (¬ (¬ sx0 = (33 : Int32)) → cm_ci sc d 166 [.ref 38] h (fun r h' => cm_wp sc (d + 1) 175 15 [some (.ref 38), some (.int sx0)] [.int r] h' Q)))) : cm_wp sc (d + 1) 175 4 [some (.ref 38), u1] [.int sx0] h Q :=
  wl_st (ls' := [some (.ref 38), some (.int sx0)]) d175_4 rfl rfl rfl rfl (wl_st d175_5 rfl rfl rfl rfl (wl_bi (v := 33) d175_6 rfl (wl_cb (b := ¬ sx0 = (33 : Int32)) (off := 33) (tgt := 41) (pc3 := 11) (st' := []) d175_8 rfl rfl rfl rfl (by decide) rfl (fun c1 => wl_st d175_41 rfl rfl rfl rfl (wl_bi (v := 40) d175_42 rfl (wl_cb (b := ¬ sx0 = (40 : Int32)) (off := 24) (tgt := 68) (pc3 := 47) (st' := []) d175_44 rfl rfl rfl rfl (by decide) rfl (fun c2 => wl_st d175_68 rfl rfl rfl rfl (wl_cv d175_69 rfl rfl rfl pm11_250 (by decide) (ca_v (Or.inl rfl) rfl (Nat.le_of_ble_eq_true rfl) (Nat.le_of_ble_eq_true rfl) (ly_k L 38 rfl).2 (ly_k L 38 rfl).1 (by decide)) ((H.1 c1).1 c2))) (fun c2 => wl_st d175_47 rfl rfl rfl rfl (wl_ci d175_48 rfl rfl rfl pm11_246 (by decide) (ca_v (Or.inl rfl) rfl (Nat.le_of_ble_eq_true rfl) (Nat.le_of_ble_eq_true rfl) (ly_k L 38 rfl).2 (ly_k L 38 rfl).1 (by decide)) ((H.1 c1).2 c2)))))) (fun c1 => wl_st d175_11 rfl rfl rfl rfl (wl_ci d175_12 rfl rfl rfl pm11_246 (by decide) (ca_v (Or.inl rfl) rfl (Nat.le_of_ble_eq_true rfl) (Nat.le_of_ble_eq_true rfl) (ly_k L 38 rfl).2 (ly_k L 38 rfl).1 (by decide)) (H.2 c1))))))
theorem s175_15 {sc : cmS} {d : Nat} {h : cmH} {Q : Option Value → cmH → Prop} (L : LY h) (x1 : Int32) (sx0 : Int32) (H : (((sx0 = 0) → cm_wp sc (d + 1) 175 76 [some (.ref 38), some (.int x1)] [] h Q) ∧ (¬ (sx0 = 0) → cm_cv sc d 175 [.ref 38] h (fun h' => cm_wp sc (d + 1) 175 22 [some (.ref 38), some (.int x1)] [] h' Q)))) : cm_wp sc (d + 1) 175 15 [some (.ref 38), some (.int x1)] [.int sx0] h Q :=
  wl_cb (b := sx0 = 0) (off := 61) (tgt := 76) (pc3 := 18) (st' := []) d175_15 rfl rfl rfl rfl (by decide) rfl (fun c1 => (H.1 c1)) (fun c1 => wl_st d175_18 rfl rfl rfl rfl (wl_cv d175_19 rfl rfl rfl pm11_271 (by decide) (ca_v (Or.inl rfl) rfl (Nat.le_of_ble_eq_true rfl) (Nat.le_of_ble_eq_true rfl) (ly_k L 38 rfl).2 (ly_k L 38 rfl).1 (by decide)) (H.2 c1)))
theorem s175_22 {sc : cmS} {d : Nat} {h : cmH} {Q : Option Value → cmH → Prop} (L : LY h) (x1 : Int32) (H : cm_cv sc d 162 [.ref 38, .int (33 : Int32)] (cm_setI h 38 32 ((cm_I h 38 32) - (1 : Int32))) (fun h' => cm_wp sc (d + 1) 175 38 [some (.ref 38), some (.int x1)] [] h' Q)) : cm_wp sc (d + 1) 175 22 [some (.ref 38), some (.int x1)] [] h Q :=
  wl_st d175_22 rfl rfl rfl rfl (wl_st d175_23 rfl rfl rfl rfl (wl_gf (v := .int (cm_I h 38 32)) d175_24 pf11_229 (ly_k L 38 rfl) rfl (wl_ic (v := 1) d175_27 rfl (wl_st d175_28 rfl rfl rfl rfl (wl_pf (h' := (cm_setI h 38 32 ((cm_I h 38 32) - (1 : Int32)))) d175_29 pf11_229 (ly_k L 38 rfl) (Or.inl rfl) rfl (wl_st d175_32 rfl rfl rfl rfl (wl_bi (v := 33) d175_33 rfl (wl_cv d175_35 rfl rfl rfl pm11_242 (by decide) (ca_v (Or.inl rfl) rfl (Nat.le_of_ble_eq_true rfl) (Nat.le_of_ble_eq_true rfl) (ly_k L 38 rfl).2 (ly_k L 38 rfl).1 (by decide)) H))))))))
theorem s175_38 {sc : cmS} {d : Nat} {h : cmH} {Q : Option Value → cmH → Prop} (x1 : Int32) (H : cm_wp sc d 175 76 [some (.ref 38), some (.int x1)] [] h Q) : cm_wp sc d 175 38 [some (.ref 38), some (.int x1)] [] h Q :=
  wl_go (tgt := 76) d175_38 (by decide) (H)
theorem s175_51 {sc : cmS} {d : Nat} {h : cmH} {Q : Option Value → cmH → Prop} (L : LY h) (x1 : Int32) (sx0 : Int32) (H : (((sx0 = 0) → cm_wp sc (d + 1) 175 76 [some (.ref 38), some (.int x1)] [] h Q) ∧ (¬ (sx0 = 0) → cm_cv sc d 172 [.ref 38, .int (0 : Int32)] h (fun h' => cm_wp sc (d + 1) 175 59 [some (.ref 38), some (.int x1)] [] h' Q)))) : cm_wp sc (d + 1) 175 51 [some (.ref 38), some (.int x1)] [.int sx0] h Q :=
  wl_cb (b := sx0 = 0) (off := 25) (tgt := 76) (pc3 := 54) (st' := []) d175_51 rfl rfl rfl rfl (by decide) rfl (fun c1 => (H.1 c1)) (fun c1 => wl_st d175_54 rfl rfl rfl rfl (wl_ic (v := 0) d175_55 rfl (wl_cv d175_56 rfl rfl rfl pm11_274 (by decide) (ca_v (Or.inl rfl) rfl (Nat.le_of_ble_eq_true rfl) (Nat.le_of_ble_eq_true rfl) (ly_k L 38 rfl).2 (ly_k L 38 rfl).1 (by decide)) (H.2 c1))))
theorem s175_59 {sc : cmS} {d : Nat} {h : cmH} {Q : Option Value → cmH → Prop} (L : LY h) (x1 : Int32) (H : cm_cv sc d 167 [.ref 38, .int (41 : Int32)] h (fun h' => cm_wp sc (d + 1) 175 65 [some (.ref 38), some (.int x1)] [] h' Q)) : cm_wp sc (d + 1) 175 59 [some (.ref 38), some (.int x1)] [] h Q :=
  wl_st d175_59 rfl rfl rfl rfl (wl_bi (v := 41) d175_60 rfl (wl_cv d175_62 rfl rfl rfl pm11_253 (by decide) (ca_v (Or.inl rfl) rfl (Nat.le_of_ble_eq_true rfl) (Nat.le_of_ble_eq_true rfl) (ly_k L 38 rfl).2 (ly_k L 38 rfl).1 (by decide)) H))
theorem s175_65 {sc : cmS} {d : Nat} {h : cmH} {Q : Option Value → cmH → Prop} (x1 : Int32) (H : cm_wp sc d 175 76 [some (.ref 38), some (.int x1)] [] h Q) : cm_wp sc d 175 65 [some (.ref 38), some (.int x1)] [] h Q :=
  wl_go (tgt := 76) d175_65 (by decide) (H)
theorem s175_72 {sc : cmS} {d : Nat} {h : cmH} {Q : Option Value → cmH → Prop} (L : LY h) (x1 : Int32) (H : cm_cv sc d 174 [.ref 38] h (fun h' => cm_wp sc (d + 1) 175 76 [some (.ref 38), some (.int x1)] [] h' Q)) : cm_wp sc (d + 1) 175 72 [some (.ref 38), some (.int x1)] [] h Q :=
  wl_st d175_72 rfl rfl rfl rfl (wl_cv d175_73 rfl rfl rfl pm11_278 (by decide) (ca_v (Or.inl rfl) rfl (Nat.le_of_ble_eq_true rfl) (Nat.le_of_ble_eq_true rfl) (ly_k L 38 rfl).2 (ly_k L 38 rfl).1 (by decide)) H)
theorem s175_76 {sc : cmS} {d : Nat} {h : cmH} {Q : Option Value → cmH → Prop} (x1 : Int32) (H : Q none h) : cm_wp sc d 175 76 [some (.ref 38), some (.int x1)] [] h Q :=
  wl_rt d175_76 rfl rfl rfl H
-- ClogHouseModel.rules()I
theorem d176_0 : decode (cm_M 176).2.2.1 0 = .ok (.aload_n 0, 1) := by decide +kernel
theorem d176_1 : decode (cm_M 176).2.2.1 1 = .ok (.getfield 290, 3) := by decide +kernel
theorem d176_4 : decode (cm_M 176).2.2.1 4 = .ok (.bipush 12, 2) := by decide +kernel
theorem d176_6 : decode (cm_M 176).2.2.1 6 = .ok (.if_icmp .eq 11, 3) := by decide +kernel
theorem d176_9 : decode (cm_M 176).2.2.1 9 = .ok (.aload_n 0, 1) := by decide +kernel
theorem d176_10 : decode (cm_M 176).2.2.1 10 = .ok (.invokevirtual 293, 3) := by decide +kernel
theorem d176_13 : decode (cm_M 176).2.2.1 13 = .ok (.iconst (-1), 1) := by decide +kernel
theorem d176_14 : decode (cm_M 176).2.2.1 14 = .ok (.if_icmp .eq 5, 3) := by decide +kernel
theorem d176_17 : decode (cm_M 176).2.2.1 17 = .ok (.iconst (-1), 1) := by decide +kernel
theorem d176_18 : decode (cm_M 176).2.2.1 18 = .ok (.ireturn, 1) := by decide +kernel
theorem d176_19 : decode (cm_M 176).2.2.1 19 = .ok (.iconst 0, 1) := by decide +kernel
theorem d176_20 : decode (cm_M 176).2.2.1 20 = .ok (.istore_n 1, 1) := by decide +kernel
theorem d176_21 : decode (cm_M 176).2.2.1 21 = .ok (.iload_n 1, 1) := by decide +kernel
theorem d176_22 : decode (cm_M 176).2.2.1 22 = .ok (.aload_n 0, 1) := by decide +kernel
theorem d176_23 : decode (cm_M 176).2.2.1 23 = .ok (.getfield 226, 3) := by decide +kernel
theorem d176_26 : decode (cm_M 176).2.2.1 26 = .ok (.if_icmp .ge 30, 3) := by decide +kernel
theorem d176_29 : decode (cm_M 176).2.2.1 29 = .ok (.aload_n 0, 1) := by decide +kernel
theorem d176_30 : decode (cm_M 176).2.2.1 30 = .ok (.getfield 83, 3) := by decide +kernel
theorem d176_33 : decode (cm_M 176).2.2.1 33 = .ok (.sipush 420, 3) := by decide +kernel
theorem d176_36 : decode (cm_M 176).2.2.1 36 = .ok (.aload_n 0, 1) := by decide +kernel
theorem d176_37 : decode (cm_M 176).2.2.1 37 = .ok (.getfield 290, 3) := by decide +kernel
theorem d176_40 : decode (cm_M 176).2.2.1 40 = .ok (.imul, 1) := by decide +kernel
theorem d176_41 : decode (cm_M 176).2.2.1 41 = .ok (.iload_n 1, 1) := by decide +kernel
theorem d176_42 : decode (cm_M 176).2.2.1 42 = .ok (.iadd, 1) := by decide +kernel
theorem d176_43 : decode (cm_M 176).2.2.1 43 = .ok (.aload_n 0, 1) := by decide +kernel
theorem d176_44 : decode (cm_M 176).2.2.1 44 = .ok (.getfield 80, 3) := by decide +kernel
theorem d176_47 : decode (cm_M 176).2.2.1 47 = .ok (.iload_n 1, 1) := by decide +kernel
theorem d176_48 : decode (cm_M 176).2.2.1 48 = .ok (.iaload, 1) := by decide +kernel
theorem d176_49 : decode (cm_M 176).2.2.1 49 = .ok (.iastore, 1) := by decide +kernel
theorem d176_50 : decode (cm_M 176).2.2.1 50 = .ok (.iinc 1 1, 3) := by decide +kernel
theorem d176_53 : decode (cm_M 176).2.2.1 53 = .ok (.goto (-32), 3) := by decide +kernel
theorem d176_56 : decode (cm_M 176).2.2.1 56 = .ok (.aload_n 0, 1) := by decide +kernel
theorem d176_57 : decode (cm_M 176).2.2.1 57 = .ok (.getfield 86, 3) := by decide +kernel
theorem d176_60 : decode (cm_M 176).2.2.1 60 = .ok (.aload_n 0, 1) := by decide +kernel
theorem d176_61 : decode (cm_M 176).2.2.1 61 = .ok (.getfield 290, 3) := by decide +kernel
theorem d176_64 : decode (cm_M 176).2.2.1 64 = .ok (.aload_n 0, 1) := by decide +kernel
theorem d176_65 : decode (cm_M 176).2.2.1 65 = .ok (.getfield 226, 3) := by decide +kernel
theorem d176_68 : decode (cm_M 176).2.2.1 68 = .ok (.iastore, 1) := by decide +kernel
theorem d176_69 : decode (cm_M 176).2.2.1 69 = .ok (.aload_n 0, 1) := by decide +kernel
theorem d176_70 : decode (cm_M 176).2.2.1 70 = .ok (.iconst 0, 1) := by decide +kernel
theorem d176_71 : decode (cm_M 176).2.2.1 71 = .ok (.putfield 217, 3) := by decide +kernel
theorem d176_74 : decode (cm_M 176).2.2.1 74 = .ok (.aload_n 0, 1) := by decide +kernel
theorem d176_75 : decode (cm_M 176).2.2.1 75 = .ok (.dup, 1) := by decide +kernel
theorem d176_76 : decode (cm_M 176).2.2.1 76 = .ok (.getfield 290, 3) := by decide +kernel
theorem d176_79 : decode (cm_M 176).2.2.1 79 = .ok (.iconst 1, 1) := by decide +kernel
theorem d176_80 : decode (cm_M 176).2.2.1 80 = .ok (.iadd, 1) := by decide +kernel
theorem d176_81 : decode (cm_M 176).2.2.1 81 = .ok (.putfield 290, 3) := by decide +kernel
theorem d176_84 : decode (cm_M 176).2.2.1 84 = .ok (.aload_n 0, 1) := by decide +kernel
theorem d176_85 : decode (cm_M 176).2.2.1 85 = .ok (.getfield 290, 3) := by decide +kernel
theorem d176_88 : decode (cm_M 176).2.2.1 88 = .ok (.iconst 1, 1) := by decide +kernel
theorem d176_89 : decode (cm_M 176).2.2.1 89 = .ok (.isub, 1) := by decide +kernel
theorem d176_90 : decode (cm_M 176).2.2.1 90 = .ok (.ireturn, 1) := by decide +kernel
theorem s176_0 {sc : cmS} {d : Nat} {h : cmH} {Q : Option Value → cmH → Prop} (L : LY h) (u1 : Option Value) (H : ((((cm_I h 38 34) = (12 : Int32)) → Q (some (.int (-1 : Int32))) h) ∧ (¬ ((cm_I h 38 34) = (12 : Int32)) → cm_ci sc d 157 [.ref 38] h (fun r h' => cm_wp sc (d + 1) 176 13 [some (.ref 38), u1] [.int r] h' Q)))) : cm_wp sc (d + 1) 176 0 [some (.ref 38), u1] [] h Q :=
  wl_st d176_0 rfl rfl rfl rfl (wl_gf (v := .int (cm_I h 38 34)) d176_1 pf11_290 (ly_k L 38 rfl) rfl (wl_bi (v := 12) d176_4 rfl (wl_cb (b := (cm_I h 38 34) = (12 : Int32)) (off := 11) (tgt := 17) (pc3 := 9) (st' := []) d176_6 rfl rfl rfl rfl (by decide) rfl (fun c1 => wl_ic (v := (-1)) d176_17 rfl (wl_rt d176_18 rfl rfl rfl (H.1 c1))) (fun c1 => wl_st d176_9 rfl rfl rfl rfl (wl_ci d176_10 rfl rfl rfl pm11_293 (by decide) (ca_v (Or.inl rfl) rfl (Nat.le_of_ble_eq_true rfl) (Nat.le_of_ble_eq_true rfl) (ly_k L 38 rfl).2 (ly_k L 38 rfl).1 (by decide)) (H.2 c1))))))
theorem s176_13 {sc : cmS} {d : Nat} {h : cmH} {Q : Option Value → cmH → Prop} (u1 : Option Value) (sx0 : Int32) (H : (((sx0 = (-1 : Int32)) → cm_wp sc d 176 21 [some (.ref 38), some (.int (0 : Int32))] [] h Q) ∧ (¬ (sx0 = (-1 : Int32)) → Q (some (.int (-1 : Int32))) h))) : cm_wp sc d 176 13 [some (.ref 38), u1] [.int sx0] h Q :=
  wl_ic (v := (-1)) d176_13 rfl (wl_cb (b := sx0 = (-1 : Int32)) (off := 5) (tgt := 19) (pc3 := 17) (st' := []) d176_14 rfl rfl rfl rfl (by decide) rfl (fun c1 => wl_ic (v := 0) d176_19 rfl (wl_st (ls' := [some (.ref 38), some (.int (0 : Int32))]) d176_20 rfl rfl rfl rfl ((H.1 c1)))) (fun c1 => wl_ic (v := (-1)) d176_17 rfl (wl_rt d176_18 rfl rfl rfl (H.2 c1))))
theorem s176_21 {sc : cmS} {d : Nat} {h : cmH} {Q : Option Value → cmH → Prop} (L : LY h) (x1 : Int32) (H : ((((cm_I h 38 33) ≤ x1) → (IX 12 (cm_I h 38 34)) ∧ Q (some (.int (((cm_I h 38 34) + (1 : Int32)) - (1 : Int32)))) (cm_setI (cm_setI (cm_setI h 64 (cm_I h 38 34).toNatClampNeg (cm_I h 38 33)) 38 29 (0 : Int32)) 38 34 ((cm_I h 38 34) + (1 : Int32)))) ∧ (¬ ((cm_I h 38 33) ≤ x1) → (IX 420 x1) ∧ (IX 5040 (((420 : Int32) * (cm_I h 38 34)) + x1)) ∧ cm_wp sc d 176 21 [some (.ref 38), some (.int (x1 + 1))] [] (cm_setI h 63 (((420 : Int32) * (cm_I h 38 34)) + x1).toNatClampNeg (cm_I h 62 x1.toNatClampNeg)) Q))) : cm_wp sc d 176 21 [some (.ref 38), some (.int x1)] [] h Q :=
  wl_st d176_21 rfl rfl rfl rfl (wl_st d176_22 rfl rfl rfl rfl (wl_gf (v := .int (cm_I h 38 33)) d176_23 pf11_226 (ly_k L 38 rfl) rfl (wl_cb (b := (cm_I h 38 33) ≤ x1) (off := 30) (tgt := 56) (pc3 := 29) (st' := []) d176_26 rfl rfl rfl rfl (by decide) rfl (fun c1 => wl_st d176_56 rfl rfl rfl rfl (wl_gr (b := 64) d176_57 pf11_86 (ly_k L 38 rfl) rfl (ly_r L 38 28 rfl) (wl_st d176_60 rfl rfl rfl rfl (wl_gf (v := .int (cm_I h 38 34)) d176_61 pf11_290 (ly_k L 38 rfl) rfl (wl_st d176_64 rfl rfl rfl rfl (wl_gf (v := .int (cm_I h 38 33)) d176_65 pf11_226 (ly_k L 38 rfl) rfl (And.elim (fun g2 g2k => wl_if (h' := (cm_setI h 64 (cm_I h 38 34).toNatClampNeg (cm_I h 38 33))) d176_68 rfl rfl rfl rfl (ly_o L 64 rfl g2) (wl_st d176_69 rfl rfl rfl rfl (wl_ic (v := 0) d176_70 rfl (wl_pf (h' := (cm_setI (cm_setI h 64 (cm_I h 38 34).toNatClampNeg (cm_I h 38 33)) 38 29 (0 : Int32))) d176_71 pf11_217 (ly_k L 38 rfl) (Or.inl rfl) rfl (wl_st d176_74 rfl rfl rfl rfl (wl_st d176_75 rfl rfl rfl rfl (wl_gf (v := .int (cm_I h 38 34)) d176_76 pf11_290 (ly_k L 38 rfl) rfl (wl_ic (v := 1) d176_79 rfl (wl_st d176_80 rfl rfl rfl rfl (wl_pf (h' := (cm_setI (cm_setI (cm_setI h 64 (cm_I h 38 34).toNatClampNeg (cm_I h 38 33)) 38 29 (0 : Int32)) 38 34 ((cm_I h 38 34) + (1 : Int32)))) d176_81 pf11_290 (ly_k L 38 rfl) (Or.inl rfl) rfl (wl_st d176_84 rfl rfl rfl rfl (wl_gf (v := .int ((cm_I h 38 34) + (1 : Int32))) d176_85 pf11_290 (ly_k L 38 rfl) rfl (wl_ic (v := 1) d176_88 rfl (wl_st d176_89 rfl rfl rfl rfl (wl_rt d176_90 rfl rfl rfl g2k))))))))))))))) (H.1 c1)))))))) (fun c1 => wl_st d176_29 rfl rfl rfl rfl (wl_gr (b := 63) d176_30 pf11_83 (ly_k L 38 rfl) rfl (ly_r L 38 27 rfl) (wl_si (v := 420) d176_33 rfl (wl_st d176_36 rfl rfl rfl rfl (wl_gf (v := .int (cm_I h 38 34)) d176_37 pf11_290 (ly_k L 38 rfl) rfl (wl_st d176_40 rfl rfl rfl rfl (wl_st d176_41 rfl rfl rfl rfl (wl_st d176_42 rfl rfl rfl rfl (wl_st d176_43 rfl rfl rfl rfl (wl_gr (b := 62) d176_44 pf11_80 (ly_k L 38 rfl) rfl (ly_r L 38 26 rfl) (wl_st d176_47 rfl rfl rfl rfl (And.elim (fun g3 g3k => wl_if (g := cm_ok h 13 62 x1) (st' := [.int (cm_I h 62 x1.toNatClampNeg), .int (((420 : Int32) * (cm_I h 38 34)) + x1), .ref 63]) d176_48 rfl rfl rfl rfl (ly_o L 62 rfl g3) (And.elim (fun g4 g4k => wl_if (h' := (cm_setI h 63 (((420 : Int32) * (cm_I h 38 34)) + x1).toNatClampNeg (cm_I h 62 x1.toNatClampNeg))) d176_49 rfl rfl rfl rfl (ly_o L 63 rfl g4) (wl_st (ls' := [some (.ref 38), some (.int (x1 + 1))]) d176_50 rfl rfl rfl rfl (wl_go (tgt := 21) d176_53 (by decide) (g4k)))) g3k)) (H.2 c1))))))))))))))))
-- ClogHouseModel.rule(II)Z
theorem d177_0 : decode (cm_M 177).2.2.1 0 = .ok (.aload_n 0, 1) := by decide +kernel
theorem d177_1 : decode (cm_M 177).2.2.1 1 = .ok (.iload_n 1, 1) := by decide +kernel
theorem d177_2 : decode (cm_M 177).2.2.1 2 = .ok (.invokevirtual 168, 3) := by decide +kernel
theorem d177_5 : decode (cm_M 177).2.2.1 5 = .ok (.ifCond .eq 17, 3) := by decide +kernel
theorem d177_8 : decode (cm_M 177).2.2.1 8 = .ok (.iload_n 2, 1) := by decide +kernel
theorem d177_9 : decode (cm_M 177).2.2.1 9 = .ok (.iconst (-1), 1) := by decide +kernel
theorem d177_10 : decode (cm_M 177).2.2.1 10 = .ok (.aload_n 0, 1) := by decide +kernel
theorem d177_11 : decode (cm_M 177).2.2.1 11 = .ok (.getfield 290, 3) := by decide +kernel
theorem d177_14 : decode (cm_M 177).2.2.1 14 = .ok (.iconst 1, 1) := by decide +kernel
theorem d177_15 : decode (cm_M 177).2.2.1 15 = .ok (.isub, 1) := by decide +kernel
theorem d177_16 : decode (cm_M 177).2.2.1 16 = .ok (.invokestatic 161, 3) := by decide +kernel
theorem d177_19 : decode (cm_M 177).2.2.1 19 = .ok (.ifCond .ne 5, 3) := by decide +kernel
theorem d177_22 : decode (cm_M 177).2.2.1 22 = .ok (.iconst 0, 1) := by decide +kernel
theorem d177_23 : decode (cm_M 177).2.2.1 23 = .ok (.ireturn, 1) := by decide +kernel
theorem d177_24 : decode (cm_M 177).2.2.1 24 = .ok (.aload_n 0, 1) := by decide +kernel
theorem d177_25 : decode (cm_M 177).2.2.1 25 = .ok (.getfield 58, 3) := by decide +kernel
theorem d177_28 : decode (cm_M 177).2.2.1 28 = .ok (.iload_n 1, 1) := by decide +kernel
theorem d177_29 : decode (cm_M 177).2.2.1 29 = .ok (.iload_n 2, 1) := by decide +kernel
theorem d177_30 : decode (cm_M 177).2.2.1 30 = .ok (.iastore, 1) := by decide +kernel
theorem d177_31 : decode (cm_M 177).2.2.1 31 = .ok (.iconst 1, 1) := by decide +kernel
theorem d177_32 : decode (cm_M 177).2.2.1 32 = .ok (.ireturn, 1) := by decide +kernel
theorem s177_0 {sc : cmS} {d : Nat} {h : cmH} {Q : Option Value → cmH → Prop} (L : LY h) (x1 : Int32) (x2 : Int32) (H : cm_ci sc d 140 [.ref 38, .int x1] h (fun r h' => cm_wp sc (d + 1) 177 5 [some (.ref 38), some (.int x1), some (.int x2)] [.int r] h' Q)) : cm_wp sc (d + 1) 177 0 [some (.ref 38), some (.int x1), some (.int x2)] [] h Q :=
  wl_st d177_0 rfl rfl rfl rfl (wl_st d177_1 rfl rfl rfl rfl (wl_ci d177_2 rfl rfl rfl pm11_168 (by decide) (ca_v (Or.inl rfl) rfl (Nat.le_of_ble_eq_true rfl) (Nat.le_of_ble_eq_true rfl) (ly_k L 38 rfl).2 (ly_k L 38 rfl).1 (by decide)) H))
theorem s177_5 {sc : cmS} {d : Nat} {h : cmH} {Q : Option Value → cmH → Prop} (L : LY h) (x1 : Int32) (x2 : Int32) (sx0 : Int32) (H : (((sx0 = 0) → Q (some (.int (0 : Int32))) h) ∧ (¬ (sx0 = 0) → cm_ci sc d 137 [.int x2, .int (-1 : Int32), .int ((cm_I h 38 34) - (1 : Int32))] h (fun r h' => cm_wp sc (d + 1) 177 19 [some (.ref 38), some (.int x1), some (.int x2)] [.int r] h' Q)))) : cm_wp sc (d + 1) 177 5 [some (.ref 38), some (.int x1), some (.int x2)] [.int sx0] h Q :=
  wl_cb (b := sx0 = 0) (off := 17) (tgt := 22) (pc3 := 8) (st' := []) d177_5 rfl rfl rfl rfl (by decide) rfl (fun c1 => wl_ic (v := 0) d177_22 rfl (wl_rz d177_23 rfl (by decide) (H.1 c1))) (fun c1 => wl_st d177_8 rfl rfl rfl rfl (wl_ic (v := (-1)) d177_9 rfl (wl_st d177_10 rfl rfl rfl rfl (wl_gf (v := .int (cm_I h 38 34)) d177_11 pf11_290 (ly_k L 38 rfl) rfl (wl_ic (v := 1) d177_14 rfl (wl_st d177_15 rfl rfl rfl rfl (wl_ci d177_16 rfl rfl rfl pm11_161 (by decide) (ca_s (Or.inl rfl) rfl (Nat.le_of_ble_eq_true rfl) (Nat.le_of_ble_eq_true rfl)) (H.2 c1))))))))
theorem s177_19 {sc : cmS} {d : Nat} {h : cmH} {Q : Option Value → cmH → Prop} (L : LY h) (x1 : Int32) (x2 : Int32) (sx0 : Int32) (H : (((¬ sx0 = 0) → (IX 9 x1) ∧ Q (some (.int (1 : Int32))) (cm_setI h 55 x1.toNatClampNeg x2)) ∧ (¬ (¬ sx0 = 0) → Q (some (.int (0 : Int32))) h))) : cm_wp sc d 177 19 [some (.ref 38), some (.int x1), some (.int x2)] [.int sx0] h Q :=
  wl_cb (b := ¬ sx0 = 0) (off := 5) (tgt := 24) (pc3 := 22) (st' := []) d177_19 rfl rfl rfl rfl (by decide) rfl (fun c1 => wl_st d177_24 rfl rfl rfl rfl (wl_gr (b := 55) d177_25 pf11_58 (ly_k L 38 rfl) rfl (ly_r L 38 18 rfl) (wl_st d177_28 rfl rfl rfl rfl (wl_st d177_29 rfl rfl rfl rfl (And.elim (fun g2 g2k => wl_if (h' := (cm_setI h 55 x1.toNatClampNeg x2)) d177_30 rfl rfl rfl rfl (ly_o L 55 rfl g2) (wl_ic (v := 1) d177_31 rfl (wl_rz d177_32 rfl (by decide) g2k))) (H.1 c1)))))) (fun c1 => wl_ic (v := 0) d177_22 rfl (wl_rz d177_23 rfl (by decide) (H.2 c1)))
-- ClogHouseModel.worth(IIIIIIII)I
theorem d178_0 : decode (cm_M 178).2.2.1 0 = .ok (.aload_n 0, 1) := by decide +kernel
theorem d178_1 : decode (cm_M 178).2.2.1 1 = .ok (.iload_n 1, 1) := by decide +kernel
theorem d178_2 : decode (cm_M 178).2.2.1 2 = .ok (.iconst 0, 1) := by decide +kernel
theorem d178_3 : decode (cm_M 178).2.2.1 3 = .ok (.aload_n 0, 1) := by decide +kernel
theorem d178_4 : decode (cm_M 178).2.2.1 4 = .ok (.getfield 290, 3) := by decide +kernel
theorem d178_7 : decode (cm_M 178).2.2.1 7 = .ok (.iconst 1, 1) := by decide +kernel
theorem d178_8 : decode (cm_M 178).2.2.1 8 = .ok (.isub, 1) := by decide +kernel
theorem d178_9 : decode (cm_M 178).2.2.1 9 = .ok (.invokestatic 161, 3) := by decide +kernel
theorem d178_12 : decode (cm_M 178).2.2.1 12 = .ok (.ifCond .eq 14, 3) := by decide +kernel
theorem d178_15 : decode (cm_M 178).2.2.1 15 = .ok (.iload_n 2, 1) := by decide +kernel
theorem d178_16 : decode (cm_M 178).2.2.1 16 = .ok (.invokestatic 284, 3) := by decide +kernel
theorem d178_19 : decode (cm_M 178).2.2.1 19 = .ok (.ifCond .eq 7, 3) := by decide +kernel
theorem d178_22 : decode (cm_M 178).2.2.1 22 = .ok (.iconst 0, 1) := by decide +kernel
theorem d178_23 : decode (cm_M 178).2.2.1 23 = .ok (.goto 4, 3) := by decide +kernel
theorem d178_26 : decode (cm_M 178).2.2.1 26 = .ok (.iconst 1, 1) := by decide +kernel
theorem d178_27 : decode (cm_M 178).2.2.1 27 = .ok (.putfield 157, 3) := by decide +kernel
theorem d178_30 : decode (cm_M 178).2.2.1 30 = .ok (.aload_n 0, 1) := by decide +kernel
theorem d178_31 : decode (cm_M 178).2.2.1 31 = .ok (.getfield 157, 3) := by decide +kernel
theorem d178_34 : decode (cm_M 178).2.2.1 34 = .ok (.iconst 1, 1) := by decide +kernel
theorem d178_35 : decode (cm_M 178).2.2.1 35 = .ok (.if_icmp .ne 5, 3) := by decide +kernel
theorem d178_38 : decode (cm_M 178).2.2.1 38 = .ok (.iconst 0, 1) := by decide +kernel
theorem d178_39 : decode (cm_M 178).2.2.1 39 = .ok (.ireturn, 1) := by decide +kernel
theorem d178_40 : decode (cm_M 178).2.2.1 40 = .ok (.aload_n 0, 1) := by decide +kernel
theorem d178_41 : decode (cm_M 178).2.2.1 41 = .ok (.getfield 89, 3) := by decide +kernel
theorem d178_44 : decode (cm_M 178).2.2.1 44 = .ok (.bipush 112, 2) := by decide +kernel
theorem d178_46 : decode (cm_M 178).2.2.1 46 = .ok (.iload_n 3, 1) := by decide +kernel
theorem d178_47 : decode (cm_M 178).2.2.1 47 = .ok (.iastore, 1) := by decide +kernel
theorem d178_48 : decode (cm_M 178).2.2.1 48 = .ok (.aload_n 0, 1) := by decide +kernel
theorem d178_49 : decode (cm_M 178).2.2.1 49 = .ok (.getfield 89, 3) := by decide +kernel
theorem d178_52 : decode (cm_M 178).2.2.1 52 = .ok (.bipush 104, 2) := by decide +kernel
theorem d178_54 : decode (cm_M 178).2.2.1 54 = .ok (.iload 4, 2) := by decide +kernel
theorem d178_56 : decode (cm_M 178).2.2.1 56 = .ok (.iastore, 1) := by decide +kernel
theorem d178_57 : decode (cm_M 178).2.2.1 57 = .ok (.aload_n 0, 1) := by decide +kernel
theorem d178_58 : decode (cm_M 178).2.2.1 58 = .ok (.getfield 89, 3) := by decide +kernel
theorem d178_61 : decode (cm_M 178).2.2.1 61 = .ok (.bipush 111, 2) := by decide +kernel
theorem d178_63 : decode (cm_M 178).2.2.1 63 = .ok (.iload 5, 2) := by decide +kernel
theorem d178_65 : decode (cm_M 178).2.2.1 65 = .ok (.iastore, 1) := by decide +kernel
theorem d178_66 : decode (cm_M 178).2.2.1 66 = .ok (.aload_n 0, 1) := by decide +kernel
theorem d178_67 : decode (cm_M 178).2.2.1 67 = .ok (.getfield 89, 3) := by decide +kernel
theorem d178_70 : decode (cm_M 178).2.2.1 70 = .ok (.bipush 105, 2) := by decide +kernel
theorem d178_72 : decode (cm_M 178).2.2.1 72 = .ok (.iload 6, 2) := by decide +kernel
theorem d178_74 : decode (cm_M 178).2.2.1 74 = .ok (.iastore, 1) := by decide +kernel
theorem d178_75 : decode (cm_M 178).2.2.1 75 = .ok (.aload_n 0, 1) := by decide +kernel
theorem d178_76 : decode (cm_M 178).2.2.1 76 = .ok (.getfield 89, 3) := by decide +kernel
theorem d178_79 : decode (cm_M 178).2.2.1 79 = .ok (.bipush 110, 2) := by decide +kernel
theorem d178_81 : decode (cm_M 178).2.2.1 81 = .ok (.iload 7, 2) := by decide +kernel
theorem d178_83 : decode (cm_M 178).2.2.1 83 = .ok (.iastore, 1) := by decide +kernel
theorem d178_84 : decode (cm_M 178).2.2.1 84 = .ok (.aload_n 0, 1) := by decide +kernel
theorem d178_85 : decode (cm_M 178).2.2.1 85 = .ok (.getfield 89, 3) := by decide +kernel
theorem d178_88 : decode (cm_M 178).2.2.1 88 = .ok (.bipush 107, 2) := by decide +kernel
theorem d178_90 : decode (cm_M 178).2.2.1 90 = .ok (.iload 8, 2) := by decide +kernel
theorem d178_92 : decode (cm_M 178).2.2.1 92 = .ok (.iastore, 1) := by decide +kernel
theorem d178_93 : decode (cm_M 178).2.2.1 93 = .ok (.aload_n 0, 1) := by decide +kernel
theorem d178_94 : decode (cm_M 178).2.2.1 94 = .ok (.iload_n 1, 1) := by decide +kernel
theorem d178_95 : decode (cm_M 178).2.2.1 95 = .ok (.iload_n 2, 1) := by decide +kernel
theorem d178_96 : decode (cm_M 178).2.2.1 96 = .ok (.invokevirtual 316, 3) := by decide +kernel
theorem d178_99 : decode (cm_M 178).2.2.1 99 = .ok (.ireturn, 1) := by decide +kernel
theorem s178_0 {sc : cmS} {d : Nat} {h : cmH} {Q : Option Value → cmH → Prop} (L : LY h) (x1 : Int32) (x2 : Int32) (x3 : Int32) (x4 : Int32) (x5 : Int32) (x6 : Int32) (x7 : Int32) (x8 : Int32) (H : cm_ci sc d 137 [.int x1, .int (0 : Int32), .int ((cm_I h 38 34) - (1 : Int32))] h (fun r h' => cm_wp sc (d + 1) 178 12 [some (.ref 38), some (.int x1), some (.int x2), some (.int x3), some (.int x4), some (.int x5), some (.int x6), some (.int x7), some (.int x8)] [.int r, .ref 38] h' Q)) : cm_wp sc (d + 1) 178 0 [some (.ref 38), some (.int x1), some (.int x2), some (.int x3), some (.int x4), some (.int x5), some (.int x6), some (.int x7), some (.int x8)] [] h Q :=
  wl_st d178_0 rfl rfl rfl rfl (wl_st d178_1 rfl rfl rfl rfl (wl_ic (v := 0) d178_2 rfl (wl_st d178_3 rfl rfl rfl rfl (wl_gf (v := .int (cm_I h 38 34)) d178_4 pf11_290 (ly_k L 38 rfl) rfl (wl_ic (v := 1) d178_7 rfl (wl_st d178_8 rfl rfl rfl rfl (wl_ci d178_9 rfl rfl rfl pm11_161 (by decide) (ca_s (Or.inl rfl) rfl (Nat.le_of_ble_eq_true rfl) (Nat.le_of_ble_eq_true rfl)) H)))))))
theorem s178_12 {sc : cmS} {d : Nat} {h : cmH} {Q : Option Value → cmH → Prop} (x1 : Int32) (x2 : Int32) (x3 : Int32) (x4 : Int32) (x5 : Int32) (x6 : Int32) (x7 : Int32) (x8 : Int32) (sx0 : Int32) (H : (((sx0 = 0) → cm_wp sc (d + 1) 178 26 [some (.ref 38), some (.int x1), some (.int x2), some (.int x3), some (.int x4), some (.int x5), some (.int x6), some (.int x7), some (.int x8)] [.ref 38] h Q) ∧ (¬ (sx0 = 0) → cm_ci sc d 160 [.int x2] h (fun r h' => cm_wp sc (d + 1) 178 19 [some (.ref 38), some (.int x1), some (.int x2), some (.int x3), some (.int x4), some (.int x5), some (.int x6), some (.int x7), some (.int x8)] [.int r, .ref 38] h' Q)))) : cm_wp sc (d + 1) 178 12 [some (.ref 38), some (.int x1), some (.int x2), some (.int x3), some (.int x4), some (.int x5), some (.int x6), some (.int x7), some (.int x8)] [.int sx0, .ref 38] h Q :=
  wl_cb (b := sx0 = 0) (off := 14) (tgt := 26) (pc3 := 15) (st' := [.ref 38]) d178_12 rfl rfl rfl rfl (by decide) rfl (fun c1 => (H.1 c1)) (fun c1 => wl_st d178_15 rfl rfl rfl rfl (wl_ci d178_16 rfl rfl rfl pm11_284 (by decide) (ca_s (Or.inl rfl) rfl (Nat.le_of_ble_eq_true rfl) (Nat.le_of_ble_eq_true rfl)) (H.2 c1)))
theorem s178_19 {sc : cmS} {d : Nat} {h : cmH} {Q : Option Value → cmH → Prop} (x1 : Int32) (x2 : Int32) (x3 : Int32) (x4 : Int32) (x5 : Int32) (x6 : Int32) (x7 : Int32) (x8 : Int32) (sx0 : Int32) (H : (((sx0 = 0) → cm_wp sc d 178 26 [some (.ref 38), some (.int x1), some (.int x2), some (.int x3), some (.int x4), some (.int x5), some (.int x6), some (.int x7), some (.int x8)] [.ref 38] h Q) ∧ (¬ (sx0 = 0) → cm_wp sc d 178 27 [some (.ref 38), some (.int x1), some (.int x2), some (.int x3), some (.int x4), some (.int x5), some (.int x6), some (.int x7), some (.int x8)] [.int (0 : Int32), .ref 38] h Q))) : cm_wp sc d 178 19 [some (.ref 38), some (.int x1), some (.int x2), some (.int x3), some (.int x4), some (.int x5), some (.int x6), some (.int x7), some (.int x8)] [.int sx0, .ref 38] h Q :=
  wl_cb (b := sx0 = 0) (off := 7) (tgt := 26) (pc3 := 22) (st' := [.ref 38]) d178_19 rfl rfl rfl rfl (by decide) rfl (fun c1 => (H.1 c1)) (fun c1 => wl_ic (v := 0) d178_22 rfl (wl_go (tgt := 27) d178_23 (by decide) ((H.2 c1))))
theorem s178_26 {sc : cmS} {d : Nat} {h : cmH} {Q : Option Value → cmH → Prop} (x1 : Int32) (x2 : Int32) (x3 : Int32) (x4 : Int32) (x5 : Int32) (x6 : Int32) (x7 : Int32) (x8 : Int32) (H : cm_wp sc d 178 27 [some (.ref 38), some (.int x1), some (.int x2), some (.int x3), some (.int x4), some (.int x5), some (.int x6), some (.int x7), some (.int x8)] [.int (1 : Int32), .ref 38] h Q) : cm_wp sc d 178 26 [some (.ref 38), some (.int x1), some (.int x2), some (.int x3), some (.int x4), some (.int x5), some (.int x6), some (.int x7), some (.int x8)] [.ref 38] h Q :=
  wl_ic (v := 1) d178_26 rfl (H)
theorem s178_27 {sc : cmS} {d : Nat} {h : cmH} {Q : Option Value → cmH → Prop} (L : LY h) (x1 : Int32) (x2 : Int32) (x3 : Int32) (x4 : Int32) (x5 : Int32) (x6 : Int32) (x7 : Int32) (x8 : Int32) (sx0 : Int32) (H : (((¬ sx0 = (1 : Int32)) → cm_ci sc d 179 [.ref 38, .int x1, .int x2] (cm_setI (cm_setI (cm_setI (cm_setI (cm_setI (cm_setI (cm_setI h 38 1 sx0) 65 112 x3) 65 104 x4) 65 111 x5) 65 105 x6) 65 110 x7) 65 107 x8) (fun r h' => cm_wp sc (d + 1) 178 99 [some (.ref 38), some (.int x1), some (.int x2), some (.int x3), some (.int x4), some (.int x5), some (.int x6), some (.int x7), some (.int x8)] [.int r] h' Q)) ∧ (¬ (¬ sx0 = (1 : Int32)) → Q (some (.int (0 : Int32))) (cm_setI h 38 1 sx0)))) : cm_wp sc (d + 1) 178 27 [some (.ref 38), some (.int x1), some (.int x2), some (.int x3), some (.int x4), some (.int x5), some (.int x6), some (.int x7), some (.int x8)] [.int sx0, .ref 38] h Q :=
  wl_pf (h' := (cm_setI h 38 1 sx0)) d178_27 pf11_157 (ly_k L 38 rfl) (Or.inl rfl) rfl (wl_st d178_30 rfl rfl rfl rfl (wl_gf (v := .int sx0) d178_31 pf11_157 (ly_k L 38 rfl) rfl (wl_ic (v := 1) d178_34 rfl (wl_cb (b := ¬ sx0 = (1 : Int32)) (off := 5) (tgt := 40) (pc3 := 38) (st' := []) d178_35 rfl rfl rfl rfl (by decide) rfl (fun c1 => wl_st d178_40 rfl rfl rfl rfl (wl_gr (b := 65) d178_41 pf11_89 (ly_k L 38 rfl) rfl (ly_r L 38 35 rfl) (wl_bi (v := 112) d178_44 rfl (wl_st d178_46 rfl rfl rfl rfl (wl_if (h' := (cm_setI (cm_setI h 38 1 sx0) 65 112 x3)) d178_47 rfl rfl rfl rfl (ly_o L 65 rfl (by decide)) (wl_st d178_48 rfl rfl rfl rfl (wl_gr (b := 65) d178_49 pf11_89 (ly_k L 38 rfl) rfl (ly_r L 38 35 rfl) (wl_bi (v := 104) d178_52 rfl (wl_st d178_54 rfl rfl rfl rfl (wl_if (h' := (cm_setI (cm_setI (cm_setI h 38 1 sx0) 65 112 x3) 65 104 x4)) d178_56 rfl rfl rfl rfl (ly_o L 65 rfl (by decide)) (wl_st d178_57 rfl rfl rfl rfl (wl_gr (b := 65) d178_58 pf11_89 (ly_k L 38 rfl) rfl (ly_r L 38 35 rfl) (wl_bi (v := 111) d178_61 rfl (wl_st d178_63 rfl rfl rfl rfl (wl_if (h' := (cm_setI (cm_setI (cm_setI (cm_setI h 38 1 sx0) 65 112 x3) 65 104 x4) 65 111 x5)) d178_65 rfl rfl rfl rfl (ly_o L 65 rfl (by decide)) (wl_st d178_66 rfl rfl rfl rfl (wl_gr (b := 65) d178_67 pf11_89 (ly_k L 38 rfl) rfl (ly_r L 38 35 rfl) (wl_bi (v := 105) d178_70 rfl (wl_st d178_72 rfl rfl rfl rfl (wl_if (h' := (cm_setI (cm_setI (cm_setI (cm_setI (cm_setI h 38 1 sx0) 65 112 x3) 65 104 x4) 65 111 x5) 65 105 x6)) d178_74 rfl rfl rfl rfl (ly_o L 65 rfl (by decide)) (wl_st d178_75 rfl rfl rfl rfl (wl_gr (b := 65) d178_76 pf11_89 (ly_k L 38 rfl) rfl (ly_r L 38 35 rfl) (wl_bi (v := 110) d178_79 rfl (wl_st d178_81 rfl rfl rfl rfl (wl_if (h' := (cm_setI (cm_setI (cm_setI (cm_setI (cm_setI (cm_setI h 38 1 sx0) 65 112 x3) 65 104 x4) 65 111 x5) 65 105 x6) 65 110 x7)) d178_83 rfl rfl rfl rfl (ly_o L 65 rfl (by decide)) (wl_st d178_84 rfl rfl rfl rfl (wl_gr (b := 65) d178_85 pf11_89 (ly_k L 38 rfl) rfl (ly_r L 38 35 rfl) (wl_bi (v := 107) d178_88 rfl (wl_st d178_90 rfl rfl rfl rfl (wl_if (h' := (cm_setI (cm_setI (cm_setI (cm_setI (cm_setI (cm_setI (cm_setI h 38 1 sx0) 65 112 x3) 65 104 x4) 65 111 x5) 65 105 x6) 65 110 x7) 65 107 x8)) d178_92 rfl rfl rfl rfl (ly_o L 65 rfl (by decide)) (wl_st d178_93 rfl rfl rfl rfl (wl_st d178_94 rfl rfl rfl rfl (wl_st d178_95 rfl rfl rfl rfl (wl_ci d178_96 rfl rfl rfl pm11_316 (by decide) (ca_v (Or.inl rfl) rfl (Nat.le_of_ble_eq_true rfl) (Nat.le_of_ble_eq_true rfl) (ly_k L 38 rfl).2 (ly_k L 38 rfl).1 (by decide)) (H.1 c1))))))))))))))))))))))))))))))))))) (fun c1 => wl_ic (v := 0) d178_38 rfl (wl_rt d178_39 rfl rfl rfl (H.2 c1)))))))
theorem s178_99 {sc : cmS} {d : Nat} {h : cmH} {Q : Option Value → cmH → Prop} (x1 : Int32) (x2 : Int32) (x3 : Int32) (x4 : Int32) (x5 : Int32) (x6 : Int32) (x7 : Int32) (x8 : Int32) (sx0 : Int32) (H : Q (some (.int sx0)) h) : cm_wp sc d 178 99 [some (.ref 38), some (.int x1), some (.int x2), some (.int x3), some (.int x4), some (.int x5), some (.int x6), some (.int x7), some (.int x8)] [.int sx0] h Q :=
  wl_rt d178_99 rfl rfl rfl H
