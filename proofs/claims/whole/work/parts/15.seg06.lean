-- ClogHouseModel.thrown()I
theorem d135_0 : decode (cm_M 135).2.2.1 0 = .ok (.aload_n 0, 1) := by decide +kernel
theorem d135_1 : decode (cm_M 135).2.2.1 1 = .ok (.getfield 157, 3) := by decide +kernel
theorem d135_4 : decode (cm_M 135).2.2.1 4 = .ok (.ireturn, 1) := by decide +kernel
theorem s135_0 {sc : cmS} {d : Nat} {h : cmH} {Q : Option Value → cmH → Prop} (L : LY h)  (H : Q (some (.int (cm_I h 38 1))) h) : cm_wp sc d 135 0 [some (.ref 38)] [] h Q :=
  wl_st d135_0 rfl rfl rfl rfl (wl_gf (v := .int (cm_I h 38 1)) d135_1 pf11_157 (ly_k L 38 rfl) rfl (wl_rt d135_4 rfl rfl rfl H))
-- ClogHouseModel.grain(III)Z
theorem d136_0 : decode (cm_M 136).2.2.1 0 = .ok (.iload_n 1, 1) := by decide +kernel
theorem d136_1 : decode (cm_M 136).2.2.1 1 = .ok (.iconst 0, 1) := by decide +kernel
theorem d136_2 : decode (cm_M 136).2.2.1 2 = .ok (.bipush 7, 2) := by decide +kernel
theorem d136_4 : decode (cm_M 136).2.2.1 4 = .ok (.invokestatic 161, 3) := by decide +kernel
theorem d136_7 : decode (cm_M 136).2.2.1 7 = .ok (.ifCond .eq 23, 3) := by decide +kernel
theorem d136_10 : decode (cm_M 136).2.2.1 10 = .ok (.iload_n 2, 1) := by decide +kernel
theorem d136_11 : decode (cm_M 136).2.2.1 11 = .ok (.iconst 0, 1) := by decide +kernel
theorem d136_12 : decode (cm_M 136).2.2.1 12 = .ok (.iconst 2, 1) := by decide +kernel
theorem d136_13 : decode (cm_M 136).2.2.1 13 = .ok (.invokestatic 161, 3) := by decide +kernel
theorem d136_16 : decode (cm_M 136).2.2.1 16 = .ok (.ifCond .eq 14, 3) := by decide +kernel
theorem d136_19 : decode (cm_M 136).2.2.1 19 = .ok (.iload_n 3, 1) := by decide +kernel
theorem d136_20 : decode (cm_M 136).2.2.1 20 = .ok (.iconst 0, 1) := by decide +kernel
theorem d136_21 : decode (cm_M 136).2.2.1 21 = .ok (.sipush 1000, 3) := by decide +kernel
theorem d136_24 : decode (cm_M 136).2.2.1 24 = .ok (.invokestatic 161, 3) := by decide +kernel
theorem d136_27 : decode (cm_M 136).2.2.1 27 = .ok (.ifCond .ne 5, 3) := by decide +kernel
theorem d136_30 : decode (cm_M 136).2.2.1 30 = .ok (.iconst 0, 1) := by decide +kernel
theorem d136_31 : decode (cm_M 136).2.2.1 31 = .ok (.ireturn, 1) := by decide +kernel
theorem d136_32 : decode (cm_M 136).2.2.1 32 = .ok (.iload_n 2, 1) := by decide +kernel
theorem d136_33 : decode (cm_M 136).2.2.1 33 = .ok (.ifCond .ne 13, 3) := by decide +kernel
theorem d136_36 : decode (cm_M 136).2.2.1 36 = .ok (.aload_n 0, 1) := by decide +kernel
theorem d136_37 : decode (cm_M 136).2.2.1 37 = .ok (.getfield 9, 3) := by decide +kernel
theorem d136_40 : decode (cm_M 136).2.2.1 40 = .ok (.iload_n 1, 1) := by decide +kernel
theorem d136_41 : decode (cm_M 136).2.2.1 41 = .ok (.iload_n 3, 1) := by decide +kernel
theorem d136_42 : decode (cm_M 136).2.2.1 42 = .ok (.iastore, 1) := by decide +kernel
theorem d136_43 : decode (cm_M 136).2.2.1 43 = .ok (.goto 25, 3) := by decide +kernel
theorem d136_46 : decode (cm_M 136).2.2.1 46 = .ok (.iload_n 2, 1) := by decide +kernel
theorem d136_47 : decode (cm_M 136).2.2.1 47 = .ok (.iconst 1, 1) := by decide +kernel
theorem d136_48 : decode (cm_M 136).2.2.1 48 = .ok (.if_icmp .ne 13, 3) := by decide +kernel
theorem d136_51 : decode (cm_M 136).2.2.1 51 = .ok (.aload_n 0, 1) := by decide +kernel
theorem d136_52 : decode (cm_M 136).2.2.1 52 = .ok (.getfield 13, 3) := by decide +kernel
theorem d136_55 : decode (cm_M 136).2.2.1 55 = .ok (.iload_n 1, 1) := by decide +kernel
theorem d136_56 : decode (cm_M 136).2.2.1 56 = .ok (.iload_n 3, 1) := by decide +kernel
theorem d136_57 : decode (cm_M 136).2.2.1 57 = .ok (.iastore, 1) := by decide +kernel
theorem d136_58 : decode (cm_M 136).2.2.1 58 = .ok (.goto 10, 3) := by decide +kernel
theorem d136_61 : decode (cm_M 136).2.2.1 61 = .ok (.aload_n 0, 1) := by decide +kernel
theorem d136_62 : decode (cm_M 136).2.2.1 62 = .ok (.getfield 16, 3) := by decide +kernel
theorem d136_65 : decode (cm_M 136).2.2.1 65 = .ok (.iload_n 1, 1) := by decide +kernel
theorem d136_66 : decode (cm_M 136).2.2.1 66 = .ok (.iload_n 3, 1) := by decide +kernel
theorem d136_67 : decode (cm_M 136).2.2.1 67 = .ok (.iastore, 1) := by decide +kernel
theorem d136_68 : decode (cm_M 136).2.2.1 68 = .ok (.iconst 1, 1) := by decide +kernel
theorem d136_69 : decode (cm_M 136).2.2.1 69 = .ok (.ireturn, 1) := by decide +kernel
theorem s136_0 {sc : cmS} {d : Nat} {h : cmH} {Q : Option Value → cmH → Prop} (x1 : Int32) (x2 : Int32) (x3 : Int32) (H : cm_ci sc d 137 [.int x1, .int (0 : Int32), .int (7 : Int32)] h (fun r h' => cm_wp sc (d + 1) 136 7 [some (.ref 38), some (.int x1), some (.int x2), some (.int x3)] [.int r] h' Q)) : cm_wp sc (d + 1) 136 0 [some (.ref 38), some (.int x1), some (.int x2), some (.int x3)] [] h Q :=
  wl_st d136_0 rfl rfl rfl rfl (wl_ic (v := 0) d136_1 rfl (wl_bi (v := 7) d136_2 rfl (wl_ci d136_4 rfl rfl rfl pm11_161 (by decide) (ca_s (Or.inl rfl) rfl (Nat.le_of_ble_eq_true rfl) (Nat.le_of_ble_eq_true rfl)) H)))
theorem s136_7 {sc : cmS} {d : Nat} {h : cmH} {Q : Option Value → cmH → Prop} (x1 : Int32) (x2 : Int32) (x3 : Int32) (sx0 : Int32) (H : (((sx0 = 0) → Q (some (.int (0 : Int32))) h) ∧ (¬ (sx0 = 0) → cm_ci sc d 137 [.int x2, .int (0 : Int32), .int (2 : Int32)] h (fun r h' => cm_wp sc (d + 1) 136 16 [some (.ref 38), some (.int x1), some (.int x2), some (.int x3)] [.int r] h' Q)))) : cm_wp sc (d + 1) 136 7 [some (.ref 38), some (.int x1), some (.int x2), some (.int x3)] [.int sx0] h Q :=
  wl_cb (b := sx0 = 0) (off := 23) (tgt := 30) (pc3 := 10) (st' := []) d136_7 rfl rfl rfl rfl (by decide) rfl (fun c1 => wl_ic (v := 0) d136_30 rfl (wl_rz d136_31 rfl (by decide) (H.1 c1))) (fun c1 => wl_st d136_10 rfl rfl rfl rfl (wl_ic (v := 0) d136_11 rfl (wl_ic (v := 2) d136_12 rfl (wl_ci d136_13 rfl rfl rfl pm11_161 (by decide) (ca_s (Or.inl rfl) rfl (Nat.le_of_ble_eq_true rfl) (Nat.le_of_ble_eq_true rfl)) (H.2 c1)))))
theorem s136_16 {sc : cmS} {d : Nat} {h : cmH} {Q : Option Value → cmH → Prop} (x1 : Int32) (x2 : Int32) (x3 : Int32) (sx0 : Int32) (H : (((sx0 = 0) → Q (some (.int (0 : Int32))) h) ∧ (¬ (sx0 = 0) → cm_ci sc d 137 [.int x3, .int (0 : Int32), .int (1000 : Int32)] h (fun r h' => cm_wp sc (d + 1) 136 27 [some (.ref 38), some (.int x1), some (.int x2), some (.int x3)] [.int r] h' Q)))) : cm_wp sc (d + 1) 136 16 [some (.ref 38), some (.int x1), some (.int x2), some (.int x3)] [.int sx0] h Q :=
  wl_cb (b := sx0 = 0) (off := 14) (tgt := 30) (pc3 := 19) (st' := []) d136_16 rfl rfl rfl rfl (by decide) rfl (fun c1 => wl_ic (v := 0) d136_30 rfl (wl_rz d136_31 rfl (by decide) (H.1 c1))) (fun c1 => wl_st d136_19 rfl rfl rfl rfl (wl_ic (v := 0) d136_20 rfl (wl_si (v := 1000) d136_21 rfl (wl_ci d136_24 rfl rfl rfl pm11_161 (by decide) (ca_s (Or.inl rfl) rfl (Nat.le_of_ble_eq_true rfl) (Nat.le_of_ble_eq_true rfl)) (H.2 c1)))))
theorem s136_27 {sc : cmS} {d : Nat} {h : cmH} {Q : Option Value → cmH → Prop} (L : LY h) (x1 : Int32) (x2 : Int32) (x3 : Int32) (sx0 : Int32) (H : (((¬ sx0 = 0) → (((¬ x2 = 0) → (((¬ x2 = (1 : Int32)) → (IX 8 x1) ∧ Q (some (.int (1 : Int32))) (cm_setI h 41 x1.toNatClampNeg x3)) ∧ (¬ (¬ x2 = (1 : Int32)) → (IX 8 x1) ∧ Q (some (.int (1 : Int32))) (cm_setI h 40 x1.toNatClampNeg x3)))) ∧ (¬ (¬ x2 = 0) → (IX 8 x1) ∧ Q (some (.int (1 : Int32))) (cm_setI h 39 x1.toNatClampNeg x3)))) ∧ (¬ (¬ sx0 = 0) → Q (some (.int (0 : Int32))) h))) : cm_wp sc d 136 27 [some (.ref 38), some (.int x1), some (.int x2), some (.int x3)] [.int sx0] h Q :=
  wl_cb (b := ¬ sx0 = 0) (off := 5) (tgt := 32) (pc3 := 30) (st' := []) d136_27 rfl rfl rfl rfl (by decide) rfl (fun c1 => wl_st d136_32 rfl rfl rfl rfl (wl_cb (b := ¬ x2 = 0) (off := 13) (tgt := 46) (pc3 := 36) (st' := []) d136_33 rfl rfl rfl rfl (by decide) rfl (fun c2 => wl_st d136_46 rfl rfl rfl rfl (wl_ic (v := 1) d136_47 rfl (wl_cb (b := ¬ x2 = (1 : Int32)) (off := 13) (tgt := 61) (pc3 := 51) (st' := []) d136_48 rfl rfl rfl rfl (by decide) rfl (fun c3 => wl_st d136_61 rfl rfl rfl rfl (wl_gr (b := 41) d136_62 pf11_16 (ly_k L 38 rfl) rfl (ly_r L 38 4 rfl) (wl_st d136_65 rfl rfl rfl rfl (wl_st d136_66 rfl rfl rfl rfl (And.elim (fun g4 g4k => wl_if (h' := (cm_setI h 41 x1.toNatClampNeg x3)) d136_67 rfl rfl rfl rfl (ly_o L 41 rfl g4) (wl_ic (v := 1) d136_68 rfl (wl_rz d136_69 rfl (by decide) g4k))) (((H.1 c1).1 c2).1 c3)))))) (fun c3 => wl_st d136_51 rfl rfl rfl rfl (wl_gr (b := 40) d136_52 pf11_13 (ly_k L 38 rfl) rfl (ly_r L 38 3 rfl) (wl_st d136_55 rfl rfl rfl rfl (wl_st d136_56 rfl rfl rfl rfl (And.elim (fun g5 g5k => wl_if (h' := (cm_setI h 40 x1.toNatClampNeg x3)) d136_57 rfl rfl rfl rfl (ly_o L 40 rfl g5) (wl_go (tgt := 68) d136_58 (by decide) (wl_ic (v := 1) d136_68 rfl (wl_rz d136_69 rfl (by decide) g5k)))) (((H.1 c1).1 c2).2 c3))))))))) (fun c2 => wl_st d136_36 rfl rfl rfl rfl (wl_gr (b := 39) d136_37 pf11_9 (ly_k L 38 rfl) rfl (ly_r L 38 2 rfl) (wl_st d136_40 rfl rfl rfl rfl (wl_st d136_41 rfl rfl rfl rfl (And.elim (fun g6 g6k => wl_if (h' := (cm_setI h 39 x1.toNatClampNeg x3)) d136_42 rfl rfl rfl rfl (ly_o L 39 rfl g6) (wl_go (tgt := 68) d136_43 (by decide) (wl_ic (v := 1) d136_68 rfl (wl_rz d136_69 rfl (by decide) g6k)))) ((H.1 c1).2 c2)))))))) (fun c1 => wl_ic (v := 0) d136_30 rfl (wl_rz d136_31 rfl (by decide) (H.2 c1)))
-- ClogHouseModel.in(III)Z
theorem d137_0 : decode (cm_M 137).2.2.1 0 = .ok (.iload_n 0, 1) := by decide +kernel
theorem d137_1 : decode (cm_M 137).2.2.1 1 = .ok (.iload_n 1, 1) := by decide +kernel
theorem d137_2 : decode (cm_M 137).2.2.1 2 = .ok (.if_icmp .lt 12, 3) := by decide +kernel
theorem d137_5 : decode (cm_M 137).2.2.1 5 = .ok (.iload_n 0, 1) := by decide +kernel
theorem d137_6 : decode (cm_M 137).2.2.1 6 = .ok (.iload_n 2, 1) := by decide +kernel
theorem d137_7 : decode (cm_M 137).2.2.1 7 = .ok (.if_icmp .gt 7, 3) := by decide +kernel
theorem d137_10 : decode (cm_M 137).2.2.1 10 = .ok (.iconst 1, 1) := by decide +kernel
theorem d137_11 : decode (cm_M 137).2.2.1 11 = .ok (.goto 4, 3) := by decide +kernel
theorem d137_14 : decode (cm_M 137).2.2.1 14 = .ok (.iconst 0, 1) := by decide +kernel
theorem d137_15 : decode (cm_M 137).2.2.1 15 = .ok (.ireturn, 1) := by decide +kernel
theorem s137_0 {sc : cmS} {d : Nat} {h : cmH} {Q : Option Value → cmH → Prop} (x0 : Int32) (x1 : Int32) (x2 : Int32) (H : (((x0 < x1) → Q (some (.int (0 : Int32))) h) ∧ (¬ (x0 < x1) → (((x2 < x0) → Q (some (.int (0 : Int32))) h) ∧ (¬ (x2 < x0) → Q (some (.int (1 : Int32))) h))))) : cm_wp sc d 137 0 [some (.int x0), some (.int x1), some (.int x2)] [] h Q :=
  wl_st d137_0 rfl rfl rfl rfl (wl_st d137_1 rfl rfl rfl rfl (wl_cb (b := x0 < x1) (off := 12) (tgt := 14) (pc3 := 5) (st' := []) d137_2 rfl rfl rfl rfl (by decide) rfl (fun c1 => wl_ic (v := 0) d137_14 rfl (wl_rz d137_15 rfl (by decide) (H.1 c1))) (fun c1 => wl_st d137_5 rfl rfl rfl rfl (wl_st d137_6 rfl rfl rfl rfl (wl_cb (b := x2 < x0) (off := 7) (tgt := 14) (pc3 := 10) (st' := []) d137_7 rfl rfl rfl rfl (by decide) rfl (fun c2 => wl_ic (v := 0) d137_14 rfl (wl_rz d137_15 rfl (by decide) ((H.2 c1).1 c2))) (fun c2 => wl_ic (v := 1) d137_10 rfl (wl_go (tgt := 15) d137_11 (by decide) (wl_rz d137_15 rfl (by decide) ((H.2 c1).2 c2)))))))))
-- ClogHouseModel.filter()I
theorem d138_0 : decode (cm_M 138).2.2.1 0 = .ok (.aload_n 0, 1) := by decide +kernel
theorem d138_1 : decode (cm_M 138).2.2.1 1 = .ok (.getfield 165, 3) := by decide +kernel
theorem d138_4 : decode (cm_M 138).2.2.1 4 = .ok (.bipush 8, 2) := by decide +kernel
theorem d138_6 : decode (cm_M 138).2.2.1 6 = .ok (.if_icmp .ne 5, 3) := by decide +kernel
theorem d138_9 : decode (cm_M 138).2.2.1 9 = .ok (.iconst (-1), 1) := by decide +kernel
theorem d138_10 : decode (cm_M 138).2.2.1 10 = .ok (.ireturn, 1) := by decide +kernel
theorem d138_11 : decode (cm_M 138).2.2.1 11 = .ok (.aload_n 0, 1) := by decide +kernel
theorem d138_12 : decode (cm_M 138).2.2.1 12 = .ok (.getfield 40, 3) := by decide +kernel
theorem d138_15 : decode (cm_M 138).2.2.1 15 = .ok (.aload_n 0, 1) := by decide +kernel
theorem d138_16 : decode (cm_M 138).2.2.1 16 = .ok (.getfield 165, 3) := by decide +kernel
theorem d138_19 : decode (cm_M 138).2.2.1 19 = .ok (.bipush 100, 2) := by decide +kernel
theorem d138_21 : decode (cm_M 138).2.2.1 21 = .ok (.iastore, 1) := by decide +kernel
theorem d138_22 : decode (cm_M 138).2.2.1 22 = .ok (.aload_n 0, 1) := by decide +kernel
theorem d138_23 : decode (cm_M 138).2.2.1 23 = .ok (.getfield 43, 3) := by decide +kernel
theorem d138_26 : decode (cm_M 138).2.2.1 26 = .ok (.aload_n 0, 1) := by decide +kernel
theorem d138_27 : decode (cm_M 138).2.2.1 27 = .ok (.getfield 165, 3) := by decide +kernel
theorem d138_30 : decode (cm_M 138).2.2.1 30 = .ok (.sipush 500, 3) := by decide +kernel
theorem d138_33 : decode (cm_M 138).2.2.1 33 = .ok (.iastore, 1) := by decide +kernel
theorem d138_34 : decode (cm_M 138).2.2.1 34 = .ok (.aload_n 0, 1) := by decide +kernel
theorem d138_35 : decode (cm_M 138).2.2.1 35 = .ok (.getfield 46, 3) := by decide +kernel
theorem d138_38 : decode (cm_M 138).2.2.1 38 = .ok (.aload_n 0, 1) := by decide +kernel
theorem d138_39 : decode (cm_M 138).2.2.1 39 = .ok (.getfield 165, 3) := by decide +kernel
theorem d138_42 : decode (cm_M 138).2.2.1 42 = .ok (.bipush 50, 2) := by decide +kernel
theorem d138_44 : decode (cm_M 138).2.2.1 44 = .ok (.iastore, 1) := by decide +kernel
theorem d138_45 : decode (cm_M 138).2.2.1 45 = .ok (.aload_n 0, 1) := by decide +kernel
theorem d138_46 : decode (cm_M 138).2.2.1 46 = .ok (.getfield 58, 3) := by decide +kernel
theorem d138_49 : decode (cm_M 138).2.2.1 49 = .ok (.aload_n 0, 1) := by decide +kernel
theorem d138_50 : decode (cm_M 138).2.2.1 50 = .ok (.getfield 165, 3) := by decide +kernel
theorem d138_53 : decode (cm_M 138).2.2.1 53 = .ok (.iconst (-1), 1) := by decide +kernel
theorem d138_54 : decode (cm_M 138).2.2.1 54 = .ok (.iastore, 1) := by decide +kernel
theorem d138_55 : decode (cm_M 138).2.2.1 55 = .ok (.aload_n 0, 1) := by decide +kernel
theorem d138_56 : decode (cm_M 138).2.2.1 56 = .ok (.getfield 102, 3) := by decide +kernel
theorem d138_59 : decode (cm_M 138).2.2.1 59 = .ok (.aload_n 0, 1) := by decide +kernel
theorem d138_60 : decode (cm_M 138).2.2.1 60 = .ok (.getfield 165, 3) := by decide +kernel
theorem d138_63 : decode (cm_M 138).2.2.1 63 = .ok (.iconst (-1), 1) := by decide +kernel
theorem d138_64 : decode (cm_M 138).2.2.1 64 = .ok (.iastore, 1) := by decide +kernel
theorem d138_65 : decode (cm_M 138).2.2.1 65 = .ok (.aload_n 0, 1) := by decide +kernel
theorem d138_66 : decode (cm_M 138).2.2.1 66 = .ok (.dup, 1) := by decide +kernel
theorem d138_67 : decode (cm_M 138).2.2.1 67 = .ok (.getfield 165, 3) := by decide +kernel
theorem d138_70 : decode (cm_M 138).2.2.1 70 = .ok (.iconst 1, 1) := by decide +kernel
theorem d138_71 : decode (cm_M 138).2.2.1 71 = .ok (.iadd, 1) := by decide +kernel
theorem d138_72 : decode (cm_M 138).2.2.1 72 = .ok (.putfield 165, 3) := by decide +kernel
theorem d138_75 : decode (cm_M 138).2.2.1 75 = .ok (.aload_n 0, 1) := by decide +kernel
theorem d138_76 : decode (cm_M 138).2.2.1 76 = .ok (.getfield 165, 3) := by decide +kernel
theorem d138_79 : decode (cm_M 138).2.2.1 79 = .ok (.iconst 1, 1) := by decide +kernel
theorem d138_80 : decode (cm_M 138).2.2.1 80 = .ok (.isub, 1) := by decide +kernel
theorem d138_81 : decode (cm_M 138).2.2.1 81 = .ok (.ireturn, 1) := by decide +kernel
theorem s138_0 {sc : cmS} {d : Nat} {h : cmH} {Q : Option Value → cmH → Prop} (L : LY h)  (H : (((¬ (cm_I h 38 24) = (8 : Int32)) → (IX 9 (cm_I h 38 24)) ∧ (IX 8 (cm_I h 38 24)) ∧ Q (some (.int (((cm_I h 38 24) + (1 : Int32)) - (1 : Int32)))) (cm_setI (cm_setI (cm_setI (cm_setI (cm_setI (cm_setI h 49 (cm_I h 38 24).toNatClampNeg (100 : Int32)) 50 (cm_I h 38 24).toNatClampNeg (500 : Int32)) 51 (cm_I h 38 24).toNatClampNeg (50 : Int32)) 55 (cm_I h 38 24).toNatClampNeg (-1 : Int32)) 69 (cm_I h 38 24).toNatClampNeg (-1 : Int32)) 38 24 ((cm_I h 38 24) + (1 : Int32)))) ∧ (¬ (¬ (cm_I h 38 24) = (8 : Int32)) → Q (some (.int (-1 : Int32))) h))) : cm_wp sc d 138 0 [some (.ref 38)] [] h Q :=
  wl_st d138_0 rfl rfl rfl rfl (wl_gf (v := .int (cm_I h 38 24)) d138_1 pf11_165 (ly_k L 38 rfl) rfl (wl_bi (v := 8) d138_4 rfl (wl_cb (b := ¬ (cm_I h 38 24) = (8 : Int32)) (off := 5) (tgt := 11) (pc3 := 9) (st' := []) d138_6 rfl rfl rfl rfl (by decide) rfl (fun c1 => wl_st d138_11 rfl rfl rfl rfl (wl_gr (b := 49) d138_12 pf11_40 (ly_k L 38 rfl) rfl (ly_r L 38 12 rfl) (wl_st d138_15 rfl rfl rfl rfl (wl_gf (v := .int (cm_I h 38 24)) d138_16 pf11_165 (ly_k L 38 rfl) rfl (wl_bi (v := 100) d138_19 rfl (And.elim (fun g2 g2k => wl_if (h' := (cm_setI h 49 (cm_I h 38 24).toNatClampNeg (100 : Int32))) d138_21 rfl rfl rfl rfl (ly_o L 49 rfl g2) (wl_st d138_22 rfl rfl rfl rfl (wl_gr (b := 50) d138_23 pf11_43 (ly_k L 38 rfl) rfl (ly_r L 38 13 rfl) (wl_st d138_26 rfl rfl rfl rfl (wl_gf (v := .int (cm_I h 38 24)) d138_27 pf11_165 (ly_k L 38 rfl) rfl (wl_si (v := 500) d138_30 rfl (wl_if (h' := (cm_setI (cm_setI h 49 (cm_I h 38 24).toNatClampNeg (100 : Int32)) 50 (cm_I h 38 24).toNatClampNeg (500 : Int32))) d138_33 rfl rfl rfl rfl (ly_o L 50 rfl g2) (wl_st d138_34 rfl rfl rfl rfl (wl_gr (b := 51) d138_35 pf11_46 (ly_k L 38 rfl) rfl (ly_r L 38 14 rfl) (wl_st d138_38 rfl rfl rfl rfl (wl_gf (v := .int (cm_I h 38 24)) d138_39 pf11_165 (ly_k L 38 rfl) rfl (wl_bi (v := 50) d138_42 rfl (wl_if (h' := (cm_setI (cm_setI (cm_setI h 49 (cm_I h 38 24).toNatClampNeg (100 : Int32)) 50 (cm_I h 38 24).toNatClampNeg (500 : Int32)) 51 (cm_I h 38 24).toNatClampNeg (50 : Int32))) d138_44 rfl rfl rfl rfl (ly_o L 51 rfl g2) (wl_st d138_45 rfl rfl rfl rfl (wl_gr (b := 55) d138_46 pf11_58 (ly_k L 38 rfl) rfl (ly_r L 38 18 rfl) (wl_st d138_49 rfl rfl rfl rfl (wl_gf (v := .int (cm_I h 38 24)) d138_50 pf11_165 (ly_k L 38 rfl) rfl (wl_ic (v := (-1)) d138_53 rfl (wl_if (h' := (cm_setI (cm_setI (cm_setI (cm_setI h 49 (cm_I h 38 24).toNatClampNeg (100 : Int32)) 50 (cm_I h 38 24).toNatClampNeg (500 : Int32)) 51 (cm_I h 38 24).toNatClampNeg (50 : Int32)) 55 (cm_I h 38 24).toNatClampNeg (-1 : Int32))) d138_54 rfl rfl rfl rfl (ly_o L 55 rfl g2) (wl_st d138_55 rfl rfl rfl rfl (wl_gr (b := 69) d138_56 pf11_102 (ly_k L 38 rfl) rfl (ly_r L 38 40 rfl) (wl_st d138_59 rfl rfl rfl rfl (wl_gf (v := .int (cm_I h 38 24)) d138_60 pf11_165 (ly_k L 38 rfl) rfl (wl_ic (v := (-1)) d138_63 rfl (And.elim (fun g3 g3k => wl_if (h' := (cm_setI (cm_setI (cm_setI (cm_setI (cm_setI h 49 (cm_I h 38 24).toNatClampNeg (100 : Int32)) 50 (cm_I h 38 24).toNatClampNeg (500 : Int32)) 51 (cm_I h 38 24).toNatClampNeg (50 : Int32)) 55 (cm_I h 38 24).toNatClampNeg (-1 : Int32)) 69 (cm_I h 38 24).toNatClampNeg (-1 : Int32))) d138_64 rfl rfl rfl rfl (ly_o L 69 rfl g3) (wl_st d138_65 rfl rfl rfl rfl (wl_st d138_66 rfl rfl rfl rfl (wl_gf (v := .int (cm_I h 38 24)) d138_67 pf11_165 (ly_k L 38 rfl) rfl (wl_ic (v := 1) d138_70 rfl (wl_st d138_71 rfl rfl rfl rfl (wl_pf (h' := (cm_setI (cm_setI (cm_setI (cm_setI (cm_setI (cm_setI h 49 (cm_I h 38 24).toNatClampNeg (100 : Int32)) 50 (cm_I h 38 24).toNatClampNeg (500 : Int32)) 51 (cm_I h 38 24).toNatClampNeg (50 : Int32)) 55 (cm_I h 38 24).toNatClampNeg (-1 : Int32)) 69 (cm_I h 38 24).toNatClampNeg (-1 : Int32)) 38 24 ((cm_I h 38 24) + (1 : Int32)))) d138_72 pf11_165 (ly_k L 38 rfl) (Or.inl rfl) rfl (wl_st d138_75 rfl rfl rfl rfl (wl_gf (v := .int ((cm_I h 38 24) + (1 : Int32))) d138_76 pf11_165 (ly_k L 38 rfl) rfl (wl_ic (v := 1) d138_79 rfl (wl_st d138_80 rfl rfl rfl rfl (wl_rt d138_81 rfl rfl rfl g3k)))))))))))) g2k))))))))))))))))))))))))) (H.1 c1))))))) (fun c1 => wl_ic (v := (-1)) d138_9 rfl (wl_rt d138_10 rfl rfl rfl (H.2 c1))))))
-- ClogHouseModel.cell(III)I
theorem d139_0 : decode (cm_M 139).2.2.1 0 = .ok (.aload_n 0, 1) := by decide +kernel
theorem d139_1 : decode (cm_M 139).2.2.1 1 = .ok (.iload_n 1, 1) := by decide +kernel
theorem d139_2 : decode (cm_M 139).2.2.1 2 = .ok (.invokevirtual 168, 3) := by decide +kernel
theorem d139_5 : decode (cm_M 139).2.2.1 5 = .ok (.ifCond .eq 44, 3) := by decide +kernel
theorem d139_8 : decode (cm_M 139).2.2.1 8 = .ok (.iload_n 2, 1) := by decide +kernel
theorem d139_9 : decode (cm_M 139).2.2.1 9 = .ok (.iconst 1, 1) := by decide +kernel
theorem d139_10 : decode (cm_M 139).2.2.1 10 = .ok (.bipush 20, 2) := by decide +kernel
theorem d139_12 : decode (cm_M 139).2.2.1 12 = .ok (.invokestatic 161, 3) := by decide +kernel
theorem d139_15 : decode (cm_M 139).2.2.1 15 = .ok (.ifCond .eq 34, 3) := by decide +kernel
theorem d139_18 : decode (cm_M 139).2.2.1 18 = .ok (.iload_n 3, 1) := by decide +kernel
theorem d139_19 : decode (cm_M 139).2.2.1 19 = .ok (.iconst 1, 1) := by decide +kernel
theorem d139_20 : decode (cm_M 139).2.2.1 20 = .ok (.sipush 1000, 3) := by decide +kernel
theorem d139_23 : decode (cm_M 139).2.2.1 23 = .ok (.invokestatic 161, 3) := by decide +kernel
theorem d139_26 : decode (cm_M 139).2.2.1 26 = .ok (.ifCond .eq 23, 3) := by decide +kernel
theorem d139_29 : decode (cm_M 139).2.2.1 29 = .ok (.aload_n 0, 1) := by decide +kernel
theorem d139_30 : decode (cm_M 139).2.2.1 30 = .ok (.getfield 19, 3) := by decide +kernel
theorem d139_33 : decode (cm_M 139).2.2.1 33 = .ok (.iload_n 1, 1) := by decide +kernel
theorem d139_34 : decode (cm_M 139).2.2.1 34 = .ok (.iaload, 1) := by decide +kernel
theorem d139_35 : decode (cm_M 139).2.2.1 35 = .ok (.bipush 10, 2) := by decide +kernel
theorem d139_37 : decode (cm_M 139).2.2.1 37 = .ok (.if_icmp .eq 12, 3) := by decide +kernel
theorem d139_40 : decode (cm_M 139).2.2.1 40 = .ok (.aload_n 0, 1) := by decide +kernel
theorem d139_41 : decode (cm_M 139).2.2.1 41 = .ok (.getfield 74, 3) := by decide +kernel
theorem d139_44 : decode (cm_M 139).2.2.1 44 = .ok (.iload_n 1, 1) := by decide +kernel
theorem d139_45 : decode (cm_M 139).2.2.1 45 = .ok (.baload, 1) := by decide +kernel
theorem d139_46 : decode (cm_M 139).2.2.1 46 = .ok (.ifCond .eq 5, 3) := by decide +kernel
theorem d139_49 : decode (cm_M 139).2.2.1 49 = .ok (.iconst (-1), 1) := by decide +kernel
theorem d139_50 : decode (cm_M 139).2.2.1 50 = .ok (.ireturn, 1) := by decide +kernel
theorem d139_51 : decode (cm_M 139).2.2.1 51 = .ok (.aload_n 0, 1) := by decide +kernel
theorem d139_52 : decode (cm_M 139).2.2.1 52 = .ok (.getfield 22, 3) := by decide +kernel
theorem d139_55 : decode (cm_M 139).2.2.1 55 = .ok (.bipush 10, 2) := by decide +kernel
theorem d139_57 : decode (cm_M 139).2.2.1 57 = .ok (.iload_n 1, 1) := by decide +kernel
theorem d139_58 : decode (cm_M 139).2.2.1 58 = .ok (.imul, 1) := by decide +kernel
theorem d139_59 : decode (cm_M 139).2.2.1 59 = .ok (.aload_n 0, 1) := by decide +kernel
theorem d139_60 : decode (cm_M 139).2.2.1 60 = .ok (.getfield 19, 3) := by decide +kernel
theorem d139_63 : decode (cm_M 139).2.2.1 63 = .ok (.iload_n 1, 1) := by decide +kernel
theorem d139_64 : decode (cm_M 139).2.2.1 64 = .ok (.iaload, 1) := by decide +kernel
theorem d139_65 : decode (cm_M 139).2.2.1 65 = .ok (.iadd, 1) := by decide +kernel
theorem d139_66 : decode (cm_M 139).2.2.1 66 = .ok (.iload_n 2, 1) := by decide +kernel
theorem d139_67 : decode (cm_M 139).2.2.1 67 = .ok (.iastore, 1) := by decide +kernel
theorem d139_68 : decode (cm_M 139).2.2.1 68 = .ok (.aload_n 0, 1) := by decide +kernel
theorem d139_69 : decode (cm_M 139).2.2.1 69 = .ok (.getfield 25, 3) := by decide +kernel
theorem d139_72 : decode (cm_M 139).2.2.1 72 = .ok (.bipush 10, 2) := by decide +kernel
theorem d139_74 : decode (cm_M 139).2.2.1 74 = .ok (.iload_n 1, 1) := by decide +kernel
theorem d139_75 : decode (cm_M 139).2.2.1 75 = .ok (.imul, 1) := by decide +kernel
theorem d139_76 : decode (cm_M 139).2.2.1 76 = .ok (.aload_n 0, 1) := by decide +kernel
theorem d139_77 : decode (cm_M 139).2.2.1 77 = .ok (.getfield 19, 3) := by decide +kernel
theorem d139_80 : decode (cm_M 139).2.2.1 80 = .ok (.iload_n 1, 1) := by decide +kernel
theorem d139_81 : decode (cm_M 139).2.2.1 81 = .ok (.iaload, 1) := by decide +kernel
theorem d139_82 : decode (cm_M 139).2.2.1 82 = .ok (.iadd, 1) := by decide +kernel
theorem d139_83 : decode (cm_M 139).2.2.1 83 = .ok (.iload_n 2, 1) := by decide +kernel
theorem d139_84 : decode (cm_M 139).2.2.1 84 = .ok (.iastore, 1) := by decide +kernel
theorem d139_85 : decode (cm_M 139).2.2.1 85 = .ok (.aload_n 0, 1) := by decide +kernel
theorem d139_86 : decode (cm_M 139).2.2.1 86 = .ok (.getfield 28, 3) := by decide +kernel
theorem d139_89 : decode (cm_M 139).2.2.1 89 = .ok (.bipush 10, 2) := by decide +kernel
theorem d139_91 : decode (cm_M 139).2.2.1 91 = .ok (.iload_n 1, 1) := by decide +kernel
theorem d139_92 : decode (cm_M 139).2.2.1 92 = .ok (.imul, 1) := by decide +kernel
theorem d139_93 : decode (cm_M 139).2.2.1 93 = .ok (.aload_n 0, 1) := by decide +kernel
theorem d139_94 : decode (cm_M 139).2.2.1 94 = .ok (.getfield 19, 3) := by decide +kernel
theorem d139_97 : decode (cm_M 139).2.2.1 97 = .ok (.iload_n 1, 1) := by decide +kernel
theorem d139_98 : decode (cm_M 139).2.2.1 98 = .ok (.iaload, 1) := by decide +kernel
theorem d139_99 : decode (cm_M 139).2.2.1 99 = .ok (.iadd, 1) := by decide +kernel
theorem d139_100 : decode (cm_M 139).2.2.1 100 = .ok (.iload_n 3, 1) := by decide +kernel
theorem d139_101 : decode (cm_M 139).2.2.1 101 = .ok (.iastore, 1) := by decide +kernel
theorem d139_102 : decode (cm_M 139).2.2.1 102 = .ok (.aload_n 0, 1) := by decide +kernel
theorem d139_103 : decode (cm_M 139).2.2.1 103 = .ok (.getfield 19, 3) := by decide +kernel
theorem d139_106 : decode (cm_M 139).2.2.1 106 = .ok (.iload_n 1, 1) := by decide +kernel
theorem d139_107 : decode (cm_M 139).2.2.1 107 = .ok (.dup2, 1) := by decide +kernel
theorem d139_108 : decode (cm_M 139).2.2.1 108 = .ok (.iaload, 1) := by decide +kernel
theorem d139_109 : decode (cm_M 139).2.2.1 109 = .ok (.iconst 1, 1) := by decide +kernel
theorem d139_110 : decode (cm_M 139).2.2.1 110 = .ok (.iadd, 1) := by decide +kernel
theorem d139_111 : decode (cm_M 139).2.2.1 111 = .ok (.iastore, 1) := by decide +kernel
theorem d139_112 : decode (cm_M 139).2.2.1 112 = .ok (.aload_n 0, 1) := by decide +kernel
theorem d139_113 : decode (cm_M 139).2.2.1 113 = .ok (.getfield 19, 3) := by decide +kernel
theorem d139_116 : decode (cm_M 139).2.2.1 116 = .ok (.iload_n 1, 1) := by decide +kernel
theorem d139_117 : decode (cm_M 139).2.2.1 117 = .ok (.iaload, 1) := by decide +kernel
theorem d139_118 : decode (cm_M 139).2.2.1 118 = .ok (.ireturn, 1) := by decide +kernel
theorem s139_0 {sc : cmS} {d : Nat} {h : cmH} {Q : Option Value → cmH → Prop} (L : LY h) (x1 : Int32) (x2 : Int32) (x3 : Int32) (H : cm_ci sc d 140 [.ref 38, .int x1] h (fun r h' => cm_wp sc (d + 1) 139 5 [some (.ref 38), some (.int x1), some (.int x2), some (.int x3)] [.int r] h' Q)) : cm_wp sc (d + 1) 139 0 [some (.ref 38), some (.int x1), some (.int x2), some (.int x3)] [] h Q :=
  wl_st d139_0 rfl rfl rfl rfl (wl_st d139_1 rfl rfl rfl rfl (wl_ci d139_2 rfl rfl rfl pm11_168 (by decide) (ca_v (Or.inl rfl) rfl (Nat.le_of_ble_eq_true rfl) (Nat.le_of_ble_eq_true rfl) (ly_k L 38 rfl).2 (ly_k L 38 rfl).1 (by decide)) H))
theorem s139_5 {sc : cmS} {d : Nat} {h : cmH} {Q : Option Value → cmH → Prop} (x1 : Int32) (x2 : Int32) (x3 : Int32) (sx0 : Int32) (H : (((sx0 = 0) → Q (some (.int (-1 : Int32))) h) ∧ (¬ (sx0 = 0) → cm_ci sc d 137 [.int x2, .int (1 : Int32), .int (20 : Int32)] h (fun r h' => cm_wp sc (d + 1) 139 15 [some (.ref 38), some (.int x1), some (.int x2), some (.int x3)] [.int r] h' Q)))) : cm_wp sc (d + 1) 139 5 [some (.ref 38), some (.int x1), some (.int x2), some (.int x3)] [.int sx0] h Q :=
  wl_cb (b := sx0 = 0) (off := 44) (tgt := 49) (pc3 := 8) (st' := []) d139_5 rfl rfl rfl rfl (by decide) rfl (fun c1 => wl_ic (v := (-1)) d139_49 rfl (wl_rt d139_50 rfl rfl rfl (H.1 c1))) (fun c1 => wl_st d139_8 rfl rfl rfl rfl (wl_ic (v := 1) d139_9 rfl (wl_bi (v := 20) d139_10 rfl (wl_ci d139_12 rfl rfl rfl pm11_161 (by decide) (ca_s (Or.inl rfl) rfl (Nat.le_of_ble_eq_true rfl) (Nat.le_of_ble_eq_true rfl)) (H.2 c1)))))
theorem s139_15 {sc : cmS} {d : Nat} {h : cmH} {Q : Option Value → cmH → Prop} (x1 : Int32) (x2 : Int32) (x3 : Int32) (sx0 : Int32) (H : (((sx0 = 0) → Q (some (.int (-1 : Int32))) h) ∧ (¬ (sx0 = 0) → cm_ci sc d 137 [.int x3, .int (1 : Int32), .int (1000 : Int32)] h (fun r h' => cm_wp sc (d + 1) 139 26 [some (.ref 38), some (.int x1), some (.int x2), some (.int x3)] [.int r] h' Q)))) : cm_wp sc (d + 1) 139 15 [some (.ref 38), some (.int x1), some (.int x2), some (.int x3)] [.int sx0] h Q :=
  wl_cb (b := sx0 = 0) (off := 34) (tgt := 49) (pc3 := 18) (st' := []) d139_15 rfl rfl rfl rfl (by decide) rfl (fun c1 => wl_ic (v := (-1)) d139_49 rfl (wl_rt d139_50 rfl rfl rfl (H.1 c1))) (fun c1 => wl_st d139_18 rfl rfl rfl rfl (wl_ic (v := 1) d139_19 rfl (wl_si (v := 1000) d139_20 rfl (wl_ci d139_23 rfl rfl rfl pm11_161 (by decide) (ca_s (Or.inl rfl) rfl (Nat.le_of_ble_eq_true rfl) (Nat.le_of_ble_eq_true rfl)) (H.2 c1)))))
theorem s139_26 {sc : cmS} {d : Nat} {h : cmH} {Q : Option Value → cmH → Prop} (L : LY h) (x1 : Int32) (x2 : Int32) (x3 : Int32) (sx0 : Int32) (H : (((sx0 = 0) → Q (some (.int (-1 : Int32))) h) ∧ (¬ (sx0 = 0) → (IX 9 x1) ∧ ((((cm_I h 42 x1.toNatClampNeg) = (10 : Int32)) → Q (some (.int (-1 : Int32))) h) ∧ (¬ ((cm_I h 42 x1.toNatClampNeg) = (10 : Int32)) → ((((cm_I h 60 x1.toNatClampNeg) = 0) → (IX 90 (((10 : Int32) * x1) + (cm_I h 42 x1.toNatClampNeg))) ∧ Q (some (.int (cm_I (cm_setI (cm_setI (cm_setI (cm_setI h 43 (((10 : Int32) * x1) + (cm_I h 42 x1.toNatClampNeg)).toNatClampNeg x2) 44 (((10 : Int32) * x1) + (cm_I h 42 x1.toNatClampNeg)).toNatClampNeg x2) 45 (((10 : Int32) * x1) + (cm_I h 42 x1.toNatClampNeg)).toNatClampNeg x3) 42 x1.toNatClampNeg ((cm_I h 42 x1.toNatClampNeg) + (1 : Int32))) 42 x1.toNatClampNeg))) (cm_setI (cm_setI (cm_setI (cm_setI h 43 (((10 : Int32) * x1) + (cm_I h 42 x1.toNatClampNeg)).toNatClampNeg x2) 44 (((10 : Int32) * x1) + (cm_I h 42 x1.toNatClampNeg)).toNatClampNeg x2) 45 (((10 : Int32) * x1) + (cm_I h 42 x1.toNatClampNeg)).toNatClampNeg x3) 42 x1.toNatClampNeg ((cm_I h 42 x1.toNatClampNeg) + (1 : Int32)))) ∧ (¬ ((cm_I h 60 x1.toNatClampNeg) = 0) → Q (some (.int (-1 : Int32))) h))))))) : cm_wp sc d 139 26 [some (.ref 38), some (.int x1), some (.int x2), some (.int x3)] [.int sx0] h Q :=
  wl_cb (b := sx0 = 0) (off := 23) (tgt := 49) (pc3 := 29) (st' := []) d139_26 rfl rfl rfl rfl (by decide) rfl (fun c1 => wl_ic (v := (-1)) d139_49 rfl (wl_rt d139_50 rfl rfl rfl (H.1 c1))) (fun c1 => wl_st d139_29 rfl rfl rfl rfl (wl_gr (b := 42) d139_30 pf11_19 (ly_k L 38 rfl) rfl (ly_r L 38 5 rfl) (wl_st d139_33 rfl rfl rfl rfl (And.elim (fun g2 g2k => wl_if (g := cm_ok h 13 42 x1) (st' := [.int (cm_I h 42 x1.toNatClampNeg)]) d139_34 rfl rfl rfl rfl (ly_o L 42 rfl g2) (wl_bi (v := 10) d139_35 rfl (wl_cb (b := (cm_I h 42 x1.toNatClampNeg) = (10 : Int32)) (off := 12) (tgt := 49) (pc3 := 40) (st' := []) d139_37 rfl rfl rfl rfl (by decide) rfl (fun c3 => wl_ic (v := (-1)) d139_49 rfl (wl_rt d139_50 rfl rfl rfl (g2k.1 c3))) (fun c3 => wl_st d139_40 rfl rfl rfl rfl (wl_gr (b := 60) d139_41 pf11_74 (ly_k L 38 rfl) rfl (ly_r L 38 23 rfl) (wl_st d139_44 rfl rfl rfl rfl (wl_if (g := cm_ok h 15 60 x1) (st' := [.int (cm_I h 60 x1.toNatClampNeg)]) d139_45 rfl rfl rfl rfl (ly_o L 60 rfl g2) (wl_cb (b := (cm_I h 60 x1.toNatClampNeg) = 0) (off := 5) (tgt := 51) (pc3 := 49) (st' := []) d139_46 rfl rfl rfl rfl (by decide) rfl (fun c4 => wl_st d139_51 rfl rfl rfl rfl (wl_gr (b := 43) d139_52 pf11_22 (ly_k L 38 rfl) rfl (ly_r L 38 6 rfl) (wl_bi (v := 10) d139_55 rfl (wl_st d139_57 rfl rfl rfl rfl (wl_st d139_58 rfl rfl rfl rfl (wl_st d139_59 rfl rfl rfl rfl (wl_gr (b := 42) d139_60 pf11_19 (ly_k L 38 rfl) rfl (ly_r L 38 5 rfl) (wl_st d139_63 rfl rfl rfl rfl (wl_if (g := cm_ok h 13 42 x1) (st' := [.int (cm_I h 42 x1.toNatClampNeg), .int ((10 : Int32) * x1), .ref 43]) d139_64 rfl rfl rfl rfl (ly_o L 42 rfl g2) (wl_st d139_65 rfl rfl rfl rfl (wl_st d139_66 rfl rfl rfl rfl (And.elim (fun g5 g5k => wl_if (h' := (cm_setI h 43 (((10 : Int32) * x1) + (cm_I h 42 x1.toNatClampNeg)).toNatClampNeg x2)) d139_67 rfl rfl rfl rfl (ly_o L 43 rfl g5) (wl_st d139_68 rfl rfl rfl rfl (wl_gr (b := 44) d139_69 pf11_25 (ly_k L 38 rfl) rfl (ly_r L 38 7 rfl) (wl_bi (v := 10) d139_72 rfl (wl_st d139_74 rfl rfl rfl rfl (wl_st d139_75 rfl rfl rfl rfl (wl_st d139_76 rfl rfl rfl rfl (wl_gr (b := 42) d139_77 pf11_19 (ly_k L 38 rfl) rfl (ly_r L 38 5 rfl) (wl_st d139_80 rfl rfl rfl rfl (wl_if (g := cm_ok (cm_setI h 43 (((10 : Int32) * x1) + (cm_I h 42 x1.toNatClampNeg)).toNatClampNeg x2) 13 42 x1) (st' := [.int (cm_I h 42 x1.toNatClampNeg), .int ((10 : Int32) * x1), .ref 44]) d139_81 rfl rfl rfl rfl (ly_o L 42 rfl g2) (wl_st d139_82 rfl rfl rfl rfl (wl_st d139_83 rfl rfl rfl rfl (wl_if (h' := (cm_setI (cm_setI h 43 (((10 : Int32) * x1) + (cm_I h 42 x1.toNatClampNeg)).toNatClampNeg x2) 44 (((10 : Int32) * x1) + (cm_I h 42 x1.toNatClampNeg)).toNatClampNeg x2)) d139_84 rfl rfl rfl rfl (ly_o L 44 rfl g5) (wl_st d139_85 rfl rfl rfl rfl (wl_gr (b := 45) d139_86 pf11_28 (ly_k L 38 rfl) rfl (ly_r L 38 8 rfl) (wl_bi (v := 10) d139_89 rfl (wl_st d139_91 rfl rfl rfl rfl (wl_st d139_92 rfl rfl rfl rfl (wl_st d139_93 rfl rfl rfl rfl (wl_gr (b := 42) d139_94 pf11_19 (ly_k L 38 rfl) rfl (ly_r L 38 5 rfl) (wl_st d139_97 rfl rfl rfl rfl (wl_if (g := cm_ok (cm_setI (cm_setI h 43 (((10 : Int32) * x1) + (cm_I h 42 x1.toNatClampNeg)).toNatClampNeg x2) 44 (((10 : Int32) * x1) + (cm_I h 42 x1.toNatClampNeg)).toNatClampNeg x2) 13 42 x1) (st' := [.int (cm_I h 42 x1.toNatClampNeg), .int ((10 : Int32) * x1), .ref 45]) d139_98 rfl rfl rfl rfl (ly_o L 42 rfl g2) (wl_st d139_99 rfl rfl rfl rfl (wl_st d139_100 rfl rfl rfl rfl (wl_if (h' := (cm_setI (cm_setI (cm_setI h 43 (((10 : Int32) * x1) + (cm_I h 42 x1.toNatClampNeg)).toNatClampNeg x2) 44 (((10 : Int32) * x1) + (cm_I h 42 x1.toNatClampNeg)).toNatClampNeg x2) 45 (((10 : Int32) * x1) + (cm_I h 42 x1.toNatClampNeg)).toNatClampNeg x3)) d139_101 rfl rfl rfl rfl (ly_o L 45 rfl g5) (wl_st d139_102 rfl rfl rfl rfl (wl_gr (b := 42) d139_103 pf11_19 (ly_k L 38 rfl) rfl (ly_r L 38 5 rfl) (wl_st d139_106 rfl rfl rfl rfl (wl_st d139_107 rfl rfl rfl rfl (wl_if (g := cm_ok (cm_setI (cm_setI (cm_setI h 43 (((10 : Int32) * x1) + (cm_I h 42 x1.toNatClampNeg)).toNatClampNeg x2) 44 (((10 : Int32) * x1) + (cm_I h 42 x1.toNatClampNeg)).toNatClampNeg x2) 45 (((10 : Int32) * x1) + (cm_I h 42 x1.toNatClampNeg)).toNatClampNeg x3) 13 42 x1) (st' := [.int (cm_I h 42 x1.toNatClampNeg), .int x1, .ref 42]) d139_108 rfl rfl rfl rfl (ly_o L 42 rfl g2) (wl_ic (v := 1) d139_109 rfl (wl_st d139_110 rfl rfl rfl rfl (wl_if (h' := (cm_setI (cm_setI (cm_setI (cm_setI h 43 (((10 : Int32) * x1) + (cm_I h 42 x1.toNatClampNeg)).toNatClampNeg x2) 44 (((10 : Int32) * x1) + (cm_I h 42 x1.toNatClampNeg)).toNatClampNeg x2) 45 (((10 : Int32) * x1) + (cm_I h 42 x1.toNatClampNeg)).toNatClampNeg x3) 42 x1.toNatClampNeg ((cm_I h 42 x1.toNatClampNeg) + (1 : Int32)))) d139_111 rfl rfl rfl rfl (ly_o L 42 rfl g2) (wl_st d139_112 rfl rfl rfl rfl (wl_gr (b := 42) d139_113 pf11_19 (ly_k L 38 rfl) rfl (ly_r L 38 5 rfl) (wl_st d139_116 rfl rfl rfl rfl (wl_if (g := cm_ok (cm_setI (cm_setI (cm_setI (cm_setI h 43 (((10 : Int32) * x1) + (cm_I h 42 x1.toNatClampNeg)).toNatClampNeg x2) 44 (((10 : Int32) * x1) + (cm_I h 42 x1.toNatClampNeg)).toNatClampNeg x2) 45 (((10 : Int32) * x1) + (cm_I h 42 x1.toNatClampNeg)).toNatClampNeg x3) 42 x1.toNatClampNeg ((cm_I h 42 x1.toNatClampNeg) + (1 : Int32))) 13 42 x1) (st' := [.int (cm_I (cm_setI (cm_setI (cm_setI (cm_setI h 43 (((10 : Int32) * x1) + (cm_I h 42 x1.toNatClampNeg)).toNatClampNeg x2) 44 (((10 : Int32) * x1) + (cm_I h 42 x1.toNatClampNeg)).toNatClampNeg x2) 45 (((10 : Int32) * x1) + (cm_I h 42 x1.toNatClampNeg)).toNatClampNeg x3) 42 x1.toNatClampNeg ((cm_I h 42 x1.toNatClampNeg) + (1 : Int32))) 42 x1.toNatClampNeg)]) d139_117 rfl rfl rfl rfl (ly_o L 42 rfl g2) (wl_rt d139_118 rfl rfl rfl g5k)))))))))))))))))))))))))))))))))))))) ((g2k.2 c3).1 c4))))))))))))) (fun c4 => wl_ic (v := (-1)) d139_49 rfl (wl_rt d139_50 rfl rfl rfl ((g2k.2 c3).2 c4))))))))))) (H.2 c1)))))
-- ClogHouseModel.isFilter(I)Z
theorem d140_0 : decode (cm_M 140).2.2.1 0 = .ok (.iload_n 1, 1) := by decide +kernel
theorem d140_1 : decode (cm_M 140).2.2.1 1 = .ok (.iconst 0, 1) := by decide +kernel
theorem d140_2 : decode (cm_M 140).2.2.1 2 = .ok (.aload_n 0, 1) := by decide +kernel
theorem d140_3 : decode (cm_M 140).2.2.1 3 = .ok (.getfield 165, 3) := by decide +kernel
theorem d140_6 : decode (cm_M 140).2.2.1 6 = .ok (.iconst 1, 1) := by decide +kernel
theorem d140_7 : decode (cm_M 140).2.2.1 7 = .ok (.isub, 1) := by decide +kernel
theorem d140_8 : decode (cm_M 140).2.2.1 8 = .ok (.invokestatic 161, 3) := by decide +kernel
theorem d140_11 : decode (cm_M 140).2.2.1 11 = .ok (.ireturn, 1) := by decide +kernel
theorem s140_0 {sc : cmS} {d : Nat} {h : cmH} {Q : Option Value → cmH → Prop} (L : LY h) (x1 : Int32) (H : cm_ci sc d 137 [.int x1, .int (0 : Int32), .int ((cm_I h 38 24) - (1 : Int32))] h (fun r h' => cm_wp sc (d + 1) 140 11 [some (.ref 38), some (.int x1)] [.int r] h' Q)) : cm_wp sc (d + 1) 140 0 [some (.ref 38), some (.int x1)] [] h Q :=
  wl_st d140_0 rfl rfl rfl rfl (wl_ic (v := 0) d140_1 rfl (wl_st d140_2 rfl rfl rfl rfl (wl_gf (v := .int (cm_I h 38 24)) d140_3 pf11_165 (ly_k L 38 rfl) rfl (wl_ic (v := 1) d140_6 rfl (wl_st d140_7 rfl rfl rfl rfl (wl_ci d140_8 rfl rfl rfl pm11_161 (by decide) (ca_s (Or.inl rfl) rfl (Nat.le_of_ble_eq_true rfl) (Nat.le_of_ble_eq_true rfl)) H))))))
theorem s140_11 {sc : cmS} {d : Nat} {h : cmH} {Q : Option Value → cmH → Prop} (x1 : Int32) (sx0 : Int32) (H : (sx0 = 0 ∨ sx0 = 1) ∧ Q (some (.int sx0)) h) : cm_wp sc d 140 11 [some (.ref 38), some (.int x1)] [.int sx0] h Q :=
  And.elim (fun g1 g1k => wl_rz d140_11 rfl g1 g1k) H
-- ClogHouseModel.set(III)Z
theorem d141_0 : decode (cm_M 141).2.2.1 0 = .ok (.aload_n 0, 1) := by decide +kernel
theorem d141_1 : decode (cm_M 141).2.2.1 1 = .ok (.iload_n 1, 1) := by decide +kernel
theorem d141_2 : decode (cm_M 141).2.2.1 2 = .ok (.invokevirtual 168, 3) := by decide +kernel
theorem d141_5 : decode (cm_M 141).2.2.1 5 = .ok (.ifCond .eq 34, 3) := by decide +kernel
theorem d141_8 : decode (cm_M 141).2.2.1 8 = .ok (.iload_n 2, 1) := by decide +kernel
theorem d141_9 : decode (cm_M 141).2.2.1 9 = .ok (.iconst 0, 1) := by decide +kernel
theorem d141_10 : decode (cm_M 141).2.2.1 10 = .ok (.iconst 2, 1) := by decide +kernel
theorem d141_11 : decode (cm_M 141).2.2.1 11 = .ok (.invokestatic 161, 3) := by decide +kernel
theorem d141_14 : decode (cm_M 141).2.2.1 14 = .ok (.ifCond .eq 25, 3) := by decide +kernel
theorem d141_17 : decode (cm_M 141).2.2.1 17 = .ok (.iload_n 3, 1) := by decide +kernel
theorem d141_18 : decode (cm_M 141).2.2.1 18 = .ok (.iconst 1, 1) := by decide +kernel
theorem d141_19 : decode (cm_M 141).2.2.1 19 = .ok (.iload_n 2, 1) := by decide +kernel
theorem d141_20 : decode (cm_M 141).2.2.1 20 = .ok (.iconst 2, 1) := by decide +kernel
theorem d141_21 : decode (cm_M 141).2.2.1 21 = .ok (.if_icmp .ne 9, 3) := by decide +kernel
theorem d141_24 : decode (cm_M 141).2.2.1 24 = .ok (.sipush 200, 3) := by decide +kernel
theorem d141_27 : decode (cm_M 141).2.2.1 27 = .ok (.goto 6, 3) := by decide +kernel
theorem d141_30 : decode (cm_M 141).2.2.1 30 = .ok (.sipush 1000, 3) := by decide +kernel
theorem d141_33 : decode (cm_M 141).2.2.1 33 = .ok (.invokestatic 161, 3) := by decide +kernel
theorem d141_36 : decode (cm_M 141).2.2.1 36 = .ok (.ifCond .ne 5, 3) := by decide +kernel
theorem d141_39 : decode (cm_M 141).2.2.1 39 = .ok (.iconst 0, 1) := by decide +kernel
theorem d141_40 : decode (cm_M 141).2.2.1 40 = .ok (.ireturn, 1) := by decide +kernel
theorem d141_41 : decode (cm_M 141).2.2.1 41 = .ok (.iload_n 2, 1) := by decide +kernel
theorem d141_42 : decode (cm_M 141).2.2.1 42 = .ok (.ifCond .ne 13, 3) := by decide +kernel
theorem d141_45 : decode (cm_M 141).2.2.1 45 = .ok (.aload_n 0, 1) := by decide +kernel
theorem d141_46 : decode (cm_M 141).2.2.1 46 = .ok (.getfield 40, 3) := by decide +kernel
theorem d141_49 : decode (cm_M 141).2.2.1 49 = .ok (.iload_n 1, 1) := by decide +kernel
theorem d141_50 : decode (cm_M 141).2.2.1 50 = .ok (.iload_n 3, 1) := by decide +kernel
theorem d141_51 : decode (cm_M 141).2.2.1 51 = .ok (.iastore, 1) := by decide +kernel
theorem d141_52 : decode (cm_M 141).2.2.1 52 = .ok (.goto 25, 3) := by decide +kernel
theorem d141_55 : decode (cm_M 141).2.2.1 55 = .ok (.iload_n 2, 1) := by decide +kernel
theorem d141_56 : decode (cm_M 141).2.2.1 56 = .ok (.iconst 1, 1) := by decide +kernel
theorem d141_57 : decode (cm_M 141).2.2.1 57 = .ok (.if_icmp .ne 13, 3) := by decide +kernel
theorem d141_60 : decode (cm_M 141).2.2.1 60 = .ok (.aload_n 0, 1) := by decide +kernel
theorem d141_61 : decode (cm_M 141).2.2.1 61 = .ok (.getfield 43, 3) := by decide +kernel
theorem d141_64 : decode (cm_M 141).2.2.1 64 = .ok (.iload_n 1, 1) := by decide +kernel
theorem d141_65 : decode (cm_M 141).2.2.1 65 = .ok (.iload_n 3, 1) := by decide +kernel
theorem d141_66 : decode (cm_M 141).2.2.1 66 = .ok (.iastore, 1) := by decide +kernel
theorem d141_67 : decode (cm_M 141).2.2.1 67 = .ok (.goto 10, 3) := by decide +kernel
theorem d141_70 : decode (cm_M 141).2.2.1 70 = .ok (.aload_n 0, 1) := by decide +kernel
theorem d141_71 : decode (cm_M 141).2.2.1 71 = .ok (.getfield 46, 3) := by decide +kernel
theorem d141_74 : decode (cm_M 141).2.2.1 74 = .ok (.iload_n 1, 1) := by decide +kernel
theorem d141_75 : decode (cm_M 141).2.2.1 75 = .ok (.iload_n 3, 1) := by decide +kernel
theorem d141_76 : decode (cm_M 141).2.2.1 76 = .ok (.iastore, 1) := by decide +kernel
theorem d141_77 : decode (cm_M 141).2.2.1 77 = .ok (.iconst 1, 1) := by decide +kernel
theorem d141_78 : decode (cm_M 141).2.2.1 78 = .ok (.ireturn, 1) := by decide +kernel
theorem s141_0 {sc : cmS} {d : Nat} {h : cmH} {Q : Option Value → cmH → Prop} (L : LY h) (x1 : Int32) (x2 : Int32) (x3 : Int32) (H : cm_ci sc d 140 [.ref 38, .int x1] h (fun r h' => cm_wp sc (d + 1) 141 5 [some (.ref 38), some (.int x1), some (.int x2), some (.int x3)] [.int r] h' Q)) : cm_wp sc (d + 1) 141 0 [some (.ref 38), some (.int x1), some (.int x2), some (.int x3)] [] h Q :=
  wl_st d141_0 rfl rfl rfl rfl (wl_st d141_1 rfl rfl rfl rfl (wl_ci d141_2 rfl rfl rfl pm11_168 (by decide) (ca_v (Or.inl rfl) rfl (Nat.le_of_ble_eq_true rfl) (Nat.le_of_ble_eq_true rfl) (ly_k L 38 rfl).2 (ly_k L 38 rfl).1 (by decide)) H))
theorem s141_5 {sc : cmS} {d : Nat} {h : cmH} {Q : Option Value → cmH → Prop} (x1 : Int32) (x2 : Int32) (x3 : Int32) (sx0 : Int32) (H : (((sx0 = 0) → Q (some (.int (0 : Int32))) h) ∧ (¬ (sx0 = 0) → cm_ci sc d 137 [.int x2, .int (0 : Int32), .int (2 : Int32)] h (fun r h' => cm_wp sc (d + 1) 141 14 [some (.ref 38), some (.int x1), some (.int x2), some (.int x3)] [.int r] h' Q)))) : cm_wp sc (d + 1) 141 5 [some (.ref 38), some (.int x1), some (.int x2), some (.int x3)] [.int sx0] h Q :=
  wl_cb (b := sx0 = 0) (off := 34) (tgt := 39) (pc3 := 8) (st' := []) d141_5 rfl rfl rfl rfl (by decide) rfl (fun c1 => wl_ic (v := 0) d141_39 rfl (wl_rz d141_40 rfl (by decide) (H.1 c1))) (fun c1 => wl_st d141_8 rfl rfl rfl rfl (wl_ic (v := 0) d141_9 rfl (wl_ic (v := 2) d141_10 rfl (wl_ci d141_11 rfl rfl rfl pm11_161 (by decide) (ca_s (Or.inl rfl) rfl (Nat.le_of_ble_eq_true rfl) (Nat.le_of_ble_eq_true rfl)) (H.2 c1)))))
theorem s141_14 {sc : cmS} {d : Nat} {h : cmH} {Q : Option Value → cmH → Prop} (x1 : Int32) (x2 : Int32) (x3 : Int32) (sx0 : Int32) (H : (((sx0 = 0) → Q (some (.int (0 : Int32))) h) ∧ (¬ (sx0 = 0) → (((¬ x2 = (2 : Int32)) → cm_wp sc d 141 33 [some (.ref 38), some (.int x1), some (.int x2), some (.int x3)] [.int (1000 : Int32), .int (1 : Int32), .int x3] h Q) ∧ (¬ (¬ x2 = (2 : Int32)) → cm_wp sc d 141 33 [some (.ref 38), some (.int x1), some (.int x2), some (.int x3)] [.int (200 : Int32), .int (1 : Int32), .int x3] h Q))))) : cm_wp sc d 141 14 [some (.ref 38), some (.int x1), some (.int x2), some (.int x3)] [.int sx0] h Q :=
  wl_cb (b := sx0 = 0) (off := 25) (tgt := 39) (pc3 := 17) (st' := []) d141_14 rfl rfl rfl rfl (by decide) rfl (fun c1 => wl_ic (v := 0) d141_39 rfl (wl_rz d141_40 rfl (by decide) (H.1 c1))) (fun c1 => wl_st d141_17 rfl rfl rfl rfl (wl_ic (v := 1) d141_18 rfl (wl_st d141_19 rfl rfl rfl rfl (wl_ic (v := 2) d141_20 rfl (wl_cb (b := ¬ x2 = (2 : Int32)) (off := 9) (tgt := 30) (pc3 := 24) (st' := [.int (1 : Int32), .int x3]) d141_21 rfl rfl rfl rfl (by decide) rfl (fun c2 => wl_si (v := 1000) d141_30 rfl (((H.2 c1).1 c2))) (fun c2 => wl_si (v := 200) d141_24 rfl (wl_go (tgt := 33) d141_27 (by decide) (((H.2 c1).2 c2)))))))))
theorem s141_33 {sc : cmS} {d : Nat} {h : cmH} {Q : Option Value → cmH → Prop} (x1 : Int32) (x2 : Int32) (x3 : Int32) (sx0 : Int32) (sx1 : Int32) (sx2 : Int32) (H : cm_ci sc d 137 [.int sx2, .int sx1, .int sx0] h (fun r h' => cm_wp sc (d + 1) 141 36 [some (.ref 38), some (.int x1), some (.int x2), some (.int x3)] [.int r] h' Q)) : cm_wp sc (d + 1) 141 33 [some (.ref 38), some (.int x1), some (.int x2), some (.int x3)] [.int sx0, .int sx1, .int sx2] h Q :=
  wl_ci d141_33 rfl rfl rfl pm11_161 (by decide) (ca_s (Or.inl rfl) rfl (Nat.le_of_ble_eq_true rfl) (Nat.le_of_ble_eq_true rfl)) H
theorem s141_36 {sc : cmS} {d : Nat} {h : cmH} {Q : Option Value → cmH → Prop} (L : LY h) (x1 : Int32) (x2 : Int32) (x3 : Int32) (sx0 : Int32) (H : (((¬ sx0 = 0) → (((¬ x2 = 0) → (((¬ x2 = (1 : Int32)) → (IX 9 x1) ∧ Q (some (.int (1 : Int32))) (cm_setI h 51 x1.toNatClampNeg x3)) ∧ (¬ (¬ x2 = (1 : Int32)) → (IX 9 x1) ∧ Q (some (.int (1 : Int32))) (cm_setI h 50 x1.toNatClampNeg x3)))) ∧ (¬ (¬ x2 = 0) → (IX 9 x1) ∧ Q (some (.int (1 : Int32))) (cm_setI h 49 x1.toNatClampNeg x3)))) ∧ (¬ (¬ sx0 = 0) → Q (some (.int (0 : Int32))) h))) : cm_wp sc d 141 36 [some (.ref 38), some (.int x1), some (.int x2), some (.int x3)] [.int sx0] h Q :=
  wl_cb (b := ¬ sx0 = 0) (off := 5) (tgt := 41) (pc3 := 39) (st' := []) d141_36 rfl rfl rfl rfl (by decide) rfl (fun c1 => wl_st d141_41 rfl rfl rfl rfl (wl_cb (b := ¬ x2 = 0) (off := 13) (tgt := 55) (pc3 := 45) (st' := []) d141_42 rfl rfl rfl rfl (by decide) rfl (fun c2 => wl_st d141_55 rfl rfl rfl rfl (wl_ic (v := 1) d141_56 rfl (wl_cb (b := ¬ x2 = (1 : Int32)) (off := 13) (tgt := 70) (pc3 := 60) (st' := []) d141_57 rfl rfl rfl rfl (by decide) rfl (fun c3 => wl_st d141_70 rfl rfl rfl rfl (wl_gr (b := 51) d141_71 pf11_46 (ly_k L 38 rfl) rfl (ly_r L 38 14 rfl) (wl_st d141_74 rfl rfl rfl rfl (wl_st d141_75 rfl rfl rfl rfl (And.elim (fun g4 g4k => wl_if (h' := (cm_setI h 51 x1.toNatClampNeg x3)) d141_76 rfl rfl rfl rfl (ly_o L 51 rfl g4) (wl_ic (v := 1) d141_77 rfl (wl_rz d141_78 rfl (by decide) g4k))) (((H.1 c1).1 c2).1 c3)))))) (fun c3 => wl_st d141_60 rfl rfl rfl rfl (wl_gr (b := 50) d141_61 pf11_43 (ly_k L 38 rfl) rfl (ly_r L 38 13 rfl) (wl_st d141_64 rfl rfl rfl rfl (wl_st d141_65 rfl rfl rfl rfl (And.elim (fun g5 g5k => wl_if (h' := (cm_setI h 50 x1.toNatClampNeg x3)) d141_66 rfl rfl rfl rfl (ly_o L 50 rfl g5) (wl_go (tgt := 77) d141_67 (by decide) (wl_ic (v := 1) d141_77 rfl (wl_rz d141_78 rfl (by decide) g5k)))) (((H.1 c1).1 c2).2 c3))))))))) (fun c2 => wl_st d141_45 rfl rfl rfl rfl (wl_gr (b := 49) d141_46 pf11_40 (ly_k L 38 rfl) rfl (ly_r L 38 12 rfl) (wl_st d141_49 rfl rfl rfl rfl (wl_st d141_50 rfl rfl rfl rfl (And.elim (fun g6 g6k => wl_if (h' := (cm_setI h 49 x1.toNatClampNeg x3)) d141_51 rfl rfl rfl rfl (ly_o L 49 rfl g6) (wl_go (tgt := 77) d141_52 (by decide) (wl_ic (v := 1) d141_77 rfl (wl_rz d141_78 rfl (by decide) g6k)))) ((H.1 c1).2 c2)))))))) (fun c1 => wl_ic (v := 0) d141_39 rfl (wl_rz d141_40 rfl (by decide) (H.2 c1)))
-- ClogHouseModel.push(II)I
theorem d142_0 : decode (cm_M 142).2.2.1 0 = .ok (.aload_n 0, 1) := by decide +kernel
theorem d142_1 : decode (cm_M 142).2.2.1 1 = .ok (.iload_n 1, 1) := by decide +kernel
theorem d142_2 : decode (cm_M 142).2.2.1 2 = .ok (.invokevirtual 168, 3) := by decide +kernel
theorem d142_5 : decode (cm_M 142).2.2.1 5 = .ok (.ifCond .eq 23, 3) := by decide +kernel
theorem d142_8 : decode (cm_M 142).2.2.1 8 = .ok (.iload_n 2, 1) := by decide +kernel
theorem d142_9 : decode (cm_M 142).2.2.1 9 = .ok (.iconst 1, 1) := by decide +kernel
theorem d142_10 : decode (cm_M 142).2.2.1 10 = .ok (.sipush 1000, 3) := by decide +kernel
theorem d142_13 : decode (cm_M 142).2.2.1 13 = .ok (.invokestatic 161, 3) := by decide +kernel
theorem d142_16 : decode (cm_M 142).2.2.1 16 = .ok (.ifCond .eq 12, 3) := by decide +kernel
theorem d142_19 : decode (cm_M 142).2.2.1 19 = .ok (.aload_n 0, 1) := by decide +kernel
theorem d142_20 : decode (cm_M 142).2.2.1 20 = .ok (.iload_n 1, 1) := by decide +kernel
theorem d142_21 : decode (cm_M 142).2.2.1 21 = .ok (.iload_n 2, 1) := by decide +kernel
theorem d142_22 : decode (cm_M 142).2.2.1 22 = .ok (.invokevirtual 206, 3) := by decide +kernel
theorem d142_25 : decode (cm_M 142).2.2.1 25 = .ok (.goto 4, 3) := by decide +kernel
theorem d142_28 : decode (cm_M 142).2.2.1 28 = .ok (.iconst (-1), 1) := by decide +kernel
theorem d142_29 : decode (cm_M 142).2.2.1 29 = .ok (.ireturn, 1) := by decide +kernel
theorem s142_0 {sc : cmS} {d : Nat} {h : cmH} {Q : Option Value → cmH → Prop} (L : LY h) (x1 : Int32) (x2 : Int32) (H : cm_ci sc d 140 [.ref 38, .int x1] h (fun r h' => cm_wp sc (d + 1) 142 5 [some (.ref 38), some (.int x1), some (.int x2)] [.int r] h' Q)) : cm_wp sc (d + 1) 142 0 [some (.ref 38), some (.int x1), some (.int x2)] [] h Q :=
  wl_st d142_0 rfl rfl rfl rfl (wl_st d142_1 rfl rfl rfl rfl (wl_ci d142_2 rfl rfl rfl pm11_168 (by decide) (ca_v (Or.inl rfl) rfl (Nat.le_of_ble_eq_true rfl) (Nat.le_of_ble_eq_true rfl) (ly_k L 38 rfl).2 (ly_k L 38 rfl).1 (by decide)) H))
theorem s142_5 {sc : cmS} {d : Nat} {h : cmH} {Q : Option Value → cmH → Prop} (x1 : Int32) (x2 : Int32) (sx0 : Int32) (H : (((sx0 = 0) → Q (some (.int (-1 : Int32))) h) ∧ (¬ (sx0 = 0) → cm_ci sc d 137 [.int x2, .int (1 : Int32), .int (1000 : Int32)] h (fun r h' => cm_wp sc (d + 1) 142 16 [some (.ref 38), some (.int x1), some (.int x2)] [.int r] h' Q)))) : cm_wp sc (d + 1) 142 5 [some (.ref 38), some (.int x1), some (.int x2)] [.int sx0] h Q :=
  wl_cb (b := sx0 = 0) (off := 23) (tgt := 28) (pc3 := 8) (st' := []) d142_5 rfl rfl rfl rfl (by decide) rfl (fun c1 => wl_ic (v := (-1)) d142_28 rfl (wl_rt d142_29 rfl rfl rfl (H.1 c1))) (fun c1 => wl_st d142_8 rfl rfl rfl rfl (wl_ic (v := 1) d142_9 rfl (wl_si (v := 1000) d142_10 rfl (wl_ci d142_13 rfl rfl rfl pm11_161 (by decide) (ca_s (Or.inl rfl) rfl (Nat.le_of_ble_eq_true rfl) (Nat.le_of_ble_eq_true rfl)) (H.2 c1)))))
theorem s142_16 {sc : cmS} {d : Nat} {h : cmH} {Q : Option Value → cmH → Prop} (L : LY h) (x1 : Int32) (x2 : Int32) (sx0 : Int32) (H : (((sx0 = 0) → Q (some (.int (-1 : Int32))) h) ∧ (¬ (sx0 = 0) → cm_ci sc d 143 [.ref 38, .int x1, .int x2] h (fun r h' => cm_wp sc (d + 1) 142 25 [some (.ref 38), some (.int x1), some (.int x2)] [.int r] h' Q)))) : cm_wp sc (d + 1) 142 16 [some (.ref 38), some (.int x1), some (.int x2)] [.int sx0] h Q :=
  wl_cb (b := sx0 = 0) (off := 12) (tgt := 28) (pc3 := 19) (st' := []) d142_16 rfl rfl rfl rfl (by decide) rfl (fun c1 => wl_ic (v := (-1)) d142_28 rfl (wl_rt d142_29 rfl rfl rfl (H.1 c1))) (fun c1 => wl_st d142_19 rfl rfl rfl rfl (wl_st d142_20 rfl rfl rfl rfl (wl_st d142_21 rfl rfl rfl rfl (wl_ci d142_22 rfl rfl rfl pm11_206 (by decide) (ca_v (Or.inl rfl) rfl (Nat.le_of_ble_eq_true rfl) (Nat.le_of_ble_eq_true rfl) (ly_k L 38 rfl).2 (ly_k L 38 rfl).1 (by decide)) (H.2 c1)))))
theorem s142_25 {sc : cmS} {d : Nat} {h : cmH} {Q : Option Value → cmH → Prop} (x1 : Int32) (x2 : Int32) (sx0 : Int32) (H : Q (some (.int sx0)) h) : cm_wp sc d 142 25 [some (.ref 38), some (.int x1), some (.int x2)] [.int sx0] h Q :=
  wl_go (tgt := 29) d142_25 (by decide) (wl_rt d142_29 rfl rfl rfl H)
-- ClogHouseModel.pushFor(II)I
theorem d143_0 : decode (cm_M 143).2.2.1 0 = .ok (.aload_n 0, 1) := by decide +kernel
theorem d143_1 : decode (cm_M 143).2.2.1 1 = .ok (.iload_n 1, 1) := by decide +kernel
theorem d143_2 : decode (cm_M 143).2.2.1 2 = .ok (.invokevirtual 192, 3) := by decide +kernel
theorem d143_5 : decode (cm_M 143).2.2.1 5 = .ok (.istore_n 3, 1) := by decide +kernel
theorem d143_6 : decode (cm_M 143).2.2.1 6 = .ok (.iload_n 3, 1) := by decide +kernel
theorem d143_7 : decode (cm_M 143).2.2.1 7 = .ok (.iconst (-1), 1) := by decide +kernel
theorem d143_8 : decode (cm_M 143).2.2.1 8 = .ok (.if_icmp .ne 5, 3) := by decide +kernel
theorem d143_11 : decode (cm_M 143).2.2.1 11 = .ok (.iconst (-1), 1) := by decide +kernel
theorem d143_12 : decode (cm_M 143).2.2.1 12 = .ok (.ireturn, 1) := by decide +kernel
theorem d143_13 : decode (cm_M 143).2.2.1 13 = .ok (.aload_n 0, 1) := by decide +kernel
theorem d143_14 : decode (cm_M 143).2.2.1 14 = .ok (.iload_n 1, 1) := by decide +kernel
theorem d143_15 : decode (cm_M 143).2.2.1 15 = .ok (.invokevirtual 195, 3) := by decide +kernel
theorem d143_18 : decode (cm_M 143).2.2.1 18 = .ok (.i2l, 1) := by decide +kernel
theorem d143_19 : decode (cm_M 143).2.2.1 19 = .ok (.lstore 4, 2) := by decide +kernel
theorem d143_21 : decode (cm_M 143).2.2.1 21 = .ok (.iconst 0, 1) := by decide +kernel
theorem d143_22 : decode (cm_M 143).2.2.1 22 = .ok (.istore 6, 2) := by decide +kernel
theorem d143_24 : decode (cm_M 143).2.2.1 24 = .ok (.iload 6, 2) := by decide +kernel
theorem d143_26 : decode (cm_M 143).2.2.1 26 = .ok (.ldc 198, 2) := by decide +kernel
theorem d143_28 : decode (cm_M 143).2.2.1 28 = .ok (.if_icmp .gt 89, 3) := by decide +kernel
theorem d143_31 : decode (cm_M 143).2.2.1 31 = .ok (.iload_n 2, 1) := by decide +kernel
theorem d143_32 : decode (cm_M 143).2.2.1 32 = .ok (.i2l, 1) := by decide +kernel
theorem d143_33 : decode (cm_M 143).2.2.1 33 = .ok (.iload_n 3, 1) := by decide +kernel
theorem d143_34 : decode (cm_M 143).2.2.1 34 = .ok (.i2l, 1) := by decide +kernel
theorem d143_35 : decode (cm_M 143).2.2.1 35 = .ok (.lload 4, 2) := by decide +kernel
theorem d143_37 : decode (cm_M 143).2.2.1 37 = .ok (.ldc2_w 199, 3) := by decide +kernel
theorem d143_40 : decode (cm_M 143).2.2.1 40 = .ok (.iload 6, 2) := by decide +kernel
theorem d143_42 : decode (cm_M 143).2.2.1 42 = .ok (.aload_n 0, 1) := by decide +kernel
theorem d143_43 : decode (cm_M 143).2.2.1 43 = .ok (.getfield 40, 3) := by decide +kernel
theorem d143_46 : decode (cm_M 143).2.2.1 46 = .ok (.iload_n 1, 1) := by decide +kernel
theorem d143_47 : decode (cm_M 143).2.2.1 47 = .ok (.iaload, 1) := by decide +kernel
theorem d143_48 : decode (cm_M 143).2.2.1 48 = .ok (.idiv, 1) := by decide +kernel
theorem d143_49 : decode (cm_M 143).2.2.1 49 = .ok (.i2l, 1) := by decide +kernel
theorem d143_50 : decode (cm_M 143).2.2.1 50 = .ok (.ladd, 1) := by decide +kernel
theorem d143_51 : decode (cm_M 143).2.2.1 51 = .ok (.lmul, 1) := by decide +kernel
theorem d143_52 : decode (cm_M 143).2.2.1 52 = .ok (.ldc2_w 199, 3) := by decide +kernel
theorem d143_55 : decode (cm_M 143).2.2.1 55 = .ok (.ldiv, 1) := by decide +kernel
theorem d143_56 : decode (cm_M 143).2.2.1 56 = .ok (.ladd, 1) := by decide +kernel
theorem d143_57 : decode (cm_M 143).2.2.1 57 = .ok (.lmul, 1) := by decide +kernel
theorem d143_58 : decode (cm_M 143).2.2.1 58 = .ok (.ldc2_w 199, 3) := by decide +kernel
theorem d143_61 : decode (cm_M 143).2.2.1 61 = .ok (.ldiv, 1) := by decide +kernel
theorem d143_62 : decode (cm_M 143).2.2.1 62 = .ok (.lstore 7, 2) := by decide +kernel
theorem d143_64 : decode (cm_M 143).2.2.1 64 = .ok (.iload 6, 2) := by decide +kernel
theorem d143_66 : decode (cm_M 143).2.2.1 66 = .ok (.i2l, 1) := by decide +kernel
theorem d143_67 : decode (cm_M 143).2.2.1 67 = .ok (.lload 7, 2) := by decide +kernel
theorem d143_69 : decode (cm_M 143).2.2.1 69 = .ok (.invokestatic 201, 3) := by decide +kernel
theorem d143_72 : decode (cm_M 143).2.2.1 72 = .ok (.lstore 9, 2) := by decide +kernel
theorem d143_74 : decode (cm_M 143).2.2.1 74 = .ok (.lload 9, 2) := by decide +kernel
theorem d143_76 : decode (cm_M 143).2.2.1 76 = .ok (.ldc2_w 204, 3) := by decide +kernel
theorem d143_79 : decode (cm_M 143).2.2.1 79 = .ok (.lcmp, 1) := by decide +kernel
theorem d143_80 : decode (cm_M 143).2.2.1 80 = .ok (.ifCond .gt 23, 3) := by decide +kernel
theorem d143_83 : decode (cm_M 143).2.2.1 83 = .ok (.lload 9, 2) := by decide +kernel
theorem d143_85 : decode (cm_M 143).2.2.1 85 = .ok (.iload 6, 2) := by decide +kernel
theorem d143_87 : decode (cm_M 143).2.2.1 87 = .ok (.aload_n 0, 1) := by decide +kernel
theorem d143_88 : decode (cm_M 143).2.2.1 88 = .ok (.getfield 40, 3) := by decide +kernel
theorem d143_91 : decode (cm_M 143).2.2.1 91 = .ok (.iload_n 1, 1) := by decide +kernel
theorem d143_92 : decode (cm_M 143).2.2.1 92 = .ok (.iaload, 1) := by decide +kernel
theorem d143_93 : decode (cm_M 143).2.2.1 93 = .ok (.iadd, 1) := by decide +kernel
theorem d143_94 : decode (cm_M 143).2.2.1 94 = .ok (.i2l, 1) := by decide +kernel
theorem d143_95 : decode (cm_M 143).2.2.1 95 = .ok (.lcmp, 1) := by decide +kernel
theorem d143_96 : decode (cm_M 143).2.2.1 96 = .ok (.ifCond .ge 7, 3) := by decide +kernel
theorem d143_99 : decode (cm_M 143).2.2.1 99 = .ok (.lload 9, 2) := by decide +kernel
theorem d143_101 : decode (cm_M 143).2.2.1 101 = .ok (.l2i, 1) := by decide +kernel
theorem d143_102 : decode (cm_M 143).2.2.1 102 = .ok (.ireturn, 1) := by decide +kernel
theorem d143_103 : decode (cm_M 143).2.2.1 103 = .ok (.iload 6, 2) := by decide +kernel
theorem d143_105 : decode (cm_M 143).2.2.1 105 = .ok (.aload_n 0, 1) := by decide +kernel
theorem d143_106 : decode (cm_M 143).2.2.1 106 = .ok (.getfield 40, 3) := by decide +kernel
theorem d143_109 : decode (cm_M 143).2.2.1 109 = .ok (.iload_n 1, 1) := by decide +kernel
theorem d143_110 : decode (cm_M 143).2.2.1 110 = .ok (.iaload, 1) := by decide +kernel
theorem d143_111 : decode (cm_M 143).2.2.1 111 = .ok (.iadd, 1) := by decide +kernel
theorem d143_112 : decode (cm_M 143).2.2.1 112 = .ok (.istore 6, 2) := by decide +kernel
theorem d143_114 : decode (cm_M 143).2.2.1 114 = .ok (.goto (-90), 3) := by decide +kernel
theorem d143_117 : decode (cm_M 143).2.2.1 117 = .ok (.iconst (-1), 1) := by decide +kernel
theorem d143_118 : decode (cm_M 143).2.2.1 118 = .ok (.ireturn, 1) := by decide +kernel
theorem s143_0 {sc : cmS} {d : Nat} {h : cmH} {Q : Option Value → cmH → Prop} (L : LY h) (x1 : Int32) (x2 : Int32) (u3 : Option Value) (u4 : Option Value) (u5 : Option Value) (u6 : Option Value) (u7 : Option Value) (u8 : Option Value) (u9 : Option Value) (u10 : Option Value) (H : cm_ci sc d 144 [.ref 38, .int x1] h (fun r h' => cm_wp sc (d + 1) 143 5 [some (.ref 38), some (.int x1), some (.int x2), u3, u4, u5, u6, u7, u8, u9, u10] [.int r] h' Q)) : cm_wp sc (d + 1) 143 0 [some (.ref 38), some (.int x1), some (.int x2), u3, u4, u5, u6, u7, u8, u9, u10] [] h Q :=
  wl_st d143_0 rfl rfl rfl rfl (wl_st d143_1 rfl rfl rfl rfl (wl_ci d143_2 rfl rfl rfl pm11_192 (by decide) (ca_v (Or.inl rfl) rfl (Nat.le_of_ble_eq_true rfl) (Nat.le_of_ble_eq_true rfl) (ly_k L 38 rfl).2 (ly_k L 38 rfl).1 (by decide)) H))
theorem s143_5 {sc : cmS} {d : Nat} {h : cmH} {Q : Option Value → cmH → Prop} (L : LY h) (x1 : Int32) (x2 : Int32) (u3 : Option Value) (u4 : Option Value) (u5 : Option Value) (u6 : Option Value) (u7 : Option Value) (u8 : Option Value) (u9 : Option Value) (u10 : Option Value) (sx0 : Int32) (H : (((¬ sx0 = (-1 : Int32)) → cm_ci sc d 149 [.ref 38, .int x1] h (fun r h' => cm_wp sc (d + 1) 143 18 [some (.ref 38), some (.int x1), some (.int x2), some (.int sx0), u4, u5, u6, u7, u8, u9, u10] [.int r] h' Q)) ∧ (¬ (¬ sx0 = (-1 : Int32)) → Q (some (.int (-1 : Int32))) h))) : cm_wp sc (d + 1) 143 5 [some (.ref 38), some (.int x1), some (.int x2), u3, u4, u5, u6, u7, u8, u9, u10] [.int sx0] h Q :=
  wl_st (ls' := [some (.ref 38), some (.int x1), some (.int x2), some (.int sx0), u4, u5, u6, u7, u8, u9, u10]) d143_5 rfl rfl rfl rfl (wl_st d143_6 rfl rfl rfl rfl (wl_ic (v := (-1)) d143_7 rfl (wl_cb (b := ¬ sx0 = (-1 : Int32)) (off := 5) (tgt := 13) (pc3 := 11) (st' := []) d143_8 rfl rfl rfl rfl (by decide) rfl (fun c1 => wl_st d143_13 rfl rfl rfl rfl (wl_st d143_14 rfl rfl rfl rfl (wl_ci d143_15 rfl rfl rfl pm11_195 (by decide) (ca_v (Or.inl rfl) rfl (Nat.le_of_ble_eq_true rfl) (Nat.le_of_ble_eq_true rfl) (ly_k L 38 rfl).2 (ly_k L 38 rfl).1 (by decide)) (H.1 c1)))) (fun c1 => wl_ic (v := (-1)) d143_11 rfl (wl_rt d143_12 rfl rfl rfl (H.2 c1))))))
theorem s143_18 {sc : cmS} {d : Nat} {h : cmH} {Q : Option Value → cmH → Prop} (x1 : Int32) (x2 : Int32) (x3 : Int32) (u4 : Option Value) (u5 : Option Value) (u6 : Option Value) (u7 : Option Value) (u8 : Option Value) (u9 : Option Value) (u10 : Option Value) (sx0 : Int32) (H : cm_wp sc d 143 24 [some (.ref 38), some (.int x1), some (.int x2), some (.int x3), some (.long (sx0.toInt64)), none, some (.int (0 : Int32)), u7, u8, u9, u10] [] h Q) : cm_wp sc d 143 18 [some (.ref 38), some (.int x1), some (.int x2), some (.int x3), u4, u5, u6, u7, u8, u9, u10] [.int sx0] h Q :=
  wl_st d143_18 rfl rfl rfl rfl (wl_st (ls' := [some (.ref 38), some (.int x1), some (.int x2), some (.int x3), some (.long (sx0.toInt64)), none, u6, u7, u8, u9, u10]) d143_19 rfl rfl rfl rfl (wl_ic (v := 0) d143_21 rfl (wl_st (ls' := [some (.ref 38), some (.int x1), some (.int x2), some (.int x3), some (.long (sx0.toInt64)), none, some (.int (0 : Int32)), u7, u8, u9, u10]) d143_22 rfl rfl rfl rfl (H))))
theorem s143_24 {sc : cmS} {d : Nat} {h : cmH} {Q : Option Value → cmH → Prop} (L : LY h) (x1 : Int32) (x2 : Int32) (x3 : Int32) (y4 : Int64) (x6 : Int32) (u7 : Option Value) (u8 : Option Value) (u9 : Option Value) (u10 : Option Value) (H : ((((100000 : Int32) < x6) → Q (some (.int (-1 : Int32))) h) ∧ (¬ ((100000 : Int32) < x6) → (IX 9 x1) ∧ (¬ (cm_I h 49 x1.toNatClampNeg) = 0) ∧ (((0 < (lg_cmp (if (((x2.toInt64) * ((x3.toInt64) + ((y4 * ((100 : Int64) + ((x6 / (cm_I h 49 x1.toNatClampNeg)).toInt64))) / (100 : Int64)))) / (100 : Int64)) < (x6.toInt64) then (x6.toInt64) else (((x2.toInt64) * ((x3.toInt64) + ((y4 * ((100 : Int64) + ((x6 / (cm_I h 49 x1.toNatClampNeg)).toInt64))) / (100 : Int64)))) / (100 : Int64))) (100000 : Int64))) → cm_wp sc (d + 1) 143 103 [some (.ref 38), some (.int x1), some (.int x2), some (.int x3), some (.long y4), none, some (.int x6), some (.long (((x2.toInt64) * ((x3.toInt64) + ((y4 * ((100 : Int64) + ((x6 / (cm_I h 49 x1.toNatClampNeg)).toInt64))) / (100 : Int64)))) / (100 : Int64))), none, some (.long (if (((x2.toInt64) * ((x3.toInt64) + ((y4 * ((100 : Int64) + ((x6 / (cm_I h 49 x1.toNatClampNeg)).toInt64))) / (100 : Int64)))) / (100 : Int64)) < (x6.toInt64) then (x6.toInt64) else (((x2.toInt64) * ((x3.toInt64) + ((y4 * ((100 : Int64) + ((x6 / (cm_I h 49 x1.toNatClampNeg)).toInt64))) / (100 : Int64)))) / (100 : Int64)))), none] [] h Q) ∧ (¬ (0 < (lg_cmp (if (((x2.toInt64) * ((x3.toInt64) + ((y4 * ((100 : Int64) + ((x6 / (cm_I h 49 x1.toNatClampNeg)).toInt64))) / (100 : Int64)))) / (100 : Int64)) < (x6.toInt64) then (x6.toInt64) else (((x2.toInt64) * ((x3.toInt64) + ((y4 * ((100 : Int64) + ((x6 / (cm_I h 49 x1.toNatClampNeg)).toInt64))) / (100 : Int64)))) / (100 : Int64))) (100000 : Int64))) → (((0 ≤ (lg_cmp (if (((x2.toInt64) * ((x3.toInt64) + ((y4 * ((100 : Int64) + ((x6 / (cm_I h 49 x1.toNatClampNeg)).toInt64))) / (100 : Int64)))) / (100 : Int64)) < (x6.toInt64) then (x6.toInt64) else (((x2.toInt64) * ((x3.toInt64) + ((y4 * ((100 : Int64) + ((x6 / (cm_I h 49 x1.toNatClampNeg)).toInt64))) / (100 : Int64)))) / (100 : Int64))) ((x6 + (cm_I h 49 x1.toNatClampNeg)).toInt64))) → cm_wp sc (d + 1) 143 103 [some (.ref 38), some (.int x1), some (.int x2), some (.int x3), some (.long y4), none, some (.int x6), some (.long (((x2.toInt64) * ((x3.toInt64) + ((y4 * ((100 : Int64) + ((x6 / (cm_I h 49 x1.toNatClampNeg)).toInt64))) / (100 : Int64)))) / (100 : Int64))), none, some (.long (if (((x2.toInt64) * ((x3.toInt64) + ((y4 * ((100 : Int64) + ((x6 / (cm_I h 49 x1.toNatClampNeg)).toInt64))) / (100 : Int64)))) / (100 : Int64)) < (x6.toInt64) then (x6.toInt64) else (((x2.toInt64) * ((x3.toInt64) + ((y4 * ((100 : Int64) + ((x6 / (cm_I h 49 x1.toNatClampNeg)).toInt64))) / (100 : Int64)))) / (100 : Int64)))), none] [] h Q) ∧ (¬ (0 ≤ (lg_cmp (if (((x2.toInt64) * ((x3.toInt64) + ((y4 * ((100 : Int64) + ((x6 / (cm_I h 49 x1.toNatClampNeg)).toInt64))) / (100 : Int64)))) / (100 : Int64)) < (x6.toInt64) then (x6.toInt64) else (((x2.toInt64) * ((x3.toInt64) + ((y4 * ((100 : Int64) + ((x6 / (cm_I h 49 x1.toNatClampNeg)).toInt64))) / (100 : Int64)))) / (100 : Int64))) ((x6 + (cm_I h 49 x1.toNatClampNeg)).toInt64))) → Q (some (.int ((if (((x2.toInt64) * ((x3.toInt64) + ((y4 * ((100 : Int64) + ((x6 / (cm_I h 49 x1.toNatClampNeg)).toInt64))) / (100 : Int64)))) / (100 : Int64)) < (x6.toInt64) then (x6.toInt64) else (((x2.toInt64) * ((x3.toInt64) + ((y4 * ((100 : Int64) + ((x6 / (cm_I h 49 x1.toNatClampNeg)).toInt64))) / (100 : Int64)))) / (100 : Int64))).toInt32))) h))))))) : cm_wp sc (d + 1) 143 24 [some (.ref 38), some (.int x1), some (.int x2), some (.int x3), some (.long y4), none, some (.int x6), u7, u8, u9, u10] [] h Q :=
  wl_st d143_24 rfl rfl rfl rfl (wl_cI (v := 100000) d143_26 pc11_198 (wl_cb (b := (100000 : Int32) < x6) (off := 89) (tgt := 117) (pc3 := 31) (st' := []) d143_28 rfl rfl rfl rfl (by decide) rfl (fun c1 => wl_ic (v := (-1)) d143_117 rfl (wl_rt d143_118 rfl rfl rfl (H.1 c1))) (fun c1 => wl_st d143_31 rfl rfl rfl rfl (wl_st d143_32 rfl rfl rfl rfl (wl_st d143_33 rfl rfl rfl rfl (wl_st d143_34 rfl rfl rfl rfl (wl_st d143_35 rfl rfl rfl rfl (wl_cJ (v := 100) d143_37 pj11_199 (wl_st d143_40 rfl rfl rfl rfl (wl_st d143_42 rfl rfl rfl rfl (wl_gr (b := 49) d143_43 pf11_40 (ly_k L 38 rfl) rfl (ly_r L 38 12 rfl) (wl_st d143_46 rfl rfl rfl rfl (And.elim (fun g2 g2k => wl_if (g := cm_ok h 13 49 x1) (st' := [.int (cm_I h 49 x1.toNatClampNeg), .int x6, .long (100 : Int64), .long y4, .long (x3.toInt64), .long (x2.toInt64)]) d143_47 rfl rfl rfl rfl (ly_o L 49 rfl g2) (And.elim (fun g3 g3k => wl_ne (g := (cm_I h 49 x1.toNatClampNeg) = 0) d143_48 rfl rfl rfl rfl g3 (wl_st d143_49 rfl rfl rfl rfl (wl_st d143_50 rfl rfl rfl rfl (wl_st d143_51 rfl rfl rfl rfl (wl_cJ (v := 100) d143_52 pj11_199 (wl_ne (g := (100 : Int64) = 0) d143_55 rfl rfl rfl rfl (by decide) (wl_st d143_56 rfl rfl rfl rfl (wl_st d143_57 rfl rfl rfl rfl (wl_cJ (v := 100) d143_58 pj11_199 (wl_ne (g := (100 : Int64) = 0) d143_61 rfl rfl rfl rfl (by decide) (wl_st (ls' := [some (.ref 38), some (.int x1), some (.int x2), some (.int x3), some (.long y4), none, some (.int x6), some (.long (((x2.toInt64) * ((x3.toInt64) + ((y4 * ((100 : Int64) + ((x6 / (cm_I h 49 x1.toNatClampNeg)).toInt64))) / (100 : Int64)))) / (100 : Int64))), none, u9, u10]) d143_62 rfl rfl rfl rfl (wl_st d143_64 rfl rfl rfl rfl (wl_st d143_66 rfl rfl rfl rfl (wl_st d143_67 rfl rfl rfl rfl (wl_pr (st' := [.long (if (((x2.toInt64) * ((x3.toInt64) + ((y4 * ((100 : Int64) + ((x6 / (cm_I h 49 x1.toNatClampNeg)).toInt64))) / (100 : Int64)))) / (100 : Int64)) < (x6.toInt64) then (x6.toInt64) else (((x2.toInt64) * ((x3.toInt64) + ((y4 * ((100 : Int64) + ((x6 / (cm_I h 49 x1.toNatClampNeg)).toInt64))) / (100 : Int64)))) / (100 : Int64)))]) d143_69 rfl rfl rfl pm11_201 (by decide) rfl rfl (wl_st (ls' := [some (.ref 38), some (.int x1), some (.int x2), some (.int x3), some (.long y4), none, some (.int x6), some (.long (((x2.toInt64) * ((x3.toInt64) + ((y4 * ((100 : Int64) + ((x6 / (cm_I h 49 x1.toNatClampNeg)).toInt64))) / (100 : Int64)))) / (100 : Int64))), none, some (.long (if (((x2.toInt64) * ((x3.toInt64) + ((y4 * ((100 : Int64) + ((x6 / (cm_I h 49 x1.toNatClampNeg)).toInt64))) / (100 : Int64)))) / (100 : Int64)) < (x6.toInt64) then (x6.toInt64) else (((x2.toInt64) * ((x3.toInt64) + ((y4 * ((100 : Int64) + ((x6 / (cm_I h 49 x1.toNatClampNeg)).toInt64))) / (100 : Int64)))) / (100 : Int64)))), none]) d143_72 rfl rfl rfl rfl (wl_st d143_74 rfl rfl rfl rfl (wl_cJ (v := 100000) d143_76 pj11_204 (wl_st d143_79 rfl rfl rfl rfl (wl_cb (b := 0 < (lg_cmp (if (((x2.toInt64) * ((x3.toInt64) + ((y4 * ((100 : Int64) + ((x6 / (cm_I h 49 x1.toNatClampNeg)).toInt64))) / (100 : Int64)))) / (100 : Int64)) < (x6.toInt64) then (x6.toInt64) else (((x2.toInt64) * ((x3.toInt64) + ((y4 * ((100 : Int64) + ((x6 / (cm_I h 49 x1.toNatClampNeg)).toInt64))) / (100 : Int64)))) / (100 : Int64))) (100000 : Int64))) (off := 23) (tgt := 103) (pc3 := 83) (st' := []) d143_80 rfl rfl rfl rfl (by decide) rfl (fun c4 => (g3k.1 c4)) (fun c4 => wl_st d143_83 rfl rfl rfl rfl (wl_st d143_85 rfl rfl rfl rfl (wl_st d143_87 rfl rfl rfl rfl (wl_gr (b := 49) d143_88 pf11_40 (ly_k L 38 rfl) rfl (ly_r L 38 12 rfl) (wl_st d143_91 rfl rfl rfl rfl (wl_if (g := cm_ok h 13 49 x1) (st' := [.int (cm_I h 49 x1.toNatClampNeg), .int x6, .long (if (((x2.toInt64) * ((x3.toInt64) + ((y4 * ((100 : Int64) + ((x6 / (cm_I h 49 x1.toNatClampNeg)).toInt64))) / (100 : Int64)))) / (100 : Int64)) < (x6.toInt64) then (x6.toInt64) else (((x2.toInt64) * ((x3.toInt64) + ((y4 * ((100 : Int64) + ((x6 / (cm_I h 49 x1.toNatClampNeg)).toInt64))) / (100 : Int64)))) / (100 : Int64)))]) d143_92 rfl rfl rfl rfl (ly_o L 49 rfl g2) (wl_st d143_93 rfl rfl rfl rfl (wl_st d143_94 rfl rfl rfl rfl (wl_st d143_95 rfl rfl rfl rfl (wl_cb (b := 0 ≤ (lg_cmp (if (((x2.toInt64) * ((x3.toInt64) + ((y4 * ((100 : Int64) + ((x6 / (cm_I h 49 x1.toNatClampNeg)).toInt64))) / (100 : Int64)))) / (100 : Int64)) < (x6.toInt64) then (x6.toInt64) else (((x2.toInt64) * ((x3.toInt64) + ((y4 * ((100 : Int64) + ((x6 / (cm_I h 49 x1.toNatClampNeg)).toInt64))) / (100 : Int64)))) / (100 : Int64))) ((x6 + (cm_I h 49 x1.toNatClampNeg)).toInt64))) (off := 7) (tgt := 103) (pc3 := 99) (st' := []) d143_96 rfl rfl rfl rfl (by decide) rfl (fun c5 => ((g3k.2 c4).1 c5)) (fun c5 => wl_st d143_99 rfl rfl rfl rfl (wl_st d143_101 rfl rfl rfl rfl (wl_rt d143_102 rfl rfl rfl ((g3k.2 c4).2 c5)))))))))))))))))))))))))))))))))) g2k)) (H.2 c1))))))))))))))
theorem s143_103 {sc : cmS} {d : Nat} {h : cmH} {Q : Option Value → cmH → Prop} (L : LY h) (x1 : Int32) (x2 : Int32) (x3 : Int32) (y4 : Int64) (x6 : Int32) (y7 : Int64) (y9 : Int64) (H : (IX 9 x1) ∧ cm_wp sc d 143 24 [some (.ref 38), some (.int x1), some (.int x2), some (.int x3), some (.long y4), none, some (.int (x6 + (cm_I h 49 x1.toNatClampNeg))), some (.long y7), none, some (.long y9), none] [] h Q) : cm_wp sc d 143 103 [some (.ref 38), some (.int x1), some (.int x2), some (.int x3), some (.long y4), none, some (.int x6), some (.long y7), none, some (.long y9), none] [] h Q :=
  wl_st d143_103 rfl rfl rfl rfl (wl_st d143_105 rfl rfl rfl rfl (wl_gr (b := 49) d143_106 pf11_40 (ly_k L 38 rfl) rfl (ly_r L 38 12 rfl) (wl_st d143_109 rfl rfl rfl rfl (And.elim (fun g1 g1k => wl_if (g := cm_ok h 13 49 x1) (st' := [.int (cm_I h 49 x1.toNatClampNeg), .int x6]) d143_110 rfl rfl rfl rfl (ly_o L 49 rfl g1) (wl_st d143_111 rfl rfl rfl rfl (wl_st (ls' := [some (.ref 38), some (.int x1), some (.int x2), some (.int x3), some (.long y4), none, some (.int (x6 + (cm_I h 49 x1.toNatClampNeg))), some (.long y7), none, some (.long y9), none]) d143_112 rfl rfl rfl rfl (wl_go (tgt := 24) d143_114 (by decide) (g1k))))) H))))
-- ClogHouseModel.bed(I)I
theorem d144_0 : decode (cm_M 144).2.2.1 0 = .ok (.iconst 0, 1) := by decide +kernel
theorem d144_1 : decode (cm_M 144).2.2.1 1 = .ok (.istore_n 2, 1) := by decide +kernel
theorem d144_2 : decode (cm_M 144).2.2.1 2 = .ok (.iconst 0, 1) := by decide +kernel
theorem d144_3 : decode (cm_M 144).2.2.1 3 = .ok (.istore_n 3, 1) := by decide +kernel
theorem d144_4 : decode (cm_M 144).2.2.1 4 = .ok (.iload_n 3, 1) := by decide +kernel
theorem d144_5 : decode (cm_M 144).2.2.1 5 = .ok (.aload_n 0, 1) := by decide +kernel
theorem d144_6 : decode (cm_M 144).2.2.1 6 = .ok (.getfield 19, 3) := by decide +kernel
theorem d144_9 : decode (cm_M 144).2.2.1 9 = .ok (.iload_n 1, 1) := by decide +kernel
theorem d144_10 : decode (cm_M 144).2.2.1 10 = .ok (.iaload, 1) := by decide +kernel
theorem d144_11 : decode (cm_M 144).2.2.1 11 = .ok (.if_icmp .ge 33, 3) := by decide +kernel
theorem d144_14 : decode (cm_M 144).2.2.1 14 = .ok (.aload_n 0, 1) := by decide +kernel
theorem d144_15 : decode (cm_M 144).2.2.1 15 = .ok (.iload_n 1, 1) := by decide +kernel
theorem d144_16 : decode (cm_M 144).2.2.1 16 = .ok (.iload_n 3, 1) := by decide +kernel
theorem d144_17 : decode (cm_M 144).2.2.1 17 = .ok (.invokevirtual 185, 3) := by decide +kernel
theorem d144_20 : decode (cm_M 144).2.2.1 20 = .ok (.invokestatic 188, 3) := by decide +kernel
theorem d144_23 : decode (cm_M 144).2.2.1 23 = .ok (.istore 4, 2) := by decide +kernel
theorem d144_25 : decode (cm_M 144).2.2.1 25 = .ok (.iload 4, 2) := by decide +kernel
theorem d144_27 : decode (cm_M 144).2.2.1 27 = .ok (.iconst (-1), 1) := by decide +kernel
theorem d144_28 : decode (cm_M 144).2.2.1 28 = .ok (.if_icmp .ne 5, 3) := by decide +kernel
theorem d144_31 : decode (cm_M 144).2.2.1 31 = .ok (.iconst (-1), 1) := by decide +kernel
theorem d144_32 : decode (cm_M 144).2.2.1 32 = .ok (.ireturn, 1) := by decide +kernel
theorem d144_33 : decode (cm_M 144).2.2.1 33 = .ok (.iload_n 2, 1) := by decide +kernel
theorem d144_34 : decode (cm_M 144).2.2.1 34 = .ok (.iload 4, 2) := by decide +kernel
theorem d144_36 : decode (cm_M 144).2.2.1 36 = .ok (.iadd, 1) := by decide +kernel
theorem d144_37 : decode (cm_M 144).2.2.1 37 = .ok (.istore_n 2, 1) := by decide +kernel
theorem d144_38 : decode (cm_M 144).2.2.1 38 = .ok (.iinc 3 1, 3) := by decide +kernel
theorem d144_41 : decode (cm_M 144).2.2.1 41 = .ok (.goto (-37), 3) := by decide +kernel
theorem d144_44 : decode (cm_M 144).2.2.1 44 = .ok (.iload_n 2, 1) := by decide +kernel
theorem d144_45 : decode (cm_M 144).2.2.1 45 = .ok (.ireturn, 1) := by decide +kernel
theorem s144_0 {sc : cmS} {d : Nat} {h : cmH} {Q : Option Value → cmH → Prop} (x1 : Int32) (u2 : Option Value) (u3 : Option Value) (u4 : Option Value) (H : cm_wp sc d 144 4 [some (.ref 38), some (.int x1), some (.int (0 : Int32)), some (.int (0 : Int32)), u4] [] h Q) : cm_wp sc d 144 0 [some (.ref 38), some (.int x1), u2, u3, u4] [] h Q :=
  wl_ic (v := 0) d144_0 rfl (wl_st (ls' := [some (.ref 38), some (.int x1), some (.int (0 : Int32)), u3, u4]) d144_1 rfl rfl rfl rfl (wl_ic (v := 0) d144_2 rfl (wl_st (ls' := [some (.ref 38), some (.int x1), some (.int (0 : Int32)), some (.int (0 : Int32)), u4]) d144_3 rfl rfl rfl rfl (H))))
theorem s144_4 {sc : cmS} {d : Nat} {h : cmH} {Q : Option Value → cmH → Prop} (L : LY h) (x1 : Int32) (x2 : Int32) (x3 : Int32) (u4 : Option Value) (H : (IX 9 x1) ∧ ((((cm_I h 42 x1.toNatClampNeg) ≤ x3) → Q (some (.int x2)) h) ∧ (¬ ((cm_I h 42 x1.toNatClampNeg) ≤ x3) → cm_ci sc d 145 [.ref 38, .int x1, .int x3] h (fun r h' => cm_wp sc (d + 1) 144 20 [some (.ref 38), some (.int x1), some (.int x2), some (.int x3), u4] [.int r] h' Q)))) : cm_wp sc (d + 1) 144 4 [some (.ref 38), some (.int x1), some (.int x2), some (.int x3), u4] [] h Q :=
  wl_st d144_4 rfl rfl rfl rfl (wl_st d144_5 rfl rfl rfl rfl (wl_gr (b := 42) d144_6 pf11_19 (ly_k L 38 rfl) rfl (ly_r L 38 5 rfl) (wl_st d144_9 rfl rfl rfl rfl (And.elim (fun g1 g1k => wl_if (g := cm_ok h 13 42 x1) (st' := [.int (cm_I h 42 x1.toNatClampNeg), .int x3]) d144_10 rfl rfl rfl rfl (ly_o L 42 rfl g1) (wl_cb (b := (cm_I h 42 x1.toNatClampNeg) ≤ x3) (off := 33) (tgt := 44) (pc3 := 14) (st' := []) d144_11 rfl rfl rfl rfl (by decide) rfl (fun c2 => wl_st d144_44 rfl rfl rfl rfl (wl_rt d144_45 rfl rfl rfl (g1k.1 c2))) (fun c2 => wl_st d144_14 rfl rfl rfl rfl (wl_st d144_15 rfl rfl rfl rfl (wl_st d144_16 rfl rfl rfl rfl (wl_ci d144_17 rfl rfl rfl pm11_185 (by decide) (ca_v (Or.inl rfl) rfl (Nat.le_of_ble_eq_true rfl) (Nat.le_of_ble_eq_true rfl) (ly_k L 38 rfl).2 (ly_k L 38 rfl).1 (by decide)) (g1k.2 c2))))))) H))))
theorem s144_20 {sc : cmS} {d : Nat} {h : cmH} {Q : Option Value → cmH → Prop} (x1 : Int32) (x2 : Int32) (x3 : Int32) (u4 : Option Value) (sx0 : Int32) (H : cm_ci sc d 148 [.int sx0] h (fun r h' => cm_wp sc (d + 1) 144 23 [some (.ref 38), some (.int x1), some (.int x2), some (.int x3), u4] [.int r] h' Q)) : cm_wp sc (d + 1) 144 20 [some (.ref 38), some (.int x1), some (.int x2), some (.int x3), u4] [.int sx0] h Q :=
  wl_ci d144_20 rfl rfl rfl pm11_188 (by decide) (ca_s (Or.inl rfl) rfl (Nat.le_of_ble_eq_true rfl) (Nat.le_of_ble_eq_true rfl)) H
theorem s144_23 {sc : cmS} {d : Nat} {h : cmH} {Q : Option Value → cmH → Prop} (x1 : Int32) (x2 : Int32) (x3 : Int32) (u4 : Option Value) (sx0 : Int32) (H : (((¬ sx0 = (-1 : Int32)) → cm_wp sc d 144 4 [some (.ref 38), some (.int x1), some (.int (x2 + sx0)), some (.int (x3 + 1)), some (.int sx0)] [] h Q) ∧ (¬ (¬ sx0 = (-1 : Int32)) → Q (some (.int (-1 : Int32))) h))) : cm_wp sc d 144 23 [some (.ref 38), some (.int x1), some (.int x2), some (.int x3), u4] [.int sx0] h Q :=
  wl_st (ls' := [some (.ref 38), some (.int x1), some (.int x2), some (.int x3), some (.int sx0)]) d144_23 rfl rfl rfl rfl (wl_st d144_25 rfl rfl rfl rfl (wl_ic (v := (-1)) d144_27 rfl (wl_cb (b := ¬ sx0 = (-1 : Int32)) (off := 5) (tgt := 33) (pc3 := 31) (st' := []) d144_28 rfl rfl rfl rfl (by decide) rfl (fun c1 => wl_st d144_33 rfl rfl rfl rfl (wl_st d144_34 rfl rfl rfl rfl (wl_st d144_36 rfl rfl rfl rfl (wl_st (ls' := [some (.ref 38), some (.int x1), some (.int (x2 + sx0)), some (.int x3), some (.int sx0)]) d144_37 rfl rfl rfl rfl (wl_st (ls' := [some (.ref 38), some (.int x1), some (.int (x2 + sx0)), some (.int (x3 + 1)), some (.int sx0)]) d144_38 rfl rfl rfl rfl (wl_go (tgt := 4) d144_41 (by decide) ((H.1 c1)))))))) (fun c1 => wl_ic (v := (-1)) d144_31 rfl (wl_rt d144_32 rfl rfl rfl (H.2 c1))))))
-- ClogHouseModel.width(II)I
theorem d145_0 : decode (cm_M 145).2.2.1 0 = .ok (.aload_n 0, 1) := by decide +kernel
theorem d145_1 : decode (cm_M 145).2.2.1 1 = .ok (.getfield 22, 3) := by decide +kernel
theorem d145_4 : decode (cm_M 145).2.2.1 4 = .ok (.bipush 10, 2) := by decide +kernel
theorem d145_6 : decode (cm_M 145).2.2.1 6 = .ok (.iload_n 1, 1) := by decide +kernel
theorem d145_7 : decode (cm_M 145).2.2.1 7 = .ok (.imul, 1) := by decide +kernel
theorem d145_8 : decode (cm_M 145).2.2.1 8 = .ok (.iload_n 2, 1) := by decide +kernel
theorem d145_9 : decode (cm_M 145).2.2.1 9 = .ok (.iadd, 1) := by decide +kernel
theorem d145_10 : decode (cm_M 145).2.2.1 10 = .ok (.iaload, 1) := by decide +kernel
theorem d145_11 : decode (cm_M 145).2.2.1 11 = .ok (.aload_n 0, 1) := by decide +kernel
theorem d145_12 : decode (cm_M 145).2.2.1 12 = .ok (.getfield 28, 3) := by decide +kernel
theorem d145_15 : decode (cm_M 145).2.2.1 15 = .ok (.bipush 10, 2) := by decide +kernel
theorem d145_17 : decode (cm_M 145).2.2.1 17 = .ok (.iload_n 1, 1) := by decide +kernel
theorem d145_18 : decode (cm_M 145).2.2.1 18 = .ok (.imul, 1) := by decide +kernel
theorem d145_19 : decode (cm_M 145).2.2.1 19 = .ok (.iload_n 2, 1) := by decide +kernel
theorem d145_20 : decode (cm_M 145).2.2.1 20 = .ok (.iadd, 1) := by decide +kernel
theorem d145_21 : decode (cm_M 145).2.2.1 21 = .ok (.iaload, 1) := by decide +kernel
theorem d145_22 : decode (cm_M 145).2.2.1 22 = .ok (.aload_n 0, 1) := by decide +kernel
theorem d145_23 : decode (cm_M 145).2.2.1 23 = .ok (.iload_n 1, 1) := by decide +kernel
theorem d145_24 : decode (cm_M 145).2.2.1 24 = .ok (.iload_n 2, 1) := by decide +kernel
theorem d145_25 : decode (cm_M 145).2.2.1 25 = .ok (.invokevirtual 178, 3) := by decide +kernel
theorem d145_28 : decode (cm_M 145).2.2.1 28 = .ok (.invokestatic 181, 3) := by decide +kernel
theorem d145_31 : decode (cm_M 145).2.2.1 31 = .ok (.ireturn, 1) := by decide +kernel
theorem s145_0 {sc : cmS} {d : Nat} {h : cmH} {Q : Option Value → cmH → Prop} (L : LY h) (x1 : Int32) (x2 : Int32) (H : (IX 90 (((10 : Int32) * x1) + x2)) ∧ cm_ci sc d 146 [.ref 38, .int x1, .int x2] h (fun r h' => cm_wp sc (d + 1) 145 28 [some (.ref 38), some (.int x1), some (.int x2)] [.int r, .int (cm_I h 45 (((10 : Int32) * x1) + x2).toNatClampNeg), .int (cm_I h 43 (((10 : Int32) * x1) + x2).toNatClampNeg)] h' Q)) : cm_wp sc (d + 1) 145 0 [some (.ref 38), some (.int x1), some (.int x2)] [] h Q :=
  wl_st d145_0 rfl rfl rfl rfl (wl_gr (b := 43) d145_1 pf11_22 (ly_k L 38 rfl) rfl (ly_r L 38 6 rfl) (wl_bi (v := 10) d145_4 rfl (wl_st d145_6 rfl rfl rfl rfl (wl_st d145_7 rfl rfl rfl rfl (wl_st d145_8 rfl rfl rfl rfl (wl_st d145_9 rfl rfl rfl rfl (And.elim (fun g1 g1k => wl_if (g := cm_ok h 13 43 (((10 : Int32) * x1) + x2)) (st' := [.int (cm_I h 43 (((10 : Int32) * x1) + x2).toNatClampNeg)]) d145_10 rfl rfl rfl rfl (ly_o L 43 rfl g1) (wl_st d145_11 rfl rfl rfl rfl (wl_gr (b := 45) d145_12 pf11_28 (ly_k L 38 rfl) rfl (ly_r L 38 8 rfl) (wl_bi (v := 10) d145_15 rfl (wl_st d145_17 rfl rfl rfl rfl (wl_st d145_18 rfl rfl rfl rfl (wl_st d145_19 rfl rfl rfl rfl (wl_st d145_20 rfl rfl rfl rfl (wl_if (g := cm_ok h 13 45 (((10 : Int32) * x1) + x2)) (st' := [.int (cm_I h 45 (((10 : Int32) * x1) + x2).toNatClampNeg), .int (cm_I h 43 (((10 : Int32) * x1) + x2).toNatClampNeg)]) d145_21 rfl rfl rfl rfl (ly_o L 45 rfl g1) (wl_st d145_22 rfl rfl rfl rfl (wl_st d145_23 rfl rfl rfl rfl (wl_st d145_24 rfl rfl rfl rfl (wl_ci d145_25 rfl rfl rfl pm11_178 (by decide) (ca_v (Or.inl rfl) rfl (Nat.le_of_ble_eq_true rfl) (Nat.le_of_ble_eq_true rfl) (ly_k L 38 rfl).2 (ly_k L 38 rfl).1 (by decide)) g1k))))))))))))) H)))))))
theorem s145_28 {sc : cmS} {d : Nat} {h : cmH} {Q : Option Value → cmH → Prop} (x1 : Int32) (x2 : Int32) (sx0 : Int32) (sx1 : Int32) (sx2 : Int32) (H : cm_ci sc d 147 [.int sx2, .int sx1, .int sx0] h (fun r h' => cm_wp sc (d + 1) 145 31 [some (.ref 38), some (.int x1), some (.int x2)] [.int r] h' Q)) : cm_wp sc (d + 1) 145 28 [some (.ref 38), some (.int x1), some (.int x2)] [.int sx0, .int sx1, .int sx2] h Q :=
  wl_ci d145_28 rfl rfl rfl pm11_181 (by decide) (ca_s (Or.inl rfl) rfl (Nat.le_of_ble_eq_true rfl) (Nat.le_of_ble_eq_true rfl)) H
theorem s145_31 {sc : cmS} {d : Nat} {h : cmH} {Q : Option Value → cmH → Prop} (x1 : Int32) (x2 : Int32) (sx0 : Int32) (H : Q (some (.int sx0)) h) : cm_wp sc d 145 31 [some (.ref 38), some (.int x1), some (.int x2)] [.int sx0] h Q :=
  wl_rt d145_31 rfl rfl rfl H
-- ClogHouseModel.heldIn(II)I
theorem d146_0 : decode (cm_M 146).2.2.1 0 = .ok (.iconst 0, 1) := by decide +kernel
theorem d146_1 : decode (cm_M 146).2.2.1 1 = .ok (.istore_n 3, 1) := by decide +kernel
theorem d146_2 : decode (cm_M 146).2.2.1 2 = .ok (.iconst 0, 1) := by decide +kernel
theorem d146_3 : decode (cm_M 146).2.2.1 3 = .ok (.istore 4, 2) := by decide +kernel
theorem d146_5 : decode (cm_M 146).2.2.1 5 = .ok (.iload 4, 2) := by decide +kernel
theorem d146_7 : decode (cm_M 146).2.2.1 7 = .ok (.bipush 8, 2) := by decide +kernel
theorem d146_9 : decode (cm_M 146).2.2.1 9 = .ok (.if_icmp .ge 29, 3) := by decide +kernel
theorem d146_12 : decode (cm_M 146).2.2.1 12 = .ok (.iload_n 3, 1) := by decide +kernel
theorem d146_13 : decode (cm_M 146).2.2.1 13 = .ok (.aload_n 0, 1) := by decide +kernel
theorem d146_14 : decode (cm_M 146).2.2.1 14 = .ok (.getfield 31, 3) := by decide +kernel
theorem d146_17 : decode (cm_M 146).2.2.1 17 = .ok (.bipush 8, 2) := by decide +kernel
theorem d146_19 : decode (cm_M 146).2.2.1 19 = .ok (.bipush 10, 2) := by decide +kernel
theorem d146_21 : decode (cm_M 146).2.2.1 21 = .ok (.iload_n 1, 1) := by decide +kernel
theorem d146_22 : decode (cm_M 146).2.2.1 22 = .ok (.imul, 1) := by decide +kernel
theorem d146_23 : decode (cm_M 146).2.2.1 23 = .ok (.iload_n 2, 1) := by decide +kernel
theorem d146_24 : decode (cm_M 146).2.2.1 24 = .ok (.iadd, 1) := by decide +kernel
theorem d146_25 : decode (cm_M 146).2.2.1 25 = .ok (.imul, 1) := by decide +kernel
theorem d146_26 : decode (cm_M 146).2.2.1 26 = .ok (.iload 4, 2) := by decide +kernel
theorem d146_28 : decode (cm_M 146).2.2.1 28 = .ok (.iadd, 1) := by decide +kernel
theorem d146_29 : decode (cm_M 146).2.2.1 29 = .ok (.iaload, 1) := by decide +kernel
theorem d146_30 : decode (cm_M 146).2.2.1 30 = .ok (.iadd, 1) := by decide +kernel
theorem d146_31 : decode (cm_M 146).2.2.1 31 = .ok (.istore_n 3, 1) := by decide +kernel
theorem d146_32 : decode (cm_M 146).2.2.1 32 = .ok (.iinc 4 1, 3) := by decide +kernel
theorem d146_35 : decode (cm_M 146).2.2.1 35 = .ok (.goto (-30), 3) := by decide +kernel
theorem d146_38 : decode (cm_M 146).2.2.1 38 = .ok (.iload_n 3, 1) := by decide +kernel
theorem d146_39 : decode (cm_M 146).2.2.1 39 = .ok (.ireturn, 1) := by decide +kernel
theorem s146_0 {sc : cmS} {d : Nat} {h : cmH} {Q : Option Value → cmH → Prop} (x1 : Int32) (x2 : Int32) (u3 : Option Value) (u4 : Option Value) (H : cm_wp sc d 146 5 [some (.ref 38), some (.int x1), some (.int x2), some (.int (0 : Int32)), some (.int (0 : Int32))] [] h Q) : cm_wp sc d 146 0 [some (.ref 38), some (.int x1), some (.int x2), u3, u4] [] h Q :=
  wl_ic (v := 0) d146_0 rfl (wl_st (ls' := [some (.ref 38), some (.int x1), some (.int x2), some (.int (0 : Int32)), u4]) d146_1 rfl rfl rfl rfl (wl_ic (v := 0) d146_2 rfl (wl_st (ls' := [some (.ref 38), some (.int x1), some (.int x2), some (.int (0 : Int32)), some (.int (0 : Int32))]) d146_3 rfl rfl rfl rfl (H))))
theorem s146_5 {sc : cmS} {d : Nat} {h : cmH} {Q : Option Value → cmH → Prop} (L : LY h) (x1 : Int32) (x2 : Int32) (x3 : Int32) (x4 : Int32) (H : ((((8 : Int32) ≤ x4) → Q (some (.int x3)) h) ∧ (¬ ((8 : Int32) ≤ x4) → (IX 720 (((8 : Int32) * (((10 : Int32) * x1) + x2)) + x4)) ∧ cm_wp sc d 146 5 [some (.ref 38), some (.int x1), some (.int x2), some (.int (x3 + (cm_I h 46 (((8 : Int32) * (((10 : Int32) * x1) + x2)) + x4).toNatClampNeg))), some (.int (x4 + 1))] [] h Q))) : cm_wp sc d 146 5 [some (.ref 38), some (.int x1), some (.int x2), some (.int x3), some (.int x4)] [] h Q :=
  wl_st d146_5 rfl rfl rfl rfl (wl_bi (v := 8) d146_7 rfl (wl_cb (b := (8 : Int32) ≤ x4) (off := 29) (tgt := 38) (pc3 := 12) (st' := []) d146_9 rfl rfl rfl rfl (by decide) rfl (fun c1 => wl_st d146_38 rfl rfl rfl rfl (wl_rt d146_39 rfl rfl rfl (H.1 c1))) (fun c1 => wl_st d146_12 rfl rfl rfl rfl (wl_st d146_13 rfl rfl rfl rfl (wl_gr (b := 46) d146_14 pf11_31 (ly_k L 38 rfl) rfl (ly_r L 38 9 rfl) (wl_bi (v := 8) d146_17 rfl (wl_bi (v := 10) d146_19 rfl (wl_st d146_21 rfl rfl rfl rfl (wl_st d146_22 rfl rfl rfl rfl (wl_st d146_23 rfl rfl rfl rfl (wl_st d146_24 rfl rfl rfl rfl (wl_st d146_25 rfl rfl rfl rfl (wl_st d146_26 rfl rfl rfl rfl (wl_st d146_28 rfl rfl rfl rfl (And.elim (fun g2 g2k => wl_if (g := cm_ok h 13 46 (((8 : Int32) * (((10 : Int32) * x1) + x2)) + x4)) (st' := [.int (cm_I h 46 (((8 : Int32) * (((10 : Int32) * x1) + x2)) + x4).toNatClampNeg), .int x3]) d146_29 rfl rfl rfl rfl (ly_o L 46 rfl g2) (wl_st d146_30 rfl rfl rfl rfl (wl_st (ls' := [some (.ref 38), some (.int x1), some (.int x2), some (.int (x3 + (cm_I h 46 (((8 : Int32) * (((10 : Int32) * x1) + x2)) + x4).toNatClampNeg))), some (.int x4)]) d146_31 rfl rfl rfl rfl (wl_st (ls' := [some (.ref 38), some (.int x1), some (.int x2), some (.int (x3 + (cm_I h 46 (((8 : Int32) * (((10 : Int32) * x1) + x2)) + x4).toNatClampNeg))), some (.int (x4 + 1))]) d146_32 rfl rfl rfl rfl (wl_go (tgt := 5) d146_35 (by decide) (g2k)))))) (H.2 c1))))))))))))))))
-- ClogHouseModel.widthOf(III)I
theorem d147_0 : decode (cm_M 147).2.2.1 0 = .ok (.iconst 0, 1) := by decide +kernel
theorem d147_1 : decode (cm_M 147).2.2.1 1 = .ok (.iload_n 0, 1) := by decide +kernel
theorem d147_2 : decode (cm_M 147).2.2.1 2 = .ok (.iload_n 2, 1) := by decide +kernel
theorem d147_3 : decode (cm_M 147).2.2.1 3 = .ok (.iload_n 1, 1) := by decide +kernel
theorem d147_4 : decode (cm_M 147).2.2.1 4 = .ok (.idiv, 1) := by decide +kernel
theorem d147_5 : decode (cm_M 147).2.2.1 5 = .ok (.isub, 1) := by decide +kernel
theorem d147_6 : decode (cm_M 147).2.2.1 6 = .ok (.invokestatic 172, 3) := by decide +kernel
theorem d147_9 : decode (cm_M 147).2.2.1 9 = .ok (.ireturn, 1) := by decide +kernel
theorem s147_0 {sc : cmS} {d : Nat} {h : cmH} {Q : Option Value → cmH → Prop} (x0 : Int32) (x1 : Int32) (x2 : Int32) (H : (¬ x1 = 0) ∧ Q (some (.int (if (0 : Int32) < (x0 - (x2 / x1)) then (x0 - (x2 / x1)) else (0 : Int32)))) h) : cm_wp sc (d + 1) 147 0 [some (.int x0), some (.int x1), some (.int x2)] [] h Q :=
  wl_ic (v := 0) d147_0 rfl (wl_st d147_1 rfl rfl rfl rfl (wl_st d147_2 rfl rfl rfl rfl (wl_st d147_3 rfl rfl rfl rfl (And.elim (fun g1 g1k => wl_ne (g := x1 = 0) d147_4 rfl rfl rfl rfl g1 (wl_st d147_5 rfl rfl rfl rfl (wl_pr (st' := [.int (if (0 : Int32) < (x0 - (x2 / x1)) then (x0 - (x2 / x1)) else (0 : Int32))]) d147_6 rfl rfl rfl pm11_172 (by decide) rfl rfl (wl_rt d147_9 rfl rfl rfl g1k)))) H))))
-- ClogHouseModel.resistOf(I)I
theorem d148_0 : decode (cm_M 148).2.2.1 0 = .ok (.iload_n 0, 1) := by decide +kernel
theorem d148_1 : decode (cm_M 148).2.2.1 1 = .ok (.ifCond .ne 7, 3) := by decide +kernel
theorem d148_4 : decode (cm_M 148).2.2.1 4 = .ok (.iconst (-1), 1) := by decide +kernel
theorem d148_5 : decode (cm_M 148).2.2.1 5 = .ok (.goto 14, 3) := by decide +kernel
theorem d148_8 : decode (cm_M 148).2.2.1 8 = .ok (.iconst 1, 1) := by decide +kernel
theorem d148_9 : decode (cm_M 148).2.2.1 9 = .ok (.sipush 10000, 3) := by decide +kernel
theorem d148_12 : decode (cm_M 148).2.2.1 12 = .ok (.iload_n 0, 1) := by decide +kernel
theorem d148_13 : decode (cm_M 148).2.2.1 13 = .ok (.idiv, 1) := by decide +kernel
theorem d148_14 : decode (cm_M 148).2.2.1 14 = .ok (.iload_n 0, 1) := by decide +kernel
theorem d148_15 : decode (cm_M 148).2.2.1 15 = .ok (.idiv, 1) := by decide +kernel
theorem d148_16 : decode (cm_M 148).2.2.1 16 = .ok (.invokestatic 172, 3) := by decide +kernel
theorem d148_19 : decode (cm_M 148).2.2.1 19 = .ok (.ireturn, 1) := by decide +kernel
theorem s148_0 {sc : cmS} {d : Nat} {h : cmH} {Q : Option Value → cmH → Prop} (x0 : Int32) (H : (((¬ x0 = 0) → (¬ x0 = 0) ∧ Q (some (.int (if (1 : Int32) < (((10000 : Int32) / x0) / x0) then (((10000 : Int32) / x0) / x0) else (1 : Int32)))) h) ∧ (¬ (¬ x0 = 0) → Q (some (.int (-1 : Int32))) h))) : cm_wp sc (d + 1) 148 0 [some (.int x0)] [] h Q :=
  wl_st d148_0 rfl rfl rfl rfl (wl_cb (b := ¬ x0 = 0) (off := 7) (tgt := 8) (pc3 := 4) (st' := []) d148_1 rfl rfl rfl rfl (by decide) rfl (fun c1 => wl_ic (v := 1) d148_8 rfl (wl_si (v := 10000) d148_9 rfl (wl_st d148_12 rfl rfl rfl rfl (And.elim (fun g2 g2k => wl_ne (g := x0 = 0) d148_13 rfl rfl rfl rfl g2 (wl_st d148_14 rfl rfl rfl rfl (wl_ne (g := x0 = 0) d148_15 rfl rfl rfl rfl g2 (wl_pr (st' := [.int (if (1 : Int32) < (((10000 : Int32) / x0) / x0) then (((10000 : Int32) / x0) / x0) else (1 : Int32))]) d148_16 rfl rfl rfl pm11_172 (by decide) rfl rfl (wl_rt d148_19 rfl rfl rfl g2k))))) (H.1 c1))))) (fun c1 => wl_ic (v := (-1)) d148_4 rfl (wl_go (tgt := 19) d148_5 (by decide) (wl_rt d148_19 rfl rfl rfl (H.2 c1)))))
-- ClogHouseModel.cakeOf(I)I
theorem d149_0 : decode (cm_M 149).2.2.1 0 = .ok (.iconst 0, 1) := by decide +kernel
theorem d149_1 : decode (cm_M 149).2.2.1 1 = .ok (.istore_n 2, 1) := by decide +kernel
theorem d149_2 : decode (cm_M 149).2.2.1 2 = .ok (.iconst 0, 1) := by decide +kernel
theorem d149_3 : decode (cm_M 149).2.2.1 3 = .ok (.istore_n 3, 1) := by decide +kernel
theorem d149_4 : decode (cm_M 149).2.2.1 4 = .ok (.iload_n 3, 1) := by decide +kernel
theorem d149_5 : decode (cm_M 149).2.2.1 5 = .ok (.bipush 8, 2) := by decide +kernel
theorem d149_7 : decode (cm_M 149).2.2.1 7 = .ok (.if_icmp .ge 23, 3) := by decide +kernel
theorem d149_10 : decode (cm_M 149).2.2.1 10 = .ok (.iload_n 2, 1) := by decide +kernel
theorem d149_11 : decode (cm_M 149).2.2.1 11 = .ok (.aload_n 0, 1) := by decide +kernel
theorem d149_12 : decode (cm_M 149).2.2.1 12 = .ok (.getfield 37, 3) := by decide +kernel
theorem d149_15 : decode (cm_M 149).2.2.1 15 = .ok (.bipush 8, 2) := by decide +kernel
theorem d149_17 : decode (cm_M 149).2.2.1 17 = .ok (.iload_n 1, 1) := by decide +kernel
theorem d149_18 : decode (cm_M 149).2.2.1 18 = .ok (.imul, 1) := by decide +kernel
theorem d149_19 : decode (cm_M 149).2.2.1 19 = .ok (.iload_n 3, 1) := by decide +kernel
theorem d149_20 : decode (cm_M 149).2.2.1 20 = .ok (.iadd, 1) := by decide +kernel
theorem d149_21 : decode (cm_M 149).2.2.1 21 = .ok (.iaload, 1) := by decide +kernel
theorem d149_22 : decode (cm_M 149).2.2.1 22 = .ok (.iadd, 1) := by decide +kernel
theorem d149_23 : decode (cm_M 149).2.2.1 23 = .ok (.istore_n 2, 1) := by decide +kernel
theorem d149_24 : decode (cm_M 149).2.2.1 24 = .ok (.iinc 3 1, 3) := by decide +kernel
theorem d149_27 : decode (cm_M 149).2.2.1 27 = .ok (.goto (-23), 3) := by decide +kernel
theorem d149_30 : decode (cm_M 149).2.2.1 30 = .ok (.iload_n 2, 1) := by decide +kernel
theorem d149_31 : decode (cm_M 149).2.2.1 31 = .ok (.ireturn, 1) := by decide +kernel
theorem s149_0 {sc : cmS} {d : Nat} {h : cmH} {Q : Option Value → cmH → Prop} (x1 : Int32) (u2 : Option Value) (u3 : Option Value) (H : cm_wp sc d 149 4 [some (.ref 38), some (.int x1), some (.int (0 : Int32)), some (.int (0 : Int32))] [] h Q) : cm_wp sc d 149 0 [some (.ref 38), some (.int x1), u2, u3] [] h Q :=
  wl_ic (v := 0) d149_0 rfl (wl_st (ls' := [some (.ref 38), some (.int x1), some (.int (0 : Int32)), u3]) d149_1 rfl rfl rfl rfl (wl_ic (v := 0) d149_2 rfl (wl_st (ls' := [some (.ref 38), some (.int x1), some (.int (0 : Int32)), some (.int (0 : Int32))]) d149_3 rfl rfl rfl rfl (H))))
theorem s149_4 {sc : cmS} {d : Nat} {h : cmH} {Q : Option Value → cmH → Prop} (L : LY h) (x1 : Int32) (x2 : Int32) (x3 : Int32) (H : ((((8 : Int32) ≤ x3) → Q (some (.int x2)) h) ∧ (¬ ((8 : Int32) ≤ x3) → (IX 72 (((8 : Int32) * x1) + x3)) ∧ cm_wp sc d 149 4 [some (.ref 38), some (.int x1), some (.int (x2 + (cm_I h 48 (((8 : Int32) * x1) + x3).toNatClampNeg))), some (.int (x3 + 1))] [] h Q))) : cm_wp sc d 149 4 [some (.ref 38), some (.int x1), some (.int x2), some (.int x3)] [] h Q :=
  wl_st d149_4 rfl rfl rfl rfl (wl_bi (v := 8) d149_5 rfl (wl_cb (b := (8 : Int32) ≤ x3) (off := 23) (tgt := 30) (pc3 := 10) (st' := []) d149_7 rfl rfl rfl rfl (by decide) rfl (fun c1 => wl_st d149_30 rfl rfl rfl rfl (wl_rt d149_31 rfl rfl rfl (H.1 c1))) (fun c1 => wl_st d149_10 rfl rfl rfl rfl (wl_st d149_11 rfl rfl rfl rfl (wl_gr (b := 48) d149_12 pf11_37 (ly_k L 38 rfl) rfl (ly_r L 38 11 rfl) (wl_bi (v := 8) d149_15 rfl (wl_st d149_17 rfl rfl rfl rfl (wl_st d149_18 rfl rfl rfl rfl (wl_st d149_19 rfl rfl rfl rfl (wl_st d149_20 rfl rfl rfl rfl (And.elim (fun g2 g2k => wl_if (g := cm_ok h 13 48 (((8 : Int32) * x1) + x3)) (st' := [.int (cm_I h 48 (((8 : Int32) * x1) + x3).toNatClampNeg), .int x2]) d149_21 rfl rfl rfl rfl (ly_o L 48 rfl g2) (wl_st d149_22 rfl rfl rfl rfl (wl_st (ls' := [some (.ref 38), some (.int x1), some (.int (x2 + (cm_I h 48 (((8 : Int32) * x1) + x3).toNatClampNeg))), some (.int x3)]) d149_23 rfl rfl rfl rfl (wl_st (ls' := [some (.ref 38), some (.int x1), some (.int (x2 + (cm_I h 48 (((8 : Int32) * x1) + x3).toNatClampNeg))), some (.int (x3 + 1))]) d149_24 rfl rfl rfl rfl (wl_go (tgt := 4) d149_27 (by decide) (g2k)))))) (H.2 c1))))))))))))
-- ClogHouseModel.celled(III)I
theorem d150_0 : decode (cm_M 150).2.2.1 0 = .ok (.aload_n 0, 1) := by decide +kernel
theorem d150_1 : decode (cm_M 150).2.2.1 1 = .ok (.iload_n 1, 1) := by decide +kernel
theorem d150_2 : decode (cm_M 150).2.2.1 2 = .ok (.iload_n 2, 1) := by decide +kernel
theorem d150_3 : decode (cm_M 150).2.2.1 3 = .ok (.invokevirtual 209, 3) := by decide +kernel
theorem d150_6 : decode (cm_M 150).2.2.1 6 = .ok (.ifCond .ne 5, 3) := by decide +kernel
theorem d150_9 : decode (cm_M 150).2.2.1 9 = .ok (.iconst (-1), 1) := by decide +kernel
theorem d150_10 : decode (cm_M 150).2.2.1 10 = .ok (.ireturn, 1) := by decide +kernel
theorem d150_11 : decode (cm_M 150).2.2.1 11 = .ok (.iload_n 3, 1) := by decide +kernel
theorem d150_12 : decode (cm_M 150).2.2.1 12 = .ok (.tableswitch 84 0 4 #[36, 48, 60, 67, 77], 36) := by decide +kernel
theorem d150_48 : decode (cm_M 150).2.2.1 48 = .ok (.aload_n 0, 1) := by decide +kernel
theorem d150_49 : decode (cm_M 150).2.2.1 49 = .ok (.getfield 22, 3) := by decide +kernel
theorem d150_52 : decode (cm_M 150).2.2.1 52 = .ok (.bipush 10, 2) := by decide +kernel
theorem d150_54 : decode (cm_M 150).2.2.1 54 = .ok (.iload_n 1, 1) := by decide +kernel
theorem d150_55 : decode (cm_M 150).2.2.1 55 = .ok (.imul, 1) := by decide +kernel
theorem d150_56 : decode (cm_M 150).2.2.1 56 = .ok (.iload_n 2, 1) := by decide +kernel
theorem d150_57 : decode (cm_M 150).2.2.1 57 = .ok (.iadd, 1) := by decide +kernel
theorem d150_58 : decode (cm_M 150).2.2.1 58 = .ok (.iaload, 1) := by decide +kernel
theorem d150_59 : decode (cm_M 150).2.2.1 59 = .ok (.ireturn, 1) := by decide +kernel
theorem d150_60 : decode (cm_M 150).2.2.1 60 = .ok (.aload_n 0, 1) := by decide +kernel
theorem d150_61 : decode (cm_M 150).2.2.1 61 = .ok (.getfield 28, 3) := by decide +kernel
theorem d150_64 : decode (cm_M 150).2.2.1 64 = .ok (.bipush 10, 2) := by decide +kernel
theorem d150_66 : decode (cm_M 150).2.2.1 66 = .ok (.iload_n 1, 1) := by decide +kernel
theorem d150_67 : decode (cm_M 150).2.2.1 67 = .ok (.imul, 1) := by decide +kernel
theorem d150_68 : decode (cm_M 150).2.2.1 68 = .ok (.iload_n 2, 1) := by decide +kernel
theorem d150_69 : decode (cm_M 150).2.2.1 69 = .ok (.iadd, 1) := by decide +kernel
theorem d150_70 : decode (cm_M 150).2.2.1 70 = .ok (.iaload, 1) := by decide +kernel
theorem d150_71 : decode (cm_M 150).2.2.1 71 = .ok (.ireturn, 1) := by decide +kernel
theorem d150_72 : decode (cm_M 150).2.2.1 72 = .ok (.aload_n 0, 1) := by decide +kernel
theorem d150_73 : decode (cm_M 150).2.2.1 73 = .ok (.iload_n 1, 1) := by decide +kernel
theorem d150_74 : decode (cm_M 150).2.2.1 74 = .ok (.iload_n 2, 1) := by decide +kernel
theorem d150_75 : decode (cm_M 150).2.2.1 75 = .ok (.invokevirtual 185, 3) := by decide +kernel
theorem d150_78 : decode (cm_M 150).2.2.1 78 = .ok (.ireturn, 1) := by decide +kernel
theorem d150_79 : decode (cm_M 150).2.2.1 79 = .ok (.aload_n 0, 1) := by decide +kernel
theorem d150_80 : decode (cm_M 150).2.2.1 80 = .ok (.iload_n 1, 1) := by decide +kernel
theorem d150_81 : decode (cm_M 150).2.2.1 81 = .ok (.iload_n 2, 1) := by decide +kernel
theorem d150_82 : decode (cm_M 150).2.2.1 82 = .ok (.invokevirtual 185, 3) := by decide +kernel
theorem d150_85 : decode (cm_M 150).2.2.1 85 = .ok (.invokestatic 188, 3) := by decide +kernel
theorem d150_88 : decode (cm_M 150).2.2.1 88 = .ok (.ireturn, 1) := by decide +kernel
theorem d150_89 : decode (cm_M 150).2.2.1 89 = .ok (.aload_n 0, 1) := by decide +kernel
theorem d150_90 : decode (cm_M 150).2.2.1 90 = .ok (.iload_n 1, 1) := by decide +kernel
theorem d150_91 : decode (cm_M 150).2.2.1 91 = .ok (.iload_n 2, 1) := by decide +kernel
theorem d150_92 : decode (cm_M 150).2.2.1 92 = .ok (.invokevirtual 178, 3) := by decide +kernel
theorem d150_95 : decode (cm_M 150).2.2.1 95 = .ok (.ireturn, 1) := by decide +kernel
theorem d150_96 : decode (cm_M 150).2.2.1 96 = .ok (.iconst (-1), 1) := by decide +kernel
theorem d150_97 : decode (cm_M 150).2.2.1 97 = .ok (.ireturn, 1) := by decide +kernel
theorem s150_0 {sc : cmS} {d : Nat} {h : cmH} {Q : Option Value → cmH → Prop} (L : LY h) (x1 : Int32) (x2 : Int32) (x3 : Int32) (H : cm_ci sc d 151 [.ref 38, .int x1, .int x2] h (fun r h' => cm_wp sc (d + 1) 150 6 [some (.ref 38), some (.int x1), some (.int x2), some (.int x3)] [.int r] h' Q)) : cm_wp sc (d + 1) 150 0 [some (.ref 38), some (.int x1), some (.int x2), some (.int x3)] [] h Q :=
  wl_st d150_0 rfl rfl rfl rfl (wl_st d150_1 rfl rfl rfl rfl (wl_st d150_2 rfl rfl rfl rfl (wl_ci d150_3 rfl rfl rfl pm11_209 (by decide) (ca_v (Or.inl rfl) rfl (Nat.le_of_ble_eq_true rfl) (Nat.le_of_ble_eq_true rfl) (ly_k L 38 rfl).2 (ly_k L 38 rfl).1 (by decide)) H)))
theorem s150_6 {sc : cmS} {d : Nat} {h : cmH} {Q : Option Value → cmH → Prop} (L : LY h) (x1 : Int32) (x2 : Int32) (x3 : Int32) (sx0 : Int32) (H : (((¬ sx0 = 0) → ((x3 = 0 → (IX 90 (((10 : Int32) * x1) + x2)) ∧ Q (some (.int (cm_I h 43 (((10 : Int32) * x1) + x2).toNatClampNeg))) h) ∧ (x3 = 1 → (IX 90 (((10 : Int32) * x1) + x2)) ∧ Q (some (.int (cm_I h 45 (((10 : Int32) * x1) + x2).toNatClampNeg))) h) ∧ (x3 = 2 → cm_ci sc d 145 [.ref 38, .int x1, .int x2] h (fun r h' => cm_wp sc (d + 1) 150 78 [some (.ref 38), some (.int x1), some (.int x2), some (.int x3)] [.int r] h' Q)) ∧ (x3 = 3 → cm_ci sc d 145 [.ref 38, .int x1, .int x2] h (fun r h' => cm_wp sc (d + 1) 150 85 [some (.ref 38), some (.int x1), some (.int x2), some (.int x3)] [.int r] h' Q)) ∧ (x3 = 4 → cm_ci sc d 146 [.ref 38, .int x1, .int x2] h (fun r h' => cm_wp sc (d + 1) 150 95 [some (.ref 38), some (.int x1), some (.int x2), some (.int x3)] [.int r] h' Q)) ∧ (¬ x3 = 0 → ¬ x3 = 1 → ¬ x3 = 2 → ¬ x3 = 3 → ¬ x3 = 4 → Q (some (.int (-1 : Int32))) h))) ∧ (¬ (¬ sx0 = 0) → Q (some (.int (-1 : Int32))) h))) : cm_wp sc (d + 1) 150 6 [some (.ref 38), some (.int x1), some (.int x2), some (.int x3)] [.int sx0] h Q :=
  wl_cb (b := ¬ sx0 = 0) (off := 5) (tgt := 11) (pc3 := 9) (st' := []) d150_6 rfl rfl rfl rfl (by decide) rfl (fun c1 => wl_st d150_11 rfl rfl rfl rfl ((if c4 : x3 = 0 then wl_tsI (v := 0) (tgt := 48) d150_12 c4 rfl (by decide) (by decide) (by decide) (wl_st d150_48 rfl rfl rfl rfl (wl_gr (b := 43) d150_49 pf11_22 (ly_k L 38 rfl) rfl (ly_r L 38 6 rfl) (wl_bi (v := 10) d150_52 rfl (wl_st d150_54 rfl rfl rfl rfl (wl_st d150_55 rfl rfl rfl rfl (wl_st d150_56 rfl rfl rfl rfl (wl_st d150_57 rfl rfl rfl rfl (And.elim (fun g2 g2k => wl_if (g := cm_ok h 13 43 (((10 : Int32) * x1) + x2)) (st' := [.int (cm_I h 43 (((10 : Int32) * x1) + x2).toNatClampNeg)]) d150_58 rfl rfl rfl rfl (ly_o L 43 rfl g2) (wl_rt d150_59 rfl rfl rfl g2k)) ((H.1 c1).1 c4))))))))) else (if c5 : x3 = 1 then wl_tsI (v := 1) (tgt := 60) d150_12 c5 rfl (by decide) (by decide) (by decide) (wl_st d150_60 rfl rfl rfl rfl (wl_gr (b := 45) d150_61 pf11_28 (ly_k L 38 rfl) rfl (ly_r L 38 8 rfl) (wl_bi (v := 10) d150_64 rfl (wl_st d150_66 rfl rfl rfl rfl (wl_st d150_67 rfl rfl rfl rfl (wl_st d150_68 rfl rfl rfl rfl (wl_st d150_69 rfl rfl rfl rfl (And.elim (fun g3 g3k => wl_if (g := cm_ok h 13 45 (((10 : Int32) * x1) + x2)) (st' := [.int (cm_I h 45 (((10 : Int32) * x1) + x2).toNatClampNeg)]) d150_70 rfl rfl rfl rfl (ly_o L 45 rfl g3) (wl_rt d150_71 rfl rfl rfl g3k)) ((H.1 c1).2.1 c5))))))))) else (if c6 : x3 = 2 then wl_tsI (v := 2) (tgt := 72) d150_12 c6 rfl (by decide) (by decide) (by decide) (wl_st d150_72 rfl rfl rfl rfl (wl_st d150_73 rfl rfl rfl rfl (wl_st d150_74 rfl rfl rfl rfl (wl_ci d150_75 rfl rfl rfl pm11_185 (by decide) (ca_v (Or.inl rfl) rfl (Nat.le_of_ble_eq_true rfl) (Nat.le_of_ble_eq_true rfl) (ly_k L 38 rfl).2 (ly_k L 38 rfl).1 (by decide)) ((H.1 c1).2.2.1 c6))))) else (if c7 : x3 = 3 then wl_tsI (v := 3) (tgt := 79) d150_12 c7 rfl (by decide) (by decide) (by decide) (wl_st d150_79 rfl rfl rfl rfl (wl_st d150_80 rfl rfl rfl rfl (wl_st d150_81 rfl rfl rfl rfl (wl_ci d150_82 rfl rfl rfl pm11_185 (by decide) (ca_v (Or.inl rfl) rfl (Nat.le_of_ble_eq_true rfl) (Nat.le_of_ble_eq_true rfl) (ly_k L 38 rfl).2 (ly_k L 38 rfl).1 (by decide)) ((H.1 c1).2.2.2.1 c7))))) else (if c8 : x3 = 4 then wl_tsI (v := 4) (tgt := 89) d150_12 c8 rfl (by decide) (by decide) (by decide) (wl_st d150_89 rfl rfl rfl rfl (wl_st d150_90 rfl rfl rfl rfl (wl_st d150_91 rfl rfl rfl rfl (wl_ci d150_92 rfl rfl rfl pm11_178 (by decide) (ca_v (Or.inl rfl) rfl (Nat.le_of_ble_eq_true rfl) (Nat.le_of_ble_eq_true rfl) (ly_k L 38 rfl).2 (ly_k L 38 rfl).1 (by decide)) ((H.1 c1).2.2.2.2.1 c8))))) else wl_tsO (tgt := 96) d150_12 (by rcases (by omega : (x3).toInt < 0 ∨ 4 < (x3).toInt ∨ (x3).toInt = 0 ∨ (x3).toInt = 1 ∨ (x3).toInt = 2 ∨ (x3).toInt = 3 ∨ (x3).toInt = 4) with qq | qq | qq | qq | qq | qq | qq <;> first | exact Or.inl qq | exact Or.inr qq | exact absurd (Int32.toInt_inj.mp qq) c4 | exact absurd (Int32.toInt_inj.mp qq) c5 | exact absurd (Int32.toInt_inj.mp qq) c6 | exact absurd (Int32.toInt_inj.mp qq) c7 | exact absurd (Int32.toInt_inj.mp qq) c8) (by decide) (wl_ic (v := (-1)) d150_96 rfl (wl_rt d150_97 rfl rfl rfl ((H.1 c1).2.2.2.2.2 c4 c5 c6 c7 c8)))))))))) (fun c1 => wl_ic (v := (-1)) d150_9 rfl (wl_rt d150_10 rfl rfl rfl (H.2 c1)))
theorem s150_78 {sc : cmS} {d : Nat} {h : cmH} {Q : Option Value → cmH → Prop} (x1 : Int32) (x2 : Int32) (x3 : Int32) (sx0 : Int32) (H : Q (some (.int sx0)) h) : cm_wp sc d 150 78 [some (.ref 38), some (.int x1), some (.int x2), some (.int x3)] [.int sx0] h Q :=
  wl_rt d150_78 rfl rfl rfl H
theorem s150_85 {sc : cmS} {d : Nat} {h : cmH} {Q : Option Value → cmH → Prop} (x1 : Int32) (x2 : Int32) (x3 : Int32) (sx0 : Int32) (H : cm_ci sc d 148 [.int sx0] h (fun r h' => cm_wp sc (d + 1) 150 88 [some (.ref 38), some (.int x1), some (.int x2), some (.int x3)] [.int r] h' Q)) : cm_wp sc (d + 1) 150 85 [some (.ref 38), some (.int x1), some (.int x2), some (.int x3)] [.int sx0] h Q :=
  wl_ci d150_85 rfl rfl rfl pm11_188 (by decide) (ca_s (Or.inl rfl) rfl (Nat.le_of_ble_eq_true rfl) (Nat.le_of_ble_eq_true rfl)) H
theorem s150_88 {sc : cmS} {d : Nat} {h : cmH} {Q : Option Value → cmH → Prop} (x1 : Int32) (x2 : Int32) (x3 : Int32) (sx0 : Int32) (H : Q (some (.int sx0)) h) : cm_wp sc d 150 88 [some (.ref 38), some (.int x1), some (.int x2), some (.int x3)] [.int sx0] h Q :=
  wl_rt d150_88 rfl rfl rfl H
theorem s150_95 {sc : cmS} {d : Nat} {h : cmH} {Q : Option Value → cmH → Prop} (x1 : Int32) (x2 : Int32) (x3 : Int32) (sx0 : Int32) (H : Q (some (.int sx0)) h) : cm_wp sc d 150 95 [some (.ref 38), some (.int x1), some (.int x2), some (.int x3)] [.int sx0] h Q :=
  wl_rt d150_95 rfl rfl rfl H
-- ClogHouseModel.isCell(II)Z
theorem d151_0 : decode (cm_M 151).2.2.1 0 = .ok (.aload_n 0, 1) := by decide +kernel
theorem d151_1 : decode (cm_M 151).2.2.1 1 = .ok (.iload_n 1, 1) := by decide +kernel
theorem d151_2 : decode (cm_M 151).2.2.1 2 = .ok (.invokevirtual 168, 3) := by decide +kernel
theorem d151_5 : decode (cm_M 151).2.2.1 5 = .ok (.ifCond .eq 23, 3) := by decide +kernel
theorem d151_8 : decode (cm_M 151).2.2.1 8 = .ok (.iload_n 2, 1) := by decide +kernel
theorem d151_9 : decode (cm_M 151).2.2.1 9 = .ok (.iconst 0, 1) := by decide +kernel
theorem d151_10 : decode (cm_M 151).2.2.1 10 = .ok (.aload_n 0, 1) := by decide +kernel
theorem d151_11 : decode (cm_M 151).2.2.1 11 = .ok (.getfield 19, 3) := by decide +kernel
theorem d151_14 : decode (cm_M 151).2.2.1 14 = .ok (.iload_n 1, 1) := by decide +kernel
theorem d151_15 : decode (cm_M 151).2.2.1 15 = .ok (.iaload, 1) := by decide +kernel
theorem d151_16 : decode (cm_M 151).2.2.1 16 = .ok (.iconst 1, 1) := by decide +kernel
theorem d151_17 : decode (cm_M 151).2.2.1 17 = .ok (.isub, 1) := by decide +kernel
theorem d151_18 : decode (cm_M 151).2.2.1 18 = .ok (.invokestatic 161, 3) := by decide +kernel
theorem d151_21 : decode (cm_M 151).2.2.1 21 = .ok (.ifCond .eq 7, 3) := by decide +kernel
theorem d151_24 : decode (cm_M 151).2.2.1 24 = .ok (.iconst 1, 1) := by decide +kernel
theorem d151_25 : decode (cm_M 151).2.2.1 25 = .ok (.goto 4, 3) := by decide +kernel
theorem d151_28 : decode (cm_M 151).2.2.1 28 = .ok (.iconst 0, 1) := by decide +kernel
theorem d151_29 : decode (cm_M 151).2.2.1 29 = .ok (.ireturn, 1) := by decide +kernel
theorem s151_0 {sc : cmS} {d : Nat} {h : cmH} {Q : Option Value → cmH → Prop} (L : LY h) (x1 : Int32) (x2 : Int32) (H : cm_ci sc d 140 [.ref 38, .int x1] h (fun r h' => cm_wp sc (d + 1) 151 5 [some (.ref 38), some (.int x1), some (.int x2)] [.int r] h' Q)) : cm_wp sc (d + 1) 151 0 [some (.ref 38), some (.int x1), some (.int x2)] [] h Q :=
  wl_st d151_0 rfl rfl rfl rfl (wl_st d151_1 rfl rfl rfl rfl (wl_ci d151_2 rfl rfl rfl pm11_168 (by decide) (ca_v (Or.inl rfl) rfl (Nat.le_of_ble_eq_true rfl) (Nat.le_of_ble_eq_true rfl) (ly_k L 38 rfl).2 (ly_k L 38 rfl).1 (by decide)) H))
theorem s151_5 {sc : cmS} {d : Nat} {h : cmH} {Q : Option Value → cmH → Prop} (L : LY h) (x1 : Int32) (x2 : Int32) (sx0 : Int32) (H : (((sx0 = 0) → Q (some (.int (0 : Int32))) h) ∧ (¬ (sx0 = 0) → (IX 9 x1) ∧ cm_ci sc d 137 [.int x2, .int (0 : Int32), .int ((cm_I h 42 x1.toNatClampNeg) - (1 : Int32))] h (fun r h' => cm_wp sc (d + 1) 151 21 [some (.ref 38), some (.int x1), some (.int x2)] [.int r] h' Q)))) : cm_wp sc (d + 1) 151 5 [some (.ref 38), some (.int x1), some (.int x2)] [.int sx0] h Q :=
  wl_cb (b := sx0 = 0) (off := 23) (tgt := 28) (pc3 := 8) (st' := []) d151_5 rfl rfl rfl rfl (by decide) rfl (fun c1 => wl_ic (v := 0) d151_28 rfl (wl_rz d151_29 rfl (by decide) (H.1 c1))) (fun c1 => wl_st d151_8 rfl rfl rfl rfl (wl_ic (v := 0) d151_9 rfl (wl_st d151_10 rfl rfl rfl rfl (wl_gr (b := 42) d151_11 pf11_19 (ly_k L 38 rfl) rfl (ly_r L 38 5 rfl) (wl_st d151_14 rfl rfl rfl rfl (And.elim (fun g2 g2k => wl_if (g := cm_ok h 13 42 x1) (st' := [.int (cm_I h 42 x1.toNatClampNeg), .int (0 : Int32), .int x2]) d151_15 rfl rfl rfl rfl (ly_o L 42 rfl g2) (wl_ic (v := 1) d151_16 rfl (wl_st d151_17 rfl rfl rfl rfl (wl_ci d151_18 rfl rfl rfl pm11_161 (by decide) (ca_s (Or.inl rfl) rfl (Nat.le_of_ble_eq_true rfl) (Nat.le_of_ble_eq_true rfl)) g2k)))) (H.2 c1)))))))
theorem s151_21 {sc : cmS} {d : Nat} {h : cmH} {Q : Option Value → cmH → Prop} (x1 : Int32) (x2 : Int32) (sx0 : Int32) (H : (((sx0 = 0) → Q (some (.int (0 : Int32))) h) ∧ (¬ (sx0 = 0) → Q (some (.int (1 : Int32))) h))) : cm_wp sc d 151 21 [some (.ref 38), some (.int x1), some (.int x2)] [.int sx0] h Q :=
  wl_cb (b := sx0 = 0) (off := 7) (tgt := 28) (pc3 := 24) (st' := []) d151_21 rfl rfl rfl rfl (by decide) rfl (fun c1 => wl_ic (v := 0) d151_28 rfl (wl_rz d151_29 rfl (by decide) (H.1 c1))) (fun c1 => wl_ic (v := 1) d151_24 rfl (wl_go (tgt := 29) d151_25 (by decide) (wl_rz d151_29 rfl (by decide) (H.2 c1))))
-- ClogHouseModel.held(IIII)I
theorem d152_0 : decode (cm_M 152).2.2.1 0 = .ok (.aload_n 0, 1) := by decide +kernel
theorem d152_1 : decode (cm_M 152).2.2.1 1 = .ok (.iload_n 1, 1) := by decide +kernel
theorem d152_2 : decode (cm_M 152).2.2.1 2 = .ok (.iload_n 2, 1) := by decide +kernel
theorem d152_3 : decode (cm_M 152).2.2.1 3 = .ok (.invokevirtual 209, 3) := by decide +kernel
theorem d152_6 : decode (cm_M 152).2.2.1 6 = .ok (.ifCond .eq 23, 3) := by decide +kernel
theorem d152_9 : decode (cm_M 152).2.2.1 9 = .ok (.iload_n 3, 1) := by decide +kernel
theorem d152_10 : decode (cm_M 152).2.2.1 10 = .ok (.iconst 0, 1) := by decide +kernel
theorem d152_11 : decode (cm_M 152).2.2.1 11 = .ok (.bipush 7, 2) := by decide +kernel
theorem d152_13 : decode (cm_M 152).2.2.1 13 = .ok (.invokestatic 161, 3) := by decide +kernel
theorem d152_16 : decode (cm_M 152).2.2.1 16 = .ok (.ifCond .eq 13, 3) := by decide +kernel
theorem d152_19 : decode (cm_M 152).2.2.1 19 = .ok (.iload 4, 2) := by decide +kernel
theorem d152_21 : decode (cm_M 152).2.2.1 21 = .ok (.iconst 0, 1) := by decide +kernel
theorem d152_22 : decode (cm_M 152).2.2.1 22 = .ok (.iconst 1, 1) := by decide +kernel
theorem d152_23 : decode (cm_M 152).2.2.1 23 = .ok (.invokestatic 161, 3) := by decide +kernel
theorem d152_26 : decode (cm_M 152).2.2.1 26 = .ok (.ifCond .ne 5, 3) := by decide +kernel
theorem d152_29 : decode (cm_M 152).2.2.1 29 = .ok (.iconst (-1), 1) := by decide +kernel
theorem d152_30 : decode (cm_M 152).2.2.1 30 = .ok (.ireturn, 1) := by decide +kernel
theorem d152_31 : decode (cm_M 152).2.2.1 31 = .ok (.bipush 8, 2) := by decide +kernel
theorem d152_33 : decode (cm_M 152).2.2.1 33 = .ok (.bipush 10, 2) := by decide +kernel
theorem d152_35 : decode (cm_M 152).2.2.1 35 = .ok (.iload_n 1, 1) := by decide +kernel
theorem d152_36 : decode (cm_M 152).2.2.1 36 = .ok (.imul, 1) := by decide +kernel
theorem d152_37 : decode (cm_M 152).2.2.1 37 = .ok (.iload_n 2, 1) := by decide +kernel
theorem d152_38 : decode (cm_M 152).2.2.1 38 = .ok (.iadd, 1) := by decide +kernel
theorem d152_39 : decode (cm_M 152).2.2.1 39 = .ok (.imul, 1) := by decide +kernel
theorem d152_40 : decode (cm_M 152).2.2.1 40 = .ok (.iload_n 3, 1) := by decide +kernel
theorem d152_41 : decode (cm_M 152).2.2.1 41 = .ok (.iadd, 1) := by decide +kernel
theorem d152_42 : decode (cm_M 152).2.2.1 42 = .ok (.istore 5, 2) := by decide +kernel
theorem d152_44 : decode (cm_M 152).2.2.1 44 = .ok (.iload 4, 2) := by decide +kernel
theorem d152_46 : decode (cm_M 152).2.2.1 46 = .ok (.ifCond .ne 13, 3) := by decide +kernel
theorem d152_49 : decode (cm_M 152).2.2.1 49 = .ok (.aload_n 0, 1) := by decide +kernel
theorem d152_50 : decode (cm_M 152).2.2.1 50 = .ok (.getfield 31, 3) := by decide +kernel
theorem d152_53 : decode (cm_M 152).2.2.1 53 = .ok (.iload 5, 2) := by decide +kernel
theorem d152_55 : decode (cm_M 152).2.2.1 55 = .ok (.iaload, 1) := by decide +kernel
theorem d152_56 : decode (cm_M 152).2.2.1 56 = .ok (.goto 10, 3) := by decide +kernel
theorem d152_59 : decode (cm_M 152).2.2.1 59 = .ok (.aload_n 0, 1) := by decide +kernel
theorem d152_60 : decode (cm_M 152).2.2.1 60 = .ok (.getfield 34, 3) := by decide +kernel
theorem d152_63 : decode (cm_M 152).2.2.1 63 = .ok (.iload 5, 2) := by decide +kernel
theorem d152_65 : decode (cm_M 152).2.2.1 65 = .ok (.iaload, 1) := by decide +kernel
theorem d152_66 : decode (cm_M 152).2.2.1 66 = .ok (.ireturn, 1) := by decide +kernel
theorem s152_0 {sc : cmS} {d : Nat} {h : cmH} {Q : Option Value → cmH → Prop} (L : LY h) (x1 : Int32) (x2 : Int32) (x3 : Int32) (x4 : Int32) (u5 : Option Value) (H : cm_ci sc d 151 [.ref 38, .int x1, .int x2] h (fun r h' => cm_wp sc (d + 1) 152 6 [some (.ref 38), some (.int x1), some (.int x2), some (.int x3), some (.int x4), u5] [.int r] h' Q)) : cm_wp sc (d + 1) 152 0 [some (.ref 38), some (.int x1), some (.int x2), some (.int x3), some (.int x4), u5] [] h Q :=
  wl_st d152_0 rfl rfl rfl rfl (wl_st d152_1 rfl rfl rfl rfl (wl_st d152_2 rfl rfl rfl rfl (wl_ci d152_3 rfl rfl rfl pm11_209 (by decide) (ca_v (Or.inl rfl) rfl (Nat.le_of_ble_eq_true rfl) (Nat.le_of_ble_eq_true rfl) (ly_k L 38 rfl).2 (ly_k L 38 rfl).1 (by decide)) H)))
theorem s152_6 {sc : cmS} {d : Nat} {h : cmH} {Q : Option Value → cmH → Prop} (x1 : Int32) (x2 : Int32) (x3 : Int32) (x4 : Int32) (u5 : Option Value) (sx0 : Int32) (H : (((sx0 = 0) → Q (some (.int (-1 : Int32))) h) ∧ (¬ (sx0 = 0) → cm_ci sc d 137 [.int x3, .int (0 : Int32), .int (7 : Int32)] h (fun r h' => cm_wp sc (d + 1) 152 16 [some (.ref 38), some (.int x1), some (.int x2), some (.int x3), some (.int x4), u5] [.int r] h' Q)))) : cm_wp sc (d + 1) 152 6 [some (.ref 38), some (.int x1), some (.int x2), some (.int x3), some (.int x4), u5] [.int sx0] h Q :=
  wl_cb (b := sx0 = 0) (off := 23) (tgt := 29) (pc3 := 9) (st' := []) d152_6 rfl rfl rfl rfl (by decide) rfl (fun c1 => wl_ic (v := (-1)) d152_29 rfl (wl_rt d152_30 rfl rfl rfl (H.1 c1))) (fun c1 => wl_st d152_9 rfl rfl rfl rfl (wl_ic (v := 0) d152_10 rfl (wl_bi (v := 7) d152_11 rfl (wl_ci d152_13 rfl rfl rfl pm11_161 (by decide) (ca_s (Or.inl rfl) rfl (Nat.le_of_ble_eq_true rfl) (Nat.le_of_ble_eq_true rfl)) (H.2 c1)))))
theorem s152_16 {sc : cmS} {d : Nat} {h : cmH} {Q : Option Value → cmH → Prop} (x1 : Int32) (x2 : Int32) (x3 : Int32) (x4 : Int32) (u5 : Option Value) (sx0 : Int32) (H : (((sx0 = 0) → Q (some (.int (-1 : Int32))) h) ∧ (¬ (sx0 = 0) → cm_ci sc d 137 [.int x4, .int (0 : Int32), .int (1 : Int32)] h (fun r h' => cm_wp sc (d + 1) 152 26 [some (.ref 38), some (.int x1), some (.int x2), some (.int x3), some (.int x4), u5] [.int r] h' Q)))) : cm_wp sc (d + 1) 152 16 [some (.ref 38), some (.int x1), some (.int x2), some (.int x3), some (.int x4), u5] [.int sx0] h Q :=
  wl_cb (b := sx0 = 0) (off := 13) (tgt := 29) (pc3 := 19) (st' := []) d152_16 rfl rfl rfl rfl (by decide) rfl (fun c1 => wl_ic (v := (-1)) d152_29 rfl (wl_rt d152_30 rfl rfl rfl (H.1 c1))) (fun c1 => wl_st d152_19 rfl rfl rfl rfl (wl_ic (v := 0) d152_21 rfl (wl_ic (v := 1) d152_22 rfl (wl_ci d152_23 rfl rfl rfl pm11_161 (by decide) (ca_s (Or.inl rfl) rfl (Nat.le_of_ble_eq_true rfl) (Nat.le_of_ble_eq_true rfl)) (H.2 c1)))))
theorem s152_26 {sc : cmS} {d : Nat} {h : cmH} {Q : Option Value → cmH → Prop} (L : LY h) (x1 : Int32) (x2 : Int32) (x3 : Int32) (x4 : Int32) (u5 : Option Value) (sx0 : Int32) (H : (((¬ sx0 = 0) → (((¬ x4 = 0) → (IX 720 (((8 : Int32) * (((10 : Int32) * x1) + x2)) + x3)) ∧ Q (some (.int (cm_I h 47 (((8 : Int32) * (((10 : Int32) * x1) + x2)) + x3).toNatClampNeg))) h) ∧ (¬ (¬ x4 = 0) → (IX 720 (((8 : Int32) * (((10 : Int32) * x1) + x2)) + x3)) ∧ Q (some (.int (cm_I h 46 (((8 : Int32) * (((10 : Int32) * x1) + x2)) + x3).toNatClampNeg))) h))) ∧ (¬ (¬ sx0 = 0) → Q (some (.int (-1 : Int32))) h))) : cm_wp sc d 152 26 [some (.ref 38), some (.int x1), some (.int x2), some (.int x3), some (.int x4), u5] [.int sx0] h Q :=
  wl_cb (b := ¬ sx0 = 0) (off := 5) (tgt := 31) (pc3 := 29) (st' := []) d152_26 rfl rfl rfl rfl (by decide) rfl (fun c1 => wl_bi (v := 8) d152_31 rfl (wl_bi (v := 10) d152_33 rfl (wl_st d152_35 rfl rfl rfl rfl (wl_st d152_36 rfl rfl rfl rfl (wl_st d152_37 rfl rfl rfl rfl (wl_st d152_38 rfl rfl rfl rfl (wl_st d152_39 rfl rfl rfl rfl (wl_st d152_40 rfl rfl rfl rfl (wl_st d152_41 rfl rfl rfl rfl (wl_st (ls' := [some (.ref 38), some (.int x1), some (.int x2), some (.int x3), some (.int x4), some (.int (((8 : Int32) * (((10 : Int32) * x1) + x2)) + x3))]) d152_42 rfl rfl rfl rfl (wl_st d152_44 rfl rfl rfl rfl (wl_cb (b := ¬ x4 = 0) (off := 13) (tgt := 59) (pc3 := 49) (st' := []) d152_46 rfl rfl rfl rfl (by decide) rfl (fun c2 => wl_st d152_59 rfl rfl rfl rfl (wl_gr (b := 47) d152_60 pf11_34 (ly_k L 38 rfl) rfl (ly_r L 38 10 rfl) (wl_st d152_63 rfl rfl rfl rfl (And.elim (fun g3 g3k => wl_if (g := cm_ok h 13 47 (((8 : Int32) * (((10 : Int32) * x1) + x2)) + x3)) (st' := [.int (cm_I h 47 (((8 : Int32) * (((10 : Int32) * x1) + x2)) + x3).toNatClampNeg)]) d152_65 rfl rfl rfl rfl (ly_o L 47 rfl g3) (wl_rt d152_66 rfl rfl rfl g3k)) ((H.1 c1).1 c2))))) (fun c2 => wl_st d152_49 rfl rfl rfl rfl (wl_gr (b := 46) d152_50 pf11_31 (ly_k L 38 rfl) rfl (ly_r L 38 9 rfl) (wl_st d152_53 rfl rfl rfl rfl (And.elim (fun g4 g4k => wl_if (g := cm_ok h 13 46 (((8 : Int32) * (((10 : Int32) * x1) + x2)) + x3)) (st' := [.int (cm_I h 46 (((8 : Int32) * (((10 : Int32) * x1) + x2)) + x3).toNatClampNeg)]) d152_55 rfl rfl rfl rfl (ly_o L 46 rfl g4) (wl_go (tgt := 66) d152_56 (by decide) (wl_rt d152_66 rfl rfl rfl g4k))) ((H.1 c1).2 c2))))))))))))))))) (fun c1 => wl_ic (v := (-1)) d152_29 rfl (wl_rt d152_30 rfl rfl rfl (H.2 c1)))
-- ClogHouseModel.told(II)I
theorem d153_0 : decode (cm_M 153).2.2.1 0 = .ok (.aload_n 0, 1) := by decide +kernel
theorem d153_1 : decode (cm_M 153).2.2.1 1 = .ok (.iload_n 1, 1) := by decide +kernel
theorem d153_2 : decode (cm_M 153).2.2.1 2 = .ok (.invokevirtual 168, 3) := by decide +kernel
theorem d153_5 : decode (cm_M 153).2.2.1 5 = .ok (.ifCond .ne 5, 3) := by decide +kernel
theorem d153_8 : decode (cm_M 153).2.2.1 8 = .ok (.iconst (-1), 1) := by decide +kernel
theorem d153_9 : decode (cm_M 153).2.2.1 9 = .ok (.ireturn, 1) := by decide +kernel
theorem d153_10 : decode (cm_M 153).2.2.1 10 = .ok (.iload_n 2, 1) := by decide +kernel
theorem d153_11 : decode (cm_M 153).2.2.1 11 = .ok (.tableswitch 110 0 8 #[49, 56, 63, 70, 76, 82, 89, 96, 103], 49) := by decide +kernel
theorem d153_60 : decode (cm_M 153).2.2.1 60 = .ok (.aload_n 0, 1) := by decide +kernel
theorem d153_61 : decode (cm_M 153).2.2.1 61 = .ok (.getfield 49, 3) := by decide +kernel
theorem d153_64 : decode (cm_M 153).2.2.1 64 = .ok (.iload_n 1, 1) := by decide +kernel
theorem d153_65 : decode (cm_M 153).2.2.1 65 = .ok (.iaload, 1) := by decide +kernel
theorem d153_66 : decode (cm_M 153).2.2.1 66 = .ok (.ireturn, 1) := by decide +kernel
theorem d153_67 : decode (cm_M 153).2.2.1 67 = .ok (.aload_n 0, 1) := by decide +kernel
theorem d153_68 : decode (cm_M 153).2.2.1 68 = .ok (.getfield 52, 3) := by decide +kernel
theorem d153_71 : decode (cm_M 153).2.2.1 71 = .ok (.iload_n 1, 1) := by decide +kernel
theorem d153_72 : decode (cm_M 153).2.2.1 72 = .ok (.iaload, 1) := by decide +kernel
theorem d153_73 : decode (cm_M 153).2.2.1 73 = .ok (.ireturn, 1) := by decide +kernel
theorem d153_74 : decode (cm_M 153).2.2.1 74 = .ok (.aload_n 0, 1) := by decide +kernel
theorem d153_75 : decode (cm_M 153).2.2.1 75 = .ok (.getfield 55, 3) := by decide +kernel
theorem d153_78 : decode (cm_M 153).2.2.1 78 = .ok (.iload_n 1, 1) := by decide +kernel
theorem d153_79 : decode (cm_M 153).2.2.1 79 = .ok (.iaload, 1) := by decide +kernel
theorem d153_80 : decode (cm_M 153).2.2.1 80 = .ok (.ireturn, 1) := by decide +kernel
theorem d153_81 : decode (cm_M 153).2.2.1 81 = .ok (.aload_n 0, 1) := by decide +kernel
theorem d153_82 : decode (cm_M 153).2.2.1 82 = .ok (.iload_n 1, 1) := by decide +kernel
theorem d153_83 : decode (cm_M 153).2.2.1 83 = .ok (.invokevirtual 195, 3) := by decide +kernel
theorem d153_86 : decode (cm_M 153).2.2.1 86 = .ok (.ireturn, 1) := by decide +kernel
theorem d153_87 : decode (cm_M 153).2.2.1 87 = .ok (.aload_n 0, 1) := by decide +kernel
theorem d153_88 : decode (cm_M 153).2.2.1 88 = .ok (.iload_n 1, 1) := by decide +kernel
theorem d153_89 : decode (cm_M 153).2.2.1 89 = .ok (.invokevirtual 192, 3) := by decide +kernel
theorem d153_92 : decode (cm_M 153).2.2.1 92 = .ok (.ireturn, 1) := by decide +kernel
theorem d153_93 : decode (cm_M 153).2.2.1 93 = .ok (.aload_n 0, 1) := by decide +kernel
theorem d153_94 : decode (cm_M 153).2.2.1 94 = .ok (.getfield 19, 3) := by decide +kernel
theorem d153_97 : decode (cm_M 153).2.2.1 97 = .ok (.iload_n 1, 1) := by decide +kernel
theorem d153_98 : decode (cm_M 153).2.2.1 98 = .ok (.iaload, 1) := by decide +kernel
theorem d153_99 : decode (cm_M 153).2.2.1 99 = .ok (.ireturn, 1) := by decide +kernel
theorem d153_100 : decode (cm_M 153).2.2.1 100 = .ok (.aload_n 0, 1) := by decide +kernel
theorem d153_101 : decode (cm_M 153).2.2.1 101 = .ok (.getfield 61, 3) := by decide +kernel
theorem d153_104 : decode (cm_M 153).2.2.1 104 = .ok (.iload_n 1, 1) := by decide +kernel
theorem d153_105 : decode (cm_M 153).2.2.1 105 = .ok (.iaload, 1) := by decide +kernel
theorem d153_106 : decode (cm_M 153).2.2.1 106 = .ok (.ireturn, 1) := by decide +kernel
theorem d153_107 : decode (cm_M 153).2.2.1 107 = .ok (.aload_n 0, 1) := by decide +kernel
theorem d153_108 : decode (cm_M 153).2.2.1 108 = .ok (.getfield 64, 3) := by decide +kernel
theorem d153_111 : decode (cm_M 153).2.2.1 111 = .ok (.iload_n 1, 1) := by decide +kernel
theorem d153_112 : decode (cm_M 153).2.2.1 112 = .ok (.iaload, 1) := by decide +kernel
theorem d153_113 : decode (cm_M 153).2.2.1 113 = .ok (.ireturn, 1) := by decide +kernel
theorem d153_114 : decode (cm_M 153).2.2.1 114 = .ok (.aload_n 0, 1) := by decide +kernel
theorem d153_115 : decode (cm_M 153).2.2.1 115 = .ok (.getfield 67, 3) := by decide +kernel
theorem d153_118 : decode (cm_M 153).2.2.1 118 = .ok (.iload_n 1, 1) := by decide +kernel
theorem d153_119 : decode (cm_M 153).2.2.1 119 = .ok (.iaload, 1) := by decide +kernel
theorem d153_120 : decode (cm_M 153).2.2.1 120 = .ok (.ireturn, 1) := by decide +kernel
theorem d153_121 : decode (cm_M 153).2.2.1 121 = .ok (.iconst (-1), 1) := by decide +kernel
theorem d153_122 : decode (cm_M 153).2.2.1 122 = .ok (.ireturn, 1) := by decide +kernel
theorem s153_0 {sc : cmS} {d : Nat} {h : cmH} {Q : Option Value → cmH → Prop} (L : LY h) (x1 : Int32) (x2 : Int32) (H : cm_ci sc d 140 [.ref 38, .int x1] h (fun r h' => cm_wp sc (d + 1) 153 5 [some (.ref 38), some (.int x1), some (.int x2)] [.int r] h' Q)) : cm_wp sc (d + 1) 153 0 [some (.ref 38), some (.int x1), some (.int x2)] [] h Q :=
  wl_st d153_0 rfl rfl rfl rfl (wl_st d153_1 rfl rfl rfl rfl (wl_ci d153_2 rfl rfl rfl pm11_168 (by decide) (ca_v (Or.inl rfl) rfl (Nat.le_of_ble_eq_true rfl) (Nat.le_of_ble_eq_true rfl) (ly_k L 38 rfl).2 (ly_k L 38 rfl).1 (by decide)) H))
theorem s153_5 {sc : cmS} {d : Nat} {h : cmH} {Q : Option Value → cmH → Prop} (L : LY h) (x1 : Int32) (x2 : Int32) (sx0 : Int32) (H : (((¬ sx0 = 0) → ((x2 = 0 → (IX 9 x1) ∧ Q (some (.int (cm_I h 52 x1.toNatClampNeg))) h) ∧ (x2 = 1 → (IX 9 x1) ∧ Q (some (.int (cm_I h 53 x1.toNatClampNeg))) h) ∧ (x2 = 2 → (IX 9 x1) ∧ Q (some (.int (cm_I h 54 x1.toNatClampNeg))) h) ∧ (x2 = 3 → cm_ci sc d 149 [.ref 38, .int x1] h (fun r h' => cm_wp sc (d + 1) 153 86 [some (.ref 38), some (.int x1), some (.int x2)] [.int r] h' Q)) ∧ (x2 = 4 → cm_ci sc d 144 [.ref 38, .int x1] h (fun r h' => cm_wp sc (d + 1) 153 92 [some (.ref 38), some (.int x1), some (.int x2)] [.int r] h' Q)) ∧ (x2 = 5 → (IX 9 x1) ∧ Q (some (.int (cm_I h 42 x1.toNatClampNeg))) h) ∧ (x2 = 6 → (IX 9 x1) ∧ Q (some (.int (cm_I h 56 x1.toNatClampNeg))) h) ∧ (x2 = 7 → (IX 9 x1) ∧ Q (some (.int (cm_I h 57 x1.toNatClampNeg))) h) ∧ (x2 = 8 → (IX 9 x1) ∧ Q (some (.int (cm_I h 58 x1.toNatClampNeg))) h) ∧ (¬ x2 = 0 → ¬ x2 = 1 → ¬ x2 = 2 → ¬ x2 = 3 → ¬ x2 = 4 → ¬ x2 = 5 → ¬ x2 = 6 → ¬ x2 = 7 → ¬ x2 = 8 → Q (some (.int (-1 : Int32))) h))) ∧ (¬ (¬ sx0 = 0) → Q (some (.int (-1 : Int32))) h))) : cm_wp sc (d + 1) 153 5 [some (.ref 38), some (.int x1), some (.int x2)] [.int sx0] h Q :=
  wl_cb (b := ¬ sx0 = 0) (off := 5) (tgt := 10) (pc3 := 8) (st' := []) d153_5 rfl rfl rfl rfl (by decide) rfl (fun c1 => wl_st d153_10 rfl rfl rfl rfl ((if c9 : x2 = 0 then wl_tsI (v := 0) (tgt := 60) d153_11 c9 rfl (by decide) (by decide) (by decide) (wl_st d153_60 rfl rfl rfl rfl (wl_gr (b := 52) d153_61 pf11_49 (ly_k L 38 rfl) rfl (ly_r L 38 15 rfl) (wl_st d153_64 rfl rfl rfl rfl (And.elim (fun g2 g2k => wl_if (g := cm_ok h 13 52 x1) (st' := [.int (cm_I h 52 x1.toNatClampNeg)]) d153_65 rfl rfl rfl rfl (ly_o L 52 rfl g2) (wl_rt d153_66 rfl rfl rfl g2k)) ((H.1 c1).1 c9))))) else (if c10 : x2 = 1 then wl_tsI (v := 1) (tgt := 67) d153_11 c10 rfl (by decide) (by decide) (by decide) (wl_st d153_67 rfl rfl rfl rfl (wl_gr (b := 53) d153_68 pf11_52 (ly_k L 38 rfl) rfl (ly_r L 38 16 rfl) (wl_st d153_71 rfl rfl rfl rfl (And.elim (fun g3 g3k => wl_if (g := cm_ok h 13 53 x1) (st' := [.int (cm_I h 53 x1.toNatClampNeg)]) d153_72 rfl rfl rfl rfl (ly_o L 53 rfl g3) (wl_rt d153_73 rfl rfl rfl g3k)) ((H.1 c1).2.1 c10))))) else (if c11 : x2 = 2 then wl_tsI (v := 2) (tgt := 74) d153_11 c11 rfl (by decide) (by decide) (by decide) (wl_st d153_74 rfl rfl rfl rfl (wl_gr (b := 54) d153_75 pf11_55 (ly_k L 38 rfl) rfl (ly_r L 38 17 rfl) (wl_st d153_78 rfl rfl rfl rfl (And.elim (fun g4 g4k => wl_if (g := cm_ok h 13 54 x1) (st' := [.int (cm_I h 54 x1.toNatClampNeg)]) d153_79 rfl rfl rfl rfl (ly_o L 54 rfl g4) (wl_rt d153_80 rfl rfl rfl g4k)) ((H.1 c1).2.2.1 c11))))) else (if c12 : x2 = 3 then wl_tsI (v := 3) (tgt := 81) d153_11 c12 rfl (by decide) (by decide) (by decide) (wl_st d153_81 rfl rfl rfl rfl (wl_st d153_82 rfl rfl rfl rfl (wl_ci d153_83 rfl rfl rfl pm11_195 (by decide) (ca_v (Or.inl rfl) rfl (Nat.le_of_ble_eq_true rfl) (Nat.le_of_ble_eq_true rfl) (ly_k L 38 rfl).2 (ly_k L 38 rfl).1 (by decide)) ((H.1 c1).2.2.2.1 c12)))) else (if c13 : x2 = 4 then wl_tsI (v := 4) (tgt := 87) d153_11 c13 rfl (by decide) (by decide) (by decide) (wl_st d153_87 rfl rfl rfl rfl (wl_st d153_88 rfl rfl rfl rfl (wl_ci d153_89 rfl rfl rfl pm11_192 (by decide) (ca_v (Or.inl rfl) rfl (Nat.le_of_ble_eq_true rfl) (Nat.le_of_ble_eq_true rfl) (ly_k L 38 rfl).2 (ly_k L 38 rfl).1 (by decide)) ((H.1 c1).2.2.2.2.1 c13)))) else (if c14 : x2 = 5 then wl_tsI (v := 5) (tgt := 93) d153_11 c14 rfl (by decide) (by decide) (by decide) (wl_st d153_93 rfl rfl rfl rfl (wl_gr (b := 42) d153_94 pf11_19 (ly_k L 38 rfl) rfl (ly_r L 38 5 rfl) (wl_st d153_97 rfl rfl rfl rfl (And.elim (fun g5 g5k => wl_if (g := cm_ok h 13 42 x1) (st' := [.int (cm_I h 42 x1.toNatClampNeg)]) d153_98 rfl rfl rfl rfl (ly_o L 42 rfl g5) (wl_rt d153_99 rfl rfl rfl g5k)) ((H.1 c1).2.2.2.2.2.1 c14))))) else (if c15 : x2 = 6 then wl_tsI (v := 6) (tgt := 100) d153_11 c15 rfl (by decide) (by decide) (by decide) (wl_st d153_100 rfl rfl rfl rfl (wl_gr (b := 56) d153_101 pf11_61 (ly_k L 38 rfl) rfl (ly_r L 38 19 rfl) (wl_st d153_104 rfl rfl rfl rfl (And.elim (fun g6 g6k => wl_if (g := cm_ok h 13 56 x1) (st' := [.int (cm_I h 56 x1.toNatClampNeg)]) d153_105 rfl rfl rfl rfl (ly_o L 56 rfl g6) (wl_rt d153_106 rfl rfl rfl g6k)) ((H.1 c1).2.2.2.2.2.2.1 c15))))) else (if c16 : x2 = 7 then wl_tsI (v := 7) (tgt := 107) d153_11 c16 rfl (by decide) (by decide) (by decide) (wl_st d153_107 rfl rfl rfl rfl (wl_gr (b := 57) d153_108 pf11_64 (ly_k L 38 rfl) rfl (ly_r L 38 20 rfl) (wl_st d153_111 rfl rfl rfl rfl (And.elim (fun g7 g7k => wl_if (g := cm_ok h 13 57 x1) (st' := [.int (cm_I h 57 x1.toNatClampNeg)]) d153_112 rfl rfl rfl rfl (ly_o L 57 rfl g7) (wl_rt d153_113 rfl rfl rfl g7k)) ((H.1 c1).2.2.2.2.2.2.2.1 c16))))) else (if c17 : x2 = 8 then wl_tsI (v := 8) (tgt := 114) d153_11 c17 rfl (by decide) (by decide) (by decide) (wl_st d153_114 rfl rfl rfl rfl (wl_gr (b := 58) d153_115 pf11_67 (ly_k L 38 rfl) rfl (ly_r L 38 21 rfl) (wl_st d153_118 rfl rfl rfl rfl (And.elim (fun g8 g8k => wl_if (g := cm_ok h 13 58 x1) (st' := [.int (cm_I h 58 x1.toNatClampNeg)]) d153_119 rfl rfl rfl rfl (ly_o L 58 rfl g8) (wl_rt d153_120 rfl rfl rfl g8k)) ((H.1 c1).2.2.2.2.2.2.2.2.1 c17))))) else wl_tsO (tgt := 121) d153_11 (by rcases (by omega : (x2).toInt < 0 ∨ 8 < (x2).toInt ∨ (x2).toInt = 0 ∨ (x2).toInt = 1 ∨ (x2).toInt = 2 ∨ (x2).toInt = 3 ∨ (x2).toInt = 4 ∨ (x2).toInt = 5 ∨ (x2).toInt = 6 ∨ (x2).toInt = 7 ∨ (x2).toInt = 8) with qq | qq | qq | qq | qq | qq | qq | qq | qq | qq | qq <;> first | exact Or.inl qq | exact Or.inr qq | exact absurd (Int32.toInt_inj.mp qq) c9 | exact absurd (Int32.toInt_inj.mp qq) c10 | exact absurd (Int32.toInt_inj.mp qq) c11 | exact absurd (Int32.toInt_inj.mp qq) c12 | exact absurd (Int32.toInt_inj.mp qq) c13 | exact absurd (Int32.toInt_inj.mp qq) c14 | exact absurd (Int32.toInt_inj.mp qq) c15 | exact absurd (Int32.toInt_inj.mp qq) c16 | exact absurd (Int32.toInt_inj.mp qq) c17) (by decide) (wl_ic (v := (-1)) d153_121 rfl (wl_rt d153_122 rfl rfl rfl ((H.1 c1).2.2.2.2.2.2.2.2.2 c9 c10 c11 c12 c13 c14 c15 c16 c17)))))))))))))) (fun c1 => wl_ic (v := (-1)) d153_8 rfl (wl_rt d153_9 rfl rfl rfl (H.2 c1)))
theorem s153_86 {sc : cmS} {d : Nat} {h : cmH} {Q : Option Value → cmH → Prop} (x1 : Int32) (x2 : Int32) (sx0 : Int32) (H : Q (some (.int sx0)) h) : cm_wp sc d 153 86 [some (.ref 38), some (.int x1), some (.int x2)] [.int sx0] h Q :=
  wl_rt d153_86 rfl rfl rfl H
theorem s153_92 {sc : cmS} {d : Nat} {h : cmH} {Q : Option Value → cmH → Prop} (x1 : Int32) (x2 : Int32) (sx0 : Int32) (H : Q (some (.int sx0)) h) : cm_wp sc d 153 92 [some (.ref 38), some (.int x1), some (.int x2)] [.int sx0] h Q :=
  wl_rt d153_92 rfl rfl rfl H
-- ClogHouseModel.feed(IIIII)I
theorem d154_0 : decode (cm_M 154).2.2.1 0 = .ok (.iconst 0, 1) := by decide +kernel
theorem d154_1 : decode (cm_M 154).2.2.1 1 = .ok (.istore 6, 2) := by decide +kernel
theorem d154_3 : decode (cm_M 154).2.2.1 3 = .ok (.iconst 0, 1) := by decide +kernel
theorem d154_4 : decode (cm_M 154).2.2.1 4 = .ok (.istore 7, 2) := by decide +kernel
theorem d154_6 : decode (cm_M 154).2.2.1 6 = .ok (.iload 7, 2) := by decide +kernel
theorem d154_8 : decode (cm_M 154).2.2.1 8 = .ok (.bipush 20, 2) := by decide +kernel
theorem d154_10 : decode (cm_M 154).2.2.1 10 = .ok (.if_icmp .ge 34, 3) := by decide +kernel
theorem d154_13 : decode (cm_M 154).2.2.1 13 = .ok (.iload 6, 2) := by decide +kernel
theorem d154_15 : decode (cm_M 154).2.2.1 15 = .ok (.iload_n 1, 1) := by decide +kernel
theorem d154_16 : decode (cm_M 154).2.2.1 16 = .ok (.iload_n 2, 1) := by decide +kernel
theorem d154_17 : decode (cm_M 154).2.2.1 17 = .ok (.iload_n 3, 1) := by decide +kernel
theorem d154_18 : decode (cm_M 154).2.2.1 18 = .ok (.iload 4, 2) := by decide +kernel
theorem d154_20 : decode (cm_M 154).2.2.1 20 = .ok (.iload 5, 2) := by decide +kernel
theorem d154_22 : decode (cm_M 154).2.2.1 22 = .ok (.iload 7, 2) := by decide +kernel
theorem d154_24 : decode (cm_M 154).2.2.1 24 = .ok (.invokestatic 213, 3) := by decide +kernel
theorem d154_27 : decode (cm_M 154).2.2.1 27 = .ok (.ifCond .eq 7, 3) := by decide +kernel
theorem d154_30 : decode (cm_M 154).2.2.1 30 = .ok (.iconst 1, 1) := by decide +kernel
theorem d154_31 : decode (cm_M 154).2.2.1 31 = .ok (.goto 4, 3) := by decide +kernel
theorem d154_34 : decode (cm_M 154).2.2.1 34 = .ok (.iconst 0, 1) := by decide +kernel
theorem d154_35 : decode (cm_M 154).2.2.1 35 = .ok (.iadd, 1) := by decide +kernel
theorem d154_36 : decode (cm_M 154).2.2.1 36 = .ok (.istore 6, 2) := by decide +kernel
theorem d154_38 : decode (cm_M 154).2.2.1 38 = .ok (.iinc 7 1, 3) := by decide +kernel
theorem d154_41 : decode (cm_M 154).2.2.1 41 = .ok (.goto (-35), 3) := by decide +kernel
theorem d154_44 : decode (cm_M 154).2.2.1 44 = .ok (.aload_n 0, 1) := by decide +kernel
theorem d154_45 : decode (cm_M 154).2.2.1 45 = .ok (.getfield 217, 3) := by decide +kernel
theorem d154_48 : decode (cm_M 154).2.2.1 48 = .ok (.iload 6, 2) := by decide +kernel
theorem d154_50 : decode (cm_M 154).2.2.1 50 = .ok (.iadd, 1) := by decide +kernel
theorem d154_51 : decode (cm_M 154).2.2.1 51 = .ok (.sipush 160, 3) := by decide +kernel
theorem d154_54 : decode (cm_M 154).2.2.1 54 = .ok (.if_icmp .le 5, 3) := by decide +kernel
theorem d154_57 : decode (cm_M 154).2.2.1 57 = .ok (.iconst (-1), 1) := by decide +kernel
theorem d154_58 : decode (cm_M 154).2.2.1 58 = .ok (.ireturn, 1) := by decide +kernel
theorem d154_59 : decode (cm_M 154).2.2.1 59 = .ok (.iconst 0, 1) := by decide +kernel
theorem d154_60 : decode (cm_M 154).2.2.1 60 = .ok (.istore 7, 2) := by decide +kernel
theorem d154_62 : decode (cm_M 154).2.2.1 62 = .ok (.iload 7, 2) := by decide +kernel
theorem d154_64 : decode (cm_M 154).2.2.1 64 = .ok (.bipush 20, 2) := by decide +kernel
theorem d154_66 : decode (cm_M 154).2.2.1 66 = .ok (.if_icmp .ge 49, 3) := by decide +kernel
theorem d154_69 : decode (cm_M 154).2.2.1 69 = .ok (.iload_n 1, 1) := by decide +kernel
theorem d154_70 : decode (cm_M 154).2.2.1 70 = .ok (.iload_n 2, 1) := by decide +kernel
theorem d154_71 : decode (cm_M 154).2.2.1 71 = .ok (.iload_n 3, 1) := by decide +kernel
theorem d154_72 : decode (cm_M 154).2.2.1 72 = .ok (.iload 4, 2) := by decide +kernel
theorem d154_74 : decode (cm_M 154).2.2.1 74 = .ok (.iload 5, 2) := by decide +kernel
theorem d154_76 : decode (cm_M 154).2.2.1 76 = .ok (.iload 7, 2) := by decide +kernel
theorem d154_78 : decode (cm_M 154).2.2.1 78 = .ok (.invokestatic 213, 3) := by decide +kernel
theorem d154_81 : decode (cm_M 154).2.2.1 81 = .ok (.istore 8, 2) := by decide +kernel
theorem d154_83 : decode (cm_M 154).2.2.1 83 = .ok (.iload 8, 2) := by decide +kernel
theorem d154_85 : decode (cm_M 154).2.2.1 85 = .ok (.ifCond .eq 24, 3) := by decide +kernel
theorem d154_88 : decode (cm_M 154).2.2.1 88 = .ok (.aload_n 0, 1) := by decide +kernel
theorem d154_89 : decode (cm_M 154).2.2.1 89 = .ok (.getfield 77, 3) := by decide +kernel
theorem d154_92 : decode (cm_M 154).2.2.1 92 = .ok (.aload_n 0, 1) := by decide +kernel
theorem d154_93 : decode (cm_M 154).2.2.1 93 = .ok (.getfield 217, 3) := by decide +kernel
theorem d154_96 : decode (cm_M 154).2.2.1 96 = .ok (.iload 8, 2) := by decide +kernel
theorem d154_98 : decode (cm_M 154).2.2.1 98 = .ok (.iastore, 1) := by decide +kernel
theorem d154_99 : decode (cm_M 154).2.2.1 99 = .ok (.aload_n 0, 1) := by decide +kernel
theorem d154_100 : decode (cm_M 154).2.2.1 100 = .ok (.dup, 1) := by decide +kernel
theorem d154_101 : decode (cm_M 154).2.2.1 101 = .ok (.getfield 217, 3) := by decide +kernel
theorem d154_104 : decode (cm_M 154).2.2.1 104 = .ok (.iconst 1, 1) := by decide +kernel
theorem d154_105 : decode (cm_M 154).2.2.1 105 = .ok (.iadd, 1) := by decide +kernel
theorem d154_106 : decode (cm_M 154).2.2.1 106 = .ok (.putfield 217, 3) := by decide +kernel
theorem d154_109 : decode (cm_M 154).2.2.1 109 = .ok (.iinc 7 1, 3) := by decide +kernel
theorem d154_112 : decode (cm_M 154).2.2.1 112 = .ok (.goto (-50), 3) := by decide +kernel
theorem d154_115 : decode (cm_M 154).2.2.1 115 = .ok (.aload_n 0, 1) := by decide +kernel
theorem d154_116 : decode (cm_M 154).2.2.1 116 = .ok (.getfield 217, 3) := by decide +kernel
theorem d154_119 : decode (cm_M 154).2.2.1 119 = .ok (.ireturn, 1) := by decide +kernel
theorem s154_0 {sc : cmS} {d : Nat} {h : cmH} {Q : Option Value → cmH → Prop} (x1 : Int32) (x2 : Int32) (x3 : Int32) (x4 : Int32) (x5 : Int32) (u6 : Option Value) (u7 : Option Value) (u8 : Option Value) (H : cm_wp sc d 154 6 [some (.ref 38), some (.int x1), some (.int x2), some (.int x3), some (.int x4), some (.int x5), some (.int (0 : Int32)), some (.int (0 : Int32)), u8] [] h Q) : cm_wp sc d 154 0 [some (.ref 38), some (.int x1), some (.int x2), some (.int x3), some (.int x4), some (.int x5), u6, u7, u8] [] h Q :=
  wl_ic (v := 0) d154_0 rfl (wl_st (ls' := [some (.ref 38), some (.int x1), some (.int x2), some (.int x3), some (.int x4), some (.int x5), some (.int (0 : Int32)), u7, u8]) d154_1 rfl rfl rfl rfl (wl_ic (v := 0) d154_3 rfl (wl_st (ls' := [some (.ref 38), some (.int x1), some (.int x2), some (.int x3), some (.int x4), some (.int x5), some (.int (0 : Int32)), some (.int (0 : Int32)), u8]) d154_4 rfl rfl rfl rfl (H))))
theorem s154_6 {sc : cmS} {d : Nat} {h : cmH} {Q : Option Value → cmH → Prop} (L : LY h) (x1 : Int32) (x2 : Int32) (x3 : Int32) (x4 : Int32) (x5 : Int32) (x6 : Int32) (x7 : Int32) (u8 : Option Value) (H : ((((20 : Int32) ≤ x7) → (((((cm_I h 38 29) + x6) ≤ (160 : Int32)) → cm_wp sc (d + 1) 154 62 [some (.ref 38), some (.int x1), some (.int x2), some (.int x3), some (.int x4), some (.int x5), some (.int x6), some (.int (0 : Int32)), u8] [] h Q) ∧ (¬ (((cm_I h 38 29) + x6) ≤ (160 : Int32)) → Q (some (.int (-1 : Int32))) h))) ∧ (¬ ((20 : Int32) ≤ x7) → cm_ci sc d 155 [.int x1, .int x2, .int x3, .int x4, .int x5, .int x7] h (fun r h' => cm_wp sc (d + 1) 154 27 [some (.ref 38), some (.int x1), some (.int x2), some (.int x3), some (.int x4), some (.int x5), some (.int x6), some (.int x7), u8] [.int r, .int x6] h' Q)))) : cm_wp sc (d + 1) 154 6 [some (.ref 38), some (.int x1), some (.int x2), some (.int x3), some (.int x4), some (.int x5), some (.int x6), some (.int x7), u8] [] h Q :=
  wl_st d154_6 rfl rfl rfl rfl (wl_bi (v := 20) d154_8 rfl (wl_cb (b := (20 : Int32) ≤ x7) (off := 34) (tgt := 44) (pc3 := 13) (st' := []) d154_10 rfl rfl rfl rfl (by decide) rfl (fun c1 => wl_st d154_44 rfl rfl rfl rfl (wl_gf (v := .int (cm_I h 38 29)) d154_45 pf11_217 (ly_k L 38 rfl) rfl (wl_st d154_48 rfl rfl rfl rfl (wl_st d154_50 rfl rfl rfl rfl (wl_si (v := 160) d154_51 rfl (wl_cb (b := ((cm_I h 38 29) + x6) ≤ (160 : Int32)) (off := 5) (tgt := 59) (pc3 := 57) (st' := []) d154_54 rfl rfl rfl rfl (by decide) rfl (fun c2 => wl_ic (v := 0) d154_59 rfl (wl_st (ls' := [some (.ref 38), some (.int x1), some (.int x2), some (.int x3), some (.int x4), some (.int x5), some (.int x6), some (.int (0 : Int32)), u8]) d154_60 rfl rfl rfl rfl (((H.1 c1).1 c2)))) (fun c2 => wl_ic (v := (-1)) d154_57 rfl (wl_rt d154_58 rfl rfl rfl ((H.1 c1).2 c2))))))))) (fun c1 => wl_st d154_13 rfl rfl rfl rfl (wl_st d154_15 rfl rfl rfl rfl (wl_st d154_16 rfl rfl rfl rfl (wl_st d154_17 rfl rfl rfl rfl (wl_st d154_18 rfl rfl rfl rfl (wl_st d154_20 rfl rfl rfl rfl (wl_st d154_22 rfl rfl rfl rfl (wl_ci d154_24 rfl rfl rfl pm11_213 (by decide) (ca_s (Or.inl rfl) rfl (Nat.le_of_ble_eq_true rfl) (Nat.le_of_ble_eq_true rfl)) (H.2 c1)))))))))))
theorem s154_27 {sc : cmS} {d : Nat} {h : cmH} {Q : Option Value → cmH → Prop} (x1 : Int32) (x2 : Int32) (x3 : Int32) (x4 : Int32) (x5 : Int32) (x6 : Int32) (x7 : Int32) (u8 : Option Value) (sx0 : Int32) (sx1 : Int32) (H : (((sx0 = 0) → cm_wp sc d 154 35 [some (.ref 38), some (.int x1), some (.int x2), some (.int x3), some (.int x4), some (.int x5), some (.int x6), some (.int x7), u8] [.int (0 : Int32), .int sx1] h Q) ∧ (¬ (sx0 = 0) → cm_wp sc d 154 35 [some (.ref 38), some (.int x1), some (.int x2), some (.int x3), some (.int x4), some (.int x5), some (.int x6), some (.int x7), u8] [.int (1 : Int32), .int sx1] h Q))) : cm_wp sc d 154 27 [some (.ref 38), some (.int x1), some (.int x2), some (.int x3), some (.int x4), some (.int x5), some (.int x6), some (.int x7), u8] [.int sx0, .int sx1] h Q :=
  wl_cb (b := sx0 = 0) (off := 7) (tgt := 34) (pc3 := 30) (st' := [.int sx1]) d154_27 rfl rfl rfl rfl (by decide) rfl (fun c1 => wl_ic (v := 0) d154_34 rfl ((H.1 c1))) (fun c1 => wl_ic (v := 1) d154_30 rfl (wl_go (tgt := 35) d154_31 (by decide) ((H.2 c1))))
theorem s154_35 {sc : cmS} {d : Nat} {h : cmH} {Q : Option Value → cmH → Prop} (x1 : Int32) (x2 : Int32) (x3 : Int32) (x4 : Int32) (x5 : Int32) (x6 : Int32) (x7 : Int32) (u8 : Option Value) (sx0 : Int32) (sx1 : Int32) (H : cm_wp sc d 154 6 [some (.ref 38), some (.int x1), some (.int x2), some (.int x3), some (.int x4), some (.int x5), some (.int (sx1 + sx0)), some (.int (x7 + 1)), u8] [] h Q) : cm_wp sc d 154 35 [some (.ref 38), some (.int x1), some (.int x2), some (.int x3), some (.int x4), some (.int x5), some (.int x6), some (.int x7), u8] [.int sx0, .int sx1] h Q :=
  wl_st d154_35 rfl rfl rfl rfl (wl_st (ls' := [some (.ref 38), some (.int x1), some (.int x2), some (.int x3), some (.int x4), some (.int x5), some (.int (sx1 + sx0)), some (.int x7), u8]) d154_36 rfl rfl rfl rfl (wl_st (ls' := [some (.ref 38), some (.int x1), some (.int x2), some (.int x3), some (.int x4), some (.int x5), some (.int (sx1 + sx0)), some (.int (x7 + 1)), u8]) d154_38 rfl rfl rfl rfl (wl_go (tgt := 6) d154_41 (by decide) (H))))
theorem s154_62 {sc : cmS} {d : Nat} {h : cmH} {Q : Option Value → cmH → Prop} (L : LY h) (x1 : Int32) (x2 : Int32) (x3 : Int32) (x4 : Int32) (x5 : Int32) (x6 : Int32) (x7 : Int32) (u8 : Option Value) (H : ((((20 : Int32) ≤ x7) → Q (some (.int (cm_I h 38 29))) h) ∧ (¬ ((20 : Int32) ≤ x7) → cm_ci sc d 155 [.int x1, .int x2, .int x3, .int x4, .int x5, .int x7] h (fun r h' => cm_wp sc (d + 1) 154 81 [some (.ref 38), some (.int x1), some (.int x2), some (.int x3), some (.int x4), some (.int x5), some (.int x6), some (.int x7), u8] [.int r] h' Q)))) : cm_wp sc (d + 1) 154 62 [some (.ref 38), some (.int x1), some (.int x2), some (.int x3), some (.int x4), some (.int x5), some (.int x6), some (.int x7), u8] [] h Q :=
  wl_st d154_62 rfl rfl rfl rfl (wl_bi (v := 20) d154_64 rfl (wl_cb (b := (20 : Int32) ≤ x7) (off := 49) (tgt := 115) (pc3 := 69) (st' := []) d154_66 rfl rfl rfl rfl (by decide) rfl (fun c1 => wl_st d154_115 rfl rfl rfl rfl (wl_gf (v := .int (cm_I h 38 29)) d154_116 pf11_217 (ly_k L 38 rfl) rfl (wl_rt d154_119 rfl rfl rfl (H.1 c1)))) (fun c1 => wl_st d154_69 rfl rfl rfl rfl (wl_st d154_70 rfl rfl rfl rfl (wl_st d154_71 rfl rfl rfl rfl (wl_st d154_72 rfl rfl rfl rfl (wl_st d154_74 rfl rfl rfl rfl (wl_st d154_76 rfl rfl rfl rfl (wl_ci d154_78 rfl rfl rfl pm11_213 (by decide) (ca_s (Or.inl rfl) rfl (Nat.le_of_ble_eq_true rfl) (Nat.le_of_ble_eq_true rfl)) (H.2 c1))))))))))
theorem s154_81 {sc : cmS} {d : Nat} {h : cmH} {Q : Option Value → cmH → Prop} (L : LY h) (x1 : Int32) (x2 : Int32) (x3 : Int32) (x4 : Int32) (x5 : Int32) (x6 : Int32) (x7 : Int32) (u8 : Option Value) (sx0 : Int32) (H : (((sx0 = 0) → cm_wp sc d 154 109 [some (.ref 38), some (.int x1), some (.int x2), some (.int x3), some (.int x4), some (.int x5), some (.int x6), some (.int x7), some (.int sx0)] [] h Q) ∧ (¬ (sx0 = 0) → (IX 160 (cm_I h 38 29)) ∧ cm_wp sc d 154 109 [some (.ref 38), some (.int x1), some (.int x2), some (.int x3), some (.int x4), some (.int x5), some (.int x6), some (.int x7), some (.int sx0)] [] (cm_setI (cm_setI h 61 (cm_I h 38 29).toNatClampNeg sx0) 38 29 ((cm_I h 38 29) + (1 : Int32))) Q))) : cm_wp sc d 154 81 [some (.ref 38), some (.int x1), some (.int x2), some (.int x3), some (.int x4), some (.int x5), some (.int x6), some (.int x7), u8] [.int sx0] h Q :=
  wl_st (ls' := [some (.ref 38), some (.int x1), some (.int x2), some (.int x3), some (.int x4), some (.int x5), some (.int x6), some (.int x7), some (.int sx0)]) d154_81 rfl rfl rfl rfl (wl_st d154_83 rfl rfl rfl rfl (wl_cb (b := sx0 = 0) (off := 24) (tgt := 109) (pc3 := 88) (st' := []) d154_85 rfl rfl rfl rfl (by decide) rfl (fun c1 => (H.1 c1)) (fun c1 => wl_st d154_88 rfl rfl rfl rfl (wl_gr (b := 61) d154_89 pf11_77 (ly_k L 38 rfl) rfl (ly_r L 38 25 rfl) (wl_st d154_92 rfl rfl rfl rfl (wl_gf (v := .int (cm_I h 38 29)) d154_93 pf11_217 (ly_k L 38 rfl) rfl (wl_st d154_96 rfl rfl rfl rfl (And.elim (fun g2 g2k => wl_if (h' := (cm_setI h 61 (cm_I h 38 29).toNatClampNeg sx0)) d154_98 rfl rfl rfl rfl (ly_o L 61 rfl g2) (wl_st d154_99 rfl rfl rfl rfl (wl_st d154_100 rfl rfl rfl rfl (wl_gf (v := .int (cm_I h 38 29)) d154_101 pf11_217 (ly_k L 38 rfl) rfl (wl_ic (v := 1) d154_104 rfl (wl_st d154_105 rfl rfl rfl rfl (wl_pf (h' := (cm_setI (cm_setI h 61 (cm_I h 38 29).toNatClampNeg sx0) 38 29 ((cm_I h 38 29) + (1 : Int32)))) d154_106 pf11_217 (ly_k L 38 rfl) (Or.inl rfl) rfl (g2k)))))))) (H.2 c1)))))))))
theorem s154_109 {sc : cmS} {d : Nat} {h : cmH} {Q : Option Value → cmH → Prop} (x1 : Int32) (x2 : Int32) (x3 : Int32) (x4 : Int32) (x5 : Int32) (x6 : Int32) (x7 : Int32) (x8 : Int32) (H : cm_wp sc d 154 62 [some (.ref 38), some (.int x1), some (.int x2), some (.int x3), some (.int x4), some (.int x5), some (.int x6), some (.int (x7 + 1)), some (.int x8)] [] h Q) : cm_wp sc d 154 109 [some (.ref 38), some (.int x1), some (.int x2), some (.int x3), some (.int x4), some (.int x5), some (.int x6), some (.int x7), some (.int x8)] [] h Q :=
  wl_st (ls' := [some (.ref 38), some (.int x1), some (.int x2), some (.int x3), some (.int x4), some (.int x5), some (.int x6), some (.int (x7 + 1)), some (.int x8)]) d154_109 rfl rfl rfl rfl (wl_go (tgt := 62) d154_112 (by decide) (H))
-- ClogHouseModel.byteOf(IIIIII)I
theorem d155_0 : decode (cm_M 155).2.2.1 0 = .ok (.iload 5, 2) := by decide +kernel
theorem d155_2 : decode (cm_M 155).2.2.1 2 = .ok (.iconst 4, 1) := by decide +kernel
theorem d155_3 : decode (cm_M 155).2.2.1 3 = .ok (.if_icmp .ge 7, 3) := by decide +kernel
theorem d155_6 : decode (cm_M 155).2.2.1 6 = .ok (.iload_n 0, 1) := by decide +kernel
theorem d155_7 : decode (cm_M 155).2.2.1 7 = .ok (.goto 38, 3) := by decide +kernel
theorem d155_10 : decode (cm_M 155).2.2.1 10 = .ok (.iload 5, 2) := by decide +kernel
theorem d155_12 : decode (cm_M 155).2.2.1 12 = .ok (.bipush 8, 2) := by decide +kernel
theorem d155_14 : decode (cm_M 155).2.2.1 14 = .ok (.if_icmp .ge 7, 3) := by decide +kernel
theorem d155_17 : decode (cm_M 155).2.2.1 17 = .ok (.iload_n 1, 1) := by decide +kernel
theorem d155_18 : decode (cm_M 155).2.2.1 18 = .ok (.goto 27, 3) := by decide +kernel
theorem d155_21 : decode (cm_M 155).2.2.1 21 = .ok (.iload 5, 2) := by decide +kernel
theorem d155_23 : decode (cm_M 155).2.2.1 23 = .ok (.bipush 12, 2) := by decide +kernel
theorem d155_25 : decode (cm_M 155).2.2.1 25 = .ok (.if_icmp .ge 7, 3) := by decide +kernel
theorem d155_28 : decode (cm_M 155).2.2.1 28 = .ok (.iload_n 2, 1) := by decide +kernel
theorem d155_29 : decode (cm_M 155).2.2.1 29 = .ok (.goto 16, 3) := by decide +kernel
theorem d155_32 : decode (cm_M 155).2.2.1 32 = .ok (.iload 5, 2) := by decide +kernel
theorem d155_34 : decode (cm_M 155).2.2.1 34 = .ok (.bipush 16, 2) := by decide +kernel
theorem d155_36 : decode (cm_M 155).2.2.1 36 = .ok (.if_icmp .ge 7, 3) := by decide +kernel
theorem d155_39 : decode (cm_M 155).2.2.1 39 = .ok (.iload_n 3, 1) := by decide +kernel
theorem d155_40 : decode (cm_M 155).2.2.1 40 = .ok (.goto 5, 3) := by decide +kernel
theorem d155_43 : decode (cm_M 155).2.2.1 43 = .ok (.iload 4, 2) := by decide +kernel
theorem d155_45 : decode (cm_M 155).2.2.1 45 = .ok (.istore 6, 2) := by decide +kernel
theorem d155_47 : decode (cm_M 155).2.2.1 47 = .ok (.iload 6, 2) := by decide +kernel
theorem d155_49 : decode (cm_M 155).2.2.1 49 = .ok (.bipush 24, 2) := by decide +kernel
theorem d155_51 : decode (cm_M 155).2.2.1 51 = .ok (.bipush 8, 2) := by decide +kernel
theorem d155_53 : decode (cm_M 155).2.2.1 53 = .ok (.iload 5, 2) := by decide +kernel
theorem d155_55 : decode (cm_M 155).2.2.1 55 = .ok (.iconst 4, 1) := by decide +kernel
theorem d155_56 : decode (cm_M 155).2.2.1 56 = .ok (.irem, 1) := by decide +kernel
theorem d155_57 : decode (cm_M 155).2.2.1 57 = .ok (.imul, 1) := by decide +kernel
theorem d155_58 : decode (cm_M 155).2.2.1 58 = .ok (.isub, 1) := by decide +kernel
theorem d155_59 : decode (cm_M 155).2.2.1 59 = .ok (.ishr, 1) := by decide +kernel
theorem d155_60 : decode (cm_M 155).2.2.1 60 = .ok (.sipush 255, 3) := by decide +kernel
theorem d155_63 : decode (cm_M 155).2.2.1 63 = .ok (.iand, 1) := by decide +kernel
theorem d155_64 : decode (cm_M 155).2.2.1 64 = .ok (.ireturn, 1) := by decide +kernel
theorem s155_0 {sc : cmS} {d : Nat} {h : cmH} {Q : Option Value → cmH → Prop} (x0 : Int32) (x1 : Int32) (x2 : Int32) (x3 : Int32) (x4 : Int32) (x5 : Int32) (u6 : Option Value) (H : ((((4 : Int32) ≤ x5) → ((((8 : Int32) ≤ x5) → ((((12 : Int32) ≤ x5) → ((((16 : Int32) ≤ x5) → cm_wp sc d 155 45 [some (.int x0), some (.int x1), some (.int x2), some (.int x3), some (.int x4), some (.int x5), u6] [.int x4] h Q) ∧ (¬ ((16 : Int32) ≤ x5) → cm_wp sc d 155 45 [some (.int x0), some (.int x1), some (.int x2), some (.int x3), some (.int x4), some (.int x5), u6] [.int x3] h Q))) ∧ (¬ ((12 : Int32) ≤ x5) → cm_wp sc d 155 45 [some (.int x0), some (.int x1), some (.int x2), some (.int x3), some (.int x4), some (.int x5), u6] [.int x2] h Q))) ∧ (¬ ((8 : Int32) ≤ x5) → cm_wp sc d 155 45 [some (.int x0), some (.int x1), some (.int x2), some (.int x3), some (.int x4), some (.int x5), u6] [.int x1] h Q))) ∧ (¬ ((4 : Int32) ≤ x5) → cm_wp sc d 155 45 [some (.int x0), some (.int x1), some (.int x2), some (.int x3), some (.int x4), some (.int x5), u6] [.int x0] h Q))) : cm_wp sc d 155 0 [some (.int x0), some (.int x1), some (.int x2), some (.int x3), some (.int x4), some (.int x5), u6] [] h Q :=
  wl_st d155_0 rfl rfl rfl rfl (wl_ic (v := 4) d155_2 rfl (wl_cb (b := (4 : Int32) ≤ x5) (off := 7) (tgt := 10) (pc3 := 6) (st' := []) d155_3 rfl rfl rfl rfl (by decide) rfl (fun c1 => wl_st d155_10 rfl rfl rfl rfl (wl_bi (v := 8) d155_12 rfl (wl_cb (b := (8 : Int32) ≤ x5) (off := 7) (tgt := 21) (pc3 := 17) (st' := []) d155_14 rfl rfl rfl rfl (by decide) rfl (fun c2 => wl_st d155_21 rfl rfl rfl rfl (wl_bi (v := 12) d155_23 rfl (wl_cb (b := (12 : Int32) ≤ x5) (off := 7) (tgt := 32) (pc3 := 28) (st' := []) d155_25 rfl rfl rfl rfl (by decide) rfl (fun c3 => wl_st d155_32 rfl rfl rfl rfl (wl_bi (v := 16) d155_34 rfl (wl_cb (b := (16 : Int32) ≤ x5) (off := 7) (tgt := 43) (pc3 := 39) (st' := []) d155_36 rfl rfl rfl rfl (by decide) rfl (fun c4 => wl_st d155_43 rfl rfl rfl rfl (((((H.1 c1).1 c2).1 c3).1 c4))) (fun c4 => wl_st d155_39 rfl rfl rfl rfl (wl_go (tgt := 45) d155_40 (by decide) (((((H.1 c1).1 c2).1 c3).2 c4))))))) (fun c3 => wl_st d155_28 rfl rfl rfl rfl (wl_go (tgt := 45) d155_29 (by decide) ((((H.1 c1).1 c2).2 c3))))))) (fun c2 => wl_st d155_17 rfl rfl rfl rfl (wl_go (tgt := 45) d155_18 (by decide) (((H.1 c1).2 c2))))))) (fun c1 => wl_st d155_6 rfl rfl rfl rfl (wl_go (tgt := 45) d155_7 (by decide) ((H.2 c1))))))
theorem s155_45 {sc : cmS} {d : Nat} {h : cmH} {Q : Option Value → cmH → Prop} (x0 : Int32) (x1 : Int32) (x2 : Int32) (x3 : Int32) (x4 : Int32) (x5 : Int32) (u6 : Option Value) (sx0 : Int32) (H : Q (some (.int ((sx0 >>> (((24 : Int32) - ((8 : Int32) * (x5 - x5 / (4 : Int32) * (4 : Int32)))) &&& 31)) &&& (255 : Int32)))) h) : cm_wp sc d 155 45 [some (.int x0), some (.int x1), some (.int x2), some (.int x3), some (.int x4), some (.int x5), u6] [.int sx0] h Q :=
  wl_st (ls' := [some (.int x0), some (.int x1), some (.int x2), some (.int x3), some (.int x4), some (.int x5), some (.int sx0)]) d155_45 rfl rfl rfl rfl (wl_st d155_47 rfl rfl rfl rfl (wl_bi (v := 24) d155_49 rfl (wl_bi (v := 8) d155_51 rfl (wl_st d155_53 rfl rfl rfl rfl (wl_ic (v := 4) d155_55 rfl (wl_ne (g := (4 : Int32) = 0) d155_56 rfl rfl rfl rfl (by decide) (wl_st d155_57 rfl rfl rfl rfl (wl_st d155_58 rfl rfl rfl rfl (wl_st d155_59 rfl rfl rfl rfl (wl_si (v := 255) d155_60 rfl (wl_st d155_63 rfl rfl rfl rfl (wl_rt d155_64 rfl rfl rfl H))))))))))))
-- ClogHouseModel.end(I)Z
theorem d156_0 : decode (cm_M 156).2.2.1 0 = .ok (.iload_n 1, 1) := by decide +kernel
theorem d156_1 : decode (cm_M 156).2.2.1 1 = .ok (.ifCond .lt 11, 3) := by decide +kernel
theorem d156_4 : decode (cm_M 156).2.2.1 4 = .ok (.iload_n 1, 1) := by decide +kernel
theorem d156_5 : decode (cm_M 156).2.2.1 5 = .ok (.aload_n 0, 1) := by decide +kernel
theorem d156_6 : decode (cm_M 156).2.2.1 6 = .ok (.getfield 217, 3) := by decide +kernel
theorem d156_9 : decode (cm_M 156).2.2.1 9 = .ok (.if_icmp .le 5, 3) := by decide +kernel
theorem d156_12 : decode (cm_M 156).2.2.1 12 = .ok (.iconst 0, 1) := by decide +kernel
theorem d156_13 : decode (cm_M 156).2.2.1 13 = .ok (.ireturn, 1) := by decide +kernel
theorem d156_14 : decode (cm_M 156).2.2.1 14 = .ok (.aload_n 0, 1) := by decide +kernel
theorem d156_15 : decode (cm_M 156).2.2.1 15 = .ok (.iload_n 1, 1) := by decide +kernel
theorem d156_16 : decode (cm_M 156).2.2.1 16 = .ok (.putfield 217, 3) := by decide +kernel
theorem d156_19 : decode (cm_M 156).2.2.1 19 = .ok (.iconst 1, 1) := by decide +kernel
theorem d156_20 : decode (cm_M 156).2.2.1 20 = .ok (.ireturn, 1) := by decide +kernel
theorem s156_0 {sc : cmS} {d : Nat} {h : cmH} {Q : Option Value → cmH → Prop} (L : LY h) (x1 : Int32) (H : (((x1 < 0) → Q (some (.int (0 : Int32))) h) ∧ (¬ (x1 < 0) → (((x1 ≤ (cm_I h 38 29)) → Q (some (.int (1 : Int32))) (cm_setI h 38 29 x1)) ∧ (¬ (x1 ≤ (cm_I h 38 29)) → Q (some (.int (0 : Int32))) h))))) : cm_wp sc d 156 0 [some (.ref 38), some (.int x1)] [] h Q :=
  wl_st d156_0 rfl rfl rfl rfl (wl_cb (b := x1 < 0) (off := 11) (tgt := 12) (pc3 := 4) (st' := []) d156_1 rfl rfl rfl rfl (by decide) rfl (fun c1 => wl_ic (v := 0) d156_12 rfl (wl_rz d156_13 rfl (by decide) (H.1 c1))) (fun c1 => wl_st d156_4 rfl rfl rfl rfl (wl_st d156_5 rfl rfl rfl rfl (wl_gf (v := .int (cm_I h 38 29)) d156_6 pf11_217 (ly_k L 38 rfl) rfl (wl_cb (b := x1 ≤ (cm_I h 38 29)) (off := 5) (tgt := 14) (pc3 := 12) (st' := []) d156_9 rfl rfl rfl rfl (by decide) rfl (fun c2 => wl_st d156_14 rfl rfl rfl rfl (wl_st d156_15 rfl rfl rfl rfl (wl_pf (h' := (cm_setI h 38 29 x1)) d156_16 pf11_217 (ly_k L 38 rfl) (Or.inl rfl) rfl (wl_ic (v := 1) d156_19 rfl (wl_rz d156_20 rfl (by decide) ((H.2 c1).1 c2)))))) (fun c2 => wl_ic (v := 0) d156_12 rfl (wl_rz d156_13 rfl (by decide) ((H.2 c1).2 c2))))))))
