-- ClogHouseModel.worthBy(II)I
theorem d179_0 : decode (cm_M 179).2.2.1 0 = .ok (.aload_n 0, 1) := by decide +kernel
theorem d179_1 : decode (cm_M 179).2.2.1 1 = .ok (.sipush 420, 3) := by decide +kernel
theorem d179_4 : decode (cm_M 179).2.2.1 4 = .ok (.iload_n 1, 1) := by decide +kernel
theorem d179_5 : decode (cm_M 179).2.2.1 5 = .ok (.imul, 1) := by decide +kernel
theorem d179_6 : decode (cm_M 179).2.2.1 6 = .ok (.putfield 307, 3) := by decide +kernel
theorem d179_9 : decode (cm_M 179).2.2.1 9 = .ok (.aload_n 0, 1) := by decide +kernel
theorem d179_10 : decode (cm_M 179).2.2.1 10 = .ok (.getfield 307, 3) := by decide +kernel
theorem d179_13 : decode (cm_M 179).2.2.1 13 = .ok (.sipush 420, 3) := by decide +kernel
theorem d179_16 : decode (cm_M 179).2.2.1 16 = .ok (.iload_n 1, 1) := by decide +kernel
theorem d179_17 : decode (cm_M 179).2.2.1 17 = .ok (.imul, 1) := by decide +kernel
theorem d179_18 : decode (cm_M 179).2.2.1 18 = .ok (.aload_n 0, 1) := by decide +kernel
theorem d179_19 : decode (cm_M 179).2.2.1 19 = .ok (.getfield 86, 3) := by decide +kernel
theorem d179_22 : decode (cm_M 179).2.2.1 22 = .ok (.iload_n 1, 1) := by decide +kernel
theorem d179_23 : decode (cm_M 179).2.2.1 23 = .ok (.iaload, 1) := by decide +kernel
theorem d179_24 : decode (cm_M 179).2.2.1 24 = .ok (.iadd, 1) := by decide +kernel
theorem d179_25 : decode (cm_M 179).2.2.1 25 = .ok (.if_icmp .ge 67, 3) := by decide +kernel
theorem d179_28 : decode (cm_M 179).2.2.1 28 = .ok (.aload_n 0, 1) := by decide +kernel
theorem d179_29 : decode (cm_M 179).2.2.1 29 = .ok (.getfield 83, 3) := by decide +kernel
theorem d179_32 : decode (cm_M 179).2.2.1 32 = .ok (.aload_n 0, 1) := by decide +kernel
theorem d179_33 : decode (cm_M 179).2.2.1 33 = .ok (.getfield 307, 3) := by decide +kernel
theorem d179_36 : decode (cm_M 179).2.2.1 36 = .ok (.iaload, 1) := by decide +kernel
theorem d179_37 : decode (cm_M 179).2.2.1 37 = .ok (.iload_n 2, 1) := by decide +kernel
theorem d179_38 : decode (cm_M 179).2.2.1 38 = .ok (.if_icmp .ne 7, 3) := by decide +kernel
theorem d179_41 : decode (cm_M 179).2.2.1 41 = .ok (.iconst 1, 1) := by decide +kernel
theorem d179_42 : decode (cm_M 179).2.2.1 42 = .ok (.goto 4, 3) := by decide +kernel
theorem d179_45 : decode (cm_M 179).2.2.1 45 = .ok (.iconst 0, 1) := by decide +kernel
theorem d179_46 : decode (cm_M 179).2.2.1 46 = .ok (.istore_n 3, 1) := by decide +kernel
theorem d179_47 : decode (cm_M 179).2.2.1 47 = .ok (.aload_n 0, 1) := by decide +kernel
theorem d179_48 : decode (cm_M 179).2.2.1 48 = .ok (.dup, 1) := by decide +kernel
theorem d179_49 : decode (cm_M 179).2.2.1 49 = .ok (.getfield 307, 3) := by decide +kernel
theorem d179_52 : decode (cm_M 179).2.2.1 52 = .ok (.iconst 1, 1) := by decide +kernel
theorem d179_53 : decode (cm_M 179).2.2.1 53 = .ok (.iadd, 1) := by decide +kernel
theorem d179_54 : decode (cm_M 179).2.2.1 54 = .ok (.putfield 307, 3) := by decide +kernel
theorem d179_57 : decode (cm_M 179).2.2.1 57 = .ok (.aload_n 0, 1) := by decide +kernel
theorem d179_58 : decode (cm_M 179).2.2.1 58 = .ok (.invokevirtual 313, 3) := by decide +kernel
theorem d179_61 : decode (cm_M 179).2.2.1 61 = .ok (.ifCond .eq 7, 3) := by decide +kernel
theorem d179_64 : decode (cm_M 179).2.2.1 64 = .ok (.iconst 1, 1) := by decide +kernel
theorem d179_65 : decode (cm_M 179).2.2.1 65 = .ok (.goto 4, 3) := by decide +kernel
theorem d179_68 : decode (cm_M 179).2.2.1 68 = .ok (.iconst 0, 1) := by decide +kernel
theorem d179_69 : decode (cm_M 179).2.2.1 69 = .ok (.istore 4, 2) := by decide +kernel
theorem d179_71 : decode (cm_M 179).2.2.1 71 = .ok (.aload_n 0, 1) := by decide +kernel
theorem d179_72 : decode (cm_M 179).2.2.1 72 = .ok (.invokevirtual 313, 3) := by decide +kernel
theorem d179_75 : decode (cm_M 179).2.2.1 75 = .ok (.istore 5, 2) := by decide +kernel
theorem d179_77 : decode (cm_M 179).2.2.1 77 = .ok (.iload_n 3, 1) := by decide +kernel
theorem d179_78 : decode (cm_M 179).2.2.1 78 = .ok (.ifCond .eq 11, 3) := by decide +kernel
theorem d179_81 : decode (cm_M 179).2.2.1 81 = .ok (.iload 4, 2) := by decide +kernel
theorem d179_83 : decode (cm_M 179).2.2.1 83 = .ok (.ifCond .eq 6, 3) := by decide +kernel
theorem d179_86 : decode (cm_M 179).2.2.1 86 = .ok (.iload 5, 2) := by decide +kernel
theorem d179_88 : decode (cm_M 179).2.2.1 88 = .ok (.ireturn, 1) := by decide +kernel
theorem d179_89 : decode (cm_M 179).2.2.1 89 = .ok (.goto (-80), 3) := by decide +kernel
theorem d179_92 : decode (cm_M 179).2.2.1 92 = .ok (.iconst 0, 1) := by decide +kernel
theorem d179_93 : decode (cm_M 179).2.2.1 93 = .ok (.ireturn, 1) := by decide +kernel
theorem s179_0 {sc : cmS} {d : Nat} {h : cmH} {Q : Option Value → cmH → Prop} (L : LY h) (x1 : Int32) (x2 : Int32) (u3 : Option Value) (u4 : Option Value) (u5 : Option Value) (H : cm_wp sc d 179 9 [some (.ref 38), some (.int x1), some (.int x2), u3, u4, u5] [] (cm_setI h 38 37 ((420 : Int32) * x1)) Q) : cm_wp sc d 179 0 [some (.ref 38), some (.int x1), some (.int x2), u3, u4, u5] [] h Q :=
  wl_st d179_0 rfl rfl rfl rfl (wl_si (v := 420) d179_1 rfl (wl_st d179_4 rfl rfl rfl rfl (wl_st d179_5 rfl rfl rfl rfl (wl_pf (h' := (cm_setI h 38 37 ((420 : Int32) * x1))) d179_6 pf11_307 (ly_k L 38 rfl) (Or.inl rfl) rfl (H)))))
theorem s179_9 {sc : cmS} {d : Nat} {h : cmH} {Q : Option Value → cmH → Prop} (L : LY h) (x1 : Int32) (x2 : Int32) (u3 : Option Value) (u4 : Option Value) (u5 : Option Value) (H : (IX 12 x1) ∧ ((((((420 : Int32) * x1) + (cm_I h 64 x1.toNatClampNeg)) ≤ (cm_I h 38 37)) → Q (some (.int (0 : Int32))) h) ∧ (¬ ((((420 : Int32) * x1) + (cm_I h 64 x1.toNatClampNeg)) ≤ (cm_I h 38 37)) → (IX 5040 (cm_I h 38 37)) ∧ (((¬ (cm_I h 63 (cm_I h 38 37).toNatClampNeg) = x2) → cm_wp sc d 179 46 [some (.ref 38), some (.int x1), some (.int x2), u3, u4, u5] [.int (0 : Int32)] h Q) ∧ (¬ (¬ (cm_I h 63 (cm_I h 38 37).toNatClampNeg) = x2) → cm_wp sc d 179 46 [some (.ref 38), some (.int x1), some (.int x2), u3, u4, u5] [.int (1 : Int32)] h Q))))) : cm_wp sc d 179 9 [some (.ref 38), some (.int x1), some (.int x2), u3, u4, u5] [] h Q :=
  wl_st d179_9 rfl rfl rfl rfl (wl_gf (v := .int (cm_I h 38 37)) d179_10 pf11_307 (ly_k L 38 rfl) rfl (wl_si (v := 420) d179_13 rfl (wl_st d179_16 rfl rfl rfl rfl (wl_st d179_17 rfl rfl rfl rfl (wl_st d179_18 rfl rfl rfl rfl (wl_gr (b := 64) d179_19 pf11_86 (ly_k L 38 rfl) rfl (ly_r L 38 28 rfl) (wl_st d179_22 rfl rfl rfl rfl (And.elim (fun g1 g1k => wl_if (g := cm_ok h 13 64 x1) (st' := [.int (cm_I h 64 x1.toNatClampNeg), .int ((420 : Int32) * x1), .int (cm_I h 38 37)]) d179_23 rfl rfl rfl rfl (ly_o L 64 rfl g1) (wl_st d179_24 rfl rfl rfl rfl (wl_cb (b := (((420 : Int32) * x1) + (cm_I h 64 x1.toNatClampNeg)) ≤ (cm_I h 38 37)) (off := 67) (tgt := 92) (pc3 := 28) (st' := []) d179_25 rfl rfl rfl rfl (by decide) rfl (fun c2 => wl_ic (v := 0) d179_92 rfl (wl_rt d179_93 rfl rfl rfl (g1k.1 c2))) (fun c2 => wl_st d179_28 rfl rfl rfl rfl (wl_gr (b := 63) d179_29 pf11_83 (ly_k L 38 rfl) rfl (ly_r L 38 27 rfl) (wl_st d179_32 rfl rfl rfl rfl (wl_gf (v := .int (cm_I h 38 37)) d179_33 pf11_307 (ly_k L 38 rfl) rfl (And.elim (fun g3 g3k => wl_if (g := cm_ok h 13 63 (cm_I h 38 37)) (st' := [.int (cm_I h 63 (cm_I h 38 37).toNatClampNeg)]) d179_36 rfl rfl rfl rfl (ly_o L 63 rfl g3) (wl_st d179_37 rfl rfl rfl rfl (wl_cb (b := ¬ (cm_I h 63 (cm_I h 38 37).toNatClampNeg) = x2) (off := 7) (tgt := 45) (pc3 := 41) (st' := []) d179_38 rfl rfl rfl rfl (by decide) rfl (fun c4 => wl_ic (v := 0) d179_45 rfl ((g3k.1 c4))) (fun c4 => wl_ic (v := 1) d179_41 rfl (wl_go (tgt := 46) d179_42 (by decide) ((g3k.2 c4))))))) (g1k.2 c2))))))))) H))))))))
theorem s179_46 {sc : cmS} {d : Nat} {h : cmH} {Q : Option Value → cmH → Prop} (L : LY h) (x1 : Int32) (x2 : Int32) (u3 : Option Value) (u4 : Option Value) (u5 : Option Value) (sx0 : Int32) (H : cm_ci sc d 180 [.ref 38] (cm_setI h 38 37 ((cm_I h 38 37) + (1 : Int32))) (fun r h' => cm_wp sc (d + 1) 179 61 [some (.ref 38), some (.int x1), some (.int x2), some (.int sx0), u4, u5] [.int r] h' Q)) : cm_wp sc (d + 1) 179 46 [some (.ref 38), some (.int x1), some (.int x2), u3, u4, u5] [.int sx0] h Q :=
  wl_st (ls' := [some (.ref 38), some (.int x1), some (.int x2), some (.int sx0), u4, u5]) d179_46 rfl rfl rfl rfl (wl_st d179_47 rfl rfl rfl rfl (wl_st d179_48 rfl rfl rfl rfl (wl_gf (v := .int (cm_I h 38 37)) d179_49 pf11_307 (ly_k L 38 rfl) rfl (wl_ic (v := 1) d179_52 rfl (wl_st d179_53 rfl rfl rfl rfl (wl_pf (h' := (cm_setI h 38 37 ((cm_I h 38 37) + (1 : Int32)))) d179_54 pf11_307 (ly_k L 38 rfl) (Or.inl rfl) rfl (wl_st d179_57 rfl rfl rfl rfl (wl_ci d179_58 rfl rfl rfl pm11_313 (by decide) (ca_v (Or.inl rfl) rfl (Nat.le_of_ble_eq_true rfl) (Nat.le_of_ble_eq_true rfl) (ly_k L 38 rfl).2 (ly_k L 38 rfl).1 (by decide)) H))))))))
theorem s179_61 {sc : cmS} {d : Nat} {h : cmH} {Q : Option Value → cmH → Prop} (x1 : Int32) (x2 : Int32) (x3 : Int32) (u4 : Option Value) (u5 : Option Value) (sx0 : Int32) (H : (((sx0 = 0) → cm_wp sc d 179 69 [some (.ref 38), some (.int x1), some (.int x2), some (.int x3), u4, u5] [.int (0 : Int32)] h Q) ∧ (¬ (sx0 = 0) → cm_wp sc d 179 69 [some (.ref 38), some (.int x1), some (.int x2), some (.int x3), u4, u5] [.int (1 : Int32)] h Q))) : cm_wp sc d 179 61 [some (.ref 38), some (.int x1), some (.int x2), some (.int x3), u4, u5] [.int sx0] h Q :=
  wl_cb (b := sx0 = 0) (off := 7) (tgt := 68) (pc3 := 64) (st' := []) d179_61 rfl rfl rfl rfl (by decide) rfl (fun c1 => wl_ic (v := 0) d179_68 rfl ((H.1 c1))) (fun c1 => wl_ic (v := 1) d179_64 rfl (wl_go (tgt := 69) d179_65 (by decide) ((H.2 c1))))
theorem s179_69 {sc : cmS} {d : Nat} {h : cmH} {Q : Option Value → cmH → Prop} (L : LY h) (x1 : Int32) (x2 : Int32) (x3 : Int32) (u4 : Option Value) (u5 : Option Value) (sx0 : Int32) (H : cm_ci sc d 180 [.ref 38] h (fun r h' => cm_wp sc (d + 1) 179 75 [some (.ref 38), some (.int x1), some (.int x2), some (.int x3), some (.int sx0), u5] [.int r] h' Q)) : cm_wp sc (d + 1) 179 69 [some (.ref 38), some (.int x1), some (.int x2), some (.int x3), u4, u5] [.int sx0] h Q :=
  wl_st (ls' := [some (.ref 38), some (.int x1), some (.int x2), some (.int x3), some (.int sx0), u5]) d179_69 rfl rfl rfl rfl (wl_st d179_71 rfl rfl rfl rfl (wl_ci d179_72 rfl rfl rfl pm11_313 (by decide) (ca_v (Or.inl rfl) rfl (Nat.le_of_ble_eq_true rfl) (Nat.le_of_ble_eq_true rfl) (ly_k L 38 rfl).2 (ly_k L 38 rfl).1 (by decide)) H))
theorem s179_75 {sc : cmS} {d : Nat} {h : cmH} {Q : Option Value → cmH → Prop} (x1 : Int32) (x2 : Int32) (x3 : Int32) (x4 : Int32) (u5 : Option Value) (sx0 : Int32) (H : (((x3 = 0) → cm_wp sc d 179 89 [some (.ref 38), some (.int x1), some (.int x2), some (.int x3), some (.int x4), some (.int sx0)] [] h Q) ∧ (¬ (x3 = 0) → (((x4 = 0) → cm_wp sc d 179 89 [some (.ref 38), some (.int x1), some (.int x2), some (.int x3), some (.int x4), some (.int sx0)] [] h Q) ∧ (¬ (x4 = 0) → Q (some (.int sx0)) h))))) : cm_wp sc d 179 75 [some (.ref 38), some (.int x1), some (.int x2), some (.int x3), some (.int x4), u5] [.int sx0] h Q :=
  wl_st (ls' := [some (.ref 38), some (.int x1), some (.int x2), some (.int x3), some (.int x4), some (.int sx0)]) d179_75 rfl rfl rfl rfl (wl_st d179_77 rfl rfl rfl rfl (wl_cb (b := x3 = 0) (off := 11) (tgt := 89) (pc3 := 81) (st' := []) d179_78 rfl rfl rfl rfl (by decide) rfl (fun c1 => (H.1 c1)) (fun c1 => wl_st d179_81 rfl rfl rfl rfl (wl_cb (b := x4 = 0) (off := 6) (tgt := 89) (pc3 := 86) (st' := []) d179_83 rfl rfl rfl rfl (by decide) rfl (fun c2 => ((H.2 c1).1 c2)) (fun c2 => wl_st d179_86 rfl rfl rfl rfl (wl_rt d179_88 rfl rfl rfl ((H.2 c1).2 c2)))))))
theorem s179_89 {sc : cmS} {d : Nat} {h : cmH} {Q : Option Value → cmH → Prop} (x1 : Int32) (x2 : Int32) (x3 : Int32) (x4 : Int32) (x5 : Int32) (H : cm_wp sc d 179 9 [some (.ref 38), some (.int x1), some (.int x2), some (.int x3), some (.int x4), some (.int x5)] [] h Q) : cm_wp sc d 179 89 [some (.ref 38), some (.int x1), some (.int x2), some (.int x3), some (.int x4), some (.int x5)] [] h Q :=
  wl_go (tgt := 9) d179_89 (by decide) (H)
-- ClogHouseModel.work()I
theorem d180_0 : decode (cm_M 180).2.2.1 0 = .ok (.iconst 0, 1) := by decide +kernel
theorem d180_1 : decode (cm_M 180).2.2.1 1 = .ok (.istore_n 1, 1) := by decide +kernel
theorem d180_2 : decode (cm_M 180).2.2.1 2 = .ok (.aload_n 0, 1) := by decide +kernel
theorem d180_3 : decode (cm_M 180).2.2.1 3 = .ok (.getfield 83, 3) := by decide +kernel
theorem d180_6 : decode (cm_M 180).2.2.1 6 = .ok (.aload_n 0, 1) := by decide +kernel
theorem d180_7 : decode (cm_M 180).2.2.1 7 = .ok (.getfield 307, 3) := by decide +kernel
theorem d180_10 : decode (cm_M 180).2.2.1 10 = .ok (.iaload, 1) := by decide +kernel
theorem d180_11 : decode (cm_M 180).2.2.1 11 = .ok (.iconst 2, 1) := by decide +kernel
theorem d180_12 : decode (cm_M 180).2.2.1 12 = .ok (.if_icmp .eq 162, 3) := by decide +kernel
theorem d180_15 : decode (cm_M 180).2.2.1 15 = .ok (.aload_n 0, 1) := by decide +kernel
theorem d180_16 : decode (cm_M 180).2.2.1 16 = .ok (.getfield 83, 3) := by decide +kernel
theorem d180_19 : decode (cm_M 180).2.2.1 19 = .ok (.aload_n 0, 1) := by decide +kernel
theorem d180_20 : decode (cm_M 180).2.2.1 20 = .ok (.getfield 307, 3) := by decide +kernel
theorem d180_23 : decode (cm_M 180).2.2.1 23 = .ok (.iaload, 1) := by decide +kernel
theorem d180_24 : decode (cm_M 180).2.2.1 24 = .ok (.iconst 3, 1) := by decide +kernel
theorem d180_25 : decode (cm_M 180).2.2.1 25 = .ok (.if_icmp .eq 149, 3) := by decide +kernel
theorem d180_28 : decode (cm_M 180).2.2.1 28 = .ok (.aload_n 0, 1) := by decide +kernel
theorem d180_29 : decode (cm_M 180).2.2.1 29 = .ok (.getfield 83, 3) := by decide +kernel
theorem d180_32 : decode (cm_M 180).2.2.1 32 = .ok (.aload_n 0, 1) := by decide +kernel
theorem d180_33 : decode (cm_M 180).2.2.1 33 = .ok (.getfield 307, 3) := by decide +kernel
theorem d180_36 : decode (cm_M 180).2.2.1 36 = .ok (.iaload, 1) := by decide +kernel
theorem d180_37 : decode (cm_M 180).2.2.1 37 = .ok (.istore_n 2, 1) := by decide +kernel
theorem d180_38 : decode (cm_M 180).2.2.1 38 = .ok (.aload_n 0, 1) := by decide +kernel
theorem d180_39 : decode (cm_M 180).2.2.1 39 = .ok (.dup, 1) := by decide +kernel
theorem d180_40 : decode (cm_M 180).2.2.1 40 = .ok (.getfield 307, 3) := by decide +kernel
theorem d180_43 : decode (cm_M 180).2.2.1 43 = .ok (.iconst 1, 1) := by decide +kernel
theorem d180_44 : decode (cm_M 180).2.2.1 44 = .ok (.iadd, 1) := by decide +kernel
theorem d180_45 : decode (cm_M 180).2.2.1 45 = .ok (.putfield 307, 3) := by decide +kernel
theorem d180_48 : decode (cm_M 180).2.2.1 48 = .ok (.iload_n 2, 1) := by decide +kernel
theorem d180_49 : decode (cm_M 180).2.2.1 49 = .ok (.ifCond .eq 8, 3) := by decide +kernel
theorem d180_52 : decode (cm_M 180).2.2.1 52 = .ok (.iload_n 2, 1) := by decide +kernel
theorem d180_53 : decode (cm_M 180).2.2.1 53 = .ok (.iconst 1, 1) := by decide +kernel
theorem d180_54 : decode (cm_M 180).2.2.1 54 = .ok (.if_icmp .ne 55, 3) := by decide +kernel
theorem d180_57 : decode (cm_M 180).2.2.1 57 = .ok (.aload_n 0, 1) := by decide +kernel
theorem d180_58 : decode (cm_M 180).2.2.1 58 = .ok (.getfield 92, 3) := by decide +kernel
theorem d180_61 : decode (cm_M 180).2.2.1 61 = .ok (.iload_n 1, 1) := by decide +kernel
theorem d180_62 : decode (cm_M 180).2.2.1 62 = .ok (.iload_n 2, 1) := by decide +kernel
theorem d180_63 : decode (cm_M 180).2.2.1 63 = .ok (.ifCond .ne 15, 3) := by decide +kernel
theorem d180_66 : decode (cm_M 180).2.2.1 66 = .ok (.aload_n 0, 1) := by decide +kernel
theorem d180_67 : decode (cm_M 180).2.2.1 67 = .ok (.getfield 83, 3) := by decide +kernel
theorem d180_70 : decode (cm_M 180).2.2.1 70 = .ok (.aload_n 0, 1) := by decide +kernel
theorem d180_71 : decode (cm_M 180).2.2.1 71 = .ok (.getfield 307, 3) := by decide +kernel
theorem d180_74 : decode (cm_M 180).2.2.1 74 = .ok (.iaload, 1) := by decide +kernel
theorem d180_75 : decode (cm_M 180).2.2.1 75 = .ok (.goto 17, 3) := by decide +kernel
theorem d180_78 : decode (cm_M 180).2.2.1 78 = .ok (.aload_n 0, 1) := by decide +kernel
theorem d180_79 : decode (cm_M 180).2.2.1 79 = .ok (.getfield 89, 3) := by decide +kernel
theorem d180_82 : decode (cm_M 180).2.2.1 82 = .ok (.aload_n 0, 1) := by decide +kernel
theorem d180_83 : decode (cm_M 180).2.2.1 83 = .ok (.getfield 83, 3) := by decide +kernel
theorem d180_86 : decode (cm_M 180).2.2.1 86 = .ok (.aload_n 0, 1) := by decide +kernel
theorem d180_87 : decode (cm_M 180).2.2.1 87 = .ok (.getfield 307, 3) := by decide +kernel
theorem d180_90 : decode (cm_M 180).2.2.1 90 = .ok (.iaload, 1) := by decide +kernel
theorem d180_91 : decode (cm_M 180).2.2.1 91 = .ok (.iaload, 1) := by decide +kernel
theorem d180_92 : decode (cm_M 180).2.2.1 92 = .ok (.iastore, 1) := by decide +kernel
theorem d180_93 : decode (cm_M 180).2.2.1 93 = .ok (.aload_n 0, 1) := by decide +kernel
theorem d180_94 : decode (cm_M 180).2.2.1 94 = .ok (.dup, 1) := by decide +kernel
theorem d180_95 : decode (cm_M 180).2.2.1 95 = .ok (.getfield 307, 3) := by decide +kernel
theorem d180_98 : decode (cm_M 180).2.2.1 98 = .ok (.iconst 1, 1) := by decide +kernel
theorem d180_99 : decode (cm_M 180).2.2.1 99 = .ok (.iadd, 1) := by decide +kernel
theorem d180_100 : decode (cm_M 180).2.2.1 100 = .ok (.putfield 307, 3) := by decide +kernel
theorem d180_103 : decode (cm_M 180).2.2.1 103 = .ok (.iinc 1 1, 3) := by decide +kernel
theorem d180_106 : decode (cm_M 180).2.2.1 106 = .ok (.goto 65, 3) := by decide +kernel
theorem d180_109 : decode (cm_M 180).2.2.1 109 = .ok (.iload_n 2, 1) := by decide +kernel
theorem d180_110 : decode (cm_M 180).2.2.1 110 = .ok (.bipush 33, 2) := by decide +kernel
theorem d180_112 : decode (cm_M 180).2.2.1 112 = .ok (.if_icmp .ne 30, 3) := by decide +kernel
theorem d180_115 : decode (cm_M 180).2.2.1 115 = .ok (.aload_n 0, 1) := by decide +kernel
theorem d180_116 : decode (cm_M 180).2.2.1 116 = .ok (.getfield 92, 3) := by decide +kernel
theorem d180_119 : decode (cm_M 180).2.2.1 119 = .ok (.iload_n 1, 1) := by decide +kernel
theorem d180_120 : decode (cm_M 180).2.2.1 120 = .ok (.iconst 1, 1) := by decide +kernel
theorem d180_121 : decode (cm_M 180).2.2.1 121 = .ok (.isub, 1) := by decide +kernel
theorem d180_122 : decode (cm_M 180).2.2.1 122 = .ok (.aload_n 0, 1) := by decide +kernel
theorem d180_123 : decode (cm_M 180).2.2.1 123 = .ok (.getfield 92, 3) := by decide +kernel
theorem d180_126 : decode (cm_M 180).2.2.1 126 = .ok (.iload_n 1, 1) := by decide +kernel
theorem d180_127 : decode (cm_M 180).2.2.1 127 = .ok (.iconst 1, 1) := by decide +kernel
theorem d180_128 : decode (cm_M 180).2.2.1 128 = .ok (.isub, 1) := by decide +kernel
theorem d180_129 : decode (cm_M 180).2.2.1 129 = .ok (.iaload, 1) := by decide +kernel
theorem d180_130 : decode (cm_M 180).2.2.1 130 = .ok (.ifCond .ne 7, 3) := by decide +kernel
theorem d180_133 : decode (cm_M 180).2.2.1 133 = .ok (.iconst 1, 1) := by decide +kernel
theorem d180_134 : decode (cm_M 180).2.2.1 134 = .ok (.goto 4, 3) := by decide +kernel
theorem d180_137 : decode (cm_M 180).2.2.1 137 = .ok (.iconst 0, 1) := by decide +kernel
theorem d180_138 : decode (cm_M 180).2.2.1 138 = .ok (.iastore, 1) := by decide +kernel
theorem d180_139 : decode (cm_M 180).2.2.1 139 = .ok (.goto 32, 3) := by decide +kernel
theorem d180_142 : decode (cm_M 180).2.2.1 142 = .ok (.iinc 1 (-1), 3) := by decide +kernel
theorem d180_145 : decode (cm_M 180).2.2.1 145 = .ok (.aload_n 0, 1) := by decide +kernel
theorem d180_146 : decode (cm_M 180).2.2.1 146 = .ok (.getfield 92, 3) := by decide +kernel
theorem d180_149 : decode (cm_M 180).2.2.1 149 = .ok (.iload_n 1, 1) := by decide +kernel
theorem d180_150 : decode (cm_M 180).2.2.1 150 = .ok (.iconst 1, 1) := by decide +kernel
theorem d180_151 : decode (cm_M 180).2.2.1 151 = .ok (.isub, 1) := by decide +kernel
theorem d180_152 : decode (cm_M 180).2.2.1 152 = .ok (.iload_n 2, 1) := by decide +kernel
theorem d180_153 : decode (cm_M 180).2.2.1 153 = .ok (.aload_n 0, 1) := by decide +kernel
theorem d180_154 : decode (cm_M 180).2.2.1 154 = .ok (.getfield 92, 3) := by decide +kernel
theorem d180_157 : decode (cm_M 180).2.2.1 157 = .ok (.iload_n 1, 1) := by decide +kernel
theorem d180_158 : decode (cm_M 180).2.2.1 158 = .ok (.iconst 1, 1) := by decide +kernel
theorem d180_159 : decode (cm_M 180).2.2.1 159 = .ok (.isub, 1) := by decide +kernel
theorem d180_160 : decode (cm_M 180).2.2.1 160 = .ok (.iaload, 1) := by decide +kernel
theorem d180_161 : decode (cm_M 180).2.2.1 161 = .ok (.aload_n 0, 1) := by decide +kernel
theorem d180_162 : decode (cm_M 180).2.2.1 162 = .ok (.getfield 92, 3) := by decide +kernel
theorem d180_165 : decode (cm_M 180).2.2.1 165 = .ok (.iload_n 1, 1) := by decide +kernel
theorem d180_166 : decode (cm_M 180).2.2.1 166 = .ok (.iaload, 1) := by decide +kernel
theorem d180_167 : decode (cm_M 180).2.2.1 167 = .ok (.invokestatic 310, 3) := by decide +kernel
theorem d180_170 : decode (cm_M 180).2.2.1 170 = .ok (.iastore, 1) := by decide +kernel
theorem d180_171 : decode (cm_M 180).2.2.1 171 = .ok (.goto (-169), 3) := by decide +kernel
theorem d180_174 : decode (cm_M 180).2.2.1 174 = .ok (.aload_n 0, 1) := by decide +kernel
theorem d180_175 : decode (cm_M 180).2.2.1 175 = .ok (.dup, 1) := by decide +kernel
theorem d180_176 : decode (cm_M 180).2.2.1 176 = .ok (.getfield 307, 3) := by decide +kernel
theorem d180_179 : decode (cm_M 180).2.2.1 179 = .ok (.iconst 1, 1) := by decide +kernel
theorem d180_180 : decode (cm_M 180).2.2.1 180 = .ok (.iadd, 1) := by decide +kernel
theorem d180_181 : decode (cm_M 180).2.2.1 181 = .ok (.putfield 307, 3) := by decide +kernel
theorem d180_184 : decode (cm_M 180).2.2.1 184 = .ok (.aload_n 0, 1) := by decide +kernel
theorem d180_185 : decode (cm_M 180).2.2.1 185 = .ok (.getfield 92, 3) := by decide +kernel
theorem d180_188 : decode (cm_M 180).2.2.1 188 = .ok (.iconst 0, 1) := by decide +kernel
theorem d180_189 : decode (cm_M 180).2.2.1 189 = .ok (.iaload, 1) := by decide +kernel
theorem d180_190 : decode (cm_M 180).2.2.1 190 = .ok (.ireturn, 1) := by decide +kernel
theorem s180_0 {sc : cmS} {d : Nat} {h : cmH} {Q : Option Value → cmH → Prop} (u1 : Option Value) (u2 : Option Value) (H : cm_wp sc d 180 2 [some (.ref 38), some (.int (0 : Int32)), u2] [] h Q) : cm_wp sc d 180 0 [some (.ref 38), u1, u2] [] h Q :=
  wl_ic (v := 0) d180_0 rfl (wl_st (ls' := [some (.ref 38), some (.int (0 : Int32)), u2]) d180_1 rfl rfl rfl rfl (H))
theorem s180_2 {sc : cmS} {d : Nat} {h : cmH} {Q : Option Value → cmH → Prop} (L : LY h) (x1 : Int32) (u2 : Option Value) (H : (IX 5040 (cm_I h 38 37)) ∧ ((((cm_I h 63 (cm_I h 38 37).toNatClampNeg) = (2 : Int32)) → cm_wp sc (d + 1) 180 174 [some (.ref 38), some (.int x1), u2] [] h Q) ∧ (¬ ((cm_I h 63 (cm_I h 38 37).toNatClampNeg) = (2 : Int32)) → ((((cm_I h 63 (cm_I h 38 37).toNatClampNeg) = (3 : Int32)) → cm_wp sc (d + 1) 180 174 [some (.ref 38), some (.int x1), u2] [] h Q) ∧ (¬ ((cm_I h 63 (cm_I h 38 37).toNatClampNeg) = (3 : Int32)) → ((((cm_I h 63 (cm_I h 38 37).toNatClampNeg) = 0) → cm_wp sc (d + 1) 180 57 [some (.ref 38), some (.int x1), some (.int (cm_I h 63 (cm_I h 38 37).toNatClampNeg))] [] (cm_setI h 38 37 ((cm_I h 38 37) + (1 : Int32))) Q) ∧ (¬ ((cm_I h 63 (cm_I h 38 37).toNatClampNeg) = 0) → (((¬ (cm_I h 63 (cm_I h 38 37).toNatClampNeg) = (1 : Int32)) → (((¬ (cm_I h 63 (cm_I h 38 37).toNatClampNeg) = (33 : Int32)) → (IX 200 ((x1 + (-1)) - (1 : Int32))) ∧ (IX 200 (x1 + (-1))) ∧ cm_ci sc d 181 [.int (cm_I h 63 (cm_I h 38 37).toNatClampNeg), .int (cm_I h 66 ((x1 + (-1)) - (1 : Int32)).toNatClampNeg), .int (cm_I h 66 (x1 + (-1)).toNatClampNeg)] (cm_setI h 38 37 ((cm_I h 38 37) + (1 : Int32))) (fun r h' => cm_wp sc (d + 1) 180 170 [some (.ref 38), some (.int (x1 + (-1))), some (.int (cm_I h 63 (cm_I h 38 37).toNatClampNeg))] [.int r, .int ((x1 + (-1)) - (1 : Int32)), .ref 66] h' Q)) ∧ (¬ (¬ (cm_I h 63 (cm_I h 38 37).toNatClampNeg) = (33 : Int32)) → (IX 200 (x1 - (1 : Int32))) ∧ (((¬ (cm_I h 66 (x1 - (1 : Int32)).toNatClampNeg) = 0) → cm_wp sc (d + 1) 180 138 [some (.ref 38), some (.int x1), some (.int (cm_I h 63 (cm_I h 38 37).toNatClampNeg))] [.int (0 : Int32), .int (x1 - (1 : Int32)), .ref 66] (cm_setI h 38 37 ((cm_I h 38 37) + (1 : Int32))) Q) ∧ (¬ (¬ (cm_I h 66 (x1 - (1 : Int32)).toNatClampNeg) = 0) → cm_wp sc (d + 1) 180 138 [some (.ref 38), some (.int x1), some (.int (cm_I h 63 (cm_I h 38 37).toNatClampNeg))] [.int (1 : Int32), .int (x1 - (1 : Int32)), .ref 66] (cm_setI h 38 37 ((cm_I h 38 37) + (1 : Int32))) Q))))) ∧ (¬ (¬ (cm_I h 63 (cm_I h 38 37).toNatClampNeg) = (1 : Int32)) → cm_wp sc (d + 1) 180 57 [some (.ref 38), some (.int x1), some (.int (cm_I h 63 (cm_I h 38 37).toNatClampNeg))] [] (cm_setI h 38 37 ((cm_I h 38 37) + (1 : Int32))) Q))))))))) : cm_wp sc (d + 1) 180 2 [some (.ref 38), some (.int x1), u2] [] h Q :=
  wl_st d180_2 rfl rfl rfl rfl (wl_gr (b := 63) d180_3 pf11_83 (ly_k L 38 rfl) rfl (ly_r L 38 27 rfl) (wl_st d180_6 rfl rfl rfl rfl (wl_gf (v := .int (cm_I h 38 37)) d180_7 pf11_307 (ly_k L 38 rfl) rfl (And.elim (fun g1 g1k => wl_if (g := cm_ok h 13 63 (cm_I h 38 37)) (st' := [.int (cm_I h 63 (cm_I h 38 37).toNatClampNeg)]) d180_10 rfl rfl rfl rfl (ly_o L 63 rfl g1) (wl_ic (v := 2) d180_11 rfl (wl_cb (b := (cm_I h 63 (cm_I h 38 37).toNatClampNeg) = (2 : Int32)) (off := 162) (tgt := 174) (pc3 := 15) (st' := []) d180_12 rfl rfl rfl rfl (by decide) rfl (fun c2 => (g1k.1 c2)) (fun c2 => wl_st d180_15 rfl rfl rfl rfl (wl_gr (b := 63) d180_16 pf11_83 (ly_k L 38 rfl) rfl (ly_r L 38 27 rfl) (wl_st d180_19 rfl rfl rfl rfl (wl_gf (v := .int (cm_I h 38 37)) d180_20 pf11_307 (ly_k L 38 rfl) rfl (wl_if (g := cm_ok h 13 63 (cm_I h 38 37)) (st' := [.int (cm_I h 63 (cm_I h 38 37).toNatClampNeg)]) d180_23 rfl rfl rfl rfl (ly_o L 63 rfl g1) (wl_ic (v := 3) d180_24 rfl (wl_cb (b := (cm_I h 63 (cm_I h 38 37).toNatClampNeg) = (3 : Int32)) (off := 149) (tgt := 174) (pc3 := 28) (st' := []) d180_25 rfl rfl rfl rfl (by decide) rfl (fun c3 => ((g1k.2 c2).1 c3)) (fun c3 => wl_st d180_28 rfl rfl rfl rfl (wl_gr (b := 63) d180_29 pf11_83 (ly_k L 38 rfl) rfl (ly_r L 38 27 rfl) (wl_st d180_32 rfl rfl rfl rfl (wl_gf (v := .int (cm_I h 38 37)) d180_33 pf11_307 (ly_k L 38 rfl) rfl (wl_if (g := cm_ok h 13 63 (cm_I h 38 37)) (st' := [.int (cm_I h 63 (cm_I h 38 37).toNatClampNeg)]) d180_36 rfl rfl rfl rfl (ly_o L 63 rfl g1) (wl_st (ls' := [some (.ref 38), some (.int x1), some (.int (cm_I h 63 (cm_I h 38 37).toNatClampNeg))]) d180_37 rfl rfl rfl rfl (wl_st d180_38 rfl rfl rfl rfl (wl_st d180_39 rfl rfl rfl rfl (wl_gf (v := .int (cm_I h 38 37)) d180_40 pf11_307 (ly_k L 38 rfl) rfl (wl_ic (v := 1) d180_43 rfl (wl_st d180_44 rfl rfl rfl rfl (wl_pf (h' := (cm_setI h 38 37 ((cm_I h 38 37) + (1 : Int32)))) d180_45 pf11_307 (ly_k L 38 rfl) (Or.inl rfl) rfl (wl_st d180_48 rfl rfl rfl rfl (wl_cb (b := (cm_I h 63 (cm_I h 38 37).toNatClampNeg) = 0) (off := 8) (tgt := 57) (pc3 := 52) (st' := []) d180_49 rfl rfl rfl rfl (by decide) rfl (fun c4 => (((g1k.2 c2).2 c3).1 c4)) (fun c4 => wl_st d180_52 rfl rfl rfl rfl (wl_ic (v := 1) d180_53 rfl (wl_cb (b := ¬ (cm_I h 63 (cm_I h 38 37).toNatClampNeg) = (1 : Int32)) (off := 55) (tgt := 109) (pc3 := 57) (st' := []) d180_54 rfl rfl rfl rfl (by decide) rfl (fun c5 => wl_st d180_109 rfl rfl rfl rfl (wl_bi (v := 33) d180_110 rfl (wl_cb (b := ¬ (cm_I h 63 (cm_I h 38 37).toNatClampNeg) = (33 : Int32)) (off := 30) (tgt := 142) (pc3 := 115) (st' := []) d180_112 rfl rfl rfl rfl (by decide) rfl (fun c6 => wl_st (ls' := [some (.ref 38), some (.int (x1 + (-1))), some (.int (cm_I h 63 (cm_I h 38 37).toNatClampNeg))]) d180_142 rfl rfl rfl rfl (wl_st d180_145 rfl rfl rfl rfl (wl_gr (b := 66) d180_146 pf11_92 (ly_k L 38 rfl) rfl (ly_r L 38 36 rfl) (wl_st d180_149 rfl rfl rfl rfl (wl_ic (v := 1) d180_150 rfl (wl_st d180_151 rfl rfl rfl rfl (wl_st d180_152 rfl rfl rfl rfl (wl_st d180_153 rfl rfl rfl rfl (wl_gr (b := 66) d180_154 pf11_92 (ly_k L 38 rfl) rfl (ly_r L 38 36 rfl) (wl_st d180_157 rfl rfl rfl rfl (wl_ic (v := 1) d180_158 rfl (wl_st d180_159 rfl rfl rfl rfl (And.elim (fun g7 g7k => wl_if (g := cm_ok (cm_setI h 38 37 ((cm_I h 38 37) + (1 : Int32))) 13 66 ((x1 + (-1)) - (1 : Int32))) (st' := [.int (cm_I h 66 ((x1 + (-1)) - (1 : Int32)).toNatClampNeg), .int (cm_I h 63 (cm_I h 38 37).toNatClampNeg), .int ((x1 + (-1)) - (1 : Int32)), .ref 66]) d180_160 rfl rfl rfl rfl (ly_o L 66 rfl g7) (wl_st d180_161 rfl rfl rfl rfl (wl_gr (b := 66) d180_162 pf11_92 (ly_k L 38 rfl) rfl (ly_r L 38 36 rfl) (wl_st d180_165 rfl rfl rfl rfl (And.elim (fun g8 g8k => wl_if (g := cm_ok (cm_setI h 38 37 ((cm_I h 38 37) + (1 : Int32))) 13 66 (x1 + (-1))) (st' := [.int (cm_I h 66 (x1 + (-1)).toNatClampNeg), .int (cm_I h 66 ((x1 + (-1)) - (1 : Int32)).toNatClampNeg), .int (cm_I h 63 (cm_I h 38 37).toNatClampNeg), .int ((x1 + (-1)) - (1 : Int32)), .ref 66]) d180_166 rfl rfl rfl rfl (ly_o L 66 rfl g8) (wl_ci d180_167 rfl rfl rfl pm11_310 (by decide) (ca_s (Or.inl rfl) rfl (Nat.le_of_ble_eq_true rfl) (Nat.le_of_ble_eq_true rfl)) g8k)) g7k))))) (((((g1k.2 c2).2 c3).2 c4).1 c5).1 c6)))))))))))))) (fun c6 => wl_st d180_115 rfl rfl rfl rfl (wl_gr (b := 66) d180_116 pf11_92 (ly_k L 38 rfl) rfl (ly_r L 38 36 rfl) (wl_st d180_119 rfl rfl rfl rfl (wl_ic (v := 1) d180_120 rfl (wl_st d180_121 rfl rfl rfl rfl (wl_st d180_122 rfl rfl rfl rfl (wl_gr (b := 66) d180_123 pf11_92 (ly_k L 38 rfl) rfl (ly_r L 38 36 rfl) (wl_st d180_126 rfl rfl rfl rfl (wl_ic (v := 1) d180_127 rfl (wl_st d180_128 rfl rfl rfl rfl (And.elim (fun g9 g9k => wl_if (g := cm_ok (cm_setI h 38 37 ((cm_I h 38 37) + (1 : Int32))) 13 66 (x1 - (1 : Int32))) (st' := [.int (cm_I h 66 (x1 - (1 : Int32)).toNatClampNeg), .int (x1 - (1 : Int32)), .ref 66]) d180_129 rfl rfl rfl rfl (ly_o L 66 rfl g9) (wl_cb (b := ¬ (cm_I h 66 (x1 - (1 : Int32)).toNatClampNeg) = 0) (off := 7) (tgt := 137) (pc3 := 133) (st' := [.int (x1 - (1 : Int32)), .ref 66]) d180_130 rfl rfl rfl rfl (by decide) rfl (fun c10 => wl_ic (v := 0) d180_137 rfl ((g9k.1 c10))) (fun c10 => wl_ic (v := 1) d180_133 rfl (wl_go (tgt := 138) d180_134 (by decide) ((g9k.2 c10)))))) (((((g1k.2 c2).2 c3).2 c4).1 c5).2 c6))))))))))))))) (fun c5 => ((((g1k.2 c2).2 c3).2 c4).2 c5))))))))))))))))))))))))))))) H))))
theorem s180_57 {sc : cmS} {d : Nat} {h : cmH} {Q : Option Value → cmH → Prop} (L : LY h) (x1 : Int32) (x2 : Int32) (H : (((¬ x2 = 0) → (IX 5040 (cm_I h 38 37)) ∧ (IX 128 (cm_I h 63 (cm_I h 38 37).toNatClampNeg)) ∧ cm_wp sc d 180 92 [some (.ref 38), some (.int x1), some (.int x2)] [.int (cm_I h 65 (cm_I h 63 (cm_I h 38 37).toNatClampNeg).toNatClampNeg), .int x1, .ref 66] h Q) ∧ (¬ (¬ x2 = 0) → (IX 5040 (cm_I h 38 37)) ∧ cm_wp sc d 180 92 [some (.ref 38), some (.int x1), some (.int x2)] [.int (cm_I h 63 (cm_I h 38 37).toNatClampNeg), .int x1, .ref 66] h Q))) : cm_wp sc d 180 57 [some (.ref 38), some (.int x1), some (.int x2)] [] h Q :=
  wl_st d180_57 rfl rfl rfl rfl (wl_gr (b := 66) d180_58 pf11_92 (ly_k L 38 rfl) rfl (ly_r L 38 36 rfl) (wl_st d180_61 rfl rfl rfl rfl (wl_st d180_62 rfl rfl rfl rfl (wl_cb (b := ¬ x2 = 0) (off := 15) (tgt := 78) (pc3 := 66) (st' := [.int x1, .ref 66]) d180_63 rfl rfl rfl rfl (by decide) rfl (fun c1 => wl_st d180_78 rfl rfl rfl rfl (wl_gr (b := 65) d180_79 pf11_89 (ly_k L 38 rfl) rfl (ly_r L 38 35 rfl) (wl_st d180_82 rfl rfl rfl rfl (wl_gr (b := 63) d180_83 pf11_83 (ly_k L 38 rfl) rfl (ly_r L 38 27 rfl) (wl_st d180_86 rfl rfl rfl rfl (wl_gf (v := .int (cm_I h 38 37)) d180_87 pf11_307 (ly_k L 38 rfl) rfl (And.elim (fun g2 g2k => wl_if (g := cm_ok h 13 63 (cm_I h 38 37)) (st' := [.int (cm_I h 63 (cm_I h 38 37).toNatClampNeg), .ref 65, .int x1, .ref 66]) d180_90 rfl rfl rfl rfl (ly_o L 63 rfl g2) (And.elim (fun g3 g3k => wl_if (g := cm_ok h 13 65 (cm_I h 63 (cm_I h 38 37).toNatClampNeg)) (st' := [.int (cm_I h 65 (cm_I h 63 (cm_I h 38 37).toNatClampNeg).toNatClampNeg), .int x1, .ref 66]) d180_91 rfl rfl rfl rfl (ly_o L 65 rfl g3) (g3k)) g2k)) (H.1 c1)))))))) (fun c1 => wl_st d180_66 rfl rfl rfl rfl (wl_gr (b := 63) d180_67 pf11_83 (ly_k L 38 rfl) rfl (ly_r L 38 27 rfl) (wl_st d180_70 rfl rfl rfl rfl (wl_gf (v := .int (cm_I h 38 37)) d180_71 pf11_307 (ly_k L 38 rfl) rfl (And.elim (fun g4 g4k => wl_if (g := cm_ok h 13 63 (cm_I h 38 37)) (st' := [.int (cm_I h 63 (cm_I h 38 37).toNatClampNeg), .int x1, .ref 66]) d180_74 rfl rfl rfl rfl (ly_o L 63 rfl g4) (wl_go (tgt := 92) d180_75 (by decide) (g4k))) (H.2 c1))))))))))
theorem s180_92 {sc : cmS} {d : Nat} {h : cmH} {Q : Option Value → cmH → Prop} (L : LY h) (x1 : Int32) (x2 : Int32) (sx0 : Int32) (sx1 : Int32) (H : (IX 200 sx1) ∧ cm_wp sc d 180 171 [some (.ref 38), some (.int (x1 + 1)), some (.int x2)] [] (cm_setI (cm_setI h 66 sx1.toNatClampNeg sx0) 38 37 ((cm_I h 38 37) + (1 : Int32))) Q) : cm_wp sc d 180 92 [some (.ref 38), some (.int x1), some (.int x2)] [.int sx0, .int sx1, .ref 66] h Q :=
  And.elim (fun g1 g1k => wl_if (h' := (cm_setI h 66 sx1.toNatClampNeg sx0)) d180_92 rfl rfl rfl rfl (ly_o L 66 rfl g1) (wl_st d180_93 rfl rfl rfl rfl (wl_st d180_94 rfl rfl rfl rfl (wl_gf (v := .int (cm_I h 38 37)) d180_95 pf11_307 (ly_k L 38 rfl) rfl (wl_ic (v := 1) d180_98 rfl (wl_st d180_99 rfl rfl rfl rfl (wl_pf (h' := (cm_setI (cm_setI h 66 sx1.toNatClampNeg sx0) 38 37 ((cm_I h 38 37) + (1 : Int32)))) d180_100 pf11_307 (ly_k L 38 rfl) (Or.inl rfl) rfl (wl_st (ls' := [some (.ref 38), some (.int (x1 + 1)), some (.int x2)]) d180_103 rfl rfl rfl rfl (wl_go (tgt := 171) d180_106 (by decide) (g1k)))))))))) H
theorem s180_138 {sc : cmS} {d : Nat} {h : cmH} {Q : Option Value → cmH → Prop} (L : LY h) (x1 : Int32) (x2 : Int32) (sx0 : Int32) (sx1 : Int32) (H : (IX 200 sx1) ∧ cm_wp sc d 180 171 [some (.ref 38), some (.int x1), some (.int x2)] [] (cm_setI h 66 sx1.toNatClampNeg sx0) Q) : cm_wp sc d 180 138 [some (.ref 38), some (.int x1), some (.int x2)] [.int sx0, .int sx1, .ref 66] h Q :=
  And.elim (fun g1 g1k => wl_if (h' := (cm_setI h 66 sx1.toNatClampNeg sx0)) d180_138 rfl rfl rfl rfl (ly_o L 66 rfl g1) (wl_go (tgt := 171) d180_139 (by decide) (g1k))) H
theorem s180_170 {sc : cmS} {d : Nat} {h : cmH} {Q : Option Value → cmH → Prop} (L : LY h) (x1 : Int32) (x2 : Int32) (sx0 : Int32) (sx1 : Int32) (H : (IX 200 sx1) ∧ cm_wp sc d 180 171 [some (.ref 38), some (.int x1), some (.int x2)] [] (cm_setI h 66 sx1.toNatClampNeg sx0) Q) : cm_wp sc d 180 170 [some (.ref 38), some (.int x1), some (.int x2)] [.int sx0, .int sx1, .ref 66] h Q :=
  And.elim (fun g1 g1k => wl_if (h' := (cm_setI h 66 sx1.toNatClampNeg sx0)) d180_170 rfl rfl rfl rfl (ly_o L 66 rfl g1) (g1k)) H
theorem s180_171 {sc : cmS} {d : Nat} {h : cmH} {Q : Option Value → cmH → Prop} (x1 : Int32) (x2 : Int32) (H : cm_wp sc d 180 2 [some (.ref 38), some (.int x1), some (.int x2)] [] h Q) : cm_wp sc d 180 171 [some (.ref 38), some (.int x1), some (.int x2)] [] h Q :=
  wl_go (tgt := 2) d180_171 (by decide) (H)
theorem s180_174 {sc : cmS} {d : Nat} {h : cmH} {Q : Option Value → cmH → Prop} (L : LY h) (x1 : Int32) (u2 : Option Value) (H : Q (some (.int (cm_I h 66 0))) (cm_setI h 38 37 ((cm_I h 38 37) + (1 : Int32)))) : cm_wp sc d 180 174 [some (.ref 38), some (.int x1), u2] [] h Q :=
  wl_st d180_174 rfl rfl rfl rfl (wl_st d180_175 rfl rfl rfl rfl (wl_gf (v := .int (cm_I h 38 37)) d180_176 pf11_307 (ly_k L 38 rfl) rfl (wl_ic (v := 1) d180_179 rfl (wl_st d180_180 rfl rfl rfl rfl (wl_pf (h' := (cm_setI h 38 37 ((cm_I h 38 37) + (1 : Int32)))) d180_181 pf11_307 (ly_k L 38 rfl) (Or.inl rfl) rfl (wl_st d180_184 rfl rfl rfl rfl (wl_gr (b := 66) d180_185 pf11_92 (ly_k L 38 rfl) rfl (ly_r L 38 36 rfl) (wl_ic (v := 0) d180_188 rfl (wl_if (g := cm_ok (cm_setI h 38 37 ((cm_I h 38 37) + (1 : Int32))) 13 66 (0 : Int32)) (st' := [.int (cm_I h 66 0)]) d180_189 rfl rfl rfl rfl (ly_o L 66 rfl (by decide)) (wl_rt d180_190 rfl rfl rfl H))))))))))
-- ClogHouseModel.both(III)I
theorem d181_0 : decode (cm_M 181).2.2.1 0 = .ok (.iload_n 0, 1) := by decide +kernel
theorem d181_1 : decode (cm_M 181).2.2.1 1 = .ok (.tableswitch 206 38 62 #[192, 206, 206, 206, 133, 115, 206, 124, 206, 142, 206, 206, 206, 206, 206, 206, 206, 206, 206, 206, 206, 206, 170, 159, 181], 115) := by decide +kernel
theorem d181_116 : decode (cm_M 181).2.2.1 116 = .ok (.iload_n 1, 1) := by decide +kernel
theorem d181_117 : decode (cm_M 181).2.2.1 117 = .ok (.i2l, 1) := by decide +kernel
theorem d181_118 : decode (cm_M 181).2.2.1 118 = .ok (.iload_n 2, 1) := by decide +kernel
theorem d181_119 : decode (cm_M 181).2.2.1 119 = .ok (.i2l, 1) := by decide +kernel
theorem d181_120 : decode (cm_M 181).2.2.1 120 = .ok (.ladd, 1) := by decide +kernel
theorem d181_121 : decode (cm_M 181).2.2.1 121 = .ok (.invokestatic 303, 3) := by decide +kernel
theorem d181_124 : decode (cm_M 181).2.2.1 124 = .ok (.ireturn, 1) := by decide +kernel
theorem d181_125 : decode (cm_M 181).2.2.1 125 = .ok (.iload_n 1, 1) := by decide +kernel
theorem d181_126 : decode (cm_M 181).2.2.1 126 = .ok (.i2l, 1) := by decide +kernel
theorem d181_127 : decode (cm_M 181).2.2.1 127 = .ok (.iload_n 2, 1) := by decide +kernel
theorem d181_128 : decode (cm_M 181).2.2.1 128 = .ok (.i2l, 1) := by decide +kernel
theorem d181_129 : decode (cm_M 181).2.2.1 129 = .ok (.lsub, 1) := by decide +kernel
theorem d181_130 : decode (cm_M 181).2.2.1 130 = .ok (.invokestatic 303, 3) := by decide +kernel
theorem d181_133 : decode (cm_M 181).2.2.1 133 = .ok (.ireturn, 1) := by decide +kernel
theorem d181_134 : decode (cm_M 181).2.2.1 134 = .ok (.iload_n 1, 1) := by decide +kernel
theorem d181_135 : decode (cm_M 181).2.2.1 135 = .ok (.i2l, 1) := by decide +kernel
theorem d181_136 : decode (cm_M 181).2.2.1 136 = .ok (.iload_n 2, 1) := by decide +kernel
theorem d181_137 : decode (cm_M 181).2.2.1 137 = .ok (.i2l, 1) := by decide +kernel
theorem d181_138 : decode (cm_M 181).2.2.1 138 = .ok (.lmul, 1) := by decide +kernel
theorem d181_139 : decode (cm_M 181).2.2.1 139 = .ok (.invokestatic 303, 3) := by decide +kernel
theorem d181_142 : decode (cm_M 181).2.2.1 142 = .ok (.ireturn, 1) := by decide +kernel
theorem d181_143 : decode (cm_M 181).2.2.1 143 = .ok (.iload_n 2, 1) := by decide +kernel
theorem d181_144 : decode (cm_M 181).2.2.1 144 = .ok (.ifCond .ne 7, 3) := by decide +kernel
theorem d181_147 : decode (cm_M 181).2.2.1 147 = .ok (.iconst 0, 1) := by decide +kernel
theorem d181_148 : decode (cm_M 181).2.2.1 148 = .ok (.goto 11, 3) := by decide +kernel
theorem d181_151 : decode (cm_M 181).2.2.1 151 = .ok (.iload_n 1, 1) := by decide +kernel
theorem d181_152 : decode (cm_M 181).2.2.1 152 = .ok (.i2l, 1) := by decide +kernel
theorem d181_153 : decode (cm_M 181).2.2.1 153 = .ok (.iload_n 2, 1) := by decide +kernel
theorem d181_154 : decode (cm_M 181).2.2.1 154 = .ok (.i2l, 1) := by decide +kernel
theorem d181_155 : decode (cm_M 181).2.2.1 155 = .ok (.ldiv, 1) := by decide +kernel
theorem d181_156 : decode (cm_M 181).2.2.1 156 = .ok (.invokestatic 303, 3) := by decide +kernel
theorem d181_159 : decode (cm_M 181).2.2.1 159 = .ok (.ireturn, 1) := by decide +kernel
theorem d181_160 : decode (cm_M 181).2.2.1 160 = .ok (.iload_n 1, 1) := by decide +kernel
theorem d181_161 : decode (cm_M 181).2.2.1 161 = .ok (.iload_n 2, 1) := by decide +kernel
theorem d181_162 : decode (cm_M 181).2.2.1 162 = .ok (.if_icmp .ne 7, 3) := by decide +kernel
theorem d181_165 : decode (cm_M 181).2.2.1 165 = .ok (.iconst 1, 1) := by decide +kernel
theorem d181_166 : decode (cm_M 181).2.2.1 166 = .ok (.goto 4, 3) := by decide +kernel
theorem d181_169 : decode (cm_M 181).2.2.1 169 = .ok (.iconst 0, 1) := by decide +kernel
theorem d181_170 : decode (cm_M 181).2.2.1 170 = .ok (.ireturn, 1) := by decide +kernel
theorem d181_171 : decode (cm_M 181).2.2.1 171 = .ok (.iload_n 1, 1) := by decide +kernel
theorem d181_172 : decode (cm_M 181).2.2.1 172 = .ok (.iload_n 2, 1) := by decide +kernel
theorem d181_173 : decode (cm_M 181).2.2.1 173 = .ok (.if_icmp .ge 7, 3) := by decide +kernel
theorem d181_176 : decode (cm_M 181).2.2.1 176 = .ok (.iconst 1, 1) := by decide +kernel
theorem d181_177 : decode (cm_M 181).2.2.1 177 = .ok (.goto 4, 3) := by decide +kernel
theorem d181_180 : decode (cm_M 181).2.2.1 180 = .ok (.iconst 0, 1) := by decide +kernel
theorem d181_181 : decode (cm_M 181).2.2.1 181 = .ok (.ireturn, 1) := by decide +kernel
theorem d181_182 : decode (cm_M 181).2.2.1 182 = .ok (.iload_n 1, 1) := by decide +kernel
theorem d181_183 : decode (cm_M 181).2.2.1 183 = .ok (.iload_n 2, 1) := by decide +kernel
theorem d181_184 : decode (cm_M 181).2.2.1 184 = .ok (.if_icmp .le 7, 3) := by decide +kernel
theorem d181_187 : decode (cm_M 181).2.2.1 187 = .ok (.iconst 1, 1) := by decide +kernel
theorem d181_188 : decode (cm_M 181).2.2.1 188 = .ok (.goto 4, 3) := by decide +kernel
theorem d181_191 : decode (cm_M 181).2.2.1 191 = .ok (.iconst 0, 1) := by decide +kernel
theorem d181_192 : decode (cm_M 181).2.2.1 192 = .ok (.ireturn, 1) := by decide +kernel
theorem d181_193 : decode (cm_M 181).2.2.1 193 = .ok (.iload_n 1, 1) := by decide +kernel
theorem d181_194 : decode (cm_M 181).2.2.1 194 = .ok (.ifCond .eq 11, 3) := by decide +kernel
theorem d181_197 : decode (cm_M 181).2.2.1 197 = .ok (.iload_n 2, 1) := by decide +kernel
theorem d181_198 : decode (cm_M 181).2.2.1 198 = .ok (.ifCond .eq 7, 3) := by decide +kernel
theorem d181_201 : decode (cm_M 181).2.2.1 201 = .ok (.iconst 1, 1) := by decide +kernel
theorem d181_202 : decode (cm_M 181).2.2.1 202 = .ok (.goto 4, 3) := by decide +kernel
theorem d181_205 : decode (cm_M 181).2.2.1 205 = .ok (.iconst 0, 1) := by decide +kernel
theorem d181_206 : decode (cm_M 181).2.2.1 206 = .ok (.ireturn, 1) := by decide +kernel
theorem d181_207 : decode (cm_M 181).2.2.1 207 = .ok (.iload_n 1, 1) := by decide +kernel
theorem d181_208 : decode (cm_M 181).2.2.1 208 = .ok (.ifCond .ne 7, 3) := by decide +kernel
theorem d181_211 : decode (cm_M 181).2.2.1 211 = .ok (.iload_n 2, 1) := by decide +kernel
theorem d181_212 : decode (cm_M 181).2.2.1 212 = .ok (.ifCond .eq 7, 3) := by decide +kernel
theorem d181_215 : decode (cm_M 181).2.2.1 215 = .ok (.iconst 1, 1) := by decide +kernel
theorem d181_216 : decode (cm_M 181).2.2.1 216 = .ok (.goto 4, 3) := by decide +kernel
theorem d181_219 : decode (cm_M 181).2.2.1 219 = .ok (.iconst 0, 1) := by decide +kernel
theorem d181_220 : decode (cm_M 181).2.2.1 220 = .ok (.ireturn, 1) := by decide +kernel
theorem s181_0 {sc : cmS} {d : Nat} {h : cmH} {Q : Option Value → cmH → Prop} (x0 : Int32) (x1 : Int32) (x2 : Int32) (H : ((x0 = 38 → (((x1 = 0) → Q (some (.int (0 : Int32))) h) ∧ (¬ (x1 = 0) → (((x2 = 0) → Q (some (.int (0 : Int32))) h) ∧ (¬ (x2 = 0) → Q (some (.int (1 : Int32))) h))))) ∧ (x0 = 39 → cm_wp sc (d + 1) 181 207 [some (.int x0), some (.int x1), some (.int x2)] [] h Q) ∧ (x0 = 40 → cm_wp sc (d + 1) 181 207 [some (.int x0), some (.int x1), some (.int x2)] [] h Q) ∧ (x0 = 41 → cm_wp sc (d + 1) 181 207 [some (.int x0), some (.int x1), some (.int x2)] [] h Q) ∧ (x0 = 42 → cm_ci sc d 182 [.long ((x1.toInt64) * (x2.toInt64))] h (fun r h' => cm_wp sc (d + 1) 181 142 [some (.int x0), some (.int x1), some (.int x2)] [.int r] h' Q)) ∧ (x0 = 43 → cm_ci sc d 182 [.long ((x1.toInt64) + (x2.toInt64))] h (fun r h' => cm_wp sc (d + 1) 181 124 [some (.int x0), some (.int x1), some (.int x2)] [.int r] h' Q)) ∧ (x0 = 44 → cm_wp sc (d + 1) 181 207 [some (.int x0), some (.int x1), some (.int x2)] [] h Q) ∧ (x0 = 45 → cm_ci sc d 182 [.long ((x1.toInt64) - (x2.toInt64))] h (fun r h' => cm_wp sc (d + 1) 181 133 [some (.int x0), some (.int x1), some (.int x2)] [.int r] h' Q)) ∧ (x0 = 46 → cm_wp sc (d + 1) 181 207 [some (.int x0), some (.int x1), some (.int x2)] [] h Q) ∧ (x0 = 47 → (((¬ x2 = 0) → (¬ x2.toInt64 = 0) ∧ cm_ci sc d 182 [.long ((x1.toInt64) / (x2.toInt64))] h (fun r h' => cm_wp sc (d + 1) 181 159 [some (.int x0), some (.int x1), some (.int x2)] [.int r] h' Q)) ∧ (¬ (¬ x2 = 0) → cm_wp sc (d + 1) 181 159 [some (.int x0), some (.int x1), some (.int x2)] [.int (0 : Int32)] h Q))) ∧ (x0 = 48 → cm_wp sc (d + 1) 181 207 [some (.int x0), some (.int x1), some (.int x2)] [] h Q) ∧ (x0 = 49 → cm_wp sc (d + 1) 181 207 [some (.int x0), some (.int x1), some (.int x2)] [] h Q) ∧ (x0 = 50 → cm_wp sc (d + 1) 181 207 [some (.int x0), some (.int x1), some (.int x2)] [] h Q) ∧ (x0 = 51 → cm_wp sc (d + 1) 181 207 [some (.int x0), some (.int x1), some (.int x2)] [] h Q) ∧ (x0 = 52 → cm_wp sc (d + 1) 181 207 [some (.int x0), some (.int x1), some (.int x2)] [] h Q) ∧ (x0 = 53 → cm_wp sc (d + 1) 181 207 [some (.int x0), some (.int x1), some (.int x2)] [] h Q) ∧ (x0 = 54 → cm_wp sc (d + 1) 181 207 [some (.int x0), some (.int x1), some (.int x2)] [] h Q) ∧ (x0 = 55 → cm_wp sc (d + 1) 181 207 [some (.int x0), some (.int x1), some (.int x2)] [] h Q) ∧ (x0 = 56 → cm_wp sc (d + 1) 181 207 [some (.int x0), some (.int x1), some (.int x2)] [] h Q) ∧ (x0 = 57 → cm_wp sc (d + 1) 181 207 [some (.int x0), some (.int x1), some (.int x2)] [] h Q) ∧ (x0 = 58 → cm_wp sc (d + 1) 181 207 [some (.int x0), some (.int x1), some (.int x2)] [] h Q) ∧ (x0 = 59 → cm_wp sc (d + 1) 181 207 [some (.int x0), some (.int x1), some (.int x2)] [] h Q) ∧ (x0 = 60 → (((x2 ≤ x1) → Q (some (.int (0 : Int32))) h) ∧ (¬ (x2 ≤ x1) → Q (some (.int (1 : Int32))) h))) ∧ (x0 = 61 → (((¬ x1 = x2) → Q (some (.int (0 : Int32))) h) ∧ (¬ (¬ x1 = x2) → Q (some (.int (1 : Int32))) h))) ∧ (x0 = 62 → (((x1 ≤ x2) → Q (some (.int (0 : Int32))) h) ∧ (¬ (x1 ≤ x2) → Q (some (.int (1 : Int32))) h))) ∧ (¬ x0 = 38 → ¬ x0 = 39 → ¬ x0 = 40 → ¬ x0 = 41 → ¬ x0 = 42 → ¬ x0 = 43 → ¬ x0 = 44 → ¬ x0 = 45 → ¬ x0 = 46 → ¬ x0 = 47 → ¬ x0 = 48 → ¬ x0 = 49 → ¬ x0 = 50 → ¬ x0 = 51 → ¬ x0 = 52 → ¬ x0 = 53 → ¬ x0 = 54 → ¬ x0 = 55 → ¬ x0 = 56 → ¬ x0 = 57 → ¬ x0 = 58 → ¬ x0 = 59 → ¬ x0 = 60 → ¬ x0 = 61 → ¬ x0 = 62 → cm_wp sc (d + 1) 181 207 [some (.int x0), some (.int x1), some (.int x2)] [] h Q))) : cm_wp sc (d + 1) 181 0 [some (.int x0), some (.int x1), some (.int x2)] [] h Q :=
  wl_st d181_0 rfl rfl rfl rfl ((if c8 : x0 = 38 then wl_tsI (v := 38) (tgt := 193) d181_1 c8 rfl (by decide) (by decide) (by decide) (wl_st d181_193 rfl rfl rfl rfl (wl_cb (b := x1 = 0) (off := 11) (tgt := 205) (pc3 := 197) (st' := []) d181_194 rfl rfl rfl rfl (by decide) rfl (fun c1 => wl_ic (v := 0) d181_205 rfl (wl_rt d181_206 rfl rfl rfl ((H.1 c8).1 c1))) (fun c1 => wl_st d181_197 rfl rfl rfl rfl (wl_cb (b := x2 = 0) (off := 7) (tgt := 205) (pc3 := 201) (st' := []) d181_198 rfl rfl rfl rfl (by decide) rfl (fun c2 => wl_ic (v := 0) d181_205 rfl (wl_rt d181_206 rfl rfl rfl (((H.1 c8).2 c1).1 c2))) (fun c2 => wl_ic (v := 1) d181_201 rfl (wl_go (tgt := 206) d181_202 (by decide) (wl_rt d181_206 rfl rfl rfl (((H.1 c8).2 c1).2 c2)))))))) else (if c9 : x0 = 39 then wl_tsI (v := 39) (tgt := 207) d181_1 c9 rfl (by decide) (by decide) (by decide) ((H.2.1 c9)) else (if c10 : x0 = 40 then wl_tsI (v := 40) (tgt := 207) d181_1 c10 rfl (by decide) (by decide) (by decide) ((H.2.2.1 c10)) else (if c11 : x0 = 41 then wl_tsI (v := 41) (tgt := 207) d181_1 c11 rfl (by decide) (by decide) (by decide) ((H.2.2.2.1 c11)) else (if c12 : x0 = 42 then wl_tsI (v := 42) (tgt := 134) d181_1 c12 rfl (by decide) (by decide) (by decide) (wl_st d181_134 rfl rfl rfl rfl (wl_st d181_135 rfl rfl rfl rfl (wl_st d181_136 rfl rfl rfl rfl (wl_st d181_137 rfl rfl rfl rfl (wl_st d181_138 rfl rfl rfl rfl (wl_ci d181_139 rfl rfl rfl pm11_303 (by decide) (ca_s (Or.inl rfl) rfl (Nat.le_of_ble_eq_true rfl) (Nat.le_of_ble_eq_true rfl)) (H.2.2.2.2.1 c12))))))) else (if c13 : x0 = 43 then wl_tsI (v := 43) (tgt := 116) d181_1 c13 rfl (by decide) (by decide) (by decide) (wl_st d181_116 rfl rfl rfl rfl (wl_st d181_117 rfl rfl rfl rfl (wl_st d181_118 rfl rfl rfl rfl (wl_st d181_119 rfl rfl rfl rfl (wl_st d181_120 rfl rfl rfl rfl (wl_ci d181_121 rfl rfl rfl pm11_303 (by decide) (ca_s (Or.inl rfl) rfl (Nat.le_of_ble_eq_true rfl) (Nat.le_of_ble_eq_true rfl)) (H.2.2.2.2.2.1 c13))))))) else (if c14 : x0 = 44 then wl_tsI (v := 44) (tgt := 207) d181_1 c14 rfl (by decide) (by decide) (by decide) ((H.2.2.2.2.2.2.1 c14)) else (if c15 : x0 = 45 then wl_tsI (v := 45) (tgt := 125) d181_1 c15 rfl (by decide) (by decide) (by decide) (wl_st d181_125 rfl rfl rfl rfl (wl_st d181_126 rfl rfl rfl rfl (wl_st d181_127 rfl rfl rfl rfl (wl_st d181_128 rfl rfl rfl rfl (wl_st d181_129 rfl rfl rfl rfl (wl_ci d181_130 rfl rfl rfl pm11_303 (by decide) (ca_s (Or.inl rfl) rfl (Nat.le_of_ble_eq_true rfl) (Nat.le_of_ble_eq_true rfl)) (H.2.2.2.2.2.2.2.1 c15))))))) else (if c16 : x0 = 46 then wl_tsI (v := 46) (tgt := 207) d181_1 c16 rfl (by decide) (by decide) (by decide) ((H.2.2.2.2.2.2.2.2.1 c16)) else (if c17 : x0 = 47 then wl_tsI (v := 47) (tgt := 143) d181_1 c17 rfl (by decide) (by decide) (by decide) (wl_st d181_143 rfl rfl rfl rfl (wl_cb (b := ¬ x2 = 0) (off := 7) (tgt := 151) (pc3 := 147) (st' := []) d181_144 rfl rfl rfl rfl (by decide) rfl (fun c3 => wl_st d181_151 rfl rfl rfl rfl (wl_st d181_152 rfl rfl rfl rfl (wl_st d181_153 rfl rfl rfl rfl (wl_st d181_154 rfl rfl rfl rfl (And.elim (fun g4 g4k => wl_ne (g := x2.toInt64 = 0) d181_155 rfl rfl rfl rfl g4 (wl_ci d181_156 rfl rfl rfl pm11_303 (by decide) (ca_s (Or.inl rfl) rfl (Nat.le_of_ble_eq_true rfl) (Nat.le_of_ble_eq_true rfl)) g4k)) ((H.2.2.2.2.2.2.2.2.2.1 c17).1 c3)))))) (fun c3 => wl_ic (v := 0) d181_147 rfl (wl_go (tgt := 159) d181_148 (by decide) (((H.2.2.2.2.2.2.2.2.2.1 c17).2 c3)))))) else (if c18 : x0 = 48 then wl_tsI (v := 48) (tgt := 207) d181_1 c18 rfl (by decide) (by decide) (by decide) ((H.2.2.2.2.2.2.2.2.2.2.1 c18)) else (if c19 : x0 = 49 then wl_tsI (v := 49) (tgt := 207) d181_1 c19 rfl (by decide) (by decide) (by decide) ((H.2.2.2.2.2.2.2.2.2.2.2.1 c19)) else (if c20 : x0 = 50 then wl_tsI (v := 50) (tgt := 207) d181_1 c20 rfl (by decide) (by decide) (by decide) ((H.2.2.2.2.2.2.2.2.2.2.2.2.1 c20)) else (if c21 : x0 = 51 then wl_tsI (v := 51) (tgt := 207) d181_1 c21 rfl (by decide) (by decide) (by decide) ((H.2.2.2.2.2.2.2.2.2.2.2.2.2.1 c21)) else (if c22 : x0 = 52 then wl_tsI (v := 52) (tgt := 207) d181_1 c22 rfl (by decide) (by decide) (by decide) ((H.2.2.2.2.2.2.2.2.2.2.2.2.2.2.1 c22)) else (if c23 : x0 = 53 then wl_tsI (v := 53) (tgt := 207) d181_1 c23 rfl (by decide) (by decide) (by decide) ((H.2.2.2.2.2.2.2.2.2.2.2.2.2.2.2.1 c23)) else (if c24 : x0 = 54 then wl_tsI (v := 54) (tgt := 207) d181_1 c24 rfl (by decide) (by decide) (by decide) ((H.2.2.2.2.2.2.2.2.2.2.2.2.2.2.2.2.1 c24)) else (if c25 : x0 = 55 then wl_tsI (v := 55) (tgt := 207) d181_1 c25 rfl (by decide) (by decide) (by decide) ((H.2.2.2.2.2.2.2.2.2.2.2.2.2.2.2.2.2.1 c25)) else (if c26 : x0 = 56 then wl_tsI (v := 56) (tgt := 207) d181_1 c26 rfl (by decide) (by decide) (by decide) ((H.2.2.2.2.2.2.2.2.2.2.2.2.2.2.2.2.2.2.1 c26)) else (if c27 : x0 = 57 then wl_tsI (v := 57) (tgt := 207) d181_1 c27 rfl (by decide) (by decide) (by decide) ((H.2.2.2.2.2.2.2.2.2.2.2.2.2.2.2.2.2.2.2.1 c27)) else (if c28 : x0 = 58 then wl_tsI (v := 58) (tgt := 207) d181_1 c28 rfl (by decide) (by decide) (by decide) ((H.2.2.2.2.2.2.2.2.2.2.2.2.2.2.2.2.2.2.2.2.1 c28)) else (if c29 : x0 = 59 then wl_tsI (v := 59) (tgt := 207) d181_1 c29 rfl (by decide) (by decide) (by decide) ((H.2.2.2.2.2.2.2.2.2.2.2.2.2.2.2.2.2.2.2.2.2.1 c29)) else (if c30 : x0 = 60 then wl_tsI (v := 60) (tgt := 171) d181_1 c30 rfl (by decide) (by decide) (by decide) (wl_st d181_171 rfl rfl rfl rfl (wl_st d181_172 rfl rfl rfl rfl (wl_cb (b := x2 ≤ x1) (off := 7) (tgt := 180) (pc3 := 176) (st' := []) d181_173 rfl rfl rfl rfl (by decide) rfl (fun c5 => wl_ic (v := 0) d181_180 rfl (wl_rt d181_181 rfl rfl rfl ((H.2.2.2.2.2.2.2.2.2.2.2.2.2.2.2.2.2.2.2.2.2.2.1 c30).1 c5))) (fun c5 => wl_ic (v := 1) d181_176 rfl (wl_go (tgt := 181) d181_177 (by decide) (wl_rt d181_181 rfl rfl rfl ((H.2.2.2.2.2.2.2.2.2.2.2.2.2.2.2.2.2.2.2.2.2.2.1 c30).2 c5))))))) else (if c31 : x0 = 61 then wl_tsI (v := 61) (tgt := 160) d181_1 c31 rfl (by decide) (by decide) (by decide) (wl_st d181_160 rfl rfl rfl rfl (wl_st d181_161 rfl rfl rfl rfl (wl_cb (b := ¬ x1 = x2) (off := 7) (tgt := 169) (pc3 := 165) (st' := []) d181_162 rfl rfl rfl rfl (by decide) rfl (fun c6 => wl_ic (v := 0) d181_169 rfl (wl_rt d181_170 rfl rfl rfl ((H.2.2.2.2.2.2.2.2.2.2.2.2.2.2.2.2.2.2.2.2.2.2.2.1 c31).1 c6))) (fun c6 => wl_ic (v := 1) d181_165 rfl (wl_go (tgt := 170) d181_166 (by decide) (wl_rt d181_170 rfl rfl rfl ((H.2.2.2.2.2.2.2.2.2.2.2.2.2.2.2.2.2.2.2.2.2.2.2.1 c31).2 c6))))))) else (if c32 : x0 = 62 then wl_tsI (v := 62) (tgt := 182) d181_1 c32 rfl (by decide) (by decide) (by decide) (wl_st d181_182 rfl rfl rfl rfl (wl_st d181_183 rfl rfl rfl rfl (wl_cb (b := x1 ≤ x2) (off := 7) (tgt := 191) (pc3 := 187) (st' := []) d181_184 rfl rfl rfl rfl (by decide) rfl (fun c7 => wl_ic (v := 0) d181_191 rfl (wl_rt d181_192 rfl rfl rfl ((H.2.2.2.2.2.2.2.2.2.2.2.2.2.2.2.2.2.2.2.2.2.2.2.2.1 c32).1 c7))) (fun c7 => wl_ic (v := 1) d181_187 rfl (wl_go (tgt := 192) d181_188 (by decide) (wl_rt d181_192 rfl rfl rfl ((H.2.2.2.2.2.2.2.2.2.2.2.2.2.2.2.2.2.2.2.2.2.2.2.2.1 c32).2 c7))))))) else wl_tsO (tgt := 207) d181_1 (by rcases (by omega : (x0).toInt < 38 ∨ 62 < (x0).toInt ∨ (x0).toInt = 38 ∨ (x0).toInt = 39 ∨ (x0).toInt = 40 ∨ (x0).toInt = 41 ∨ (x0).toInt = 42 ∨ (x0).toInt = 43 ∨ (x0).toInt = 44 ∨ (x0).toInt = 45 ∨ (x0).toInt = 46 ∨ (x0).toInt = 47 ∨ (x0).toInt = 48 ∨ (x0).toInt = 49 ∨ (x0).toInt = 50 ∨ (x0).toInt = 51 ∨ (x0).toInt = 52 ∨ (x0).toInt = 53 ∨ (x0).toInt = 54 ∨ (x0).toInt = 55 ∨ (x0).toInt = 56 ∨ (x0).toInt = 57 ∨ (x0).toInt = 58 ∨ (x0).toInt = 59 ∨ (x0).toInt = 60 ∨ (x0).toInt = 61 ∨ (x0).toInt = 62) with qq | qq | qq | qq | qq | qq | qq | qq | qq | qq | qq | qq | qq | qq | qq | qq | qq | qq | qq | qq | qq | qq | qq | qq | qq | qq | qq <;> first | exact Or.inl qq | exact Or.inr qq | exact absurd (Int32.toInt_inj.mp qq) c8 | exact absurd (Int32.toInt_inj.mp qq) c9 | exact absurd (Int32.toInt_inj.mp qq) c10 | exact absurd (Int32.toInt_inj.mp qq) c11 | exact absurd (Int32.toInt_inj.mp qq) c12 | exact absurd (Int32.toInt_inj.mp qq) c13 | exact absurd (Int32.toInt_inj.mp qq) c14 | exact absurd (Int32.toInt_inj.mp qq) c15 | exact absurd (Int32.toInt_inj.mp qq) c16 | exact absurd (Int32.toInt_inj.mp qq) c17 | exact absurd (Int32.toInt_inj.mp qq) c18 | exact absurd (Int32.toInt_inj.mp qq) c19 | exact absurd (Int32.toInt_inj.mp qq) c20 | exact absurd (Int32.toInt_inj.mp qq) c21 | exact absurd (Int32.toInt_inj.mp qq) c22 | exact absurd (Int32.toInt_inj.mp qq) c23 | exact absurd (Int32.toInt_inj.mp qq) c24 | exact absurd (Int32.toInt_inj.mp qq) c25 | exact absurd (Int32.toInt_inj.mp qq) c26 | exact absurd (Int32.toInt_inj.mp qq) c27 | exact absurd (Int32.toInt_inj.mp qq) c28 | exact absurd (Int32.toInt_inj.mp qq) c29 | exact absurd (Int32.toInt_inj.mp qq) c30 | exact absurd (Int32.toInt_inj.mp qq) c31 | exact absurd (Int32.toInt_inj.mp qq) c32) (by decide) ((H.2.2.2.2.2.2.2.2.2.2.2.2.2.2.2.2.2.2.2.2.2.2.2.2.2 c8 c9 c10 c11 c12 c13 c14 c15 c16 c17 c18 c19 c20 c21 c22 c23 c24 c25 c26 c27 c28 c29 c30 c31 c32))))))))))))))))))))))))))))
theorem s181_124 {sc : cmS} {d : Nat} {h : cmH} {Q : Option Value → cmH → Prop} (x0 : Int32) (x1 : Int32) (x2 : Int32) (sx0 : Int32) (H : Q (some (.int sx0)) h) : cm_wp sc d 181 124 [some (.int x0), some (.int x1), some (.int x2)] [.int sx0] h Q :=
  wl_rt d181_124 rfl rfl rfl H
theorem s181_133 {sc : cmS} {d : Nat} {h : cmH} {Q : Option Value → cmH → Prop} (x0 : Int32) (x1 : Int32) (x2 : Int32) (sx0 : Int32) (H : Q (some (.int sx0)) h) : cm_wp sc d 181 133 [some (.int x0), some (.int x1), some (.int x2)] [.int sx0] h Q :=
  wl_rt d181_133 rfl rfl rfl H
theorem s181_142 {sc : cmS} {d : Nat} {h : cmH} {Q : Option Value → cmH → Prop} (x0 : Int32) (x1 : Int32) (x2 : Int32) (sx0 : Int32) (H : Q (some (.int sx0)) h) : cm_wp sc d 181 142 [some (.int x0), some (.int x1), some (.int x2)] [.int sx0] h Q :=
  wl_rt d181_142 rfl rfl rfl H
theorem s181_159 {sc : cmS} {d : Nat} {h : cmH} {Q : Option Value → cmH → Prop} (x0 : Int32) (x1 : Int32) (x2 : Int32) (sx0 : Int32) (H : Q (some (.int sx0)) h) : cm_wp sc d 181 159 [some (.int x0), some (.int x1), some (.int x2)] [.int sx0] h Q :=
  wl_rt d181_159 rfl rfl rfl H
theorem s181_207 {sc : cmS} {d : Nat} {h : cmH} {Q : Option Value → cmH → Prop} (x0 : Int32) (x1 : Int32) (x2 : Int32) (H : (((¬ x1 = 0) → cm_wp sc d 181 215 [some (.int x0), some (.int x1), some (.int x2)] [] h Q) ∧ (¬ (¬ x1 = 0) → (((x2 = 0) → Q (some (.int (0 : Int32))) h) ∧ (¬ (x2 = 0) → cm_wp sc d 181 215 [some (.int x0), some (.int x1), some (.int x2)] [] h Q))))) : cm_wp sc d 181 207 [some (.int x0), some (.int x1), some (.int x2)] [] h Q :=
  wl_st d181_207 rfl rfl rfl rfl (wl_cb (b := ¬ x1 = 0) (off := 7) (tgt := 215) (pc3 := 211) (st' := []) d181_208 rfl rfl rfl rfl (by decide) rfl (fun c1 => (H.1 c1)) (fun c1 => wl_st d181_211 rfl rfl rfl rfl (wl_cb (b := x2 = 0) (off := 7) (tgt := 219) (pc3 := 215) (st' := []) d181_212 rfl rfl rfl rfl (by decide) rfl (fun c2 => wl_ic (v := 0) d181_219 rfl (wl_rt d181_220 rfl rfl rfl ((H.2 c1).1 c2))) (fun c2 => ((H.2 c1).2 c2)))))
theorem s181_215 {sc : cmS} {d : Nat} {h : cmH} {Q : Option Value → cmH → Prop} (x0 : Int32) (x1 : Int32) (x2 : Int32) (H : Q (some (.int (1 : Int32))) h) : cm_wp sc d 181 215 [some (.int x0), some (.int x1), some (.int x2)] [] h Q :=
  wl_ic (v := 1) d181_215 rfl (wl_go (tgt := 220) d181_216 (by decide) (wl_rt d181_220 rfl rfl rfl H))
-- ClogHouseModel.bounded(J)I
theorem d182_0 : decode (cm_M 182).2.2.1 0 = .ok (.ldc2_w 296, 3) := by decide +kernel
theorem d182_3 : decode (cm_M 182).2.2.1 3 = .ok (.ldc2_w 298, 3) := by decide +kernel
theorem d182_6 : decode (cm_M 182).2.2.1 6 = .ok (.lload_n 0, 1) := by decide +kernel
theorem d182_7 : decode (cm_M 182).2.2.1 7 = .ok (.invokestatic 300, 3) := by decide +kernel
theorem d182_10 : decode (cm_M 182).2.2.1 10 = .ok (.invokestatic 201, 3) := by decide +kernel
theorem d182_13 : decode (cm_M 182).2.2.1 13 = .ok (.l2i, 1) := by decide +kernel
theorem d182_14 : decode (cm_M 182).2.2.1 14 = .ok (.ireturn, 1) := by decide +kernel
theorem s182_0 {sc : cmS} {d : Nat} {h : cmH} {Q : Option Value → cmH → Prop} (y0 : Int64) (H : Q (some (.int ((if (if y0 < (1000000 : Int64) then y0 else (1000000 : Int64)) < (-1000000 : Int64) then (-1000000 : Int64) else (if y0 < (1000000 : Int64) then y0 else (1000000 : Int64))).toInt32))) h) : cm_wp sc (d + 1) 182 0 [some (.long y0), none] [] h Q :=
  wl_cJ (v := (-1000000)) d182_0 pj11_296 (wl_cJ (v := 1000000) d182_3 pj11_298 (wl_st d182_6 rfl rfl rfl rfl (wl_pr (st' := [.long (if y0 < (1000000 : Int64) then y0 else (1000000 : Int64)), .long (-1000000 : Int64)]) d182_7 rfl rfl rfl pm11_300 (by decide) rfl rfl (wl_pr (st' := [.long (if (if y0 < (1000000 : Int64) then y0 else (1000000 : Int64)) < (-1000000 : Int64) then (-1000000 : Int64) else (if y0 < (1000000 : Int64) then y0 else (1000000 : Int64)))]) d182_10 rfl rfl rfl pm11_201 (by decide) rfl rfl (wl_st d182_13 rfl rfl rfl rfl (wl_rt d182_14 rfl rfl rfl H))))))
-- ClogHouseModel.stream(I)Z
theorem d183_0 : decode (cm_M 183).2.2.1 0 = .ok (.iload_n 1, 1) := by decide +kernel
theorem d183_1 : decode (cm_M 183).2.2.1 1 = .ok (.iconst 1, 1) := by decide +kernel
theorem d183_2 : decode (cm_M 183).2.2.1 2 = .ok (.sipush 1000, 3) := by decide +kernel
theorem d183_5 : decode (cm_M 183).2.2.1 5 = .ok (.invokestatic 161, 3) := by decide +kernel
theorem d183_8 : decode (cm_M 183).2.2.1 8 = .ok (.ifCond .ne 5, 3) := by decide +kernel
theorem d183_11 : decode (cm_M 183).2.2.1 11 = .ok (.iconst 0, 1) := by decide +kernel
theorem d183_12 : decode (cm_M 183).2.2.1 12 = .ok (.ireturn, 1) := by decide +kernel
theorem d183_13 : decode (cm_M 183).2.2.1 13 = .ok (.aload_n 0, 1) := by decide +kernel
theorem d183_14 : decode (cm_M 183).2.2.1 14 = .ok (.iload_n 1, 1) := by decide +kernel
theorem d183_15 : decode (cm_M 183).2.2.1 15 = .ok (.putfield 319, 3) := by decide +kernel
theorem d183_18 : decode (cm_M 183).2.2.1 18 = .ok (.iconst 1, 1) := by decide +kernel
theorem d183_19 : decode (cm_M 183).2.2.1 19 = .ok (.ireturn, 1) := by decide +kernel
theorem s183_0 {sc : cmS} {d : Nat} {h : cmH} {Q : Option Value → cmH → Prop} (x1 : Int32) (H : cm_ci sc d 137 [.int x1, .int (1 : Int32), .int (1000 : Int32)] h (fun r h' => cm_wp sc (d + 1) 183 8 [some (.ref 38), some (.int x1)] [.int r] h' Q)) : cm_wp sc (d + 1) 183 0 [some (.ref 38), some (.int x1)] [] h Q :=
  wl_st d183_0 rfl rfl rfl rfl (wl_ic (v := 1) d183_1 rfl (wl_si (v := 1000) d183_2 rfl (wl_ci d183_5 rfl rfl rfl pm11_161 (by decide) (ca_s (Or.inl rfl) rfl (Nat.le_of_ble_eq_true rfl) (Nat.le_of_ble_eq_true rfl)) H)))
theorem s183_8 {sc : cmS} {d : Nat} {h : cmH} {Q : Option Value → cmH → Prop} (L : LY h) (x1 : Int32) (sx0 : Int32) (H : (((¬ sx0 = 0) → Q (some (.int (1 : Int32))) (cm_setI h 38 48 x1)) ∧ (¬ (¬ sx0 = 0) → Q (some (.int (0 : Int32))) h))) : cm_wp sc d 183 8 [some (.ref 38), some (.int x1)] [.int sx0] h Q :=
  wl_cb (b := ¬ sx0 = 0) (off := 5) (tgt := 13) (pc3 := 11) (st' := []) d183_8 rfl rfl rfl rfl (by decide) rfl (fun c1 => wl_st d183_13 rfl rfl rfl rfl (wl_st d183_14 rfl rfl rfl rfl (wl_pf (h' := (cm_setI h 38 48 x1)) d183_15 pf11_319 (ly_k L 38 rfl) (Or.inl rfl) rfl (wl_ic (v := 1) d183_18 rfl (wl_rz d183_19 rfl (by decide) (H.1 c1)))))) (fun c1 => wl_ic (v := 0) d183_11 rfl (wl_rz d183_12 rfl (by decide) (H.2 c1)))
-- ClogHouseModel.come(II)Z
theorem d184_0 : decode (cm_M 184).2.2.1 0 = .ok (.iload_n 1, 1) := by decide +kernel
theorem d184_1 : decode (cm_M 184).2.2.1 1 = .ok (.iconst 0, 1) := by decide +kernel
theorem d184_2 : decode (cm_M 184).2.2.1 2 = .ok (.bipush 7, 2) := by decide +kernel
theorem d184_4 : decode (cm_M 184).2.2.1 4 = .ok (.invokestatic 161, 3) := by decide +kernel
theorem d184_7 : decode (cm_M 184).2.2.1 7 = .ok (.ifCond .eq 14, 3) := by decide +kernel
theorem d184_10 : decode (cm_M 184).2.2.1 10 = .ok (.iload_n 2, 1) := by decide +kernel
theorem d184_11 : decode (cm_M 184).2.2.1 11 = .ok (.iconst 0, 1) := by decide +kernel
theorem d184_12 : decode (cm_M 184).2.2.1 12 = .ok (.sipush 9999, 3) := by decide +kernel
theorem d184_15 : decode (cm_M 184).2.2.1 15 = .ok (.invokestatic 161, 3) := by decide +kernel
theorem d184_18 : decode (cm_M 184).2.2.1 18 = .ok (.ifCond .ne 5, 3) := by decide +kernel
theorem d184_21 : decode (cm_M 184).2.2.1 21 = .ok (.iconst 0, 1) := by decide +kernel
theorem d184_22 : decode (cm_M 184).2.2.1 22 = .ok (.ireturn, 1) := by decide +kernel
theorem d184_23 : decode (cm_M 184).2.2.1 23 = .ok (.aload_n 0, 1) := by decide +kernel
theorem d184_24 : decode (cm_M 184).2.2.1 24 = .ok (.getfield 95, 3) := by decide +kernel
theorem d184_27 : decode (cm_M 184).2.2.1 27 = .ok (.iload_n 1, 1) := by decide +kernel
theorem d184_28 : decode (cm_M 184).2.2.1 28 = .ok (.iload_n 2, 1) := by decide +kernel
theorem d184_29 : decode (cm_M 184).2.2.1 29 = .ok (.iastore, 1) := by decide +kernel
theorem d184_30 : decode (cm_M 184).2.2.1 30 = .ok (.iconst 1, 1) := by decide +kernel
theorem d184_31 : decode (cm_M 184).2.2.1 31 = .ok (.ireturn, 1) := by decide +kernel
theorem s184_0 {sc : cmS} {d : Nat} {h : cmH} {Q : Option Value → cmH → Prop} (x1 : Int32) (x2 : Int32) (H : cm_ci sc d 137 [.int x1, .int (0 : Int32), .int (7 : Int32)] h (fun r h' => cm_wp sc (d + 1) 184 7 [some (.ref 38), some (.int x1), some (.int x2)] [.int r] h' Q)) : cm_wp sc (d + 1) 184 0 [some (.ref 38), some (.int x1), some (.int x2)] [] h Q :=
  wl_st d184_0 rfl rfl rfl rfl (wl_ic (v := 0) d184_1 rfl (wl_bi (v := 7) d184_2 rfl (wl_ci d184_4 rfl rfl rfl pm11_161 (by decide) (ca_s (Or.inl rfl) rfl (Nat.le_of_ble_eq_true rfl) (Nat.le_of_ble_eq_true rfl)) H)))
theorem s184_7 {sc : cmS} {d : Nat} {h : cmH} {Q : Option Value → cmH → Prop} (x1 : Int32) (x2 : Int32) (sx0 : Int32) (H : (((sx0 = 0) → Q (some (.int (0 : Int32))) h) ∧ (¬ (sx0 = 0) → cm_ci sc d 137 [.int x2, .int (0 : Int32), .int (9999 : Int32)] h (fun r h' => cm_wp sc (d + 1) 184 18 [some (.ref 38), some (.int x1), some (.int x2)] [.int r] h' Q)))) : cm_wp sc (d + 1) 184 7 [some (.ref 38), some (.int x1), some (.int x2)] [.int sx0] h Q :=
  wl_cb (b := sx0 = 0) (off := 14) (tgt := 21) (pc3 := 10) (st' := []) d184_7 rfl rfl rfl rfl (by decide) rfl (fun c1 => wl_ic (v := 0) d184_21 rfl (wl_rz d184_22 rfl (by decide) (H.1 c1))) (fun c1 => wl_st d184_10 rfl rfl rfl rfl (wl_ic (v := 0) d184_11 rfl (wl_si (v := 9999) d184_12 rfl (wl_ci d184_15 rfl rfl rfl pm11_161 (by decide) (ca_s (Or.inl rfl) rfl (Nat.le_of_ble_eq_true rfl) (Nat.le_of_ble_eq_true rfl)) (H.2 c1)))))
theorem s184_18 {sc : cmS} {d : Nat} {h : cmH} {Q : Option Value → cmH → Prop} (L : LY h) (x1 : Int32) (x2 : Int32) (sx0 : Int32) (H : (((¬ sx0 = 0) → (IX 8 x1) ∧ Q (some (.int (1 : Int32))) (cm_setI h 67 x1.toNatClampNeg x2)) ∧ (¬ (¬ sx0 = 0) → Q (some (.int (0 : Int32))) h))) : cm_wp sc d 184 18 [some (.ref 38), some (.int x1), some (.int x2)] [.int sx0] h Q :=
  wl_cb (b := ¬ sx0 = 0) (off := 5) (tgt := 23) (pc3 := 21) (st' := []) d184_18 rfl rfl rfl rfl (by decide) rfl (fun c1 => wl_st d184_23 rfl rfl rfl rfl (wl_gr (b := 67) d184_24 pf11_95 (ly_k L 38 rfl) rfl (ly_r L 38 38 rfl) (wl_st d184_27 rfl rfl rfl rfl (wl_st d184_28 rfl rfl rfl rfl (And.elim (fun g2 g2k => wl_if (h' := (cm_setI h 67 x1.toNatClampNeg x2)) d184_29 rfl rfl rfl rfl (ly_o L 67 rfl g2) (wl_ic (v := 1) d184_30 rfl (wl_rz d184_31 rfl (by decide) g2k))) (H.1 c1)))))) (fun c1 => wl_ic (v := 0) d184_21 rfl (wl_rz d184_22 rfl (by decide) (H.2 c1)))
-- ClogHouseModel.hours(I)I
theorem d185_0 : decode (cm_M 185).2.2.1 0 = .ok (.iload_n 1, 1) := by decide +kernel
theorem d185_1 : decode (cm_M 185).2.2.1 1 = .ok (.iconst 0, 1) := by decide +kernel
theorem d185_2 : decode (cm_M 185).2.2.1 2 = .ok (.sipush 200, 3) := by decide +kernel
theorem d185_5 : decode (cm_M 185).2.2.1 5 = .ok (.invokestatic 161, 3) := by decide +kernel
theorem d185_8 : decode (cm_M 185).2.2.1 8 = .ok (.ifCond .eq 15, 3) := by decide +kernel
theorem d185_11 : decode (cm_M 185).2.2.1 11 = .ok (.aload_n 0, 1) := by decide +kernel
theorem d185_12 : decode (cm_M 185).2.2.1 12 = .ok (.getfield 330, 3) := by decide +kernel
theorem d185_15 : decode (cm_M 185).2.2.1 15 = .ok (.iload_n 1, 1) := by decide +kernel
theorem d185_16 : decode (cm_M 185).2.2.1 16 = .ok (.iadd, 1) := by decide +kernel
theorem d185_17 : decode (cm_M 185).2.2.1 17 = .ok (.sipush 2000, 3) := by decide +kernel
theorem d185_20 : decode (cm_M 185).2.2.1 20 = .ok (.if_icmp .le 5, 3) := by decide +kernel
theorem d185_23 : decode (cm_M 185).2.2.1 23 = .ok (.iconst (-1), 1) := by decide +kernel
theorem d185_24 : decode (cm_M 185).2.2.1 24 = .ok (.ireturn, 1) := by decide +kernel
theorem d185_25 : decode (cm_M 185).2.2.1 25 = .ok (.iconst 0, 1) := by decide +kernel
theorem d185_26 : decode (cm_M 185).2.2.1 26 = .ok (.istore_n 2, 1) := by decide +kernel
theorem d185_27 : decode (cm_M 185).2.2.1 27 = .ok (.iload_n 2, 1) := by decide +kernel
theorem d185_28 : decode (cm_M 185).2.2.1 28 = .ok (.iload_n 1, 1) := by decide +kernel
theorem d185_29 : decode (cm_M 185).2.2.1 29 = .ok (.if_icmp .ge 13, 3) := by decide +kernel
theorem d185_32 : decode (cm_M 185).2.2.1 32 = .ok (.aload_n 0, 1) := by decide +kernel
theorem d185_33 : decode (cm_M 185).2.2.1 33 = .ok (.invokevirtual 360, 3) := by decide +kernel
theorem d185_36 : decode (cm_M 185).2.2.1 36 = .ok (.iinc 2 1, 3) := by decide +kernel
theorem d185_39 : decode (cm_M 185).2.2.1 39 = .ok (.goto (-12), 3) := by decide +kernel
theorem d185_42 : decode (cm_M 185).2.2.1 42 = .ok (.aload_n 0, 1) := by decide +kernel
theorem d185_43 : decode (cm_M 185).2.2.1 43 = .ok (.getfield 330, 3) := by decide +kernel
theorem d185_46 : decode (cm_M 185).2.2.1 46 = .ok (.ireturn, 1) := by decide +kernel
theorem s185_0 {sc : cmS} {d : Nat} {h : cmH} {Q : Option Value → cmH → Prop} (x1 : Int32) (u2 : Option Value) (H : cm_ci sc d 137 [.int x1, .int (0 : Int32), .int (200 : Int32)] h (fun r h' => cm_wp sc (d + 1) 185 8 [some (.ref 38), some (.int x1), u2] [.int r] h' Q)) : cm_wp sc (d + 1) 185 0 [some (.ref 38), some (.int x1), u2] [] h Q :=
  wl_st d185_0 rfl rfl rfl rfl (wl_ic (v := 0) d185_1 rfl (wl_si (v := 200) d185_2 rfl (wl_ci d185_5 rfl rfl rfl pm11_161 (by decide) (ca_s (Or.inl rfl) rfl (Nat.le_of_ble_eq_true rfl) (Nat.le_of_ble_eq_true rfl)) H)))
theorem s185_8 {sc : cmS} {d : Nat} {h : cmH} {Q : Option Value → cmH → Prop} (L : LY h) (x1 : Int32) (u2 : Option Value) (sx0 : Int32) (H : (((sx0 = 0) → Q (some (.int (-1 : Int32))) h) ∧ (¬ (sx0 = 0) → (((((cm_I h 38 0) + x1) ≤ (2000 : Int32)) → cm_wp sc d 185 27 [some (.ref 38), some (.int x1), some (.int (0 : Int32))] [] h Q) ∧ (¬ (((cm_I h 38 0) + x1) ≤ (2000 : Int32)) → Q (some (.int (-1 : Int32))) h))))) : cm_wp sc d 185 8 [some (.ref 38), some (.int x1), u2] [.int sx0] h Q :=
  wl_cb (b := sx0 = 0) (off := 15) (tgt := 23) (pc3 := 11) (st' := []) d185_8 rfl rfl rfl rfl (by decide) rfl (fun c1 => wl_ic (v := (-1)) d185_23 rfl (wl_rt d185_24 rfl rfl rfl (H.1 c1))) (fun c1 => wl_st d185_11 rfl rfl rfl rfl (wl_gf (v := .int (cm_I h 38 0)) d185_12 pf11_330 (ly_k L 38 rfl) rfl (wl_st d185_15 rfl rfl rfl rfl (wl_st d185_16 rfl rfl rfl rfl (wl_si (v := 2000) d185_17 rfl (wl_cb (b := ((cm_I h 38 0) + x1) ≤ (2000 : Int32)) (off := 5) (tgt := 25) (pc3 := 23) (st' := []) d185_20 rfl rfl rfl rfl (by decide) rfl (fun c2 => wl_ic (v := 0) d185_25 rfl (wl_st (ls' := [some (.ref 38), some (.int x1), some (.int (0 : Int32))]) d185_26 rfl rfl rfl rfl (((H.2 c1).1 c2)))) (fun c2 => wl_ic (v := (-1)) d185_23 rfl (wl_rt d185_24 rfl rfl rfl ((H.2 c1).2 c2)))))))))
theorem s185_27 {sc : cmS} {d : Nat} {h : cmH} {Q : Option Value → cmH → Prop} (L : LY h) (x1 : Int32) (x2 : Int32) (H : (((x1 ≤ x2) → Q (some (.int (cm_I h 38 0))) h) ∧ (¬ (x1 ≤ x2) → cm_cv sc d 186 [.ref 38] h (fun h' => cm_wp sc (d + 1) 185 36 [some (.ref 38), some (.int x1), some (.int x2)] [] h' Q)))) : cm_wp sc (d + 1) 185 27 [some (.ref 38), some (.int x1), some (.int x2)] [] h Q :=
  wl_st d185_27 rfl rfl rfl rfl (wl_st d185_28 rfl rfl rfl rfl (wl_cb (b := x1 ≤ x2) (off := 13) (tgt := 42) (pc3 := 32) (st' := []) d185_29 rfl rfl rfl rfl (by decide) rfl (fun c1 => wl_st d185_42 rfl rfl rfl rfl (wl_gf (v := .int (cm_I h 38 0)) d185_43 pf11_330 (ly_k L 38 rfl) rfl (wl_rt d185_46 rfl rfl rfl (H.1 c1)))) (fun c1 => wl_st d185_32 rfl rfl rfl rfl (wl_cv d185_33 rfl rfl rfl pm11_360 (by decide) (ca_v (Or.inl rfl) rfl (Nat.le_of_ble_eq_true rfl) (Nat.le_of_ble_eq_true rfl) (ly_k L 38 rfl).2 (ly_k L 38 rfl).1 (by decide)) (H.2 c1)))))
theorem s185_36 {sc : cmS} {d : Nat} {h : cmH} {Q : Option Value → cmH → Prop} (x1 : Int32) (x2 : Int32) (H : cm_wp sc d 185 27 [some (.ref 38), some (.int x1), some (.int (x2 + 1))] [] h Q) : cm_wp sc d 185 36 [some (.ref 38), some (.int x1), some (.int x2)] [] h Q :=
  wl_st (ls' := [some (.ref 38), some (.int x1), some (.int (x2 + 1))]) d185_36 rfl rfl rfl rfl (wl_go (tgt := 27) d185_39 (by decide) (H))
-- ClogHouseModel.hour()V
theorem d186_0 : decode (cm_M 186).2.2.1 0 = .ok (.aload_n 0, 1) := by decide +kernel
theorem d186_1 : decode (cm_M 186).2.2.1 1 = .ok (.dup, 1) := by decide +kernel
theorem d186_2 : decode (cm_M 186).2.2.1 2 = .ok (.getfield 330, 3) := by decide +kernel
theorem d186_5 : decode (cm_M 186).2.2.1 5 = .ok (.iconst 1, 1) := by decide +kernel
theorem d186_6 : decode (cm_M 186).2.2.1 6 = .ok (.iadd, 1) := by decide +kernel
theorem d186_7 : decode (cm_M 186).2.2.1 7 = .ok (.putfield 330, 3) := by decide +kernel
theorem d186_10 : decode (cm_M 186).2.2.1 10 = .ok (.iconst 0, 1) := by decide +kernel
theorem d186_11 : decode (cm_M 186).2.2.1 11 = .ok (.istore_n 1, 1) := by decide +kernel
theorem d186_12 : decode (cm_M 186).2.2.1 12 = .ok (.iload_n 1, 1) := by decide +kernel
theorem d186_13 : decode (cm_M 186).2.2.1 13 = .ok (.aload_n 0, 1) := by decide +kernel
theorem d186_14 : decode (cm_M 186).2.2.1 14 = .ok (.getfield 165, 3) := by decide +kernel
theorem d186_17 : decode (cm_M 186).2.2.1 17 = .ok (.if_icmp .ge 43, 3) := by decide +kernel
theorem d186_20 : decode (cm_M 186).2.2.1 20 = .ok (.aload_n 0, 1) := by decide +kernel
theorem d186_21 : decode (cm_M 186).2.2.1 21 = .ok (.getfield 19, 3) := by decide +kernel
theorem d186_24 : decode (cm_M 186).2.2.1 24 = .ok (.iload_n 1, 1) := by decide +kernel
theorem d186_25 : decode (cm_M 186).2.2.1 25 = .ok (.iaload, 1) := by decide +kernel
theorem d186_26 : decode (cm_M 186).2.2.1 26 = .ok (.ifCond .le 28, 3) := by decide +kernel
theorem d186_29 : decode (cm_M 186).2.2.1 29 = .ok (.aload_n 0, 1) := by decide +kernel
theorem d186_30 : decode (cm_M 186).2.2.1 30 = .ok (.getfield 49, 3) := by decide +kernel
theorem d186_33 : decode (cm_M 186).2.2.1 33 = .ok (.iload_n 1, 1) := by decide +kernel
theorem d186_34 : decode (cm_M 186).2.2.1 34 = .ok (.iaload, 1) := by decide +kernel
theorem d186_35 : decode (cm_M 186).2.2.1 35 = .ok (.iconst 4, 1) := by decide +kernel
theorem d186_36 : decode (cm_M 186).2.2.1 36 = .ok (.if_icmp .eq 18, 3) := by decide +kernel
theorem d186_39 : decode (cm_M 186).2.2.1 39 = .ok (.aload_n 0, 1) := by decide +kernel
theorem d186_40 : decode (cm_M 186).2.2.1 40 = .ok (.getfield 49, 3) := by decide +kernel
theorem d186_43 : decode (cm_M 186).2.2.1 43 = .ok (.iload_n 1, 1) := by decide +kernel
theorem d186_44 : decode (cm_M 186).2.2.1 44 = .ok (.iaload, 1) := by decide +kernel
theorem d186_45 : decode (cm_M 186).2.2.1 45 = .ok (.iconst 5, 1) := by decide +kernel
theorem d186_46 : decode (cm_M 186).2.2.1 46 = .ok (.if_icmp .eq 8, 3) := by decide +kernel
theorem d186_49 : decode (cm_M 186).2.2.1 49 = .ok (.aload_n 0, 1) := by decide +kernel
theorem d186_50 : decode (cm_M 186).2.2.1 50 = .ok (.iload_n 1, 1) := by decide +kernel
theorem d186_51 : decode (cm_M 186).2.2.1 51 = .ok (.invokevirtual 351, 3) := by decide +kernel
theorem d186_54 : decode (cm_M 186).2.2.1 54 = .ok (.iinc 1 1, 3) := by decide +kernel
theorem d186_57 : decode (cm_M 186).2.2.1 57 = .ok (.goto (-45), 3) := by decide +kernel
theorem d186_60 : decode (cm_M 186).2.2.1 60 = .ok (.iconst 0, 1) := by decide +kernel
theorem d186_61 : decode (cm_M 186).2.2.1 61 = .ok (.istore_n 1, 1) := by decide +kernel
theorem d186_62 : decode (cm_M 186).2.2.1 62 = .ok (.iload_n 1, 1) := by decide +kernel
theorem d186_63 : decode (cm_M 186).2.2.1 63 = .ok (.aload_n 0, 1) := by decide +kernel
theorem d186_64 : decode (cm_M 186).2.2.1 64 = .ok (.getfield 165, 3) := by decide +kernel
theorem d186_67 : decode (cm_M 186).2.2.1 67 = .ok (.if_icmp .ge 75, 3) := by decide +kernel
theorem d186_70 : decode (cm_M 186).2.2.1 70 = .ok (.aload_n 0, 1) := by decide +kernel
theorem d186_71 : decode (cm_M 186).2.2.1 71 = .ok (.getfield 70, 3) := by decide +kernel
theorem d186_74 : decode (cm_M 186).2.2.1 74 = .ok (.iload_n 1, 1) := by decide +kernel
theorem d186_75 : decode (cm_M 186).2.2.1 75 = .ok (.aload_n 0, 1) := by decide +kernel
theorem d186_76 : decode (cm_M 186).2.2.1 76 = .ok (.getfield 49, 3) := by decide +kernel
theorem d186_79 : decode (cm_M 186).2.2.1 79 = .ok (.iload_n 1, 1) := by decide +kernel
theorem d186_80 : decode (cm_M 186).2.2.1 80 = .ok (.iaload, 1) := by decide +kernel
theorem d186_81 : decode (cm_M 186).2.2.1 81 = .ok (.iconst 1, 1) := by decide +kernel
theorem d186_82 : decode (cm_M 186).2.2.1 82 = .ok (.if_icmp .ne 16, 3) := by decide +kernel
theorem d186_85 : decode (cm_M 186).2.2.1 85 = .ok (.aload_n 0, 1) := by decide +kernel
theorem d186_86 : decode (cm_M 186).2.2.1 86 = .ok (.getfield 19, 3) := by decide +kernel
theorem d186_89 : decode (cm_M 186).2.2.1 89 = .ok (.iload_n 1, 1) := by decide +kernel
theorem d186_90 : decode (cm_M 186).2.2.1 90 = .ok (.iaload, 1) := by decide +kernel
theorem d186_91 : decode (cm_M 186).2.2.1 91 = .ok (.ifCond .le 7, 3) := by decide +kernel
theorem d186_94 : decode (cm_M 186).2.2.1 94 = .ok (.iconst 1, 1) := by decide +kernel
theorem d186_95 : decode (cm_M 186).2.2.1 95 = .ok (.goto 4, 3) := by decide +kernel
theorem d186_98 : decode (cm_M 186).2.2.1 98 = .ok (.iconst 0, 1) := by decide +kernel
theorem d186_99 : decode (cm_M 186).2.2.1 99 = .ok (.bastore, 1) := by decide +kernel
theorem d186_100 : decode (cm_M 186).2.2.1 100 = .ok (.aload_n 0, 1) := by decide +kernel
theorem d186_101 : decode (cm_M 186).2.2.1 101 = .ok (.getfield 61, 3) := by decide +kernel
theorem d186_104 : decode (cm_M 186).2.2.1 104 = .ok (.iload_n 1, 1) := by decide +kernel
theorem d186_105 : decode (cm_M 186).2.2.1 105 = .ok (.iconst 0, 1) := by decide +kernel
theorem d186_106 : decode (cm_M 186).2.2.1 106 = .ok (.iastore, 1) := by decide +kernel
theorem d186_107 : decode (cm_M 186).2.2.1 107 = .ok (.aload_n 0, 1) := by decide +kernel
theorem d186_108 : decode (cm_M 186).2.2.1 108 = .ok (.getfield 64, 3) := by decide +kernel
theorem d186_111 : decode (cm_M 186).2.2.1 111 = .ok (.iload_n 1, 1) := by decide +kernel
theorem d186_112 : decode (cm_M 186).2.2.1 112 = .ok (.iconst 0, 1) := by decide +kernel
theorem d186_113 : decode (cm_M 186).2.2.1 113 = .ok (.iastore, 1) := by decide +kernel
theorem d186_114 : decode (cm_M 186).2.2.1 114 = .ok (.aload_n 0, 1) := by decide +kernel
theorem d186_115 : decode (cm_M 186).2.2.1 115 = .ok (.getfield 67, 3) := by decide +kernel
theorem d186_118 : decode (cm_M 186).2.2.1 118 = .ok (.iload_n 1, 1) := by decide +kernel
theorem d186_119 : decode (cm_M 186).2.2.1 119 = .ok (.iconst 0, 1) := by decide +kernel
theorem d186_120 : decode (cm_M 186).2.2.1 120 = .ok (.iastore, 1) := by decide +kernel
theorem d186_121 : decode (cm_M 186).2.2.1 121 = .ok (.aload_n 0, 1) := by decide +kernel
theorem d186_122 : decode (cm_M 186).2.2.1 122 = .ok (.getfield 49, 3) := by decide +kernel
theorem d186_125 : decode (cm_M 186).2.2.1 125 = .ok (.iload_n 1, 1) := by decide +kernel
theorem d186_126 : decode (cm_M 186).2.2.1 126 = .ok (.iaload, 1) := by decide +kernel
theorem d186_127 : decode (cm_M 186).2.2.1 127 = .ok (.iconst 2, 1) := by decide +kernel
theorem d186_128 : decode (cm_M 186).2.2.1 128 = .ok (.if_icmp .ne 8, 3) := by decide +kernel
theorem d186_131 : decode (cm_M 186).2.2.1 131 = .ok (.aload_n 0, 1) := by decide +kernel
theorem d186_132 : decode (cm_M 186).2.2.1 132 = .ok (.iload_n 1, 1) := by decide +kernel
theorem d186_133 : decode (cm_M 186).2.2.1 133 = .ok (.invokevirtual 354, 3) := by decide +kernel
theorem d186_136 : decode (cm_M 186).2.2.1 136 = .ok (.iinc 1 1, 3) := by decide +kernel
theorem d186_139 : decode (cm_M 186).2.2.1 139 = .ok (.goto (-77), 3) := by decide +kernel
theorem d186_142 : decode (cm_M 186).2.2.1 142 = .ok (.aload_n 0, 1) := by decide +kernel
theorem d186_143 : decode (cm_M 186).2.2.1 143 = .ok (.getfield 319, 3) := by decide +kernel
theorem d186_146 : decode (cm_M 186).2.2.1 146 = .ok (.ifCond .le 7, 3) := by decide +kernel
theorem d186_149 : decode (cm_M 186).2.2.1 149 = .ok (.aload_n 0, 1) := by decide +kernel
theorem d186_150 : decode (cm_M 186).2.2.1 150 = .ok (.invokevirtual 357, 3) := by decide +kernel
theorem d186_153 : decode (cm_M 186).2.2.1 153 = .ok (.iconst 0, 1) := by decide +kernel
theorem d186_154 : decode (cm_M 186).2.2.1 154 = .ok (.istore_n 1, 1) := by decide +kernel
theorem d186_155 : decode (cm_M 186).2.2.1 155 = .ok (.iload_n 1, 1) := by decide +kernel
theorem d186_156 : decode (cm_M 186).2.2.1 156 = .ok (.aload_n 0, 1) := by decide +kernel
theorem d186_157 : decode (cm_M 186).2.2.1 157 = .ok (.getfield 165, 3) := by decide +kernel
theorem d186_160 : decode (cm_M 186).2.2.1 160 = .ok (.if_icmp .ge 42, 3) := by decide +kernel
theorem d186_163 : decode (cm_M 186).2.2.1 163 = .ok (.aload_n 0, 1) := by decide +kernel
theorem d186_164 : decode (cm_M 186).2.2.1 164 = .ok (.getfield 52, 3) := by decide +kernel
theorem d186_167 : decode (cm_M 186).2.2.1 167 = .ok (.iload_n 1, 1) := by decide +kernel
theorem d186_168 : decode (cm_M 186).2.2.1 168 = .ok (.dup2, 1) := by decide +kernel
theorem d186_169 : decode (cm_M 186).2.2.1 169 = .ok (.iaload, 1) := by decide +kernel
theorem d186_170 : decode (cm_M 186).2.2.1 170 = .ok (.aload_n 0, 1) := by decide +kernel
theorem d186_171 : decode (cm_M 186).2.2.1 171 = .ok (.getfield 70, 3) := by decide +kernel
theorem d186_174 : decode (cm_M 186).2.2.1 174 = .ok (.iload_n 1, 1) := by decide +kernel
theorem d186_175 : decode (cm_M 186).2.2.1 175 = .ok (.baload, 1) := by decide +kernel
theorem d186_176 : decode (cm_M 186).2.2.1 176 = .ok (.ifCond .ne 13, 3) := by decide +kernel
theorem d186_179 : decode (cm_M 186).2.2.1 179 = .ok (.aload_n 0, 1) := by decide +kernel
theorem d186_180 : decode (cm_M 186).2.2.1 180 = .ok (.getfield 49, 3) := by decide +kernel
theorem d186_183 : decode (cm_M 186).2.2.1 183 = .ok (.iload_n 1, 1) := by decide +kernel
theorem d186_184 : decode (cm_M 186).2.2.1 184 = .ok (.iaload, 1) := by decide +kernel
theorem d186_185 : decode (cm_M 186).2.2.1 185 = .ok (.iconst 3, 1) := by decide +kernel
theorem d186_186 : decode (cm_M 186).2.2.1 186 = .ok (.if_icmp .ne 7, 3) := by decide +kernel
theorem d186_189 : decode (cm_M 186).2.2.1 189 = .ok (.iconst 1, 1) := by decide +kernel
theorem d186_190 : decode (cm_M 186).2.2.1 190 = .ok (.goto 4, 3) := by decide +kernel
theorem d186_193 : decode (cm_M 186).2.2.1 193 = .ok (.iconst 0, 1) := by decide +kernel
theorem d186_194 : decode (cm_M 186).2.2.1 194 = .ok (.iadd, 1) := by decide +kernel
theorem d186_195 : decode (cm_M 186).2.2.1 195 = .ok (.iastore, 1) := by decide +kernel
theorem d186_196 : decode (cm_M 186).2.2.1 196 = .ok (.iinc 1 1, 3) := by decide +kernel
theorem d186_199 : decode (cm_M 186).2.2.1 199 = .ok (.goto (-44), 3) := by decide +kernel
theorem d186_202 : decode (cm_M 186).2.2.1 202 = .ok (.return_, 1) := by decide +kernel
theorem s186_0 {sc : cmS} {d : Nat} {h : cmH} {Q : Option Value → cmH → Prop} (L : LY h) (u1 : Option Value) (H : cm_wp sc d 186 12 [some (.ref 38), some (.int (0 : Int32))] [] (cm_setI h 38 0 ((cm_I h 38 0) + (1 : Int32))) Q) : cm_wp sc d 186 0 [some (.ref 38), u1] [] h Q :=
  wl_st d186_0 rfl rfl rfl rfl (wl_st d186_1 rfl rfl rfl rfl (wl_gf (v := .int (cm_I h 38 0)) d186_2 pf11_330 (ly_k L 38 rfl) rfl (wl_ic (v := 1) d186_5 rfl (wl_st d186_6 rfl rfl rfl rfl (wl_pf (h' := (cm_setI h 38 0 ((cm_I h 38 0) + (1 : Int32)))) d186_7 pf11_330 (ly_k L 38 rfl) (Or.inl rfl) rfl (wl_ic (v := 0) d186_10 rfl (wl_st (ls' := [some (.ref 38), some (.int (0 : Int32))]) d186_11 rfl rfl rfl rfl (H))))))))
theorem s186_12 {sc : cmS} {d : Nat} {h : cmH} {Q : Option Value → cmH → Prop} (L : LY h) (x1 : Int32) (H : ((((cm_I h 38 24) ≤ x1) → cm_wp sc (d + 1) 186 62 [some (.ref 38), some (.int (0 : Int32))] [] h Q) ∧ (¬ ((cm_I h 38 24) ≤ x1) → (IX 9 x1) ∧ ((((cm_I h 42 x1.toNatClampNeg) ≤ 0) → cm_wp sc (d + 1) 186 54 [some (.ref 38), some (.int x1)] [] h Q) ∧ (¬ ((cm_I h 42 x1.toNatClampNeg) ≤ 0) → ((((cm_I h 52 x1.toNatClampNeg) = (4 : Int32)) → cm_wp sc (d + 1) 186 54 [some (.ref 38), some (.int x1)] [] h Q) ∧ (¬ ((cm_I h 52 x1.toNatClampNeg) = (4 : Int32)) → ((((cm_I h 52 x1.toNatClampNeg) = (5 : Int32)) → cm_wp sc (d + 1) 186 54 [some (.ref 38), some (.int x1)] [] h Q) ∧ (¬ ((cm_I h 52 x1.toNatClampNeg) = (5 : Int32)) → cm_cv sc d 187 [.ref 38, .int x1] h (fun h' => cm_wp sc (d + 1) 186 54 [some (.ref 38), some (.int x1)] [] h' Q)))))))))) : cm_wp sc (d + 1) 186 12 [some (.ref 38), some (.int x1)] [] h Q :=
  wl_st d186_12 rfl rfl rfl rfl (wl_st d186_13 rfl rfl rfl rfl (wl_gf (v := .int (cm_I h 38 24)) d186_14 pf11_165 (ly_k L 38 rfl) rfl (wl_cb (b := (cm_I h 38 24) ≤ x1) (off := 43) (tgt := 60) (pc3 := 20) (st' := []) d186_17 rfl rfl rfl rfl (by decide) rfl (fun c1 => wl_ic (v := 0) d186_60 rfl (wl_st (ls' := [some (.ref 38), some (.int (0 : Int32))]) d186_61 rfl rfl rfl rfl ((H.1 c1)))) (fun c1 => wl_st d186_20 rfl rfl rfl rfl (wl_gr (b := 42) d186_21 pf11_19 (ly_k L 38 rfl) rfl (ly_r L 38 5 rfl) (wl_st d186_24 rfl rfl rfl rfl (And.elim (fun g2 g2k => wl_if (g := cm_ok h 13 42 x1) (st' := [.int (cm_I h 42 x1.toNatClampNeg)]) d186_25 rfl rfl rfl rfl (ly_o L 42 rfl g2) (wl_cb (b := (cm_I h 42 x1.toNatClampNeg) ≤ 0) (off := 28) (tgt := 54) (pc3 := 29) (st' := []) d186_26 rfl rfl rfl rfl (by decide) rfl (fun c3 => (g2k.1 c3)) (fun c3 => wl_st d186_29 rfl rfl rfl rfl (wl_gr (b := 52) d186_30 pf11_49 (ly_k L 38 rfl) rfl (ly_r L 38 15 rfl) (wl_st d186_33 rfl rfl rfl rfl (wl_if (g := cm_ok h 13 52 x1) (st' := [.int (cm_I h 52 x1.toNatClampNeg)]) d186_34 rfl rfl rfl rfl (ly_o L 52 rfl g2) (wl_ic (v := 4) d186_35 rfl (wl_cb (b := (cm_I h 52 x1.toNatClampNeg) = (4 : Int32)) (off := 18) (tgt := 54) (pc3 := 39) (st' := []) d186_36 rfl rfl rfl rfl (by decide) rfl (fun c4 => ((g2k.2 c3).1 c4)) (fun c4 => wl_st d186_39 rfl rfl rfl rfl (wl_gr (b := 52) d186_40 pf11_49 (ly_k L 38 rfl) rfl (ly_r L 38 15 rfl) (wl_st d186_43 rfl rfl rfl rfl (wl_if (g := cm_ok h 13 52 x1) (st' := [.int (cm_I h 52 x1.toNatClampNeg)]) d186_44 rfl rfl rfl rfl (ly_o L 52 rfl g2) (wl_ic (v := 5) d186_45 rfl (wl_cb (b := (cm_I h 52 x1.toNatClampNeg) = (5 : Int32)) (off := 8) (tgt := 54) (pc3 := 49) (st' := []) d186_46 rfl rfl rfl rfl (by decide) rfl (fun c5 => (((g2k.2 c3).2 c4).1 c5)) (fun c5 => wl_st d186_49 rfl rfl rfl rfl (wl_st d186_50 rfl rfl rfl rfl (wl_cv d186_51 rfl rfl rfl pm11_351 (by decide) (ca_v (Or.inl rfl) rfl (Nat.le_of_ble_eq_true rfl) (Nat.le_of_ble_eq_true rfl) (ly_k L 38 rfl).2 (ly_k L 38 rfl).1 (by decide)) (((g2k.2 c3).2 c4).2 c5)))))))))))))))))) (H.2 c1))))))))
theorem s186_54 {sc : cmS} {d : Nat} {h : cmH} {Q : Option Value → cmH → Prop} (x1 : Int32) (H : cm_wp sc d 186 12 [some (.ref 38), some (.int (x1 + 1))] [] h Q) : cm_wp sc d 186 54 [some (.ref 38), some (.int x1)] [] h Q :=
  wl_st (ls' := [some (.ref 38), some (.int (x1 + 1))]) d186_54 rfl rfl rfl rfl (wl_go (tgt := 12) d186_57 (by decide) (H))
theorem s186_62 {sc : cmS} {d : Nat} {h : cmH} {Q : Option Value → cmH → Prop} (L : LY h) (x1 : Int32) (H : ((((cm_I h 38 24) ≤ x1) → ((((cm_I h 38 48) ≤ 0) → cm_wp sc (d + 1) 186 153 [some (.ref 38), some (.int x1)] [] h Q) ∧ (¬ ((cm_I h 38 48) ≤ 0) → cm_cv sc d 190 [.ref 38] h (fun h' => cm_wp sc (d + 1) 186 153 [some (.ref 38), some (.int x1)] [] h' Q)))) ∧ (¬ ((cm_I h 38 24) ≤ x1) → (IX 9 x1) ∧ (((¬ (cm_I h 52 x1.toNatClampNeg) = (1 : Int32)) → cm_wp sc (d + 1) 186 98 [some (.ref 38), some (.int x1)] [.int x1, .ref 59] h Q) ∧ (¬ (¬ (cm_I h 52 x1.toNatClampNeg) = (1 : Int32)) → ((((cm_I h 42 x1.toNatClampNeg) ≤ 0) → cm_wp sc (d + 1) 186 98 [some (.ref 38), some (.int x1)] [.int x1, .ref 59] h Q) ∧ (¬ ((cm_I h 42 x1.toNatClampNeg) ≤ 0) → cm_wp sc (d + 1) 186 99 [some (.ref 38), some (.int x1)] [.int (1 : Int32), .int x1, .ref 59] h Q))))))) : cm_wp sc (d + 1) 186 62 [some (.ref 38), some (.int x1)] [] h Q :=
  wl_st d186_62 rfl rfl rfl rfl (wl_st d186_63 rfl rfl rfl rfl (wl_gf (v := .int (cm_I h 38 24)) d186_64 pf11_165 (ly_k L 38 rfl) rfl (wl_cb (b := (cm_I h 38 24) ≤ x1) (off := 75) (tgt := 142) (pc3 := 70) (st' := []) d186_67 rfl rfl rfl rfl (by decide) rfl (fun c1 => wl_st d186_142 rfl rfl rfl rfl (wl_gf (v := .int (cm_I h 38 48)) d186_143 pf11_319 (ly_k L 38 rfl) rfl (wl_cb (b := (cm_I h 38 48) ≤ 0) (off := 7) (tgt := 153) (pc3 := 149) (st' := []) d186_146 rfl rfl rfl rfl (by decide) rfl (fun c2 => ((H.1 c1).1 c2)) (fun c2 => wl_st d186_149 rfl rfl rfl rfl (wl_cv d186_150 rfl rfl rfl pm11_357 (by decide) (ca_v (Or.inl rfl) rfl (Nat.le_of_ble_eq_true rfl) (Nat.le_of_ble_eq_true rfl) (ly_k L 38 rfl).2 (ly_k L 38 rfl).1 (by decide)) ((H.1 c1).2 c2)))))) (fun c1 => wl_st d186_70 rfl rfl rfl rfl (wl_gr (b := 59) d186_71 pf11_70 (ly_k L 38 rfl) rfl (ly_r L 38 22 rfl) (wl_st d186_74 rfl rfl rfl rfl (wl_st d186_75 rfl rfl rfl rfl (wl_gr (b := 52) d186_76 pf11_49 (ly_k L 38 rfl) rfl (ly_r L 38 15 rfl) (wl_st d186_79 rfl rfl rfl rfl (And.elim (fun g3 g3k => wl_if (g := cm_ok h 13 52 x1) (st' := [.int (cm_I h 52 x1.toNatClampNeg), .int x1, .ref 59]) d186_80 rfl rfl rfl rfl (ly_o L 52 rfl g3) (wl_ic (v := 1) d186_81 rfl (wl_cb (b := ¬ (cm_I h 52 x1.toNatClampNeg) = (1 : Int32)) (off := 16) (tgt := 98) (pc3 := 85) (st' := [.int x1, .ref 59]) d186_82 rfl rfl rfl rfl (by decide) rfl (fun c4 => (g3k.1 c4)) (fun c4 => wl_st d186_85 rfl rfl rfl rfl (wl_gr (b := 42) d186_86 pf11_19 (ly_k L 38 rfl) rfl (ly_r L 38 5 rfl) (wl_st d186_89 rfl rfl rfl rfl (wl_if (g := cm_ok h 13 42 x1) (st' := [.int (cm_I h 42 x1.toNatClampNeg), .int x1, .ref 59]) d186_90 rfl rfl rfl rfl (ly_o L 42 rfl g3) (wl_cb (b := (cm_I h 42 x1.toNatClampNeg) ≤ 0) (off := 7) (tgt := 98) (pc3 := 94) (st' := [.int x1, .ref 59]) d186_91 rfl rfl rfl rfl (by decide) rfl (fun c5 => ((g3k.2 c4).1 c5)) (fun c5 => wl_ic (v := 1) d186_94 rfl (wl_go (tgt := 99) d186_95 (by decide) (((g3k.2 c4).2 c5)))))))))))) (H.2 c1)))))))))))
theorem s186_98 {sc : cmS} {d : Nat} {h : cmH} {Q : Option Value → cmH → Prop} (x1 : Int32) (sx0 : Int32) (H : cm_wp sc d 186 99 [some (.ref 38), some (.int x1)] [.int (0 : Int32), .int sx0, .ref 59] h Q) : cm_wp sc d 186 98 [some (.ref 38), some (.int x1)] [.int sx0, .ref 59] h Q :=
  wl_ic (v := 0) d186_98 rfl (H)
theorem s186_99 {sc : cmS} {d : Nat} {h : cmH} {Q : Option Value → cmH → Prop} (L : LY h) (x1 : Int32) (sx0 : Int32) (sx1 : Int32) (H : (IX 9 sx1) ∧ (IX 9 x1) ∧ (((¬ (cm_I h 52 x1.toNatClampNeg) = (2 : Int32)) → cm_wp sc (d + 1) 186 136 [some (.ref 38), some (.int x1)] [] (cm_setI (cm_setI (cm_setI (cm_setI h 59 sx1.toNatClampNeg (vp_nar .boolean sx0)) 56 x1.toNatClampNeg (0 : Int32)) 57 x1.toNatClampNeg (0 : Int32)) 58 x1.toNatClampNeg (0 : Int32)) Q) ∧ (¬ (¬ (cm_I h 52 x1.toNatClampNeg) = (2 : Int32)) → cm_cv sc d 189 [.ref 38, .int x1] (cm_setI (cm_setI (cm_setI (cm_setI h 59 sx1.toNatClampNeg (vp_nar .boolean sx0)) 56 x1.toNatClampNeg (0 : Int32)) 57 x1.toNatClampNeg (0 : Int32)) 58 x1.toNatClampNeg (0 : Int32)) (fun h' => cm_wp sc (d + 1) 186 136 [some (.ref 38), some (.int x1)] [] h' Q)))) : cm_wp sc (d + 1) 186 99 [some (.ref 38), some (.int x1)] [.int sx0, .int sx1, .ref 59] h Q :=
  And.elim (fun g1 g1k => wl_if (h' := (cm_setI h 59 sx1.toNatClampNeg (vp_nar .boolean sx0))) d186_99 rfl rfl rfl rfl (ly_o L 59 rfl g1) (wl_st d186_100 rfl rfl rfl rfl (wl_gr (b := 56) d186_101 pf11_61 (ly_k L 38 rfl) rfl (ly_r L 38 19 rfl) (wl_st d186_104 rfl rfl rfl rfl (wl_ic (v := 0) d186_105 rfl (And.elim (fun g2 g2k => wl_if (h' := (cm_setI (cm_setI h 59 sx1.toNatClampNeg (vp_nar .boolean sx0)) 56 x1.toNatClampNeg (0 : Int32))) d186_106 rfl rfl rfl rfl (ly_o L 56 rfl g2) (wl_st d186_107 rfl rfl rfl rfl (wl_gr (b := 57) d186_108 pf11_64 (ly_k L 38 rfl) rfl (ly_r L 38 20 rfl) (wl_st d186_111 rfl rfl rfl rfl (wl_ic (v := 0) d186_112 rfl (wl_if (h' := (cm_setI (cm_setI (cm_setI h 59 sx1.toNatClampNeg (vp_nar .boolean sx0)) 56 x1.toNatClampNeg (0 : Int32)) 57 x1.toNatClampNeg (0 : Int32))) d186_113 rfl rfl rfl rfl (ly_o L 57 rfl g2) (wl_st d186_114 rfl rfl rfl rfl (wl_gr (b := 58) d186_115 pf11_67 (ly_k L 38 rfl) rfl (ly_r L 38 21 rfl) (wl_st d186_118 rfl rfl rfl rfl (wl_ic (v := 0) d186_119 rfl (wl_if (h' := (cm_setI (cm_setI (cm_setI (cm_setI h 59 sx1.toNatClampNeg (vp_nar .boolean sx0)) 56 x1.toNatClampNeg (0 : Int32)) 57 x1.toNatClampNeg (0 : Int32)) 58 x1.toNatClampNeg (0 : Int32))) d186_120 rfl rfl rfl rfl (ly_o L 58 rfl g2) (wl_st d186_121 rfl rfl rfl rfl (wl_gr (b := 52) d186_122 pf11_49 (ly_k L 38 rfl) rfl (ly_r L 38 15 rfl) (wl_st d186_125 rfl rfl rfl rfl (wl_if (g := cm_ok (cm_setI (cm_setI (cm_setI (cm_setI h 59 sx1.toNatClampNeg (vp_nar .boolean sx0)) 56 x1.toNatClampNeg (0 : Int32)) 57 x1.toNatClampNeg (0 : Int32)) 58 x1.toNatClampNeg (0 : Int32)) 13 52 x1) (st' := [.int (cm_I h 52 x1.toNatClampNeg)]) d186_126 rfl rfl rfl rfl (ly_o L 52 rfl g2) (wl_ic (v := 2) d186_127 rfl (wl_cb (b := ¬ (cm_I h 52 x1.toNatClampNeg) = (2 : Int32)) (off := 8) (tgt := 136) (pc3 := 131) (st' := []) d186_128 rfl rfl rfl rfl (by decide) rfl (fun c3 => (g2k.1 c3)) (fun c3 => wl_st d186_131 rfl rfl rfl rfl (wl_st d186_132 rfl rfl rfl rfl (wl_cv d186_133 rfl rfl rfl pm11_354 (by decide) (ca_v (Or.inl rfl) rfl (Nat.le_of_ble_eq_true rfl) (Nat.le_of_ble_eq_true rfl) (ly_k L 38 rfl).2 (ly_k L 38 rfl).1 (by decide)) (g2k.2 c3))))))))))))))))))))) g1k)))))) H
theorem s186_136 {sc : cmS} {d : Nat} {h : cmH} {Q : Option Value → cmH → Prop} (x1 : Int32) (H : cm_wp sc d 186 62 [some (.ref 38), some (.int (x1 + 1))] [] h Q) : cm_wp sc d 186 136 [some (.ref 38), some (.int x1)] [] h Q :=
  wl_st (ls' := [some (.ref 38), some (.int (x1 + 1))]) d186_136 rfl rfl rfl rfl (wl_go (tgt := 62) d186_139 (by decide) (H))
theorem s186_153 {sc : cmS} {d : Nat} {h : cmH} {Q : Option Value → cmH → Prop} (x1 : Int32) (H : cm_wp sc d 186 155 [some (.ref 38), some (.int (0 : Int32))] [] h Q) : cm_wp sc d 186 153 [some (.ref 38), some (.int x1)] [] h Q :=
  wl_ic (v := 0) d186_153 rfl (wl_st (ls' := [some (.ref 38), some (.int (0 : Int32))]) d186_154 rfl rfl rfl rfl (H))
theorem s186_155 {sc : cmS} {d : Nat} {h : cmH} {Q : Option Value → cmH → Prop} (L : LY h) (x1 : Int32) (H : ((((cm_I h 38 24) ≤ x1) → Q none h) ∧ (¬ ((cm_I h 38 24) ≤ x1) → (IX 9 x1) ∧ (((¬ (cm_I h 59 x1.toNatClampNeg) = 0) → cm_wp sc d 186 189 [some (.ref 38), some (.int x1)] [.int (cm_I h 53 x1.toNatClampNeg), .int x1, .ref 53] h Q) ∧ (¬ (¬ (cm_I h 59 x1.toNatClampNeg) = 0) → (((¬ (cm_I h 52 x1.toNatClampNeg) = (3 : Int32)) → cm_wp sc d 186 194 [some (.ref 38), some (.int x1)] [.int (0 : Int32), .int (cm_I h 53 x1.toNatClampNeg), .int x1, .ref 53] h Q) ∧ (¬ (¬ (cm_I h 52 x1.toNatClampNeg) = (3 : Int32)) → cm_wp sc d 186 189 [some (.ref 38), some (.int x1)] [.int (cm_I h 53 x1.toNatClampNeg), .int x1, .ref 53] h Q))))))) : cm_wp sc d 186 155 [some (.ref 38), some (.int x1)] [] h Q :=
  wl_st d186_155 rfl rfl rfl rfl (wl_st d186_156 rfl rfl rfl rfl (wl_gf (v := .int (cm_I h 38 24)) d186_157 pf11_165 (ly_k L 38 rfl) rfl (wl_cb (b := (cm_I h 38 24) ≤ x1) (off := 42) (tgt := 202) (pc3 := 163) (st' := []) d186_160 rfl rfl rfl rfl (by decide) rfl (fun c1 => wl_rt d186_202 rfl rfl rfl (H.1 c1)) (fun c1 => wl_st d186_163 rfl rfl rfl rfl (wl_gr (b := 53) d186_164 pf11_52 (ly_k L 38 rfl) rfl (ly_r L 38 16 rfl) (wl_st d186_167 rfl rfl rfl rfl (wl_st d186_168 rfl rfl rfl rfl (And.elim (fun g2 g2k => wl_if (g := cm_ok h 13 53 x1) (st' := [.int (cm_I h 53 x1.toNatClampNeg), .int x1, .ref 53]) d186_169 rfl rfl rfl rfl (ly_o L 53 rfl g2) (wl_st d186_170 rfl rfl rfl rfl (wl_gr (b := 59) d186_171 pf11_70 (ly_k L 38 rfl) rfl (ly_r L 38 22 rfl) (wl_st d186_174 rfl rfl rfl rfl (wl_if (g := cm_ok h 15 59 x1) (st' := [.int (cm_I h 59 x1.toNatClampNeg), .int (cm_I h 53 x1.toNatClampNeg), .int x1, .ref 53]) d186_175 rfl rfl rfl rfl (ly_o L 59 rfl g2) (wl_cb (b := ¬ (cm_I h 59 x1.toNatClampNeg) = 0) (off := 13) (tgt := 189) (pc3 := 179) (st' := [.int (cm_I h 53 x1.toNatClampNeg), .int x1, .ref 53]) d186_176 rfl rfl rfl rfl (by decide) rfl (fun c3 => (g2k.1 c3)) (fun c3 => wl_st d186_179 rfl rfl rfl rfl (wl_gr (b := 52) d186_180 pf11_49 (ly_k L 38 rfl) rfl (ly_r L 38 15 rfl) (wl_st d186_183 rfl rfl rfl rfl (wl_if (g := cm_ok h 13 52 x1) (st' := [.int (cm_I h 52 x1.toNatClampNeg), .int (cm_I h 53 x1.toNatClampNeg), .int x1, .ref 53]) d186_184 rfl rfl rfl rfl (ly_o L 52 rfl g2) (wl_ic (v := 3) d186_185 rfl (wl_cb (b := ¬ (cm_I h 52 x1.toNatClampNeg) = (3 : Int32)) (off := 7) (tgt := 193) (pc3 := 189) (st' := [.int (cm_I h 53 x1.toNatClampNeg), .int x1, .ref 53]) d186_186 rfl rfl rfl rfl (by decide) rfl (fun c4 => wl_ic (v := 0) d186_193 rfl (((g2k.2 c3).1 c4))) (fun c4 => ((g2k.2 c3).2 c4)))))))))))))) (H.2 c1)))))))))
theorem s186_189 {sc : cmS} {d : Nat} {h : cmH} {Q : Option Value → cmH → Prop} (x1 : Int32) (sx0 : Int32) (sx1 : Int32) (H : cm_wp sc d 186 194 [some (.ref 38), some (.int x1)] [.int (1 : Int32), .int sx0, .int sx1, .ref 53] h Q) : cm_wp sc d 186 189 [some (.ref 38), some (.int x1)] [.int sx0, .int sx1, .ref 53] h Q :=
  wl_ic (v := 1) d186_189 rfl (wl_go (tgt := 194) d186_190 (by decide) (H))
theorem s186_194 {sc : cmS} {d : Nat} {h : cmH} {Q : Option Value → cmH → Prop} (L : LY h) (x1 : Int32) (sx0 : Int32) (sx1 : Int32) (sx2 : Int32) (H : (IX 9 sx2) ∧ cm_wp sc d 186 155 [some (.ref 38), some (.int (x1 + 1))] [] (cm_setI h 53 sx2.toNatClampNeg (sx1 + sx0)) Q) : cm_wp sc d 186 194 [some (.ref 38), some (.int x1)] [.int sx0, .int sx1, .int sx2, .ref 53] h Q :=
  wl_st d186_194 rfl rfl rfl rfl (And.elim (fun g1 g1k => wl_if (h' := (cm_setI h 53 sx2.toNatClampNeg (sx1 + sx0))) d186_195 rfl rfl rfl rfl (ly_o L 53 rfl g1) (wl_st (ls' := [some (.ref 38), some (.int (x1 + 1))]) d186_196 rfl rfl rfl rfl (wl_go (tgt := 155) d186_199 (by decide) (g1k)))) H)
-- ClogHouseModel.decide(I)V
theorem d187_0 : decode (cm_M 187).2.2.1 0 = .ok (.aload_n 0, 1) := by decide +kernel
theorem d187_1 : decode (cm_M 187).2.2.1 1 = .ok (.getfield 49, 3) := by decide +kernel
theorem d187_4 : decode (cm_M 187).2.2.1 4 = .ok (.iload_n 1, 1) := by decide +kernel
theorem d187_5 : decode (cm_M 187).2.2.1 5 = .ok (.iconst 1, 1) := by decide +kernel
theorem d187_6 : decode (cm_M 187).2.2.1 6 = .ok (.iastore, 1) := by decide +kernel
theorem d187_7 : decode (cm_M 187).2.2.1 7 = .ok (.aload_n 0, 1) := by decide +kernel
theorem d187_8 : decode (cm_M 187).2.2.1 8 = .ok (.getfield 58, 3) := by decide +kernel
theorem d187_11 : decode (cm_M 187).2.2.1 11 = .ok (.iload_n 1, 1) := by decide +kernel
theorem d187_12 : decode (cm_M 187).2.2.1 12 = .ok (.iaload, 1) := by decide +kernel
theorem d187_13 : decode (cm_M 187).2.2.1 13 = .ok (.iconst (-1), 1) := by decide +kernel
theorem d187_14 : decode (cm_M 187).2.2.1 14 = .ok (.if_icmp .eq 218, 3) := by decide +kernel
theorem d187_17 : decode (cm_M 187).2.2.1 17 = .ok (.aload_n 0, 1) := by decide +kernel
theorem d187_18 : decode (cm_M 187).2.2.1 18 = .ok (.getfield 89, 3) := by decide +kernel
theorem d187_21 : decode (cm_M 187).2.2.1 21 = .ok (.bipush 112, 2) := by decide +kernel
theorem d187_23 : decode (cm_M 187).2.2.1 23 = .ok (.aload_n 0, 1) := by decide +kernel
theorem d187_24 : decode (cm_M 187).2.2.1 24 = .ok (.getfield 70, 3) := by decide +kernel
theorem d187_27 : decode (cm_M 187).2.2.1 27 = .ok (.iload_n 1, 1) := by decide +kernel
theorem d187_28 : decode (cm_M 187).2.2.1 28 = .ok (.baload, 1) := by decide +kernel
theorem d187_29 : decode (cm_M 187).2.2.1 29 = .ok (.ifCond .eq 12, 3) := by decide +kernel
theorem d187_32 : decode (cm_M 187).2.2.1 32 = .ok (.aload_n 0, 1) := by decide +kernel
theorem d187_33 : decode (cm_M 187).2.2.1 33 = .ok (.getfield 64, 3) := by decide +kernel
theorem d187_36 : decode (cm_M 187).2.2.1 36 = .ok (.iload_n 1, 1) := by decide +kernel
theorem d187_37 : decode (cm_M 187).2.2.1 37 = .ok (.iaload, 1) := by decide +kernel
theorem d187_38 : decode (cm_M 187).2.2.1 38 = .ok (.goto 4, 3) := by decide +kernel
theorem d187_41 : decode (cm_M 187).2.2.1 41 = .ok (.iconst 0, 1) := by decide +kernel
theorem d187_42 : decode (cm_M 187).2.2.1 42 = .ok (.iastore, 1) := by decide +kernel
theorem d187_43 : decode (cm_M 187).2.2.1 43 = .ok (.aload_n 0, 1) := by decide +kernel
theorem d187_44 : decode (cm_M 187).2.2.1 44 = .ok (.getfield 89, 3) := by decide +kernel
theorem d187_47 : decode (cm_M 187).2.2.1 47 = .ok (.bipush 104, 2) := by decide +kernel
theorem d187_49 : decode (cm_M 187).2.2.1 49 = .ok (.aload_n 0, 1) := by decide +kernel
theorem d187_50 : decode (cm_M 187).2.2.1 50 = .ok (.getfield 52, 3) := by decide +kernel
theorem d187_53 : decode (cm_M 187).2.2.1 53 = .ok (.iload_n 1, 1) := by decide +kernel
theorem d187_54 : decode (cm_M 187).2.2.1 54 = .ok (.iaload, 1) := by decide +kernel
theorem d187_55 : decode (cm_M 187).2.2.1 55 = .ok (.iastore, 1) := by decide +kernel
theorem d187_56 : decode (cm_M 187).2.2.1 56 = .ok (.aload_n 0, 1) := by decide +kernel
theorem d187_57 : decode (cm_M 187).2.2.1 57 = .ok (.getfield 89, 3) := by decide +kernel
theorem d187_60 : decode (cm_M 187).2.2.1 60 = .ok (.bipush 111, 2) := by decide +kernel
theorem d187_62 : decode (cm_M 187).2.2.1 62 = .ok (.aload_n 0, 1) := by decide +kernel
theorem d187_63 : decode (cm_M 187).2.2.1 63 = .ok (.getfield 70, 3) := by decide +kernel
theorem d187_66 : decode (cm_M 187).2.2.1 66 = .ok (.iload_n 1, 1) := by decide +kernel
theorem d187_67 : decode (cm_M 187).2.2.1 67 = .ok (.baload, 1) := by decide +kernel
theorem d187_68 : decode (cm_M 187).2.2.1 68 = .ok (.ifCond .eq 12, 3) := by decide +kernel
theorem d187_71 : decode (cm_M 187).2.2.1 71 = .ok (.aload_n 0, 1) := by decide +kernel
theorem d187_72 : decode (cm_M 187).2.2.1 72 = .ok (.getfield 67, 3) := by decide +kernel
theorem d187_75 : decode (cm_M 187).2.2.1 75 = .ok (.iload_n 1, 1) := by decide +kernel
theorem d187_76 : decode (cm_M 187).2.2.1 76 = .ok (.iaload, 1) := by decide +kernel
theorem d187_77 : decode (cm_M 187).2.2.1 77 = .ok (.goto 4, 3) := by decide +kernel
theorem d187_80 : decode (cm_M 187).2.2.1 80 = .ok (.iconst 0, 1) := by decide +kernel
theorem d187_81 : decode (cm_M 187).2.2.1 81 = .ok (.iastore, 1) := by decide +kernel
theorem d187_82 : decode (cm_M 187).2.2.1 82 = .ok (.aload_n 0, 1) := by decide +kernel
theorem d187_83 : decode (cm_M 187).2.2.1 83 = .ok (.getfield 89, 3) := by decide +kernel
theorem d187_86 : decode (cm_M 187).2.2.1 86 = .ok (.bipush 105, 2) := by decide +kernel
theorem d187_88 : decode (cm_M 187).2.2.1 88 = .ok (.iload_n 1, 1) := by decide +kernel
theorem d187_89 : decode (cm_M 187).2.2.1 89 = .ok (.iastore, 1) := by decide +kernel
theorem d187_90 : decode (cm_M 187).2.2.1 90 = .ok (.aload_n 0, 1) := by decide +kernel
theorem d187_91 : decode (cm_M 187).2.2.1 91 = .ok (.getfield 89, 3) := by decide +kernel
theorem d187_94 : decode (cm_M 187).2.2.1 94 = .ok (.bipush 110, 2) := by decide +kernel
theorem d187_96 : decode (cm_M 187).2.2.1 96 = .ok (.aload_n 0, 1) := by decide +kernel
theorem d187_97 : decode (cm_M 187).2.2.1 97 = .ok (.getfield 55, 3) := by decide +kernel
theorem d187_100 : decode (cm_M 187).2.2.1 100 = .ok (.iload_n 1, 1) := by decide +kernel
theorem d187_101 : decode (cm_M 187).2.2.1 101 = .ok (.iaload, 1) := by decide +kernel
theorem d187_102 : decode (cm_M 187).2.2.1 102 = .ok (.iastore, 1) := by decide +kernel
theorem d187_103 : decode (cm_M 187).2.2.1 103 = .ok (.aload_n 0, 1) := by decide +kernel
theorem d187_104 : decode (cm_M 187).2.2.1 104 = .ok (.getfield 89, 3) := by decide +kernel
theorem d187_107 : decode (cm_M 187).2.2.1 107 = .ok (.bipush 107, 2) := by decide +kernel
theorem d187_109 : decode (cm_M 187).2.2.1 109 = .ok (.aload_n 0, 1) := by decide +kernel
theorem d187_110 : decode (cm_M 187).2.2.1 110 = .ok (.iload_n 1, 1) := by decide +kernel
theorem d187_111 : decode (cm_M 187).2.2.1 111 = .ok (.invokevirtual 195, 3) := by decide +kernel
theorem d187_114 : decode (cm_M 187).2.2.1 114 = .ok (.iastore, 1) := by decide +kernel
theorem d187_115 : decode (cm_M 187).2.2.1 115 = .ok (.aload_n 0, 1) := by decide +kernel
theorem d187_116 : decode (cm_M 187).2.2.1 116 = .ok (.aload_n 0, 1) := by decide +kernel
theorem d187_117 : decode (cm_M 187).2.2.1 117 = .ok (.getfield 58, 3) := by decide +kernel
theorem d187_120 : decode (cm_M 187).2.2.1 120 = .ok (.iload_n 1, 1) := by decide +kernel
theorem d187_121 : decode (cm_M 187).2.2.1 121 = .ok (.iaload, 1) := by decide +kernel
theorem d187_122 : decode (cm_M 187).2.2.1 122 = .ok (.bipush 99, 2) := by decide +kernel
theorem d187_124 : decode (cm_M 187).2.2.1 124 = .ok (.invokevirtual 316, 3) := by decide +kernel
theorem d187_127 : decode (cm_M 187).2.2.1 127 = .ok (.ifCond .eq 11, 3) := by decide +kernel
theorem d187_130 : decode (cm_M 187).2.2.1 130 = .ok (.aload_n 0, 1) := by decide +kernel
theorem d187_131 : decode (cm_M 187).2.2.1 131 = .ok (.iload_n 1, 1) := by decide +kernel
theorem d187_132 : decode (cm_M 187).2.2.1 132 = .ok (.invokevirtual 322, 3) := by decide +kernel
theorem d187_135 : decode (cm_M 187).2.2.1 135 = .ok (.goto 97, 3) := by decide +kernel
theorem d187_138 : decode (cm_M 187).2.2.1 138 = .ok (.aload_n 0, 1) := by decide +kernel
theorem d187_139 : decode (cm_M 187).2.2.1 139 = .ok (.aload_n 0, 1) := by decide +kernel
theorem d187_140 : decode (cm_M 187).2.2.1 140 = .ok (.getfield 58, 3) := by decide +kernel
theorem d187_143 : decode (cm_M 187).2.2.1 143 = .ok (.iload_n 1, 1) := by decide +kernel
theorem d187_144 : decode (cm_M 187).2.2.1 144 = .ok (.iaload, 1) := by decide +kernel
theorem d187_145 : decode (cm_M 187).2.2.1 145 = .ok (.bipush 119, 2) := by decide +kernel
theorem d187_147 : decode (cm_M 187).2.2.1 147 = .ok (.invokevirtual 316, 3) := by decide +kernel
theorem d187_150 : decode (cm_M 187).2.2.1 150 = .ok (.ifCond .eq 60, 3) := by decide +kernel
theorem d187_153 : decode (cm_M 187).2.2.1 153 = .ok (.aload_n 0, 1) := by decide +kernel
theorem d187_154 : decode (cm_M 187).2.2.1 154 = .ok (.getfield 117, 3) := by decide +kernel
theorem d187_157 : decode (cm_M 187).2.2.1 157 = .ok (.iload_n 1, 1) := by decide +kernel
theorem d187_158 : decode (cm_M 187).2.2.1 158 = .ok (.iconst 0, 1) := by decide +kernel
theorem d187_159 : decode (cm_M 187).2.2.1 159 = .ok (.sipush 1000, 3) := by decide +kernel
theorem d187_162 : decode (cm_M 187).2.2.1 162 = .ok (.aload_n 0, 1) := by decide +kernel
theorem d187_163 : decode (cm_M 187).2.2.1 163 = .ok (.aload_n 0, 1) := by decide +kernel
theorem d187_164 : decode (cm_M 187).2.2.1 164 = .ok (.getfield 58, 3) := by decide +kernel
theorem d187_167 : decode (cm_M 187).2.2.1 167 = .ok (.iload_n 1, 1) := by decide +kernel
theorem d187_168 : decode (cm_M 187).2.2.1 168 = .ok (.iaload, 1) := by decide +kernel
theorem d187_169 : decode (cm_M 187).2.2.1 169 = .ok (.bipush 117, 2) := by decide +kernel
theorem d187_171 : decode (cm_M 187).2.2.1 171 = .ok (.invokevirtual 316, 3) := by decide +kernel
theorem d187_174 : decode (cm_M 187).2.2.1 174 = .ok (.invokestatic 325, 3) := by decide +kernel
theorem d187_177 : decode (cm_M 187).2.2.1 177 = .ok (.invokestatic 172, 3) := by decide +kernel
theorem d187_180 : decode (cm_M 187).2.2.1 180 = .ok (.iastore, 1) := by decide +kernel
theorem d187_181 : decode (cm_M 187).2.2.1 181 = .ok (.aload_n 0, 1) := by decide +kernel
theorem d187_182 : decode (cm_M 187).2.2.1 182 = .ok (.getfield 49, 3) := by decide +kernel
theorem d187_185 : decode (cm_M 187).2.2.1 185 = .ok (.iload_n 1, 1) := by decide +kernel
theorem d187_186 : decode (cm_M 187).2.2.1 186 = .ok (.aload_n 0, 1) := by decide +kernel
theorem d187_187 : decode (cm_M 187).2.2.1 187 = .ok (.getfield 55, 3) := by decide +kernel
theorem d187_190 : decode (cm_M 187).2.2.1 190 = .ok (.iload_n 1, 1) := by decide +kernel
theorem d187_191 : decode (cm_M 187).2.2.1 191 = .ok (.iaload, 1) := by decide +kernel
theorem d187_192 : decode (cm_M 187).2.2.1 192 = .ok (.aload_n 0, 1) := by decide +kernel
theorem d187_193 : decode (cm_M 187).2.2.1 193 = .ok (.getfield 46, 3) := by decide +kernel
theorem d187_196 : decode (cm_M 187).2.2.1 196 = .ok (.iload_n 1, 1) := by decide +kernel
theorem d187_197 : decode (cm_M 187).2.2.1 197 = .ok (.iaload, 1) := by decide +kernel
theorem d187_198 : decode (cm_M 187).2.2.1 198 = .ok (.if_icmp .lt 7, 3) := by decide +kernel
theorem d187_201 : decode (cm_M 187).2.2.1 201 = .ok (.iconst 5, 1) := by decide +kernel
theorem d187_202 : decode (cm_M 187).2.2.1 202 = .ok (.goto 4, 3) := by decide +kernel
theorem d187_205 : decode (cm_M 187).2.2.1 205 = .ok (.iconst 2, 1) := by decide +kernel
theorem d187_206 : decode (cm_M 187).2.2.1 206 = .ok (.iastore, 1) := by decide +kernel
theorem d187_207 : decode (cm_M 187).2.2.1 207 = .ok (.goto 25, 3) := by decide +kernel
theorem d187_210 : decode (cm_M 187).2.2.1 210 = .ok (.aload_n 0, 1) := by decide +kernel
theorem d187_211 : decode (cm_M 187).2.2.1 211 = .ok (.aload_n 0, 1) := by decide +kernel
theorem d187_212 : decode (cm_M 187).2.2.1 212 = .ok (.getfield 58, 3) := by decide +kernel
theorem d187_215 : decode (cm_M 187).2.2.1 215 = .ok (.iload_n 1, 1) := by decide +kernel
theorem d187_216 : decode (cm_M 187).2.2.1 216 = .ok (.iaload, 1) := by decide +kernel
theorem d187_217 : decode (cm_M 187).2.2.1 217 = .ok (.bipush 114, 2) := by decide +kernel
theorem d187_219 : decode (cm_M 187).2.2.1 219 = .ok (.invokevirtual 316, 3) := by decide +kernel
theorem d187_222 : decode (cm_M 187).2.2.1 222 = .ok (.ifCond .eq 10, 3) := by decide +kernel
theorem d187_225 : decode (cm_M 187).2.2.1 225 = .ok (.aload_n 0, 1) := by decide +kernel
theorem d187_226 : decode (cm_M 187).2.2.1 226 = .ok (.getfield 49, 3) := by decide +kernel
theorem d187_229 : decode (cm_M 187).2.2.1 229 = .ok (.iload_n 1, 1) := by decide +kernel
theorem d187_230 : decode (cm_M 187).2.2.1 230 = .ok (.iconst 3, 1) := by decide +kernel
theorem d187_231 : decode (cm_M 187).2.2.1 231 = .ok (.iastore, 1) := by decide +kernel
theorem d187_232 : decode (cm_M 187).2.2.1 232 = .ok (.aload_n 0, 1) := by decide +kernel
theorem d187_233 : decode (cm_M 187).2.2.1 233 = .ok (.getfield 74, 3) := by decide +kernel
theorem d187_236 : decode (cm_M 187).2.2.1 236 = .ok (.iload_n 1, 1) := by decide +kernel
theorem d187_237 : decode (cm_M 187).2.2.1 237 = .ok (.aload_n 0, 1) := by decide +kernel
theorem d187_238 : decode (cm_M 187).2.2.1 238 = .ok (.getfield 74, 3) := by decide +kernel
theorem d187_241 : decode (cm_M 187).2.2.1 241 = .ok (.iload_n 1, 1) := by decide +kernel
theorem d187_242 : decode (cm_M 187).2.2.1 242 = .ok (.baload, 1) := by decide +kernel
theorem d187_243 : decode (cm_M 187).2.2.1 243 = .ok (.ifCond .ne 13, 3) := by decide +kernel
theorem d187_246 : decode (cm_M 187).2.2.1 246 = .ok (.aload_n 0, 1) := by decide +kernel
theorem d187_247 : decode (cm_M 187).2.2.1 247 = .ok (.getfield 49, 3) := by decide +kernel
theorem d187_250 : decode (cm_M 187).2.2.1 250 = .ok (.iload_n 1, 1) := by decide +kernel
theorem d187_251 : decode (cm_M 187).2.2.1 251 = .ok (.iaload, 1) := by decide +kernel
theorem d187_252 : decode (cm_M 187).2.2.1 252 = .ok (.iconst 1, 1) := by decide +kernel
theorem d187_253 : decode (cm_M 187).2.2.1 253 = .ok (.if_icmp .ne 7, 3) := by decide +kernel
theorem d187_256 : decode (cm_M 187).2.2.1 256 = .ok (.iconst 1, 1) := by decide +kernel
theorem d187_257 : decode (cm_M 187).2.2.1 257 = .ok (.goto 4, 3) := by decide +kernel
theorem d187_260 : decode (cm_M 187).2.2.1 260 = .ok (.iconst 0, 1) := by decide +kernel
theorem d187_261 : decode (cm_M 187).2.2.1 261 = .ok (.bastore, 1) := by decide +kernel
theorem d187_262 : decode (cm_M 187).2.2.1 262 = .ok (.return_, 1) := by decide +kernel
theorem s187_0 {sc : cmS} {d : Nat} {h : cmH} {Q : Option Value → cmH → Prop} (L : LY h) (x1 : Int32) (H : (IX 9 x1) ∧ ((((cm_I h 55 x1.toNatClampNeg) = (-1 : Int32)) → cm_wp sc d 187 232 [some (.ref 38), some (.int x1)] [] (cm_setI h 52 x1.toNatClampNeg (1 : Int32)) Q) ∧ (¬ ((cm_I h 55 x1.toNatClampNeg) = (-1 : Int32)) → ((((cm_I h 59 x1.toNatClampNeg) = 0) → cm_wp sc d 187 42 [some (.ref 38), some (.int x1)] [.int (0 : Int32), .int (112 : Int32), .ref 65] (cm_setI h 52 x1.toNatClampNeg (1 : Int32)) Q) ∧ (¬ ((cm_I h 59 x1.toNatClampNeg) = 0) → cm_wp sc d 187 42 [some (.ref 38), some (.int x1)] [.int (cm_I h 57 x1.toNatClampNeg), .int (112 : Int32), .ref 65] (cm_setI h 52 x1.toNatClampNeg (1 : Int32)) Q))))) : cm_wp sc d 187 0 [some (.ref 38), some (.int x1)] [] h Q :=
  wl_st d187_0 rfl rfl rfl rfl (wl_gr (b := 52) d187_1 pf11_49 (ly_k L 38 rfl) rfl (ly_r L 38 15 rfl) (wl_st d187_4 rfl rfl rfl rfl (wl_ic (v := 1) d187_5 rfl (And.elim (fun g1 g1k => wl_if (h' := (cm_setI h 52 x1.toNatClampNeg (1 : Int32))) d187_6 rfl rfl rfl rfl (ly_o L 52 rfl g1) (wl_st d187_7 rfl rfl rfl rfl (wl_gr (b := 55) d187_8 pf11_58 (ly_k L 38 rfl) rfl (ly_r L 38 18 rfl) (wl_st d187_11 rfl rfl rfl rfl (wl_if (g := cm_ok (cm_setI h 52 x1.toNatClampNeg (1 : Int32)) 13 55 x1) (st' := [.int (cm_I h 55 x1.toNatClampNeg)]) d187_12 rfl rfl rfl rfl (ly_o L 55 rfl g1) (wl_ic (v := (-1)) d187_13 rfl (wl_cb (b := (cm_I h 55 x1.toNatClampNeg) = (-1 : Int32)) (off := 218) (tgt := 232) (pc3 := 17) (st' := []) d187_14 rfl rfl rfl rfl (by decide) rfl (fun c2 => (g1k.1 c2)) (fun c2 => wl_st d187_17 rfl rfl rfl rfl (wl_gr (b := 65) d187_18 pf11_89 (ly_k L 38 rfl) rfl (ly_r L 38 35 rfl) (wl_bi (v := 112) d187_21 rfl (wl_st d187_23 rfl rfl rfl rfl (wl_gr (b := 59) d187_24 pf11_70 (ly_k L 38 rfl) rfl (ly_r L 38 22 rfl) (wl_st d187_27 rfl rfl rfl rfl (wl_if (g := cm_ok (cm_setI h 52 x1.toNatClampNeg (1 : Int32)) 15 59 x1) (st' := [.int (cm_I h 59 x1.toNatClampNeg), .int (112 : Int32), .ref 65]) d187_28 rfl rfl rfl rfl (ly_o L 59 rfl g1) (wl_cb (b := (cm_I h 59 x1.toNatClampNeg) = 0) (off := 12) (tgt := 41) (pc3 := 32) (st' := [.int (112 : Int32), .ref 65]) d187_29 rfl rfl rfl rfl (by decide) rfl (fun c3 => wl_ic (v := 0) d187_41 rfl (((g1k.2 c2).1 c3))) (fun c3 => wl_st d187_32 rfl rfl rfl rfl (wl_gr (b := 57) d187_33 pf11_64 (ly_k L 38 rfl) rfl (ly_r L 38 20 rfl) (wl_st d187_36 rfl rfl rfl rfl (wl_if (g := cm_ok (cm_setI h 52 x1.toNatClampNeg (1 : Int32)) 13 57 x1) (st' := [.int (cm_I h 57 x1.toNatClampNeg), .int (112 : Int32), .ref 65]) d187_37 rfl rfl rfl rfl (ly_o L 57 rfl g1) (wl_go (tgt := 42) d187_38 (by decide) (((g1k.2 c2).2 c3)))))))))))))))))))))) H))))
theorem s187_42 {sc : cmS} {d : Nat} {h : cmH} {Q : Option Value → cmH → Prop} (L : LY h) (x1 : Int32) (sx0 : Int32) (sx1 : Int32) (H : (IX 128 sx1) ∧ (IX 9 x1) ∧ ((((cm_I h 59 x1.toNatClampNeg) = 0) → cm_wp sc d 187 81 [some (.ref 38), some (.int x1)] [.int (0 : Int32), .int (111 : Int32), .ref 65] (cm_setI (cm_setI h 65 sx1.toNatClampNeg sx0) 65 104 (cm_I h 53 x1.toNatClampNeg)) Q) ∧ (¬ ((cm_I h 59 x1.toNatClampNeg) = 0) → cm_wp sc d 187 81 [some (.ref 38), some (.int x1)] [.int (cm_I h 58 x1.toNatClampNeg), .int (111 : Int32), .ref 65] (cm_setI (cm_setI h 65 sx1.toNatClampNeg sx0) 65 104 (cm_I h 53 x1.toNatClampNeg)) Q))) : cm_wp sc d 187 42 [some (.ref 38), some (.int x1)] [.int sx0, .int sx1, .ref 65] h Q :=
  And.elim (fun g1 g1k => wl_if (h' := (cm_setI h 65 sx1.toNatClampNeg sx0)) d187_42 rfl rfl rfl rfl (ly_o L 65 rfl g1) (wl_st d187_43 rfl rfl rfl rfl (wl_gr (b := 65) d187_44 pf11_89 (ly_k L 38 rfl) rfl (ly_r L 38 35 rfl) (wl_bi (v := 104) d187_47 rfl (wl_st d187_49 rfl rfl rfl rfl (wl_gr (b := 53) d187_50 pf11_52 (ly_k L 38 rfl) rfl (ly_r L 38 16 rfl) (wl_st d187_53 rfl rfl rfl rfl (And.elim (fun g2 g2k => wl_if (g := cm_ok (cm_setI h 65 sx1.toNatClampNeg sx0) 13 53 x1) (st' := [.int (cm_I h 53 x1.toNatClampNeg), .int (104 : Int32), .ref 65]) d187_54 rfl rfl rfl rfl (ly_o L 53 rfl g2) (wl_if (h' := (cm_setI (cm_setI h 65 sx1.toNatClampNeg sx0) 65 104 (cm_I h 53 x1.toNatClampNeg))) d187_55 rfl rfl rfl rfl (ly_o L 65 rfl (by decide)) (wl_st d187_56 rfl rfl rfl rfl (wl_gr (b := 65) d187_57 pf11_89 (ly_k L 38 rfl) rfl (ly_r L 38 35 rfl) (wl_bi (v := 111) d187_60 rfl (wl_st d187_62 rfl rfl rfl rfl (wl_gr (b := 59) d187_63 pf11_70 (ly_k L 38 rfl) rfl (ly_r L 38 22 rfl) (wl_st d187_66 rfl rfl rfl rfl (wl_if (g := cm_ok (cm_setI (cm_setI h 65 sx1.toNatClampNeg sx0) 65 104 (cm_I h 53 x1.toNatClampNeg)) 15 59 x1) (st' := [.int (cm_I h 59 x1.toNatClampNeg), .int (111 : Int32), .ref 65]) d187_67 rfl rfl rfl rfl (ly_o L 59 rfl g2) (wl_cb (b := (cm_I h 59 x1.toNatClampNeg) = 0) (off := 12) (tgt := 80) (pc3 := 71) (st' := [.int (111 : Int32), .ref 65]) d187_68 rfl rfl rfl rfl (by decide) rfl (fun c3 => wl_ic (v := 0) d187_80 rfl ((g2k.1 c3))) (fun c3 => wl_st d187_71 rfl rfl rfl rfl (wl_gr (b := 58) d187_72 pf11_67 (ly_k L 38 rfl) rfl (ly_r L 38 21 rfl) (wl_st d187_75 rfl rfl rfl rfl (wl_if (g := cm_ok (cm_setI (cm_setI h 65 sx1.toNatClampNeg sx0) 65 104 (cm_I h 53 x1.toNatClampNeg)) 13 58 x1) (st' := [.int (cm_I h 58 x1.toNatClampNeg), .int (111 : Int32), .ref 65]) d187_76 rfl rfl rfl rfl (ly_o L 58 rfl g2) (wl_go (tgt := 81) d187_77 (by decide) ((g2k.2 c3))))))))))))))))) g1k)))))))) H
theorem s187_81 {sc : cmS} {d : Nat} {h : cmH} {Q : Option Value → cmH → Prop} (L : LY h) (x1 : Int32) (sx0 : Int32) (sx1 : Int32) (H : (IX 128 sx1) ∧ (IX 9 x1) ∧ cm_ci sc d 149 [.ref 38, .int x1] (cm_setI (cm_setI (cm_setI h 65 sx1.toNatClampNeg sx0) 65 105 x1) 65 110 (cm_I h 54 x1.toNatClampNeg)) (fun r h' => cm_wp sc (d + 1) 187 114 [some (.ref 38), some (.int x1)] [.int r, .int (107 : Int32), .ref 65] h' Q)) : cm_wp sc (d + 1) 187 81 [some (.ref 38), some (.int x1)] [.int sx0, .int sx1, .ref 65] h Q :=
  And.elim (fun g1 g1k => wl_if (h' := (cm_setI h 65 sx1.toNatClampNeg sx0)) d187_81 rfl rfl rfl rfl (ly_o L 65 rfl g1) (wl_st d187_82 rfl rfl rfl rfl (wl_gr (b := 65) d187_83 pf11_89 (ly_k L 38 rfl) rfl (ly_r L 38 35 rfl) (wl_bi (v := 105) d187_86 rfl (wl_st d187_88 rfl rfl rfl rfl (wl_if (h' := (cm_setI (cm_setI h 65 sx1.toNatClampNeg sx0) 65 105 x1)) d187_89 rfl rfl rfl rfl (ly_o L 65 rfl (by decide)) (wl_st d187_90 rfl rfl rfl rfl (wl_gr (b := 65) d187_91 pf11_89 (ly_k L 38 rfl) rfl (ly_r L 38 35 rfl) (wl_bi (v := 110) d187_94 rfl (wl_st d187_96 rfl rfl rfl rfl (wl_gr (b := 54) d187_97 pf11_55 (ly_k L 38 rfl) rfl (ly_r L 38 17 rfl) (wl_st d187_100 rfl rfl rfl rfl (And.elim (fun g2 g2k => wl_if (g := cm_ok (cm_setI (cm_setI h 65 sx1.toNatClampNeg sx0) 65 105 x1) 13 54 x1) (st' := [.int (cm_I h 54 x1.toNatClampNeg), .int (110 : Int32), .ref 65]) d187_101 rfl rfl rfl rfl (ly_o L 54 rfl g2) (wl_if (h' := (cm_setI (cm_setI (cm_setI h 65 sx1.toNatClampNeg sx0) 65 105 x1) 65 110 (cm_I h 54 x1.toNatClampNeg))) d187_102 rfl rfl rfl rfl (ly_o L 65 rfl (by decide)) (wl_st d187_103 rfl rfl rfl rfl (wl_gr (b := 65) d187_104 pf11_89 (ly_k L 38 rfl) rfl (ly_r L 38 35 rfl) (wl_bi (v := 107) d187_107 rfl (wl_st d187_109 rfl rfl rfl rfl (wl_st d187_110 rfl rfl rfl rfl (wl_ci d187_111 rfl rfl rfl pm11_195 (by decide) (ca_v (Or.inl rfl) rfl (Nat.le_of_ble_eq_true rfl) (Nat.le_of_ble_eq_true rfl) (ly_k L 38 rfl).2 (ly_k L 38 rfl).1 (by decide)) g2k)))))))) g1k))))))))))))) H
theorem s187_114 {sc : cmS} {d : Nat} {h : cmH} {Q : Option Value → cmH → Prop} (L : LY h) (x1 : Int32) (sx0 : Int32) (sx1 : Int32) (H : (IX 128 sx1) ∧ (IX 9 x1) ∧ cm_ci sc d 179 [.ref 38, .int (cm_I h 55 x1.toNatClampNeg), .int (99 : Int32)] (cm_setI h 65 sx1.toNatClampNeg sx0) (fun r h' => cm_wp sc (d + 1) 187 127 [some (.ref 38), some (.int x1)] [.int r] h' Q)) : cm_wp sc (d + 1) 187 114 [some (.ref 38), some (.int x1)] [.int sx0, .int sx1, .ref 65] h Q :=
  And.elim (fun g1 g1k => wl_if (h' := (cm_setI h 65 sx1.toNatClampNeg sx0)) d187_114 rfl rfl rfl rfl (ly_o L 65 rfl g1) (wl_st d187_115 rfl rfl rfl rfl (wl_st d187_116 rfl rfl rfl rfl (wl_gr (b := 55) d187_117 pf11_58 (ly_k L 38 rfl) rfl (ly_r L 38 18 rfl) (wl_st d187_120 rfl rfl rfl rfl (And.elim (fun g2 g2k => wl_if (g := cm_ok (cm_setI h 65 sx1.toNatClampNeg sx0) 13 55 x1) (st' := [.int (cm_I h 55 x1.toNatClampNeg), .ref 38]) d187_121 rfl rfl rfl rfl (ly_o L 55 rfl g2) (wl_bi (v := 99) d187_122 rfl (wl_ci d187_124 rfl rfl rfl pm11_316 (by decide) (ca_v (Or.inl rfl) rfl (Nat.le_of_ble_eq_true rfl) (Nat.le_of_ble_eq_true rfl) (ly_k L 38 rfl).2 (ly_k L 38 rfl).1 (by decide)) g2k))) g1k)))))) H
theorem s187_127 {sc : cmS} {d : Nat} {h : cmH} {Q : Option Value → cmH → Prop} (L : LY h) (x1 : Int32) (sx0 : Int32) (H : (((sx0 = 0) → (IX 9 x1) ∧ cm_ci sc d 179 [.ref 38, .int (cm_I h 55 x1.toNatClampNeg), .int (119 : Int32)] h (fun r h' => cm_wp sc (d + 1) 187 150 [some (.ref 38), some (.int x1)] [.int r] h' Q)) ∧ (¬ (sx0 = 0) → cm_cv sc d 188 [.ref 38, .int x1] h (fun h' => cm_wp sc (d + 1) 187 135 [some (.ref 38), some (.int x1)] [] h' Q)))) : cm_wp sc (d + 1) 187 127 [some (.ref 38), some (.int x1)] [.int sx0] h Q :=
  wl_cb (b := sx0 = 0) (off := 11) (tgt := 138) (pc3 := 130) (st' := []) d187_127 rfl rfl rfl rfl (by decide) rfl (fun c1 => wl_st d187_138 rfl rfl rfl rfl (wl_st d187_139 rfl rfl rfl rfl (wl_gr (b := 55) d187_140 pf11_58 (ly_k L 38 rfl) rfl (ly_r L 38 18 rfl) (wl_st d187_143 rfl rfl rfl rfl (And.elim (fun g2 g2k => wl_if (g := cm_ok h 13 55 x1) (st' := [.int (cm_I h 55 x1.toNatClampNeg), .ref 38]) d187_144 rfl rfl rfl rfl (ly_o L 55 rfl g2) (wl_bi (v := 119) d187_145 rfl (wl_ci d187_147 rfl rfl rfl pm11_316 (by decide) (ca_v (Or.inl rfl) rfl (Nat.le_of_ble_eq_true rfl) (Nat.le_of_ble_eq_true rfl) (ly_k L 38 rfl).2 (ly_k L 38 rfl).1 (by decide)) g2k))) (H.1 c1)))))) (fun c1 => wl_st d187_130 rfl rfl rfl rfl (wl_st d187_131 rfl rfl rfl rfl (wl_cv d187_132 rfl rfl rfl pm11_322 (by decide) (ca_v (Or.inl rfl) rfl (Nat.le_of_ble_eq_true rfl) (Nat.le_of_ble_eq_true rfl) (ly_k L 38 rfl).2 (ly_k L 38 rfl).1 (by decide)) (H.2 c1))))
theorem s187_135 {sc : cmS} {d : Nat} {h : cmH} {Q : Option Value → cmH → Prop} (x1 : Int32) (H : cm_wp sc d 187 232 [some (.ref 38), some (.int x1)] [] h Q) : cm_wp sc d 187 135 [some (.ref 38), some (.int x1)] [] h Q :=
  wl_go (tgt := 232) d187_135 (by decide) (H)
theorem s187_150 {sc : cmS} {d : Nat} {h : cmH} {Q : Option Value → cmH → Prop} (L : LY h) (x1 : Int32) (sx0 : Int32) (H : (((sx0 = 0) → (IX 9 x1) ∧ cm_ci sc d 179 [.ref 38, .int (cm_I h 55 x1.toNatClampNeg), .int (114 : Int32)] h (fun r h' => cm_wp sc (d + 1) 187 222 [some (.ref 38), some (.int x1)] [.int r] h' Q)) ∧ (¬ (sx0 = 0) → (IX 9 x1) ∧ cm_ci sc d 179 [.ref 38, .int (cm_I h 55 x1.toNatClampNeg), .int (117 : Int32)] h (fun r h' => cm_wp sc (d + 1) 187 174 [some (.ref 38), some (.int x1)] [.int r, .int (1000 : Int32), .int (0 : Int32), .int x1, .ref 74] h' Q)))) : cm_wp sc (d + 1) 187 150 [some (.ref 38), some (.int x1)] [.int sx0] h Q :=
  wl_cb (b := sx0 = 0) (off := 60) (tgt := 210) (pc3 := 153) (st' := []) d187_150 rfl rfl rfl rfl (by decide) rfl (fun c1 => wl_st d187_210 rfl rfl rfl rfl (wl_st d187_211 rfl rfl rfl rfl (wl_gr (b := 55) d187_212 pf11_58 (ly_k L 38 rfl) rfl (ly_r L 38 18 rfl) (wl_st d187_215 rfl rfl rfl rfl (And.elim (fun g2 g2k => wl_if (g := cm_ok h 13 55 x1) (st' := [.int (cm_I h 55 x1.toNatClampNeg), .ref 38]) d187_216 rfl rfl rfl rfl (ly_o L 55 rfl g2) (wl_bi (v := 114) d187_217 rfl (wl_ci d187_219 rfl rfl rfl pm11_316 (by decide) (ca_v (Or.inl rfl) rfl (Nat.le_of_ble_eq_true rfl) (Nat.le_of_ble_eq_true rfl) (ly_k L 38 rfl).2 (ly_k L 38 rfl).1 (by decide)) g2k))) (H.1 c1)))))) (fun c1 => wl_st d187_153 rfl rfl rfl rfl (wl_gr (b := 74) d187_154 pf11_117 (ly_k L 38 rfl) rfl (ly_r L 38 45 rfl) (wl_st d187_157 rfl rfl rfl rfl (wl_ic (v := 0) d187_158 rfl (wl_si (v := 1000) d187_159 rfl (wl_st d187_162 rfl rfl rfl rfl (wl_st d187_163 rfl rfl rfl rfl (wl_gr (b := 55) d187_164 pf11_58 (ly_k L 38 rfl) rfl (ly_r L 38 18 rfl) (wl_st d187_167 rfl rfl rfl rfl (And.elim (fun g3 g3k => wl_if (g := cm_ok h 13 55 x1) (st' := [.int (cm_I h 55 x1.toNatClampNeg), .ref 38, .int (1000 : Int32), .int (0 : Int32), .int x1, .ref 74]) d187_168 rfl rfl rfl rfl (ly_o L 55 rfl g3) (wl_bi (v := 117) d187_169 rfl (wl_ci d187_171 rfl rfl rfl pm11_316 (by decide) (ca_v (Or.inl rfl) rfl (Nat.le_of_ble_eq_true rfl) (Nat.le_of_ble_eq_true rfl) (ly_k L 38 rfl).2 (ly_k L 38 rfl).1 (by decide)) g3k))) (H.2 c1)))))))))))
theorem s187_174 {sc : cmS} {d : Nat} {h : cmH} {Q : Option Value → cmH → Prop} (L : LY h) (x1 : Int32) (sx0 : Int32) (sx1 : Int32) (sx2 : Int32) (sx3 : Int32) (H : (IX 8 sx3) ∧ (IX 9 x1) ∧ ((((cm_I h 54 x1.toNatClampNeg) < (cm_I h 51 x1.toNatClampNeg)) → cm_wp sc (d + 1) 187 206 [some (.ref 38), some (.int x1)] [.int (2 : Int32), .int x1, .ref 52] (cm_setI h 74 sx3.toNatClampNeg (if sx2 < (if sx0 < sx1 then sx0 else sx1) then (if sx0 < sx1 then sx0 else sx1) else sx2)) Q) ∧ (¬ ((cm_I h 54 x1.toNatClampNeg) < (cm_I h 51 x1.toNatClampNeg)) → cm_wp sc (d + 1) 187 206 [some (.ref 38), some (.int x1)] [.int (5 : Int32), .int x1, .ref 52] (cm_setI h 74 sx3.toNatClampNeg (if sx2 < (if sx0 < sx1 then sx0 else sx1) then (if sx0 < sx1 then sx0 else sx1) else sx2)) Q))) : cm_wp sc (d + 1) 187 174 [some (.ref 38), some (.int x1)] [.int sx0, .int sx1, .int sx2, .int sx3, .ref 74] h Q :=
  wl_pr (st' := [.int (if sx0 < sx1 then sx0 else sx1), .int sx2, .int sx3, .ref 74]) d187_174 rfl rfl rfl pm11_325 (by decide) rfl rfl (wl_pr (st' := [.int (if sx2 < (if sx0 < sx1 then sx0 else sx1) then (if sx0 < sx1 then sx0 else sx1) else sx2), .int sx3, .ref 74]) d187_177 rfl rfl rfl pm11_172 (by decide) rfl rfl (And.elim (fun g1 g1k => wl_if (h' := (cm_setI h 74 sx3.toNatClampNeg (if sx2 < (if sx0 < sx1 then sx0 else sx1) then (if sx0 < sx1 then sx0 else sx1) else sx2))) d187_180 rfl rfl rfl rfl (ly_o L 74 rfl g1) (wl_st d187_181 rfl rfl rfl rfl (wl_gr (b := 52) d187_182 pf11_49 (ly_k L 38 rfl) rfl (ly_r L 38 15 rfl) (wl_st d187_185 rfl rfl rfl rfl (wl_st d187_186 rfl rfl rfl rfl (wl_gr (b := 54) d187_187 pf11_55 (ly_k L 38 rfl) rfl (ly_r L 38 17 rfl) (wl_st d187_190 rfl rfl rfl rfl (And.elim (fun g2 g2k => wl_if (g := cm_ok (cm_setI h 74 sx3.toNatClampNeg (if sx2 < (if sx0 < sx1 then sx0 else sx1) then (if sx0 < sx1 then sx0 else sx1) else sx2)) 13 54 x1) (st' := [.int (cm_I h 54 x1.toNatClampNeg), .int x1, .ref 52]) d187_191 rfl rfl rfl rfl (ly_o L 54 rfl g2) (wl_st d187_192 rfl rfl rfl rfl (wl_gr (b := 51) d187_193 pf11_46 (ly_k L 38 rfl) rfl (ly_r L 38 14 rfl) (wl_st d187_196 rfl rfl rfl rfl (wl_if (g := cm_ok (cm_setI h 74 sx3.toNatClampNeg (if sx2 < (if sx0 < sx1 then sx0 else sx1) then (if sx0 < sx1 then sx0 else sx1) else sx2)) 13 51 x1) (st' := [.int (cm_I h 51 x1.toNatClampNeg), .int (cm_I h 54 x1.toNatClampNeg), .int x1, .ref 52]) d187_197 rfl rfl rfl rfl (ly_o L 51 rfl g2) (wl_cb (b := (cm_I h 54 x1.toNatClampNeg) < (cm_I h 51 x1.toNatClampNeg)) (off := 7) (tgt := 205) (pc3 := 201) (st' := [.int x1, .ref 52]) d187_198 rfl rfl rfl rfl (by decide) rfl (fun c3 => wl_ic (v := 2) d187_205 rfl ((g2k.1 c3))) (fun c3 => wl_ic (v := 5) d187_201 rfl (wl_go (tgt := 206) d187_202 (by decide) ((g2k.2 c3)))))))))) g1k)))))))) H))
theorem s187_206 {sc : cmS} {d : Nat} {h : cmH} {Q : Option Value → cmH → Prop} (L : LY h) (x1 : Int32) (sx0 : Int32) (sx1 : Int32) (H : (IX 9 sx1) ∧ cm_wp sc d 187 232 [some (.ref 38), some (.int x1)] [] (cm_setI h 52 sx1.toNatClampNeg sx0) Q) : cm_wp sc d 187 206 [some (.ref 38), some (.int x1)] [.int sx0, .int sx1, .ref 52] h Q :=
  And.elim (fun g1 g1k => wl_if (h' := (cm_setI h 52 sx1.toNatClampNeg sx0)) d187_206 rfl rfl rfl rfl (ly_o L 52 rfl g1) (wl_go (tgt := 232) d187_207 (by decide) (g1k))) H
theorem s187_222 {sc : cmS} {d : Nat} {h : cmH} {Q : Option Value → cmH → Prop} (L : LY h) (x1 : Int32) (sx0 : Int32) (H : (((sx0 = 0) → cm_wp sc d 187 232 [some (.ref 38), some (.int x1)] [] h Q) ∧ (¬ (sx0 = 0) → (IX 9 x1) ∧ cm_wp sc d 187 232 [some (.ref 38), some (.int x1)] [] (cm_setI h 52 x1.toNatClampNeg (3 : Int32)) Q))) : cm_wp sc d 187 222 [some (.ref 38), some (.int x1)] [.int sx0] h Q :=
  wl_cb (b := sx0 = 0) (off := 10) (tgt := 232) (pc3 := 225) (st' := []) d187_222 rfl rfl rfl rfl (by decide) rfl (fun c1 => (H.1 c1)) (fun c1 => wl_st d187_225 rfl rfl rfl rfl (wl_gr (b := 52) d187_226 pf11_49 (ly_k L 38 rfl) rfl (ly_r L 38 15 rfl) (wl_st d187_229 rfl rfl rfl rfl (wl_ic (v := 3) d187_230 rfl (And.elim (fun g2 g2k => wl_if (h' := (cm_setI h 52 x1.toNatClampNeg (3 : Int32))) d187_231 rfl rfl rfl rfl (ly_o L 52 rfl g2) (g2k)) (H.2 c1))))))
theorem s187_232 {sc : cmS} {d : Nat} {h : cmH} {Q : Option Value → cmH → Prop} (L : LY h) (x1 : Int32) (H : (IX 9 x1) ∧ (((¬ (cm_I h 60 x1.toNatClampNeg) = 0) → cm_wp sc d 187 256 [some (.ref 38), some (.int x1)] [.int x1, .ref 60] h Q) ∧ (¬ (¬ (cm_I h 60 x1.toNatClampNeg) = 0) → (((¬ (cm_I h 52 x1.toNatClampNeg) = (1 : Int32)) → cm_wp sc d 187 261 [some (.ref 38), some (.int x1)] [.int (0 : Int32), .int x1, .ref 60] h Q) ∧ (¬ (¬ (cm_I h 52 x1.toNatClampNeg) = (1 : Int32)) → cm_wp sc d 187 256 [some (.ref 38), some (.int x1)] [.int x1, .ref 60] h Q))))) : cm_wp sc d 187 232 [some (.ref 38), some (.int x1)] [] h Q :=
  wl_st d187_232 rfl rfl rfl rfl (wl_gr (b := 60) d187_233 pf11_74 (ly_k L 38 rfl) rfl (ly_r L 38 23 rfl) (wl_st d187_236 rfl rfl rfl rfl (wl_st d187_237 rfl rfl rfl rfl (wl_gr (b := 60) d187_238 pf11_74 (ly_k L 38 rfl) rfl (ly_r L 38 23 rfl) (wl_st d187_241 rfl rfl rfl rfl (And.elim (fun g1 g1k => wl_if (g := cm_ok h 15 60 x1) (st' := [.int (cm_I h 60 x1.toNatClampNeg), .int x1, .ref 60]) d187_242 rfl rfl rfl rfl (ly_o L 60 rfl g1) (wl_cb (b := ¬ (cm_I h 60 x1.toNatClampNeg) = 0) (off := 13) (tgt := 256) (pc3 := 246) (st' := [.int x1, .ref 60]) d187_243 rfl rfl rfl rfl (by decide) rfl (fun c2 => (g1k.1 c2)) (fun c2 => wl_st d187_246 rfl rfl rfl rfl (wl_gr (b := 52) d187_247 pf11_49 (ly_k L 38 rfl) rfl (ly_r L 38 15 rfl) (wl_st d187_250 rfl rfl rfl rfl (wl_if (g := cm_ok h 13 52 x1) (st' := [.int (cm_I h 52 x1.toNatClampNeg), .int x1, .ref 60]) d187_251 rfl rfl rfl rfl (ly_o L 52 rfl g1) (wl_ic (v := 1) d187_252 rfl (wl_cb (b := ¬ (cm_I h 52 x1.toNatClampNeg) = (1 : Int32)) (off := 7) (tgt := 260) (pc3 := 256) (st' := [.int x1, .ref 60]) d187_253 rfl rfl rfl rfl (by decide) rfl (fun c3 => wl_ic (v := 0) d187_260 rfl (((g1k.2 c2).1 c3))) (fun c3 => ((g1k.2 c2).2 c3)))))))))) H))))))
theorem s187_256 {sc : cmS} {d : Nat} {h : cmH} {Q : Option Value → cmH → Prop} (x1 : Int32) (sx0 : Int32) (H : cm_wp sc d 187 261 [some (.ref 38), some (.int x1)] [.int (1 : Int32), .int sx0, .ref 60] h Q) : cm_wp sc d 187 256 [some (.ref 38), some (.int x1)] [.int sx0, .ref 60] h Q :=
  wl_ic (v := 1) d187_256 rfl (wl_go (tgt := 261) d187_257 (by decide) (H))
theorem s187_261 {sc : cmS} {d : Nat} {h : cmH} {Q : Option Value → cmH → Prop} (L : LY h) (x1 : Int32) (sx0 : Int32) (sx1 : Int32) (H : (IX 9 sx1) ∧ Q none (cm_setI h 60 sx1.toNatClampNeg (vp_nar .boolean sx0))) : cm_wp sc d 187 261 [some (.ref 38), some (.int x1)] [.int sx0, .int sx1, .ref 60] h Q :=
  And.elim (fun g1 g1k => wl_if (h' := (cm_setI h 60 sx1.toNatClampNeg (vp_nar .boolean sx0))) d187_261 rfl rfl rfl rfl (ly_o L 60 rfl g1) (wl_rt d187_262 rfl rfl rfl g1k)) H
-- ClogHouseModel.change(I)V
theorem d188_0 : decode (cm_M 188).2.2.1 0 = .ok (.iconst 0, 1) := by decide +kernel
theorem d188_1 : decode (cm_M 188).2.2.1 1 = .ok (.istore_n 2, 1) := by decide +kernel
theorem d188_2 : decode (cm_M 188).2.2.1 2 = .ok (.iload_n 2, 1) := by decide +kernel
theorem d188_3 : decode (cm_M 188).2.2.1 3 = .ok (.bipush 8, 2) := by decide +kernel
theorem d188_5 : decode (cm_M 188).2.2.1 5 = .ok (.if_icmp .ge 108, 3) := by decide +kernel
theorem d188_8 : decode (cm_M 188).2.2.1 8 = .ok (.aload_n 0, 1) := by decide +kernel
theorem d188_9 : decode (cm_M 188).2.2.1 9 = .ok (.getfield 37, 3) := by decide +kernel
theorem d188_12 : decode (cm_M 188).2.2.1 12 = .ok (.bipush 8, 2) := by decide +kernel
theorem d188_14 : decode (cm_M 188).2.2.1 14 = .ok (.iload_n 1, 1) := by decide +kernel
theorem d188_15 : decode (cm_M 188).2.2.1 15 = .ok (.imul, 1) := by decide +kernel
theorem d188_16 : decode (cm_M 188).2.2.1 16 = .ok (.iload_n 2, 1) := by decide +kernel
theorem d188_17 : decode (cm_M 188).2.2.1 17 = .ok (.iadd, 1) := by decide +kernel
theorem d188_18 : decode (cm_M 188).2.2.1 18 = .ok (.iaload, 1) := by decide +kernel
theorem d188_19 : decode (cm_M 188).2.2.1 19 = .ok (.istore_n 3, 1) := by decide +kernel
theorem d188_20 : decode (cm_M 188).2.2.1 20 = .ok (.aload_n 0, 1) := by decide +kernel
theorem d188_21 : decode (cm_M 188).2.2.1 21 = .ok (.getfield 37, 3) := by decide +kernel
theorem d188_24 : decode (cm_M 188).2.2.1 24 = .ok (.bipush 8, 2) := by decide +kernel
theorem d188_26 : decode (cm_M 188).2.2.1 26 = .ok (.iload_n 1, 1) := by decide +kernel
theorem d188_27 : decode (cm_M 188).2.2.1 27 = .ok (.imul, 1) := by decide +kernel
theorem d188_28 : decode (cm_M 188).2.2.1 28 = .ok (.iload_n 2, 1) := by decide +kernel
theorem d188_29 : decode (cm_M 188).2.2.1 29 = .ok (.iadd, 1) := by decide +kernel
theorem d188_30 : decode (cm_M 188).2.2.1 30 = .ok (.iconst 0, 1) := by decide +kernel
theorem d188_31 : decode (cm_M 188).2.2.1 31 = .ok (.iastore, 1) := by decide +kernel
theorem d188_32 : decode (cm_M 188).2.2.1 32 = .ok (.iconst 0, 1) := by decide +kernel
theorem d188_33 : decode (cm_M 188).2.2.1 33 = .ok (.istore 4, 2) := by decide +kernel
theorem d188_35 : decode (cm_M 188).2.2.1 35 = .ok (.iload 4, 2) := by decide +kernel
theorem d188_37 : decode (cm_M 188).2.2.1 37 = .ok (.aload_n 0, 1) := by decide +kernel
theorem d188_38 : decode (cm_M 188).2.2.1 38 = .ok (.getfield 19, 3) := by decide +kernel
theorem d188_41 : decode (cm_M 188).2.2.1 41 = .ok (.iload_n 1, 1) := by decide +kernel
theorem d188_42 : decode (cm_M 188).2.2.1 42 = .ok (.iaload, 1) := by decide +kernel
theorem d188_43 : decode (cm_M 188).2.2.1 43 = .ok (.if_icmp .ge 49, 3) := by decide +kernel
theorem d188_46 : decode (cm_M 188).2.2.1 46 = .ok (.bipush 8, 2) := by decide +kernel
theorem d188_48 : decode (cm_M 188).2.2.1 48 = .ok (.bipush 10, 2) := by decide +kernel
theorem d188_50 : decode (cm_M 188).2.2.1 50 = .ok (.iload_n 1, 1) := by decide +kernel
theorem d188_51 : decode (cm_M 188).2.2.1 51 = .ok (.imul, 1) := by decide +kernel
theorem d188_52 : decode (cm_M 188).2.2.1 52 = .ok (.iload 4, 2) := by decide +kernel
theorem d188_54 : decode (cm_M 188).2.2.1 54 = .ok (.iadd, 1) := by decide +kernel
theorem d188_55 : decode (cm_M 188).2.2.1 55 = .ok (.imul, 1) := by decide +kernel
theorem d188_56 : decode (cm_M 188).2.2.1 56 = .ok (.iload_n 2, 1) := by decide +kernel
theorem d188_57 : decode (cm_M 188).2.2.1 57 = .ok (.iadd, 1) := by decide +kernel
theorem d188_58 : decode (cm_M 188).2.2.1 58 = .ok (.istore 5, 2) := by decide +kernel
theorem d188_60 : decode (cm_M 188).2.2.1 60 = .ok (.iload_n 3, 1) := by decide +kernel
theorem d188_61 : decode (cm_M 188).2.2.1 61 = .ok (.aload_n 0, 1) := by decide +kernel
theorem d188_62 : decode (cm_M 188).2.2.1 62 = .ok (.getfield 31, 3) := by decide +kernel
theorem d188_65 : decode (cm_M 188).2.2.1 65 = .ok (.iload 5, 2) := by decide +kernel
theorem d188_67 : decode (cm_M 188).2.2.1 67 = .ok (.iaload, 1) := by decide +kernel
theorem d188_68 : decode (cm_M 188).2.2.1 68 = .ok (.iadd, 1) := by decide +kernel
theorem d188_69 : decode (cm_M 188).2.2.1 69 = .ok (.istore_n 3, 1) := by decide +kernel
theorem d188_70 : decode (cm_M 188).2.2.1 70 = .ok (.aload_n 0, 1) := by decide +kernel
theorem d188_71 : decode (cm_M 188).2.2.1 71 = .ok (.getfield 31, 3) := by decide +kernel
theorem d188_74 : decode (cm_M 188).2.2.1 74 = .ok (.iload 5, 2) := by decide +kernel
theorem d188_76 : decode (cm_M 188).2.2.1 76 = .ok (.iconst 0, 1) := by decide +kernel
theorem d188_77 : decode (cm_M 188).2.2.1 77 = .ok (.iastore, 1) := by decide +kernel
theorem d188_78 : decode (cm_M 188).2.2.1 78 = .ok (.aload_n 0, 1) := by decide +kernel
theorem d188_79 : decode (cm_M 188).2.2.1 79 = .ok (.getfield 34, 3) := by decide +kernel
theorem d188_82 : decode (cm_M 188).2.2.1 82 = .ok (.iload 5, 2) := by decide +kernel
theorem d188_84 : decode (cm_M 188).2.2.1 84 = .ok (.iconst 0, 1) := by decide +kernel
theorem d188_85 : decode (cm_M 188).2.2.1 85 = .ok (.iastore, 1) := by decide +kernel
theorem d188_86 : decode (cm_M 188).2.2.1 86 = .ok (.iinc 4 1, 3) := by decide +kernel
theorem d188_89 : decode (cm_M 188).2.2.1 89 = .ok (.goto (-54), 3) := by decide +kernel
theorem d188_92 : decode (cm_M 188).2.2.1 92 = .ok (.aload_n 0, 1) := by decide +kernel
theorem d188_93 : decode (cm_M 188).2.2.1 93 = .ok (.getfield 108, 3) := by decide +kernel
theorem d188_96 : decode (cm_M 188).2.2.1 96 = .ok (.bipush 6, 2) := by decide +kernel
theorem d188_98 : decode (cm_M 188).2.2.1 98 = .ok (.iload_n 2, 1) := by decide +kernel
theorem d188_99 : decode (cm_M 188).2.2.1 99 = .ok (.imul, 1) := by decide +kernel
theorem d188_100 : decode (cm_M 188).2.2.1 100 = .ok (.iconst 3, 1) := by decide +kernel
theorem d188_101 : decode (cm_M 188).2.2.1 101 = .ok (.iadd, 1) := by decide +kernel
theorem d188_102 : decode (cm_M 188).2.2.1 102 = .ok (.dup2, 1) := by decide +kernel
theorem d188_103 : decode (cm_M 188).2.2.1 103 = .ok (.iaload, 1) := by decide +kernel
theorem d188_104 : decode (cm_M 188).2.2.1 104 = .ok (.iload_n 3, 1) := by decide +kernel
theorem d188_105 : decode (cm_M 188).2.2.1 105 = .ok (.iadd, 1) := by decide +kernel
theorem d188_106 : decode (cm_M 188).2.2.1 106 = .ok (.iastore, 1) := by decide +kernel
theorem d188_107 : decode (cm_M 188).2.2.1 107 = .ok (.iinc 2 1, 3) := by decide +kernel
theorem d188_110 : decode (cm_M 188).2.2.1 110 = .ok (.goto (-108), 3) := by decide +kernel
theorem d188_113 : decode (cm_M 188).2.2.1 113 = .ok (.iconst 0, 1) := by decide +kernel
theorem d188_114 : decode (cm_M 188).2.2.1 114 = .ok (.istore_n 2, 1) := by decide +kernel
theorem d188_115 : decode (cm_M 188).2.2.1 115 = .ok (.iload_n 2, 1) := by decide +kernel
theorem d188_116 : decode (cm_M 188).2.2.1 116 = .ok (.aload_n 0, 1) := by decide +kernel
theorem d188_117 : decode (cm_M 188).2.2.1 117 = .ok (.getfield 19, 3) := by decide +kernel
theorem d188_120 : decode (cm_M 188).2.2.1 120 = .ok (.iload_n 1, 1) := by decide +kernel
theorem d188_121 : decode (cm_M 188).2.2.1 121 = .ok (.iaload, 1) := by decide +kernel
theorem d188_122 : decode (cm_M 188).2.2.1 122 = .ok (.if_icmp .ge 31, 3) := by decide +kernel
theorem d188_125 : decode (cm_M 188).2.2.1 125 = .ok (.aload_n 0, 1) := by decide +kernel
theorem d188_126 : decode (cm_M 188).2.2.1 126 = .ok (.getfield 22, 3) := by decide +kernel
theorem d188_129 : decode (cm_M 188).2.2.1 129 = .ok (.bipush 10, 2) := by decide +kernel
theorem d188_131 : decode (cm_M 188).2.2.1 131 = .ok (.iload_n 1, 1) := by decide +kernel
theorem d188_132 : decode (cm_M 188).2.2.1 132 = .ok (.imul, 1) := by decide +kernel
theorem d188_133 : decode (cm_M 188).2.2.1 133 = .ok (.iload_n 2, 1) := by decide +kernel
theorem d188_134 : decode (cm_M 188).2.2.1 134 = .ok (.iadd, 1) := by decide +kernel
theorem d188_135 : decode (cm_M 188).2.2.1 135 = .ok (.aload_n 0, 1) := by decide +kernel
theorem d188_136 : decode (cm_M 188).2.2.1 136 = .ok (.getfield 25, 3) := by decide +kernel
theorem d188_139 : decode (cm_M 188).2.2.1 139 = .ok (.bipush 10, 2) := by decide +kernel
theorem d188_141 : decode (cm_M 188).2.2.1 141 = .ok (.iload_n 1, 1) := by decide +kernel
theorem d188_142 : decode (cm_M 188).2.2.1 142 = .ok (.imul, 1) := by decide +kernel
theorem d188_143 : decode (cm_M 188).2.2.1 143 = .ok (.iload_n 2, 1) := by decide +kernel
theorem d188_144 : decode (cm_M 188).2.2.1 144 = .ok (.iadd, 1) := by decide +kernel
theorem d188_145 : decode (cm_M 188).2.2.1 145 = .ok (.iaload, 1) := by decide +kernel
theorem d188_146 : decode (cm_M 188).2.2.1 146 = .ok (.iastore, 1) := by decide +kernel
theorem d188_147 : decode (cm_M 188).2.2.1 147 = .ok (.iinc 2 1, 3) := by decide +kernel
theorem d188_150 : decode (cm_M 188).2.2.1 150 = .ok (.goto (-35), 3) := by decide +kernel
theorem d188_153 : decode (cm_M 188).2.2.1 153 = .ok (.aload_n 0, 1) := by decide +kernel
theorem d188_154 : decode (cm_M 188).2.2.1 154 = .ok (.getfield 52, 3) := by decide +kernel
theorem d188_157 : decode (cm_M 188).2.2.1 157 = .ok (.iload_n 1, 1) := by decide +kernel
theorem d188_158 : decode (cm_M 188).2.2.1 158 = .ok (.iconst 0, 1) := by decide +kernel
theorem d188_159 : decode (cm_M 188).2.2.1 159 = .ok (.iastore, 1) := by decide +kernel
theorem d188_160 : decode (cm_M 188).2.2.1 160 = .ok (.aload_n 0, 1) := by decide +kernel
theorem d188_161 : decode (cm_M 188).2.2.1 161 = .ok (.getfield 55, 3) := by decide +kernel
theorem d188_164 : decode (cm_M 188).2.2.1 164 = .ok (.iload_n 1, 1) := by decide +kernel
theorem d188_165 : decode (cm_M 188).2.2.1 165 = .ok (.iconst 0, 1) := by decide +kernel
theorem d188_166 : decode (cm_M 188).2.2.1 166 = .ok (.iastore, 1) := by decide +kernel
theorem d188_167 : decode (cm_M 188).2.2.1 167 = .ok (.return_, 1) := by decide +kernel
theorem s188_0 {sc : cmS} {d : Nat} {h : cmH} {Q : Option Value → cmH → Prop} (x1 : Int32) (u2 : Option Value) (u3 : Option Value) (u4 : Option Value) (u5 : Option Value) (H : cm_wp sc d 188 2 [some (.ref 38), some (.int x1), some (.int (0 : Int32)), u3, u4, u5] [] h Q) : cm_wp sc d 188 0 [some (.ref 38), some (.int x1), u2, u3, u4, u5] [] h Q :=
  wl_ic (v := 0) d188_0 rfl (wl_st (ls' := [some (.ref 38), some (.int x1), some (.int (0 : Int32)), u3, u4, u5]) d188_1 rfl rfl rfl rfl (H))
theorem s188_2 {sc : cmS} {d : Nat} {h : cmH} {Q : Option Value → cmH → Prop} (L : LY h) (x1 : Int32) (x2 : Int32) (u3 : Option Value) (u4 : Option Value) (u5 : Option Value) (H : ((((8 : Int32) ≤ x2) → cm_wp sc d 188 115 [some (.ref 38), some (.int x1), some (.int (0 : Int32)), u3, u4, u5] [] h Q) ∧ (¬ ((8 : Int32) ≤ x2) → (IX 72 (((8 : Int32) * x1) + x2)) ∧ cm_wp sc d 188 35 [some (.ref 38), some (.int x1), some (.int x2), some (.int (cm_I h 48 (((8 : Int32) * x1) + x2).toNatClampNeg)), some (.int (0 : Int32)), u5] [] (cm_setI h 48 (((8 : Int32) * x1) + x2).toNatClampNeg (0 : Int32)) Q))) : cm_wp sc d 188 2 [some (.ref 38), some (.int x1), some (.int x2), u3, u4, u5] [] h Q :=
  wl_st d188_2 rfl rfl rfl rfl (wl_bi (v := 8) d188_3 rfl (wl_cb (b := (8 : Int32) ≤ x2) (off := 108) (tgt := 113) (pc3 := 8) (st' := []) d188_5 rfl rfl rfl rfl (by decide) rfl (fun c1 => wl_ic (v := 0) d188_113 rfl (wl_st (ls' := [some (.ref 38), some (.int x1), some (.int (0 : Int32)), u3, u4, u5]) d188_114 rfl rfl rfl rfl ((H.1 c1)))) (fun c1 => wl_st d188_8 rfl rfl rfl rfl (wl_gr (b := 48) d188_9 pf11_37 (ly_k L 38 rfl) rfl (ly_r L 38 11 rfl) (wl_bi (v := 8) d188_12 rfl (wl_st d188_14 rfl rfl rfl rfl (wl_st d188_15 rfl rfl rfl rfl (wl_st d188_16 rfl rfl rfl rfl (wl_st d188_17 rfl rfl rfl rfl (And.elim (fun g2 g2k => wl_if (g := cm_ok h 13 48 (((8 : Int32) * x1) + x2)) (st' := [.int (cm_I h 48 (((8 : Int32) * x1) + x2).toNatClampNeg)]) d188_18 rfl rfl rfl rfl (ly_o L 48 rfl g2) (wl_st (ls' := [some (.ref 38), some (.int x1), some (.int x2), some (.int (cm_I h 48 (((8 : Int32) * x1) + x2).toNatClampNeg)), u4, u5]) d188_19 rfl rfl rfl rfl (wl_st d188_20 rfl rfl rfl rfl (wl_gr (b := 48) d188_21 pf11_37 (ly_k L 38 rfl) rfl (ly_r L 38 11 rfl) (wl_bi (v := 8) d188_24 rfl (wl_st d188_26 rfl rfl rfl rfl (wl_st d188_27 rfl rfl rfl rfl (wl_st d188_28 rfl rfl rfl rfl (wl_st d188_29 rfl rfl rfl rfl (wl_ic (v := 0) d188_30 rfl (wl_if (h' := (cm_setI h 48 (((8 : Int32) * x1) + x2).toNatClampNeg (0 : Int32))) d188_31 rfl rfl rfl rfl (ly_o L 48 rfl g2) (wl_ic (v := 0) d188_32 rfl (wl_st (ls' := [some (.ref 38), some (.int x1), some (.int x2), some (.int (cm_I h 48 (((8 : Int32) * x1) + x2).toNatClampNeg)), some (.int (0 : Int32)), u5]) d188_33 rfl rfl rfl rfl (g2k)))))))))))))) (H.2 c1)))))))))))
theorem s188_35 {sc : cmS} {d : Nat} {h : cmH} {Q : Option Value → cmH → Prop} (L : LY h) (x1 : Int32) (x2 : Int32) (x3 : Int32) (x4 : Int32) (u5 : Option Value) (H : (IX 9 x1) ∧ ((((cm_I h 42 x1.toNatClampNeg) ≤ x4) → (IX 48 (((6 : Int32) * x2) + (3 : Int32))) ∧ cm_wp sc d 188 2 [some (.ref 38), some (.int x1), some (.int (x2 + 1)), some (.int x3), some (.int x4), u5] [] (cm_setI h 71 (((6 : Int32) * x2) + (3 : Int32)).toNatClampNeg ((cm_I h 71 (((6 : Int32) * x2) + (3 : Int32)).toNatClampNeg) + x3)) Q) ∧ (¬ ((cm_I h 42 x1.toNatClampNeg) ≤ x4) → (IX 720 (((8 : Int32) * (((10 : Int32) * x1) + x4)) + x2)) ∧ cm_wp sc d 188 35 [some (.ref 38), some (.int x1), some (.int x2), some (.int (x3 + (cm_I h 46 (((8 : Int32) * (((10 : Int32) * x1) + x4)) + x2).toNatClampNeg))), some (.int (x4 + 1)), some (.int (((8 : Int32) * (((10 : Int32) * x1) + x4)) + x2))] [] (cm_setI (cm_setI h 46 (((8 : Int32) * (((10 : Int32) * x1) + x4)) + x2).toNatClampNeg (0 : Int32)) 47 (((8 : Int32) * (((10 : Int32) * x1) + x4)) + x2).toNatClampNeg (0 : Int32)) Q))) : cm_wp sc d 188 35 [some (.ref 38), some (.int x1), some (.int x2), some (.int x3), some (.int x4), u5] [] h Q :=
  wl_st d188_35 rfl rfl rfl rfl (wl_st d188_37 rfl rfl rfl rfl (wl_gr (b := 42) d188_38 pf11_19 (ly_k L 38 rfl) rfl (ly_r L 38 5 rfl) (wl_st d188_41 rfl rfl rfl rfl (And.elim (fun g1 g1k => wl_if (g := cm_ok h 13 42 x1) (st' := [.int (cm_I h 42 x1.toNatClampNeg), .int x4]) d188_42 rfl rfl rfl rfl (ly_o L 42 rfl g1) (wl_cb (b := (cm_I h 42 x1.toNatClampNeg) ≤ x4) (off := 49) (tgt := 92) (pc3 := 46) (st' := []) d188_43 rfl rfl rfl rfl (by decide) rfl (fun c2 => wl_st d188_92 rfl rfl rfl rfl (wl_gr (b := 71) d188_93 pf11_108 (ly_k L 38 rfl) rfl (ly_r L 38 42 rfl) (wl_bi (v := 6) d188_96 rfl (wl_st d188_98 rfl rfl rfl rfl (wl_st d188_99 rfl rfl rfl rfl (wl_ic (v := 3) d188_100 rfl (wl_st d188_101 rfl rfl rfl rfl (wl_st d188_102 rfl rfl rfl rfl (And.elim (fun g3 g3k => wl_if (g := cm_ok h 13 71 (((6 : Int32) * x2) + (3 : Int32))) (st' := [.int (cm_I h 71 (((6 : Int32) * x2) + (3 : Int32)).toNatClampNeg), .int (((6 : Int32) * x2) + (3 : Int32)), .ref 71]) d188_103 rfl rfl rfl rfl (ly_o L 71 rfl g3) (wl_st d188_104 rfl rfl rfl rfl (wl_st d188_105 rfl rfl rfl rfl (wl_if (h' := (cm_setI h 71 (((6 : Int32) * x2) + (3 : Int32)).toNatClampNeg ((cm_I h 71 (((6 : Int32) * x2) + (3 : Int32)).toNatClampNeg) + x3))) d188_106 rfl rfl rfl rfl (ly_o L 71 rfl g3) (wl_st (ls' := [some (.ref 38), some (.int x1), some (.int (x2 + 1)), some (.int x3), some (.int x4), u5]) d188_107 rfl rfl rfl rfl (wl_go (tgt := 2) d188_110 (by decide) (g3k))))))) (g1k.1 c2)))))))))) (fun c2 => wl_bi (v := 8) d188_46 rfl (wl_bi (v := 10) d188_48 rfl (wl_st d188_50 rfl rfl rfl rfl (wl_st d188_51 rfl rfl rfl rfl (wl_st d188_52 rfl rfl rfl rfl (wl_st d188_54 rfl rfl rfl rfl (wl_st d188_55 rfl rfl rfl rfl (wl_st d188_56 rfl rfl rfl rfl (wl_st d188_57 rfl rfl rfl rfl (wl_st (ls' := [some (.ref 38), some (.int x1), some (.int x2), some (.int x3), some (.int x4), some (.int (((8 : Int32) * (((10 : Int32) * x1) + x4)) + x2))]) d188_58 rfl rfl rfl rfl (wl_st d188_60 rfl rfl rfl rfl (wl_st d188_61 rfl rfl rfl rfl (wl_gr (b := 46) d188_62 pf11_31 (ly_k L 38 rfl) rfl (ly_r L 38 9 rfl) (wl_st d188_65 rfl rfl rfl rfl (And.elim (fun g4 g4k => wl_if (g := cm_ok h 13 46 (((8 : Int32) * (((10 : Int32) * x1) + x4)) + x2)) (st' := [.int (cm_I h 46 (((8 : Int32) * (((10 : Int32) * x1) + x4)) + x2).toNatClampNeg), .int x3]) d188_67 rfl rfl rfl rfl (ly_o L 46 rfl g4) (wl_st d188_68 rfl rfl rfl rfl (wl_st (ls' := [some (.ref 38), some (.int x1), some (.int x2), some (.int (x3 + (cm_I h 46 (((8 : Int32) * (((10 : Int32) * x1) + x4)) + x2).toNatClampNeg))), some (.int x4), some (.int (((8 : Int32) * (((10 : Int32) * x1) + x4)) + x2))]) d188_69 rfl rfl rfl rfl (wl_st d188_70 rfl rfl rfl rfl (wl_gr (b := 46) d188_71 pf11_31 (ly_k L 38 rfl) rfl (ly_r L 38 9 rfl) (wl_st d188_74 rfl rfl rfl rfl (wl_ic (v := 0) d188_76 rfl (wl_if (h' := (cm_setI h 46 (((8 : Int32) * (((10 : Int32) * x1) + x4)) + x2).toNatClampNeg (0 : Int32))) d188_77 rfl rfl rfl rfl (ly_o L 46 rfl g4) (wl_st d188_78 rfl rfl rfl rfl (wl_gr (b := 47) d188_79 pf11_34 (ly_k L 38 rfl) rfl (ly_r L 38 10 rfl) (wl_st d188_82 rfl rfl rfl rfl (wl_ic (v := 0) d188_84 rfl (wl_if (h' := (cm_setI (cm_setI h 46 (((8 : Int32) * (((10 : Int32) * x1) + x4)) + x2).toNatClampNeg (0 : Int32)) 47 (((8 : Int32) * (((10 : Int32) * x1) + x4)) + x2).toNatClampNeg (0 : Int32))) d188_85 rfl rfl rfl rfl (ly_o L 47 rfl g4) (wl_st (ls' := [some (.ref 38), some (.int x1), some (.int x2), some (.int (x3 + (cm_I h 46 (((8 : Int32) * (((10 : Int32) * x1) + x4)) + x2).toNatClampNeg))), some (.int (x4 + 1)), some (.int (((8 : Int32) * (((10 : Int32) * x1) + x4)) + x2))]) d188_86 rfl rfl rfl rfl (wl_go (tgt := 35) d188_89 (by decide) (g4k)))))))))))))))) (g1k.2 c2)))))))))))))))))) H))))
theorem s188_115 {sc : cmS} {d : Nat} {h : cmH} {Q : Option Value → cmH → Prop} (L : LY h) (x1 : Int32) (x2 : Int32) (u3 : Option Value) (u4 : Option Value) (u5 : Option Value) (H : (IX 9 x1) ∧ ((((cm_I h 42 x1.toNatClampNeg) ≤ x2) → Q none (cm_setI (cm_setI h 53 x1.toNatClampNeg (0 : Int32)) 54 x1.toNatClampNeg (0 : Int32))) ∧ (¬ ((cm_I h 42 x1.toNatClampNeg) ≤ x2) → (IX 90 (((10 : Int32) * x1) + x2)) ∧ cm_wp sc d 188 115 [some (.ref 38), some (.int x1), some (.int (x2 + 1)), u3, u4, u5] [] (cm_setI h 43 (((10 : Int32) * x1) + x2).toNatClampNeg (cm_I h 44 (((10 : Int32) * x1) + x2).toNatClampNeg)) Q))) : cm_wp sc d 188 115 [some (.ref 38), some (.int x1), some (.int x2), u3, u4, u5] [] h Q :=
  wl_st d188_115 rfl rfl rfl rfl (wl_st d188_116 rfl rfl rfl rfl (wl_gr (b := 42) d188_117 pf11_19 (ly_k L 38 rfl) rfl (ly_r L 38 5 rfl) (wl_st d188_120 rfl rfl rfl rfl (And.elim (fun g1 g1k => wl_if (g := cm_ok h 13 42 x1) (st' := [.int (cm_I h 42 x1.toNatClampNeg), .int x2]) d188_121 rfl rfl rfl rfl (ly_o L 42 rfl g1) (wl_cb (b := (cm_I h 42 x1.toNatClampNeg) ≤ x2) (off := 31) (tgt := 153) (pc3 := 125) (st' := []) d188_122 rfl rfl rfl rfl (by decide) rfl (fun c2 => wl_st d188_153 rfl rfl rfl rfl (wl_gr (b := 53) d188_154 pf11_52 (ly_k L 38 rfl) rfl (ly_r L 38 16 rfl) (wl_st d188_157 rfl rfl rfl rfl (wl_ic (v := 0) d188_158 rfl (wl_if (h' := (cm_setI h 53 x1.toNatClampNeg (0 : Int32))) d188_159 rfl rfl rfl rfl (ly_o L 53 rfl g1) (wl_st d188_160 rfl rfl rfl rfl (wl_gr (b := 54) d188_161 pf11_55 (ly_k L 38 rfl) rfl (ly_r L 38 17 rfl) (wl_st d188_164 rfl rfl rfl rfl (wl_ic (v := 0) d188_165 rfl (wl_if (h' := (cm_setI (cm_setI h 53 x1.toNatClampNeg (0 : Int32)) 54 x1.toNatClampNeg (0 : Int32))) d188_166 rfl rfl rfl rfl (ly_o L 54 rfl g1) (wl_rt d188_167 rfl rfl rfl (g1k.1 c2)))))))))))) (fun c2 => wl_st d188_125 rfl rfl rfl rfl (wl_gr (b := 43) d188_126 pf11_22 (ly_k L 38 rfl) rfl (ly_r L 38 6 rfl) (wl_bi (v := 10) d188_129 rfl (wl_st d188_131 rfl rfl rfl rfl (wl_st d188_132 rfl rfl rfl rfl (wl_st d188_133 rfl rfl rfl rfl (wl_st d188_134 rfl rfl rfl rfl (wl_st d188_135 rfl rfl rfl rfl (wl_gr (b := 44) d188_136 pf11_25 (ly_k L 38 rfl) rfl (ly_r L 38 7 rfl) (wl_bi (v := 10) d188_139 rfl (wl_st d188_141 rfl rfl rfl rfl (wl_st d188_142 rfl rfl rfl rfl (wl_st d188_143 rfl rfl rfl rfl (wl_st d188_144 rfl rfl rfl rfl (And.elim (fun g3 g3k => wl_if (g := cm_ok h 13 44 (((10 : Int32) * x1) + x2)) (st' := [.int (cm_I h 44 (((10 : Int32) * x1) + x2).toNatClampNeg), .int (((10 : Int32) * x1) + x2), .ref 43]) d188_145 rfl rfl rfl rfl (ly_o L 44 rfl g3) (wl_if (h' := (cm_setI h 43 (((10 : Int32) * x1) + x2).toNatClampNeg (cm_I h 44 (((10 : Int32) * x1) + x2).toNatClampNeg))) d188_146 rfl rfl rfl rfl (ly_o L 43 rfl g3) (wl_st (ls' := [some (.ref 38), some (.int x1), some (.int (x2 + 1)), u3, u4, u5]) d188_147 rfl rfl rfl rfl (wl_go (tgt := 115) d188_150 (by decide) (g3k))))) (g1k.2 c2)))))))))))))))))) H))))
-- ClogHouseModel.washOne(I)V
theorem d189_0 : decode (cm_M 189).2.2.1 0 = .ok (.iconst 0, 1) := by decide +kernel
theorem d189_1 : decode (cm_M 189).2.2.1 1 = .ok (.istore_n 2, 1) := by decide +kernel
theorem d189_2 : decode (cm_M 189).2.2.1 2 = .ok (.iload_n 2, 1) := by decide +kernel
theorem d189_3 : decode (cm_M 189).2.2.1 3 = .ok (.bipush 8, 2) := by decide +kernel
theorem d189_5 : decode (cm_M 189).2.2.1 5 = .ok (.if_icmp .ge 179, 3) := by decide +kernel
theorem d189_8 : decode (cm_M 189).2.2.1 8 = .ok (.aload_n 0, 1) := by decide +kernel
theorem d189_9 : decode (cm_M 189).2.2.1 9 = .ok (.getfield 37, 3) := by decide +kernel
theorem d189_12 : decode (cm_M 189).2.2.1 12 = .ok (.bipush 8, 2) := by decide +kernel
theorem d189_14 : decode (cm_M 189).2.2.1 14 = .ok (.iload_n 1, 1) := by decide +kernel
theorem d189_15 : decode (cm_M 189).2.2.1 15 = .ok (.imul, 1) := by decide +kernel
theorem d189_16 : decode (cm_M 189).2.2.1 16 = .ok (.iload_n 2, 1) := by decide +kernel
theorem d189_17 : decode (cm_M 189).2.2.1 17 = .ok (.iadd, 1) := by decide +kernel
theorem d189_18 : decode (cm_M 189).2.2.1 18 = .ok (.iaload, 1) := by decide +kernel
theorem d189_19 : decode (cm_M 189).2.2.1 19 = .ok (.istore_n 3, 1) := by decide +kernel
theorem d189_20 : decode (cm_M 189).2.2.1 20 = .ok (.aload_n 0, 1) := by decide +kernel
theorem d189_21 : decode (cm_M 189).2.2.1 21 = .ok (.getfield 37, 3) := by decide +kernel
theorem d189_24 : decode (cm_M 189).2.2.1 24 = .ok (.bipush 8, 2) := by decide +kernel
theorem d189_26 : decode (cm_M 189).2.2.1 26 = .ok (.iload_n 1, 1) := by decide +kernel
theorem d189_27 : decode (cm_M 189).2.2.1 27 = .ok (.imul, 1) := by decide +kernel
theorem d189_28 : decode (cm_M 189).2.2.1 28 = .ok (.iload_n 2, 1) := by decide +kernel
theorem d189_29 : decode (cm_M 189).2.2.1 29 = .ok (.iadd, 1) := by decide +kernel
theorem d189_30 : decode (cm_M 189).2.2.1 30 = .ok (.iconst 0, 1) := by decide +kernel
theorem d189_31 : decode (cm_M 189).2.2.1 31 = .ok (.iastore, 1) := by decide +kernel
theorem d189_32 : decode (cm_M 189).2.2.1 32 = .ok (.iconst 0, 1) := by decide +kernel
theorem d189_33 : decode (cm_M 189).2.2.1 33 = .ok (.istore 4, 2) := by decide +kernel
theorem d189_35 : decode (cm_M 189).2.2.1 35 = .ok (.iload 4, 2) := by decide +kernel
theorem d189_37 : decode (cm_M 189).2.2.1 37 = .ok (.aload_n 0, 1) := by decide +kernel
theorem d189_38 : decode (cm_M 189).2.2.1 38 = .ok (.getfield 19, 3) := by decide +kernel
theorem d189_41 : decode (cm_M 189).2.2.1 41 = .ok (.iload_n 1, 1) := by decide +kernel
theorem d189_42 : decode (cm_M 189).2.2.1 42 = .ok (.iaload, 1) := by decide +kernel
theorem d189_43 : decode (cm_M 189).2.2.1 43 = .ok (.if_icmp .ge 120, 3) := by decide +kernel
theorem d189_46 : decode (cm_M 189).2.2.1 46 = .ok (.bipush 8, 2) := by decide +kernel
theorem d189_48 : decode (cm_M 189).2.2.1 48 = .ok (.bipush 10, 2) := by decide +kernel
theorem d189_50 : decode (cm_M 189).2.2.1 50 = .ok (.iload_n 1, 1) := by decide +kernel
theorem d189_51 : decode (cm_M 189).2.2.1 51 = .ok (.imul, 1) := by decide +kernel
theorem d189_52 : decode (cm_M 189).2.2.1 52 = .ok (.iload 4, 2) := by decide +kernel
theorem d189_54 : decode (cm_M 189).2.2.1 54 = .ok (.iadd, 1) := by decide +kernel
theorem d189_55 : decode (cm_M 189).2.2.1 55 = .ok (.imul, 1) := by decide +kernel
theorem d189_56 : decode (cm_M 189).2.2.1 56 = .ok (.iload_n 2, 1) := by decide +kernel
theorem d189_57 : decode (cm_M 189).2.2.1 57 = .ok (.iadd, 1) := by decide +kernel
theorem d189_58 : decode (cm_M 189).2.2.1 58 = .ok (.istore 5, 2) := by decide +kernel
theorem d189_60 : decode (cm_M 189).2.2.1 60 = .ok (.aload_n 0, 1) := by decide +kernel
theorem d189_61 : decode (cm_M 189).2.2.1 61 = .ok (.getfield 31, 3) := by decide +kernel
theorem d189_64 : decode (cm_M 189).2.2.1 64 = .ok (.iload 5, 2) := by decide +kernel
theorem d189_66 : decode (cm_M 189).2.2.1 66 = .ok (.iaload, 1) := by decide +kernel
theorem d189_67 : decode (cm_M 189).2.2.1 67 = .ok (.aload_n 0, 1) := by decide +kernel
theorem d189_68 : decode (cm_M 189).2.2.1 68 = .ok (.getfield 34, 3) := by decide +kernel
theorem d189_71 : decode (cm_M 189).2.2.1 71 = .ok (.iload 5, 2) := by decide +kernel
theorem d189_73 : decode (cm_M 189).2.2.1 73 = .ok (.iaload, 1) := by decide +kernel
theorem d189_74 : decode (cm_M 189).2.2.1 74 = .ok (.isub, 1) := by decide +kernel
theorem d189_75 : decode (cm_M 189).2.2.1 75 = .ok (.i2l, 1) := by decide +kernel
theorem d189_76 : decode (cm_M 189).2.2.1 76 = .ok (.lstore 6, 2) := by decide +kernel
theorem d189_78 : decode (cm_M 189).2.2.1 78 = .ok (.lload 6, 2) := by decide +kernel
theorem d189_80 : decode (cm_M 189).2.2.1 80 = .ok (.aload_n 0, 1) := by decide +kernel
theorem d189_81 : decode (cm_M 189).2.2.1 81 = .ok (.getfield 16, 3) := by decide +kernel
theorem d189_84 : decode (cm_M 189).2.2.1 84 = .ok (.iload_n 2, 1) := by decide +kernel
theorem d189_85 : decode (cm_M 189).2.2.1 85 = .ok (.iaload, 1) := by decide +kernel
theorem d189_86 : decode (cm_M 189).2.2.1 86 = .ok (.i2l, 1) := by decide +kernel
theorem d189_87 : decode (cm_M 189).2.2.1 87 = .ok (.lmul, 1) := by decide +kernel
theorem d189_88 : decode (cm_M 189).2.2.1 88 = .ok (.ldc2_w 327, 3) := by decide +kernel
theorem d189_91 : decode (cm_M 189).2.2.1 91 = .ok (.ldiv, 1) := by decide +kernel
theorem d189_92 : decode (cm_M 189).2.2.1 92 = .ok (.l2i, 1) := by decide +kernel
theorem d189_93 : decode (cm_M 189).2.2.1 93 = .ok (.istore 8, 2) := by decide +kernel
theorem d189_95 : decode (cm_M 189).2.2.1 95 = .ok (.lload 6, 2) := by decide +kernel
theorem d189_97 : decode (cm_M 189).2.2.1 97 = .ok (.iload 8, 2) := by decide +kernel
theorem d189_99 : decode (cm_M 189).2.2.1 99 = .ok (.i2l, 1) := by decide +kernel
theorem d189_100 : decode (cm_M 189).2.2.1 100 = .ok (.lsub, 1) := by decide +kernel
theorem d189_101 : decode (cm_M 189).2.2.1 101 = .ok (.aload_n 0, 1) := by decide +kernel
theorem d189_102 : decode (cm_M 189).2.2.1 102 = .ok (.getfield 13, 3) := by decide +kernel
theorem d189_105 : decode (cm_M 189).2.2.1 105 = .ok (.iload_n 2, 1) := by decide +kernel
theorem d189_106 : decode (cm_M 189).2.2.1 106 = .ok (.iaload, 1) := by decide +kernel
theorem d189_107 : decode (cm_M 189).2.2.1 107 = .ok (.i2l, 1) := by decide +kernel
theorem d189_108 : decode (cm_M 189).2.2.1 108 = .ok (.lmul, 1) := by decide +kernel
theorem d189_109 : decode (cm_M 189).2.2.1 109 = .ok (.ldc2_w 327, 3) := by decide +kernel
theorem d189_112 : decode (cm_M 189).2.2.1 112 = .ok (.ldiv, 1) := by decide +kernel
theorem d189_113 : decode (cm_M 189).2.2.1 113 = .ok (.aload_n 0, 1) := by decide +kernel
theorem d189_114 : decode (cm_M 189).2.2.1 114 = .ok (.getfield 117, 3) := by decide +kernel
theorem d189_117 : decode (cm_M 189).2.2.1 117 = .ok (.iload_n 1, 1) := by decide +kernel
theorem d189_118 : decode (cm_M 189).2.2.1 118 = .ok (.iaload, 1) := by decide +kernel
theorem d189_119 : decode (cm_M 189).2.2.1 119 = .ok (.i2l, 1) := by decide +kernel
theorem d189_120 : decode (cm_M 189).2.2.1 120 = .ok (.lmul, 1) := by decide +kernel
theorem d189_121 : decode (cm_M 189).2.2.1 121 = .ok (.ldc2_w 327, 3) := by decide +kernel
theorem d189_124 : decode (cm_M 189).2.2.1 124 = .ok (.ldiv, 1) := by decide +kernel
theorem d189_125 : decode (cm_M 189).2.2.1 125 = .ok (.l2i, 1) := by decide +kernel
theorem d189_126 : decode (cm_M 189).2.2.1 126 = .ok (.istore 9, 2) := by decide +kernel
theorem d189_128 : decode (cm_M 189).2.2.1 128 = .ok (.aload_n 0, 1) := by decide +kernel
theorem d189_129 : decode (cm_M 189).2.2.1 129 = .ok (.getfield 34, 3) := by decide +kernel
theorem d189_132 : decode (cm_M 189).2.2.1 132 = .ok (.iload 5, 2) := by decide +kernel
theorem d189_134 : decode (cm_M 189).2.2.1 134 = .ok (.dup2, 1) := by decide +kernel
theorem d189_135 : decode (cm_M 189).2.2.1 135 = .ok (.iaload, 1) := by decide +kernel
theorem d189_136 : decode (cm_M 189).2.2.1 136 = .ok (.iload 8, 2) := by decide +kernel
theorem d189_138 : decode (cm_M 189).2.2.1 138 = .ok (.iadd, 1) := by decide +kernel
theorem d189_139 : decode (cm_M 189).2.2.1 139 = .ok (.iastore, 1) := by decide +kernel
theorem d189_140 : decode (cm_M 189).2.2.1 140 = .ok (.aload_n 0, 1) := by decide +kernel
theorem d189_141 : decode (cm_M 189).2.2.1 141 = .ok (.getfield 31, 3) := by decide +kernel
theorem d189_144 : decode (cm_M 189).2.2.1 144 = .ok (.iload 5, 2) := by decide +kernel
theorem d189_146 : decode (cm_M 189).2.2.1 146 = .ok (.dup2, 1) := by decide +kernel
theorem d189_147 : decode (cm_M 189).2.2.1 147 = .ok (.iaload, 1) := by decide +kernel
theorem d189_148 : decode (cm_M 189).2.2.1 148 = .ok (.iload 9, 2) := by decide +kernel
theorem d189_150 : decode (cm_M 189).2.2.1 150 = .ok (.isub, 1) := by decide +kernel
theorem d189_151 : decode (cm_M 189).2.2.1 151 = .ok (.iastore, 1) := by decide +kernel
theorem d189_152 : decode (cm_M 189).2.2.1 152 = .ok (.iload_n 3, 1) := by decide +kernel
theorem d189_153 : decode (cm_M 189).2.2.1 153 = .ok (.iload 9, 2) := by decide +kernel
theorem d189_155 : decode (cm_M 189).2.2.1 155 = .ok (.iadd, 1) := by decide +kernel
theorem d189_156 : decode (cm_M 189).2.2.1 156 = .ok (.istore_n 3, 1) := by decide +kernel
theorem d189_157 : decode (cm_M 189).2.2.1 157 = .ok (.iinc 4 1, 3) := by decide +kernel
theorem d189_160 : decode (cm_M 189).2.2.1 160 = .ok (.goto (-125), 3) := by decide +kernel
theorem d189_163 : decode (cm_M 189).2.2.1 163 = .ok (.aload_n 0, 1) := by decide +kernel
theorem d189_164 : decode (cm_M 189).2.2.1 164 = .ok (.getfield 108, 3) := by decide +kernel
theorem d189_167 : decode (cm_M 189).2.2.1 167 = .ok (.bipush 6, 2) := by decide +kernel
theorem d189_169 : decode (cm_M 189).2.2.1 169 = .ok (.iload_n 2, 1) := by decide +kernel
theorem d189_170 : decode (cm_M 189).2.2.1 170 = .ok (.imul, 1) := by decide +kernel
theorem d189_171 : decode (cm_M 189).2.2.1 171 = .ok (.iconst 2, 1) := by decide +kernel
theorem d189_172 : decode (cm_M 189).2.2.1 172 = .ok (.iadd, 1) := by decide +kernel
theorem d189_173 : decode (cm_M 189).2.2.1 173 = .ok (.dup2, 1) := by decide +kernel
theorem d189_174 : decode (cm_M 189).2.2.1 174 = .ok (.iaload, 1) := by decide +kernel
theorem d189_175 : decode (cm_M 189).2.2.1 175 = .ok (.iload_n 3, 1) := by decide +kernel
theorem d189_176 : decode (cm_M 189).2.2.1 176 = .ok (.iadd, 1) := by decide +kernel
theorem d189_177 : decode (cm_M 189).2.2.1 177 = .ok (.iastore, 1) := by decide +kernel
theorem d189_178 : decode (cm_M 189).2.2.1 178 = .ok (.iinc 2 1, 3) := by decide +kernel
theorem d189_181 : decode (cm_M 189).2.2.1 181 = .ok (.goto (-179), 3) := by decide +kernel
theorem d189_184 : decode (cm_M 189).2.2.1 184 = .ok (.iconst 0, 1) := by decide +kernel
theorem d189_185 : decode (cm_M 189).2.2.1 185 = .ok (.istore_n 2, 1) := by decide +kernel
theorem d189_186 : decode (cm_M 189).2.2.1 186 = .ok (.iload_n 2, 1) := by decide +kernel
theorem d189_187 : decode (cm_M 189).2.2.1 187 = .ok (.aload_n 0, 1) := by decide +kernel
theorem d189_188 : decode (cm_M 189).2.2.1 188 = .ok (.getfield 19, 3) := by decide +kernel
theorem d189_191 : decode (cm_M 189).2.2.1 191 = .ok (.iload_n 1, 1) := by decide +kernel
theorem d189_192 : decode (cm_M 189).2.2.1 192 = .ok (.iaload, 1) := by decide +kernel
theorem d189_193 : decode (cm_M 189).2.2.1 193 = .ok (.if_icmp .ge 53, 3) := by decide +kernel
theorem d189_196 : decode (cm_M 189).2.2.1 196 = .ok (.aload_n 0, 1) := by decide +kernel
theorem d189_197 : decode (cm_M 189).2.2.1 197 = .ok (.getfield 117, 3) := by decide +kernel
theorem d189_200 : decode (cm_M 189).2.2.1 200 = .ok (.iload_n 1, 1) := by decide +kernel
theorem d189_201 : decode (cm_M 189).2.2.1 201 = .ok (.iaload, 1) := by decide +kernel
theorem d189_202 : decode (cm_M 189).2.2.1 202 = .ok (.aload_n 0, 1) := by decide +kernel
theorem d189_203 : decode (cm_M 189).2.2.1 203 = .ok (.getfield 43, 3) := by decide +kernel
theorem d189_206 : decode (cm_M 189).2.2.1 206 = .ok (.iload_n 1, 1) := by decide +kernel
theorem d189_207 : decode (cm_M 189).2.2.1 207 = .ok (.iaload, 1) := by decide +kernel
theorem d189_208 : decode (cm_M 189).2.2.1 208 = .ok (.if_icmp .le 38, 3) := by decide +kernel
theorem d189_211 : decode (cm_M 189).2.2.1 211 = .ok (.aload_n 0, 1) := by decide +kernel
theorem d189_212 : decode (cm_M 189).2.2.1 212 = .ok (.getfield 22, 3) := by decide +kernel
theorem d189_215 : decode (cm_M 189).2.2.1 215 = .ok (.bipush 10, 2) := by decide +kernel
theorem d189_217 : decode (cm_M 189).2.2.1 217 = .ok (.iload_n 1, 1) := by decide +kernel
theorem d189_218 : decode (cm_M 189).2.2.1 218 = .ok (.imul, 1) := by decide +kernel
theorem d189_219 : decode (cm_M 189).2.2.1 219 = .ok (.iload_n 2, 1) := by decide +kernel
theorem d189_220 : decode (cm_M 189).2.2.1 220 = .ok (.iadd, 1) := by decide +kernel
theorem d189_221 : decode (cm_M 189).2.2.1 221 = .ok (.bipush 20, 2) := by decide +kernel
theorem d189_223 : decode (cm_M 189).2.2.1 223 = .ok (.aload_n 0, 1) := by decide +kernel
theorem d189_224 : decode (cm_M 189).2.2.1 224 = .ok (.getfield 22, 3) := by decide +kernel
theorem d189_227 : decode (cm_M 189).2.2.1 227 = .ok (.bipush 10, 2) := by decide +kernel
theorem d189_229 : decode (cm_M 189).2.2.1 229 = .ok (.iload_n 1, 1) := by decide +kernel
theorem d189_230 : decode (cm_M 189).2.2.1 230 = .ok (.imul, 1) := by decide +kernel
theorem d189_231 : decode (cm_M 189).2.2.1 231 = .ok (.iload_n 2, 1) := by decide +kernel
theorem d189_232 : decode (cm_M 189).2.2.1 232 = .ok (.iadd, 1) := by decide +kernel
theorem d189_233 : decode (cm_M 189).2.2.1 233 = .ok (.iaload, 1) := by decide +kernel
theorem d189_234 : decode (cm_M 189).2.2.1 234 = .ok (.iconst 1, 1) := by decide +kernel
theorem d189_235 : decode (cm_M 189).2.2.1 235 = .ok (.iadd, 1) := by decide +kernel
theorem d189_236 : decode (cm_M 189).2.2.1 236 = .ok (.invokestatic 325, 3) := by decide +kernel
theorem d189_239 : decode (cm_M 189).2.2.1 239 = .ok (.iastore, 1) := by decide +kernel
theorem d189_240 : decode (cm_M 189).2.2.1 240 = .ok (.iinc 2 1, 3) := by decide +kernel
theorem d189_243 : decode (cm_M 189).2.2.1 243 = .ok (.goto (-57), 3) := by decide +kernel
theorem d189_246 : decode (cm_M 189).2.2.1 246 = .ok (.aload_n 0, 1) := by decide +kernel
theorem d189_247 : decode (cm_M 189).2.2.1 247 = .ok (.getfield 52, 3) := by decide +kernel
theorem d189_250 : decode (cm_M 189).2.2.1 250 = .ok (.iload_n 1, 1) := by decide +kernel
theorem d189_251 : decode (cm_M 189).2.2.1 251 = .ok (.iconst 0, 1) := by decide +kernel
theorem d189_252 : decode (cm_M 189).2.2.1 252 = .ok (.iastore, 1) := by decide +kernel
theorem d189_253 : decode (cm_M 189).2.2.1 253 = .ok (.aload_n 0, 1) := by decide +kernel
theorem d189_254 : decode (cm_M 189).2.2.1 254 = .ok (.getfield 55, 3) := by decide +kernel
theorem d189_257 : decode (cm_M 189).2.2.1 257 = .ok (.iload_n 1, 1) := by decide +kernel
theorem d189_258 : decode (cm_M 189).2.2.1 258 = .ok (.dup2, 1) := by decide +kernel
theorem d189_259 : decode (cm_M 189).2.2.1 259 = .ok (.iaload, 1) := by decide +kernel
theorem d189_260 : decode (cm_M 189).2.2.1 260 = .ok (.iconst 1, 1) := by decide +kernel
theorem d189_261 : decode (cm_M 189).2.2.1 261 = .ok (.iadd, 1) := by decide +kernel
theorem d189_262 : decode (cm_M 189).2.2.1 262 = .ok (.iastore, 1) := by decide +kernel
theorem d189_263 : decode (cm_M 189).2.2.1 263 = .ok (.return_, 1) := by decide +kernel
theorem s189_0 {sc : cmS} {d : Nat} {h : cmH} {Q : Option Value → cmH → Prop} (x1 : Int32) (u2 : Option Value) (u3 : Option Value) (u4 : Option Value) (u5 : Option Value) (u6 : Option Value) (u7 : Option Value) (u8 : Option Value) (u9 : Option Value) (H : cm_wp sc d 189 2 [some (.ref 38), some (.int x1), some (.int (0 : Int32)), u3, u4, u5, u6, u7, u8, u9] [] h Q) : cm_wp sc d 189 0 [some (.ref 38), some (.int x1), u2, u3, u4, u5, u6, u7, u8, u9] [] h Q :=
  wl_ic (v := 0) d189_0 rfl (wl_st (ls' := [some (.ref 38), some (.int x1), some (.int (0 : Int32)), u3, u4, u5, u6, u7, u8, u9]) d189_1 rfl rfl rfl rfl (H))
theorem s189_2 {sc : cmS} {d : Nat} {h : cmH} {Q : Option Value → cmH → Prop} (L : LY h) (x1 : Int32) (x2 : Int32) (u3 : Option Value) (u4 : Option Value) (u5 : Option Value) (u6 : Option Value) (u7 : Option Value) (u8 : Option Value) (u9 : Option Value) (H : ((((8 : Int32) ≤ x2) → cm_wp sc d 189 186 [some (.ref 38), some (.int x1), some (.int (0 : Int32)), u3, u4, u5, u6, u7, u8, u9] [] h Q) ∧ (¬ ((8 : Int32) ≤ x2) → (IX 72 (((8 : Int32) * x1) + x2)) ∧ cm_wp sc d 189 35 [some (.ref 38), some (.int x1), some (.int x2), some (.int (cm_I h 48 (((8 : Int32) * x1) + x2).toNatClampNeg)), some (.int (0 : Int32)), u5, u6, u7, u8, u9] [] (cm_setI h 48 (((8 : Int32) * x1) + x2).toNatClampNeg (0 : Int32)) Q))) : cm_wp sc d 189 2 [some (.ref 38), some (.int x1), some (.int x2), u3, u4, u5, u6, u7, u8, u9] [] h Q :=
  wl_st d189_2 rfl rfl rfl rfl (wl_bi (v := 8) d189_3 rfl (wl_cb (b := (8 : Int32) ≤ x2) (off := 179) (tgt := 184) (pc3 := 8) (st' := []) d189_5 rfl rfl rfl rfl (by decide) rfl (fun c1 => wl_ic (v := 0) d189_184 rfl (wl_st (ls' := [some (.ref 38), some (.int x1), some (.int (0 : Int32)), u3, u4, u5, u6, u7, u8, u9]) d189_185 rfl rfl rfl rfl ((H.1 c1)))) (fun c1 => wl_st d189_8 rfl rfl rfl rfl (wl_gr (b := 48) d189_9 pf11_37 (ly_k L 38 rfl) rfl (ly_r L 38 11 rfl) (wl_bi (v := 8) d189_12 rfl (wl_st d189_14 rfl rfl rfl rfl (wl_st d189_15 rfl rfl rfl rfl (wl_st d189_16 rfl rfl rfl rfl (wl_st d189_17 rfl rfl rfl rfl (And.elim (fun g2 g2k => wl_if (g := cm_ok h 13 48 (((8 : Int32) * x1) + x2)) (st' := [.int (cm_I h 48 (((8 : Int32) * x1) + x2).toNatClampNeg)]) d189_18 rfl rfl rfl rfl (ly_o L 48 rfl g2) (wl_st (ls' := [some (.ref 38), some (.int x1), some (.int x2), some (.int (cm_I h 48 (((8 : Int32) * x1) + x2).toNatClampNeg)), u4, u5, u6, u7, u8, u9]) d189_19 rfl rfl rfl rfl (wl_st d189_20 rfl rfl rfl rfl (wl_gr (b := 48) d189_21 pf11_37 (ly_k L 38 rfl) rfl (ly_r L 38 11 rfl) (wl_bi (v := 8) d189_24 rfl (wl_st d189_26 rfl rfl rfl rfl (wl_st d189_27 rfl rfl rfl rfl (wl_st d189_28 rfl rfl rfl rfl (wl_st d189_29 rfl rfl rfl rfl (wl_ic (v := 0) d189_30 rfl (wl_if (h' := (cm_setI h 48 (((8 : Int32) * x1) + x2).toNatClampNeg (0 : Int32))) d189_31 rfl rfl rfl rfl (ly_o L 48 rfl g2) (wl_ic (v := 0) d189_32 rfl (wl_st (ls' := [some (.ref 38), some (.int x1), some (.int x2), some (.int (cm_I h 48 (((8 : Int32) * x1) + x2).toNatClampNeg)), some (.int (0 : Int32)), u5, u6, u7, u8, u9]) d189_33 rfl rfl rfl rfl (g2k)))))))))))))) (H.2 c1)))))))))))
theorem s189_35 {sc : cmS} {d : Nat} {h : cmH} {Q : Option Value → cmH → Prop} (L : LY h) (x1 : Int32) (x2 : Int32) (x3 : Int32) (x4 : Int32) (u5 : Option Value) (u6 : Option Value) (u7 : Option Value) (u8 : Option Value) (u9 : Option Value) (H : (IX 9 x1) ∧ ((((cm_I h 42 x1.toNatClampNeg) ≤ x4) → (IX 48 (((6 : Int32) * x2) + (2 : Int32))) ∧ cm_wp sc d 189 2 [some (.ref 38), some (.int x1), some (.int (x2 + 1)), some (.int x3), some (.int x4), u5, u6, u7, u8, u9] [] (cm_setI h 71 (((6 : Int32) * x2) + (2 : Int32)).toNatClampNeg ((cm_I h 71 (((6 : Int32) * x2) + (2 : Int32)).toNatClampNeg) + x3)) Q) ∧ (¬ ((cm_I h 42 x1.toNatClampNeg) ≤ x4) → (IX 720 (((8 : Int32) * (((10 : Int32) * x1) + x4)) + x2)) ∧ (IX 8 x2) ∧ (IX 8 x1) ∧ cm_wp sc d 189 35 [some (.ref 38), some (.int x1), some (.int x2), some (.int (x3 + (((((((((cm_I h 46 (((8 : Int32) * (((10 : Int32) * x1) + x4)) + x2).toNatClampNeg) - (cm_I h 47 (((8 : Int32) * (((10 : Int32) * x1) + x4)) + x2).toNatClampNeg)).toInt64) - (((((((cm_I h 46 (((8 : Int32) * (((10 : Int32) * x1) + x4)) + x2).toNatClampNeg) - (cm_I h 47 (((8 : Int32) * (((10 : Int32) * x1) + x4)) + x2).toNatClampNeg)).toInt64) * ((cm_I h 41 x2.toNatClampNeg).toInt64)) / (1000 : Int64)).toInt32).toInt64)) * ((cm_I h 40 x2.toNatClampNeg).toInt64)) / (1000 : Int64)) * ((cm_I h 74 x1.toNatClampNeg).toInt64)) / (1000 : Int64)).toInt32))), some (.int (x4 + 1)), some (.int (((8 : Int32) * (((10 : Int32) * x1) + x4)) + x2)), some (.long (((cm_I h 46 (((8 : Int32) * (((10 : Int32) * x1) + x4)) + x2).toNatClampNeg) - (cm_I h 47 (((8 : Int32) * (((10 : Int32) * x1) + x4)) + x2).toNatClampNeg)).toInt64)), none, some (.int ((((((cm_I h 46 (((8 : Int32) * (((10 : Int32) * x1) + x4)) + x2).toNatClampNeg) - (cm_I h 47 (((8 : Int32) * (((10 : Int32) * x1) + x4)) + x2).toNatClampNeg)).toInt64) * ((cm_I h 41 x2.toNatClampNeg).toInt64)) / (1000 : Int64)).toInt32)), some (.int (((((((((cm_I h 46 (((8 : Int32) * (((10 : Int32) * x1) + x4)) + x2).toNatClampNeg) - (cm_I h 47 (((8 : Int32) * (((10 : Int32) * x1) + x4)) + x2).toNatClampNeg)).toInt64) - (((((((cm_I h 46 (((8 : Int32) * (((10 : Int32) * x1) + x4)) + x2).toNatClampNeg) - (cm_I h 47 (((8 : Int32) * (((10 : Int32) * x1) + x4)) + x2).toNatClampNeg)).toInt64) * ((cm_I h 41 x2.toNatClampNeg).toInt64)) / (1000 : Int64)).toInt32).toInt64)) * ((cm_I h 40 x2.toNatClampNeg).toInt64)) / (1000 : Int64)) * ((cm_I h 74 x1.toNatClampNeg).toInt64)) / (1000 : Int64)).toInt32))] [] (cm_setI (cm_setI h 47 (((8 : Int32) * (((10 : Int32) * x1) + x4)) + x2).toNatClampNeg ((cm_I h 47 (((8 : Int32) * (((10 : Int32) * x1) + x4)) + x2).toNatClampNeg) + ((((((cm_I h 46 (((8 : Int32) * (((10 : Int32) * x1) + x4)) + x2).toNatClampNeg) - (cm_I h 47 (((8 : Int32) * (((10 : Int32) * x1) + x4)) + x2).toNatClampNeg)).toInt64) * ((cm_I h 41 x2.toNatClampNeg).toInt64)) / (1000 : Int64)).toInt32))) 46 (((8 : Int32) * (((10 : Int32) * x1) + x4)) + x2).toNatClampNeg ((cm_I h 46 (((8 : Int32) * (((10 : Int32) * x1) + x4)) + x2).toNatClampNeg) - (((((((((cm_I h 46 (((8 : Int32) * (((10 : Int32) * x1) + x4)) + x2).toNatClampNeg) - (cm_I h 47 (((8 : Int32) * (((10 : Int32) * x1) + x4)) + x2).toNatClampNeg)).toInt64) - (((((((cm_I h 46 (((8 : Int32) * (((10 : Int32) * x1) + x4)) + x2).toNatClampNeg) - (cm_I h 47 (((8 : Int32) * (((10 : Int32) * x1) + x4)) + x2).toNatClampNeg)).toInt64) * ((cm_I h 41 x2.toNatClampNeg).toInt64)) / (1000 : Int64)).toInt32).toInt64)) * ((cm_I h 40 x2.toNatClampNeg).toInt64)) / (1000 : Int64)) * ((cm_I h 74 x1.toNatClampNeg).toInt64)) / (1000 : Int64)).toInt32))) Q))) : cm_wp sc d 189 35 [some (.ref 38), some (.int x1), some (.int x2), some (.int x3), some (.int x4), u5, u6, u7, u8, u9] [] h Q :=
  wl_st d189_35 rfl rfl rfl rfl (wl_st d189_37 rfl rfl rfl rfl (wl_gr (b := 42) d189_38 pf11_19 (ly_k L 38 rfl) rfl (ly_r L 38 5 rfl) (wl_st d189_41 rfl rfl rfl rfl (And.elim (fun g1 g1k => wl_if (g := cm_ok h 13 42 x1) (st' := [.int (cm_I h 42 x1.toNatClampNeg), .int x4]) d189_42 rfl rfl rfl rfl (ly_o L 42 rfl g1) (wl_cb (b := (cm_I h 42 x1.toNatClampNeg) ≤ x4) (off := 120) (tgt := 163) (pc3 := 46) (st' := []) d189_43 rfl rfl rfl rfl (by decide) rfl (fun c2 => wl_st d189_163 rfl rfl rfl rfl (wl_gr (b := 71) d189_164 pf11_108 (ly_k L 38 rfl) rfl (ly_r L 38 42 rfl) (wl_bi (v := 6) d189_167 rfl (wl_st d189_169 rfl rfl rfl rfl (wl_st d189_170 rfl rfl rfl rfl (wl_ic (v := 2) d189_171 rfl (wl_st d189_172 rfl rfl rfl rfl (wl_st d189_173 rfl rfl rfl rfl (And.elim (fun g3 g3k => wl_if (g := cm_ok h 13 71 (((6 : Int32) * x2) + (2 : Int32))) (st' := [.int (cm_I h 71 (((6 : Int32) * x2) + (2 : Int32)).toNatClampNeg), .int (((6 : Int32) * x2) + (2 : Int32)), .ref 71]) d189_174 rfl rfl rfl rfl (ly_o L 71 rfl g3) (wl_st d189_175 rfl rfl rfl rfl (wl_st d189_176 rfl rfl rfl rfl (wl_if (h' := (cm_setI h 71 (((6 : Int32) * x2) + (2 : Int32)).toNatClampNeg ((cm_I h 71 (((6 : Int32) * x2) + (2 : Int32)).toNatClampNeg) + x3))) d189_177 rfl rfl rfl rfl (ly_o L 71 rfl g3) (wl_st (ls' := [some (.ref 38), some (.int x1), some (.int (x2 + 1)), some (.int x3), some (.int x4), u5, u6, u7, u8, u9]) d189_178 rfl rfl rfl rfl (wl_go (tgt := 2) d189_181 (by decide) (g3k))))))) (g1k.1 c2)))))))))) (fun c2 => wl_bi (v := 8) d189_46 rfl (wl_bi (v := 10) d189_48 rfl (wl_st d189_50 rfl rfl rfl rfl (wl_st d189_51 rfl rfl rfl rfl (wl_st d189_52 rfl rfl rfl rfl (wl_st d189_54 rfl rfl rfl rfl (wl_st d189_55 rfl rfl rfl rfl (wl_st d189_56 rfl rfl rfl rfl (wl_st d189_57 rfl rfl rfl rfl (wl_st (ls' := [some (.ref 38), some (.int x1), some (.int x2), some (.int x3), some (.int x4), some (.int (((8 : Int32) * (((10 : Int32) * x1) + x4)) + x2)), u6, u7, u8, u9]) d189_58 rfl rfl rfl rfl (wl_st d189_60 rfl rfl rfl rfl (wl_gr (b := 46) d189_61 pf11_31 (ly_k L 38 rfl) rfl (ly_r L 38 9 rfl) (wl_st d189_64 rfl rfl rfl rfl (And.elim (fun g4 g4k => wl_if (g := cm_ok h 13 46 (((8 : Int32) * (((10 : Int32) * x1) + x4)) + x2)) (st' := [.int (cm_I h 46 (((8 : Int32) * (((10 : Int32) * x1) + x4)) + x2).toNatClampNeg)]) d189_66 rfl rfl rfl rfl (ly_o L 46 rfl g4) (wl_st d189_67 rfl rfl rfl rfl (wl_gr (b := 47) d189_68 pf11_34 (ly_k L 38 rfl) rfl (ly_r L 38 10 rfl) (wl_st d189_71 rfl rfl rfl rfl (wl_if (g := cm_ok h 13 47 (((8 : Int32) * (((10 : Int32) * x1) + x4)) + x2)) (st' := [.int (cm_I h 47 (((8 : Int32) * (((10 : Int32) * x1) + x4)) + x2).toNatClampNeg), .int (cm_I h 46 (((8 : Int32) * (((10 : Int32) * x1) + x4)) + x2).toNatClampNeg)]) d189_73 rfl rfl rfl rfl (ly_o L 47 rfl g4) (wl_st d189_74 rfl rfl rfl rfl (wl_st d189_75 rfl rfl rfl rfl (wl_st (ls' := [some (.ref 38), some (.int x1), some (.int x2), some (.int x3), some (.int x4), some (.int (((8 : Int32) * (((10 : Int32) * x1) + x4)) + x2)), some (.long (((cm_I h 46 (((8 : Int32) * (((10 : Int32) * x1) + x4)) + x2).toNatClampNeg) - (cm_I h 47 (((8 : Int32) * (((10 : Int32) * x1) + x4)) + x2).toNatClampNeg)).toInt64)), none, u8, u9]) d189_76 rfl rfl rfl rfl (wl_st d189_78 rfl rfl rfl rfl (wl_st d189_80 rfl rfl rfl rfl (wl_gr (b := 41) d189_81 pf11_16 (ly_k L 38 rfl) rfl (ly_r L 38 4 rfl) (wl_st d189_84 rfl rfl rfl rfl (And.elim (fun g5 g5k => wl_if (g := cm_ok h 13 41 x2) (st' := [.int (cm_I h 41 x2.toNatClampNeg), .long (((cm_I h 46 (((8 : Int32) * (((10 : Int32) * x1) + x4)) + x2).toNatClampNeg) - (cm_I h 47 (((8 : Int32) * (((10 : Int32) * x1) + x4)) + x2).toNatClampNeg)).toInt64)]) d189_85 rfl rfl rfl rfl (ly_o L 41 rfl g5) (wl_st d189_86 rfl rfl rfl rfl (wl_st d189_87 rfl rfl rfl rfl (wl_cJ (v := 1000) d189_88 pj11_327 (wl_ne (g := (1000 : Int64) = 0) d189_91 rfl rfl rfl rfl (by decide) (wl_st d189_92 rfl rfl rfl rfl (wl_st (ls' := [some (.ref 38), some (.int x1), some (.int x2), some (.int x3), some (.int x4), some (.int (((8 : Int32) * (((10 : Int32) * x1) + x4)) + x2)), some (.long (((cm_I h 46 (((8 : Int32) * (((10 : Int32) * x1) + x4)) + x2).toNatClampNeg) - (cm_I h 47 (((8 : Int32) * (((10 : Int32) * x1) + x4)) + x2).toNatClampNeg)).toInt64)), none, some (.int ((((((cm_I h 46 (((8 : Int32) * (((10 : Int32) * x1) + x4)) + x2).toNatClampNeg) - (cm_I h 47 (((8 : Int32) * (((10 : Int32) * x1) + x4)) + x2).toNatClampNeg)).toInt64) * ((cm_I h 41 x2.toNatClampNeg).toInt64)) / (1000 : Int64)).toInt32)), u9]) d189_93 rfl rfl rfl rfl (wl_st d189_95 rfl rfl rfl rfl (wl_st d189_97 rfl rfl rfl rfl (wl_st d189_99 rfl rfl rfl rfl (wl_st d189_100 rfl rfl rfl rfl (wl_st d189_101 rfl rfl rfl rfl (wl_gr (b := 40) d189_102 pf11_13 (ly_k L 38 rfl) rfl (ly_r L 38 3 rfl) (wl_st d189_105 rfl rfl rfl rfl (wl_if (g := cm_ok h 13 40 x2) (st' := [.int (cm_I h 40 x2.toNatClampNeg), .long ((((cm_I h 46 (((8 : Int32) * (((10 : Int32) * x1) + x4)) + x2).toNatClampNeg) - (cm_I h 47 (((8 : Int32) * (((10 : Int32) * x1) + x4)) + x2).toNatClampNeg)).toInt64) - (((((((cm_I h 46 (((8 : Int32) * (((10 : Int32) * x1) + x4)) + x2).toNatClampNeg) - (cm_I h 47 (((8 : Int32) * (((10 : Int32) * x1) + x4)) + x2).toNatClampNeg)).toInt64) * ((cm_I h 41 x2.toNatClampNeg).toInt64)) / (1000 : Int64)).toInt32).toInt64))]) d189_106 rfl rfl rfl rfl (ly_o L 40 rfl g5) (wl_st d189_107 rfl rfl rfl rfl (wl_st d189_108 rfl rfl rfl rfl (wl_cJ (v := 1000) d189_109 pj11_327 (wl_ne (g := (1000 : Int64) = 0) d189_112 rfl rfl rfl rfl (by decide) (wl_st d189_113 rfl rfl rfl rfl (wl_gr (b := 74) d189_114 pf11_117 (ly_k L 38 rfl) rfl (ly_r L 38 45 rfl) (wl_st d189_117 rfl rfl rfl rfl (And.elim (fun g6 g6k => wl_if (g := cm_ok h 13 74 x1) (st' := [.int (cm_I h 74 x1.toNatClampNeg), .long ((((((cm_I h 46 (((8 : Int32) * (((10 : Int32) * x1) + x4)) + x2).toNatClampNeg) - (cm_I h 47 (((8 : Int32) * (((10 : Int32) * x1) + x4)) + x2).toNatClampNeg)).toInt64) - (((((((cm_I h 46 (((8 : Int32) * (((10 : Int32) * x1) + x4)) + x2).toNatClampNeg) - (cm_I h 47 (((8 : Int32) * (((10 : Int32) * x1) + x4)) + x2).toNatClampNeg)).toInt64) * ((cm_I h 41 x2.toNatClampNeg).toInt64)) / (1000 : Int64)).toInt32).toInt64)) * ((cm_I h 40 x2.toNatClampNeg).toInt64)) / (1000 : Int64))]) d189_118 rfl rfl rfl rfl (ly_o L 74 rfl g6) (wl_st d189_119 rfl rfl rfl rfl (wl_st d189_120 rfl rfl rfl rfl (wl_cJ (v := 1000) d189_121 pj11_327 (wl_ne (g := (1000 : Int64) = 0) d189_124 rfl rfl rfl rfl (by decide) (wl_st d189_125 rfl rfl rfl rfl (wl_st (ls' := [some (.ref 38), some (.int x1), some (.int x2), some (.int x3), some (.int x4), some (.int (((8 : Int32) * (((10 : Int32) * x1) + x4)) + x2)), some (.long (((cm_I h 46 (((8 : Int32) * (((10 : Int32) * x1) + x4)) + x2).toNatClampNeg) - (cm_I h 47 (((8 : Int32) * (((10 : Int32) * x1) + x4)) + x2).toNatClampNeg)).toInt64)), none, some (.int ((((((cm_I h 46 (((8 : Int32) * (((10 : Int32) * x1) + x4)) + x2).toNatClampNeg) - (cm_I h 47 (((8 : Int32) * (((10 : Int32) * x1) + x4)) + x2).toNatClampNeg)).toInt64) * ((cm_I h 41 x2.toNatClampNeg).toInt64)) / (1000 : Int64)).toInt32)), some (.int (((((((((cm_I h 46 (((8 : Int32) * (((10 : Int32) * x1) + x4)) + x2).toNatClampNeg) - (cm_I h 47 (((8 : Int32) * (((10 : Int32) * x1) + x4)) + x2).toNatClampNeg)).toInt64) - (((((((cm_I h 46 (((8 : Int32) * (((10 : Int32) * x1) + x4)) + x2).toNatClampNeg) - (cm_I h 47 (((8 : Int32) * (((10 : Int32) * x1) + x4)) + x2).toNatClampNeg)).toInt64) * ((cm_I h 41 x2.toNatClampNeg).toInt64)) / (1000 : Int64)).toInt32).toInt64)) * ((cm_I h 40 x2.toNatClampNeg).toInt64)) / (1000 : Int64)) * ((cm_I h 74 x1.toNatClampNeg).toInt64)) / (1000 : Int64)).toInt32))]) d189_126 rfl rfl rfl rfl (wl_st d189_128 rfl rfl rfl rfl (wl_gr (b := 47) d189_129 pf11_34 (ly_k L 38 rfl) rfl (ly_r L 38 10 rfl) (wl_st d189_132 rfl rfl rfl rfl (wl_st d189_134 rfl rfl rfl rfl (wl_if (g := cm_ok h 13 47 (((8 : Int32) * (((10 : Int32) * x1) + x4)) + x2)) (st' := [.int (cm_I h 47 (((8 : Int32) * (((10 : Int32) * x1) + x4)) + x2).toNatClampNeg), .int (((8 : Int32) * (((10 : Int32) * x1) + x4)) + x2), .ref 47]) d189_135 rfl rfl rfl rfl (ly_o L 47 rfl g4) (wl_st d189_136 rfl rfl rfl rfl (wl_st d189_138 rfl rfl rfl rfl (wl_if (h' := (cm_setI h 47 (((8 : Int32) * (((10 : Int32) * x1) + x4)) + x2).toNatClampNeg ((cm_I h 47 (((8 : Int32) * (((10 : Int32) * x1) + x4)) + x2).toNatClampNeg) + ((((((cm_I h 46 (((8 : Int32) * (((10 : Int32) * x1) + x4)) + x2).toNatClampNeg) - (cm_I h 47 (((8 : Int32) * (((10 : Int32) * x1) + x4)) + x2).toNatClampNeg)).toInt64) * ((cm_I h 41 x2.toNatClampNeg).toInt64)) / (1000 : Int64)).toInt32)))) d189_139 rfl rfl rfl rfl (ly_o L 47 rfl g4) (wl_st d189_140 rfl rfl rfl rfl (wl_gr (b := 46) d189_141 pf11_31 (ly_k L 38 rfl) rfl (ly_r L 38 9 rfl) (wl_st d189_144 rfl rfl rfl rfl (wl_st d189_146 rfl rfl rfl rfl (wl_if (g := cm_ok (cm_setI h 47 (((8 : Int32) * (((10 : Int32) * x1) + x4)) + x2).toNatClampNeg ((cm_I h 47 (((8 : Int32) * (((10 : Int32) * x1) + x4)) + x2).toNatClampNeg) + ((((((cm_I h 46 (((8 : Int32) * (((10 : Int32) * x1) + x4)) + x2).toNatClampNeg) - (cm_I h 47 (((8 : Int32) * (((10 : Int32) * x1) + x4)) + x2).toNatClampNeg)).toInt64) * ((cm_I h 41 x2.toNatClampNeg).toInt64)) / (1000 : Int64)).toInt32))) 13 46 (((8 : Int32) * (((10 : Int32) * x1) + x4)) + x2)) (st' := [.int (cm_I h 46 (((8 : Int32) * (((10 : Int32) * x1) + x4)) + x2).toNatClampNeg), .int (((8 : Int32) * (((10 : Int32) * x1) + x4)) + x2), .ref 46]) d189_147 rfl rfl rfl rfl (ly_o L 46 rfl g4) (wl_st d189_148 rfl rfl rfl rfl (wl_st d189_150 rfl rfl rfl rfl (wl_if (h' := (cm_setI (cm_setI h 47 (((8 : Int32) * (((10 : Int32) * x1) + x4)) + x2).toNatClampNeg ((cm_I h 47 (((8 : Int32) * (((10 : Int32) * x1) + x4)) + x2).toNatClampNeg) + ((((((cm_I h 46 (((8 : Int32) * (((10 : Int32) * x1) + x4)) + x2).toNatClampNeg) - (cm_I h 47 (((8 : Int32) * (((10 : Int32) * x1) + x4)) + x2).toNatClampNeg)).toInt64) * ((cm_I h 41 x2.toNatClampNeg).toInt64)) / (1000 : Int64)).toInt32))) 46 (((8 : Int32) * (((10 : Int32) * x1) + x4)) + x2).toNatClampNeg ((cm_I h 46 (((8 : Int32) * (((10 : Int32) * x1) + x4)) + x2).toNatClampNeg) - (((((((((cm_I h 46 (((8 : Int32) * (((10 : Int32) * x1) + x4)) + x2).toNatClampNeg) - (cm_I h 47 (((8 : Int32) * (((10 : Int32) * x1) + x4)) + x2).toNatClampNeg)).toInt64) - (((((((cm_I h 46 (((8 : Int32) * (((10 : Int32) * x1) + x4)) + x2).toNatClampNeg) - (cm_I h 47 (((8 : Int32) * (((10 : Int32) * x1) + x4)) + x2).toNatClampNeg)).toInt64) * ((cm_I h 41 x2.toNatClampNeg).toInt64)) / (1000 : Int64)).toInt32).toInt64)) * ((cm_I h 40 x2.toNatClampNeg).toInt64)) / (1000 : Int64)) * ((cm_I h 74 x1.toNatClampNeg).toInt64)) / (1000 : Int64)).toInt32)))) d189_151 rfl rfl rfl rfl (ly_o L 46 rfl g4) (wl_st d189_152 rfl rfl rfl rfl (wl_st d189_153 rfl rfl rfl rfl (wl_st d189_155 rfl rfl rfl rfl (wl_st (ls' := [some (.ref 38), some (.int x1), some (.int x2), some (.int (x3 + (((((((((cm_I h 46 (((8 : Int32) * (((10 : Int32) * x1) + x4)) + x2).toNatClampNeg) - (cm_I h 47 (((8 : Int32) * (((10 : Int32) * x1) + x4)) + x2).toNatClampNeg)).toInt64) - (((((((cm_I h 46 (((8 : Int32) * (((10 : Int32) * x1) + x4)) + x2).toNatClampNeg) - (cm_I h 47 (((8 : Int32) * (((10 : Int32) * x1) + x4)) + x2).toNatClampNeg)).toInt64) * ((cm_I h 41 x2.toNatClampNeg).toInt64)) / (1000 : Int64)).toInt32).toInt64)) * ((cm_I h 40 x2.toNatClampNeg).toInt64)) / (1000 : Int64)) * ((cm_I h 74 x1.toNatClampNeg).toInt64)) / (1000 : Int64)).toInt32))), some (.int x4), some (.int (((8 : Int32) * (((10 : Int32) * x1) + x4)) + x2)), some (.long (((cm_I h 46 (((8 : Int32) * (((10 : Int32) * x1) + x4)) + x2).toNatClampNeg) - (cm_I h 47 (((8 : Int32) * (((10 : Int32) * x1) + x4)) + x2).toNatClampNeg)).toInt64)), none, some (.int ((((((cm_I h 46 (((8 : Int32) * (((10 : Int32) * x1) + x4)) + x2).toNatClampNeg) - (cm_I h 47 (((8 : Int32) * (((10 : Int32) * x1) + x4)) + x2).toNatClampNeg)).toInt64) * ((cm_I h 41 x2.toNatClampNeg).toInt64)) / (1000 : Int64)).toInt32)), some (.int (((((((((cm_I h 46 (((8 : Int32) * (((10 : Int32) * x1) + x4)) + x2).toNatClampNeg) - (cm_I h 47 (((8 : Int32) * (((10 : Int32) * x1) + x4)) + x2).toNatClampNeg)).toInt64) - (((((((cm_I h 46 (((8 : Int32) * (((10 : Int32) * x1) + x4)) + x2).toNatClampNeg) - (cm_I h 47 (((8 : Int32) * (((10 : Int32) * x1) + x4)) + x2).toNatClampNeg)).toInt64) * ((cm_I h 41 x2.toNatClampNeg).toInt64)) / (1000 : Int64)).toInt32).toInt64)) * ((cm_I h 40 x2.toNatClampNeg).toInt64)) / (1000 : Int64)) * ((cm_I h 74 x1.toNatClampNeg).toInt64)) / (1000 : Int64)).toInt32))]) d189_156 rfl rfl rfl rfl (wl_st (ls' := [some (.ref 38), some (.int x1), some (.int x2), some (.int (x3 + (((((((((cm_I h 46 (((8 : Int32) * (((10 : Int32) * x1) + x4)) + x2).toNatClampNeg) - (cm_I h 47 (((8 : Int32) * (((10 : Int32) * x1) + x4)) + x2).toNatClampNeg)).toInt64) - (((((((cm_I h 46 (((8 : Int32) * (((10 : Int32) * x1) + x4)) + x2).toNatClampNeg) - (cm_I h 47 (((8 : Int32) * (((10 : Int32) * x1) + x4)) + x2).toNatClampNeg)).toInt64) * ((cm_I h 41 x2.toNatClampNeg).toInt64)) / (1000 : Int64)).toInt32).toInt64)) * ((cm_I h 40 x2.toNatClampNeg).toInt64)) / (1000 : Int64)) * ((cm_I h 74 x1.toNatClampNeg).toInt64)) / (1000 : Int64)).toInt32))), some (.int (x4 + 1)), some (.int (((8 : Int32) * (((10 : Int32) * x1) + x4)) + x2)), some (.long (((cm_I h 46 (((8 : Int32) * (((10 : Int32) * x1) + x4)) + x2).toNatClampNeg) - (cm_I h 47 (((8 : Int32) * (((10 : Int32) * x1) + x4)) + x2).toNatClampNeg)).toInt64)), none, some (.int ((((((cm_I h 46 (((8 : Int32) * (((10 : Int32) * x1) + x4)) + x2).toNatClampNeg) - (cm_I h 47 (((8 : Int32) * (((10 : Int32) * x1) + x4)) + x2).toNatClampNeg)).toInt64) * ((cm_I h 41 x2.toNatClampNeg).toInt64)) / (1000 : Int64)).toInt32)), some (.int (((((((((cm_I h 46 (((8 : Int32) * (((10 : Int32) * x1) + x4)) + x2).toNatClampNeg) - (cm_I h 47 (((8 : Int32) * (((10 : Int32) * x1) + x4)) + x2).toNatClampNeg)).toInt64) - (((((((cm_I h 46 (((8 : Int32) * (((10 : Int32) * x1) + x4)) + x2).toNatClampNeg) - (cm_I h 47 (((8 : Int32) * (((10 : Int32) * x1) + x4)) + x2).toNatClampNeg)).toInt64) * ((cm_I h 41 x2.toNatClampNeg).toInt64)) / (1000 : Int64)).toInt32).toInt64)) * ((cm_I h 40 x2.toNatClampNeg).toInt64)) / (1000 : Int64)) * ((cm_I h 74 x1.toNatClampNeg).toInt64)) / (1000 : Int64)).toInt32))]) d189_157 rfl rfl rfl rfl (wl_go (tgt := 35) d189_160 (by decide) (g6k)))))))))))))))))))))))))))))) g5k))))))))))))))))))))))) g4k))))))))))))) (g1k.2 c2))))))))))))))))) H))))
theorem s189_186 {sc : cmS} {d : Nat} {h : cmH} {Q : Option Value → cmH → Prop} (L : LY h) (x1 : Int32) (x2 : Int32) (u3 : Option Value) (u4 : Option Value) (u5 : Option Value) (u6 : Option Value) (u7 : Option Value) (u8 : Option Value) (u9 : Option Value) (H : (IX 9 x1) ∧ ((((cm_I h 42 x1.toNatClampNeg) ≤ x2) → cm_wp sc (d + 1) 189 246 [some (.ref 38), some (.int x1), some (.int x2), u3, u4, u5, u6, u7, u8, u9] [] h Q) ∧ (¬ ((cm_I h 42 x1.toNatClampNeg) ≤ x2) → (IX 8 x1) ∧ ((((cm_I h 74 x1.toNatClampNeg) ≤ (cm_I h 50 x1.toNatClampNeg)) → cm_wp sc (d + 1) 189 246 [some (.ref 38), some (.int x1), some (.int x2), u3, u4, u5, u6, u7, u8, u9] [] h Q) ∧ (¬ ((cm_I h 74 x1.toNatClampNeg) ≤ (cm_I h 50 x1.toNatClampNeg)) → (IX 90 (((10 : Int32) * x1) + x2)) ∧ cm_wp sc (d + 1) 189 186 [some (.ref 38), some (.int x1), some (.int (x2 + 1)), u3, u4, u5, u6, u7, u8, u9] [] (cm_setI h 43 (((10 : Int32) * x1) + x2).toNatClampNeg (if ((cm_I h 43 (((10 : Int32) * x1) + x2).toNatClampNeg) + (1 : Int32)) < (20 : Int32) then ((cm_I h 43 (((10 : Int32) * x1) + x2).toNatClampNeg) + (1 : Int32)) else (20 : Int32))) Q))))) : cm_wp sc (d + 1) 189 186 [some (.ref 38), some (.int x1), some (.int x2), u3, u4, u5, u6, u7, u8, u9] [] h Q :=
  wl_st d189_186 rfl rfl rfl rfl (wl_st d189_187 rfl rfl rfl rfl (wl_gr (b := 42) d189_188 pf11_19 (ly_k L 38 rfl) rfl (ly_r L 38 5 rfl) (wl_st d189_191 rfl rfl rfl rfl (And.elim (fun g1 g1k => wl_if (g := cm_ok h 13 42 x1) (st' := [.int (cm_I h 42 x1.toNatClampNeg), .int x2]) d189_192 rfl rfl rfl rfl (ly_o L 42 rfl g1) (wl_cb (b := (cm_I h 42 x1.toNatClampNeg) ≤ x2) (off := 53) (tgt := 246) (pc3 := 196) (st' := []) d189_193 rfl rfl rfl rfl (by decide) rfl (fun c2 => (g1k.1 c2)) (fun c2 => wl_st d189_196 rfl rfl rfl rfl (wl_gr (b := 74) d189_197 pf11_117 (ly_k L 38 rfl) rfl (ly_r L 38 45 rfl) (wl_st d189_200 rfl rfl rfl rfl (And.elim (fun g3 g3k => wl_if (g := cm_ok h 13 74 x1) (st' := [.int (cm_I h 74 x1.toNatClampNeg)]) d189_201 rfl rfl rfl rfl (ly_o L 74 rfl g3) (wl_st d189_202 rfl rfl rfl rfl (wl_gr (b := 50) d189_203 pf11_43 (ly_k L 38 rfl) rfl (ly_r L 38 13 rfl) (wl_st d189_206 rfl rfl rfl rfl (wl_if (g := cm_ok h 13 50 x1) (st' := [.int (cm_I h 50 x1.toNatClampNeg), .int (cm_I h 74 x1.toNatClampNeg)]) d189_207 rfl rfl rfl rfl (ly_o L 50 rfl g1) (wl_cb (b := (cm_I h 74 x1.toNatClampNeg) ≤ (cm_I h 50 x1.toNatClampNeg)) (off := 38) (tgt := 246) (pc3 := 211) (st' := []) d189_208 rfl rfl rfl rfl (by decide) rfl (fun c4 => (g3k.1 c4)) (fun c4 => wl_st d189_211 rfl rfl rfl rfl (wl_gr (b := 43) d189_212 pf11_22 (ly_k L 38 rfl) rfl (ly_r L 38 6 rfl) (wl_bi (v := 10) d189_215 rfl (wl_st d189_217 rfl rfl rfl rfl (wl_st d189_218 rfl rfl rfl rfl (wl_st d189_219 rfl rfl rfl rfl (wl_st d189_220 rfl rfl rfl rfl (wl_bi (v := 20) d189_221 rfl (wl_st d189_223 rfl rfl rfl rfl (wl_gr (b := 43) d189_224 pf11_22 (ly_k L 38 rfl) rfl (ly_r L 38 6 rfl) (wl_bi (v := 10) d189_227 rfl (wl_st d189_229 rfl rfl rfl rfl (wl_st d189_230 rfl rfl rfl rfl (wl_st d189_231 rfl rfl rfl rfl (wl_st d189_232 rfl rfl rfl rfl (And.elim (fun g5 g5k => wl_if (g := cm_ok h 13 43 (((10 : Int32) * x1) + x2)) (st' := [.int (cm_I h 43 (((10 : Int32) * x1) + x2).toNatClampNeg), .int (20 : Int32), .int (((10 : Int32) * x1) + x2), .ref 43]) d189_233 rfl rfl rfl rfl (ly_o L 43 rfl g5) (wl_ic (v := 1) d189_234 rfl (wl_st d189_235 rfl rfl rfl rfl (wl_pr (st' := [.int (if ((cm_I h 43 (((10 : Int32) * x1) + x2).toNatClampNeg) + (1 : Int32)) < (20 : Int32) then ((cm_I h 43 (((10 : Int32) * x1) + x2).toNatClampNeg) + (1 : Int32)) else (20 : Int32)), .int (((10 : Int32) * x1) + x2), .ref 43]) d189_236 rfl rfl rfl pm11_325 (by decide) rfl rfl (wl_if (h' := (cm_setI h 43 (((10 : Int32) * x1) + x2).toNatClampNeg (if ((cm_I h 43 (((10 : Int32) * x1) + x2).toNatClampNeg) + (1 : Int32)) < (20 : Int32) then ((cm_I h 43 (((10 : Int32) * x1) + x2).toNatClampNeg) + (1 : Int32)) else (20 : Int32)))) d189_239 rfl rfl rfl rfl (ly_o L 43 rfl g5) (wl_st (ls' := [some (.ref 38), some (.int x1), some (.int (x2 + 1)), u3, u4, u5, u6, u7, u8, u9]) d189_240 rfl rfl rfl rfl (wl_go (tgt := 186) d189_243 (by decide) (g5k)))))))) (g3k.2 c4))))))))))))))))))))))) (g1k.2 c2))))))) H))))
theorem s189_246 {sc : cmS} {d : Nat} {h : cmH} {Q : Option Value → cmH → Prop} (L : LY h) (x1 : Int32) (x2 : Int32) (u3 : Option Value) (u4 : Option Value) (u5 : Option Value) (u6 : Option Value) (u7 : Option Value) (u8 : Option Value) (u9 : Option Value) (H : (IX 9 x1) ∧ Q none (cm_setI (cm_setI h 53 x1.toNatClampNeg (0 : Int32)) 54 x1.toNatClampNeg ((cm_I h 54 x1.toNatClampNeg) + (1 : Int32)))) : cm_wp sc d 189 246 [some (.ref 38), some (.int x1), some (.int x2), u3, u4, u5, u6, u7, u8, u9] [] h Q :=
  wl_st d189_246 rfl rfl rfl rfl (wl_gr (b := 53) d189_247 pf11_52 (ly_k L 38 rfl) rfl (ly_r L 38 16 rfl) (wl_st d189_250 rfl rfl rfl rfl (wl_ic (v := 0) d189_251 rfl (And.elim (fun g1 g1k => wl_if (h' := (cm_setI h 53 x1.toNatClampNeg (0 : Int32))) d189_252 rfl rfl rfl rfl (ly_o L 53 rfl g1) (wl_st d189_253 rfl rfl rfl rfl (wl_gr (b := 54) d189_254 pf11_55 (ly_k L 38 rfl) rfl (ly_r L 38 17 rfl) (wl_st d189_257 rfl rfl rfl rfl (wl_st d189_258 rfl rfl rfl rfl (wl_if (g := cm_ok (cm_setI h 53 x1.toNatClampNeg (0 : Int32)) 13 54 x1) (st' := [.int (cm_I h 54 x1.toNatClampNeg), .int x1, .ref 54]) d189_259 rfl rfl rfl rfl (ly_o L 54 rfl g1) (wl_ic (v := 1) d189_260 rfl (wl_st d189_261 rfl rfl rfl rfl (wl_if (h' := (cm_setI (cm_setI h 53 x1.toNatClampNeg (0 : Int32)) 54 x1.toNatClampNeg ((cm_I h 54 x1.toNatClampNeg) + (1 : Int32)))) d189_262 rfl rfl rfl rfl (ly_o L 54 rfl g1) (wl_rt d189_263 rfl rfl rfl g1k)))))))))) H))))
