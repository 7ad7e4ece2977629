-- ClogHouse$Reader.faultIn(LClogHouse$Text;)I
theorem d39_0 : decode (cm_M 39).2.2.1 0 = .ok (.aload_n 0, 1) := by decide +kernel
theorem d39_1 : decode (cm_M 39).2.2.1 1 = .ok (.aload_n 1, 1) := by decide +kernel
theorem d39_2 : decode (cm_M 39).2.2.1 2 = .ok (.invokevirtual 19, 3) := by decide +kernel
theorem d39_5 : decode (cm_M 39).2.2.1 5 = .ok (.iconst 1, 1) := by decide +kernel
theorem d39_6 : decode (cm_M 39).2.2.1 6 = .ok (.istore_n 2, 1) := by decide +kernel
theorem d39_7 : decode (cm_M 39).2.2.1 7 = .ok (.iconst 0, 1) := by decide +kernel
theorem d39_8 : decode (cm_M 39).2.2.1 8 = .ok (.istore_n 3, 1) := by decide +kernel
theorem d39_9 : decode (cm_M 39).2.2.1 9 = .ok (.iload_n 3, 1) := by decide +kernel
theorem d39_10 : decode (cm_M 39).2.2.1 10 = .ok (.sipush 160, 3) := by decide +kernel
theorem d39_13 : decode (cm_M 39).2.2.1 13 = .ok (.if_icmp .gt 22, 3) := by decide +kernel
theorem d39_16 : decode (cm_M 39).2.2.1 16 = .ok (.iload_n 2, 1) := by decide +kernel
theorem d39_17 : decode (cm_M 39).2.2.1 17 = .ok (.ifCond .eq 18, 3) := by decide +kernel
theorem d39_20 : decode (cm_M 39).2.2.1 20 = .ok (.aload_n 0, 1) := by decide +kernel
theorem d39_21 : decode (cm_M 39).2.2.1 21 = .ok (.invokevirtual 23, 3) := by decide +kernel
theorem d39_24 : decode (cm_M 39).2.2.1 24 = .ok (.aload_n 0, 1) := by decide +kernel
theorem d39_25 : decode (cm_M 39).2.2.1 25 = .ok (.invokevirtual 26, 3) := by decide +kernel
theorem d39_28 : decode (cm_M 39).2.2.1 28 = .ok (.istore_n 2, 1) := by decide +kernel
theorem d39_29 : decode (cm_M 39).2.2.1 29 = .ok (.iinc 3 1, 3) := by decide +kernel
theorem d39_32 : decode (cm_M 39).2.2.1 32 = .ok (.goto (-23), 3) := by decide +kernel
theorem d39_35 : decode (cm_M 39).2.2.1 35 = .ok (.aload_n 0, 1) := by decide +kernel
theorem d39_36 : decode (cm_M 39).2.2.1 36 = .ok (.getfield 30, 3) := by decide +kernel
theorem d39_39 : decode (cm_M 39).2.2.1 39 = .ok (.ireturn, 1) := by decide +kernel
theorem s39_0 {sc : cmS} {d : Nat} {h : cmH} {Q : Option Value → cmH → Prop} (L : LY h) (a1 : Nat) (u2 : Option Value) (u3 : Option Value) (H : cm_cv sc d 40 [.ref 9, .ref a1] h (fun h' => cm_wp sc (d + 1) 39 5 [some (.ref 9), some (.ref a1), u2, u3] [] h' Q)) : cm_wp sc (d + 1) 39 0 [some (.ref 9), some (.ref a1), u2, u3] [] h Q :=
  wl_st d39_0 rfl rfl rfl rfl (wl_st d39_1 rfl rfl rfl rfl (wl_cv d39_2 rfl rfl rfl pm6_19 (by decide) (ca_v (Or.inl rfl) rfl (Nat.le_of_ble_eq_true rfl) (Nat.le_of_ble_eq_true rfl) (ly_k L 9 rfl).2 (ly_k L 9 rfl).1 (by decide)) H))
theorem s39_5 {sc : cmS} {d : Nat} {h : cmH} {Q : Option Value → cmH → Prop} (a1 : Nat) (u2 : Option Value) (u3 : Option Value) (H : cm_wp sc d 39 9 [some (.ref 9), some (.ref a1), some (.int (1 : Int32)), some (.int (0 : Int32))] [] h Q) : cm_wp sc d 39 5 [some (.ref 9), some (.ref a1), u2, u3] [] h Q :=
  wl_ic (v := 1) d39_5 rfl (wl_st (ls' := [some (.ref 9), some (.ref a1), some (.int (1 : Int32)), u3]) d39_6 rfl rfl rfl rfl (wl_ic (v := 0) d39_7 rfl (wl_st (ls' := [some (.ref 9), some (.ref a1), some (.int (1 : Int32)), some (.int (0 : Int32))]) d39_8 rfl rfl rfl rfl (H))))
theorem s39_9 {sc : cmS} {d : Nat} {h : cmH} {Q : Option Value → cmH → Prop} (L : LY h) (a1 : Nat) (x2 : Int32) (x3 : Int32) (H : ((((160 : Int32) < x3) → Q (some (.int (cm_I h 9 4))) h) ∧ (¬ ((160 : Int32) < x3) → (((x2 = 0) → Q (some (.int (cm_I h 9 4))) h) ∧ (¬ (x2 = 0) → cm_cv sc d 41 [.ref 9] h (fun h' => cm_wp sc (d + 1) 39 24 [some (.ref 9), some (.ref a1), some (.int x2), some (.int x3)] [] h' Q)))))) : cm_wp sc (d + 1) 39 9 [some (.ref 9), some (.ref a1), some (.int x2), some (.int x3)] [] h Q :=
  wl_st d39_9 rfl rfl rfl rfl (wl_si (v := 160) d39_10 rfl (wl_cb (b := (160 : Int32) < x3) (off := 22) (tgt := 35) (pc3 := 16) (st' := []) d39_13 rfl rfl rfl rfl (by decide) rfl (fun c1 => wl_st d39_35 rfl rfl rfl rfl (wl_gf (v := .int (cm_I h 9 4)) d39_36 pf6_30 (ly_k L 9 rfl) rfl (wl_rt d39_39 rfl rfl rfl (H.1 c1)))) (fun c1 => wl_st d39_16 rfl rfl rfl rfl (wl_cb (b := x2 = 0) (off := 18) (tgt := 35) (pc3 := 20) (st' := []) d39_17 rfl rfl rfl rfl (by decide) rfl (fun c2 => wl_st d39_35 rfl rfl rfl rfl (wl_gf (v := .int (cm_I h 9 4)) d39_36 pf6_30 (ly_k L 9 rfl) rfl (wl_rt d39_39 rfl rfl rfl ((H.2 c1).1 c2)))) (fun c2 => wl_st d39_20 rfl rfl rfl rfl (wl_cv d39_21 rfl rfl rfl pm6_23 (by decide) (ca_v (Or.inl rfl) rfl (Nat.le_of_ble_eq_true rfl) (Nat.le_of_ble_eq_true rfl) (ly_k L 9 rfl).2 (ly_k L 9 rfl).1 (by decide)) ((H.2 c1).2 c2)))))))
theorem s39_24 {sc : cmS} {d : Nat} {h : cmH} {Q : Option Value → cmH → Prop} (L : LY h) (a1 : Nat) (x2 : Int32) (x3 : Int32) (H : cm_ci sc d 54 [.ref 9] h (fun r h' => cm_wp sc (d + 1) 39 28 [some (.ref 9), some (.ref a1), some (.int x2), some (.int x3)] [.int r] h' Q)) : cm_wp sc (d + 1) 39 24 [some (.ref 9), some (.ref a1), some (.int x2), some (.int x3)] [] h Q :=
  wl_st d39_24 rfl rfl rfl rfl (wl_ci d39_25 rfl rfl rfl pm6_26 (by decide) (ca_v (Or.inl rfl) rfl (Nat.le_of_ble_eq_true rfl) (Nat.le_of_ble_eq_true rfl) (ly_k L 9 rfl).2 (ly_k L 9 rfl).1 (by decide)) H)
theorem s39_28 {sc : cmS} {d : Nat} {h : cmH} {Q : Option Value → cmH → Prop} (a1 : Nat) (x2 : Int32) (x3 : Int32) (sx0 : Int32) (H : cm_wp sc d 39 9 [some (.ref 9), some (.ref a1), some (.int sx0), some (.int (x3 + 1))] [] h Q) : cm_wp sc d 39 28 [some (.ref 9), some (.ref a1), some (.int x2), some (.int x3)] [.int sx0] h Q :=
  wl_st (ls' := [some (.ref 9), some (.ref a1), some (.int sx0), some (.int x3)]) d39_28 rfl rfl rfl rfl (wl_st (ls' := [some (.ref 9), some (.ref a1), some (.int sx0), some (.int (x3 + 1))]) d39_29 rfl rfl rfl rfl (wl_go (tgt := 9) d39_32 (by decide) (H)))
-- ClogHouse$Reader.begin(LClogHouse$Text;)V
theorem d40_0 : decode (cm_M 40).2.2.1 0 = .ok (.aload_n 0, 1) := by decide +kernel
theorem d40_1 : decode (cm_M 40).2.2.1 1 = .ok (.aload_n 1, 1) := by decide +kernel
theorem d40_2 : decode (cm_M 40).2.2.1 2 = .ok (.getfield 46, 3) := by decide +kernel
theorem d40_5 : decode (cm_M 40).2.2.1 5 = .ok (.putfield 15, 3) := by decide +kernel
theorem d40_8 : decode (cm_M 40).2.2.1 8 = .ok (.aload_n 0, 1) := by decide +kernel
theorem d40_9 : decode (cm_M 40).2.2.1 9 = .ok (.aload_n 1, 1) := by decide +kernel
theorem d40_10 : decode (cm_M 40).2.2.1 10 = .ok (.getfield 49, 3) := by decide +kernel
theorem d40_13 : decode (cm_M 40).2.2.1 13 = .ok (.aload_n 0, 1) := by decide +kernel
theorem d40_14 : decode (cm_M 40).2.2.1 14 = .ok (.getfield 15, 3) := by decide +kernel
theorem d40_17 : decode (cm_M 40).2.2.1 17 = .ok (.arraylength, 1) := by decide +kernel
theorem d40_18 : decode (cm_M 40).2.2.1 18 = .ok (.invokestatic 52, 3) := by decide +kernel
theorem d40_21 : decode (cm_M 40).2.2.1 21 = .ok (.putfield 58, 3) := by decide +kernel
theorem d40_24 : decode (cm_M 40).2.2.1 24 = .ok (.aload_n 0, 1) := by decide +kernel
theorem d40_25 : decode (cm_M 40).2.2.1 25 = .ok (.iconst 0, 1) := by decide +kernel
theorem d40_26 : decode (cm_M 40).2.2.1 26 = .ok (.putfield 59, 3) := by decide +kernel
theorem d40_29 : decode (cm_M 40).2.2.1 29 = .ok (.aload_n 0, 1) := by decide +kernel
theorem d40_30 : decode (cm_M 40).2.2.1 30 = .ok (.iconst (-1), 1) := by decide +kernel
theorem d40_31 : decode (cm_M 40).2.2.1 31 = .ok (.putfield 30, 3) := by decide +kernel
theorem d40_34 : decode (cm_M 40).2.2.1 34 = .ok (.return_, 1) := by decide +kernel
theorem s40_0 {sc : cmS} {d : Nat} {h : cmH} {Q : Option Value → cmH → Prop} (L : LY h) (a1 : Nat) (H : (TX h a1) ∧ (cm_kd h a1 = 9 ∧ a1 < cm_n h) ∧ (cm_kd h 9 = 6 ∧ 9 < cm_n h) ∧ ∃ b4, cm_R (cm_setR h 9 1 (some (a1 + 1))) 9 1 = some b4 ∧ (12 ≤ cm_kd h b4 ∧ cm_kd h b4 ≤ 18 ∧ b4 < cm_n h) ∧ Q none (cm_setI (cm_setI (cm_setI (cm_setR h 9 1 (some (a1 + 1))) 9 2 (if (Int32.ofNat (cm_ln h b4)) < (cm_I h a1 1) then (Int32.ofNat (cm_ln h b4)) else (cm_I h a1 1))) 9 3 (0 : Int32)) 9 4 (-1 : Int32))) : cm_wp sc (d + 1) 40 0 [some (.ref 9), some (.ref a1)] [] h Q :=
  wl_st d40_0 rfl rfl rfl rfl (wl_st d40_1 rfl rfl rfl rfl (And.elim (fun g1 g1k => wl_gr (b := (a1 + 1)) d40_2 pf6_46 (TX.k g1) rfl (TX.r0 g1) (wl_pf (h' := (cm_setR h 9 1 (some (a1 + 1)))) d40_5 pf6_15 (ly_k L 9 rfl) (Or.inl rfl) rfl (wl_st d40_8 rfl rfl rfl rfl (wl_st d40_9 rfl rfl rfl rfl (And.elim (fun g2 g2k => wl_gf (v := .int (cm_I h a1 1)) d40_10 pf6_49 g2 rfl (wl_st d40_13 rfl rfl rfl rfl (And.elim (fun g3 g3k => Exists.elim g3k fun b4 b4q => And.elim (fun b4e b4k => wl_gr (b := b4) d40_14 pf6_15 g3 rfl b4e (And.elim (fun g5 g5k => wl_if (st' := [.int (Int32.ofNat (cm_ln h b4)), .int (cm_I h a1 1), .ref 9]) d40_17 rfl rfl rfl rfl g5 (wl_pr (st' := [.int (if (Int32.ofNat (cm_ln h b4)) < (cm_I h a1 1) then (Int32.ofNat (cm_ln h b4)) else (cm_I h a1 1)), .ref 9]) d40_18 rfl rfl rfl pm6_52 (by decide) rfl rfl (wl_pf (h' := (cm_setI (cm_setR h 9 1 (some (a1 + 1))) 9 2 (if (Int32.ofNat (cm_ln h b4)) < (cm_I h a1 1) then (Int32.ofNat (cm_ln h b4)) else (cm_I h a1 1)))) d40_21 pf6_58 g3 (Or.inl rfl) rfl (wl_st d40_24 rfl rfl rfl rfl (wl_ic (v := 0) d40_25 rfl (wl_pf (h' := (cm_setI (cm_setI (cm_setR h 9 1 (some (a1 + 1))) 9 2 (if (Int32.ofNat (cm_ln h b4)) < (cm_I h a1 1) then (Int32.ofNat (cm_ln h b4)) else (cm_I h a1 1))) 9 3 (0 : Int32))) d40_26 pf6_59 g3 (Or.inl rfl) rfl (wl_st d40_29 rfl rfl rfl rfl (wl_ic (v := (-1)) d40_30 rfl (wl_pf (h' := (cm_setI (cm_setI (cm_setI (cm_setR h 9 1 (some (a1 + 1))) 9 2 (if (Int32.ofNat (cm_ln h b4)) < (cm_I h a1 1) then (Int32.ofNat (cm_ln h b4)) else (cm_I h a1 1))) 9 3 (0 : Int32)) 9 4 (-1 : Int32))) d40_31 pf6_30 g3 (Or.inl rfl) rfl (wl_rt d40_34 rfl rfl rfl g5k)))))))))) b4k)) b4q) g2k))) g1k))))) H))
-- ClogHouse$Reader.readClause()V
theorem d41_0 : decode (cm_M 41).2.2.1 0 = .ok (.aload_n 0, 1) := by decide +kernel
theorem d41_1 : decode (cm_M 41).2.2.1 1 = .ok (.aload_n 0, 1) := by decide +kernel
theorem d41_2 : decode (cm_M 41).2.2.1 2 = .ok (.invokevirtual 62, 3) := by decide +kernel
theorem d41_5 : decode (cm_M 41).2.2.1 5 = .ok (.putfield 34, 3) := by decide +kernel
theorem d41_8 : decode (cm_M 41).2.2.1 8 = .ok (.ldc 69, 2) := by decide +kernel
theorem d41_10 : decode (cm_M 41).2.2.1 10 = .ok (.aload_n 0, 1) := by decide +kernel
theorem d41_11 : decode (cm_M 41).2.2.1 11 = .ok (.getfield 34, 3) := by decide +kernel
theorem d41_14 : decode (cm_M 41).2.2.1 14 = .ok (.invokevirtual 71, 3) := by decide +kernel
theorem d41_17 : decode (cm_M 41).2.2.1 17 = .ok (.ifCond .ge 8, 3) := by decide +kernel
theorem d41_20 : decode (cm_M 41).2.2.1 20 = .ok (.aload_n 0, 1) := by decide +kernel
theorem d41_21 : decode (cm_M 41).2.2.1 21 = .ok (.invokevirtual 66, 3) := by decide +kernel
theorem d41_24 : decode (cm_M 41).2.2.1 24 = .ok (.return_, 1) := by decide +kernel
theorem d41_25 : decode (cm_M 41).2.2.1 25 = .ok (.aload_n 0, 1) := by decide +kernel
theorem d41_26 : decode (cm_M 41).2.2.1 26 = .ok (.dup, 1) := by decide +kernel
theorem d41_27 : decode (cm_M 41).2.2.1 27 = .ok (.getfield 59, 3) := by decide +kernel
theorem d41_30 : decode (cm_M 41).2.2.1 30 = .ok (.iconst 1, 1) := by decide +kernel
theorem d41_31 : decode (cm_M 41).2.2.1 31 = .ok (.iadd, 1) := by decide +kernel
theorem d41_32 : decode (cm_M 41).2.2.1 32 = .ok (.putfield 59, 3) := by decide +kernel
theorem d41_35 : decode (cm_M 41).2.2.1 35 = .ok (.aload_n 0, 1) := by decide +kernel
theorem d41_36 : decode (cm_M 41).2.2.1 36 = .ok (.bipush 58, 2) := by decide +kernel
theorem d41_38 : decode (cm_M 41).2.2.1 38 = .ok (.invokevirtual 77, 3) := by decide +kernel
theorem d41_41 : decode (cm_M 41).2.2.1 41 = .ok (.aload_n 0, 1) := by decide +kernel
theorem d41_42 : decode (cm_M 41).2.2.1 42 = .ok (.iconst 1, 1) := by decide +kernel
theorem d41_43 : decode (cm_M 41).2.2.1 43 = .ok (.putfield 38, 3) := by decide +kernel
theorem d41_46 : decode (cm_M 41).2.2.1 46 = .ok (.aload_n 0, 1) := by decide +kernel
theorem d41_47 : decode (cm_M 41).2.2.1 47 = .ok (.invokevirtual 62, 3) := by decide +kernel
theorem d41_50 : decode (cm_M 41).2.2.1 50 = .ok (.istore_n 1, 1) := by decide +kernel
theorem d41_51 : decode (cm_M 41).2.2.1 51 = .ok (.iload_n 1, 1) := by decide +kernel
theorem d41_52 : decode (cm_M 41).2.2.1 52 = .ok (.bipush 33, 2) := by decide +kernel
theorem d41_54 : decode (cm_M 41).2.2.1 54 = .ok (.if_icmp .eq 9, 3) := by decide +kernel
theorem d41_57 : decode (cm_M 41).2.2.1 57 = .ok (.iload_n 1, 1) := by decide +kernel
theorem d41_58 : decode (cm_M 41).2.2.1 58 = .ok (.bipush 40, 2) := by decide +kernel
theorem d41_60 : decode (cm_M 41).2.2.1 60 = .ok (.if_icmp .ne 20, 3) := by decide +kernel
theorem d41_63 : decode (cm_M 41).2.2.1 63 = .ok (.aload_n 0, 1) := by decide +kernel
theorem d41_64 : decode (cm_M 41).2.2.1 64 = .ok (.aload_n 0, 1) := by decide +kernel
theorem d41_65 : decode (cm_M 41).2.2.1 65 = .ok (.aload_n 0, 1) := by decide +kernel
theorem d41_66 : decode (cm_M 41).2.2.1 66 = .ok (.iconst 0, 1) := by decide +kernel
theorem d41_67 : decode (cm_M 41).2.2.1 67 = .ok (.invokevirtual 81, 3) := by decide +kernel
theorem d41_70 : decode (cm_M 41).2.2.1 70 = .ok (.iconst 0, 1) := by decide +kernel
theorem d41_71 : decode (cm_M 41).2.2.1 71 = .ok (.invokevirtual 85, 3) := by decide +kernel
theorem d41_74 : decode (cm_M 41).2.2.1 74 = .ok (.putfield 38, 3) := by decide +kernel
theorem d41_77 : decode (cm_M 41).2.2.1 77 = .ok (.goto 54, 3) := by decide +kernel
theorem d41_80 : decode (cm_M 41).2.2.1 80 = .ok (.aload_n 0, 1) := by decide +kernel
theorem d41_81 : decode (cm_M 41).2.2.1 81 = .ok (.aload_n 0, 1) := by decide +kernel
theorem d41_82 : decode (cm_M 41).2.2.1 82 = .ok (.iconst 0, 1) := by decide +kernel
theorem d41_83 : decode (cm_M 41).2.2.1 83 = .ok (.invokevirtual 89, 3) := by decide +kernel
theorem d41_86 : decode (cm_M 41).2.2.1 86 = .ok (.putfield 42, 3) := by decide +kernel
theorem d41_89 : decode (cm_M 41).2.2.1 89 = .ok (.aload_n 0, 1) := by decide +kernel
theorem d41_90 : decode (cm_M 41).2.2.1 90 = .ok (.invokevirtual 62, 3) := by decide +kernel
theorem d41_93 : decode (cm_M 41).2.2.1 93 = .ok (.istore_n 1, 1) := by decide +kernel
theorem d41_94 : decode (cm_M 41).2.2.1 94 = .ok (.iload_n 1, 1) := by decide +kernel
theorem d41_95 : decode (cm_M 41).2.2.1 95 = .ok (.bipush 61, 2) := by decide +kernel
theorem d41_97 : decode (cm_M 41).2.2.1 97 = .ok (.if_icmp .eq 16, 3) := by decide +kernel
theorem d41_100 : decode (cm_M 41).2.2.1 100 = .ok (.iload_n 1, 1) := by decide +kernel
theorem d41_101 : decode (cm_M 41).2.2.1 101 = .ok (.bipush 60, 2) := by decide +kernel
theorem d41_103 : decode (cm_M 41).2.2.1 103 = .ok (.if_icmp .eq 10, 3) := by decide +kernel
theorem d41_106 : decode (cm_M 41).2.2.1 106 = .ok (.iload_n 1, 1) := by decide +kernel
theorem d41_107 : decode (cm_M 41).2.2.1 107 = .ok (.bipush 62, 2) := by decide +kernel
theorem d41_109 : decode (cm_M 41).2.2.1 109 = .ok (.if_icmp .eq 4, 3) := by decide +kernel
theorem d41_112 : decode (cm_M 41).2.2.1 112 = .ok (.return_, 1) := by decide +kernel
theorem d41_113 : decode (cm_M 41).2.2.1 113 = .ok (.aload_n 0, 1) := by decide +kernel
theorem d41_114 : decode (cm_M 41).2.2.1 114 = .ok (.aload_n 0, 1) := by decide +kernel
theorem d41_115 : decode (cm_M 41).2.2.1 115 = .ok (.aload_n 0, 1) := by decide +kernel
theorem d41_116 : decode (cm_M 41).2.2.1 116 = .ok (.aload_n 0, 1) := by decide +kernel
theorem d41_117 : decode (cm_M 41).2.2.1 117 = .ok (.getfield 42, 3) := by decide +kernel
theorem d41_120 : decode (cm_M 41).2.2.1 120 = .ok (.iconst 0, 1) := by decide +kernel
theorem d41_121 : decode (cm_M 41).2.2.1 121 = .ok (.invokevirtual 93, 3) := by decide +kernel
theorem d41_124 : decode (cm_M 41).2.2.1 124 = .ok (.iconst 0, 1) := by decide +kernel
theorem d41_125 : decode (cm_M 41).2.2.1 125 = .ok (.invokevirtual 85, 3) := by decide +kernel
theorem d41_128 : decode (cm_M 41).2.2.1 128 = .ok (.putfield 38, 3) := by decide +kernel
theorem d41_131 : decode (cm_M 41).2.2.1 131 = .ok (.aload_n 0, 1) := by decide +kernel
theorem d41_132 : decode (cm_M 41).2.2.1 132 = .ok (.bipush 63, 2) := by decide +kernel
theorem d41_134 : decode (cm_M 41).2.2.1 134 = .ok (.invokevirtual 77, 3) := by decide +kernel
theorem d41_137 : decode (cm_M 41).2.2.1 137 = .ok (.aload_n 0, 1) := by decide +kernel
theorem d41_138 : decode (cm_M 41).2.2.1 138 = .ok (.aload_n 0, 1) := by decide +kernel
theorem d41_139 : decode (cm_M 41).2.2.1 139 = .ok (.iconst 0, 1) := by decide +kernel
theorem d41_140 : decode (cm_M 41).2.2.1 140 = .ok (.invokevirtual 89, 3) := by decide +kernel
theorem d41_143 : decode (cm_M 41).2.2.1 143 = .ok (.putfield 42, 3) := by decide +kernel
theorem d41_146 : decode (cm_M 41).2.2.1 146 = .ok (.return_, 1) := by decide +kernel
theorem s41_0 {sc : cmS} {d : Nat} {h : cmH} {Q : Option Value → cmH → Prop} (L : LY h) (u1 : Option Value) (H : cm_ci sc d 42 [.ref 9] h (fun r h' => cm_wp sc (d + 1) 41 5 [some (.ref 9), u1] [.int r, .ref 9] h' Q)) : cm_wp sc (d + 1) 41 0 [some (.ref 9), u1] [] h Q :=
  wl_st d41_0 rfl rfl rfl rfl (wl_st d41_1 rfl rfl rfl rfl (wl_ci d41_2 rfl rfl rfl pm6_62 (by decide) (ca_v (Or.inl rfl) rfl (Nat.le_of_ble_eq_true rfl) (Nat.le_of_ble_eq_true rfl) (ly_k L 9 rfl).2 (ly_k L 9 rfl).1 (by decide)) H))
theorem s41_5 {sc : cmS} {d : Nat} {h : cmH} {Q : Option Value → cmH → Prop} (L : LY h) (u1 : Option Value) (sx0 : Int32) (H : (0 ≤ sx0 ∧ sx0 ≤ 65535) ∧ (8 ≤ d) ∧ (((0 ≤ (cm_ix 1 sx0)) → cm_cv sc d 44 [.ref 9, .int (58 : Int32)] (cm_setI (cm_setI h 9 5 sx0) 9 3 ((cm_I h 9 3) + (1 : Int32))) (fun h' => cm_wp sc (d + 1) 41 41 [some (.ref 9), u1] [] h' Q)) ∧ (¬ (0 ≤ (cm_ix 1 sx0)) → cm_cv sc d 43 [.ref 9] (cm_setI h 9 5 sx0) (fun h' => cm_wp sc (d + 1) 41 24 [some (.ref 9), u1] [] h' Q)))) : cm_wp sc (d + 1) 41 5 [some (.ref 9), u1] [.int sx0, .ref 9] h Q :=
  And.elim (fun g1 g1k => wl_pf (h' := (cm_setI h 9 5 sx0)) d41_5 pf6_34 (ly_k L 9 rfl) (Or.inl rfl) (cm_pvC g1) (wl_cS (j := 1) d41_8 rfl rfl (wl_st d41_10 rfl rfl rfl rfl (wl_gf (v := .int sx0) d41_11 pf6_34 (ly_k L 9 rfl) rfl (And.elim (fun g2 g2k => wl_pr (st' := [.int (cm_ix 1 sx0)]) d41_14 rfl rfl rfl pm6_71 (by decide) (gk12 g2) rfl (wl_cb (b := 0 ≤ (cm_ix 1 sx0)) (off := 8) (tgt := 25) (pc3 := 20) (st' := []) d41_17 rfl rfl rfl rfl (by decide) rfl (fun c3 => wl_st d41_25 rfl rfl rfl rfl (wl_st d41_26 rfl rfl rfl rfl (wl_gf (v := .int (cm_I h 9 3)) d41_27 pf6_59 (ly_k L 9 rfl) rfl (wl_ic (v := 1) d41_30 rfl (wl_st d41_31 rfl rfl rfl rfl (wl_pf (h' := (cm_setI (cm_setI h 9 5 sx0) 9 3 ((cm_I h 9 3) + (1 : Int32)))) d41_32 pf6_59 (ly_k L 9 rfl) (Or.inl rfl) rfl (wl_st d41_35 rfl rfl rfl rfl (wl_bi (v := 58) d41_36 rfl (wl_cv d41_38 rfl rfl rfl pm6_77 (by decide) (ca_v (Or.inl rfl) rfl (Nat.le_of_ble_eq_true rfl) (Nat.le_of_ble_eq_true rfl) (ly_k L 9 rfl).2 (ly_k L 9 rfl).1 (by decide)) (g2k.1 c3)))))))))) (fun c3 => wl_st d41_20 rfl rfl rfl rfl (wl_cv d41_21 rfl rfl rfl pm6_66 (by decide) (ca_v (Or.inl rfl) rfl (Nat.le_of_ble_eq_true rfl) (Nat.le_of_ble_eq_true rfl) (ly_k L 9 rfl).2 (ly_k L 9 rfl).1 (by decide)) (g2k.2 c3))))) g1k))))) H
theorem s41_24 {sc : cmS} {d : Nat} {h : cmH} {Q : Option Value → cmH → Prop} (u1 : Option Value) (H : Q none h) : cm_wp sc d 41 24 [some (.ref 9), u1] [] h Q :=
  wl_rt d41_24 rfl rfl rfl H
theorem s41_41 {sc : cmS} {d : Nat} {h : cmH} {Q : Option Value → cmH → Prop} (L : LY h) (u1 : Option Value) (H : cm_ci sc d 42 [.ref 9] (cm_setI h 9 6 (1 : Int32)) (fun r h' => cm_wp sc (d + 1) 41 50 [some (.ref 9), u1] [.int r] h' Q)) : cm_wp sc (d + 1) 41 41 [some (.ref 9), u1] [] h Q :=
  wl_st d41_41 rfl rfl rfl rfl (wl_ic (v := 1) d41_42 rfl (wl_pf (h' := (cm_setI h 9 6 (1 : Int32))) d41_43 pf6_38 (ly_k L 9 rfl) (Or.inl rfl) (cm_pvZ (by decide)) (wl_st d41_46 rfl rfl rfl rfl (wl_ci d41_47 rfl rfl rfl pm6_62 (by decide) (ca_v (Or.inl rfl) rfl (Nat.le_of_ble_eq_true rfl) (Nat.le_of_ble_eq_true rfl) (ly_k L 9 rfl).2 (ly_k L 9 rfl).1 (by decide)) H))))
theorem s41_50 {sc : cmS} {d : Nat} {h : cmH} {Q : Option Value → cmH → Prop} (L : LY h) (u1 : Option Value) (sx0 : Int32) (H : (((sx0 = (33 : Int32)) → cm_wp sc (d + 1) 41 63 [some (.ref 9), some (.int sx0)] [] h Q) ∧ (¬ (sx0 = (33 : Int32)) → (((¬ sx0 = (40 : Int32)) → cm_cj' sc d 46 [.ref 9, .int (0 : Int32)] h (fun r h' => cm_wp sc (d + 1) 41 86 [some (.ref 9), some (.int sx0)] [.long r, .ref 9] h' Q)) ∧ (¬ (¬ sx0 = (40 : Int32)) → cm_wp sc (d + 1) 41 63 [some (.ref 9), some (.int sx0)] [] h Q))))) : cm_wp sc (d + 1) 41 50 [some (.ref 9), u1] [.int sx0] h Q :=
  wl_st (ls' := [some (.ref 9), some (.int sx0)]) d41_50 rfl rfl rfl rfl (wl_st d41_51 rfl rfl rfl rfl (wl_bi (v := 33) d41_52 rfl (wl_cb (b := sx0 = (33 : Int32)) (off := 9) (tgt := 63) (pc3 := 57) (st' := []) d41_54 rfl rfl rfl rfl (by decide) rfl (fun c1 => (H.1 c1)) (fun c1 => wl_st d41_57 rfl rfl rfl rfl (wl_bi (v := 40) d41_58 rfl (wl_cb (b := ¬ sx0 = (40 : Int32)) (off := 20) (tgt := 80) (pc3 := 63) (st' := []) d41_60 rfl rfl rfl rfl (by decide) rfl (fun c2 => wl_st d41_80 rfl rfl rfl rfl (wl_st d41_81 rfl rfl rfl rfl (wl_ic (v := 0) d41_82 rfl (wl_cj d41_83 rfl rfl rfl pm6_89 (by decide) (ca_v (Or.inl rfl) rfl (Nat.le_of_ble_eq_true rfl) (Nat.le_of_ble_eq_true rfl) (ly_k L 9 rfl).2 (ly_k L 9 rfl).1 (by decide)) ((H.2 c1).1 c2))))) (fun c2 => ((H.2 c1).2 c2))))))))
theorem s41_63 {sc : cmS} {d : Nat} {h : cmH} {Q : Option Value → cmH → Prop} (L : LY h) (x1 : Int32) (H : cm_ci sc d 45 [.ref 9, .int (0 : Int32)] h (fun r h' => cm_wp sc (d + 1) 41 70 [some (.ref 9), some (.int x1)] [.int r, .ref 9, .ref 9] h' Q)) : cm_wp sc (d + 1) 41 63 [some (.ref 9), some (.int x1)] [] h Q :=
  wl_st d41_63 rfl rfl rfl rfl (wl_st d41_64 rfl rfl rfl rfl (wl_st d41_65 rfl rfl rfl rfl (wl_ic (v := 0) d41_66 rfl (wl_ci d41_67 rfl rfl rfl pm6_81 (by decide) (ca_v (Or.inl rfl) rfl (Nat.le_of_ble_eq_true rfl) (Nat.le_of_ble_eq_true rfl) (ly_k L 9 rfl).2 (ly_k L 9 rfl).1 (by decide)) H))))
theorem s41_70 {sc : cmS} {d : Nat} {h : cmH} {Q : Option Value → cmH → Prop} (L : LY h) (x1 : Int32) (sx0 : Int32) (H : cm_ci sc d 52 [.ref 9, .int sx0, .int (0 : Int32)] h (fun r h' => cm_wp sc (d + 1) 41 74 [some (.ref 9), some (.int x1)] [.int r, .ref 9] h' Q)) : cm_wp sc (d + 1) 41 70 [some (.ref 9), some (.int x1)] [.int sx0, .ref 9, .ref 9] h Q :=
  wl_ic (v := 0) d41_70 rfl (wl_ci d41_71 rfl rfl rfl pm6_85 (by decide) (ca_v (Or.inl rfl) rfl (Nat.le_of_ble_eq_true rfl) (Nat.le_of_ble_eq_true rfl) (ly_k L 9 rfl).2 (ly_k L 9 rfl).1 (by decide)) H)
theorem s41_74 {sc : cmS} {d : Nat} {h : cmH} {Q : Option Value → cmH → Prop} (L : LY h) (x1 : Int32) (sx0 : Int32) (H : (sx0 = 0 ∨ sx0 = 1) ∧ cm_wp sc d 41 131 [some (.ref 9), some (.int x1)] [] (cm_setI h 9 6 sx0) Q) : cm_wp sc d 41 74 [some (.ref 9), some (.int x1)] [.int sx0, .ref 9] h Q :=
  And.elim (fun g1 g1k => wl_pf (h' := (cm_setI h 9 6 sx0)) d41_74 pf6_38 (ly_k L 9 rfl) (Or.inl rfl) (cm_pvZ g1) (wl_go (tgt := 131) d41_77 (by decide) (g1k))) H
theorem s41_86 {sc : cmS} {d : Nat} {h : cmH} {Q : Option Value → cmH → Prop} (L : LY h) (x1 : Int32) (sy0 : Int64) (H : cm_ci sc d 42 [.ref 9] (cm_setJ h 9 7 sy0) (fun r h' => cm_wp sc (d + 1) 41 93 [some (.ref 9), some (.int x1)] [.int r] h' Q)) : cm_wp sc (d + 1) 41 86 [some (.ref 9), some (.int x1)] [.long sy0, .ref 9] h Q :=
  wl_pf (h' := (cm_setJ h 9 7 sy0)) d41_86 pf6_42 (ly_k L 9 rfl) (Or.inl rfl) rfl (wl_st d41_89 rfl rfl rfl rfl (wl_ci d41_90 rfl rfl rfl pm6_62 (by decide) (ca_v (Or.inl rfl) rfl (Nat.le_of_ble_eq_true rfl) (Nat.le_of_ble_eq_true rfl) (ly_k L 9 rfl).2 (ly_k L 9 rfl).1 (by decide)) H))
theorem s41_93 {sc : cmS} {d : Nat} {h : cmH} {Q : Option Value → cmH → Prop} (x1 : Int32) (sx0 : Int32) (H : (((sx0 = (61 : Int32)) → cm_wp sc d 41 113 [some (.ref 9), some (.int sx0)] [] h Q) ∧ (¬ (sx0 = (61 : Int32)) → (((sx0 = (60 : Int32)) → cm_wp sc d 41 113 [some (.ref 9), some (.int sx0)] [] h Q) ∧ (¬ (sx0 = (60 : Int32)) → (((sx0 = (62 : Int32)) → cm_wp sc d 41 113 [some (.ref 9), some (.int sx0)] [] h Q) ∧ (¬ (sx0 = (62 : Int32)) → Q none h))))))) : cm_wp sc d 41 93 [some (.ref 9), some (.int x1)] [.int sx0] h Q :=
  wl_st (ls' := [some (.ref 9), some (.int sx0)]) d41_93 rfl rfl rfl rfl (wl_st d41_94 rfl rfl rfl rfl (wl_bi (v := 61) d41_95 rfl (wl_cb (b := sx0 = (61 : Int32)) (off := 16) (tgt := 113) (pc3 := 100) (st' := []) d41_97 rfl rfl rfl rfl (by decide) rfl (fun c1 => (H.1 c1)) (fun c1 => wl_st d41_100 rfl rfl rfl rfl (wl_bi (v := 60) d41_101 rfl (wl_cb (b := sx0 = (60 : Int32)) (off := 10) (tgt := 113) (pc3 := 106) (st' := []) d41_103 rfl rfl rfl rfl (by decide) rfl (fun c2 => ((H.2 c1).1 c2)) (fun c2 => wl_st d41_106 rfl rfl rfl rfl (wl_bi (v := 62) d41_107 rfl (wl_cb (b := sx0 = (62 : Int32)) (off := 4) (tgt := 113) (pc3 := 112) (st' := []) d41_109 rfl rfl rfl rfl (by decide) rfl (fun c3 => (((H.2 c1).2 c2).1 c3)) (fun c3 => wl_rt d41_112 rfl rfl rfl (((H.2 c1).2 c2).2 c3)))))))))))
theorem s41_113 {sc : cmS} {d : Nat} {h : cmH} {Q : Option Value → cmH → Prop} (L : LY h) (x1 : Int32) (H : cm_ci sc d 51 [.ref 9, .long (cm_J h 9 7), .int (0 : Int32)] h (fun r h' => cm_wp sc (d + 1) 41 124 [some (.ref 9), some (.int x1)] [.int r, .ref 9, .ref 9] h' Q)) : cm_wp sc (d + 1) 41 113 [some (.ref 9), some (.int x1)] [] h Q :=
  wl_st d41_113 rfl rfl rfl rfl (wl_st d41_114 rfl rfl rfl rfl (wl_st d41_115 rfl rfl rfl rfl (wl_st d41_116 rfl rfl rfl rfl (wl_gf (v := .long (cm_J h 9 7)) d41_117 pf6_42 (ly_k L 9 rfl) rfl (wl_ic (v := 0) d41_120 rfl (wl_ci d41_121 rfl rfl rfl pm6_93 (by decide) (ca_v (Or.inl rfl) rfl (Nat.le_of_ble_eq_true rfl) (Nat.le_of_ble_eq_true rfl) (ly_k L 9 rfl).2 (ly_k L 9 rfl).1 (by decide)) H))))))
theorem s41_124 {sc : cmS} {d : Nat} {h : cmH} {Q : Option Value → cmH → Prop} (L : LY h) (x1 : Int32) (sx0 : Int32) (H : cm_ci sc d 52 [.ref 9, .int sx0, .int (0 : Int32)] h (fun r h' => cm_wp sc (d + 1) 41 128 [some (.ref 9), some (.int x1)] [.int r, .ref 9] h' Q)) : cm_wp sc (d + 1) 41 124 [some (.ref 9), some (.int x1)] [.int sx0, .ref 9, .ref 9] h Q :=
  wl_ic (v := 0) d41_124 rfl (wl_ci d41_125 rfl rfl rfl pm6_85 (by decide) (ca_v (Or.inl rfl) rfl (Nat.le_of_ble_eq_true rfl) (Nat.le_of_ble_eq_true rfl) (ly_k L 9 rfl).2 (ly_k L 9 rfl).1 (by decide)) H)
theorem s41_128 {sc : cmS} {d : Nat} {h : cmH} {Q : Option Value → cmH → Prop} (L : LY h) (x1 : Int32) (sx0 : Int32) (H : (sx0 = 0 ∨ sx0 = 1) ∧ cm_wp sc d 41 131 [some (.ref 9), some (.int x1)] [] (cm_setI h 9 6 sx0) Q) : cm_wp sc d 41 128 [some (.ref 9), some (.int x1)] [.int sx0, .ref 9] h Q :=
  And.elim (fun g1 g1k => wl_pf (h' := (cm_setI h 9 6 sx0)) d41_128 pf6_38 (ly_k L 9 rfl) (Or.inl rfl) (cm_pvZ g1) (g1k)) H
theorem s41_131 {sc : cmS} {d : Nat} {h : cmH} {Q : Option Value → cmH → Prop} (L : LY h) (x1 : Int32) (H : cm_cv sc d 44 [.ref 9, .int (63 : Int32)] h (fun h' => cm_wp sc (d + 1) 41 137 [some (.ref 9), some (.int x1)] [] h' Q)) : cm_wp sc (d + 1) 41 131 [some (.ref 9), some (.int x1)] [] h Q :=
  wl_st d41_131 rfl rfl rfl rfl (wl_bi (v := 63) d41_132 rfl (wl_cv d41_134 rfl rfl rfl pm6_77 (by decide) (ca_v (Or.inl rfl) rfl (Nat.le_of_ble_eq_true rfl) (Nat.le_of_ble_eq_true rfl) (ly_k L 9 rfl).2 (ly_k L 9 rfl).1 (by decide)) H))
theorem s41_137 {sc : cmS} {d : Nat} {h : cmH} {Q : Option Value → cmH → Prop} (L : LY h) (x1 : Int32) (H : cm_cj' sc d 46 [.ref 9, .int (0 : Int32)] h (fun r h' => cm_wp sc (d + 1) 41 143 [some (.ref 9), some (.int x1)] [.long r, .ref 9] h' Q)) : cm_wp sc (d + 1) 41 137 [some (.ref 9), some (.int x1)] [] h Q :=
  wl_st d41_137 rfl rfl rfl rfl (wl_st d41_138 rfl rfl rfl rfl (wl_ic (v := 0) d41_139 rfl (wl_cj d41_140 rfl rfl rfl pm6_89 (by decide) (ca_v (Or.inl rfl) rfl (Nat.le_of_ble_eq_true rfl) (Nat.le_of_ble_eq_true rfl) (ly_k L 9 rfl).2 (ly_k L 9 rfl).1 (by decide)) H)))
theorem s41_143 {sc : cmS} {d : Nat} {h : cmH} {Q : Option Value → cmH → Prop} (L : LY h) (x1 : Int32) (sy0 : Int64) (H : Q none (cm_setJ h 9 7 sy0)) : cm_wp sc d 41 143 [some (.ref 9), some (.int x1)] [.long sy0, .ref 9] h Q :=
  wl_pf (h' := (cm_setJ h 9 7 sy0)) d41_143 pf6_42 (ly_k L 9 rfl) (Or.inl rfl) rfl (wl_rt d41_146 rfl rfl rfl H)
-- ClogHouse$Reader.sign()C
theorem d42_0 : decode (cm_M 42).2.2.1 0 = .ok (.aload_n 0, 1) := by decide +kernel
theorem d42_1 : decode (cm_M 42).2.2.1 1 = .ok (.getfield 59, 3) := by decide +kernel
theorem d42_4 : decode (cm_M 42).2.2.1 4 = .ok (.ifCond .lt 53, 3) := by decide +kernel
theorem d42_7 : decode (cm_M 42).2.2.1 7 = .ok (.aload_n 0, 1) := by decide +kernel
theorem d42_8 : decode (cm_M 42).2.2.1 8 = .ok (.getfield 59, 3) := by decide +kernel
theorem d42_11 : decode (cm_M 42).2.2.1 11 = .ok (.aload_n 0, 1) := by decide +kernel
theorem d42_12 : decode (cm_M 42).2.2.1 12 = .ok (.getfield 58, 3) := by decide +kernel
theorem d42_15 : decode (cm_M 42).2.2.1 15 = .ok (.if_icmp .ge 42, 3) := by decide +kernel
theorem d42_18 : decode (cm_M 42).2.2.1 18 = .ok (.aload_n 0, 1) := by decide +kernel
theorem d42_19 : decode (cm_M 42).2.2.1 19 = .ok (.getfield 59, 3) := by decide +kernel
theorem d42_22 : decode (cm_M 42).2.2.1 22 = .ok (.aload_n 0, 1) := by decide +kernel
theorem d42_23 : decode (cm_M 42).2.2.1 23 = .ok (.getfield 15, 3) := by decide +kernel
theorem d42_26 : decode (cm_M 42).2.2.1 26 = .ok (.arraylength, 1) := by decide +kernel
theorem d42_27 : decode (cm_M 42).2.2.1 27 = .ok (.if_icmp .ge 30, 3) := by decide +kernel
theorem d42_30 : decode (cm_M 42).2.2.1 30 = .ok (.aload_n 0, 1) := by decide +kernel
theorem d42_31 : decode (cm_M 42).2.2.1 31 = .ok (.getfield 15, 3) := by decide +kernel
theorem d42_34 : decode (cm_M 42).2.2.1 34 = .ok (.aload_n 0, 1) := by decide +kernel
theorem d42_35 : decode (cm_M 42).2.2.1 35 = .ok (.getfield 59, 3) := by decide +kernel
theorem d42_38 : decode (cm_M 42).2.2.1 38 = .ok (.caload, 1) := by decide +kernel
theorem d42_39 : decode (cm_M 42).2.2.1 39 = .ok (.bipush 32, 2) := by decide +kernel
theorem d42_41 : decode (cm_M 42).2.2.1 41 = .ok (.if_icmp .ne 16, 3) := by decide +kernel
theorem d42_44 : decode (cm_M 42).2.2.1 44 = .ok (.aload_n 0, 1) := by decide +kernel
theorem d42_45 : decode (cm_M 42).2.2.1 45 = .ok (.dup, 1) := by decide +kernel
theorem d42_46 : decode (cm_M 42).2.2.1 46 = .ok (.getfield 59, 3) := by decide +kernel
theorem d42_49 : decode (cm_M 42).2.2.1 49 = .ok (.iconst 1, 1) := by decide +kernel
theorem d42_50 : decode (cm_M 42).2.2.1 50 = .ok (.iadd, 1) := by decide +kernel
theorem d42_51 : decode (cm_M 42).2.2.1 51 = .ok (.putfield 59, 3) := by decide +kernel
theorem d42_54 : decode (cm_M 42).2.2.1 54 = .ok (.goto (-54), 3) := by decide +kernel
theorem d42_57 : decode (cm_M 42).2.2.1 57 = .ok (.aload_n 0, 1) := by decide +kernel
theorem d42_58 : decode (cm_M 42).2.2.1 58 = .ok (.getfield 30, 3) := by decide +kernel
theorem d42_61 : decode (cm_M 42).2.2.1 61 = .ok (.iconst (-1), 1) := by decide +kernel
theorem d42_62 : decode (cm_M 42).2.2.1 62 = .ok (.if_icmp .ne 45, 3) := by decide +kernel
theorem d42_65 : decode (cm_M 42).2.2.1 65 = .ok (.aload_n 0, 1) := by decide +kernel
theorem d42_66 : decode (cm_M 42).2.2.1 66 = .ok (.getfield 59, 3) := by decide +kernel
theorem d42_69 : decode (cm_M 42).2.2.1 69 = .ok (.ifCond .lt 38, 3) := by decide +kernel
theorem d42_72 : decode (cm_M 42).2.2.1 72 = .ok (.aload_n 0, 1) := by decide +kernel
theorem d42_73 : decode (cm_M 42).2.2.1 73 = .ok (.getfield 59, 3) := by decide +kernel
theorem d42_76 : decode (cm_M 42).2.2.1 76 = .ok (.aload_n 0, 1) := by decide +kernel
theorem d42_77 : decode (cm_M 42).2.2.1 77 = .ok (.getfield 58, 3) := by decide +kernel
theorem d42_80 : decode (cm_M 42).2.2.1 80 = .ok (.if_icmp .ge 27, 3) := by decide +kernel
theorem d42_83 : decode (cm_M 42).2.2.1 83 = .ok (.aload_n 0, 1) := by decide +kernel
theorem d42_84 : decode (cm_M 42).2.2.1 84 = .ok (.getfield 59, 3) := by decide +kernel
theorem d42_87 : decode (cm_M 42).2.2.1 87 = .ok (.aload_n 0, 1) := by decide +kernel
theorem d42_88 : decode (cm_M 42).2.2.1 88 = .ok (.getfield 15, 3) := by decide +kernel
theorem d42_91 : decode (cm_M 42).2.2.1 91 = .ok (.arraylength, 1) := by decide +kernel
theorem d42_92 : decode (cm_M 42).2.2.1 92 = .ok (.if_icmp .ge 15, 3) := by decide +kernel
theorem d42_95 : decode (cm_M 42).2.2.1 95 = .ok (.aload_n 0, 1) := by decide +kernel
theorem d42_96 : decode (cm_M 42).2.2.1 96 = .ok (.getfield 15, 3) := by decide +kernel
theorem d42_99 : decode (cm_M 42).2.2.1 99 = .ok (.aload_n 0, 1) := by decide +kernel
theorem d42_100 : decode (cm_M 42).2.2.1 100 = .ok (.getfield 59, 3) := by decide +kernel
theorem d42_103 : decode (cm_M 42).2.2.1 103 = .ok (.caload, 1) := by decide +kernel
theorem d42_104 : decode (cm_M 42).2.2.1 104 = .ok (.goto 4, 3) := by decide +kernel
theorem d42_107 : decode (cm_M 42).2.2.1 107 = .ok (.iconst 0, 1) := by decide +kernel
theorem d42_108 : decode (cm_M 42).2.2.1 108 = .ok (.ireturn, 1) := by decide +kernel
theorem s42_0 {sc : cmS} {d : Nat} {h : cmH} {Q : Option Value → cmH → Prop} (L : LY h)  (H : ((((cm_I h 9 3) < 0) → cm_wp sc d 42 57 [some (.ref 9)] [] h Q) ∧ (¬ ((cm_I h 9 3) < 0) → ((((cm_I h 9 2) ≤ (cm_I h 9 3)) → cm_wp sc d 42 57 [some (.ref 9)] [] h Q) ∧ (¬ ((cm_I h 9 2) ≤ (cm_I h 9 3)) → ∃ b3, cm_R h 9 1 = some b3 ∧ (12 ≤ cm_kd h b3 ∧ cm_kd h b3 ≤ 18 ∧ b3 < cm_n h) ∧ ((((Int32.ofNat (cm_ln h b3)) ≤ (cm_I h 9 3)) → cm_wp sc d 42 57 [some (.ref 9)] [] h Q) ∧ (¬ ((Int32.ofNat (cm_ln h b3)) ≤ (cm_I h 9 3)) → (cm_ok h 12 b3 (cm_I h 9 3)) ∧ (((¬ (cm_I h b3 (cm_I h 9 3).toNatClampNeg) = (32 : Int32)) → cm_wp sc d 42 57 [some (.ref 9)] [] h Q) ∧ (¬ (¬ (cm_I h b3 (cm_I h 9 3).toNatClampNeg) = (32 : Int32)) → cm_wp sc d 42 0 [some (.ref 9)] [] (cm_setI h 9 3 ((cm_I h 9 3) + (1 : Int32))) Q))))))))) : cm_wp sc d 42 0 [some (.ref 9)] [] h Q :=
  wl_st d42_0 rfl rfl rfl rfl (wl_gf (v := .int (cm_I h 9 3)) d42_1 pf6_59 (ly_k L 9 rfl) rfl (wl_cb (b := (cm_I h 9 3) < 0) (off := 53) (tgt := 57) (pc3 := 7) (st' := []) d42_4 rfl rfl rfl rfl (by decide) rfl (fun c1 => (H.1 c1)) (fun c1 => wl_st d42_7 rfl rfl rfl rfl (wl_gf (v := .int (cm_I h 9 3)) d42_8 pf6_59 (ly_k L 9 rfl) rfl (wl_st d42_11 rfl rfl rfl rfl (wl_gf (v := .int (cm_I h 9 2)) d42_12 pf6_58 (ly_k L 9 rfl) rfl (wl_cb (b := (cm_I h 9 2) ≤ (cm_I h 9 3)) (off := 42) (tgt := 57) (pc3 := 18) (st' := []) d42_15 rfl rfl rfl rfl (by decide) rfl (fun c2 => ((H.2 c1).1 c2)) (fun c2 => wl_st d42_18 rfl rfl rfl rfl (wl_gf (v := .int (cm_I h 9 3)) d42_19 pf6_59 (ly_k L 9 rfl) rfl (wl_st d42_22 rfl rfl rfl rfl (Exists.elim ((H.2 c1).2 c2) fun b3 b3q => And.elim (fun b3e b3k => wl_gr (b := b3) d42_23 pf6_15 (ly_k L 9 rfl) rfl b3e (And.elim (fun g4 g4k => wl_if (st' := [.int (Int32.ofNat (cm_ln h b3)), .int (cm_I h 9 3)]) d42_26 rfl rfl rfl rfl g4 (wl_cb (b := (Int32.ofNat (cm_ln h b3)) ≤ (cm_I h 9 3)) (off := 30) (tgt := 57) (pc3 := 30) (st' := []) d42_27 rfl rfl rfl rfl (by decide) rfl (fun c5 => (g4k.1 c5)) (fun c5 => wl_st d42_30 rfl rfl rfl rfl (wl_gr (b := b3) d42_31 pf6_15 (ly_k L 9 rfl) rfl b3e (wl_st d42_34 rfl rfl rfl rfl (wl_gf (v := .int (cm_I h 9 3)) d42_35 pf6_59 (ly_k L 9 rfl) rfl (And.elim (fun g6 g6k => wl_if (g := cm_ok h 12 b3 (cm_I h 9 3)) (st' := [.int (cm_I h b3 (cm_I h 9 3).toNatClampNeg)]) d42_38 rfl rfl rfl rfl g6 (wl_bi (v := 32) d42_39 rfl (wl_cb (b := ¬ (cm_I h b3 (cm_I h 9 3).toNatClampNeg) = (32 : Int32)) (off := 16) (tgt := 57) (pc3 := 44) (st' := []) d42_41 rfl rfl rfl rfl (by decide) rfl (fun c7 => (g6k.1 c7)) (fun c7 => wl_st d42_44 rfl rfl rfl rfl (wl_st d42_45 rfl rfl rfl rfl (wl_gf (v := .int (cm_I h 9 3)) d42_46 pf6_59 (ly_k L 9 rfl) rfl (wl_ic (v := 1) d42_49 rfl (wl_st d42_50 rfl rfl rfl rfl (wl_pf (h' := (cm_setI h 9 3 ((cm_I h 9 3) + (1 : Int32)))) d42_51 pf6_59 (ly_k L 9 rfl) (Or.inl rfl) rfl (wl_go (tgt := 0) d42_54 (by decide) ((g6k.2 c7)))))))))))) (g4k.2 c5)))))))) b3k)) b3q)))))))))))
theorem s42_57 {sc : cmS} {d : Nat} {h : cmH} {Q : Option Value → cmH → Prop} (L : LY h)  (H : (((¬ (cm_I h 9 4) = (-1 : Int32)) → Q (some (.int (0 : Int32))) h) ∧ (¬ (¬ (cm_I h 9 4) = (-1 : Int32)) → ((((cm_I h 9 3) < 0) → Q (some (.int (0 : Int32))) h) ∧ (¬ ((cm_I h 9 3) < 0) → ((((cm_I h 9 2) ≤ (cm_I h 9 3)) → Q (some (.int (0 : Int32))) h) ∧ (¬ ((cm_I h 9 2) ≤ (cm_I h 9 3)) → ∃ b4, cm_R h 9 1 = some b4 ∧ (12 ≤ cm_kd h b4 ∧ cm_kd h b4 ≤ 18 ∧ b4 < cm_n h) ∧ ((((Int32.ofNat (cm_ln h b4)) ≤ (cm_I h 9 3)) → Q (some (.int (0 : Int32))) h) ∧ (¬ ((Int32.ofNat (cm_ln h b4)) ≤ (cm_I h 9 3)) → (cm_ok h 12 b4 (cm_I h 9 3)) ∧ (0 ≤ (cm_I h b4 (cm_I h 9 3).toNatClampNeg) ∧ (cm_I h b4 (cm_I h 9 3).toNatClampNeg) ≤ 65535) ∧ Q (some (.int (cm_I h b4 (cm_I h 9 3).toNatClampNeg))) h))))))))) : cm_wp sc d 42 57 [some (.ref 9)] [] h Q :=
  wl_st d42_57 rfl rfl rfl rfl (wl_gf (v := .int (cm_I h 9 4)) d42_58 pf6_30 (ly_k L 9 rfl) rfl (wl_ic (v := (-1)) d42_61 rfl (wl_cb (b := ¬ (cm_I h 9 4) = (-1 : Int32)) (off := 45) (tgt := 107) (pc3 := 65) (st' := []) d42_62 rfl rfl rfl rfl (by decide) rfl (fun c1 => wl_ic (v := 0) d42_107 rfl (wl_rc d42_108 rfl (by decide) (H.1 c1))) (fun c1 => wl_st d42_65 rfl rfl rfl rfl (wl_gf (v := .int (cm_I h 9 3)) d42_66 pf6_59 (ly_k L 9 rfl) rfl (wl_cb (b := (cm_I h 9 3) < 0) (off := 38) (tgt := 107) (pc3 := 72) (st' := []) d42_69 rfl rfl rfl rfl (by decide) rfl (fun c2 => wl_ic (v := 0) d42_107 rfl (wl_rc d42_108 rfl (by decide) ((H.2 c1).1 c2))) (fun c2 => wl_st d42_72 rfl rfl rfl rfl (wl_gf (v := .int (cm_I h 9 3)) d42_73 pf6_59 (ly_k L 9 rfl) rfl (wl_st d42_76 rfl rfl rfl rfl (wl_gf (v := .int (cm_I h 9 2)) d42_77 pf6_58 (ly_k L 9 rfl) rfl (wl_cb (b := (cm_I h 9 2) ≤ (cm_I h 9 3)) (off := 27) (tgt := 107) (pc3 := 83) (st' := []) d42_80 rfl rfl rfl rfl (by decide) rfl (fun c3 => wl_ic (v := 0) d42_107 rfl (wl_rc d42_108 rfl (by decide) (((H.2 c1).2 c2).1 c3))) (fun c3 => wl_st d42_83 rfl rfl rfl rfl (wl_gf (v := .int (cm_I h 9 3)) d42_84 pf6_59 (ly_k L 9 rfl) rfl (wl_st d42_87 rfl rfl rfl rfl (Exists.elim (((H.2 c1).2 c2).2 c3) fun b4 b4q => And.elim (fun b4e b4k => wl_gr (b := b4) d42_88 pf6_15 (ly_k L 9 rfl) rfl b4e (And.elim (fun g5 g5k => wl_if (st' := [.int (Int32.ofNat (cm_ln h b4)), .int (cm_I h 9 3)]) d42_91 rfl rfl rfl rfl g5 (wl_cb (b := (Int32.ofNat (cm_ln h b4)) ≤ (cm_I h 9 3)) (off := 15) (tgt := 107) (pc3 := 95) (st' := []) d42_92 rfl rfl rfl rfl (by decide) rfl (fun c6 => wl_ic (v := 0) d42_107 rfl (wl_rc d42_108 rfl (by decide) (g5k.1 c6))) (fun c6 => wl_st d42_95 rfl rfl rfl rfl (wl_gr (b := b4) d42_96 pf6_15 (ly_k L 9 rfl) rfl b4e (wl_st d42_99 rfl rfl rfl rfl (wl_gf (v := .int (cm_I h 9 3)) d42_100 pf6_59 (ly_k L 9 rfl) rfl (And.elim (fun g7 g7k => wl_if (g := cm_ok h 12 b4 (cm_I h 9 3)) (st' := [.int (cm_I h b4 (cm_I h 9 3).toNatClampNeg)]) d42_103 rfl rfl rfl rfl g7 (wl_go (tgt := 108) d42_104 (by decide) (And.elim (fun g8 g8k => wl_rc d42_108 rfl g8 g8k) g7k))) (g5k.2 c6)))))))) b4k)) b4q)))))))))))))))
-- ClogHouse$Reader.fail()V
theorem d43_0 : decode (cm_M 43).2.2.1 0 = .ok (.aload_n 0, 1) := by decide +kernel
theorem d43_1 : decode (cm_M 43).2.2.1 1 = .ok (.getfield 30, 3) := by decide +kernel
theorem d43_4 : decode (cm_M 43).2.2.1 4 = .ok (.iconst (-1), 1) := by decide +kernel
theorem d43_5 : decode (cm_M 43).2.2.1 5 = .ok (.if_icmp .ne 11, 3) := by decide +kernel
theorem d43_8 : decode (cm_M 43).2.2.1 8 = .ok (.aload_n 0, 1) := by decide +kernel
theorem d43_9 : decode (cm_M 43).2.2.1 9 = .ok (.aload_n 0, 1) := by decide +kernel
theorem d43_10 : decode (cm_M 43).2.2.1 10 = .ok (.getfield 59, 3) := by decide +kernel
theorem d43_13 : decode (cm_M 43).2.2.1 13 = .ok (.putfield 30, 3) := by decide +kernel
theorem d43_16 : decode (cm_M 43).2.2.1 16 = .ok (.return_, 1) := by decide +kernel
theorem s43_0 {sc : cmS} {d : Nat} {h : cmH} {Q : Option Value → cmH → Prop} (L : LY h)  (H : (((¬ (cm_I h 9 4) = (-1 : Int32)) → Q none h) ∧ (¬ (¬ (cm_I h 9 4) = (-1 : Int32)) → Q none (cm_setI h 9 4 (cm_I h 9 3))))) : cm_wp sc d 43 0 [some (.ref 9)] [] h Q :=
  wl_st d43_0 rfl rfl rfl rfl (wl_gf (v := .int (cm_I h 9 4)) d43_1 pf6_30 (ly_k L 9 rfl) rfl (wl_ic (v := (-1)) d43_4 rfl (wl_cb (b := ¬ (cm_I h 9 4) = (-1 : Int32)) (off := 11) (tgt := 16) (pc3 := 8) (st' := []) d43_5 rfl rfl rfl rfl (by decide) rfl (fun c1 => wl_rt d43_16 rfl rfl rfl (H.1 c1)) (fun c1 => wl_st d43_8 rfl rfl rfl rfl (wl_st d43_9 rfl rfl rfl rfl (wl_gf (v := .int (cm_I h 9 3)) d43_10 pf6_59 (ly_k L 9 rfl) rfl (wl_pf (h' := (cm_setI h 9 4 (cm_I h 9 3))) d43_13 pf6_30 (ly_k L 9 rfl) (Or.inl rfl) rfl (wl_rt d43_16 rfl rfl rfl (H.2 c1)))))))))
-- ClogHouse$Reader.expect(C)V
theorem d44_0 : decode (cm_M 44).2.2.1 0 = .ok (.aload_n 0, 1) := by decide +kernel
theorem d44_1 : decode (cm_M 44).2.2.1 1 = .ok (.invokevirtual 62, 3) := by decide +kernel
theorem d44_4 : decode (cm_M 44).2.2.1 4 = .ok (.iload_n 1, 1) := by decide +kernel
theorem d44_5 : decode (cm_M 44).2.2.1 5 = .ok (.if_icmp .ne 16, 3) := by decide +kernel
theorem d44_8 : decode (cm_M 44).2.2.1 8 = .ok (.aload_n 0, 1) := by decide +kernel
theorem d44_9 : decode (cm_M 44).2.2.1 9 = .ok (.dup, 1) := by decide +kernel
theorem d44_10 : decode (cm_M 44).2.2.1 10 = .ok (.getfield 59, 3) := by decide +kernel
theorem d44_13 : decode (cm_M 44).2.2.1 13 = .ok (.iconst 1, 1) := by decide +kernel
theorem d44_14 : decode (cm_M 44).2.2.1 14 = .ok (.iadd, 1) := by decide +kernel
theorem d44_15 : decode (cm_M 44).2.2.1 15 = .ok (.putfield 59, 3) := by decide +kernel
theorem d44_18 : decode (cm_M 44).2.2.1 18 = .ok (.goto 7, 3) := by decide +kernel
theorem d44_21 : decode (cm_M 44).2.2.1 21 = .ok (.aload_n 0, 1) := by decide +kernel
theorem d44_22 : decode (cm_M 44).2.2.1 22 = .ok (.invokevirtual 66, 3) := by decide +kernel
theorem d44_25 : decode (cm_M 44).2.2.1 25 = .ok (.return_, 1) := by decide +kernel
theorem s44_0 {sc : cmS} {d : Nat} {h : cmH} {Q : Option Value → cmH → Prop} (L : LY h) (x1 : Int32) (H : cm_ci sc d 42 [.ref 9] h (fun r h' => cm_wp sc (d + 1) 44 4 [some (.ref 9), some (.int x1)] [.int r] h' Q)) : cm_wp sc (d + 1) 44 0 [some (.ref 9), some (.int x1)] [] h Q :=
  wl_st d44_0 rfl rfl rfl rfl (wl_ci d44_1 rfl rfl rfl pm6_62 (by decide) (ca_v (Or.inl rfl) rfl (Nat.le_of_ble_eq_true rfl) (Nat.le_of_ble_eq_true rfl) (ly_k L 9 rfl).2 (ly_k L 9 rfl).1 (by decide)) H)
theorem s44_4 {sc : cmS} {d : Nat} {h : cmH} {Q : Option Value → cmH → Prop} (L : LY h) (x1 : Int32) (sx0 : Int32) (H : (((¬ sx0 = x1) → cm_cv sc d 43 [.ref 9] h (fun h' => cm_wp sc (d + 1) 44 25 [some (.ref 9), some (.int x1)] [] h' Q)) ∧ (¬ (¬ sx0 = x1) → cm_wp sc (d + 1) 44 25 [some (.ref 9), some (.int x1)] [] (cm_setI h 9 3 ((cm_I h 9 3) + (1 : Int32))) Q))) : cm_wp sc (d + 1) 44 4 [some (.ref 9), some (.int x1)] [.int sx0] h Q :=
  wl_st d44_4 rfl rfl rfl rfl (wl_cb (b := ¬ sx0 = x1) (off := 16) (tgt := 21) (pc3 := 8) (st' := []) d44_5 rfl rfl rfl rfl (by decide) rfl (fun c1 => wl_st d44_21 rfl rfl rfl rfl (wl_cv d44_22 rfl rfl rfl pm6_66 (by decide) (ca_v (Or.inl rfl) rfl (Nat.le_of_ble_eq_true rfl) (Nat.le_of_ble_eq_true rfl) (ly_k L 9 rfl).2 (ly_k L 9 rfl).1 (by decide)) (H.1 c1))) (fun c1 => wl_st d44_8 rfl rfl rfl rfl (wl_st d44_9 rfl rfl rfl rfl (wl_gf (v := .int (cm_I h 9 3)) d44_10 pf6_59 (ly_k L 9 rfl) rfl (wl_ic (v := 1) d44_13 rfl (wl_st d44_14 rfl rfl rfl rfl (wl_pf (h' := (cm_setI h 9 3 ((cm_I h 9 3) + (1 : Int32)))) d44_15 pf6_59 (ly_k L 9 rfl) (Or.inl rfl) rfl (wl_go (tgt := 25) d44_18 (by decide) ((H.2 c1))))))))))
theorem s44_25 {sc : cmS} {d : Nat} {h : cmH} {Q : Option Value → cmH → Prop} (x1 : Int32) (H : Q none h) : cm_wp sc d 44 25 [some (.ref 9), some (.int x1)] [] h Q :=
  wl_rt d44_25 rfl rfl rfl H
-- ClogHouse$Reader.unit(I)Z
theorem d45_0 : decode (cm_M 45).2.2.1 0 = .ok (.aload_n 0, 1) := by decide +kernel
theorem d45_1 : decode (cm_M 45).2.2.1 1 = .ok (.invokevirtual 62, 3) := by decide +kernel
theorem d45_4 : decode (cm_M 45).2.2.1 4 = .ok (.istore_n 2, 1) := by decide +kernel
theorem d45_5 : decode (cm_M 45).2.2.1 5 = .ok (.iload_n 2, 1) := by decide +kernel
theorem d45_6 : decode (cm_M 45).2.2.1 6 = .ok (.bipush 33, 2) := by decide +kernel
theorem d45_8 : decode (cm_M 45).2.2.1 8 = .ok (.if_icmp .eq 20, 3) := by decide +kernel
theorem d45_11 : decode (cm_M 45).2.2.1 11 = .ok (.iload_n 2, 1) := by decide +kernel
theorem d45_12 : decode (cm_M 45).2.2.1 12 = .ok (.bipush 40, 2) := by decide +kernel
theorem d45_14 : decode (cm_M 45).2.2.1 14 = .ok (.if_icmp .eq 14, 3) := by decide +kernel
theorem d45_17 : decode (cm_M 45).2.2.1 17 = .ok (.aload_n 0, 1) := by decide +kernel
theorem d45_18 : decode (cm_M 45).2.2.1 18 = .ok (.aload_n 0, 1) := by decide +kernel
theorem d45_19 : decode (cm_M 45).2.2.1 19 = .ok (.iload_n 1, 1) := by decide +kernel
theorem d45_20 : decode (cm_M 45).2.2.1 20 = .ok (.invokevirtual 89, 3) := by decide +kernel
theorem d45_23 : decode (cm_M 45).2.2.1 23 = .ok (.iload_n 1, 1) := by decide +kernel
theorem d45_24 : decode (cm_M 45).2.2.1 24 = .ok (.invokevirtual 93, 3) := by decide +kernel
theorem d45_27 : decode (cm_M 45).2.2.1 27 = .ok (.ireturn, 1) := by decide +kernel
theorem d45_28 : decode (cm_M 45).2.2.1 28 = .ok (.iload_n 1, 1) := by decide +kernel
theorem d45_29 : decode (cm_M 45).2.2.1 29 = .ok (.bipush 6, 2) := by decide +kernel
theorem d45_31 : decode (cm_M 45).2.2.1 31 = .ok (.if_icmp .lt 9, 3) := by decide +kernel
theorem d45_34 : decode (cm_M 45).2.2.1 34 = .ok (.aload_n 0, 1) := by decide +kernel
theorem d45_35 : decode (cm_M 45).2.2.1 35 = .ok (.invokevirtual 66, 3) := by decide +kernel
theorem d45_38 : decode (cm_M 45).2.2.1 38 = .ok (.iconst 0, 1) := by decide +kernel
theorem d45_39 : decode (cm_M 45).2.2.1 39 = .ok (.ireturn, 1) := by decide +kernel
theorem d45_40 : decode (cm_M 45).2.2.1 40 = .ok (.aload_n 0, 1) := by decide +kernel
theorem d45_41 : decode (cm_M 45).2.2.1 41 = .ok (.dup, 1) := by decide +kernel
theorem d45_42 : decode (cm_M 45).2.2.1 42 = .ok (.getfield 59, 3) := by decide +kernel
theorem d45_45 : decode (cm_M 45).2.2.1 45 = .ok (.iconst 1, 1) := by decide +kernel
theorem d45_46 : decode (cm_M 45).2.2.1 46 = .ok (.iadd, 1) := by decide +kernel
theorem d45_47 : decode (cm_M 45).2.2.1 47 = .ok (.putfield 59, 3) := by decide +kernel
theorem d45_50 : decode (cm_M 45).2.2.1 50 = .ok (.iload_n 2, 1) := by decide +kernel
theorem d45_51 : decode (cm_M 45).2.2.1 51 = .ok (.bipush 33, 2) := by decide +kernel
theorem d45_53 : decode (cm_M 45).2.2.1 53 = .ok (.if_icmp .ne 19, 3) := by decide +kernel
theorem d45_56 : decode (cm_M 45).2.2.1 56 = .ok (.aload_n 0, 1) := by decide +kernel
theorem d45_57 : decode (cm_M 45).2.2.1 57 = .ok (.iload_n 1, 1) := by decide +kernel
theorem d45_58 : decode (cm_M 45).2.2.1 58 = .ok (.iconst 1, 1) := by decide +kernel
theorem d45_59 : decode (cm_M 45).2.2.1 59 = .ok (.iadd, 1) := by decide +kernel
theorem d45_60 : decode (cm_M 45).2.2.1 60 = .ok (.invokevirtual 81, 3) := by decide +kernel
theorem d45_63 : decode (cm_M 45).2.2.1 63 = .ok (.ifCond .ne 7, 3) := by decide +kernel
theorem d45_66 : decode (cm_M 45).2.2.1 66 = .ok (.iconst 1, 1) := by decide +kernel
theorem d45_67 : decode (cm_M 45).2.2.1 67 = .ok (.goto 4, 3) := by decide +kernel
theorem d45_70 : decode (cm_M 45).2.2.1 70 = .ok (.iconst 0, 1) := by decide +kernel
theorem d45_71 : decode (cm_M 45).2.2.1 71 = .ok (.ireturn, 1) := by decide +kernel
theorem d45_72 : decode (cm_M 45).2.2.1 72 = .ok (.aload_n 0, 1) := by decide +kernel
theorem d45_73 : decode (cm_M 45).2.2.1 73 = .ok (.aload_n 0, 1) := by decide +kernel
theorem d45_74 : decode (cm_M 45).2.2.1 74 = .ok (.iload_n 1, 1) := by decide +kernel
theorem d45_75 : decode (cm_M 45).2.2.1 75 = .ok (.iconst 1, 1) := by decide +kernel
theorem d45_76 : decode (cm_M 45).2.2.1 76 = .ok (.iadd, 1) := by decide +kernel
theorem d45_77 : decode (cm_M 45).2.2.1 77 = .ok (.invokevirtual 81, 3) := by decide +kernel
theorem d45_80 : decode (cm_M 45).2.2.1 80 = .ok (.iload_n 1, 1) := by decide +kernel
theorem d45_81 : decode (cm_M 45).2.2.1 81 = .ok (.iconst 1, 1) := by decide +kernel
theorem d45_82 : decode (cm_M 45).2.2.1 82 = .ok (.iadd, 1) := by decide +kernel
theorem d45_83 : decode (cm_M 45).2.2.1 83 = .ok (.invokevirtual 85, 3) := by decide +kernel
theorem d45_86 : decode (cm_M 45).2.2.1 86 = .ok (.istore_n 3, 1) := by decide +kernel
theorem d45_87 : decode (cm_M 45).2.2.1 87 = .ok (.aload_n 0, 1) := by decide +kernel
theorem d45_88 : decode (cm_M 45).2.2.1 88 = .ok (.bipush 41, 2) := by decide +kernel
theorem d45_90 : decode (cm_M 45).2.2.1 90 = .ok (.invokevirtual 77, 3) := by decide +kernel
theorem d45_93 : decode (cm_M 45).2.2.1 93 = .ok (.iload_n 3, 1) := by decide +kernel
theorem d45_94 : decode (cm_M 45).2.2.1 94 = .ok (.ireturn, 1) := by decide +kernel
theorem s45_0 {sc : cmS} {d : Nat} {h : cmH} {Q : Option Value → cmH → Prop} (L : LY h) (x1 : Int32) (u2 : Option Value) (u3 : Option Value) (H : cm_ci sc d 42 [.ref 9] h (fun r h' => cm_wp sc (d + 1) 45 4 [some (.ref 9), some (.int x1), u2, u3] [.int r] h' Q)) : cm_wp sc (d + 1) 45 0 [some (.ref 9), some (.int x1), u2, u3] [] h Q :=
  wl_st d45_0 rfl rfl rfl rfl (wl_ci d45_1 rfl rfl rfl pm6_62 (by decide) (ca_v (Or.inl rfl) rfl (Nat.le_of_ble_eq_true rfl) (Nat.le_of_ble_eq_true rfl) (ly_k L 9 rfl).2 (ly_k L 9 rfl).1 (by decide)) H)
theorem s45_4 {sc : cmS} {d : Nat} {h : cmH} {Q : Option Value → cmH → Prop} (L : LY h) (x1 : Int32) (u2 : Option Value) (u3 : Option Value) (sx0 : Int32) (H : (((sx0 = (33 : Int32)) → cm_wp sc (d + 1) 45 28 [some (.ref 9), some (.int x1), some (.int sx0), u3] [] h Q) ∧ (¬ (sx0 = (33 : Int32)) → (((sx0 = (40 : Int32)) → cm_wp sc (d + 1) 45 28 [some (.ref 9), some (.int x1), some (.int sx0), u3] [] h Q) ∧ (¬ (sx0 = (40 : Int32)) → cm_cj' sc d 46 [.ref 9, .int x1] h (fun r h' => cm_wp sc (d + 1) 45 23 [some (.ref 9), some (.int x1), some (.int sx0), u3] [.long r, .ref 9] h' Q)))))) : cm_wp sc (d + 1) 45 4 [some (.ref 9), some (.int x1), u2, u3] [.int sx0] h Q :=
  wl_st (ls' := [some (.ref 9), some (.int x1), some (.int sx0), u3]) d45_4 rfl rfl rfl rfl (wl_st d45_5 rfl rfl rfl rfl (wl_bi (v := 33) d45_6 rfl (wl_cb (b := sx0 = (33 : Int32)) (off := 20) (tgt := 28) (pc3 := 11) (st' := []) d45_8 rfl rfl rfl rfl (by decide) rfl (fun c1 => (H.1 c1)) (fun c1 => wl_st d45_11 rfl rfl rfl rfl (wl_bi (v := 40) d45_12 rfl (wl_cb (b := sx0 = (40 : Int32)) (off := 14) (tgt := 28) (pc3 := 17) (st' := []) d45_14 rfl rfl rfl rfl (by decide) rfl (fun c2 => ((H.2 c1).1 c2)) (fun c2 => wl_st d45_17 rfl rfl rfl rfl (wl_st d45_18 rfl rfl rfl rfl (wl_st d45_19 rfl rfl rfl rfl (wl_cj d45_20 rfl rfl rfl pm6_89 (by decide) (ca_v (Or.inl rfl) rfl (Nat.le_of_ble_eq_true rfl) (Nat.le_of_ble_eq_true rfl) (ly_k L 9 rfl).2 (ly_k L 9 rfl).1 (by decide)) ((H.2 c1).2 c2)))))))))))
theorem s45_23 {sc : cmS} {d : Nat} {h : cmH} {Q : Option Value → cmH → Prop} (L : LY h) (x1 : Int32) (x2 : Int32) (u3 : Option Value) (sy0 : Int64) (H : cm_ci sc d 51 [.ref 9, .long sy0, .int x1] h (fun r h' => cm_wp sc (d + 1) 45 27 [some (.ref 9), some (.int x1), some (.int x2), u3] [.int r] h' Q)) : cm_wp sc (d + 1) 45 23 [some (.ref 9), some (.int x1), some (.int x2), u3] [.long sy0, .ref 9] h Q :=
  wl_st d45_23 rfl rfl rfl rfl (wl_ci d45_24 rfl rfl rfl pm6_93 (by decide) (ca_v (Or.inl rfl) rfl (Nat.le_of_ble_eq_true rfl) (Nat.le_of_ble_eq_true rfl) (ly_k L 9 rfl).2 (ly_k L 9 rfl).1 (by decide)) H)
theorem s45_27 {sc : cmS} {d : Nat} {h : cmH} {Q : Option Value → cmH → Prop} (x1 : Int32) (x2 : Int32) (u3 : Option Value) (sx0 : Int32) (H : (sx0 = 0 ∨ sx0 = 1) ∧ Q (some (.int sx0)) h) : cm_wp sc d 45 27 [some (.ref 9), some (.int x1), some (.int x2), u3] [.int sx0] h Q :=
  And.elim (fun g1 g1k => wl_rz d45_27 rfl g1 g1k) H
theorem s45_28 {sc : cmS} {d : Nat} {h : cmH} {Q : Option Value → cmH → Prop} (L : LY h) (x1 : Int32) (x2 : Int32) (u3 : Option Value) (H : (((x1 < (6 : Int32)) → (((¬ x2 = (33 : Int32)) → cm_ci sc d 45 [.ref 9, .int (x1 + (1 : Int32))] (cm_setI h 9 3 ((cm_I h 9 3) + (1 : Int32))) (fun r h' => cm_wp sc (d + 1) 45 80 [some (.ref 9), some (.int x1), some (.int x2), u3] [.int r, .ref 9] h' Q)) ∧ (¬ (¬ x2 = (33 : Int32)) → cm_ci sc d 45 [.ref 9, .int (x1 + (1 : Int32))] (cm_setI h 9 3 ((cm_I h 9 3) + (1 : Int32))) (fun r h' => cm_wp sc (d + 1) 45 63 [some (.ref 9), some (.int x1), some (.int x2), u3] [.int r] h' Q)))) ∧ (¬ (x1 < (6 : Int32)) → cm_cv sc d 43 [.ref 9] h (fun h' => cm_wp sc (d + 1) 45 38 [some (.ref 9), some (.int x1), some (.int x2), u3] [] h' Q)))) : cm_wp sc (d + 1) 45 28 [some (.ref 9), some (.int x1), some (.int x2), u3] [] h Q :=
  wl_st d45_28 rfl rfl rfl rfl (wl_bi (v := 6) d45_29 rfl (wl_cb (b := x1 < (6 : Int32)) (off := 9) (tgt := 40) (pc3 := 34) (st' := []) d45_31 rfl rfl rfl rfl (by decide) rfl (fun c1 => wl_st d45_40 rfl rfl rfl rfl (wl_st d45_41 rfl rfl rfl rfl (wl_gf (v := .int (cm_I h 9 3)) d45_42 pf6_59 (ly_k L 9 rfl) rfl (wl_ic (v := 1) d45_45 rfl (wl_st d45_46 rfl rfl rfl rfl (wl_pf (h' := (cm_setI h 9 3 ((cm_I h 9 3) + (1 : Int32)))) d45_47 pf6_59 (ly_k L 9 rfl) (Or.inl rfl) rfl (wl_st d45_50 rfl rfl rfl rfl (wl_bi (v := 33) d45_51 rfl (wl_cb (b := ¬ x2 = (33 : Int32)) (off := 19) (tgt := 72) (pc3 := 56) (st' := []) d45_53 rfl rfl rfl rfl (by decide) rfl (fun c2 => wl_st d45_72 rfl rfl rfl rfl (wl_st d45_73 rfl rfl rfl rfl (wl_st d45_74 rfl rfl rfl rfl (wl_ic (v := 1) d45_75 rfl (wl_st d45_76 rfl rfl rfl rfl (wl_ci d45_77 rfl rfl rfl pm6_81 (by decide) (ca_v (Or.inl rfl) rfl (Nat.le_of_ble_eq_true rfl) (Nat.le_of_ble_eq_true rfl) (ly_k L 9 rfl).2 (ly_k L 9 rfl).1 (by decide)) ((H.1 c1).1 c2))))))) (fun c2 => wl_st d45_56 rfl rfl rfl rfl (wl_st d45_57 rfl rfl rfl rfl (wl_ic (v := 1) d45_58 rfl (wl_st d45_59 rfl rfl rfl rfl (wl_ci d45_60 rfl rfl rfl pm6_81 (by decide) (ca_v (Or.inl rfl) rfl (Nat.le_of_ble_eq_true rfl) (Nat.le_of_ble_eq_true rfl) (ly_k L 9 rfl).2 (ly_k L 9 rfl).1 (by decide)) ((H.1 c1).2 c2))))))))))))))) (fun c1 => wl_st d45_34 rfl rfl rfl rfl (wl_cv d45_35 rfl rfl rfl pm6_66 (by decide) (ca_v (Or.inl rfl) rfl (Nat.le_of_ble_eq_true rfl) (Nat.le_of_ble_eq_true rfl) (ly_k L 9 rfl).2 (ly_k L 9 rfl).1 (by decide)) (H.2 c1)))))
theorem s45_38 {sc : cmS} {d : Nat} {h : cmH} {Q : Option Value → cmH → Prop} (x1 : Int32) (x2 : Int32) (u3 : Option Value) (H : Q (some (.int (0 : Int32))) h) : cm_wp sc d 45 38 [some (.ref 9), some (.int x1), some (.int x2), u3] [] h Q :=
  wl_ic (v := 0) d45_38 rfl (wl_rz d45_39 rfl (by decide) H)
theorem s45_63 {sc : cmS} {d : Nat} {h : cmH} {Q : Option Value → cmH → Prop} (x1 : Int32) (x2 : Int32) (u3 : Option Value) (sx0 : Int32) (H : (((¬ sx0 = 0) → Q (some (.int (0 : Int32))) h) ∧ (¬ (¬ sx0 = 0) → Q (some (.int (1 : Int32))) h))) : cm_wp sc d 45 63 [some (.ref 9), some (.int x1), some (.int x2), u3] [.int sx0] h Q :=
  wl_cb (b := ¬ sx0 = 0) (off := 7) (tgt := 70) (pc3 := 66) (st' := []) d45_63 rfl rfl rfl rfl (by decide) rfl (fun c1 => wl_ic (v := 0) d45_70 rfl (wl_rz d45_71 rfl (by decide) (H.1 c1))) (fun c1 => wl_ic (v := 1) d45_66 rfl (wl_go (tgt := 71) d45_67 (by decide) (wl_rz d45_71 rfl (by decide) (H.2 c1))))
theorem s45_80 {sc : cmS} {d : Nat} {h : cmH} {Q : Option Value → cmH → Prop} (L : LY h) (x1 : Int32) (x2 : Int32) (u3 : Option Value) (sx0 : Int32) (H : cm_ci sc d 52 [.ref 9, .int sx0, .int (x1 + (1 : Int32))] h (fun r h' => cm_wp sc (d + 1) 45 86 [some (.ref 9), some (.int x1), some (.int x2), u3] [.int r] h' Q)) : cm_wp sc (d + 1) 45 80 [some (.ref 9), some (.int x1), some (.int x2), u3] [.int sx0, .ref 9] h Q :=
  wl_st d45_80 rfl rfl rfl rfl (wl_ic (v := 1) d45_81 rfl (wl_st d45_82 rfl rfl rfl rfl (wl_ci d45_83 rfl rfl rfl pm6_85 (by decide) (ca_v (Or.inl rfl) rfl (Nat.le_of_ble_eq_true rfl) (Nat.le_of_ble_eq_true rfl) (ly_k L 9 rfl).2 (ly_k L 9 rfl).1 (by decide)) H)))
theorem s45_86 {sc : cmS} {d : Nat} {h : cmH} {Q : Option Value → cmH → Prop} (L : LY h) (x1 : Int32) (x2 : Int32) (u3 : Option Value) (sx0 : Int32) (H : cm_cv sc d 44 [.ref 9, .int (41 : Int32)] h (fun h' => cm_wp sc (d + 1) 45 93 [some (.ref 9), some (.int x1), some (.int x2), some (.int sx0)] [] h' Q)) : cm_wp sc (d + 1) 45 86 [some (.ref 9), some (.int x1), some (.int x2), u3] [.int sx0] h Q :=
  wl_st (ls' := [some (.ref 9), some (.int x1), some (.int x2), some (.int sx0)]) d45_86 rfl rfl rfl rfl (wl_st d45_87 rfl rfl rfl rfl (wl_bi (v := 41) d45_88 rfl (wl_cv d45_90 rfl rfl rfl pm6_77 (by decide) (ca_v (Or.inl rfl) rfl (Nat.le_of_ble_eq_true rfl) (Nat.le_of_ble_eq_true rfl) (ly_k L 9 rfl).2 (ly_k L 9 rfl).1 (by decide)) H)))
theorem s45_93 {sc : cmS} {d : Nat} {h : cmH} {Q : Option Value → cmH → Prop} (x1 : Int32) (x2 : Int32) (x3 : Int32) (H : (x3 = 0 ∨ x3 = 1) ∧ Q (some (.int x3)) h) : cm_wp sc d 45 93 [some (.ref 9), some (.int x1), some (.int x2), some (.int x3)] [] h Q :=
  wl_st d45_93 rfl rfl rfl rfl (And.elim (fun g1 g1k => wl_rz d45_94 rfl g1 g1k) H)
-- ClogHouse$Reader.sum(I)J
theorem d46_0 : decode (cm_M 46).2.2.1 0 = .ok (.aload_n 0, 1) := by decide +kernel
theorem d46_1 : decode (cm_M 46).2.2.1 1 = .ok (.iload_n 1, 1) := by decide +kernel
theorem d46_2 : decode (cm_M 46).2.2.1 2 = .ok (.invokevirtual 100, 3) := by decide +kernel
theorem d46_5 : decode (cm_M 46).2.2.1 5 = .ok (.lstore_n 2, 1) := by decide +kernel
theorem d46_6 : decode (cm_M 46).2.2.1 6 = .ok (.aload_n 0, 1) := by decide +kernel
theorem d46_7 : decode (cm_M 46).2.2.1 7 = .ok (.invokevirtual 62, 3) := by decide +kernel
theorem d46_10 : decode (cm_M 46).2.2.1 10 = .ok (.istore 4, 2) := by decide +kernel
theorem d46_12 : decode (cm_M 46).2.2.1 12 = .ok (.iconst 0, 1) := by decide +kernel
theorem d46_13 : decode (cm_M 46).2.2.1 13 = .ok (.istore 5, 2) := by decide +kernel
theorem d46_15 : decode (cm_M 46).2.2.1 15 = .ok (.iload 5, 2) := by decide +kernel
theorem d46_17 : decode (cm_M 46).2.2.1 17 = .ok (.sipush 160, 3) := by decide +kernel
theorem d46_20 : decode (cm_M 46).2.2.1 20 = .ok (.if_icmp .ge 68, 3) := by decide +kernel
theorem d46_23 : decode (cm_M 46).2.2.1 23 = .ok (.iload 4, 2) := by decide +kernel
theorem d46_25 : decode (cm_M 46).2.2.1 25 = .ok (.bipush 43, 2) := by decide +kernel
theorem d46_27 : decode (cm_M 46).2.2.1 27 = .ok (.if_icmp .eq 10, 3) := by decide +kernel
theorem d46_30 : decode (cm_M 46).2.2.1 30 = .ok (.iload 4, 2) := by decide +kernel
theorem d46_32 : decode (cm_M 46).2.2.1 32 = .ok (.bipush 45, 2) := by decide +kernel
theorem d46_34 : decode (cm_M 46).2.2.1 34 = .ok (.if_icmp .ne 54, 3) := by decide +kernel
theorem d46_37 : decode (cm_M 46).2.2.1 37 = .ok (.aload_n 0, 1) := by decide +kernel
theorem d46_38 : decode (cm_M 46).2.2.1 38 = .ok (.dup, 1) := by decide +kernel
theorem d46_39 : decode (cm_M 46).2.2.1 39 = .ok (.getfield 59, 3) := by decide +kernel
theorem d46_42 : decode (cm_M 46).2.2.1 42 = .ok (.iconst 1, 1) := by decide +kernel
theorem d46_43 : decode (cm_M 46).2.2.1 43 = .ok (.iadd, 1) := by decide +kernel
theorem d46_44 : decode (cm_M 46).2.2.1 44 = .ok (.putfield 59, 3) := by decide +kernel
theorem d46_47 : decode (cm_M 46).2.2.1 47 = .ok (.aload_n 0, 1) := by decide +kernel
theorem d46_48 : decode (cm_M 46).2.2.1 48 = .ok (.iload_n 1, 1) := by decide +kernel
theorem d46_49 : decode (cm_M 46).2.2.1 49 = .ok (.invokevirtual 100, 3) := by decide +kernel
theorem d46_52 : decode (cm_M 46).2.2.1 52 = .ok (.lstore 6, 2) := by decide +kernel
theorem d46_54 : decode (cm_M 46).2.2.1 54 = .ok (.iload 4, 2) := by decide +kernel
theorem d46_56 : decode (cm_M 46).2.2.1 56 = .ok (.bipush 43, 2) := by decide +kernel
theorem d46_58 : decode (cm_M 46).2.2.1 58 = .ok (.if_icmp .ne 10, 3) := by decide +kernel
theorem d46_61 : decode (cm_M 46).2.2.1 61 = .ok (.lload_n 2, 1) := by decide +kernel
theorem d46_62 : decode (cm_M 46).2.2.1 62 = .ok (.lload 6, 2) := by decide +kernel
theorem d46_64 : decode (cm_M 46).2.2.1 64 = .ok (.ladd, 1) := by decide +kernel
theorem d46_65 : decode (cm_M 46).2.2.1 65 = .ok (.goto 7, 3) := by decide +kernel
theorem d46_68 : decode (cm_M 46).2.2.1 68 = .ok (.lload_n 2, 1) := by decide +kernel
theorem d46_69 : decode (cm_M 46).2.2.1 69 = .ok (.lload 6, 2) := by decide +kernel
theorem d46_71 : decode (cm_M 46).2.2.1 71 = .ok (.lsub, 1) := by decide +kernel
theorem d46_72 : decode (cm_M 46).2.2.1 72 = .ok (.invokestatic 103, 3) := by decide +kernel
theorem d46_75 : decode (cm_M 46).2.2.1 75 = .ok (.lstore_n 2, 1) := by decide +kernel
theorem d46_76 : decode (cm_M 46).2.2.1 76 = .ok (.aload_n 0, 1) := by decide +kernel
theorem d46_77 : decode (cm_M 46).2.2.1 77 = .ok (.invokevirtual 62, 3) := by decide +kernel
theorem d46_80 : decode (cm_M 46).2.2.1 80 = .ok (.istore 4, 2) := by decide +kernel
theorem d46_82 : decode (cm_M 46).2.2.1 82 = .ok (.iinc 5 1, 3) := by decide +kernel
theorem d46_85 : decode (cm_M 46).2.2.1 85 = .ok (.goto (-70), 3) := by decide +kernel
theorem d46_88 : decode (cm_M 46).2.2.1 88 = .ok (.lload_n 2, 1) := by decide +kernel
theorem d46_89 : decode (cm_M 46).2.2.1 89 = .ok (.lreturn, 1) := by decide +kernel
theorem s46_0 {sc : cmS} {d : Nat} {h : cmH} {Q : Option Value → cmH → Prop} (L : LY h) (x1 : Int32) (u2 : Option Value) (u3 : Option Value) (u4 : Option Value) (u5 : Option Value) (u6 : Option Value) (u7 : Option Value) (H : cm_cj' sc d 47 [.ref 9, .int x1] h (fun r h' => cm_wp sc (d + 1) 46 5 [some (.ref 9), some (.int x1), u2, u3, u4, u5, u6, u7] [.long r] h' Q)) : cm_wp sc (d + 1) 46 0 [some (.ref 9), some (.int x1), u2, u3, u4, u5, u6, u7] [] h Q :=
  wl_st d46_0 rfl rfl rfl rfl (wl_st d46_1 rfl rfl rfl rfl (wl_cj d46_2 rfl rfl rfl pm6_100 (by decide) (ca_v (Or.inl rfl) rfl (Nat.le_of_ble_eq_true rfl) (Nat.le_of_ble_eq_true rfl) (ly_k L 9 rfl).2 (ly_k L 9 rfl).1 (by decide)) H))
theorem s46_5 {sc : cmS} {d : Nat} {h : cmH} {Q : Option Value → cmH → Prop} (L : LY h) (x1 : Int32) (u2 : Option Value) (u3 : Option Value) (u4 : Option Value) (u5 : Option Value) (u6 : Option Value) (u7 : Option Value) (sy0 : Int64) (H : cm_ci sc d 42 [.ref 9] h (fun r h' => cm_wp sc (d + 1) 46 10 [some (.ref 9), some (.int x1), some (.long sy0), none, u4, u5, u6, u7] [.int r] h' Q)) : cm_wp sc (d + 1) 46 5 [some (.ref 9), some (.int x1), u2, u3, u4, u5, u6, u7] [.long sy0] h Q :=
  wl_st (ls' := [some (.ref 9), some (.int x1), some (.long sy0), none, u4, u5, u6, u7]) d46_5 rfl rfl rfl rfl (wl_st d46_6 rfl rfl rfl rfl (wl_ci d46_7 rfl rfl rfl pm6_62 (by decide) (ca_v (Or.inl rfl) rfl (Nat.le_of_ble_eq_true rfl) (Nat.le_of_ble_eq_true rfl) (ly_k L 9 rfl).2 (ly_k L 9 rfl).1 (by decide)) H))
theorem s46_10 {sc : cmS} {d : Nat} {h : cmH} {Q : Option Value → cmH → Prop} (x1 : Int32) (y2 : Int64) (u4 : Option Value) (u5 : Option Value) (u6 : Option Value) (u7 : Option Value) (sx0 : Int32) (H : cm_wp sc d 46 15 [some (.ref 9), some (.int x1), some (.long y2), none, some (.int sx0), some (.int (0 : Int32)), u6, u7] [] h Q) : cm_wp sc d 46 10 [some (.ref 9), some (.int x1), some (.long y2), none, u4, u5, u6, u7] [.int sx0] h Q :=
  wl_st (ls' := [some (.ref 9), some (.int x1), some (.long y2), none, some (.int sx0), u5, u6, u7]) d46_10 rfl rfl rfl rfl (wl_ic (v := 0) d46_12 rfl (wl_st (ls' := [some (.ref 9), some (.int x1), some (.long y2), none, some (.int sx0), some (.int (0 : Int32)), u6, u7]) d46_13 rfl rfl rfl rfl (H)))
theorem s46_15 {sc : cmS} {d : Nat} {h : cmH} {Q : Option Value → cmH → Prop} (x1 : Int32) (y2 : Int64) (x4 : Int32) (x5 : Int32) (u6 : Option Value) (u7 : Option Value) (H : ((((160 : Int32) ≤ x5) → Q (some (.long y2)) h) ∧ (¬ ((160 : Int32) ≤ x5) → (((x4 = (43 : Int32)) → cm_wp sc d 46 37 [some (.ref 9), some (.int x1), some (.long y2), none, some (.int x4), some (.int x5), u6, u7] [] h Q) ∧ (¬ (x4 = (43 : Int32)) → (((¬ x4 = (45 : Int32)) → Q (some (.long y2)) h) ∧ (¬ (¬ x4 = (45 : Int32)) → cm_wp sc d 46 37 [some (.ref 9), some (.int x1), some (.long y2), none, some (.int x4), some (.int x5), u6, u7] [] h Q))))))) : cm_wp sc d 46 15 [some (.ref 9), some (.int x1), some (.long y2), none, some (.int x4), some (.int x5), u6, u7] [] h Q :=
  wl_st d46_15 rfl rfl rfl rfl (wl_si (v := 160) d46_17 rfl (wl_cb (b := (160 : Int32) ≤ x5) (off := 68) (tgt := 88) (pc3 := 23) (st' := []) d46_20 rfl rfl rfl rfl (by decide) rfl (fun c1 => wl_st d46_88 rfl rfl rfl rfl (wl_rt d46_89 rfl rfl rfl (H.1 c1))) (fun c1 => wl_st d46_23 rfl rfl rfl rfl (wl_bi (v := 43) d46_25 rfl (wl_cb (b := x4 = (43 : Int32)) (off := 10) (tgt := 37) (pc3 := 30) (st' := []) d46_27 rfl rfl rfl rfl (by decide) rfl (fun c2 => ((H.2 c1).1 c2)) (fun c2 => wl_st d46_30 rfl rfl rfl rfl (wl_bi (v := 45) d46_32 rfl (wl_cb (b := ¬ x4 = (45 : Int32)) (off := 54) (tgt := 88) (pc3 := 37) (st' := []) d46_34 rfl rfl rfl rfl (by decide) rfl (fun c3 => wl_st d46_88 rfl rfl rfl rfl (wl_rt d46_89 rfl rfl rfl (((H.2 c1).2 c2).1 c3))) (fun c3 => (((H.2 c1).2 c2).2 c3))))))))))
theorem s46_37 {sc : cmS} {d : Nat} {h : cmH} {Q : Option Value → cmH → Prop} (L : LY h) (x1 : Int32) (y2 : Int64) (x4 : Int32) (x5 : Int32) (u6 : Option Value) (u7 : Option Value) (H : cm_cj' sc d 47 [.ref 9, .int x1] (cm_setI h 9 3 ((cm_I h 9 3) + (1 : Int32))) (fun r h' => cm_wp sc (d + 1) 46 52 [some (.ref 9), some (.int x1), some (.long y2), none, some (.int x4), some (.int x5), u6, u7] [.long r] h' Q)) : cm_wp sc (d + 1) 46 37 [some (.ref 9), some (.int x1), some (.long y2), none, some (.int x4), some (.int x5), u6, u7] [] h Q :=
  wl_st d46_37 rfl rfl rfl rfl (wl_st d46_38 rfl rfl rfl rfl (wl_gf (v := .int (cm_I h 9 3)) d46_39 pf6_59 (ly_k L 9 rfl) rfl (wl_ic (v := 1) d46_42 rfl (wl_st d46_43 rfl rfl rfl rfl (wl_pf (h' := (cm_setI h 9 3 ((cm_I h 9 3) + (1 : Int32)))) d46_44 pf6_59 (ly_k L 9 rfl) (Or.inl rfl) rfl (wl_st d46_47 rfl rfl rfl rfl (wl_st d46_48 rfl rfl rfl rfl (wl_cj d46_49 rfl rfl rfl pm6_100 (by decide) (ca_v (Or.inl rfl) rfl (Nat.le_of_ble_eq_true rfl) (Nat.le_of_ble_eq_true rfl) (ly_k L 9 rfl).2 (ly_k L 9 rfl).1 (by decide)) H))))))))
theorem s46_52 {sc : cmS} {d : Nat} {h : cmH} {Q : Option Value → cmH → Prop} (x1 : Int32) (y2 : Int64) (x4 : Int32) (x5 : Int32) (u6 : Option Value) (u7 : Option Value) (sy0 : Int64) (H : (((¬ x4 = (43 : Int32)) → cm_wp sc d 46 72 [some (.ref 9), some (.int x1), some (.long y2), none, some (.int x4), some (.int x5), some (.long sy0), none] [.long (y2 - sy0)] h Q) ∧ (¬ (¬ x4 = (43 : Int32)) → cm_wp sc d 46 72 [some (.ref 9), some (.int x1), some (.long y2), none, some (.int x4), some (.int x5), some (.long sy0), none] [.long (y2 + sy0)] h Q))) : cm_wp sc d 46 52 [some (.ref 9), some (.int x1), some (.long y2), none, some (.int x4), some (.int x5), u6, u7] [.long sy0] h Q :=
  wl_st (ls' := [some (.ref 9), some (.int x1), some (.long y2), none, some (.int x4), some (.int x5), some (.long sy0), none]) d46_52 rfl rfl rfl rfl (wl_st d46_54 rfl rfl rfl rfl (wl_bi (v := 43) d46_56 rfl (wl_cb (b := ¬ x4 = (43 : Int32)) (off := 10) (tgt := 68) (pc3 := 61) (st' := []) d46_58 rfl rfl rfl rfl (by decide) rfl (fun c1 => wl_st d46_68 rfl rfl rfl rfl (wl_st d46_69 rfl rfl rfl rfl (wl_st d46_71 rfl rfl rfl rfl ((H.1 c1))))) (fun c1 => wl_st d46_61 rfl rfl rfl rfl (wl_st d46_62 rfl rfl rfl rfl (wl_st d46_64 rfl rfl rfl rfl (wl_go (tgt := 72) d46_65 (by decide) ((H.2 c1)))))))))
theorem s46_72 {sc : cmS} {d : Nat} {h : cmH} {Q : Option Value → cmH → Prop} (x1 : Int32) (y2 : Int64) (x4 : Int32) (x5 : Int32) (y6 : Int64) (sy0 : Int64) (H : cm_cj' sc d 50 [.long sy0] h (fun r h' => cm_wp sc (d + 1) 46 75 [some (.ref 9), some (.int x1), some (.long y2), none, some (.int x4), some (.int x5), some (.long y6), none] [.long r] h' Q)) : cm_wp sc (d + 1) 46 72 [some (.ref 9), some (.int x1), some (.long y2), none, some (.int x4), some (.int x5), some (.long y6), none] [.long sy0] h Q :=
  wl_cj d46_72 rfl rfl rfl pm6_103 (by decide) (ca_s (Or.inl rfl) rfl (Nat.le_of_ble_eq_true rfl) (Nat.le_of_ble_eq_true rfl)) H
theorem s46_75 {sc : cmS} {d : Nat} {h : cmH} {Q : Option Value → cmH → Prop} (L : LY h) (x1 : Int32) (y2 : Int64) (x4 : Int32) (x5 : Int32) (y6 : Int64) (sy0 : Int64) (H : cm_ci sc d 42 [.ref 9] h (fun r h' => cm_wp sc (d + 1) 46 80 [some (.ref 9), some (.int x1), some (.long sy0), none, some (.int x4), some (.int x5), some (.long y6), none] [.int r] h' Q)) : cm_wp sc (d + 1) 46 75 [some (.ref 9), some (.int x1), some (.long y2), none, some (.int x4), some (.int x5), some (.long y6), none] [.long sy0] h Q :=
  wl_st (ls' := [some (.ref 9), some (.int x1), some (.long sy0), none, some (.int x4), some (.int x5), some (.long y6), none]) d46_75 rfl rfl rfl rfl (wl_st d46_76 rfl rfl rfl rfl (wl_ci d46_77 rfl rfl rfl pm6_62 (by decide) (ca_v (Or.inl rfl) rfl (Nat.le_of_ble_eq_true rfl) (Nat.le_of_ble_eq_true rfl) (ly_k L 9 rfl).2 (ly_k L 9 rfl).1 (by decide)) H))
theorem s46_80 {sc : cmS} {d : Nat} {h : cmH} {Q : Option Value → cmH → Prop} (x1 : Int32) (y2 : Int64) (x4 : Int32) (x5 : Int32) (y6 : Int64) (sx0 : Int32) (H : cm_wp sc d 46 15 [some (.ref 9), some (.int x1), some (.long y2), none, some (.int sx0), some (.int (x5 + 1)), some (.long y6), none] [] h Q) : cm_wp sc d 46 80 [some (.ref 9), some (.int x1), some (.long y2), none, some (.int x4), some (.int x5), some (.long y6), none] [.int sx0] h Q :=
  wl_st (ls' := [some (.ref 9), some (.int x1), some (.long y2), none, some (.int sx0), some (.int x5), some (.long y6), none]) d46_80 rfl rfl rfl rfl (wl_st (ls' := [some (.ref 9), some (.int x1), some (.long y2), none, some (.int sx0), some (.int (x5 + 1)), some (.long y6), none]) d46_82 rfl rfl rfl rfl (wl_go (tgt := 15) d46_85 (by decide) (H)))
-- ClogHouse$Reader.term(I)J
theorem d47_0 : decode (cm_M 47).2.2.1 0 = .ok (.aload_n 0, 1) := by decide +kernel
theorem d47_1 : decode (cm_M 47).2.2.1 1 = .ok (.iload_n 1, 1) := by decide +kernel
theorem d47_2 : decode (cm_M 47).2.2.1 2 = .ok (.invokevirtual 107, 3) := by decide +kernel
theorem d47_5 : decode (cm_M 47).2.2.1 5 = .ok (.lstore_n 2, 1) := by decide +kernel
theorem d47_6 : decode (cm_M 47).2.2.1 6 = .ok (.aload_n 0, 1) := by decide +kernel
theorem d47_7 : decode (cm_M 47).2.2.1 7 = .ok (.invokevirtual 62, 3) := by decide +kernel
theorem d47_10 : decode (cm_M 47).2.2.1 10 = .ok (.istore 4, 2) := by decide +kernel
theorem d47_12 : decode (cm_M 47).2.2.1 12 = .ok (.iconst 0, 1) := by decide +kernel
theorem d47_13 : decode (cm_M 47).2.2.1 13 = .ok (.istore 5, 2) := by decide +kernel
theorem d47_15 : decode (cm_M 47).2.2.1 15 = .ok (.iload 5, 2) := by decide +kernel
theorem d47_17 : decode (cm_M 47).2.2.1 17 = .ok (.sipush 160, 3) := by decide +kernel
theorem d47_20 : decode (cm_M 47).2.2.1 20 = .ok (.if_icmp .ge 70, 3) := by decide +kernel
theorem d47_23 : decode (cm_M 47).2.2.1 23 = .ok (.iload 4, 2) := by decide +kernel
theorem d47_25 : decode (cm_M 47).2.2.1 25 = .ok (.bipush 42, 2) := by decide +kernel
theorem d47_27 : decode (cm_M 47).2.2.1 27 = .ok (.if_icmp .eq 10, 3) := by decide +kernel
theorem d47_30 : decode (cm_M 47).2.2.1 30 = .ok (.iload 4, 2) := by decide +kernel
theorem d47_32 : decode (cm_M 47).2.2.1 32 = .ok (.bipush 47, 2) := by decide +kernel
theorem d47_34 : decode (cm_M 47).2.2.1 34 = .ok (.if_icmp .ne 56, 3) := by decide +kernel
theorem d47_37 : decode (cm_M 47).2.2.1 37 = .ok (.aload_n 0, 1) := by decide +kernel
theorem d47_38 : decode (cm_M 47).2.2.1 38 = .ok (.dup, 1) := by decide +kernel
theorem d47_39 : decode (cm_M 47).2.2.1 39 = .ok (.getfield 59, 3) := by decide +kernel
theorem d47_42 : decode (cm_M 47).2.2.1 42 = .ok (.iconst 1, 1) := by decide +kernel
theorem d47_43 : decode (cm_M 47).2.2.1 43 = .ok (.iadd, 1) := by decide +kernel
theorem d47_44 : decode (cm_M 47).2.2.1 44 = .ok (.putfield 59, 3) := by decide +kernel
theorem d47_47 : decode (cm_M 47).2.2.1 47 = .ok (.aload_n 0, 1) := by decide +kernel
theorem d47_48 : decode (cm_M 47).2.2.1 48 = .ok (.iload_n 1, 1) := by decide +kernel
theorem d47_49 : decode (cm_M 47).2.2.1 49 = .ok (.invokevirtual 107, 3) := by decide +kernel
theorem d47_52 : decode (cm_M 47).2.2.1 52 = .ok (.lstore 6, 2) := by decide +kernel
theorem d47_54 : decode (cm_M 47).2.2.1 54 = .ok (.iload 4, 2) := by decide +kernel
theorem d47_56 : decode (cm_M 47).2.2.1 56 = .ok (.bipush 42, 2) := by decide +kernel
theorem d47_58 : decode (cm_M 47).2.2.1 58 = .ok (.if_icmp .ne 10, 3) := by decide +kernel
theorem d47_61 : decode (cm_M 47).2.2.1 61 = .ok (.lload_n 2, 1) := by decide +kernel
theorem d47_62 : decode (cm_M 47).2.2.1 62 = .ok (.lload 6, 2) := by decide +kernel
theorem d47_64 : decode (cm_M 47).2.2.1 64 = .ok (.lmul, 1) := by decide +kernel
theorem d47_65 : decode (cm_M 47).2.2.1 65 = .ok (.goto 9, 3) := by decide +kernel
theorem d47_68 : decode (cm_M 47).2.2.1 68 = .ok (.lload_n 2, 1) := by decide +kernel
theorem d47_69 : decode (cm_M 47).2.2.1 69 = .ok (.lload 6, 2) := by decide +kernel
theorem d47_71 : decode (cm_M 47).2.2.1 71 = .ok (.invokestatic 110, 3) := by decide +kernel
theorem d47_74 : decode (cm_M 47).2.2.1 74 = .ok (.invokestatic 103, 3) := by decide +kernel
theorem d47_77 : decode (cm_M 47).2.2.1 77 = .ok (.lstore_n 2, 1) := by decide +kernel
theorem d47_78 : decode (cm_M 47).2.2.1 78 = .ok (.aload_n 0, 1) := by decide +kernel
theorem d47_79 : decode (cm_M 47).2.2.1 79 = .ok (.invokevirtual 62, 3) := by decide +kernel
theorem d47_82 : decode (cm_M 47).2.2.1 82 = .ok (.istore 4, 2) := by decide +kernel
theorem d47_84 : decode (cm_M 47).2.2.1 84 = .ok (.iinc 5 1, 3) := by decide +kernel
theorem d47_87 : decode (cm_M 47).2.2.1 87 = .ok (.goto (-72), 3) := by decide +kernel
theorem d47_90 : decode (cm_M 47).2.2.1 90 = .ok (.lload_n 2, 1) := by decide +kernel
theorem d47_91 : decode (cm_M 47).2.2.1 91 = .ok (.lreturn, 1) := by decide +kernel
theorem s47_0 {sc : cmS} {d : Nat} {h : cmH} {Q : Option Value → cmH → Prop} (L : LY h) (x1 : Int32) (u2 : Option Value) (u3 : Option Value) (u4 : Option Value) (u5 : Option Value) (u6 : Option Value) (u7 : Option Value) (H : cm_cj' sc d 48 [.ref 9, .int x1] h (fun r h' => cm_wp sc (d + 1) 47 5 [some (.ref 9), some (.int x1), u2, u3, u4, u5, u6, u7] [.long r] h' Q)) : cm_wp sc (d + 1) 47 0 [some (.ref 9), some (.int x1), u2, u3, u4, u5, u6, u7] [] h Q :=
  wl_st d47_0 rfl rfl rfl rfl (wl_st d47_1 rfl rfl rfl rfl (wl_cj d47_2 rfl rfl rfl pm6_107 (by decide) (ca_v (Or.inl rfl) rfl (Nat.le_of_ble_eq_true rfl) (Nat.le_of_ble_eq_true rfl) (ly_k L 9 rfl).2 (ly_k L 9 rfl).1 (by decide)) H))
theorem s47_5 {sc : cmS} {d : Nat} {h : cmH} {Q : Option Value → cmH → Prop} (L : LY h) (x1 : Int32) (u2 : Option Value) (u3 : Option Value) (u4 : Option Value) (u5 : Option Value) (u6 : Option Value) (u7 : Option Value) (sy0 : Int64) (H : cm_ci sc d 42 [.ref 9] h (fun r h' => cm_wp sc (d + 1) 47 10 [some (.ref 9), some (.int x1), some (.long sy0), none, u4, u5, u6, u7] [.int r] h' Q)) : cm_wp sc (d + 1) 47 5 [some (.ref 9), some (.int x1), u2, u3, u4, u5, u6, u7] [.long sy0] h Q :=
  wl_st (ls' := [some (.ref 9), some (.int x1), some (.long sy0), none, u4, u5, u6, u7]) d47_5 rfl rfl rfl rfl (wl_st d47_6 rfl rfl rfl rfl (wl_ci d47_7 rfl rfl rfl pm6_62 (by decide) (ca_v (Or.inl rfl) rfl (Nat.le_of_ble_eq_true rfl) (Nat.le_of_ble_eq_true rfl) (ly_k L 9 rfl).2 (ly_k L 9 rfl).1 (by decide)) H))
theorem s47_10 {sc : cmS} {d : Nat} {h : cmH} {Q : Option Value → cmH → Prop} (x1 : Int32) (y2 : Int64) (u4 : Option Value) (u5 : Option Value) (u6 : Option Value) (u7 : Option Value) (sx0 : Int32) (H : cm_wp sc d 47 15 [some (.ref 9), some (.int x1), some (.long y2), none, some (.int sx0), some (.int (0 : Int32)), u6, u7] [] h Q) : cm_wp sc d 47 10 [some (.ref 9), some (.int x1), some (.long y2), none, u4, u5, u6, u7] [.int sx0] h Q :=
  wl_st (ls' := [some (.ref 9), some (.int x1), some (.long y2), none, some (.int sx0), u5, u6, u7]) d47_10 rfl rfl rfl rfl (wl_ic (v := 0) d47_12 rfl (wl_st (ls' := [some (.ref 9), some (.int x1), some (.long y2), none, some (.int sx0), some (.int (0 : Int32)), u6, u7]) d47_13 rfl rfl rfl rfl (H)))
theorem s47_15 {sc : cmS} {d : Nat} {h : cmH} {Q : Option Value → cmH → Prop} (x1 : Int32) (y2 : Int64) (x4 : Int32) (x5 : Int32) (u6 : Option Value) (u7 : Option Value) (H : ((((160 : Int32) ≤ x5) → Q (some (.long y2)) h) ∧ (¬ ((160 : Int32) ≤ x5) → (((x4 = (42 : Int32)) → cm_wp sc d 47 37 [some (.ref 9), some (.int x1), some (.long y2), none, some (.int x4), some (.int x5), u6, u7] [] h Q) ∧ (¬ (x4 = (42 : Int32)) → (((¬ x4 = (47 : Int32)) → Q (some (.long y2)) h) ∧ (¬ (¬ x4 = (47 : Int32)) → cm_wp sc d 47 37 [some (.ref 9), some (.int x1), some (.long y2), none, some (.int x4), some (.int x5), u6, u7] [] h Q))))))) : cm_wp sc d 47 15 [some (.ref 9), some (.int x1), some (.long y2), none, some (.int x4), some (.int x5), u6, u7] [] h Q :=
  wl_st d47_15 rfl rfl rfl rfl (wl_si (v := 160) d47_17 rfl (wl_cb (b := (160 : Int32) ≤ x5) (off := 70) (tgt := 90) (pc3 := 23) (st' := []) d47_20 rfl rfl rfl rfl (by decide) rfl (fun c1 => wl_st d47_90 rfl rfl rfl rfl (wl_rt d47_91 rfl rfl rfl (H.1 c1))) (fun c1 => wl_st d47_23 rfl rfl rfl rfl (wl_bi (v := 42) d47_25 rfl (wl_cb (b := x4 = (42 : Int32)) (off := 10) (tgt := 37) (pc3 := 30) (st' := []) d47_27 rfl rfl rfl rfl (by decide) rfl (fun c2 => ((H.2 c1).1 c2)) (fun c2 => wl_st d47_30 rfl rfl rfl rfl (wl_bi (v := 47) d47_32 rfl (wl_cb (b := ¬ x4 = (47 : Int32)) (off := 56) (tgt := 90) (pc3 := 37) (st' := []) d47_34 rfl rfl rfl rfl (by decide) rfl (fun c3 => wl_st d47_90 rfl rfl rfl rfl (wl_rt d47_91 rfl rfl rfl (((H.2 c1).2 c2).1 c3))) (fun c3 => (((H.2 c1).2 c2).2 c3))))))))))
theorem s47_37 {sc : cmS} {d : Nat} {h : cmH} {Q : Option Value → cmH → Prop} (L : LY h) (x1 : Int32) (y2 : Int64) (x4 : Int32) (x5 : Int32) (u6 : Option Value) (u7 : Option Value) (H : cm_cj' sc d 48 [.ref 9, .int x1] (cm_setI h 9 3 ((cm_I h 9 3) + (1 : Int32))) (fun r h' => cm_wp sc (d + 1) 47 52 [some (.ref 9), some (.int x1), some (.long y2), none, some (.int x4), some (.int x5), u6, u7] [.long r] h' Q)) : cm_wp sc (d + 1) 47 37 [some (.ref 9), some (.int x1), some (.long y2), none, some (.int x4), some (.int x5), u6, u7] [] h Q :=
  wl_st d47_37 rfl rfl rfl rfl (wl_st d47_38 rfl rfl rfl rfl (wl_gf (v := .int (cm_I h 9 3)) d47_39 pf6_59 (ly_k L 9 rfl) rfl (wl_ic (v := 1) d47_42 rfl (wl_st d47_43 rfl rfl rfl rfl (wl_pf (h' := (cm_setI h 9 3 ((cm_I h 9 3) + (1 : Int32)))) d47_44 pf6_59 (ly_k L 9 rfl) (Or.inl rfl) rfl (wl_st d47_47 rfl rfl rfl rfl (wl_st d47_48 rfl rfl rfl rfl (wl_cj d47_49 rfl rfl rfl pm6_107 (by decide) (ca_v (Or.inl rfl) rfl (Nat.le_of_ble_eq_true rfl) (Nat.le_of_ble_eq_true rfl) (ly_k L 9 rfl).2 (ly_k L 9 rfl).1 (by decide)) H))))))))
theorem s47_52 {sc : cmS} {d : Nat} {h : cmH} {Q : Option Value → cmH → Prop} (x1 : Int32) (y2 : Int64) (x4 : Int32) (x5 : Int32) (u6 : Option Value) (u7 : Option Value) (sy0 : Int64) (H : (((¬ x4 = (42 : Int32)) → cm_cj' sc d 33 [.long y2, .long sy0] h (fun r h' => cm_wp sc (d + 1) 47 74 [some (.ref 9), some (.int x1), some (.long y2), none, some (.int x4), some (.int x5), some (.long sy0), none] [.long r] h' Q)) ∧ (¬ (¬ x4 = (42 : Int32)) → cm_wp sc (d + 1) 47 74 [some (.ref 9), some (.int x1), some (.long y2), none, some (.int x4), some (.int x5), some (.long sy0), none] [.long (y2 * sy0)] h Q))) : cm_wp sc (d + 1) 47 52 [some (.ref 9), some (.int x1), some (.long y2), none, some (.int x4), some (.int x5), u6, u7] [.long sy0] h Q :=
  wl_st (ls' := [some (.ref 9), some (.int x1), some (.long y2), none, some (.int x4), some (.int x5), some (.long sy0), none]) d47_52 rfl rfl rfl rfl (wl_st d47_54 rfl rfl rfl rfl (wl_bi (v := 42) d47_56 rfl (wl_cb (b := ¬ x4 = (42 : Int32)) (off := 10) (tgt := 68) (pc3 := 61) (st' := []) d47_58 rfl rfl rfl rfl (by decide) rfl (fun c1 => wl_st d47_68 rfl rfl rfl rfl (wl_st d47_69 rfl rfl rfl rfl (wl_cj d47_71 rfl rfl rfl pm6_110 (by decide) (ca_s (Or.inr rfl) rfl (Nat.le_of_ble_eq_true rfl) (Nat.le_of_ble_eq_true rfl)) (H.1 c1)))) (fun c1 => wl_st d47_61 rfl rfl rfl rfl (wl_st d47_62 rfl rfl rfl rfl (wl_st d47_64 rfl rfl rfl rfl (wl_go (tgt := 74) d47_65 (by decide) ((H.2 c1)))))))))
theorem s47_74 {sc : cmS} {d : Nat} {h : cmH} {Q : Option Value → cmH → Prop} (x1 : Int32) (y2 : Int64) (x4 : Int32) (x5 : Int32) (y6 : Int64) (sy0 : Int64) (H : cm_cj' sc d 50 [.long sy0] h (fun r h' => cm_wp sc (d + 1) 47 77 [some (.ref 9), some (.int x1), some (.long y2), none, some (.int x4), some (.int x5), some (.long y6), none] [.long r] h' Q)) : cm_wp sc (d + 1) 47 74 [some (.ref 9), some (.int x1), some (.long y2), none, some (.int x4), some (.int x5), some (.long y6), none] [.long sy0] h Q :=
  wl_cj d47_74 rfl rfl rfl pm6_103 (by decide) (ca_s (Or.inl rfl) rfl (Nat.le_of_ble_eq_true rfl) (Nat.le_of_ble_eq_true rfl)) H
theorem s47_77 {sc : cmS} {d : Nat} {h : cmH} {Q : Option Value → cmH → Prop} (L : LY h) (x1 : Int32) (y2 : Int64) (x4 : Int32) (x5 : Int32) (y6 : Int64) (sy0 : Int64) (H : cm_ci sc d 42 [.ref 9] h (fun r h' => cm_wp sc (d + 1) 47 82 [some (.ref 9), some (.int x1), some (.long sy0), none, some (.int x4), some (.int x5), some (.long y6), none] [.int r] h' Q)) : cm_wp sc (d + 1) 47 77 [some (.ref 9), some (.int x1), some (.long y2), none, some (.int x4), some (.int x5), some (.long y6), none] [.long sy0] h Q :=
  wl_st (ls' := [some (.ref 9), some (.int x1), some (.long sy0), none, some (.int x4), some (.int x5), some (.long y6), none]) d47_77 rfl rfl rfl rfl (wl_st d47_78 rfl rfl rfl rfl (wl_ci d47_79 rfl rfl rfl pm6_62 (by decide) (ca_v (Or.inl rfl) rfl (Nat.le_of_ble_eq_true rfl) (Nat.le_of_ble_eq_true rfl) (ly_k L 9 rfl).2 (ly_k L 9 rfl).1 (by decide)) H))
theorem s47_82 {sc : cmS} {d : Nat} {h : cmH} {Q : Option Value → cmH → Prop} (x1 : Int32) (y2 : Int64) (x4 : Int32) (x5 : Int32) (y6 : Int64) (sx0 : Int32) (H : cm_wp sc d 47 15 [some (.ref 9), some (.int x1), some (.long y2), none, some (.int sx0), some (.int (x5 + 1)), some (.long y6), none] [] h Q) : cm_wp sc d 47 82 [some (.ref 9), some (.int x1), some (.long y2), none, some (.int x4), some (.int x5), some (.long y6), none] [.int sx0] h Q :=
  wl_st (ls' := [some (.ref 9), some (.int x1), some (.long y2), none, some (.int sx0), some (.int x5), some (.long y6), none]) d47_82 rfl rfl rfl rfl (wl_st (ls' := [some (.ref 9), some (.int x1), some (.long y2), none, some (.int sx0), some (.int (x5 + 1)), some (.long y6), none]) d47_84 rfl rfl rfl rfl (wl_go (tgt := 15) d47_87 (by decide) (H)))
-- ClogHouse$Reader.atom(I)J
theorem d48_0 : decode (cm_M 48).2.2.1 0 = .ok (.aload_n 0, 1) := by decide +kernel
theorem d48_1 : decode (cm_M 48).2.2.1 1 = .ok (.invokevirtual 62, 3) := by decide +kernel
theorem d48_4 : decode (cm_M 48).2.2.1 4 = .ok (.istore_n 2, 1) := by decide +kernel
theorem d48_5 : decode (cm_M 48).2.2.1 5 = .ok (.iload_n 2, 1) := by decide +kernel
theorem d48_6 : decode (cm_M 48).2.2.1 6 = .ok (.bipush 48, 2) := by decide +kernel
theorem d48_8 : decode (cm_M 48).2.2.1 8 = .ok (.if_icmp .lt 14, 3) := by decide +kernel
theorem d48_11 : decode (cm_M 48).2.2.1 11 = .ok (.iload_n 2, 1) := by decide +kernel
theorem d48_12 : decode (cm_M 48).2.2.1 12 = .ok (.bipush 57, 2) := by decide +kernel
theorem d48_14 : decode (cm_M 48).2.2.1 14 = .ok (.if_icmp .gt 8, 3) := by decide +kernel
theorem d48_17 : decode (cm_M 48).2.2.1 17 = .ok (.aload_n 0, 1) := by decide +kernel
theorem d48_18 : decode (cm_M 48).2.2.1 18 = .ok (.invokevirtual 114, 3) := by decide +kernel
theorem d48_21 : decode (cm_M 48).2.2.1 21 = .ok (.lreturn, 1) := by decide +kernel
theorem d48_22 : decode (cm_M 48).2.2.1 22 = .ok (.ldc 118, 2) := by decide +kernel
theorem d48_24 : decode (cm_M 48).2.2.1 24 = .ok (.iload_n 2, 1) := by decide +kernel
theorem d48_25 : decode (cm_M 48).2.2.1 25 = .ok (.invokevirtual 71, 3) := by decide +kernel
theorem d48_28 : decode (cm_M 48).2.2.1 28 = .ok (.istore_n 3, 1) := by decide +kernel
theorem d48_29 : decode (cm_M 48).2.2.1 29 = .ok (.iload_n 3, 1) := by decide +kernel
theorem d48_30 : decode (cm_M 48).2.2.1 30 = .ok (.ifCond .lt 30, 3) := by decide +kernel
theorem d48_33 : decode (cm_M 48).2.2.1 33 = .ok (.iload_n 3, 1) := by decide +kernel
theorem d48_34 : decode (cm_M 48).2.2.1 34 = .ok (.aload_n 0, 1) := by decide +kernel
theorem d48_35 : decode (cm_M 48).2.2.1 35 = .ok (.getfield 9, 3) := by decide +kernel
theorem d48_38 : decode (cm_M 48).2.2.1 38 = .ok (.arraylength, 1) := by decide +kernel
theorem d48_39 : decode (cm_M 48).2.2.1 39 = .ok (.if_icmp .ge 21, 3) := by decide +kernel
theorem d48_42 : decode (cm_M 48).2.2.1 42 = .ok (.aload_n 0, 1) := by decide +kernel
theorem d48_43 : decode (cm_M 48).2.2.1 43 = .ok (.dup, 1) := by decide +kernel
theorem d48_44 : decode (cm_M 48).2.2.1 44 = .ok (.getfield 59, 3) := by decide +kernel
theorem d48_47 : decode (cm_M 48).2.2.1 47 = .ok (.iconst 1, 1) := by decide +kernel
theorem d48_48 : decode (cm_M 48).2.2.1 48 = .ok (.iadd, 1) := by decide +kernel
theorem d48_49 : decode (cm_M 48).2.2.1 49 = .ok (.putfield 59, 3) := by decide +kernel
theorem d48_52 : decode (cm_M 48).2.2.1 52 = .ok (.aload_n 0, 1) := by decide +kernel
theorem d48_53 : decode (cm_M 48).2.2.1 53 = .ok (.getfield 9, 3) := by decide +kernel
theorem d48_56 : decode (cm_M 48).2.2.1 56 = .ok (.iload_n 3, 1) := by decide +kernel
theorem d48_57 : decode (cm_M 48).2.2.1 57 = .ok (.iaload, 1) := by decide +kernel
theorem d48_58 : decode (cm_M 48).2.2.1 58 = .ok (.i2l, 1) := by decide +kernel
theorem d48_59 : decode (cm_M 48).2.2.1 59 = .ok (.lreturn, 1) := by decide +kernel
theorem d48_60 : decode (cm_M 48).2.2.1 60 = .ok (.iload_n 2, 1) := by decide +kernel
theorem d48_61 : decode (cm_M 48).2.2.1 61 = .ok (.bipush 91, 2) := by decide +kernel
theorem d48_63 : decode (cm_M 48).2.2.1 63 = .ok (.if_icmp .ne 9, 3) := by decide +kernel
theorem d48_66 : decode (cm_M 48).2.2.1 66 = .ok (.iload_n 1, 1) := by decide +kernel
theorem d48_67 : decode (cm_M 48).2.2.1 67 = .ok (.bipush 6, 2) := by decide +kernel
theorem d48_69 : decode (cm_M 48).2.2.1 69 = .ok (.if_icmp .lt 9, 3) := by decide +kernel
theorem d48_72 : decode (cm_M 48).2.2.1 72 = .ok (.aload_n 0, 1) := by decide +kernel
theorem d48_73 : decode (cm_M 48).2.2.1 73 = .ok (.invokevirtual 66, 3) := by decide +kernel
theorem d48_76 : decode (cm_M 48).2.2.1 76 = .ok (.lconst 0, 1) := by decide +kernel
theorem d48_77 : decode (cm_M 48).2.2.1 77 = .ok (.lreturn, 1) := by decide +kernel
theorem d48_78 : decode (cm_M 48).2.2.1 78 = .ok (.aload_n 0, 1) := by decide +kernel
theorem d48_79 : decode (cm_M 48).2.2.1 79 = .ok (.dup, 1) := by decide +kernel
theorem d48_80 : decode (cm_M 48).2.2.1 80 = .ok (.getfield 59, 3) := by decide +kernel
theorem d48_83 : decode (cm_M 48).2.2.1 83 = .ok (.iconst 1, 1) := by decide +kernel
theorem d48_84 : decode (cm_M 48).2.2.1 84 = .ok (.iadd, 1) := by decide +kernel
theorem d48_85 : decode (cm_M 48).2.2.1 85 = .ok (.putfield 59, 3) := by decide +kernel
theorem d48_88 : decode (cm_M 48).2.2.1 88 = .ok (.aload_n 0, 1) := by decide +kernel
theorem d48_89 : decode (cm_M 48).2.2.1 89 = .ok (.iload_n 1, 1) := by decide +kernel
theorem d48_90 : decode (cm_M 48).2.2.1 90 = .ok (.iconst 1, 1) := by decide +kernel
theorem d48_91 : decode (cm_M 48).2.2.1 91 = .ok (.iadd, 1) := by decide +kernel
theorem d48_92 : decode (cm_M 48).2.2.1 92 = .ok (.invokevirtual 89, 3) := by decide +kernel
theorem d48_95 : decode (cm_M 48).2.2.1 95 = .ok (.lstore 4, 2) := by decide +kernel
theorem d48_97 : decode (cm_M 48).2.2.1 97 = .ok (.aload_n 0, 1) := by decide +kernel
theorem d48_98 : decode (cm_M 48).2.2.1 98 = .ok (.bipush 93, 2) := by decide +kernel
theorem d48_100 : decode (cm_M 48).2.2.1 100 = .ok (.invokevirtual 77, 3) := by decide +kernel
theorem d48_103 : decode (cm_M 48).2.2.1 103 = .ok (.lload 4, 2) := by decide +kernel
theorem d48_105 : decode (cm_M 48).2.2.1 105 = .ok (.lreturn, 1) := by decide +kernel
theorem s48_0 {sc : cmS} {d : Nat} {h : cmH} {Q : Option Value → cmH → Prop} (L : LY h) (x1 : Int32) (u2 : Option Value) (u3 : Option Value) (u4 : Option Value) (u5 : Option Value) (H : cm_ci sc d 42 [.ref 9] h (fun r h' => cm_wp sc (d + 1) 48 4 [some (.ref 9), some (.int x1), u2, u3, u4, u5] [.int r] h' Q)) : cm_wp sc (d + 1) 48 0 [some (.ref 9), some (.int x1), u2, u3, u4, u5] [] h Q :=
  wl_st d48_0 rfl rfl rfl rfl (wl_ci d48_1 rfl rfl rfl pm6_62 (by decide) (ca_v (Or.inl rfl) rfl (Nat.le_of_ble_eq_true rfl) (Nat.le_of_ble_eq_true rfl) (ly_k L 9 rfl).2 (ly_k L 9 rfl).1 (by decide)) H)
theorem s48_4 {sc : cmS} {d : Nat} {h : cmH} {Q : Option Value → cmH → Prop} (L : LY h) (x1 : Int32) (u2 : Option Value) (u3 : Option Value) (u4 : Option Value) (u5 : Option Value) (sx0 : Int32) (H : (((sx0 < (48 : Int32)) → cm_wp sc (d + 1) 48 22 [some (.ref 9), some (.int x1), some (.int sx0), u3, u4, u5] [] h Q) ∧ (¬ (sx0 < (48 : Int32)) → ((((57 : Int32) < sx0) → cm_wp sc (d + 1) 48 22 [some (.ref 9), some (.int x1), some (.int sx0), u3, u4, u5] [] h Q) ∧ (¬ ((57 : Int32) < sx0) → cm_cj' sc d 49 [.ref 9] h (fun r h' => cm_wp sc (d + 1) 48 21 [some (.ref 9), some (.int x1), some (.int sx0), u3, u4, u5] [.long r] h' Q)))))) : cm_wp sc (d + 1) 48 4 [some (.ref 9), some (.int x1), u2, u3, u4, u5] [.int sx0] h Q :=
  wl_st (ls' := [some (.ref 9), some (.int x1), some (.int sx0), u3, u4, u5]) d48_4 rfl rfl rfl rfl (wl_st d48_5 rfl rfl rfl rfl (wl_bi (v := 48) d48_6 rfl (wl_cb (b := sx0 < (48 : Int32)) (off := 14) (tgt := 22) (pc3 := 11) (st' := []) d48_8 rfl rfl rfl rfl (by decide) rfl (fun c1 => (H.1 c1)) (fun c1 => wl_st d48_11 rfl rfl rfl rfl (wl_bi (v := 57) d48_12 rfl (wl_cb (b := (57 : Int32) < sx0) (off := 8) (tgt := 22) (pc3 := 17) (st' := []) d48_14 rfl rfl rfl rfl (by decide) rfl (fun c2 => ((H.2 c1).1 c2)) (fun c2 => wl_st d48_17 rfl rfl rfl rfl (wl_cj d48_18 rfl rfl rfl pm6_114 (by decide) (ca_v (Or.inl rfl) rfl (Nat.le_of_ble_eq_true rfl) (Nat.le_of_ble_eq_true rfl) (ly_k L 9 rfl).2 (ly_k L 9 rfl).1 (by decide)) ((H.2 c1).2 c2)))))))))
theorem s48_21 {sc : cmS} {d : Nat} {h : cmH} {Q : Option Value → cmH → Prop} (x1 : Int32) (x2 : Int32) (u3 : Option Value) (u4 : Option Value) (u5 : Option Value) (sy0 : Int64) (H : Q (some (.long sy0)) h) : cm_wp sc d 48 21 [some (.ref 9), some (.int x1), some (.int x2), u3, u4, u5] [.long sy0] h Q :=
  wl_rt d48_21 rfl rfl rfl H
theorem s48_22 {sc : cmS} {d : Nat} {h : cmH} {Q : Option Value → cmH → Prop} (L : LY h) (x1 : Int32) (x2 : Int32) (u3 : Option Value) (u4 : Option Value) (u5 : Option Value) (H : (8 ≤ d) ∧ ((((cm_ix 2 x2) < 0) → cm_wp sc (d + 1) 48 60 [some (.ref 9), some (.int x1), some (.int x2), some (.int (cm_ix 2 x2)), u4, u5] [] h Q) ∧ (¬ ((cm_ix 2 x2) < 0) → ((((6 : Int32) ≤ (cm_ix 2 x2)) → cm_wp sc (d + 1) 48 60 [some (.ref 9), some (.int x1), some (.int x2), some (.int (cm_ix 2 x2)), u4, u5] [] h Q) ∧ (¬ ((6 : Int32) ≤ (cm_ix 2 x2)) → (IX 6 (cm_ix 2 x2)) ∧ Q (some (.long ((cm_I h 10 (cm_ix 2 x2).toNatClampNeg).toInt64))) (cm_setI h 9 3 ((cm_I h 9 3) + (1 : Int32)))))))) : cm_wp sc (d + 1) 48 22 [some (.ref 9), some (.int x1), some (.int x2), u3, u4, u5] [] h Q :=
  wl_cS (j := 2) d48_22 rfl rfl (wl_st d48_24 rfl rfl rfl rfl (And.elim (fun g1 g1k => wl_pr (st' := [.int (cm_ix 2 x2)]) d48_25 rfl rfl rfl pm6_71 (by decide) (gk12 g1) rfl (wl_st (ls' := [some (.ref 9), some (.int x1), some (.int x2), some (.int (cm_ix 2 x2)), u4, u5]) d48_28 rfl rfl rfl rfl (wl_st d48_29 rfl rfl rfl rfl (wl_cb (b := (cm_ix 2 x2) < 0) (off := 30) (tgt := 60) (pc3 := 33) (st' := []) d48_30 rfl rfl rfl rfl (by decide) rfl (fun c2 => (g1k.1 c2)) (fun c2 => wl_st d48_33 rfl rfl rfl rfl (wl_st d48_34 rfl rfl rfl rfl (wl_gr (b := 10) d48_35 pf6_9 (ly_k L 9 rfl) rfl (ly_r L 9 0 rfl) (wl_aln (v := 6) d48_38 (ly_la L 10 rfl) rfl (wl_cb (b := (6 : Int32) ≤ (cm_ix 2 x2)) (off := 21) (tgt := 60) (pc3 := 42) (st' := []) d48_39 rfl rfl rfl rfl (by decide) rfl (fun c3 => ((g1k.2 c2).1 c3)) (fun c3 => wl_st d48_42 rfl rfl rfl rfl (wl_st d48_43 rfl rfl rfl rfl (wl_gf (v := .int (cm_I h 9 3)) d48_44 pf6_59 (ly_k L 9 rfl) rfl (wl_ic (v := 1) d48_47 rfl (wl_st d48_48 rfl rfl rfl rfl (wl_pf (h' := (cm_setI h 9 3 ((cm_I h 9 3) + (1 : Int32)))) d48_49 pf6_59 (ly_k L 9 rfl) (Or.inl rfl) rfl (wl_st d48_52 rfl rfl rfl rfl (wl_gr (b := 10) d48_53 pf6_9 (ly_k L 9 rfl) rfl (ly_r L 9 0 rfl) (wl_st d48_56 rfl rfl rfl rfl (And.elim (fun g4 g4k => wl_if (g := cm_ok (cm_setI h 9 3 ((cm_I h 9 3) + (1 : Int32))) 13 10 (cm_ix 2 x2)) (st' := [.int (cm_I h 10 (cm_ix 2 x2).toNatClampNeg)]) d48_57 rfl rfl rfl rfl (ly_o L 10 rfl g4) (wl_st d48_58 rfl rfl rfl rfl (wl_rt d48_59 rfl rfl rfl g4k))) ((g1k.2 c2).2 c3)))))))))))))))))))) H))
theorem s48_60 {sc : cmS} {d : Nat} {h : cmH} {Q : Option Value → cmH → Prop} (L : LY h) (x1 : Int32) (x2 : Int32) (x3 : Int32) (u4 : Option Value) (u5 : Option Value) (H : (((¬ x2 = (91 : Int32)) → cm_wp sc (d + 1) 48 72 [some (.ref 9), some (.int x1), some (.int x2), some (.int x3), u4, u5] [] h Q) ∧ (¬ (¬ x2 = (91 : Int32)) → (((x1 < (6 : Int32)) → cm_cj' sc d 46 [.ref 9, .int (x1 + (1 : Int32))] (cm_setI h 9 3 ((cm_I h 9 3) + (1 : Int32))) (fun r h' => cm_wp sc (d + 1) 48 95 [some (.ref 9), some (.int x1), some (.int x2), some (.int x3), u4, u5] [.long r] h' Q)) ∧ (¬ (x1 < (6 : Int32)) → cm_wp sc (d + 1) 48 72 [some (.ref 9), some (.int x1), some (.int x2), some (.int x3), u4, u5] [] h Q))))) : cm_wp sc (d + 1) 48 60 [some (.ref 9), some (.int x1), some (.int x2), some (.int x3), u4, u5] [] h Q :=
  wl_st d48_60 rfl rfl rfl rfl (wl_bi (v := 91) d48_61 rfl (wl_cb (b := ¬ x2 = (91 : Int32)) (off := 9) (tgt := 72) (pc3 := 66) (st' := []) d48_63 rfl rfl rfl rfl (by decide) rfl (fun c1 => (H.1 c1)) (fun c1 => wl_st d48_66 rfl rfl rfl rfl (wl_bi (v := 6) d48_67 rfl (wl_cb (b := x1 < (6 : Int32)) (off := 9) (tgt := 78) (pc3 := 72) (st' := []) d48_69 rfl rfl rfl rfl (by decide) rfl (fun c2 => wl_st d48_78 rfl rfl rfl rfl (wl_st d48_79 rfl rfl rfl rfl (wl_gf (v := .int (cm_I h 9 3)) d48_80 pf6_59 (ly_k L 9 rfl) rfl (wl_ic (v := 1) d48_83 rfl (wl_st d48_84 rfl rfl rfl rfl (wl_pf (h' := (cm_setI h 9 3 ((cm_I h 9 3) + (1 : Int32)))) d48_85 pf6_59 (ly_k L 9 rfl) (Or.inl rfl) rfl (wl_st d48_88 rfl rfl rfl rfl (wl_st d48_89 rfl rfl rfl rfl (wl_ic (v := 1) d48_90 rfl (wl_st d48_91 rfl rfl rfl rfl (wl_cj d48_92 rfl rfl rfl pm6_89 (by decide) (ca_v (Or.inl rfl) rfl (Nat.le_of_ble_eq_true rfl) (Nat.le_of_ble_eq_true rfl) (ly_k L 9 rfl).2 (ly_k L 9 rfl).1 (by decide)) ((H.2 c1).1 c2)))))))))))) (fun c2 => ((H.2 c1).2 c2)))))))
theorem s48_72 {sc : cmS} {d : Nat} {h : cmH} {Q : Option Value → cmH → Prop} (L : LY h) (x1 : Int32) (x2 : Int32) (x3 : Int32) (u4 : Option Value) (u5 : Option Value) (H : cm_cv sc d 43 [.ref 9] h (fun h' => cm_wp sc (d + 1) 48 76 [some (.ref 9), some (.int x1), some (.int x2), some (.int x3), u4, u5] [] h' Q)) : cm_wp sc (d + 1) 48 72 [some (.ref 9), some (.int x1), some (.int x2), some (.int x3), u4, u5] [] h Q :=
  wl_st d48_72 rfl rfl rfl rfl (wl_cv d48_73 rfl rfl rfl pm6_66 (by decide) (ca_v (Or.inl rfl) rfl (Nat.le_of_ble_eq_true rfl) (Nat.le_of_ble_eq_true rfl) (ly_k L 9 rfl).2 (ly_k L 9 rfl).1 (by decide)) H)
theorem s48_76 {sc : cmS} {d : Nat} {h : cmH} {Q : Option Value → cmH → Prop} (x1 : Int32) (x2 : Int32) (x3 : Int32) (u4 : Option Value) (u5 : Option Value) (H : Q (some (.long (0 : Int64))) h) : cm_wp sc d 48 76 [some (.ref 9), some (.int x1), some (.int x2), some (.int x3), u4, u5] [] h Q :=
  wl_lc (v := 0) d48_76 rfl (wl_rt d48_77 rfl rfl rfl H)
theorem s48_95 {sc : cmS} {d : Nat} {h : cmH} {Q : Option Value → cmH → Prop} (L : LY h) (x1 : Int32) (x2 : Int32) (x3 : Int32) (u4 : Option Value) (u5 : Option Value) (sy0 : Int64) (H : cm_cv sc d 44 [.ref 9, .int (93 : Int32)] h (fun h' => cm_wp sc (d + 1) 48 103 [some (.ref 9), some (.int x1), some (.int x2), some (.int x3), some (.long sy0), none] [] h' Q)) : cm_wp sc (d + 1) 48 95 [some (.ref 9), some (.int x1), some (.int x2), some (.int x3), u4, u5] [.long sy0] h Q :=
  wl_st (ls' := [some (.ref 9), some (.int x1), some (.int x2), some (.int x3), some (.long sy0), none]) d48_95 rfl rfl rfl rfl (wl_st d48_97 rfl rfl rfl rfl (wl_bi (v := 93) d48_98 rfl (wl_cv d48_100 rfl rfl rfl pm6_77 (by decide) (ca_v (Or.inl rfl) rfl (Nat.le_of_ble_eq_true rfl) (Nat.le_of_ble_eq_true rfl) (ly_k L 9 rfl).2 (ly_k L 9 rfl).1 (by decide)) H)))
theorem s48_103 {sc : cmS} {d : Nat} {h : cmH} {Q : Option Value → cmH → Prop} (x1 : Int32) (x2 : Int32) (x3 : Int32) (y4 : Int64) (H : Q (some (.long y4)) h) : cm_wp sc d 48 103 [some (.ref 9), some (.int x1), some (.int x2), some (.int x3), some (.long y4), none] [] h Q :=
  wl_st d48_103 rfl rfl rfl rfl (wl_rt d48_105 rfl rfl rfl H)
-- ClogHouse$Reader.number()J
theorem d49_0 : decode (cm_M 49).2.2.1 0 = .ok (.lconst 0, 1) := by decide +kernel
theorem d49_1 : decode (cm_M 49).2.2.1 1 = .ok (.lstore_n 1, 1) := by decide +kernel
theorem d49_2 : decode (cm_M 49).2.2.1 2 = .ok (.iconst 0, 1) := by decide +kernel
theorem d49_3 : decode (cm_M 49).2.2.1 3 = .ok (.istore_n 3, 1) := by decide +kernel
theorem d49_4 : decode (cm_M 49).2.2.1 4 = .ok (.aload_n 0, 1) := by decide +kernel
theorem d49_5 : decode (cm_M 49).2.2.1 5 = .ok (.getfield 59, 3) := by decide +kernel
theorem d49_8 : decode (cm_M 49).2.2.1 8 = .ok (.ifCond .lt 93, 3) := by decide +kernel
theorem d49_11 : decode (cm_M 49).2.2.1 11 = .ok (.aload_n 0, 1) := by decide +kernel
theorem d49_12 : decode (cm_M 49).2.2.1 12 = .ok (.getfield 59, 3) := by decide +kernel
theorem d49_15 : decode (cm_M 49).2.2.1 15 = .ok (.aload_n 0, 1) := by decide +kernel
theorem d49_16 : decode (cm_M 49).2.2.1 16 = .ok (.getfield 58, 3) := by decide +kernel
theorem d49_19 : decode (cm_M 49).2.2.1 19 = .ok (.if_icmp .ge 82, 3) := by decide +kernel
theorem d49_22 : decode (cm_M 49).2.2.1 22 = .ok (.aload_n 0, 1) := by decide +kernel
theorem d49_23 : decode (cm_M 49).2.2.1 23 = .ok (.getfield 59, 3) := by decide +kernel
theorem d49_26 : decode (cm_M 49).2.2.1 26 = .ok (.aload_n 0, 1) := by decide +kernel
theorem d49_27 : decode (cm_M 49).2.2.1 27 = .ok (.getfield 15, 3) := by decide +kernel
theorem d49_30 : decode (cm_M 49).2.2.1 30 = .ok (.arraylength, 1) := by decide +kernel
theorem d49_31 : decode (cm_M 49).2.2.1 31 = .ok (.if_icmp .ge 70, 3) := by decide +kernel
theorem d49_34 : decode (cm_M 49).2.2.1 34 = .ok (.aload_n 0, 1) := by decide +kernel
theorem d49_35 : decode (cm_M 49).2.2.1 35 = .ok (.getfield 15, 3) := by decide +kernel
theorem d49_38 : decode (cm_M 49).2.2.1 38 = .ok (.aload_n 0, 1) := by decide +kernel
theorem d49_39 : decode (cm_M 49).2.2.1 39 = .ok (.getfield 59, 3) := by decide +kernel
theorem d49_42 : decode (cm_M 49).2.2.1 42 = .ok (.caload, 1) := by decide +kernel
theorem d49_43 : decode (cm_M 49).2.2.1 43 = .ok (.istore 4, 2) := by decide +kernel
theorem d49_45 : decode (cm_M 49).2.2.1 45 = .ok (.iload 4, 2) := by decide +kernel
theorem d49_47 : decode (cm_M 49).2.2.1 47 = .ok (.bipush 48, 2) := by decide +kernel
theorem d49_49 : decode (cm_M 49).2.2.1 49 = .ok (.if_icmp .lt 10, 3) := by decide +kernel
theorem d49_52 : decode (cm_M 49).2.2.1 52 = .ok (.iload 4, 2) := by decide +kernel
theorem d49_54 : decode (cm_M 49).2.2.1 54 = .ok (.bipush 57, 2) := by decide +kernel
theorem d49_56 : decode (cm_M 49).2.2.1 56 = .ok (.if_icmp .le 5, 3) := by decide +kernel
theorem d49_59 : decode (cm_M 49).2.2.1 59 = .ok (.lload_n 1, 1) := by decide +kernel
theorem d49_60 : decode (cm_M 49).2.2.1 60 = .ok (.lreturn, 1) := by decide +kernel
theorem d49_61 : decode (cm_M 49).2.2.1 61 = .ok (.iload_n 3, 1) := by decide +kernel
theorem d49_62 : decode (cm_M 49).2.2.1 62 = .ok (.iconst 4, 1) := by decide +kernel
theorem d49_63 : decode (cm_M 49).2.2.1 63 = .ok (.if_icmp .lt 9, 3) := by decide +kernel
theorem d49_66 : decode (cm_M 49).2.2.1 66 = .ok (.aload_n 0, 1) := by decide +kernel
theorem d49_67 : decode (cm_M 49).2.2.1 67 = .ok (.invokevirtual 66, 3) := by decide +kernel
theorem d49_70 : decode (cm_M 49).2.2.1 70 = .ok (.lload_n 1, 1) := by decide +kernel
theorem d49_71 : decode (cm_M 49).2.2.1 71 = .ok (.lreturn, 1) := by decide +kernel
theorem d49_72 : decode (cm_M 49).2.2.1 72 = .ok (.ldc2_w 120, 3) := by decide +kernel
theorem d49_75 : decode (cm_M 49).2.2.1 75 = .ok (.lload_n 1, 1) := by decide +kernel
theorem d49_76 : decode (cm_M 49).2.2.1 76 = .ok (.lmul, 1) := by decide +kernel
theorem d49_77 : decode (cm_M 49).2.2.1 77 = .ok (.iload 4, 2) := by decide +kernel
theorem d49_79 : decode (cm_M 49).2.2.1 79 = .ok (.bipush 48, 2) := by decide +kernel
theorem d49_81 : decode (cm_M 49).2.2.1 81 = .ok (.isub, 1) := by decide +kernel
theorem d49_82 : decode (cm_M 49).2.2.1 82 = .ok (.i2l, 1) := by decide +kernel
theorem d49_83 : decode (cm_M 49).2.2.1 83 = .ok (.ladd, 1) := by decide +kernel
theorem d49_84 : decode (cm_M 49).2.2.1 84 = .ok (.lstore_n 1, 1) := by decide +kernel
theorem d49_85 : decode (cm_M 49).2.2.1 85 = .ok (.aload_n 0, 1) := by decide +kernel
theorem d49_86 : decode (cm_M 49).2.2.1 86 = .ok (.dup, 1) := by decide +kernel
theorem d49_87 : decode (cm_M 49).2.2.1 87 = .ok (.getfield 59, 3) := by decide +kernel
theorem d49_90 : decode (cm_M 49).2.2.1 90 = .ok (.iconst 1, 1) := by decide +kernel
theorem d49_91 : decode (cm_M 49).2.2.1 91 = .ok (.iadd, 1) := by decide +kernel
theorem d49_92 : decode (cm_M 49).2.2.1 92 = .ok (.putfield 59, 3) := by decide +kernel
theorem d49_95 : decode (cm_M 49).2.2.1 95 = .ok (.iinc 3 1, 3) := by decide +kernel
theorem d49_98 : decode (cm_M 49).2.2.1 98 = .ok (.goto (-94), 3) := by decide +kernel
theorem d49_101 : decode (cm_M 49).2.2.1 101 = .ok (.lload_n 1, 1) := by decide +kernel
theorem d49_102 : decode (cm_M 49).2.2.1 102 = .ok (.lreturn, 1) := by decide +kernel
theorem s49_0 {sc : cmS} {d : Nat} {h : cmH} {Q : Option Value → cmH → Prop} (u1 : Option Value) (u2 : Option Value) (u3 : Option Value) (u4 : Option Value) (H : cm_wp sc d 49 4 [some (.ref 9), some (.long (0 : Int64)), none, some (.int (0 : Int32)), u4] [] h Q) : cm_wp sc d 49 0 [some (.ref 9), u1, u2, u3, u4] [] h Q :=
  wl_lc (v := 0) d49_0 rfl (wl_st (ls' := [some (.ref 9), some (.long (0 : Int64)), none, u3, u4]) d49_1 rfl rfl rfl rfl (wl_ic (v := 0) d49_2 rfl (wl_st (ls' := [some (.ref 9), some (.long (0 : Int64)), none, some (.int (0 : Int32)), u4]) d49_3 rfl rfl rfl rfl (H))))
theorem s49_4 {sc : cmS} {d : Nat} {h : cmH} {Q : Option Value → cmH → Prop} (L : LY h) (y1 : Int64) (x3 : Int32) (u4 : Option Value) (H : ((((cm_I h 9 3) < 0) → Q (some (.long y1)) h) ∧ (¬ ((cm_I h 9 3) < 0) → ((((cm_I h 9 2) ≤ (cm_I h 9 3)) → Q (some (.long y1)) h) ∧ (¬ ((cm_I h 9 2) ≤ (cm_I h 9 3)) → ∃ b3, cm_R h 9 1 = some b3 ∧ (12 ≤ cm_kd h b3 ∧ cm_kd h b3 ≤ 18 ∧ b3 < cm_n h) ∧ ((((Int32.ofNat (cm_ln h b3)) ≤ (cm_I h 9 3)) → Q (some (.long y1)) h) ∧ (¬ ((Int32.ofNat (cm_ln h b3)) ≤ (cm_I h 9 3)) → (cm_ok h 12 b3 (cm_I h 9 3)) ∧ ((((cm_I h b3 (cm_I h 9 3).toNatClampNeg) < (48 : Int32)) → Q (some (.long y1)) h) ∧ (¬ ((cm_I h b3 (cm_I h 9 3).toNatClampNeg) < (48 : Int32)) → ((((cm_I h b3 (cm_I h 9 3).toNatClampNeg) ≤ (57 : Int32)) → (((x3 < (4 : Int32)) → cm_wp sc (d + 1) 49 4 [some (.ref 9), some (.long (((10 : Int64) * y1) + (((cm_I h b3 (cm_I h 9 3).toNatClampNeg) - (48 : Int32)).toInt64))), none, some (.int (x3 + 1)), some (.int (cm_I h b3 (cm_I h 9 3).toNatClampNeg))] [] (cm_setI h 9 3 ((cm_I h 9 3) + (1 : Int32))) Q) ∧ (¬ (x3 < (4 : Int32)) → cm_cv sc d 43 [.ref 9] h (fun h' => cm_wp sc (d + 1) 49 70 [some (.ref 9), some (.long y1), none, some (.int x3), some (.int (cm_I h b3 (cm_I h 9 3).toNatClampNeg))] [] h' Q)))) ∧ (¬ ((cm_I h b3 (cm_I h 9 3).toNatClampNeg) ≤ (57 : Int32)) → Q (some (.long y1)) h))))))))))) : cm_wp sc (d + 1) 49 4 [some (.ref 9), some (.long y1), none, some (.int x3), u4] [] h Q :=
  wl_st d49_4 rfl rfl rfl rfl (wl_gf (v := .int (cm_I h 9 3)) d49_5 pf6_59 (ly_k L 9 rfl) rfl (wl_cb (b := (cm_I h 9 3) < 0) (off := 93) (tgt := 101) (pc3 := 11) (st' := []) d49_8 rfl rfl rfl rfl (by decide) rfl (fun c1 => wl_st d49_101 rfl rfl rfl rfl (wl_rt d49_102 rfl rfl rfl (H.1 c1))) (fun c1 => wl_st d49_11 rfl rfl rfl rfl (wl_gf (v := .int (cm_I h 9 3)) d49_12 pf6_59 (ly_k L 9 rfl) rfl (wl_st d49_15 rfl rfl rfl rfl (wl_gf (v := .int (cm_I h 9 2)) d49_16 pf6_58 (ly_k L 9 rfl) rfl (wl_cb (b := (cm_I h 9 2) ≤ (cm_I h 9 3)) (off := 82) (tgt := 101) (pc3 := 22) (st' := []) d49_19 rfl rfl rfl rfl (by decide) rfl (fun c2 => wl_st d49_101 rfl rfl rfl rfl (wl_rt d49_102 rfl rfl rfl ((H.2 c1).1 c2))) (fun c2 => wl_st d49_22 rfl rfl rfl rfl (wl_gf (v := .int (cm_I h 9 3)) d49_23 pf6_59 (ly_k L 9 rfl) rfl (wl_st d49_26 rfl rfl rfl rfl (Exists.elim ((H.2 c1).2 c2) fun b3 b3q => And.elim (fun b3e b3k => wl_gr (b := b3) d49_27 pf6_15 (ly_k L 9 rfl) rfl b3e (And.elim (fun g4 g4k => wl_if (st' := [.int (Int32.ofNat (cm_ln h b3)), .int (cm_I h 9 3)]) d49_30 rfl rfl rfl rfl g4 (wl_cb (b := (Int32.ofNat (cm_ln h b3)) ≤ (cm_I h 9 3)) (off := 70) (tgt := 101) (pc3 := 34) (st' := []) d49_31 rfl rfl rfl rfl (by decide) rfl (fun c5 => wl_st d49_101 rfl rfl rfl rfl (wl_rt d49_102 rfl rfl rfl (g4k.1 c5))) (fun c5 => wl_st d49_34 rfl rfl rfl rfl (wl_gr (b := b3) d49_35 pf6_15 (ly_k L 9 rfl) rfl b3e (wl_st d49_38 rfl rfl rfl rfl (wl_gf (v := .int (cm_I h 9 3)) d49_39 pf6_59 (ly_k L 9 rfl) rfl (And.elim (fun g6 g6k => wl_if (g := cm_ok h 12 b3 (cm_I h 9 3)) (st' := [.int (cm_I h b3 (cm_I h 9 3).toNatClampNeg)]) d49_42 rfl rfl rfl rfl g6 (wl_st (ls' := [some (.ref 9), some (.long y1), none, some (.int x3), some (.int (cm_I h b3 (cm_I h 9 3).toNatClampNeg))]) d49_43 rfl rfl rfl rfl (wl_st d49_45 rfl rfl rfl rfl (wl_bi (v := 48) d49_47 rfl (wl_cb (b := (cm_I h b3 (cm_I h 9 3).toNatClampNeg) < (48 : Int32)) (off := 10) (tgt := 59) (pc3 := 52) (st' := []) d49_49 rfl rfl rfl rfl (by decide) rfl (fun c7 => wl_st d49_59 rfl rfl rfl rfl (wl_rt d49_60 rfl rfl rfl (g6k.1 c7))) (fun c7 => wl_st d49_52 rfl rfl rfl rfl (wl_bi (v := 57) d49_54 rfl (wl_cb (b := (cm_I h b3 (cm_I h 9 3).toNatClampNeg) ≤ (57 : Int32)) (off := 5) (tgt := 61) (pc3 := 59) (st' := []) d49_56 rfl rfl rfl rfl (by decide) rfl (fun c8 => wl_st d49_61 rfl rfl rfl rfl (wl_ic (v := 4) d49_62 rfl (wl_cb (b := x3 < (4 : Int32)) (off := 9) (tgt := 72) (pc3 := 66) (st' := []) d49_63 rfl rfl rfl rfl (by decide) rfl (fun c9 => wl_cJ (v := 10) d49_72 pj6_120 (wl_st d49_75 rfl rfl rfl rfl (wl_st d49_76 rfl rfl rfl rfl (wl_st d49_77 rfl rfl rfl rfl (wl_bi (v := 48) d49_79 rfl (wl_st d49_81 rfl rfl rfl rfl (wl_st d49_82 rfl rfl rfl rfl (wl_st d49_83 rfl rfl rfl rfl (wl_st (ls' := [some (.ref 9), some (.long (((10 : Int64) * y1) + (((cm_I h b3 (cm_I h 9 3).toNatClampNeg) - (48 : Int32)).toInt64))), none, some (.int x3), some (.int (cm_I h b3 (cm_I h 9 3).toNatClampNeg))]) d49_84 rfl rfl rfl rfl (wl_st d49_85 rfl rfl rfl rfl (wl_st d49_86 rfl rfl rfl rfl (wl_gf (v := .int (cm_I h 9 3)) d49_87 pf6_59 (ly_k L 9 rfl) rfl (wl_ic (v := 1) d49_90 rfl (wl_st d49_91 rfl rfl rfl rfl (wl_pf (h' := (cm_setI h 9 3 ((cm_I h 9 3) + (1 : Int32)))) d49_92 pf6_59 (ly_k L 9 rfl) (Or.inl rfl) rfl (wl_st (ls' := [some (.ref 9), some (.long (((10 : Int64) * y1) + (((cm_I h b3 (cm_I h 9 3).toNatClampNeg) - (48 : Int32)).toInt64))), none, some (.int (x3 + 1)), some (.int (cm_I h b3 (cm_I h 9 3).toNatClampNeg))]) d49_95 rfl rfl rfl rfl (wl_go (tgt := 4) d49_98 (by decide) ((((g6k.2 c7).1 c8).1 c9))))))))))))))))))) (fun c9 => wl_st d49_66 rfl rfl rfl rfl (wl_cv d49_67 rfl rfl rfl pm6_66 (by decide) (ca_v (Or.inl rfl) rfl (Nat.le_of_ble_eq_true rfl) (Nat.le_of_ble_eq_true rfl) (ly_k L 9 rfl).2 (ly_k L 9 rfl).1 (by decide)) (((g6k.2 c7).1 c8).2 c9)))))) (fun c8 => wl_st d49_59 rfl rfl rfl rfl (wl_rt d49_60 rfl rfl rfl ((g6k.2 c7).2 c8))))))))))) (g4k.2 c5)))))))) b3k)) b3q)))))))))))
theorem s49_70 {sc : cmS} {d : Nat} {h : cmH} {Q : Option Value → cmH → Prop} (y1 : Int64) (x3 : Int32) (x4 : Int32) (H : Q (some (.long y1)) h) : cm_wp sc d 49 70 [some (.ref 9), some (.long y1), none, some (.int x3), some (.int x4)] [] h Q :=
  wl_st d49_70 rfl rfl rfl rfl (wl_rt d49_71 rfl rfl rfl H)
-- ClogHouse$Reader.bounded(J)J
theorem d50_0 : decode (cm_M 50).2.2.1 0 = .ok (.ldc2_w 122, 3) := by decide +kernel
theorem d50_3 : decode (cm_M 50).2.2.1 3 = .ok (.ldc2_w 124, 3) := by decide +kernel
theorem d50_6 : decode (cm_M 50).2.2.1 6 = .ok (.lload_n 0, 1) := by decide +kernel
theorem d50_7 : decode (cm_M 50).2.2.1 7 = .ok (.invokestatic 126, 3) := by decide +kernel
theorem d50_10 : decode (cm_M 50).2.2.1 10 = .ok (.invokestatic 128, 3) := by decide +kernel
theorem d50_13 : decode (cm_M 50).2.2.1 13 = .ok (.lreturn, 1) := by decide +kernel
theorem s50_0 {sc : cmS} {d : Nat} {h : cmH} {Q : Option Value → cmH → Prop} (y0 : Int64) (H : Q (some (.long (if (if y0 < (1000000 : Int64) then y0 else (1000000 : Int64)) < (-1000000 : Int64) then (-1000000 : Int64) else (if y0 < (1000000 : Int64) then y0 else (1000000 : Int64))))) h) : cm_wp sc (d + 1) 50 0 [some (.long y0), none] [] h Q :=
  wl_cJ (v := (-1000000)) d50_0 pj6_122 (wl_cJ (v := 1000000) d50_3 pj6_124 (wl_st d50_6 rfl rfl rfl rfl (wl_pr (st' := [.long (if y0 < (1000000 : Int64) then y0 else (1000000 : Int64)), .long (-1000000 : Int64)]) d50_7 rfl rfl rfl pm6_126 (by decide) rfl rfl (wl_pr (st' := [.long (if (if y0 < (1000000 : Int64) then y0 else (1000000 : Int64)) < (-1000000 : Int64) then (-1000000 : Int64) else (if y0 < (1000000 : Int64) then y0 else (1000000 : Int64)))]) d50_10 rfl rfl rfl pm6_128 (by decide) rfl rfl (wl_rt d50_13 rfl rfl rfl H)))))
-- ClogHouse$Reader.compared(JI)Z
theorem d51_0 : decode (cm_M 51).2.2.1 0 = .ok (.aload_n 0, 1) := by decide +kernel
theorem d51_1 : decode (cm_M 51).2.2.1 1 = .ok (.invokevirtual 62, 3) := by decide +kernel
theorem d51_4 : decode (cm_M 51).2.2.1 4 = .ok (.istore 4, 2) := by decide +kernel
theorem d51_6 : decode (cm_M 51).2.2.1 6 = .ok (.iload 4, 2) := by decide +kernel
theorem d51_8 : decode (cm_M 51).2.2.1 8 = .ok (.bipush 61, 2) := by decide +kernel
theorem d51_10 : decode (cm_M 51).2.2.1 10 = .ok (.if_icmp .eq 23, 3) := by decide +kernel
theorem d51_13 : decode (cm_M 51).2.2.1 13 = .ok (.iload 4, 2) := by decide +kernel
theorem d51_15 : decode (cm_M 51).2.2.1 15 = .ok (.bipush 60, 2) := by decide +kernel
theorem d51_17 : decode (cm_M 51).2.2.1 17 = .ok (.if_icmp .eq 16, 3) := by decide +kernel
theorem d51_20 : decode (cm_M 51).2.2.1 20 = .ok (.iload 4, 2) := by decide +kernel
theorem d51_22 : decode (cm_M 51).2.2.1 22 = .ok (.bipush 62, 2) := by decide +kernel
theorem d51_24 : decode (cm_M 51).2.2.1 24 = .ok (.if_icmp .eq 9, 3) := by decide +kernel
theorem d51_27 : decode (cm_M 51).2.2.1 27 = .ok (.aload_n 0, 1) := by decide +kernel
theorem d51_28 : decode (cm_M 51).2.2.1 28 = .ok (.invokevirtual 66, 3) := by decide +kernel
theorem d51_31 : decode (cm_M 51).2.2.1 31 = .ok (.iconst 0, 1) := by decide +kernel
theorem d51_32 : decode (cm_M 51).2.2.1 32 = .ok (.ireturn, 1) := by decide +kernel
theorem d51_33 : decode (cm_M 51).2.2.1 33 = .ok (.aload_n 0, 1) := by decide +kernel
theorem d51_34 : decode (cm_M 51).2.2.1 34 = .ok (.dup, 1) := by decide +kernel
theorem d51_35 : decode (cm_M 51).2.2.1 35 = .ok (.getfield 59, 3) := by decide +kernel
theorem d51_38 : decode (cm_M 51).2.2.1 38 = .ok (.iconst 1, 1) := by decide +kernel
theorem d51_39 : decode (cm_M 51).2.2.1 39 = .ok (.iadd, 1) := by decide +kernel
theorem d51_40 : decode (cm_M 51).2.2.1 40 = .ok (.putfield 59, 3) := by decide +kernel
theorem d51_43 : decode (cm_M 51).2.2.1 43 = .ok (.aload_n 0, 1) := by decide +kernel
theorem d51_44 : decode (cm_M 51).2.2.1 44 = .ok (.iload_n 3, 1) := by decide +kernel
theorem d51_45 : decode (cm_M 51).2.2.1 45 = .ok (.invokevirtual 89, 3) := by decide +kernel
theorem d51_48 : decode (cm_M 51).2.2.1 48 = .ok (.lstore 5, 2) := by decide +kernel
theorem d51_50 : decode (cm_M 51).2.2.1 50 = .ok (.iload 4, 2) := by decide +kernel
theorem d51_52 : decode (cm_M 51).2.2.1 52 = .ok (.bipush 61, 2) := by decide +kernel
theorem d51_54 : decode (cm_M 51).2.2.1 54 = .ok (.if_icmp .ne 18, 3) := by decide +kernel
theorem d51_57 : decode (cm_M 51).2.2.1 57 = .ok (.lload_n 1, 1) := by decide +kernel
theorem d51_58 : decode (cm_M 51).2.2.1 58 = .ok (.lload 5, 2) := by decide +kernel
theorem d51_60 : decode (cm_M 51).2.2.1 60 = .ok (.lcmp, 1) := by decide +kernel
theorem d51_61 : decode (cm_M 51).2.2.1 61 = .ok (.ifCond .ne 7, 3) := by decide +kernel
theorem d51_64 : decode (cm_M 51).2.2.1 64 = .ok (.iconst 1, 1) := by decide +kernel
theorem d51_65 : decode (cm_M 51).2.2.1 65 = .ok (.goto 41, 3) := by decide +kernel
theorem d51_68 : decode (cm_M 51).2.2.1 68 = .ok (.iconst 0, 1) := by decide +kernel
theorem d51_69 : decode (cm_M 51).2.2.1 69 = .ok (.goto 37, 3) := by decide +kernel
theorem d51_72 : decode (cm_M 51).2.2.1 72 = .ok (.iload 4, 2) := by decide +kernel
theorem d51_74 : decode (cm_M 51).2.2.1 74 = .ok (.bipush 60, 2) := by decide +kernel
theorem d51_76 : decode (cm_M 51).2.2.1 76 = .ok (.if_icmp .ne 18, 3) := by decide +kernel
theorem d51_79 : decode (cm_M 51).2.2.1 79 = .ok (.lload_n 1, 1) := by decide +kernel
theorem d51_80 : decode (cm_M 51).2.2.1 80 = .ok (.lload 5, 2) := by decide +kernel
theorem d51_82 : decode (cm_M 51).2.2.1 82 = .ok (.lcmp, 1) := by decide +kernel
theorem d51_83 : decode (cm_M 51).2.2.1 83 = .ok (.ifCond .ge 7, 3) := by decide +kernel
theorem d51_86 : decode (cm_M 51).2.2.1 86 = .ok (.iconst 1, 1) := by decide +kernel
theorem d51_87 : decode (cm_M 51).2.2.1 87 = .ok (.goto 19, 3) := by decide +kernel
theorem d51_90 : decode (cm_M 51).2.2.1 90 = .ok (.iconst 0, 1) := by decide +kernel
theorem d51_91 : decode (cm_M 51).2.2.1 91 = .ok (.goto 15, 3) := by decide +kernel
theorem d51_94 : decode (cm_M 51).2.2.1 94 = .ok (.lload_n 1, 1) := by decide +kernel
theorem d51_95 : decode (cm_M 51).2.2.1 95 = .ok (.lload 5, 2) := by decide +kernel
theorem d51_97 : decode (cm_M 51).2.2.1 97 = .ok (.lcmp, 1) := by decide +kernel
theorem d51_98 : decode (cm_M 51).2.2.1 98 = .ok (.ifCond .le 7, 3) := by decide +kernel
theorem d51_101 : decode (cm_M 51).2.2.1 101 = .ok (.iconst 1, 1) := by decide +kernel
theorem d51_102 : decode (cm_M 51).2.2.1 102 = .ok (.goto 4, 3) := by decide +kernel
theorem d51_105 : decode (cm_M 51).2.2.1 105 = .ok (.iconst 0, 1) := by decide +kernel
theorem d51_106 : decode (cm_M 51).2.2.1 106 = .ok (.ireturn, 1) := by decide +kernel
theorem s51_0 {sc : cmS} {d : Nat} {h : cmH} {Q : Option Value → cmH → Prop} (L : LY h) (y1 : Int64) (x3 : Int32) (u4 : Option Value) (u5 : Option Value) (u6 : Option Value) (H : cm_ci sc d 42 [.ref 9] h (fun r h' => cm_wp sc (d + 1) 51 4 [some (.ref 9), some (.long y1), none, some (.int x3), u4, u5, u6] [.int r] h' Q)) : cm_wp sc (d + 1) 51 0 [some (.ref 9), some (.long y1), none, some (.int x3), u4, u5, u6] [] h Q :=
  wl_st d51_0 rfl rfl rfl rfl (wl_ci d51_1 rfl rfl rfl pm6_62 (by decide) (ca_v (Or.inl rfl) rfl (Nat.le_of_ble_eq_true rfl) (Nat.le_of_ble_eq_true rfl) (ly_k L 9 rfl).2 (ly_k L 9 rfl).1 (by decide)) H)
theorem s51_4 {sc : cmS} {d : Nat} {h : cmH} {Q : Option Value → cmH → Prop} (L : LY h) (y1 : Int64) (x3 : Int32) (u4 : Option Value) (u5 : Option Value) (u6 : Option Value) (sx0 : Int32) (H : (((sx0 = (61 : Int32)) → cm_wp sc (d + 1) 51 33 [some (.ref 9), some (.long y1), none, some (.int x3), some (.int sx0), u5, u6] [] h Q) ∧ (¬ (sx0 = (61 : Int32)) → (((sx0 = (60 : Int32)) → cm_wp sc (d + 1) 51 33 [some (.ref 9), some (.long y1), none, some (.int x3), some (.int sx0), u5, u6] [] h Q) ∧ (¬ (sx0 = (60 : Int32)) → (((sx0 = (62 : Int32)) → cm_wp sc (d + 1) 51 33 [some (.ref 9), some (.long y1), none, some (.int x3), some (.int sx0), u5, u6] [] h Q) ∧ (¬ (sx0 = (62 : Int32)) → cm_cv sc d 43 [.ref 9] h (fun h' => cm_wp sc (d + 1) 51 31 [some (.ref 9), some (.long y1), none, some (.int x3), some (.int sx0), u5, u6] [] h' Q)))))))) : cm_wp sc (d + 1) 51 4 [some (.ref 9), some (.long y1), none, some (.int x3), u4, u5, u6] [.int sx0] h Q :=
  wl_st (ls' := [some (.ref 9), some (.long y1), none, some (.int x3), some (.int sx0), u5, u6]) d51_4 rfl rfl rfl rfl (wl_st d51_6 rfl rfl rfl rfl (wl_bi (v := 61) d51_8 rfl (wl_cb (b := sx0 = (61 : Int32)) (off := 23) (tgt := 33) (pc3 := 13) (st' := []) d51_10 rfl rfl rfl rfl (by decide) rfl (fun c1 => (H.1 c1)) (fun c1 => wl_st d51_13 rfl rfl rfl rfl (wl_bi (v := 60) d51_15 rfl (wl_cb (b := sx0 = (60 : Int32)) (off := 16) (tgt := 33) (pc3 := 20) (st' := []) d51_17 rfl rfl rfl rfl (by decide) rfl (fun c2 => ((H.2 c1).1 c2)) (fun c2 => wl_st d51_20 rfl rfl rfl rfl (wl_bi (v := 62) d51_22 rfl (wl_cb (b := sx0 = (62 : Int32)) (off := 9) (tgt := 33) (pc3 := 27) (st' := []) d51_24 rfl rfl rfl rfl (by decide) rfl (fun c3 => (((H.2 c1).2 c2).1 c3)) (fun c3 => wl_st d51_27 rfl rfl rfl rfl (wl_cv d51_28 rfl rfl rfl pm6_66 (by decide) (ca_v (Or.inl rfl) rfl (Nat.le_of_ble_eq_true rfl) (Nat.le_of_ble_eq_true rfl) (ly_k L 9 rfl).2 (ly_k L 9 rfl).1 (by decide)) (((H.2 c1).2 c2).2 c3))))))))))))
theorem s51_31 {sc : cmS} {d : Nat} {h : cmH} {Q : Option Value → cmH → Prop} (y1 : Int64) (x3 : Int32) (x4 : Int32) (u5 : Option Value) (u6 : Option Value) (H : Q (some (.int (0 : Int32))) h) : cm_wp sc d 51 31 [some (.ref 9), some (.long y1), none, some (.int x3), some (.int x4), u5, u6] [] h Q :=
  wl_ic (v := 0) d51_31 rfl (wl_rz d51_32 rfl (by decide) H)
theorem s51_33 {sc : cmS} {d : Nat} {h : cmH} {Q : Option Value → cmH → Prop} (L : LY h) (y1 : Int64) (x3 : Int32) (x4 : Int32) (u5 : Option Value) (u6 : Option Value) (H : cm_cj' sc d 46 [.ref 9, .int x3] (cm_setI h 9 3 ((cm_I h 9 3) + (1 : Int32))) (fun r h' => cm_wp sc (d + 1) 51 48 [some (.ref 9), some (.long y1), none, some (.int x3), some (.int x4), u5, u6] [.long r] h' Q)) : cm_wp sc (d + 1) 51 33 [some (.ref 9), some (.long y1), none, some (.int x3), some (.int x4), u5, u6] [] h Q :=
  wl_st d51_33 rfl rfl rfl rfl (wl_st d51_34 rfl rfl rfl rfl (wl_gf (v := .int (cm_I h 9 3)) d51_35 pf6_59 (ly_k L 9 rfl) rfl (wl_ic (v := 1) d51_38 rfl (wl_st d51_39 rfl rfl rfl rfl (wl_pf (h' := (cm_setI h 9 3 ((cm_I h 9 3) + (1 : Int32)))) d51_40 pf6_59 (ly_k L 9 rfl) (Or.inl rfl) rfl (wl_st d51_43 rfl rfl rfl rfl (wl_st d51_44 rfl rfl rfl rfl (wl_cj d51_45 rfl rfl rfl pm6_89 (by decide) (ca_v (Or.inl rfl) rfl (Nat.le_of_ble_eq_true rfl) (Nat.le_of_ble_eq_true rfl) (ly_k L 9 rfl).2 (ly_k L 9 rfl).1 (by decide)) H))))))))
theorem s51_48 {sc : cmS} {d : Nat} {h : cmH} {Q : Option Value → cmH → Prop} (y1 : Int64) (x3 : Int32) (x4 : Int32) (u5 : Option Value) (u6 : Option Value) (sy0 : Int64) (H : (((¬ x4 = (61 : Int32)) → (((¬ x4 = (60 : Int32)) → ((((lg_cmp y1 sy0) ≤ 0) → Q (some (.int (0 : Int32))) h) ∧ (¬ ((lg_cmp y1 sy0) ≤ 0) → Q (some (.int (1 : Int32))) h))) ∧ (¬ (¬ x4 = (60 : Int32)) → (((0 ≤ (lg_cmp y1 sy0)) → Q (some (.int (0 : Int32))) h) ∧ (¬ (0 ≤ (lg_cmp y1 sy0)) → Q (some (.int (1 : Int32))) h))))) ∧ (¬ (¬ x4 = (61 : Int32)) → (((¬ (lg_cmp y1 sy0) = 0) → Q (some (.int (0 : Int32))) h) ∧ (¬ (¬ (lg_cmp y1 sy0) = 0) → Q (some (.int (1 : Int32))) h))))) : cm_wp sc d 51 48 [some (.ref 9), some (.long y1), none, some (.int x3), some (.int x4), u5, u6] [.long sy0] h Q :=
  wl_st (ls' := [some (.ref 9), some (.long y1), none, some (.int x3), some (.int x4), some (.long sy0), none]) d51_48 rfl rfl rfl rfl (wl_st d51_50 rfl rfl rfl rfl (wl_bi (v := 61) d51_52 rfl (wl_cb (b := ¬ x4 = (61 : Int32)) (off := 18) (tgt := 72) (pc3 := 57) (st' := []) d51_54 rfl rfl rfl rfl (by decide) rfl (fun c1 => wl_st d51_72 rfl rfl rfl rfl (wl_bi (v := 60) d51_74 rfl (wl_cb (b := ¬ x4 = (60 : Int32)) (off := 18) (tgt := 94) (pc3 := 79) (st' := []) d51_76 rfl rfl rfl rfl (by decide) rfl (fun c2 => wl_st d51_94 rfl rfl rfl rfl (wl_st d51_95 rfl rfl rfl rfl (wl_st d51_97 rfl rfl rfl rfl (wl_cb (b := (lg_cmp y1 sy0) ≤ 0) (off := 7) (tgt := 105) (pc3 := 101) (st' := []) d51_98 rfl rfl rfl rfl (by decide) rfl (fun c3 => wl_ic (v := 0) d51_105 rfl (wl_rz d51_106 rfl (by decide) (((H.1 c1).1 c2).1 c3))) (fun c3 => wl_ic (v := 1) d51_101 rfl (wl_go (tgt := 106) d51_102 (by decide) (wl_rz d51_106 rfl (by decide) (((H.1 c1).1 c2).2 c3)))))))) (fun c2 => wl_st d51_79 rfl rfl rfl rfl (wl_st d51_80 rfl rfl rfl rfl (wl_st d51_82 rfl rfl rfl rfl (wl_cb (b := 0 ≤ (lg_cmp y1 sy0)) (off := 7) (tgt := 90) (pc3 := 86) (st' := []) d51_83 rfl rfl rfl rfl (by decide) rfl (fun c4 => wl_ic (v := 0) d51_90 rfl (wl_go (tgt := 106) d51_91 (by decide) (wl_rz d51_106 rfl (by decide) (((H.1 c1).2 c2).1 c4)))) (fun c4 => wl_ic (v := 1) d51_86 rfl (wl_go (tgt := 106) d51_87 (by decide) (wl_rz d51_106 rfl (by decide) (((H.1 c1).2 c2).2 c4))))))))))) (fun c1 => wl_st d51_57 rfl rfl rfl rfl (wl_st d51_58 rfl rfl rfl rfl (wl_st d51_60 rfl rfl rfl rfl (wl_cb (b := ¬ (lg_cmp y1 sy0) = 0) (off := 7) (tgt := 68) (pc3 := 64) (st' := []) d51_61 rfl rfl rfl rfl (by decide) rfl (fun c5 => wl_ic (v := 0) d51_68 rfl (wl_go (tgt := 106) d51_69 (by decide) (wl_rz d51_106 rfl (by decide) ((H.2 c1).1 c5)))) (fun c5 => wl_ic (v := 1) d51_64 rfl (wl_go (tgt := 106) d51_65 (by decide) (wl_rz d51_106 rfl (by decide) ((H.2 c1).2 c5)))))))))))
-- ClogHouse$Reader.condition(ZI)Z
theorem d52_0 : decode (cm_M 52).2.2.1 0 = .ok (.aload_n 0, 1) := by decide +kernel
theorem d52_1 : decode (cm_M 52).2.2.1 1 = .ok (.iload_n 1, 1) := by decide +kernel
theorem d52_2 : decode (cm_M 52).2.2.1 2 = .ok (.iload_n 2, 1) := by decide +kernel
theorem d52_3 : decode (cm_M 52).2.2.1 3 = .ok (.invokevirtual 97, 3) := by decide +kernel
theorem d52_6 : decode (cm_M 52).2.2.1 6 = .ok (.istore_n 3, 1) := by decide +kernel
theorem d52_7 : decode (cm_M 52).2.2.1 7 = .ok (.iconst 0, 1) := by decide +kernel
theorem d52_8 : decode (cm_M 52).2.2.1 8 = .ok (.istore 4, 2) := by decide +kernel
theorem d52_10 : decode (cm_M 52).2.2.1 10 = .ok (.iload 4, 2) := by decide +kernel
theorem d52_12 : decode (cm_M 52).2.2.1 12 = .ok (.sipush 160, 3) := by decide +kernel
theorem d52_15 : decode (cm_M 52).2.2.1 15 = .ok (.if_icmp .ge 55, 3) := by decide +kernel
theorem d52_18 : decode (cm_M 52).2.2.1 18 = .ok (.aload_n 0, 1) := by decide +kernel
theorem d52_19 : decode (cm_M 52).2.2.1 19 = .ok (.invokevirtual 62, 3) := by decide +kernel
theorem d52_22 : decode (cm_M 52).2.2.1 22 = .ok (.bipush 124, 2) := by decide +kernel
theorem d52_24 : decode (cm_M 52).2.2.1 24 = .ok (.if_icmp .ne 46, 3) := by decide +kernel
theorem d52_27 : decode (cm_M 52).2.2.1 27 = .ok (.aload_n 0, 1) := by decide +kernel
theorem d52_28 : decode (cm_M 52).2.2.1 28 = .ok (.dup, 1) := by decide +kernel
theorem d52_29 : decode (cm_M 52).2.2.1 29 = .ok (.getfield 59, 3) := by decide +kernel
theorem d52_32 : decode (cm_M 52).2.2.1 32 = .ok (.iconst 1, 1) := by decide +kernel
theorem d52_33 : decode (cm_M 52).2.2.1 33 = .ok (.iadd, 1) := by decide +kernel
theorem d52_34 : decode (cm_M 52).2.2.1 34 = .ok (.putfield 59, 3) := by decide +kernel
theorem d52_37 : decode (cm_M 52).2.2.1 37 = .ok (.aload_n 0, 1) := by decide +kernel
theorem d52_38 : decode (cm_M 52).2.2.1 38 = .ok (.aload_n 0, 1) := by decide +kernel
theorem d52_39 : decode (cm_M 52).2.2.1 39 = .ok (.iload_n 2, 1) := by decide +kernel
theorem d52_40 : decode (cm_M 52).2.2.1 40 = .ok (.invokevirtual 81, 3) := by decide +kernel
theorem d52_43 : decode (cm_M 52).2.2.1 43 = .ok (.iload_n 2, 1) := by decide +kernel
theorem d52_44 : decode (cm_M 52).2.2.1 44 = .ok (.invokevirtual 97, 3) := by decide +kernel
theorem d52_47 : decode (cm_M 52).2.2.1 47 = .ok (.istore 5, 2) := by decide +kernel
theorem d52_49 : decode (cm_M 52).2.2.1 49 = .ok (.iload_n 3, 1) := by decide +kernel
theorem d52_50 : decode (cm_M 52).2.2.1 50 = .ok (.ifCond .ne 8, 3) := by decide +kernel
theorem d52_53 : decode (cm_M 52).2.2.1 53 = .ok (.iload 5, 2) := by decide +kernel
theorem d52_55 : decode (cm_M 52).2.2.1 55 = .ok (.ifCond .eq 7, 3) := by decide +kernel
theorem d52_58 : decode (cm_M 52).2.2.1 58 = .ok (.iconst 1, 1) := by decide +kernel
theorem d52_59 : decode (cm_M 52).2.2.1 59 = .ok (.goto 4, 3) := by decide +kernel
theorem d52_62 : decode (cm_M 52).2.2.1 62 = .ok (.iconst 0, 1) := by decide +kernel
theorem d52_63 : decode (cm_M 52).2.2.1 63 = .ok (.istore_n 3, 1) := by decide +kernel
theorem d52_64 : decode (cm_M 52).2.2.1 64 = .ok (.iinc 4 1, 3) := by decide +kernel
theorem d52_67 : decode (cm_M 52).2.2.1 67 = .ok (.goto (-57), 3) := by decide +kernel
theorem d52_70 : decode (cm_M 52).2.2.1 70 = .ok (.iload_n 3, 1) := by decide +kernel
theorem d52_71 : decode (cm_M 52).2.2.1 71 = .ok (.ireturn, 1) := by decide +kernel
theorem s52_0 {sc : cmS} {d : Nat} {h : cmH} {Q : Option Value → cmH → Prop} (L : LY h) (x1 : Int32) (x2 : Int32) (u3 : Option Value) (u4 : Option Value) (u5 : Option Value) (H : cm_ci sc d 53 [.ref 9, .int x1, .int x2] h (fun r h' => cm_wp sc (d + 1) 52 6 [some (.ref 9), some (.int x1), some (.int x2), u3, u4, u5] [.int r] h' Q)) : cm_wp sc (d + 1) 52 0 [some (.ref 9), some (.int x1), some (.int x2), u3, u4, u5] [] h Q :=
  wl_st d52_0 rfl rfl rfl rfl (wl_st d52_1 rfl rfl rfl rfl (wl_st d52_2 rfl rfl rfl rfl (wl_ci d52_3 rfl rfl rfl pm6_97 (by decide) (ca_v (Or.inl rfl) rfl (Nat.le_of_ble_eq_true rfl) (Nat.le_of_ble_eq_true rfl) (ly_k L 9 rfl).2 (ly_k L 9 rfl).1 (by decide)) H)))
theorem s52_6 {sc : cmS} {d : Nat} {h : cmH} {Q : Option Value → cmH → Prop} (x1 : Int32) (x2 : Int32) (u3 : Option Value) (u4 : Option Value) (u5 : Option Value) (sx0 : Int32) (H : cm_wp sc d 52 10 [some (.ref 9), some (.int x1), some (.int x2), some (.int sx0), some (.int (0 : Int32)), u5] [] h Q) : cm_wp sc d 52 6 [some (.ref 9), some (.int x1), some (.int x2), u3, u4, u5] [.int sx0] h Q :=
  wl_st (ls' := [some (.ref 9), some (.int x1), some (.int x2), some (.int sx0), u4, u5]) d52_6 rfl rfl rfl rfl (wl_ic (v := 0) d52_7 rfl (wl_st (ls' := [some (.ref 9), some (.int x1), some (.int x2), some (.int sx0), some (.int (0 : Int32)), u5]) d52_8 rfl rfl rfl rfl (H)))
theorem s52_10 {sc : cmS} {d : Nat} {h : cmH} {Q : Option Value → cmH → Prop} (L : LY h) (x1 : Int32) (x2 : Int32) (x3 : Int32) (x4 : Int32) (u5 : Option Value) (H : ((((160 : Int32) ≤ x4) → (x3 = 0 ∨ x3 = 1) ∧ Q (some (.int x3)) h) ∧ (¬ ((160 : Int32) ≤ x4) → cm_ci sc d 42 [.ref 9] h (fun r h' => cm_wp sc (d + 1) 52 22 [some (.ref 9), some (.int x1), some (.int x2), some (.int x3), some (.int x4), u5] [.int r] h' Q)))) : cm_wp sc (d + 1) 52 10 [some (.ref 9), some (.int x1), some (.int x2), some (.int x3), some (.int x4), u5] [] h Q :=
  wl_st d52_10 rfl rfl rfl rfl (wl_si (v := 160) d52_12 rfl (wl_cb (b := (160 : Int32) ≤ x4) (off := 55) (tgt := 70) (pc3 := 18) (st' := []) d52_15 rfl rfl rfl rfl (by decide) rfl (fun c1 => wl_st d52_70 rfl rfl rfl rfl (And.elim (fun g2 g2k => wl_rz d52_71 rfl g2 g2k) (H.1 c1))) (fun c1 => wl_st d52_18 rfl rfl rfl rfl (wl_ci d52_19 rfl rfl rfl pm6_62 (by decide) (ca_v (Or.inl rfl) rfl (Nat.le_of_ble_eq_true rfl) (Nat.le_of_ble_eq_true rfl) (ly_k L 9 rfl).2 (ly_k L 9 rfl).1 (by decide)) (H.2 c1)))))
theorem s52_22 {sc : cmS} {d : Nat} {h : cmH} {Q : Option Value → cmH → Prop} (L : LY h) (x1 : Int32) (x2 : Int32) (x3 : Int32) (x4 : Int32) (u5 : Option Value) (sx0 : Int32) (H : (((¬ sx0 = (124 : Int32)) → (x3 = 0 ∨ x3 = 1) ∧ Q (some (.int x3)) h) ∧ (¬ (¬ sx0 = (124 : Int32)) → cm_ci sc d 45 [.ref 9, .int x2] (cm_setI h 9 3 ((cm_I h 9 3) + (1 : Int32))) (fun r h' => cm_wp sc (d + 1) 52 43 [some (.ref 9), some (.int x1), some (.int x2), some (.int x3), some (.int x4), u5] [.int r, .ref 9] h' Q)))) : cm_wp sc (d + 1) 52 22 [some (.ref 9), some (.int x1), some (.int x2), some (.int x3), some (.int x4), u5] [.int sx0] h Q :=
  wl_bi (v := 124) d52_22 rfl (wl_cb (b := ¬ sx0 = (124 : Int32)) (off := 46) (tgt := 70) (pc3 := 27) (st' := []) d52_24 rfl rfl rfl rfl (by decide) rfl (fun c1 => wl_st d52_70 rfl rfl rfl rfl (And.elim (fun g2 g2k => wl_rz d52_71 rfl g2 g2k) (H.1 c1))) (fun c1 => wl_st d52_27 rfl rfl rfl rfl (wl_st d52_28 rfl rfl rfl rfl (wl_gf (v := .int (cm_I h 9 3)) d52_29 pf6_59 (ly_k L 9 rfl) rfl (wl_ic (v := 1) d52_32 rfl (wl_st d52_33 rfl rfl rfl rfl (wl_pf (h' := (cm_setI h 9 3 ((cm_I h 9 3) + (1 : Int32)))) d52_34 pf6_59 (ly_k L 9 rfl) (Or.inl rfl) rfl (wl_st d52_37 rfl rfl rfl rfl (wl_st d52_38 rfl rfl rfl rfl (wl_st d52_39 rfl rfl rfl rfl (wl_ci d52_40 rfl rfl rfl pm6_81 (by decide) (ca_v (Or.inl rfl) rfl (Nat.le_of_ble_eq_true rfl) (Nat.le_of_ble_eq_true rfl) (ly_k L 9 rfl).2 (ly_k L 9 rfl).1 (by decide)) (H.2 c1))))))))))))
theorem s52_43 {sc : cmS} {d : Nat} {h : cmH} {Q : Option Value → cmH → Prop} (L : LY h) (x1 : Int32) (x2 : Int32) (x3 : Int32) (x4 : Int32) (u5 : Option Value) (sx0 : Int32) (H : cm_ci sc d 53 [.ref 9, .int sx0, .int x2] h (fun r h' => cm_wp sc (d + 1) 52 47 [some (.ref 9), some (.int x1), some (.int x2), some (.int x3), some (.int x4), u5] [.int r] h' Q)) : cm_wp sc (d + 1) 52 43 [some (.ref 9), some (.int x1), some (.int x2), some (.int x3), some (.int x4), u5] [.int sx0, .ref 9] h Q :=
  wl_st d52_43 rfl rfl rfl rfl (wl_ci d52_44 rfl rfl rfl pm6_97 (by decide) (ca_v (Or.inl rfl) rfl (Nat.le_of_ble_eq_true rfl) (Nat.le_of_ble_eq_true rfl) (ly_k L 9 rfl).2 (ly_k L 9 rfl).1 (by decide)) H)
theorem s52_47 {sc : cmS} {d : Nat} {h : cmH} {Q : Option Value → cmH → Prop} (x1 : Int32) (x2 : Int32) (x3 : Int32) (x4 : Int32) (u5 : Option Value) (sx0 : Int32) (H : (((¬ x3 = 0) → cm_wp sc d 52 58 [some (.ref 9), some (.int x1), some (.int x2), some (.int x3), some (.int x4), some (.int sx0)] [] h Q) ∧ (¬ (¬ x3 = 0) → (((sx0 = 0) → cm_wp sc d 52 63 [some (.ref 9), some (.int x1), some (.int x2), some (.int x3), some (.int x4), some (.int sx0)] [.int (0 : Int32)] h Q) ∧ (¬ (sx0 = 0) → cm_wp sc d 52 58 [some (.ref 9), some (.int x1), some (.int x2), some (.int x3), some (.int x4), some (.int sx0)] [] h Q))))) : cm_wp sc d 52 47 [some (.ref 9), some (.int x1), some (.int x2), some (.int x3), some (.int x4), u5] [.int sx0] h Q :=
  wl_st (ls' := [some (.ref 9), some (.int x1), some (.int x2), some (.int x3), some (.int x4), some (.int sx0)]) d52_47 rfl rfl rfl rfl (wl_st d52_49 rfl rfl rfl rfl (wl_cb (b := ¬ x3 = 0) (off := 8) (tgt := 58) (pc3 := 53) (st' := []) d52_50 rfl rfl rfl rfl (by decide) rfl (fun c1 => (H.1 c1)) (fun c1 => wl_st d52_53 rfl rfl rfl rfl (wl_cb (b := sx0 = 0) (off := 7) (tgt := 62) (pc3 := 58) (st' := []) d52_55 rfl rfl rfl rfl (by decide) rfl (fun c2 => wl_ic (v := 0) d52_62 rfl (((H.2 c1).1 c2))) (fun c2 => ((H.2 c1).2 c2))))))
theorem s52_58 {sc : cmS} {d : Nat} {h : cmH} {Q : Option Value → cmH → Prop} (x1 : Int32) (x2 : Int32) (x3 : Int32) (x4 : Int32) (x5 : Int32) (H : cm_wp sc d 52 63 [some (.ref 9), some (.int x1), some (.int x2), some (.int x3), some (.int x4), some (.int x5)] [.int (1 : Int32)] h Q) : cm_wp sc d 52 58 [some (.ref 9), some (.int x1), some (.int x2), some (.int x3), some (.int x4), some (.int x5)] [] h Q :=
  wl_ic (v := 1) d52_58 rfl (wl_go (tgt := 63) d52_59 (by decide) (H))
theorem s52_63 {sc : cmS} {d : Nat} {h : cmH} {Q : Option Value → cmH → Prop} (x1 : Int32) (x2 : Int32) (x3 : Int32) (x4 : Int32) (x5 : Int32) (sx0 : Int32) (H : cm_wp sc d 52 10 [some (.ref 9), some (.int x1), some (.int x2), some (.int sx0), some (.int (x4 + 1)), some (.int x5)] [] h Q) : cm_wp sc d 52 63 [some (.ref 9), some (.int x1), some (.int x2), some (.int x3), some (.int x4), some (.int x5)] [.int sx0] h Q :=
  wl_st (ls' := [some (.ref 9), some (.int x1), some (.int x2), some (.int sx0), some (.int x4), some (.int x5)]) d52_63 rfl rfl rfl rfl (wl_st (ls' := [some (.ref 9), some (.int x1), some (.int x2), some (.int sx0), some (.int (x4 + 1)), some (.int x5)]) d52_64 rfl rfl rfl rfl (wl_go (tgt := 10) d52_67 (by decide) (H)))
-- ClogHouse$Reader.part(ZI)Z
theorem d53_0 : decode (cm_M 53).2.2.1 0 = .ok (.iload_n 1, 1) := by decide +kernel
theorem d53_1 : decode (cm_M 53).2.2.1 1 = .ok (.istore_n 3, 1) := by decide +kernel
theorem d53_2 : decode (cm_M 53).2.2.1 2 = .ok (.iconst 0, 1) := by decide +kernel
theorem d53_3 : decode (cm_M 53).2.2.1 3 = .ok (.istore 4, 2) := by decide +kernel
theorem d53_5 : decode (cm_M 53).2.2.1 5 = .ok (.iload 4, 2) := by decide +kernel
theorem d53_7 : decode (cm_M 53).2.2.1 7 = .ok (.sipush 160, 3) := by decide +kernel
theorem d53_10 : decode (cm_M 53).2.2.1 10 = .ok (.if_icmp .ge 50, 3) := by decide +kernel
theorem d53_13 : decode (cm_M 53).2.2.1 13 = .ok (.aload_n 0, 1) := by decide +kernel
theorem d53_14 : decode (cm_M 53).2.2.1 14 = .ok (.invokevirtual 62, 3) := by decide +kernel
theorem d53_17 : decode (cm_M 53).2.2.1 17 = .ok (.bipush 38, 2) := by decide +kernel
theorem d53_19 : decode (cm_M 53).2.2.1 19 = .ok (.if_icmp .ne 41, 3) := by decide +kernel
theorem d53_22 : decode (cm_M 53).2.2.1 22 = .ok (.aload_n 0, 1) := by decide +kernel
theorem d53_23 : decode (cm_M 53).2.2.1 23 = .ok (.dup, 1) := by decide +kernel
theorem d53_24 : decode (cm_M 53).2.2.1 24 = .ok (.getfield 59, 3) := by decide +kernel
theorem d53_27 : decode (cm_M 53).2.2.1 27 = .ok (.iconst 1, 1) := by decide +kernel
theorem d53_28 : decode (cm_M 53).2.2.1 28 = .ok (.iadd, 1) := by decide +kernel
theorem d53_29 : decode (cm_M 53).2.2.1 29 = .ok (.putfield 59, 3) := by decide +kernel
theorem d53_32 : decode (cm_M 53).2.2.1 32 = .ok (.aload_n 0, 1) := by decide +kernel
theorem d53_33 : decode (cm_M 53).2.2.1 33 = .ok (.iload_n 2, 1) := by decide +kernel
theorem d53_34 : decode (cm_M 53).2.2.1 34 = .ok (.invokevirtual 81, 3) := by decide +kernel
theorem d53_37 : decode (cm_M 53).2.2.1 37 = .ok (.istore 5, 2) := by decide +kernel
theorem d53_39 : decode (cm_M 53).2.2.1 39 = .ok (.iload_n 3, 1) := by decide +kernel
theorem d53_40 : decode (cm_M 53).2.2.1 40 = .ok (.ifCond .eq 12, 3) := by decide +kernel
theorem d53_43 : decode (cm_M 53).2.2.1 43 = .ok (.iload 5, 2) := by decide +kernel
theorem d53_45 : decode (cm_M 53).2.2.1 45 = .ok (.ifCond .eq 7, 3) := by decide +kernel
theorem d53_48 : decode (cm_M 53).2.2.1 48 = .ok (.iconst 1, 1) := by decide +kernel
theorem d53_49 : decode (cm_M 53).2.2.1 49 = .ok (.goto 4, 3) := by decide +kernel
theorem d53_52 : decode (cm_M 53).2.2.1 52 = .ok (.iconst 0, 1) := by decide +kernel
theorem d53_53 : decode (cm_M 53).2.2.1 53 = .ok (.istore_n 3, 1) := by decide +kernel
theorem d53_54 : decode (cm_M 53).2.2.1 54 = .ok (.iinc 4 1, 3) := by decide +kernel
theorem d53_57 : decode (cm_M 53).2.2.1 57 = .ok (.goto (-52), 3) := by decide +kernel
theorem d53_60 : decode (cm_M 53).2.2.1 60 = .ok (.iload_n 3, 1) := by decide +kernel
theorem d53_61 : decode (cm_M 53).2.2.1 61 = .ok (.ireturn, 1) := by decide +kernel
theorem s53_0 {sc : cmS} {d : Nat} {h : cmH} {Q : Option Value → cmH → Prop} (x1 : Int32) (x2 : Int32) (u3 : Option Value) (u4 : Option Value) (u5 : Option Value) (H : cm_wp sc d 53 5 [some (.ref 9), some (.int x1), some (.int x2), some (.int x1), some (.int (0 : Int32)), u5] [] h Q) : cm_wp sc d 53 0 [some (.ref 9), some (.int x1), some (.int x2), u3, u4, u5] [] h Q :=
  wl_st d53_0 rfl rfl rfl rfl (wl_st (ls' := [some (.ref 9), some (.int x1), some (.int x2), some (.int x1), u4, u5]) d53_1 rfl rfl rfl rfl (wl_ic (v := 0) d53_2 rfl (wl_st (ls' := [some (.ref 9), some (.int x1), some (.int x2), some (.int x1), some (.int (0 : Int32)), u5]) d53_3 rfl rfl rfl rfl (H))))
theorem s53_5 {sc : cmS} {d : Nat} {h : cmH} {Q : Option Value → cmH → Prop} (L : LY h) (x1 : Int32) (x2 : Int32) (x3 : Int32) (x4 : Int32) (u5 : Option Value) (H : ((((160 : Int32) ≤ x4) → (x3 = 0 ∨ x3 = 1) ∧ Q (some (.int x3)) h) ∧ (¬ ((160 : Int32) ≤ x4) → cm_ci sc d 42 [.ref 9] h (fun r h' => cm_wp sc (d + 1) 53 17 [some (.ref 9), some (.int x1), some (.int x2), some (.int x3), some (.int x4), u5] [.int r] h' Q)))) : cm_wp sc (d + 1) 53 5 [some (.ref 9), some (.int x1), some (.int x2), some (.int x3), some (.int x4), u5] [] h Q :=
  wl_st d53_5 rfl rfl rfl rfl (wl_si (v := 160) d53_7 rfl (wl_cb (b := (160 : Int32) ≤ x4) (off := 50) (tgt := 60) (pc3 := 13) (st' := []) d53_10 rfl rfl rfl rfl (by decide) rfl (fun c1 => wl_st d53_60 rfl rfl rfl rfl (And.elim (fun g2 g2k => wl_rz d53_61 rfl g2 g2k) (H.1 c1))) (fun c1 => wl_st d53_13 rfl rfl rfl rfl (wl_ci d53_14 rfl rfl rfl pm6_62 (by decide) (ca_v (Or.inl rfl) rfl (Nat.le_of_ble_eq_true rfl) (Nat.le_of_ble_eq_true rfl) (ly_k L 9 rfl).2 (ly_k L 9 rfl).1 (by decide)) (H.2 c1)))))
theorem s53_17 {sc : cmS} {d : Nat} {h : cmH} {Q : Option Value → cmH → Prop} (L : LY h) (x1 : Int32) (x2 : Int32) (x3 : Int32) (x4 : Int32) (u5 : Option Value) (sx0 : Int32) (H : (((¬ sx0 = (38 : Int32)) → (x3 = 0 ∨ x3 = 1) ∧ Q (some (.int x3)) h) ∧ (¬ (¬ sx0 = (38 : Int32)) → cm_ci sc d 45 [.ref 9, .int x2] (cm_setI h 9 3 ((cm_I h 9 3) + (1 : Int32))) (fun r h' => cm_wp sc (d + 1) 53 37 [some (.ref 9), some (.int x1), some (.int x2), some (.int x3), some (.int x4), u5] [.int r] h' Q)))) : cm_wp sc (d + 1) 53 17 [some (.ref 9), some (.int x1), some (.int x2), some (.int x3), some (.int x4), u5] [.int sx0] h Q :=
  wl_bi (v := 38) d53_17 rfl (wl_cb (b := ¬ sx0 = (38 : Int32)) (off := 41) (tgt := 60) (pc3 := 22) (st' := []) d53_19 rfl rfl rfl rfl (by decide) rfl (fun c1 => wl_st d53_60 rfl rfl rfl rfl (And.elim (fun g2 g2k => wl_rz d53_61 rfl g2 g2k) (H.1 c1))) (fun c1 => wl_st d53_22 rfl rfl rfl rfl (wl_st d53_23 rfl rfl rfl rfl (wl_gf (v := .int (cm_I h 9 3)) d53_24 pf6_59 (ly_k L 9 rfl) rfl (wl_ic (v := 1) d53_27 rfl (wl_st d53_28 rfl rfl rfl rfl (wl_pf (h' := (cm_setI h 9 3 ((cm_I h 9 3) + (1 : Int32)))) d53_29 pf6_59 (ly_k L 9 rfl) (Or.inl rfl) rfl (wl_st d53_32 rfl rfl rfl rfl (wl_st d53_33 rfl rfl rfl rfl (wl_ci d53_34 rfl rfl rfl pm6_81 (by decide) (ca_v (Or.inl rfl) rfl (Nat.le_of_ble_eq_true rfl) (Nat.le_of_ble_eq_true rfl) (ly_k L 9 rfl).2 (ly_k L 9 rfl).1 (by decide)) (H.2 c1)))))))))))
theorem s53_37 {sc : cmS} {d : Nat} {h : cmH} {Q : Option Value → cmH → Prop} (x1 : Int32) (x2 : Int32) (x3 : Int32) (x4 : Int32) (u5 : Option Value) (sx0 : Int32) (H : (((x3 = 0) → cm_wp sc d 53 52 [some (.ref 9), some (.int x1), some (.int x2), some (.int x3), some (.int x4), some (.int sx0)] [] h Q) ∧ (¬ (x3 = 0) → (((sx0 = 0) → cm_wp sc d 53 52 [some (.ref 9), some (.int x1), some (.int x2), some (.int x3), some (.int x4), some (.int sx0)] [] h Q) ∧ (¬ (sx0 = 0) → cm_wp sc d 53 53 [some (.ref 9), some (.int x1), some (.int x2), some (.int x3), some (.int x4), some (.int sx0)] [.int (1 : Int32)] h Q))))) : cm_wp sc d 53 37 [some (.ref 9), some (.int x1), some (.int x2), some (.int x3), some (.int x4), u5] [.int sx0] h Q :=
  wl_st (ls' := [some (.ref 9), some (.int x1), some (.int x2), some (.int x3), some (.int x4), some (.int sx0)]) d53_37 rfl rfl rfl rfl (wl_st d53_39 rfl rfl rfl rfl (wl_cb (b := x3 = 0) (off := 12) (tgt := 52) (pc3 := 43) (st' := []) d53_40 rfl rfl rfl rfl (by decide) rfl (fun c1 => (H.1 c1)) (fun c1 => wl_st d53_43 rfl rfl rfl rfl (wl_cb (b := sx0 = 0) (off := 7) (tgt := 52) (pc3 := 48) (st' := []) d53_45 rfl rfl rfl rfl (by decide) rfl (fun c2 => ((H.2 c1).1 c2)) (fun c2 => wl_ic (v := 1) d53_48 rfl (wl_go (tgt := 53) d53_49 (by decide) (((H.2 c1).2 c2))))))))
theorem s53_52 {sc : cmS} {d : Nat} {h : cmH} {Q : Option Value → cmH → Prop} (x1 : Int32) (x2 : Int32) (x3 : Int32) (x4 : Int32) (x5 : Int32) (H : cm_wp sc d 53 53 [some (.ref 9), some (.int x1), some (.int x2), some (.int x3), some (.int x4), some (.int x5)] [.int (0 : Int32)] h Q) : cm_wp sc d 53 52 [some (.ref 9), some (.int x1), some (.int x2), some (.int x3), some (.int x4), some (.int x5)] [] h Q :=
  wl_ic (v := 0) d53_52 rfl (H)
theorem s53_53 {sc : cmS} {d : Nat} {h : cmH} {Q : Option Value → cmH → Prop} (x1 : Int32) (x2 : Int32) (x3 : Int32) (x4 : Int32) (x5 : Int32) (sx0 : Int32) (H : cm_wp sc d 53 5 [some (.ref 9), some (.int x1), some (.int x2), some (.int sx0), some (.int (x4 + 1)), some (.int x5)] [] h Q) : cm_wp sc d 53 53 [some (.ref 9), some (.int x1), some (.int x2), some (.int x3), some (.int x4), some (.int x5)] [.int sx0] h Q :=
  wl_st (ls' := [some (.ref 9), some (.int x1), some (.int x2), some (.int sx0), some (.int x4), some (.int x5)]) d53_53 rfl rfl rfl rfl (wl_st (ls' := [some (.ref 9), some (.int x1), some (.int x2), some (.int sx0), some (.int (x4 + 1)), some (.int x5)]) d53_54 rfl rfl rfl rfl (wl_go (tgt := 5) d53_57 (by decide) (H)))
-- ClogHouse$Reader.goesOn()Z
theorem d54_0 : decode (cm_M 54).2.2.1 0 = .ok (.aload_n 0, 1) := by decide +kernel
theorem d54_1 : decode (cm_M 54).2.2.1 1 = .ok (.invokevirtual 62, 3) := by decide +kernel
theorem d54_4 : decode (cm_M 54).2.2.1 4 = .ok (.istore_n 1, 1) := by decide +kernel
theorem d54_5 : decode (cm_M 54).2.2.1 5 = .ok (.iload_n 1, 1) := by decide +kernel
theorem d54_6 : decode (cm_M 54).2.2.1 6 = .ok (.bipush 59, 2) := by decide +kernel
theorem d54_8 : decode (cm_M 54).2.2.1 8 = .ok (.if_icmp .ne 15, 3) := by decide +kernel
theorem d54_11 : decode (cm_M 54).2.2.1 11 = .ok (.aload_n 0, 1) := by decide +kernel
theorem d54_12 : decode (cm_M 54).2.2.1 12 = .ok (.dup, 1) := by decide +kernel
theorem d54_13 : decode (cm_M 54).2.2.1 13 = .ok (.getfield 59, 3) := by decide +kernel
theorem d54_16 : decode (cm_M 54).2.2.1 16 = .ok (.iconst 1, 1) := by decide +kernel
theorem d54_17 : decode (cm_M 54).2.2.1 17 = .ok (.iadd, 1) := by decide +kernel
theorem d54_18 : decode (cm_M 54).2.2.1 18 = .ok (.putfield 59, 3) := by decide +kernel
theorem d54_21 : decode (cm_M 54).2.2.1 21 = .ok (.iconst 1, 1) := by decide +kernel
theorem d54_22 : decode (cm_M 54).2.2.1 22 = .ok (.ireturn, 1) := by decide +kernel
theorem d54_23 : decode (cm_M 54).2.2.1 23 = .ok (.iload_n 1, 1) := by decide +kernel
theorem d54_24 : decode (cm_M 54).2.2.1 24 = .ok (.ifCond .eq 7, 3) := by decide +kernel
theorem d54_27 : decode (cm_M 54).2.2.1 27 = .ok (.aload_n 0, 1) := by decide +kernel
theorem d54_28 : decode (cm_M 54).2.2.1 28 = .ok (.invokevirtual 66, 3) := by decide +kernel
theorem d54_31 : decode (cm_M 54).2.2.1 31 = .ok (.iconst 0, 1) := by decide +kernel
theorem d54_32 : decode (cm_M 54).2.2.1 32 = .ok (.ireturn, 1) := by decide +kernel
theorem s54_0 {sc : cmS} {d : Nat} {h : cmH} {Q : Option Value → cmH → Prop} (L : LY h) (u1 : Option Value) (H : cm_ci sc d 42 [.ref 9] h (fun r h' => cm_wp sc (d + 1) 54 4 [some (.ref 9), u1] [.int r] h' Q)) : cm_wp sc (d + 1) 54 0 [some (.ref 9), u1] [] h Q :=
  wl_st d54_0 rfl rfl rfl rfl (wl_ci d54_1 rfl rfl rfl pm6_62 (by decide) (ca_v (Or.inl rfl) rfl (Nat.le_of_ble_eq_true rfl) (Nat.le_of_ble_eq_true rfl) (ly_k L 9 rfl).2 (ly_k L 9 rfl).1 (by decide)) H)
theorem s54_4 {sc : cmS} {d : Nat} {h : cmH} {Q : Option Value → cmH → Prop} (L : LY h) (u1 : Option Value) (sx0 : Int32) (H : (((¬ sx0 = (59 : Int32)) → (((sx0 = 0) → cm_wp sc (d + 1) 54 31 [some (.ref 9), some (.int sx0)] [] h Q) ∧ (¬ (sx0 = 0) → cm_cv sc d 43 [.ref 9] h (fun h' => cm_wp sc (d + 1) 54 31 [some (.ref 9), some (.int sx0)] [] h' Q)))) ∧ (¬ (¬ sx0 = (59 : Int32)) → Q (some (.int (1 : Int32))) (cm_setI h 9 3 ((cm_I h 9 3) + (1 : Int32)))))) : cm_wp sc (d + 1) 54 4 [some (.ref 9), u1] [.int sx0] h Q :=
  wl_st (ls' := [some (.ref 9), some (.int sx0)]) d54_4 rfl rfl rfl rfl (wl_st d54_5 rfl rfl rfl rfl (wl_bi (v := 59) d54_6 rfl (wl_cb (b := ¬ sx0 = (59 : Int32)) (off := 15) (tgt := 23) (pc3 := 11) (st' := []) d54_8 rfl rfl rfl rfl (by decide) rfl (fun c1 => wl_st d54_23 rfl rfl rfl rfl (wl_cb (b := sx0 = 0) (off := 7) (tgt := 31) (pc3 := 27) (st' := []) d54_24 rfl rfl rfl rfl (by decide) rfl (fun c2 => ((H.1 c1).1 c2)) (fun c2 => wl_st d54_27 rfl rfl rfl rfl (wl_cv d54_28 rfl rfl rfl pm6_66 (by decide) (ca_v (Or.inl rfl) rfl (Nat.le_of_ble_eq_true rfl) (Nat.le_of_ble_eq_true rfl) (ly_k L 9 rfl).2 (ly_k L 9 rfl).1 (by decide)) ((H.1 c1).2 c2))))) (fun c1 => wl_st d54_11 rfl rfl rfl rfl (wl_st d54_12 rfl rfl rfl rfl (wl_gf (v := .int (cm_I h 9 3)) d54_13 pf6_59 (ly_k L 9 rfl) rfl (wl_ic (v := 1) d54_16 rfl (wl_st d54_17 rfl rfl rfl rfl (wl_pf (h' := (cm_setI h 9 3 ((cm_I h 9 3) + (1 : Int32)))) d54_18 pf6_59 (ly_k L 9 rfl) (Or.inl rfl) rfl (wl_ic (v := 1) d54_21 rfl (wl_rz d54_22 rfl (by decide) (H.2 c1))))))))))))
theorem s54_31 {sc : cmS} {d : Nat} {h : cmH} {Q : Option Value → cmH → Prop} (x1 : Int32) (H : Q (some (.int (0 : Int32))) h) : cm_wp sc d 54 31 [some (.ref 9), some (.int x1)] [] h Q :=
  wl_ic (v := 0) d54_31 rfl (wl_rz d54_32 rfl (by decide) H)
-- ClogHouse$Reader.tellLetters(IIIIII)V
theorem d64_0 : decode (cm_M 64).2.2.1 0 = .ok (.aload_n 0, 1) := by decide +kernel
theorem d64_1 : decode (cm_M 64).2.2.1 1 = .ok (.getfield 9, 3) := by decide +kernel
theorem d64_4 : decode (cm_M 64).2.2.1 4 = .ok (.iconst 0, 1) := by decide +kernel
theorem d64_5 : decode (cm_M 64).2.2.1 5 = .ok (.iload_n 1, 1) := by decide +kernel
theorem d64_6 : decode (cm_M 64).2.2.1 6 = .ok (.iastore, 1) := by decide +kernel
theorem d64_7 : decode (cm_M 64).2.2.1 7 = .ok (.aload_n 0, 1) := by decide +kernel
theorem d64_8 : decode (cm_M 64).2.2.1 8 = .ok (.getfield 9, 3) := by decide +kernel
theorem d64_11 : decode (cm_M 64).2.2.1 11 = .ok (.iconst 1, 1) := by decide +kernel
theorem d64_12 : decode (cm_M 64).2.2.1 12 = .ok (.iload_n 2, 1) := by decide +kernel
theorem d64_13 : decode (cm_M 64).2.2.1 13 = .ok (.iastore, 1) := by decide +kernel
theorem d64_14 : decode (cm_M 64).2.2.1 14 = .ok (.aload_n 0, 1) := by decide +kernel
theorem d64_15 : decode (cm_M 64).2.2.1 15 = .ok (.getfield 9, 3) := by decide +kernel
theorem d64_18 : decode (cm_M 64).2.2.1 18 = .ok (.iconst 2, 1) := by decide +kernel
theorem d64_19 : decode (cm_M 64).2.2.1 19 = .ok (.iload_n 3, 1) := by decide +kernel
theorem d64_20 : decode (cm_M 64).2.2.1 20 = .ok (.iastore, 1) := by decide +kernel
theorem d64_21 : decode (cm_M 64).2.2.1 21 = .ok (.aload_n 0, 1) := by decide +kernel
theorem d64_22 : decode (cm_M 64).2.2.1 22 = .ok (.getfield 9, 3) := by decide +kernel
theorem d64_25 : decode (cm_M 64).2.2.1 25 = .ok (.iconst 3, 1) := by decide +kernel
theorem d64_26 : decode (cm_M 64).2.2.1 26 = .ok (.iload 4, 2) := by decide +kernel
theorem d64_28 : decode (cm_M 64).2.2.1 28 = .ok (.iastore, 1) := by decide +kernel
theorem d64_29 : decode (cm_M 64).2.2.1 29 = .ok (.aload_n 0, 1) := by decide +kernel
theorem d64_30 : decode (cm_M 64).2.2.1 30 = .ok (.getfield 9, 3) := by decide +kernel
theorem d64_33 : decode (cm_M 64).2.2.1 33 = .ok (.iconst 4, 1) := by decide +kernel
theorem d64_34 : decode (cm_M 64).2.2.1 34 = .ok (.iload 5, 2) := by decide +kernel
theorem d64_36 : decode (cm_M 64).2.2.1 36 = .ok (.iastore, 1) := by decide +kernel
theorem d64_37 : decode (cm_M 64).2.2.1 37 = .ok (.aload_n 0, 1) := by decide +kernel
theorem d64_38 : decode (cm_M 64).2.2.1 38 = .ok (.getfield 9, 3) := by decide +kernel
theorem d64_41 : decode (cm_M 64).2.2.1 41 = .ok (.iconst 5, 1) := by decide +kernel
theorem d64_42 : decode (cm_M 64).2.2.1 42 = .ok (.iload 6, 2) := by decide +kernel
theorem d64_44 : decode (cm_M 64).2.2.1 44 = .ok (.iastore, 1) := by decide +kernel
theorem d64_45 : decode (cm_M 64).2.2.1 45 = .ok (.return_, 1) := by decide +kernel
theorem s64_0 {sc : cmS} {d : Nat} {h : cmH} {Q : Option Value → cmH → Prop} (L : LY h) (x1 : Int32) (x2 : Int32) (x3 : Int32) (x4 : Int32) (x5 : Int32) (x6 : Int32) (H : Q none (cm_setI (cm_setI (cm_setI (cm_setI (cm_setI (cm_setI h 10 0 x1) 10 1 x2) 10 2 x3) 10 3 x4) 10 4 x5) 10 5 x6)) : cm_wp sc d 64 0 [some (.ref 9), some (.int x1), some (.int x2), some (.int x3), some (.int x4), some (.int x5), some (.int x6)] [] h Q :=
  wl_st d64_0 rfl rfl rfl rfl (wl_gr (b := 10) d64_1 pf6_9 (ly_k L 9 rfl) rfl (ly_r L 9 0 rfl) (wl_ic (v := 0) d64_4 rfl (wl_st d64_5 rfl rfl rfl rfl (wl_if (h' := (cm_setI h 10 0 x1)) d64_6 rfl rfl rfl rfl (ly_o L 10 rfl (by decide)) (wl_st d64_7 rfl rfl rfl rfl (wl_gr (b := 10) d64_8 pf6_9 (ly_k L 9 rfl) rfl (ly_r L 9 0 rfl) (wl_ic (v := 1) d64_11 rfl (wl_st d64_12 rfl rfl rfl rfl (wl_if (h' := (cm_setI (cm_setI h 10 0 x1) 10 1 x2)) d64_13 rfl rfl rfl rfl (ly_o L 10 rfl (by decide)) (wl_st d64_14 rfl rfl rfl rfl (wl_gr (b := 10) d64_15 pf6_9 (ly_k L 9 rfl) rfl (ly_r L 9 0 rfl) (wl_ic (v := 2) d64_18 rfl (wl_st d64_19 rfl rfl rfl rfl (wl_if (h' := (cm_setI (cm_setI (cm_setI h 10 0 x1) 10 1 x2) 10 2 x3)) d64_20 rfl rfl rfl rfl (ly_o L 10 rfl (by decide)) (wl_st d64_21 rfl rfl rfl rfl (wl_gr (b := 10) d64_22 pf6_9 (ly_k L 9 rfl) rfl (ly_r L 9 0 rfl) (wl_ic (v := 3) d64_25 rfl (wl_st d64_26 rfl rfl rfl rfl (wl_if (h' := (cm_setI (cm_setI (cm_setI (cm_setI h 10 0 x1) 10 1 x2) 10 2 x3) 10 3 x4)) d64_28 rfl rfl rfl rfl (ly_o L 10 rfl (by decide)) (wl_st d64_29 rfl rfl rfl rfl (wl_gr (b := 10) d64_30 pf6_9 (ly_k L 9 rfl) rfl (ly_r L 9 0 rfl) (wl_ic (v := 4) d64_33 rfl (wl_st d64_34 rfl rfl rfl rfl (wl_if (h' := (cm_setI (cm_setI (cm_setI (cm_setI (cm_setI h 10 0 x1) 10 1 x2) 10 2 x3) 10 3 x4) 10 4 x5)) d64_36 rfl rfl rfl rfl (ly_o L 10 rfl (by decide)) (wl_st d64_37 rfl rfl rfl rfl (wl_gr (b := 10) d64_38 pf6_9 (ly_k L 9 rfl) rfl (ly_r L 9 0 rfl) (wl_ic (v := 5) d64_41 rfl (wl_st d64_42 rfl rfl rfl rfl (wl_if (h' := (cm_setI (cm_setI (cm_setI (cm_setI (cm_setI (cm_setI h 10 0 x1) 10 1 x2) 10 2 x3) 10 3 x4) 10 4 x5) 10 5 x6)) d64_44 rfl rfl rfl rfl (ly_o L 10 rfl (by decide)) (wl_rt d64_45 rfl rfl rfl H))))))))))))))))))))))))))))))
-- ClogHouse$Reader.worthOf(CLClogHouse$Text;)I
theorem d65_0 : decode (cm_M 65).2.2.1 0 = .ok (.aload_n 0, 1) := by decide +kernel
theorem d65_1 : decode (cm_M 65).2.2.1 1 = .ok (.aload_n 2, 1) := by decide +kernel
theorem d65_2 : decode (cm_M 65).2.2.1 2 = .ok (.invokevirtual 19, 3) := by decide +kernel
theorem d65_5 : decode (cm_M 65).2.2.1 5 = .ok (.iconst 1, 1) := by decide +kernel
theorem d65_6 : decode (cm_M 65).2.2.1 6 = .ok (.istore_n 3, 1) := by decide +kernel
theorem d65_7 : decode (cm_M 65).2.2.1 7 = .ok (.iconst 0, 1) := by decide +kernel
theorem d65_8 : decode (cm_M 65).2.2.1 8 = .ok (.istore 4, 2) := by decide +kernel
theorem d65_10 : decode (cm_M 65).2.2.1 10 = .ok (.iload 4, 2) := by decide +kernel
theorem d65_12 : decode (cm_M 65).2.2.1 12 = .ok (.sipush 160, 3) := by decide +kernel
theorem d65_15 : decode (cm_M 65).2.2.1 15 = .ok (.if_icmp .gt 43, 3) := by decide +kernel
theorem d65_18 : decode (cm_M 65).2.2.1 18 = .ok (.iload_n 3, 1) := by decide +kernel
theorem d65_19 : decode (cm_M 65).2.2.1 19 = .ok (.ifCond .eq 39, 3) := by decide +kernel
theorem d65_22 : decode (cm_M 65).2.2.1 22 = .ok (.aload_n 0, 1) := by decide +kernel
theorem d65_23 : decode (cm_M 65).2.2.1 23 = .ok (.invokevirtual 23, 3) := by decide +kernel
theorem d65_26 : decode (cm_M 65).2.2.1 26 = .ok (.aload_n 0, 1) := by decide +kernel
theorem d65_27 : decode (cm_M 65).2.2.1 27 = .ok (.getfield 34, 3) := by decide +kernel
theorem d65_30 : decode (cm_M 65).2.2.1 30 = .ok (.iload_n 1, 1) := by decide +kernel
theorem d65_31 : decode (cm_M 65).2.2.1 31 = .ok (.if_icmp .ne 16, 3) := by decide +kernel
theorem d65_34 : decode (cm_M 65).2.2.1 34 = .ok (.aload_n 0, 1) := by decide +kernel
theorem d65_35 : decode (cm_M 65).2.2.1 35 = .ok (.getfield 38, 3) := by decide +kernel
theorem d65_38 : decode (cm_M 65).2.2.1 38 = .ok (.ifCond .eq 9, 3) := by decide +kernel
theorem d65_41 : decode (cm_M 65).2.2.1 41 = .ok (.aload_n 0, 1) := by decide +kernel
theorem d65_42 : decode (cm_M 65).2.2.1 42 = .ok (.getfield 42, 3) := by decide +kernel
theorem d65_45 : decode (cm_M 65).2.2.1 45 = .ok (.l2i, 1) := by decide +kernel
theorem d65_46 : decode (cm_M 65).2.2.1 46 = .ok (.ireturn, 1) := by decide +kernel
theorem d65_47 : decode (cm_M 65).2.2.1 47 = .ok (.aload_n 0, 1) := by decide +kernel
theorem d65_48 : decode (cm_M 65).2.2.1 48 = .ok (.invokevirtual 26, 3) := by decide +kernel
theorem d65_51 : decode (cm_M 65).2.2.1 51 = .ok (.istore_n 3, 1) := by decide +kernel
theorem d65_52 : decode (cm_M 65).2.2.1 52 = .ok (.iinc 4 1, 3) := by decide +kernel
theorem d65_55 : decode (cm_M 65).2.2.1 55 = .ok (.goto (-45), 3) := by decide +kernel
theorem d65_58 : decode (cm_M 65).2.2.1 58 = .ok (.iconst 0, 1) := by decide +kernel
theorem d65_59 : decode (cm_M 65).2.2.1 59 = .ok (.ireturn, 1) := by decide +kernel
theorem s65_0 {sc : cmS} {d : Nat} {h : cmH} {Q : Option Value → cmH → Prop} (L : LY h) (x1 : Int32) (a2 : Nat) (u3 : Option Value) (u4 : Option Value) (H : cm_cv sc d 40 [.ref 9, .ref a2] h (fun h' => cm_wp sc (d + 1) 65 5 [some (.ref 9), some (.int x1), some (.ref a2), u3, u4] [] h' Q)) : cm_wp sc (d + 1) 65 0 [some (.ref 9), some (.int x1), some (.ref a2), u3, u4] [] h Q :=
  wl_st d65_0 rfl rfl rfl rfl (wl_st d65_1 rfl rfl rfl rfl (wl_cv d65_2 rfl rfl rfl pm6_19 (by decide) (ca_v (Or.inl rfl) rfl (Nat.le_of_ble_eq_true rfl) (Nat.le_of_ble_eq_true rfl) (ly_k L 9 rfl).2 (ly_k L 9 rfl).1 (by decide)) H))
theorem s65_5 {sc : cmS} {d : Nat} {h : cmH} {Q : Option Value → cmH → Prop} (x1 : Int32) (a2 : Nat) (u3 : Option Value) (u4 : Option Value) (H : cm_wp sc d 65 10 [some (.ref 9), some (.int x1), some (.ref a2), some (.int (1 : Int32)), some (.int (0 : Int32))] [] h Q) : cm_wp sc d 65 5 [some (.ref 9), some (.int x1), some (.ref a2), u3, u4] [] h Q :=
  wl_ic (v := 1) d65_5 rfl (wl_st (ls' := [some (.ref 9), some (.int x1), some (.ref a2), some (.int (1 : Int32)), u4]) d65_6 rfl rfl rfl rfl (wl_ic (v := 0) d65_7 rfl (wl_st (ls' := [some (.ref 9), some (.int x1), some (.ref a2), some (.int (1 : Int32)), some (.int (0 : Int32))]) d65_8 rfl rfl rfl rfl (H))))
theorem s65_10 {sc : cmS} {d : Nat} {h : cmH} {Q : Option Value → cmH → Prop} (L : LY h) (x1 : Int32) (a2 : Nat) (x3 : Int32) (x4 : Int32) (H : ((((160 : Int32) < x4) → Q (some (.int (0 : Int32))) h) ∧ (¬ ((160 : Int32) < x4) → (((x3 = 0) → Q (some (.int (0 : Int32))) h) ∧ (¬ (x3 = 0) → cm_cv sc d 41 [.ref 9] h (fun h' => cm_wp sc (d + 1) 65 26 [some (.ref 9), some (.int x1), some (.ref a2), some (.int x3), some (.int x4)] [] h' Q)))))) : cm_wp sc (d + 1) 65 10 [some (.ref 9), some (.int x1), some (.ref a2), some (.int x3), some (.int x4)] [] h Q :=
  wl_st d65_10 rfl rfl rfl rfl (wl_si (v := 160) d65_12 rfl (wl_cb (b := (160 : Int32) < x4) (off := 43) (tgt := 58) (pc3 := 18) (st' := []) d65_15 rfl rfl rfl rfl (by decide) rfl (fun c1 => wl_ic (v := 0) d65_58 rfl (wl_rt d65_59 rfl rfl rfl (H.1 c1))) (fun c1 => wl_st d65_18 rfl rfl rfl rfl (wl_cb (b := x3 = 0) (off := 39) (tgt := 58) (pc3 := 22) (st' := []) d65_19 rfl rfl rfl rfl (by decide) rfl (fun c2 => wl_ic (v := 0) d65_58 rfl (wl_rt d65_59 rfl rfl rfl ((H.2 c1).1 c2))) (fun c2 => wl_st d65_22 rfl rfl rfl rfl (wl_cv d65_23 rfl rfl rfl pm6_23 (by decide) (ca_v (Or.inl rfl) rfl (Nat.le_of_ble_eq_true rfl) (Nat.le_of_ble_eq_true rfl) (ly_k L 9 rfl).2 (ly_k L 9 rfl).1 (by decide)) ((H.2 c1).2 c2)))))))
theorem s65_26 {sc : cmS} {d : Nat} {h : cmH} {Q : Option Value → cmH → Prop} (L : LY h) (x1 : Int32) (a2 : Nat) (x3 : Int32) (x4 : Int32) (H : (((¬ (cm_I h 9 5) = x1) → cm_wp sc d 65 47 [some (.ref 9), some (.int x1), some (.ref a2), some (.int x3), some (.int x4)] [] h Q) ∧ (¬ (¬ (cm_I h 9 5) = x1) → ((((cm_I h 9 6) = 0) → cm_wp sc d 65 47 [some (.ref 9), some (.int x1), some (.ref a2), some (.int x3), some (.int x4)] [] h Q) ∧ (¬ ((cm_I h 9 6) = 0) → Q (some (.int ((cm_J h 9 7).toInt32))) h))))) : cm_wp sc d 65 26 [some (.ref 9), some (.int x1), some (.ref a2), some (.int x3), some (.int x4)] [] h Q :=
  wl_st d65_26 rfl rfl rfl rfl (wl_gf (v := .int (cm_I h 9 5)) d65_27 pf6_34 (ly_k L 9 rfl) rfl (wl_st d65_30 rfl rfl rfl rfl (wl_cb (b := ¬ (cm_I h 9 5) = x1) (off := 16) (tgt := 47) (pc3 := 34) (st' := []) d65_31 rfl rfl rfl rfl (by decide) rfl (fun c1 => (H.1 c1)) (fun c1 => wl_st d65_34 rfl rfl rfl rfl (wl_gf (v := .int (cm_I h 9 6)) d65_35 pf6_38 (ly_k L 9 rfl) rfl (wl_cb (b := (cm_I h 9 6) = 0) (off := 9) (tgt := 47) (pc3 := 41) (st' := []) d65_38 rfl rfl rfl rfl (by decide) rfl (fun c2 => ((H.2 c1).1 c2)) (fun c2 => wl_st d65_41 rfl rfl rfl rfl (wl_gf (v := .long (cm_J h 9 7)) d65_42 pf6_42 (ly_k L 9 rfl) rfl (wl_st d65_45 rfl rfl rfl rfl (wl_rt d65_46 rfl rfl rfl ((H.2 c1).2 c2)))))))))))
theorem s65_47 {sc : cmS} {d : Nat} {h : cmH} {Q : Option Value → cmH → Prop} (L : LY h) (x1 : Int32) (a2 : Nat) (x3 : Int32) (x4 : Int32) (H : cm_ci sc d 54 [.ref 9] h (fun r h' => cm_wp sc (d + 1) 65 51 [some (.ref 9), some (.int x1), some (.ref a2), some (.int x3), some (.int x4)] [.int r] h' Q)) : cm_wp sc (d + 1) 65 47 [some (.ref 9), some (.int x1), some (.ref a2), some (.int x3), some (.int x4)] [] h Q :=
  wl_st d65_47 rfl rfl rfl rfl (wl_ci d65_48 rfl rfl rfl pm6_26 (by decide) (ca_v (Or.inl rfl) rfl (Nat.le_of_ble_eq_true rfl) (Nat.le_of_ble_eq_true rfl) (ly_k L 9 rfl).2 (ly_k L 9 rfl).1 (by decide)) H)
theorem s65_51 {sc : cmS} {d : Nat} {h : cmH} {Q : Option Value → cmH → Prop} (x1 : Int32) (a2 : Nat) (x3 : Int32) (x4 : Int32) (sx0 : Int32) (H : cm_wp sc d 65 10 [some (.ref 9), some (.int x1), some (.ref a2), some (.int sx0), some (.int (x4 + 1))] [] h Q) : cm_wp sc d 65 51 [some (.ref 9), some (.int x1), some (.ref a2), some (.int x3), some (.int x4)] [.int sx0] h Q :=
  wl_st (ls' := [some (.ref 9), some (.int x1), some (.ref a2), some (.int sx0), some (.int x4)]) d65_51 rfl rfl rfl rfl (wl_st (ls' := [some (.ref 9), some (.int x1), some (.ref a2), some (.int sx0), some (.int (x4 + 1))]) d65_52 rfl rfl rfl rfl (wl_go (tgt := 10) d65_55 (by decide) (H)))
-- ClogHouse$Readings.<init>()V
theorem d10_0 : decode (cm_M 10).2.2.1 0 = .ok (.aload_n 0, 1) := by decide +kernel
theorem d10_1 : decode (cm_M 10).2.2.1 1 = .ok (.invokespecial 3, 3) := by decide +kernel
theorem d10_4 : decode (cm_M 10).2.2.1 4 = .ok (.aload_n 0, 1) := by decide +kernel
theorem d10_5 : decode (cm_M 10).2.2.1 5 = .ok (.bipush 100, 2) := by decide +kernel
theorem d10_7 : decode (cm_M 10).2.2.1 7 = .ok (.newarray .int, 2) := by decide +kernel
theorem d10_9 : decode (cm_M 10).2.2.1 9 = .ok (.putfield 9, 3) := by decide +kernel
theorem d10_12 : decode (cm_M 10).2.2.1 12 = .ok (.aload_n 0, 1) := by decide +kernel
theorem d10_13 : decode (cm_M 10).2.2.1 13 = .ok (.bipush 100, 2) := by decide +kernel
theorem d10_15 : decode (cm_M 10).2.2.1 15 = .ok (.newarray .int, 2) := by decide +kernel
theorem d10_17 : decode (cm_M 10).2.2.1 17 = .ok (.putfield 15, 3) := by decide +kernel
theorem d10_20 : decode (cm_M 10).2.2.1 20 = .ok (.aload_n 0, 1) := by decide +kernel
theorem d10_21 : decode (cm_M 10).2.2.1 21 = .ok (.bipush 100, 2) := by decide +kernel
theorem d10_23 : decode (cm_M 10).2.2.1 23 = .ok (.newarray .int, 2) := by decide +kernel
theorem d10_25 : decode (cm_M 10).2.2.1 25 = .ok (.putfield 18, 3) := by decide +kernel
theorem d10_28 : decode (cm_M 10).2.2.1 28 = .ok (.aload_n 0, 1) := by decide +kernel
theorem d10_29 : decode (cm_M 10).2.2.1 29 = .ok (.bipush 100, 2) := by decide +kernel
theorem d10_31 : decode (cm_M 10).2.2.1 31 = .ok (.newarray .int, 2) := by decide +kernel
theorem d10_33 : decode (cm_M 10).2.2.1 33 = .ok (.putfield 21, 3) := by decide +kernel
theorem d10_36 : decode (cm_M 10).2.2.1 36 = .ok (.return_, 1) := by decide +kernel
theorem s10_0 {sc : cmS} {d : Nat} {h : cmH} {Q : Option Value → cmH → Prop} (a0 : Nat) (H : cm_wp sc (d + 1) 10 9 [some (.ref a0)] [.ref (cm_n h), .ref a0] (cm_mk h 13 100) Q) : cm_wp sc (d + 1) 10 0 [some (.ref a0)] [] h Q :=
  wl_st d10_0 rfl rfl rfl rfl (wl_pr (st' := []) d10_1 rfl rfl rfl pm7_3 (by decide) rfl rfl (wl_st d10_4 rfl rfl rfl rfl (wl_bi (v := 100) d10_5 rfl (wl_na (kd := 13) (N := 100) d10_7 (by decide) (by decide) rfl (H)))))
theorem s10_9 {sc : cmS} {d : Nat} {h : cmH} {Q : Option Value → cmH → Prop} (a0 : Nat) (sa0 : Nat) (sa1 : Nat) (H : (cm_kd h sa1 = 7 ∧ sa1 < cm_n h) ∧ cm_wp sc d 10 17 [some (.ref a0)] [.ref (cm_n (cm_setR h sa1 0 (some sa0))), .ref a0] (cm_mk (cm_setR h sa1 0 (some sa0)) 13 100) Q) : cm_wp sc d 10 9 [some (.ref a0)] [.ref sa0, .ref sa1] h Q :=
  And.elim (fun g1 g1k => wl_pf (h' := (cm_setR h sa1 0 (some sa0))) d10_9 pf7_9 g1 (Or.inr ⟨rfl, rfl, rfl⟩) rfl (wl_st d10_12 rfl rfl rfl rfl (wl_bi (v := 100) d10_13 rfl (wl_na (kd := 13) (N := 100) d10_15 (by decide) (by decide) rfl (g1k))))) H
theorem s10_17 {sc : cmS} {d : Nat} {h : cmH} {Q : Option Value → cmH → Prop} (a0 : Nat) (sa0 : Nat) (sa1 : Nat) (H : (cm_kd h sa1 = 7 ∧ sa1 < cm_n h) ∧ cm_wp sc d 10 25 [some (.ref a0)] [.ref (cm_n (cm_setR h sa1 1 (some sa0))), .ref a0] (cm_mk (cm_setR h sa1 1 (some sa0)) 13 100) Q) : cm_wp sc d 10 17 [some (.ref a0)] [.ref sa0, .ref sa1] h Q :=
  And.elim (fun g1 g1k => wl_pf (h' := (cm_setR h sa1 1 (some sa0))) d10_17 pf7_15 g1 (Or.inr ⟨rfl, rfl, rfl⟩) rfl (wl_st d10_20 rfl rfl rfl rfl (wl_bi (v := 100) d10_21 rfl (wl_na (kd := 13) (N := 100) d10_23 (by decide) (by decide) rfl (g1k))))) H
theorem s10_25 {sc : cmS} {d : Nat} {h : cmH} {Q : Option Value → cmH → Prop} (a0 : Nat) (sa0 : Nat) (sa1 : Nat) (H : (cm_kd h sa1 = 7 ∧ sa1 < cm_n h) ∧ cm_wp sc d 10 33 [some (.ref a0)] [.ref (cm_n (cm_setR h sa1 2 (some sa0))), .ref a0] (cm_mk (cm_setR h sa1 2 (some sa0)) 13 100) Q) : cm_wp sc d 10 25 [some (.ref a0)] [.ref sa0, .ref sa1] h Q :=
  And.elim (fun g1 g1k => wl_pf (h' := (cm_setR h sa1 2 (some sa0))) d10_25 pf7_18 g1 (Or.inr ⟨rfl, rfl, rfl⟩) rfl (wl_st d10_28 rfl rfl rfl rfl (wl_bi (v := 100) d10_29 rfl (wl_na (kd := 13) (N := 100) d10_31 (by decide) (by decide) rfl (g1k))))) H
theorem s10_33 {sc : cmS} {d : Nat} {h : cmH} {Q : Option Value → cmH → Prop} (a0 : Nat) (sa0 : Nat) (sa1 : Nat) (H : (cm_kd h sa1 = 7 ∧ sa1 < cm_n h) ∧ Q none (cm_setR h sa1 3 (some sa0))) : cm_wp sc d 10 33 [some (.ref a0)] [.ref sa0, .ref sa1] h Q :=
  And.elim (fun g1 g1k => wl_pf (h' := (cm_setR h sa1 3 (some sa0))) d10_33 pf7_21 g1 (Or.inr ⟨rfl, rfl, rfl⟩) rfl (wl_rt d10_36 rfl rfl rfl g1k)) H
