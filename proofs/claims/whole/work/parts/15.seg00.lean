-- ClogHouse$Books.<init>()V
theorem d6_0 : decode (cm_M 6).2.2.1 0 = .ok (.aload_n 0, 1) := by decide +kernel
theorem d6_1 : decode (cm_M 6).2.2.1 1 = .ok (.invokespecial 3, 3) := by decide +kernel
theorem d6_4 : decode (cm_M 6).2.2.1 4 = .ok (.aload_n 0, 1) := by decide +kernel
theorem d6_5 : decode (cm_M 6).2.2.1 5 = .ok (.bipush 8, 2) := by decide +kernel
theorem d6_7 : decode (cm_M 6).2.2.1 7 = .ok (.newarray .int, 2) := by decide +kernel
theorem d6_9 : decode (cm_M 6).2.2.1 9 = .ok (.putfield 9, 3) := by decide +kernel
theorem d6_12 : decode (cm_M 6).2.2.1 12 = .ok (.aload_n 0, 1) := by decide +kernel
theorem d6_13 : decode (cm_M 6).2.2.1 13 = .ok (.bipush 8, 2) := by decide +kernel
theorem d6_15 : decode (cm_M 6).2.2.1 15 = .ok (.newarray .int, 2) := by decide +kernel
theorem d6_17 : decode (cm_M 6).2.2.1 17 = .ok (.putfield 15, 3) := by decide +kernel
theorem d6_20 : decode (cm_M 6).2.2.1 20 = .ok (.aload_n 0, 1) := by decide +kernel
theorem d6_21 : decode (cm_M 6).2.2.1 21 = .ok (.bipush 8, 2) := by decide +kernel
theorem d6_23 : decode (cm_M 6).2.2.1 23 = .ok (.newarray .int, 2) := by decide +kernel
theorem d6_25 : decode (cm_M 6).2.2.1 25 = .ok (.putfield 18, 3) := by decide +kernel
theorem d6_28 : decode (cm_M 6).2.2.1 28 = .ok (.aload_n 0, 1) := by decide +kernel
theorem d6_29 : decode (cm_M 6).2.2.1 29 = .ok (.bipush 8, 2) := by decide +kernel
theorem d6_31 : decode (cm_M 6).2.2.1 31 = .ok (.newarray .int, 2) := by decide +kernel
theorem d6_33 : decode (cm_M 6).2.2.1 33 = .ok (.putfield 21, 3) := by decide +kernel
theorem d6_36 : decode (cm_M 6).2.2.1 36 = .ok (.aload_n 0, 1) := by decide +kernel
theorem d6_37 : decode (cm_M 6).2.2.1 37 = .ok (.bipush 8, 2) := by decide +kernel
theorem d6_39 : decode (cm_M 6).2.2.1 39 = .ok (.newarray .int, 2) := by decide +kernel
theorem d6_41 : decode (cm_M 6).2.2.1 41 = .ok (.putfield 24, 3) := by decide +kernel
theorem d6_44 : decode (cm_M 6).2.2.1 44 = .ok (.aload_n 0, 1) := by decide +kernel
theorem d6_45 : decode (cm_M 6).2.2.1 45 = .ok (.ldc 27, 2) := by decide +kernel
theorem d6_47 : decode (cm_M 6).2.2.1 47 = .ok (.newarray .int, 2) := by decide +kernel
theorem d6_49 : decode (cm_M 6).2.2.1 49 = .ok (.putfield 28, 3) := by decide +kernel
theorem d6_52 : decode (cm_M 6).2.2.1 52 = .ok (.return_, 1) := by decide +kernel
theorem s6_0 {sc : cmS} {d : Nat} {h : cmH} {Q : Option Value → cmH → Prop} (a0 : Nat) (H : cm_wp sc (d + 1) 6 9 [some (.ref a0)] [.ref (cm_n h), .ref a0] (cm_mk h 13 8) Q) : cm_wp sc (d + 1) 6 0 [some (.ref a0)] [] h Q :=
  wl_st d6_0 rfl rfl rfl rfl (wl_pr (st' := []) d6_1 rfl rfl rfl pm0_3 (by decide) rfl rfl (wl_st d6_4 rfl rfl rfl rfl (wl_bi (v := 8) d6_5 rfl (wl_na (kd := 13) (N := 8) d6_7 (by decide) (by decide) rfl (H)))))
theorem s6_9 {sc : cmS} {d : Nat} {h : cmH} {Q : Option Value → cmH → Prop} (a0 : Nat) (sa0 : Nat) (sa1 : Nat) (H : (cm_kd h sa1 = 0 ∧ sa1 < cm_n h) ∧ cm_wp sc d 6 17 [some (.ref a0)] [.ref (cm_n (cm_setR h sa1 0 (some sa0))), .ref a0] (cm_mk (cm_setR h sa1 0 (some sa0)) 13 8) Q) : cm_wp sc d 6 9 [some (.ref a0)] [.ref sa0, .ref sa1] h Q :=
  And.elim (fun g1 g1k => wl_pf (h' := (cm_setR h sa1 0 (some sa0))) d6_9 pf0_9 g1 (Or.inr ⟨rfl, rfl, rfl⟩) rfl (wl_st d6_12 rfl rfl rfl rfl (wl_bi (v := 8) d6_13 rfl (wl_na (kd := 13) (N := 8) d6_15 (by decide) (by decide) rfl (g1k))))) H
theorem s6_17 {sc : cmS} {d : Nat} {h : cmH} {Q : Option Value → cmH → Prop} (a0 : Nat) (sa0 : Nat) (sa1 : Nat) (H : (cm_kd h sa1 = 0 ∧ sa1 < cm_n h) ∧ cm_wp sc d 6 25 [some (.ref a0)] [.ref (cm_n (cm_setR h sa1 1 (some sa0))), .ref a0] (cm_mk (cm_setR h sa1 1 (some sa0)) 13 8) Q) : cm_wp sc d 6 17 [some (.ref a0)] [.ref sa0, .ref sa1] h Q :=
  And.elim (fun g1 g1k => wl_pf (h' := (cm_setR h sa1 1 (some sa0))) d6_17 pf0_15 g1 (Or.inr ⟨rfl, rfl, rfl⟩) rfl (wl_st d6_20 rfl rfl rfl rfl (wl_bi (v := 8) d6_21 rfl (wl_na (kd := 13) (N := 8) d6_23 (by decide) (by decide) rfl (g1k))))) H
theorem s6_25 {sc : cmS} {d : Nat} {h : cmH} {Q : Option Value → cmH → Prop} (a0 : Nat) (sa0 : Nat) (sa1 : Nat) (H : (cm_kd h sa1 = 0 ∧ sa1 < cm_n h) ∧ cm_wp sc d 6 33 [some (.ref a0)] [.ref (cm_n (cm_setR h sa1 2 (some sa0))), .ref a0] (cm_mk (cm_setR h sa1 2 (some sa0)) 13 8) Q) : cm_wp sc d 6 25 [some (.ref a0)] [.ref sa0, .ref sa1] h Q :=
  And.elim (fun g1 g1k => wl_pf (h' := (cm_setR h sa1 2 (some sa0))) d6_25 pf0_18 g1 (Or.inr ⟨rfl, rfl, rfl⟩) rfl (wl_st d6_28 rfl rfl rfl rfl (wl_bi (v := 8) d6_29 rfl (wl_na (kd := 13) (N := 8) d6_31 (by decide) (by decide) rfl (g1k))))) H
theorem s6_33 {sc : cmS} {d : Nat} {h : cmH} {Q : Option Value → cmH → Prop} (a0 : Nat) (sa0 : Nat) (sa1 : Nat) (H : (cm_kd h sa1 = 0 ∧ sa1 < cm_n h) ∧ cm_wp sc d 6 41 [some (.ref a0)] [.ref (cm_n (cm_setR h sa1 3 (some sa0))), .ref a0] (cm_mk (cm_setR h sa1 3 (some sa0)) 13 8) Q) : cm_wp sc d 6 33 [some (.ref a0)] [.ref sa0, .ref sa1] h Q :=
  And.elim (fun g1 g1k => wl_pf (h' := (cm_setR h sa1 3 (some sa0))) d6_33 pf0_21 g1 (Or.inr ⟨rfl, rfl, rfl⟩) rfl (wl_st d6_36 rfl rfl rfl rfl (wl_bi (v := 8) d6_37 rfl (wl_na (kd := 13) (N := 8) d6_39 (by decide) (by decide) rfl (g1k))))) H
theorem s6_41 {sc : cmS} {d : Nat} {h : cmH} {Q : Option Value → cmH → Prop} (a0 : Nat) (sa0 : Nat) (sa1 : Nat) (H : (cm_kd h sa1 = 0 ∧ sa1 < cm_n h) ∧ cm_wp sc d 6 49 [some (.ref a0)] [.ref (cm_n (cm_setR h sa1 4 (some sa0))), .ref a0] (cm_mk (cm_setR h sa1 4 (some sa0)) 13 48000) Q) : cm_wp sc d 6 41 [some (.ref a0)] [.ref sa0, .ref sa1] h Q :=
  And.elim (fun g1 g1k => wl_pf (h' := (cm_setR h sa1 4 (some sa0))) d6_41 pf0_24 g1 (Or.inr ⟨rfl, rfl, rfl⟩) rfl (wl_st d6_44 rfl rfl rfl rfl (wl_cI (v := 48000) d6_45 pc0_27 (wl_na (kd := 13) (N := 48000) d6_47 (by decide) (by decide) rfl (g1k))))) H
theorem s6_49 {sc : cmS} {d : Nat} {h : cmH} {Q : Option Value → cmH → Prop} (a0 : Nat) (sa0 : Nat) (sa1 : Nat) (H : (cm_kd h sa1 = 0 ∧ sa1 < cm_n h) ∧ Q none (cm_setR h sa1 5 (some sa0))) : cm_wp sc d 6 49 [some (.ref a0)] [.ref sa0, .ref sa1] h Q :=
  And.elim (fun g1 g1k => wl_pf (h' := (cm_setR h sa1 5 (some sa0))) d6_49 pf0_28 g1 (Or.inr ⟨rfl, rfl, rfl⟩) rfl (wl_rt d6_52 rfl rfl rfl g1k)) H
-- ClogHouse$Books.noteCarried(II)V
theorem d68_0 : decode (cm_M 68).2.2.1 0 = .ok (.aload_n 0, 1) := by decide +kernel
theorem d68_1 : decode (cm_M 68).2.2.1 1 = .ok (.getfield 18, 3) := by decide +kernel
theorem d68_4 : decode (cm_M 68).2.2.1 4 = .ok (.iload_n 1, 1) := by decide +kernel
theorem d68_5 : decode (cm_M 68).2.2.1 5 = .ok (.dup2, 1) := by decide +kernel
theorem d68_6 : decode (cm_M 68).2.2.1 6 = .ok (.iaload, 1) := by decide +kernel
theorem d68_7 : decode (cm_M 68).2.2.1 7 = .ok (.iload_n 2, 1) := by decide +kernel
theorem d68_8 : decode (cm_M 68).2.2.1 8 = .ok (.iadd, 1) := by decide +kernel
theorem d68_9 : decode (cm_M 68).2.2.1 9 = .ok (.iastore, 1) := by decide +kernel
theorem d68_10 : decode (cm_M 68).2.2.1 10 = .ok (.return_, 1) := by decide +kernel
theorem s68_0 {sc : cmS} {d : Nat} {h : cmH} {Q : Option Value → cmH → Prop} (L : LY h) (x1 : Int32) (x2 : Int32) (H : (IX 8 x1) ∧ Q none (cm_setI h 17 x1.toNatClampNeg ((cm_I h 17 x1.toNatClampNeg) + x2))) : cm_wp sc d 68 0 [some (.ref 14), some (.int x1), some (.int x2)] [] h Q :=
  wl_st d68_0 rfl rfl rfl rfl (wl_gr (b := 17) d68_1 pf0_18 (ly_k L 14 rfl) rfl (ly_r L 14 2 rfl) (wl_st d68_4 rfl rfl rfl rfl (wl_st d68_5 rfl rfl rfl rfl (And.elim (fun g1 g1k => wl_if (g := cm_ok h 13 17 x1) (st' := [.int (cm_I h 17 x1.toNatClampNeg), .int x1, .ref 17]) d68_6 rfl rfl rfl rfl (ly_o L 17 rfl g1) (wl_st d68_7 rfl rfl rfl rfl (wl_st d68_8 rfl rfl rfl rfl (wl_if (h' := (cm_setI h 17 x1.toNatClampNeg ((cm_I h 17 x1.toNatClampNeg) + x2))) d68_9 rfl rfl rfl rfl (ly_o L 17 rfl g1) (wl_rt d68_10 rfl rfl rfl g1k))))) H))))
-- ClogHouse$Books.noteWashed(II)V
theorem d74_0 : decode (cm_M 74).2.2.1 0 = .ok (.aload_n 0, 1) := by decide +kernel
theorem d74_1 : decode (cm_M 74).2.2.1 1 = .ok (.getfield 15, 3) := by decide +kernel
theorem d74_4 : decode (cm_M 74).2.2.1 4 = .ok (.iload_n 1, 1) := by decide +kernel
theorem d74_5 : decode (cm_M 74).2.2.1 5 = .ok (.dup2, 1) := by decide +kernel
theorem d74_6 : decode (cm_M 74).2.2.1 6 = .ok (.iaload, 1) := by decide +kernel
theorem d74_7 : decode (cm_M 74).2.2.1 7 = .ok (.iload_n 2, 1) := by decide +kernel
theorem d74_8 : decode (cm_M 74).2.2.1 8 = .ok (.iadd, 1) := by decide +kernel
theorem d74_9 : decode (cm_M 74).2.2.1 9 = .ok (.iastore, 1) := by decide +kernel
theorem d74_10 : decode (cm_M 74).2.2.1 10 = .ok (.return_, 1) := by decide +kernel
theorem s74_0 {sc : cmS} {d : Nat} {h : cmH} {Q : Option Value → cmH → Prop} (L : LY h) (x1 : Int32) (x2 : Int32) (H : (IX 8 x1) ∧ Q none (cm_setI h 16 x1.toNatClampNeg ((cm_I h 16 x1.toNatClampNeg) + x2))) : cm_wp sc d 74 0 [some (.ref 14), some (.int x1), some (.int x2)] [] h Q :=
  wl_st d74_0 rfl rfl rfl rfl (wl_gr (b := 16) d74_1 pf0_15 (ly_k L 14 rfl) rfl (ly_r L 14 1 rfl) (wl_st d74_4 rfl rfl rfl rfl (wl_st d74_5 rfl rfl rfl rfl (And.elim (fun g1 g1k => wl_if (g := cm_ok h 13 16 x1) (st' := [.int (cm_I h 16 x1.toNatClampNeg), .int x1, .ref 16]) d74_6 rfl rfl rfl rfl (ly_o L 16 rfl g1) (wl_st d74_7 rfl rfl rfl rfl (wl_st d74_8 rfl rfl rfl rfl (wl_if (h' := (cm_setI h 16 x1.toNatClampNeg ((cm_I h 16 x1.toNatClampNeg) + x2))) d74_9 rfl rfl rfl rfl (ly_o L 16 rfl g1) (wl_rt d74_10 rfl rfl rfl g1k))))) H))))
-- ClogHouse$Books.noteCame(III)V
theorem d79_0 : decode (cm_M 79).2.2.1 0 = .ok (.aload_n 0, 1) := by decide +kernel
theorem d79_1 : decode (cm_M 79).2.2.1 1 = .ok (.iconst 0, 1) := by decide +kernel
theorem d79_2 : decode (cm_M 79).2.2.1 2 = .ok (.iload_n 1, 1) := by decide +kernel
theorem d79_3 : decode (cm_M 79).2.2.1 3 = .ok (.iload_n 2, 1) := by decide +kernel
theorem d79_4 : decode (cm_M 79).2.2.1 4 = .ok (.iload_n 3, 1) := by decide +kernel
theorem d79_5 : decode (cm_M 79).2.2.1 5 = .ok (.invokevirtual 35, 3) := by decide +kernel
theorem d79_8 : decode (cm_M 79).2.2.1 8 = .ok (.aload_n 0, 1) := by decide +kernel
theorem d79_9 : decode (cm_M 79).2.2.1 9 = .ok (.getfield 9, 3) := by decide +kernel
theorem d79_12 : decode (cm_M 79).2.2.1 12 = .ok (.iload_n 2, 1) := by decide +kernel
theorem d79_13 : decode (cm_M 79).2.2.1 13 = .ok (.dup2, 1) := by decide +kernel
theorem d79_14 : decode (cm_M 79).2.2.1 14 = .ok (.iaload, 1) := by decide +kernel
theorem d79_15 : decode (cm_M 79).2.2.1 15 = .ok (.iload_n 3, 1) := by decide +kernel
theorem d79_16 : decode (cm_M 79).2.2.1 16 = .ok (.iadd, 1) := by decide +kernel
theorem d79_17 : decode (cm_M 79).2.2.1 17 = .ok (.iastore, 1) := by decide +kernel
theorem d79_18 : decode (cm_M 79).2.2.1 18 = .ok (.return_, 1) := by decide +kernel
theorem s79_0 {sc : cmS} {d : Nat} {h : cmH} {Q : Option Value → cmH → Prop} (L : LY h) (x1 : Int32) (x2 : Int32) (x3 : Int32) (H : cm_cv sc d 80 [.ref 14, .int (0 : Int32), .int x1, .int x2, .int x3] h (fun h' => cm_wp sc (d + 1) 79 8 [some (.ref 14), some (.int x1), some (.int x2), some (.int x3)] [] h' Q)) : cm_wp sc (d + 1) 79 0 [some (.ref 14), some (.int x1), some (.int x2), some (.int x3)] [] h Q :=
  wl_st d79_0 rfl rfl rfl rfl (wl_ic (v := 0) d79_1 rfl (wl_st d79_2 rfl rfl rfl rfl (wl_st d79_3 rfl rfl rfl rfl (wl_st d79_4 rfl rfl rfl rfl (wl_cv d79_5 rfl rfl rfl pm0_35 (by decide) (ca_v (Or.inl rfl) rfl (Nat.le_of_ble_eq_true rfl) (Nat.le_of_ble_eq_true rfl) (ly_k L 14 rfl).2 (ly_k L 14 rfl).1 (by decide)) H)))))
theorem s79_8 {sc : cmS} {d : Nat} {h : cmH} {Q : Option Value → cmH → Prop} (L : LY h) (x1 : Int32) (x2 : Int32) (x3 : Int32) (H : (IX 8 x2) ∧ Q none (cm_setI h 15 x2.toNatClampNeg ((cm_I h 15 x2.toNatClampNeg) + x3))) : cm_wp sc d 79 8 [some (.ref 14), some (.int x1), some (.int x2), some (.int x3)] [] h Q :=
  wl_st d79_8 rfl rfl rfl rfl (wl_gr (b := 15) d79_9 pf0_9 (ly_k L 14 rfl) rfl (ly_r L 14 0 rfl) (wl_st d79_12 rfl rfl rfl rfl (wl_st d79_13 rfl rfl rfl rfl (And.elim (fun g1 g1k => wl_if (g := cm_ok h 13 15 x2) (st' := [.int (cm_I h 15 x2.toNatClampNeg), .int x2, .ref 15]) d79_14 rfl rfl rfl rfl (ly_o L 15 rfl g1) (wl_st d79_15 rfl rfl rfl rfl (wl_st d79_16 rfl rfl rfl rfl (wl_if (h' := (cm_setI h 15 x2.toNatClampNeg ((cm_I h 15 x2.toNatClampNeg) + x3))) d79_17 rfl rfl rfl rfl (ly_o L 15 rfl g1) (wl_rt d79_18 rfl rfl rfl g1k))))) H))))
-- ClogHouse$Books.note(IIII)V
theorem d80_0 : decode (cm_M 80).2.2.1 0 = .ok (.iload_n 1, 1) := by decide +kernel
theorem d80_1 : decode (cm_M 80).2.2.1 1 = .ok (.iload_n 2, 1) := by decide +kernel
theorem d80_2 : decode (cm_M 80).2.2.1 2 = .ok (.iload_n 3, 1) := by decide +kernel
theorem d80_3 : decode (cm_M 80).2.2.1 3 = .ok (.invokestatic 31, 3) := by decide +kernel
theorem d80_6 : decode (cm_M 80).2.2.1 6 = .ok (.istore 5, 2) := by decide +kernel
theorem d80_8 : decode (cm_M 80).2.2.1 8 = .ok (.iload 5, 2) := by decide +kernel
theorem d80_10 : decode (cm_M 80).2.2.1 10 = .ok (.ifCond .lt 25, 3) := by decide +kernel
theorem d80_13 : decode (cm_M 80).2.2.1 13 = .ok (.iload 5, 2) := by decide +kernel
theorem d80_15 : decode (cm_M 80).2.2.1 15 = .ok (.aload_n 0, 1) := by decide +kernel
theorem d80_16 : decode (cm_M 80).2.2.1 16 = .ok (.getfield 28, 3) := by decide +kernel
theorem d80_19 : decode (cm_M 80).2.2.1 19 = .ok (.arraylength, 1) := by decide +kernel
theorem d80_20 : decode (cm_M 80).2.2.1 20 = .ok (.if_icmp .ge 15, 3) := by decide +kernel
theorem d80_23 : decode (cm_M 80).2.2.1 23 = .ok (.aload_n 0, 1) := by decide +kernel
theorem d80_24 : decode (cm_M 80).2.2.1 24 = .ok (.getfield 28, 3) := by decide +kernel
theorem d80_27 : decode (cm_M 80).2.2.1 27 = .ok (.iload 5, 2) := by decide +kernel
theorem d80_29 : decode (cm_M 80).2.2.1 29 = .ok (.dup2, 1) := by decide +kernel
theorem d80_30 : decode (cm_M 80).2.2.1 30 = .ok (.iaload, 1) := by decide +kernel
theorem d80_31 : decode (cm_M 80).2.2.1 31 = .ok (.iload 4, 2) := by decide +kernel
theorem d80_33 : decode (cm_M 80).2.2.1 33 = .ok (.iadd, 1) := by decide +kernel
theorem d80_34 : decode (cm_M 80).2.2.1 34 = .ok (.iastore, 1) := by decide +kernel
theorem d80_35 : decode (cm_M 80).2.2.1 35 = .ok (.return_, 1) := by decide +kernel
theorem s80_0 {sc : cmS} {d : Nat} {h : cmH} {Q : Option Value → cmH → Prop} (x1 : Int32) (x2 : Int32) (x3 : Int32) (x4 : Int32) (u5 : Option Value) (H : cm_ci sc d 81 [.int x1, .int x2, .int x3] h (fun r h' => cm_wp sc (d + 1) 80 6 [some (.ref 14), some (.int x1), some (.int x2), some (.int x3), some (.int x4), u5] [.int r] h' Q)) : cm_wp sc (d + 1) 80 0 [some (.ref 14), some (.int x1), some (.int x2), some (.int x3), some (.int x4), u5] [] h Q :=
  wl_st d80_0 rfl rfl rfl rfl (wl_st d80_1 rfl rfl rfl rfl (wl_st d80_2 rfl rfl rfl rfl (wl_ci d80_3 rfl rfl rfl pm0_31 (by decide) (ca_s (Or.inl rfl) rfl (Nat.le_of_ble_eq_true rfl) (Nat.le_of_ble_eq_true rfl)) H)))
theorem s80_6 {sc : cmS} {d : Nat} {h : cmH} {Q : Option Value → cmH → Prop} (L : LY h) (x1 : Int32) (x2 : Int32) (x3 : Int32) (x4 : Int32) (u5 : Option Value) (sx0 : Int32) (H : (((sx0 < 0) → Q none h) ∧ (¬ (sx0 < 0) → ((((48000 : Int32) ≤ sx0) → Q none h) ∧ (¬ ((48000 : Int32) ≤ sx0) → (IX 48000 sx0) ∧ Q none (cm_setI h 20 sx0.toNatClampNeg ((cm_I h 20 sx0.toNatClampNeg) + x4))))))) : cm_wp sc d 80 6 [some (.ref 14), some (.int x1), some (.int x2), some (.int x3), some (.int x4), u5] [.int sx0] h Q :=
  wl_st (ls' := [some (.ref 14), some (.int x1), some (.int x2), some (.int x3), some (.int x4), some (.int sx0)]) d80_6 rfl rfl rfl rfl (wl_st d80_8 rfl rfl rfl rfl (wl_cb (b := sx0 < 0) (off := 25) (tgt := 35) (pc3 := 13) (st' := []) d80_10 rfl rfl rfl rfl (by decide) rfl (fun c1 => wl_rt d80_35 rfl rfl rfl (H.1 c1)) (fun c1 => wl_st d80_13 rfl rfl rfl rfl (wl_st d80_15 rfl rfl rfl rfl (wl_gr (b := 20) d80_16 pf0_28 (ly_k L 14 rfl) rfl (ly_r L 14 5 rfl) (wl_aln (v := 48000) d80_19 (ly_la L 20 rfl) rfl (wl_cb (b := (48000 : Int32) ≤ sx0) (off := 15) (tgt := 35) (pc3 := 23) (st' := []) d80_20 rfl rfl rfl rfl (by decide) rfl (fun c2 => wl_rt d80_35 rfl rfl rfl ((H.2 c1).1 c2)) (fun c2 => wl_st d80_23 rfl rfl rfl rfl (wl_gr (b := 20) d80_24 pf0_28 (ly_k L 14 rfl) rfl (ly_r L 14 5 rfl) (wl_st d80_27 rfl rfl rfl rfl (wl_st d80_29 rfl rfl rfl rfl (And.elim (fun g3 g3k => wl_if (g := cm_ok h 13 20 sx0) (st' := [.int (cm_I h 20 sx0.toNatClampNeg), .int sx0, .ref 20]) d80_30 rfl rfl rfl rfl (ly_o L 20 rfl g3) (wl_st d80_31 rfl rfl rfl rfl (wl_st d80_33 rfl rfl rfl rfl (wl_if (h' := (cm_setI h 20 sx0.toNatClampNeg ((cm_I h 20 sx0.toNatClampNeg) + x4))) d80_34 rfl rfl rfl rfl (ly_o L 20 rfl g3) (wl_rt d80_35 rfl rfl rfl g3k))))) ((H.2 c1).2 c2)))))))))))))
-- ClogHouse$Books.place(III)I
theorem d81_0 : decode (cm_M 81).2.2.1 0 = .ok (.iload_n 1, 1) := by decide +kernel
theorem d81_1 : decode (cm_M 81).2.2.1 1 = .ok (.iconst 1, 1) := by decide +kernel
theorem d81_2 : decode (cm_M 81).2.2.1 2 = .ok (.isub, 1) := by decide +kernel
theorem d81_3 : decode (cm_M 81).2.2.1 3 = .ok (.bipush 24, 2) := by decide +kernel
theorem d81_5 : decode (cm_M 81).2.2.1 5 = .ok (.imul, 1) := by decide +kernel
theorem d81_6 : decode (cm_M 81).2.2.1 6 = .ok (.iload_n 0, 1) := by decide +kernel
theorem d81_7 : decode (cm_M 81).2.2.1 7 = .ok (.bipush 8, 2) := by decide +kernel
theorem d81_9 : decode (cm_M 81).2.2.1 9 = .ok (.imul, 1) := by decide +kernel
theorem d81_10 : decode (cm_M 81).2.2.1 10 = .ok (.iadd, 1) := by decide +kernel
theorem d81_11 : decode (cm_M 81).2.2.1 11 = .ok (.iload_n 2, 1) := by decide +kernel
theorem d81_12 : decode (cm_M 81).2.2.1 12 = .ok (.iadd, 1) := by decide +kernel
theorem d81_13 : decode (cm_M 81).2.2.1 13 = .ok (.ireturn, 1) := by decide +kernel
theorem s81_0 {sc : cmS} {d : Nat} {h : cmH} {Q : Option Value → cmH → Prop} (x0 : Int32) (x1 : Int32) (x2 : Int32) (H : Q (some (.int ((((x1 - (1 : Int32)) * (24 : Int32)) + (x0 * (8 : Int32))) + x2))) h) : cm_wp sc d 81 0 [some (.int x0), some (.int x1), some (.int x2)] [] h Q :=
  wl_st d81_0 rfl rfl rfl rfl (wl_ic (v := 1) d81_1 rfl (wl_st d81_2 rfl rfl rfl rfl (wl_bi (v := 24) d81_3 rfl (wl_st d81_5 rfl rfl rfl rfl (wl_st d81_6 rfl rfl rfl rfl (wl_bi (v := 8) d81_7 rfl (wl_st d81_9 rfl rfl rfl rfl (wl_st d81_10 rfl rfl rfl rfl (wl_st d81_11 rfl rfl rfl rfl (wl_st d81_12 rfl rfl rfl rfl (wl_rt d81_13 rfl rfl rfl H)))))))))))
-- ClogHouse$Books.noteRound(III)V
theorem d82_0 : decode (cm_M 82).2.2.1 0 = .ok (.aload_n 0, 1) := by decide +kernel
theorem d82_1 : decode (cm_M 82).2.2.1 1 = .ok (.iconst 2, 1) := by decide +kernel
theorem d82_2 : decode (cm_M 82).2.2.1 2 = .ok (.iload_n 1, 1) := by decide +kernel
theorem d82_3 : decode (cm_M 82).2.2.1 3 = .ok (.iload_n 2, 1) := by decide +kernel
theorem d82_4 : decode (cm_M 82).2.2.1 4 = .ok (.iload_n 3, 1) := by decide +kernel
theorem d82_5 : decode (cm_M 82).2.2.1 5 = .ok (.invokevirtual 35, 3) := by decide +kernel
theorem d82_8 : decode (cm_M 82).2.2.1 8 = .ok (.aload_n 0, 1) := by decide +kernel
theorem d82_9 : decode (cm_M 82).2.2.1 9 = .ok (.getfield 24, 3) := by decide +kernel
theorem d82_12 : decode (cm_M 82).2.2.1 12 = .ok (.iload_n 2, 1) := by decide +kernel
theorem d82_13 : decode (cm_M 82).2.2.1 13 = .ok (.dup2, 1) := by decide +kernel
theorem d82_14 : decode (cm_M 82).2.2.1 14 = .ok (.iaload, 1) := by decide +kernel
theorem d82_15 : decode (cm_M 82).2.2.1 15 = .ok (.iload_n 3, 1) := by decide +kernel
theorem d82_16 : decode (cm_M 82).2.2.1 16 = .ok (.iadd, 1) := by decide +kernel
theorem d82_17 : decode (cm_M 82).2.2.1 17 = .ok (.iastore, 1) := by decide +kernel
theorem d82_18 : decode (cm_M 82).2.2.1 18 = .ok (.return_, 1) := by decide +kernel
theorem s82_0 {sc : cmS} {d : Nat} {h : cmH} {Q : Option Value → cmH → Prop} (L : LY h) (x1 : Int32) (x2 : Int32) (x3 : Int32) (H : cm_cv sc d 80 [.ref 14, .int (2 : Int32), .int x1, .int x2, .int x3] h (fun h' => cm_wp sc (d + 1) 82 8 [some (.ref 14), some (.int x1), some (.int x2), some (.int x3)] [] h' Q)) : cm_wp sc (d + 1) 82 0 [some (.ref 14), some (.int x1), some (.int x2), some (.int x3)] [] h Q :=
  wl_st d82_0 rfl rfl rfl rfl (wl_ic (v := 2) d82_1 rfl (wl_st d82_2 rfl rfl rfl rfl (wl_st d82_3 rfl rfl rfl rfl (wl_st d82_4 rfl rfl rfl rfl (wl_cv d82_5 rfl rfl rfl pm0_35 (by decide) (ca_v (Or.inl rfl) rfl (Nat.le_of_ble_eq_true rfl) (Nat.le_of_ble_eq_true rfl) (ly_k L 14 rfl).2 (ly_k L 14 rfl).1 (by decide)) H)))))
theorem s82_8 {sc : cmS} {d : Nat} {h : cmH} {Q : Option Value → cmH → Prop} (L : LY h) (x1 : Int32) (x2 : Int32) (x3 : Int32) (H : (IX 8 x2) ∧ Q none (cm_setI h 19 x2.toNatClampNeg ((cm_I h 19 x2.toNatClampNeg) + x3))) : cm_wp sc d 82 8 [some (.ref 14), some (.int x1), some (.int x2), some (.int x3)] [] h Q :=
  wl_st d82_8 rfl rfl rfl rfl (wl_gr (b := 19) d82_9 pf0_24 (ly_k L 14 rfl) rfl (ly_r L 14 4 rfl) (wl_st d82_12 rfl rfl rfl rfl (wl_st d82_13 rfl rfl rfl rfl (And.elim (fun g1 g1k => wl_if (g := cm_ok h 13 19 x2) (st' := [.int (cm_I h 19 x2.toNatClampNeg), .int x2, .ref 19]) d82_14 rfl rfl rfl rfl (ly_o L 19 rfl g1) (wl_st d82_15 rfl rfl rfl rfl (wl_st d82_16 rfl rfl rfl rfl (wl_if (h' := (cm_setI h 19 x2.toNatClampNeg ((cm_I h 19 x2.toNatClampNeg) + x3))) d82_17 rfl rfl rfl rfl (ly_o L 19 rfl g1) (wl_rt d82_18 rfl rfl rfl g1k))))) H))))
-- ClogHouse$Books.noteOut(III)V
theorem d87_0 : decode (cm_M 87).2.2.1 0 = .ok (.aload_n 0, 1) := by decide +kernel
theorem d87_1 : decode (cm_M 87).2.2.1 1 = .ok (.iconst 1, 1) := by decide +kernel
theorem d87_2 : decode (cm_M 87).2.2.1 2 = .ok (.iload_n 1, 1) := by decide +kernel
theorem d87_3 : decode (cm_M 87).2.2.1 3 = .ok (.iload_n 2, 1) := by decide +kernel
theorem d87_4 : decode (cm_M 87).2.2.1 4 = .ok (.iload_n 3, 1) := by decide +kernel
theorem d87_5 : decode (cm_M 87).2.2.1 5 = .ok (.invokevirtual 35, 3) := by decide +kernel
theorem d87_8 : decode (cm_M 87).2.2.1 8 = .ok (.aload_n 0, 1) := by decide +kernel
theorem d87_9 : decode (cm_M 87).2.2.1 9 = .ok (.getfield 21, 3) := by decide +kernel
theorem d87_12 : decode (cm_M 87).2.2.1 12 = .ok (.iload_n 2, 1) := by decide +kernel
theorem d87_13 : decode (cm_M 87).2.2.1 13 = .ok (.dup2, 1) := by decide +kernel
theorem d87_14 : decode (cm_M 87).2.2.1 14 = .ok (.iaload, 1) := by decide +kernel
theorem d87_15 : decode (cm_M 87).2.2.1 15 = .ok (.iload_n 3, 1) := by decide +kernel
theorem d87_16 : decode (cm_M 87).2.2.1 16 = .ok (.iadd, 1) := by decide +kernel
theorem d87_17 : decode (cm_M 87).2.2.1 17 = .ok (.iastore, 1) := by decide +kernel
theorem d87_18 : decode (cm_M 87).2.2.1 18 = .ok (.return_, 1) := by decide +kernel
theorem s87_0 {sc : cmS} {d : Nat} {h : cmH} {Q : Option Value → cmH → Prop} (L : LY h) (x1 : Int32) (x2 : Int32) (x3 : Int32) (H : cm_cv sc d 80 [.ref 14, .int (1 : Int32), .int x1, .int x2, .int x3] h (fun h' => cm_wp sc (d + 1) 87 8 [some (.ref 14), some (.int x1), some (.int x2), some (.int x3)] [] h' Q)) : cm_wp sc (d + 1) 87 0 [some (.ref 14), some (.int x1), some (.int x2), some (.int x3)] [] h Q :=
  wl_st d87_0 rfl rfl rfl rfl (wl_ic (v := 1) d87_1 rfl (wl_st d87_2 rfl rfl rfl rfl (wl_st d87_3 rfl rfl rfl rfl (wl_st d87_4 rfl rfl rfl rfl (wl_cv d87_5 rfl rfl rfl pm0_35 (by decide) (ca_v (Or.inl rfl) rfl (Nat.le_of_ble_eq_true rfl) (Nat.le_of_ble_eq_true rfl) (ly_k L 14 rfl).2 (ly_k L 14 rfl).1 (by decide)) H)))))
theorem s87_8 {sc : cmS} {d : Nat} {h : cmH} {Q : Option Value → cmH → Prop} (L : LY h) (x1 : Int32) (x2 : Int32) (x3 : Int32) (H : (IX 8 x2) ∧ Q none (cm_setI h 18 x2.toNatClampNeg ((cm_I h 18 x2.toNatClampNeg) + x3))) : cm_wp sc d 87 8 [some (.ref 14), some (.int x1), some (.int x2), some (.int x3)] [] h Q :=
  wl_st d87_8 rfl rfl rfl rfl (wl_gr (b := 18) d87_9 pf0_21 (ly_k L 14 rfl) rfl (ly_r L 14 3 rfl) (wl_st d87_12 rfl rfl rfl rfl (wl_st d87_13 rfl rfl rfl rfl (And.elim (fun g1 g1k => wl_if (g := cm_ok h 13 18 x2) (st' := [.int (cm_I h 18 x2.toNatClampNeg), .int x2, .ref 18]) d87_14 rfl rfl rfl rfl (ly_o L 18 rfl g1) (wl_st d87_15 rfl rfl rfl rfl (wl_st d87_16 rfl rfl rfl rfl (wl_if (h' := (cm_setI h 18 x2.toNatClampNeg ((cm_I h 18 x2.toNatClampNeg) + x3))) d87_17 rfl rfl rfl rfl (ly_o L 18 rfl g1) (wl_rt d87_18 rfl rfl rfl g1k))))) H))))
-- ClogHouse$Books.noted(III)I
theorem d92_0 : decode (cm_M 92).2.2.1 0 = .ok (.iload_n 1, 1) := by decide +kernel
theorem d92_1 : decode (cm_M 92).2.2.1 1 = .ok (.iload_n 2, 1) := by decide +kernel
theorem d92_2 : decode (cm_M 92).2.2.1 2 = .ok (.iload_n 3, 1) := by decide +kernel
theorem d92_3 : decode (cm_M 92).2.2.1 3 = .ok (.invokestatic 31, 3) := by decide +kernel
theorem d92_6 : decode (cm_M 92).2.2.1 6 = .ok (.istore 4, 2) := by decide +kernel
theorem d92_8 : decode (cm_M 92).2.2.1 8 = .ok (.iload 4, 2) := by decide +kernel
theorem d92_10 : decode (cm_M 92).2.2.1 10 = .ok (.ifCond .lt 23, 3) := by decide +kernel
theorem d92_13 : decode (cm_M 92).2.2.1 13 = .ok (.iload 4, 2) := by decide +kernel
theorem d92_15 : decode (cm_M 92).2.2.1 15 = .ok (.aload_n 0, 1) := by decide +kernel
theorem d92_16 : decode (cm_M 92).2.2.1 16 = .ok (.getfield 28, 3) := by decide +kernel
theorem d92_19 : decode (cm_M 92).2.2.1 19 = .ok (.arraylength, 1) := by decide +kernel
theorem d92_20 : decode (cm_M 92).2.2.1 20 = .ok (.if_icmp .ge 13, 3) := by decide +kernel
theorem d92_23 : decode (cm_M 92).2.2.1 23 = .ok (.aload_n 0, 1) := by decide +kernel
theorem d92_24 : decode (cm_M 92).2.2.1 24 = .ok (.getfield 28, 3) := by decide +kernel
theorem d92_27 : decode (cm_M 92).2.2.1 27 = .ok (.iload 4, 2) := by decide +kernel
theorem d92_29 : decode (cm_M 92).2.2.1 29 = .ok (.iaload, 1) := by decide +kernel
theorem d92_30 : decode (cm_M 92).2.2.1 30 = .ok (.goto 4, 3) := by decide +kernel
theorem d92_33 : decode (cm_M 92).2.2.1 33 = .ok (.iconst 0, 1) := by decide +kernel
theorem d92_34 : decode (cm_M 92).2.2.1 34 = .ok (.ireturn, 1) := by decide +kernel
theorem s92_0 {sc : cmS} {d : Nat} {h : cmH} {Q : Option Value → cmH → Prop} (x1 : Int32) (x2 : Int32) (x3 : Int32) (u4 : Option Value) (H : cm_ci sc d 81 [.int x1, .int x2, .int x3] h (fun r h' => cm_wp sc (d + 1) 92 6 [some (.ref 14), some (.int x1), some (.int x2), some (.int x3), u4] [.int r] h' Q)) : cm_wp sc (d + 1) 92 0 [some (.ref 14), some (.int x1), some (.int x2), some (.int x3), u4] [] h Q :=
  wl_st d92_0 rfl rfl rfl rfl (wl_st d92_1 rfl rfl rfl rfl (wl_st d92_2 rfl rfl rfl rfl (wl_ci d92_3 rfl rfl rfl pm0_31 (by decide) (ca_s (Or.inl rfl) rfl (Nat.le_of_ble_eq_true rfl) (Nat.le_of_ble_eq_true rfl)) H)))
theorem s92_6 {sc : cmS} {d : Nat} {h : cmH} {Q : Option Value → cmH → Prop} (L : LY h) (x1 : Int32) (x2 : Int32) (x3 : Int32) (u4 : Option Value) (sx0 : Int32) (H : (((sx0 < 0) → Q (some (.int (0 : Int32))) h) ∧ (¬ (sx0 < 0) → ((((48000 : Int32) ≤ sx0) → Q (some (.int (0 : Int32))) h) ∧ (¬ ((48000 : Int32) ≤ sx0) → (IX 48000 sx0) ∧ Q (some (.int (cm_I h 20 sx0.toNatClampNeg))) h))))) : cm_wp sc d 92 6 [some (.ref 14), some (.int x1), some (.int x2), some (.int x3), u4] [.int sx0] h Q :=
  wl_st (ls' := [some (.ref 14), some (.int x1), some (.int x2), some (.int x3), some (.int sx0)]) d92_6 rfl rfl rfl rfl (wl_st d92_8 rfl rfl rfl rfl (wl_cb (b := sx0 < 0) (off := 23) (tgt := 33) (pc3 := 13) (st' := []) d92_10 rfl rfl rfl rfl (by decide) rfl (fun c1 => wl_ic (v := 0) d92_33 rfl (wl_rt d92_34 rfl rfl rfl (H.1 c1))) (fun c1 => wl_st d92_13 rfl rfl rfl rfl (wl_st d92_15 rfl rfl rfl rfl (wl_gr (b := 20) d92_16 pf0_28 (ly_k L 14 rfl) rfl (ly_r L 14 5 rfl) (wl_aln (v := 48000) d92_19 (ly_la L 20 rfl) rfl (wl_cb (b := (48000 : Int32) ≤ sx0) (off := 13) (tgt := 33) (pc3 := 23) (st' := []) d92_20 rfl rfl rfl rfl (by decide) rfl (fun c2 => wl_ic (v := 0) d92_33 rfl (wl_rt d92_34 rfl rfl rfl ((H.2 c1).1 c2))) (fun c2 => wl_st d92_23 rfl rfl rfl rfl (wl_gr (b := 20) d92_24 pf0_28 (ly_k L 14 rfl) rfl (ly_r L 14 5 rfl) (wl_st d92_27 rfl rfl rfl rfl (And.elim (fun g3 g3k => wl_if (g := cm_ok h 13 20 sx0) (st' := [.int (cm_I h 20 sx0.toNatClampNeg)]) d92_29 rfl rfl rfl rfl (ly_o L 20 rfl g3) (wl_go (tgt := 34) d92_30 (by decide) (wl_rt d92_34 rfl rfl rfl g3k))) ((H.2 c1).2 c2))))))))))))
-- ClogHouse$Books.lostFrom(II)I
theorem d94_0 : decode (cm_M 94).2.2.1 0 = .ok (.iconst 0, 1) := by decide +kernel
theorem d94_1 : decode (cm_M 94).2.2.1 1 = .ok (.istore_n 3, 1) := by decide +kernel
theorem d94_2 : decode (cm_M 94).2.2.1 2 = .ok (.iload_n 1, 1) := by decide +kernel
theorem d94_3 : decode (cm_M 94).2.2.1 3 = .ok (.istore 4, 2) := by decide +kernel
theorem d94_5 : decode (cm_M 94).2.2.1 5 = .ok (.iload 4, 2) := by decide +kernel
theorem d94_7 : decode (cm_M 94).2.2.1 7 = .ok (.bipush 8, 2) := by decide +kernel
theorem d94_9 : decode (cm_M 94).2.2.1 9 = .ok (.if_icmp .ge 29, 3) := by decide +kernel
theorem d94_12 : decode (cm_M 94).2.2.1 12 = .ok (.iload_n 3, 1) := by decide +kernel
theorem d94_13 : decode (cm_M 94).2.2.1 13 = .ok (.aload_n 0, 1) := by decide +kernel
theorem d94_14 : decode (cm_M 94).2.2.1 14 = .ok (.iconst 1, 1) := by decide +kernel
theorem d94_15 : decode (cm_M 94).2.2.1 15 = .ok (.iload_n 2, 1) := by decide +kernel
theorem d94_16 : decode (cm_M 94).2.2.1 16 = .ok (.iload 4, 2) := by decide +kernel
theorem d94_18 : decode (cm_M 94).2.2.1 18 = .ok (.invokevirtual 39, 3) := by decide +kernel
theorem d94_21 : decode (cm_M 94).2.2.1 21 = .ok (.aload_n 0, 1) := by decide +kernel
theorem d94_22 : decode (cm_M 94).2.2.1 22 = .ok (.iconst 2, 1) := by decide +kernel
theorem d94_23 : decode (cm_M 94).2.2.1 23 = .ok (.iload_n 2, 1) := by decide +kernel
theorem d94_24 : decode (cm_M 94).2.2.1 24 = .ok (.iload 4, 2) := by decide +kernel
theorem d94_26 : decode (cm_M 94).2.2.1 26 = .ok (.invokevirtual 39, 3) := by decide +kernel
theorem d94_29 : decode (cm_M 94).2.2.1 29 = .ok (.iadd, 1) := by decide +kernel
theorem d94_30 : decode (cm_M 94).2.2.1 30 = .ok (.iadd, 1) := by decide +kernel
theorem d94_31 : decode (cm_M 94).2.2.1 31 = .ok (.istore_n 3, 1) := by decide +kernel
theorem d94_32 : decode (cm_M 94).2.2.1 32 = .ok (.iinc 4 1, 3) := by decide +kernel
theorem d94_35 : decode (cm_M 94).2.2.1 35 = .ok (.goto (-30), 3) := by decide +kernel
theorem d94_38 : decode (cm_M 94).2.2.1 38 = .ok (.iload_n 3, 1) := by decide +kernel
theorem d94_39 : decode (cm_M 94).2.2.1 39 = .ok (.ireturn, 1) := by decide +kernel
theorem s94_0 {sc : cmS} {d : Nat} {h : cmH} {Q : Option Value → cmH → Prop} (x1 : Int32) (x2 : Int32) (u3 : Option Value) (u4 : Option Value) (H : cm_wp sc d 94 5 [some (.ref 14), some (.int x1), some (.int x2), some (.int (0 : Int32)), some (.int x1)] [] h Q) : cm_wp sc d 94 0 [some (.ref 14), some (.int x1), some (.int x2), u3, u4] [] h Q :=
  wl_ic (v := 0) d94_0 rfl (wl_st (ls' := [some (.ref 14), some (.int x1), some (.int x2), some (.int (0 : Int32)), u4]) d94_1 rfl rfl rfl rfl (wl_st d94_2 rfl rfl rfl rfl (wl_st (ls' := [some (.ref 14), some (.int x1), some (.int x2), some (.int (0 : Int32)), some (.int x1)]) d94_3 rfl rfl rfl rfl (H))))
theorem s94_5 {sc : cmS} {d : Nat} {h : cmH} {Q : Option Value → cmH → Prop} (L : LY h) (x1 : Int32) (x2 : Int32) (x3 : Int32) (x4 : Int32) (H : ((((8 : Int32) ≤ x4) → Q (some (.int x3)) h) ∧ (¬ ((8 : Int32) ≤ x4) → cm_ci sc d 92 [.ref 14, .int (1 : Int32), .int x2, .int x4] h (fun r h' => cm_wp sc (d + 1) 94 21 [some (.ref 14), some (.int x1), some (.int x2), some (.int x3), some (.int x4)] [.int r, .int x3] h' Q)))) : cm_wp sc (d + 1) 94 5 [some (.ref 14), some (.int x1), some (.int x2), some (.int x3), some (.int x4)] [] h Q :=
  wl_st d94_5 rfl rfl rfl rfl (wl_bi (v := 8) d94_7 rfl (wl_cb (b := (8 : Int32) ≤ x4) (off := 29) (tgt := 38) (pc3 := 12) (st' := []) d94_9 rfl rfl rfl rfl (by decide) rfl (fun c1 => wl_st d94_38 rfl rfl rfl rfl (wl_rt d94_39 rfl rfl rfl (H.1 c1))) (fun c1 => wl_st d94_12 rfl rfl rfl rfl (wl_st d94_13 rfl rfl rfl rfl (wl_ic (v := 1) d94_14 rfl (wl_st d94_15 rfl rfl rfl rfl (wl_st d94_16 rfl rfl rfl rfl (wl_ci d94_18 rfl rfl rfl pm0_39 (by decide) (ca_v (Or.inl rfl) rfl (Nat.le_of_ble_eq_true rfl) (Nat.le_of_ble_eq_true rfl) (ly_k L 14 rfl).2 (ly_k L 14 rfl).1 (by decide)) (H.2 c1)))))))))
theorem s94_21 {sc : cmS} {d : Nat} {h : cmH} {Q : Option Value → cmH → Prop} (L : LY h) (x1 : Int32) (x2 : Int32) (x3 : Int32) (x4 : Int32) (sx0 : Int32) (sx1 : Int32) (H : cm_ci sc d 92 [.ref 14, .int (2 : Int32), .int x2, .int x4] h (fun r h' => cm_wp sc (d + 1) 94 29 [some (.ref 14), some (.int x1), some (.int x2), some (.int x3), some (.int x4)] [.int r, .int sx0, .int sx1] h' Q)) : cm_wp sc (d + 1) 94 21 [some (.ref 14), some (.int x1), some (.int x2), some (.int x3), some (.int x4)] [.int sx0, .int sx1] h Q :=
  wl_st d94_21 rfl rfl rfl rfl (wl_ic (v := 2) d94_22 rfl (wl_st d94_23 rfl rfl rfl rfl (wl_st d94_24 rfl rfl rfl rfl (wl_ci d94_26 rfl rfl rfl pm0_39 (by decide) (ca_v (Or.inl rfl) rfl (Nat.le_of_ble_eq_true rfl) (Nat.le_of_ble_eq_true rfl) (ly_k L 14 rfl).2 (ly_k L 14 rfl).1 (by decide)) H))))
theorem s94_29 {sc : cmS} {d : Nat} {h : cmH} {Q : Option Value → cmH → Prop} (x1 : Int32) (x2 : Int32) (x3 : Int32) (x4 : Int32) (sx0 : Int32) (sx1 : Int32) (sx2 : Int32) (H : cm_wp sc d 94 5 [some (.ref 14), some (.int x1), some (.int x2), some (.int (sx2 + (sx1 + sx0))), some (.int (x4 + 1))] [] h Q) : cm_wp sc d 94 29 [some (.ref 14), some (.int x1), some (.int x2), some (.int x3), some (.int x4)] [.int sx0, .int sx1, .int sx2] h Q :=
  wl_st d94_29 rfl rfl rfl rfl (wl_st d94_30 rfl rfl rfl rfl (wl_st (ls' := [some (.ref 14), some (.int x1), some (.int x2), some (.int (sx2 + (sx1 + sx0))), some (.int x4)]) d94_31 rfl rfl rfl rfl (wl_st (ls' := [some (.ref 14), some (.int x1), some (.int x2), some (.int (sx2 + (sx1 + sx0))), some (.int (x4 + 1))]) d94_32 rfl rfl rfl rfl (wl_go (tgt := 5) d94_35 (by decide) (H)))))
-- ClogHouse$Cell.<init>(II)V
theorem d19_0 : decode (cm_M 19).2.2.1 0 = .ok (.aload_n 0, 1) := by decide +kernel
theorem d19_1 : decode (cm_M 19).2.2.1 1 = .ok (.invokespecial 3, 3) := by decide +kernel
theorem d19_4 : decode (cm_M 19).2.2.1 4 = .ok (.aload_n 0, 1) := by decide +kernel
theorem d19_5 : decode (cm_M 19).2.2.1 5 = .ok (.bipush 8, 2) := by decide +kernel
theorem d19_7 : decode (cm_M 19).2.2.1 7 = .ok (.newarray .int, 2) := by decide +kernel
theorem d19_9 : decode (cm_M 19).2.2.1 9 = .ok (.putfield 9, 3) := by decide +kernel
theorem d19_12 : decode (cm_M 19).2.2.1 12 = .ok (.aload_n 0, 1) := by decide +kernel
theorem d19_13 : decode (cm_M 19).2.2.1 13 = .ok (.bipush 8, 2) := by decide +kernel
theorem d19_15 : decode (cm_M 19).2.2.1 15 = .ok (.newarray .int, 2) := by decide +kernel
theorem d19_17 : decode (cm_M 19).2.2.1 17 = .ok (.putfield 15, 3) := by decide +kernel
theorem d19_20 : decode (cm_M 19).2.2.1 20 = .ok (.aload_n 0, 1) := by decide +kernel
theorem d19_21 : decode (cm_M 19).2.2.1 21 = .ok (.iload_n 1, 1) := by decide +kernel
theorem d19_22 : decode (cm_M 19).2.2.1 22 = .ok (.putfield 18, 3) := by decide +kernel
theorem d19_25 : decode (cm_M 19).2.2.1 25 = .ok (.aload_n 0, 1) := by decide +kernel
theorem d19_26 : decode (cm_M 19).2.2.1 26 = .ok (.iload_n 1, 1) := by decide +kernel
theorem d19_27 : decode (cm_M 19).2.2.1 27 = .ok (.putfield 22, 3) := by decide +kernel
theorem d19_30 : decode (cm_M 19).2.2.1 30 = .ok (.aload_n 0, 1) := by decide +kernel
theorem d19_31 : decode (cm_M 19).2.2.1 31 = .ok (.iload_n 2, 1) := by decide +kernel
theorem d19_32 : decode (cm_M 19).2.2.1 32 = .ok (.putfield 25, 3) := by decide +kernel
theorem d19_35 : decode (cm_M 19).2.2.1 35 = .ok (.return_, 1) := by decide +kernel
theorem s19_0 {sc : cmS} {d : Nat} {h : cmH} {Q : Option Value → cmH → Prop} (a0 : Nat) (x1 : Int32) (x2 : Int32) (H : (cm_kd (cm_mk h 13 8) a0 = 1 ∧ a0 < cm_n (cm_mk h 13 8)) ∧ (cm_kd (cm_mk (cm_setR (cm_mk h 13 8) a0 0 (some (cm_n h))) 13 8) a0 = 1 ∧ a0 < cm_n (cm_mk (cm_setR (cm_mk h 13 8) a0 0 (some (cm_n h))) 13 8)) ∧ Q none (cm_setI (cm_setI (cm_setI (cm_setR (cm_mk (cm_setR (cm_mk h 13 8) a0 0 (some (cm_n h))) 13 8) a0 1 (some (cm_n (cm_setR (cm_mk h 13 8) a0 0 (some (cm_n h)))))) a0 3 x1) a0 4 x1) a0 5 x2)) : cm_wp sc (d + 1) 19 0 [some (.ref a0), some (.int x1), some (.int x2)] [] h Q :=
  wl_st d19_0 rfl rfl rfl rfl (wl_pr (st' := []) d19_1 rfl rfl rfl pm1_3 (by decide) rfl rfl (wl_st d19_4 rfl rfl rfl rfl (wl_bi (v := 8) d19_5 rfl (wl_na (kd := 13) (N := 8) d19_7 (by decide) (by decide) rfl (And.elim (fun g1 g1k => wl_pf (h' := (cm_setR (cm_mk h 13 8) a0 0 (some (cm_n h)))) d19_9 pf1_9 g1 (Or.inr ⟨rfl, rfl, rfl⟩) rfl (wl_st d19_12 rfl rfl rfl rfl (wl_bi (v := 8) d19_13 rfl (wl_na (kd := 13) (N := 8) d19_15 (by decide) (by decide) rfl (And.elim (fun g2 g2k => wl_pf (h' := (cm_setR (cm_mk (cm_setR (cm_mk h 13 8) a0 0 (some (cm_n h))) 13 8) a0 1 (some (cm_n (cm_setR (cm_mk h 13 8) a0 0 (some (cm_n h))))))) d19_17 pf1_15 g2 (Or.inr ⟨rfl, rfl, rfl⟩) rfl (wl_st d19_20 rfl rfl rfl rfl (wl_st d19_21 rfl rfl rfl rfl (wl_pf (h' := (cm_setI (cm_setR (cm_mk (cm_setR (cm_mk h 13 8) a0 0 (some (cm_n h))) 13 8) a0 1 (some (cm_n (cm_setR (cm_mk h 13 8) a0 0 (some (cm_n h)))))) a0 3 x1)) d19_22 pf1_18 g2 (Or.inl rfl) rfl (wl_st d19_25 rfl rfl rfl rfl (wl_st d19_26 rfl rfl rfl rfl (wl_pf (h' := (cm_setI (cm_setI (cm_setR (cm_mk (cm_setR (cm_mk h 13 8) a0 0 (some (cm_n h))) 13 8) a0 1 (some (cm_n (cm_setR (cm_mk h 13 8) a0 0 (some (cm_n h)))))) a0 3 x1) a0 4 x1)) d19_27 pf1_22 g2 (Or.inl rfl) rfl (wl_st d19_30 rfl rfl rfl rfl (wl_st d19_31 rfl rfl rfl rfl (wl_pf (h' := (cm_setI (cm_setI (cm_setI (cm_setR (cm_mk (cm_setR (cm_mk h 13 8) a0 0 (some (cm_n h))) 13 8) a0 1 (some (cm_n (cm_setR (cm_mk h 13 8) a0 0 (some (cm_n h)))))) a0 3 x1) a0 4 x1) a0 5 x2)) d19_32 pf1_25 g2 (Or.inl rfl) rfl (wl_rt d19_35 rfl rfl rfl g2k))))))))))) g1k))))) H)))))
-- ClogHouse$Cell.width()I
theorem d24_0 : decode (cm_M 24).2.2.1 0 = .ok (.aload_n 0, 1) := by decide +kernel
theorem d24_1 : decode (cm_M 24).2.2.1 1 = .ok (.getfield 25, 3) := by decide +kernel
theorem d24_4 : decode (cm_M 24).2.2.1 4 = .ok (.iconst 1, 1) := by decide +kernel
theorem d24_5 : decode (cm_M 24).2.2.1 5 = .ok (.if_icmp .ge 7, 3) := by decide +kernel
theorem d24_8 : decode (cm_M 24).2.2.1 8 = .ok (.iconst 0, 1) := by decide +kernel
theorem d24_9 : decode (cm_M 24).2.2.1 9 = .ok (.goto 17, 3) := by decide +kernel
theorem d24_12 : decode (cm_M 24).2.2.1 12 = .ok (.aload_n 0, 1) := by decide +kernel
theorem d24_13 : decode (cm_M 24).2.2.1 13 = .ok (.getfield 22, 3) := by decide +kernel
theorem d24_16 : decode (cm_M 24).2.2.1 16 = .ok (.aload_n 0, 1) := by decide +kernel
theorem d24_17 : decode (cm_M 24).2.2.1 17 = .ok (.getfield 28, 3) := by decide +kernel
theorem d24_20 : decode (cm_M 24).2.2.1 20 = .ok (.aload_n 0, 1) := by decide +kernel
theorem d24_21 : decode (cm_M 24).2.2.1 21 = .ok (.getfield 25, 3) := by decide +kernel
theorem d24_24 : decode (cm_M 24).2.2.1 24 = .ok (.idiv, 1) := by decide +kernel
theorem d24_25 : decode (cm_M 24).2.2.1 25 = .ok (.isub, 1) := by decide +kernel
theorem d24_26 : decode (cm_M 24).2.2.1 26 = .ok (.istore_n 1, 1) := by decide +kernel
theorem d24_27 : decode (cm_M 24).2.2.1 27 = .ok (.iload_n 1, 1) := by decide +kernel
theorem d24_28 : decode (cm_M 24).2.2.1 28 = .ok (.ifCond .ge 7, 3) := by decide +kernel
theorem d24_31 : decode (cm_M 24).2.2.1 31 = .ok (.iconst 0, 1) := by decide +kernel
theorem d24_32 : decode (cm_M 24).2.2.1 32 = .ok (.goto 4, 3) := by decide +kernel
theorem d24_35 : decode (cm_M 24).2.2.1 35 = .ok (.iload_n 1, 1) := by decide +kernel
theorem d24_36 : decode (cm_M 24).2.2.1 36 = .ok (.ireturn, 1) := by decide +kernel
theorem s24_0 {sc : cmS} {d : Nat} {h : cmH} {Q : Option Value → cmH → Prop} (a0 : Nat) (u1 : Option Value) (H : (CE h a0) ∧ ((((1 : Int32) ≤ (cm_I h a0 5)) → (¬ (cm_I h a0 5) = 0) ∧ cm_wp sc d 24 26 [some (.ref a0), u1] [.int ((cm_I h a0 4) - ((cm_I h a0 2) / (cm_I h a0 5)))] h Q) ∧ (¬ ((1 : Int32) ≤ (cm_I h a0 5)) → cm_wp sc d 24 26 [some (.ref a0), u1] [.int (0 : Int32)] h Q))) : cm_wp sc d 24 0 [some (.ref a0), u1] [] h Q :=
  wl_st d24_0 rfl rfl rfl rfl (And.elim (fun g1 g1k => wl_gf (v := .int (cm_I h a0 5)) d24_1 pf1_25 (CE.k g1) rfl (wl_ic (v := 1) d24_4 rfl (wl_cb (b := (1 : Int32) ≤ (cm_I h a0 5)) (off := 7) (tgt := 12) (pc3 := 8) (st' := []) d24_5 rfl rfl rfl rfl (by decide) rfl (fun c2 => wl_st d24_12 rfl rfl rfl rfl (wl_gf (v := .int (cm_I h a0 4)) d24_13 pf1_22 (CE.k g1) rfl (wl_st d24_16 rfl rfl rfl rfl (wl_gf (v := .int (cm_I h a0 2)) d24_17 pf1_28 (CE.k g1) rfl (wl_st d24_20 rfl rfl rfl rfl (wl_gf (v := .int (cm_I h a0 5)) d24_21 pf1_25 (CE.k g1) rfl (And.elim (fun g3 g3k => wl_ne (g := (cm_I h a0 5) = 0) d24_24 rfl rfl rfl rfl g3 (wl_st d24_25 rfl rfl rfl rfl (g3k))) (g1k.1 c2)))))))) (fun c2 => wl_ic (v := 0) d24_8 rfl (wl_go (tgt := 26) d24_9 (by decide) ((g1k.2 c2))))))) H)
theorem s24_26 {sc : cmS} {d : Nat} {h : cmH} {Q : Option Value → cmH → Prop} (a0 : Nat) (u1 : Option Value) (sx0 : Int32) (H : (((0 ≤ sx0) → Q (some (.int sx0)) h) ∧ (¬ (0 ≤ sx0) → Q (some (.int (0 : Int32))) h))) : cm_wp sc d 24 26 [some (.ref a0), u1] [.int sx0] h Q :=
  wl_st (ls' := [some (.ref a0), some (.int sx0)]) d24_26 rfl rfl rfl rfl (wl_st d24_27 rfl rfl rfl rfl (wl_cb (b := 0 ≤ sx0) (off := 7) (tgt := 35) (pc3 := 31) (st' := []) d24_28 rfl rfl rfl rfl (by decide) rfl (fun c1 => wl_st d24_35 rfl rfl rfl rfl (wl_rt d24_36 rfl rfl rfl (H.1 c1))) (fun c1 => wl_ic (v := 0) d24_31 rfl (wl_go (tgt := 36) d24_32 (by decide) (wl_rt d24_36 rfl rfl rfl (H.2 c1))))))
-- ClogHouse$Cell.resistance()I
theorem d25_0 : decode (cm_M 25).2.2.1 0 = .ok (.aload_n 0, 1) := by decide +kernel
theorem d25_1 : decode (cm_M 25).2.2.1 1 = .ok (.invokevirtual 31, 3) := by decide +kernel
theorem d25_4 : decode (cm_M 25).2.2.1 4 = .ok (.invokestatic 35, 3) := by decide +kernel
theorem d25_7 : decode (cm_M 25).2.2.1 7 = .ok (.ireturn, 1) := by decide +kernel
theorem s25_0 {sc : cmS} {d : Nat} {h : cmH} {Q : Option Value → cmH → Prop} (a0 : Nat) (H : (CE h a0) ∧ cm_ci sc d 24 [.ref a0] h (fun r h' => cm_wp sc (d + 1) 25 4 [some (.ref a0)] [.int r] h' Q)) : cm_wp sc (d + 1) 25 0 [some (.ref a0)] [] h Q :=
  wl_st d25_0 rfl rfl rfl rfl (And.elim (fun g1 g1k => wl_ci d25_1 rfl rfl rfl pm1_31 (by decide) (ca_v (Or.inl rfl) rfl (Nat.le_of_ble_eq_true rfl) (Nat.le_of_ble_eq_true rfl) (CE.k g1).2 (CE.k g1).1 (by decide)) g1k) H)
theorem s25_4 {sc : cmS} {d : Nat} {h : cmH} {Q : Option Value → cmH → Prop} (a0 : Nat) (sx0 : Int32) (H : cm_ci sc d 26 [.int sx0] h (fun r h' => cm_wp sc (d + 1) 25 7 [some (.ref a0)] [.int r] h' Q)) : cm_wp sc (d + 1) 25 4 [some (.ref a0)] [.int sx0] h Q :=
  wl_ci d25_4 rfl rfl rfl pm1_35 (by decide) (ca_s (Or.inr rfl) rfl (Nat.le_of_ble_eq_true rfl) (Nat.le_of_ble_eq_true rfl)) H
theorem s25_7 {sc : cmS} {d : Nat} {h : cmH} {Q : Option Value → cmH → Prop} (a0 : Nat) (sx0 : Int32) (H : Q (some (.int sx0)) h) : cm_wp sc d 25 7 [some (.ref a0)] [.int sx0] h Q :=
  wl_rt d25_7 rfl rfl rfl H
-- ClogHouse$Cell.empty()V
theorem d70_0 : decode (cm_M 70).2.2.1 0 = .ok (.aload_n 0, 1) := by decide +kernel
theorem d70_1 : decode (cm_M 70).2.2.1 1 = .ok (.getfield 9, 3) := by decide +kernel
theorem d70_4 : decode (cm_M 70).2.2.1 4 = .ok (.iconst 0, 1) := by decide +kernel
theorem d70_5 : decode (cm_M 70).2.2.1 5 = .ok (.invokestatic 39, 3) := by decide +kernel
theorem d70_8 : decode (cm_M 70).2.2.1 8 = .ok (.aload_n 0, 1) := by decide +kernel
theorem d70_9 : decode (cm_M 70).2.2.1 9 = .ok (.getfield 15, 3) := by decide +kernel
theorem d70_12 : decode (cm_M 70).2.2.1 12 = .ok (.iconst 0, 1) := by decide +kernel
theorem d70_13 : decode (cm_M 70).2.2.1 13 = .ok (.invokestatic 39, 3) := by decide +kernel
theorem d70_16 : decode (cm_M 70).2.2.1 16 = .ok (.aload_n 0, 1) := by decide +kernel
theorem d70_17 : decode (cm_M 70).2.2.1 17 = .ok (.iconst 0, 1) := by decide +kernel
theorem d70_18 : decode (cm_M 70).2.2.1 18 = .ok (.putfield 28, 3) := by decide +kernel
theorem d70_21 : decode (cm_M 70).2.2.1 21 = .ok (.aload_n 0, 1) := by decide +kernel
theorem d70_22 : decode (cm_M 70).2.2.1 22 = .ok (.aload_n 0, 1) := by decide +kernel
theorem d70_23 : decode (cm_M 70).2.2.1 23 = .ok (.getfield 18, 3) := by decide +kernel
theorem d70_26 : decode (cm_M 70).2.2.1 26 = .ok (.putfield 22, 3) := by decide +kernel
theorem d70_29 : decode (cm_M 70).2.2.1 29 = .ok (.return_, 1) := by decide +kernel
theorem s70_0 {sc : cmS} {d : Nat} {h : cmH} {Q : Option Value → cmH → Prop} (a0 : Nat) (H : (CE h a0) ∧ cm_cv sc d 2 [.ref (a0 + 1), .int (0 : Int32)] h (fun h' => cm_wp sc (d + 1) 70 8 [some (.ref a0)] [] h' Q)) : cm_wp sc (d + 1) 70 0 [some (.ref a0)] [] h Q :=
  wl_st d70_0 rfl rfl rfl rfl (And.elim (fun g1 g1k => wl_gr (b := (a0 + 1)) d70_1 pf1_9 (CE.k g1) rfl (CE.r0 g1) (wl_ic (v := 0) d70_4 rfl (wl_cv d70_5 rfl rfl rfl pm1_39 (by decide) (ca_s (Or.inl rfl) rfl (Nat.le_of_ble_eq_true rfl) (Nat.le_of_ble_eq_true rfl)) g1k))) H)
theorem s70_8 {sc : cmS} {d : Nat} {h : cmH} {Q : Option Value → cmH → Prop} (a0 : Nat) (H : (CE h a0) ∧ cm_cv sc d 2 [.ref (a0 + 2), .int (0 : Int32)] h (fun h' => cm_wp sc (d + 1) 70 16 [some (.ref a0)] [] h' Q)) : cm_wp sc (d + 1) 70 8 [some (.ref a0)] [] h Q :=
  wl_st d70_8 rfl rfl rfl rfl (And.elim (fun g1 g1k => wl_gr (b := (a0 + 2)) d70_9 pf1_15 (CE.k g1) rfl (CE.r1 g1) (wl_ic (v := 0) d70_12 rfl (wl_cv d70_13 rfl rfl rfl pm1_39 (by decide) (ca_s (Or.inl rfl) rfl (Nat.le_of_ble_eq_true rfl) (Nat.le_of_ble_eq_true rfl)) g1k))) H)
theorem s70_16 {sc : cmS} {d : Nat} {h : cmH} {Q : Option Value → cmH → Prop} (a0 : Nat) (H : (CE h a0) ∧ Q none (cm_setI (cm_setI h a0 2 (0 : Int32)) a0 4 (cm_I (cm_setI h a0 2 (0 : Int32)) a0 3))) : cm_wp sc d 70 16 [some (.ref a0)] [] h Q :=
  wl_st d70_16 rfl rfl rfl rfl (wl_ic (v := 0) d70_17 rfl (And.elim (fun g1 g1k => wl_pf (h' := (cm_setI h a0 2 (0 : Int32))) d70_18 pf1_28 (CE.k g1) (Or.inl rfl) rfl (wl_st d70_21 rfl rfl rfl rfl (wl_st d70_22 rfl rfl rfl rfl (wl_gf (v := .int (cm_I (cm_setI h a0 2 (0 : Int32)) a0 3)) d70_23 pf1_18 (CE.k g1) rfl (wl_pf (h' := (cm_setI (cm_setI h a0 2 (0 : Int32)) a0 4 (cm_I (cm_setI h a0 2 (0 : Int32)) a0 3))) d70_26 pf1_22 (CE.k g1) (Or.inl rfl) rfl (wl_rt d70_29 rfl rfl rfl g1k)))))) H))
-- ClogHouse$Cell.washOut(ILClogHouse$Grains;LClogHouse$Books;)V
theorem d73_0 : decode (cm_M 73).2.2.1 0 = .ok (.iconst 0, 1) := by decide +kernel
theorem d73_1 : decode (cm_M 73).2.2.1 1 = .ok (.istore 4, 2) := by decide +kernel
theorem d73_3 : decode (cm_M 73).2.2.1 3 = .ok (.iload 4, 2) := by decide +kernel
theorem d73_5 : decode (cm_M 73).2.2.1 5 = .ok (.bipush 8, 2) := by decide +kernel
theorem d73_7 : decode (cm_M 73).2.2.1 7 = .ok (.if_icmp .ge 118, 3) := by decide +kernel
theorem d73_10 : decode (cm_M 73).2.2.1 10 = .ok (.aload_n 0, 1) := by decide +kernel
theorem d73_11 : decode (cm_M 73).2.2.1 11 = .ok (.getfield 9, 3) := by decide +kernel
theorem d73_14 : decode (cm_M 73).2.2.1 14 = .ok (.iload 4, 2) := by decide +kernel
theorem d73_16 : decode (cm_M 73).2.2.1 16 = .ok (.iaload, 1) := by decide +kernel
theorem d73_17 : decode (cm_M 73).2.2.1 17 = .ok (.aload_n 0, 1) := by decide +kernel
theorem d73_18 : decode (cm_M 73).2.2.1 18 = .ok (.getfield 15, 3) := by decide +kernel
theorem d73_21 : decode (cm_M 73).2.2.1 21 = .ok (.iload 4, 2) := by decide +kernel
theorem d73_23 : decode (cm_M 73).2.2.1 23 = .ok (.iaload, 1) := by decide +kernel
theorem d73_24 : decode (cm_M 73).2.2.1 24 = .ok (.isub, 1) := by decide +kernel
theorem d73_25 : decode (cm_M 73).2.2.1 25 = .ok (.i2l, 1) := by decide +kernel
theorem d73_26 : decode (cm_M 73).2.2.1 26 = .ok (.lstore 5, 2) := by decide +kernel
theorem d73_28 : decode (cm_M 73).2.2.1 28 = .ok (.lload 5, 2) := by decide +kernel
theorem d73_30 : decode (cm_M 73).2.2.1 30 = .ok (.aload_n 2, 1) := by decide +kernel
theorem d73_31 : decode (cm_M 73).2.2.1 31 = .ok (.getfield 52, 3) := by decide +kernel
theorem d73_34 : decode (cm_M 73).2.2.1 34 = .ok (.iload 4, 2) := by decide +kernel
theorem d73_36 : decode (cm_M 73).2.2.1 36 = .ok (.iaload, 1) := by decide +kernel
theorem d73_37 : decode (cm_M 73).2.2.1 37 = .ok (.i2l, 1) := by decide +kernel
theorem d73_38 : decode (cm_M 73).2.2.1 38 = .ok (.lmul, 1) := by decide +kernel
theorem d73_39 : decode (cm_M 73).2.2.1 39 = .ok (.ldc2_w 45, 3) := by decide +kernel
theorem d73_42 : decode (cm_M 73).2.2.1 42 = .ok (.ldiv, 1) := by decide +kernel
theorem d73_43 : decode (cm_M 73).2.2.1 43 = .ok (.lstore 7, 2) := by decide +kernel
theorem d73_45 : decode (cm_M 73).2.2.1 45 = .ok (.lload 5, 2) := by decide +kernel
theorem d73_47 : decode (cm_M 73).2.2.1 47 = .ok (.lload 7, 2) := by decide +kernel
theorem d73_49 : decode (cm_M 73).2.2.1 49 = .ok (.lsub, 1) := by decide +kernel
theorem d73_50 : decode (cm_M 73).2.2.1 50 = .ok (.aload_n 2, 1) := by decide +kernel
theorem d73_51 : decode (cm_M 73).2.2.1 51 = .ok (.getfield 55, 3) := by decide +kernel
theorem d73_54 : decode (cm_M 73).2.2.1 54 = .ok (.iload 4, 2) := by decide +kernel
theorem d73_56 : decode (cm_M 73).2.2.1 56 = .ok (.iaload, 1) := by decide +kernel
theorem d73_57 : decode (cm_M 73).2.2.1 57 = .ok (.i2l, 1) := by decide +kernel
theorem d73_58 : decode (cm_M 73).2.2.1 58 = .ok (.lmul, 1) := by decide +kernel
theorem d73_59 : decode (cm_M 73).2.2.1 59 = .ok (.ldc2_w 45, 3) := by decide +kernel
theorem d73_62 : decode (cm_M 73).2.2.1 62 = .ok (.ldiv, 1) := by decide +kernel
theorem d73_63 : decode (cm_M 73).2.2.1 63 = .ok (.iload_n 1, 1) := by decide +kernel
theorem d73_64 : decode (cm_M 73).2.2.1 64 = .ok (.i2l, 1) := by decide +kernel
theorem d73_65 : decode (cm_M 73).2.2.1 65 = .ok (.lmul, 1) := by decide +kernel
theorem d73_66 : decode (cm_M 73).2.2.1 66 = .ok (.ldc2_w 45, 3) := by decide +kernel
theorem d73_69 : decode (cm_M 73).2.2.1 69 = .ok (.ldiv, 1) := by decide +kernel
theorem d73_70 : decode (cm_M 73).2.2.1 70 = .ok (.lstore 9, 2) := by decide +kernel
theorem d73_72 : decode (cm_M 73).2.2.1 72 = .ok (.aload_n 0, 1) := by decide +kernel
theorem d73_73 : decode (cm_M 73).2.2.1 73 = .ok (.getfield 15, 3) := by decide +kernel
theorem d73_76 : decode (cm_M 73).2.2.1 76 = .ok (.iload 4, 2) := by decide +kernel
theorem d73_78 : decode (cm_M 73).2.2.1 78 = .ok (.dup2, 1) := by decide +kernel
theorem d73_79 : decode (cm_M 73).2.2.1 79 = .ok (.iaload, 1) := by decide +kernel
theorem d73_80 : decode (cm_M 73).2.2.1 80 = .ok (.lload 7, 2) := by decide +kernel
theorem d73_82 : decode (cm_M 73).2.2.1 82 = .ok (.l2i, 1) := by decide +kernel
theorem d73_83 : decode (cm_M 73).2.2.1 83 = .ok (.iadd, 1) := by decide +kernel
theorem d73_84 : decode (cm_M 73).2.2.1 84 = .ok (.iastore, 1) := by decide +kernel
theorem d73_85 : decode (cm_M 73).2.2.1 85 = .ok (.aload_n 0, 1) := by decide +kernel
theorem d73_86 : decode (cm_M 73).2.2.1 86 = .ok (.getfield 9, 3) := by decide +kernel
theorem d73_89 : decode (cm_M 73).2.2.1 89 = .ok (.iload 4, 2) := by decide +kernel
theorem d73_91 : decode (cm_M 73).2.2.1 91 = .ok (.dup2, 1) := by decide +kernel
theorem d73_92 : decode (cm_M 73).2.2.1 92 = .ok (.iaload, 1) := by decide +kernel
theorem d73_93 : decode (cm_M 73).2.2.1 93 = .ok (.lload 9, 2) := by decide +kernel
theorem d73_95 : decode (cm_M 73).2.2.1 95 = .ok (.l2i, 1) := by decide +kernel
theorem d73_96 : decode (cm_M 73).2.2.1 96 = .ok (.isub, 1) := by decide +kernel
theorem d73_97 : decode (cm_M 73).2.2.1 97 = .ok (.iastore, 1) := by decide +kernel
theorem d73_98 : decode (cm_M 73).2.2.1 98 = .ok (.aload_n 0, 1) := by decide +kernel
theorem d73_99 : decode (cm_M 73).2.2.1 99 = .ok (.dup, 1) := by decide +kernel
theorem d73_100 : decode (cm_M 73).2.2.1 100 = .ok (.getfield 28, 3) := by decide +kernel
theorem d73_103 : decode (cm_M 73).2.2.1 103 = .ok (.lload 9, 2) := by decide +kernel
theorem d73_105 : decode (cm_M 73).2.2.1 105 = .ok (.l2i, 1) := by decide +kernel
theorem d73_106 : decode (cm_M 73).2.2.1 106 = .ok (.isub, 1) := by decide +kernel
theorem d73_107 : decode (cm_M 73).2.2.1 107 = .ok (.putfield 28, 3) := by decide +kernel
theorem d73_110 : decode (cm_M 73).2.2.1 110 = .ok (.aload_n 3, 1) := by decide +kernel
theorem d73_111 : decode (cm_M 73).2.2.1 111 = .ok (.iload 4, 2) := by decide +kernel
theorem d73_113 : decode (cm_M 73).2.2.1 113 = .ok (.lload 9, 2) := by decide +kernel
theorem d73_115 : decode (cm_M 73).2.2.1 115 = .ok (.l2i, 1) := by decide +kernel
theorem d73_116 : decode (cm_M 73).2.2.1 116 = .ok (.invokevirtual 58, 3) := by decide +kernel
theorem d73_119 : decode (cm_M 73).2.2.1 119 = .ok (.iinc 4 1, 3) := by decide +kernel
theorem d73_122 : decode (cm_M 73).2.2.1 122 = .ok (.goto (-119), 3) := by decide +kernel
theorem d73_125 : decode (cm_M 73).2.2.1 125 = .ok (.return_, 1) := by decide +kernel
theorem s73_0 {sc : cmS} {d : Nat} {h : cmH} {Q : Option Value → cmH → Prop} (a0 : Nat) (x1 : Int32) (u4 : Option Value) (u5 : Option Value) (u6 : Option Value) (u7 : Option Value) (u8 : Option Value) (u9 : Option Value) (u10 : Option Value) (H : cm_wp sc d 73 3 [some (.ref a0), some (.int x1), some (.ref 1), some (.ref 14), some (.int (0 : Int32)), u5, u6, u7, u8, u9, u10] [] h Q) : cm_wp sc d 73 0 [some (.ref a0), some (.int x1), some (.ref 1), some (.ref 14), u4, u5, u6, u7, u8, u9, u10] [] h Q :=
  wl_ic (v := 0) d73_0 rfl (wl_st (ls' := [some (.ref a0), some (.int x1), some (.ref 1), some (.ref 14), some (.int (0 : Int32)), u5, u6, u7, u8, u9, u10]) d73_1 rfl rfl rfl rfl (H))
theorem s73_3 {sc : cmS} {d : Nat} {h : cmH} {Q : Option Value → cmH → Prop} (L : LY h) (a0 : Nat) (x1 : Int32) (x4 : Int32) (u5 : Option Value) (u6 : Option Value) (u7 : Option Value) (u8 : Option Value) (u9 : Option Value) (u10 : Option Value) (H : ((((8 : Int32) ≤ x4) → Q none h) ∧ (¬ ((8 : Int32) ≤ x4) → (CE h a0) ∧ (IX 8 x4) ∧ cm_cv sc d 74 [.ref 14, .int x4, .int (((((((((cm_I h (a0 + 1) x4.toNatClampNeg) - (cm_I h (a0 + 2) x4.toNatClampNeg)).toInt64) - (((((cm_I h (a0 + 1) x4.toNatClampNeg) - (cm_I h (a0 + 2) x4.toNatClampNeg)).toInt64) * ((cm_I h 4 x4.toNatClampNeg).toInt64)) / (1000 : Int64))) * ((cm_I h 3 x4.toNatClampNeg).toInt64)) / (1000 : Int64)) * (x1.toInt64)) / (1000 : Int64)).toInt32)] (cm_setI (cm_setI (cm_setI h (a0 + 2) x4.toNatClampNeg ((cm_I h (a0 + 2) x4.toNatClampNeg) + ((((((cm_I h (a0 + 1) x4.toNatClampNeg) - (cm_I h (a0 + 2) x4.toNatClampNeg)).toInt64) * ((cm_I h 4 x4.toNatClampNeg).toInt64)) / (1000 : Int64)).toInt32))) (a0 + 1) x4.toNatClampNeg ((cm_I (cm_setI h (a0 + 2) x4.toNatClampNeg ((cm_I h (a0 + 2) x4.toNatClampNeg) + ((((((cm_I h (a0 + 1) x4.toNatClampNeg) - (cm_I h (a0 + 2) x4.toNatClampNeg)).toInt64) * ((cm_I h 4 x4.toNatClampNeg).toInt64)) / (1000 : Int64)).toInt32))) (a0 + 1) x4.toNatClampNeg) - (((((((((cm_I h (a0 + 1) x4.toNatClampNeg) - (cm_I h (a0 + 2) x4.toNatClampNeg)).toInt64) - (((((cm_I h (a0 + 1) x4.toNatClampNeg) - (cm_I h (a0 + 2) x4.toNatClampNeg)).toInt64) * ((cm_I h 4 x4.toNatClampNeg).toInt64)) / (1000 : Int64))) * ((cm_I h 3 x4.toNatClampNeg).toInt64)) / (1000 : Int64)) * (x1.toInt64)) / (1000 : Int64)).toInt32))) a0 2 ((cm_I (cm_setI (cm_setI h (a0 + 2) x4.toNatClampNeg ((cm_I h (a0 + 2) x4.toNatClampNeg) + ((((((cm_I h (a0 + 1) x4.toNatClampNeg) - (cm_I h (a0 + 2) x4.toNatClampNeg)).toInt64) * ((cm_I h 4 x4.toNatClampNeg).toInt64)) / (1000 : Int64)).toInt32))) (a0 + 1) x4.toNatClampNeg ((cm_I (cm_setI h (a0 + 2) x4.toNatClampNeg ((cm_I h (a0 + 2) x4.toNatClampNeg) + ((((((cm_I h (a0 + 1) x4.toNatClampNeg) - (cm_I h (a0 + 2) x4.toNatClampNeg)).toInt64) * ((cm_I h 4 x4.toNatClampNeg).toInt64)) / (1000 : Int64)).toInt32))) (a0 + 1) x4.toNatClampNeg) - (((((((((cm_I h (a0 + 1) x4.toNatClampNeg) - (cm_I h (a0 + 2) x4.toNatClampNeg)).toInt64) - (((((cm_I h (a0 + 1) x4.toNatClampNeg) - (cm_I h (a0 + 2) x4.toNatClampNeg)).toInt64) * ((cm_I h 4 x4.toNatClampNeg).toInt64)) / (1000 : Int64))) * ((cm_I h 3 x4.toNatClampNeg).toInt64)) / (1000 : Int64)) * (x1.toInt64)) / (1000 : Int64)).toInt32))) a0 2) - (((((((((cm_I h (a0 + 1) x4.toNatClampNeg) - (cm_I h (a0 + 2) x4.toNatClampNeg)).toInt64) - (((((cm_I h (a0 + 1) x4.toNatClampNeg) - (cm_I h (a0 + 2) x4.toNatClampNeg)).toInt64) * ((cm_I h 4 x4.toNatClampNeg).toInt64)) / (1000 : Int64))) * ((cm_I h 3 x4.toNatClampNeg).toInt64)) / (1000 : Int64)) * (x1.toInt64)) / (1000 : Int64)).toInt32))) (fun h' => cm_wp sc (d + 1) 73 119 [some (.ref a0), some (.int x1), some (.ref 1), some (.ref 14), some (.int x4), some (.long (((cm_I h (a0 + 1) x4.toNatClampNeg) - (cm_I h (a0 + 2) x4.toNatClampNeg)).toInt64)), none, some (.long (((((cm_I h (a0 + 1) x4.toNatClampNeg) - (cm_I h (a0 + 2) x4.toNatClampNeg)).toInt64) * ((cm_I h 4 x4.toNatClampNeg).toInt64)) / (1000 : Int64))), none, some (.long ((((((((cm_I h (a0 + 1) x4.toNatClampNeg) - (cm_I h (a0 + 2) x4.toNatClampNeg)).toInt64) - (((((cm_I h (a0 + 1) x4.toNatClampNeg) - (cm_I h (a0 + 2) x4.toNatClampNeg)).toInt64) * ((cm_I h 4 x4.toNatClampNeg).toInt64)) / (1000 : Int64))) * ((cm_I h 3 x4.toNatClampNeg).toInt64)) / (1000 : Int64)) * (x1.toInt64)) / (1000 : Int64))), none] [] h' Q)))) : cm_wp sc (d + 1) 73 3 [some (.ref a0), some (.int x1), some (.ref 1), some (.ref 14), some (.int x4), u5, u6, u7, u8, u9, u10] [] h Q :=
  wl_st d73_3 rfl rfl rfl rfl (wl_bi (v := 8) d73_5 rfl (wl_cb (b := (8 : Int32) ≤ x4) (off := 118) (tgt := 125) (pc3 := 10) (st' := []) d73_7 rfl rfl rfl rfl (by decide) rfl (fun c1 => wl_rt d73_125 rfl rfl rfl (H.1 c1)) (fun c1 => wl_st d73_10 rfl rfl rfl rfl (And.elim (fun g2 g2k => wl_gr (b := (a0 + 1)) d73_11 pf1_9 (CE.k g2) rfl (CE.r0 g2) (wl_st d73_14 rfl rfl rfl rfl (And.elim (fun g3 g3k => wl_if (g := cm_ok h 13 (a0 + 1) x4) (st' := [.int (cm_I h (a0 + 1) x4.toNatClampNeg)]) d73_16 rfl rfl rfl rfl (CE.o0 g2 g3) (wl_st d73_17 rfl rfl rfl rfl (wl_gr (b := (a0 + 2)) d73_18 pf1_15 (CE.k g2) rfl (CE.r1 g2) (wl_st d73_21 rfl rfl rfl rfl (wl_if (g := cm_ok h 13 (a0 + 2) x4) (st' := [.int (cm_I h (a0 + 2) x4.toNatClampNeg), .int (cm_I h (a0 + 1) x4.toNatClampNeg)]) d73_23 rfl rfl rfl rfl (CE.o1 g2 g3) (wl_st d73_24 rfl rfl rfl rfl (wl_st d73_25 rfl rfl rfl rfl (wl_st (ls' := [some (.ref a0), some (.int x1), some (.ref 1), some (.ref 14), some (.int x4), some (.long (((cm_I h (a0 + 1) x4.toNatClampNeg) - (cm_I h (a0 + 2) x4.toNatClampNeg)).toInt64)), none, u7, u8, u9, u10]) d73_26 rfl rfl rfl rfl (wl_st d73_28 rfl rfl rfl rfl (wl_st d73_30 rfl rfl rfl rfl (wl_gr (b := 4) d73_31 pf1_52 (ly_k L 1 rfl) rfl (ly_r L 1 2 rfl) (wl_st d73_34 rfl rfl rfl rfl (wl_if (g := cm_ok h 13 4 x4) (st' := [.int (cm_I h 4 x4.toNatClampNeg), .long (((cm_I h (a0 + 1) x4.toNatClampNeg) - (cm_I h (a0 + 2) x4.toNatClampNeg)).toInt64)]) d73_36 rfl rfl rfl rfl (ly_o L 4 rfl g3) (wl_st d73_37 rfl rfl rfl rfl (wl_st d73_38 rfl rfl rfl rfl (wl_cJ (v := 1000) d73_39 pj1_45 (wl_ne (g := (1000 : Int64) = 0) d73_42 rfl rfl rfl rfl (by decide) (wl_st (ls' := [some (.ref a0), some (.int x1), some (.ref 1), some (.ref 14), some (.int x4), some (.long (((cm_I h (a0 + 1) x4.toNatClampNeg) - (cm_I h (a0 + 2) x4.toNatClampNeg)).toInt64)), none, some (.long (((((cm_I h (a0 + 1) x4.toNatClampNeg) - (cm_I h (a0 + 2) x4.toNatClampNeg)).toInt64) * ((cm_I h 4 x4.toNatClampNeg).toInt64)) / (1000 : Int64))), none, u9, u10]) d73_43 rfl rfl rfl rfl (wl_st d73_45 rfl rfl rfl rfl (wl_st d73_47 rfl rfl rfl rfl (wl_st d73_49 rfl rfl rfl rfl (wl_st d73_50 rfl rfl rfl rfl (wl_gr (b := 3) d73_51 pf1_55 (ly_k L 1 rfl) rfl (ly_r L 1 1 rfl) (wl_st d73_54 rfl rfl rfl rfl (wl_if (g := cm_ok h 13 3 x4) (st' := [.int (cm_I h 3 x4.toNatClampNeg), .long ((((cm_I h (a0 + 1) x4.toNatClampNeg) - (cm_I h (a0 + 2) x4.toNatClampNeg)).toInt64) - (((((cm_I h (a0 + 1) x4.toNatClampNeg) - (cm_I h (a0 + 2) x4.toNatClampNeg)).toInt64) * ((cm_I h 4 x4.toNatClampNeg).toInt64)) / (1000 : Int64)))]) d73_56 rfl rfl rfl rfl (ly_o L 3 rfl g3) (wl_st d73_57 rfl rfl rfl rfl (wl_st d73_58 rfl rfl rfl rfl (wl_cJ (v := 1000) d73_59 pj1_45 (wl_ne (g := (1000 : Int64) = 0) d73_62 rfl rfl rfl rfl (by decide) (wl_st d73_63 rfl rfl rfl rfl (wl_st d73_64 rfl rfl rfl rfl (wl_st d73_65 rfl rfl rfl rfl (wl_cJ (v := 1000) d73_66 pj1_45 (wl_ne (g := (1000 : Int64) = 0) d73_69 rfl rfl rfl rfl (by decide) (wl_st (ls' := [some (.ref a0), some (.int x1), some (.ref 1), some (.ref 14), some (.int x4), some (.long (((cm_I h (a0 + 1) x4.toNatClampNeg) - (cm_I h (a0 + 2) x4.toNatClampNeg)).toInt64)), none, some (.long (((((cm_I h (a0 + 1) x4.toNatClampNeg) - (cm_I h (a0 + 2) x4.toNatClampNeg)).toInt64) * ((cm_I h 4 x4.toNatClampNeg).toInt64)) / (1000 : Int64))), none, some (.long ((((((((cm_I h (a0 + 1) x4.toNatClampNeg) - (cm_I h (a0 + 2) x4.toNatClampNeg)).toInt64) - (((((cm_I h (a0 + 1) x4.toNatClampNeg) - (cm_I h (a0 + 2) x4.toNatClampNeg)).toInt64) * ((cm_I h 4 x4.toNatClampNeg).toInt64)) / (1000 : Int64))) * ((cm_I h 3 x4.toNatClampNeg).toInt64)) / (1000 : Int64)) * (x1.toInt64)) / (1000 : Int64))), none]) d73_70 rfl rfl rfl rfl (wl_st d73_72 rfl rfl rfl rfl (wl_gr (b := (a0 + 2)) d73_73 pf1_15 (CE.k g2) rfl (CE.r1 g2) (wl_st d73_76 rfl rfl rfl rfl (wl_st d73_78 rfl rfl rfl rfl (wl_if (g := cm_ok h 13 (a0 + 2) x4) (st' := [.int (cm_I h (a0 + 2) x4.toNatClampNeg), .int x4, .ref (a0 + 2)]) d73_79 rfl rfl rfl rfl (CE.o1 g2 g3) (wl_st d73_80 rfl rfl rfl rfl (wl_st d73_82 rfl rfl rfl rfl (wl_st d73_83 rfl rfl rfl rfl (wl_if (h' := (cm_setI h (a0 + 2) x4.toNatClampNeg ((cm_I h (a0 + 2) x4.toNatClampNeg) + ((((((cm_I h (a0 + 1) x4.toNatClampNeg) - (cm_I h (a0 + 2) x4.toNatClampNeg)).toInt64) * ((cm_I h 4 x4.toNatClampNeg).toInt64)) / (1000 : Int64)).toInt32)))) d73_84 rfl rfl rfl rfl (CE.o1 g2 g3) (wl_st d73_85 rfl rfl rfl rfl (wl_gr (b := (a0 + 1)) d73_86 pf1_9 (CE.k g2) rfl (CE.r0 g2) (wl_st d73_89 rfl rfl rfl rfl (wl_st d73_91 rfl rfl rfl rfl (wl_if (g := cm_ok (cm_setI h (a0 + 2) x4.toNatClampNeg ((cm_I h (a0 + 2) x4.toNatClampNeg) + ((((((cm_I h (a0 + 1) x4.toNatClampNeg) - (cm_I h (a0 + 2) x4.toNatClampNeg)).toInt64) * ((cm_I h 4 x4.toNatClampNeg).toInt64)) / (1000 : Int64)).toInt32))) 13 (a0 + 1) x4) (st' := [.int (cm_I (cm_setI h (a0 + 2) x4.toNatClampNeg ((cm_I h (a0 + 2) x4.toNatClampNeg) + ((((((cm_I h (a0 + 1) x4.toNatClampNeg) - (cm_I h (a0 + 2) x4.toNatClampNeg)).toInt64) * ((cm_I h 4 x4.toNatClampNeg).toInt64)) / (1000 : Int64)).toInt32))) (a0 + 1) x4.toNatClampNeg), .int x4, .ref (a0 + 1)]) d73_92 rfl rfl rfl rfl (CE.o0 g2 g3) (wl_st d73_93 rfl rfl rfl rfl (wl_st d73_95 rfl rfl rfl rfl (wl_st d73_96 rfl rfl rfl rfl (wl_if (h' := (cm_setI (cm_setI h (a0 + 2) x4.toNatClampNeg ((cm_I h (a0 + 2) x4.toNatClampNeg) + ((((((cm_I h (a0 + 1) x4.toNatClampNeg) - (cm_I h (a0 + 2) x4.toNatClampNeg)).toInt64) * ((cm_I h 4 x4.toNatClampNeg).toInt64)) / (1000 : Int64)).toInt32))) (a0 + 1) x4.toNatClampNeg ((cm_I (cm_setI h (a0 + 2) x4.toNatClampNeg ((cm_I h (a0 + 2) x4.toNatClampNeg) + ((((((cm_I h (a0 + 1) x4.toNatClampNeg) - (cm_I h (a0 + 2) x4.toNatClampNeg)).toInt64) * ((cm_I h 4 x4.toNatClampNeg).toInt64)) / (1000 : Int64)).toInt32))) (a0 + 1) x4.toNatClampNeg) - (((((((((cm_I h (a0 + 1) x4.toNatClampNeg) - (cm_I h (a0 + 2) x4.toNatClampNeg)).toInt64) - (((((cm_I h (a0 + 1) x4.toNatClampNeg) - (cm_I h (a0 + 2) x4.toNatClampNeg)).toInt64) * ((cm_I h 4 x4.toNatClampNeg).toInt64)) / (1000 : Int64))) * ((cm_I h 3 x4.toNatClampNeg).toInt64)) / (1000 : Int64)) * (x1.toInt64)) / (1000 : Int64)).toInt32)))) d73_97 rfl rfl rfl rfl (CE.o0 g2 g3) (wl_st d73_98 rfl rfl rfl rfl (wl_st d73_99 rfl rfl rfl rfl (wl_gf (v := .int (cm_I (cm_setI (cm_setI h (a0 + 2) x4.toNatClampNeg ((cm_I h (a0 + 2) x4.toNatClampNeg) + ((((((cm_I h (a0 + 1) x4.toNatClampNeg) - (cm_I h (a0 + 2) x4.toNatClampNeg)).toInt64) * ((cm_I h 4 x4.toNatClampNeg).toInt64)) / (1000 : Int64)).toInt32))) (a0 + 1) x4.toNatClampNeg ((cm_I (cm_setI h (a0 + 2) x4.toNatClampNeg ((cm_I h (a0 + 2) x4.toNatClampNeg) + ((((((cm_I h (a0 + 1) x4.toNatClampNeg) - (cm_I h (a0 + 2) x4.toNatClampNeg)).toInt64) * ((cm_I h 4 x4.toNatClampNeg).toInt64)) / (1000 : Int64)).toInt32))) (a0 + 1) x4.toNatClampNeg) - (((((((((cm_I h (a0 + 1) x4.toNatClampNeg) - (cm_I h (a0 + 2) x4.toNatClampNeg)).toInt64) - (((((cm_I h (a0 + 1) x4.toNatClampNeg) - (cm_I h (a0 + 2) x4.toNatClampNeg)).toInt64) * ((cm_I h 4 x4.toNatClampNeg).toInt64)) / (1000 : Int64))) * ((cm_I h 3 x4.toNatClampNeg).toInt64)) / (1000 : Int64)) * (x1.toInt64)) / (1000 : Int64)).toInt32))) a0 2)) d73_100 pf1_28 (CE.k g2) rfl (wl_st d73_103 rfl rfl rfl rfl (wl_st d73_105 rfl rfl rfl rfl (wl_st d73_106 rfl rfl rfl rfl (wl_pf (h' := (cm_setI (cm_setI (cm_setI h (a0 + 2) x4.toNatClampNeg ((cm_I h (a0 + 2) x4.toNatClampNeg) + ((((((cm_I h (a0 + 1) x4.toNatClampNeg) - (cm_I h (a0 + 2) x4.toNatClampNeg)).toInt64) * ((cm_I h 4 x4.toNatClampNeg).toInt64)) / (1000 : Int64)).toInt32))) (a0 + 1) x4.toNatClampNeg ((cm_I (cm_setI h (a0 + 2) x4.toNatClampNeg ((cm_I h (a0 + 2) x4.toNatClampNeg) + ((((((cm_I h (a0 + 1) x4.toNatClampNeg) - (cm_I h (a0 + 2) x4.toNatClampNeg)).toInt64) * ((cm_I h 4 x4.toNatClampNeg).toInt64)) / (1000 : Int64)).toInt32))) (a0 + 1) x4.toNatClampNeg) - (((((((((cm_I h (a0 + 1) x4.toNatClampNeg) - (cm_I h (a0 + 2) x4.toNatClampNeg)).toInt64) - (((((cm_I h (a0 + 1) x4.toNatClampNeg) - (cm_I h (a0 + 2) x4.toNatClampNeg)).toInt64) * ((cm_I h 4 x4.toNatClampNeg).toInt64)) / (1000 : Int64))) * ((cm_I h 3 x4.toNatClampNeg).toInt64)) / (1000 : Int64)) * (x1.toInt64)) / (1000 : Int64)).toInt32))) a0 2 ((cm_I (cm_setI (cm_setI h (a0 + 2) x4.toNatClampNeg ((cm_I h (a0 + 2) x4.toNatClampNeg) + ((((((cm_I h (a0 + 1) x4.toNatClampNeg) - (cm_I h (a0 + 2) x4.toNatClampNeg)).toInt64) * ((cm_I h 4 x4.toNatClampNeg).toInt64)) / (1000 : Int64)).toInt32))) (a0 + 1) x4.toNatClampNeg ((cm_I (cm_setI h (a0 + 2) x4.toNatClampNeg ((cm_I h (a0 + 2) x4.toNatClampNeg) + ((((((cm_I h (a0 + 1) x4.toNatClampNeg) - (cm_I h (a0 + 2) x4.toNatClampNeg)).toInt64) * ((cm_I h 4 x4.toNatClampNeg).toInt64)) / (1000 : Int64)).toInt32))) (a0 + 1) x4.toNatClampNeg) - (((((((((cm_I h (a0 + 1) x4.toNatClampNeg) - (cm_I h (a0 + 2) x4.toNatClampNeg)).toInt64) - (((((cm_I h (a0 + 1) x4.toNatClampNeg) - (cm_I h (a0 + 2) x4.toNatClampNeg)).toInt64) * ((cm_I h 4 x4.toNatClampNeg).toInt64)) / (1000 : Int64))) * ((cm_I h 3 x4.toNatClampNeg).toInt64)) / (1000 : Int64)) * (x1.toInt64)) / (1000 : Int64)).toInt32))) a0 2) - (((((((((cm_I h (a0 + 1) x4.toNatClampNeg) - (cm_I h (a0 + 2) x4.toNatClampNeg)).toInt64) - (((((cm_I h (a0 + 1) x4.toNatClampNeg) - (cm_I h (a0 + 2) x4.toNatClampNeg)).toInt64) * ((cm_I h 4 x4.toNatClampNeg).toInt64)) / (1000 : Int64))) * ((cm_I h 3 x4.toNatClampNeg).toInt64)) / (1000 : Int64)) * (x1.toInt64)) / (1000 : Int64)).toInt32)))) d73_107 pf1_28 (CE.k g2) (Or.inl rfl) rfl (wl_st d73_110 rfl rfl rfl rfl (wl_st d73_111 rfl rfl rfl rfl (wl_st d73_113 rfl rfl rfl rfl (wl_st d73_115 rfl rfl rfl rfl (wl_cv d73_116 rfl rfl rfl pm1_58 (by decide) (ca_v (Or.inr rfl) rfl (Nat.le_of_ble_eq_true rfl) (Nat.le_of_ble_eq_true rfl) (ly_k L 14 rfl).2 (ly_k L 14 rfl).1 (by decide)) g3k))))))))))))))))))))))))))))))))))))))))))))))))))))))))))))))))) g2k))) (H.2 c1)))))
theorem s73_119 {sc : cmS} {d : Nat} {h : cmH} {Q : Option Value → cmH → Prop} (a0 : Nat) (x1 : Int32) (x4 : Int32) (y5 : Int64) (y7 : Int64) (y9 : Int64) (H : cm_wp sc d 73 3 [some (.ref a0), some (.int x1), some (.ref 1), some (.ref 14), some (.int (x4 + 1)), some (.long y5), none, some (.long y7), none, some (.long y9), none] [] h Q) : cm_wp sc d 73 119 [some (.ref a0), some (.int x1), some (.ref 1), some (.ref 14), some (.int x4), some (.long y5), none, some (.long y7), none, some (.long y9), none] [] h Q :=
  wl_st (ls' := [some (.ref a0), some (.int x1), some (.ref 1), some (.ref 14), some (.int (x4 + 1)), some (.long y5), none, some (.long y7), none, some (.long y9), none]) d73_119 rfl rfl rfl rfl (wl_go (tgt := 3) d73_122 (by decide) (H))
-- ClogHouse$Cell.holdFrom([ILClogHouse$Grains;)V
theorem d86_0 : decode (cm_M 86).2.2.1 0 = .ok (.aload_n 0, 1) := by decide +kernel
theorem d86_1 : decode (cm_M 86).2.2.1 1 = .ok (.invokevirtual 31, 3) := by decide +kernel
theorem d86_4 : decode (cm_M 86).2.2.1 4 = .ok (.istore_n 3, 1) := by decide +kernel
theorem d86_5 : decode (cm_M 86).2.2.1 5 = .ok (.iconst 0, 1) := by decide +kernel
theorem d86_6 : decode (cm_M 86).2.2.1 6 = .ok (.istore 4, 2) := by decide +kernel
theorem d86_8 : decode (cm_M 86).2.2.1 8 = .ok (.iload 4, 2) := by decide +kernel
theorem d86_10 : decode (cm_M 86).2.2.1 10 = .ok (.bipush 8, 2) := by decide +kernel
theorem d86_12 : decode (cm_M 86).2.2.1 12 = .ok (.if_icmp .ge 94, 3) := by decide +kernel
theorem d86_15 : decode (cm_M 86).2.2.1 15 = .ok (.iload 4, 2) := by decide +kernel
theorem d86_17 : decode (cm_M 86).2.2.1 17 = .ok (.aload_n 1, 1) := by decide +kernel
theorem d86_18 : decode (cm_M 86).2.2.1 18 = .ok (.arraylength, 1) := by decide +kernel
theorem d86_19 : decode (cm_M 86).2.2.1 19 = .ok (.if_icmp .ge 87, 3) := by decide +kernel
theorem d86_22 : decode (cm_M 86).2.2.1 22 = .ok (.iload_n 3, 1) := by decide +kernel
theorem d86_23 : decode (cm_M 86).2.2.1 23 = .ok (.iload 4, 2) := by decide +kernel
theorem d86_25 : decode (cm_M 86).2.2.1 25 = .ok (.isub, 1) := by decide +kernel
theorem d86_26 : decode (cm_M 86).2.2.1 26 = .ok (.istore 5, 2) := by decide +kernel
theorem d86_28 : decode (cm_M 86).2.2.1 28 = .ok (.iload 5, 2) := by decide +kernel
theorem d86_30 : decode (cm_M 86).2.2.1 30 = .ok (.iconst 1, 1) := by decide +kernel
theorem d86_31 : decode (cm_M 86).2.2.1 31 = .ok (.if_icmp .ge 9, 3) := by decide +kernel
theorem d86_34 : decode (cm_M 86).2.2.1 34 = .ok (.ldc2_w 45, 3) := by decide +kernel
theorem d86_37 : decode (cm_M 86).2.2.1 37 = .ok (.goto 14, 3) := by decide +kernel
theorem d86_40 : decode (cm_M 86).2.2.1 40 = .ok (.aload_n 2, 1) := by decide +kernel
theorem d86_41 : decode (cm_M 86).2.2.1 41 = .ok (.getfield 47, 3) := by decide +kernel
theorem d86_44 : decode (cm_M 86).2.2.1 44 = .ok (.iload 4, 2) := by decide +kernel
theorem d86_46 : decode (cm_M 86).2.2.1 46 = .ok (.iaload, 1) := by decide +kernel
theorem d86_47 : decode (cm_M 86).2.2.1 47 = .ok (.iload 5, 2) := by decide +kernel
theorem d86_49 : decode (cm_M 86).2.2.1 49 = .ok (.idiv, 1) := by decide +kernel
theorem d86_50 : decode (cm_M 86).2.2.1 50 = .ok (.i2l, 1) := by decide +kernel
theorem d86_51 : decode (cm_M 86).2.2.1 51 = .ok (.lstore 6, 2) := by decide +kernel
theorem d86_53 : decode (cm_M 86).2.2.1 53 = .ok (.aload_n 1, 1) := by decide +kernel
theorem d86_54 : decode (cm_M 86).2.2.1 54 = .ok (.iload 4, 2) := by decide +kernel
theorem d86_56 : decode (cm_M 86).2.2.1 56 = .ok (.iaload, 1) := by decide +kernel
theorem d86_57 : decode (cm_M 86).2.2.1 57 = .ok (.i2l, 1) := by decide +kernel
theorem d86_58 : decode (cm_M 86).2.2.1 58 = .ok (.lload 6, 2) := by decide +kernel
theorem d86_60 : decode (cm_M 86).2.2.1 60 = .ok (.lmul, 1) := by decide +kernel
theorem d86_61 : decode (cm_M 86).2.2.1 61 = .ok (.ldc2_w 45, 3) := by decide +kernel
theorem d86_64 : decode (cm_M 86).2.2.1 64 = .ok (.ldiv, 1) := by decide +kernel
theorem d86_65 : decode (cm_M 86).2.2.1 65 = .ok (.l2i, 1) := by decide +kernel
theorem d86_66 : decode (cm_M 86).2.2.1 66 = .ok (.istore 8, 2) := by decide +kernel
theorem d86_68 : decode (cm_M 86).2.2.1 68 = .ok (.aload_n 1, 1) := by decide +kernel
theorem d86_69 : decode (cm_M 86).2.2.1 69 = .ok (.iload 4, 2) := by decide +kernel
theorem d86_71 : decode (cm_M 86).2.2.1 71 = .ok (.dup2, 1) := by decide +kernel
theorem d86_72 : decode (cm_M 86).2.2.1 72 = .ok (.iaload, 1) := by decide +kernel
theorem d86_73 : decode (cm_M 86).2.2.1 73 = .ok (.iload 8, 2) := by decide +kernel
theorem d86_75 : decode (cm_M 86).2.2.1 75 = .ok (.isub, 1) := by decide +kernel
theorem d86_76 : decode (cm_M 86).2.2.1 76 = .ok (.iastore, 1) := by decide +kernel
theorem d86_77 : decode (cm_M 86).2.2.1 77 = .ok (.aload_n 0, 1) := by decide +kernel
theorem d86_78 : decode (cm_M 86).2.2.1 78 = .ok (.getfield 9, 3) := by decide +kernel
theorem d86_81 : decode (cm_M 86).2.2.1 81 = .ok (.iload 4, 2) := by decide +kernel
theorem d86_83 : decode (cm_M 86).2.2.1 83 = .ok (.dup2, 1) := by decide +kernel
theorem d86_84 : decode (cm_M 86).2.2.1 84 = .ok (.iaload, 1) := by decide +kernel
theorem d86_85 : decode (cm_M 86).2.2.1 85 = .ok (.iload 8, 2) := by decide +kernel
theorem d86_87 : decode (cm_M 86).2.2.1 87 = .ok (.iadd, 1) := by decide +kernel
theorem d86_88 : decode (cm_M 86).2.2.1 88 = .ok (.iastore, 1) := by decide +kernel
theorem d86_89 : decode (cm_M 86).2.2.1 89 = .ok (.aload_n 0, 1) := by decide +kernel
theorem d86_90 : decode (cm_M 86).2.2.1 90 = .ok (.dup, 1) := by decide +kernel
theorem d86_91 : decode (cm_M 86).2.2.1 91 = .ok (.getfield 28, 3) := by decide +kernel
theorem d86_94 : decode (cm_M 86).2.2.1 94 = .ok (.iload 8, 2) := by decide +kernel
theorem d86_96 : decode (cm_M 86).2.2.1 96 = .ok (.iadd, 1) := by decide +kernel
theorem d86_97 : decode (cm_M 86).2.2.1 97 = .ok (.putfield 28, 3) := by decide +kernel
theorem d86_100 : decode (cm_M 86).2.2.1 100 = .ok (.iinc 4 1, 3) := by decide +kernel
theorem d86_103 : decode (cm_M 86).2.2.1 103 = .ok (.goto (-95), 3) := by decide +kernel
theorem d86_106 : decode (cm_M 86).2.2.1 106 = .ok (.return_, 1) := by decide +kernel
theorem s86_0 {sc : cmS} {d : Nat} {h : cmH} {Q : Option Value → cmH → Prop} (a0 : Nat) (a1 : Nat) (u3 : Option Value) (u4 : Option Value) (u5 : Option Value) (u6 : Option Value) (u7 : Option Value) (u8 : Option Value) (H : (CE h a0) ∧ cm_ci sc d 24 [.ref a0] h (fun r h' => cm_wp sc (d + 1) 86 4 [some (.ref a0), some (.ref a1), some (.ref 1), u3, u4, u5, u6, u7, u8] [.int r] h' Q)) : cm_wp sc (d + 1) 86 0 [some (.ref a0), some (.ref a1), some (.ref 1), u3, u4, u5, u6, u7, u8] [] h Q :=
  wl_st d86_0 rfl rfl rfl rfl (And.elim (fun g1 g1k => wl_ci d86_1 rfl rfl rfl pm1_31 (by decide) (ca_v (Or.inl rfl) rfl (Nat.le_of_ble_eq_true rfl) (Nat.le_of_ble_eq_true rfl) (CE.k g1).2 (CE.k g1).1 (by decide)) g1k) H)
theorem s86_4 {sc : cmS} {d : Nat} {h : cmH} {Q : Option Value → cmH → Prop} (a0 : Nat) (a1 : Nat) (u3 : Option Value) (u4 : Option Value) (u5 : Option Value) (u6 : Option Value) (u7 : Option Value) (u8 : Option Value) (sx0 : Int32) (H : cm_wp sc d 86 8 [some (.ref a0), some (.ref a1), some (.ref 1), some (.int sx0), some (.int (0 : Int32)), u5, u6, u7, u8] [] h Q) : cm_wp sc d 86 4 [some (.ref a0), some (.ref a1), some (.ref 1), u3, u4, u5, u6, u7, u8] [.int sx0] h Q :=
  wl_st (ls' := [some (.ref a0), some (.ref a1), some (.ref 1), some (.int sx0), u4, u5, u6, u7, u8]) d86_4 rfl rfl rfl rfl (wl_ic (v := 0) d86_5 rfl (wl_st (ls' := [some (.ref a0), some (.ref a1), some (.ref 1), some (.int sx0), some (.int (0 : Int32)), u5, u6, u7, u8]) d86_6 rfl rfl rfl rfl (H)))
theorem s86_8 {sc : cmS} {d : Nat} {h : cmH} {Q : Option Value → cmH → Prop} (L : LY h) (a0 : Nat) (a1 : Nat) (x3 : Int32) (x4 : Int32) (u5 : Option Value) (u6 : Option Value) (u7 : Option Value) (u8 : Option Value) (H : ((((8 : Int32) ≤ x4) → Q none h) ∧ (¬ ((8 : Int32) ≤ x4) → (12 ≤ cm_kd h a1 ∧ cm_kd h a1 ≤ 18 ∧ a1 < cm_n h) ∧ ((((Int32.ofNat (cm_ln h a1)) ≤ x4) → Q none h) ∧ (¬ ((Int32.ofNat (cm_ln h a1)) ≤ x4) → ((((1 : Int32) ≤ (x3 - x4)) → (IX 8 x4) ∧ (¬ (x3 - x4) = 0) ∧ cm_wp sc d 86 51 [some (.ref a0), some (.ref a1), some (.ref 1), some (.int x3), some (.int x4), some (.int (x3 - x4)), u6, u7, u8] [.long (((cm_I h 2 x4.toNatClampNeg) / (x3 - x4)).toInt64)] h Q) ∧ (¬ ((1 : Int32) ≤ (x3 - x4)) → cm_wp sc d 86 51 [some (.ref a0), some (.ref a1), some (.ref 1), some (.int x3), some (.int x4), some (.int (x3 - x4)), u6, u7, u8] [.long (1000 : Int64)] h Q))))))) : cm_wp sc d 86 8 [some (.ref a0), some (.ref a1), some (.ref 1), some (.int x3), some (.int x4), u5, u6, u7, u8] [] h Q :=
  wl_st d86_8 rfl rfl rfl rfl (wl_bi (v := 8) d86_10 rfl (wl_cb (b := (8 : Int32) ≤ x4) (off := 94) (tgt := 106) (pc3 := 15) (st' := []) d86_12 rfl rfl rfl rfl (by decide) rfl (fun c1 => wl_rt d86_106 rfl rfl rfl (H.1 c1)) (fun c1 => wl_st d86_15 rfl rfl rfl rfl (wl_st d86_17 rfl rfl rfl rfl (And.elim (fun g2 g2k => wl_if (st' := [.int (Int32.ofNat (cm_ln h a1)), .int x4]) d86_18 rfl rfl rfl rfl g2 (wl_cb (b := (Int32.ofNat (cm_ln h a1)) ≤ x4) (off := 87) (tgt := 106) (pc3 := 22) (st' := []) d86_19 rfl rfl rfl rfl (by decide) rfl (fun c3 => wl_rt d86_106 rfl rfl rfl (g2k.1 c3)) (fun c3 => wl_st d86_22 rfl rfl rfl rfl (wl_st d86_23 rfl rfl rfl rfl (wl_st d86_25 rfl rfl rfl rfl (wl_st (ls' := [some (.ref a0), some (.ref a1), some (.ref 1), some (.int x3), some (.int x4), some (.int (x3 - x4)), u6, u7, u8]) d86_26 rfl rfl rfl rfl (wl_st d86_28 rfl rfl rfl rfl (wl_ic (v := 1) d86_30 rfl (wl_cb (b := (1 : Int32) ≤ (x3 - x4)) (off := 9) (tgt := 40) (pc3 := 34) (st' := []) d86_31 rfl rfl rfl rfl (by decide) rfl (fun c4 => wl_st d86_40 rfl rfl rfl rfl (wl_gr (b := 2) d86_41 pf1_47 (ly_k L 1 rfl) rfl (ly_r L 1 0 rfl) (wl_st d86_44 rfl rfl rfl rfl (And.elim (fun g5 g5k => wl_if (g := cm_ok h 13 2 x4) (st' := [.int (cm_I h 2 x4.toNatClampNeg)]) d86_46 rfl rfl rfl rfl (ly_o L 2 rfl g5) (wl_st d86_47 rfl rfl rfl rfl (And.elim (fun g6 g6k => wl_ne (g := (x3 - x4) = 0) d86_49 rfl rfl rfl rfl g6 (wl_st d86_50 rfl rfl rfl rfl (g6k))) g5k))) ((g2k.2 c3).1 c4))))) (fun c4 => wl_cJ (v := 1000) d86_34 pj1_45 (wl_go (tgt := 51) d86_37 (by decide) (((g2k.2 c3).2 c4))))))))))))) (H.2 c1))))))
theorem s86_51 {sc : cmS} {d : Nat} {h : cmH} {Q : Option Value → cmH → Prop} (a0 : Nat) (a1 : Nat) (x3 : Int32) (x4 : Int32) (x5 : Int32) (u6 : Option Value) (u7 : Option Value) (u8 : Option Value) (sy0 : Int64) (H : (cm_ok h 13 a1 x4) ∧ (CE h a0) ∧ (IX 8 x4) ∧ cm_wp sc d 86 8 [some (.ref a0), some (.ref a1), some (.ref 1), some (.int x3), some (.int (x4 + 1)), some (.int x5), some (.long sy0), none, some (.int (((((cm_I h a1 x4.toNatClampNeg).toInt64) * sy0) / (1000 : Int64)).toInt32))] [] (cm_setI (cm_setI (cm_setI h a1 x4.toNatClampNeg ((cm_I h a1 x4.toNatClampNeg) - (((((cm_I h a1 x4.toNatClampNeg).toInt64) * sy0) / (1000 : Int64)).toInt32))) (a0 + 1) x4.toNatClampNeg ((cm_I (cm_setI h a1 x4.toNatClampNeg ((cm_I h a1 x4.toNatClampNeg) - (((((cm_I h a1 x4.toNatClampNeg).toInt64) * sy0) / (1000 : Int64)).toInt32))) (a0 + 1) x4.toNatClampNeg) + (((((cm_I h a1 x4.toNatClampNeg).toInt64) * sy0) / (1000 : Int64)).toInt32))) a0 2 ((cm_I (cm_setI (cm_setI h a1 x4.toNatClampNeg ((cm_I h a1 x4.toNatClampNeg) - (((((cm_I h a1 x4.toNatClampNeg).toInt64) * sy0) / (1000 : Int64)).toInt32))) (a0 + 1) x4.toNatClampNeg ((cm_I (cm_setI h a1 x4.toNatClampNeg ((cm_I h a1 x4.toNatClampNeg) - (((((cm_I h a1 x4.toNatClampNeg).toInt64) * sy0) / (1000 : Int64)).toInt32))) (a0 + 1) x4.toNatClampNeg) + (((((cm_I h a1 x4.toNatClampNeg).toInt64) * sy0) / (1000 : Int64)).toInt32))) a0 2) + (((((cm_I h a1 x4.toNatClampNeg).toInt64) * sy0) / (1000 : Int64)).toInt32))) Q) : cm_wp sc d 86 51 [some (.ref a0), some (.ref a1), some (.ref 1), some (.int x3), some (.int x4), some (.int x5), u6, u7, u8] [.long sy0] h Q :=
  wl_st (ls' := [some (.ref a0), some (.ref a1), some (.ref 1), some (.int x3), some (.int x4), some (.int x5), some (.long sy0), none, u8]) d86_51 rfl rfl rfl rfl (wl_st d86_53 rfl rfl rfl rfl (wl_st d86_54 rfl rfl rfl rfl (And.elim (fun g1 g1k => wl_if (g := cm_ok h 13 a1 x4) (st' := [.int (cm_I h a1 x4.toNatClampNeg)]) d86_56 rfl rfl rfl rfl g1 (wl_st d86_57 rfl rfl rfl rfl (wl_st d86_58 rfl rfl rfl rfl (wl_st d86_60 rfl rfl rfl rfl (wl_cJ (v := 1000) d86_61 pj1_45 (wl_ne (g := (1000 : Int64) = 0) d86_64 rfl rfl rfl rfl (by decide) (wl_st d86_65 rfl rfl rfl rfl (wl_st (ls' := [some (.ref a0), some (.ref a1), some (.ref 1), some (.int x3), some (.int x4), some (.int x5), some (.long sy0), none, some (.int (((((cm_I h a1 x4.toNatClampNeg).toInt64) * sy0) / (1000 : Int64)).toInt32))]) d86_66 rfl rfl rfl rfl (wl_st d86_68 rfl rfl rfl rfl (wl_st d86_69 rfl rfl rfl rfl (wl_st d86_71 rfl rfl rfl rfl (wl_if (g := cm_ok h 13 a1 x4) (st' := [.int (cm_I h a1 x4.toNatClampNeg), .int x4, .ref a1]) d86_72 rfl rfl rfl rfl g1 (wl_st d86_73 rfl rfl rfl rfl (wl_st d86_75 rfl rfl rfl rfl (wl_if (h' := (cm_setI h a1 x4.toNatClampNeg ((cm_I h a1 x4.toNatClampNeg) - (((((cm_I h a1 x4.toNatClampNeg).toInt64) * sy0) / (1000 : Int64)).toInt32)))) d86_76 rfl rfl rfl rfl g1 (wl_st d86_77 rfl rfl rfl rfl (And.elim (fun g2 g2k => wl_gr (b := (a0 + 1)) d86_78 pf1_9 (CE.k g2) rfl (CE.r0 g2) (wl_st d86_81 rfl rfl rfl rfl (wl_st d86_83 rfl rfl rfl rfl (And.elim (fun g3 g3k => wl_if (g := cm_ok (cm_setI h a1 x4.toNatClampNeg ((cm_I h a1 x4.toNatClampNeg) - (((((cm_I h a1 x4.toNatClampNeg).toInt64) * sy0) / (1000 : Int64)).toInt32))) 13 (a0 + 1) x4) (st' := [.int (cm_I (cm_setI h a1 x4.toNatClampNeg ((cm_I h a1 x4.toNatClampNeg) - (((((cm_I h a1 x4.toNatClampNeg).toInt64) * sy0) / (1000 : Int64)).toInt32))) (a0 + 1) x4.toNatClampNeg), .int x4, .ref (a0 + 1)]) d86_84 rfl rfl rfl rfl (CE.o0 g2 g3) (wl_st d86_85 rfl rfl rfl rfl (wl_st d86_87 rfl rfl rfl rfl (wl_if (h' := (cm_setI (cm_setI h a1 x4.toNatClampNeg ((cm_I h a1 x4.toNatClampNeg) - (((((cm_I h a1 x4.toNatClampNeg).toInt64) * sy0) / (1000 : Int64)).toInt32))) (a0 + 1) x4.toNatClampNeg ((cm_I (cm_setI h a1 x4.toNatClampNeg ((cm_I h a1 x4.toNatClampNeg) - (((((cm_I h a1 x4.toNatClampNeg).toInt64) * sy0) / (1000 : Int64)).toInt32))) (a0 + 1) x4.toNatClampNeg) + (((((cm_I h a1 x4.toNatClampNeg).toInt64) * sy0) / (1000 : Int64)).toInt32)))) d86_88 rfl rfl rfl rfl (CE.o0 g2 g3) (wl_st d86_89 rfl rfl rfl rfl (wl_st d86_90 rfl rfl rfl rfl (wl_gf (v := .int (cm_I (cm_setI (cm_setI h a1 x4.toNatClampNeg ((cm_I h a1 x4.toNatClampNeg) - (((((cm_I h a1 x4.toNatClampNeg).toInt64) * sy0) / (1000 : Int64)).toInt32))) (a0 + 1) x4.toNatClampNeg ((cm_I (cm_setI h a1 x4.toNatClampNeg ((cm_I h a1 x4.toNatClampNeg) - (((((cm_I h a1 x4.toNatClampNeg).toInt64) * sy0) / (1000 : Int64)).toInt32))) (a0 + 1) x4.toNatClampNeg) + (((((cm_I h a1 x4.toNatClampNeg).toInt64) * sy0) / (1000 : Int64)).toInt32))) a0 2)) d86_91 pf1_28 (CE.k g2) rfl (wl_st d86_94 rfl rfl rfl rfl (wl_st d86_96 rfl rfl rfl rfl (wl_pf (h' := (cm_setI (cm_setI (cm_setI h a1 x4.toNatClampNeg ((cm_I h a1 x4.toNatClampNeg) - (((((cm_I h a1 x4.toNatClampNeg).toInt64) * sy0) / (1000 : Int64)).toInt32))) (a0 + 1) x4.toNatClampNeg ((cm_I (cm_setI h a1 x4.toNatClampNeg ((cm_I h a1 x4.toNatClampNeg) - (((((cm_I h a1 x4.toNatClampNeg).toInt64) * sy0) / (1000 : Int64)).toInt32))) (a0 + 1) x4.toNatClampNeg) + (((((cm_I h a1 x4.toNatClampNeg).toInt64) * sy0) / (1000 : Int64)).toInt32))) a0 2 ((cm_I (cm_setI (cm_setI h a1 x4.toNatClampNeg ((cm_I h a1 x4.toNatClampNeg) - (((((cm_I h a1 x4.toNatClampNeg).toInt64) * sy0) / (1000 : Int64)).toInt32))) (a0 + 1) x4.toNatClampNeg ((cm_I (cm_setI h a1 x4.toNatClampNeg ((cm_I h a1 x4.toNatClampNeg) - (((((cm_I h a1 x4.toNatClampNeg).toInt64) * sy0) / (1000 : Int64)).toInt32))) (a0 + 1) x4.toNatClampNeg) + (((((cm_I h a1 x4.toNatClampNeg).toInt64) * sy0) / (1000 : Int64)).toInt32))) a0 2) + (((((cm_I h a1 x4.toNatClampNeg).toInt64) * sy0) / (1000 : Int64)).toInt32)))) d86_97 pf1_28 (CE.k g2) (Or.inl rfl) rfl (wl_st (ls' := [some (.ref a0), some (.ref a1), some (.ref 1), some (.int x3), some (.int (x4 + 1)), some (.int x5), some (.long sy0), none, some (.int (((((cm_I h a1 x4.toNatClampNeg).toInt64) * sy0) / (1000 : Int64)).toInt32))]) d86_100 rfl rfl rfl rfl (wl_go (tgt := 8) d86_103 (by decide) (g3k))))))))))))) g2k)))) g1k))))))))))))))))) H)))
-- ClogHouse$Changes.<init>()V
theorem d9_0 : decode (cm_M 9).2.2.1 0 = .ok (.aload_n 0, 1) := by decide +kernel
theorem d9_1 : decode (cm_M 9).2.2.1 1 = .ok (.invokespecial 3, 3) := by decide +kernel
theorem d9_4 : decode (cm_M 9).2.2.1 4 = .ok (.aload_n 0, 1) := by decide +kernel
theorem d9_5 : decode (cm_M 9).2.2.1 5 = .ok (.bipush 20, 2) := by decide +kernel
theorem d9_7 : decode (cm_M 9).2.2.1 7 = .ok (.newarray .int, 2) := by decide +kernel
theorem d9_9 : decode (cm_M 9).2.2.1 9 = .ok (.putfield 9, 3) := by decide +kernel
theorem d9_12 : decode (cm_M 9).2.2.1 12 = .ok (.aload_n 0, 1) := by decide +kernel
theorem d9_13 : decode (cm_M 9).2.2.1 13 = .ok (.bipush 61, 2) := by decide +kernel
theorem d9_15 : decode (cm_M 9).2.2.1 15 = .ok (.newarray .int, 2) := by decide +kernel
theorem d9_17 : decode (cm_M 9).2.2.1 17 = .ok (.putfield 15, 3) := by decide +kernel
theorem d9_20 : decode (cm_M 9).2.2.1 20 = .ok (.return_, 1) := by decide +kernel
theorem s9_0 {sc : cmS} {d : Nat} {h : cmH} {Q : Option Value → cmH → Prop} (a0 : Nat) (H : (cm_kd (cm_mk h 13 20) a0 = 2 ∧ a0 < cm_n (cm_mk h 13 20)) ∧ (cm_kd (cm_mk (cm_setR (cm_mk h 13 20) a0 0 (some (cm_n h))) 13 61) a0 = 2 ∧ a0 < cm_n (cm_mk (cm_setR (cm_mk h 13 20) a0 0 (some (cm_n h))) 13 61)) ∧ Q none (cm_setR (cm_mk (cm_setR (cm_mk h 13 20) a0 0 (some (cm_n h))) 13 61) a0 1 (some (cm_n (cm_setR (cm_mk h 13 20) a0 0 (some (cm_n h))))))) : cm_wp sc (d + 1) 9 0 [some (.ref a0)] [] h Q :=
  wl_st d9_0 rfl rfl rfl rfl (wl_pr (st' := []) d9_1 rfl rfl rfl pm2_3 (by decide) rfl rfl (wl_st d9_4 rfl rfl rfl rfl (wl_bi (v := 20) d9_5 rfl (wl_na (kd := 13) (N := 20) d9_7 (by decide) (by decide) rfl (And.elim (fun g1 g1k => wl_pf (h' := (cm_setR (cm_mk h 13 20) a0 0 (some (cm_n h)))) d9_9 pf2_9 g1 (Or.inr ⟨rfl, rfl, rfl⟩) rfl (wl_st d9_12 rfl rfl rfl rfl (wl_bi (v := 61) d9_13 rfl (wl_na (kd := 13) (N := 61) d9_15 (by decide) (by decide) rfl (And.elim (fun g2 g2k => wl_pf (h' := (cm_setR (cm_mk (cm_setR (cm_mk h 13 20) a0 0 (some (cm_n h))) 13 61) a0 1 (some (cm_n (cm_setR (cm_mk h 13 20) a0 0 (some (cm_n h))))))) d9_17 pf2_15 g2 (Or.inr ⟨rfl, rfl, rfl⟩) rfl (wl_rt d9_20 rfl rfl rfl g2k)) g1k))))) H)))))
-- ClogHouse$Changes.weigh(II)V
theorem d112_0 : decode (cm_M 112).2.2.1 0 = .ok (.iload_n 1, 1) := by decide +kernel
theorem d112_1 : decode (cm_M 112).2.2.1 1 = .ok (.iconst 1, 1) := by decide +kernel
theorem d112_2 : decode (cm_M 112).2.2.1 2 = .ok (.bipush 60, 2) := by decide +kernel
theorem d112_4 : decode (cm_M 112).2.2.1 4 = .ok (.invokestatic 18, 3) := by decide +kernel
theorem d112_7 : decode (cm_M 112).2.2.1 7 = .ok (.ifCond .ne 4, 3) := by decide +kernel
theorem d112_10 : decode (cm_M 112).2.2.1 10 = .ok (.return_, 1) := by decide +kernel
theorem d112_11 : decode (cm_M 112).2.2.1 11 = .ok (.aload_n 0, 1) := by decide +kernel
theorem d112_12 : decode (cm_M 112).2.2.1 12 = .ok (.getfield 15, 3) := by decide +kernel
theorem d112_15 : decode (cm_M 112).2.2.1 15 = .ok (.iload_n 1, 1) := by decide +kernel
theorem d112_16 : decode (cm_M 112).2.2.1 16 = .ok (.iconst 0, 1) := by decide +kernel
theorem d112_17 : decode (cm_M 112).2.2.1 17 = .ok (.iastore, 1) := by decide +kernel
theorem d112_18 : decode (cm_M 112).2.2.1 18 = .ok (.iload_n 1, 1) := by decide +kernel
theorem d112_19 : decode (cm_M 112).2.2.1 19 = .ok (.iconst 1, 1) := by decide +kernel
theorem d112_20 : decode (cm_M 112).2.2.1 20 = .ok (.isub, 1) := by decide +kernel
theorem d112_21 : decode (cm_M 112).2.2.1 21 = .ok (.istore_n 3, 1) := by decide +kernel
theorem d112_22 : decode (cm_M 112).2.2.1 22 = .ok (.iload_n 3, 1) := by decide +kernel
theorem d112_23 : decode (cm_M 112).2.2.1 23 = .ok (.ifCond .lt 38, 3) := by decide +kernel
theorem d112_26 : decode (cm_M 112).2.2.1 26 = .ok (.aload_n 0, 1) := by decide +kernel
theorem d112_27 : decode (cm_M 112).2.2.1 27 = .ok (.iload_n 3, 1) := by decide +kernel
theorem d112_28 : decode (cm_M 112).2.2.1 28 = .ok (.iconst 1, 1) := by decide +kernel
theorem d112_29 : decode (cm_M 112).2.2.1 29 = .ok (.iadd, 1) := by decide +kernel
theorem d112_30 : decode (cm_M 112).2.2.1 30 = .ok (.iload_n 1, 1) := by decide +kernel
theorem d112_31 : decode (cm_M 112).2.2.1 31 = .ok (.aload_n 0, 1) := by decide +kernel
theorem d112_32 : decode (cm_M 112).2.2.1 32 = .ok (.iconst 0, 1) := by decide +kernel
theorem d112_33 : decode (cm_M 112).2.2.1 33 = .ok (.invokevirtual 22, 3) := by decide +kernel
theorem d112_36 : decode (cm_M 112).2.2.1 36 = .ok (.iconst 1, 1) := by decide +kernel
theorem d112_37 : decode (cm_M 112).2.2.1 37 = .ok (.invokevirtual 26, 3) := by decide +kernel
theorem d112_40 : decode (cm_M 112).2.2.1 40 = .ok (.aload_n 0, 1) := by decide +kernel
theorem d112_41 : decode (cm_M 112).2.2.1 41 = .ok (.getfield 15, 3) := by decide +kernel
theorem d112_44 : decode (cm_M 112).2.2.1 44 = .ok (.iload_n 3, 1) := by decide +kernel
theorem d112_45 : decode (cm_M 112).2.2.1 45 = .ok (.aload_n 0, 1) := by decide +kernel
theorem d112_46 : decode (cm_M 112).2.2.1 46 = .ok (.getfield 30, 3) := by decide +kernel
theorem d112_49 : decode (cm_M 112).2.2.1 49 = .ok (.aload_n 0, 1) := by decide +kernel
theorem d112_50 : decode (cm_M 112).2.2.1 50 = .ok (.getfield 34, 3) := by decide +kernel
theorem d112_53 : decode (cm_M 112).2.2.1 53 = .ok (.iadd, 1) := by decide +kernel
theorem d112_54 : decode (cm_M 112).2.2.1 54 = .ok (.iastore, 1) := by decide +kernel
theorem d112_55 : decode (cm_M 112).2.2.1 55 = .ok (.iinc 3 (-1), 3) := by decide +kernel
theorem d112_58 : decode (cm_M 112).2.2.1 58 = .ok (.goto (-36), 3) := by decide +kernel
theorem d112_61 : decode (cm_M 112).2.2.1 61 = .ok (.aload_n 0, 1) := by decide +kernel
theorem d112_62 : decode (cm_M 112).2.2.1 62 = .ok (.iconst 0, 1) := by decide +kernel
theorem d112_63 : decode (cm_M 112).2.2.1 63 = .ok (.iload_n 1, 1) := by decide +kernel
theorem d112_64 : decode (cm_M 112).2.2.1 64 = .ok (.iconst 0, 1) := by decide +kernel
theorem d112_65 : decode (cm_M 112).2.2.1 65 = .ok (.iload_n 2, 1) := by decide +kernel
theorem d112_66 : decode (cm_M 112).2.2.1 66 = .ok (.invokevirtual 26, 3) := by decide +kernel
theorem d112_69 : decode (cm_M 112).2.2.1 69 = .ok (.return_, 1) := by decide +kernel
theorem s112_0 {sc : cmS} {d : Nat} {h : cmH} {Q : Option Value → cmH → Prop} (x1 : Int32) (x2 : Int32) (u3 : Option Value) (H : cm_ci sc d 13 [.int x1, .int (1 : Int32), .int (60 : Int32)] h (fun r h' => cm_wp sc (d + 1) 112 7 [some (.ref 30), some (.int x1), some (.int x2), u3] [.int r] h' Q)) : cm_wp sc (d + 1) 112 0 [some (.ref 30), some (.int x1), some (.int x2), u3] [] h Q :=
  wl_st d112_0 rfl rfl rfl rfl (wl_ic (v := 1) d112_1 rfl (wl_bi (v := 60) d112_2 rfl (wl_ci d112_4 rfl rfl rfl pm2_18 (by decide) (ca_s (Or.inr rfl) rfl (Nat.le_of_ble_eq_true rfl) (Nat.le_of_ble_eq_true rfl)) H)))
theorem s112_7 {sc : cmS} {d : Nat} {h : cmH} {Q : Option Value → cmH → Prop} (L : LY h) (x1 : Int32) (x2 : Int32) (u3 : Option Value) (sx0 : Int32) (H : (((¬ sx0 = 0) → (IX 61 x1) ∧ cm_wp sc d 112 22 [some (.ref 30), some (.int x1), some (.int x2), some (.int (x1 - (1 : Int32)))] [] (cm_setI h 32 x1.toNatClampNeg (0 : Int32)) Q) ∧ (¬ (¬ sx0 = 0) → Q none h))) : cm_wp sc d 112 7 [some (.ref 30), some (.int x1), some (.int x2), u3] [.int sx0] h Q :=
  wl_cb (b := ¬ sx0 = 0) (off := 4) (tgt := 11) (pc3 := 10) (st' := []) d112_7 rfl rfl rfl rfl (by decide) rfl (fun c1 => wl_st d112_11 rfl rfl rfl rfl (wl_gr (b := 32) d112_12 pf2_15 (ly_k L 30 rfl) rfl (ly_r L 30 1 rfl) (wl_st d112_15 rfl rfl rfl rfl (wl_ic (v := 0) d112_16 rfl (And.elim (fun g2 g2k => wl_if (h' := (cm_setI h 32 x1.toNatClampNeg (0 : Int32))) d112_17 rfl rfl rfl rfl (ly_o L 32 rfl g2) (wl_st d112_18 rfl rfl rfl rfl (wl_ic (v := 1) d112_19 rfl (wl_st d112_20 rfl rfl rfl rfl (wl_st (ls' := [some (.ref 30), some (.int x1), some (.int x2), some (.int (x1 - (1 : Int32)))]) d112_21 rfl rfl rfl rfl (g2k)))))) (H.1 c1)))))) (fun c1 => wl_rt d112_10 rfl rfl rfl (H.2 c1))
theorem s112_22 {sc : cmS} {d : Nat} {h : cmH} {Q : Option Value → cmH → Prop} (L : LY h) (x1 : Int32) (x2 : Int32) (x3 : Int32) (H : (((x3 < 0) → cm_cv sc d 114 [.ref 30, .int (0 : Int32), .int x1, .int (0 : Int32), .int x2] h (fun h' => cm_wp sc (d + 1) 112 69 [some (.ref 30), some (.int x1), some (.int x2), some (.int x3)] [] h' Q)) ∧ (¬ (x3 < 0) → cm_ci sc d 113 [.ref 30, .int (0 : Int32)] h (fun r h' => cm_wp sc (d + 1) 112 36 [some (.ref 30), some (.int x1), some (.int x2), some (.int x3)] [.int r, .int x1, .int (x3 + (1 : Int32)), .ref 30] h' Q)))) : cm_wp sc (d + 1) 112 22 [some (.ref 30), some (.int x1), some (.int x2), some (.int x3)] [] h Q :=
  wl_st d112_22 rfl rfl rfl rfl (wl_cb (b := x3 < 0) (off := 38) (tgt := 61) (pc3 := 26) (st' := []) d112_23 rfl rfl rfl rfl (by decide) rfl (fun c1 => wl_st d112_61 rfl rfl rfl rfl (wl_ic (v := 0) d112_62 rfl (wl_st d112_63 rfl rfl rfl rfl (wl_ic (v := 0) d112_64 rfl (wl_st d112_65 rfl rfl rfl rfl (wl_cv d112_66 rfl rfl rfl pm2_26 (by decide) (ca_v (Or.inl rfl) rfl (Nat.le_of_ble_eq_true rfl) (Nat.le_of_ble_eq_true rfl) (ly_k L 30 rfl).2 (ly_k L 30 rfl).1 (by decide)) (H.1 c1))))))) (fun c1 => wl_st d112_26 rfl rfl rfl rfl (wl_st d112_27 rfl rfl rfl rfl (wl_ic (v := 1) d112_28 rfl (wl_st d112_29 rfl rfl rfl rfl (wl_st d112_30 rfl rfl rfl rfl (wl_st d112_31 rfl rfl rfl rfl (wl_ic (v := 0) d112_32 rfl (wl_ci d112_33 rfl rfl rfl pm2_22 (by decide) (ca_v (Or.inl rfl) rfl (Nat.le_of_ble_eq_true rfl) (Nat.le_of_ble_eq_true rfl) (ly_k L 30 rfl).2 (ly_k L 30 rfl).1 (by decide)) (H.2 c1))))))))))
theorem s112_36 {sc : cmS} {d : Nat} {h : cmH} {Q : Option Value → cmH → Prop} (L : LY h) (x1 : Int32) (x2 : Int32) (x3 : Int32) (sx0 : Int32) (sx1 : Int32) (sx2 : Int32) (H : cm_cv sc d 114 [.ref 30, .int sx2, .int sx1, .int sx0, .int (1 : Int32)] h (fun h' => cm_wp sc (d + 1) 112 40 [some (.ref 30), some (.int x1), some (.int x2), some (.int x3)] [] h' Q)) : cm_wp sc (d + 1) 112 36 [some (.ref 30), some (.int x1), some (.int x2), some (.int x3)] [.int sx0, .int sx1, .int sx2, .ref 30] h Q :=
  wl_ic (v := 1) d112_36 rfl (wl_cv d112_37 rfl rfl rfl pm2_26 (by decide) (ca_v (Or.inl rfl) rfl (Nat.le_of_ble_eq_true rfl) (Nat.le_of_ble_eq_true rfl) (ly_k L 30 rfl).2 (ly_k L 30 rfl).1 (by decide)) H)
theorem s112_40 {sc : cmS} {d : Nat} {h : cmH} {Q : Option Value → cmH → Prop} (L : LY h) (x1 : Int32) (x2 : Int32) (x3 : Int32) (H : (IX 61 x3) ∧ cm_wp sc d 112 22 [some (.ref 30), some (.int x1), some (.int x2), some (.int (x3 + (-1)))] [] (cm_setI h 32 x3.toNatClampNeg ((cm_I h 30 2) + (cm_I h 30 3))) Q) : cm_wp sc d 112 40 [some (.ref 30), some (.int x1), some (.int x2), some (.int x3)] [] h Q :=
  wl_st d112_40 rfl rfl rfl rfl (wl_gr (b := 32) d112_41 pf2_15 (ly_k L 30 rfl) rfl (ly_r L 30 1 rfl) (wl_st d112_44 rfl rfl rfl rfl (wl_st d112_45 rfl rfl rfl rfl (wl_gf (v := .int (cm_I h 30 2)) d112_46 pf2_30 (ly_k L 30 rfl) rfl (wl_st d112_49 rfl rfl rfl rfl (wl_gf (v := .int (cm_I h 30 3)) d112_50 pf2_34 (ly_k L 30 rfl) rfl (wl_st d112_53 rfl rfl rfl rfl (And.elim (fun g1 g1k => wl_if (h' := (cm_setI h 32 x3.toNatClampNeg ((cm_I h 30 2) + (cm_I h 30 3)))) d112_54 rfl rfl rfl rfl (ly_o L 32 rfl g1) (wl_st (ls' := [some (.ref 30), some (.int x1), some (.int x2), some (.int (x3 + (-1)))]) d112_55 rfl rfl rfl rfl (wl_go (tgt := 22) d112_58 (by decide) (g1k)))) H))))))))
theorem s112_69 {sc : cmS} {d : Nat} {h : cmH} {Q : Option Value → cmH → Prop} (x1 : Int32) (x2 : Int32) (x3 : Int32) (H : Q none h) : cm_wp sc d 112 69 [some (.ref 30), some (.int x1), some (.int x2), some (.int x3)] [] h Q :=
  wl_rt d112_69 rfl rfl rfl H
-- ClogHouse$Changes.costOf(I)I
theorem d113_0 : decode (cm_M 113).2.2.1 0 = .ok (.iload_n 1, 1) := by decide +kernel
theorem d113_1 : decode (cm_M 113).2.2.1 1 = .ok (.ifCond .ge 7, 3) := by decide +kernel
theorem d113_4 : decode (cm_M 113).2.2.1 4 = .ok (.iconst 0, 1) := by decide +kernel
theorem d113_5 : decode (cm_M 113).2.2.1 5 = .ok (.goto 14, 3) := by decide +kernel
theorem d113_8 : decode (cm_M 113).2.2.1 8 = .ok (.aload_n 0, 1) := by decide +kernel
theorem d113_9 : decode (cm_M 113).2.2.1 9 = .ok (.getfield 9, 3) := by decide +kernel
theorem d113_12 : decode (cm_M 113).2.2.1 12 = .ok (.iload_n 1, 1) := by decide +kernel
theorem d113_13 : decode (cm_M 113).2.2.1 13 = .ok (.bipush 19, 2) := by decide +kernel
theorem d113_15 : decode (cm_M 113).2.2.1 15 = .ok (.invokestatic 40, 3) := by decide +kernel
theorem d113_18 : decode (cm_M 113).2.2.1 18 = .ok (.iaload, 1) := by decide +kernel
theorem d113_19 : decode (cm_M 113).2.2.1 19 = .ok (.ireturn, 1) := by decide +kernel
theorem s113_0 {sc : cmS} {d : Nat} {h : cmH} {Q : Option Value → cmH → Prop} (L : LY h) (x1 : Int32) (H : (((0 ≤ x1) → (IX 20 (if (19 : Int32) < x1 then (19 : Int32) else x1)) ∧ Q (some (.int (cm_I h 31 (if (19 : Int32) < x1 then (19 : Int32) else x1).toNatClampNeg))) h) ∧ (¬ (0 ≤ x1) → Q (some (.int (0 : Int32))) h))) : cm_wp sc (d + 1) 113 0 [some (.ref 30), some (.int x1)] [] h Q :=
  wl_st d113_0 rfl rfl rfl rfl (wl_cb (b := 0 ≤ x1) (off := 7) (tgt := 8) (pc3 := 4) (st' := []) d113_1 rfl rfl rfl rfl (by decide) rfl (fun c1 => wl_st d113_8 rfl rfl rfl rfl (wl_gr (b := 31) d113_9 pf2_9 (ly_k L 30 rfl) rfl (ly_r L 30 0 rfl) (wl_st d113_12 rfl rfl rfl rfl (wl_bi (v := 19) d113_13 rfl (wl_pr (st' := [.int (if (19 : Int32) < x1 then (19 : Int32) else x1), .ref 31]) d113_15 rfl rfl rfl pm2_40 (by decide) rfl rfl (And.elim (fun g2 g2k => wl_if (g := cm_ok h 13 31 (if (19 : Int32) < x1 then (19 : Int32) else x1)) (st' := [.int (cm_I h 31 (if (19 : Int32) < x1 then (19 : Int32) else x1).toNatClampNeg)]) d113_18 rfl rfl rfl rfl (ly_o L 31 rfl g2) (wl_rt d113_19 rfl rfl rfl g2k)) (H.1 c1))))))) (fun c1 => wl_ic (v := 0) d113_4 rfl (wl_go (tgt := 19) d113_5 (by decide) (wl_rt d113_19 rfl rfl rfl (H.2 c1)))))
-- ClogHouse$Changes.findNext(IIII)V
theorem d114_0 : decode (cm_M 114).2.2.1 0 = .ok (.iload_n 3, 1) := by decide +kernel
theorem d114_1 : decode (cm_M 114).2.2.1 1 = .ok (.istore 5, 2) := by decide +kernel
theorem d114_3 : decode (cm_M 114).2.2.1 3 = .ok (.iconst (-1), 1) := by decide +kernel
theorem d114_4 : decode (cm_M 114).2.2.1 4 = .ok (.istore 6, 2) := by decide +kernel
theorem d114_6 : decode (cm_M 114).2.2.1 6 = .ok (.iload_n 1, 1) := by decide +kernel
theorem d114_7 : decode (cm_M 114).2.2.1 7 = .ok (.istore 7, 2) := by decide +kernel
theorem d114_9 : decode (cm_M 114).2.2.1 9 = .ok (.iload 7, 2) := by decide +kernel
theorem d114_11 : decode (cm_M 114).2.2.1 11 = .ok (.iload_n 2, 1) := by decide +kernel
theorem d114_12 : decode (cm_M 114).2.2.1 12 = .ok (.if_icmp .gt 74, 3) := by decide +kernel
theorem d114_15 : decode (cm_M 114).2.2.1 15 = .ok (.iload 7, 2) := by decide +kernel
theorem d114_17 : decode (cm_M 114).2.2.1 17 = .ok (.aload_n 0, 1) := by decide +kernel
theorem d114_18 : decode (cm_M 114).2.2.1 18 = .ok (.getfield 15, 3) := by decide +kernel
theorem d114_21 : decode (cm_M 114).2.2.1 21 = .ok (.arraylength, 1) := by decide +kernel
theorem d114_22 : decode (cm_M 114).2.2.1 22 = .ok (.if_icmp .ge 64, 3) := by decide +kernel
theorem d114_25 : decode (cm_M 114).2.2.1 25 = .ok (.iload 6, 2) := by decide +kernel
theorem d114_27 : decode (cm_M 114).2.2.1 27 = .ok (.iconst (-1), 1) := by decide +kernel
theorem d114_28 : decode (cm_M 114).2.2.1 28 = .ok (.if_icmp .eq 18, 3) := by decide +kernel
theorem d114_31 : decode (cm_M 114).2.2.1 31 = .ok (.iload 5, 2) := by decide +kernel
theorem d114_33 : decode (cm_M 114).2.2.1 33 = .ok (.aload_n 0, 1) := by decide +kernel
theorem d114_34 : decode (cm_M 114).2.2.1 34 = .ok (.getfield 15, 3) := by decide +kernel
theorem d114_37 : decode (cm_M 114).2.2.1 37 = .ok (.iload 7, 2) := by decide +kernel
theorem d114_39 : decode (cm_M 114).2.2.1 39 = .ok (.iaload, 1) := by decide +kernel
theorem d114_40 : decode (cm_M 114).2.2.1 40 = .ok (.iadd, 1) := by decide +kernel
theorem d114_41 : decode (cm_M 114).2.2.1 41 = .ok (.iload 6, 2) := by decide +kernel
theorem d114_43 : decode (cm_M 114).2.2.1 43 = .ok (.if_icmp .gt 21, 3) := by decide +kernel
theorem d114_46 : decode (cm_M 114).2.2.1 46 = .ok (.iload 5, 2) := by decide +kernel
theorem d114_48 : decode (cm_M 114).2.2.1 48 = .ok (.aload_n 0, 1) := by decide +kernel
theorem d114_49 : decode (cm_M 114).2.2.1 49 = .ok (.getfield 15, 3) := by decide +kernel
theorem d114_52 : decode (cm_M 114).2.2.1 52 = .ok (.iload 7, 2) := by decide +kernel
theorem d114_54 : decode (cm_M 114).2.2.1 54 = .ok (.iaload, 1) := by decide +kernel
theorem d114_55 : decode (cm_M 114).2.2.1 55 = .ok (.iadd, 1) := by decide +kernel
theorem d114_56 : decode (cm_M 114).2.2.1 56 = .ok (.istore 6, 2) := by decide +kernel
theorem d114_58 : decode (cm_M 114).2.2.1 58 = .ok (.aload_n 0, 1) := by decide +kernel
theorem d114_59 : decode (cm_M 114).2.2.1 59 = .ok (.iload 7, 2) := by decide +kernel
theorem d114_61 : decode (cm_M 114).2.2.1 61 = .ok (.putfield 37, 3) := by decide +kernel
theorem d114_64 : decode (cm_M 114).2.2.1 64 = .ok (.iload 5, 2) := by decide +kernel
theorem d114_66 : decode (cm_M 114).2.2.1 66 = .ok (.aload_n 0, 1) := by decide +kernel
theorem d114_67 : decode (cm_M 114).2.2.1 67 = .ok (.iload 4, 2) := by decide +kernel
theorem d114_69 : decode (cm_M 114).2.2.1 69 = .ok (.iload 7, 2) := by decide +kernel
theorem d114_71 : decode (cm_M 114).2.2.1 71 = .ok (.iadd, 1) := by decide +kernel
theorem d114_72 : decode (cm_M 114).2.2.1 72 = .ok (.iload_n 1, 1) := by decide +kernel
theorem d114_73 : decode (cm_M 114).2.2.1 73 = .ok (.isub, 1) := by decide +kernel
theorem d114_74 : decode (cm_M 114).2.2.1 74 = .ok (.invokevirtual 22, 3) := by decide +kernel
theorem d114_77 : decode (cm_M 114).2.2.1 77 = .ok (.iadd, 1) := by decide +kernel
theorem d114_78 : decode (cm_M 114).2.2.1 78 = .ok (.istore 5, 2) := by decide +kernel
theorem d114_80 : decode (cm_M 114).2.2.1 80 = .ok (.iinc 7 1, 3) := by decide +kernel
theorem d114_83 : decode (cm_M 114).2.2.1 83 = .ok (.goto (-74), 3) := by decide +kernel
theorem d114_86 : decode (cm_M 114).2.2.1 86 = .ok (.aload_n 0, 1) := by decide +kernel
theorem d114_87 : decode (cm_M 114).2.2.1 87 = .ok (.iload 6, 2) := by decide +kernel
theorem d114_89 : decode (cm_M 114).2.2.1 89 = .ok (.putfield 34, 3) := by decide +kernel
theorem d114_92 : decode (cm_M 114).2.2.1 92 = .ok (.return_, 1) := by decide +kernel
theorem s114_0 {sc : cmS} {d : Nat} {h : cmH} {Q : Option Value → cmH → Prop} (x1 : Int32) (x2 : Int32) (x3 : Int32) (x4 : Int32) (u5 : Option Value) (u6 : Option Value) (u7 : Option Value) (H : cm_wp sc d 114 9 [some (.ref 30), some (.int x1), some (.int x2), some (.int x3), some (.int x4), some (.int x3), some (.int (-1 : Int32)), some (.int x1)] [] h Q) : cm_wp sc d 114 0 [some (.ref 30), some (.int x1), some (.int x2), some (.int x3), some (.int x4), u5, u6, u7] [] h Q :=
  wl_st d114_0 rfl rfl rfl rfl (wl_st (ls' := [some (.ref 30), some (.int x1), some (.int x2), some (.int x3), some (.int x4), some (.int x3), u6, u7]) d114_1 rfl rfl rfl rfl (wl_ic (v := (-1)) d114_3 rfl (wl_st (ls' := [some (.ref 30), some (.int x1), some (.int x2), some (.int x3), some (.int x4), some (.int x3), some (.int (-1 : Int32)), u7]) d114_4 rfl rfl rfl rfl (wl_st d114_6 rfl rfl rfl rfl (wl_st (ls' := [some (.ref 30), some (.int x1), some (.int x2), some (.int x3), some (.int x4), some (.int x3), some (.int (-1 : Int32)), some (.int x1)]) d114_7 rfl rfl rfl rfl (H))))))
theorem s114_9 {sc : cmS} {d : Nat} {h : cmH} {Q : Option Value → cmH → Prop} (L : LY h) (x1 : Int32) (x2 : Int32) (x3 : Int32) (x4 : Int32) (x5 : Int32) (x6 : Int32) (x7 : Int32) (H : (((x2 < x7) → cm_wp sc d 114 86 [some (.ref 30), some (.int x1), some (.int x2), some (.int x3), some (.int x4), some (.int x5), some (.int x6), some (.int x7)] [] h Q) ∧ (¬ (x2 < x7) → ((((61 : Int32) ≤ x7) → cm_wp sc d 114 86 [some (.ref 30), some (.int x1), some (.int x2), some (.int x3), some (.int x4), some (.int x5), some (.int x6), some (.int x7)] [] h Q) ∧ (¬ ((61 : Int32) ≤ x7) → (((x6 = (-1 : Int32)) → cm_wp sc d 114 46 [some (.ref 30), some (.int x1), some (.int x2), some (.int x3), some (.int x4), some (.int x5), some (.int x6), some (.int x7)] [] h Q) ∧ (¬ (x6 = (-1 : Int32)) → (IX 61 x7) ∧ (((x6 < (x5 + (cm_I h 32 x7.toNatClampNeg))) → cm_wp sc d 114 64 [some (.ref 30), some (.int x1), some (.int x2), some (.int x3), some (.int x4), some (.int x5), some (.int x6), some (.int x7)] [] h Q) ∧ (¬ (x6 < (x5 + (cm_I h 32 x7.toNatClampNeg))) → cm_wp sc d 114 46 [some (.ref 30), some (.int x1), some (.int x2), some (.int x3), some (.int x4), some (.int x5), some (.int x6), some (.int x7)] [] h Q))))))))) : cm_wp sc d 114 9 [some (.ref 30), some (.int x1), some (.int x2), some (.int x3), some (.int x4), some (.int x5), some (.int x6), some (.int x7)] [] h Q :=
  wl_st d114_9 rfl rfl rfl rfl (wl_st d114_11 rfl rfl rfl rfl (wl_cb (b := x2 < x7) (off := 74) (tgt := 86) (pc3 := 15) (st' := []) d114_12 rfl rfl rfl rfl (by decide) rfl (fun c1 => (H.1 c1)) (fun c1 => wl_st d114_15 rfl rfl rfl rfl (wl_st d114_17 rfl rfl rfl rfl (wl_gr (b := 32) d114_18 pf2_15 (ly_k L 30 rfl) rfl (ly_r L 30 1 rfl) (wl_aln (v := 61) d114_21 (ly_la L 32 rfl) rfl (wl_cb (b := (61 : Int32) ≤ x7) (off := 64) (tgt := 86) (pc3 := 25) (st' := []) d114_22 rfl rfl rfl rfl (by decide) rfl (fun c2 => ((H.2 c1).1 c2)) (fun c2 => wl_st d114_25 rfl rfl rfl rfl (wl_ic (v := (-1)) d114_27 rfl (wl_cb (b := x6 = (-1 : Int32)) (off := 18) (tgt := 46) (pc3 := 31) (st' := []) d114_28 rfl rfl rfl rfl (by decide) rfl (fun c3 => (((H.2 c1).2 c2).1 c3)) (fun c3 => wl_st d114_31 rfl rfl rfl rfl (wl_st d114_33 rfl rfl rfl rfl (wl_gr (b := 32) d114_34 pf2_15 (ly_k L 30 rfl) rfl (ly_r L 30 1 rfl) (wl_st d114_37 rfl rfl rfl rfl (And.elim (fun g4 g4k => wl_if (g := cm_ok h 13 32 x7) (st' := [.int (cm_I h 32 x7.toNatClampNeg), .int x5]) d114_39 rfl rfl rfl rfl (ly_o L 32 rfl g4) (wl_st d114_40 rfl rfl rfl rfl (wl_st d114_41 rfl rfl rfl rfl (wl_cb (b := x6 < (x5 + (cm_I h 32 x7.toNatClampNeg))) (off := 21) (tgt := 64) (pc3 := 46) (st' := []) d114_43 rfl rfl rfl rfl (by decide) rfl (fun c5 => (g4k.1 c5)) (fun c5 => (g4k.2 c5)))))) (((H.2 c1).2 c2).2 c3))))))))))))))))
theorem s114_46 {sc : cmS} {d : Nat} {h : cmH} {Q : Option Value → cmH → Prop} (L : LY h) (x1 : Int32) (x2 : Int32) (x3 : Int32) (x4 : Int32) (x5 : Int32) (x6 : Int32) (x7 : Int32) (H : (IX 61 x7) ∧ cm_wp sc d 114 64 [some (.ref 30), some (.int x1), some (.int x2), some (.int x3), some (.int x4), some (.int x5), some (.int (x5 + (cm_I h 32 x7.toNatClampNeg))), some (.int x7)] [] (cm_setI h 30 4 x7) Q) : cm_wp sc d 114 46 [some (.ref 30), some (.int x1), some (.int x2), some (.int x3), some (.int x4), some (.int x5), some (.int x6), some (.int x7)] [] h Q :=
  wl_st d114_46 rfl rfl rfl rfl (wl_st d114_48 rfl rfl rfl rfl (wl_gr (b := 32) d114_49 pf2_15 (ly_k L 30 rfl) rfl (ly_r L 30 1 rfl) (wl_st d114_52 rfl rfl rfl rfl (And.elim (fun g1 g1k => wl_if (g := cm_ok h 13 32 x7) (st' := [.int (cm_I h 32 x7.toNatClampNeg), .int x5]) d114_54 rfl rfl rfl rfl (ly_o L 32 rfl g1) (wl_st d114_55 rfl rfl rfl rfl (wl_st (ls' := [some (.ref 30), some (.int x1), some (.int x2), some (.int x3), some (.int x4), some (.int x5), some (.int (x5 + (cm_I h 32 x7.toNatClampNeg))), some (.int x7)]) d114_56 rfl rfl rfl rfl (wl_st d114_58 rfl rfl rfl rfl (wl_st d114_59 rfl rfl rfl rfl (wl_pf (h' := (cm_setI h 30 4 x7)) d114_61 pf2_37 (ly_k L 30 rfl) (Or.inl rfl) rfl (g1k))))))) H))))
theorem s114_64 {sc : cmS} {d : Nat} {h : cmH} {Q : Option Value → cmH → Prop} (L : LY h) (x1 : Int32) (x2 : Int32) (x3 : Int32) (x4 : Int32) (x5 : Int32) (x6 : Int32) (x7 : Int32) (H : cm_ci sc d 113 [.ref 30, .int ((x4 + x7) - x1)] h (fun r h' => cm_wp sc (d + 1) 114 77 [some (.ref 30), some (.int x1), some (.int x2), some (.int x3), some (.int x4), some (.int x5), some (.int x6), some (.int x7)] [.int r, .int x5] h' Q)) : cm_wp sc (d + 1) 114 64 [some (.ref 30), some (.int x1), some (.int x2), some (.int x3), some (.int x4), some (.int x5), some (.int x6), some (.int x7)] [] h Q :=
  wl_st d114_64 rfl rfl rfl rfl (wl_st d114_66 rfl rfl rfl rfl (wl_st d114_67 rfl rfl rfl rfl (wl_st d114_69 rfl rfl rfl rfl (wl_st d114_71 rfl rfl rfl rfl (wl_st d114_72 rfl rfl rfl rfl (wl_st d114_73 rfl rfl rfl rfl (wl_ci d114_74 rfl rfl rfl pm2_22 (by decide) (ca_v (Or.inl rfl) rfl (Nat.le_of_ble_eq_true rfl) (Nat.le_of_ble_eq_true rfl) (ly_k L 30 rfl).2 (ly_k L 30 rfl).1 (by decide)) H)))))))
theorem s114_77 {sc : cmS} {d : Nat} {h : cmH} {Q : Option Value → cmH → Prop} (x1 : Int32) (x2 : Int32) (x3 : Int32) (x4 : Int32) (x5 : Int32) (x6 : Int32) (x7 : Int32) (sx0 : Int32) (sx1 : Int32) (H : cm_wp sc d 114 9 [some (.ref 30), some (.int x1), some (.int x2), some (.int x3), some (.int x4), some (.int (sx1 + sx0)), some (.int x6), some (.int (x7 + 1))] [] h Q) : cm_wp sc d 114 77 [some (.ref 30), some (.int x1), some (.int x2), some (.int x3), some (.int x4), some (.int x5), some (.int x6), some (.int x7)] [.int sx0, .int sx1] h Q :=
  wl_st d114_77 rfl rfl rfl rfl (wl_st (ls' := [some (.ref 30), some (.int x1), some (.int x2), some (.int x3), some (.int x4), some (.int (sx1 + sx0)), some (.int x6), some (.int x7)]) d114_78 rfl rfl rfl rfl (wl_st (ls' := [some (.ref 30), some (.int x1), some (.int x2), some (.int x3), some (.int x4), some (.int (sx1 + sx0)), some (.int x6), some (.int (x7 + 1))]) d114_80 rfl rfl rfl rfl (wl_go (tgt := 9) d114_83 (by decide) (H))))
theorem s114_86 {sc : cmS} {d : Nat} {h : cmH} {Q : Option Value → cmH → Prop} (L : LY h) (x1 : Int32) (x2 : Int32) (x3 : Int32) (x4 : Int32) (x5 : Int32) (x6 : Int32) (x7 : Int32) (H : Q none (cm_setI h 30 3 x6)) : cm_wp sc d 114 86 [some (.ref 30), some (.int x1), some (.int x2), some (.int x3), some (.int x4), some (.int x5), some (.int x6), some (.int x7)] [] h Q :=
  wl_st d114_86 rfl rfl rfl rfl (wl_st d114_87 rfl rfl rfl rfl (wl_pf (h' := (cm_setI h 30 3 x6)) d114_89 pf2_34 (ly_k L 30 rfl) (Or.inl rfl) rfl (wl_rt d114_92 rfl rfl rfl H)))
-- ClogHouse$Filter.<init>()V
theorem d8_0 : decode (cm_M 8).2.2.1 0 = .ok (.aload_n 0, 1) := by decide +kernel
theorem d8_1 : decode (cm_M 8).2.2.1 1 = .ok (.invokespecial 3, 3) := by decide +kernel
theorem d8_4 : decode (cm_M 8).2.2.1 4 = .ok (.aload_n 0, 1) := by decide +kernel
theorem d8_5 : decode (cm_M 8).2.2.1 5 = .ok (.bipush 10, 2) := by decide +kernel
theorem d8_7 : decode (cm_M 8).2.2.1 7 = .ok (.anewarray 9, 3) := by decide +kernel
theorem d8_10 : decode (cm_M 8).2.2.1 10 = .ok (.putfield 11, 3) := by decide +kernel
theorem d8_13 : decode (cm_M 8).2.2.1 13 = .ok (.aload_n 0, 1) := by decide +kernel
theorem d8_14 : decode (cm_M 8).2.2.1 14 = .ok (.bipush 8, 2) := by decide +kernel
theorem d8_16 : decode (cm_M 8).2.2.1 16 = .ok (.newarray .int, 2) := by decide +kernel
theorem d8_18 : decode (cm_M 8).2.2.1 18 = .ok (.putfield 17, 3) := by decide +kernel
theorem d8_21 : decode (cm_M 8).2.2.1 21 = .ok (.aload_n 0, 1) := by decide +kernel
theorem d8_22 : decode (cm_M 8).2.2.1 22 = .ok (.bipush 8, 2) := by decide +kernel
theorem d8_24 : decode (cm_M 8).2.2.1 24 = .ok (.newarray .int, 2) := by decide +kernel
theorem d8_26 : decode (cm_M 8).2.2.1 26 = .ok (.putfield 21, 3) := by decide +kernel
theorem d8_29 : decode (cm_M 8).2.2.1 29 = .ok (.aload_n 0, 1) := by decide +kernel
theorem d8_30 : decode (cm_M 8).2.2.1 30 = .ok (.bipush 100, 2) := by decide +kernel
theorem d8_32 : decode (cm_M 8).2.2.1 32 = .ok (.putfield 24, 3) := by decide +kernel
theorem d8_35 : decode (cm_M 8).2.2.1 35 = .ok (.aload_n 0, 1) := by decide +kernel
theorem d8_36 : decode (cm_M 8).2.2.1 36 = .ok (.sipush 500, 3) := by decide +kernel
theorem d8_39 : decode (cm_M 8).2.2.1 39 = .ok (.putfield 28, 3) := by decide +kernel
theorem d8_42 : decode (cm_M 8).2.2.1 42 = .ok (.aload_n 0, 1) := by decide +kernel
theorem d8_43 : decode (cm_M 8).2.2.1 43 = .ok (.bipush 50, 2) := by decide +kernel
theorem d8_45 : decode (cm_M 8).2.2.1 45 = .ok (.putfield 31, 3) := by decide +kernel
theorem d8_48 : decode (cm_M 8).2.2.1 48 = .ok (.aload_n 0, 1) := by decide +kernel
theorem d8_49 : decode (cm_M 8).2.2.1 49 = .ok (.iconst (-1), 1) := by decide +kernel
theorem d8_50 : decode (cm_M 8).2.2.1 50 = .ok (.putfield 34, 3) := by decide +kernel
theorem d8_53 : decode (cm_M 8).2.2.1 53 = .ok (.aload_n 0, 1) := by decide +kernel
theorem d8_54 : decode (cm_M 8).2.2.1 54 = .ok (.iconst 0, 1) := by decide +kernel
theorem d8_55 : decode (cm_M 8).2.2.1 55 = .ok (.putfield 37, 3) := by decide +kernel
theorem d8_58 : decode (cm_M 8).2.2.1 58 = .ok (.aload_n 0, 1) := by decide +kernel
theorem d8_59 : decode (cm_M 8).2.2.1 59 = .ok (.iconst (-1), 1) := by decide +kernel
theorem d8_60 : decode (cm_M 8).2.2.1 60 = .ok (.putfield 40, 3) := by decide +kernel
theorem d8_63 : decode (cm_M 8).2.2.1 63 = .ok (.return_, 1) := by decide +kernel
theorem s8_0 {sc : cmS} {d : Nat} {h : cmH} {Q : Option Value → cmH → Prop} (a0 : Nat) (H : cm_wp sc (d + 1) 8 10 [some (.ref a0)] [.ref (cm_n h), .ref a0] (cm_mk h 16 10) Q) : cm_wp sc (d + 1) 8 0 [some (.ref a0)] [] h Q :=
  wl_st d8_0 rfl rfl rfl rfl (wl_pr (st' := []) d8_1 rfl rfl rfl pm3_3 (by decide) rfl rfl (wl_st d8_4 rfl rfl rfl rfl (wl_bi (v := 10) d8_5 rfl (wl_an (kd := 16) d8_7 pn3_9 (by decide) (by decide) (H)))))
theorem s8_10 {sc : cmS} {d : Nat} {h : cmH} {Q : Option Value → cmH → Prop} (a0 : Nat) (sa0 : Nat) (sa1 : Nat) (H : (FL h sa1) ∧ cm_wp sc d 8 18 [some (.ref a0)] [.ref (cm_n (cm_setR h sa1 0 (some sa0))), .ref a0] (cm_mk (cm_setR h sa1 0 (some sa0)) 13 8) Q) : cm_wp sc d 8 10 [some (.ref a0)] [.ref sa0, .ref sa1] h Q :=
  And.elim (fun g1 g1k => wl_pf (h' := (cm_setR h sa1 0 (some sa0))) d8_10 pf3_11 (FL.k g1) (Or.inr ⟨rfl, rfl, rfl⟩) rfl (wl_st d8_13 rfl rfl rfl rfl (wl_bi (v := 8) d8_14 rfl (wl_na (kd := 13) (N := 8) d8_16 (by decide) (by decide) rfl (g1k))))) H
theorem s8_18 {sc : cmS} {d : Nat} {h : cmH} {Q : Option Value → cmH → Prop} (a0 : Nat) (sa0 : Nat) (sa1 : Nat) (H : (FL h sa1) ∧ cm_wp sc d 8 26 [some (.ref a0)] [.ref (cm_n (cm_setR h sa1 1 (some sa0))), .ref a0] (cm_mk (cm_setR h sa1 1 (some sa0)) 13 8) Q) : cm_wp sc d 8 18 [some (.ref a0)] [.ref sa0, .ref sa1] h Q :=
  And.elim (fun g1 g1k => wl_pf (h' := (cm_setR h sa1 1 (some sa0))) d8_18 pf3_17 (FL.k g1) (Or.inr ⟨rfl, rfl, rfl⟩) rfl (wl_st d8_21 rfl rfl rfl rfl (wl_bi (v := 8) d8_22 rfl (wl_na (kd := 13) (N := 8) d8_24 (by decide) (by decide) rfl (g1k))))) H
theorem s8_26 {sc : cmS} {d : Nat} {h : cmH} {Q : Option Value → cmH → Prop} (a0 : Nat) (sa0 : Nat) (sa1 : Nat) (H : (FL h sa1) ∧ (cm_kd h a0 = 3 ∧ a0 < cm_n h) ∧ Q none (cm_setI (cm_setI (cm_setI (cm_setI (cm_setI (cm_setI (cm_setR h sa1 2 (some sa0)) a0 4 (100 : Int32)) a0 5 (500 : Int32)) a0 6 (50 : Int32)) a0 7 (-1 : Int32)) a0 8 (0 : Int32)) a0 14 (-1 : Int32))) : cm_wp sc d 8 26 [some (.ref a0)] [.ref sa0, .ref sa1] h Q :=
  And.elim (fun g1 g1k => wl_pf (h' := (cm_setR h sa1 2 (some sa0))) d8_26 pf3_21 (FL.k g1) (Or.inr ⟨rfl, rfl, rfl⟩) rfl (wl_st d8_29 rfl rfl rfl rfl (wl_bi (v := 100) d8_30 rfl (And.elim (fun g2 g2k => wl_pf (h' := (cm_setI (cm_setR h sa1 2 (some sa0)) a0 4 (100 : Int32))) d8_32 pf3_24 g2 (Or.inl rfl) rfl (wl_st d8_35 rfl rfl rfl rfl (wl_si (v := 500) d8_36 rfl (wl_pf (h' := (cm_setI (cm_setI (cm_setR h sa1 2 (some sa0)) a0 4 (100 : Int32)) a0 5 (500 : Int32))) d8_39 pf3_28 g2 (Or.inl rfl) rfl (wl_st d8_42 rfl rfl rfl rfl (wl_bi (v := 50) d8_43 rfl (wl_pf (h' := (cm_setI (cm_setI (cm_setI (cm_setR h sa1 2 (some sa0)) a0 4 (100 : Int32)) a0 5 (500 : Int32)) a0 6 (50 : Int32))) d8_45 pf3_31 g2 (Or.inl rfl) rfl (wl_st d8_48 rfl rfl rfl rfl (wl_ic (v := (-1)) d8_49 rfl (wl_pf (h' := (cm_setI (cm_setI (cm_setI (cm_setI (cm_setR h sa1 2 (some sa0)) a0 4 (100 : Int32)) a0 5 (500 : Int32)) a0 6 (50 : Int32)) a0 7 (-1 : Int32))) d8_50 pf3_34 g2 (Or.inl rfl) rfl (wl_st d8_53 rfl rfl rfl rfl (wl_ic (v := 0) d8_54 rfl (wl_pf (h' := (cm_setI (cm_setI (cm_setI (cm_setI (cm_setI (cm_setR h sa1 2 (some sa0)) a0 4 (100 : Int32)) a0 5 (500 : Int32)) a0 6 (50 : Int32)) a0 7 (-1 : Int32)) a0 8 (0 : Int32))) d8_55 pf3_37 g2 (Or.inl rfl) rfl (wl_st d8_58 rfl rfl rfl rfl (wl_ic (v := (-1)) d8_59 rfl (wl_pf (h' := (cm_setI (cm_setI (cm_setI (cm_setI (cm_setI (cm_setI (cm_setR h sa1 2 (some sa0)) a0 4 (100 : Int32)) a0 5 (500 : Int32)) a0 6 (50 : Int32)) a0 7 (-1 : Int32)) a0 8 (0 : Int32)) a0 14 (-1 : Int32))) d8_60 pf3_40 g2 (Or.inl rfl) rfl (wl_rt d8_63 rfl rfl rfl g2k))))))))))))))))) g1k)))) H
-- ClogHouse$Filter.addCell(II)Z
theorem d18_0 : decode (cm_M 18).2.2.1 0 = .ok (.aload_n 0, 1) := by decide +kernel
theorem d18_1 : decode (cm_M 18).2.2.1 1 = .ok (.getfield 43, 3) := by decide +kernel
theorem d18_4 : decode (cm_M 18).2.2.1 4 = .ok (.ifCond .lt 12, 3) := by decide +kernel
theorem d18_7 : decode (cm_M 18).2.2.1 7 = .ok (.aload_n 0, 1) := by decide +kernel
theorem d18_8 : decode (cm_M 18).2.2.1 8 = .ok (.getfield 43, 3) := by decide +kernel
theorem d18_11 : decode (cm_M 18).2.2.1 11 = .ok (.bipush 10, 2) := by decide +kernel
theorem d18_13 : decode (cm_M 18).2.2.1 13 = .ok (.if_icmp .lt 5, 3) := by decide +kernel
theorem d18_16 : decode (cm_M 18).2.2.1 16 = .ok (.iconst 0, 1) := by decide +kernel
theorem d18_17 : decode (cm_M 18).2.2.1 17 = .ok (.ireturn, 1) := by decide +kernel
theorem d18_18 : decode (cm_M 18).2.2.1 18 = .ok (.aload_n 0, 1) := by decide +kernel
theorem d18_19 : decode (cm_M 18).2.2.1 19 = .ok (.getfield 11, 3) := by decide +kernel
theorem d18_22 : decode (cm_M 18).2.2.1 22 = .ok (.aload_n 0, 1) := by decide +kernel
theorem d18_23 : decode (cm_M 18).2.2.1 23 = .ok (.getfield 43, 3) := by decide +kernel
theorem d18_26 : decode (cm_M 18).2.2.1 26 = .ok (.new 9, 3) := by decide +kernel
theorem d18_29 : decode (cm_M 18).2.2.1 29 = .ok (.dup, 1) := by decide +kernel
theorem d18_30 : decode (cm_M 18).2.2.1 30 = .ok (.iload_n 1, 1) := by decide +kernel
theorem d18_31 : decode (cm_M 18).2.2.1 31 = .ok (.iload_n 2, 1) := by decide +kernel
theorem d18_32 : decode (cm_M 18).2.2.1 32 = .ok (.invokespecial 46, 3) := by decide +kernel
theorem d18_35 : decode (cm_M 18).2.2.1 35 = .ok (.aastore, 1) := by decide +kernel
theorem d18_36 : decode (cm_M 18).2.2.1 36 = .ok (.aload_n 0, 1) := by decide +kernel
theorem d18_37 : decode (cm_M 18).2.2.1 37 = .ok (.dup, 1) := by decide +kernel
theorem d18_38 : decode (cm_M 18).2.2.1 38 = .ok (.getfield 43, 3) := by decide +kernel
theorem d18_41 : decode (cm_M 18).2.2.1 41 = .ok (.iconst 1, 1) := by decide +kernel
theorem d18_42 : decode (cm_M 18).2.2.1 42 = .ok (.iadd, 1) := by decide +kernel
theorem d18_43 : decode (cm_M 18).2.2.1 43 = .ok (.putfield 43, 3) := by decide +kernel
theorem d18_46 : decode (cm_M 18).2.2.1 46 = .ok (.iconst 1, 1) := by decide +kernel
theorem d18_47 : decode (cm_M 18).2.2.1 47 = .ok (.ireturn, 1) := by decide +kernel
theorem s18_0 {sc : cmS} {d : Nat} {h : cmH} {Q : Option Value → cmH → Prop} (a0 : Nat) (x1 : Int32) (x2 : Int32) (H : (FL h a0) ∧ ((((cm_I h a0 3) < 0) → Q (some (.int (0 : Int32))) h) ∧ (¬ ((cm_I h a0 3) < 0) → ((((cm_I h a0 3) < (10 : Int32)) → (cm_kd (cm_mk h 1 6) (cm_n h) = 1 ∧ (cm_n h) < cm_n (cm_mk h 1 6)) ∧ cm_cv sc d 19 [.ref (cm_n h), .int x1, .int x2] (cm_mk h 1 6) (fun h' => cm_wp sc (d + 1) 18 35 [some (.ref a0), some (.int x1), some (.int x2)] [.ref (cm_n h), .int (cm_I h a0 3), .ref (a0 + 1)] h' Q)) ∧ (¬ ((cm_I h a0 3) < (10 : Int32)) → Q (some (.int (0 : Int32))) h))))) : cm_wp sc (d + 1) 18 0 [some (.ref a0), some (.int x1), some (.int x2)] [] h Q :=
  wl_st d18_0 rfl rfl rfl rfl (And.elim (fun g1 g1k => wl_gf (v := .int (cm_I h a0 3)) d18_1 pf3_43 (FL.k g1) rfl (wl_cb (b := (cm_I h a0 3) < 0) (off := 12) (tgt := 16) (pc3 := 7) (st' := []) d18_4 rfl rfl rfl rfl (by decide) rfl (fun c2 => wl_ic (v := 0) d18_16 rfl (wl_rz d18_17 rfl (by decide) (g1k.1 c2))) (fun c2 => wl_st d18_7 rfl rfl rfl rfl (wl_gf (v := .int (cm_I h a0 3)) d18_8 pf3_43 (FL.k g1) rfl (wl_bi (v := 10) d18_11 rfl (wl_cb (b := (cm_I h a0 3) < (10 : Int32)) (off := 5) (tgt := 18) (pc3 := 16) (st' := []) d18_13 rfl rfl rfl rfl (by decide) rfl (fun c3 => wl_st d18_18 rfl rfl rfl rfl (wl_gr (b := (a0 + 1)) d18_19 pf3_11 (FL.k g1) rfl (FL.r0 g1) (wl_st d18_22 rfl rfl rfl rfl (wl_gf (v := .int (cm_I h a0 3)) d18_23 pf3_43 (FL.k g1) rfl (wl_nw d18_26 pn3_9 (wl_st d18_29 rfl rfl rfl rfl (wl_st d18_30 rfl rfl rfl rfl (wl_st d18_31 rfl rfl rfl rfl (And.elim (fun g4 g4k => wl_cv d18_32 rfl rfl rfl pm3_46 (by decide) (ca_i (Or.inr rfl) rfl (Nat.le_of_ble_eq_true rfl) (Nat.le_of_ble_eq_true rfl) g4.2 g4.1 (by decide) rfl) g4k) ((g1k.2 c2).1 c3)))))))))) (fun c3 => wl_ic (v := 0) d18_16 rfl (wl_rz d18_17 rfl (by decide) ((g1k.2 c2).2 c3))))))))) H)
theorem s18_35 {sc : cmS} {d : Nat} {h : cmH} {Q : Option Value → cmH → Prop} (a0 : Nat) (x1 : Int32) (x2 : Int32) (sa0 : Nat) (sx1 : Int32) (sa2 : Nat) (H : (cm_ok h (cm_kd h sa2) sa2 sx1 ∧ sa0 < cm_n h ∧ ((cm_kd h sa2 = 16 ∧ cm_kd h sa0 = 1) ∨ (cm_kd h sa2 = 17 ∧ cm_kd h sa0 = 3) ∨ (cm_kd h sa2 = 18 ∧ cm_kd h sa0 = 9))) ∧ (cm_kd h a0 = 3 ∧ a0 < cm_n h) ∧ Q (some (.int (1 : Int32))) (cm_setI (cm_setR h sa2 sx1.toNatClampNeg (some sa0)) a0 3 ((cm_I h a0 3) + (1 : Int32)))) : cm_wp sc d 18 35 [some (.ref a0), some (.int x1), some (.int x2)] [.ref sa0, .int sx1, .ref sa2] h Q :=
  And.elim (fun g1 g1k => wl_if (h' := (cm_setR h sa2 sx1.toNatClampNeg (some sa0))) d18_35 rfl rfl rfl rfl g1 (wl_st d18_36 rfl rfl rfl rfl (wl_st d18_37 rfl rfl rfl rfl (And.elim (fun g2 g2k => wl_gf (v := .int (cm_I h a0 3)) d18_38 pf3_43 g2 rfl (wl_ic (v := 1) d18_41 rfl (wl_st d18_42 rfl rfl rfl rfl (wl_pf (h' := (cm_setI (cm_setR h sa2 sx1.toNatClampNeg (some sa0)) a0 3 ((cm_I h a0 3) + (1 : Int32)))) d18_43 pf3_43 g2 (Or.inl rfl) rfl (wl_ic (v := 1) d18_46 rfl (wl_rz d18_47 rfl (by decide) g2k)))))) g1k)))) H
-- ClogHouse$Filter.cellNumber(I)LClogHouse$Cell;
theorem d23_0 : decode (cm_M 23).2.2.1 0 = .ok (.iload_n 1, 1) := by decide +kernel
theorem d23_1 : decode (cm_M 23).2.2.1 1 = .ok (.iconst 0, 1) := by decide +kernel
theorem d23_2 : decode (cm_M 23).2.2.1 2 = .ok (.aload_n 0, 1) := by decide +kernel
theorem d23_3 : decode (cm_M 23).2.2.1 3 = .ok (.getfield 43, 3) := by decide +kernel
theorem d23_6 : decode (cm_M 23).2.2.1 6 = .ok (.iconst 1, 1) := by decide +kernel
theorem d23_7 : decode (cm_M 23).2.2.1 7 = .ok (.isub, 1) := by decide +kernel
theorem d23_8 : decode (cm_M 23).2.2.1 8 = .ok (.invokestatic 49, 3) := by decide +kernel
theorem d23_11 : decode (cm_M 23).2.2.1 11 = .ok (.ifCond .eq 21, 3) := by decide +kernel
theorem d23_14 : decode (cm_M 23).2.2.1 14 = .ok (.iload_n 1, 1) := by decide +kernel
theorem d23_15 : decode (cm_M 23).2.2.1 15 = .ok (.aload_n 0, 1) := by decide +kernel
theorem d23_16 : decode (cm_M 23).2.2.1 16 = .ok (.getfield 11, 3) := by decide +kernel
theorem d23_19 : decode (cm_M 23).2.2.1 19 = .ok (.arraylength, 1) := by decide +kernel
theorem d23_20 : decode (cm_M 23).2.2.1 20 = .ok (.if_icmp .ge 12, 3) := by decide +kernel
theorem d23_23 : decode (cm_M 23).2.2.1 23 = .ok (.aload_n 0, 1) := by decide +kernel
theorem d23_24 : decode (cm_M 23).2.2.1 24 = .ok (.getfield 11, 3) := by decide +kernel
theorem d23_27 : decode (cm_M 23).2.2.1 27 = .ok (.iload_n 1, 1) := by decide +kernel
theorem d23_28 : decode (cm_M 23).2.2.1 28 = .ok (.aaload, 1) := by decide +kernel
theorem d23_29 : decode (cm_M 23).2.2.1 29 = .ok (.goto 4, 3) := by decide +kernel
theorem d23_32 : decode (cm_M 23).2.2.1 32 = .ok (.aconst_null, 1) := by decide +kernel
theorem d23_33 : decode (cm_M 23).2.2.1 33 = .ok (.areturn, 1) := by decide +kernel
theorem s23_0 {sc : cmS} {d : Nat} {h : cmH} {Q : Option Value → cmH → Prop} (a0 : Nat) (x1 : Int32) (H : (FL h a0) ∧ cm_ci sc d 13 [.int x1, .int (0 : Int32), .int ((cm_I h a0 3) - (1 : Int32))] h (fun r h' => cm_wp sc (d + 1) 23 11 [some (.ref a0), some (.int x1)] [.int r] h' Q)) : cm_wp sc (d + 1) 23 0 [some (.ref a0), some (.int x1)] [] h Q :=
  wl_st d23_0 rfl rfl rfl rfl (wl_ic (v := 0) d23_1 rfl (wl_st d23_2 rfl rfl rfl rfl (And.elim (fun g1 g1k => wl_gf (v := .int (cm_I h a0 3)) d23_3 pf3_43 (FL.k g1) rfl (wl_ic (v := 1) d23_6 rfl (wl_st d23_7 rfl rfl rfl rfl (wl_ci d23_8 rfl rfl rfl pm3_49 (by decide) (ca_s (Or.inr rfl) rfl (Nat.le_of_ble_eq_true rfl) (Nat.le_of_ble_eq_true rfl)) g1k)))) H)))
theorem s23_11 {sc : cmS} {d : Nat} {h : cmH} {Q : Option Value → cmH → Prop} (a0 : Nat) (x1 : Int32) (sx0 : Int32) (H : (((sx0 = 0) → Q (some (va_rf none)) h) ∧ (¬ (sx0 = 0) → (FL h a0) ∧ ((((10 : Int32) ≤ x1) → Q (some (va_rf none)) h) ∧ (¬ ((10 : Int32) ≤ x1) → (IX 10 x1) ∧ Q (some (va_rf (cm_R h (a0 + 1) x1.toNatClampNeg))) h))))) : cm_wp sc d 23 11 [some (.ref a0), some (.int x1)] [.int sx0] h Q :=
  wl_cb (b := sx0 = 0) (off := 21) (tgt := 32) (pc3 := 14) (st' := []) d23_11 rfl rfl rfl rfl (by decide) rfl (fun c1 => wl_st d23_32 rfl rfl rfl rfl (wl_rq d23_33 rfl (H.1 c1))) (fun c1 => wl_st d23_14 rfl rfl rfl rfl (wl_st d23_15 rfl rfl rfl rfl (And.elim (fun g2 g2k => wl_gr (b := (a0 + 1)) d23_16 pf3_11 (FL.k g2) rfl (FL.r0 g2) (wl_aln (v := 10) d23_19 (FL.l0 g2) rfl (wl_cb (b := (10 : Int32) ≤ x1) (off := 12) (tgt := 32) (pc3 := 23) (st' := []) d23_20 rfl rfl rfl rfl (by decide) rfl (fun c3 => wl_st d23_32 rfl rfl rfl rfl (wl_rq d23_33 rfl (g2k.1 c3))) (fun c3 => wl_st d23_23 rfl rfl rfl rfl (wl_gr (b := (a0 + 1)) d23_24 pf3_11 (FL.k g2) rfl (FL.r0 g2) (wl_st d23_27 rfl rfl rfl rfl (And.elim (fun g4 g4k => wl_ald d23_28 (FL.o0q g2 g4) (wl_go (tgt := 33) d23_29 (by decide) (wl_rq d23_33 rfl g4k))) (g2k.2 c3)))))))) (H.2 c1))))
-- ClogHouse$Filter.cakeInAll()I
theorem d29_0 : decode (cm_M 29).2.2.1 0 = .ok (.iconst 0, 1) := by decide +kernel
theorem d29_1 : decode (cm_M 29).2.2.1 1 = .ok (.istore_n 1, 1) := by decide +kernel
theorem d29_2 : decode (cm_M 29).2.2.1 2 = .ok (.iconst 0, 1) := by decide +kernel
theorem d29_3 : decode (cm_M 29).2.2.1 3 = .ok (.istore_n 2, 1) := by decide +kernel
theorem d29_4 : decode (cm_M 29).2.2.1 4 = .ok (.iload_n 2, 1) := by decide +kernel
theorem d29_5 : decode (cm_M 29).2.2.1 5 = .ok (.bipush 8, 2) := by decide +kernel
theorem d29_7 : decode (cm_M 29).2.2.1 7 = .ok (.if_icmp .ge 18, 3) := by decide +kernel
theorem d29_10 : decode (cm_M 29).2.2.1 10 = .ok (.iload_n 1, 1) := by decide +kernel
theorem d29_11 : decode (cm_M 29).2.2.1 11 = .ok (.aload_n 0, 1) := by decide +kernel
theorem d29_12 : decode (cm_M 29).2.2.1 12 = .ok (.getfield 17, 3) := by decide +kernel
theorem d29_15 : decode (cm_M 29).2.2.1 15 = .ok (.iload_n 2, 1) := by decide +kernel
theorem d29_16 : decode (cm_M 29).2.2.1 16 = .ok (.iaload, 1) := by decide +kernel
theorem d29_17 : decode (cm_M 29).2.2.1 17 = .ok (.iadd, 1) := by decide +kernel
theorem d29_18 : decode (cm_M 29).2.2.1 18 = .ok (.istore_n 1, 1) := by decide +kernel
theorem d29_19 : decode (cm_M 29).2.2.1 19 = .ok (.iinc 2 1, 3) := by decide +kernel
theorem d29_22 : decode (cm_M 29).2.2.1 22 = .ok (.goto (-18), 3) := by decide +kernel
theorem d29_25 : decode (cm_M 29).2.2.1 25 = .ok (.iload_n 1, 1) := by decide +kernel
theorem d29_26 : decode (cm_M 29).2.2.1 26 = .ok (.ireturn, 1) := by decide +kernel
theorem s29_0 {sc : cmS} {d : Nat} {h : cmH} {Q : Option Value → cmH → Prop} (a0 : Nat) (u1 : Option Value) (u2 : Option Value) (H : cm_wp sc d 29 4 [some (.ref a0), some (.int (0 : Int32)), some (.int (0 : Int32))] [] h Q) : cm_wp sc d 29 0 [some (.ref a0), u1, u2] [] h Q :=
  wl_ic (v := 0) d29_0 rfl (wl_st (ls' := [some (.ref a0), some (.int (0 : Int32)), u2]) d29_1 rfl rfl rfl rfl (wl_ic (v := 0) d29_2 rfl (wl_st (ls' := [some (.ref a0), some (.int (0 : Int32)), some (.int (0 : Int32))]) d29_3 rfl rfl rfl rfl (H))))
theorem s29_4 {sc : cmS} {d : Nat} {h : cmH} {Q : Option Value → cmH → Prop} (a0 : Nat) (x1 : Int32) (x2 : Int32) (H : ((((8 : Int32) ≤ x2) → Q (some (.int x1)) h) ∧ (¬ ((8 : Int32) ≤ x2) → (FL h a0) ∧ (IX 8 x2) ∧ cm_wp sc d 29 4 [some (.ref a0), some (.int (x1 + (cm_I h (a0 + 2) x2.toNatClampNeg))), some (.int (x2 + 1))] [] h Q))) : cm_wp sc d 29 4 [some (.ref a0), some (.int x1), some (.int x2)] [] h Q :=
  wl_st d29_4 rfl rfl rfl rfl (wl_bi (v := 8) d29_5 rfl (wl_cb (b := (8 : Int32) ≤ x2) (off := 18) (tgt := 25) (pc3 := 10) (st' := []) d29_7 rfl rfl rfl rfl (by decide) rfl (fun c1 => wl_st d29_25 rfl rfl rfl rfl (wl_rt d29_26 rfl rfl rfl (H.1 c1))) (fun c1 => wl_st d29_10 rfl rfl rfl rfl (wl_st d29_11 rfl rfl rfl rfl (And.elim (fun g2 g2k => wl_gr (b := (a0 + 2)) d29_12 pf3_17 (FL.k g2) rfl (FL.r1 g2) (wl_st d29_15 rfl rfl rfl rfl (And.elim (fun g3 g3k => wl_if (g := cm_ok h 13 (a0 + 2) x2) (st' := [.int (cm_I h (a0 + 2) x2.toNatClampNeg), .int x1]) d29_16 rfl rfl rfl rfl (FL.o1 g2 g3) (wl_st d29_17 rfl rfl rfl rfl (wl_st (ls' := [some (.ref a0), some (.int (x1 + (cm_I h (a0 + 2) x2.toNatClampNeg))), some (.int x2)]) d29_18 rfl rfl rfl rfl (wl_st (ls' := [some (.ref a0), some (.int (x1 + (cm_I h (a0 + 2) x2.toNatClampNeg))), some (.int (x2 + 1))]) d29_19 rfl rfl rfl rfl (wl_go (tgt := 4) d29_22 (by decide) (g3k)))))) g2k))) (H.2 c1))))))
-- ClogHouse$Filter.bed()I
theorem d30_0 : decode (cm_M 30).2.2.1 0 = .ok (.iconst 0, 1) := by decide +kernel
theorem d30_1 : decode (cm_M 30).2.2.1 1 = .ok (.istore_n 1, 1) := by decide +kernel
theorem d30_2 : decode (cm_M 30).2.2.1 2 = .ok (.iconst 0, 1) := by decide +kernel
theorem d30_3 : decode (cm_M 30).2.2.1 3 = .ok (.istore_n 2, 1) := by decide +kernel
theorem d30_4 : decode (cm_M 30).2.2.1 4 = .ok (.iload_n 2, 1) := by decide +kernel
theorem d30_5 : decode (cm_M 30).2.2.1 5 = .ok (.aload_n 0, 1) := by decide +kernel
theorem d30_6 : decode (cm_M 30).2.2.1 6 = .ok (.getfield 43, 3) := by decide +kernel
theorem d30_9 : decode (cm_M 30).2.2.1 9 = .ok (.if_icmp .ge 42, 3) := by decide +kernel
theorem d30_12 : decode (cm_M 30).2.2.1 12 = .ok (.aload_n 0, 1) := by decide +kernel
theorem d30_13 : decode (cm_M 30).2.2.1 13 = .ok (.iload_n 2, 1) := by decide +kernel
theorem d30_14 : decode (cm_M 30).2.2.1 14 = .ok (.invokevirtual 57, 3) := by decide +kernel
theorem d30_17 : decode (cm_M 30).2.2.1 17 = .ok (.astore_n 3, 1) := by decide +kernel
theorem d30_18 : decode (cm_M 30).2.2.1 18 = .ok (.aload_n 3, 1) := by decide +kernel
theorem d30_19 : decode (cm_M 30).2.2.1 19 = .ok (.ifnonnull 7, 3) := by decide +kernel
theorem d30_22 : decode (cm_M 30).2.2.1 22 = .ok (.iconst 0, 1) := by decide +kernel
theorem d30_23 : decode (cm_M 30).2.2.1 23 = .ok (.goto 7, 3) := by decide +kernel
theorem d30_26 : decode (cm_M 30).2.2.1 26 = .ok (.aload_n 3, 1) := by decide +kernel
theorem d30_27 : decode (cm_M 30).2.2.1 27 = .ok (.invokevirtual 64, 3) := by decide +kernel
theorem d30_30 : decode (cm_M 30).2.2.1 30 = .ok (.istore 4, 2) := by decide +kernel
theorem d30_32 : decode (cm_M 30).2.2.1 32 = .ok (.iload 4, 2) := by decide +kernel
theorem d30_34 : decode (cm_M 30).2.2.1 34 = .ok (.iconst (-1), 1) := by decide +kernel
theorem d30_35 : decode (cm_M 30).2.2.1 35 = .ok (.if_icmp .ne 5, 3) := by decide +kernel
theorem d30_38 : decode (cm_M 30).2.2.1 38 = .ok (.iconst (-1), 1) := by decide +kernel
theorem d30_39 : decode (cm_M 30).2.2.1 39 = .ok (.ireturn, 1) := by decide +kernel
theorem d30_40 : decode (cm_M 30).2.2.1 40 = .ok (.iload_n 1, 1) := by decide +kernel
theorem d30_41 : decode (cm_M 30).2.2.1 41 = .ok (.iload 4, 2) := by decide +kernel
theorem d30_43 : decode (cm_M 30).2.2.1 43 = .ok (.iadd, 1) := by decide +kernel
theorem d30_44 : decode (cm_M 30).2.2.1 44 = .ok (.istore_n 1, 1) := by decide +kernel
theorem d30_45 : decode (cm_M 30).2.2.1 45 = .ok (.iinc 2 1, 3) := by decide +kernel
theorem d30_48 : decode (cm_M 30).2.2.1 48 = .ok (.goto (-44), 3) := by decide +kernel
theorem d30_51 : decode (cm_M 30).2.2.1 51 = .ok (.iload_n 1, 1) := by decide +kernel
theorem d30_52 : decode (cm_M 30).2.2.1 52 = .ok (.ireturn, 1) := by decide +kernel
theorem s30_0 {sc : cmS} {d : Nat} {h : cmH} {Q : Option Value → cmH → Prop} (a0 : Nat) (u1 : Option Value) (u2 : Option Value) (u3 : Option Value) (u4 : Option Value) (H : cm_wp sc d 30 4 [some (.ref a0), some (.int (0 : Int32)), some (.int (0 : Int32)), u3, u4] [] h Q) : cm_wp sc d 30 0 [some (.ref a0), u1, u2, u3, u4] [] h Q :=
  wl_ic (v := 0) d30_0 rfl (wl_st (ls' := [some (.ref a0), some (.int (0 : Int32)), u2, u3, u4]) d30_1 rfl rfl rfl rfl (wl_ic (v := 0) d30_2 rfl (wl_st (ls' := [some (.ref a0), some (.int (0 : Int32)), some (.int (0 : Int32)), u3, u4]) d30_3 rfl rfl rfl rfl (H))))
theorem s30_4 {sc : cmS} {d : Nat} {h : cmH} {Q : Option Value → cmH → Prop} (a0 : Nat) (x1 : Int32) (x2 : Int32) (u3 : Option Value) (u4 : Option Value) (H : (FL h a0) ∧ ((((cm_I h a0 3) ≤ x2) → Q (some (.int x1)) h) ∧ (¬ ((cm_I h a0 3) ≤ x2) → cm_cq sc d 23 [.ref a0, .int x2] h (fun r h' => cm_wp sc (d + 1) 30 17 [some (.ref a0), some (.int x1), some (.int x2), u3, u4] [va_rf r] h' Q)))) : cm_wp sc (d + 1) 30 4 [some (.ref a0), some (.int x1), some (.int x2), u3, u4] [] h Q :=
  wl_st d30_4 rfl rfl rfl rfl (wl_st d30_5 rfl rfl rfl rfl (And.elim (fun g1 g1k => wl_gf (v := .int (cm_I h a0 3)) d30_6 pf3_43 (FL.k g1) rfl (wl_cb (b := (cm_I h a0 3) ≤ x2) (off := 42) (tgt := 51) (pc3 := 12) (st' := []) d30_9 rfl rfl rfl rfl (by decide) rfl (fun c2 => wl_st d30_51 rfl rfl rfl rfl (wl_rt d30_52 rfl rfl rfl (g1k.1 c2))) (fun c2 => wl_st d30_12 rfl rfl rfl rfl (wl_st d30_13 rfl rfl rfl rfl (wl_cq d30_14 rfl rfl rfl pm3_57 (by decide) (ca_v (Or.inl rfl) rfl (Nat.le_of_ble_eq_true rfl) (Nat.le_of_ble_eq_true rfl) (FL.k g1).2 (FL.k g1).1 (by decide)) (g1k.2 c2)))))) H))
theorem s30_17 {sc : cmS} {d : Nat} {h : cmH} {Q : Option Value → cmH → Prop} (a0 : Nat) (x1 : Int32) (x2 : Int32) (u3 : Option Value) (u4 : Option Value) (so0 : Option Nat) (H : ((so0 = none → cm_wp sc (d + 1) 30 30 [some (.ref a0), some (.int x1), some (.int x2), some (va_rf so0), u4] [.int (0 : Int32)] h Q) ∧ (∀ b2, so0 = some b2 → (CE h b2) ∧ cm_ci sc d 25 [.ref b2] h (fun r h' => cm_wp sc (d + 1) 30 30 [some (.ref a0), some (.int x1), some (.int x2), some (.ref b2), u4] [.int r] h' Q)))) : cm_wp sc (d + 1) 30 17 [some (.ref a0), some (.int x1), some (.int x2), u3, u4] [va_rf so0] h Q :=
  wl_as (k := 3) (ls' := [some (.ref a0), some (.int x1), some (.int x2), some (va_rf so0), u4]) d30_17 (Or.inr ⟨⟨_, rfl, rfl⟩, rfl⟩) (Nat.le_of_ble_eq_true rfl) rfl (wl_al (k := 3) d30_18 (Or.inr ⟨⟨_, rfl, rfl⟩, rfl⟩) rfl (wl_nn (o := so0) (tgt := 26) (pc3 := 22) d30_19 (by decide) rfl (fun b2 c1 => cm_rw (fun oo => cm_wp sc (d + 1) 30 26 [some (.ref a0), some (.int x1), some (.int x2), some (va_rf oo), u4] [] h Q) c1 (wl_st d30_26 rfl rfl rfl rfl (And.elim (fun g3 g3k => wl_ci d30_27 rfl rfl rfl pm3_64 (by decide) (ca_v (Or.inr rfl) rfl (Nat.le_of_ble_eq_true rfl) (Nat.le_of_ble_eq_true rfl) (CE.k g3).2 (CE.k g3).1 (by decide)) g3k) (H.2 b2 c1)))) (fun c1 => wl_ic (v := 0) d30_22 rfl (wl_go (tgt := 30) d30_23 (by decide) ((H.1 c1))))))
theorem s30_30 {sc : cmS} {d : Nat} {h : cmH} {Q : Option Value → cmH → Prop} (a0 : Nat) (x1 : Int32) (x2 : Int32) (o3 : Option Nat) (u4 : Option Value) (sx0 : Int32) (H : (((¬ sx0 = (-1 : Int32)) → cm_wp sc d 30 4 [some (.ref a0), some (.int (x1 + sx0)), some (.int (x2 + 1)), some (va_rf o3), some (.int sx0)] [] h Q) ∧ (¬ (¬ sx0 = (-1 : Int32)) → Q (some (.int (-1 : Int32))) h))) : cm_wp sc d 30 30 [some (.ref a0), some (.int x1), some (.int x2), some (va_rf o3), u4] [.int sx0] h Q :=
  wl_is (ls' := [some (.ref a0), some (.int x1), some (.int x2), some (va_rf o3), some (.int sx0)]) d30_30 (Nat.le_of_ble_eq_true rfl) (by simp [cm_ls1, cm_ls2, cm_clr, cm_isJq]) (wl_st d30_32 rfl rfl rfl rfl (wl_ic (v := (-1)) d30_34 rfl (wl_cb (b := ¬ sx0 = (-1 : Int32)) (off := 5) (tgt := 40) (pc3 := 38) (st' := []) d30_35 rfl rfl rfl rfl (by decide) rfl (fun c1 => wl_st d30_40 rfl rfl rfl rfl (wl_st d30_41 rfl rfl rfl rfl (wl_st d30_43 rfl rfl rfl rfl (wl_st (ls' := [some (.ref a0), some (.int (x1 + sx0)), some (.int x2), some (va_rf o3), some (.int sx0)]) d30_44 rfl rfl rfl rfl (wl_st (ls' := [some (.ref a0), some (.int (x1 + sx0)), some (.int (x2 + 1)), some (va_rf o3), some (.int sx0)]) d30_45 rfl rfl rfl rfl (wl_go (tgt := 4) d30_48 (by decide) ((H.1 c1)))))))) (fun c1 => wl_ic (v := (-1)) d30_38 rfl (wl_rt d30_39 rfl rfl rfl (H.2 c1))))))
-- ClogHouse$Filter.pushWith(I)I
theorem d32_0 : decode (cm_M 32).2.2.1 0 = .ok (.aload_n 0, 1) := by decide +kernel
theorem d32_1 : decode (cm_M 32).2.2.1 1 = .ok (.invokevirtual 68, 3) := by decide +kernel
theorem d32_4 : decode (cm_M 32).2.2.1 4 = .ok (.istore_n 2, 1) := by decide +kernel
theorem d32_5 : decode (cm_M 32).2.2.1 5 = .ok (.iload_n 2, 1) := by decide +kernel
theorem d32_6 : decode (cm_M 32).2.2.1 6 = .ok (.iconst (-1), 1) := by decide +kernel
theorem d32_7 : decode (cm_M 32).2.2.1 7 = .ok (.if_icmp .ne 5, 3) := by decide +kernel
theorem d32_10 : decode (cm_M 32).2.2.1 10 = .ok (.iconst (-1), 1) := by decide +kernel
theorem d32_11 : decode (cm_M 32).2.2.1 11 = .ok (.ireturn, 1) := by decide +kernel
theorem d32_12 : decode (cm_M 32).2.2.1 12 = .ok (.aload_n 0, 1) := by decide +kernel
theorem d32_13 : decode (cm_M 32).2.2.1 13 = .ok (.invokevirtual 73, 3) := by decide +kernel
theorem d32_16 : decode (cm_M 32).2.2.1 16 = .ok (.i2l, 1) := by decide +kernel
theorem d32_17 : decode (cm_M 32).2.2.1 17 = .ok (.lstore_n 3, 1) := by decide +kernel
theorem d32_18 : decode (cm_M 32).2.2.1 18 = .ok (.lconst 0, 1) := by decide +kernel
theorem d32_19 : decode (cm_M 32).2.2.1 19 = .ok (.lstore 5, 2) := by decide +kernel
theorem d32_21 : decode (cm_M 32).2.2.1 21 = .ok (.iconst 0, 1) := by decide +kernel
theorem d32_22 : decode (cm_M 32).2.2.1 22 = .ok (.istore 7, 2) := by decide +kernel
theorem d32_24 : decode (cm_M 32).2.2.1 24 = .ok (.iload 7, 2) := by decide +kernel
theorem d32_26 : decode (cm_M 32).2.2.1 26 = .ok (.ldc 86, 2) := by decide +kernel
theorem d32_28 : decode (cm_M 32).2.2.1 28 = .ok (.if_icmp .gt 66, 3) := by decide +kernel
theorem d32_31 : decode (cm_M 32).2.2.1 31 = .ok (.lload 5, 2) := by decide +kernel
theorem d32_33 : decode (cm_M 32).2.2.1 33 = .ok (.ldc2_w 87, 3) := by decide +kernel
theorem d32_36 : decode (cm_M 32).2.2.1 36 = .ok (.lcmp, 1) := by decide +kernel
theorem d32_37 : decode (cm_M 32).2.2.1 37 = .ok (.ifCond .gt 57, 3) := by decide +kernel
theorem d32_40 : decode (cm_M 32).2.2.1 40 = .ok (.iload_n 1, 1) := by decide +kernel
theorem d32_41 : decode (cm_M 32).2.2.1 41 = .ok (.i2l, 1) := by decide +kernel
theorem d32_42 : decode (cm_M 32).2.2.1 42 = .ok (.iload_n 2, 1) := by decide +kernel
theorem d32_43 : decode (cm_M 32).2.2.1 43 = .ok (.i2l, 1) := by decide +kernel
theorem d32_44 : decode (cm_M 32).2.2.1 44 = .ok (.lload_n 3, 1) := by decide +kernel
theorem d32_45 : decode (cm_M 32).2.2.1 45 = .ok (.ldc2_w 89, 3) := by decide +kernel
theorem d32_48 : decode (cm_M 32).2.2.1 48 = .ok (.lload 5, 2) := by decide +kernel
theorem d32_50 : decode (cm_M 32).2.2.1 50 = .ok (.aload_n 0, 1) := by decide +kernel
theorem d32_51 : decode (cm_M 32).2.2.1 51 = .ok (.getfield 24, 3) := by decide +kernel
theorem d32_54 : decode (cm_M 32).2.2.1 54 = .ok (.i2l, 1) := by decide +kernel
theorem d32_55 : decode (cm_M 32).2.2.1 55 = .ok (.invokestatic 82, 3) := by decide +kernel
theorem d32_58 : decode (cm_M 32).2.2.1 58 = .ok (.ladd, 1) := by decide +kernel
theorem d32_59 : decode (cm_M 32).2.2.1 59 = .ok (.lmul, 1) := by decide +kernel
theorem d32_60 : decode (cm_M 32).2.2.1 60 = .ok (.ldc2_w 89, 3) := by decide +kernel
theorem d32_63 : decode (cm_M 32).2.2.1 63 = .ok (.ldiv, 1) := by decide +kernel
theorem d32_64 : decode (cm_M 32).2.2.1 64 = .ok (.ladd, 1) := by decide +kernel
theorem d32_65 : decode (cm_M 32).2.2.1 65 = .ok (.lmul, 1) := by decide +kernel
theorem d32_66 : decode (cm_M 32).2.2.1 66 = .ok (.ldc2_w 89, 3) := by decide +kernel
theorem d32_69 : decode (cm_M 32).2.2.1 69 = .ok (.ldiv, 1) := by decide +kernel
theorem d32_70 : decode (cm_M 32).2.2.1 70 = .ok (.lstore 8, 2) := by decide +kernel
theorem d32_72 : decode (cm_M 32).2.2.1 72 = .ok (.lload 5, 2) := by decide +kernel
theorem d32_74 : decode (cm_M 32).2.2.1 74 = .ok (.lload 8, 2) := by decide +kernel
theorem d32_76 : decode (cm_M 32).2.2.1 76 = .ok (.lcmp, 1) := by decide +kernel
theorem d32_77 : decode (cm_M 32).2.2.1 77 = .ok (.ifCond .lt 7, 3) := by decide +kernel
theorem d32_80 : decode (cm_M 32).2.2.1 80 = .ok (.lload 5, 2) := by decide +kernel
theorem d32_82 : decode (cm_M 32).2.2.1 82 = .ok (.l2i, 1) := by decide +kernel
theorem d32_83 : decode (cm_M 32).2.2.1 83 = .ok (.ireturn, 1) := by decide +kernel
theorem d32_84 : decode (cm_M 32).2.2.1 84 = .ok (.lload 8, 2) := by decide +kernel
theorem d32_86 : decode (cm_M 32).2.2.1 86 = .ok (.lstore 5, 2) := by decide +kernel
theorem d32_88 : decode (cm_M 32).2.2.1 88 = .ok (.iinc 7 1, 3) := by decide +kernel
theorem d32_91 : decode (cm_M 32).2.2.1 91 = .ok (.goto (-67), 3) := by decide +kernel
theorem d32_94 : decode (cm_M 32).2.2.1 94 = .ok (.iconst (-1), 1) := by decide +kernel
theorem d32_95 : decode (cm_M 32).2.2.1 95 = .ok (.ireturn, 1) := by decide +kernel
theorem s32_0 {sc : cmS} {d : Nat} {h : cmH} {Q : Option Value → cmH → Prop} (a0 : Nat) (x1 : Int32) (u2 : Option Value) (u3 : Option Value) (u4 : Option Value) (u5 : Option Value) (u6 : Option Value) (u7 : Option Value) (u8 : Option Value) (u9 : Option Value) (H : (FL h a0) ∧ cm_ci sc d 30 [.ref a0] h (fun r h' => cm_wp sc (d + 1) 32 4 [some (.ref a0), some (.int x1), u2, u3, u4, u5, u6, u7, u8, u9] [.int r] h' Q)) : cm_wp sc (d + 1) 32 0 [some (.ref a0), some (.int x1), u2, u3, u4, u5, u6, u7, u8, u9] [] h Q :=
  wl_st d32_0 rfl rfl rfl rfl (And.elim (fun g1 g1k => wl_ci d32_1 rfl rfl rfl pm3_68 (by decide) (ca_v (Or.inl rfl) rfl (Nat.le_of_ble_eq_true rfl) (Nat.le_of_ble_eq_true rfl) (FL.k g1).2 (FL.k g1).1 (by decide)) g1k) H)
theorem s32_4 {sc : cmS} {d : Nat} {h : cmH} {Q : Option Value → cmH → Prop} (a0 : Nat) (x1 : Int32) (u2 : Option Value) (u3 : Option Value) (u4 : Option Value) (u5 : Option Value) (u6 : Option Value) (u7 : Option Value) (u8 : Option Value) (u9 : Option Value) (sx0 : Int32) (H : (((¬ sx0 = (-1 : Int32)) → (FL h a0) ∧ cm_ci sc d 29 [.ref a0] h (fun r h' => cm_wp sc (d + 1) 32 16 [some (.ref a0), some (.int x1), some (.int sx0), u3, u4, u5, u6, u7, u8, u9] [.int r] h' Q)) ∧ (¬ (¬ sx0 = (-1 : Int32)) → Q (some (.int (-1 : Int32))) h))) : cm_wp sc (d + 1) 32 4 [some (.ref a0), some (.int x1), u2, u3, u4, u5, u6, u7, u8, u9] [.int sx0] h Q :=
  wl_st (ls' := [some (.ref a0), some (.int x1), some (.int sx0), u3, u4, u5, u6, u7, u8, u9]) d32_4 rfl rfl rfl rfl (wl_st d32_5 rfl rfl rfl rfl (wl_ic (v := (-1)) d32_6 rfl (wl_cb (b := ¬ sx0 = (-1 : Int32)) (off := 5) (tgt := 12) (pc3 := 10) (st' := []) d32_7 rfl rfl rfl rfl (by decide) rfl (fun c1 => wl_st d32_12 rfl rfl rfl rfl (And.elim (fun g2 g2k => wl_ci d32_13 rfl rfl rfl pm3_73 (by decide) (ca_v (Or.inl rfl) rfl (Nat.le_of_ble_eq_true rfl) (Nat.le_of_ble_eq_true rfl) (FL.k g2).2 (FL.k g2).1 (by decide)) g2k) (H.1 c1))) (fun c1 => wl_ic (v := (-1)) d32_10 rfl (wl_rt d32_11 rfl rfl rfl (H.2 c1))))))
theorem s32_16 {sc : cmS} {d : Nat} {h : cmH} {Q : Option Value → cmH → Prop} (a0 : Nat) (x1 : Int32) (x2 : Int32) (u3 : Option Value) (u4 : Option Value) (u5 : Option Value) (u6 : Option Value) (u7 : Option Value) (u8 : Option Value) (u9 : Option Value) (sx0 : Int32) (H : cm_wp sc d 32 24 [some (.ref a0), some (.int x1), some (.int x2), some (.long (sx0.toInt64)), none, some (.long (0 : Int64)), none, some (.int (0 : Int32)), u8, u9] [] h Q) : cm_wp sc d 32 16 [some (.ref a0), some (.int x1), some (.int x2), u3, u4, u5, u6, u7, u8, u9] [.int sx0] h Q :=
  wl_st d32_16 rfl rfl rfl rfl (wl_st (ls' := [some (.ref a0), some (.int x1), some (.int x2), some (.long (sx0.toInt64)), none, u5, u6, u7, u8, u9]) d32_17 rfl rfl rfl rfl (wl_lc (v := 0) d32_18 rfl (wl_st (ls' := [some (.ref a0), some (.int x1), some (.int x2), some (.long (sx0.toInt64)), none, some (.long (0 : Int64)), none, u7, u8, u9]) d32_19 rfl rfl rfl rfl (wl_ic (v := 0) d32_21 rfl (wl_st (ls' := [some (.ref a0), some (.int x1), some (.int x2), some (.long (sx0.toInt64)), none, some (.long (0 : Int64)), none, some (.int (0 : Int32)), u8, u9]) d32_22 rfl rfl rfl rfl (H))))))
theorem s32_24 {sc : cmS} {d : Nat} {h : cmH} {Q : Option Value → cmH → Prop} (a0 : Nat) (x1 : Int32) (x2 : Int32) (y3 : Int64) (y5 : Int64) (x7 : Int32) (u8 : Option Value) (u9 : Option Value) (H : ((((100000 : Int32) < x7) → Q (some (.int (-1 : Int32))) h) ∧ (¬ ((100000 : Int32) < x7) → (((0 < (lg_cmp y5 (100000 : Int64))) → Q (some (.int (-1 : Int32))) h) ∧ (¬ (0 < (lg_cmp y5 (100000 : Int64))) → (FL h a0) ∧ cm_cj' sc d 33 [.long y5, .long ((cm_I h a0 4).toInt64)] h (fun r h' => cm_wp sc (d + 1) 32 58 [some (.ref a0), some (.int x1), some (.int x2), some (.long y3), none, some (.long y5), none, some (.int x7), u8, u9] [.long r, .long (100 : Int64), .long y3, .long (x2.toInt64), .long (x1.toInt64)] h' Q)))))) : cm_wp sc (d + 1) 32 24 [some (.ref a0), some (.int x1), some (.int x2), some (.long y3), none, some (.long y5), none, some (.int x7), u8, u9] [] h Q :=
  wl_st d32_24 rfl rfl rfl rfl (wl_cI (v := 100000) d32_26 pc3_86 (wl_cb (b := (100000 : Int32) < x7) (off := 66) (tgt := 94) (pc3 := 31) (st' := []) d32_28 rfl rfl rfl rfl (by decide) rfl (fun c1 => wl_ic (v := (-1)) d32_94 rfl (wl_rt d32_95 rfl rfl rfl (H.1 c1))) (fun c1 => wl_st d32_31 rfl rfl rfl rfl (wl_cJ (v := 100000) d32_33 pj3_87 (wl_st d32_36 rfl rfl rfl rfl (wl_cb (b := 0 < (lg_cmp y5 (100000 : Int64))) (off := 57) (tgt := 94) (pc3 := 40) (st' := []) d32_37 rfl rfl rfl rfl (by decide) rfl (fun c2 => wl_ic (v := (-1)) d32_94 rfl (wl_rt d32_95 rfl rfl rfl ((H.2 c1).1 c2))) (fun c2 => wl_st d32_40 rfl rfl rfl rfl (wl_st d32_41 rfl rfl rfl rfl (wl_st d32_42 rfl rfl rfl rfl (wl_st d32_43 rfl rfl rfl rfl (wl_st d32_44 rfl rfl rfl rfl (wl_cJ (v := 100) d32_45 pj3_89 (wl_st d32_48 rfl rfl rfl rfl (wl_st d32_50 rfl rfl rfl rfl (And.elim (fun g3 g3k => wl_gf (v := .int (cm_I h a0 4)) d32_51 pf3_24 (FL.k g3) rfl (wl_st d32_54 rfl rfl rfl rfl (wl_cj d32_55 rfl rfl rfl pm3_82 (by decide) (ca_s (Or.inr rfl) rfl (Nat.le_of_ble_eq_true rfl) (Nat.le_of_ble_eq_true rfl)) g3k))) ((H.2 c1).2 c2))))))))))))))))
theorem s32_58 {sc : cmS} {d : Nat} {h : cmH} {Q : Option Value → cmH → Prop} (a0 : Nat) (x1 : Int32) (x2 : Int32) (y3 : Int64) (y5 : Int64) (x7 : Int32) (u8 : Option Value) (u9 : Option Value) (sy0 : Int64) (sy1 : Int64) (sy2 : Int64) (sy3 : Int64) (sy4 : Int64) (H : ((((lg_cmp y5 ((sy4 * (sy3 + ((sy2 * (sy1 + sy0)) / (100 : Int64)))) / (100 : Int64))) < 0) → cm_wp sc d 32 24 [some (.ref a0), some (.int x1), some (.int x2), some (.long y3), none, some (.long ((sy4 * (sy3 + ((sy2 * (sy1 + sy0)) / (100 : Int64)))) / (100 : Int64))), none, some (.int (x7 + 1)), some (.long ((sy4 * (sy3 + ((sy2 * (sy1 + sy0)) / (100 : Int64)))) / (100 : Int64))), none] [] h Q) ∧ (¬ ((lg_cmp y5 ((sy4 * (sy3 + ((sy2 * (sy1 + sy0)) / (100 : Int64)))) / (100 : Int64))) < 0) → Q (some (.int (y5.toInt32))) h))) : cm_wp sc d 32 58 [some (.ref a0), some (.int x1), some (.int x2), some (.long y3), none, some (.long y5), none, some (.int x7), u8, u9] [.long sy0, .long sy1, .long sy2, .long sy3, .long sy4] h Q :=
  wl_st d32_58 rfl rfl rfl rfl (wl_st d32_59 rfl rfl rfl rfl (wl_cJ (v := 100) d32_60 pj3_89 (wl_ne (g := (100 : Int64) = 0) d32_63 rfl rfl rfl rfl (by decide) (wl_st d32_64 rfl rfl rfl rfl (wl_st d32_65 rfl rfl rfl rfl (wl_cJ (v := 100) d32_66 pj3_89 (wl_ne (g := (100 : Int64) = 0) d32_69 rfl rfl rfl rfl (by decide) (wl_st (ls' := [some (.ref a0), some (.int x1), some (.int x2), some (.long y3), none, some (.long y5), none, some (.int x7), some (.long ((sy4 * (sy3 + ((sy2 * (sy1 + sy0)) / (100 : Int64)))) / (100 : Int64))), none]) d32_70 rfl rfl rfl rfl (wl_st d32_72 rfl rfl rfl rfl (wl_st d32_74 rfl rfl rfl rfl (wl_st d32_76 rfl rfl rfl rfl (wl_cb (b := (lg_cmp y5 ((sy4 * (sy3 + ((sy2 * (sy1 + sy0)) / (100 : Int64)))) / (100 : Int64))) < 0) (off := 7) (tgt := 84) (pc3 := 80) (st' := []) d32_77 rfl rfl rfl rfl (by decide) rfl (fun c1 => wl_st d32_84 rfl rfl rfl rfl (wl_st (ls' := [some (.ref a0), some (.int x1), some (.int x2), some (.long y3), none, some (.long ((sy4 * (sy3 + ((sy2 * (sy1 + sy0)) / (100 : Int64)))) / (100 : Int64))), none, some (.int x7), some (.long ((sy4 * (sy3 + ((sy2 * (sy1 + sy0)) / (100 : Int64)))) / (100 : Int64))), none]) d32_86 rfl rfl rfl rfl (wl_st (ls' := [some (.ref a0), some (.int x1), some (.int x2), some (.long y3), none, some (.long ((sy4 * (sy3 + ((sy2 * (sy1 + sy0)) / (100 : Int64)))) / (100 : Int64))), none, some (.int (x7 + 1)), some (.long ((sy4 * (sy3 + ((sy2 * (sy1 + sy0)) / (100 : Int64)))) / (100 : Int64))), none]) d32_88 rfl rfl rfl rfl (wl_go (tgt := 24) d32_91 (by decide) ((H.1 c1)))))) (fun c1 => wl_st d32_80 rfl rfl rfl rfl (wl_st d32_82 rfl rfl rfl rfl (wl_rt d32_83 rfl rfl rfl (H.2 c1))))))))))))))))
-- ClogHouse$Filter.tellLettersTo(LClogHouse$Reader;I)V
theorem d63_0 : decode (cm_M 63).2.2.1 0 = .ok (.aload_n 1, 1) := by decide +kernel
theorem d63_1 : decode (cm_M 63).2.2.1 1 = .ok (.aload_n 0, 1) := by decide +kernel
theorem d63_2 : decode (cm_M 63).2.2.1 2 = .ok (.getfield 95, 3) := by decide +kernel
theorem d63_5 : decode (cm_M 63).2.2.1 5 = .ok (.aload_n 0, 1) := by decide +kernel
theorem d63_6 : decode (cm_M 63).2.2.1 6 = .ok (.getfield 126, 3) := by decide +kernel
theorem d63_9 : decode (cm_M 63).2.2.1 9 = .ok (.aload_n 0, 1) := by decide +kernel
theorem d63_10 : decode (cm_M 63).2.2.1 10 = .ok (.getfield 105, 3) := by decide +kernel
theorem d63_13 : decode (cm_M 63).2.2.1 13 = .ok (.iload_n 2, 1) := by decide +kernel
theorem d63_14 : decode (cm_M 63).2.2.1 14 = .ok (.aload_n 0, 1) := by decide +kernel
theorem d63_15 : decode (cm_M 63).2.2.1 15 = .ok (.getfield 129, 3) := by decide +kernel
theorem d63_18 : decode (cm_M 63).2.2.1 18 = .ok (.aload_n 0, 1) := by decide +kernel
theorem d63_19 : decode (cm_M 63).2.2.1 19 = .ok (.invokevirtual 73, 3) := by decide +kernel
theorem d63_22 : decode (cm_M 63).2.2.1 22 = .ok (.invokevirtual 150, 3) := by decide +kernel
theorem d63_25 : decode (cm_M 63).2.2.1 25 = .ok (.return_, 1) := by decide +kernel
theorem s63_0 {sc : cmS} {d : Nat} {h : cmH} {Q : Option Value → cmH → Prop} (a0 : Nat) (x2 : Int32) (H : (FL h a0) ∧ cm_ci sc d 29 [.ref a0] h (fun r h' => cm_wp sc (d + 1) 63 22 [some (.ref a0), some (.ref 9), some (.int x2)] [.int r, .int (cm_I h a0 10), .int x2, .int (cm_I h a0 13), .int (cm_I h a0 9), .int (cm_I h a0 12), .ref 9] h' Q)) : cm_wp sc (d + 1) 63 0 [some (.ref a0), some (.ref 9), some (.int x2)] [] h Q :=
  wl_st d63_0 rfl rfl rfl rfl (wl_st d63_1 rfl rfl rfl rfl (And.elim (fun g1 g1k => wl_gf (v := .int (cm_I h a0 12)) d63_2 pf3_95 (FL.k g1) rfl (wl_st d63_5 rfl rfl rfl rfl (wl_gf (v := .int (cm_I h a0 9)) d63_6 pf3_126 (FL.k g1) rfl (wl_st d63_9 rfl rfl rfl rfl (wl_gf (v := .int (cm_I h a0 13)) d63_10 pf3_105 (FL.k g1) rfl (wl_st d63_13 rfl rfl rfl rfl (wl_st d63_14 rfl rfl rfl rfl (wl_gf (v := .int (cm_I h a0 10)) d63_15 pf3_129 (FL.k g1) rfl (wl_st d63_18 rfl rfl rfl rfl (wl_ci d63_19 rfl rfl rfl pm3_73 (by decide) (ca_v (Or.inl rfl) rfl (Nat.le_of_ble_eq_true rfl) (Nat.le_of_ble_eq_true rfl) (FL.k g1).2 (FL.k g1).1 (by decide)) g1k)))))))))) H))
theorem s63_22 {sc : cmS} {d : Nat} {h : cmH} {Q : Option Value → cmH → Prop} (L : LY h) (a0 : Nat) (x2 : Int32) (sx0 : Int32) (sx1 : Int32) (sx2 : Int32) (sx3 : Int32) (sx4 : Int32) (sx5 : Int32) (H : cm_cv sc d 64 [.ref 9, .int sx5, .int sx4, .int sx3, .int sx2, .int sx1, .int sx0] h (fun h' => cm_wp sc (d + 1) 63 25 [some (.ref a0), some (.ref 9), some (.int x2)] [] h' Q)) : cm_wp sc (d + 1) 63 22 [some (.ref a0), some (.ref 9), some (.int x2)] [.int sx0, .int sx1, .int sx2, .int sx3, .int sx4, .int sx5, .ref 9] h Q :=
  wl_cv d63_22 rfl rfl rfl pm3_150 (by decide) (ca_v (Or.inr rfl) rfl (Nat.le_of_ble_eq_true rfl) (Nat.le_of_ble_eq_true rfl) (ly_k L 9 rfl).2 (ly_k L 9 rfl).1 (by decide)) H
theorem s63_25 {sc : cmS} {d : Nat} {h : cmH} {Q : Option Value → cmH → Prop} (a0 : Nat) (x2 : Int32) (H : Q none h) : cm_wp sc d 63 25 [some (.ref a0), some (.ref 9), some (.int x2)] [] h Q :=
  wl_rt d63_25 rfl rfl rfl H
-- ClogHouse$Filter.change(LClogHouse$Books;)V
theorem d66_0 : decode (cm_M 66).2.2.1 0 = .ok (.iconst 0, 1) := by decide +kernel
theorem d66_1 : decode (cm_M 66).2.2.1 1 = .ok (.istore_n 2, 1) := by decide +kernel
theorem d66_2 : decode (cm_M 66).2.2.1 2 = .ok (.iload_n 2, 1) := by decide +kernel
theorem d66_3 : decode (cm_M 66).2.2.1 3 = .ok (.bipush 8, 2) := by decide +kernel
theorem d66_5 : decode (cm_M 66).2.2.1 5 = .ok (.if_icmp .ge 19, 3) := by decide +kernel
theorem d66_8 : decode (cm_M 66).2.2.1 8 = .ok (.aload_n 1, 1) := by decide +kernel
theorem d66_9 : decode (cm_M 66).2.2.1 9 = .ok (.iload_n 2, 1) := by decide +kernel
theorem d66_10 : decode (cm_M 66).2.2.1 10 = .ok (.aload_n 0, 1) := by decide +kernel
theorem d66_11 : decode (cm_M 66).2.2.1 11 = .ok (.iload_n 2, 1) := by decide +kernel
theorem d66_12 : decode (cm_M 66).2.2.1 12 = .ok (.invokevirtual 132, 3) := by decide +kernel
theorem d66_15 : decode (cm_M 66).2.2.1 15 = .ok (.invokevirtual 135, 3) := by decide +kernel
theorem d66_18 : decode (cm_M 66).2.2.1 18 = .ok (.iinc 2 1, 3) := by decide +kernel
theorem d66_21 : decode (cm_M 66).2.2.1 21 = .ok (.goto (-19), 3) := by decide +kernel
theorem d66_24 : decode (cm_M 66).2.2.1 24 = .ok (.aload_n 0, 1) := by decide +kernel
theorem d66_25 : decode (cm_M 66).2.2.1 25 = .ok (.invokevirtual 138, 3) := by decide +kernel
theorem d66_28 : decode (cm_M 66).2.2.1 28 = .ok (.aload_n 0, 1) := by decide +kernel
theorem d66_29 : decode (cm_M 66).2.2.1 29 = .ok (.iconst 0, 1) := by decide +kernel
theorem d66_30 : decode (cm_M 66).2.2.1 30 = .ok (.putfield 126, 3) := by decide +kernel
theorem d66_33 : decode (cm_M 66).2.2.1 33 = .ok (.aload_n 0, 1) := by decide +kernel
theorem d66_34 : decode (cm_M 66).2.2.1 34 = .ok (.iconst 0, 1) := by decide +kernel
theorem d66_35 : decode (cm_M 66).2.2.1 35 = .ok (.putfield 129, 3) := by decide +kernel
theorem d66_38 : decode (cm_M 66).2.2.1 38 = .ok (.return_, 1) := by decide +kernel
theorem s66_0 {sc : cmS} {d : Nat} {h : cmH} {Q : Option Value → cmH → Prop} (a0 : Nat) (u2 : Option Value) (H : cm_wp sc d 66 2 [some (.ref a0), some (.ref 14), some (.int (0 : Int32))] [] h Q) : cm_wp sc d 66 0 [some (.ref a0), some (.ref 14), u2] [] h Q :=
  wl_ic (v := 0) d66_0 rfl (wl_st (ls' := [some (.ref a0), some (.ref 14), some (.int (0 : Int32))]) d66_1 rfl rfl rfl rfl (H))
theorem s66_2 {sc : cmS} {d : Nat} {h : cmH} {Q : Option Value → cmH → Prop} (a0 : Nat) (x2 : Int32) (H : ((((8 : Int32) ≤ x2) → (FL h a0) ∧ cm_cv sc d 69 [.ref a0] h (fun h' => cm_wp sc (d + 1) 66 28 [some (.ref a0), some (.ref 14), some (.int x2)] [] h' Q)) ∧ (¬ ((8 : Int32) ≤ x2) → (FL h a0) ∧ cm_ci sc d 67 [.ref a0, .int x2] h (fun r h' => cm_wp sc (d + 1) 66 15 [some (.ref a0), some (.ref 14), some (.int x2)] [.int r, .int x2, .ref 14] h' Q)))) : cm_wp sc (d + 1) 66 2 [some (.ref a0), some (.ref 14), some (.int x2)] [] h Q :=
  wl_st d66_2 rfl rfl rfl rfl (wl_bi (v := 8) d66_3 rfl (wl_cb (b := (8 : Int32) ≤ x2) (off := 19) (tgt := 24) (pc3 := 8) (st' := []) d66_5 rfl rfl rfl rfl (by decide) rfl (fun c1 => wl_st d66_24 rfl rfl rfl rfl (And.elim (fun g2 g2k => wl_cv d66_25 rfl rfl rfl pm3_138 (by decide) (ca_v (Or.inl rfl) rfl (Nat.le_of_ble_eq_true rfl) (Nat.le_of_ble_eq_true rfl) (FL.k g2).2 (FL.k g2).1 (by decide)) g2k) (H.1 c1))) (fun c1 => wl_st d66_8 rfl rfl rfl rfl (wl_st d66_9 rfl rfl rfl rfl (wl_st d66_10 rfl rfl rfl rfl (wl_st d66_11 rfl rfl rfl rfl (And.elim (fun g3 g3k => wl_ci d66_12 rfl rfl rfl pm3_132 (by decide) (ca_v (Or.inl rfl) rfl (Nat.le_of_ble_eq_true rfl) (Nat.le_of_ble_eq_true rfl) (FL.k g3).2 (FL.k g3).1 (by decide)) g3k) (H.2 c1))))))))
theorem s66_15 {sc : cmS} {d : Nat} {h : cmH} {Q : Option Value → cmH → Prop} (L : LY h) (a0 : Nat) (x2 : Int32) (sx0 : Int32) (sx1 : Int32) (H : cm_cv sc d 68 [.ref 14, .int sx1, .int sx0] h (fun h' => cm_wp sc (d + 1) 66 18 [some (.ref a0), some (.ref 14), some (.int x2)] [] h' Q)) : cm_wp sc (d + 1) 66 15 [some (.ref a0), some (.ref 14), some (.int x2)] [.int sx0, .int sx1, .ref 14] h Q :=
  wl_cv d66_15 rfl rfl rfl pm3_135 (by decide) (ca_v (Or.inr rfl) rfl (Nat.le_of_ble_eq_true rfl) (Nat.le_of_ble_eq_true rfl) (ly_k L 14 rfl).2 (ly_k L 14 rfl).1 (by decide)) H
theorem s66_18 {sc : cmS} {d : Nat} {h : cmH} {Q : Option Value → cmH → Prop} (a0 : Nat) (x2 : Int32) (H : cm_wp sc d 66 2 [some (.ref a0), some (.ref 14), some (.int (x2 + 1))] [] h Q) : cm_wp sc d 66 18 [some (.ref a0), some (.ref 14), some (.int x2)] [] h Q :=
  wl_st (ls' := [some (.ref a0), some (.ref 14), some (.int (x2 + 1))]) d66_18 rfl rfl rfl rfl (wl_go (tgt := 2) d66_21 (by decide) (H))
theorem s66_28 {sc : cmS} {d : Nat} {h : cmH} {Q : Option Value → cmH → Prop} (a0 : Nat) (x2 : Int32) (H : (FL h a0) ∧ Q none (cm_setI (cm_setI h a0 9 (0 : Int32)) a0 10 (0 : Int32))) : cm_wp sc d 66 28 [some (.ref a0), some (.ref 14), some (.int x2)] [] h Q :=
  wl_st d66_28 rfl rfl rfl rfl (wl_ic (v := 0) d66_29 rfl (And.elim (fun g1 g1k => wl_pf (h' := (cm_setI h a0 9 (0 : Int32))) d66_30 pf3_126 (FL.k g1) (Or.inl rfl) rfl (wl_st d66_33 rfl rfl rfl rfl (wl_ic (v := 0) d66_34 rfl (wl_pf (h' := (cm_setI (cm_setI h a0 9 (0 : Int32)) a0 10 (0 : Int32))) d66_35 pf3_129 (FL.k g1) (Or.inl rfl) rfl (wl_rt d66_38 rfl rfl rfl g1k))))) H))
