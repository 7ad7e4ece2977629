-- ClogHouse.history(III)I
theorem d91_0 : decode (cm_M 91).2.2.1 0 = .ok (.iload_n 1, 1) := by decide +kernel
theorem d91_1 : decode (cm_M 91).2.2.1 1 = .ok (.iconst 1, 1) := by decide +kernel
theorem d91_2 : decode (cm_M 91).2.2.1 2 = .ok (.aload_n 0, 1) := by decide +kernel
theorem d91_3 : decode (cm_M 91).2.2.1 3 = .ok (.getfield 234, 3) := by decide +kernel
theorem d91_6 : decode (cm_M 91).2.2.1 6 = .ok (.invokestatic 81, 3) := by decide +kernel
theorem d91_9 : decode (cm_M 91).2.2.1 9 = .ok (.ifCond .eq 10, 3) := by decide +kernel
theorem d91_12 : decode (cm_M 91).2.2.1 12 = .ok (.iload_n 2, 1) := by decide +kernel
theorem d91_13 : decode (cm_M 91).2.2.1 13 = .ok (.invokestatic 77, 3) := by decide +kernel
theorem d91_16 : decode (cm_M 91).2.2.1 16 = .ok (.ifCond .ne 5, 3) := by decide +kernel
theorem d91_19 : decode (cm_M 91).2.2.1 19 = .ok (.iconst (-1), 1) := by decide +kernel
theorem d91_20 : decode (cm_M 91).2.2.1 20 = .ok (.ireturn, 1) := by decide +kernel
theorem d91_21 : decode (cm_M 91).2.2.1 21 = .ok (.iload_n 3, 1) := by decide +kernel
theorem d91_22 : decode (cm_M 91).2.2.1 22 = .ok (.tableswitch 59 0 2 #[26, 37, 48], 26) := by decide +kernel
theorem d91_48 : decode (cm_M 91).2.2.1 48 = .ok (.aload_n 0, 1) := by decide +kernel
theorem d91_49 : decode (cm_M 91).2.2.1 49 = .ok (.getfield 52, 3) := by decide +kernel
theorem d91_52 : decode (cm_M 91).2.2.1 52 = .ok (.iconst 0, 1) := by decide +kernel
theorem d91_53 : decode (cm_M 91).2.2.1 53 = .ok (.iload_n 1, 1) := by decide +kernel
theorem d91_54 : decode (cm_M 91).2.2.1 54 = .ok (.iload_n 2, 1) := by decide +kernel
theorem d91_55 : decode (cm_M 91).2.2.1 55 = .ok (.invokevirtual 259, 3) := by decide +kernel
theorem d91_58 : decode (cm_M 91).2.2.1 58 = .ok (.ireturn, 1) := by decide +kernel
theorem d91_59 : decode (cm_M 91).2.2.1 59 = .ok (.aload_n 0, 1) := by decide +kernel
theorem d91_60 : decode (cm_M 91).2.2.1 60 = .ok (.getfield 52, 3) := by decide +kernel
theorem d91_63 : decode (cm_M 91).2.2.1 63 = .ok (.iconst 1, 1) := by decide +kernel
theorem d91_64 : decode (cm_M 91).2.2.1 64 = .ok (.iload_n 1, 1) := by decide +kernel
theorem d91_65 : decode (cm_M 91).2.2.1 65 = .ok (.iload_n 2, 1) := by decide +kernel
theorem d91_66 : decode (cm_M 91).2.2.1 66 = .ok (.invokevirtual 259, 3) := by decide +kernel
theorem d91_69 : decode (cm_M 91).2.2.1 69 = .ok (.ireturn, 1) := by decide +kernel
theorem d91_70 : decode (cm_M 91).2.2.1 70 = .ok (.aload_n 0, 1) := by decide +kernel
theorem d91_71 : decode (cm_M 91).2.2.1 71 = .ok (.getfield 52, 3) := by decide +kernel
theorem d91_74 : decode (cm_M 91).2.2.1 74 = .ok (.iconst 2, 1) := by decide +kernel
theorem d91_75 : decode (cm_M 91).2.2.1 75 = .ok (.iload_n 1, 1) := by decide +kernel
theorem d91_76 : decode (cm_M 91).2.2.1 76 = .ok (.iload_n 2, 1) := by decide +kernel
theorem d91_77 : decode (cm_M 91).2.2.1 77 = .ok (.invokevirtual 259, 3) := by decide +kernel
theorem d91_80 : decode (cm_M 91).2.2.1 80 = .ok (.ireturn, 1) := by decide +kernel
theorem d91_81 : decode (cm_M 91).2.2.1 81 = .ok (.iconst (-1), 1) := by decide +kernel
theorem d91_82 : decode (cm_M 91).2.2.1 82 = .ok (.ireturn, 1) := by decide +kernel
theorem s91_0 {sc : cmS} {d : Nat} {h : cmH} {Q : Option Value → cmH → Prop} (L : LY h) (x1 : Int32) (x2 : Int32) (x3 : Int32) (H : cm_ci sc d 13 [.int x1, .int (1 : Int32), .int (cm_I h 0 12)] h (fun r h' => cm_wp sc (d + 1) 91 9 [some (.ref 0), some (.int x1), some (.int x2), some (.int x3)] [.int r] h' Q)) : cm_wp sc (d + 1) 91 0 [some (.ref 0), some (.int x1), some (.int x2), some (.int x3)] [] h Q :=
  wl_st d91_0 rfl rfl rfl rfl (wl_ic (v := 1) d91_1 rfl (wl_st d91_2 rfl rfl rfl rfl (wl_gf (v := .int (cm_I h 0 12)) d91_3 pf10_234 (ly_k L 0 rfl) rfl (wl_ci d91_6 rfl rfl rfl pm10_81 (by decide) (ca_s (Or.inl rfl) rfl (Nat.le_of_ble_eq_true rfl) (Nat.le_of_ble_eq_true rfl)) H))))
theorem s91_9 {sc : cmS} {d : Nat} {h : cmH} {Q : Option Value → cmH → Prop} (x1 : Int32) (x2 : Int32) (x3 : Int32) (sx0 : Int32) (H : (((sx0 = 0) → Q (some (.int (-1 : Int32))) h) ∧ (¬ (sx0 = 0) → cm_ci sc d 12 [.int x2] h (fun r h' => cm_wp sc (d + 1) 91 16 [some (.ref 0), some (.int x1), some (.int x2), some (.int x3)] [.int r] h' Q)))) : cm_wp sc (d + 1) 91 9 [some (.ref 0), some (.int x1), some (.int x2), some (.int x3)] [.int sx0] h Q :=
  wl_cb (b := sx0 = 0) (off := 10) (tgt := 19) (pc3 := 12) (st' := []) d91_9 rfl rfl rfl rfl (by decide) rfl (fun c1 => wl_ic (v := (-1)) d91_19 rfl (wl_rt d91_20 rfl rfl rfl (H.1 c1))) (fun c1 => wl_st d91_12 rfl rfl rfl rfl (wl_ci d91_13 rfl rfl rfl pm10_77 (by decide) (ca_s (Or.inl rfl) rfl (Nat.le_of_ble_eq_true rfl) (Nat.le_of_ble_eq_true rfl)) (H.2 c1)))
theorem s91_16 {sc : cmS} {d : Nat} {h : cmH} {Q : Option Value → cmH → Prop} (L : LY h) (x1 : Int32) (x2 : Int32) (x3 : Int32) (sx0 : Int32) (H : (((¬ sx0 = 0) → ((x3 = 0 → cm_ci sc d 92 [.ref 14, .int (0 : Int32), .int x1, .int x2] h (fun r h' => cm_wp sc (d + 1) 91 58 [some (.ref 0), some (.int x1), some (.int x2), some (.int x3)] [.int r] h' Q)) ∧ (x3 = 1 → cm_ci sc d 92 [.ref 14, .int (1 : Int32), .int x1, .int x2] h (fun r h' => cm_wp sc (d + 1) 91 69 [some (.ref 0), some (.int x1), some (.int x2), some (.int x3)] [.int r] h' Q)) ∧ (x3 = 2 → cm_ci sc d 92 [.ref 14, .int (2 : Int32), .int x1, .int x2] h (fun r h' => cm_wp sc (d + 1) 91 80 [some (.ref 0), some (.int x1), some (.int x2), some (.int x3)] [.int r] h' Q)) ∧ (¬ x3 = 0 → ¬ x3 = 1 → ¬ x3 = 2 → Q (some (.int (-1 : Int32))) h))) ∧ (¬ (¬ sx0 = 0) → Q (some (.int (-1 : Int32))) h))) : cm_wp sc (d + 1) 91 16 [some (.ref 0), some (.int x1), some (.int x2), some (.int x3)] [.int sx0] h Q :=
  wl_cb (b := ¬ sx0 = 0) (off := 5) (tgt := 21) (pc3 := 19) (st' := []) d91_16 rfl rfl rfl rfl (by decide) rfl (fun c1 => wl_st d91_21 rfl rfl rfl rfl ((if c2 : x3 = 0 then wl_tsI (v := 0) (tgt := 48) d91_22 c2 rfl (by decide) (by decide) (by decide) (wl_st d91_48 rfl rfl rfl rfl (wl_gr (b := 14) d91_49 pf10_52 (ly_k L 0 rfl) rfl (ly_r L 0 6 rfl) (wl_ic (v := 0) d91_52 rfl (wl_st d91_53 rfl rfl rfl rfl (wl_st d91_54 rfl rfl rfl rfl (wl_ci d91_55 rfl rfl rfl pm10_259 (by decide) (ca_v (Or.inr rfl) rfl (Nat.le_of_ble_eq_true rfl) (Nat.le_of_ble_eq_true rfl) (ly_k L 14 rfl).2 (ly_k L 14 rfl).1 (by decide)) ((H.1 c1).1 c2))))))) else (if c3 : x3 = 1 then wl_tsI (v := 1) (tgt := 59) d91_22 c3 rfl (by decide) (by decide) (by decide) (wl_st d91_59 rfl rfl rfl rfl (wl_gr (b := 14) d91_60 pf10_52 (ly_k L 0 rfl) rfl (ly_r L 0 6 rfl) (wl_ic (v := 1) d91_63 rfl (wl_st d91_64 rfl rfl rfl rfl (wl_st d91_65 rfl rfl rfl rfl (wl_ci d91_66 rfl rfl rfl pm10_259 (by decide) (ca_v (Or.inr rfl) rfl (Nat.le_of_ble_eq_true rfl) (Nat.le_of_ble_eq_true rfl) (ly_k L 14 rfl).2 (ly_k L 14 rfl).1 (by decide)) ((H.1 c1).2.1 c3))))))) else (if c4 : x3 = 2 then wl_tsI (v := 2) (tgt := 70) d91_22 c4 rfl (by decide) (by decide) (by decide) (wl_st d91_70 rfl rfl rfl rfl (wl_gr (b := 14) d91_71 pf10_52 (ly_k L 0 rfl) rfl (ly_r L 0 6 rfl) (wl_ic (v := 2) d91_74 rfl (wl_st d91_75 rfl rfl rfl rfl (wl_st d91_76 rfl rfl rfl rfl (wl_ci d91_77 rfl rfl rfl pm10_259 (by decide) (ca_v (Or.inr rfl) rfl (Nat.le_of_ble_eq_true rfl) (Nat.le_of_ble_eq_true rfl) (ly_k L 14 rfl).2 (ly_k L 14 rfl).1 (by decide)) ((H.1 c1).2.2.1 c4))))))) else wl_tsO (tgt := 81) d91_22 (by rcases (by omega : (x3).toInt < 0 ∨ 2 < (x3).toInt ∨ (x3).toInt = 0 ∨ (x3).toInt = 1 ∨ (x3).toInt = 2) with qq | qq | qq | qq | qq <;> first | exact Or.inl qq | exact Or.inr qq | exact absurd (Int32.toInt_inj.mp qq) c2 | exact absurd (Int32.toInt_inj.mp qq) c3 | exact absurd (Int32.toInt_inj.mp qq) c4) (by decide) (wl_ic (v := (-1)) d91_81 rfl (wl_rt d91_82 rfl rfl rfl ((H.1 c1).2.2.2 c2 c3 c4)))))))) (fun c1 => wl_ic (v := (-1)) d91_19 rfl (wl_rt d91_20 rfl rfl rfl (H.2 c1)))
theorem s91_58 {sc : cmS} {d : Nat} {h : cmH} {Q : Option Value → cmH → Prop} (x1 : Int32) (x2 : Int32) (x3 : Int32) (sx0 : Int32) (H : Q (some (.int sx0)) h) : cm_wp sc d 91 58 [some (.ref 0), some (.int x1), some (.int x2), some (.int x3)] [.int sx0] h Q :=
  wl_rt d91_58 rfl rfl rfl H
theorem s91_69 {sc : cmS} {d : Nat} {h : cmH} {Q : Option Value → cmH → Prop} (x1 : Int32) (x2 : Int32) (x3 : Int32) (sx0 : Int32) (H : Q (some (.int sx0)) h) : cm_wp sc d 91 69 [some (.ref 0), some (.int x1), some (.int x2), some (.int x3)] [.int sx0] h Q :=
  wl_rt d91_69 rfl rfl rfl H
theorem s91_80 {sc : cmS} {d : Nat} {h : cmH} {Q : Option Value → cmH → Prop} (x1 : Int32) (x2 : Int32) (x3 : Int32) (sx0 : Int32) (H : Q (some (.int sx0)) h) : cm_wp sc d 91 80 [some (.ref 0), some (.int x1), some (.int x2), some (.int x3)] [.int sx0] h Q :=
  wl_rt d91_80 rfl rfl rfl H
-- ClogHouse.breaks(II)I
theorem d93_0 : decode (cm_M 93).2.2.1 0 = .ok (.iload_n 1, 1) := by decide +kernel
theorem d93_1 : decode (cm_M 93).2.2.1 1 = .ok (.invokestatic 77, 3) := by decide +kernel
theorem d93_4 : decode (cm_M 93).2.2.1 4 = .ok (.ifCond .eq 7, 3) := by decide +kernel
theorem d93_7 : decode (cm_M 93).2.2.1 7 = .ok (.iload_n 2, 1) := by decide +kernel
theorem d93_8 : decode (cm_M 93).2.2.1 8 = .ok (.ifCond .ge 5, 3) := by decide +kernel
theorem d93_11 : decode (cm_M 93).2.2.1 11 = .ok (.iconst (-1), 1) := by decide +kernel
theorem d93_12 : decode (cm_M 93).2.2.1 12 = .ok (.ireturn, 1) := by decide +kernel
theorem d93_13 : decode (cm_M 93).2.2.1 13 = .ok (.iconst 1, 1) := by decide +kernel
theorem d93_14 : decode (cm_M 93).2.2.1 14 = .ok (.istore_n 3, 1) := by decide +kernel
theorem d93_15 : decode (cm_M 93).2.2.1 15 = .ok (.iload_n 3, 1) := by decide +kernel
theorem d93_16 : decode (cm_M 93).2.2.1 16 = .ok (.aload_n 0, 1) := by decide +kernel
theorem d93_17 : decode (cm_M 93).2.2.1 17 = .ok (.getfield 234, 3) := by decide +kernel
theorem d93_20 : decode (cm_M 93).2.2.1 20 = .ok (.if_icmp .gt 24, 3) := by decide +kernel
theorem d93_23 : decode (cm_M 93).2.2.1 23 = .ok (.aload_n 0, 1) := by decide +kernel
theorem d93_24 : decode (cm_M 93).2.2.1 24 = .ok (.getfield 52, 3) := by decide +kernel
theorem d93_27 : decode (cm_M 93).2.2.1 27 = .ok (.iload_n 1, 1) := by decide +kernel
theorem d93_28 : decode (cm_M 93).2.2.1 28 = .ok (.iload_n 3, 1) := by decide +kernel
theorem d93_29 : decode (cm_M 93).2.2.1 29 = .ok (.invokevirtual 263, 3) := by decide +kernel
theorem d93_32 : decode (cm_M 93).2.2.1 32 = .ok (.iload_n 2, 1) := by decide +kernel
theorem d93_33 : decode (cm_M 93).2.2.1 33 = .ok (.if_icmp .le 5, 3) := by decide +kernel
theorem d93_36 : decode (cm_M 93).2.2.1 36 = .ok (.iload_n 3, 1) := by decide +kernel
theorem d93_37 : decode (cm_M 93).2.2.1 37 = .ok (.ireturn, 1) := by decide +kernel
theorem d93_38 : decode (cm_M 93).2.2.1 38 = .ok (.iinc 3 1, 3) := by decide +kernel
theorem d93_41 : decode (cm_M 93).2.2.1 41 = .ok (.goto (-26), 3) := by decide +kernel
theorem d93_44 : decode (cm_M 93).2.2.1 44 = .ok (.iconst (-1), 1) := by decide +kernel
theorem d93_45 : decode (cm_M 93).2.2.1 45 = .ok (.ireturn, 1) := by decide +kernel
theorem s93_0 {sc : cmS} {d : Nat} {h : cmH} {Q : Option Value → cmH → Prop} (x1 : Int32) (x2 : Int32) (u3 : Option Value) (H : cm_ci sc d 12 [.int x1] h (fun r h' => cm_wp sc (d + 1) 93 4 [some (.ref 0), some (.int x1), some (.int x2), u3] [.int r] h' Q)) : cm_wp sc (d + 1) 93 0 [some (.ref 0), some (.int x1), some (.int x2), u3] [] h Q :=
  wl_st d93_0 rfl rfl rfl rfl (wl_ci d93_1 rfl rfl rfl pm10_77 (by decide) (ca_s (Or.inl rfl) rfl (Nat.le_of_ble_eq_true rfl) (Nat.le_of_ble_eq_true rfl)) H)
theorem s93_4 {sc : cmS} {d : Nat} {h : cmH} {Q : Option Value → cmH → Prop} (x1 : Int32) (x2 : Int32) (u3 : Option Value) (sx0 : Int32) (H : (((sx0 = 0) → Q (some (.int (-1 : Int32))) h) ∧ (¬ (sx0 = 0) → (((0 ≤ x2) → cm_wp sc d 93 15 [some (.ref 0), some (.int x1), some (.int x2), some (.int (1 : Int32))] [] h Q) ∧ (¬ (0 ≤ x2) → Q (some (.int (-1 : Int32))) h))))) : cm_wp sc d 93 4 [some (.ref 0), some (.int x1), some (.int x2), u3] [.int sx0] h Q :=
  wl_cb (b := sx0 = 0) (off := 7) (tgt := 11) (pc3 := 7) (st' := []) d93_4 rfl rfl rfl rfl (by decide) rfl (fun c1 => wl_ic (v := (-1)) d93_11 rfl (wl_rt d93_12 rfl rfl rfl (H.1 c1))) (fun c1 => wl_st d93_7 rfl rfl rfl rfl (wl_cb (b := 0 ≤ x2) (off := 5) (tgt := 13) (pc3 := 11) (st' := []) d93_8 rfl rfl rfl rfl (by decide) rfl (fun c2 => wl_ic (v := 1) d93_13 rfl (wl_st (ls' := [some (.ref 0), some (.int x1), some (.int x2), some (.int (1 : Int32))]) d93_14 rfl rfl rfl rfl (((H.2 c1).1 c2)))) (fun c2 => wl_ic (v := (-1)) d93_11 rfl (wl_rt d93_12 rfl rfl rfl ((H.2 c1).2 c2)))))
theorem s93_15 {sc : cmS} {d : Nat} {h : cmH} {Q : Option Value → cmH → Prop} (L : LY h) (x1 : Int32) (x2 : Int32) (x3 : Int32) (H : ((((cm_I h 0 12) < x3) → Q (some (.int (-1 : Int32))) h) ∧ (¬ ((cm_I h 0 12) < x3) → cm_ci sc d 94 [.ref 14, .int x1, .int x3] h (fun r h' => cm_wp sc (d + 1) 93 32 [some (.ref 0), some (.int x1), some (.int x2), some (.int x3)] [.int r] h' Q)))) : cm_wp sc (d + 1) 93 15 [some (.ref 0), some (.int x1), some (.int x2), some (.int x3)] [] h Q :=
  wl_st d93_15 rfl rfl rfl rfl (wl_st d93_16 rfl rfl rfl rfl (wl_gf (v := .int (cm_I h 0 12)) d93_17 pf10_234 (ly_k L 0 rfl) rfl (wl_cb (b := (cm_I h 0 12) < x3) (off := 24) (tgt := 44) (pc3 := 23) (st' := []) d93_20 rfl rfl rfl rfl (by decide) rfl (fun c1 => wl_ic (v := (-1)) d93_44 rfl (wl_rt d93_45 rfl rfl rfl (H.1 c1))) (fun c1 => wl_st d93_23 rfl rfl rfl rfl (wl_gr (b := 14) d93_24 pf10_52 (ly_k L 0 rfl) rfl (ly_r L 0 6 rfl) (wl_st d93_27 rfl rfl rfl rfl (wl_st d93_28 rfl rfl rfl rfl (wl_ci d93_29 rfl rfl rfl pm10_263 (by decide) (ca_v (Or.inr rfl) rfl (Nat.le_of_ble_eq_true rfl) (Nat.le_of_ble_eq_true rfl) (ly_k L 14 rfl).2 (ly_k L 14 rfl).1 (by decide)) (H.2 c1)))))))))
theorem s93_32 {sc : cmS} {d : Nat} {h : cmH} {Q : Option Value → cmH → Prop} (x1 : Int32) (x2 : Int32) (x3 : Int32) (sx0 : Int32) (H : (((sx0 ≤ x2) → cm_wp sc d 93 15 [some (.ref 0), some (.int x1), some (.int x2), some (.int (x3 + 1))] [] h Q) ∧ (¬ (sx0 ≤ x2) → Q (some (.int x3)) h))) : cm_wp sc d 93 32 [some (.ref 0), some (.int x1), some (.int x2), some (.int x3)] [.int sx0] h Q :=
  wl_st d93_32 rfl rfl rfl rfl (wl_cb (b := sx0 ≤ x2) (off := 5) (tgt := 38) (pc3 := 36) (st' := []) d93_33 rfl rfl rfl rfl (by decide) rfl (fun c1 => wl_st (ls' := [some (.ref 0), some (.int x1), some (.int x2), some (.int (x3 + 1))]) d93_38 rfl rfl rfl rfl (wl_go (tgt := 15) d93_41 (by decide) ((H.1 c1)))) (fun c1 => wl_st d93_36 rfl rfl rfl rfl (wl_rt d93_37 rfl rfl rfl (H.2 c1))))
-- ClogHouse.ripe(I)I
theorem d95_0 : decode (cm_M 95).2.2.1 0 = .ok (.aload_n 0, 1) := by decide +kernel
theorem d95_1 : decode (cm_M 95).2.2.1 1 = .ok (.iload_n 1, 1) := by decide +kernel
theorem d95_2 : decode (cm_M 95).2.2.1 2 = .ok (.invokevirtual 103, 3) := by decide +kernel
theorem d95_5 : decode (cm_M 95).2.2.1 5 = .ok (.astore_n 2, 1) := by decide +kernel
theorem d95_6 : decode (cm_M 95).2.2.1 6 = .ok (.aload_n 2, 1) := by decide +kernel
theorem d95_7 : decode (cm_M 95).2.2.1 7 = .ok (.ifnonnull 7, 3) := by decide +kernel
theorem d95_10 : decode (cm_M 95).2.2.1 10 = .ok (.iconst (-1), 1) := by decide +kernel
theorem d95_11 : decode (cm_M 95).2.2.1 11 = .ok (.goto 7, 3) := by decide +kernel
theorem d95_14 : decode (cm_M 95).2.2.1 14 = .ok (.aload_n 2, 1) := by decide +kernel
theorem d95_15 : decode (cm_M 95).2.2.1 15 = .ok (.getfield 267, 3) := by decide +kernel
theorem d95_18 : decode (cm_M 95).2.2.1 18 = .ok (.ireturn, 1) := by decide +kernel
theorem s95_0 {sc : cmS} {d : Nat} {h : cmH} {Q : Option Value → cmH → Prop} (L : LY h) (x1 : Int32) (u2 : Option Value) (H : cm_cq sc d 17 [.ref 0, .int x1] h (fun r h' => cm_wp sc (d + 1) 95 5 [some (.ref 0), some (.int x1), u2] [va_rf r] h' Q)) : cm_wp sc (d + 1) 95 0 [some (.ref 0), some (.int x1), u2] [] h Q :=
  wl_st d95_0 rfl rfl rfl rfl (wl_st d95_1 rfl rfl rfl rfl (wl_cq d95_2 rfl rfl rfl pm10_103 (by decide) (ca_v (Or.inl rfl) rfl (Nat.le_of_ble_eq_true rfl) (Nat.le_of_ble_eq_true rfl) (ly_k L 0 rfl).2 (ly_k L 0 rfl).1 (by decide)) H))
theorem s95_5 {sc : cmS} {d : Nat} {h : cmH} {Q : Option Value → cmH → Prop} (x1 : Int32) (u2 : Option Value) (so0 : Option Nat) (H : ((so0 = none → Q (some (.int (-1 : Int32))) h) ∧ (∀ b2, so0 = some b2 → (FL h b2) ∧ Q (some (.int (cm_I h b2 14))) h))) : cm_wp sc d 95 5 [some (.ref 0), some (.int x1), u2] [va_rf so0] h Q :=
  wl_as (k := 2) (ls' := [some (.ref 0), some (.int x1), some (va_rf so0)]) d95_5 (Or.inr ⟨⟨_, rfl, rfl⟩, rfl⟩) (Nat.le_of_ble_eq_true rfl) rfl (wl_al (k := 2) d95_6 (Or.inr ⟨⟨_, rfl, rfl⟩, rfl⟩) rfl (wl_nn (o := so0) (tgt := 14) (pc3 := 10) d95_7 (by decide) rfl (fun b2 c1 => cm_rw (fun oo => cm_wp sc d 95 14 [some (.ref 0), some (.int x1), some (va_rf oo)] [] h Q) c1 (wl_st d95_14 rfl rfl rfl rfl (And.elim (fun g3 g3k => wl_gf (v := .int (cm_I h b2 14)) d95_15 pf10_267 (FL.k g3) rfl (wl_rt d95_18 rfl rfl rfl g3k)) (H.2 b2 c1)))) (fun c1 => wl_ic (v := (-1)) d95_10 rfl (wl_go (tgt := 18) d95_11 (by decide) (wl_rt d95_18 rfl rfl rfl (H.1 c1))))))
-- ClogHouse.share(IIII)J
theorem d96_0 : decode (cm_M 96).2.2.1 0 = .ok (.iload_n 1, 1) := by decide +kernel
theorem d96_1 : decode (cm_M 96).2.2.1 1 = .ok (.iload_n 2, 1) := by decide +kernel
theorem d96_2 : decode (cm_M 96).2.2.1 2 = .ok (.iload_n 3, 1) := by decide +kernel
theorem d96_3 : decode (cm_M 96).2.2.1 3 = .ok (.invokestatic 270, 3) := by decide +kernel
theorem d96_6 : decode (cm_M 96).2.2.1 6 = .ok (.ifCond .eq 13, 3) := by decide +kernel
theorem d96_9 : decode (cm_M 96).2.2.1 9 = .ok (.iload 4, 2) := by decide +kernel
theorem d96_11 : decode (cm_M 96).2.2.1 11 = .ok (.iconst 0, 1) := by decide +kernel
theorem d96_12 : decode (cm_M 96).2.2.1 12 = .ok (.iconst 1, 1) := by decide +kernel
theorem d96_13 : decode (cm_M 96).2.2.1 13 = .ok (.invokestatic 81, 3) := by decide +kernel
theorem d96_16 : decode (cm_M 96).2.2.1 16 = .ok (.ifCond .ne 7, 3) := by decide +kernel
theorem d96_19 : decode (cm_M 96).2.2.1 19 = .ok (.ldc2_w 273, 3) := by decide +kernel
theorem d96_22 : decode (cm_M 96).2.2.1 22 = .ok (.lreturn, 1) := by decide +kernel
theorem d96_23 : decode (cm_M 96).2.2.1 23 = .ok (.iload_n 1, 1) := by decide +kernel
theorem d96_24 : decode (cm_M 96).2.2.1 24 = .ok (.iload_n 2, 1) := by decide +kernel
theorem d96_25 : decode (cm_M 96).2.2.1 25 = .ok (.isub, 1) := by decide +kernel
theorem d96_26 : decode (cm_M 96).2.2.1 26 = .ok (.iload_n 3, 1) := by decide +kernel
theorem d96_27 : decode (cm_M 96).2.2.1 27 = .ok (.invokestatic 275, 3) := by decide +kernel
theorem d96_30 : decode (cm_M 96).2.2.1 30 = .ok (.lstore 5, 2) := by decide +kernel
theorem d96_32 : decode (cm_M 96).2.2.1 32 = .ok (.iload_n 1, 1) := by decide +kernel
theorem d96_33 : decode (cm_M 96).2.2.1 33 = .ok (.iload_n 3, 1) := by decide +kernel
theorem d96_34 : decode (cm_M 96).2.2.1 34 = .ok (.invokestatic 275, 3) := by decide +kernel
theorem d96_37 : decode (cm_M 96).2.2.1 37 = .ok (.lstore 7, 2) := by decide +kernel
theorem d96_39 : decode (cm_M 96).2.2.1 39 = .ok (.iload 4, 2) := by decide +kernel
theorem d96_41 : decode (cm_M 96).2.2.1 41 = .ok (.ifCond .ne 8, 3) := by decide +kernel
theorem d96_44 : decode (cm_M 96).2.2.1 44 = .ok (.lload 5, 2) := by decide +kernel
theorem d96_46 : decode (cm_M 96).2.2.1 46 = .ok (.goto 5, 3) := by decide +kernel
theorem d96_49 : decode (cm_M 96).2.2.1 49 = .ok (.lload 7, 2) := by decide +kernel
theorem d96_51 : decode (cm_M 96).2.2.1 51 = .ok (.lload 5, 2) := by decide +kernel
theorem d96_53 : decode (cm_M 96).2.2.1 53 = .ok (.lload 7, 2) := by decide +kernel
theorem d96_55 : decode (cm_M 96).2.2.1 55 = .ok (.invokestatic 279, 3) := by decide +kernel
theorem d96_58 : decode (cm_M 96).2.2.1 58 = .ok (.invokestatic 283, 3) := by decide +kernel
theorem d96_61 : decode (cm_M 96).2.2.1 61 = .ok (.lreturn, 1) := by decide +kernel
theorem s96_0 {sc : cmS} {d : Nat} {h : cmH} {Q : Option Value → cmH → Prop} (x1 : Int32) (x2 : Int32) (x3 : Int32) (x4 : Int32) (u5 : Option Value) (u6 : Option Value) (u7 : Option Value) (u8 : Option Value) (H : cm_ci sc d 97 [.int x1, .int x2, .int x3] h (fun r h' => cm_wp sc (d + 1) 96 6 [some (.ref 0), some (.int x1), some (.int x2), some (.int x3), some (.int x4), u5, u6, u7, u8] [.int r] h' Q)) : cm_wp sc (d + 1) 96 0 [some (.ref 0), some (.int x1), some (.int x2), some (.int x3), some (.int x4), u5, u6, u7, u8] [] h Q :=
  wl_st d96_0 rfl rfl rfl rfl (wl_st d96_1 rfl rfl rfl rfl (wl_st d96_2 rfl rfl rfl rfl (wl_ci d96_3 rfl rfl rfl pm10_270 (by decide) (ca_s (Or.inl rfl) rfl (Nat.le_of_ble_eq_true rfl) (Nat.le_of_ble_eq_true rfl)) H)))
theorem s96_6 {sc : cmS} {d : Nat} {h : cmH} {Q : Option Value → cmH → Prop} (x1 : Int32) (x2 : Int32) (x3 : Int32) (x4 : Int32) (u5 : Option Value) (u6 : Option Value) (u7 : Option Value) (u8 : Option Value) (sx0 : Int32) (H : (((sx0 = 0) → Q (some (.long (-1 : Int64))) h) ∧ (¬ (sx0 = 0) → cm_ci sc d 13 [.int x4, .int (0 : Int32), .int (1 : Int32)] h (fun r h' => cm_wp sc (d + 1) 96 16 [some (.ref 0), some (.int x1), some (.int x2), some (.int x3), some (.int x4), u5, u6, u7, u8] [.int r] h' Q)))) : cm_wp sc (d + 1) 96 6 [some (.ref 0), some (.int x1), some (.int x2), some (.int x3), some (.int x4), u5, u6, u7, u8] [.int sx0] h Q :=
  wl_cb (b := sx0 = 0) (off := 13) (tgt := 19) (pc3 := 9) (st' := []) d96_6 rfl rfl rfl rfl (by decide) rfl (fun c1 => wl_cJ (v := (-1)) d96_19 pj10_273 (wl_rt d96_22 rfl rfl rfl (H.1 c1))) (fun c1 => wl_st d96_9 rfl rfl rfl rfl (wl_ic (v := 0) d96_11 rfl (wl_ic (v := 1) d96_12 rfl (wl_ci d96_13 rfl rfl rfl pm10_81 (by decide) (ca_s (Or.inl rfl) rfl (Nat.le_of_ble_eq_true rfl) (Nat.le_of_ble_eq_true rfl)) (H.2 c1)))))
theorem s96_16 {sc : cmS} {d : Nat} {h : cmH} {Q : Option Value → cmH → Prop} (x1 : Int32) (x2 : Int32) (x3 : Int32) (x4 : Int32) (u5 : Option Value) (u6 : Option Value) (u7 : Option Value) (u8 : Option Value) (sx0 : Int32) (H : (((¬ sx0 = 0) → cm_cj' sc d 98 [.int (x1 - x2), .int x3] h (fun r h' => cm_wp sc (d + 1) 96 30 [some (.ref 0), some (.int x1), some (.int x2), some (.int x3), some (.int x4), u5, u6, u7, u8] [.long r] h' Q)) ∧ (¬ (¬ sx0 = 0) → Q (some (.long (-1 : Int64))) h))) : cm_wp sc (d + 1) 96 16 [some (.ref 0), some (.int x1), some (.int x2), some (.int x3), some (.int x4), u5, u6, u7, u8] [.int sx0] h Q :=
  wl_cb (b := ¬ sx0 = 0) (off := 7) (tgt := 23) (pc3 := 19) (st' := []) d96_16 rfl rfl rfl rfl (by decide) rfl (fun c1 => wl_st d96_23 rfl rfl rfl rfl (wl_st d96_24 rfl rfl rfl rfl (wl_st d96_25 rfl rfl rfl rfl (wl_st d96_26 rfl rfl rfl rfl (wl_cj d96_27 rfl rfl rfl pm10_275 (by decide) (ca_s (Or.inl rfl) rfl (Nat.le_of_ble_eq_true rfl) (Nat.le_of_ble_eq_true rfl)) (H.1 c1)))))) (fun c1 => wl_cJ (v := (-1)) d96_19 pj10_273 (wl_rt d96_22 rfl rfl rfl (H.2 c1)))
theorem s96_30 {sc : cmS} {d : Nat} {h : cmH} {Q : Option Value → cmH → Prop} (x1 : Int32) (x2 : Int32) (x3 : Int32) (x4 : Int32) (u5 : Option Value) (u6 : Option Value) (u7 : Option Value) (u8 : Option Value) (sy0 : Int64) (H : cm_cj' sc d 98 [.int x1, .int x3] h (fun r h' => cm_wp sc (d + 1) 96 37 [some (.ref 0), some (.int x1), some (.int x2), some (.int x3), some (.int x4), some (.long sy0), none, u7, u8] [.long r] h' Q)) : cm_wp sc (d + 1) 96 30 [some (.ref 0), some (.int x1), some (.int x2), some (.int x3), some (.int x4), u5, u6, u7, u8] [.long sy0] h Q :=
  wl_st (ls' := [some (.ref 0), some (.int x1), some (.int x2), some (.int x3), some (.int x4), some (.long sy0), none, u7, u8]) d96_30 rfl rfl rfl rfl (wl_st d96_32 rfl rfl rfl rfl (wl_st d96_33 rfl rfl rfl rfl (wl_cj d96_34 rfl rfl rfl pm10_275 (by decide) (ca_s (Or.inl rfl) rfl (Nat.le_of_ble_eq_true rfl) (Nat.le_of_ble_eq_true rfl)) H)))
theorem s96_37 {sc : cmS} {d : Nat} {h : cmH} {Q : Option Value → cmH → Prop} (x1 : Int32) (x2 : Int32) (x3 : Int32) (x4 : Int32) (y5 : Int64) (u7 : Option Value) (u8 : Option Value) (sy0 : Int64) (H : (((¬ x4 = 0) → cm_wp sc d 96 51 [some (.ref 0), some (.int x1), some (.int x2), some (.int x3), some (.int x4), some (.long y5), none, some (.long sy0), none] [.long sy0] h Q) ∧ (¬ (¬ x4 = 0) → cm_wp sc d 96 51 [some (.ref 0), some (.int x1), some (.int x2), some (.int x3), some (.int x4), some (.long y5), none, some (.long sy0), none] [.long y5] h Q))) : cm_wp sc d 96 37 [some (.ref 0), some (.int x1), some (.int x2), some (.int x3), some (.int x4), some (.long y5), none, u7, u8] [.long sy0] h Q :=
  wl_st (ls' := [some (.ref 0), some (.int x1), some (.int x2), some (.int x3), some (.int x4), some (.long y5), none, some (.long sy0), none]) d96_37 rfl rfl rfl rfl (wl_st d96_39 rfl rfl rfl rfl (wl_cb (b := ¬ x4 = 0) (off := 8) (tgt := 49) (pc3 := 44) (st' := []) d96_41 rfl rfl rfl rfl (by decide) rfl (fun c1 => wl_st d96_49 rfl rfl rfl rfl ((H.1 c1))) (fun c1 => wl_st d96_44 rfl rfl rfl rfl (wl_go (tgt := 51) d96_46 (by decide) ((H.2 c1))))))
theorem s96_51 {sc : cmS} {d : Nat} {h : cmH} {Q : Option Value → cmH → Prop} (x1 : Int32) (x2 : Int32) (x3 : Int32) (x4 : Int32) (y5 : Int64) (y7 : Int64) (sy0 : Int64) (H : cm_cj' sc d 99 [.long y5, .long y7] h (fun r h' => cm_wp sc (d + 1) 96 58 [some (.ref 0), some (.int x1), some (.int x2), some (.int x3), some (.int x4), some (.long y5), none, some (.long y7), none] [.long r, .long sy0] h' Q)) : cm_wp sc (d + 1) 96 51 [some (.ref 0), some (.int x1), some (.int x2), some (.int x3), some (.int x4), some (.long y5), none, some (.long y7), none] [.long sy0] h Q :=
  wl_st d96_51 rfl rfl rfl rfl (wl_st d96_53 rfl rfl rfl rfl (wl_cj d96_55 rfl rfl rfl pm10_279 (by decide) (ca_s (Or.inl rfl) rfl (Nat.le_of_ble_eq_true rfl) (Nat.le_of_ble_eq_true rfl)) H))
theorem s96_58 {sc : cmS} {d : Nat} {h : cmH} {Q : Option Value → cmH → Prop} (x1 : Int32) (x2 : Int32) (x3 : Int32) (x4 : Int32) (y5 : Int64) (y7 : Int64) (sy0 : Int64) (sy1 : Int64) (H : cm_cj' sc d 33 [.long sy1, .long sy0] h (fun r h' => cm_wp sc (d + 1) 96 61 [some (.ref 0), some (.int x1), some (.int x2), some (.int x3), some (.int x4), some (.long y5), none, some (.long y7), none] [.long r] h' Q)) : cm_wp sc (d + 1) 96 58 [some (.ref 0), some (.int x1), some (.int x2), some (.int x3), some (.int x4), some (.long y5), none, some (.long y7), none] [.long sy0, .long sy1] h Q :=
  wl_cj d96_58 rfl rfl rfl pm10_283 (by decide) (ca_s (Or.inl rfl) rfl (Nat.le_of_ble_eq_true rfl) (Nat.le_of_ble_eq_true rfl)) H
theorem s96_61 {sc : cmS} {d : Nat} {h : cmH} {Q : Option Value → cmH → Prop} (x1 : Int32) (x2 : Int32) (x3 : Int32) (x4 : Int32) (y5 : Int64) (y7 : Int64) (sy0 : Int64) (H : Q (some (.long sy0)) h) : cm_wp sc d 96 61 [some (.ref 0), some (.int x1), some (.int x2), some (.int x3), some (.int x4), some (.long y5), none, some (.long y7), none] [.long sy0] h Q :=
  wl_rt d96_61 rfl rfl rfl H
-- ClogHouse.isDrawn(III)Z
theorem d97_0 : decode (cm_M 97).2.2.1 0 = .ok (.iload_n 0, 1) := by decide +kernel
theorem d97_1 : decode (cm_M 97).2.2.1 1 = .ok (.iconst 1, 1) := by decide +kernel
theorem d97_2 : decode (cm_M 97).2.2.1 2 = .ok (.bipush 60, 2) := by decide +kernel
theorem d97_4 : decode (cm_M 97).2.2.1 4 = .ok (.invokestatic 81, 3) := by decide +kernel
theorem d97_7 : decode (cm_M 97).2.2.1 7 = .ok (.ifCond .eq 25, 3) := by decide +kernel
theorem d97_10 : decode (cm_M 97).2.2.1 10 = .ok (.iload_n 1, 1) := by decide +kernel
theorem d97_11 : decode (cm_M 97).2.2.1 11 = .ok (.iconst 0, 1) := by decide +kernel
theorem d97_12 : decode (cm_M 97).2.2.1 12 = .ok (.iload_n 0, 1) := by decide +kernel
theorem d97_13 : decode (cm_M 97).2.2.1 13 = .ok (.invokestatic 81, 3) := by decide +kernel
theorem d97_16 : decode (cm_M 97).2.2.1 16 = .ok (.ifCond .eq 16, 3) := by decide +kernel
theorem d97_19 : decode (cm_M 97).2.2.1 19 = .ok (.iload_n 2, 1) := by decide +kernel
theorem d97_20 : decode (cm_M 97).2.2.1 20 = .ok (.iconst 0, 1) := by decide +kernel
theorem d97_21 : decode (cm_M 97).2.2.1 21 = .ok (.iload_n 0, 1) := by decide +kernel
theorem d97_22 : decode (cm_M 97).2.2.1 22 = .ok (.invokestatic 81, 3) := by decide +kernel
theorem d97_25 : decode (cm_M 97).2.2.1 25 = .ok (.ifCond .eq 7, 3) := by decide +kernel
theorem d97_28 : decode (cm_M 97).2.2.1 28 = .ok (.iconst 1, 1) := by decide +kernel
theorem d97_29 : decode (cm_M 97).2.2.1 29 = .ok (.goto 4, 3) := by decide +kernel
theorem d97_32 : decode (cm_M 97).2.2.1 32 = .ok (.iconst 0, 1) := by decide +kernel
theorem d97_33 : decode (cm_M 97).2.2.1 33 = .ok (.ireturn, 1) := by decide +kernel
theorem s97_0 {sc : cmS} {d : Nat} {h : cmH} {Q : Option Value → cmH → Prop} (x0 : Int32) (x1 : Int32) (x2 : Int32) (H : cm_ci sc d 13 [.int x0, .int (1 : Int32), .int (60 : Int32)] h (fun r h' => cm_wp sc (d + 1) 97 7 [some (.int x0), some (.int x1), some (.int x2)] [.int r] h' Q)) : cm_wp sc (d + 1) 97 0 [some (.int x0), some (.int x1), some (.int x2)] [] h Q :=
  wl_st d97_0 rfl rfl rfl rfl (wl_ic (v := 1) d97_1 rfl (wl_bi (v := 60) d97_2 rfl (wl_ci d97_4 rfl rfl rfl pm10_81 (by decide) (ca_s (Or.inl rfl) rfl (Nat.le_of_ble_eq_true rfl) (Nat.le_of_ble_eq_true rfl)) H)))
theorem s97_7 {sc : cmS} {d : Nat} {h : cmH} {Q : Option Value → cmH → Prop} (x0 : Int32) (x1 : Int32) (x2 : Int32) (sx0 : Int32) (H : (((sx0 = 0) → Q (some (.int (0 : Int32))) h) ∧ (¬ (sx0 = 0) → cm_ci sc d 13 [.int x1, .int (0 : Int32), .int x0] h (fun r h' => cm_wp sc (d + 1) 97 16 [some (.int x0), some (.int x1), some (.int x2)] [.int r] h' Q)))) : cm_wp sc (d + 1) 97 7 [some (.int x0), some (.int x1), some (.int x2)] [.int sx0] h Q :=
  wl_cb (b := sx0 = 0) (off := 25) (tgt := 32) (pc3 := 10) (st' := []) d97_7 rfl rfl rfl rfl (by decide) rfl (fun c1 => wl_ic (v := 0) d97_32 rfl (wl_rz d97_33 rfl (by decide) (H.1 c1))) (fun c1 => wl_st d97_10 rfl rfl rfl rfl (wl_ic (v := 0) d97_11 rfl (wl_st d97_12 rfl rfl rfl rfl (wl_ci d97_13 rfl rfl rfl pm10_81 (by decide) (ca_s (Or.inl rfl) rfl (Nat.le_of_ble_eq_true rfl) (Nat.le_of_ble_eq_true rfl)) (H.2 c1)))))
theorem s97_16 {sc : cmS} {d : Nat} {h : cmH} {Q : Option Value → cmH → Prop} (x0 : Int32) (x1 : Int32) (x2 : Int32) (sx0 : Int32) (H : (((sx0 = 0) → Q (some (.int (0 : Int32))) h) ∧ (¬ (sx0 = 0) → cm_ci sc d 13 [.int x2, .int (0 : Int32), .int x0] h (fun r h' => cm_wp sc (d + 1) 97 25 [some (.int x0), some (.int x1), some (.int x2)] [.int r] h' Q)))) : cm_wp sc (d + 1) 97 16 [some (.int x0), some (.int x1), some (.int x2)] [.int sx0] h Q :=
  wl_cb (b := sx0 = 0) (off := 16) (tgt := 32) (pc3 := 19) (st' := []) d97_16 rfl rfl rfl rfl (by decide) rfl (fun c1 => wl_ic (v := 0) d97_32 rfl (wl_rz d97_33 rfl (by decide) (H.1 c1))) (fun c1 => wl_st d97_19 rfl rfl rfl rfl (wl_ic (v := 0) d97_20 rfl (wl_st d97_21 rfl rfl rfl rfl (wl_ci d97_22 rfl rfl rfl pm10_81 (by decide) (ca_s (Or.inl rfl) rfl (Nat.le_of_ble_eq_true rfl) (Nat.le_of_ble_eq_true rfl)) (H.2 c1)))))
theorem s97_25 {sc : cmS} {d : Nat} {h : cmH} {Q : Option Value → cmH → Prop} (x0 : Int32) (x1 : Int32) (x2 : Int32) (sx0 : Int32) (H : (((sx0 = 0) → Q (some (.int (0 : Int32))) h) ∧ (¬ (sx0 = 0) → Q (some (.int (1 : Int32))) h))) : cm_wp sc d 97 25 [some (.int x0), some (.int x1), some (.int x2)] [.int sx0] h Q :=
  wl_cb (b := sx0 = 0) (off := 7) (tgt := 32) (pc3 := 28) (st' := []) d97_25 rfl rfl rfl rfl (by decide) rfl (fun c1 => wl_ic (v := 0) d97_32 rfl (wl_rz d97_33 rfl (by decide) (H.1 c1))) (fun c1 => wl_ic (v := 1) d97_28 rfl (wl_go (tgt := 33) d97_29 (by decide) (wl_rz d97_33 rfl (by decide) (H.2 c1))))
-- ClogHouse.waysToDraw(II)J
theorem d98_0 : decode (cm_M 98).2.2.1 0 = .ok (.iload_n 1, 1) := by decide +kernel
theorem d98_1 : decode (cm_M 98).2.2.1 1 = .ok (.iload_n 0, 1) := by decide +kernel
theorem d98_2 : decode (cm_M 98).2.2.1 2 = .ok (.if_icmp .le 5, 3) := by decide +kernel
theorem d98_5 : decode (cm_M 98).2.2.1 5 = .ok (.lconst 0, 1) := by decide +kernel
theorem d98_6 : decode (cm_M 98).2.2.1 6 = .ok (.lreturn, 1) := by decide +kernel
theorem d98_7 : decode (cm_M 98).2.2.1 7 = .ok (.lconst 1, 1) := by decide +kernel
theorem d98_8 : decode (cm_M 98).2.2.1 8 = .ok (.lstore_n 2, 1) := by decide +kernel
theorem d98_9 : decode (cm_M 98).2.2.1 9 = .ok (.iconst 0, 1) := by decide +kernel
theorem d98_10 : decode (cm_M 98).2.2.1 10 = .ok (.istore 4, 2) := by decide +kernel
theorem d98_12 : decode (cm_M 98).2.2.1 12 = .ok (.iload 4, 2) := by decide +kernel
theorem d98_14 : decode (cm_M 98).2.2.1 14 = .ok (.iload_n 1, 1) := by decide +kernel
theorem d98_15 : decode (cm_M 98).2.2.1 15 = .ok (.if_icmp .ge 25, 3) := by decide +kernel
theorem d98_18 : decode (cm_M 98).2.2.1 18 = .ok (.lload_n 2, 1) := by decide +kernel
theorem d98_19 : decode (cm_M 98).2.2.1 19 = .ok (.iload_n 0, 1) := by decide +kernel
theorem d98_20 : decode (cm_M 98).2.2.1 20 = .ok (.iload 4, 2) := by decide +kernel
theorem d98_22 : decode (cm_M 98).2.2.1 22 = .ok (.isub, 1) := by decide +kernel
theorem d98_23 : decode (cm_M 98).2.2.1 23 = .ok (.i2l, 1) := by decide +kernel
theorem d98_24 : decode (cm_M 98).2.2.1 24 = .ok (.lmul, 1) := by decide +kernel
theorem d98_25 : decode (cm_M 98).2.2.1 25 = .ok (.iload 4, 2) := by decide +kernel
theorem d98_27 : decode (cm_M 98).2.2.1 27 = .ok (.iconst 1, 1) := by decide +kernel
theorem d98_28 : decode (cm_M 98).2.2.1 28 = .ok (.iadd, 1) := by decide +kernel
theorem d98_29 : decode (cm_M 98).2.2.1 29 = .ok (.i2l, 1) := by decide +kernel
theorem d98_30 : decode (cm_M 98).2.2.1 30 = .ok (.invokestatic 283, 3) := by decide +kernel
theorem d98_33 : decode (cm_M 98).2.2.1 33 = .ok (.lstore_n 2, 1) := by decide +kernel
theorem d98_34 : decode (cm_M 98).2.2.1 34 = .ok (.iinc 4 1, 3) := by decide +kernel
theorem d98_37 : decode (cm_M 98).2.2.1 37 = .ok (.goto (-25), 3) := by decide +kernel
theorem d98_40 : decode (cm_M 98).2.2.1 40 = .ok (.lload_n 2, 1) := by decide +kernel
theorem d98_41 : decode (cm_M 98).2.2.1 41 = .ok (.lreturn, 1) := by decide +kernel
theorem s98_0 {sc : cmS} {d : Nat} {h : cmH} {Q : Option Value → cmH → Prop} (x0 : Int32) (x1 : Int32) (u2 : Option Value) (u3 : Option Value) (u4 : Option Value) (H : (((x1 ≤ x0) → cm_wp sc d 98 12 [some (.int x0), some (.int x1), some (.long (1 : Int64)), none, some (.int (0 : Int32))] [] h Q) ∧ (¬ (x1 ≤ x0) → Q (some (.long (0 : Int64))) h))) : cm_wp sc d 98 0 [some (.int x0), some (.int x1), u2, u3, u4] [] h Q :=
  wl_st d98_0 rfl rfl rfl rfl (wl_st d98_1 rfl rfl rfl rfl (wl_cb (b := x1 ≤ x0) (off := 5) (tgt := 7) (pc3 := 5) (st' := []) d98_2 rfl rfl rfl rfl (by decide) rfl (fun c1 => wl_lc (v := 1) d98_7 rfl (wl_st (ls' := [some (.int x0), some (.int x1), some (.long (1 : Int64)), none, u4]) d98_8 rfl rfl rfl rfl (wl_ic (v := 0) d98_9 rfl (wl_st (ls' := [some (.int x0), some (.int x1), some (.long (1 : Int64)), none, some (.int (0 : Int32))]) d98_10 rfl rfl rfl rfl ((H.1 c1)))))) (fun c1 => wl_lc (v := 0) d98_5 rfl (wl_rt d98_6 rfl rfl rfl (H.2 c1)))))
theorem s98_12 {sc : cmS} {d : Nat} {h : cmH} {Q : Option Value → cmH → Prop} (x0 : Int32) (x1 : Int32) (y2 : Int64) (x4 : Int32) (H : (((x1 ≤ x4) → Q (some (.long y2)) h) ∧ (¬ (x1 ≤ x4) → cm_cj' sc d 33 [.long (y2 * ((x0 - x4).toInt64)), .long ((x4 + (1 : Int32)).toInt64)] h (fun r h' => cm_wp sc (d + 1) 98 33 [some (.int x0), some (.int x1), some (.long y2), none, some (.int x4)] [.long r] h' Q)))) : cm_wp sc (d + 1) 98 12 [some (.int x0), some (.int x1), some (.long y2), none, some (.int x4)] [] h Q :=
  wl_st d98_12 rfl rfl rfl rfl (wl_st d98_14 rfl rfl rfl rfl (wl_cb (b := x1 ≤ x4) (off := 25) (tgt := 40) (pc3 := 18) (st' := []) d98_15 rfl rfl rfl rfl (by decide) rfl (fun c1 => wl_st d98_40 rfl rfl rfl rfl (wl_rt d98_41 rfl rfl rfl (H.1 c1))) (fun c1 => wl_st d98_18 rfl rfl rfl rfl (wl_st d98_19 rfl rfl rfl rfl (wl_st d98_20 rfl rfl rfl rfl (wl_st d98_22 rfl rfl rfl rfl (wl_st d98_23 rfl rfl rfl rfl (wl_st d98_24 rfl rfl rfl rfl (wl_st d98_25 rfl rfl rfl rfl (wl_ic (v := 1) d98_27 rfl (wl_st d98_28 rfl rfl rfl rfl (wl_st d98_29 rfl rfl rfl rfl (wl_cj d98_30 rfl rfl rfl pm10_283 (by decide) (ca_s (Or.inl rfl) rfl (Nat.le_of_ble_eq_true rfl) (Nat.le_of_ble_eq_true rfl)) (H.2 c1))))))))))))))
theorem s98_33 {sc : cmS} {d : Nat} {h : cmH} {Q : Option Value → cmH → Prop} (x0 : Int32) (x1 : Int32) (y2 : Int64) (x4 : Int32) (sy0 : Int64) (H : cm_wp sc d 98 12 [some (.int x0), some (.int x1), some (.long sy0), none, some (.int (x4 + 1))] [] h Q) : cm_wp sc d 98 33 [some (.int x0), some (.int x1), some (.long y2), none, some (.int x4)] [.long sy0] h Q :=
  wl_st (ls' := [some (.int x0), some (.int x1), some (.long sy0), none, some (.int x4)]) d98_33 rfl rfl rfl rfl (wl_st (ls' := [some (.int x0), some (.int x1), some (.long sy0), none, some (.int (x4 + 1))]) d98_34 rfl rfl rfl rfl (wl_go (tgt := 12) d98_37 (by decide) (H)))
-- ClogHouse.commonPart(JJ)J
theorem d99_0 : decode (cm_M 99).2.2.1 0 = .ok (.lload_n 0, 1) := by decide +kernel
theorem d99_1 : decode (cm_M 99).2.2.1 1 = .ok (.lstore 4, 2) := by decide +kernel
theorem d99_3 : decode (cm_M 99).2.2.1 3 = .ok (.lload_n 2, 1) := by decide +kernel
theorem d99_4 : decode (cm_M 99).2.2.1 4 = .ok (.lstore 6, 2) := by decide +kernel
theorem d99_6 : decode (cm_M 99).2.2.1 6 = .ok (.iconst 0, 1) := by decide +kernel
theorem d99_7 : decode (cm_M 99).2.2.1 7 = .ok (.istore 8, 2) := by decide +kernel
theorem d99_9 : decode (cm_M 99).2.2.1 9 = .ok (.iload 8, 2) := by decide +kernel
theorem d99_11 : decode (cm_M 99).2.2.1 11 = .ok (.sipush 200, 3) := by decide +kernel
theorem d99_14 : decode (cm_M 99).2.2.1 14 = .ok (.if_icmp .ge 31, 3) := by decide +kernel
theorem d99_17 : decode (cm_M 99).2.2.1 17 = .ok (.lload 6, 2) := by decide +kernel
theorem d99_19 : decode (cm_M 99).2.2.1 19 = .ok (.lconst 0, 1) := by decide +kernel
theorem d99_20 : decode (cm_M 99).2.2.1 20 = .ok (.lcmp, 1) := by decide +kernel
theorem d99_21 : decode (cm_M 99).2.2.1 21 = .ok (.ifCond .eq 24, 3) := by decide +kernel
theorem d99_24 : decode (cm_M 99).2.2.1 24 = .ok (.lload 4, 2) := by decide +kernel
theorem d99_26 : decode (cm_M 99).2.2.1 26 = .ok (.lload 6, 2) := by decide +kernel
theorem d99_28 : decode (cm_M 99).2.2.1 28 = .ok (.lrem, 1) := by decide +kernel
theorem d99_29 : decode (cm_M 99).2.2.1 29 = .ok (.lstore 9, 2) := by decide +kernel
theorem d99_31 : decode (cm_M 99).2.2.1 31 = .ok (.lload 6, 2) := by decide +kernel
theorem d99_33 : decode (cm_M 99).2.2.1 33 = .ok (.lstore 4, 2) := by decide +kernel
theorem d99_35 : decode (cm_M 99).2.2.1 35 = .ok (.lload 9, 2) := by decide +kernel
theorem d99_37 : decode (cm_M 99).2.2.1 37 = .ok (.lstore 6, 2) := by decide +kernel
theorem d99_39 : decode (cm_M 99).2.2.1 39 = .ok (.iinc 8 1, 3) := by decide +kernel
theorem d99_42 : decode (cm_M 99).2.2.1 42 = .ok (.goto (-33), 3) := by decide +kernel
theorem d99_45 : decode (cm_M 99).2.2.1 45 = .ok (.lload 4, 2) := by decide +kernel
theorem d99_47 : decode (cm_M 99).2.2.1 47 = .ok (.lreturn, 1) := by decide +kernel
theorem s99_0 {sc : cmS} {d : Nat} {h : cmH} {Q : Option Value → cmH → Prop} (y0 : Int64) (y2 : Int64) (u4 : Option Value) (u5 : Option Value) (u6 : Option Value) (u7 : Option Value) (u8 : Option Value) (u9 : Option Value) (u10 : Option Value) (H : cm_wp sc d 99 9 [some (.long y0), none, some (.long y2), none, some (.long y0), none, some (.long y2), none, some (.int (0 : Int32)), u9, u10] [] h Q) : cm_wp sc d 99 0 [some (.long y0), none, some (.long y2), none, u4, u5, u6, u7, u8, u9, u10] [] h Q :=
  wl_st d99_0 rfl rfl rfl rfl (wl_st (ls' := [some (.long y0), none, some (.long y2), none, some (.long y0), none, u6, u7, u8, u9, u10]) d99_1 rfl rfl rfl rfl (wl_st d99_3 rfl rfl rfl rfl (wl_st (ls' := [some (.long y0), none, some (.long y2), none, some (.long y0), none, some (.long y2), none, u8, u9, u10]) d99_4 rfl rfl rfl rfl (wl_ic (v := 0) d99_6 rfl (wl_st (ls' := [some (.long y0), none, some (.long y2), none, some (.long y0), none, some (.long y2), none, some (.int (0 : Int32)), u9, u10]) d99_7 rfl rfl rfl rfl (H))))))
theorem s99_9 {sc : cmS} {d : Nat} {h : cmH} {Q : Option Value → cmH → Prop} (y0 : Int64) (y2 : Int64) (y4 : Int64) (y6 : Int64) (x8 : Int32) (u9 : Option Value) (u10 : Option Value) (H : ((((200 : Int32) ≤ x8) → Q (some (.long y4)) h) ∧ (¬ ((200 : Int32) ≤ x8) → ((((lg_cmp y6 (0 : Int64)) = 0) → Q (some (.long y4)) h) ∧ (¬ ((lg_cmp y6 (0 : Int64)) = 0) → (¬ y6 = 0) ∧ cm_wp sc d 99 9 [some (.long y0), none, some (.long y2), none, some (.long y6), none, some (.long (y4 - y4 / y6 * y6)), none, some (.int (x8 + 1)), some (.long (y4 - y4 / y6 * y6)), none] [] h Q))))) : cm_wp sc d 99 9 [some (.long y0), none, some (.long y2), none, some (.long y4), none, some (.long y6), none, some (.int x8), u9, u10] [] h Q :=
  wl_st d99_9 rfl rfl rfl rfl (wl_si (v := 200) d99_11 rfl (wl_cb (b := (200 : Int32) ≤ x8) (off := 31) (tgt := 45) (pc3 := 17) (st' := []) d99_14 rfl rfl rfl rfl (by decide) rfl (fun c1 => wl_st d99_45 rfl rfl rfl rfl (wl_rt d99_47 rfl rfl rfl (H.1 c1))) (fun c1 => wl_st d99_17 rfl rfl rfl rfl (wl_lc (v := 0) d99_19 rfl (wl_st d99_20 rfl rfl rfl rfl (wl_cb (b := (lg_cmp y6 (0 : Int64)) = 0) (off := 24) (tgt := 45) (pc3 := 24) (st' := []) d99_21 rfl rfl rfl rfl (by decide) rfl (fun c2 => wl_st d99_45 rfl rfl rfl rfl (wl_rt d99_47 rfl rfl rfl ((H.2 c1).1 c2))) (fun c2 => wl_st d99_24 rfl rfl rfl rfl (wl_st d99_26 rfl rfl rfl rfl (And.elim (fun g3 g3k => wl_ne (g := y6 = 0) d99_28 rfl rfl rfl rfl g3 (wl_st (ls' := [some (.long y0), none, some (.long y2), none, some (.long y4), none, some (.long y6), none, some (.int x8), some (.long (y4 - y4 / y6 * y6)), none]) d99_29 rfl rfl rfl rfl (wl_st d99_31 rfl rfl rfl rfl (wl_st (ls' := [some (.long y0), none, some (.long y2), none, some (.long y6), none, some (.long y6), none, some (.int x8), some (.long (y4 - y4 / y6 * y6)), none]) d99_33 rfl rfl rfl rfl (wl_st d99_35 rfl rfl rfl rfl (wl_st (ls' := [some (.long y0), none, some (.long y2), none, some (.long y6), none, some (.long (y4 - y4 / y6 * y6)), none, some (.int x8), some (.long (y4 - y4 / y6 * y6)), none]) d99_37 rfl rfl rfl rfl (wl_st (ls' := [some (.long y0), none, some (.long y2), none, some (.long y6), none, some (.long (y4 - y4 / y6 * y6)), none, some (.int (x8 + 1)), some (.long (y4 - y4 / y6 * y6)), none]) d99_39 rfl rfl rfl rfl (wl_go (tgt := 9) d99_42 (by decide) (g3k))))))))) ((H.2 c1).2 c2))))))))))
-- ClogHouse.drops(III)I
theorem d100_0 : decode (cm_M 100).2.2.1 0 = .ok (.iload_n 1, 1) := by decide +kernel
theorem d100_1 : decode (cm_M 100).2.2.1 1 = .ok (.iload_n 2, 1) := by decide +kernel
theorem d100_2 : decode (cm_M 100).2.2.1 2 = .ok (.iconst 0, 1) := by decide +kernel
theorem d100_3 : decode (cm_M 100).2.2.1 3 = .ok (.invokestatic 270, 3) := by decide +kernel
theorem d100_6 : decode (cm_M 100).2.2.1 6 = .ok (.ifCond .eq 14, 3) := by decide +kernel
theorem d100_9 : decode (cm_M 100).2.2.1 9 = .ok (.iload_n 3, 1) := by decide +kernel
theorem d100_10 : decode (cm_M 100).2.2.1 10 = .ok (.iconst 1, 1) := by decide +kernel
theorem d100_11 : decode (cm_M 100).2.2.1 11 = .ok (.ldc_w 286, 3) := by decide +kernel
theorem d100_14 : decode (cm_M 100).2.2.1 14 = .ok (.invokestatic 81, 3) := by decide +kernel
theorem d100_17 : decode (cm_M 100).2.2.1 17 = .ok (.ifCond .ne 5, 3) := by decide +kernel
theorem d100_20 : decode (cm_M 100).2.2.1 20 = .ok (.iconst (-1), 1) := by decide +kernel
theorem d100_21 : decode (cm_M 100).2.2.1 21 = .ok (.ireturn, 1) := by decide +kernel
theorem d100_22 : decode (cm_M 100).2.2.1 22 = .ok (.iconst 0, 1) := by decide +kernel
theorem d100_23 : decode (cm_M 100).2.2.1 23 = .ok (.istore 4, 2) := by decide +kernel
theorem d100_25 : decode (cm_M 100).2.2.1 25 = .ok (.iload 4, 2) := by decide +kernel
theorem d100_27 : decode (cm_M 100).2.2.1 27 = .ok (.iload_n 1, 1) := by decide +kernel
theorem d100_28 : decode (cm_M 100).2.2.1 28 = .ok (.if_icmp .gt 35, 3) := by decide +kernel
theorem d100_31 : decode (cm_M 100).2.2.1 31 = .ok (.iload_n 1, 1) := by decide +kernel
theorem d100_32 : decode (cm_M 100).2.2.1 32 = .ok (.iload_n 2, 1) := by decide +kernel
theorem d100_33 : decode (cm_M 100).2.2.1 33 = .ok (.isub, 1) := by decide +kernel
theorem d100_34 : decode (cm_M 100).2.2.1 34 = .ok (.iload 4, 2) := by decide +kernel
theorem d100_36 : decode (cm_M 100).2.2.1 36 = .ok (.invokestatic 275, 3) := by decide +kernel
theorem d100_39 : decode (cm_M 100).2.2.1 39 = .ok (.iload_n 1, 1) := by decide +kernel
theorem d100_40 : decode (cm_M 100).2.2.1 40 = .ok (.iload 4, 2) := by decide +kernel
theorem d100_42 : decode (cm_M 100).2.2.1 42 = .ok (.invokestatic 275, 3) := by decide +kernel
theorem d100_45 : decode (cm_M 100).2.2.1 45 = .ok (.iload_n 3, 1) := by decide +kernel
theorem d100_46 : decode (cm_M 100).2.2.1 46 = .ok (.i2l, 1) := by decide +kernel
theorem d100_47 : decode (cm_M 100).2.2.1 47 = .ok (.invokestatic 283, 3) := by decide +kernel
theorem d100_50 : decode (cm_M 100).2.2.1 50 = .ok (.lcmp, 1) := by decide +kernel
theorem d100_51 : decode (cm_M 100).2.2.1 51 = .ok (.ifCond .gt 6, 3) := by decide +kernel
theorem d100_54 : decode (cm_M 100).2.2.1 54 = .ok (.iload 4, 2) := by decide +kernel
theorem d100_56 : decode (cm_M 100).2.2.1 56 = .ok (.ireturn, 1) := by decide +kernel
theorem d100_57 : decode (cm_M 100).2.2.1 57 = .ok (.iinc 4 1, 3) := by decide +kernel
theorem d100_60 : decode (cm_M 100).2.2.1 60 = .ok (.goto (-35), 3) := by decide +kernel
theorem d100_63 : decode (cm_M 100).2.2.1 63 = .ok (.iconst (-1), 1) := by decide +kernel
theorem d100_64 : decode (cm_M 100).2.2.1 64 = .ok (.ireturn, 1) := by decide +kernel
theorem s100_0 {sc : cmS} {d : Nat} {h : cmH} {Q : Option Value → cmH → Prop} (x1 : Int32) (x2 : Int32) (x3 : Int32) (u4 : Option Value) (H : cm_ci sc d 97 [.int x1, .int x2, .int (0 : Int32)] h (fun r h' => cm_wp sc (d + 1) 100 6 [some (.ref 0), some (.int x1), some (.int x2), some (.int x3), u4] [.int r] h' Q)) : cm_wp sc (d + 1) 100 0 [some (.ref 0), some (.int x1), some (.int x2), some (.int x3), u4] [] h Q :=
  wl_st d100_0 rfl rfl rfl rfl (wl_st d100_1 rfl rfl rfl rfl (wl_ic (v := 0) d100_2 rfl (wl_ci d100_3 rfl rfl rfl pm10_270 (by decide) (ca_s (Or.inl rfl) rfl (Nat.le_of_ble_eq_true rfl) (Nat.le_of_ble_eq_true rfl)) H)))
theorem s100_6 {sc : cmS} {d : Nat} {h : cmH} {Q : Option Value → cmH → Prop} (x1 : Int32) (x2 : Int32) (x3 : Int32) (u4 : Option Value) (sx0 : Int32) (H : (((sx0 = 0) → Q (some (.int (-1 : Int32))) h) ∧ (¬ (sx0 = 0) → cm_ci sc d 13 [.int x3, .int (1 : Int32), .int (1000000 : Int32)] h (fun r h' => cm_wp sc (d + 1) 100 17 [some (.ref 0), some (.int x1), some (.int x2), some (.int x3), u4] [.int r] h' Q)))) : cm_wp sc (d + 1) 100 6 [some (.ref 0), some (.int x1), some (.int x2), some (.int x3), u4] [.int sx0] h Q :=
  wl_cb (b := sx0 = 0) (off := 14) (tgt := 20) (pc3 := 9) (st' := []) d100_6 rfl rfl rfl rfl (by decide) rfl (fun c1 => wl_ic (v := (-1)) d100_20 rfl (wl_rt d100_21 rfl rfl rfl (H.1 c1))) (fun c1 => wl_st d100_9 rfl rfl rfl rfl (wl_ic (v := 1) d100_10 rfl (wl_cIw (v := 1000000) d100_11 pc10_286 (wl_ci d100_14 rfl rfl rfl pm10_81 (by decide) (ca_s (Or.inl rfl) rfl (Nat.le_of_ble_eq_true rfl) (Nat.le_of_ble_eq_true rfl)) (H.2 c1)))))
theorem s100_17 {sc : cmS} {d : Nat} {h : cmH} {Q : Option Value → cmH → Prop} (x1 : Int32) (x2 : Int32) (x3 : Int32) (u4 : Option Value) (sx0 : Int32) (H : (((¬ sx0 = 0) → cm_wp sc d 100 25 [some (.ref 0), some (.int x1), some (.int x2), some (.int x3), some (.int (0 : Int32))] [] h Q) ∧ (¬ (¬ sx0 = 0) → Q (some (.int (-1 : Int32))) h))) : cm_wp sc d 100 17 [some (.ref 0), some (.int x1), some (.int x2), some (.int x3), u4] [.int sx0] h Q :=
  wl_cb (b := ¬ sx0 = 0) (off := 5) (tgt := 22) (pc3 := 20) (st' := []) d100_17 rfl rfl rfl rfl (by decide) rfl (fun c1 => wl_ic (v := 0) d100_22 rfl (wl_st (ls' := [some (.ref 0), some (.int x1), some (.int x2), some (.int x3), some (.int (0 : Int32))]) d100_23 rfl rfl rfl rfl ((H.1 c1)))) (fun c1 => wl_ic (v := (-1)) d100_20 rfl (wl_rt d100_21 rfl rfl rfl (H.2 c1)))
theorem s100_25 {sc : cmS} {d : Nat} {h : cmH} {Q : Option Value → cmH → Prop} (x1 : Int32) (x2 : Int32) (x3 : Int32) (x4 : Int32) (H : (((x1 < x4) → Q (some (.int (-1 : Int32))) h) ∧ (¬ (x1 < x4) → cm_cj' sc d 98 [.int (x1 - x2), .int x4] h (fun r h' => cm_wp sc (d + 1) 100 39 [some (.ref 0), some (.int x1), some (.int x2), some (.int x3), some (.int x4)] [.long r] h' Q)))) : cm_wp sc (d + 1) 100 25 [some (.ref 0), some (.int x1), some (.int x2), some (.int x3), some (.int x4)] [] h Q :=
  wl_st d100_25 rfl rfl rfl rfl (wl_st d100_27 rfl rfl rfl rfl (wl_cb (b := x1 < x4) (off := 35) (tgt := 63) (pc3 := 31) (st' := []) d100_28 rfl rfl rfl rfl (by decide) rfl (fun c1 => wl_ic (v := (-1)) d100_63 rfl (wl_rt d100_64 rfl rfl rfl (H.1 c1))) (fun c1 => wl_st d100_31 rfl rfl rfl rfl (wl_st d100_32 rfl rfl rfl rfl (wl_st d100_33 rfl rfl rfl rfl (wl_st d100_34 rfl rfl rfl rfl (wl_cj d100_36 rfl rfl rfl pm10_275 (by decide) (ca_s (Or.inl rfl) rfl (Nat.le_of_ble_eq_true rfl) (Nat.le_of_ble_eq_true rfl)) (H.2 c1))))))))
theorem s100_39 {sc : cmS} {d : Nat} {h : cmH} {Q : Option Value → cmH → Prop} (x1 : Int32) (x2 : Int32) (x3 : Int32) (x4 : Int32) (sy0 : Int64) (H : cm_cj' sc d 98 [.int x1, .int x4] h (fun r h' => cm_wp sc (d + 1) 100 45 [some (.ref 0), some (.int x1), some (.int x2), some (.int x3), some (.int x4)] [.long r, .long sy0] h' Q)) : cm_wp sc (d + 1) 100 39 [some (.ref 0), some (.int x1), some (.int x2), some (.int x3), some (.int x4)] [.long sy0] h Q :=
  wl_st d100_39 rfl rfl rfl rfl (wl_st d100_40 rfl rfl rfl rfl (wl_cj d100_42 rfl rfl rfl pm10_275 (by decide) (ca_s (Or.inl rfl) rfl (Nat.le_of_ble_eq_true rfl) (Nat.le_of_ble_eq_true rfl)) H))
theorem s100_45 {sc : cmS} {d : Nat} {h : cmH} {Q : Option Value → cmH → Prop} (x1 : Int32) (x2 : Int32) (x3 : Int32) (x4 : Int32) (sy0 : Int64) (sy1 : Int64) (H : cm_cj' sc d 33 [.long sy0, .long (x3.toInt64)] h (fun r h' => cm_wp sc (d + 1) 100 50 [some (.ref 0), some (.int x1), some (.int x2), some (.int x3), some (.int x4)] [.long r, .long sy1] h' Q)) : cm_wp sc (d + 1) 100 45 [some (.ref 0), some (.int x1), some (.int x2), some (.int x3), some (.int x4)] [.long sy0, .long sy1] h Q :=
  wl_st d100_45 rfl rfl rfl rfl (wl_st d100_46 rfl rfl rfl rfl (wl_cj d100_47 rfl rfl rfl pm10_283 (by decide) (ca_s (Or.inl rfl) rfl (Nat.le_of_ble_eq_true rfl) (Nat.le_of_ble_eq_true rfl)) H))
theorem s100_50 {sc : cmS} {d : Nat} {h : cmH} {Q : Option Value → cmH → Prop} (x1 : Int32) (x2 : Int32) (x3 : Int32) (x4 : Int32) (sy0 : Int64) (sy1 : Int64) (H : (((0 < (lg_cmp sy1 sy0)) → cm_wp sc d 100 25 [some (.ref 0), some (.int x1), some (.int x2), some (.int x3), some (.int (x4 + 1))] [] h Q) ∧ (¬ (0 < (lg_cmp sy1 sy0)) → Q (some (.int x4)) h))) : cm_wp sc d 100 50 [some (.ref 0), some (.int x1), some (.int x2), some (.int x3), some (.int x4)] [.long sy0, .long sy1] h Q :=
  wl_st d100_50 rfl rfl rfl rfl (wl_cb (b := 0 < (lg_cmp sy1 sy0)) (off := 6) (tgt := 57) (pc3 := 54) (st' := []) d100_51 rfl rfl rfl rfl (by decide) rfl (fun c1 => wl_st (ls' := [some (.ref 0), some (.int x1), some (.int x2), some (.int x3), some (.int (x4 + 1))]) d100_57 rfl rfl rfl rfl (wl_go (tgt := 25) d100_60 (by decide) ((H.1 c1)))) (fun c1 => wl_st d100_54 rfl rfl rfl rfl (wl_rt d100_56 rfl rfl rfl (H.2 c1))))
-- ClogHouse.layer(II)I
theorem d101_0 : decode (cm_M 101).2.2.1 0 = .ok (.iload_n 1, 1) := by decide +kernel
theorem d101_1 : decode (cm_M 101).2.2.1 1 = .ok (.iconst 1, 1) := by decide +kernel
theorem d101_2 : decode (cm_M 101).2.2.1 2 = .ok (.bipush 20, 2) := by decide +kernel
theorem d101_4 : decode (cm_M 101).2.2.1 4 = .ok (.invokestatic 81, 3) := by decide +kernel
theorem d101_7 : decode (cm_M 101).2.2.1 7 = .ok (.ifCond .eq 14, 3) := by decide +kernel
theorem d101_10 : decode (cm_M 101).2.2.1 10 = .ok (.iload_n 2, 1) := by decide +kernel
theorem d101_11 : decode (cm_M 101).2.2.1 11 = .ok (.iconst 1, 1) := by decide +kernel
theorem d101_12 : decode (cm_M 101).2.2.1 12 = .ok (.sipush 1000, 3) := by decide +kernel
theorem d101_15 : decode (cm_M 101).2.2.1 15 = .ok (.invokestatic 81, 3) := by decide +kernel
theorem d101_18 : decode (cm_M 101).2.2.1 18 = .ok (.ifCond .ne 5, 3) := by decide +kernel
theorem d101_21 : decode (cm_M 101).2.2.1 21 = .ok (.iconst (-1), 1) := by decide +kernel
theorem d101_22 : decode (cm_M 101).2.2.1 22 = .ok (.ireturn, 1) := by decide +kernel
theorem d101_23 : decode (cm_M 101).2.2.1 23 = .ok (.aload_n 0, 1) := by decide +kernel
theorem d101_24 : decode (cm_M 101).2.2.1 24 = .ok (.getfield 59, 3) := by decide +kernel
theorem d101_27 : decode (cm_M 101).2.2.1 27 = .ok (.iload_n 1, 1) := by decide +kernel
theorem d101_28 : decode (cm_M 101).2.2.1 28 = .ok (.iload_n 2, 1) := by decide +kernel
theorem d101_29 : decode (cm_M 101).2.2.1 29 = .ok (.invokevirtual 287, 3) := by decide +kernel
theorem d101_32 : decode (cm_M 101).2.2.1 32 = .ok (.ireturn, 1) := by decide +kernel
theorem s101_0 {sc : cmS} {d : Nat} {h : cmH} {Q : Option Value → cmH → Prop} (x1 : Int32) (x2 : Int32) (H : cm_ci sc d 13 [.int x1, .int (1 : Int32), .int (20 : Int32)] h (fun r h' => cm_wp sc (d + 1) 101 7 [some (.ref 0), some (.int x1), some (.int x2)] [.int r] h' Q)) : cm_wp sc (d + 1) 101 0 [some (.ref 0), some (.int x1), some (.int x2)] [] h Q :=
  wl_st d101_0 rfl rfl rfl rfl (wl_ic (v := 1) d101_1 rfl (wl_bi (v := 20) d101_2 rfl (wl_ci d101_4 rfl rfl rfl pm10_81 (by decide) (ca_s (Or.inl rfl) rfl (Nat.le_of_ble_eq_true rfl) (Nat.le_of_ble_eq_true rfl)) H)))
theorem s101_7 {sc : cmS} {d : Nat} {h : cmH} {Q : Option Value → cmH → Prop} (x1 : Int32) (x2 : Int32) (sx0 : Int32) (H : (((sx0 = 0) → Q (some (.int (-1 : Int32))) h) ∧ (¬ (sx0 = 0) → cm_ci sc d 13 [.int x2, .int (1 : Int32), .int (1000 : Int32)] h (fun r h' => cm_wp sc (d + 1) 101 18 [some (.ref 0), some (.int x1), some (.int x2)] [.int r] h' Q)))) : cm_wp sc (d + 1) 101 7 [some (.ref 0), some (.int x1), some (.int x2)] [.int sx0] h Q :=
  wl_cb (b := sx0 = 0) (off := 14) (tgt := 21) (pc3 := 10) (st' := []) d101_7 rfl rfl rfl rfl (by decide) rfl (fun c1 => wl_ic (v := (-1)) d101_21 rfl (wl_rt d101_22 rfl rfl rfl (H.1 c1))) (fun c1 => wl_st d101_10 rfl rfl rfl rfl (wl_ic (v := 1) d101_11 rfl (wl_si (v := 1000) d101_12 rfl (wl_ci d101_15 rfl rfl rfl pm10_81 (by decide) (ca_s (Or.inl rfl) rfl (Nat.le_of_ble_eq_true rfl) (Nat.le_of_ble_eq_true rfl)) (H.2 c1)))))
theorem s101_18 {sc : cmS} {d : Nat} {h : cmH} {Q : Option Value → cmH → Prop} (L : LY h) (x1 : Int32) (x2 : Int32) (sx0 : Int32) (H : (((¬ sx0 = 0) → cm_ci sc d 102 [.ref 21, .int x1, .int x2] h (fun r h' => cm_wp sc (d + 1) 101 32 [some (.ref 0), some (.int x1), some (.int x2)] [.int r] h' Q)) ∧ (¬ (¬ sx0 = 0) → Q (some (.int (-1 : Int32))) h))) : cm_wp sc (d + 1) 101 18 [some (.ref 0), some (.int x1), some (.int x2)] [.int sx0] h Q :=
  wl_cb (b := ¬ sx0 = 0) (off := 5) (tgt := 23) (pc3 := 21) (st' := []) d101_18 rfl rfl rfl rfl (by decide) rfl (fun c1 => wl_st d101_23 rfl rfl rfl rfl (wl_gr (b := 21) d101_24 pf10_59 (ly_k L 0 rfl) rfl (ly_r L 0 7 rfl) (wl_st d101_27 rfl rfl rfl rfl (wl_st d101_28 rfl rfl rfl rfl (wl_ci d101_29 rfl rfl rfl pm10_287 (by decide) (ca_v (Or.inr rfl) rfl (Nat.le_of_ble_eq_true rfl) (Nat.le_of_ble_eq_true rfl) (ly_k L 21 rfl).2 (ly_k L 21 rfl).1 (by decide)) (H.1 c1)))))) (fun c1 => wl_ic (v := (-1)) d101_21 rfl (wl_rt d101_22 rfl rfl rfl (H.2 c1)))
theorem s101_32 {sc : cmS} {d : Nat} {h : cmH} {Q : Option Value → cmH → Prop} (x1 : Int32) (x2 : Int32) (sx0 : Int32) (H : Q (some (.int sx0)) h) : cm_wp sc d 101 32 [some (.ref 0), some (.int x1), some (.int x2)] [.int sx0] h Q :=
  wl_rt d101_32 rfl rfl rfl H
-- ClogHouse.order(II)I
theorem d103_0 : decode (cm_M 103).2.2.1 0 = .ok (.iload_n 1, 1) := by decide +kernel
theorem d103_1 : decode (cm_M 103).2.2.1 1 = .ok (.iconst 0, 1) := by decide +kernel
theorem d103_2 : decode (cm_M 103).2.2.1 2 = .ok (.ldc_w 286, 3) := by decide +kernel
theorem d103_5 : decode (cm_M 103).2.2.1 5 = .ok (.invokestatic 81, 3) := by decide +kernel
theorem d103_8 : decode (cm_M 103).2.2.1 8 = .ok (.ifCond .eq 42, 3) := by decide +kernel
theorem d103_11 : decode (cm_M 103).2.2.1 11 = .ok (.iload_n 2, 1) := by decide +kernel
theorem d103_12 : decode (cm_M 103).2.2.1 12 = .ok (.iconst (-1), 1) := by decide +kernel
theorem d103_13 : decode (cm_M 103).2.2.1 13 = .ok (.aload_n 0, 1) := by decide +kernel
theorem d103_14 : decode (cm_M 103).2.2.1 14 = .ok (.getfield 59, 3) := by decide +kernel
theorem d103_17 : decode (cm_M 103).2.2.1 17 = .ok (.getfield 290, 3) := by decide +kernel
theorem d103_20 : decode (cm_M 103).2.2.1 20 = .ok (.iconst 1, 1) := by decide +kernel
theorem d103_21 : decode (cm_M 103).2.2.1 21 = .ok (.isub, 1) := by decide +kernel
theorem d103_22 : decode (cm_M 103).2.2.1 22 = .ok (.invokestatic 81, 3) := by decide +kernel
theorem d103_25 : decode (cm_M 103).2.2.1 25 = .ok (.ifCond .eq 25, 3) := by decide +kernel
theorem d103_28 : decode (cm_M 103).2.2.1 28 = .ok (.aload_n 0, 1) := by decide +kernel
theorem d103_29 : decode (cm_M 103).2.2.1 29 = .ok (.getfield 59, 3) := by decide +kernel
theorem d103_32 : decode (cm_M 103).2.2.1 32 = .ok (.getfield 290, 3) := by decide +kernel
theorem d103_35 : decode (cm_M 103).2.2.1 35 = .ok (.iconst 1, 1) := by decide +kernel
theorem d103_36 : decode (cm_M 103).2.2.1 36 = .ok (.if_icmp .lt 14, 3) := by decide +kernel
theorem d103_39 : decode (cm_M 103).2.2.1 39 = .ok (.aload_n 0, 1) := by decide +kernel
theorem d103_40 : decode (cm_M 103).2.2.1 40 = .ok (.getfield 45, 3) := by decide +kernel
theorem d103_43 : decode (cm_M 103).2.2.1 43 = .ok (.getfield 228, 3) := by decide +kernel
theorem d103_46 : decode (cm_M 103).2.2.1 46 = .ok (.iconst 1, 1) := by decide +kernel
theorem d103_47 : decode (cm_M 103).2.2.1 47 = .ok (.if_icmp .ge 5, 3) := by decide +kernel
theorem d103_50 : decode (cm_M 103).2.2.1 50 = .ok (.iconst (-1), 1) := by decide +kernel
theorem d103_51 : decode (cm_M 103).2.2.1 51 = .ok (.ireturn, 1) := by decide +kernel
theorem d103_52 : decode (cm_M 103).2.2.1 52 = .ok (.aload_n 0, 1) := by decide +kernel
theorem d103_53 : decode (cm_M 103).2.2.1 53 = .ok (.getfield 59, 3) := by decide +kernel
theorem d103_56 : decode (cm_M 103).2.2.1 56 = .ok (.iload_n 1, 1) := by decide +kernel
theorem d103_57 : decode (cm_M 103).2.2.1 57 = .ok (.aload_n 0, 1) := by decide +kernel
theorem d103_58 : decode (cm_M 103).2.2.1 58 = .ok (.getfield 45, 3) := by decide +kernel
theorem d103_61 : decode (cm_M 103).2.2.1 61 = .ok (.aload_n 0, 1) := by decide +kernel
theorem d103_62 : decode (cm_M 103).2.2.1 62 = .ok (.getfield 10, 3) := by decide +kernel
theorem d103_65 : decode (cm_M 103).2.2.1 65 = .ok (.invokevirtual 293, 3) := by decide +kernel
theorem d103_68 : decode (cm_M 103).2.2.1 68 = .ok (.iload_n 2, 1) := by decide +kernel
theorem d103_69 : decode (cm_M 103).2.2.1 69 = .ok (.iconst (-1), 1) := by decide +kernel
theorem d103_70 : decode (cm_M 103).2.2.1 70 = .ok (.if_icmp .ne 13, 3) := by decide +kernel
theorem d103_73 : decode (cm_M 103).2.2.1 73 = .ok (.aload_n 0, 1) := by decide +kernel
theorem d103_74 : decode (cm_M 103).2.2.1 74 = .ok (.getfield 59, 3) := by decide +kernel
theorem d103_77 : decode (cm_M 103).2.2.1 77 = .ok (.getfield 297, 3) := by decide +kernel
theorem d103_80 : decode (cm_M 103).2.2.1 80 = .ok (.goto 12, 3) := by decide +kernel
theorem d103_83 : decode (cm_M 103).2.2.1 83 = .ok (.aload_n 0, 1) := by decide +kernel
theorem d103_84 : decode (cm_M 103).2.2.1 84 = .ok (.getfield 59, 3) := by decide +kernel
theorem d103_87 : decode (cm_M 103).2.2.1 87 = .ok (.getfield 300, 3) := by decide +kernel
theorem d103_90 : decode (cm_M 103).2.2.1 90 = .ok (.iload_n 2, 1) := by decide +kernel
theorem d103_91 : decode (cm_M 103).2.2.1 91 = .ok (.iaload, 1) := by decide +kernel
theorem d103_92 : decode (cm_M 103).2.2.1 92 = .ok (.ireturn, 1) := by decide +kernel
theorem s103_0 {sc : cmS} {d : Nat} {h : cmH} {Q : Option Value → cmH → Prop} (x1 : Int32) (x2 : Int32) (H : cm_ci sc d 13 [.int x1, .int (0 : Int32), .int (1000000 : Int32)] h (fun r h' => cm_wp sc (d + 1) 103 8 [some (.ref 0), some (.int x1), some (.int x2)] [.int r] h' Q)) : cm_wp sc (d + 1) 103 0 [some (.ref 0), some (.int x1), some (.int x2)] [] h Q :=
  wl_st d103_0 rfl rfl rfl rfl (wl_ic (v := 0) d103_1 rfl (wl_cIw (v := 1000000) d103_2 pc10_286 (wl_ci d103_5 rfl rfl rfl pm10_81 (by decide) (ca_s (Or.inl rfl) rfl (Nat.le_of_ble_eq_true rfl) (Nat.le_of_ble_eq_true rfl)) H)))
theorem s103_8 {sc : cmS} {d : Nat} {h : cmH} {Q : Option Value → cmH → Prop} (L : LY h) (x1 : Int32) (x2 : Int32) (sx0 : Int32) (H : (((sx0 = 0) → Q (some (.int (-1 : Int32))) h) ∧ (¬ (sx0 = 0) → cm_ci sc d 13 [.int x2, .int (-1 : Int32), .int ((cm_I h 21 5) - (1 : Int32))] h (fun r h' => cm_wp sc (d + 1) 103 25 [some (.ref 0), some (.int x1), some (.int x2)] [.int r] h' Q)))) : cm_wp sc (d + 1) 103 8 [some (.ref 0), some (.int x1), some (.int x2)] [.int sx0] h Q :=
  wl_cb (b := sx0 = 0) (off := 42) (tgt := 50) (pc3 := 11) (st' := []) d103_8 rfl rfl rfl rfl (by decide) rfl (fun c1 => wl_ic (v := (-1)) d103_50 rfl (wl_rt d103_51 rfl rfl rfl (H.1 c1))) (fun c1 => wl_st d103_11 rfl rfl rfl rfl (wl_ic (v := (-1)) d103_12 rfl (wl_st d103_13 rfl rfl rfl rfl (wl_gr (b := 21) d103_14 pf10_59 (ly_k L 0 rfl) rfl (ly_r L 0 7 rfl) (wl_gf (v := .int (cm_I h 21 5)) d103_17 pf10_290 (ly_k L 21 rfl) rfl (wl_ic (v := 1) d103_20 rfl (wl_st d103_21 rfl rfl rfl rfl (wl_ci d103_22 rfl rfl rfl pm10_81 (by decide) (ca_s (Or.inl rfl) rfl (Nat.le_of_ble_eq_true rfl) (Nat.le_of_ble_eq_true rfl)) (H.2 c1)))))))))
theorem s103_25 {sc : cmS} {d : Nat} {h : cmH} {Q : Option Value → cmH → Prop} (L : LY h) (x1 : Int32) (x2 : Int32) (sx0 : Int32) (H : (((sx0 = 0) → Q (some (.int (-1 : Int32))) h) ∧ (¬ (sx0 = 0) → ((((cm_I h 21 5) < (1 : Int32)) → Q (some (.int (-1 : Int32))) h) ∧ (¬ ((cm_I h 21 5) < (1 : Int32)) → ((((1 : Int32) ≤ (cm_I h 12 1)) → cm_cv sc d 104 [.ref 21, .int x1, .ref 12, .ref 1] h (fun h' => cm_wp sc (d + 1) 103 68 [some (.ref 0), some (.int x1), some (.int x2)] [] h' Q)) ∧ (¬ ((1 : Int32) ≤ (cm_I h 12 1)) → Q (some (.int (-1 : Int32))) h))))))) : cm_wp sc (d + 1) 103 25 [some (.ref 0), some (.int x1), some (.int x2)] [.int sx0] h Q :=
  wl_cb (b := sx0 = 0) (off := 25) (tgt := 50) (pc3 := 28) (st' := []) d103_25 rfl rfl rfl rfl (by decide) rfl (fun c1 => wl_ic (v := (-1)) d103_50 rfl (wl_rt d103_51 rfl rfl rfl (H.1 c1))) (fun c1 => wl_st d103_28 rfl rfl rfl rfl (wl_gr (b := 21) d103_29 pf10_59 (ly_k L 0 rfl) rfl (ly_r L 0 7 rfl) (wl_gf (v := .int (cm_I h 21 5)) d103_32 pf10_290 (ly_k L 21 rfl) rfl (wl_ic (v := 1) d103_35 rfl (wl_cb (b := (cm_I h 21 5) < (1 : Int32)) (off := 14) (tgt := 50) (pc3 := 39) (st' := []) d103_36 rfl rfl rfl rfl (by decide) rfl (fun c2 => wl_ic (v := (-1)) d103_50 rfl (wl_rt d103_51 rfl rfl rfl ((H.2 c1).1 c2))) (fun c2 => wl_st d103_39 rfl rfl rfl rfl (wl_gr (b := 12) d103_40 pf10_45 (ly_k L 0 rfl) rfl (ly_r L 0 5 rfl) (wl_gf (v := .int (cm_I h 12 1)) d103_43 pf10_228 (ly_k L 12 rfl) rfl (wl_ic (v := 1) d103_46 rfl (wl_cb (b := (1 : Int32) ≤ (cm_I h 12 1)) (off := 5) (tgt := 52) (pc3 := 50) (st' := []) d103_47 rfl rfl rfl rfl (by decide) rfl (fun c3 => wl_st d103_52 rfl rfl rfl rfl (wl_gr (b := 21) d103_53 pf10_59 (ly_k L 0 rfl) rfl (ly_r L 0 7 rfl) (wl_st d103_56 rfl rfl rfl rfl (wl_st d103_57 rfl rfl rfl rfl (wl_gr (b := 12) d103_58 pf10_45 (ly_k L 0 rfl) rfl (ly_r L 0 5 rfl) (wl_st d103_61 rfl rfl rfl rfl (wl_gr (b := 1) d103_62 pf10_10 (ly_k L 0 rfl) rfl (ly_r L 0 0 rfl) (wl_cv d103_65 rfl rfl rfl pm10_293 (by decide) (ca_v (Or.inr rfl) rfl (Nat.le_of_ble_eq_true rfl) (Nat.le_of_ble_eq_true rfl) (ly_k L 21 rfl).2 (ly_k L 21 rfl).1 (by decide)) (((H.2 c1).2 c2).1 c3))))))))) (fun c3 => wl_ic (v := (-1)) d103_50 rfl (wl_rt d103_51 rfl rfl rfl (((H.2 c1).2 c2).2 c3)))))))))))))
theorem s103_68 {sc : cmS} {d : Nat} {h : cmH} {Q : Option Value → cmH → Prop} (L : LY h) (x1 : Int32) (x2 : Int32) (H : (((¬ x2 = (-1 : Int32)) → (IX 6 x2) ∧ Q (some (.int (cm_I h 25 x2.toNatClampNeg))) h) ∧ (¬ (¬ x2 = (-1 : Int32)) → Q (some (.int (cm_I h 21 6))) h))) : cm_wp sc d 103 68 [some (.ref 0), some (.int x1), some (.int x2)] [] h Q :=
  wl_st d103_68 rfl rfl rfl rfl (wl_ic (v := (-1)) d103_69 rfl (wl_cb (b := ¬ x2 = (-1 : Int32)) (off := 13) (tgt := 83) (pc3 := 73) (st' := []) d103_70 rfl rfl rfl rfl (by decide) rfl (fun c1 => wl_st d103_83 rfl rfl rfl rfl (wl_gr (b := 21) d103_84 pf10_59 (ly_k L 0 rfl) rfl (ly_r L 0 7 rfl) (wl_gr (b := 25) d103_87 pf10_300 (ly_k L 21 rfl) rfl (ly_r L 21 3 rfl) (wl_st d103_90 rfl rfl rfl rfl (And.elim (fun g2 g2k => wl_if (g := cm_ok h 13 25 x2) (st' := [.int (cm_I h 25 x2.toNatClampNeg)]) d103_91 rfl rfl rfl rfl (ly_o L 25 rfl g2) (wl_rt d103_92 rfl rfl rfl g2k)) (H.1 c1)))))) (fun c1 => wl_st d103_73 rfl rfl rfl rfl (wl_gr (b := 21) d103_74 pf10_59 (ly_k L 0 rfl) rfl (ly_r L 0 7 rfl) (wl_gf (v := .int (cm_I h 21 6)) d103_77 pf10_297 (ly_k L 21 rfl) rfl (wl_go (tgt := 92) d103_80 (by decide) (wl_rt d103_92 rfl rfl rfl (H.2 c1))))))))
-- ClogHouse.cost(II)Z
theorem d110_0 : decode (cm_M 110).2.2.1 0 = .ok (.iload_n 1, 1) := by decide +kernel
theorem d110_1 : decode (cm_M 110).2.2.1 1 = .ok (.iconst (-1), 1) := by decide +kernel
theorem d110_2 : decode (cm_M 110).2.2.1 2 = .ok (.bipush 19, 2) := by decide +kernel
theorem d110_4 : decode (cm_M 110).2.2.1 4 = .ok (.invokestatic 81, 3) := by decide +kernel
theorem d110_7 : decode (cm_M 110).2.2.1 7 = .ok (.ifCond .eq 25, 3) := by decide +kernel
theorem d110_10 : decode (cm_M 110).2.2.1 10 = .ok (.iload_n 2, 1) := by decide +kernel
theorem d110_11 : decode (cm_M 110).2.2.1 11 = .ok (.iconst 0, 1) := by decide +kernel
theorem d110_12 : decode (cm_M 110).2.2.1 12 = .ok (.iload_n 1, 1) := by decide +kernel
theorem d110_13 : decode (cm_M 110).2.2.1 13 = .ok (.iconst (-1), 1) := by decide +kernel
theorem d110_14 : decode (cm_M 110).2.2.1 14 = .ok (.if_icmp .ne 9, 3) := by decide +kernel
theorem d110_17 : decode (cm_M 110).2.2.1 17 = .ok (.sipush 10000, 3) := by decide +kernel
theorem d110_20 : decode (cm_M 110).2.2.1 20 = .ok (.goto 6, 3) := by decide +kernel
theorem d110_23 : decode (cm_M 110).2.2.1 23 = .ok (.sipush 1000, 3) := by decide +kernel
theorem d110_26 : decode (cm_M 110).2.2.1 26 = .ok (.invokestatic 81, 3) := by decide +kernel
theorem d110_29 : decode (cm_M 110).2.2.1 29 = .ok (.ifCond .ne 5, 3) := by decide +kernel
theorem d110_32 : decode (cm_M 110).2.2.1 32 = .ok (.iconst 0, 1) := by decide +kernel
theorem d110_33 : decode (cm_M 110).2.2.1 33 = .ok (.ireturn, 1) := by decide +kernel
theorem d110_34 : decode (cm_M 110).2.2.1 34 = .ok (.iload_n 1, 1) := by decide +kernel
theorem d110_35 : decode (cm_M 110).2.2.1 35 = .ok (.iconst (-1), 1) := by decide +kernel
theorem d110_36 : decode (cm_M 110).2.2.1 36 = .ok (.if_icmp .ne 14, 3) := by decide +kernel
theorem d110_39 : decode (cm_M 110).2.2.1 39 = .ok (.aload_n 0, 1) := by decide +kernel
theorem d110_40 : decode (cm_M 110).2.2.1 40 = .ok (.getfield 66, 3) := by decide +kernel
theorem d110_43 : decode (cm_M 110).2.2.1 43 = .ok (.iload_n 2, 1) := by decide +kernel
theorem d110_44 : decode (cm_M 110).2.2.1 44 = .ok (.putfield 303, 3) := by decide +kernel
theorem d110_47 : decode (cm_M 110).2.2.1 47 = .ok (.goto 13, 3) := by decide +kernel
theorem d110_50 : decode (cm_M 110).2.2.1 50 = .ok (.aload_n 0, 1) := by decide +kernel
theorem d110_51 : decode (cm_M 110).2.2.1 51 = .ok (.getfield 66, 3) := by decide +kernel
theorem d110_54 : decode (cm_M 110).2.2.1 54 = .ok (.getfield 306, 3) := by decide +kernel
theorem d110_57 : decode (cm_M 110).2.2.1 57 = .ok (.iload_n 1, 1) := by decide +kernel
theorem d110_58 : decode (cm_M 110).2.2.1 58 = .ok (.iload_n 2, 1) := by decide +kernel
theorem d110_59 : decode (cm_M 110).2.2.1 59 = .ok (.iastore, 1) := by decide +kernel
theorem d110_60 : decode (cm_M 110).2.2.1 60 = .ok (.iconst 1, 1) := by decide +kernel
theorem d110_61 : decode (cm_M 110).2.2.1 61 = .ok (.ireturn, 1) := by decide +kernel
theorem s110_0 {sc : cmS} {d : Nat} {h : cmH} {Q : Option Value → cmH → Prop} (x1 : Int32) (x2 : Int32) (H : cm_ci sc d 13 [.int x1, .int (-1 : Int32), .int (19 : Int32)] h (fun r h' => cm_wp sc (d + 1) 110 7 [some (.ref 0), some (.int x1), some (.int x2)] [.int r] h' Q)) : cm_wp sc (d + 1) 110 0 [some (.ref 0), some (.int x1), some (.int x2)] [] h Q :=
  wl_st d110_0 rfl rfl rfl rfl (wl_ic (v := (-1)) d110_1 rfl (wl_bi (v := 19) d110_2 rfl (wl_ci d110_4 rfl rfl rfl pm10_81 (by decide) (ca_s (Or.inl rfl) rfl (Nat.le_of_ble_eq_true rfl) (Nat.le_of_ble_eq_true rfl)) H)))
theorem s110_7 {sc : cmS} {d : Nat} {h : cmH} {Q : Option Value → cmH → Prop} (x1 : Int32) (x2 : Int32) (sx0 : Int32) (H : (((sx0 = 0) → Q (some (.int (0 : Int32))) h) ∧ (¬ (sx0 = 0) → (((¬ x1 = (-1 : Int32)) → cm_wp sc d 110 26 [some (.ref 0), some (.int x1), some (.int x2)] [.int (1000 : Int32), .int (0 : Int32), .int x2] h Q) ∧ (¬ (¬ x1 = (-1 : Int32)) → cm_wp sc d 110 26 [some (.ref 0), some (.int x1), some (.int x2)] [.int (10000 : Int32), .int (0 : Int32), .int x2] h Q))))) : cm_wp sc d 110 7 [some (.ref 0), some (.int x1), some (.int x2)] [.int sx0] h Q :=
  wl_cb (b := sx0 = 0) (off := 25) (tgt := 32) (pc3 := 10) (st' := []) d110_7 rfl rfl rfl rfl (by decide) rfl (fun c1 => wl_ic (v := 0) d110_32 rfl (wl_rz d110_33 rfl (by decide) (H.1 c1))) (fun c1 => wl_st d110_10 rfl rfl rfl rfl (wl_ic (v := 0) d110_11 rfl (wl_st d110_12 rfl rfl rfl rfl (wl_ic (v := (-1)) d110_13 rfl (wl_cb (b := ¬ x1 = (-1 : Int32)) (off := 9) (tgt := 23) (pc3 := 17) (st' := [.int (0 : Int32), .int x2]) d110_14 rfl rfl rfl rfl (by decide) rfl (fun c2 => wl_si (v := 1000) d110_23 rfl (((H.2 c1).1 c2))) (fun c2 => wl_si (v := 10000) d110_17 rfl (wl_go (tgt := 26) d110_20 (by decide) (((H.2 c1).2 c2)))))))))
theorem s110_26 {sc : cmS} {d : Nat} {h : cmH} {Q : Option Value → cmH → Prop} (x1 : Int32) (x2 : Int32) (sx0 : Int32) (sx1 : Int32) (sx2 : Int32) (H : cm_ci sc d 13 [.int sx2, .int sx1, .int sx0] h (fun r h' => cm_wp sc (d + 1) 110 29 [some (.ref 0), some (.int x1), some (.int x2)] [.int r] h' Q)) : cm_wp sc (d + 1) 110 26 [some (.ref 0), some (.int x1), some (.int x2)] [.int sx0, .int sx1, .int sx2] h Q :=
  wl_ci d110_26 rfl rfl rfl pm10_81 (by decide) (ca_s (Or.inl rfl) rfl (Nat.le_of_ble_eq_true rfl) (Nat.le_of_ble_eq_true rfl)) H
theorem s110_29 {sc : cmS} {d : Nat} {h : cmH} {Q : Option Value → cmH → Prop} (L : LY h) (x1 : Int32) (x2 : Int32) (sx0 : Int32) (H : (((¬ sx0 = 0) → (((¬ x1 = (-1 : Int32)) → (IX 20 x1) ∧ Q (some (.int (1 : Int32))) (cm_setI h 31 x1.toNatClampNeg x2)) ∧ (¬ (¬ x1 = (-1 : Int32)) → Q (some (.int (1 : Int32))) (cm_setI h 30 2 x2)))) ∧ (¬ (¬ sx0 = 0) → Q (some (.int (0 : Int32))) h))) : cm_wp sc d 110 29 [some (.ref 0), some (.int x1), some (.int x2)] [.int sx0] h Q :=
  wl_cb (b := ¬ sx0 = 0) (off := 5) (tgt := 34) (pc3 := 32) (st' := []) d110_29 rfl rfl rfl rfl (by decide) rfl (fun c1 => wl_st d110_34 rfl rfl rfl rfl (wl_ic (v := (-1)) d110_35 rfl (wl_cb (b := ¬ x1 = (-1 : Int32)) (off := 14) (tgt := 50) (pc3 := 39) (st' := []) d110_36 rfl rfl rfl rfl (by decide) rfl (fun c2 => wl_st d110_50 rfl rfl rfl rfl (wl_gr (b := 30) d110_51 pf10_66 (ly_k L 0 rfl) rfl (ly_r L 0 8 rfl) (wl_gr (b := 31) d110_54 pf10_306 (ly_k L 30 rfl) rfl (ly_r L 30 0 rfl) (wl_st d110_57 rfl rfl rfl rfl (wl_st d110_58 rfl rfl rfl rfl (And.elim (fun g3 g3k => wl_if (h' := (cm_setI h 31 x1.toNatClampNeg x2)) d110_59 rfl rfl rfl rfl (ly_o L 31 rfl g3) (wl_ic (v := 1) d110_60 rfl (wl_rz d110_61 rfl (by decide) g3k))) ((H.1 c1).1 c2))))))) (fun c2 => wl_st d110_39 rfl rfl rfl rfl (wl_gr (b := 30) d110_40 pf10_66 (ly_k L 0 rfl) rfl (ly_r L 0 8 rfl) (wl_st d110_43 rfl rfl rfl rfl (wl_pf (h' := (cm_setI h 30 2 x2)) d110_44 pf10_303 (ly_k L 30 rfl) (Or.inl rfl) rfl (wl_go (tgt := 60) d110_47 (by decide) (wl_ic (v := 1) d110_60 rfl (wl_rz d110_61 rfl (by decide) ((H.1 c1).2 c2))))))))))) (fun c1 => wl_ic (v := 0) d110_32 rfl (wl_rz d110_33 rfl (by decide) (H.2 c1)))
-- ClogHouse.cheapest(III)I
theorem d111_0 : decode (cm_M 111).2.2.1 0 = .ok (.iload_n 1, 1) := by decide +kernel
theorem d111_1 : decode (cm_M 111).2.2.1 1 = .ok (.iconst 1, 1) := by decide +kernel
theorem d111_2 : decode (cm_M 111).2.2.1 2 = .ok (.bipush 60, 2) := by decide +kernel
theorem d111_4 : decode (cm_M 111).2.2.1 4 = .ok (.invokestatic 81, 3) := by decide +kernel
theorem d111_7 : decode (cm_M 111).2.2.1 7 = .ok (.ifCond .eq 22, 3) := by decide +kernel
theorem d111_10 : decode (cm_M 111).2.2.1 10 = .ok (.iload_n 2, 1) := by decide +kernel
theorem d111_11 : decode (cm_M 111).2.2.1 11 = .ok (.iconst 0, 1) := by decide +kernel
theorem d111_12 : decode (cm_M 111).2.2.1 12 = .ok (.bipush 19, 2) := by decide +kernel
theorem d111_14 : decode (cm_M 111).2.2.1 14 = .ok (.invokestatic 81, 3) := by decide +kernel
theorem d111_17 : decode (cm_M 111).2.2.1 17 = .ok (.ifCond .eq 12, 3) := by decide +kernel
theorem d111_20 : decode (cm_M 111).2.2.1 20 = .ok (.iload_n 3, 1) := by decide +kernel
theorem d111_21 : decode (cm_M 111).2.2.1 21 = .ok (.iconst 0, 1) := by decide +kernel
theorem d111_22 : decode (cm_M 111).2.2.1 22 = .ok (.iconst 1, 1) := by decide +kernel
theorem d111_23 : decode (cm_M 111).2.2.1 23 = .ok (.invokestatic 81, 3) := by decide +kernel
theorem d111_26 : decode (cm_M 111).2.2.1 26 = .ok (.ifCond .ne 5, 3) := by decide +kernel
theorem d111_29 : decode (cm_M 111).2.2.1 29 = .ok (.iconst (-1), 1) := by decide +kernel
theorem d111_30 : decode (cm_M 111).2.2.1 30 = .ok (.ireturn, 1) := by decide +kernel
theorem d111_31 : decode (cm_M 111).2.2.1 31 = .ok (.aload_n 0, 1) := by decide +kernel
theorem d111_32 : decode (cm_M 111).2.2.1 32 = .ok (.getfield 66, 3) := by decide +kernel
theorem d111_35 : decode (cm_M 111).2.2.1 35 = .ok (.iload_n 1, 1) := by decide +kernel
theorem d111_36 : decode (cm_M 111).2.2.1 36 = .ok (.iload_n 2, 1) := by decide +kernel
theorem d111_37 : decode (cm_M 111).2.2.1 37 = .ok (.invokevirtual 309, 3) := by decide +kernel
theorem d111_40 : decode (cm_M 111).2.2.1 40 = .ok (.iload_n 3, 1) := by decide +kernel
theorem d111_41 : decode (cm_M 111).2.2.1 41 = .ok (.ifCond .ne 11, 3) := by decide +kernel
theorem d111_44 : decode (cm_M 111).2.2.1 44 = .ok (.aload_n 0, 1) := by decide +kernel
theorem d111_45 : decode (cm_M 111).2.2.1 45 = .ok (.getfield 66, 3) := by decide +kernel
theorem d111_48 : decode (cm_M 111).2.2.1 48 = .ok (.getfield 313, 3) := by decide +kernel
theorem d111_51 : decode (cm_M 111).2.2.1 51 = .ok (.ireturn, 1) := by decide +kernel
theorem d111_52 : decode (cm_M 111).2.2.1 52 = .ok (.aload_n 0, 1) := by decide +kernel
theorem d111_53 : decode (cm_M 111).2.2.1 53 = .ok (.getfield 66, 3) := by decide +kernel
theorem d111_56 : decode (cm_M 111).2.2.1 56 = .ok (.getfield 316, 3) := by decide +kernel
theorem d111_59 : decode (cm_M 111).2.2.1 59 = .ok (.iload_n 1, 1) := by decide +kernel
theorem d111_60 : decode (cm_M 111).2.2.1 60 = .ok (.if_icmp .ge 13, 3) := by decide +kernel
theorem d111_63 : decode (cm_M 111).2.2.1 63 = .ok (.aload_n 0, 1) := by decide +kernel
theorem d111_64 : decode (cm_M 111).2.2.1 64 = .ok (.getfield 66, 3) := by decide +kernel
theorem d111_67 : decode (cm_M 111).2.2.1 67 = .ok (.getfield 316, 3) := by decide +kernel
theorem d111_70 : decode (cm_M 111).2.2.1 70 = .ok (.goto 4, 3) := by decide +kernel
theorem d111_73 : decode (cm_M 111).2.2.1 73 = .ok (.iconst (-1), 1) := by decide +kernel
theorem d111_74 : decode (cm_M 111).2.2.1 74 = .ok (.ireturn, 1) := by decide +kernel
theorem s111_0 {sc : cmS} {d : Nat} {h : cmH} {Q : Option Value → cmH → Prop} (x1 : Int32) (x2 : Int32) (x3 : Int32) (H : cm_ci sc d 13 [.int x1, .int (1 : Int32), .int (60 : Int32)] h (fun r h' => cm_wp sc (d + 1) 111 7 [some (.ref 0), some (.int x1), some (.int x2), some (.int x3)] [.int r] h' Q)) : cm_wp sc (d + 1) 111 0 [some (.ref 0), some (.int x1), some (.int x2), some (.int x3)] [] h Q :=
  wl_st d111_0 rfl rfl rfl rfl (wl_ic (v := 1) d111_1 rfl (wl_bi (v := 60) d111_2 rfl (wl_ci d111_4 rfl rfl rfl pm10_81 (by decide) (ca_s (Or.inl rfl) rfl (Nat.le_of_ble_eq_true rfl) (Nat.le_of_ble_eq_true rfl)) H)))
theorem s111_7 {sc : cmS} {d : Nat} {h : cmH} {Q : Option Value → cmH → Prop} (x1 : Int32) (x2 : Int32) (x3 : Int32) (sx0 : Int32) (H : (((sx0 = 0) → Q (some (.int (-1 : Int32))) h) ∧ (¬ (sx0 = 0) → cm_ci sc d 13 [.int x2, .int (0 : Int32), .int (19 : Int32)] h (fun r h' => cm_wp sc (d + 1) 111 17 [some (.ref 0), some (.int x1), some (.int x2), some (.int x3)] [.int r] h' Q)))) : cm_wp sc (d + 1) 111 7 [some (.ref 0), some (.int x1), some (.int x2), some (.int x3)] [.int sx0] h Q :=
  wl_cb (b := sx0 = 0) (off := 22) (tgt := 29) (pc3 := 10) (st' := []) d111_7 rfl rfl rfl rfl (by decide) rfl (fun c1 => wl_ic (v := (-1)) d111_29 rfl (wl_rt d111_30 rfl rfl rfl (H.1 c1))) (fun c1 => wl_st d111_10 rfl rfl rfl rfl (wl_ic (v := 0) d111_11 rfl (wl_bi (v := 19) d111_12 rfl (wl_ci d111_14 rfl rfl rfl pm10_81 (by decide) (ca_s (Or.inl rfl) rfl (Nat.le_of_ble_eq_true rfl) (Nat.le_of_ble_eq_true rfl)) (H.2 c1)))))
theorem s111_17 {sc : cmS} {d : Nat} {h : cmH} {Q : Option Value → cmH → Prop} (x1 : Int32) (x2 : Int32) (x3 : Int32) (sx0 : Int32) (H : (((sx0 = 0) → Q (some (.int (-1 : Int32))) h) ∧ (¬ (sx0 = 0) → cm_ci sc d 13 [.int x3, .int (0 : Int32), .int (1 : Int32)] h (fun r h' => cm_wp sc (d + 1) 111 26 [some (.ref 0), some (.int x1), some (.int x2), some (.int x3)] [.int r] h' Q)))) : cm_wp sc (d + 1) 111 17 [some (.ref 0), some (.int x1), some (.int x2), some (.int x3)] [.int sx0] h Q :=
  wl_cb (b := sx0 = 0) (off := 12) (tgt := 29) (pc3 := 20) (st' := []) d111_17 rfl rfl rfl rfl (by decide) rfl (fun c1 => wl_ic (v := (-1)) d111_29 rfl (wl_rt d111_30 rfl rfl rfl (H.1 c1))) (fun c1 => wl_st d111_20 rfl rfl rfl rfl (wl_ic (v := 0) d111_21 rfl (wl_ic (v := 1) d111_22 rfl (wl_ci d111_23 rfl rfl rfl pm10_81 (by decide) (ca_s (Or.inl rfl) rfl (Nat.le_of_ble_eq_true rfl) (Nat.le_of_ble_eq_true rfl)) (H.2 c1)))))
theorem s111_26 {sc : cmS} {d : Nat} {h : cmH} {Q : Option Value → cmH → Prop} (L : LY h) (x1 : Int32) (x2 : Int32) (x3 : Int32) (sx0 : Int32) (H : (((¬ sx0 = 0) → cm_cv sc d 112 [.ref 30, .int x1, .int x2] h (fun h' => cm_wp sc (d + 1) 111 40 [some (.ref 0), some (.int x1), some (.int x2), some (.int x3)] [] h' Q)) ∧ (¬ (¬ sx0 = 0) → Q (some (.int (-1 : Int32))) h))) : cm_wp sc (d + 1) 111 26 [some (.ref 0), some (.int x1), some (.int x2), some (.int x3)] [.int sx0] h Q :=
  wl_cb (b := ¬ sx0 = 0) (off := 5) (tgt := 31) (pc3 := 29) (st' := []) d111_26 rfl rfl rfl rfl (by decide) rfl (fun c1 => wl_st d111_31 rfl rfl rfl rfl (wl_gr (b := 30) d111_32 pf10_66 (ly_k L 0 rfl) rfl (ly_r L 0 8 rfl) (wl_st d111_35 rfl rfl rfl rfl (wl_st d111_36 rfl rfl rfl rfl (wl_cv d111_37 rfl rfl rfl pm10_309 (by decide) (ca_v (Or.inr rfl) rfl (Nat.le_of_ble_eq_true rfl) (Nat.le_of_ble_eq_true rfl) (ly_k L 30 rfl).2 (ly_k L 30 rfl).1 (by decide)) (H.1 c1)))))) (fun c1 => wl_ic (v := (-1)) d111_29 rfl (wl_rt d111_30 rfl rfl rfl (H.2 c1)))
theorem s111_40 {sc : cmS} {d : Nat} {h : cmH} {Q : Option Value → cmH → Prop} (L : LY h) (x1 : Int32) (x2 : Int32) (x3 : Int32) (H : (((¬ x3 = 0) → (((x1 ≤ (cm_I h 30 4)) → Q (some (.int (-1 : Int32))) h) ∧ (¬ (x1 ≤ (cm_I h 30 4)) → Q (some (.int (cm_I h 30 4))) h))) ∧ (¬ (¬ x3 = 0) → Q (some (.int (cm_I h 30 3))) h))) : cm_wp sc d 111 40 [some (.ref 0), some (.int x1), some (.int x2), some (.int x3)] [] h Q :=
  wl_st d111_40 rfl rfl rfl rfl (wl_cb (b := ¬ x3 = 0) (off := 11) (tgt := 52) (pc3 := 44) (st' := []) d111_41 rfl rfl rfl rfl (by decide) rfl (fun c1 => wl_st d111_52 rfl rfl rfl rfl (wl_gr (b := 30) d111_53 pf10_66 (ly_k L 0 rfl) rfl (ly_r L 0 8 rfl) (wl_gf (v := .int (cm_I h 30 4)) d111_56 pf10_316 (ly_k L 30 rfl) rfl (wl_st d111_59 rfl rfl rfl rfl (wl_cb (b := x1 ≤ (cm_I h 30 4)) (off := 13) (tgt := 73) (pc3 := 63) (st' := []) d111_60 rfl rfl rfl rfl (by decide) rfl (fun c2 => wl_ic (v := (-1)) d111_73 rfl (wl_rt d111_74 rfl rfl rfl ((H.1 c1).1 c2))) (fun c2 => wl_st d111_63 rfl rfl rfl rfl (wl_gr (b := 30) d111_64 pf10_66 (ly_k L 0 rfl) rfl (ly_r L 0 8 rfl) (wl_gf (v := .int (cm_I h 30 4)) d111_67 pf10_316 (ly_k L 30 rfl) rfl (wl_go (tgt := 74) d111_70 (by decide) (wl_rt d111_74 rfl rfl rfl ((H.1 c1).2 c2))))))))))) (fun c1 => wl_st d111_44 rfl rfl rfl rfl (wl_gr (b := 30) d111_45 pf10_66 (ly_k L 0 rfl) rfl (ly_r L 0 8 rfl) (wl_gf (v := .int (cm_I h 30 3)) d111_48 pf10_313 (ly_k L 30 rfl) rfl (wl_rt d111_51 rfl rfl rfl (H.2 c1))))))
-- ClogHouse.gauge(IIII)I
theorem d115_0 : decode (cm_M 115).2.2.1 0 = .ok (.aload_n 0, 1) := by decide +kernel
theorem d115_1 : decode (cm_M 115).2.2.1 1 = .ok (.iload_n 1, 1) := by decide +kernel
theorem d115_2 : decode (cm_M 115).2.2.1 2 = .ok (.iload_n 2, 1) := by decide +kernel
theorem d115_3 : decode (cm_M 115).2.2.1 3 = .ok (.invokevirtual 127, 3) := by decide +kernel
theorem d115_6 : decode (cm_M 115).2.2.1 6 = .ok (.ifnull 22, 3) := by decide +kernel
theorem d115_9 : decode (cm_M 115).2.2.1 9 = .ok (.iload_n 3, 1) := by decide +kernel
theorem d115_10 : decode (cm_M 115).2.2.1 10 = .ok (.iconst 1, 1) := by decide +kernel
theorem d115_11 : decode (cm_M 115).2.2.1 11 = .ok (.if_icmp .lt 17, 3) := by decide +kernel
theorem d115_14 : decode (cm_M 115).2.2.1 14 = .ok (.iload 4, 2) := by decide +kernel
theorem d115_16 : decode (cm_M 115).2.2.1 16 = .ok (.sipush 10000, 3) := by decide +kernel
theorem d115_19 : decode (cm_M 115).2.2.1 19 = .ok (.if_icmp .gt 9, 3) := by decide +kernel
theorem d115_22 : decode (cm_M 115).2.2.1 22 = .ok (.iload_n 3, 1) := by decide +kernel
theorem d115_23 : decode (cm_M 115).2.2.1 23 = .ok (.iload 4, 2) := by decide +kernel
theorem d115_25 : decode (cm_M 115).2.2.1 25 = .ok (.if_icmp .le 5, 3) := by decide +kernel
theorem d115_28 : decode (cm_M 115).2.2.1 28 = .ok (.iconst (-1), 1) := by decide +kernel
theorem d115_29 : decode (cm_M 115).2.2.1 29 = .ok (.ireturn, 1) := by decide +kernel
theorem d115_30 : decode (cm_M 115).2.2.1 30 = .ok (.aload_n 0, 1) := by decide +kernel
theorem d115_31 : decode (cm_M 115).2.2.1 31 = .ok (.getfield 73, 3) := by decide +kernel
theorem d115_34 : decode (cm_M 115).2.2.1 34 = .ok (.iload_n 1, 1) := by decide +kernel
theorem d115_35 : decode (cm_M 115).2.2.1 35 = .ok (.bipush 10, 2) := by decide +kernel
theorem d115_37 : decode (cm_M 115).2.2.1 37 = .ok (.imul, 1) := by decide +kernel
theorem d115_38 : decode (cm_M 115).2.2.1 38 = .ok (.iload_n 2, 1) := by decide +kernel
theorem d115_39 : decode (cm_M 115).2.2.1 39 = .ok (.iadd, 1) := by decide +kernel
theorem d115_40 : decode (cm_M 115).2.2.1 40 = .ok (.iload_n 3, 1) := by decide +kernel
theorem d115_41 : decode (cm_M 115).2.2.1 41 = .ok (.iload 4, 2) := by decide +kernel
theorem d115_43 : decode (cm_M 115).2.2.1 43 = .ok (.aload_n 0, 1) := by decide +kernel
theorem d115_44 : decode (cm_M 115).2.2.1 44 = .ok (.getfield 234, 3) := by decide +kernel
theorem d115_47 : decode (cm_M 115).2.2.1 47 = .ok (.invokevirtual 319, 3) := by decide +kernel
theorem d115_50 : decode (cm_M 115).2.2.1 50 = .ok (.ireturn, 1) := by decide +kernel
theorem s115_0 {sc : cmS} {d : Nat} {h : cmH} {Q : Option Value → cmH → Prop} (L : LY h) (x1 : Int32) (x2 : Int32) (x3 : Int32) (x4 : Int32) (H : cm_cq sc d 22 [.ref 0, .int x1, .int x2] h (fun r h' => cm_wp sc (d + 1) 115 6 [some (.ref 0), some (.int x1), some (.int x2), some (.int x3), some (.int x4)] [va_rf r] h' Q)) : cm_wp sc (d + 1) 115 0 [some (.ref 0), some (.int x1), some (.int x2), some (.int x3), some (.int x4)] [] h Q :=
  wl_st d115_0 rfl rfl rfl rfl (wl_st d115_1 rfl rfl rfl rfl (wl_st d115_2 rfl rfl rfl rfl (wl_cq d115_3 rfl rfl rfl pm10_127 (by decide) (ca_v (Or.inl rfl) rfl (Nat.le_of_ble_eq_true rfl) (Nat.le_of_ble_eq_true rfl) (ly_k L 0 rfl).2 (ly_k L 0 rfl).1 (by decide)) H)))
theorem s115_6 {sc : cmS} {d : Nat} {h : cmH} {Q : Option Value → cmH → Prop} (L : LY h) (x1 : Int32) (x2 : Int32) (x3 : Int32) (x4 : Int32) (so0 : Option Nat) (H : ((so0 = none → Q (some (.int (-1 : Int32))) h) ∧ (∀ b2, so0 = some b2 → (((x3 < (1 : Int32)) → Q (some (.int (-1 : Int32))) h) ∧ (¬ (x3 < (1 : Int32)) → ((((10000 : Int32) < x4) → Q (some (.int (-1 : Int32))) h) ∧ (¬ ((10000 : Int32) < x4) → (((x3 ≤ x4) → cm_ci sc d 116 [.ref 33, .int ((x1 * (10 : Int32)) + x2), .int x3, .int x4, .int (cm_I h 0 12)] h (fun r h' => cm_wp sc (d + 1) 115 50 [some (.ref 0), some (.int x1), some (.int x2), some (.int x3), some (.int x4)] [.int r] h' Q)) ∧ (¬ (x3 ≤ x4) → Q (some (.int (-1 : Int32))) h))))))))) : cm_wp sc (d + 1) 115 6 [some (.ref 0), some (.int x1), some (.int x2), some (.int x3), some (.int x4)] [va_rf so0] h Q :=
  wl_nu (o := so0) (tgt := 28) (pc3 := 9) d115_6 (by decide) rfl (fun c1 => wl_ic (v := (-1)) d115_28 rfl (wl_rt d115_29 rfl rfl rfl (H.1 c1))) (fun b2 c1 => cm_rw (fun oo => cm_wp sc (d + 1) 115 9 [some (.ref 0), some (.int x1), some (.int x2), some (.int x3), some (.int x4)] [] h Q) c1 (wl_st d115_9 rfl rfl rfl rfl (wl_ic (v := 1) d115_10 rfl (wl_cb (b := x3 < (1 : Int32)) (off := 17) (tgt := 28) (pc3 := 14) (st' := []) d115_11 rfl rfl rfl rfl (by decide) rfl (fun c3 => wl_ic (v := (-1)) d115_28 rfl (wl_rt d115_29 rfl rfl rfl ((H.2 b2 c1).1 c3))) (fun c3 => wl_st d115_14 rfl rfl rfl rfl (wl_si (v := 10000) d115_16 rfl (wl_cb (b := (10000 : Int32) < x4) (off := 9) (tgt := 28) (pc3 := 22) (st' := []) d115_19 rfl rfl rfl rfl (by decide) rfl (fun c4 => wl_ic (v := (-1)) d115_28 rfl (wl_rt d115_29 rfl rfl rfl (((H.2 b2 c1).2 c3).1 c4))) (fun c4 => wl_st d115_22 rfl rfl rfl rfl (wl_st d115_23 rfl rfl rfl rfl (wl_cb (b := x3 ≤ x4) (off := 5) (tgt := 30) (pc3 := 28) (st' := []) d115_25 rfl rfl rfl rfl (by decide) rfl (fun c5 => wl_st d115_30 rfl rfl rfl rfl (wl_gr (b := 33) d115_31 pf10_73 (ly_k L 0 rfl) rfl (ly_r L 0 9 rfl) (wl_st d115_34 rfl rfl rfl rfl (wl_bi (v := 10) d115_35 rfl (wl_st d115_37 rfl rfl rfl rfl (wl_st d115_38 rfl rfl rfl rfl (wl_st d115_39 rfl rfl rfl rfl (wl_st d115_40 rfl rfl rfl rfl (wl_st d115_41 rfl rfl rfl rfl (wl_st d115_43 rfl rfl rfl rfl (wl_gf (v := .int (cm_I h 0 12)) d115_44 pf10_234 (ly_k L 0 rfl) rfl (wl_ci d115_47 rfl rfl rfl pm10_319 (by decide) (ca_v (Or.inr rfl) rfl (Nat.le_of_ble_eq_true rfl) (Nat.le_of_ble_eq_true rfl) (ly_k L 33 rfl).2 (ly_k L 33 rfl).1 (by decide)) ((((H.2 b2 c1).2 c3).2 c4).1 c5))))))))))))) (fun c5 => wl_ic (v := (-1)) d115_28 rfl (wl_rt d115_29 rfl rfl rfl ((((H.2 b2 c1).2 c3).2 c4).2 c5)))))))))))))
theorem s115_50 {sc : cmS} {d : Nat} {h : cmH} {Q : Option Value → cmH → Prop} (x1 : Int32) (x2 : Int32) (x3 : Int32) (x4 : Int32) (sx0 : Int32) (H : Q (some (.int sx0)) h) : cm_wp sc d 115 50 [some (.ref 0), some (.int x1), some (.int x2), some (.int x3), some (.int x4)] [.int sx0] h Q :=
  wl_rt d115_50 rfl rfl rfl H
-- ClogHouse.back(IIII)I
theorem d117_0 : decode (cm_M 117).2.2.1 0 = .ok (.aload_n 0, 1) := by decide +kernel
theorem d117_1 : decode (cm_M 117).2.2.1 1 = .ok (.iload_n 1, 1) := by decide +kernel
theorem d117_2 : decode (cm_M 117).2.2.1 2 = .ok (.iload_n 2, 1) := by decide +kernel
theorem d117_3 : decode (cm_M 117).2.2.1 3 = .ok (.invokevirtual 127, 3) := by decide +kernel
theorem d117_6 : decode (cm_M 117).2.2.1 6 = .ok (.astore 5, 2) := by decide +kernel
theorem d117_8 : decode (cm_M 117).2.2.1 8 = .ok (.aload 5, 2) := by decide +kernel
theorem d117_10 : decode (cm_M 117).2.2.1 10 = .ok (.ifnull 25, 3) := by decide +kernel
theorem d117_13 : decode (cm_M 117).2.2.1 13 = .ok (.iload_n 3, 1) := by decide +kernel
theorem d117_14 : decode (cm_M 117).2.2.1 14 = .ok (.iconst 0, 1) := by decide +kernel
theorem d117_15 : decode (cm_M 117).2.2.1 15 = .ok (.aload_n 0, 1) := by decide +kernel
theorem d117_16 : decode (cm_M 117).2.2.1 16 = .ok (.getfield 234, 3) := by decide +kernel
theorem d117_19 : decode (cm_M 117).2.2.1 19 = .ok (.invokestatic 81, 3) := by decide +kernel
theorem d117_22 : decode (cm_M 117).2.2.1 22 = .ok (.ifCond .eq 13, 3) := by decide +kernel
theorem d117_25 : decode (cm_M 117).2.2.1 25 = .ok (.iload 4, 2) := by decide +kernel
theorem d117_27 : decode (cm_M 117).2.2.1 27 = .ok (.iconst 0, 1) := by decide +kernel
theorem d117_28 : decode (cm_M 117).2.2.1 28 = .ok (.iconst 1, 1) := by decide +kernel
theorem d117_29 : decode (cm_M 117).2.2.1 29 = .ok (.invokestatic 81, 3) := by decide +kernel
theorem d117_32 : decode (cm_M 117).2.2.1 32 = .ok (.ifCond .ne 5, 3) := by decide +kernel
theorem d117_35 : decode (cm_M 117).2.2.1 35 = .ok (.iconst (-1), 1) := by decide +kernel
theorem d117_36 : decode (cm_M 117).2.2.1 36 = .ok (.ireturn, 1) := by decide +kernel
theorem d117_37 : decode (cm_M 117).2.2.1 37 = .ok (.aload_n 0, 1) := by decide +kernel
theorem d117_38 : decode (cm_M 117).2.2.1 38 = .ok (.getfield 73, 3) := by decide +kernel
theorem d117_41 : decode (cm_M 117).2.2.1 41 = .ok (.iload_n 1, 1) := by decide +kernel
theorem d117_42 : decode (cm_M 117).2.2.1 42 = .ok (.bipush 10, 2) := by decide +kernel
theorem d117_44 : decode (cm_M 117).2.2.1 44 = .ok (.imul, 1) := by decide +kernel
theorem d117_45 : decode (cm_M 117).2.2.1 45 = .ok (.iload_n 2, 1) := by decide +kernel
theorem d117_46 : decode (cm_M 117).2.2.1 46 = .ok (.iadd, 1) := by decide +kernel
theorem d117_47 : decode (cm_M 117).2.2.1 47 = .ok (.iload_n 3, 1) := by decide +kernel
theorem d117_48 : decode (cm_M 117).2.2.1 48 = .ok (.invokevirtual 323, 3) := by decide +kernel
theorem d117_51 : decode (cm_M 117).2.2.1 51 = .ok (.iload 4, 2) := by decide +kernel
theorem d117_53 : decode (cm_M 117).2.2.1 53 = .ok (.ifCond .ne 15, 3) := by decide +kernel
theorem d117_56 : decode (cm_M 117).2.2.1 56 = .ok (.aload_n 0, 1) := by decide +kernel
theorem d117_57 : decode (cm_M 117).2.2.1 57 = .ok (.getfield 73, 3) := by decide +kernel
theorem d117_60 : decode (cm_M 117).2.2.1 60 = .ok (.aload 5, 2) := by decide +kernel
theorem d117_62 : decode (cm_M 117).2.2.1 62 = .ok (.invokevirtual 326, 3) := by decide +kernel
theorem d117_65 : decode (cm_M 117).2.2.1 65 = .ok (.goto 12, 3) := by decide +kernel
theorem d117_68 : decode (cm_M 117).2.2.1 68 = .ok (.aload_n 0, 1) := by decide +kernel
theorem d117_69 : decode (cm_M 117).2.2.1 69 = .ok (.getfield 73, 3) := by decide +kernel
theorem d117_72 : decode (cm_M 117).2.2.1 72 = .ok (.aload 5, 2) := by decide +kernel
theorem d117_74 : decode (cm_M 117).2.2.1 74 = .ok (.invokevirtual 330, 3) := by decide +kernel
theorem d117_77 : decode (cm_M 117).2.2.1 77 = .ok (.ireturn, 1) := by decide +kernel
theorem s117_0 {sc : cmS} {d : Nat} {h : cmH} {Q : Option Value → cmH → Prop} (L : LY h) (x1 : Int32) (x2 : Int32) (x3 : Int32) (x4 : Int32) (u5 : Option Value) (H : cm_cq sc d 22 [.ref 0, .int x1, .int x2] h (fun r h' => cm_wp sc (d + 1) 117 6 [some (.ref 0), some (.int x1), some (.int x2), some (.int x3), some (.int x4), u5] [va_rf r] h' Q)) : cm_wp sc (d + 1) 117 0 [some (.ref 0), some (.int x1), some (.int x2), some (.int x3), some (.int x4), u5] [] h Q :=
  wl_st d117_0 rfl rfl rfl rfl (wl_st d117_1 rfl rfl rfl rfl (wl_st d117_2 rfl rfl rfl rfl (wl_cq d117_3 rfl rfl rfl pm10_127 (by decide) (ca_v (Or.inl rfl) rfl (Nat.le_of_ble_eq_true rfl) (Nat.le_of_ble_eq_true rfl) (ly_k L 0 rfl).2 (ly_k L 0 rfl).1 (by decide)) H)))
theorem s117_6 {sc : cmS} {d : Nat} {h : cmH} {Q : Option Value → cmH → Prop} (L : LY h) (x1 : Int32) (x2 : Int32) (x3 : Int32) (x4 : Int32) (u5 : Option Value) (so0 : Option Nat) (H : ((so0 = none → Q (some (.int (-1 : Int32))) h) ∧ (∀ b2, so0 = some b2 → cm_ci sc d 13 [.int x3, .int (0 : Int32), .int (cm_I h 0 12)] h (fun r h' => cm_wp sc (d + 1) 117 22 [some (.ref 0), some (.int x1), some (.int x2), some (.int x3), some (.int x4), some (.ref b2)] [.int r] h' Q)))) : cm_wp sc (d + 1) 117 6 [some (.ref 0), some (.int x1), some (.int x2), some (.int x3), some (.int x4), u5] [va_rf so0] h Q :=
  wl_as (k := 5) (ls' := [some (.ref 0), some (.int x1), some (.int x2), some (.int x3), some (.int x4), some (va_rf so0)]) d117_6 (Or.inl ⟨rfl, rfl⟩) (Nat.le_of_ble_eq_true rfl) rfl (wl_al (k := 5) d117_8 (Or.inl ⟨rfl, rfl⟩) rfl (wl_nu (o := so0) (tgt := 35) (pc3 := 13) d117_10 (by decide) rfl (fun c1 => wl_ic (v := (-1)) d117_35 rfl (wl_rt d117_36 rfl rfl rfl (H.1 c1))) (fun b2 c1 => cm_rw (fun oo => cm_wp sc (d + 1) 117 13 [some (.ref 0), some (.int x1), some (.int x2), some (.int x3), some (.int x4), some (va_rf oo)] [] h Q) c1 (wl_st d117_13 rfl rfl rfl rfl (wl_ic (v := 0) d117_14 rfl (wl_st d117_15 rfl rfl rfl rfl (wl_gf (v := .int (cm_I h 0 12)) d117_16 pf10_234 (ly_k L 0 rfl) rfl (wl_ci d117_19 rfl rfl rfl pm10_81 (by decide) (ca_s (Or.inl rfl) rfl (Nat.le_of_ble_eq_true rfl) (Nat.le_of_ble_eq_true rfl)) (H.2 b2 c1)))))))))
theorem s117_22 {sc : cmS} {d : Nat} {h : cmH} {Q : Option Value → cmH → Prop} (x1 : Int32) (x2 : Int32) (x3 : Int32) (x4 : Int32) (o5 : Option Nat) (sx0 : Int32) (H : (((sx0 = 0) → Q (some (.int (-1 : Int32))) h) ∧ (¬ (sx0 = 0) → cm_ci sc d 13 [.int x4, .int (0 : Int32), .int (1 : Int32)] h (fun r h' => cm_wp sc (d + 1) 117 32 [some (.ref 0), some (.int x1), some (.int x2), some (.int x3), some (.int x4), some (va_rf o5)] [.int r] h' Q)))) : cm_wp sc (d + 1) 117 22 [some (.ref 0), some (.int x1), some (.int x2), some (.int x3), some (.int x4), some (va_rf o5)] [.int sx0] h Q :=
  wl_cb (b := sx0 = 0) (off := 13) (tgt := 35) (pc3 := 25) (st' := []) d117_22 rfl rfl rfl rfl (by decide) rfl (fun c1 => wl_ic (v := (-1)) d117_35 rfl (wl_rt d117_36 rfl rfl rfl (H.1 c1))) (fun c1 => wl_st d117_25 rfl rfl rfl rfl (wl_ic (v := 0) d117_27 rfl (wl_ic (v := 1) d117_28 rfl (wl_ci d117_29 rfl rfl rfl pm10_81 (by decide) (ca_s (Or.inl rfl) rfl (Nat.le_of_ble_eq_true rfl) (Nat.le_of_ble_eq_true rfl)) (H.2 c1)))))
theorem s117_32 {sc : cmS} {d : Nat} {h : cmH} {Q : Option Value → cmH → Prop} (L : LY h) (x1 : Int32) (x2 : Int32) (x3 : Int32) (x4 : Int32) (o5 : Option Nat) (sx0 : Int32) (H : (((¬ sx0 = 0) → cm_cv sc d 118 [.ref 33, .int ((x1 * (10 : Int32)) + x2), .int x3] h (fun h' => cm_wp sc (d + 1) 117 51 [some (.ref 0), some (.int x1), some (.int x2), some (.int x3), some (.int x4), some (va_rf o5)] [] h' Q)) ∧ (¬ (¬ sx0 = 0) → Q (some (.int (-1 : Int32))) h))) : cm_wp sc (d + 1) 117 32 [some (.ref 0), some (.int x1), some (.int x2), some (.int x3), some (.int x4), some (va_rf o5)] [.int sx0] h Q :=
  wl_cb (b := ¬ sx0 = 0) (off := 5) (tgt := 37) (pc3 := 35) (st' := []) d117_32 rfl rfl rfl rfl (by decide) rfl (fun c1 => wl_st d117_37 rfl rfl rfl rfl (wl_gr (b := 33) d117_38 pf10_73 (ly_k L 0 rfl) rfl (ly_r L 0 9 rfl) (wl_st d117_41 rfl rfl rfl rfl (wl_bi (v := 10) d117_42 rfl (wl_st d117_44 rfl rfl rfl rfl (wl_st d117_45 rfl rfl rfl rfl (wl_st d117_46 rfl rfl rfl rfl (wl_st d117_47 rfl rfl rfl rfl (wl_cv d117_48 rfl rfl rfl pm10_323 (by decide) (ca_v (Or.inr rfl) rfl (Nat.le_of_ble_eq_true rfl) (Nat.le_of_ble_eq_true rfl) (ly_k L 33 rfl).2 (ly_k L 33 rfl).1 (by decide)) (H.1 c1)))))))))) (fun c1 => wl_ic (v := (-1)) d117_35 rfl (wl_rt d117_36 rfl rfl rfl (H.2 c1)))
theorem s117_51 {sc : cmS} {d : Nat} {h : cmH} {Q : Option Value → cmH → Prop} (L : LY h) (x1 : Int32) (x2 : Int32) (x3 : Int32) (x4 : Int32) (o5 : Option Nat) (H : (((¬ x4 = 0) → ∃ b2, o5 = some b2 ∧ cm_ci sc d 123 [.ref 33, .ref b2] h (fun r h' => cm_wp sc (d + 1) 117 77 [some (.ref 0), some (.int x1), some (.int x2), some (.int x3), some (.int x4), some (.ref b2)] [.int r] h' Q)) ∧ (¬ (¬ x4 = 0) → ∃ b3, o5 = some b3 ∧ cm_ci sc d 121 [.ref 33, .ref b3] h (fun r h' => cm_wp sc (d + 1) 117 65 [some (.ref 0), some (.int x1), some (.int x2), some (.int x3), some (.int x4), some (.ref b3)] [.int r] h' Q)))) : cm_wp sc (d + 1) 117 51 [some (.ref 0), some (.int x1), some (.int x2), some (.int x3), some (.int x4), some (va_rf o5)] [] h Q :=
  wl_st d117_51 rfl rfl rfl rfl (wl_cb (b := ¬ x4 = 0) (off := 15) (tgt := 68) (pc3 := 56) (st' := []) d117_53 rfl rfl rfl rfl (by decide) rfl (fun c1 => wl_st d117_68 rfl rfl rfl rfl (wl_gr (b := 33) d117_69 pf10_73 (ly_k L 0 rfl) rfl (ly_r L 0 9 rfl) (Exists.elim (H.1 c1) fun b2 b2q => And.elim (fun b2e b2k => cm_rw (fun oo => cm_wp sc (d + 1) 117 72 [some (.ref 0), some (.int x1), some (.int x2), some (.int x3), some (.int x4), some (va_rf oo)] [.ref 33] h Q) b2e (wl_st d117_72 rfl rfl rfl rfl (wl_ci d117_74 rfl rfl rfl pm10_330 (by decide) (ca_v (Or.inr rfl) rfl (Nat.le_of_ble_eq_true rfl) (Nat.le_of_ble_eq_true rfl) (ly_k L 33 rfl).2 (ly_k L 33 rfl).1 (by decide)) b2k))) b2q))) (fun c1 => wl_st d117_56 rfl rfl rfl rfl (wl_gr (b := 33) d117_57 pf10_73 (ly_k L 0 rfl) rfl (ly_r L 0 9 rfl) (Exists.elim (H.2 c1) fun b3 b3q => And.elim (fun b3e b3k => cm_rw (fun oo => cm_wp sc (d + 1) 117 60 [some (.ref 0), some (.int x1), some (.int x2), some (.int x3), some (.int x4), some (va_rf oo)] [.ref 33] h Q) b3e (wl_st d117_60 rfl rfl rfl rfl (wl_ci d117_62 rfl rfl rfl pm10_326 (by decide) (ca_v (Or.inr rfl) rfl (Nat.le_of_ble_eq_true rfl) (Nat.le_of_ble_eq_true rfl) (ly_k L 33 rfl).2 (ly_k L 33 rfl).1 (by decide)) b3k))) b3q))))
theorem s117_65 {sc : cmS} {d : Nat} {h : cmH} {Q : Option Value → cmH → Prop} (x1 : Int32) (x2 : Int32) (x3 : Int32) (x4 : Int32) (o5 : Option Nat) (sx0 : Int32) (H : cm_wp sc d 117 77 [some (.ref 0), some (.int x1), some (.int x2), some (.int x3), some (.int x4), some (va_rf o5)] [.int sx0] h Q) : cm_wp sc d 117 65 [some (.ref 0), some (.int x1), some (.int x2), some (.int x3), some (.int x4), some (va_rf o5)] [.int sx0] h Q :=
  wl_go (tgt := 77) d117_65 (by decide) (H)
theorem s117_77 {sc : cmS} {d : Nat} {h : cmH} {Q : Option Value → cmH → Prop} (x1 : Int32) (x2 : Int32) (x3 : Int32) (x4 : Int32) (o5 : Option Nat) (sx0 : Int32) (H : Q (some (.int sx0)) h) : cm_wp sc d 117 77 [some (.ref 0), some (.int x1), some (.int x2), some (.int x3), some (.int x4), some (va_rf o5)] [.int sx0] h Q :=
  wl_rt d117_77 rfl rfl rfl H
-- ClogHouse.barred(III)I
theorem d124_0 : decode (cm_M 124).2.2.1 0 = .ok (.aload_n 0, 1) := by decide +kernel
theorem d124_1 : decode (cm_M 124).2.2.1 1 = .ok (.iload_n 1, 1) := by decide +kernel
theorem d124_2 : decode (cm_M 124).2.2.1 2 = .ok (.iload_n 2, 1) := by decide +kernel
theorem d124_3 : decode (cm_M 124).2.2.1 3 = .ok (.invokevirtual 127, 3) := by decide +kernel
theorem d124_6 : decode (cm_M 124).2.2.1 6 = .ok (.astore 4, 2) := by decide +kernel
theorem d124_8 : decode (cm_M 124).2.2.1 8 = .ok (.aload 4, 2) := by decide +kernel
theorem d124_10 : decode (cm_M 124).2.2.1 10 = .ok (.ifnull 15, 3) := by decide +kernel
theorem d124_13 : decode (cm_M 124).2.2.1 13 = .ok (.iload_n 3, 1) := by decide +kernel
theorem d124_14 : decode (cm_M 124).2.2.1 14 = .ok (.iconst 0, 1) := by decide +kernel
theorem d124_15 : decode (cm_M 124).2.2.1 15 = .ok (.aload_n 0, 1) := by decide +kernel
theorem d124_16 : decode (cm_M 124).2.2.1 16 = .ok (.getfield 234, 3) := by decide +kernel
theorem d124_19 : decode (cm_M 124).2.2.1 19 = .ok (.invokestatic 81, 3) := by decide +kernel
theorem d124_22 : decode (cm_M 124).2.2.1 22 = .ok (.ifCond .ne 5, 3) := by decide +kernel
theorem d124_25 : decode (cm_M 124).2.2.1 25 = .ok (.iconst (-1), 1) := by decide +kernel
theorem d124_26 : decode (cm_M 124).2.2.1 26 = .ok (.ireturn, 1) := by decide +kernel
theorem d124_27 : decode (cm_M 124).2.2.1 27 = .ok (.aload_n 0, 1) := by decide +kernel
theorem d124_28 : decode (cm_M 124).2.2.1 28 = .ok (.getfield 73, 3) := by decide +kernel
theorem d124_31 : decode (cm_M 124).2.2.1 31 = .ok (.iload_n 1, 1) := by decide +kernel
theorem d124_32 : decode (cm_M 124).2.2.1 32 = .ok (.bipush 10, 2) := by decide +kernel
theorem d124_34 : decode (cm_M 124).2.2.1 34 = .ok (.imul, 1) := by decide +kernel
theorem d124_35 : decode (cm_M 124).2.2.1 35 = .ok (.iload_n 2, 1) := by decide +kernel
theorem d124_36 : decode (cm_M 124).2.2.1 36 = .ok (.iadd, 1) := by decide +kernel
theorem d124_37 : decode (cm_M 124).2.2.1 37 = .ok (.iload_n 3, 1) := by decide +kernel
theorem d124_38 : decode (cm_M 124).2.2.1 38 = .ok (.aload 4, 2) := by decide +kernel
theorem d124_40 : decode (cm_M 124).2.2.1 40 = .ok (.invokevirtual 333, 3) := by decide +kernel
theorem d124_43 : decode (cm_M 124).2.2.1 43 = .ok (.ireturn, 1) := by decide +kernel
theorem s124_0 {sc : cmS} {d : Nat} {h : cmH} {Q : Option Value → cmH → Prop} (L : LY h) (x1 : Int32) (x2 : Int32) (x3 : Int32) (u4 : Option Value) (H : cm_cq sc d 22 [.ref 0, .int x1, .int x2] h (fun r h' => cm_wp sc (d + 1) 124 6 [some (.ref 0), some (.int x1), some (.int x2), some (.int x3), u4] [va_rf r] h' Q)) : cm_wp sc (d + 1) 124 0 [some (.ref 0), some (.int x1), some (.int x2), some (.int x3), u4] [] h Q :=
  wl_st d124_0 rfl rfl rfl rfl (wl_st d124_1 rfl rfl rfl rfl (wl_st d124_2 rfl rfl rfl rfl (wl_cq d124_3 rfl rfl rfl pm10_127 (by decide) (ca_v (Or.inl rfl) rfl (Nat.le_of_ble_eq_true rfl) (Nat.le_of_ble_eq_true rfl) (ly_k L 0 rfl).2 (ly_k L 0 rfl).1 (by decide)) H)))
theorem s124_6 {sc : cmS} {d : Nat} {h : cmH} {Q : Option Value → cmH → Prop} (L : LY h) (x1 : Int32) (x2 : Int32) (x3 : Int32) (u4 : Option Value) (so0 : Option Nat) (H : ((so0 = none → Q (some (.int (-1 : Int32))) h) ∧ (∀ b2, so0 = some b2 → cm_ci sc d 13 [.int x3, .int (0 : Int32), .int (cm_I h 0 12)] h (fun r h' => cm_wp sc (d + 1) 124 22 [some (.ref 0), some (.int x1), some (.int x2), some (.int x3), some (.ref b2)] [.int r] h' Q)))) : cm_wp sc (d + 1) 124 6 [some (.ref 0), some (.int x1), some (.int x2), some (.int x3), u4] [va_rf so0] h Q :=
  wl_as (k := 4) (ls' := [some (.ref 0), some (.int x1), some (.int x2), some (.int x3), some (va_rf so0)]) d124_6 (Or.inl ⟨rfl, rfl⟩) (Nat.le_of_ble_eq_true rfl) rfl (wl_al (k := 4) d124_8 (Or.inl ⟨rfl, rfl⟩) rfl (wl_nu (o := so0) (tgt := 25) (pc3 := 13) d124_10 (by decide) rfl (fun c1 => wl_ic (v := (-1)) d124_25 rfl (wl_rt d124_26 rfl rfl rfl (H.1 c1))) (fun b2 c1 => cm_rw (fun oo => cm_wp sc (d + 1) 124 13 [some (.ref 0), some (.int x1), some (.int x2), some (.int x3), some (va_rf oo)] [] h Q) c1 (wl_st d124_13 rfl rfl rfl rfl (wl_ic (v := 0) d124_14 rfl (wl_st d124_15 rfl rfl rfl rfl (wl_gf (v := .int (cm_I h 0 12)) d124_16 pf10_234 (ly_k L 0 rfl) rfl (wl_ci d124_19 rfl rfl rfl pm10_81 (by decide) (ca_s (Or.inl rfl) rfl (Nat.le_of_ble_eq_true rfl) (Nat.le_of_ble_eq_true rfl)) (H.2 b2 c1)))))))))
theorem s124_22 {sc : cmS} {d : Nat} {h : cmH} {Q : Option Value → cmH → Prop} (L : LY h) (x1 : Int32) (x2 : Int32) (x3 : Int32) (o4 : Option Nat) (sx0 : Int32) (H : (((¬ sx0 = 0) → ∃ b2, o4 = some b2 ∧ cm_ci sc d 125 [.ref 33, .int ((x1 * (10 : Int32)) + x2), .int x3, .ref b2] h (fun r h' => cm_wp sc (d + 1) 124 43 [some (.ref 0), some (.int x1), some (.int x2), some (.int x3), some (.ref b2)] [.int r] h' Q)) ∧ (¬ (¬ sx0 = 0) → Q (some (.int (-1 : Int32))) h))) : cm_wp sc (d + 1) 124 22 [some (.ref 0), some (.int x1), some (.int x2), some (.int x3), some (va_rf o4)] [.int sx0] h Q :=
  wl_cb (b := ¬ sx0 = 0) (off := 5) (tgt := 27) (pc3 := 25) (st' := []) d124_22 rfl rfl rfl rfl (by decide) rfl (fun c1 => wl_st d124_27 rfl rfl rfl rfl (wl_gr (b := 33) d124_28 pf10_73 (ly_k L 0 rfl) rfl (ly_r L 0 9 rfl) (wl_st d124_31 rfl rfl rfl rfl (wl_bi (v := 10) d124_32 rfl (wl_st d124_34 rfl rfl rfl rfl (wl_st d124_35 rfl rfl rfl rfl (wl_st d124_36 rfl rfl rfl rfl (wl_st d124_37 rfl rfl rfl rfl (Exists.elim (H.1 c1) fun b2 b2q => And.elim (fun b2e b2k => cm_rw (fun oo => cm_wp sc (d + 1) 124 38 [some (.ref 0), some (.int x1), some (.int x2), some (.int x3), some (va_rf oo)] [.int x3, .int ((x1 * (10 : Int32)) + x2), .ref 33] h Q) b2e (wl_st d124_38 rfl rfl rfl rfl (wl_ci d124_40 rfl rfl rfl pm10_333 (by decide) (ca_v (Or.inr rfl) rfl (Nat.le_of_ble_eq_true rfl) (Nat.le_of_ble_eq_true rfl) (ly_k L 33 rfl).2 (ly_k L 33 rfl).1 (by decide)) b2k))) b2q))))))))) (fun c1 => wl_ic (v := (-1)) d124_25 rfl (wl_rt d124_26 rfl rfl rfl (H.2 c1)))
theorem s124_43 {sc : cmS} {d : Nat} {h : cmH} {Q : Option Value → cmH → Prop} (x1 : Int32) (x2 : Int32) (x3 : Int32) (o4 : Option Nat) (sx0 : Int32) (H : Q (some (.int sx0)) h) : cm_wp sc d 124 43 [some (.ref 0), some (.int x1), some (.int x2), some (.int x3), some (va_rf o4)] [.int sx0] h Q :=
  wl_rt d124_43 rfl rfl rfl H
-- ClogHouse.led(II)I
theorem d126_0 : decode (cm_M 126).2.2.1 0 = .ok (.iload_n 1, 1) := by decide +kernel
theorem d126_1 : decode (cm_M 126).2.2.1 1 = .ok (.invokestatic 77, 3) := by decide +kernel
theorem d126_4 : decode (cm_M 126).2.2.1 4 = .ok (.ifCond .ne 5, 3) := by decide +kernel
theorem d126_7 : decode (cm_M 126).2.2.1 7 = .ok (.iconst (-1), 1) := by decide +kernel
theorem d126_8 : decode (cm_M 126).2.2.1 8 = .ok (.ireturn, 1) := by decide +kernel
theorem d126_9 : decode (cm_M 126).2.2.1 9 = .ok (.iload_n 2, 1) := by decide +kernel
theorem d126_10 : decode (cm_M 126).2.2.1 10 = .ok (.tableswitch 94 0 5 #[38, 48, 54, 64, 74, 84], 38) := by decide +kernel
theorem d126_48 : decode (cm_M 126).2.2.1 48 = .ok (.aload_n 0, 1) := by decide +kernel
theorem d126_49 : decode (cm_M 126).2.2.1 49 = .ok (.getfield 52, 3) := by decide +kernel
theorem d126_52 : decode (cm_M 126).2.2.1 52 = .ok (.getfield 337, 3) := by decide +kernel
theorem d126_55 : decode (cm_M 126).2.2.1 55 = .ok (.iload_n 1, 1) := by decide +kernel
theorem d126_56 : decode (cm_M 126).2.2.1 56 = .ok (.iaload, 1) := by decide +kernel
theorem d126_57 : decode (cm_M 126).2.2.1 57 = .ok (.ireturn, 1) := by decide +kernel
theorem d126_58 : decode (cm_M 126).2.2.1 58 = .ok (.aload_n 0, 1) := by decide +kernel
theorem d126_59 : decode (cm_M 126).2.2.1 59 = .ok (.iload_n 1, 1) := by decide +kernel
theorem d126_60 : decode (cm_M 126).2.2.1 60 = .ok (.invokevirtual 340, 3) := by decide +kernel
theorem d126_63 : decode (cm_M 126).2.2.1 63 = .ok (.ireturn, 1) := by decide +kernel
theorem d126_64 : decode (cm_M 126).2.2.1 64 = .ok (.aload_n 0, 1) := by decide +kernel
theorem d126_65 : decode (cm_M 126).2.2.1 65 = .ok (.getfield 52, 3) := by decide +kernel
theorem d126_68 : decode (cm_M 126).2.2.1 68 = .ok (.getfield 343, 3) := by decide +kernel
theorem d126_71 : decode (cm_M 126).2.2.1 71 = .ok (.iload_n 1, 1) := by decide +kernel
theorem d126_72 : decode (cm_M 126).2.2.1 72 = .ok (.iaload, 1) := by decide +kernel
theorem d126_73 : decode (cm_M 126).2.2.1 73 = .ok (.ireturn, 1) := by decide +kernel
theorem d126_74 : decode (cm_M 126).2.2.1 74 = .ok (.aload_n 0, 1) := by decide +kernel
theorem d126_75 : decode (cm_M 126).2.2.1 75 = .ok (.getfield 52, 3) := by decide +kernel
theorem d126_78 : decode (cm_M 126).2.2.1 78 = .ok (.getfield 346, 3) := by decide +kernel
theorem d126_81 : decode (cm_M 126).2.2.1 81 = .ok (.iload_n 1, 1) := by decide +kernel
theorem d126_82 : decode (cm_M 126).2.2.1 82 = .ok (.iaload, 1) := by decide +kernel
theorem d126_83 : decode (cm_M 126).2.2.1 83 = .ok (.ireturn, 1) := by decide +kernel
theorem d126_84 : decode (cm_M 126).2.2.1 84 = .ok (.aload_n 0, 1) := by decide +kernel
theorem d126_85 : decode (cm_M 126).2.2.1 85 = .ok (.getfield 52, 3) := by decide +kernel
theorem d126_88 : decode (cm_M 126).2.2.1 88 = .ok (.getfield 349, 3) := by decide +kernel
theorem d126_91 : decode (cm_M 126).2.2.1 91 = .ok (.iload_n 1, 1) := by decide +kernel
theorem d126_92 : decode (cm_M 126).2.2.1 92 = .ok (.iaload, 1) := by decide +kernel
theorem d126_93 : decode (cm_M 126).2.2.1 93 = .ok (.ireturn, 1) := by decide +kernel
theorem d126_94 : decode (cm_M 126).2.2.1 94 = .ok (.aload_n 0, 1) := by decide +kernel
theorem d126_95 : decode (cm_M 126).2.2.1 95 = .ok (.getfield 52, 3) := by decide +kernel
theorem d126_98 : decode (cm_M 126).2.2.1 98 = .ok (.getfield 352, 3) := by decide +kernel
theorem d126_101 : decode (cm_M 126).2.2.1 101 = .ok (.iload_n 1, 1) := by decide +kernel
theorem d126_102 : decode (cm_M 126).2.2.1 102 = .ok (.iaload, 1) := by decide +kernel
theorem d126_103 : decode (cm_M 126).2.2.1 103 = .ok (.ireturn, 1) := by decide +kernel
theorem d126_104 : decode (cm_M 126).2.2.1 104 = .ok (.iconst (-1), 1) := by decide +kernel
theorem d126_105 : decode (cm_M 126).2.2.1 105 = .ok (.ireturn, 1) := by decide +kernel
theorem s126_0 {sc : cmS} {d : Nat} {h : cmH} {Q : Option Value → cmH → Prop} (x1 : Int32) (x2 : Int32) (H : cm_ci sc d 12 [.int x1] h (fun r h' => cm_wp sc (d + 1) 126 4 [some (.ref 0), some (.int x1), some (.int x2)] [.int r] h' Q)) : cm_wp sc (d + 1) 126 0 [some (.ref 0), some (.int x1), some (.int x2)] [] h Q :=
  wl_st d126_0 rfl rfl rfl rfl (wl_ci d126_1 rfl rfl rfl pm10_77 (by decide) (ca_s (Or.inl rfl) rfl (Nat.le_of_ble_eq_true rfl) (Nat.le_of_ble_eq_true rfl)) H)
theorem s126_4 {sc : cmS} {d : Nat} {h : cmH} {Q : Option Value → cmH → Prop} (L : LY h) (x1 : Int32) (x2 : Int32) (sx0 : Int32) (H : (((¬ sx0 = 0) → ((x2 = 0 → (IX 8 x1) ∧ Q (some (.int (cm_I h 15 x1.toNatClampNeg))) h) ∧ (x2 = 1 → cm_ci sc d 127 [.ref 0, .int x1] h (fun r h' => cm_wp sc (d + 1) 126 63 [some (.ref 0), some (.int x1), some (.int x2)] [.int r] h' Q)) ∧ (x2 = 2 → (IX 8 x1) ∧ Q (some (.int (cm_I h 16 x1.toNatClampNeg))) h) ∧ (x2 = 3 → (IX 8 x1) ∧ Q (some (.int (cm_I h 17 x1.toNatClampNeg))) h) ∧ (x2 = 4 → (IX 8 x1) ∧ Q (some (.int (cm_I h 18 x1.toNatClampNeg))) h) ∧ (x2 = 5 → (IX 8 x1) ∧ Q (some (.int (cm_I h 19 x1.toNatClampNeg))) h) ∧ (¬ x2 = 0 → ¬ x2 = 1 → ¬ x2 = 2 → ¬ x2 = 3 → ¬ x2 = 4 → ¬ x2 = 5 → Q (some (.int (-1 : Int32))) h))) ∧ (¬ (¬ sx0 = 0) → Q (some (.int (-1 : Int32))) h))) : cm_wp sc (d + 1) 126 4 [some (.ref 0), some (.int x1), some (.int x2)] [.int sx0] h Q :=
  wl_cb (b := ¬ sx0 = 0) (off := 5) (tgt := 9) (pc3 := 7) (st' := []) d126_4 rfl rfl rfl rfl (by decide) rfl (fun c1 => wl_st d126_9 rfl rfl rfl rfl ((if c7 : x2 = 0 then wl_tsI (v := 0) (tgt := 48) d126_10 c7 rfl (by decide) (by decide) (by decide) (wl_st d126_48 rfl rfl rfl rfl (wl_gr (b := 14) d126_49 pf10_52 (ly_k L 0 rfl) rfl (ly_r L 0 6 rfl) (wl_gr (b := 15) d126_52 pf10_337 (ly_k L 14 rfl) rfl (ly_r L 14 0 rfl) (wl_st d126_55 rfl rfl rfl rfl (And.elim (fun g2 g2k => wl_if (g := cm_ok h 13 15 x1) (st' := [.int (cm_I h 15 x1.toNatClampNeg)]) d126_56 rfl rfl rfl rfl (ly_o L 15 rfl g2) (wl_rt d126_57 rfl rfl rfl g2k)) ((H.1 c1).1 c7)))))) else (if c8 : x2 = 1 then wl_tsI (v := 1) (tgt := 58) d126_10 c8 rfl (by decide) (by decide) (by decide) (wl_st d126_58 rfl rfl rfl rfl (wl_st d126_59 rfl rfl rfl rfl (wl_ci d126_60 rfl rfl rfl pm10_340 (by decide) (ca_v (Or.inl rfl) rfl (Nat.le_of_ble_eq_true rfl) (Nat.le_of_ble_eq_true rfl) (ly_k L 0 rfl).2 (ly_k L 0 rfl).1 (by decide)) ((H.1 c1).2.1 c8)))) else (if c9 : x2 = 2 then wl_tsI (v := 2) (tgt := 64) d126_10 c9 rfl (by decide) (by decide) (by decide) (wl_st d126_64 rfl rfl rfl rfl (wl_gr (b := 14) d126_65 pf10_52 (ly_k L 0 rfl) rfl (ly_r L 0 6 rfl) (wl_gr (b := 16) d126_68 pf10_343 (ly_k L 14 rfl) rfl (ly_r L 14 1 rfl) (wl_st d126_71 rfl rfl rfl rfl (And.elim (fun g3 g3k => wl_if (g := cm_ok h 13 16 x1) (st' := [.int (cm_I h 16 x1.toNatClampNeg)]) d126_72 rfl rfl rfl rfl (ly_o L 16 rfl g3) (wl_rt d126_73 rfl rfl rfl g3k)) ((H.1 c1).2.2.1 c9)))))) else (if c10 : x2 = 3 then wl_tsI (v := 3) (tgt := 74) d126_10 c10 rfl (by decide) (by decide) (by decide) (wl_st d126_74 rfl rfl rfl rfl (wl_gr (b := 14) d126_75 pf10_52 (ly_k L 0 rfl) rfl (ly_r L 0 6 rfl) (wl_gr (b := 17) d126_78 pf10_346 (ly_k L 14 rfl) rfl (ly_r L 14 2 rfl) (wl_st d126_81 rfl rfl rfl rfl (And.elim (fun g4 g4k => wl_if (g := cm_ok h 13 17 x1) (st' := [.int (cm_I h 17 x1.toNatClampNeg)]) d126_82 rfl rfl rfl rfl (ly_o L 17 rfl g4) (wl_rt d126_83 rfl rfl rfl g4k)) ((H.1 c1).2.2.2.1 c10)))))) else (if c11 : x2 = 4 then wl_tsI (v := 4) (tgt := 84) d126_10 c11 rfl (by decide) (by decide) (by decide) (wl_st d126_84 rfl rfl rfl rfl (wl_gr (b := 14) d126_85 pf10_52 (ly_k L 0 rfl) rfl (ly_r L 0 6 rfl) (wl_gr (b := 18) d126_88 pf10_349 (ly_k L 14 rfl) rfl (ly_r L 14 3 rfl) (wl_st d126_91 rfl rfl rfl rfl (And.elim (fun g5 g5k => wl_if (g := cm_ok h 13 18 x1) (st' := [.int (cm_I h 18 x1.toNatClampNeg)]) d126_92 rfl rfl rfl rfl (ly_o L 18 rfl g5) (wl_rt d126_93 rfl rfl rfl g5k)) ((H.1 c1).2.2.2.2.1 c11)))))) else (if c12 : x2 = 5 then wl_tsI (v := 5) (tgt := 94) d126_10 c12 rfl (by decide) (by decide) (by decide) (wl_st d126_94 rfl rfl rfl rfl (wl_gr (b := 14) d126_95 pf10_52 (ly_k L 0 rfl) rfl (ly_r L 0 6 rfl) (wl_gr (b := 19) d126_98 pf10_352 (ly_k L 14 rfl) rfl (ly_r L 14 4 rfl) (wl_st d126_101 rfl rfl rfl rfl (And.elim (fun g6 g6k => wl_if (g := cm_ok h 13 19 x1) (st' := [.int (cm_I h 19 x1.toNatClampNeg)]) d126_102 rfl rfl rfl rfl (ly_o L 19 rfl g6) (wl_rt d126_103 rfl rfl rfl g6k)) ((H.1 c1).2.2.2.2.2.1 c12)))))) else wl_tsO (tgt := 104) d126_10 (by rcases (by omega : (x2).toInt < 0 ∨ 5 < (x2).toInt ∨ (x2).toInt = 0 ∨ (x2).toInt = 1 ∨ (x2).toInt = 2 ∨ (x2).toInt = 3 ∨ (x2).toInt = 4 ∨ (x2).toInt = 5) with qq | qq | qq | qq | qq | qq | qq | qq <;> first | exact Or.inl qq | exact Or.inr qq | exact absurd (Int32.toInt_inj.mp qq) c7 | exact absurd (Int32.toInt_inj.mp qq) c8 | exact absurd (Int32.toInt_inj.mp qq) c9 | exact absurd (Int32.toInt_inj.mp qq) c10 | exact absurd (Int32.toInt_inj.mp qq) c11 | exact absurd (Int32.toInt_inj.mp qq) c12) (by decide) (wl_ic (v := (-1)) d126_104 rfl (wl_rt d126_105 rfl rfl rfl ((H.1 c1).2.2.2.2.2.2 c7 c8 c9 c10 c11 c12))))))))))) (fun c1 => wl_ic (v := (-1)) d126_7 rfl (wl_rt d126_8 rfl rfl rfl (H.2 c1)))
theorem s126_63 {sc : cmS} {d : Nat} {h : cmH} {Q : Option Value → cmH → Prop} (x1 : Int32) (x2 : Int32) (sx0 : Int32) (H : Q (some (.int sx0)) h) : cm_wp sc d 126 63 [some (.ref 0), some (.int x1), some (.int x2)] [.int sx0] h Q :=
  wl_rt d126_63 rfl rfl rfl H
-- ClogHouse.heldOfSize(I)I
theorem d127_0 : decode (cm_M 127).2.2.1 0 = .ok (.iconst 0, 1) := by decide +kernel
theorem d127_1 : decode (cm_M 127).2.2.1 1 = .ok (.istore_n 2, 1) := by decide +kernel
theorem d127_2 : decode (cm_M 127).2.2.1 2 = .ok (.iconst 0, 1) := by decide +kernel
theorem d127_3 : decode (cm_M 127).2.2.1 3 = .ok (.istore_n 3, 1) := by decide +kernel
theorem d127_4 : decode (cm_M 127).2.2.1 4 = .ok (.iload_n 3, 1) := by decide +kernel
theorem d127_5 : decode (cm_M 127).2.2.1 5 = .ok (.aload_n 0, 1) := by decide +kernel
theorem d127_6 : decode (cm_M 127).2.2.1 6 = .ok (.getfield 98, 3) := by decide +kernel
theorem d127_9 : decode (cm_M 127).2.2.1 9 = .ok (.if_icmp .ge 30, 3) := by decide +kernel
theorem d127_12 : decode (cm_M 127).2.2.1 12 = .ok (.aload_n 0, 1) := by decide +kernel
theorem d127_13 : decode (cm_M 127).2.2.1 13 = .ok (.iload_n 3, 1) := by decide +kernel
theorem d127_14 : decode (cm_M 127).2.2.1 14 = .ok (.invokevirtual 103, 3) := by decide +kernel
theorem d127_17 : decode (cm_M 127).2.2.1 17 = .ok (.astore 4, 2) := by decide +kernel
theorem d127_19 : decode (cm_M 127).2.2.1 19 = .ok (.aload 4, 2) := by decide +kernel
theorem d127_21 : decode (cm_M 127).2.2.1 21 = .ok (.ifnull 12, 3) := by decide +kernel
theorem d127_24 : decode (cm_M 127).2.2.1 24 = .ok (.iload_n 2, 1) := by decide +kernel
theorem d127_25 : decode (cm_M 127).2.2.1 25 = .ok (.aload 4, 2) := by decide +kernel
theorem d127_27 : decode (cm_M 127).2.2.1 27 = .ok (.iload_n 1, 1) := by decide +kernel
theorem d127_28 : decode (cm_M 127).2.2.1 28 = .ok (.invokevirtual 427, 3) := by decide +kernel
theorem d127_31 : decode (cm_M 127).2.2.1 31 = .ok (.iadd, 1) := by decide +kernel
theorem d127_32 : decode (cm_M 127).2.2.1 32 = .ok (.istore_n 2, 1) := by decide +kernel
theorem d127_33 : decode (cm_M 127).2.2.1 33 = .ok (.iinc 3 1, 3) := by decide +kernel
theorem d127_36 : decode (cm_M 127).2.2.1 36 = .ok (.goto (-32), 3) := by decide +kernel
theorem d127_39 : decode (cm_M 127).2.2.1 39 = .ok (.iload_n 2, 1) := by decide +kernel
theorem d127_40 : decode (cm_M 127).2.2.1 40 = .ok (.ireturn, 1) := by decide +kernel
theorem s127_0 {sc : cmS} {d : Nat} {h : cmH} {Q : Option Value → cmH → Prop} (x1 : Int32) (u2 : Option Value) (u3 : Option Value) (u4 : Option Value) (H : cm_wp sc d 127 4 [some (.ref 0), some (.int x1), some (.int (0 : Int32)), some (.int (0 : Int32)), u4] [] h Q) : cm_wp sc d 127 0 [some (.ref 0), some (.int x1), u2, u3, u4] [] h Q :=
  wl_ic (v := 0) d127_0 rfl (wl_st (ls' := [some (.ref 0), some (.int x1), some (.int (0 : Int32)), u3, u4]) d127_1 rfl rfl rfl rfl (wl_ic (v := 0) d127_2 rfl (wl_st (ls' := [some (.ref 0), some (.int x1), some (.int (0 : Int32)), some (.int (0 : Int32)), u4]) d127_3 rfl rfl rfl rfl (H))))
theorem s127_4 {sc : cmS} {d : Nat} {h : cmH} {Q : Option Value → cmH → Prop} (L : LY h) (x1 : Int32) (x2 : Int32) (x3 : Int32) (u4 : Option Value) (H : ((((cm_I h 0 10) ≤ x3) → Q (some (.int x2)) h) ∧ (¬ ((cm_I h 0 10) ≤ x3) → cm_cq sc d 17 [.ref 0, .int x3] h (fun r h' => cm_wp sc (d + 1) 127 17 [some (.ref 0), some (.int x1), some (.int x2), some (.int x3), u4] [va_rf r] h' Q)))) : cm_wp sc (d + 1) 127 4 [some (.ref 0), some (.int x1), some (.int x2), some (.int x3), u4] [] h Q :=
  wl_st d127_4 rfl rfl rfl rfl (wl_st d127_5 rfl rfl rfl rfl (wl_gf (v := .int (cm_I h 0 10)) d127_6 pf10_98 (ly_k L 0 rfl) rfl (wl_cb (b := (cm_I h 0 10) ≤ x3) (off := 30) (tgt := 39) (pc3 := 12) (st' := []) d127_9 rfl rfl rfl rfl (by decide) rfl (fun c1 => wl_st d127_39 rfl rfl rfl rfl (wl_rt d127_40 rfl rfl rfl (H.1 c1))) (fun c1 => wl_st d127_12 rfl rfl rfl rfl (wl_st d127_13 rfl rfl rfl rfl (wl_cq d127_14 rfl rfl rfl pm10_103 (by decide) (ca_v (Or.inl rfl) rfl (Nat.le_of_ble_eq_true rfl) (Nat.le_of_ble_eq_true rfl) (ly_k L 0 rfl).2 (ly_k L 0 rfl).1 (by decide)) (H.2 c1)))))))
theorem s127_17 {sc : cmS} {d : Nat} {h : cmH} {Q : Option Value → cmH → Prop} (x1 : Int32) (x2 : Int32) (x3 : Int32) (u4 : Option Value) (so0 : Option Nat) (H : ((so0 = none → cm_wp sc (d + 1) 127 33 [some (.ref 0), some (.int x1), some (.int x2), some (.int x3), some (va_rf so0)] [] h Q) ∧ (∀ b2, so0 = some b2 → (FL h b2) ∧ cm_ci sc d 67 [.ref b2, .int x1] h (fun r h' => cm_wp sc (d + 1) 127 31 [some (.ref 0), some (.int x1), some (.int x2), some (.int x3), some (.ref b2)] [.int r, .int x2] h' Q)))) : cm_wp sc (d + 1) 127 17 [some (.ref 0), some (.int x1), some (.int x2), some (.int x3), u4] [va_rf so0] h Q :=
  wl_as (k := 4) (ls' := [some (.ref 0), some (.int x1), some (.int x2), some (.int x3), some (va_rf so0)]) d127_17 (Or.inl ⟨rfl, rfl⟩) (Nat.le_of_ble_eq_true rfl) rfl (wl_al (k := 4) d127_19 (Or.inl ⟨rfl, rfl⟩) rfl (wl_nu (o := so0) (tgt := 33) (pc3 := 24) d127_21 (by decide) rfl (fun c1 => (H.1 c1)) (fun b2 c1 => cm_rw (fun oo => cm_wp sc (d + 1) 127 24 [some (.ref 0), some (.int x1), some (.int x2), some (.int x3), some (va_rf oo)] [] h Q) c1 (wl_st d127_24 rfl rfl rfl rfl (wl_st d127_25 rfl rfl rfl rfl (wl_st d127_27 rfl rfl rfl rfl (And.elim (fun g3 g3k => wl_ci d127_28 rfl rfl rfl pm10_427 (by decide) (ca_v (Or.inr rfl) rfl (Nat.le_of_ble_eq_true rfl) (Nat.le_of_ble_eq_true rfl) (FL.k g3).2 (FL.k g3).1 (by decide)) g3k) (H.2 b2 c1))))))))
theorem s127_31 {sc : cmS} {d : Nat} {h : cmH} {Q : Option Value → cmH → Prop} (x1 : Int32) (x2 : Int32) (x3 : Int32) (o4 : Option Nat) (sx0 : Int32) (sx1 : Int32) (H : cm_wp sc d 127 33 [some (.ref 0), some (.int x1), some (.int (sx1 + sx0)), some (.int x3), some (va_rf o4)] [] h Q) : cm_wp sc d 127 31 [some (.ref 0), some (.int x1), some (.int x2), some (.int x3), some (va_rf o4)] [.int sx0, .int sx1] h Q :=
  wl_st d127_31 rfl rfl rfl rfl (wl_st (ls' := [some (.ref 0), some (.int x1), some (.int (sx1 + sx0)), some (.int x3), some (va_rf o4)]) d127_32 rfl rfl rfl rfl (H))
theorem s127_33 {sc : cmS} {d : Nat} {h : cmH} {Q : Option Value → cmH → Prop} (x1 : Int32) (x2 : Int32) (x3 : Int32) (o4 : Option Nat) (H : cm_wp sc d 127 4 [some (.ref 0), some (.int x1), some (.int x2), some (.int (x3 + 1)), some (va_rf o4)] [] h Q) : cm_wp sc d 127 33 [some (.ref 0), some (.int x1), some (.int x2), some (.int x3), some (va_rf o4)] [] h Q :=
  wl_st (ls' := [some (.ref 0), some (.int x1), some (.int x2), some (.int (x3 + 1)), some (va_rf o4)]) d127_33 rfl rfl rfl rfl (wl_go (tgt := 4) d127_36 (by decide) (H))
-- ClogHouse.digest()I
theorem d128_0 : decode (cm_M 128).2.2.1 0 = .ok (.sipush 217, 3) := by decide +kernel
theorem d128_3 : decode (cm_M 128).2.2.1 3 = .ok (.aload_n 0, 1) := by decide +kernel
theorem d128_4 : decode (cm_M 128).2.2.1 4 = .ok (.getfield 234, 3) := by decide +kernel
theorem d128_7 : decode (cm_M 128).2.2.1 7 = .ok (.iadd, 1) := by decide +kernel
theorem d128_8 : decode (cm_M 128).2.2.1 8 = .ok (.istore_n 1, 1) := by decide +kernel
theorem d128_9 : decode (cm_M 128).2.2.1 9 = .ok (.iconst 0, 1) := by decide +kernel
theorem d128_10 : decode (cm_M 128).2.2.1 10 = .ok (.istore_n 2, 1) := by decide +kernel
theorem d128_11 : decode (cm_M 128).2.2.1 11 = .ok (.iload_n 2, 1) := by decide +kernel
theorem d128_12 : decode (cm_M 128).2.2.1 12 = .ok (.aload_n 0, 1) := by decide +kernel
theorem d128_13 : decode (cm_M 128).2.2.1 13 = .ok (.getfield 98, 3) := by decide +kernel
theorem d128_16 : decode (cm_M 128).2.2.1 16 = .ok (.if_icmp .ge 25, 3) := by decide +kernel
theorem d128_19 : decode (cm_M 128).2.2.1 19 = .ok (.aload_n 0, 1) := by decide +kernel
theorem d128_20 : decode (cm_M 128).2.2.1 20 = .ok (.iload_n 2, 1) := by decide +kernel
theorem d128_21 : decode (cm_M 128).2.2.1 21 = .ok (.invokevirtual 103, 3) := by decide +kernel
theorem d128_24 : decode (cm_M 128).2.2.1 24 = .ok (.astore_n 3, 1) := by decide +kernel
theorem d128_25 : decode (cm_M 128).2.2.1 25 = .ok (.aload_n 3, 1) := by decide +kernel
theorem d128_26 : decode (cm_M 128).2.2.1 26 = .ok (.ifnull 9, 3) := by decide +kernel
theorem d128_29 : decode (cm_M 128).2.2.1 29 = .ok (.aload_n 3, 1) := by decide +kernel
theorem d128_30 : decode (cm_M 128).2.2.1 30 = .ok (.iload_n 1, 1) := by decide +kernel
theorem d128_31 : decode (cm_M 128).2.2.1 31 = .ok (.invokevirtual 355, 3) := by decide +kernel
theorem d128_34 : decode (cm_M 128).2.2.1 34 = .ok (.istore_n 1, 1) := by decide +kernel
theorem d128_35 : decode (cm_M 128).2.2.1 35 = .ok (.iinc 2 1, 3) := by decide +kernel
theorem d128_38 : decode (cm_M 128).2.2.1 38 = .ok (.goto (-27), 3) := by decide +kernel
theorem d128_41 : decode (cm_M 128).2.2.1 41 = .ok (.iload_n 1, 1) := by decide +kernel
theorem d128_42 : decode (cm_M 128).2.2.1 42 = .ok (.ireturn, 1) := by decide +kernel
theorem s128_0 {sc : cmS} {d : Nat} {h : cmH} {Q : Option Value → cmH → Prop} (L : LY h) (u1 : Option Value) (u2 : Option Value) (u3 : Option Value) (H : cm_wp sc d 128 11 [some (.ref 0), some (.int ((217 : Int32) + (cm_I h 0 12))), some (.int (0 : Int32)), u3] [] h Q) : cm_wp sc d 128 0 [some (.ref 0), u1, u2, u3] [] h Q :=
  wl_si (v := 217) d128_0 rfl (wl_st d128_3 rfl rfl rfl rfl (wl_gf (v := .int (cm_I h 0 12)) d128_4 pf10_234 (ly_k L 0 rfl) rfl (wl_st d128_7 rfl rfl rfl rfl (wl_st (ls' := [some (.ref 0), some (.int ((217 : Int32) + (cm_I h 0 12))), u2, u3]) d128_8 rfl rfl rfl rfl (wl_ic (v := 0) d128_9 rfl (wl_st (ls' := [some (.ref 0), some (.int ((217 : Int32) + (cm_I h 0 12))), some (.int (0 : Int32)), u3]) d128_10 rfl rfl rfl rfl (H)))))))
theorem s128_11 {sc : cmS} {d : Nat} {h : cmH} {Q : Option Value → cmH → Prop} (L : LY h) (x1 : Int32) (x2 : Int32) (u3 : Option Value) (H : ((((cm_I h 0 10) ≤ x2) → Q (some (.int x1)) h) ∧ (¬ ((cm_I h 0 10) ≤ x2) → cm_cq sc d 17 [.ref 0, .int x2] h (fun r h' => cm_wp sc (d + 1) 128 24 [some (.ref 0), some (.int x1), some (.int x2), u3] [va_rf r] h' Q)))) : cm_wp sc (d + 1) 128 11 [some (.ref 0), some (.int x1), some (.int x2), u3] [] h Q :=
  wl_st d128_11 rfl rfl rfl rfl (wl_st d128_12 rfl rfl rfl rfl (wl_gf (v := .int (cm_I h 0 10)) d128_13 pf10_98 (ly_k L 0 rfl) rfl (wl_cb (b := (cm_I h 0 10) ≤ x2) (off := 25) (tgt := 41) (pc3 := 19) (st' := []) d128_16 rfl rfl rfl rfl (by decide) rfl (fun c1 => wl_st d128_41 rfl rfl rfl rfl (wl_rt d128_42 rfl rfl rfl (H.1 c1))) (fun c1 => wl_st d128_19 rfl rfl rfl rfl (wl_st d128_20 rfl rfl rfl rfl (wl_cq d128_21 rfl rfl rfl pm10_103 (by decide) (ca_v (Or.inl rfl) rfl (Nat.le_of_ble_eq_true rfl) (Nat.le_of_ble_eq_true rfl) (ly_k L 0 rfl).2 (ly_k L 0 rfl).1 (by decide)) (H.2 c1)))))))
theorem s128_24 {sc : cmS} {d : Nat} {h : cmH} {Q : Option Value → cmH → Prop} (x1 : Int32) (x2 : Int32) (u3 : Option Value) (so0 : Option Nat) (H : ((so0 = none → cm_wp sc (d + 1) 128 35 [some (.ref 0), some (.int x1), some (.int x2), some (va_rf so0)] [] h Q) ∧ (∀ b2, so0 = some b2 → (FL h b2) ∧ cm_ci sc d 129 [.ref b2, .int x1] h (fun r h' => cm_wp sc (d + 1) 128 34 [some (.ref 0), some (.int x1), some (.int x2), some (.ref b2)] [.int r] h' Q)))) : cm_wp sc (d + 1) 128 24 [some (.ref 0), some (.int x1), some (.int x2), u3] [va_rf so0] h Q :=
  wl_as (k := 3) (ls' := [some (.ref 0), some (.int x1), some (.int x2), some (va_rf so0)]) d128_24 (Or.inr ⟨⟨_, rfl, rfl⟩, rfl⟩) (Nat.le_of_ble_eq_true rfl) rfl (wl_al (k := 3) d128_25 (Or.inr ⟨⟨_, rfl, rfl⟩, rfl⟩) rfl (wl_nu (o := so0) (tgt := 35) (pc3 := 29) d128_26 (by decide) rfl (fun c1 => (H.1 c1)) (fun b2 c1 => cm_rw (fun oo => cm_wp sc (d + 1) 128 29 [some (.ref 0), some (.int x1), some (.int x2), some (va_rf oo)] [] h Q) c1 (wl_st d128_29 rfl rfl rfl rfl (wl_st d128_30 rfl rfl rfl rfl (And.elim (fun g3 g3k => wl_ci d128_31 rfl rfl rfl pm10_355 (by decide) (ca_v (Or.inr rfl) rfl (Nat.le_of_ble_eq_true rfl) (Nat.le_of_ble_eq_true rfl) (FL.k g3).2 (FL.k g3).1 (by decide)) g3k) (H.2 b2 c1)))))))
theorem s128_34 {sc : cmS} {d : Nat} {h : cmH} {Q : Option Value → cmH → Prop} (x1 : Int32) (x2 : Int32) (o3 : Option Nat) (sx0 : Int32) (H : cm_wp sc d 128 35 [some (.ref 0), some (.int sx0), some (.int x2), some (va_rf o3)] [] h Q) : cm_wp sc d 128 34 [some (.ref 0), some (.int x1), some (.int x2), some (va_rf o3)] [.int sx0] h Q :=
  wl_st (ls' := [some (.ref 0), some (.int sx0), some (.int x2), some (va_rf o3)]) d128_34 rfl rfl rfl rfl (H)
theorem s128_35 {sc : cmS} {d : Nat} {h : cmH} {Q : Option Value → cmH → Prop} (x1 : Int32) (x2 : Int32) (o3 : Option Nat) (H : cm_wp sc d 128 11 [some (.ref 0), some (.int x1), some (.int (x2 + 1)), some (va_rf o3)] [] h Q) : cm_wp sc d 128 35 [some (.ref 0), some (.int x1), some (.int x2), some (va_rf o3)] [] h Q :=
  wl_st (ls' := [some (.ref 0), some (.int x1), some (.int (x2 + 1)), some (va_rf o3)]) d128_35 rfl rfl rfl rfl (wl_go (tgt := 11) d128_38 (by decide) (H))
-- ClogHouse.count(I)I
theorem d130_0 : decode (cm_M 130).2.2.1 0 = .ok (.iload_n 1, 1) := by decide +kernel
theorem d130_1 : decode (cm_M 130).2.2.1 1 = .ok (.tableswitch 119 0 9 #[55, 60, 65, 70, 76, 82, 87, 95, 103, 111], 55) := by decide +kernel
theorem d130_56 : decode (cm_M 130).2.2.1 56 = .ok (.aload_n 0, 1) := by decide +kernel
theorem d130_57 : decode (cm_M 130).2.2.1 57 = .ok (.getfield 234, 3) := by decide +kernel
theorem d130_60 : decode (cm_M 130).2.2.1 60 = .ok (.ireturn, 1) := by decide +kernel
theorem d130_61 : decode (cm_M 130).2.2.1 61 = .ok (.aload_n 0, 1) := by decide +kernel
theorem d130_62 : decode (cm_M 130).2.2.1 62 = .ok (.getfield 98, 3) := by decide +kernel
theorem d130_65 : decode (cm_M 130).2.2.1 65 = .ok (.ireturn, 1) := by decide +kernel
theorem d130_66 : decode (cm_M 130).2.2.1 66 = .ok (.aload_n 0, 1) := by decide +kernel
theorem d130_67 : decode (cm_M 130).2.2.1 67 = .ok (.invokevirtual 358, 3) := by decide +kernel
theorem d130_70 : decode (cm_M 130).2.2.1 70 = .ok (.ireturn, 1) := by decide +kernel
theorem d130_71 : decode (cm_M 130).2.2.1 71 = .ok (.aload_n 0, 1) := by decide +kernel
theorem d130_72 : decode (cm_M 130).2.2.1 72 = .ok (.iconst 4, 1) := by decide +kernel
theorem d130_73 : decode (cm_M 130).2.2.1 73 = .ok (.invokevirtual 361, 3) := by decide +kernel
theorem d130_76 : decode (cm_M 130).2.2.1 76 = .ok (.ireturn, 1) := by decide +kernel
theorem d130_77 : decode (cm_M 130).2.2.1 77 = .ok (.aload_n 0, 1) := by decide +kernel
theorem d130_78 : decode (cm_M 130).2.2.1 78 = .ok (.iconst 5, 1) := by decide +kernel
theorem d130_79 : decode (cm_M 130).2.2.1 79 = .ok (.invokevirtual 361, 3) := by decide +kernel
theorem d130_82 : decode (cm_M 130).2.2.1 82 = .ok (.ireturn, 1) := by decide +kernel
theorem d130_83 : decode (cm_M 130).2.2.1 83 = .ok (.aload_n 0, 1) := by decide +kernel
theorem d130_84 : decode (cm_M 130).2.2.1 84 = .ok (.getfield 196, 3) := by decide +kernel
theorem d130_87 : decode (cm_M 130).2.2.1 87 = .ok (.ireturn, 1) := by decide +kernel
theorem d130_88 : decode (cm_M 130).2.2.1 88 = .ok (.aload_n 0, 1) := by decide +kernel
theorem d130_89 : decode (cm_M 130).2.2.1 89 = .ok (.getfield 59, 3) := by decide +kernel
theorem d130_92 : decode (cm_M 130).2.2.1 92 = .ok (.getfield 290, 3) := by decide +kernel
theorem d130_95 : decode (cm_M 130).2.2.1 95 = .ok (.ireturn, 1) := by decide +kernel
theorem d130_96 : decode (cm_M 130).2.2.1 96 = .ok (.aload_n 0, 1) := by decide +kernel
theorem d130_97 : decode (cm_M 130).2.2.1 97 = .ok (.getfield 73, 3) := by decide +kernel
theorem d130_100 : decode (cm_M 130).2.2.1 100 = .ok (.getfield 364, 3) := by decide +kernel
theorem d130_103 : decode (cm_M 130).2.2.1 103 = .ok (.ireturn, 1) := by decide +kernel
theorem d130_104 : decode (cm_M 130).2.2.1 104 = .ok (.aload_n 0, 1) := by decide +kernel
theorem d130_105 : decode (cm_M 130).2.2.1 105 = .ok (.getfield 27, 3) := by decide +kernel
theorem d130_108 : decode (cm_M 130).2.2.1 108 = .ok (.getfield 186, 3) := by decide +kernel
theorem d130_111 : decode (cm_M 130).2.2.1 111 = .ok (.ireturn, 1) := by decide +kernel
theorem d130_112 : decode (cm_M 130).2.2.1 112 = .ok (.aload_n 0, 1) := by decide +kernel
theorem d130_113 : decode (cm_M 130).2.2.1 113 = .ok (.getfield 45, 3) := by decide +kernel
theorem d130_116 : decode (cm_M 130).2.2.1 116 = .ok (.getfield 228, 3) := by decide +kernel
theorem d130_119 : decode (cm_M 130).2.2.1 119 = .ok (.ireturn, 1) := by decide +kernel
theorem d130_120 : decode (cm_M 130).2.2.1 120 = .ok (.iconst (-1), 1) := by decide +kernel
theorem d130_121 : decode (cm_M 130).2.2.1 121 = .ok (.ireturn, 1) := by decide +kernel
theorem s130_0 {sc : cmS} {d : Nat} {h : cmH} {Q : Option Value → cmH → Prop} (L : LY h) (x1 : Int32) (H : ((x1 = 0 → Q (some (.int (cm_I h 0 12))) h) ∧ (x1 = 1 → Q (some (.int (cm_I h 0 10))) h) ∧ (x1 = 2 → cm_ci sc d 131 [.ref 0] h (fun r h' => cm_wp sc (d + 1) 130 70 [some (.ref 0), some (.int x1)] [.int r] h' Q)) ∧ (x1 = 3 → cm_ci sc d 132 [.ref 0, .int (4 : Int32)] h (fun r h' => cm_wp sc (d + 1) 130 76 [some (.ref 0), some (.int x1)] [.int r] h' Q)) ∧ (x1 = 4 → cm_ci sc d 132 [.ref 0, .int (5 : Int32)] h (fun r h' => cm_wp sc (d + 1) 130 82 [some (.ref 0), some (.int x1)] [.int r] h' Q)) ∧ (x1 = 5 → Q (some (.int (cm_I h 0 11))) h) ∧ (x1 = 6 → Q (some (.int (cm_I h 21 5))) h) ∧ (x1 = 7 → Q (some (.int (cm_I h 33 4))) h) ∧ (x1 = 8 → Q (some (.int (cm_I h 6 1))) h) ∧ (x1 = 9 → Q (some (.int (cm_I h 12 1))) h) ∧ (¬ x1 = 0 → ¬ x1 = 1 → ¬ x1 = 2 → ¬ x1 = 3 → ¬ x1 = 4 → ¬ x1 = 5 → ¬ x1 = 6 → ¬ x1 = 7 → ¬ x1 = 8 → ¬ x1 = 9 → Q (some (.int (-1 : Int32))) h))) : cm_wp sc (d + 1) 130 0 [some (.ref 0), some (.int x1)] [] h Q :=
  wl_st d130_0 rfl rfl rfl rfl ((if c1 : x1 = 0 then wl_tsI (v := 0) (tgt := 56) d130_1 c1 rfl (by decide) (by decide) (by decide) (wl_st d130_56 rfl rfl rfl rfl (wl_gf (v := .int (cm_I h 0 12)) d130_57 pf10_234 (ly_k L 0 rfl) rfl (wl_rt d130_60 rfl rfl rfl (H.1 c1)))) else (if c2 : x1 = 1 then wl_tsI (v := 1) (tgt := 61) d130_1 c2 rfl (by decide) (by decide) (by decide) (wl_st d130_61 rfl rfl rfl rfl (wl_gf (v := .int (cm_I h 0 10)) d130_62 pf10_98 (ly_k L 0 rfl) rfl (wl_rt d130_65 rfl rfl rfl (H.2.1 c2)))) else (if c3 : x1 = 2 then wl_tsI (v := 2) (tgt := 66) d130_1 c3 rfl (by decide) (by decide) (by decide) (wl_st d130_66 rfl rfl rfl rfl (wl_ci d130_67 rfl rfl rfl pm10_358 (by decide) (ca_v (Or.inl rfl) rfl (Nat.le_of_ble_eq_true rfl) (Nat.le_of_ble_eq_true rfl) (ly_k L 0 rfl).2 (ly_k L 0 rfl).1 (by decide)) (H.2.2.1 c3))) else (if c4 : x1 = 3 then wl_tsI (v := 3) (tgt := 71) d130_1 c4 rfl (by decide) (by decide) (by decide) (wl_st d130_71 rfl rfl rfl rfl (wl_ic (v := 4) d130_72 rfl (wl_ci d130_73 rfl rfl rfl pm10_361 (by decide) (ca_v (Or.inl rfl) rfl (Nat.le_of_ble_eq_true rfl) (Nat.le_of_ble_eq_true rfl) (ly_k L 0 rfl).2 (ly_k L 0 rfl).1 (by decide)) (H.2.2.2.1 c4)))) else (if c5 : x1 = 4 then wl_tsI (v := 4) (tgt := 77) d130_1 c5 rfl (by decide) (by decide) (by decide) (wl_st d130_77 rfl rfl rfl rfl (wl_ic (v := 5) d130_78 rfl (wl_ci d130_79 rfl rfl rfl pm10_361 (by decide) (ca_v (Or.inl rfl) rfl (Nat.le_of_ble_eq_true rfl) (Nat.le_of_ble_eq_true rfl) (ly_k L 0 rfl).2 (ly_k L 0 rfl).1 (by decide)) (H.2.2.2.2.1 c5)))) else (if c6 : x1 = 5 then wl_tsI (v := 5) (tgt := 83) d130_1 c6 rfl (by decide) (by decide) (by decide) (wl_st d130_83 rfl rfl rfl rfl (wl_gf (v := .int (cm_I h 0 11)) d130_84 pf10_196 (ly_k L 0 rfl) rfl (wl_rt d130_87 rfl rfl rfl (H.2.2.2.2.2.1 c6)))) else (if c7 : x1 = 6 then wl_tsI (v := 6) (tgt := 88) d130_1 c7 rfl (by decide) (by decide) (by decide) (wl_st d130_88 rfl rfl rfl rfl (wl_gr (b := 21) d130_89 pf10_59 (ly_k L 0 rfl) rfl (ly_r L 0 7 rfl) (wl_gf (v := .int (cm_I h 21 5)) d130_92 pf10_290 (ly_k L 21 rfl) rfl (wl_rt d130_95 rfl rfl rfl (H.2.2.2.2.2.2.1 c7))))) else (if c8 : x1 = 7 then wl_tsI (v := 7) (tgt := 96) d130_1 c8 rfl (by decide) (by decide) (by decide) (wl_st d130_96 rfl rfl rfl rfl (wl_gr (b := 33) d130_97 pf10_73 (ly_k L 0 rfl) rfl (ly_r L 0 9 rfl) (wl_gf (v := .int (cm_I h 33 4)) d130_100 pf10_364 (ly_k L 33 rfl) rfl (wl_rt d130_103 rfl rfl rfl (H.2.2.2.2.2.2.2.1 c8))))) else (if c9 : x1 = 8 then wl_tsI (v := 8) (tgt := 104) d130_1 c9 rfl (by decide) (by decide) (by decide) (wl_st d130_104 rfl rfl rfl rfl (wl_gr (b := 6) d130_105 pf10_27 (ly_k L 0 rfl) rfl (ly_r L 0 2 rfl) (wl_gf (v := .int (cm_I h 6 1)) d130_108 pf10_186 (ly_k L 6 rfl) rfl (wl_rt d130_111 rfl rfl rfl (H.2.2.2.2.2.2.2.2.1 c9))))) else (if c10 : x1 = 9 then wl_tsI (v := 9) (tgt := 112) d130_1 c10 rfl (by decide) (by decide) (by decide) (wl_st d130_112 rfl rfl rfl rfl (wl_gr (b := 12) d130_113 pf10_45 (ly_k L 0 rfl) rfl (ly_r L 0 5 rfl) (wl_gf (v := .int (cm_I h 12 1)) d130_116 pf10_228 (ly_k L 12 rfl) rfl (wl_rt d130_119 rfl rfl rfl (H.2.2.2.2.2.2.2.2.2.1 c10))))) else wl_tsO (tgt := 120) d130_1 (by rcases (by omega : (x1).toInt < 0 ∨ 9 < (x1).toInt ∨ (x1).toInt = 0 ∨ (x1).toInt = 1 ∨ (x1).toInt = 2 ∨ (x1).toInt = 3 ∨ (x1).toInt = 4 ∨ (x1).toInt = 5 ∨ (x1).toInt = 6 ∨ (x1).toInt = 7 ∨ (x1).toInt = 8 ∨ (x1).toInt = 9) with qq | qq | qq | qq | qq | qq | qq | qq | qq | qq | qq | qq <;> first | exact Or.inl qq | exact Or.inr qq | exact absurd (Int32.toInt_inj.mp qq) c1 | exact absurd (Int32.toInt_inj.mp qq) c2 | exact absurd (Int32.toInt_inj.mp qq) c3 | exact absurd (Int32.toInt_inj.mp qq) c4 | exact absurd (Int32.toInt_inj.mp qq) c5 | exact absurd (Int32.toInt_inj.mp qq) c6 | exact absurd (Int32.toInt_inj.mp qq) c7 | exact absurd (Int32.toInt_inj.mp qq) c8 | exact absurd (Int32.toInt_inj.mp qq) c9 | exact absurd (Int32.toInt_inj.mp qq) c10) (by decide) (wl_ic (v := (-1)) d130_120 rfl (wl_rt d130_121 rfl rfl rfl (H.2.2.2.2.2.2.2.2.2.2 c1 c2 c3 c4 c5 c6 c7 c8 c9 c10))))))))))))))
theorem s130_70 {sc : cmS} {d : Nat} {h : cmH} {Q : Option Value → cmH → Prop} (x1 : Int32) (sx0 : Int32) (H : Q (some (.int sx0)) h) : cm_wp sc d 130 70 [some (.ref 0), some (.int x1)] [.int sx0] h Q :=
  wl_rt d130_70 rfl rfl rfl H
theorem s130_76 {sc : cmS} {d : Nat} {h : cmH} {Q : Option Value → cmH → Prop} (x1 : Int32) (sx0 : Int32) (H : Q (some (.int sx0)) h) : cm_wp sc d 130 76 [some (.ref 0), some (.int x1)] [.int sx0] h Q :=
  wl_rt d130_76 rfl rfl rfl H
theorem s130_82 {sc : cmS} {d : Nat} {h : cmH} {Q : Option Value → cmH → Prop} (x1 : Int32) (sx0 : Int32) (H : Q (some (.int sx0)) h) : cm_wp sc d 130 82 [some (.ref 0), some (.int x1)] [.int sx0] h Q :=
  wl_rt d130_82 rfl rfl rfl H
-- ClogHouse.filtersThatRan()I
theorem d131_0 : decode (cm_M 131).2.2.1 0 = .ok (.iconst 0, 1) := by decide +kernel
theorem d131_1 : decode (cm_M 131).2.2.1 1 = .ok (.istore_n 1, 1) := by decide +kernel
theorem d131_2 : decode (cm_M 131).2.2.1 2 = .ok (.iconst 0, 1) := by decide +kernel
theorem d131_3 : decode (cm_M 131).2.2.1 3 = .ok (.istore_n 2, 1) := by decide +kernel
theorem d131_4 : decode (cm_M 131).2.2.1 4 = .ok (.iload_n 2, 1) := by decide +kernel
theorem d131_5 : decode (cm_M 131).2.2.1 5 = .ok (.aload_n 0, 1) := by decide +kernel
theorem d131_6 : decode (cm_M 131).2.2.1 6 = .ok (.getfield 98, 3) := by decide +kernel
theorem d131_9 : decode (cm_M 131).2.2.1 9 = .ok (.if_icmp .ge 29, 3) := by decide +kernel
theorem d131_12 : decode (cm_M 131).2.2.1 12 = .ok (.aload_n 0, 1) := by decide +kernel
theorem d131_13 : decode (cm_M 131).2.2.1 13 = .ok (.iload_n 2, 1) := by decide +kernel
theorem d131_14 : decode (cm_M 131).2.2.1 14 = .ok (.invokevirtual 103, 3) := by decide +kernel
theorem d131_17 : decode (cm_M 131).2.2.1 17 = .ok (.astore_n 3, 1) := by decide +kernel
theorem d131_18 : decode (cm_M 131).2.2.1 18 = .ok (.aload_n 3, 1) := by decide +kernel
theorem d131_19 : decode (cm_M 131).2.2.1 19 = .ok (.ifnull 13, 3) := by decide +kernel
theorem d131_22 : decode (cm_M 131).2.2.1 22 = .ok (.aload_n 3, 1) := by decide +kernel
theorem d131_23 : decode (cm_M 131).2.2.1 23 = .ok (.getfield 383, 3) := by decide +kernel
theorem d131_26 : decode (cm_M 131).2.2.1 26 = .ok (.ifCond .eq 6, 3) := by decide +kernel
theorem d131_29 : decode (cm_M 131).2.2.1 29 = .ok (.iinc 1 1, 3) := by decide +kernel
theorem d131_32 : decode (cm_M 131).2.2.1 32 = .ok (.iinc 2 1, 3) := by decide +kernel
theorem d131_35 : decode (cm_M 131).2.2.1 35 = .ok (.goto (-31), 3) := by decide +kernel
theorem d131_38 : decode (cm_M 131).2.2.1 38 = .ok (.iload_n 1, 1) := by decide +kernel
theorem d131_39 : decode (cm_M 131).2.2.1 39 = .ok (.ireturn, 1) := by decide +kernel
theorem s131_0 {sc : cmS} {d : Nat} {h : cmH} {Q : Option Value → cmH → Prop} (u1 : Option Value) (u2 : Option Value) (u3 : Option Value) (H : cm_wp sc d 131 4 [some (.ref 0), some (.int (0 : Int32)), some (.int (0 : Int32)), u3] [] h Q) : cm_wp sc d 131 0 [some (.ref 0), u1, u2, u3] [] h Q :=
  wl_ic (v := 0) d131_0 rfl (wl_st (ls' := [some (.ref 0), some (.int (0 : Int32)), u2, u3]) d131_1 rfl rfl rfl rfl (wl_ic (v := 0) d131_2 rfl (wl_st (ls' := [some (.ref 0), some (.int (0 : Int32)), some (.int (0 : Int32)), u3]) d131_3 rfl rfl rfl rfl (H))))
theorem s131_4 {sc : cmS} {d : Nat} {h : cmH} {Q : Option Value → cmH → Prop} (L : LY h) (x1 : Int32) (x2 : Int32) (u3 : Option Value) (H : ((((cm_I h 0 10) ≤ x2) → Q (some (.int x1)) h) ∧ (¬ ((cm_I h 0 10) ≤ x2) → cm_cq sc d 17 [.ref 0, .int x2] h (fun r h' => cm_wp sc (d + 1) 131 17 [some (.ref 0), some (.int x1), some (.int x2), u3] [va_rf r] h' Q)))) : cm_wp sc (d + 1) 131 4 [some (.ref 0), some (.int x1), some (.int x2), u3] [] h Q :=
  wl_st d131_4 rfl rfl rfl rfl (wl_st d131_5 rfl rfl rfl rfl (wl_gf (v := .int (cm_I h 0 10)) d131_6 pf10_98 (ly_k L 0 rfl) rfl (wl_cb (b := (cm_I h 0 10) ≤ x2) (off := 29) (tgt := 38) (pc3 := 12) (st' := []) d131_9 rfl rfl rfl rfl (by decide) rfl (fun c1 => wl_st d131_38 rfl rfl rfl rfl (wl_rt d131_39 rfl rfl rfl (H.1 c1))) (fun c1 => wl_st d131_12 rfl rfl rfl rfl (wl_st d131_13 rfl rfl rfl rfl (wl_cq d131_14 rfl rfl rfl pm10_103 (by decide) (ca_v (Or.inl rfl) rfl (Nat.le_of_ble_eq_true rfl) (Nat.le_of_ble_eq_true rfl) (ly_k L 0 rfl).2 (ly_k L 0 rfl).1 (by decide)) (H.2 c1)))))))
theorem s131_17 {sc : cmS} {d : Nat} {h : cmH} {Q : Option Value → cmH → Prop} (x1 : Int32) (x2 : Int32) (u3 : Option Value) (so0 : Option Nat) (H : ((so0 = none → cm_wp sc d 131 32 [some (.ref 0), some (.int x1), some (.int x2), some (va_rf so0)] [] h Q) ∧ (∀ b2, so0 = some b2 → (FL h b2) ∧ ((((cm_I h b2 18) = 0) → cm_wp sc d 131 32 [some (.ref 0), some (.int x1), some (.int x2), some (.ref b2)] [] h Q) ∧ (¬ ((cm_I h b2 18) = 0) → cm_wp sc d 131 32 [some (.ref 0), some (.int (x1 + 1)), some (.int x2), some (.ref b2)] [] h Q))))) : cm_wp sc d 131 17 [some (.ref 0), some (.int x1), some (.int x2), u3] [va_rf so0] h Q :=
  wl_as (k := 3) (ls' := [some (.ref 0), some (.int x1), some (.int x2), some (va_rf so0)]) d131_17 (Or.inr ⟨⟨_, rfl, rfl⟩, rfl⟩) (Nat.le_of_ble_eq_true rfl) rfl (wl_al (k := 3) d131_18 (Or.inr ⟨⟨_, rfl, rfl⟩, rfl⟩) rfl (wl_nu (o := so0) (tgt := 32) (pc3 := 22) d131_19 (by decide) rfl (fun c1 => (H.1 c1)) (fun b2 c1 => cm_rw (fun oo => cm_wp sc d 131 22 [some (.ref 0), some (.int x1), some (.int x2), some (va_rf oo)] [] h Q) c1 (wl_st d131_22 rfl rfl rfl rfl (And.elim (fun g3 g3k => wl_gf (v := .int (cm_I h b2 18)) d131_23 pf10_383 (FL.k g3) rfl (wl_cb (b := (cm_I h b2 18) = 0) (off := 6) (tgt := 32) (pc3 := 29) (st' := []) d131_26 rfl rfl rfl rfl (by decide) rfl (fun c4 => (g3k.1 c4)) (fun c4 => wl_st (ls' := [some (.ref 0), some (.int (x1 + 1)), some (.int x2), some (.ref b2)]) d131_29 rfl rfl rfl rfl ((g3k.2 c4))))) (H.2 b2 c1))))))
theorem s131_32 {sc : cmS} {d : Nat} {h : cmH} {Q : Option Value → cmH → Prop} (x1 : Int32) (x2 : Int32) (o3 : Option Nat) (H : cm_wp sc d 131 4 [some (.ref 0), some (.int x1), some (.int (x2 + 1)), some (va_rf o3)] [] h Q) : cm_wp sc d 131 32 [some (.ref 0), some (.int x1), some (.int x2), some (va_rf o3)] [] h Q :=
  wl_st (ls' := [some (.ref 0), some (.int x1), some (.int (x2 + 1)), some (va_rf o3)]) d131_32 rfl rfl rfl rfl (wl_go (tgt := 4) d131_35 (by decide) (H))
-- ClogHouse.filtersThatAre(I)I
theorem d132_0 : decode (cm_M 132).2.2.1 0 = .ok (.iconst 0, 1) := by decide +kernel
theorem d132_1 : decode (cm_M 132).2.2.1 1 = .ok (.istore_n 2, 1) := by decide +kernel
theorem d132_2 : decode (cm_M 132).2.2.1 2 = .ok (.iconst 0, 1) := by decide +kernel
theorem d132_3 : decode (cm_M 132).2.2.1 3 = .ok (.istore_n 3, 1) := by decide +kernel
theorem d132_4 : decode (cm_M 132).2.2.1 4 = .ok (.iload_n 3, 1) := by decide +kernel
theorem d132_5 : decode (cm_M 132).2.2.1 5 = .ok (.aload_n 0, 1) := by decide +kernel
theorem d132_6 : decode (cm_M 132).2.2.1 6 = .ok (.getfield 98, 3) := by decide +kernel
theorem d132_9 : decode (cm_M 132).2.2.1 9 = .ok (.if_icmp .ge 33, 3) := by decide +kernel
theorem d132_12 : decode (cm_M 132).2.2.1 12 = .ok (.aload_n 0, 1) := by decide +kernel
theorem d132_13 : decode (cm_M 132).2.2.1 13 = .ok (.iload_n 3, 1) := by decide +kernel
theorem d132_14 : decode (cm_M 132).2.2.1 14 = .ok (.invokevirtual 103, 3) := by decide +kernel
theorem d132_17 : decode (cm_M 132).2.2.1 17 = .ok (.astore 4, 2) := by decide +kernel
theorem d132_19 : decode (cm_M 132).2.2.1 19 = .ok (.aload 4, 2) := by decide +kernel
theorem d132_21 : decode (cm_M 132).2.2.1 21 = .ok (.ifnull 15, 3) := by decide +kernel
theorem d132_24 : decode (cm_M 132).2.2.1 24 = .ok (.aload 4, 2) := by decide +kernel
theorem d132_26 : decode (cm_M 132).2.2.1 26 = .ok (.getfield 155, 3) := by decide +kernel
theorem d132_29 : decode (cm_M 132).2.2.1 29 = .ok (.iload_n 1, 1) := by decide +kernel
theorem d132_30 : decode (cm_M 132).2.2.1 30 = .ok (.if_icmp .ne 6, 3) := by decide +kernel
theorem d132_33 : decode (cm_M 132).2.2.1 33 = .ok (.iinc 2 1, 3) := by decide +kernel
theorem d132_36 : decode (cm_M 132).2.2.1 36 = .ok (.iinc 3 1, 3) := by decide +kernel
theorem d132_39 : decode (cm_M 132).2.2.1 39 = .ok (.goto (-35), 3) := by decide +kernel
theorem d132_42 : decode (cm_M 132).2.2.1 42 = .ok (.iload_n 2, 1) := by decide +kernel
theorem d132_43 : decode (cm_M 132).2.2.1 43 = .ok (.ireturn, 1) := by decide +kernel
theorem s132_0 {sc : cmS} {d : Nat} {h : cmH} {Q : Option Value → cmH → Prop} (x1 : Int32) (u2 : Option Value) (u3 : Option Value) (u4 : Option Value) (H : cm_wp sc d 132 4 [some (.ref 0), some (.int x1), some (.int (0 : Int32)), some (.int (0 : Int32)), u4] [] h Q) : cm_wp sc d 132 0 [some (.ref 0), some (.int x1), u2, u3, u4] [] h Q :=
  wl_ic (v := 0) d132_0 rfl (wl_st (ls' := [some (.ref 0), some (.int x1), some (.int (0 : Int32)), u3, u4]) d132_1 rfl rfl rfl rfl (wl_ic (v := 0) d132_2 rfl (wl_st (ls' := [some (.ref 0), some (.int x1), some (.int (0 : Int32)), some (.int (0 : Int32)), u4]) d132_3 rfl rfl rfl rfl (H))))
theorem s132_4 {sc : cmS} {d : Nat} {h : cmH} {Q : Option Value → cmH → Prop} (L : LY h) (x1 : Int32) (x2 : Int32) (x3 : Int32) (u4 : Option Value) (H : ((((cm_I h 0 10) ≤ x3) → Q (some (.int x2)) h) ∧ (¬ ((cm_I h 0 10) ≤ x3) → cm_cq sc d 17 [.ref 0, .int x3] h (fun r h' => cm_wp sc (d + 1) 132 17 [some (.ref 0), some (.int x1), some (.int x2), some (.int x3), u4] [va_rf r] h' Q)))) : cm_wp sc (d + 1) 132 4 [some (.ref 0), some (.int x1), some (.int x2), some (.int x3), u4] [] h Q :=
  wl_st d132_4 rfl rfl rfl rfl (wl_st d132_5 rfl rfl rfl rfl (wl_gf (v := .int (cm_I h 0 10)) d132_6 pf10_98 (ly_k L 0 rfl) rfl (wl_cb (b := (cm_I h 0 10) ≤ x3) (off := 33) (tgt := 42) (pc3 := 12) (st' := []) d132_9 rfl rfl rfl rfl (by decide) rfl (fun c1 => wl_st d132_42 rfl rfl rfl rfl (wl_rt d132_43 rfl rfl rfl (H.1 c1))) (fun c1 => wl_st d132_12 rfl rfl rfl rfl (wl_st d132_13 rfl rfl rfl rfl (wl_cq d132_14 rfl rfl rfl pm10_103 (by decide) (ca_v (Or.inl rfl) rfl (Nat.le_of_ble_eq_true rfl) (Nat.le_of_ble_eq_true rfl) (ly_k L 0 rfl).2 (ly_k L 0 rfl).1 (by decide)) (H.2 c1)))))))
theorem s132_17 {sc : cmS} {d : Nat} {h : cmH} {Q : Option Value → cmH → Prop} (x1 : Int32) (x2 : Int32) (x3 : Int32) (u4 : Option Value) (so0 : Option Nat) (H : ((so0 = none → cm_wp sc d 132 36 [some (.ref 0), some (.int x1), some (.int x2), some (.int x3), some (va_rf so0)] [] h Q) ∧ (∀ b2, so0 = some b2 → (FL h b2) ∧ (((¬ (cm_I h b2 8) = x1) → cm_wp sc d 132 36 [some (.ref 0), some (.int x1), some (.int x2), some (.int x3), some (.ref b2)] [] h Q) ∧ (¬ (¬ (cm_I h b2 8) = x1) → cm_wp sc d 132 36 [some (.ref 0), some (.int x1), some (.int (x2 + 1)), some (.int x3), some (.ref b2)] [] h Q))))) : cm_wp sc d 132 17 [some (.ref 0), some (.int x1), some (.int x2), some (.int x3), u4] [va_rf so0] h Q :=
  wl_as (k := 4) (ls' := [some (.ref 0), some (.int x1), some (.int x2), some (.int x3), some (va_rf so0)]) d132_17 (Or.inl ⟨rfl, rfl⟩) (Nat.le_of_ble_eq_true rfl) rfl (wl_al (k := 4) d132_19 (Or.inl ⟨rfl, rfl⟩) rfl (wl_nu (o := so0) (tgt := 36) (pc3 := 24) d132_21 (by decide) rfl (fun c1 => (H.1 c1)) (fun b2 c1 => cm_rw (fun oo => cm_wp sc d 132 24 [some (.ref 0), some (.int x1), some (.int x2), some (.int x3), some (va_rf oo)] [] h Q) c1 (wl_st d132_24 rfl rfl rfl rfl (And.elim (fun g3 g3k => wl_gf (v := .int (cm_I h b2 8)) d132_26 pf10_155 (FL.k g3) rfl (wl_st d132_29 rfl rfl rfl rfl (wl_cb (b := ¬ (cm_I h b2 8) = x1) (off := 6) (tgt := 36) (pc3 := 33) (st' := []) d132_30 rfl rfl rfl rfl (by decide) rfl (fun c4 => (g3k.1 c4)) (fun c4 => wl_st (ls' := [some (.ref 0), some (.int x1), some (.int (x2 + 1)), some (.int x3), some (.ref b2)]) d132_33 rfl rfl rfl rfl ((g3k.2 c4)))))) (H.2 b2 c1))))))
theorem s132_36 {sc : cmS} {d : Nat} {h : cmH} {Q : Option Value → cmH → Prop} (x1 : Int32) (x2 : Int32) (x3 : Int32) (o4 : Option Nat) (H : cm_wp sc d 132 4 [some (.ref 0), some (.int x1), some (.int x2), some (.int (x3 + 1)), some (va_rf o4)] [] h Q) : cm_wp sc d 132 36 [some (.ref 0), some (.int x1), some (.int x2), some (.int x3), some (va_rf o4)] [] h Q :=
  wl_st (ls' := [some (.ref 0), some (.int x1), some (.int x2), some (.int (x3 + 1)), some (va_rf o4)]) d132_36 rfl rfl rfl rfl (wl_go (tgt := 4) d132_39 (by decide) (H))
-- ClogHouse.worth(IIIIIIII)I
theorem d133_0 : decode (cm_M 133).2.2.1 0 = .ok (.aload_n 0, 1) := by decide +kernel
theorem d133_1 : decode (cm_M 133).2.2.1 1 = .ok (.iload_n 1, 1) := by decide +kernel
theorem d133_2 : decode (cm_M 133).2.2.1 2 = .ok (.invokevirtual 206, 3) := by decide +kernel
theorem d133_5 : decode (cm_M 133).2.2.1 5 = .ok (.astore 9, 2) := by decide +kernel
theorem d133_7 : decode (cm_M 133).2.2.1 7 = .ok (.aload 9, 2) := by decide +kernel
theorem d133_9 : decode (cm_M 133).2.2.1 9 = .ok (.ifnull 24, 3) := by decide +kernel
theorem d133_12 : decode (cm_M 133).2.2.1 12 = .ok (.iload_n 2, 1) := by decide +kernel
theorem d133_13 : decode (cm_M 133).2.2.1 13 = .ok (.iconst 1, 1) := by decide +kernel
theorem d133_14 : decode (cm_M 133).2.2.1 14 = .ok (.sipush 255, 3) := by decide +kernel
theorem d133_17 : decode (cm_M 133).2.2.1 17 = .ok (.invokestatic 81, 3) := by decide +kernel
theorem d133_20 : decode (cm_M 133).2.2.1 20 = .ok (.ifCond .eq 13, 3) := by decide +kernel
theorem d133_23 : decode (cm_M 133).2.2.1 23 = .ok (.ldc 210, 2) := by decide +kernel
theorem d133_25 : decode (cm_M 133).2.2.1 25 = .ok (.iload_n 2, 1) := by decide +kernel
theorem d133_26 : decode (cm_M 133).2.2.1 26 = .ok (.i2c, 1) := by decide +kernel
theorem d133_27 : decode (cm_M 133).2.2.1 27 = .ok (.invokevirtual 212, 3) := by decide +kernel
theorem d133_30 : decode (cm_M 133).2.2.1 30 = .ok (.ifCond .ge 11, 3) := by decide +kernel
theorem d133_33 : decode (cm_M 133).2.2.1 33 = .ok (.new 217, 3) := by decide +kernel
theorem d133_36 : decode (cm_M 133).2.2.1 36 = .ok (.dup, 1) := by decide +kernel
theorem d133_37 : decode (cm_M 133).2.2.1 37 = .ok (.invokespecial 219, 3) := by decide +kernel
theorem d133_40 : decode (cm_M 133).2.2.1 40 = .ok (.athrow, 1) := by decide +kernel
theorem d133_41 : decode (cm_M 133).2.2.1 41 = .ok (.aload_n 0, 1) := by decide +kernel
theorem d133_42 : decode (cm_M 133).2.2.1 42 = .ok (.getfield 38, 3) := by decide +kernel
theorem d133_45 : decode (cm_M 133).2.2.1 45 = .ok (.iload_n 3, 1) := by decide +kernel
theorem d133_46 : decode (cm_M 133).2.2.1 46 = .ok (.iload 4, 2) := by decide +kernel
theorem d133_48 : decode (cm_M 133).2.2.1 48 = .ok (.iload 5, 2) := by decide +kernel
theorem d133_50 : decode (cm_M 133).2.2.1 50 = .ok (.iload 6, 2) := by decide +kernel
theorem d133_52 : decode (cm_M 133).2.2.1 52 = .ok (.iload 7, 2) := by decide +kernel
theorem d133_54 : decode (cm_M 133).2.2.1 54 = .ok (.iload 8, 2) := by decide +kernel
theorem d133_56 : decode (cm_M 133).2.2.1 56 = .ok (.invokevirtual 220, 3) := by decide +kernel
theorem d133_59 : decode (cm_M 133).2.2.1 59 = .ok (.aload_n 0, 1) := by decide +kernel
theorem d133_60 : decode (cm_M 133).2.2.1 60 = .ok (.getfield 38, 3) := by decide +kernel
theorem d133_63 : decode (cm_M 133).2.2.1 63 = .ok (.iload_n 2, 1) := by decide +kernel
theorem d133_64 : decode (cm_M 133).2.2.1 64 = .ok (.i2c, 1) := by decide +kernel
theorem d133_65 : decode (cm_M 133).2.2.1 65 = .ok (.aload 9, 2) := by decide +kernel
theorem d133_67 : decode (cm_M 133).2.2.1 67 = .ok (.invokevirtual 224, 3) := by decide +kernel
theorem d133_70 : decode (cm_M 133).2.2.1 70 = .ok (.ireturn, 1) := by decide +kernel
theorem s133_0 {sc : cmS} {d : Nat} {h : cmH} {Q : Option Value → cmH → Prop} (L : LY h) (x1 : Int32) (x2 : Int32) (x3 : Int32) (x4 : Int32) (x5 : Int32) (x6 : Int32) (x7 : Int32) (x8 : Int32) (u9 : Option Value) (H : cm_cq sc d 62 [.ref 0, .int x1] h (fun r h' => cm_wp sc (d + 1) 133 5 [some (.ref 0), some (.int x1), some (.int x2), some (.int x3), some (.int x4), some (.int x5), some (.int x6), some (.int x7), some (.int x8), u9] [va_rf r] h' Q)) : cm_wp sc (d + 1) 133 0 [some (.ref 0), some (.int x1), some (.int x2), some (.int x3), some (.int x4), some (.int x5), some (.int x6), some (.int x7), some (.int x8), u9] [] h Q :=
  wl_st d133_0 rfl rfl rfl rfl (wl_st d133_1 rfl rfl rfl rfl (wl_cq d133_2 rfl rfl rfl pm10_206 (by decide) (ca_v (Or.inl rfl) rfl (Nat.le_of_ble_eq_true rfl) (Nat.le_of_ble_eq_true rfl) (ly_k L 0 rfl).2 (ly_k L 0 rfl).1 (by decide)) H))
theorem s133_5 {sc : cmS} {d : Nat} {h : cmH} {Q : Option Value → cmH → Prop} (x1 : Int32) (x2 : Int32) (x3 : Int32) (x4 : Int32) (x5 : Int32) (x6 : Int32) (x7 : Int32) (x8 : Int32) (u9 : Option Value) (so0 : Option Nat) (H : ((so0 = none → cm_wp sc (d + 1) 133 33 [some (.ref 0), some (.int x1), some (.int x2), some (.int x3), some (.int x4), some (.int x5), some (.int x6), some (.int x7), some (.int x8), some (va_rf so0)] [] h Q) ∧ (∀ b2, so0 = some b2 → cm_ci sc d 13 [.int x2, .int (1 : Int32), .int (255 : Int32)] h (fun r h' => cm_wp sc (d + 1) 133 20 [some (.ref 0), some (.int x1), some (.int x2), some (.int x3), some (.int x4), some (.int x5), some (.int x6), some (.int x7), some (.int x8), some (.ref b2)] [.int r] h' Q)))) : cm_wp sc (d + 1) 133 5 [some (.ref 0), some (.int x1), some (.int x2), some (.int x3), some (.int x4), some (.int x5), some (.int x6), some (.int x7), some (.int x8), u9] [va_rf so0] h Q :=
  wl_as (k := 9) (ls' := [some (.ref 0), some (.int x1), some (.int x2), some (.int x3), some (.int x4), some (.int x5), some (.int x6), some (.int x7), some (.int x8), some (va_rf so0)]) d133_5 (Or.inl ⟨rfl, rfl⟩) (Nat.le_of_ble_eq_true rfl) rfl (wl_al (k := 9) d133_7 (Or.inl ⟨rfl, rfl⟩) rfl (wl_nu (o := so0) (tgt := 33) (pc3 := 12) d133_9 (by decide) rfl (fun c1 => (H.1 c1)) (fun b2 c1 => cm_rw (fun oo => cm_wp sc (d + 1) 133 12 [some (.ref 0), some (.int x1), some (.int x2), some (.int x3), some (.int x4), some (.int x5), some (.int x6), some (.int x7), some (.int x8), some (va_rf oo)] [] h Q) c1 (wl_st d133_12 rfl rfl rfl rfl (wl_ic (v := 1) d133_13 rfl (wl_si (v := 255) d133_14 rfl (wl_ci d133_17 rfl rfl rfl pm10_81 (by decide) (ca_s (Or.inl rfl) rfl (Nat.le_of_ble_eq_true rfl) (Nat.le_of_ble_eq_true rfl)) (H.2 b2 c1))))))))
theorem s133_20 {sc : cmS} {d : Nat} {h : cmH} {Q : Option Value → cmH → Prop} (L : LY h) (x1 : Int32) (x2 : Int32) (x3 : Int32) (x4 : Int32) (x5 : Int32) (x6 : Int32) (x7 : Int32) (x8 : Int32) (o9 : Option Nat) (sx0 : Int32) (H : (((sx0 = 0) → cm_wp sc (d + 1) 133 33 [some (.ref 0), some (.int x1), some (.int x2), some (.int x3), some (.int x4), some (.int x5), some (.int x6), some (.int x7), some (.int x8), some (va_rf o9)] [] h Q) ∧ (¬ (sx0 = 0) → (8 ≤ d) ∧ (((0 ≤ (cm_ix 1 ((x2.toUInt32 % 65536).toInt32))) → cm_cv sc d 64 [.ref 9, .int x3, .int x4, .int x5, .int x6, .int x7, .int x8] h (fun h' => cm_wp sc (d + 1) 133 59 [some (.ref 0), some (.int x1), some (.int x2), some (.int x3), some (.int x4), some (.int x5), some (.int x6), some (.int x7), some (.int x8), some (va_rf o9)] [] h' Q)) ∧ (¬ (0 ≤ (cm_ix 1 ((x2.toUInt32 % 65536).toInt32))) → cm_wp sc (d + 1) 133 33 [some (.ref 0), some (.int x1), some (.int x2), some (.int x3), some (.int x4), some (.int x5), some (.int x6), some (.int x7), some (.int x8), some (va_rf o9)] [] h Q))))) : cm_wp sc (d + 1) 133 20 [some (.ref 0), some (.int x1), some (.int x2), some (.int x3), some (.int x4), some (.int x5), some (.int x6), some (.int x7), some (.int x8), some (va_rf o9)] [.int sx0] h Q :=
  wl_cb (b := sx0 = 0) (off := 13) (tgt := 33) (pc3 := 23) (st' := []) d133_20 rfl rfl rfl rfl (by decide) rfl (fun c1 => (H.1 c1)) (fun c1 => wl_cS (j := 1) d133_23 rfl rfl (wl_st d133_25 rfl rfl rfl rfl (wl_st d133_26 rfl rfl rfl rfl (And.elim (fun g2 g2k => wl_pr (st' := [.int (cm_ix 1 ((x2.toUInt32 % 65536).toInt32))]) d133_27 rfl rfl rfl pm10_212 (by decide) (gk12 g2) rfl (wl_cb (b := 0 ≤ (cm_ix 1 ((x2.toUInt32 % 65536).toInt32))) (off := 11) (tgt := 41) (pc3 := 33) (st' := []) d133_30 rfl rfl rfl rfl (by decide) rfl (fun c3 => wl_st d133_41 rfl rfl rfl rfl (wl_gr (b := 9) d133_42 pf10_38 (ly_k L 0 rfl) rfl (ly_r L 0 4 rfl) (wl_st d133_45 rfl rfl rfl rfl (wl_st d133_46 rfl rfl rfl rfl (wl_st d133_48 rfl rfl rfl rfl (wl_st d133_50 rfl rfl rfl rfl (wl_st d133_52 rfl rfl rfl rfl (wl_st d133_54 rfl rfl rfl rfl (wl_cv d133_56 rfl rfl rfl pm10_220 (by decide) (ca_v (Or.inr rfl) rfl (Nat.le_of_ble_eq_true rfl) (Nat.le_of_ble_eq_true rfl) (ly_k L 9 rfl).2 (ly_k L 9 rfl).1 (by decide)) (g2k.1 c3)))))))))) (fun c3 => (g2k.2 c3)))) (H.2 c1)))))
theorem s133_33 {sc : cmS} {d : Nat} {h : cmH} {Q : Option Value → cmH → Prop} (x1 : Int32) (x2 : Int32) (x3 : Int32) (x4 : Int32) (x5 : Int32) (x6 : Int32) (x7 : Int32) (x8 : Int32) (o9 : Option Nat) (H : (8 ≤ d) ∧ Q (some (.double 0)) (cm_mk h 19 6)) : cm_wp sc d 133 33 [some (.ref 0), some (.int x1), some (.int x2), some (.int x3), some (.int x4), some (.int x5), some (.int x6), some (.int x7), some (.int x8), some (va_rf o9)] [] h Q :=
  And.elim (fun g1 g1k => wl_thr d133_33 rfl g1 (Nat.le_of_ble_eq_true rfl) g1k) H
theorem s133_59 {sc : cmS} {d : Nat} {h : cmH} {Q : Option Value → cmH → Prop} (L : LY h) (x1 : Int32) (x2 : Int32) (x3 : Int32) (x4 : Int32) (x5 : Int32) (x6 : Int32) (x7 : Int32) (x8 : Int32) (o9 : Option Nat) (H : ∃ b1, o9 = some b1 ∧ cm_ci sc d 65 [.ref 9, .int ((x2.toUInt32 % 65536).toInt32), .ref b1] h (fun r h' => cm_wp sc (d + 1) 133 70 [some (.ref 0), some (.int x1), some (.int x2), some (.int x3), some (.int x4), some (.int x5), some (.int x6), some (.int x7), some (.int x8), some (.ref b1)] [.int r] h' Q)) : cm_wp sc (d + 1) 133 59 [some (.ref 0), some (.int x1), some (.int x2), some (.int x3), some (.int x4), some (.int x5), some (.int x6), some (.int x7), some (.int x8), some (va_rf o9)] [] h Q :=
  wl_st d133_59 rfl rfl rfl rfl (wl_gr (b := 9) d133_60 pf10_38 (ly_k L 0 rfl) rfl (ly_r L 0 4 rfl) (wl_st d133_63 rfl rfl rfl rfl (wl_st d133_64 rfl rfl rfl rfl (Exists.elim H fun b1 b1q => And.elim (fun b1e b1k => cm_rw (fun oo => cm_wp sc (d + 1) 133 65 [some (.ref 0), some (.int x1), some (.int x2), some (.int x3), some (.int x4), some (.int x5), some (.int x6), some (.int x7), some (.int x8), some (va_rf oo)] [.int ((x2.toUInt32 % 65536).toInt32), .ref 9] h Q) b1e (wl_st d133_65 rfl rfl rfl rfl (wl_ci d133_67 rfl rfl rfl pm10_224 (by decide) (ca_v (Or.inr rfl) rfl (Nat.le_of_ble_eq_true rfl) (Nat.le_of_ble_eq_true rfl) (ly_k L 9 rfl).2 (ly_k L 9 rfl).1 (by decide)) b1k))) b1q))))
theorem s133_70 {sc : cmS} {d : Nat} {h : cmH} {Q : Option Value → cmH → Prop} (x1 : Int32) (x2 : Int32) (x3 : Int32) (x4 : Int32) (x5 : Int32) (x6 : Int32) (x7 : Int32) (x8 : Int32) (o9 : Option Nat) (sx0 : Int32) (H : Q (some (.int sx0)) h) : cm_wp sc d 133 70 [some (.ref 0), some (.int x1), some (.int x2), some (.int x3), some (.int x4), some (.int x5), some (.int x6), some (.int x7), some (.int x8), some (va_rf o9)] [.int sx0] h Q :=
  wl_rt d133_70 rfl rfl rfl H
-- ClogHouseModel.<init>()V
theorem d134_0 : decode (cm_M 134).2.2.1 0 = .ok (.aload_n 0, 1) := by decide +kernel
theorem d134_1 : decode (cm_M 134).2.2.1 1 = .ok (.invokespecial 1, 3) := by decide +kernel
theorem d134_4 : decode (cm_M 134).2.2.1 4 = .ok (.aload_n 0, 1) := by decide +kernel
theorem d134_5 : decode (cm_M 134).2.2.1 5 = .ok (.bipush 8, 2) := by decide +kernel
theorem d134_7 : decode (cm_M 134).2.2.1 7 = .ok (.newarray .int, 2) := by decide +kernel
theorem d134_9 : decode (cm_M 134).2.2.1 9 = .ok (.putfield 9, 3) := by decide +kernel
theorem d134_12 : decode (cm_M 134).2.2.1 12 = .ok (.aload_n 0, 1) := by decide +kernel
theorem d134_13 : decode (cm_M 134).2.2.1 13 = .ok (.bipush 8, 2) := by decide +kernel
theorem d134_15 : decode (cm_M 134).2.2.1 15 = .ok (.newarray .int, 2) := by decide +kernel
theorem d134_17 : decode (cm_M 134).2.2.1 17 = .ok (.putfield 13, 3) := by decide +kernel
theorem d134_20 : decode (cm_M 134).2.2.1 20 = .ok (.aload_n 0, 1) := by decide +kernel
theorem d134_21 : decode (cm_M 134).2.2.1 21 = .ok (.bipush 8, 2) := by decide +kernel
theorem d134_23 : decode (cm_M 134).2.2.1 23 = .ok (.newarray .int, 2) := by decide +kernel
theorem d134_25 : decode (cm_M 134).2.2.1 25 = .ok (.putfield 16, 3) := by decide +kernel
theorem d134_28 : decode (cm_M 134).2.2.1 28 = .ok (.aload_n 0, 1) := by decide +kernel
theorem d134_29 : decode (cm_M 134).2.2.1 29 = .ok (.bipush 9, 2) := by decide +kernel
theorem d134_31 : decode (cm_M 134).2.2.1 31 = .ok (.newarray .int, 2) := by decide +kernel
theorem d134_33 : decode (cm_M 134).2.2.1 33 = .ok (.putfield 19, 3) := by decide +kernel
theorem d134_36 : decode (cm_M 134).2.2.1 36 = .ok (.aload_n 0, 1) := by decide +kernel
theorem d134_37 : decode (cm_M 134).2.2.1 37 = .ok (.bipush 90, 2) := by decide +kernel
theorem d134_39 : decode (cm_M 134).2.2.1 39 = .ok (.newarray .int, 2) := by decide +kernel
theorem d134_41 : decode (cm_M 134).2.2.1 41 = .ok (.putfield 22, 3) := by decide +kernel
theorem d134_44 : decode (cm_M 134).2.2.1 44 = .ok (.aload_n 0, 1) := by decide +kernel
theorem d134_45 : decode (cm_M 134).2.2.1 45 = .ok (.bipush 90, 2) := by decide +kernel
theorem d134_47 : decode (cm_M 134).2.2.1 47 = .ok (.newarray .int, 2) := by decide +kernel
theorem d134_49 : decode (cm_M 134).2.2.1 49 = .ok (.putfield 25, 3) := by decide +kernel
theorem d134_52 : decode (cm_M 134).2.2.1 52 = .ok (.aload_n 0, 1) := by decide +kernel
theorem d134_53 : decode (cm_M 134).2.2.1 53 = .ok (.bipush 90, 2) := by decide +kernel
theorem d134_55 : decode (cm_M 134).2.2.1 55 = .ok (.newarray .int, 2) := by decide +kernel
theorem d134_57 : decode (cm_M 134).2.2.1 57 = .ok (.putfield 28, 3) := by decide +kernel
theorem d134_60 : decode (cm_M 134).2.2.1 60 = .ok (.aload_n 0, 1) := by decide +kernel
theorem d134_61 : decode (cm_M 134).2.2.1 61 = .ok (.sipush 720, 3) := by decide +kernel
theorem d134_64 : decode (cm_M 134).2.2.1 64 = .ok (.newarray .int, 2) := by decide +kernel
theorem d134_66 : decode (cm_M 134).2.2.1 66 = .ok (.putfield 31, 3) := by decide +kernel
theorem d134_69 : decode (cm_M 134).2.2.1 69 = .ok (.aload_n 0, 1) := by decide +kernel
theorem d134_70 : decode (cm_M 134).2.2.1 70 = .ok (.sipush 720, 3) := by decide +kernel
theorem d134_73 : decode (cm_M 134).2.2.1 73 = .ok (.newarray .int, 2) := by decide +kernel
theorem d134_75 : decode (cm_M 134).2.2.1 75 = .ok (.putfield 34, 3) := by decide +kernel
theorem d134_78 : decode (cm_M 134).2.2.1 78 = .ok (.aload_n 0, 1) := by decide +kernel
theorem d134_79 : decode (cm_M 134).2.2.1 79 = .ok (.bipush 72, 2) := by decide +kernel
theorem d134_81 : decode (cm_M 134).2.2.1 81 = .ok (.newarray .int, 2) := by decide +kernel
theorem d134_83 : decode (cm_M 134).2.2.1 83 = .ok (.putfield 37, 3) := by decide +kernel
theorem d134_86 : decode (cm_M 134).2.2.1 86 = .ok (.aload_n 0, 1) := by decide +kernel
theorem d134_87 : decode (cm_M 134).2.2.1 87 = .ok (.bipush 9, 2) := by decide +kernel
theorem d134_89 : decode (cm_M 134).2.2.1 89 = .ok (.newarray .int, 2) := by decide +kernel
theorem d134_91 : decode (cm_M 134).2.2.1 91 = .ok (.putfield 40, 3) := by decide +kernel
theorem d134_94 : decode (cm_M 134).2.2.1 94 = .ok (.aload_n 0, 1) := by decide +kernel
theorem d134_95 : decode (cm_M 134).2.2.1 95 = .ok (.bipush 9, 2) := by decide +kernel
theorem d134_97 : decode (cm_M 134).2.2.1 97 = .ok (.newarray .int, 2) := by decide +kernel
theorem d134_99 : decode (cm_M 134).2.2.1 99 = .ok (.putfield 43, 3) := by decide +kernel
theorem d134_102 : decode (cm_M 134).2.2.1 102 = .ok (.aload_n 0, 1) := by decide +kernel
theorem d134_103 : decode (cm_M 134).2.2.1 103 = .ok (.bipush 9, 2) := by decide +kernel
theorem d134_105 : decode (cm_M 134).2.2.1 105 = .ok (.newarray .int, 2) := by decide +kernel
theorem d134_107 : decode (cm_M 134).2.2.1 107 = .ok (.putfield 46, 3) := by decide +kernel
theorem d134_110 : decode (cm_M 134).2.2.1 110 = .ok (.aload_n 0, 1) := by decide +kernel
theorem d134_111 : decode (cm_M 134).2.2.1 111 = .ok (.bipush 9, 2) := by decide +kernel
theorem d134_113 : decode (cm_M 134).2.2.1 113 = .ok (.newarray .int, 2) := by decide +kernel
theorem d134_115 : decode (cm_M 134).2.2.1 115 = .ok (.putfield 49, 3) := by decide +kernel
theorem d134_118 : decode (cm_M 134).2.2.1 118 = .ok (.aload_n 0, 1) := by decide +kernel
theorem d134_119 : decode (cm_M 134).2.2.1 119 = .ok (.bipush 9, 2) := by decide +kernel
theorem d134_121 : decode (cm_M 134).2.2.1 121 = .ok (.newarray .int, 2) := by decide +kernel
theorem d134_123 : decode (cm_M 134).2.2.1 123 = .ok (.putfield 52, 3) := by decide +kernel
theorem d134_126 : decode (cm_M 134).2.2.1 126 = .ok (.aload_n 0, 1) := by decide +kernel
theorem d134_127 : decode (cm_M 134).2.2.1 127 = .ok (.bipush 9, 2) := by decide +kernel
theorem d134_129 : decode (cm_M 134).2.2.1 129 = .ok (.newarray .int, 2) := by decide +kernel
theorem d134_131 : decode (cm_M 134).2.2.1 131 = .ok (.putfield 55, 3) := by decide +kernel
theorem d134_134 : decode (cm_M 134).2.2.1 134 = .ok (.aload_n 0, 1) := by decide +kernel
theorem d134_135 : decode (cm_M 134).2.2.1 135 = .ok (.bipush 9, 2) := by decide +kernel
theorem d134_137 : decode (cm_M 134).2.2.1 137 = .ok (.newarray .int, 2) := by decide +kernel
theorem d134_139 : decode (cm_M 134).2.2.1 139 = .ok (.putfield 58, 3) := by decide +kernel
theorem d134_142 : decode (cm_M 134).2.2.1 142 = .ok (.aload_n 0, 1) := by decide +kernel
theorem d134_143 : decode (cm_M 134).2.2.1 143 = .ok (.bipush 9, 2) := by decide +kernel
theorem d134_145 : decode (cm_M 134).2.2.1 145 = .ok (.newarray .int, 2) := by decide +kernel
theorem d134_147 : decode (cm_M 134).2.2.1 147 = .ok (.putfield 61, 3) := by decide +kernel
theorem d134_150 : decode (cm_M 134).2.2.1 150 = .ok (.aload_n 0, 1) := by decide +kernel
theorem d134_151 : decode (cm_M 134).2.2.1 151 = .ok (.bipush 9, 2) := by decide +kernel
theorem d134_153 : decode (cm_M 134).2.2.1 153 = .ok (.newarray .int, 2) := by decide +kernel
theorem d134_155 : decode (cm_M 134).2.2.1 155 = .ok (.putfield 64, 3) := by decide +kernel
theorem d134_158 : decode (cm_M 134).2.2.1 158 = .ok (.aload_n 0, 1) := by decide +kernel
theorem d134_159 : decode (cm_M 134).2.2.1 159 = .ok (.bipush 9, 2) := by decide +kernel
theorem d134_161 : decode (cm_M 134).2.2.1 161 = .ok (.newarray .int, 2) := by decide +kernel
theorem d134_163 : decode (cm_M 134).2.2.1 163 = .ok (.putfield 67, 3) := by decide +kernel
theorem d134_166 : decode (cm_M 134).2.2.1 166 = .ok (.aload_n 0, 1) := by decide +kernel
theorem d134_167 : decode (cm_M 134).2.2.1 167 = .ok (.bipush 9, 2) := by decide +kernel
theorem d134_169 : decode (cm_M 134).2.2.1 169 = .ok (.newarray .boolean, 2) := by decide +kernel
theorem d134_171 : decode (cm_M 134).2.2.1 171 = .ok (.putfield 70, 3) := by decide +kernel
theorem d134_174 : decode (cm_M 134).2.2.1 174 = .ok (.aload_n 0, 1) := by decide +kernel
theorem d134_175 : decode (cm_M 134).2.2.1 175 = .ok (.bipush 9, 2) := by decide +kernel
theorem d134_177 : decode (cm_M 134).2.2.1 177 = .ok (.newarray .boolean, 2) := by decide +kernel
theorem d134_179 : decode (cm_M 134).2.2.1 179 = .ok (.putfield 74, 3) := by decide +kernel
theorem d134_182 : decode (cm_M 134).2.2.1 182 = .ok (.aload_n 0, 1) := by decide +kernel
theorem d134_183 : decode (cm_M 134).2.2.1 183 = .ok (.sipush 160, 3) := by decide +kernel
theorem d134_186 : decode (cm_M 134).2.2.1 186 = .ok (.newarray .int, 2) := by decide +kernel
theorem d134_188 : decode (cm_M 134).2.2.1 188 = .ok (.putfield 77, 3) := by decide +kernel
theorem d134_191 : decode (cm_M 134).2.2.1 191 = .ok (.aload_n 0, 1) := by decide +kernel
theorem d134_192 : decode (cm_M 134).2.2.1 192 = .ok (.sipush 420, 3) := by decide +kernel
theorem d134_195 : decode (cm_M 134).2.2.1 195 = .ok (.newarray .int, 2) := by decide +kernel
theorem d134_197 : decode (cm_M 134).2.2.1 197 = .ok (.putfield 80, 3) := by decide +kernel
theorem d134_200 : decode (cm_M 134).2.2.1 200 = .ok (.aload_n 0, 1) := by decide +kernel
theorem d134_201 : decode (cm_M 134).2.2.1 201 = .ok (.sipush 5040, 3) := by decide +kernel
theorem d134_204 : decode (cm_M 134).2.2.1 204 = .ok (.newarray .int, 2) := by decide +kernel
theorem d134_206 : decode (cm_M 134).2.2.1 206 = .ok (.putfield 83, 3) := by decide +kernel
theorem d134_209 : decode (cm_M 134).2.2.1 209 = .ok (.aload_n 0, 1) := by decide +kernel
theorem d134_210 : decode (cm_M 134).2.2.1 210 = .ok (.bipush 12, 2) := by decide +kernel
theorem d134_212 : decode (cm_M 134).2.2.1 212 = .ok (.newarray .int, 2) := by decide +kernel
theorem d134_214 : decode (cm_M 134).2.2.1 214 = .ok (.putfield 86, 3) := by decide +kernel
theorem d134_217 : decode (cm_M 134).2.2.1 217 = .ok (.aload_n 0, 1) := by decide +kernel
theorem d134_218 : decode (cm_M 134).2.2.1 218 = .ok (.sipush 128, 3) := by decide +kernel
theorem d134_221 : decode (cm_M 134).2.2.1 221 = .ok (.newarray .int, 2) := by decide +kernel
theorem d134_223 : decode (cm_M 134).2.2.1 223 = .ok (.putfield 89, 3) := by decide +kernel
theorem d134_226 : decode (cm_M 134).2.2.1 226 = .ok (.aload_n 0, 1) := by decide +kernel
theorem d134_227 : decode (cm_M 134).2.2.1 227 = .ok (.sipush 200, 3) := by decide +kernel
theorem d134_230 : decode (cm_M 134).2.2.1 230 = .ok (.newarray .int, 2) := by decide +kernel
theorem d134_232 : decode (cm_M 134).2.2.1 232 = .ok (.putfield 92, 3) := by decide +kernel
theorem d134_235 : decode (cm_M 134).2.2.1 235 = .ok (.aload_n 0, 1) := by decide +kernel
theorem d134_236 : decode (cm_M 134).2.2.1 236 = .ok (.bipush 8, 2) := by decide +kernel
theorem d134_238 : decode (cm_M 134).2.2.1 238 = .ok (.newarray .int, 2) := by decide +kernel
theorem d134_240 : decode (cm_M 134).2.2.1 240 = .ok (.putfield 95, 3) := by decide +kernel
theorem d134_243 : decode (cm_M 134).2.2.1 243 = .ok (.aload_n 0, 1) := by decide +kernel
theorem d134_244 : decode (cm_M 134).2.2.1 244 = .ok (.ldc 98, 2) := by decide +kernel
theorem d134_246 : decode (cm_M 134).2.2.1 246 = .ok (.newarray .int, 2) := by decide +kernel
theorem d134_248 : decode (cm_M 134).2.2.1 248 = .ok (.putfield 99, 3) := by decide +kernel
theorem d134_251 : decode (cm_M 134).2.2.1 251 = .ok (.aload_n 0, 1) := by decide +kernel
theorem d134_252 : decode (cm_M 134).2.2.1 252 = .ok (.bipush 8, 2) := by decide +kernel
theorem d134_254 : decode (cm_M 134).2.2.1 254 = .ok (.newarray .int, 2) := by decide +kernel
theorem d134_256 : decode (cm_M 134).2.2.1 256 = .ok (.putfield 102, 3) := by decide +kernel
theorem d134_259 : decode (cm_M 134).2.2.1 259 = .ok (.aload_n 0, 1) := by decide +kernel
theorem d134_260 : decode (cm_M 134).2.2.1 260 = .ok (.bipush 8, 2) := by decide +kernel
theorem d134_262 : decode (cm_M 134).2.2.1 262 = .ok (.newarray .int, 2) := by decide +kernel
theorem d134_264 : decode (cm_M 134).2.2.1 264 = .ok (.putfield 105, 3) := by decide +kernel
theorem d134_267 : decode (cm_M 134).2.2.1 267 = .ok (.aload_n 0, 1) := by decide +kernel
theorem d134_268 : decode (cm_M 134).2.2.1 268 = .ok (.bipush 48, 2) := by decide +kernel
theorem d134_270 : decode (cm_M 134).2.2.1 270 = .ok (.newarray .int, 2) := by decide +kernel
theorem d134_272 : decode (cm_M 134).2.2.1 272 = .ok (.putfield 108, 3) := by decide +kernel
theorem d134_275 : decode (cm_M 134).2.2.1 275 = .ok (.aload_n 0, 1) := by decide +kernel
theorem d134_276 : decode (cm_M 134).2.2.1 276 = .ok (.bipush 8, 2) := by decide +kernel
theorem d134_278 : decode (cm_M 134).2.2.1 278 = .ok (.newarray .int, 2) := by decide +kernel
theorem d134_280 : decode (cm_M 134).2.2.1 280 = .ok (.putfield 111, 3) := by decide +kernel
theorem d134_283 : decode (cm_M 134).2.2.1 283 = .ok (.aload_n 0, 1) := by decide +kernel
theorem d134_284 : decode (cm_M 134).2.2.1 284 = .ok (.bipush 8, 2) := by decide +kernel
theorem d134_286 : decode (cm_M 134).2.2.1 286 = .ok (.newarray .int, 2) := by decide +kernel
theorem d134_288 : decode (cm_M 134).2.2.1 288 = .ok (.putfield 114, 3) := by decide +kernel
theorem d134_291 : decode (cm_M 134).2.2.1 291 = .ok (.aload_n 0, 1) := by decide +kernel
theorem d134_292 : decode (cm_M 134).2.2.1 292 = .ok (.bipush 8, 2) := by decide +kernel
theorem d134_294 : decode (cm_M 134).2.2.1 294 = .ok (.newarray .int, 2) := by decide +kernel
theorem d134_296 : decode (cm_M 134).2.2.1 296 = .ok (.putfield 117, 3) := by decide +kernel
theorem d134_299 : decode (cm_M 134).2.2.1 299 = .ok (.aload_n 0, 1) := by decide +kernel
theorem d134_300 : decode (cm_M 134).2.2.1 300 = .ok (.bipush 10, 2) := by decide +kernel
theorem d134_302 : decode (cm_M 134).2.2.1 302 = .ok (.newarray .int, 2) := by decide +kernel
theorem d134_304 : decode (cm_M 134).2.2.1 304 = .ok (.putfield 120, 3) := by decide +kernel
theorem d134_307 : decode (cm_M 134).2.2.1 307 = .ok (.aload_n 0, 1) := by decide +kernel
theorem d134_308 : decode (cm_M 134).2.2.1 308 = .ok (.bipush 8, 2) := by decide +kernel
theorem d134_310 : decode (cm_M 134).2.2.1 310 = .ok (.newarray .boolean, 2) := by decide +kernel
theorem d134_312 : decode (cm_M 134).2.2.1 312 = .ok (.putfield 123, 3) := by decide +kernel
theorem d134_315 : decode (cm_M 134).2.2.1 315 = .ok (.aload_n 0, 1) := by decide +kernel
theorem d134_316 : decode (cm_M 134).2.2.1 316 = .ok (.bipush 6, 2) := by decide +kernel
theorem d134_318 : decode (cm_M 134).2.2.1 318 = .ok (.newarray .int, 2) := by decide +kernel
theorem d134_320 : decode (cm_M 134).2.2.1 320 = .ok (.putfield 126, 3) := by decide +kernel
theorem d134_323 : decode (cm_M 134).2.2.1 323 = .ok (.aload_n 0, 1) := by decide +kernel
theorem d134_324 : decode (cm_M 134).2.2.1 324 = .ok (.bipush 6, 2) := by decide +kernel
theorem d134_326 : decode (cm_M 134).2.2.1 326 = .ok (.newarray .int, 2) := by decide +kernel
theorem d134_328 : decode (cm_M 134).2.2.1 328 = .ok (.putfield 129, 3) := by decide +kernel
theorem d134_331 : decode (cm_M 134).2.2.1 331 = .ok (.aload_n 0, 1) := by decide +kernel
theorem d134_332 : decode (cm_M 134).2.2.1 332 = .ok (.bipush 6, 2) := by decide +kernel
theorem d134_334 : decode (cm_M 134).2.2.1 334 = .ok (.newarray .int, 2) := by decide +kernel
theorem d134_336 : decode (cm_M 134).2.2.1 336 = .ok (.putfield 132, 3) := by decide +kernel
theorem d134_339 : decode (cm_M 134).2.2.1 339 = .ok (.aload_n 0, 1) := by decide +kernel
theorem d134_340 : decode (cm_M 134).2.2.1 340 = .ok (.bipush 6, 2) := by decide +kernel
theorem d134_342 : decode (cm_M 134).2.2.1 342 = .ok (.newarray .int, 2) := by decide +kernel
theorem d134_344 : decode (cm_M 134).2.2.1 344 = .ok (.putfield 135, 3) := by decide +kernel
theorem d134_347 : decode (cm_M 134).2.2.1 347 = .ok (.aload_n 0, 1) := by decide +kernel
theorem d134_348 : decode (cm_M 134).2.2.1 348 = .ok (.bipush 20, 2) := by decide +kernel
theorem d134_350 : decode (cm_M 134).2.2.1 350 = .ok (.newarray .int, 2) := by decide +kernel
theorem d134_352 : decode (cm_M 134).2.2.1 352 = .ok (.putfield 138, 3) := by decide +kernel
theorem d134_355 : decode (cm_M 134).2.2.1 355 = .ok (.aload_n 0, 1) := by decide +kernel
theorem d134_356 : decode (cm_M 134).2.2.1 356 = .ok (.sipush 4941, 3) := by decide +kernel
theorem d134_359 : decode (cm_M 134).2.2.1 359 = .ok (.newarray .long, 2) := by decide +kernel
theorem d134_361 : decode (cm_M 134).2.2.1 361 = .ok (.putfield 141, 3) := by decide +kernel
theorem d134_364 : decode (cm_M 134).2.2.1 364 = .ok (.aload_n 0, 1) := by decide +kernel
theorem d134_365 : decode (cm_M 134).2.2.1 365 = .ok (.bipush 100, 2) := by decide +kernel
theorem d134_367 : decode (cm_M 134).2.2.1 367 = .ok (.newarray .int, 2) := by decide +kernel
theorem d134_369 : decode (cm_M 134).2.2.1 369 = .ok (.putfield 145, 3) := by decide +kernel
theorem d134_372 : decode (cm_M 134).2.2.1 372 = .ok (.aload_n 0, 1) := by decide +kernel
theorem d134_373 : decode (cm_M 134).2.2.1 373 = .ok (.bipush 100, 2) := by decide +kernel
theorem d134_375 : decode (cm_M 134).2.2.1 375 = .ok (.newarray .int, 2) := by decide +kernel
theorem d134_377 : decode (cm_M 134).2.2.1 377 = .ok (.putfield 148, 3) := by decide +kernel
theorem d134_380 : decode (cm_M 134).2.2.1 380 = .ok (.aload_n 0, 1) := by decide +kernel
theorem d134_381 : decode (cm_M 134).2.2.1 381 = .ok (.bipush 100, 2) := by decide +kernel
theorem d134_383 : decode (cm_M 134).2.2.1 383 = .ok (.newarray .int, 2) := by decide +kernel
theorem d134_385 : decode (cm_M 134).2.2.1 385 = .ok (.putfield 151, 3) := by decide +kernel
theorem d134_388 : decode (cm_M 134).2.2.1 388 = .ok (.aload_n 0, 1) := by decide +kernel
theorem d134_389 : decode (cm_M 134).2.2.1 389 = .ok (.bipush 100, 2) := by decide +kernel
theorem d134_391 : decode (cm_M 134).2.2.1 391 = .ok (.newarray .int, 2) := by decide +kernel
theorem d134_393 : decode (cm_M 134).2.2.1 393 = .ok (.putfield 154, 3) := by decide +kernel
theorem d134_396 : decode (cm_M 134).2.2.1 396 = .ok (.iconst 0, 1) := by decide +kernel
theorem d134_397 : decode (cm_M 134).2.2.1 397 = .ok (.istore_n 1, 1) := by decide +kernel
theorem d134_398 : decode (cm_M 134).2.2.1 398 = .ok (.iload_n 1, 1) := by decide +kernel
theorem d134_399 : decode (cm_M 134).2.2.1 399 = .ok (.bipush 8, 2) := by decide +kernel
theorem d134_401 : decode (cm_M 134).2.2.1 401 = .ok (.if_icmp .ge 35, 3) := by decide +kernel
theorem d134_404 : decode (cm_M 134).2.2.1 404 = .ok (.aload_n 0, 1) := by decide +kernel
theorem d134_405 : decode (cm_M 134).2.2.1 405 = .ok (.getfield 9, 3) := by decide +kernel
theorem d134_408 : decode (cm_M 134).2.2.1 408 = .ok (.iload_n 1, 1) := by decide +kernel
theorem d134_409 : decode (cm_M 134).2.2.1 409 = .ok (.sipush 200, 3) := by decide +kernel
theorem d134_412 : decode (cm_M 134).2.2.1 412 = .ok (.iastore, 1) := by decide +kernel
theorem d134_413 : decode (cm_M 134).2.2.1 413 = .ok (.aload_n 0, 1) := by decide +kernel
theorem d134_414 : decode (cm_M 134).2.2.1 414 = .ok (.getfield 13, 3) := by decide +kernel
theorem d134_417 : decode (cm_M 134).2.2.1 417 = .ok (.iload_n 1, 1) := by decide +kernel
theorem d134_418 : decode (cm_M 134).2.2.1 418 = .ok (.sipush 600, 3) := by decide +kernel
theorem d134_421 : decode (cm_M 134).2.2.1 421 = .ok (.iastore, 1) := by decide +kernel
theorem d134_422 : decode (cm_M 134).2.2.1 422 = .ok (.aload_n 0, 1) := by decide +kernel
theorem d134_423 : decode (cm_M 134).2.2.1 423 = .ok (.getfield 16, 3) := by decide +kernel
theorem d134_426 : decode (cm_M 134).2.2.1 426 = .ok (.iload_n 1, 1) := by decide +kernel
theorem d134_427 : decode (cm_M 134).2.2.1 427 = .ok (.bipush 50, 2) := by decide +kernel
theorem d134_429 : decode (cm_M 134).2.2.1 429 = .ok (.iastore, 1) := by decide +kernel
theorem d134_430 : decode (cm_M 134).2.2.1 430 = .ok (.iinc 1 1, 3) := by decide +kernel
theorem d134_433 : decode (cm_M 134).2.2.1 433 = .ok (.goto (-35), 3) := by decide +kernel
theorem d134_436 : decode (cm_M 134).2.2.1 436 = .ok (.aload_n 0, 1) := by decide +kernel
theorem d134_437 : decode (cm_M 134).2.2.1 437 = .ok (.getfield 40, 3) := by decide +kernel
theorem d134_440 : decode (cm_M 134).2.2.1 440 = .ok (.bipush 8, 2) := by decide +kernel
theorem d134_442 : decode (cm_M 134).2.2.1 442 = .ok (.bipush 100, 2) := by decide +kernel
theorem d134_444 : decode (cm_M 134).2.2.1 444 = .ok (.iastore, 1) := by decide +kernel
theorem d134_445 : decode (cm_M 134).2.2.1 445 = .ok (.return_, 1) := by decide +kernel
theorem s134_0 {sc : cmS} {d : Nat} {h : cmH} {Q : Option Value → cmH → Prop} (a0 : Nat) (u1 : Option Value) (H : cm_wp sc (d + 1) 134 9 [some (.ref a0), u1] [.ref (cm_n h), .ref a0] (cm_mk h 13 8) Q) : cm_wp sc (d + 1) 134 0 [some (.ref a0), u1] [] h Q :=
  wl_st d134_0 rfl rfl rfl rfl (wl_pr (st' := []) d134_1 rfl rfl rfl pm11_1 (by decide) rfl rfl (wl_st d134_4 rfl rfl rfl rfl (wl_bi (v := 8) d134_5 rfl (wl_na (kd := 13) (N := 8) d134_7 (by decide) (by decide) rfl (H)))))
theorem s134_9 {sc : cmS} {d : Nat} {h : cmH} {Q : Option Value → cmH → Prop} (a0 : Nat) (u1 : Option Value) (sa0 : Nat) (sa1 : Nat) (H : (cm_kd h sa1 = 11 ∧ sa1 < cm_n h) ∧ cm_wp sc d 134 17 [some (.ref a0), u1] [.ref (cm_n (cm_setR h sa1 2 (some sa0))), .ref a0] (cm_mk (cm_setR h sa1 2 (some sa0)) 13 8) Q) : cm_wp sc d 134 9 [some (.ref a0), u1] [.ref sa0, .ref sa1] h Q :=
  And.elim (fun g1 g1k => wl_pf (h' := (cm_setR h sa1 2 (some sa0))) d134_9 pf11_9 g1 (Or.inr ⟨rfl, rfl, rfl⟩) rfl (wl_st d134_12 rfl rfl rfl rfl (wl_bi (v := 8) d134_13 rfl (wl_na (kd := 13) (N := 8) d134_15 (by decide) (by decide) rfl (g1k))))) H
theorem s134_17 {sc : cmS} {d : Nat} {h : cmH} {Q : Option Value → cmH → Prop} (a0 : Nat) (u1 : Option Value) (sa0 : Nat) (sa1 : Nat) (H : (cm_kd h sa1 = 11 ∧ sa1 < cm_n h) ∧ cm_wp sc d 134 25 [some (.ref a0), u1] [.ref (cm_n (cm_setR h sa1 3 (some sa0))), .ref a0] (cm_mk (cm_setR h sa1 3 (some sa0)) 13 8) Q) : cm_wp sc d 134 17 [some (.ref a0), u1] [.ref sa0, .ref sa1] h Q :=
  And.elim (fun g1 g1k => wl_pf (h' := (cm_setR h sa1 3 (some sa0))) d134_17 pf11_13 g1 (Or.inr ⟨rfl, rfl, rfl⟩) rfl (wl_st d134_20 rfl rfl rfl rfl (wl_bi (v := 8) d134_21 rfl (wl_na (kd := 13) (N := 8) d134_23 (by decide) (by decide) rfl (g1k))))) H
theorem s134_25 {sc : cmS} {d : Nat} {h : cmH} {Q : Option Value → cmH → Prop} (a0 : Nat) (u1 : Option Value) (sa0 : Nat) (sa1 : Nat) (H : (cm_kd h sa1 = 11 ∧ sa1 < cm_n h) ∧ cm_wp sc d 134 33 [some (.ref a0), u1] [.ref (cm_n (cm_setR h sa1 4 (some sa0))), .ref a0] (cm_mk (cm_setR h sa1 4 (some sa0)) 13 9) Q) : cm_wp sc d 134 25 [some (.ref a0), u1] [.ref sa0, .ref sa1] h Q :=
  And.elim (fun g1 g1k => wl_pf (h' := (cm_setR h sa1 4 (some sa0))) d134_25 pf11_16 g1 (Or.inr ⟨rfl, rfl, rfl⟩) rfl (wl_st d134_28 rfl rfl rfl rfl (wl_bi (v := 9) d134_29 rfl (wl_na (kd := 13) (N := 9) d134_31 (by decide) (by decide) rfl (g1k))))) H
theorem s134_33 {sc : cmS} {d : Nat} {h : cmH} {Q : Option Value → cmH → Prop} (a0 : Nat) (u1 : Option Value) (sa0 : Nat) (sa1 : Nat) (H : (cm_kd h sa1 = 11 ∧ sa1 < cm_n h) ∧ cm_wp sc d 134 41 [some (.ref a0), u1] [.ref (cm_n (cm_setR h sa1 5 (some sa0))), .ref a0] (cm_mk (cm_setR h sa1 5 (some sa0)) 13 90) Q) : cm_wp sc d 134 33 [some (.ref a0), u1] [.ref sa0, .ref sa1] h Q :=
  And.elim (fun g1 g1k => wl_pf (h' := (cm_setR h sa1 5 (some sa0))) d134_33 pf11_19 g1 (Or.inr ⟨rfl, rfl, rfl⟩) rfl (wl_st d134_36 rfl rfl rfl rfl (wl_bi (v := 90) d134_37 rfl (wl_na (kd := 13) (N := 90) d134_39 (by decide) (by decide) rfl (g1k))))) H
theorem s134_41 {sc : cmS} {d : Nat} {h : cmH} {Q : Option Value → cmH → Prop} (a0 : Nat) (u1 : Option Value) (sa0 : Nat) (sa1 : Nat) (H : (cm_kd h sa1 = 11 ∧ sa1 < cm_n h) ∧ cm_wp sc d 134 49 [some (.ref a0), u1] [.ref (cm_n (cm_setR h sa1 6 (some sa0))), .ref a0] (cm_mk (cm_setR h sa1 6 (some sa0)) 13 90) Q) : cm_wp sc d 134 41 [some (.ref a0), u1] [.ref sa0, .ref sa1] h Q :=
  And.elim (fun g1 g1k => wl_pf (h' := (cm_setR h sa1 6 (some sa0))) d134_41 pf11_22 g1 (Or.inr ⟨rfl, rfl, rfl⟩) rfl (wl_st d134_44 rfl rfl rfl rfl (wl_bi (v := 90) d134_45 rfl (wl_na (kd := 13) (N := 90) d134_47 (by decide) (by decide) rfl (g1k))))) H
theorem s134_49 {sc : cmS} {d : Nat} {h : cmH} {Q : Option Value → cmH → Prop} (a0 : Nat) (u1 : Option Value) (sa0 : Nat) (sa1 : Nat) (H : (cm_kd h sa1 = 11 ∧ sa1 < cm_n h) ∧ cm_wp sc d 134 57 [some (.ref a0), u1] [.ref (cm_n (cm_setR h sa1 7 (some sa0))), .ref a0] (cm_mk (cm_setR h sa1 7 (some sa0)) 13 90) Q) : cm_wp sc d 134 49 [some (.ref a0), u1] [.ref sa0, .ref sa1] h Q :=
  And.elim (fun g1 g1k => wl_pf (h' := (cm_setR h sa1 7 (some sa0))) d134_49 pf11_25 g1 (Or.inr ⟨rfl, rfl, rfl⟩) rfl (wl_st d134_52 rfl rfl rfl rfl (wl_bi (v := 90) d134_53 rfl (wl_na (kd := 13) (N := 90) d134_55 (by decide) (by decide) rfl (g1k))))) H
theorem s134_57 {sc : cmS} {d : Nat} {h : cmH} {Q : Option Value → cmH → Prop} (a0 : Nat) (u1 : Option Value) (sa0 : Nat) (sa1 : Nat) (H : (cm_kd h sa1 = 11 ∧ sa1 < cm_n h) ∧ cm_wp sc d 134 66 [some (.ref a0), u1] [.ref (cm_n (cm_setR h sa1 8 (some sa0))), .ref a0] (cm_mk (cm_setR h sa1 8 (some sa0)) 13 720) Q) : cm_wp sc d 134 57 [some (.ref a0), u1] [.ref sa0, .ref sa1] h Q :=
  And.elim (fun g1 g1k => wl_pf (h' := (cm_setR h sa1 8 (some sa0))) d134_57 pf11_28 g1 (Or.inr ⟨rfl, rfl, rfl⟩) rfl (wl_st d134_60 rfl rfl rfl rfl (wl_si (v := 720) d134_61 rfl (wl_na (kd := 13) (N := 720) d134_64 (by decide) (by decide) rfl (g1k))))) H
theorem s134_66 {sc : cmS} {d : Nat} {h : cmH} {Q : Option Value → cmH → Prop} (a0 : Nat) (u1 : Option Value) (sa0 : Nat) (sa1 : Nat) (H : (cm_kd h sa1 = 11 ∧ sa1 < cm_n h) ∧ cm_wp sc d 134 75 [some (.ref a0), u1] [.ref (cm_n (cm_setR h sa1 9 (some sa0))), .ref a0] (cm_mk (cm_setR h sa1 9 (some sa0)) 13 720) Q) : cm_wp sc d 134 66 [some (.ref a0), u1] [.ref sa0, .ref sa1] h Q :=
  And.elim (fun g1 g1k => wl_pf (h' := (cm_setR h sa1 9 (some sa0))) d134_66 pf11_31 g1 (Or.inr ⟨rfl, rfl, rfl⟩) rfl (wl_st d134_69 rfl rfl rfl rfl (wl_si (v := 720) d134_70 rfl (wl_na (kd := 13) (N := 720) d134_73 (by decide) (by decide) rfl (g1k))))) H
theorem s134_75 {sc : cmS} {d : Nat} {h : cmH} {Q : Option Value → cmH → Prop} (a0 : Nat) (u1 : Option Value) (sa0 : Nat) (sa1 : Nat) (H : (cm_kd h sa1 = 11 ∧ sa1 < cm_n h) ∧ cm_wp sc d 134 83 [some (.ref a0), u1] [.ref (cm_n (cm_setR h sa1 10 (some sa0))), .ref a0] (cm_mk (cm_setR h sa1 10 (some sa0)) 13 72) Q) : cm_wp sc d 134 75 [some (.ref a0), u1] [.ref sa0, .ref sa1] h Q :=
  And.elim (fun g1 g1k => wl_pf (h' := (cm_setR h sa1 10 (some sa0))) d134_75 pf11_34 g1 (Or.inr ⟨rfl, rfl, rfl⟩) rfl (wl_st d134_78 rfl rfl rfl rfl (wl_bi (v := 72) d134_79 rfl (wl_na (kd := 13) (N := 72) d134_81 (by decide) (by decide) rfl (g1k))))) H
theorem s134_83 {sc : cmS} {d : Nat} {h : cmH} {Q : Option Value → cmH → Prop} (a0 : Nat) (u1 : Option Value) (sa0 : Nat) (sa1 : Nat) (H : (cm_kd h sa1 = 11 ∧ sa1 < cm_n h) ∧ cm_wp sc d 134 91 [some (.ref a0), u1] [.ref (cm_n (cm_setR h sa1 11 (some sa0))), .ref a0] (cm_mk (cm_setR h sa1 11 (some sa0)) 13 9) Q) : cm_wp sc d 134 83 [some (.ref a0), u1] [.ref sa0, .ref sa1] h Q :=
  And.elim (fun g1 g1k => wl_pf (h' := (cm_setR h sa1 11 (some sa0))) d134_83 pf11_37 g1 (Or.inr ⟨rfl, rfl, rfl⟩) rfl (wl_st d134_86 rfl rfl rfl rfl (wl_bi (v := 9) d134_87 rfl (wl_na (kd := 13) (N := 9) d134_89 (by decide) (by decide) rfl (g1k))))) H
theorem s134_91 {sc : cmS} {d : Nat} {h : cmH} {Q : Option Value → cmH → Prop} (a0 : Nat) (u1 : Option Value) (sa0 : Nat) (sa1 : Nat) (H : (cm_kd h sa1 = 11 ∧ sa1 < cm_n h) ∧ cm_wp sc d 134 99 [some (.ref a0), u1] [.ref (cm_n (cm_setR h sa1 12 (some sa0))), .ref a0] (cm_mk (cm_setR h sa1 12 (some sa0)) 13 9) Q) : cm_wp sc d 134 91 [some (.ref a0), u1] [.ref sa0, .ref sa1] h Q :=
  And.elim (fun g1 g1k => wl_pf (h' := (cm_setR h sa1 12 (some sa0))) d134_91 pf11_40 g1 (Or.inr ⟨rfl, rfl, rfl⟩) rfl (wl_st d134_94 rfl rfl rfl rfl (wl_bi (v := 9) d134_95 rfl (wl_na (kd := 13) (N := 9) d134_97 (by decide) (by decide) rfl (g1k))))) H
theorem s134_99 {sc : cmS} {d : Nat} {h : cmH} {Q : Option Value → cmH → Prop} (a0 : Nat) (u1 : Option Value) (sa0 : Nat) (sa1 : Nat) (H : (cm_kd h sa1 = 11 ∧ sa1 < cm_n h) ∧ cm_wp sc d 134 107 [some (.ref a0), u1] [.ref (cm_n (cm_setR h sa1 13 (some sa0))), .ref a0] (cm_mk (cm_setR h sa1 13 (some sa0)) 13 9) Q) : cm_wp sc d 134 99 [some (.ref a0), u1] [.ref sa0, .ref sa1] h Q :=
  And.elim (fun g1 g1k => wl_pf (h' := (cm_setR h sa1 13 (some sa0))) d134_99 pf11_43 g1 (Or.inr ⟨rfl, rfl, rfl⟩) rfl (wl_st d134_102 rfl rfl rfl rfl (wl_bi (v := 9) d134_103 rfl (wl_na (kd := 13) (N := 9) d134_105 (by decide) (by decide) rfl (g1k))))) H
theorem s134_107 {sc : cmS} {d : Nat} {h : cmH} {Q : Option Value → cmH → Prop} (a0 : Nat) (u1 : Option Value) (sa0 : Nat) (sa1 : Nat) (H : (cm_kd h sa1 = 11 ∧ sa1 < cm_n h) ∧ cm_wp sc d 134 115 [some (.ref a0), u1] [.ref (cm_n (cm_setR h sa1 14 (some sa0))), .ref a0] (cm_mk (cm_setR h sa1 14 (some sa0)) 13 9) Q) : cm_wp sc d 134 107 [some (.ref a0), u1] [.ref sa0, .ref sa1] h Q :=
  And.elim (fun g1 g1k => wl_pf (h' := (cm_setR h sa1 14 (some sa0))) d134_107 pf11_46 g1 (Or.inr ⟨rfl, rfl, rfl⟩) rfl (wl_st d134_110 rfl rfl rfl rfl (wl_bi (v := 9) d134_111 rfl (wl_na (kd := 13) (N := 9) d134_113 (by decide) (by decide) rfl (g1k))))) H
theorem s134_115 {sc : cmS} {d : Nat} {h : cmH} {Q : Option Value → cmH → Prop} (a0 : Nat) (u1 : Option Value) (sa0 : Nat) (sa1 : Nat) (H : (cm_kd h sa1 = 11 ∧ sa1 < cm_n h) ∧ cm_wp sc d 134 123 [some (.ref a0), u1] [.ref (cm_n (cm_setR h sa1 15 (some sa0))), .ref a0] (cm_mk (cm_setR h sa1 15 (some sa0)) 13 9) Q) : cm_wp sc d 134 115 [some (.ref a0), u1] [.ref sa0, .ref sa1] h Q :=
  And.elim (fun g1 g1k => wl_pf (h' := (cm_setR h sa1 15 (some sa0))) d134_115 pf11_49 g1 (Or.inr ⟨rfl, rfl, rfl⟩) rfl (wl_st d134_118 rfl rfl rfl rfl (wl_bi (v := 9) d134_119 rfl (wl_na (kd := 13) (N := 9) d134_121 (by decide) (by decide) rfl (g1k))))) H
theorem s134_123 {sc : cmS} {d : Nat} {h : cmH} {Q : Option Value → cmH → Prop} (a0 : Nat) (u1 : Option Value) (sa0 : Nat) (sa1 : Nat) (H : (cm_kd h sa1 = 11 ∧ sa1 < cm_n h) ∧ cm_wp sc d 134 131 [some (.ref a0), u1] [.ref (cm_n (cm_setR h sa1 16 (some sa0))), .ref a0] (cm_mk (cm_setR h sa1 16 (some sa0)) 13 9) Q) : cm_wp sc d 134 123 [some (.ref a0), u1] [.ref sa0, .ref sa1] h Q :=
  And.elim (fun g1 g1k => wl_pf (h' := (cm_setR h sa1 16 (some sa0))) d134_123 pf11_52 g1 (Or.inr ⟨rfl, rfl, rfl⟩) rfl (wl_st d134_126 rfl rfl rfl rfl (wl_bi (v := 9) d134_127 rfl (wl_na (kd := 13) (N := 9) d134_129 (by decide) (by decide) rfl (g1k))))) H
theorem s134_131 {sc : cmS} {d : Nat} {h : cmH} {Q : Option Value → cmH → Prop} (a0 : Nat) (u1 : Option Value) (sa0 : Nat) (sa1 : Nat) (H : (cm_kd h sa1 = 11 ∧ sa1 < cm_n h) ∧ cm_wp sc d 134 139 [some (.ref a0), u1] [.ref (cm_n (cm_setR h sa1 17 (some sa0))), .ref a0] (cm_mk (cm_setR h sa1 17 (some sa0)) 13 9) Q) : cm_wp sc d 134 131 [some (.ref a0), u1] [.ref sa0, .ref sa1] h Q :=
  And.elim (fun g1 g1k => wl_pf (h' := (cm_setR h sa1 17 (some sa0))) d134_131 pf11_55 g1 (Or.inr ⟨rfl, rfl, rfl⟩) rfl (wl_st d134_134 rfl rfl rfl rfl (wl_bi (v := 9) d134_135 rfl (wl_na (kd := 13) (N := 9) d134_137 (by decide) (by decide) rfl (g1k))))) H
theorem s134_139 {sc : cmS} {d : Nat} {h : cmH} {Q : Option Value → cmH → Prop} (a0 : Nat) (u1 : Option Value) (sa0 : Nat) (sa1 : Nat) (H : (cm_kd h sa1 = 11 ∧ sa1 < cm_n h) ∧ cm_wp sc d 134 147 [some (.ref a0), u1] [.ref (cm_n (cm_setR h sa1 18 (some sa0))), .ref a0] (cm_mk (cm_setR h sa1 18 (some sa0)) 13 9) Q) : cm_wp sc d 134 139 [some (.ref a0), u1] [.ref sa0, .ref sa1] h Q :=
  And.elim (fun g1 g1k => wl_pf (h' := (cm_setR h sa1 18 (some sa0))) d134_139 pf11_58 g1 (Or.inr ⟨rfl, rfl, rfl⟩) rfl (wl_st d134_142 rfl rfl rfl rfl (wl_bi (v := 9) d134_143 rfl (wl_na (kd := 13) (N := 9) d134_145 (by decide) (by decide) rfl (g1k))))) H
theorem s134_147 {sc : cmS} {d : Nat} {h : cmH} {Q : Option Value → cmH → Prop} (a0 : Nat) (u1 : Option Value) (sa0 : Nat) (sa1 : Nat) (H : (cm_kd h sa1 = 11 ∧ sa1 < cm_n h) ∧ cm_wp sc d 134 155 [some (.ref a0), u1] [.ref (cm_n (cm_setR h sa1 19 (some sa0))), .ref a0] (cm_mk (cm_setR h sa1 19 (some sa0)) 13 9) Q) : cm_wp sc d 134 147 [some (.ref a0), u1] [.ref sa0, .ref sa1] h Q :=
  And.elim (fun g1 g1k => wl_pf (h' := (cm_setR h sa1 19 (some sa0))) d134_147 pf11_61 g1 (Or.inr ⟨rfl, rfl, rfl⟩) rfl (wl_st d134_150 rfl rfl rfl rfl (wl_bi (v := 9) d134_151 rfl (wl_na (kd := 13) (N := 9) d134_153 (by decide) (by decide) rfl (g1k))))) H
theorem s134_155 {sc : cmS} {d : Nat} {h : cmH} {Q : Option Value → cmH → Prop} (a0 : Nat) (u1 : Option Value) (sa0 : Nat) (sa1 : Nat) (H : (cm_kd h sa1 = 11 ∧ sa1 < cm_n h) ∧ cm_wp sc d 134 163 [some (.ref a0), u1] [.ref (cm_n (cm_setR h sa1 20 (some sa0))), .ref a0] (cm_mk (cm_setR h sa1 20 (some sa0)) 13 9) Q) : cm_wp sc d 134 155 [some (.ref a0), u1] [.ref sa0, .ref sa1] h Q :=
  And.elim (fun g1 g1k => wl_pf (h' := (cm_setR h sa1 20 (some sa0))) d134_155 pf11_64 g1 (Or.inr ⟨rfl, rfl, rfl⟩) rfl (wl_st d134_158 rfl rfl rfl rfl (wl_bi (v := 9) d134_159 rfl (wl_na (kd := 13) (N := 9) d134_161 (by decide) (by decide) rfl (g1k))))) H
theorem s134_163 {sc : cmS} {d : Nat} {h : cmH} {Q : Option Value → cmH → Prop} (a0 : Nat) (u1 : Option Value) (sa0 : Nat) (sa1 : Nat) (H : (cm_kd h sa1 = 11 ∧ sa1 < cm_n h) ∧ cm_wp sc d 134 171 [some (.ref a0), u1] [.ref (cm_n (cm_setR h sa1 21 (some sa0))), .ref a0] (cm_mk (cm_setR h sa1 21 (some sa0)) 15 9) Q) : cm_wp sc d 134 163 [some (.ref a0), u1] [.ref sa0, .ref sa1] h Q :=
  And.elim (fun g1 g1k => wl_pf (h' := (cm_setR h sa1 21 (some sa0))) d134_163 pf11_67 g1 (Or.inr ⟨rfl, rfl, rfl⟩) rfl (wl_st d134_166 rfl rfl rfl rfl (wl_bi (v := 9) d134_167 rfl (wl_na (kd := 15) (N := 9) d134_169 (by decide) (by decide) rfl (g1k))))) H
theorem s134_171 {sc : cmS} {d : Nat} {h : cmH} {Q : Option Value → cmH → Prop} (a0 : Nat) (u1 : Option Value) (sa0 : Nat) (sa1 : Nat) (H : (cm_kd h sa1 = 11 ∧ sa1 < cm_n h) ∧ cm_wp sc d 134 179 [some (.ref a0), u1] [.ref (cm_n (cm_setR h sa1 22 (some sa0))), .ref a0] (cm_mk (cm_setR h sa1 22 (some sa0)) 15 9) Q) : cm_wp sc d 134 171 [some (.ref a0), u1] [.ref sa0, .ref sa1] h Q :=
  And.elim (fun g1 g1k => wl_pf (h' := (cm_setR h sa1 22 (some sa0))) d134_171 pf11_70 g1 (Or.inr ⟨rfl, rfl, rfl⟩) rfl (wl_st d134_174 rfl rfl rfl rfl (wl_bi (v := 9) d134_175 rfl (wl_na (kd := 15) (N := 9) d134_177 (by decide) (by decide) rfl (g1k))))) H
theorem s134_179 {sc : cmS} {d : Nat} {h : cmH} {Q : Option Value → cmH → Prop} (a0 : Nat) (u1 : Option Value) (sa0 : Nat) (sa1 : Nat) (H : (cm_kd h sa1 = 11 ∧ sa1 < cm_n h) ∧ cm_wp sc d 134 188 [some (.ref a0), u1] [.ref (cm_n (cm_setR h sa1 23 (some sa0))), .ref a0] (cm_mk (cm_setR h sa1 23 (some sa0)) 13 160) Q) : cm_wp sc d 134 179 [some (.ref a0), u1] [.ref sa0, .ref sa1] h Q :=
  And.elim (fun g1 g1k => wl_pf (h' := (cm_setR h sa1 23 (some sa0))) d134_179 pf11_74 g1 (Or.inr ⟨rfl, rfl, rfl⟩) rfl (wl_st d134_182 rfl rfl rfl rfl (wl_si (v := 160) d134_183 rfl (wl_na (kd := 13) (N := 160) d134_186 (by decide) (by decide) rfl (g1k))))) H
theorem s134_188 {sc : cmS} {d : Nat} {h : cmH} {Q : Option Value → cmH → Prop} (a0 : Nat) (u1 : Option Value) (sa0 : Nat) (sa1 : Nat) (H : (cm_kd h sa1 = 11 ∧ sa1 < cm_n h) ∧ cm_wp sc d 134 197 [some (.ref a0), u1] [.ref (cm_n (cm_setR h sa1 25 (some sa0))), .ref a0] (cm_mk (cm_setR h sa1 25 (some sa0)) 13 420) Q) : cm_wp sc d 134 188 [some (.ref a0), u1] [.ref sa0, .ref sa1] h Q :=
  And.elim (fun g1 g1k => wl_pf (h' := (cm_setR h sa1 25 (some sa0))) d134_188 pf11_77 g1 (Or.inr ⟨rfl, rfl, rfl⟩) rfl (wl_st d134_191 rfl rfl rfl rfl (wl_si (v := 420) d134_192 rfl (wl_na (kd := 13) (N := 420) d134_195 (by decide) (by decide) rfl (g1k))))) H
theorem s134_197 {sc : cmS} {d : Nat} {h : cmH} {Q : Option Value → cmH → Prop} (a0 : Nat) (u1 : Option Value) (sa0 : Nat) (sa1 : Nat) (H : (cm_kd h sa1 = 11 ∧ sa1 < cm_n h) ∧ cm_wp sc d 134 206 [some (.ref a0), u1] [.ref (cm_n (cm_setR h sa1 26 (some sa0))), .ref a0] (cm_mk (cm_setR h sa1 26 (some sa0)) 13 5040) Q) : cm_wp sc d 134 197 [some (.ref a0), u1] [.ref sa0, .ref sa1] h Q :=
  And.elim (fun g1 g1k => wl_pf (h' := (cm_setR h sa1 26 (some sa0))) d134_197 pf11_80 g1 (Or.inr ⟨rfl, rfl, rfl⟩) rfl (wl_st d134_200 rfl rfl rfl rfl (wl_si (v := 5040) d134_201 rfl (wl_na (kd := 13) (N := 5040) d134_204 (by decide) (by decide) rfl (g1k))))) H
theorem s134_206 {sc : cmS} {d : Nat} {h : cmH} {Q : Option Value → cmH → Prop} (a0 : Nat) (u1 : Option Value) (sa0 : Nat) (sa1 : Nat) (H : (cm_kd h sa1 = 11 ∧ sa1 < cm_n h) ∧ cm_wp sc d 134 214 [some (.ref a0), u1] [.ref (cm_n (cm_setR h sa1 27 (some sa0))), .ref a0] (cm_mk (cm_setR h sa1 27 (some sa0)) 13 12) Q) : cm_wp sc d 134 206 [some (.ref a0), u1] [.ref sa0, .ref sa1] h Q :=
  And.elim (fun g1 g1k => wl_pf (h' := (cm_setR h sa1 27 (some sa0))) d134_206 pf11_83 g1 (Or.inr ⟨rfl, rfl, rfl⟩) rfl (wl_st d134_209 rfl rfl rfl rfl (wl_bi (v := 12) d134_210 rfl (wl_na (kd := 13) (N := 12) d134_212 (by decide) (by decide) rfl (g1k))))) H
theorem s134_214 {sc : cmS} {d : Nat} {h : cmH} {Q : Option Value → cmH → Prop} (a0 : Nat) (u1 : Option Value) (sa0 : Nat) (sa1 : Nat) (H : (cm_kd h sa1 = 11 ∧ sa1 < cm_n h) ∧ cm_wp sc d 134 223 [some (.ref a0), u1] [.ref (cm_n (cm_setR h sa1 28 (some sa0))), .ref a0] (cm_mk (cm_setR h sa1 28 (some sa0)) 13 128) Q) : cm_wp sc d 134 214 [some (.ref a0), u1] [.ref sa0, .ref sa1] h Q :=
  And.elim (fun g1 g1k => wl_pf (h' := (cm_setR h sa1 28 (some sa0))) d134_214 pf11_86 g1 (Or.inr ⟨rfl, rfl, rfl⟩) rfl (wl_st d134_217 rfl rfl rfl rfl (wl_si (v := 128) d134_218 rfl (wl_na (kd := 13) (N := 128) d134_221 (by decide) (by decide) rfl (g1k))))) H
theorem s134_223 {sc : cmS} {d : Nat} {h : cmH} {Q : Option Value → cmH → Prop} (a0 : Nat) (u1 : Option Value) (sa0 : Nat) (sa1 : Nat) (H : (cm_kd h sa1 = 11 ∧ sa1 < cm_n h) ∧ cm_wp sc d 134 232 [some (.ref a0), u1] [.ref (cm_n (cm_setR h sa1 35 (some sa0))), .ref a0] (cm_mk (cm_setR h sa1 35 (some sa0)) 13 200) Q) : cm_wp sc d 134 223 [some (.ref a0), u1] [.ref sa0, .ref sa1] h Q :=
  And.elim (fun g1 g1k => wl_pf (h' := (cm_setR h sa1 35 (some sa0))) d134_223 pf11_89 g1 (Or.inr ⟨rfl, rfl, rfl⟩) rfl (wl_st d134_226 rfl rfl rfl rfl (wl_si (v := 200) d134_227 rfl (wl_na (kd := 13) (N := 200) d134_230 (by decide) (by decide) rfl (g1k))))) H
theorem s134_232 {sc : cmS} {d : Nat} {h : cmH} {Q : Option Value → cmH → Prop} (a0 : Nat) (u1 : Option Value) (sa0 : Nat) (sa1 : Nat) (H : (cm_kd h sa1 = 11 ∧ sa1 < cm_n h) ∧ cm_wp sc d 134 240 [some (.ref a0), u1] [.ref (cm_n (cm_setR h sa1 36 (some sa0))), .ref a0] (cm_mk (cm_setR h sa1 36 (some sa0)) 13 8) Q) : cm_wp sc d 134 232 [some (.ref a0), u1] [.ref sa0, .ref sa1] h Q :=
  And.elim (fun g1 g1k => wl_pf (h' := (cm_setR h sa1 36 (some sa0))) d134_232 pf11_92 g1 (Or.inr ⟨rfl, rfl, rfl⟩) rfl (wl_st d134_235 rfl rfl rfl rfl (wl_bi (v := 8) d134_236 rfl (wl_na (kd := 13) (N := 8) d134_238 (by decide) (by decide) rfl (g1k))))) H
theorem s134_240 {sc : cmS} {d : Nat} {h : cmH} {Q : Option Value → cmH → Prop} (a0 : Nat) (u1 : Option Value) (sa0 : Nat) (sa1 : Nat) (H : (cm_kd h sa1 = 11 ∧ sa1 < cm_n h) ∧ cm_wp sc d 134 248 [some (.ref a0), u1] [.ref (cm_n (cm_setR h sa1 38 (some sa0))), .ref a0] (cm_mk (cm_setR h sa1 38 (some sa0)) 13 48024) Q) : cm_wp sc d 134 240 [some (.ref a0), u1] [.ref sa0, .ref sa1] h Q :=
  And.elim (fun g1 g1k => wl_pf (h' := (cm_setR h sa1 38 (some sa0))) d134_240 pf11_95 g1 (Or.inr ⟨rfl, rfl, rfl⟩) rfl (wl_st d134_243 rfl rfl rfl rfl (wl_cI (v := 48024) d134_244 pc11_98 (wl_na (kd := 13) (N := 48024) d134_246 (by decide) (by decide) rfl (g1k))))) H
theorem s134_248 {sc : cmS} {d : Nat} {h : cmH} {Q : Option Value → cmH → Prop} (a0 : Nat) (u1 : Option Value) (sa0 : Nat) (sa1 : Nat) (H : (cm_kd h sa1 = 11 ∧ sa1 < cm_n h) ∧ cm_wp sc d 134 256 [some (.ref a0), u1] [.ref (cm_n (cm_setR h sa1 39 (some sa0))), .ref a0] (cm_mk (cm_setR h sa1 39 (some sa0)) 13 8) Q) : cm_wp sc d 134 248 [some (.ref a0), u1] [.ref sa0, .ref sa1] h Q :=
  And.elim (fun g1 g1k => wl_pf (h' := (cm_setR h sa1 39 (some sa0))) d134_248 pf11_99 g1 (Or.inr ⟨rfl, rfl, rfl⟩) rfl (wl_st d134_251 rfl rfl rfl rfl (wl_bi (v := 8) d134_252 rfl (wl_na (kd := 13) (N := 8) d134_254 (by decide) (by decide) rfl (g1k))))) H
theorem s134_256 {sc : cmS} {d : Nat} {h : cmH} {Q : Option Value → cmH → Prop} (a0 : Nat) (u1 : Option Value) (sa0 : Nat) (sa1 : Nat) (H : (cm_kd h sa1 = 11 ∧ sa1 < cm_n h) ∧ cm_wp sc d 134 264 [some (.ref a0), u1] [.ref (cm_n (cm_setR h sa1 40 (some sa0))), .ref a0] (cm_mk (cm_setR h sa1 40 (some sa0)) 13 8) Q) : cm_wp sc d 134 256 [some (.ref a0), u1] [.ref sa0, .ref sa1] h Q :=
  And.elim (fun g1 g1k => wl_pf (h' := (cm_setR h sa1 40 (some sa0))) d134_256 pf11_102 g1 (Or.inr ⟨rfl, rfl, rfl⟩) rfl (wl_st d134_259 rfl rfl rfl rfl (wl_bi (v := 8) d134_260 rfl (wl_na (kd := 13) (N := 8) d134_262 (by decide) (by decide) rfl (g1k))))) H
theorem s134_264 {sc : cmS} {d : Nat} {h : cmH} {Q : Option Value → cmH → Prop} (a0 : Nat) (u1 : Option Value) (sa0 : Nat) (sa1 : Nat) (H : (cm_kd h sa1 = 11 ∧ sa1 < cm_n h) ∧ cm_wp sc d 134 272 [some (.ref a0), u1] [.ref (cm_n (cm_setR h sa1 41 (some sa0))), .ref a0] (cm_mk (cm_setR h sa1 41 (some sa0)) 13 48) Q) : cm_wp sc d 134 264 [some (.ref a0), u1] [.ref sa0, .ref sa1] h Q :=
  And.elim (fun g1 g1k => wl_pf (h' := (cm_setR h sa1 41 (some sa0))) d134_264 pf11_105 g1 (Or.inr ⟨rfl, rfl, rfl⟩) rfl (wl_st d134_267 rfl rfl rfl rfl (wl_bi (v := 48) d134_268 rfl (wl_na (kd := 13) (N := 48) d134_270 (by decide) (by decide) rfl (g1k))))) H
theorem s134_272 {sc : cmS} {d : Nat} {h : cmH} {Q : Option Value → cmH → Prop} (a0 : Nat) (u1 : Option Value) (sa0 : Nat) (sa1 : Nat) (H : (cm_kd h sa1 = 11 ∧ sa1 < cm_n h) ∧ cm_wp sc d 134 280 [some (.ref a0), u1] [.ref (cm_n (cm_setR h sa1 42 (some sa0))), .ref a0] (cm_mk (cm_setR h sa1 42 (some sa0)) 13 8) Q) : cm_wp sc d 134 272 [some (.ref a0), u1] [.ref sa0, .ref sa1] h Q :=
  And.elim (fun g1 g1k => wl_pf (h' := (cm_setR h sa1 42 (some sa0))) d134_272 pf11_108 g1 (Or.inr ⟨rfl, rfl, rfl⟩) rfl (wl_st d134_275 rfl rfl rfl rfl (wl_bi (v := 8) d134_276 rfl (wl_na (kd := 13) (N := 8) d134_278 (by decide) (by decide) rfl (g1k))))) H
theorem s134_280 {sc : cmS} {d : Nat} {h : cmH} {Q : Option Value → cmH → Prop} (a0 : Nat) (u1 : Option Value) (sa0 : Nat) (sa1 : Nat) (H : (cm_kd h sa1 = 11 ∧ sa1 < cm_n h) ∧ cm_wp sc d 134 288 [some (.ref a0), u1] [.ref (cm_n (cm_setR h sa1 43 (some sa0))), .ref a0] (cm_mk (cm_setR h sa1 43 (some sa0)) 13 8) Q) : cm_wp sc d 134 280 [some (.ref a0), u1] [.ref sa0, .ref sa1] h Q :=
  And.elim (fun g1 g1k => wl_pf (h' := (cm_setR h sa1 43 (some sa0))) d134_280 pf11_111 g1 (Or.inr ⟨rfl, rfl, rfl⟩) rfl (wl_st d134_283 rfl rfl rfl rfl (wl_bi (v := 8) d134_284 rfl (wl_na (kd := 13) (N := 8) d134_286 (by decide) (by decide) rfl (g1k))))) H
theorem s134_288 {sc : cmS} {d : Nat} {h : cmH} {Q : Option Value → cmH → Prop} (a0 : Nat) (u1 : Option Value) (sa0 : Nat) (sa1 : Nat) (H : (cm_kd h sa1 = 11 ∧ sa1 < cm_n h) ∧ cm_wp sc d 134 296 [some (.ref a0), u1] [.ref (cm_n (cm_setR h sa1 44 (some sa0))), .ref a0] (cm_mk (cm_setR h sa1 44 (some sa0)) 13 8) Q) : cm_wp sc d 134 288 [some (.ref a0), u1] [.ref sa0, .ref sa1] h Q :=
  And.elim (fun g1 g1k => wl_pf (h' := (cm_setR h sa1 44 (some sa0))) d134_288 pf11_114 g1 (Or.inr ⟨rfl, rfl, rfl⟩) rfl (wl_st d134_291 rfl rfl rfl rfl (wl_bi (v := 8) d134_292 rfl (wl_na (kd := 13) (N := 8) d134_294 (by decide) (by decide) rfl (g1k))))) H
theorem s134_296 {sc : cmS} {d : Nat} {h : cmH} {Q : Option Value → cmH → Prop} (a0 : Nat) (u1 : Option Value) (sa0 : Nat) (sa1 : Nat) (H : (cm_kd h sa1 = 11 ∧ sa1 < cm_n h) ∧ cm_wp sc d 134 304 [some (.ref a0), u1] [.ref (cm_n (cm_setR h sa1 45 (some sa0))), .ref a0] (cm_mk (cm_setR h sa1 45 (some sa0)) 13 10) Q) : cm_wp sc d 134 296 [some (.ref a0), u1] [.ref sa0, .ref sa1] h Q :=
  And.elim (fun g1 g1k => wl_pf (h' := (cm_setR h sa1 45 (some sa0))) d134_296 pf11_117 g1 (Or.inr ⟨rfl, rfl, rfl⟩) rfl (wl_st d134_299 rfl rfl rfl rfl (wl_bi (v := 10) d134_300 rfl (wl_na (kd := 13) (N := 10) d134_302 (by decide) (by decide) rfl (g1k))))) H
theorem s134_304 {sc : cmS} {d : Nat} {h : cmH} {Q : Option Value → cmH → Prop} (a0 : Nat) (u1 : Option Value) (sa0 : Nat) (sa1 : Nat) (H : (cm_kd h sa1 = 11 ∧ sa1 < cm_n h) ∧ cm_wp sc d 134 312 [some (.ref a0), u1] [.ref (cm_n (cm_setR h sa1 46 (some sa0))), .ref a0] (cm_mk (cm_setR h sa1 46 (some sa0)) 15 8) Q) : cm_wp sc d 134 304 [some (.ref a0), u1] [.ref sa0, .ref sa1] h Q :=
  And.elim (fun g1 g1k => wl_pf (h' := (cm_setR h sa1 46 (some sa0))) d134_304 pf11_120 g1 (Or.inr ⟨rfl, rfl, rfl⟩) rfl (wl_st d134_307 rfl rfl rfl rfl (wl_bi (v := 8) d134_308 rfl (wl_na (kd := 15) (N := 8) d134_310 (by decide) (by decide) rfl (g1k))))) H
theorem s134_312 {sc : cmS} {d : Nat} {h : cmH} {Q : Option Value → cmH → Prop} (a0 : Nat) (u1 : Option Value) (sa0 : Nat) (sa1 : Nat) (H : (cm_kd h sa1 = 11 ∧ sa1 < cm_n h) ∧ cm_wp sc d 134 320 [some (.ref a0), u1] [.ref (cm_n (cm_setR h sa1 47 (some sa0))), .ref a0] (cm_mk (cm_setR h sa1 47 (some sa0)) 13 6) Q) : cm_wp sc d 134 312 [some (.ref a0), u1] [.ref sa0, .ref sa1] h Q :=
  And.elim (fun g1 g1k => wl_pf (h' := (cm_setR h sa1 47 (some sa0))) d134_312 pf11_123 g1 (Or.inr ⟨rfl, rfl, rfl⟩) rfl (wl_st d134_315 rfl rfl rfl rfl (wl_bi (v := 6) d134_316 rfl (wl_na (kd := 13) (N := 6) d134_318 (by decide) (by decide) rfl (g1k))))) H
theorem s134_320 {sc : cmS} {d : Nat} {h : cmH} {Q : Option Value → cmH → Prop} (a0 : Nat) (u1 : Option Value) (sa0 : Nat) (sa1 : Nat) (H : (cm_kd h sa1 = 11 ∧ sa1 < cm_n h) ∧ cm_wp sc d 134 328 [some (.ref a0), u1] [.ref (cm_n (cm_setR h sa1 49 (some sa0))), .ref a0] (cm_mk (cm_setR h sa1 49 (some sa0)) 13 6) Q) : cm_wp sc d 134 320 [some (.ref a0), u1] [.ref sa0, .ref sa1] h Q :=
  And.elim (fun g1 g1k => wl_pf (h' := (cm_setR h sa1 49 (some sa0))) d134_320 pf11_126 g1 (Or.inr ⟨rfl, rfl, rfl⟩) rfl (wl_st d134_323 rfl rfl rfl rfl (wl_bi (v := 6) d134_324 rfl (wl_na (kd := 13) (N := 6) d134_326 (by decide) (by decide) rfl (g1k))))) H
theorem s134_328 {sc : cmS} {d : Nat} {h : cmH} {Q : Option Value → cmH → Prop} (a0 : Nat) (u1 : Option Value) (sa0 : Nat) (sa1 : Nat) (H : (cm_kd h sa1 = 11 ∧ sa1 < cm_n h) ∧ cm_wp sc d 134 336 [some (.ref a0), u1] [.ref (cm_n (cm_setR h sa1 50 (some sa0))), .ref a0] (cm_mk (cm_setR h sa1 50 (some sa0)) 13 6) Q) : cm_wp sc d 134 328 [some (.ref a0), u1] [.ref sa0, .ref sa1] h Q :=
  And.elim (fun g1 g1k => wl_pf (h' := (cm_setR h sa1 50 (some sa0))) d134_328 pf11_129 g1 (Or.inr ⟨rfl, rfl, rfl⟩) rfl (wl_st d134_331 rfl rfl rfl rfl (wl_bi (v := 6) d134_332 rfl (wl_na (kd := 13) (N := 6) d134_334 (by decide) (by decide) rfl (g1k))))) H
theorem s134_336 {sc : cmS} {d : Nat} {h : cmH} {Q : Option Value → cmH → Prop} (a0 : Nat) (u1 : Option Value) (sa0 : Nat) (sa1 : Nat) (H : (cm_kd h sa1 = 11 ∧ sa1 < cm_n h) ∧ cm_wp sc d 134 344 [some (.ref a0), u1] [.ref (cm_n (cm_setR h sa1 51 (some sa0))), .ref a0] (cm_mk (cm_setR h sa1 51 (some sa0)) 13 6) Q) : cm_wp sc d 134 336 [some (.ref a0), u1] [.ref sa0, .ref sa1] h Q :=
  And.elim (fun g1 g1k => wl_pf (h' := (cm_setR h sa1 51 (some sa0))) d134_336 pf11_132 g1 (Or.inr ⟨rfl, rfl, rfl⟩) rfl (wl_st d134_339 rfl rfl rfl rfl (wl_bi (v := 6) d134_340 rfl (wl_na (kd := 13) (N := 6) d134_342 (by decide) (by decide) rfl (g1k))))) H
theorem s134_344 {sc : cmS} {d : Nat} {h : cmH} {Q : Option Value → cmH → Prop} (a0 : Nat) (u1 : Option Value) (sa0 : Nat) (sa1 : Nat) (H : (cm_kd h sa1 = 11 ∧ sa1 < cm_n h) ∧ cm_wp sc d 134 352 [some (.ref a0), u1] [.ref (cm_n (cm_setR h sa1 52 (some sa0))), .ref a0] (cm_mk (cm_setR h sa1 52 (some sa0)) 13 20) Q) : cm_wp sc d 134 344 [some (.ref a0), u1] [.ref sa0, .ref sa1] h Q :=
  And.elim (fun g1 g1k => wl_pf (h' := (cm_setR h sa1 52 (some sa0))) d134_344 pf11_135 g1 (Or.inr ⟨rfl, rfl, rfl⟩) rfl (wl_st d134_347 rfl rfl rfl rfl (wl_bi (v := 20) d134_348 rfl (wl_na (kd := 13) (N := 20) d134_350 (by decide) (by decide) rfl (g1k))))) H
theorem s134_352 {sc : cmS} {d : Nat} {h : cmH} {Q : Option Value → cmH → Prop} (a0 : Nat) (u1 : Option Value) (sa0 : Nat) (sa1 : Nat) (H : (cm_kd h sa1 = 11 ∧ sa1 < cm_n h) ∧ cm_wp sc d 134 361 [some (.ref a0), u1] [.ref (cm_n (cm_setR h sa1 55 (some sa0))), .ref a0] (cm_mk (cm_setR h sa1 55 (some sa0)) 14 4941) Q) : cm_wp sc d 134 352 [some (.ref a0), u1] [.ref sa0, .ref sa1] h Q :=
  And.elim (fun g1 g1k => wl_pf (h' := (cm_setR h sa1 55 (some sa0))) d134_352 pf11_138 g1 (Or.inr ⟨rfl, rfl, rfl⟩) rfl (wl_st d134_355 rfl rfl rfl rfl (wl_si (v := 4941) d134_356 rfl (wl_na (kd := 14) (N := 4941) d134_359 (by decide) (by decide) rfl (g1k))))) H
theorem s134_361 {sc : cmS} {d : Nat} {h : cmH} {Q : Option Value → cmH → Prop} (a0 : Nat) (u1 : Option Value) (sa0 : Nat) (sa1 : Nat) (H : (cm_kd h sa1 = 11 ∧ sa1 < cm_n h) ∧ cm_wp sc d 134 369 [some (.ref a0), u1] [.ref (cm_n (cm_setR h sa1 56 (some sa0))), .ref a0] (cm_mk (cm_setR h sa1 56 (some sa0)) 13 100) Q) : cm_wp sc d 134 361 [some (.ref a0), u1] [.ref sa0, .ref sa1] h Q :=
  And.elim (fun g1 g1k => wl_pf (h' := (cm_setR h sa1 56 (some sa0))) d134_361 pf11_141 g1 (Or.inr ⟨rfl, rfl, rfl⟩) rfl (wl_st d134_364 rfl rfl rfl rfl (wl_bi (v := 100) d134_365 rfl (wl_na (kd := 13) (N := 100) d134_367 (by decide) (by decide) rfl (g1k))))) H
theorem s134_369 {sc : cmS} {d : Nat} {h : cmH} {Q : Option Value → cmH → Prop} (a0 : Nat) (u1 : Option Value) (sa0 : Nat) (sa1 : Nat) (H : (cm_kd h sa1 = 11 ∧ sa1 < cm_n h) ∧ cm_wp sc d 134 377 [some (.ref a0), u1] [.ref (cm_n (cm_setR h sa1 58 (some sa0))), .ref a0] (cm_mk (cm_setR h sa1 58 (some sa0)) 13 100) Q) : cm_wp sc d 134 369 [some (.ref a0), u1] [.ref sa0, .ref sa1] h Q :=
  And.elim (fun g1 g1k => wl_pf (h' := (cm_setR h sa1 58 (some sa0))) d134_369 pf11_145 g1 (Or.inr ⟨rfl, rfl, rfl⟩) rfl (wl_st d134_372 rfl rfl rfl rfl (wl_bi (v := 100) d134_373 rfl (wl_na (kd := 13) (N := 100) d134_375 (by decide) (by decide) rfl (g1k))))) H
theorem s134_377 {sc : cmS} {d : Nat} {h : cmH} {Q : Option Value → cmH → Prop} (a0 : Nat) (u1 : Option Value) (sa0 : Nat) (sa1 : Nat) (H : (cm_kd h sa1 = 11 ∧ sa1 < cm_n h) ∧ cm_wp sc d 134 385 [some (.ref a0), u1] [.ref (cm_n (cm_setR h sa1 59 (some sa0))), .ref a0] (cm_mk (cm_setR h sa1 59 (some sa0)) 13 100) Q) : cm_wp sc d 134 377 [some (.ref a0), u1] [.ref sa0, .ref sa1] h Q :=
  And.elim (fun g1 g1k => wl_pf (h' := (cm_setR h sa1 59 (some sa0))) d134_377 pf11_148 g1 (Or.inr ⟨rfl, rfl, rfl⟩) rfl (wl_st d134_380 rfl rfl rfl rfl (wl_bi (v := 100) d134_381 rfl (wl_na (kd := 13) (N := 100) d134_383 (by decide) (by decide) rfl (g1k))))) H
theorem s134_385 {sc : cmS} {d : Nat} {h : cmH} {Q : Option Value → cmH → Prop} (a0 : Nat) (u1 : Option Value) (sa0 : Nat) (sa1 : Nat) (H : (cm_kd h sa1 = 11 ∧ sa1 < cm_n h) ∧ cm_wp sc d 134 393 [some (.ref a0), u1] [.ref (cm_n (cm_setR h sa1 60 (some sa0))), .ref a0] (cm_mk (cm_setR h sa1 60 (some sa0)) 13 100) Q) : cm_wp sc d 134 385 [some (.ref a0), u1] [.ref sa0, .ref sa1] h Q :=
  And.elim (fun g1 g1k => wl_pf (h' := (cm_setR h sa1 60 (some sa0))) d134_385 pf11_151 g1 (Or.inr ⟨rfl, rfl, rfl⟩) rfl (wl_st d134_388 rfl rfl rfl rfl (wl_bi (v := 100) d134_389 rfl (wl_na (kd := 13) (N := 100) d134_391 (by decide) (by decide) rfl (g1k))))) H
theorem s134_393 {sc : cmS} {d : Nat} {h : cmH} {Q : Option Value → cmH → Prop} (a0 : Nat) (u1 : Option Value) (sa0 : Nat) (sa1 : Nat) (H : (cm_kd h sa1 = 11 ∧ sa1 < cm_n h) ∧ cm_wp sc d 134 398 [some (.ref a0), some (.int (0 : Int32))] [] (cm_setR h sa1 61 (some sa0)) Q) : cm_wp sc d 134 393 [some (.ref a0), u1] [.ref sa0, .ref sa1] h Q :=
  And.elim (fun g1 g1k => wl_pf (h' := (cm_setR h sa1 61 (some sa0))) d134_393 pf11_154 g1 (Or.inr ⟨rfl, rfl, rfl⟩) rfl (wl_ic (v := 0) d134_396 rfl (wl_st (ls' := [some (.ref a0), some (.int (0 : Int32))]) d134_397 rfl rfl rfl rfl (g1k)))) H
theorem s134_398 {sc : cmS} {d : Nat} {h : cmH} {Q : Option Value → cmH → Prop} (a0 : Nat) (x1 : Int32) (H : ((((8 : Int32) ≤ x1) → (cm_kd h a0 = 11 ∧ a0 < cm_n h) ∧ ∃ b3, cm_R h a0 12 = some b3 ∧ (cm_ok h 13 b3 (8 : Int32)) ∧ Q none (cm_setI h b3 8 (100 : Int32))) ∧ (¬ ((8 : Int32) ≤ x1) → (cm_kd h a0 = 11 ∧ a0 < cm_n h) ∧ ∃ b6, cm_R h a0 2 = some b6 ∧ (cm_ok h 13 b6 x1) ∧ ∃ b8, cm_R (cm_setI h b6 x1.toNatClampNeg (200 : Int32)) a0 3 = some b8 ∧ (cm_ok h 13 b8 x1) ∧ ∃ b10, cm_R (cm_setI (cm_setI h b6 x1.toNatClampNeg (200 : Int32)) b8 x1.toNatClampNeg (600 : Int32)) a0 4 = some b10 ∧ (cm_ok h 13 b10 x1) ∧ cm_wp sc d 134 398 [some (.ref a0), some (.int (x1 + 1))] [] (cm_setI (cm_setI (cm_setI h b6 x1.toNatClampNeg (200 : Int32)) b8 x1.toNatClampNeg (600 : Int32)) b10 x1.toNatClampNeg (50 : Int32)) Q))) : cm_wp sc d 134 398 [some (.ref a0), some (.int x1)] [] h Q :=
  wl_st d134_398 rfl rfl rfl rfl (wl_bi (v := 8) d134_399 rfl (wl_cb (b := (8 : Int32) ≤ x1) (off := 35) (tgt := 436) (pc3 := 404) (st' := []) d134_401 rfl rfl rfl rfl (by decide) rfl (fun c1 => wl_st d134_436 rfl rfl rfl rfl (And.elim (fun g2 g2k => Exists.elim g2k fun b3 b3q => And.elim (fun b3e b3k => wl_gr (b := b3) d134_437 pf11_40 g2 rfl b3e (wl_bi (v := 8) d134_440 rfl (wl_bi (v := 100) d134_442 rfl (And.elim (fun g4 g4k => wl_if (h' := (cm_setI h b3 8 (100 : Int32))) d134_444 rfl rfl rfl rfl g4 (wl_rt d134_445 rfl rfl rfl g4k)) b3k)))) b3q) (H.1 c1))) (fun c1 => wl_st d134_404 rfl rfl rfl rfl (And.elim (fun g5 g5k => Exists.elim g5k fun b6 b6q => And.elim (fun b6e b6k => wl_gr (b := b6) d134_405 pf11_9 g5 rfl b6e (wl_st d134_408 rfl rfl rfl rfl (wl_si (v := 200) d134_409 rfl (And.elim (fun g7 g7k => wl_if (h' := (cm_setI h b6 x1.toNatClampNeg (200 : Int32))) d134_412 rfl rfl rfl rfl g7 (wl_st d134_413 rfl rfl rfl rfl (Exists.elim g7k fun b8 b8q => And.elim (fun b8e b8k => wl_gr (b := b8) d134_414 pf11_13 g5 rfl b8e (wl_st d134_417 rfl rfl rfl rfl (wl_si (v := 600) d134_418 rfl (And.elim (fun g9 g9k => wl_if (h' := (cm_setI (cm_setI h b6 x1.toNatClampNeg (200 : Int32)) b8 x1.toNatClampNeg (600 : Int32))) d134_421 rfl rfl rfl rfl g9 (wl_st d134_422 rfl rfl rfl rfl (Exists.elim g9k fun b10 b10q => And.elim (fun b10e b10k => wl_gr (b := b10) d134_423 pf11_16 g5 rfl b10e (wl_st d134_426 rfl rfl rfl rfl (wl_bi (v := 50) d134_427 rfl (And.elim (fun g11 g11k => wl_if (h' := (cm_setI (cm_setI (cm_setI h b6 x1.toNatClampNeg (200 : Int32)) b8 x1.toNatClampNeg (600 : Int32)) b10 x1.toNatClampNeg (50 : Int32))) d134_429 rfl rfl rfl rfl g11 (wl_st (ls' := [some (.ref a0), some (.int (x1 + 1))]) d134_430 rfl rfl rfl rfl (wl_go (tgt := 398) d134_433 (by decide) (g11k)))) b10k)))) b10q))) b8k)))) b8q))) b6k)))) b6q) (H.2 c1)))))
