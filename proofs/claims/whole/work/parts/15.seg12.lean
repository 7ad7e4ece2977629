-- java/util/Arrays.fill([II)V
theorem d2_0 : decode (cm_M 2).2.2.1 0 = .ok (.iconst 0, 1) := by decide +kernel
theorem d2_1 : decode (cm_M 2).2.2.1 1 = .ok (.istore_n 2, 1) := by decide +kernel
theorem d2_2 : decode (cm_M 2).2.2.1 2 = .ok (.aload_n 0, 1) := by decide +kernel
theorem d2_3 : decode (cm_M 2).2.2.1 3 = .ok (.arraylength, 1) := by decide +kernel
theorem d2_4 : decode (cm_M 2).2.2.1 4 = .ok (.istore_n 3, 1) := by decide +kernel
theorem d2_5 : decode (cm_M 2).2.2.1 5 = .ok (.iload_n 2, 1) := by decide +kernel
theorem d2_6 : decode (cm_M 2).2.2.1 6 = .ok (.iload_n 3, 1) := by decide +kernel
theorem d2_7 : decode (cm_M 2).2.2.1 7 = .ok (.if_icmp .ge 13, 3) := by decide +kernel
theorem d2_10 : decode (cm_M 2).2.2.1 10 = .ok (.aload_n 0, 1) := by decide +kernel
theorem d2_11 : decode (cm_M 2).2.2.1 11 = .ok (.iload_n 2, 1) := by decide +kernel
theorem d2_12 : decode (cm_M 2).2.2.1 12 = .ok (.iload_n 1, 1) := by decide +kernel
theorem d2_13 : decode (cm_M 2).2.2.1 13 = .ok (.iastore, 1) := by decide +kernel
theorem d2_14 : decode (cm_M 2).2.2.1 14 = .ok (.iinc 2 1, 3) := by decide +kernel
theorem d2_17 : decode (cm_M 2).2.2.1 17 = .ok (.goto (-12), 3) := by decide +kernel
theorem d2_20 : decode (cm_M 2).2.2.1 20 = .ok (.return_, 1) := by decide +kernel
theorem s2_0 {sc : cmS} {d : Nat} {h : cmH} {Q : Option Value → cmH → Prop} (a0 : Nat) (x1 : Int32) (u2 : Option Value) (u3 : Option Value) (H : (12 ≤ cm_kd h a0 ∧ cm_kd h a0 ≤ 18 ∧ a0 < cm_n h) ∧ cm_wp sc d 2 5 [some (.ref a0), some (.int x1), some (.int (0 : Int32)), some (.int (Int32.ofNat (cm_ln h a0)))] [] h Q) : cm_wp sc d 2 0 [some (.ref a0), some (.int x1), u2, u3] [] h Q :=
  wl_ic (v := 0) d2_0 rfl (wl_st (ls' := [some (.ref a0), some (.int x1), some (.int (0 : Int32)), u3]) d2_1 rfl rfl rfl rfl (wl_st d2_2 rfl rfl rfl rfl (And.elim (fun g1 g1k => wl_if (st' := [.int (Int32.ofNat (cm_ln h a0))]) d2_3 rfl rfl rfl rfl g1 (wl_st (ls' := [some (.ref a0), some (.int x1), some (.int (0 : Int32)), some (.int (Int32.ofNat (cm_ln h a0)))]) d2_4 rfl rfl rfl rfl (g1k))) H)))
theorem s2_5 {sc : cmS} {d : Nat} {h : cmH} {Q : Option Value → cmH → Prop} (a0 : Nat) (x1 : Int32) (x2 : Int32) (x3 : Int32) (H : (((x3 ≤ x2) → Q none h) ∧ (¬ (x3 ≤ x2) → (cm_ok h 13 a0 x2) ∧ cm_wp sc d 2 5 [some (.ref a0), some (.int x1), some (.int (x2 + 1)), some (.int x3)] [] (cm_setI h a0 x2.toNatClampNeg x1) Q))) : cm_wp sc d 2 5 [some (.ref a0), some (.int x1), some (.int x2), some (.int x3)] [] h Q :=
  wl_st d2_5 rfl rfl rfl rfl (wl_st d2_6 rfl rfl rfl rfl (wl_cb (b := x3 ≤ x2) (off := 13) (tgt := 20) (pc3 := 10) (st' := []) d2_7 rfl rfl rfl rfl (by decide) rfl (fun c1 => wl_rt d2_20 rfl rfl rfl (H.1 c1)) (fun c1 => wl_st d2_10 rfl rfl rfl rfl (wl_st d2_11 rfl rfl rfl rfl (wl_st d2_12 rfl rfl rfl rfl (And.elim (fun g2 g2k => wl_if (h' := (cm_setI h a0 x2.toNatClampNeg x1)) d2_13 rfl rfl rfl rfl g2 (wl_st (ls' := [some (.ref a0), some (.int x1), some (.int (x2 + 1)), some (.int x3)]) d2_14 rfl rfl rfl rfl (wl_go (tgt := 5) d2_17 (by decide) (g2k)))) (H.2 c1)))))))
