/-! ===== the law's loop ===== -/
section LAWLOOP
variable {sc : cmS} {d : Nat} {Q : Option Value → cmH → Prop}
theorem c13_mono {as : List Value} {o : Nat} {h : cmH} {K0 K0' : Int32 → cmH → Prop} {K1 K1' : cmH → Prop} (w : cm_c13 sc d as o h K0 K1) (a : ∀ x h', K0 x h' → K0' x h') (b : ∀ h', K1 h' → K1' h') : cm_c13 sc d as o h K0' K1' := cm_wp.mono w (fun v h' q => by
  rcases q with ⟨x, e, o, q⟩ | ⟨e, q⟩
  · exact Or.inl ⟨x, e, o, a x h' q⟩
  · exact Or.inr ⟨e, b h' q⟩)
theorem law_9 {n j : Nat} (hn : n ≤ 4608) (hj : 9 * j ≤ n) : Int32.ofNat n - (9 : Int32) < nI (9 * j) ↔ n < 9 * j + 9 := by
  have e : (Int32.ofNat n - (9 : Int32)).toInt = (n : Int) - 9 := by
    rw [Int32.toInt_sub, show (Int32.ofNat n).toInt = (n : Int) from nI_toInt (by omega), show (9 : Int32).toInt = 9 from rfl]
    exact Int.bmod_eq_of_le (by omega) (by omega)
  rw [Int32.lt_iff_toInt_lt, e, nI_toInt (by omega)]
  omega
theorem law_loop (hs : sc.1 ≤ 4608) (kq : ∀ h j, j ≤ 512 → WLD j h → Q (some (.int 1)) h) : ∀ (m j : Nat) (h : cmH) (u5 u6 : Option Value), sc.1 < 9 * (j + m) → 9 * j ≤ sc.1 → WLD j h → cm_wp sc (d + 202) 222 23 [some (.retAddr 0), some (.ref 0), some (.ref 38), some (.ref 87), some (.int (nI (9 * j))), u5, u6] [] h Q := by
  intro m
  induction m with
  | zero => intro j h u5 u6 a b; omega
  | succ m ih =>
    intro j h u5 u6 hm hj W
    refine s222_23 W.ly _ _ _ ⟨fun _ => kq h j (by omega) W, fun q => ?_⟩
    have h9 : 9 * j + 9 ≤ sc.1 := by
      rcases Nat.lt_or_ge sc.1 (9 * j + 9) with w | w
      · exact absurd ((law_9 hs hj).mpr w) q
      · exact w
    have nxt : ∀ (h2 : cmH) (u5 u6 : Option Value), WLD (j + 1) h2 → cm_wp sc (d + 202) 222 1591 [some (.retAddr 0), some (.ref 0), some (.ref 38), some (.ref 87), some (.int (nI (9 * j))), u5, u6] [] h2 Q := fun h2 u5 u6 W2 => by
      refine s222_1591 _ _ _ ?_
      rw [show nI (9 * j) + 9 = nI (9 * (j + 1)) from nI_add (9 * j) 9]
      exact ih (j + 1) h2 u5 u6 (by omega) (by omega) W2
    have ix : ∀ i, i ≤ 8 → ¬ nI (9 * j + i) < 0 ∧ (nI (9 * j + i)).toNatClampNeg < sc.1 := fun i hi => ⟨nI_pos (by omega), by rw [nI_clamp (by omega)]; omega⟩
    have g1 : ¬ (nI (9 * j) + (1 : Int32)) < 0 ∧ (nI (9 * j) + (1 : Int32)).toNatClampNeg < sc.1 := by
      rw [show nI (9 * j) + (1 : Int32) = nI (9 * j + 1) from nI_add (9 * j) 1]; exact ix 1 (by decide)
    have g2 : ¬ (nI (9 * j) + (2 : Int32)) < 0 ∧ (nI (9 * j) + (2 : Int32)).toNatClampNeg < sc.1 := by
      rw [show nI (9 * j) + (2 : Int32) = nI (9 * j + 2) from nI_add (9 * j) 2]; exact ix 2 (by decide)
    have g3 : ¬ (nI (9 * j) + (3 : Int32)) < 0 ∧ (nI (9 * j) + (3 : Int32)).toNatClampNeg < sc.1 := by
      rw [show nI (9 * j) + (3 : Int32) = nI (9 * j + 3) from nI_add (9 * j) 3]; exact ix 3 (by decide)
    have g4 : ¬ (nI (9 * j) + (4 : Int32)) < 0 ∧ (nI (9 * j) + (4 : Int32)).toNatClampNeg < sc.1 := by
      rw [show nI (9 * j) + (4 : Int32) = nI (9 * j + 4) from nI_add (9 * j) 4]; exact ix 4 (by decide)
    have g5 : ¬ (nI (9 * j) + (5 : Int32)) < 0 ∧ (nI (9 * j) + (5 : Int32)).toNatClampNeg < sc.1 := by
      rw [show nI (9 * j) + (5 : Int32) = nI (9 * j + 5) from nI_add (9 * j) 5]; exact ix 5 (by decide)
    have g6 : ¬ (nI (9 * j) + (6 : Int32)) < 0 ∧ (nI (9 * j) + (6 : Int32)).toNatClampNeg < sc.1 := by
      rw [show nI (9 * j) + (6 : Int32) = nI (9 * j + 6) from nI_add (9 * j) 6]; exact ix 6 (by decide)
    have g7 : ¬ (nI (9 * j) + (7 : Int32)) < 0 ∧ (nI (9 * j) + (7 : Int32)).toNatClampNeg < sc.1 := by
      rw [show nI (9 * j) + (7 : Int32) = nI (9 * j + 7) from nI_add (9 * j) 7]; exact ix 7 (by decide)
    have g8 : ¬ (nI (9 * j) + (8 : Int32)) < 0 ∧ (nI (9 * j) + (8 : Int32)).toNatClampNeg < sc.1 := by
      rw [show nI (9 * j) + (8 : Int32) = nI (9 * j + 8) from nI_add (9 * j) 8]; exact ix 8 (by decide)
    refine ⟨by have := ix 0 (by decide); exact this, ?_, ?_, ?_, ?_, ?_, ?_, ?_, ?_, ?_, ?_, ?_, ?_, ?_, ?_, ?_, ?_, ?_, ?_, ?_, ?_, ?_, ?_, ?_, ?_, ?_, ?_, ?_, ?_, ?_, ?_, ?_, ?_, ?_, ?_⟩
    · exact fun _ => ⟨g1, g2, g3, ci_mono (ci_deep (w_grain W)) (fun r h1 z => s222_210 z.1 _ _ _ _ ⟨g1, g2, g3, ci_mono z.2 (fun r2 h2 y => s222_232 _ _ _ _ _ ⟨fun _ => nxt _ _ _ y.2, fun q => absurd y.1.symm q⟩)⟩)⟩
    · exact fun _ => ci_mono (ci_deep (w_filter W)) (fun r h1 z => s222_241 z.1 _ _ _ _ (ci_mono z.2 (fun r2 h2 y => s222_245 _ _ _ _ _ ⟨fun _ => nxt _ _ _ y.2, fun q => absurd y.1.symm q⟩)))
    · exact fun _ => ⟨g1, g2, g3, ci_mono (ci_deep (w_cell W)) (fun r h1 z => s222_272 z.1 _ _ _ _ ⟨g1, g2, g3, ci_mono z.2 (fun r2 h2 y => s222_294 _ _ _ _ _ ⟨fun _ => nxt _ _ _ y.2, fun q => absurd y.1.symm q⟩)⟩)⟩
    · exact fun _ => ⟨g1, g2, g3, ci_mono (ci_deep (w_set W)) (fun r h1 z => s222_321 z.1 _ _ _ _ ⟨g1, g2, g3, ci_mono z.2 (fun r2 h2 y => s222_343 _ _ _ _ _ ⟨fun _ => nxt _ _ _ y.2, fun q => absurd y.1.symm q⟩)⟩)⟩
    · exact fun _ => ⟨g1, g2, g3, ci_mono (ci_deep (w_celled W)) (fun r h1 z => s222_370 z.1 _ _ _ _ ⟨g1, g2, g3, ci_mono z.2 (fun r2 h2 y => s222_392 _ _ _ _ _ ⟨fun _ => nxt _ _ _ y.2, fun q => absurd y.1.symm q⟩)⟩)⟩
    · exact fun _ => ⟨g1, g2, g3, g4, ci_mono (ci_deep (w_held W)) (fun r h1 z => s222_425 z.1 _ _ _ _ ⟨g1, g2, g3, g4, ci_mono z.2 (fun r2 h2 y => s222_453 _ _ _ _ _ ⟨fun _ => nxt _ _ _ y.2, fun q => absurd y.1.symm q⟩)⟩)⟩
    · exact fun _ => ⟨g1, g2, ci_mono (ci_deep (w_told W)) (fun r h1 z => s222_474 z.1 _ _ _ _ ⟨g1, g2, ci_mono z.2 (fun r2 h2 y => s222_490 _ _ _ _ _ ⟨fun _ => nxt _ _ _ y.2, fun q => absurd y.1.symm q⟩)⟩)⟩
    · exact fun _ => ⟨g1, g2, ci_mono (ci_deep (w_push W)) (fun r h1 z => s222_511 z.1 _ _ _ _ ⟨g1, g2, ci_mono z.2 (fun r2 h2 y => s222_527 _ _ _ _ _ ⟨fun _ => nxt _ _ _ y.2, fun q => absurd y.1.symm q⟩)⟩)⟩
    · exact fun _ => ⟨g1, g2, g3, g4, g5, ci_mono (ci_deep (w_feed W)) (fun r h1 z => s222_566 z.1 _ _ _ _ ⟨g1, g2, g3, g4, g5, ci_mono z.2 (fun r2 h2 y => s222_600 _ _ _ _ _ ⟨fun _ => nxt _ _ _ y.2, fun q => absurd y.1.symm q⟩)⟩)⟩
    · exact fun _ => ⟨g1, ci_mono (ci_deep (w_end W)) (fun r h1 z => s222_615 z.1 _ _ _ _ ⟨g1, ci_mono z.2 (fun r2 h2 y => s222_625 _ _ _ _ _ ⟨fun _ => nxt _ _ _ y.2, fun q => absurd y.1.symm q⟩)⟩)⟩
    · exact fun _ => ci_mono (ci_deep (w_fault W)) (fun r h1 z => s222_634 z.1 _ _ _ _ (ci_mono z.2 (fun r2 h2 y => s222_638 _ _ _ _ _ ⟨fun _ => nxt _ _ _ y.2, fun q => absurd y.1.symm q⟩)))
    · exact fun _ => ci_mono (ci_deep (w_rules W)) (fun r h1 z => s222_647 z.1 _ _ _ _ (ci_mono z.2 (fun r2 h2 y => s222_651 _ _ _ _ _ ⟨fun _ => nxt _ _ _ y.2, fun q => absurd y.1.symm q⟩)))
    · exact fun _ => ⟨g1, g2, ci_mono (ci_deep (w_rule W)) (fun r h1 z => s222_672 z.1 _ _ _ _ ⟨g1, g2, ci_mono z.2 (fun r2 h2 y => s222_688 _ _ _ _ _ ⟨fun _ => nxt _ _ _ y.2, fun q => absurd y.1.symm q⟩)⟩)⟩
    · exact fun _ => ⟨g1, g2, g3, g4, g5, g6, g7, g8, c13_mono (w_worth W) (fun w h1 z => s222_749 z.1 _ _ _ _ ⟨g1, g2, g3, g4, g5, g6, g7, g8, ci_mono z.2 (fun b h2 y => s222_806 y.2.2.2.ly _ _ _ _ (ci_of rfl (s135_0 y.2.2.2.ly ⟨_, rfl, s222_812 y.2.2.2.ly _ _ _ _ ⟨fun _ => ⟨fun q => absurd rfl q, fun _ => ⟨fun _ => s222_836 _ _ _ (nxt _ _ _ y.2.2.2), fun q => absurd ((lg_cmp_eq _ _).mpr (by rw [y.2.1, y.2.2.1])) q⟩⟩, fun q => absurd y.1 q⟩⟩)))⟩) (fun h1 z => s222_749 z.1 _ _ _ _ ⟨g1, g2, g3, g4, g5, g6, g7, g8, ci_mono z.2 (fun b h2 y => s222_806 y.2.ly _ _ _ _ (ci_of rfl (s135_0 y.2.ly ⟨_, rfl, s222_812 y.2.ly _ _ _ _ ⟨fun _ => ⟨fun _ => s222_836 _ _ _ (nxt _ _ _ y.2), fun q => absurd (by decide) q⟩, fun q => absurd y.1 q⟩⟩)))⟩)⟩
    · exact fun _ => ⟨g1, ci_mono (ci_deep (w_stream W)) (fun r h1 z => s222_849 z.1 _ _ _ _ ⟨g1, ci_mono z.2 (fun r2 h2 y => s222_859 _ _ _ _ _ ⟨fun _ => nxt _ _ _ y.2, fun q => absurd y.1.symm q⟩)⟩)⟩
    · exact fun _ => ⟨g1, g2, ci_mono (ci_deep (w_come W)) (fun r h1 z => s222_880 z.1 _ _ _ _ ⟨g1, g2, ci_mono z.2 (fun r2 h2 y => s222_896 _ _ _ _ _ ⟨fun _ => nxt _ _ _ y.2, fun q => absurd y.1.symm q⟩)⟩)⟩
    · exact fun _ => ⟨g1, ci_mono (ci_deep (w_hours W)) (fun r h1 z => s222_911 z.1 _ _ _ _ ⟨g1, ci_mono z.2 (fun r2 h2 y => s222_921 _ _ _ _ _ ⟨fun _ => nxt _ _ _ y.2, fun q => absurd y.1.symm q⟩)⟩)⟩
    · exact fun _ => ⟨g1, g2, ci_mono (ci_deep (w_hand W)) (fun r h1 z => s222_942 z.1 _ _ _ _ ⟨g1, g2, ci_mono z.2 (fun r2 h2 y => s222_958 _ _ _ _ _ ⟨fun _ => nxt _ _ _ y.2, fun q => absurd y.1.symm q⟩)⟩)⟩
    · exact fun _ => ⟨g1, g2, g3, ci_mono (ci_deep (w_history W)) (fun r h1 z => s222_985 z.1 _ _ _ _ ⟨g1, g2, g3, ci_mono z.2 (fun r2 h2 y => s222_1007 _ _ _ _ _ ⟨fun _ => nxt _ _ _ y.2, fun q => absurd y.1.symm q⟩)⟩)⟩
    · exact fun _ => ⟨g1, g2, ci_mono (ci_deep (w_breaks W)) (fun r h1 z => s222_1028 z.1 _ _ _ _ ⟨g1, g2, ci_mono z.2 (fun r2 h2 y => s222_1044 _ _ _ _ _ ⟨fun _ => nxt _ _ _ y.2, fun q => absurd y.1.symm q⟩)⟩)⟩
    · exact fun _ => ⟨g1, ci_mono (ci_deep (w_ripe W)) (fun r h1 z => s222_1059 z.1 _ _ _ _ ⟨g1, ci_mono z.2 (fun r2 h2 y => s222_1069 _ _ _ _ _ ⟨fun _ => nxt _ _ _ y.2, fun q => absurd y.1.symm q⟩)⟩)⟩
    · exact fun _ => ⟨g1, g2, g3, g4, cj_mono (cj_deep (w_share W)) (fun r h1 z => s222_1102 z.1 _ _ _ _ ⟨g1, g2, g3, g4, cj_mono z.2 (fun r2 h2 y => s222_1130 _ _ _ _ _ ⟨fun _ => nxt _ _ _ y.2, fun q => absurd ((lg_cmp_eq _ _).mpr y.1.symm) q⟩)⟩)⟩
    · exact fun _ => ⟨g1, g2, g3, ci_mono (ci_deep (w_drops W)) (fun r h1 z => s222_1158 z.1 _ _ _ _ ⟨g1, g2, g3, ci_mono z.2 (fun r2 h2 y => s222_1180 _ _ _ _ _ ⟨fun _ => nxt _ _ _ y.2, fun q => absurd y.1.symm q⟩)⟩)⟩
    · exact fun _ => ⟨g1, g2, ci_mono (ci_deep (w_layer W)) (fun r h1 z => s222_1201 z.1 _ _ _ _ ⟨g1, g2, ci_mono z.2 (fun r2 h2 y => s222_1217 _ _ _ _ _ ⟨fun _ => nxt _ _ _ y.2, fun q => absurd y.1.symm q⟩)⟩)⟩
    · exact fun _ => ⟨g1, g2, ci_mono (ci_deep (w_order W)) (fun r h1 z => s222_1238 z.1 _ _ _ _ ⟨g1, g2, ci_mono z.2 (fun r2 h2 y => s222_1254 _ _ _ _ _ ⟨fun _ => nxt _ _ _ y.2, fun q => absurd y.1.symm q⟩)⟩)⟩
    · exact fun _ => ⟨g1, g2, ci_mono (ci_deep (w_cost W)) (fun r h1 z => s222_1275 z.1 _ _ _ _ ⟨g1, g2, ci_mono z.2 (fun r2 h2 y => s222_1291 _ _ _ _ _ ⟨fun _ => nxt _ _ _ y.2, fun q => absurd y.1.symm q⟩)⟩)⟩
    · exact fun _ => ⟨g1, g2, g3, ci_mono (ci_deep (w_cheapest W)) (fun r h1 z => s222_1318 z.1 _ _ _ _ ⟨g1, g2, g3, ci_mono z.2 (fun r2 h2 y => s222_1340 _ _ _ _ _ ⟨fun _ => nxt _ _ _ y.2, fun q => absurd y.1.symm q⟩)⟩)⟩
    · exact fun _ => ⟨g1, g2, g3, g4, ci_mono (ci_deep (w_gauge W)) (fun r h1 z => s222_1373 z.1 _ _ _ _ ⟨g1, g2, g3, g4, ci_mono z.2 (fun r2 h2 y => s222_1401 _ _ _ _ _ ⟨fun _ => nxt _ _ _ y.2, fun q => absurd y.1.symm q⟩)⟩)⟩
    · exact fun _ => ⟨g1, g2, g3, g4, ci_mono (ci_deep (w_back W)) (fun r h1 z => s222_1434 z.1 _ _ _ _ ⟨g1, g2, g3, g4, ci_mono z.2 (fun r2 h2 y => s222_1462 _ _ _ _ _ ⟨fun _ => nxt _ _ _ y.2, fun q => absurd y.1.symm q⟩)⟩)⟩
    · exact fun _ => ⟨g1, g2, g3, ci_mono (ci_deep (w_barred W)) (fun r h1 z => s222_1489 z.1 _ _ _ _ ⟨g1, g2, g3, ci_mono z.2 (fun r2 h2 y => s222_1511 _ _ _ _ _ ⟨fun _ => nxt _ _ _ y.2, fun q => absurd y.1.symm q⟩)⟩)⟩
    · exact fun _ => ⟨g1, g2, ci_mono (ci_deep (w_led W)) (fun r h1 z => s222_1532 z.1 _ _ _ _ ⟨g1, g2, ci_mono z.2 (fun r2 h2 y => s222_1548 _ _ _ _ _ ⟨fun _ => nxt _ _ _ y.2, fun q => absurd y.1.symm q⟩)⟩)⟩
    · exact fun _ => ci_mono (ci_deep (w_digest W)) (fun r h1 z => s222_1557 z.1 _ _ _ _ (ci_mono z.2 (fun r2 h2 y => s222_1561 _ _ _ _ _ ⟨fun _ => nxt _ _ _ y.2, fun q => absurd y.1.symm q⟩)))
    · exact fun _ => ⟨g1, ci_mono (ci_deep (w_count W)) (fun r h1 z => s222_1576 z.1 _ _ _ _ ⟨g1, ci_mono z.2 (fun r2 h2 y => s222_1586 _ _ _ _ _ ⟨fun _ => nxt _ _ _ y.2, fun q => absurd y.1.symm q⟩)⟩)⟩
    · exact fun _ _ _ _ _ _ _ _ _ _ _ _ _ _ _ _ _ _ _ _ _ _ _ _ _ _ _ _ _ _ _ _ _ => nxt _ _ _ W.up
end LAWLOOP
