/-! ===== what is made: filter, cell, layer ===== -/
section HP
variable {h : cmH} {a b k j : Nat} {v : Int32} {o : Option Nat} {w : Int64}
theorem mk_kd {x l : Nat} : cm_kd (cm_mk h x l) a = if a = cm_n h then x else cm_kd h a := rfl
theorem mk_ln {x l : Nat} : cm_ln (cm_mk h x l) a = if a = cm_n h then l else cm_ln h a := rfl
theorem mk_n {x l : Nat} : cm_n (cm_mk h x l) = cm_n h + 1 := rfl
theorem mk_sl {x l : Nat} : cm_sl (cm_mk h x l) = cm_sl h + l := rfl
theorem mk_I {x l : Nat} : cm_I (cm_mk h x l) a k = if a = cm_n h then 0 else cm_I h a k := rfl
theorem mk_J {x l : Nat} : cm_J (cm_mk h x l) a k = if a = cm_n h then 0 else cm_J h a k := rfl
theorem mk_R {x l : Nat} : cm_R (cm_mk h x l) a k = if a = cm_n h then none else cm_R h a k := rfl
theorem sI_kd : cm_kd (cm_setI h a k v) = cm_kd h := rfl
theorem sI_ln : cm_ln (cm_setI h a k v) = cm_ln h := rfl
theorem sI_n : cm_n (cm_setI h a k v) = cm_n h := rfl
theorem sI_sl : cm_sl (cm_setI h a k v) = cm_sl h := rfl
theorem sI_I : cm_I (cm_setI h a k v) b j = if b = a ∧ j = k then v else cm_I h b j := rfl
theorem sI_J : cm_J (cm_setI h a k v) = cm_J h := rfl
theorem sI_R : cm_R (cm_setI h a k v) = cm_R h := rfl
theorem sR_kd : cm_kd (cm_setR h a k o) = cm_kd h := rfl
theorem sR_ln : cm_ln (cm_setR h a k o) = cm_ln h := rfl
theorem sR_n : cm_n (cm_setR h a k o) = cm_n h := rfl
theorem sR_sl : cm_sl (cm_setR h a k o) = cm_sl h := rfl
theorem sR_I : cm_I (cm_setR h a k o) = cm_I h := rfl
theorem sR_J : cm_J (cm_setR h a k o) = cm_J h := rfl
theorem sR_R : cm_R (cm_setR h a k o) b j = if b = a ∧ j = k then o else cm_R h b j := rfl
theorem sJ_kd : cm_kd (cm_setJ h a k w) = cm_kd h := rfl
theorem sJ_ln : cm_ln (cm_setJ h a k w) = cm_ln h := rfl
theorem sJ_n : cm_n (cm_setJ h a k w) = cm_n h := rfl
theorem sJ_sl : cm_sl (cm_setJ h a k w) = cm_sl h := rfl
theorem sJ_I : cm_I (cm_setJ h a k w) = cm_I h := rfl
theorem sJ_R : cm_R (cm_setJ h a k w) = cm_R h := rfl
theorem sJ_J : cm_J (cm_setJ h a k w) b j = if b = a ∧ j = k then w else cm_J h b j := rfl
end HP
/-- what was there is as it was -/
def AG (h h' : cmH) : Prop := cm_n h ≤ cm_n h' ∧ ∀ a, a < cm_n h → cm_kd h' a = cm_kd h a ∧ cm_ln h' a = cm_ln h a ∧ ∀ k, cm_I h' a k = cm_I h a k ∧ cm_J h' a k = cm_J h a k ∧ cm_R h' a k = cm_R h a k
theorem AG.refl {h : cmH} : AG h h := ⟨Nat.le_refl _, fun _ _ => ⟨rfl, rfl, fun _ => ⟨rfl, rfl, rfl⟩⟩⟩
theorem ly_tn : ly_t.length = 88 := rfl
theorem ly_RL : ∀ e ∈ ly_R, e.1 < 88 := by decide
theorem AG.ly {h h' : cmH} (g : AG h h') (L : LY h) : LY h' := by
  refine ⟨Nat.le_trans L.1 g.1, fun a k n q => ?_, fun a f b q => ?_⟩
  · have h1 := ly_lt q
    have h2 := L.1
    have := g.2 a (by omega)
    rw [this.1, this.2.1]
    exact L.2.1 a k n q
  · have h1 := ly_RL _ q
    have h2 := L.1
    rw [((g.2 a (by dsimp only at h1; omega)).2.2 f).2.2]
    exact L.2.2 a f b q
theorem ag_FL {h h' : cmH} {a : Nat} (g : AG h h') (F : FL h a) : FL h' a := by
  have h1 := F.2.1
  obtain ⟨k0, l0, r0⟩ := g.2 a (by omega)
  obtain ⟨k1, l1, r1⟩ := g.2 (a + 1) (by omega)
  obtain ⟨k2, l2, r2⟩ := g.2 (a + 2) (by omega)
  obtain ⟨k3, l3, r3⟩ := g.2 (a + 3) (by omega)
  have gn := g.1
  unfold FL at F ⊢
  rw [k0, k1, k2, k3, l1, l2, l3, (r0 0).2.2, (r0 1).2.2, (r0 2).2.2]
  exact ⟨F.1, by omega, F.2.2⟩
theorem ag_CE {h h' : cmH} {a : Nat} (g : AG h h') (F : CE h a) : CE h' a := by
  have h1 := F.2.1
  obtain ⟨k0, l0, r0⟩ := g.2 a (by omega)
  obtain ⟨k1, l1, r1⟩ := g.2 (a + 1) (by omega)
  obtain ⟨k2, l2, r2⟩ := g.2 (a + 2) (by omega)
  have gn := g.1
  unfold CE at F ⊢
  rw [k0, k1, k2, l1, l2, (r0 0).2.2, (r0 1).2.2]
  exact ⟨F.1, by omega, F.2.2⟩
theorem ag_TX {h h' : cmH} {a : Nat} (g : AG h h') (F : TX h a) : TX h' a := by
  have h1 := F.2.1
  obtain ⟨k0, l0, r0⟩ := g.2 a (by omega)
  obtain ⟨k1, l1, r1⟩ := g.2 (a + 1) (by omega)
  have gn := g.1
  unfold TX at F ⊢
  rw [k0, k1, (r0 0).2.2]
  exact ⟨F.1, by omega, F.2.2⟩
/-- the fields of a new Filter -/
def q_nf (k : Nat) : Int32 := if k = 4 then 100 else if k = 5 then 500 else if k = 6 then 50 else if k = 7 then -1 else if k = 14 then -1 else 0
section MAKE
variable {sc : cmS} {d : Nat} {h : cmH} {K : Int32 → cmH → Prop} {KV : cmH → Prop}
theorem c_newFilter (k : ∀ h', AG h h' → cm_n h' = cm_n h + 4 → cm_sl h' = cm_sl h + 46 → FL h' (cm_n h) → (∀ j, cm_I h' (cm_n h) j = q_nf j) → (∀ i j, 1 ≤ i → i ≤ 3 → cm_I h' (cm_n h + i) j = 0) → KV h') : cm_cv sc (d + 1) 8 [.ref (cm_n h)] (cm_mk h 3 20) KV := by
  refine cv_of rfl (t8_0 _ (t8_10 _ _ _ ⟨?_, t8_18 _ _ _ ⟨?_, t8_26 _ _ _ ⟨?_, ?_, rfl, k _ ?_ ?_ ?_ ?_ ?_ ?_⟩⟩⟩))
  · simp [mk_kd, mk_n, Nat.add_assoc]
  · simp [mk_kd, mk_n, sR_kd, sR_n, Nat.add_assoc]
  · simp [mk_kd, mk_n, sR_kd, sR_n, Nat.add_assoc]
  · simp [mk_kd, mk_n, sR_kd, sR_n, Nat.add_assoc]
  · refine ⟨by simp [mk_n, sR_n, sI_n, Nat.add_assoc], fun a ha => ?_⟩
    have e0 : a ≠ cm_n h := by omega
    have e1 : a ≠ cm_n h + 1 := by omega
    have e2 : a ≠ cm_n h + 2 := by omega
    have e3 : a ≠ cm_n h + 3 := by omega
    simp [sI_kd, sR_kd, mk_kd, mk_n, sR_n, sI_ln, sR_ln, mk_ln, sI_I, sR_I, mk_I, sI_J, sR_J, mk_J, sI_R, sR_R, mk_R, Nat.add_assoc, e0, e1, e2, e3]
  · simp only [sI_n, sR_n, mk_n]
  · simp only [sI_sl, sR_sl, mk_sl]
  · simp [FL, sI_kd, sI_ln, sI_n, sI_R, sR_kd, sR_ln, sR_n, sR_R, mk_kd, mk_ln, mk_n, mk_R, Nat.add_assoc]
  · intro j
    simp only [sI_I, sR_I, mk_I, mk_n, sR_n, q_nf, true_and, if_true]
    by_cases h14 : j = 14
    · subst h14; rfl
    by_cases h8 : j = 8
    · subst h8; rfl
    by_cases h7 : j = 7
    · subst h7; rfl
    by_cases h6 : j = 6
    · subst h6; rfl
    by_cases h5 : j = 5
    · subst h5; rfl
    by_cases h4 : j = 4
    · subst h4; rfl
    simp [h14, h8, h7, h6, h5, h4]
  · intro i j h1 h3
    simp only [sI_I, sR_I, mk_I, mk_n, sR_n]
    rw [if_neg (by omega), if_neg (by omega), if_neg (by omega), if_neg (by omega), if_neg (by omega), if_neg (by omega)]
    obtain rfl | rfl | rfl : i = 1 ∨ i = 2 ∨ i = 3 := by omega
    · simp
    · simp
    · simp
theorem c_newCell {p t : Int32} (k : ∀ h', AG h h' → cm_n h' = cm_n h + 3 → cm_sl h' = cm_sl h + 22 → CE h' (cm_n h) → cm_I h' (cm_n h) 2 = 0 → cm_I h' (cm_n h) 3 = p → cm_I h' (cm_n h) 4 = p → cm_I h' (cm_n h) 5 = t → (∀ i j, 1 ≤ i → i ≤ 2 → cm_I h' (cm_n h + i) j = 0) → KV h') : cm_cv sc (d + 1) 19 [.ref (cm_n h), .int p, .int t] (cm_mk h 1 6) KV := by
  refine cv_of rfl (t19_0 _ _ _ ⟨?_, ?_, rfl, k _ ?_ ?_ ?_ ?_ ?_ ?_ ?_ ?_ ?_⟩)
  · simp [mk_kd, mk_n, Nat.add_assoc]
  · simp [mk_kd, mk_n, sR_kd, sR_n, Nat.add_assoc]
  · refine ⟨by simp [mk_n, sR_n, sI_n, Nat.add_assoc], fun a ha => ?_⟩
    have e0 : a ≠ cm_n h := by omega
    have e1 : a ≠ cm_n h + 1 := by omega
    have e2 : a ≠ cm_n h + 2 := by omega
    have e3 : a ≠ cm_n h + 3 := by omega
    simp [sI_kd, sR_kd, mk_kd, mk_n, sR_n, sI_ln, sR_ln, mk_ln, sI_I, sR_I, mk_I, sI_J, sR_J, mk_J, sI_R, sR_R, mk_R, Nat.add_assoc, e0, e1, e2, e3]
  · simp only [sI_n, sR_n, mk_n]
  · simp only [sI_sl, sR_sl, mk_sl]
  · simp [CE, sI_kd, sI_ln, sI_n, sI_R, sR_kd, sR_ln, sR_n, sR_R, mk_kd, mk_ln, mk_n, mk_R, Nat.add_assoc]
  · simp [sI_I, sR_I, mk_I, mk_n, sR_n]
  · simp [sI_I, sR_I, mk_I, mk_n, sR_n]
  · simp [sI_I, sR_I, mk_I, mk_n, sR_n]
  · simp [sI_I, sR_I, mk_I, mk_n, sR_n]
  · intro i j h1 h3
    simp only [sI_I, sR_I, mk_I, mk_n, sR_n]
    rw [if_neg (by omega), if_neg (by omega), if_neg (by omega)]
    obtain rfl | rfl : i = 1 ∨ i = 2 := by omega
    · simp
    · simp
/-- what a made cell is, in the heap h' -/
def NC (h h' : cmH) (p t : Int32) : Prop := AG h h' ∧ cm_n h' = cm_n h + 3 ∧ cm_sl h' = cm_sl h + 22 ∧ CE h' (cm_n h) ∧ cm_I h' (cm_n h) 2 = 0 ∧ cm_I h' (cm_n h) 3 = p ∧ cm_I h' (cm_n h) 4 = p ∧ cm_I h' (cm_n h) 5 = t ∧ ∀ i j, 1 ≤ i → i ≤ 2 → cm_I h' (cm_n h + i) j = 0
def NF (h h' : cmH) : Prop := AG h h' ∧ cm_n h' = cm_n h + 4 ∧ cm_sl h' = cm_sl h + 46 ∧ FL h' (cm_n h) ∧ (∀ j, cm_I h' (cm_n h) j = q_nf j) ∧ ∀ i j, 1 ≤ i → i ≤ 3 → cm_I h' (cm_n h + i) j = 0
theorem c_addCell {a n : Nat} {p t : Int32} (F : FL h a) (hn : cm_I h a 3 = nI n) (hn2 : n ≤ 10) (y : n < 10 → ∀ h', NC h h' p t → K 1 (cm_setI (cm_setR h' (a + 1) n (some (cm_n h))) a 3 (nI (n + 1)))) (z : ¬ n < 10 → K 0 h) : cm_ci sc (d + 2) 18 [.ref a, .int p, .int t] h K := by
  refine ci_of rfl (s18_0 a p t ⟨F, fun q => absurd q (by rw [hn]; exact nI_pos (by omega)), fun _ => ⟨fun q => ⟨?_, c_newCell (fun h' g1 g2 g3 g4 g5 g6 g7 g8 g9 => s18_35 _ _ _ _ _ _ ?_)⟩, fun q => ai (z fun w => q ?_)⟩⟩)
  · simp [mk_kd, mk_n]
  · have hlt : n < 10 := by
      rcases Nat.lt_or_ge n 10 with w | w
      · exact w
      · exact absurd q (by rw [hn]; exact nI_nlt (b := 10) w (by omega))
    have k := y hlt h' ⟨g1, g2, g3, g4, g5, g6, g7, g8, g9⟩
    have h1 := F.2.1
    have F' := ag_FL g1 F
    have e3 : cm_I h' a 3 = nI n := by rw [((g1.2 a (by omega)).2.2 3).1, hn]
    rw [hn, e3, nI_clamp (by omega), nI_1]
    refine ⟨⟨(F'.o0q (ix_nI hlt (by decide))).1, by omega, Or.inl ⟨F'.2.2.2.2.2.1.1, g4.1⟩⟩, F'.k, ai k⟩
  · rw [hn]; exact nI_lt (b := 10) w (by decide)
theorem c_filter {F : Nat} (L : LY h) (hF : cm_I h 0 10 = nI F) (h8 : F ≤ 8) (y : F < 8 → ∀ h', NF h h' → K (nI F) (cm_setI (cm_setR h' 5 F (some (cm_n h))) 0 10 (nI (F + 1)))) (z : ¬ F < 8 → K (-1) h) : cm_ci sc (d + 2) 15 [.ref 0] h K := by
  refine ci_of rfl (s15_0 L ⟨fun q => absurd q (by rw [hF]; exact nI_pos (by omega)), fun _ => ⟨fun q => ⟨?_, c_newFilter (fun h' g1 g2 g3 g4 g5 g6 => s15_33 _ _ ?_)⟩, fun q => ai (z fun w => q ?_)⟩⟩)
  · simp [mk_kd, mk_n]
  · have hlt : F < 8 := by
      rcases Nat.lt_or_ge F 8 with w | w
      · exact w
      · exact absurd q (by rw [hF]; exact nI_nlt (b := 8) w (by omega))
    have k := y hlt h' ⟨g1, g2, g3, g4, g5, g6⟩
    have L' := g1.ly L
    have h0 := L.1
    have e3 : cm_I h' 0 10 = nI F := by rw [((g1.2 0 (by omega)).2.2 10).1, hF]
    rw [hF, e3, nI_clamp (by omega), nI_1, nI_pred]
    refine ⟨⟨(ly_oq L' 5 rfl (ix_nI hlt (by decide))).1, by omega, Or.inr (Or.inl ⟨(ly_k L' 5 rfl).1, g4.1⟩)⟩, ly_k L' 0 rfl, ai k⟩
  · rw [hF]; exact nI_lt (b := 8) w (by decide)
theorem m_filter {F : Nat} (L : LY h) (hF : cm_I h 38 24 = nI F) (h8 : F ≤ 8) (y : F < 8 → K (nI F) (cm_setI (cm_setI (cm_setI (cm_setI (cm_setI (cm_setI h 49 F 100) 50 F 500) 51 F 50) 55 F (-1)) 69 F (-1)) 38 24 (nI (F + 1)))) (z : ¬ F < 8 → K (-1) h) : cm_ci sc d 138 [.ref 38] h K := by
  refine ci_of rfl (s138_0 L ⟨fun q => ?_, fun q => ai (z fun w => ?_)⟩)
  · have hlt : F < 8 := by
      rcases Nat.lt_or_ge F 8 with w | w
      · exact w
      · exact absurd (by rw [hF, show F = 8 by omega]; rfl) q
    rw [hF, nI_clamp (by omega), nI_1, nI_pred]
    exact ⟨ix_nI (by omega) (by decide), ix_nI (by omega) (by decide), ai (y hlt)⟩
  · have q := Decidable.not_not.mp q
    rw [hF] at q
    have := nI_inj (a := F) (b := 8) (by omega) (by decide) q
    omega
/-! cell -/
def g_cell (x2 x3 : Int32) : Prop := (1 ≤ x2 ∧ x2 ≤ 20) ∧ (1 ≤ x3 ∧ x3 ≤ 1000)
theorem c_cell {x1 x2 x3 : Int32} {F : Nat} {C : Nat → Nat} {fa : Nat → Nat} {cc : Nat → Nat → Nat} (L : LY h) (G : FS h F fa) (GC : ∀ f, f < F → FC h (fa f) (C f) (cc f)) (y : ∀ f, f < F → x1 = nI f → g_cell x2 x3 → cm_I h (fa f) 17 = 0 → C f < 10 → ∀ h', NC h h' x2 x3 → K (nI (C f + 1)) (cm_setI (cm_setR h' (fa f + 1) (C f) (some (cm_n h))) (fa f) 3 (nI (C f + 1)))) (z : (∀ f, f < F → x1 = nI f → g_cell x2 x3 → cm_I h (fa f) 17 = 0 → ¬ C f < 10) → K (-1) h) : cm_ci sc (d + 3) 16 [.ref 0, .int x1, .int x2, .int x3] h K := by
  have h8 := G.2.1
  refine ci_of rfl (s16_0 L x1 x2 x3 _ (c_filterAt L G (fun f hf e => ?_) (fun q => s16_5 x1 x2 x3 _ none ⟨fun _ => ai (z fun f hf e => absurd e (q f hf)), fun b eb => (by cases eb)⟩)))
  have un : ∀ g, g < F → x1 = nI g → g = f := fun g hg e2 => nI_inj (by omega) (by omega) (e2.symm.trans e)
  refine s16_5 x1 x2 x3 _ (some (fa f)) ⟨fun q => (by cases q), fun b eb => ?_⟩
  cases eb
  refine ⟨(GC f hf).1, fun q => ai (z fun g hg e2 _ r => absurd (by rw [un g hg e2] at r; exact r) q), fun q0 => ?_⟩
  have q0 := Decidable.not_not.mp q0
  refine c_in (fun q1 => ?_) (fun q => s16_27 x1 x2 x3 (some (fa f)) 0 (br_t rfl (ai (z fun _ _ _ g => absurd g.1 q))))
  refine s16_27 x1 x2 x3 (some (fa f)) 1 (br_f (by decide) (c_in (fun q2 => ?_) (fun q => s16_38 x1 x2 x3 (some (fa f)) 0 (br_f (by decide) (ai (z fun _ _ _ g => absurd g.2 q))))))
  refine s16_38 x1 x2 x3 (some (fa f)) 1 (br_t (by decide) ⟨_, rfl, (GC f hf).1, c_addCell (GC f hf).1 (GC f hf).2.1 (GC f hf).2.2.1 (fun hlt h' N => s16_50 x1 x2 x3 (some (fa f)) 1 (br_f (by decide) ⟨_, rfl, ?_, ai ?_⟩)) (fun hn => s16_50 x1 x2 x3 (some (fa f)) 0 (br_t rfl (ai (z fun g hg e2 _ _ => by rw [un g hg e2]; exact hn))))⟩)
  · have F' := ag_FL N.1 (GC f hf).1
    have hne : ∀ j, ¬ (fa f = fa f + 1 ∧ j = C f) := fun j w => by omega
    unfold FL at F' ⊢
    simp only [sI_kd, sI_n, sI_R, sI_ln, sR_kd, sR_n, sR_ln, sR_R, hne, if_false]
    exact F'
  · rw [show cm_I (cm_setI (cm_setR h' (fa f + 1) (C f) (some (cm_n h))) (fa f) 3 (nI (C f + 1))) (fa f) 3 = nI (C f + 1) from u2_s]
    exact y f hf e ⟨q1, q2⟩ q0 hlt h' N
theorem m_cell {x1 x2 x3 : Int32} {F : Nat} {C : Nat → Nat} (L : LY h) (G : MF (cm_I h) F C) (y : ∀ f, f < F → x1 = nI f → g_cell x2 x3 → cm_I h 60 f = 0 → C f < 10 → K (nI (C f + 1)) (cm_setI (cm_setI (cm_setI (cm_setI h 43 (10 * f + C f) x2) 44 (10 * f + C f) x2) 45 (10 * f + C f) x3) 42 f (nI (C f + 1)))) (z : (∀ f, f < F → x1 = nI f → g_cell x2 x3 → cm_I h 60 f = 0 → ¬ C f < 10) → K (-1) h) : cm_ci sc (d + 2) 139 [.ref 38, .int x1, .int x2, .int x3] h K := by
  have h8 := G.2.1
  refine ci_of rfl (s139_0 L x1 x2 x3 (m_isF' L G (fun f hf e => ?_) (fun q => s139_5 x1 x2 x3 0 (br_t rfl (ai (z fun f hf e => absurd e (q f hf)))))))
  have un : ∀ g, g < F → x1 = nI g → g = f := fun g hg e2 => nI_inj (by omega) (by omega) (e2.symm.trans e)
  obtain ⟨hC, h10, -⟩ := G.2.2 f hf
  refine s139_5 x1 x2 x3 1 (br_f (by decide) (m_in (fun q1 => ?_) (fun q => s139_15 x1 x2 x3 0 (br_t rfl (ai (z fun _ _ _ g => absurd g.1 q))))))
  refine s139_15 x1 x2 x3 1 (br_f (by decide) (m_in (fun q2 => ?_) (fun q => s139_26 L x1 x2 x3 0 (br_t rfl (ai (z fun _ _ _ g => absurd g.2 q))))))
  have yy := y f hf e ⟨q1, q2⟩
  refine s139_26 L x1 x2 x3 1 (br_f (by decide) ?_)
  have zz : (cm_I h 60 f = 0 → ¬ C f < 10) → K (-1) h := fun w => z fun g hg e2 _ => by rw [un g hg e2]; exact w
  subst e
  rw [nI_clamp (by omega), hC, e10, nI_clamp (by omega)]
  refine ⟨ix_nI (by omega) (by decide), fun q => ai (zz fun _ w => ?_), fun q => ⟨fun q0 => ?_, fun q0 => ai (zz fun w => absurd w q0)⟩⟩
  · have := nI_inj (a := C f) (b := 10) (by omega) (by decide) q
    omega
  · have hlt : C f < 10 := by
      rcases Nat.lt_or_ge (C f) 10 with w | w
      · exact w
      · exact absurd (by rw [show C f = 10 by omega]; rfl) q
    rw [nI_1, show cm_I (cm_setI (cm_setI (cm_setI (cm_setI h 43 (10 * f + C f) x2) 44 (10 * f + C f) x2) 45 (10 * f + C f) x3) 42 f (nI (C f + 1))) 42 f = nI (C f + 1) from u2_s]
    exact ⟨ix_nI (by omega) (by decide), ai (yy q0 hlt)⟩
/-! layer -/
theorem m_layer {x1 x2 : Int32} {N : Nat} (L : LY h) (hN : cm_I h 38 53 = nI N) (h6 : N ≤ 6) (y : g_cell x1 x2 → N < 6 → K (nI N) (cm_setI (cm_setI (cm_setI h 77 N x1) 78 N x2) 38 53 (nI (N + 1)))) (z : (g_cell x1 x2 → ¬ N < 6) → K (-1) h) : cm_ci sc (d + 1) 208 [.ref 38, .int x1, .int x2] h K := by
  refine ci_of rfl (s208_0 x1 x2 (m_in (fun q1 => ?_) (fun q => s208_7 x1 x2 0 (br_t rfl (ai (z fun g => absurd g.1 q))))))
  refine s208_7 x1 x2 1 (br_f (by decide) (m_in (fun q2 => ?_) (fun q => s208_18 L x1 x2 0 (br_t rfl (ai (z fun g => absurd g.2 q))))))
  refine s208_18 L x1 x2 1 (br_f (by decide) ⟨fun q => ?_, fun q => ai (z fun _ w => ?_)⟩)
  · have hlt : N < 6 := by
      rcases Nat.lt_or_ge N 6 with w | w
      · exact w
      · exact absurd (by rw [hN, show N = 6 by omega]; rfl) q
    rw [hN, nI_clamp (by omega), nI_1, nI_pred]
    exact ⟨ix_nI hlt (by decide), ai (y ⟨q1, q2⟩ hlt)⟩
  · have q := Decidable.not_not.mp q
    rw [hN] at q
    have := nI_inj (a := N) (b := 6) (by omega) (by decide) q
    omega
theorem c_layer {x1 x2 : Int32} {N : Nat} (L : LY h) (hN : cm_I h 21 5 = nI N) (hA : cm_I h 26 3 = nI N) (h6 : N ≤ 6) (y : g_cell x1 x2 → N < 6 → ∀ h', NC h h' x1 x2 → K (nI N) (cm_setI (cm_setI (cm_setI (cm_setI (cm_setI (cm_setR h' 27 N (some (cm_n h))) 26 3 (nI (N + 1))) 22 N x1) 23 N x2) 21 5 (nI (N + 1))) 21 7 (-1))) (z : (g_cell x1 x2 → ¬ N < 6) → K (-1) h) : cm_ci sc (d + 4) 101 [.ref 0, .int x1, .int x2] h K := by
  refine ci_of rfl (s101_0 x1 x2 (c_in (fun q1 => ?_) (fun q => s101_7 x1 x2 0 (br_t rfl (ai (z fun g => absurd g.1 q))))))
  refine s101_7 x1 x2 1 (br_f (by decide) (c_in (fun q2 => ?_) (fun q => s101_18 L x1 x2 0 (br_f (by decide) (ai (z fun g => absurd g.2 q))))))
  refine s101_18 L x1 x2 1 (br_t (by decide) (ci_of rfl (s102_0 L x1 x2 ⟨fun q => absurd q (by rw [hN]; exact nI_pos (by omega)), fun _ => ⟨fun q => ⟨-1, rfl, s101_32 _ _ _ (ai (z fun _ w => absurd q (by rw [hN]; exact nI_ge (b := 6) w (by decide))))⟩, fun q => ?_⟩⟩)))
  have hlt : N < 6 := by
    rcases Nat.lt_or_ge N 6 with w | w
    · exact w
    · exact absurd (by rw [hN]; exact nI_le (a := 6) w (by omega)) q
  have F26 : FL h 26 := by
    have h0 := L.1
    exact ⟨(ly_k L 26 rfl).1, by omega, ly_r L 26 0 rfl, ly_r L 26 1 rfl, ly_r L 26 2 rfl, ⟨(ly_k L 27 rfl).1, ly_ln L 27 rfl⟩, ⟨(ly_k L 28 rfl).1, ly_ln L 28 rfl⟩, ⟨(ly_k L 29 rfl).1, ly_ln L 29 rfl⟩⟩
  refine c_addCell F26 hA (by omega) (fun _ h' NN => ?_) (fun w => absurd (by omega) w)
  have k := y ⟨q1, q2⟩ hlt h' NN
  have h0 := L.1
  have L2 : LY (cm_setI (cm_setR h' (26 + 1) N (some (cm_n h))) 26 3 (nI (N + 1))) := by
    have L' := NN.1.ly L
    refine ⟨L'.1, L'.2.1, fun a f b q => ?_⟩
    show (if a = 27 ∧ f = N then some (cm_n h) else cm_R h' a f) = some b
    have : ∀ e ∈ ly_R, e.1 ≠ 27 := by decide
    rw [if_neg (fun w => this _ q w.1)]
    exact L'.2.2 a f b q
  have e5 : cm_I (cm_setI (cm_setR h' (26 + 1) N (some (cm_n h))) 26 3 (nI (N + 1))) 21 5 = nI N := by
    show cm_I h' 21 5 = nI N
    rw [((NN.1.2 21 (by omega)).2.2 5).1, hN]
  refine s102_25 L2 _ _ 1 (br_t (by decide) ?_)
  rw [e5, nI_clamp (by omega), nI_1]
  refine ⟨ix_nI hlt (by decide), c_forget L2 ?_⟩
  refine s102_64 ?_ _ _ ⟨nI N, ?_, s101_32 _ _ _ (ai k)⟩
  · exact L2
  · show some (Value.int (nI (N + 1) - 1)) = _
    rw [nI_pred]
end MAKE
