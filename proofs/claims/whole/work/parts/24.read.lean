/-! ===== set, celled, held, told, ripe ===== -/
def q_pick (x : Int32) : List Int32 → Int32 → Int32
  | [], _ => -1
  | v :: l, i => if x = i then v else q_pick x l (i + 1)
theorem nI_inj {a b : Nat} (ha : a < 2 ^ 31) (hb : b < 2 ^ 31) (e : nI a = nI b) : a = b := (nI_eq ha hb).mp e
section READ
variable {sc : cmS} {d : Nat} {h : cmH} {K : Int32 → cmH → Prop} {F : Nat} {C : Nat → Nat} {fa : Nat → Nat} {cc : Nat → Nat → Nat}
/-- what is asked of the reference's counts -/
def MF (I : Nat → Nat → Int32) (F : Nat) (C : Nat → Nat) : Prop := I 38 24 = nI F ∧ F ≤ 8 ∧ ∀ f, f < F → I 42 f = nI (C f) ∧ C f ≤ 10 ∧ ∀ c, c < C f → I 45 (10 * f + c) ≠ 0
theorem m_isF' {x : Int32} (L : LY h) (G : MF (cm_I h) F C) (t : ∀ f, f < F → x = nI f → K 1 h) (n : (∀ f, f < F → x ≠ nI f) → K 0 h) : cm_ci sc (d + 1) 140 [.ref 38, .int x] h K := m_isF L G.1 G.2.1 t n
theorem m_isC' {x y : Int32} (L : LY h) (G : MF (cm_I h) F C) (t : ∀ f c, f < F → c < C f → x = nI f → y = nI c → K 1 h) (n : (∀ f c, f < F → c < C f → x = nI f → y ≠ nI c) → K 0 h) : cm_ci sc (d + 2) 151 [.ref 38, .int x, .int y] h K := by
  have h8 := G.2.1
  refine ci_of rfl (s151_0 L x y (m_isF' L G (fun f hf e => ?_) (fun q => ?_)))
  · subst e
    have hC := G.2.2 f hf
    refine s151_5 L _ _ _ (br_f (by decide) ⟨ix_nI (by omega) (by decide), ?_⟩)
    rw [nI_clamp (by omega)]
    refine m_inL (C f) hC.1 (by have := hC.2.1; omega) (fun c hc e => s151_21 _ _ _ (br_f (by decide) (ai (t f c hf hc rfl e)))) (fun q => s151_21 _ _ _ (br_t rfl (ai (n ?_))))
    intro f2 c hf2 hc e
    have := nI_inj (a := f) (b := f2) (by omega) (by omega) e
    subst this
    exact q c hc
  · refine s151_5 L _ _ _ (br_t rfl (ai (n fun f c hf hc e => absurd e (q f hf))))
def g_set (x2 x3 : Int32) : Prop := (0 ≤ x2 ∧ x2 ≤ 2) ∧ (1 ≤ x3 ∧ x3 ≤ if x2 = 2 then 200 else 1000)
theorem m_set {x1 x2 x3 : Int32} (L : LY h) (G : MF (cm_I h) F C) (t : ∀ f, f < F → x1 = nI f → g_set x2 x3 → K 1 (cm_setI h (q_row 49 x2) f x3)) (n : (∀ f, f < F → x1 = nI f → ¬ g_set x2 x3) → K 0 h) : cm_ci sc (d + 2) 141 [.ref 38, .int x1, .int x2, .int x3] h K := by
  have h8 := G.2.1
  refine ci_of rfl (s141_0 L x1 x2 x3 (m_isF' L G (fun f hf e => ?_) (fun q => s141_5 x1 x2 x3 0 (br_t rfl (ai (n fun f hf e => absurd e (q f hf)))))))
  have nn : ¬ g_set x2 x3 → K 0 h := fun z => n fun f2 hf2 e2 g => by
    have := nI_inj (a := f) (b := f2) (by omega) (by omega) (e.symm.trans e2)
    subst this; exact z g
  refine s141_5 x1 x2 x3 1 (br_f (by decide) (m_in (fun q2 => ?_) (fun q => s141_14 x1 x2 x3 0 (br_t rfl (ai (nn fun g => q g.1))))))
  have fin : ∀ M : Int32, M = (if x2 = 2 then 200 else 1000) → cm_wp sc (d + 2) 141 33 [some (.ref 38), some (.int x1), some (.int x2), some (.int x3)] [.int M, .int 1, .int x3] h (fun v h' => ∃ x, v = some (.int x) ∧ K x h') := by
    intro M hM
    subst hM
    refine s141_33 x1 x2 x3 _ _ _ (m_in (fun q3 => ?_) (fun q => s141_36 L x1 x2 x3 0 (br_f (by decide) (ai (nn fun g => q g.2)))))
    have k := t f hf e ⟨q2, q3⟩
    subst e
    have ix : IX 9 (nI f) := ix_nI (by omega) (by decide)
    unfold q_row at k
    refine s141_36 L _ x2 x3 1 (br_t (by decide) ⟨fun z => ⟨fun z2 => ⟨ix, ai ?_⟩, fun z2 => ⟨ix, ai ?_⟩⟩, fun z => ⟨ix, ai ?_⟩⟩)
    · rw [if_neg z, if_neg z2] at k; rw [nI_clamp (by omega)]; exact k
    · rw [if_neg z, if_pos (Decidable.not_not.mp z2)] at k; rw [nI_clamp (by omega)]; exact k
    · rw [if_pos (Decidable.not_not.mp z)] at k; rw [nI_clamp (by omega)]; exact k
  exact s141_14 x1 x2 x3 1 (br_f (by decide) ⟨fun z => fin _ (if_neg z).symm, fun z => fin _ (if_pos (Decidable.not_not.mp z)).symm⟩)
theorem c_set {x1 x2 x3 : Int32} (L : LY h) (G : FS h F fa) (GC : ∀ f, f < F → FL h (fa f)) (t : ∀ f, f < F → x1 = nI f → g_set x2 x3 → K 1 (cm_setI h (fa f) (q_row 4 x2) x3)) (n : (∀ f, f < F → x1 = nI f → ¬ g_set x2 x3) → K 0 h) : cm_ci sc (d + 2) 20 [.ref 0, .int x1, .int x2, .int x3] h K := by
  have h8 := G.2.1
  refine ci_of rfl (s20_0 L x1 x2 x3 _ (c_filterAt L G (fun f hf e => ?_) (fun q => s20_5 x1 x2 x3 _ none ⟨fun _ => ai (n fun f hf e => absurd e (q f hf)), fun b eb => (by cases eb)⟩)))
  have nn : ¬ g_set x2 x3 → K 0 h := fun z => n fun f2 hf2 e2 g => by
    have := nI_inj (a := f) (b := f2) (by omega) (by omega) (e.symm.trans e2)
    subst this; exact z g
  refine s20_5 x1 x2 x3 _ (some (fa f)) ⟨fun q => (by cases q), fun b eb => ?_⟩
  cases eb
  refine c_in (fun q2 => ?_) (fun q => s20_18 x1 x2 x3 (some (fa f)) 0 (br_t rfl (ai (nn fun g => q g.1))))
  have fin : ∀ M : Int32, M = (if x2 = 2 then 200 else 1000) → cm_wp sc (d + 2) 20 37 [some (.ref 0), some (.int x1), some (.int x2), some (.int x3), some (va_rf (some (fa f)))] [.int M, .int 1, .int x3] h (fun v h' => ∃ x, v = some (.int x) ∧ K x h') := by
    intro M hM
    subst hM
    refine s20_37 x1 x2 x3 (some (fa f)) _ _ _ (c_in (fun q3 => ?_) (fun q => s20_40 x1 x2 x3 (some (fa f)) 0 (br_f (by decide) (ai (nn fun g => q g.2)))))
    have k := t f hf e ⟨q2, q3⟩
    unfold q_row at k
    refine s20_40 x1 x2 x3 (some (fa f)) 1 (br_t (by decide) ⟨fun z => ⟨fun z2 => ⟨_, rfl, GC f hf, ai ?_⟩, fun z2 => ⟨_, rfl, GC f hf, ai ?_⟩⟩, fun z => ⟨_, rfl, GC f hf, ai ?_⟩⟩)
    · rw [if_neg z, if_neg z2] at k; exact k
    · rw [if_neg z, if_pos (Decidable.not_not.mp z2)] at k; exact k
    · rw [if_pos (Decidable.not_not.mp z)] at k; exact k
  exact s20_18 x1 x2 x3 (some (fa f)) 1 (br_f (by decide) ⟨fun z => fin _ (if_neg z).symm, fun z => fin _ (if_pos (Decidable.not_not.mp z)).symm⟩)
/-! celled -/
theorem pick5 {x v0 v1 v2 v3 v4 : Int32} {P : Int32 → Prop} (k : P (q_pick x [v0, v1, v2, v3, v4] 0)) : (x = 0 → P v0) ∧ (x = 1 → P v1) ∧ (x = 2 → P v2) ∧ (x = 3 → P v3) ∧ (x = 4 → P v4) ∧ (¬ x = 0 → ¬ x = 1 → ¬ x = 2 → ¬ x = 3 → ¬ x = 4 → P (-1)) := by
  refine ⟨?_, ?_, ?_, ?_, ?_, ?_⟩
  · rintro rfl; exact k
  · rintro rfl; exact k
  · rintro rfl; exact k
  · rintro rfl; exact k
  · rintro rfl; exact k
  · intro q0 q1 q2 q3 q4
    have e : q_pick x [v0, v1, v2, v3, v4] 0 = -1 := by
      show (if x = 0 then v0 else if x = 1 then v1 else if x = 2 then v2 else if x = 3 then v3 else if x = 4 then v4 else -1) = -1
      rw [if_neg q0, if_neg q1, if_neg q2, if_neg q3, if_neg q4]
    rw [e] at k; exact k
theorem m_celled {x1 x2 x3 : Int32} (L : LY h) (G : MF (cm_I h) F C) (t : ∀ f c, f < F → c < C f → x1 = nI f → x2 = nI c → K (q_pick x3 [cm_I h 43 (10 * f + c), cm_I h 45 (10 * f + c), q_width (cm_I h) f c, q_res (q_width (cm_I h) f c), q_held (cm_I h) f c] 0) h) (n : (∀ f c, f < F → c < C f → x1 = nI f → x2 ≠ nI c) → K (-1) h) : cm_ci sc (d + 3) 150 [.ref 38, .int x1, .int x2, .int x3] h K := by
  have h8 := G.2.1
  refine ci_of rfl (s150_0 L x1 x2 x3 (m_isC' L G (fun f c hf hc e1 e2 => ?_) (fun q => s150_6 L x1 x2 x3 0 (br_f (by decide) (ai (n q))))))
  have k := t f c hf hc e1 e2
  subst e1 e2
  obtain ⟨-, h10, ht⟩ := G.2.2 f hf
  obtain ⟨p0, p1, p2, p3, p4, p5⟩ := pick5 (P := fun y => K y h) k
  have ix : IX 90 ((10 : Int32) * nI f + nI c) := by rw [e10]; exact ix_nI (by omega) (by decide)
  refine s150_6 L _ _ x3 1 (br_t (by decide) ⟨fun z => ⟨ix, ai ?_⟩, fun z => ⟨ix, ai ?_⟩, fun z => m_width L (by omega) (by omega) (ht c hc) (s150_78 _ _ _ _ (ai (p2 z))), fun z => m_width L (by omega) (by omega) (ht c hc) (s150_85 _ _ _ _ (m_resistOf (s150_88 _ _ _ _ (ai (p3 z))))), fun z => m_heldIn L (by omega) (by omega) (s150_95 _ _ _ _ (ai (p4 z))), fun z0 z1 z2 z3 z4 => ai (p5 z0 z1 z2 z3 z4)⟩)
  · rw [e10, nI_clamp (by omega)]; exact p0 z
  · rw [e10, nI_clamp (by omega)]; exact p1 z
theorem c_celled {x1 x2 x3 : Int32} (L : LY h) (G : FS h F fa) (GC : ∀ f, f < F → FC h (fa f) (C f) (cc f)) (t : ∀ f c, f < F → c < C f → x1 = nI f → x2 = nI c → K (q_pick x3 [cm_I h (cc f c) 4, cm_I h (cc f c) 5, c_wd h (cc f c), q_res (c_wd h (cc f c)), cm_I h (cc f c) 2] 0) h) (n : (∀ f c, f < F → c < C f → x1 = nI f → x2 ≠ nI c) → K (-1) h) : cm_ci sc (d + 3) 21 [.ref 0, .int x1, .int x2, .int x3] h K := by
  refine ci_of rfl (s21_0 L x1 x2 x3 _ (c_cellAt L G GC (fun f c hf hc e1 e2 => ?_) (fun q => s21_6 x1 x2 x3 _ none ⟨fun _ => ai (n q), fun b eb => (by cases eb)⟩)))
  obtain ⟨p0, p1, p2, p3, p4, p5⟩ := pick5 (P := fun y => K y h) (t f c hf hc e1 e2)
  obtain ⟨-, E, ht⟩ := (GC f hf).2.2.2 c hc
  refine s21_6 x1 x2 x3 _ (some (cc f c)) ⟨fun q => (by cases q), fun b eb => ?_⟩
  cases eb
  exact ⟨fun z => ⟨E, ai (p0 z)⟩, fun z => ⟨E, ai (p1 z)⟩, fun z => ⟨E, c_width E ht (s21_69 _ _ _ (some _) _ (ai (p2 z)))⟩, fun z => ⟨E, c_resistance E ht (s21_75 _ _ _ (some _) _ (ai (p3 z)))⟩, fun z => ⟨E, ai (p4 z)⟩, fun z0 z1 z2 z3 z4 => ai (p5 z0 z1 z2 z3 z4)⟩
/-! held -/
def g_held (x3 x4 : Int32) : Prop := (0 ≤ x3 ∧ x3 ≤ 7) ∧ (0 ≤ x4 ∧ x4 ≤ 1)
theorem m_held {x1 x2 x3 x4 : Int32} (L : LY h) (G : MF (cm_I h) F C) (t : ∀ f c s, f < F → c < C f → s < 8 → x1 = nI f → x2 = nI c → x3 = nI s → g_held x3 x4 → K (cm_I h (if x4 = 0 then 46 else 47) (8 * (10 * f + c) + s)) h) (n : (∀ f c, f < F → c < C f → x1 = nI f → x2 = nI c → ¬ g_held x3 x4) → K (-1) h) : cm_ci sc (d + 3) 152 [.ref 38, .int x1, .int x2, .int x3, .int x4] h K := by
  have h8 := G.2.1
  refine ci_of rfl (s152_0 L x1 x2 x3 x4 _ (m_isC' L G (fun f c hf hc e1 e2 => ?_) (fun q => s152_6 x1 x2 x3 x4 _ 0 (br_t rfl (ai (n fun f c hf hc e1 e2 => absurd e2 (q f c hf hc e1)))))))
  have h10 := (G.2.2 f hf).2.1
  have nn : ¬ g_held x3 x4 → K (-1) h := fun z => n fun f2 c2 hf2 hc2 e3 e4 g => z g
  refine s152_6 x1 x2 x3 x4 _ 1 (br_f (by decide) (m_in (fun q3 => ?_) (fun q => s152_16 x1 x2 x3 x4 _ 0 (br_t rfl (ai (nn fun g => q g.1))))))
  refine s152_16 x1 x2 x3 x4 _ 1 (br_f (by decide) (m_in (fun q4 => ?_) (fun q => s152_26 L x1 x2 x3 x4 _ 0 (br_f (by decide) (ai (nn fun g => q g.2))))))
  obtain ⟨s, -, hs, rfl⟩ := (in_nI 0 7 rfl rfl (by decide) (by decide)).mp q3
  have k := t f c s hf hc (by omega) e1 e2 rfl ⟨q3, q4⟩
  subst e1 e2
  have ix : IX 720 ((8 : Int32) * ((10 : Int32) * nI f + nI c) + nI s) := by rw [e80]; exact ix_nI (by omega) (by decide)
  refine s152_26 L _ _ _ x4 _ 1 (br_t (by decide) ⟨fun z => ⟨ix, ai ?_⟩, fun z => ⟨ix, ai ?_⟩⟩)
  · rw [if_neg z] at k; rw [e80, nI_clamp (by omega)]; exact k
  · rw [if_pos (Decidable.not_not.mp z)] at k; rw [e80, nI_clamp (by omega)]; exact k
theorem c_held {x1 x2 x3 x4 : Int32} (L : LY h) (G : FS h F fa) (GC : ∀ f, f < F → FC h (fa f) (C f) (cc f)) (t : ∀ f c s, f < F → c < C f → s < 8 → x1 = nI f → x2 = nI c → x3 = nI s → g_held x3 x4 → K (cm_I h (cc f c + if x4 = 0 then 1 else 2) s) h) (n : (∀ f c, f < F → c < C f → x1 = nI f → x2 = nI c → ¬ g_held x3 x4) → K (-1) h) : cm_ci sc (d + 3) 27 [.ref 0, .int x1, .int x2, .int x3, .int x4] h K := by
  refine ci_of rfl (s27_0 L x1 x2 x3 x4 _ (c_cellAt L G GC (fun f c hf hc e1 e2 => ?_) (fun q => s27_6 x1 x2 x3 x4 _ none ⟨fun _ => ai (n fun f c hf hc e1 e2 => absurd e2 (q f c hf hc e1)), fun b eb => (by cases eb)⟩)))
  obtain ⟨-, E, ht⟩ := (GC f hf).2.2.2 c hc
  have nn : ¬ g_held x3 x4 → K (-1) h := fun z => n fun f2 c2 hf2 hc2 e3 e4 g => z g
  refine s27_6 x1 x2 x3 x4 _ (some (cc f c)) ⟨fun q => (by cases q), fun b eb => ?_⟩
  cases eb
  refine c_size (fun q3 => ?_) (fun q => s27_17 x1 x2 x3 x4 (some (cc f c)) 0 (br_t rfl (ai (nn fun g => q g.1))))
  refine s27_17 x1 x2 x3 x4 (some (cc f c)) 1 (br_f (by decide) (c_in (fun q4 => ?_) (fun q => s27_27 x1 x2 x3 x4 (some (cc f c)) 0 (br_f (by decide) (ai (nn fun g => q g.2))))))
  obtain ⟨s, -, hs, rfl⟩ := (in_nI 0 7 rfl rfl (by decide) (by decide)).mp q3
  have k := t f c s hf hc (by omega) e1 e2 rfl ⟨q3, q4⟩
  refine s27_27 _ _ _ x4 (some (cc f c)) 1 (br_t (by decide) ⟨fun z => ⟨_, rfl, E, in07 q3, ai ?_⟩, fun z => ⟨_, rfl, E, in07 q3, ai ?_⟩⟩)
  · rw [if_neg z] at k; rw [nI_clamp (by omega)]; exact k
  · rw [if_pos (Decidable.not_not.mp z)] at k; rw [nI_clamp (by omega)]; exact k
/-! told -/
theorem pick9 {x v0 v1 v2 v3 v4 v5 v6 v7 v8 : Int32} {P : Int32 → Prop} (k : P (q_pick x [v0, v1, v2, v3, v4, v5, v6, v7, v8] 0)) : (x = 0 → P v0) ∧ (x = 1 → P v1) ∧ (x = 2 → P v2) ∧ (x = 3 → P v3) ∧ (x = 4 → P v4) ∧ (x = 5 → P v5) ∧ (x = 6 → P v6) ∧ (x = 7 → P v7) ∧ (x = 8 → P v8) ∧ (¬ x = 0 → ¬ x = 1 → ¬ x = 2 → ¬ x = 3 → ¬ x = 4 → ¬ x = 5 → ¬ x = 6 → ¬ x = 7 → ¬ x = 8 → P (-1)) := by
  refine ⟨?_, ?_, ?_, ?_, ?_, ?_, ?_, ?_, ?_, ?_⟩
  · rintro rfl; exact k
  · rintro rfl; exact k
  · rintro rfl; exact k
  · rintro rfl; exact k
  · rintro rfl; exact k
  · rintro rfl; exact k
  · rintro rfl; exact k
  · rintro rfl; exact k
  · rintro rfl; exact k
  · intro q0 q1 q2 q3 q4 q5 q6 q7 q8
    have e : q_pick x [v0, v1, v2, v3, v4, v5, v6, v7, v8] 0 = -1 := by
      show (if x = 0 then v0 else if x = 1 then v1 else if x = 2 then v2 else if x = 3 then v3 else if x = 4 then v4 else if x = 5 then v5 else if x = 6 then v6 else if x = 7 then v7 else if x = 8 then v8 else -1) = -1
      rw [if_neg q0, if_neg q1, if_neg q2, if_neg q3, if_neg q4, if_neg q5, if_neg q6, if_neg q7, if_neg q8]
    rw [e] at k; exact k
theorem m_told {x1 x2 : Int32} (L : LY h) (G : MF (cm_I h) F C) (t : ∀ f, f < F → x1 = nI f → K (q_pick x2 [cm_I h 52 f, cm_I h 53 f, cm_I h 54 f, q_cake (cm_I h) f, q_bed (cm_I h) (C f) f, cm_I h 42 f, cm_I h 56 f, cm_I h 57 f, cm_I h 58 f] 0) h) (n : (∀ f, f < F → x1 ≠ nI f) → K (-1) h) : cm_ci sc (d + 4) 153 [.ref 38, .int x1, .int x2] h K := by
  have h8 := G.2.1
  refine ci_of rfl (s153_0 L x1 x2 (m_isF' L G (fun f hf e1 => ?_) (fun q => s153_5 L x1 x2 0 (br_f (by decide) (ai (n q))))))
  have k := t f hf e1
  subst e1
  obtain ⟨hC, h10, ht⟩ := G.2.2 f hf
  obtain ⟨p0, p1, p2, p3, p4, p5, p6, p7, p8, p9⟩ := pick9 (P := fun y => K y h) k
  have ix : IX 9 (nI f) := ix_nI (by omega) (by decide)
  have e : (nI f).toNatClampNeg = f := nI_clamp (by omega)
  refine s153_5 L _ x2 1 (br_t (by decide) ?_)
  rw [e]
  exact ⟨fun z => ⟨ix, ai (p0 z)⟩, fun z => ⟨ix, ai (p1 z)⟩, fun z => ⟨ix, ai (p2 z)⟩, fun z => m_cakeOf L (by omega) (s153_86 _ _ _ (ai (p3 z))), fun z => m_bed L (by omega) hC h10 ht (s153_92 _ _ _ (ai (p4 z))), fun z => ⟨ix, ai (p5 z)⟩, fun z => ⟨ix, ai (p6 z)⟩, fun z => ⟨ix, ai (p7 z)⟩, fun z => ⟨ix, ai (p8 z)⟩, fun z0 z1 z2 z3 z4 z5 z6 z7 z8 => ai (p9 z0 z1 z2 z3 z4 z5 z6 z7 z8)⟩
theorem c_told {x1 x2 : Int32} (L : LY h) (G : FS h F fa) (GC : ∀ f, f < F → FC h (fa f) (C f) (cc f)) (t : ∀ f, f < F → x1 = nI f → K (q_pick x2 [cm_I h (fa f) 8, cm_I h (fa f) 9, cm_I h (fa f) 10, cm_sum (cm_I h (fa f + 2)) 8, c_bedv h (C f) (cc f), cm_I h (fa f) 3, cm_I h (fa f) 11, cm_I h (fa f) 12, cm_I h (fa f) 13] 0) h) (n : (∀ f, f < F → x1 ≠ nI f) → K (-1) h) : cm_ci sc (d + 4) 28 [.ref 0, .int x1, .int x2] h K := by
  refine ci_of rfl (s28_0 L x1 x2 _ (c_filterAt L G (fun f hf e => ?_) (fun q => s28_5 x1 x2 _ none ⟨fun _ => ai (n q), fun b eb => (by cases eb)⟩)))
  obtain ⟨p0, p1, p2, p3, p4, p5, p6, p7, p8, p9⟩ := pick9 (P := fun y => K y h) (t f hf e)
  have E := (GC f hf).1
  refine s28_5 x1 x2 _ (some (fa f)) ⟨fun q => (by cases q), fun b eb => ?_⟩
  cases eb
  exact ⟨fun z => ⟨E, ai (p0 z)⟩, fun z => ⟨E, ai (p1 z)⟩, fun z => ⟨E, ai (p2 z)⟩, fun z => ⟨E, c_cakeInAll E (s28_83 _ _ (some _) _ (ai (p3 z)))⟩, fun z => ⟨E, c_bed (GC f hf) (s28_88 _ _ (some _) _ (ai (p4 z)))⟩, fun z => ⟨E, ai (p5 z)⟩, fun z => ⟨E, ai (p6 z)⟩, fun z => ⟨E, ai (p7 z)⟩, fun z => ⟨E, ai (p8 z)⟩, fun z0 z1 z2 z3 z4 z5 z6 z7 z8 => ai (p9 z0 z1 z2 z3 z4 z5 z6 z7 z8)⟩
/-! ripe -/
theorem m_ripe {x : Int32} (L : LY h) (G : MF (cm_I h) F C) (t : ∀ f, f < F → x = nI f → K (cm_I h 69 f) h) (n : (∀ f, f < F → x ≠ nI f) → K (-1) h) : cm_ci sc (d + 2) 200 [.ref 38, .int x] h K := by
  have h8 := G.2.1
  refine ci_of rfl (s200_0 L x (m_isF' L G (fun f hf e => ?_) (fun q => s200_5 L x 0 (br_t rfl (ai (n q))))))
  have k := t f hf e
  subst e
  refine s200_5 L _ 1 (br_f (by decide) ⟨ix_nI (by omega) (by decide), ai ?_⟩)
  rw [nI_clamp (by omega)]; exact k
theorem c_ripe {x : Int32} (L : LY h) (G : FS h F fa) (GC : ∀ f, f < F → FL h (fa f)) (t : ∀ f, f < F → x = nI f → K (cm_I h (fa f) 14) h) (n : (∀ f, f < F → x ≠ nI f) → K (-1) h) : cm_ci sc (d + 2) 95 [.ref 0, .int x] h K :=
  ci_of rfl (s95_0 L x _ (c_filterAt L G (fun f hf e => s95_5 x _ (some (fa f)) ⟨fun q => (by cases q), fun b eb => (by cases eb; exact ⟨GC f hf, ai (t f hf e)⟩)⟩) (fun q => s95_5 x _ none ⟨fun _ => ai (n q), fun b eb => (by cases eb)⟩)))
end READ
