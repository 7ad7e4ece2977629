/-! ===== back, barred: the calls themselves ===== -/
section BACK2
variable {sc : cmS} {d : Nat} {h : cmH} {K : Int32 → cmH → Prop} {F T R : Nat} {C : Nat → Nat} {fa : Nat → Nat} {cc P Tk : Nat → Nat → Nat}
/-- pores and takes as numbers -/
def VPT (F : Nat) (C : Nat → Nat) (P Tk : Nat → Nat → Nat) (v4 v5 : Nat → Nat → Int32) : Prop := ∀ f c, f < F → c < C f → v4 f c = nI (P f c) ∧ v5 f c = nI (Tk f c) ∧ P f c ≤ 20 ∧ 1 ≤ Tk f c ∧ Tk f c ≤ 1000
def g_back (T : Nat) (x3 x4 : Int32) : Prop := (0 ≤ x3 ∧ x3 ≤ nI T) ∧ (0 ≤ x4 ∧ x4 ≤ 1)
/-- what is asked: the readings of that cell -/
def q_bk (gc gf gt gd : Nat → Int32) (cell : Nat) (till : Int32) (k p t : Nat) (n : Nat) : Prop := q_ok gc gf gt gd (nI cell) till k (q_res (nI (p - n / t)))
theorem c_back {x1 x2 x3 x4 : Int32} (L : LY h) (G : FS h F fa) (GC : ∀ f, f < F → FC h (fa f) (C f) (cc f)) (hV : VPT F C P Tk (fun f c => cm_I h (cc f c) 4) (fun f c => cm_I h (cc f c) 5)) (h33 : ∀ f c, f < F → c < C f → cc f c ≠ 33) (hT : cm_I h 0 12 = nI T) (hR : cm_I h 33 4 = nI R) (hR2 : R ≤ 100)
    (t : ∀ f c, f < F → c < C f → x1 = nI f → x2 = nI c → g_back T x3 x4 → ∀ r lo hi, (x4 = 0 → q_least (q_bk (cm_I h 34) (cm_I h 35) (cm_I h 36) (cm_I h 37) (10 * f + c) x3 R (P f c) (Tk f c)) (P f c * Tk f c) r) → (x4 ≠ 0 → q_great (q_bk (cm_I h 34) (cm_I h 35) (cm_I h 36) (cm_I h 37) (10 * f + c) x3 R (P f c) (Tk f c)) (P f c * Tk f c) r) → K r (q_lh h lo hi))
    (n : (∀ f c, f < F → c < C f → x1 = nI f → x2 = nI c → ¬ g_back T x3 x4) → K (-1) h) : cm_ci sc (d + 3) 117 [.ref 0, .int x1, .int x2, .int x3, .int x4] h K := by
  refine ci_of rfl (s117_0 L x1 x2 x3 x4 _ (c_cellAt L G GC (fun f c hf hc e1 e2 => ?_) (fun q => s117_6 L x1 x2 x3 x4 _ none ⟨fun _ => ai (n fun f c hf hc e1 e2 => absurd e2 (q f c hf hc e1)), fun b eb => (by cases eb)⟩)))
  have nn : ¬ g_back T x3 x4 → K (-1) h := fun z => n fun _ _ _ _ _ _ => z
  refine s117_6 L x1 x2 x3 x4 _ (some (cc f c)) ⟨fun q => (by cases q), fun b eb => ?_⟩
  cases eb
  rw [hT]
  refine c_in (fun q3 => ?_) (fun q => s117_22 x1 x2 x3 x4 (some (cc f c)) 0 (br_t rfl (ai (nn fun g => q g.1))))
  refine s117_22 x1 x2 x3 x4 (some (cc f c)) 1 (br_f (by decide) (c_in (fun q4 => ?_) (fun q => s117_32 L x1 x2 x3 x4 (some (cc f c)) 0 (br_f (by decide) (ai (nn fun g => q g.2))))))
  have tt := t f c hf hc e1 e2 ⟨q3, q4⟩
  obtain ⟨hp, ht, hp2, ht1, ht2⟩ := hV f c hf hc
  obtain ⟨-, E, -⟩ := (GC f hf).2.2.2 c hc
  refine s117_32 L x1 x2 x3 x4 (some (cc f c)) 1 (br_t (by decide) ?_)
  subst e1 e2
  rw [e10']
  refine c_narrowAll L hR hR2 (fun lo hi hr => ?_)
  refine s117_51 (h := q_lh h lo hi) L _ _ x3 x4 (some (cc f c)) ⟨fun z => ⟨_, rfl, c_greatestHeld L E (h33 f c hf hc) hp ht hp2 ht1 ht2 hr (fun r hr2 => s117_77 _ _ _ _ (some (cc f c)) _ (ai (tt r lo hi (fun e => absurd e z) (fun _ => hr2))))⟩, fun z => ⟨_, rfl, c_leastHeld L E (h33 f c hf hc) hp ht hp2 ht1 ht2 hr (fun r hr2 => s117_65 _ _ _ _ (some (cc f c)) _ (s117_77 _ _ _ _ (some (cc f c)) _ (ai (tt r lo hi (fun _ => hr2) (fun e => absurd e z)))))⟩⟩
theorem m_isAsked {x1 x2 x3 : Int32} (L : LY h) (G : MF (cm_I h) F C) (hT : cm_I h 38 0 = nI T) (t : ∀ f c, f < F → c < C f → x1 = nI f → x2 = nI c → 0 ≤ x3 ∧ x3 ≤ nI T → K 1 h) (n : (∀ f c, f < F → c < C f → x1 = nI f → x2 = nI c → ¬ (0 ≤ x3 ∧ x3 ≤ nI T)) → K 0 h) : cm_ci sc (d + 3) 217 [.ref 38, .int x1, .int x2, .int x3] h K := by
  refine ci_of rfl (s217_0 L x1 x2 x3 (m_isC' L G (fun f c hf hc e1 e2 => ?_) (fun q => s217_6 L x1 x2 x3 0 (br_t rfl (ai (n fun f c hf hc e1 e2 => absurd e2 (q f c hf hc e1)))))))
  refine s217_6 L x1 x2 x3 1 (br_f (by decide) ?_)
  rw [hT]
  exact m_in (fun q => s217_18 _ _ _ 1 (br_f (by decide) (ai (t f c hf hc e1 e2 q)))) (fun q => s217_18 _ _ _ 0 (br_t rfl (ai (n fun _ _ _ _ _ _ => q))))
theorem m_back {x1 x2 x3 x4 : Int32} (L : LY h) (G : MF (cm_I h) F C) (hV : VPT F C P Tk (fun f c => cm_I h 43 (10 * f + c)) (fun f c => cm_I h 45 (10 * f + c))) (hT : cm_I h 38 0 = nI T) (hR : cm_I h 38 62 = nI R) (hR2 : R ≤ 100)
    (t : ∀ f c, f < F → c < C f → x1 = nI f → x2 = nI c → g_back T x3 x4 → ∀ r, (x4 = 0 → q_least (q_bk (cm_I h 83) (cm_I h 84) (cm_I h 85) (cm_I h 86) (10 * f + c) x3 R (P f c) (Tk f c)) (P f c * Tk f c) r) → (x4 ≠ 0 → q_great (q_bk (cm_I h 83) (cm_I h 84) (cm_I h 85) (cm_I h 86) (10 * f + c) x3 R (P f c) (Tk f c)) (P f c * Tk f c) r) → K r h)
    (n : (∀ f c, f < F → c < C f → x1 = nI f → x2 = nI c → ¬ g_back T x3 x4) → K (-1) h) : cm_ci sc (d + 4) 216 [.ref 38, .int x1, .int x2, .int x3, .int x4] h K := by
  have h8 := G.2.1
  refine ci_of rfl (s216_0 L x1 x2 x3 x4 (m_isAsked L G hT (fun f c hf hc e1 e2 q3 => ?_) (fun q => s216_7 x1 x2 x3 x4 0 (br_t rfl (ai (n fun f c hf hc e1 e2 g => q f c hf hc e1 e2 g.1))))))
  have nn : ¬ g_back T x3 x4 → K (-1) h := fun z => n fun _ _ _ _ _ _ => z
  refine s216_7 x1 x2 x3 x4 1 (br_f (by decide) (m_inN 0 1 (fun j _ hj e4 => ?_) (fun q => s216_17 L x1 x2 x3 x4 0 (br_t rfl (ai (nn fun g => ?_))))))
  · have h10 := (G.2.2 f hf).2.1
    obtain ⟨hp, ht, hp2, ht1, ht2⟩ := hV f c hf hc
    have tt := t f c hf hc e1 e2 ⟨q3, by subst e4; exact ⟨nI_pos' (by omega), nI_le (b := 1) (by omega) (by decide)⟩⟩
    subst e1 e2
    refine s216_17 L _ _ x3 x4 1 (br_f (by decide) ?_)
    rw [e10, hR]
    obtain rfl | rfl : j = 0 ∨ j = 1 := by omega
    · subst e4
      exact m_readBack0 L (by omega) hp ht hp2 ht1 ht2 hR2 (fun r hr => s216_37 _ _ _ _ _ (ai (tt r (fun _ => hr) (fun e => absurd rfl e))))
    · subst e4
      exact m_readBack1 L (by omega) hp ht hp2 ht1 ht2 hR2 (fun r hr => s216_37 _ _ _ _ _ (ai (tt r (fun e => absurd e (by decide)) (fun _ => hr))))
  · obtain ⟨j, h1, h2, h3⟩ := (in_nI 0 1 rfl rfl (by decide) (by decide)).mp g.2
    exact q j h1 h2 h3
/-! barred -/
def q_br (gc gf gt gd : Nat → Int32) (cell : Nat) (till : Int32) (p t : Nat) (i : Nat) : Prop := (gc i = nI cell ∧ gd i ≤ till) ∧ ∀ n, n < p * t → ¬ q_bk gc gf gt gd cell till (i + 1) p t n
theorem q_least_none {B : Nat → Prop} {N : Nat} {r : Int32} (hN : N < 2 ^ 31) (a : q_least B N r) : r = -1 ↔ ∀ n, n < N → ¬ B n := by
  rcases a with ⟨e, a⟩ | ⟨n, hn, bn, an, e⟩
  · exact ⟨fun _ => a, fun _ => e⟩
  · refine ⟨fun z => ?_, fun z => absurd bn (z n hn)⟩
    exfalso
    rw [e] at z
    have h1 := congrArg Int32.toInt z
    rw [nI_toInt (by omega), show (-1 : Int32).toInt = -1 by decide] at h1
    omega
theorem c_firstBarring {b p t cell : Nat} {till : Int32} (L : LY h) (E : CE h b) (hb : b ≠ 33) (hp : cm_I h b 4 = nI p) (ht : cm_I h b 5 = nI t) (hp2 : p ≤ 20) (ht1 : 1 ≤ t) (ht2 : t ≤ 1000) (hR : cm_I h 33 4 = nI R) (hR2 : R ≤ 100)
    (kk : ∀ r lo hi, q_least (q_br (cm_I h 34) (cm_I h 35) (cm_I h 36) (cm_I h 37) cell till p t) R r → K r (q_lh h lo hi)) : cm_ci sc (d + 3) 125 [.ref 33, .int (nI cell), .int till, .ref b] h K := by
  have hpt : p * t ≤ 20 * 1000 := Nat.mul_le_mul hp2 ht2
  refine ci_of rfl (s125_0 L _ _ b _ (cv_of rfl (s119_0 L ⟨rfl, s125_4 _ _ b _ ?_⟩)))
  have gen : ∀ (m i : Nat) (lo hi : Int32), i + m = R → q_rng h (nI cell) till i lo hi → (∀ j, j < i → ¬ q_br (cm_I h 34) (cm_I h 35) (cm_I h 36) (cm_I h 37) cell till p t j) → cm_wp sc (d + 3) 125 7 [some (.ref 33), some (.int (nI cell)), some (.int till), some (.ref b), some (.int (nI i))] [] (q_lh h lo hi) (fun v h' => ∃ x, v = some (.int x) ∧ K x h') := by
    intro m
    induction m with
    | zero =>
      intro i lo hi hi2 a an
      obtain rfl : i = R := by omega
      refine s125_7 (h := q_lh h lo hi) L _ _ b _ ⟨fun _ => ai (kk _ lo hi (Or.inl ⟨rfl, an⟩)), fun q => absurd ?_ q⟩
      show cm_I h 33 4 ≤ _
      rw [hR]; exact Int32.le_refl _
    | succ m ih =>
      intro i lo hi hi2 a an
      have next : ∀ lo hi, q_rng h (nI cell) till (i + 1) lo hi → ¬ q_br (cm_I h 34) (cm_I h 35) (cm_I h 36) (cm_I h 37) cell till p t i → cm_wp sc (d + 3) 125 39 [some (.ref 33), some (.int (nI cell)), some (.int till), some (.ref b), some (.int (nI i))] [] (q_lh h lo hi) (fun v h' => ∃ x, v = some (.int x) ∧ K x h') := by
        intro lo hi a2 z
        refine s125_39 _ _ b _ ?_
        rw [nI_1]
        refine ih (i + 1) lo hi (by omega) a2 fun j hj => ?_
        rcases Nat.lt_or_ge j i with y | y
        · exact an j y
        · obtain rfl : j = i := by omega
          exact z
      refine s125_7 (h := q_lh h lo hi) L _ _ b _ ⟨fun q => absurd q ?_, fun _ => c_narrow L (by omega) a (fun lo' hi' q1 q2 a2 => s125_24 (h := q_lh h lo' hi') L _ _ b _ 1 (br_f (by decide) (c_leastHeld L E hb hp ht hp2 ht1 ht2 a2 (fun r hr => s125_32 _ _ b _ _ ⟨fun z => next _ _ a2 (fun y => z ((q_least_none (by omega) hr).mpr y.2)), fun z => ai (kk _ _ _ (Or.inr ⟨i, by omega, ⟨⟨q1, q2⟩, (q_least_none (by omega) hr).mp (Decidable.not_not.mp z)⟩, an, rfl⟩))⟩)))) (fun q1 a2 => s125_24 (h := q_lh h lo hi) L _ _ b _ 0 (br_t rfl (next _ _ a2 (fun y => q1 y.1))))⟩
      show ¬ cm_I h 33 4 ≤ _
      rw [hR]; exact nI_ge (by omega) (by omega)
  exact gen R 0 1 10000 (by omega) q_rng0 (fun j hj => absurd hj (by omega))
theorem c_barred {x1 x2 x3 : Int32} (L : LY h) (G : FS h F fa) (GC : ∀ f, f < F → FC h (fa f) (C f) (cc f)) (hV : VPT F C P Tk (fun f c => cm_I h (cc f c) 4) (fun f c => cm_I h (cc f c) 5)) (h33 : ∀ f c, f < F → c < C f → cc f c ≠ 33) (hT : cm_I h 0 12 = nI T) (hR : cm_I h 33 4 = nI R) (hR2 : R ≤ 100)
    (t : ∀ f c, f < F → c < C f → x1 = nI f → x2 = nI c → 0 ≤ x3 ∧ x3 ≤ nI T → ∀ r lo hi, q_least (q_br (cm_I h 34) (cm_I h 35) (cm_I h 36) (cm_I h 37) (10 * f + c) x3 (P f c) (Tk f c)) R r → K r (q_lh h lo hi))
    (n : (∀ f c, f < F → c < C f → x1 = nI f → x2 = nI c → ¬ (0 ≤ x3 ∧ x3 ≤ nI T)) → K (-1) h) : cm_ci sc (d + 4) 124 [.ref 0, .int x1, .int x2, .int x3] h K := by
  refine ci_of rfl (s124_0 L x1 x2 x3 _ (c_cellAt L G GC (fun f c hf hc e1 e2 => ?_) (fun q => s124_6 L x1 x2 x3 _ none ⟨fun _ => ai (n fun f c hf hc e1 e2 => absurd e2 (q f c hf hc e1)), fun b eb => (by cases eb)⟩)))
  refine s124_6 L x1 x2 x3 _ (some (cc f c)) ⟨fun q => (by cases q), fun b eb => ?_⟩
  cases eb
  rw [hT]
  refine c_in (fun q3 => ?_) (fun q => s124_22 L x1 x2 x3 (some (cc f c)) 0 (br_f (by decide) (ai (n fun _ _ _ _ _ _ => q))))
  have tt := t f c hf hc e1 e2 q3
  obtain ⟨hp, ht, hp2, ht1, ht2⟩ := hV f c hf hc
  obtain ⟨-, E, -⟩ := (GC f hf).2.2.2 c hc
  subst e1 e2
  refine s124_22 L _ _ x3 (some (cc f c)) 1 (br_t (by decide) ⟨_, rfl, ?_⟩)
  rw [e10']
  exact c_firstBarring L E (h33 f c hf hc) hp ht hp2 ht1 ht2 hR hR2 (fun r lo hi hr => s124_43 _ _ _ (some (cc f c)) _ (ai (tt r lo hi hr)))
theorem m_barred {x1 x2 x3 : Int32} (L : LY h) (G : MF (cm_I h) F C) (hV : VPT F C P Tk (fun f c => cm_I h 43 (10 * f + c)) (fun f c => cm_I h 45 (10 * f + c))) (hT : cm_I h 38 0 = nI T) (hR : cm_I h 38 62 = nI R) (hR2 : R ≤ 100)
    (t : ∀ f c, f < F → c < C f → x1 = nI f → x2 = nI c → 0 ≤ x3 ∧ x3 ≤ nI T → ∀ r, q_least (q_br (cm_I h 83) (cm_I h 84) (cm_I h 85) (cm_I h 86) (10 * f + c) x3 (P f c) (Tk f c)) R r → K r h)
    (n : (∀ f c, f < F → c < C f → x1 = nI f → x2 = nI c → ¬ (0 ≤ x3 ∧ x3 ≤ nI T)) → K (-1) h) : cm_ci sc (d + 4) 220 [.ref 38, .int x1, .int x2, .int x3] h K := by
  have h8 := G.2.1
  refine ci_of rfl (s220_0 L x1 x2 x3 _ (m_isAsked L G hT (fun f c hf hc e1 e2 q3 => ?_) (fun q => s220_7 x1 x2 x3 _ 0 (br_f (by decide) (ai (n q))))))
  refine s220_7 x1 x2 x3 _ 1 (br_t (by decide) ?_)
  have tt := t f c hf hc e1 e2 q3
  have h10 := (G.2.2 f hf).2.1
  obtain ⟨hp, ht, hp2, ht1, ht2⟩ := hV f c hf hc
  have hpt : P f c * Tk f c ≤ 20 * 1000 := Nat.mul_le_mul hp2 ht2
  subst e1 e2
  have gen : ∀ (m i : Nat), i + m = R → (∀ j, j < i → ¬ q_br (cm_I h 83) (cm_I h 84) (cm_I h 85) (cm_I h 86) (10 * f + c) x3 (P f c) (Tk f c) j) → cm_wp sc (d + 4) 220 15 [some (.ref 38), some (.int (nI f)), some (.int (nI c)), some (.int x3), some (.int (nI i))] [] h (fun v h' => ∃ x, v = some (.int x) ∧ K x h') := by
    intro m
    induction m with
    | zero =>
      intro i hi an
      obtain rfl : i = R := by omega
      refine s220_15 L _ _ _ _ ⟨fun _ => ai (tt _ (Or.inl ⟨rfl, an⟩)), fun q => absurd ?_ q⟩
      rw [hR]; exact Int32.le_refl _
    | succ m ih =>
      intro i hi an
      have next : ¬ q_br (cm_I h 83) (cm_I h 84) (cm_I h 85) (cm_I h 86) (10 * f + c) x3 (P f c) (Tk f c) i → cm_wp sc (d + 4) 220 74 [some (.ref 38), some (.int (nI f)), some (.int (nI c)), some (.int x3), some (.int (nI i))] [] h (fun v h' => ∃ x, v = some (.int x) ∧ K x h') := by
        intro z
        refine s220_74 _ _ _ _ ?_
        rw [nI_1]
        refine ih (i + 1) (by omega) fun j hj => ?_
        rcases Nat.lt_or_ge j i with y | y
        · exact an j y
        · obtain rfl : j = i := by omega
          exact z
      refine s220_15 L _ _ _ _ ⟨fun q => absurd q ?_, fun _ => ⟨ix_nI (by omega) (by decide), ?_⟩⟩
      · rw [hR]; exact nI_ge (by omega) (by omega)
      rw [nI_clamp (by omega), e10, nI_1]
      refine ⟨fun q => next fun y => q y.1.1, fun q => ⟨fun q2 => next fun y => absurd q2 (Int32.not_lt.mpr y.1.2), fun q2 => m_readBack0 L (by omega) hp ht hp2 ht1 ht2 (by omega) (fun r hr => s220_67 _ _ _ _ _ ⟨fun z => next fun y => z ((q_least_none (by omega) hr).mpr y.2), fun z => ai (tt _ (Or.inr ⟨i, by omega, ⟨⟨Decidable.not_not.mp q, Int32.not_lt.mp q2⟩, (q_least_none (by omega) hr).mp (Decidable.not_not.mp z)⟩, an, rfl⟩))⟩)⟩⟩
  exact gen R 0 (by omega) (fun j hj => absurd hj (by omega))
end BACK2
