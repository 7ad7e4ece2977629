/-! ===== the class's readers ===== -/
/-- a Filter at a with n cells, the c-th at ca c -/
def FC (h : cmH) (a n : Nat) (ca : Nat → Nat) : Prop := FL h a ∧ cm_I h a 3 = nI n ∧ n ≤ 10 ∧ ∀ c, c < n → cm_R h (a + 1) c = some (ca c) ∧ CE h (ca c) ∧ 1 ≤ cm_I h (ca c) 5
/-- F filters, the f-th at fa f -/
def FS (h : cmH) (F : Nat) (fa : Nat → Nat) : Prop := cm_I h 0 10 = nI F ∧ F ≤ 8 ∧ ∀ f, f < F → cm_R h 5 f = some (fa f)
def c_wd (h : cmH) (b : Nat) : Int32 := q_wOf (cm_I h b 4) (cm_I h b 5) (cm_I h b 2)
def c_bedv (h : cmH) (n : Nat) (ca : Nat → Nat) : Int32 := q_sumN (fun c => q_res (c_wd h (ca c))) n 0 0
theorem i32_ne0 {t : Int32} (ht : 1 ≤ t) : t ≠ 0 := by
  rintro rfl
  exact absurd ht (by decide)
theorem q_wOf_pos {p t n : Int32} : 0 ≤ q_wOf p t n := by
  unfold q_wOf
  split
  · rename_i q
    rw [Int32.le_iff_toInt_le]
    have := Int32.lt_iff_toInt_lt.mp q
    omega
  · decide
section CREAD
variable {sc : cmS} {d : Nat} {h : cmH} {K : Int32 → cmH → Prop} {KJ : Int64 → cmH → Prop} {KQ : Option Nat → cmH → Prop} {a n : Nat} {ca : Nat → Nat}
theorem c_width {b : Nat} (E : CE h b) (ht : 1 ≤ cm_I h b 5) (k : K (c_wd h b) h) : cm_ci sc d 24 [.ref b] h K := by
  refine ci_of rfl (s24_0 b _ ⟨E, fun _ => ⟨i32_ne0 ht, s24_26 b _ _ ⟨fun q => ai ?_, fun q => ai ?_⟩⟩, fun q => absurd ht q⟩)
  · unfold c_wd q_wOf at k
    split at k
    · exact k
    · rename_i z
      have : cm_I h b 4 - cm_I h b 2 / cm_I h b 5 = 0 := by
        apply Int32.toInt_inj.mp
        have h1 := Int32.le_iff_toInt_le.mp q
        have h2 := mt Int32.lt_iff_toInt_lt.mpr z
        rw [i32_0] at *
        omega
      rw [this]; exact k
  · unfold c_wd q_wOf at k
    rw [if_neg] at k
    · exact k
    · intro y
      apply q
      rw [Int32.le_iff_toInt_le]
      have := Int32.lt_iff_toInt_lt.mp y
      omega
theorem c_resistOf {w : Int32} (hw : 0 ≤ w) (k : K (q_res w) h) : cm_ci sc d 26 [.int w] h K := by
  refine ci_of rfl (s26_0 w _ ⟨fun q => ⟨i32_ne0 q, fun q2 => ai ?_, fun q2 => ai ?_⟩, fun q => ai ?_⟩)
  · unfold q_res at k
    rw [if_neg (i32_ne0 q)] at k
    split at k
    · exact k
    · rename_i z
      have : (10000 : Int32) / w / w = 1 := by
        apply Int32.toInt_inj.mp
        have h1 := Int32.le_iff_toInt_le.mp q2
        have h2 := mt Int32.lt_iff_toInt_lt.mpr z
        rw [i32_1] at *
        omega
      rw [this]; exact k
  · unfold q_res at k
    rw [if_neg (i32_ne0 q), if_neg] at k
    · exact k
    · intro y
      apply q2
      rw [Int32.le_iff_toInt_le]
      have := Int32.lt_iff_toInt_lt.mp y
      omega
  · unfold q_res at k
    rw [if_pos] at k
    · exact k
    · apply Int32.toInt_inj.mp
      have h1 := Int32.le_iff_toInt_le.mp hw
      have h2 := mt Int32.le_iff_toInt_le.mpr q
      rw [i32_1] at h2
      rw [i32_0] at *
      omega
theorem c_resistance {b : Nat} (E : CE h b) (ht : 1 ≤ cm_I h b 5) (k : K (q_res (c_wd h b)) h) : cm_ci sc (d + 1) 25 [.ref b] h K :=
  ci_of rfl (s25_0 b ⟨E, c_width E ht (s25_4 b _ (c_resistOf q_wOf_pos (s25_7 b _ (ai k))))⟩)
theorem c_cellNumber {x : Int32} (G : FC h a n ca) (t : ∀ c, c < n → x = nI c → KQ (some (ca c)) h) (f : (∀ c, c < n → x ≠ nI c) → KQ none h) : cm_cq sc (d + 1) 23 [.ref a, .int x] h KQ := by
  obtain ⟨F, hn, h10, hc⟩ := G
  refine cq_of rfl (s23_0 a x ⟨F, c_inL n hn (by omega) (fun j hj e => ?_) (fun q => s23_11 a x 0 (br_t rfl (aq (f q))))⟩)
  subst e
  refine s23_11 a _ 1 (br_f (by decide) ⟨F, fun q => absurd q (nI_ge (b := 10) (by omega) (by decide)), fun _ => ⟨ix_nI (by omega) (by decide), ?_⟩⟩)
  rw [nI_clamp (by omega), (hc j hj).1]
  exact aq (t j hj rfl)
theorem c_filterAt {x : Int32} {F : Nat} {fa : Nat → Nat} (L : LY h) (G : FS h F fa) (t : ∀ f, f < F → x = nI f → KQ (some (fa f)) h) (f : (∀ f, f < F → x ≠ nI f) → KQ none h) : cm_cq sc (d + 1) 17 [.ref 0, .int x] h KQ := by
  obtain ⟨hn, h8, hc⟩ := G
  refine cq_of rfl (s17_0 L x (c_inL F hn (by omega) (fun j hj e => ?_) (fun q => s17_11 L x 0 (br_t rfl (aq (f q))))))
  subst e
  refine s17_11 L _ 1 (br_f (by decide) ⟨fun q => absurd q (nI_ge (b := 8) (by omega) (by decide)), fun _ => ⟨ix_nI (by omega) (by decide), ?_⟩⟩)
  rw [nI_clamp (by omega), hc j hj]
  exact aq (t j hj rfl)
theorem c_cakeInAll (F : FL h a) (k : K (cm_sum (cm_I h (a + 2)) 8) h) : cm_ci sc d 29 [.ref a] h K := by
  refine ci_of rfl (s29_0 _ _ _ ?_)
  refine up_ind (P := fun i => cm_wp sc d 29 4 [some (.ref a), some (.int (cm_sum (cm_I h (a + 2)) i)), some (.int (nI i))] [] h _) (n := 8) ?_ ?_ 0 (by omega)
  · exact s29_4 a _ _ ⟨fun _ => ai k, fun q => absurd (Int32.le_refl _) q⟩
  · intro i hi ih
    refine s29_4 a _ _ ⟨fun q => absurd q (nI_ge (b := 8) hi (by decide)), fun _ => ⟨F, ix_nI (by omega) (by decide), ?_⟩⟩
    rw [nI_clamp (by omega), nI_1]; exact ih
theorem c_loadInAll (F : FL h a) (k : K (cm_sum (cm_I h (a + 3)) 8) h) : cm_ci sc d 84 [.ref a] h K := by
  refine ci_of rfl (s84_0 _ _ _ ?_)
  refine up_ind (P := fun i => cm_wp sc d 84 4 [some (.ref a), some (.int (cm_sum (cm_I h (a + 3)) i)), some (.int (nI i))] [] h _) (n := 8) ?_ ?_ 0 (by omega)
  · exact s84_4 a _ _ ⟨fun _ => ai k, fun q => absurd (Int32.le_refl _) q⟩
  · intro i hi ih
    refine s84_4 a _ _ ⟨fun q => absurd q (nI_ge (b := 8) hi (by decide)), fun _ => ⟨F, ix_nI (by omega) (by decide), ?_⟩⟩
    rw [nI_clamp (by omega), nI_1]; exact ih
theorem c_bed (G : FC h a n ca) (k : K (c_bedv h n ca) h) : cm_ci sc (d + 3) 30 [.ref a] h K := by
  refine ci_of rfl (s30_0 _ _ _ _ _ ?_)
  have gen : ∀ (m i : Nat) (x : Int32) (u v : Option Value), i + m = n → K (q_sumN (fun c => q_res (c_wd h (ca c))) m i x) h → cm_wp sc (d + 3) 30 4 [some (.ref a), some (.int x), some (.int (nI i)), u, v] [] h (fun v h' => ∃ x, v = some (.int x) ∧ K x h') := by
    intro m
    induction m with
    | zero =>
      intro i x u v hi kk
      refine s30_4 a _ _ _ _ ⟨G.1, fun _ => ai kk, fun q => absurd ?_ q⟩
      rw [G.2.1]; exact nI_le (by omega) (by have := G.2.2.1; omega)
    | succ m ih =>
      intro i x u v hi kk
      have h10 := G.2.2.1
      refine s30_4 a _ _ _ _ ⟨G.1, fun q => absurd q ?_, fun _ => c_cellNumber G (fun c hc e => ?_) (fun q => absurd rfl (q i (by omega)))⟩
      · rw [G.2.1]; exact nI_ge (by omega) (by omega)
      have : c = i := by
        have := (nI_eq (a := i) (b := c) (by omega) (by omega)).mp e
        omega
      subst this
      obtain ⟨-, E, ht⟩ := G.2.2.2 c hc
      refine s30_17 a _ _ _ _ (some (ca c)) ⟨fun q => (by cases q), fun b eb => ?_⟩
      cases eb
      refine ⟨E, c_resistance E ht (s30_30 a _ _ (some (ca c)) _ _ ⟨fun q => ?_, fun q => ai ?_⟩)⟩
      · unfold q_sumN at kk
        rw [if_neg q] at kk
        rw [nI_1]
        exact ih (c + 1) _ _ _ (by omega) kk
      · unfold q_sumN at kk
        rw [if_pos (Decidable.not_not.mp q)] at kk
        exact kk
  exact gen n 0 0 _ _ (by omega) k
theorem c_cut {x y : Int64} (k : KJ (if y = 0 then 0 else x / y) h) : cm_cj' sc d 33 [.long x, .long y] h KJ := by
  refine cj_of rfl (s33_0 x y ⟨fun q => ?_, fun q => aj ?_⟩)
  · have hy : y ≠ 0 := by rintro rfl; exact q (by decide)
    rw [if_neg hy] at k
    exact ⟨hy, aj k⟩
  · have hy : y = 0 := by
      have q := Decidable.not_not.mp q
      unfold lg_cmp at q
      split at q
      · cases q
      · split at q
        · assumption
        · cases q
    rw [if_pos hy] at k
    exact k
theorem c_cellAt {x y : Int32} {F : Nat} {fa : Nat → Nat} {C : Nat → Nat} {cc : Nat → Nat → Nat} (L : LY h) (G : FS h F fa) (GC : ∀ f, f < F → FC h (fa f) (C f) (cc f)) (t : ∀ f c, f < F → c < C f → x = nI f → y = nI c → KQ (some (cc f c)) h) (f : (∀ f c, f < F → c < C f → x = nI f → y ≠ nI c) → KQ none h) : cm_cq sc (d + 2) 22 [.ref 0, .int x, .int y] h KQ := by
  refine cq_of rfl (s22_0 L x y _ (c_filterAt L G (fun g hg e => ?_) (fun q => ?_)))
  · refine s22_5 x y _ (some (fa g)) ⟨fun q => (by cases q), fun b eb => ?_⟩
    cases eb
    refine ⟨(GC g hg).1, c_cellNumber (GC g hg) (fun c hc e2 => s22_19 x y (some (fa g)) _ (aq (t g c hg hc e e2))) (fun q => s22_19 x y (some (fa g)) _ (aq (f ?_)))⟩
    intro f2 c hf2 hc e2
    have : f2 = g := by
      have := G.2.1
      have := (nI_eq (a := g) (b := f2) (by omega) (by omega)).mp (e.symm.trans e2)
      omega
    subst this
    exact q c hc
  · exact s22_5 x y _ none ⟨fun _ => s22_19 x y none none (aq (f fun f c hf hc e => absurd e (q f hf))), fun b eb => (by cases eb)⟩
theorem c_heldOfSize {s : Nat} (G : FC h a n ca) (hs : s < 8) (k : K (cm_I h (a + 2) s + cm_sum (fun c => cm_I h (ca c + 1) s) n) h) : cm_ci sc (d + 2) 67 [.ref a, .int (nI s)] h K := by
  have h10 := G.2.2.1
  refine ci_of rfl (s67_0 _ _ _ _ _ (c_isSize (fun j hj e => ?_) (fun q => absurd rfl (q s hs))))
  refine s67_4 _ _ _ _ _ _ (br_f (by decide) ⟨G.1, ix_nI hs (by decide), ?_⟩)
  rw [nI_clamp (by omega)]
  refine s67_17 _ _ _ _ _ _ ?_
  have gen : ∀ (m i : Nat) (u : Option Value), i + m = n → cm_wp sc (d + 2) 67 20 [some (.ref a), some (.int (nI s)), some (.int (cm_I h (a + 2) s + cm_sum (fun c => cm_I h (ca c + 1) s) i)), some (.int (nI i)), u] [] h (fun v h' => ∃ x, v = some (.int x) ∧ K x h') := by
    intro m
    induction m with
    | zero =>
      intro i u hi
      refine s67_20 a _ _ _ _ ⟨G.1, fun _ => ai ?_, fun q => absurd ?_ q⟩
      · rw [show i = n by omega]; exact k
      · rw [G.2.1]; exact nI_le (by omega) (by omega)
    | succ m ih =>
      intro i u hi
      refine s67_20 a _ _ _ _ ⟨G.1, fun q => absurd q ?_, fun _ => c_cellNumber G (fun c hc e => ?_) (fun q => absurd rfl (q i (by omega)))⟩
      · rw [G.2.1]; exact nI_ge (by omega) (by omega)
      have : c = i := by
        have := (nI_eq (a := i) (b := c) (by omega) (by omega)).mp e
        omega
      subst this
      refine s67_33 a _ _ _ _ (some (ca c)) ⟨fun q => (by cases q), fun b eb => ?_⟩
      cases eb
      refine c_isSize (fun j hj e => ?_) (fun q => absurd rfl (q s hs))
      refine s67_44 a _ _ _ (some (ca c)) _ (br_f (by decide) ⟨ca c, rfl, (G.2.2.2 c hc).2.1, ix_nI hs (by decide), ?_⟩)
      refine s67_57 a _ _ _ (some (ca c)) ?_
      rw [nI_clamp (by omega), nI_1, Int32.add_assoc]
      exact ih (c + 1) _ (by omega)
  have := gen n 0 none (by omega)
  rw [show cm_sum (fun c => cm_I h (ca c + 1) s) 0 = 0 from rfl, Int32.add_zero] at this
  exact this
theorem c_weightNow (G : FC h a n ca) (k : KJ (if c_bedv h n ca = -1 then 0 else if (if 1 < c_bedv h n ca + cm_sum (cm_I h (a + 2)) 8 then c_bedv h n ca + cm_sum (cm_I h (a + 2)) 8 else 1).toInt64 = 0 then 0 else 1000000 / (if 1 < c_bedv h n ca + cm_sum (cm_I h (a + 2)) 8 then c_bedv h n ca + cm_sum (cm_I h (a + 2)) 8 else 1).toInt64) h) : cm_cj' sc (d + 4) 76 [.ref a] h KJ := by
  refine cj_of rfl (s76_0 a _ ⟨G.1, c_bed G (s76_4 a _ _ ⟨fun q => ⟨G.1, c_cakeInAll G.1 (s76_23 a _ _ _ _ _ (c_cut (s76_31 a _ _ (aj ?_))))⟩, fun q => s76_31 a _ _ (aj ?_)⟩)⟩)
  · rw [if_neg q] at k; exact k
  · rw [if_pos (Decidable.not_not.mp q)] at k; exact k
end CREAD
