/-! ===== push ===== -/
theorem m1_ne {n : Nat} (h : n < 2 ^ 31) : nI n ≠ -1 := fun e => by
  have h1 := congrArg Int32.toInt e
  rw [nI_toInt h, show (-1 : Int32).toInt = -1 by decide] at h1
  omega
theorem q_res_cases {w : Int32} (hw : 0 ≤ w) : q_res w = -1 ∨ ∃ r, 1 ≤ r ∧ r ≤ 10000 ∧ q_res w = nI r := by
  obtain ⟨m, hm, rfl⟩ := nI_of (Int32.not_lt.mpr hw)
  unfold q_res
  by_cases z : nI m = 0
  · rw [if_pos z]; exact Or.inl rfl
  · rw [if_neg z]
    have m0 : 0 < m := by
      rcases Nat.eq_zero_or_pos m with y | y
      · subst y; exact absurd rfl z
      · exact y
    have d1 := Nat.div_le_self 10000 m
    have d2 := Nat.div_le_self (10000 / m) m
    rw [show (10000 : Int32) = nI 10000 from rfl, pk_div (by decide) m0 hm, pk_div (by omega) m0 hm]
    by_cases y : 1 < 10000 / m / m
    · rw [if_pos (show (1 : Int32) < nI (10000 / m / m) from nI_lt (a := 1) y (by omega))]; exact Or.inr ⟨_, by omega, by omega, rfl⟩
    · rw [if_neg (show ¬ (1 : Int32) < nI (10000 / m / m) from nI_nlt (a := 1) (b := 10000 / m / m) (by omega) (by decide))]; exact Or.inr ⟨1, by omega, by omega, rfl⟩
theorem q_sumN_cases {r : Nat → Int32} (hr : ∀ i, r i = -1 ∨ ∃ x, 1 ≤ x ∧ x ≤ 10000 ∧ r i = nI x) : ∀ (n i a : Nat), a + 10000 * n ≤ 1000000 → q_sumN r n i (nI a) = -1 ∨ ∃ b, b ≤ a + 10000 * n ∧ q_sumN r n i (nI a) = nI b
  | 0, _, a, _ => Or.inr ⟨a, by omega, rfl⟩
  | n + 1, i, a, h => by
    unfold q_sumN
    by_cases z : r i = -1
    · rw [if_pos z]; exact Or.inl rfl
    · rw [if_neg z]
      obtain ⟨x, h1, h2, e⟩ := (hr i).resolve_left z
      rw [e, nI_add]
      rcases q_sumN_cases hr n (i + 1) (a + x) (by omega) with y | ⟨b, hb, y⟩
      · exact Or.inl y
      · exact Or.inr ⟨b, by omega, y⟩
theorem c_bedv_cases {h : cmH} {n : Nat} {ca : Nat → Nat} (hn : n ≤ 10) : c_bedv h n ca = -1 ∨ ∃ b, b ≤ 100000 ∧ c_bedv h n ca = nI b := by
  rcases q_sumN_cases (r := fun c => q_res (c_wd h (ca c))) (fun i => q_res_cases q_wOf_pos) n 0 0 (by omega) with y | ⟨b, hb, y⟩
  · exact Or.inl y
  · exact Or.inr ⟨b, by omega, y⟩
theorem q_bed_cases {I : Nat → Nat → Int32} {n f : Nat} (hn : n ≤ 10) : q_bed I n f = -1 ∨ ∃ b, b ≤ 100000 ∧ q_bed I n f = nI b := by
  rcases q_sumN_cases (r := fun c => q_res (q_width I f c)) (fun i => q_res_cases q_wOf_pos) n 0 0 (by omega) with y | ⟨b, hb, y⟩
  · exact Or.inl y
  · exact Or.inr ⟨b, by omega, y⟩
/-- what a push p must reach -/
def q_mu (b k pr q p : Nat) : Nat := q * (b + k * (100 + p / pr) / 100) / 100
theorem q_mu_mono {b k pr q p p' : Nat} (h : p ≤ p') : q_mu b k pr q p ≤ q_mu b k pr q p' := by
  unfold q_mu
  have h1 : p / pr ≤ p' / pr := Nat.div_le_div_right h
  have h2 : k * (100 + p / pr) / 100 ≤ k * (100 + p' / pr) / 100 := Nat.div_le_div_right (Nat.mul_le_mul_left k (by omega))
  exact Nat.div_le_div_right (Nat.mul_le_mul_left q (by omega))
theorem q_mu_b {b k pr q p : Nat} (hb : b ≤ 100000) (hk : k < 2 ^ 31) (hq : q ≤ 1000) (hp : p ≤ 100000) : k * (100 + p / pr) < 2 ^ 48 ∧ q * (b + k * (100 + p / pr) / 100) < 2 ^ 58 := by
  have h1 : p / pr ≤ p := Nat.div_le_self _ _
  have h2 : k * (100 + p / pr) ≤ 2 ^ 31 * 100100 := Nat.mul_le_mul (by omega) (by omega)
  have h3 : k * (100 + p / pr) / 100 ≤ 2 ^ 31 * 100100 / 100 := Nat.div_le_div_right h2
  have h4 : q * (b + k * (100 + p / pr) / 100) ≤ 1000 * (100000 + 2 ^ 31 * 100100 / 100) := Nat.mul_le_mul hq (by omega)
  exact ⟨by omega, by omega⟩
theorem q_mu_J {b k pr q p : Nat} (hb : b ≤ 100000) (hk : k < 2 ^ 31) (hq : q ≤ 1000) (hp : p ≤ 100000) : (lN q * (lN b + (lN k * (100 + lN (p / pr))) / 100)) / 100 = lN (q_mu b k pr q p) := by
  obtain ⟨h1, h2⟩ := q_mu_b (pr := pr) hb hk hq hp
  rw [show (100 : Int64) = lN 100 from rfl, lN_add, lN_mul, lN_div (by omega) (by decide) (by decide), lN_add, lN_mul, lN_div (by omega) (by decide) (by decide)]
  rfl
section PUSH
variable {sc : cmS} {d : Nat} {h : cmH} {K : Int32 → cmH → Prop}
theorem c_pushWith {a n q k pr : Nat} {ca : Nat → Nat} (G : FC h a n ca) (hq : q ≤ 1000) (hpr : cm_I h a 4 = nI pr) (p1 : 1 ≤ pr) (p2 : pr ≤ 1000) (hk : cm_sum (cm_I h (a + 2)) 8 = nI k) (hk2 : k < 2 ^ 31) (z : c_bedv h n ca = -1 → K (-1) h) (y : ∀ b, b ≤ 100000 → c_bedv h n ca = nI b → ∀ r, q_least (fun p => q_mu b k pr q p ≤ p) 100001 r → K r h) : cm_ci sc (d + 4) 32 [.ref a, .int (nI q)] h K := by
  have h10 := G.2.2.1
  refine ci_of rfl (s32_0 a _ _ _ _ _ _ _ _ _ ⟨G.1, c_bed G (s32_4 a _ _ _ _ _ _ _ _ _ _ ⟨fun z1 => ⟨G.1, c_cakeInAll G.1 (s32_16 a _ _ _ _ _ _ _ _ _ _ ?_)⟩, fun z1 => ai (z (Decidable.not_not.mp z1))⟩)⟩)
  obtain ⟨b, hb, eb⟩ := (c_bedv_cases h10).resolve_left z1
  have yy := y b hb eb
  rw [eb, hk, nI_l hk2]
  have gen : ∀ (m i p : Nat) (u v : Option Value), i + m = 100001 → i ≤ p → p < 2 ^ 58 → (∀ p', p' < p → ¬ q_mu b k pr q p' ≤ p') → cm_wp sc (d + 4) 32 24 [some (.ref a), some (.int (nI q)), some (.int (nI b)), some (.long (lN k)), none, some (.long (lN p)), none, some (.int (nI i)), u, v] [] h (fun v h' => ∃ x, v = some (.int x) ∧ K x h') := by
    intro m
    induction m with
    | zero =>
      intro i p u v hi hip hp an
      refine s32_24 a _ _ _ _ _ _ _ ⟨fun _ => ai (yy _ (Or.inl ⟨rfl, fun n hn => an n (by omega)⟩)), fun w => absurd (nI_lt (a := 100000) (by omega) (by omega)) w⟩
    | succ m ih =>
      intro i p u v hi hip hp an
      refine s32_24 a _ _ _ _ _ _ _ ⟨fun w => absurd w (nI_nlt (a := 100000) (by omega) (by decide)), fun _ => ?_⟩
      rw [lg_cmp_gt, show (100000 : Int64) = lN 100000 from rfl, lN_lt' (by omega) (by omega)]
      refine ⟨fun w => ai (yy _ (Or.inl ⟨rfl, fun n hn => an n (by omega)⟩)), fun w => ⟨G.1, ?_⟩⟩
      rw [hpr, nI_l (by omega), nI_l (by omega), nI_l (by omega)]
      refine c_cut (s32_58 a _ _ _ _ _ _ _ _ _ _ _ _ ?_)
      rw [if_neg (lN_ne0 (by omega) (by omega)), lN_div (by omega) (by omega) (by omega), q_mu_J hb hk2 hq (by omega), lg_cmp_lt]
      have hm := (q_mu_b (pr := pr) hb hk2 hq (p := p) (by omega)).2
      have hmu : q_mu b k pr q p < 2 ^ 58 := Nat.lt_of_le_of_lt (Nat.div_le_self _ _) hm
      rw [lN_lt' (by omega) (by omega), nI_1]
      refine ⟨fun w2 => ih (i + 1) (q_mu b k pr q p) _ _ (by omega) (by omega) hmu fun p' hp' => ?_, fun w2 => ai ?_⟩
      · rcases Nat.lt_or_ge p' p with s | s
        · exact an p' s
        · have := q_mu_mono (b := b) (k := k) (pr := pr) (q := q) s
          omega
      · rw [lN_i]
        exact yy _ (Or.inr ⟨p, by omega, by omega, an, rfl⟩)
  exact gen 100001 0 0 _ _ (by omega) (by omega) (by omega) (fun p' hp' => absurd hp' (by omega))
theorem m_pushFor {f n q k pr : Nat} (L : LY h) (hf : f < 9) (hn : cm_I h 42 f = nI n) (hn10 : n ≤ 10) (ht : ∀ c, c < n → cm_I h 45 (10 * f + c) ≠ 0) (hq : q ≤ 1000) (hpr : cm_I h 49 f = nI pr) (p1 : 1 ≤ pr) (p2 : pr ≤ 1000) (hk : q_cake (cm_I h) f = nI k) (hk2 : k < 2 ^ 31) (z : q_bed (cm_I h) n f = -1 → K (-1) h) (y : ∀ b, b ≤ 100000 → q_bed (cm_I h) n f = nI b → ∀ r, q_least (fun p => q_mu b k pr q p ≤ p) 100001 r → K r h) : cm_ci sc (d + 4) 143 [.ref 38, .int (nI f), .int (nI q)] h K := by
  refine ci_of rfl (s143_0 L _ _ _ _ _ _ _ _ _ _ (m_bed L hf hn hn10 ht (s143_5 L _ _ _ _ _ _ _ _ _ _ _ ⟨fun z1 => m_cakeOf L hf (s143_18 _ _ _ _ _ _ _ _ _ _ _ ?_), fun z1 => ai (z (Decidable.not_not.mp z1))⟩)))
  obtain ⟨b, hb, eb⟩ := (q_bed_cases hn10).resolve_left z1
  have yy := y b hb eb
  rw [eb, hk, nI_l hk2]
  have gen : ∀ (m i : Nat) (u1 u2 u3 u4 : Option Value), 100001 - i * pr ≤ m → i * pr ≤ 101000 → (∀ p', p' < i * pr → p' ≤ 100000 → ¬ q_mu b k pr q p' ≤ p') → cm_wp sc (d + 4) 143 24 [some (.ref 38), some (.int (nI f)), some (.int (nI q)), some (.int (nI b)), some (.long (lN k)), none, some (.int (nI (i * pr))), u1, u2, u3, u4] [] h (fun v h' => ∃ x, v = some (.int x) ∧ K x h') := by
    intro m
    induction m with
    | zero =>
      intro i u1 u2 u3 u4 hi hi2 an
      refine s143_24 L _ _ _ _ _ _ _ _ _ ⟨fun _ => ai (yy _ (Or.inl ⟨rfl, fun n hn => an n (by omega) (by omega)⟩)), fun w => absurd (nI_lt (a := 100000) (by omega) (by omega)) w⟩
    | succ m ih =>
      intro i u1 u2 u3 u4 hi hi2 an
      refine s143_24 L _ _ _ _ _ _ _ _ _ ⟨fun w => ?_, fun w => ⟨ix_nI hf (by decide), ?_⟩⟩
      · have w := (nI_ltI (a := 100000) (by decide) (by omega)).mp w
        exact ai (yy _ (Or.inl ⟨rfl, fun n hn => an n (by omega) (by omega)⟩))
      have w : ¬ 100000 < i * pr := fun y => w (nI_lt (a := 100000) y (by omega))
      rw [nI_clamp (by omega), hpr]
      refine ⟨nI_ne0 (by omega) (by omega), ?_⟩
      have hdv := Nat.div_le_self (i * pr) pr
      rw [pk_div (by omega) (by omega) (by omega), nI_l (by omega), nI_l (by omega), nI_l (by omega), nI_l (by omega), q_mu_J hb hk2 hq (by omega), nI_add, nI_l (by omega)]
      have hm := (q_mu_b (pr := pr) hb hk2 hq (p := i * pr) (by omega)).2
      have hmu : q_mu b k pr q (i * pr) < 2 ^ 58 := Nat.lt_of_le_of_lt (Nat.div_le_self _ _) hm
      have blk : ∀ p', i * pr ≤ p' → p' < i * pr + pr → q_mu b k pr q p' = q_mu b k pr q (i * pr) := by
        intro p' h1 h2
        have e1 : p' / pr = i := by
          have a1 : i ≤ p' / pr := (Nat.le_div_iff_mul_le (by omega)).mpr h1
          have a2 : p' / pr < i + 1 := (Nat.div_lt_iff_lt_mul (by omega)).mpr (by rw [Nat.add_mul, Nat.one_mul]; exact h2)
          omega
        have e2 : i * pr / pr = i := Nat.mul_div_cancel _ (by omega)
        unfold q_mu
        rw [e1, e2]
      have emax : (if lN (q_mu b k pr q (i * pr)) < lN (i * pr) then lN (i * pr) else lN (q_mu b k pr q (i * pr))) = lN (max (i * pr) (q_mu b k pr q (i * pr))) := by
        by_cases y : q_mu b k pr q (i * pr) < i * pr
        · rw [if_pos ((lN_lt' (by omega) (by omega)).mpr y), Nat.max_eq_left (by omega)]
        · rw [if_neg (fun s => y ((lN_lt' (by omega) (by omega)).mp s)), Nat.max_eq_right (by omega)]
      rw [emax, lg_cmp_gt, lg_cmp_ge, show (100000 : Int64) = lN 100000 from rfl, lN_lt' (by omega) (by omega), lN_le' (by omega) (by omega)]
      have next : (∀ p', i * pr ≤ p' → p' < i * pr + pr → p' ≤ 100000 → ¬ q_mu b k pr q p' ≤ p') → ∀ w1 w2 : Option Value, ∀ y1 y2 : Int64, cm_wp sc (d + 4) 143 103 [some (.ref 38), some (.int (nI f)), some (.int (nI q)), some (.int (nI b)), some (.long (lN k)), none, some (.int (nI (i * pr))), some (.long y1), none, some (.long y2), none] [] h (fun v h' => ∃ x, v = some (.int x) ∧ K x h') := by
        intro an2 w1 w2 y1 y2
        refine s143_103 L _ _ _ _ _ _ _ ⟨ix_nI hf (by decide), ?_⟩
        rw [nI_clamp (by omega), hpr, nI_add, show i * pr + pr = (i + 1) * pr by rw [Nat.add_mul, Nat.one_mul]]
        have e1 : (i + 1) * pr = i * pr + pr := by rw [Nat.add_mul, Nat.one_mul]
        refine ih (i + 1) _ _ _ _ (by omega) (by omega) fun p' h1 h2 => ?_
        rcases Nat.lt_or_ge p' (i * pr) with s | s
        · exact an p' s h2
        · exact an2 p' s (by omega) h2
      refine ⟨fun w1 => next (fun p' h1 h2 h3 => ?_) none none _ _, fun w1 => ⟨fun w2 => next (fun p' h1 h2 h3 => ?_) none none _ _, fun w2 => ai ?_⟩⟩
      · rw [blk p' h1 h2]; omega
      · rw [blk p' h1 h2]; omega
      · rw [lN_i]
        refine yy _ (Or.inr ⟨max (i * pr) (q_mu b k pr q (i * pr)), by omega, ?_, fun p' hp' => ?_, rfl⟩)
        · have e := blk (max (i * pr) (q_mu b k pr q (i * pr))) (by omega) (by omega)
          show q_mu b k pr q (max (i * pr) (q_mu b k pr q (i * pr))) ≤ _
          omega
        · rcases Nat.lt_or_ge p' (i * pr) with s | s
          · exact an p' s (by omega)
          · have e := blk p' s (by omega)
            show ¬ q_mu b k pr q p' ≤ p'
            omega
  have := gen 100001 0 none none none none (by omega) (by omega) (fun p' hp' => absurd hp' (by omega))
  rw [Nat.zero_mul] at this
  exact this
end PUSH
