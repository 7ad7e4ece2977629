/-! ===== back, barred: the least and the greatest number with which all readings agree ===== -/
def q_least (B : Nat → Prop) (N : Nat) (r : Int32) : Prop := (r = -1 ∧ ∀ n, n < N → ¬ B n) ∨ ∃ n, n < N ∧ B n ∧ (∀ m, m < n → ¬ B m) ∧ r = nI n
def q_great (B : Nat → Prop) (N : Nat) (r : Int32) : Prop := (r = -1 ∧ ∀ n, n < N → ¬ B n) ∨ ∃ n, n < N ∧ B n ∧ (∀ m, n < m → m < N → ¬ B m) ∧ r = nI n
theorem q_least_uniq {B B' : Nat → Prop} {N : Nat} {r r' : Int32} (hB : ∀ n, n < N → (B n ↔ B' n)) (h1 : q_least B N r) (h2 : q_least B' N r') : r = r' := by
  rcases h1 with ⟨rfl, a⟩ | ⟨n, hn, bn, an, rfl⟩ <;> rcases h2 with ⟨rfl, a'⟩ | ⟨n', hn', bn', an', rfl⟩
  · rfl
  · exact absurd ((hB n' hn').mpr bn') (a n' hn')
  · exact absurd ((hB n hn).mp bn) (a' n hn)
  · rcases Nat.lt_trichotomy n n' with z | z | z
    · exact absurd ((hB n hn).mp bn) (an' n z)
    · rw [z]
    · exact absurd ((hB n' hn').mpr bn') (an n' z)
theorem q_great_uniq {B B' : Nat → Prop} {N : Nat} {r r' : Int32} (hB : ∀ n, n < N → (B n ↔ B' n)) (h1 : q_great B N r) (h2 : q_great B' N r') : r = r' := by
  rcases h1 with ⟨rfl, a⟩ | ⟨n, hn, bn, an, rfl⟩ <;> rcases h2 with ⟨rfl, a'⟩ | ⟨n', hn', bn', an', rfl⟩
  · rfl
  · exact absurd ((hB n' hn').mpr bn') (a n' hn')
  · exact absurd ((hB n hn).mp bn) (a' n hn)
  · rcases Nat.lt_trichotomy n n' with z | z | z
    · exact absurd ((hB n' hn').mpr bn') (an n' z hn')
    · rw [z]
    · exact absurd ((hB n hn).mp bn) (an' n z hn)
/-- y lies within all readings of that cell up to the k-th -/
def q_ok (gc gf gt gd : Nat → Int32) (cell till : Int32) (k : Nat) (y : Int32) : Prop := ∀ g, g < k → gc g = cell → gd g ≤ till → gf g ≤ y ∧ y ≤ gt g
theorem q_ok_succ {gc gf gt gd : Nat → Int32} {cell till : Int32} {k : Nat} {y : Int32} : q_ok gc gf gt gd cell till (k + 1) y ↔ q_ok gc gf gt gd cell till k y ∧ (gc k = cell → gd k ≤ till → gf k ≤ y ∧ y ≤ gt k) := by
  constructor
  · exact fun q => ⟨fun g hg => q g (by omega), q k (by omega)⟩
  · rintro ⟨q1, q2⟩ g hg
    rcases Nat.lt_or_ge g k with z | z
    · exact q1 g z
    · obtain rfl : g = k := by omega
      exact q2
theorem q_wN {p t n : Nat} (hp : p ≤ 20) (ht : 1 ≤ t) (ht2 : t ≤ 1000) (hn : n < p * t) : q_wOf (nI p) (nI t) (nI n) = nI (p - n / t) ∧ 1 ≤ p - n / t ∧ n / t < p := by
  have hpt : p * t ≤ 20 * 1000 := Nat.mul_le_mul hp ht2
  have hd : n / t < p := (Nat.div_lt_iff_lt_mul (by omega)).mpr hn
  refine ⟨?_, by omega, hd⟩
  unfold q_wOf
  rw [pk_div (by omega) (by omega) (by omega), pk_sub (by omega), if_pos]
  rw [show (0 : Int32) = nI 0 from rfl]
  have := Nat.sub_le p (n / t)
  exact nI_lt (by omega) (by omega)
theorem q_resN {w : Nat} (hw : 1 ≤ w) (hw2 : w ≤ 20) : 1 ≤ q_res (nI w) ∧ q_res (nI w) ≤ 10000 := by
  have : ∀ w : Fin 21, 1 ≤ w.val → 1 ≤ q_res (nI w.val) ∧ q_res (nI w.val) ≤ 10000 := by decide +kernel
  exact this ⟨w, by omega⟩ hw
section BACK
variable {sc : cmS} {d : Nat} {h : cmH} {K : Int32 → cmH → Prop} {KV : cmH → Prop} {F : Nat} {C : Nat → Nat} {fa : Nat → Nat} {cc : Nat → Nat → Nat}
/-! the reference -/
theorem m_agrees {cell p t n k : Nat} {till : Int32} (L : LY h) (hc : cell < 90) (hp : cm_I h 43 cell = nI p) (ht : cm_I h 45 cell = nI t) (hp2 : p ≤ 20) (ht1 : 1 ≤ t) (ht2 : t ≤ 1000) (hn : n < p * t) (hk : k ≤ 100)
    (y : q_ok (cm_I h 83) (cm_I h 84) (cm_I h 85) (cm_I h 86) (nI cell) till k (q_res (nI (p - n / t))) → K 1 h) (z : ¬ q_ok (cm_I h 83) (cm_I h 84) (cm_I h 85) (cm_I h 86) (nI cell) till k (q_res (nI (p - n / t))) → K 0 h) : cm_ci sc (d + 2) 219 [.ref 38, .int (nI cell), .int (nI n), .int till, .int (nI k)] h K := by
  obtain ⟨ew, -, -⟩ := q_wN hp2 ht1 ht2 hn
  refine ci_of rfl (s219_0 L _ _ _ _ _ _ ⟨ix_nI hc (by decide), ?_⟩)
  rw [nI_clamp (by omega), hp, ht]
  refine m_widthOf (nI_ne0 (by omega) (by omega)) (s219_16 _ _ _ _ _ _ _ ?_)
  rw [ew]
  refine m_resistOf (s219_19 _ _ _ _ _ _ _ ?_)
  have gen : ∀ (m i : Nat), i + m = k → q_ok (cm_I h 83) (cm_I h 84) (cm_I h 85) (cm_I h 86) (nI cell) till i (q_res (nI (p - n / t))) → cm_wp sc (d + 2) 219 24 [some (.ref 38), some (.int (nI cell)), some (.int (nI n)), some (.int till), some (.int (nI k)), some (.int (q_res (nI (p - n / t)))), some (.int (nI i))] [] h (fun v h' => ∃ x, v = some (.int x) ∧ K x h') := by
    intro m
    induction m with
    | zero =>
      intro i hi a
      obtain rfl : i = k := by omega
      exact s219_24 L _ _ _ _ _ _ ⟨fun _ => ai (y a), fun q => absurd (Int32.le_refl _) q⟩
    | succ m ih =>
      intro i hi a
      have go : q_ok (cm_I h 83) (cm_I h 84) (cm_I h 85) (cm_I h 86) (nI cell) till (i + 1) (q_res (nI (p - n / t))) → cm_wp sc (d + 2) 219 77 [some (.ref 38), some (.int (nI cell)), some (.int (nI n)), some (.int till), some (.int (nI k)), some (.int (q_res (nI (p - n / t)))), some (.int (nI i))] [] h (fun v h' => ∃ x, v = some (.int x) ∧ K x h') := by
        intro a2
        refine s219_77 _ _ _ _ _ _ ?_
        rw [nI_1]; exact ih (i + 1) (by omega) a2
      refine s219_24 L _ _ _ _ _ _ ⟨fun q => absurd q (nI_ge (by omega) (by omega)), fun _ => ⟨ix_nI (by omega) (by decide), ?_⟩⟩
      rw [nI_clamp (by omega)]
      refine ⟨fun q => go (q_ok_succ.mpr ⟨a, fun q2 => absurd q2 q⟩), fun q => ⟨fun q2 => go (q_ok_succ.mpr ⟨a, fun _ q3 => absurd q2 (Int32.not_lt.mpr q3)⟩), fun q2 => m_in (fun q3 => s219_72 _ _ _ _ _ _ 1 (br_t (by decide) (go (q_ok_succ.mpr ⟨a, fun _ _ => q3⟩)))) (fun q3 => s219_72 _ _ _ _ _ _ 0 (br_f (by decide) (ai (z fun a2 => q3 (a2 i (by omega) (Decidable.not_not.mp q) (Int32.not_lt.mp q2))))))⟩⟩
  exact gen k 0 (by omega) (fun g hg => absurd hg (by omega))
theorem m_readBack0 {cell p t k : Nat} {till : Int32} (L : LY h) (hc : cell < 90) (hp : cm_I h 43 cell = nI p) (ht : cm_I h 45 cell = nI t) (hp2 : p ≤ 20) (ht1 : 1 ≤ t) (ht2 : t ≤ 1000) (hk : k ≤ 100)
    (kk : ∀ r, q_least (fun n => q_ok (cm_I h 83) (cm_I h 84) (cm_I h 85) (cm_I h 86) (nI cell) till k (q_res (nI (p - n / t)))) (p * t) r → K r h) : cm_ci sc (d + 3) 218 [.ref 38, .int (nI cell), .int till, .int (nI k), .int 0] h K := by
  have hpt : p * t ≤ 20 * 1000 := Nat.mul_le_mul hp2 ht2
  refine ci_of rfl (s218_0 _ _ _ _ _ _ ?_)
  have gen : ∀ (m i : Nat) (r : Int32), i + m = p * t → q_least (fun n => q_ok (cm_I h 83) (cm_I h 84) (cm_I h 85) (cm_I h 86) (nI cell) till k (q_res (nI (p - n / t)))) i r → cm_wp sc (d + 3) 218 6 [some (.ref 38), some (.int (nI cell)), some (.int till), some (.int (nI k)), some (.int 0), some (.int r), some (.int (nI i))] [] h (fun v h' => ∃ x, v = some (.int x) ∧ K x h') := by
    intro m
    induction m with
    | zero =>
      intro i r hi a
      obtain rfl : i = p * t := by omega
      refine s218_6 L _ _ _ _ _ _ ⟨ix_nI hc (by decide), fun _ => ai (kk r a), fun q => absurd ?_ q⟩
      rw [nI_clamp (by omega), hp, ht, pk_mul]; exact Int32.le_refl _
    | succ m ih =>
      intro i r hi a
      refine s218_6 L _ _ _ _ _ _ ⟨ix_nI hc (by decide), fun q => absurd q ?_, fun _ => ⟨fun q => (by cases q), fun _ => ⟨fun q => s218_52 _ _ _ _ _ _ ?_, fun q => s218_36 L _ _ _ _ _ _ ?_⟩⟩⟩
      · rw [nI_clamp (by omega), hp, ht, pk_mul]; exact nI_ge (by omega) (by omega)
      · rw [nI_1]
        refine ih (i + 1) r (by omega) ?_
        rcases a with ⟨e, -⟩ | ⟨n, hn, bn, an, e⟩
        · exact absurd e q
        · exact Or.inr ⟨n, by omega, bn, an, e⟩
      · have q := Decidable.not_not.mp q
        have none : ∀ n, n < i → ¬ q_ok (cm_I h 83) (cm_I h 84) (cm_I h 85) (cm_I h 86) (nI cell) till k (q_res (nI (p - n / t))) := by
          rcases a with ⟨-, a⟩ | ⟨n, hn, bn, an, e⟩
          · exact a
          · exfalso
            rw [q] at e
            have h1 := congrArg Int32.toInt e
            rw [nI_toInt (by omega), show (-1 : Int32).toInt = -1 by decide] at h1
            omega
        refine m_agrees L hc hp ht hp2 ht1 ht2 (by omega) hk (fun b => s218_45 _ _ _ _ _ _ 1 (br_f (by decide) (s218_52 _ _ _ _ _ _ ?_))) (fun b => s218_45 _ _ _ _ _ _ 0 (br_t rfl (s218_52 _ _ _ _ _ _ ?_)))
        · rw [nI_1]; exact ih (i + 1) _ (by omega) (Or.inr ⟨i, by omega, b, none, rfl⟩)
        · rw [nI_1]
          refine ih (i + 1) _ (by omega) (Or.inl ⟨q, fun n hn => ?_⟩)
          rcases Nat.lt_or_ge n i with z | z
          · exact none n z
          · obtain rfl : n = i := by omega
            exact b
  exact gen (p * t) 0 (-1) (by omega) (Or.inl ⟨rfl, fun n hn => absurd hn (by omega)⟩)
theorem m_readBack1 {cell p t k : Nat} {till : Int32} (L : LY h) (hc : cell < 90) (hp : cm_I h 43 cell = nI p) (ht : cm_I h 45 cell = nI t) (hp2 : p ≤ 20) (ht1 : 1 ≤ t) (ht2 : t ≤ 1000) (hk : k ≤ 100)
    (kk : ∀ r, q_great (fun n => q_ok (cm_I h 83) (cm_I h 84) (cm_I h 85) (cm_I h 86) (nI cell) till k (q_res (nI (p - n / t)))) (p * t) r → K r h) : cm_ci sc (d + 3) 218 [.ref 38, .int (nI cell), .int till, .int (nI k), .int 1] h K := by
  have hpt : p * t ≤ 20 * 1000 := Nat.mul_le_mul hp2 ht2
  refine ci_of rfl (s218_0 _ _ _ _ _ _ ?_)
  have gen : ∀ (m i : Nat) (r : Int32), i + m = p * t → q_great (fun n => q_ok (cm_I h 83) (cm_I h 84) (cm_I h 85) (cm_I h 86) (nI cell) till k (q_res (nI (p - n / t)))) i r → cm_wp sc (d + 3) 218 6 [some (.ref 38), some (.int (nI cell)), some (.int till), some (.int (nI k)), some (.int 1), some (.int r), some (.int (nI i))] [] h (fun v h' => ∃ x, v = some (.int x) ∧ K x h') := by
    intro m
    induction m with
    | zero =>
      intro i r hi a
      obtain rfl : i = p * t := by omega
      refine s218_6 L _ _ _ _ _ _ ⟨ix_nI hc (by decide), fun _ => ai (kk r a), fun q => absurd ?_ q⟩
      rw [nI_clamp (by omega), hp, ht, pk_mul]; exact Int32.le_refl _
    | succ m ih =>
      intro i r hi a
      refine s218_6 L _ _ _ _ _ _ ⟨ix_nI hc (by decide), fun q => absurd q ?_, fun _ => ⟨fun _ => s218_36 L _ _ _ _ _ _ ?_, fun q => absurd rfl q⟩⟩
      · rw [nI_clamp (by omega), hp, ht, pk_mul]; exact nI_ge (by omega) (by omega)
      refine m_agrees L hc hp ht hp2 ht1 ht2 (by omega) hk (fun b => s218_45 _ _ _ _ _ _ 1 (br_f (by decide) (s218_52 _ _ _ _ _ _ ?_))) (fun b => s218_45 _ _ _ _ _ _ 0 (br_t rfl (s218_52 _ _ _ _ _ _ ?_)))
      · rw [nI_1]; exact ih (i + 1) _ (by omega) (Or.inr ⟨i, by omega, b, fun m h1 h2 => absurd h1 (by omega), rfl⟩)
      · rw [nI_1]
        refine ih (i + 1) _ (by omega) ?_
        have step : ∀ n, n < i + 1 → (n < i → ¬ q_ok (cm_I h 83) (cm_I h 84) (cm_I h 85) (cm_I h 86) (nI cell) till k (q_res (nI (p - n / t)))) → ¬ q_ok (cm_I h 83) (cm_I h 84) (cm_I h 85) (cm_I h 86) (nI cell) till k (q_res (nI (p - n / t))) := by
          intro n hn q
          rcases Nat.lt_or_ge n i with z | z
          · exact q z
          · obtain rfl : n = i := by omega
            exact b
        rcases a with ⟨e, a⟩ | ⟨n, hn, bn, an, e⟩
        · exact Or.inl ⟨e, fun n hn => step n hn (a n)⟩
        · exact Or.inr ⟨n, by omega, bn, fun m h1 h2 => step m h2 (an m h1), e⟩
  exact gen (p * t) 0 (-1) (by omega) (Or.inl ⟨rfl, fun n hn => absurd hn (by omega)⟩)
/-! the class -/
theorem u2_4 {α : Type} {f : Nat → Nat → α} {a i j : Nat} {v w x y : α} (q : i ≠ j) : cm_u2 (cm_u2 (cm_u2 (cm_u2 f a i v) a j w) a i x) a j y = cm_u2 (cm_u2 f a i x) a j y := by
  funext b k
  unfold cm_u2
  by_cases h1 : b = a <;> by_cases h2 : k = i <;> by_cases h3 : k = j <;> simp [h1, h2, h3]
theorem set4 {a i j : Nat} {v w x y : Int32} (q : i ≠ j) : cm_setI (cm_setI (cm_setI (cm_setI h a i v) a j w) a i x) a j y = cm_setI (cm_setI h a i x) a j y := by
  exact congrArg (fun I => ((h.1, h.2.1, h.2.2.1, I, h.2.2.2.2.1, h.2.2.2.2.2) : cmH)) (u2_4 q)
/-- low and high -/
abbrev q_lh (h : cmH) (lo hi : Int32) : cmH := cm_setI (cm_setI h 33 5 lo) 33 6 hi
def q_rng (h : cmH) (cell till : Int32) (k : Nat) (lo hi : Int32) : Prop := ∀ y, (lo ≤ y ∧ y ≤ hi) ↔ (1 ≤ y ∧ y ≤ 10000) ∧ q_ok (cm_I h 34) (cm_I h 35) (cm_I h 36) (cm_I h 37) cell till k y
theorem q_rng0 {cell till : Int32} : q_rng h cell till 0 1 10000 := fun y => ⟨fun q => ⟨q, fun g hg => absurd hg (by omega)⟩, fun q => q.1⟩
theorem max_le {a b y : Int32} : (if a < b then b else a) ≤ y ↔ a ≤ y ∧ b ≤ y := by
  split <;> rename_i q
  · exact ⟨fun z => ⟨Int32.le_trans (Int32.le_of_lt q) z, z⟩, fun z => z.2⟩
  · exact ⟨fun z => ⟨z, Int32.le_trans (Int32.not_lt.mp q) z⟩, fun z => z.1⟩
theorem le_min {a b y : Int32} : y ≤ (if b < a then b else a) ↔ y ≤ a ∧ y ≤ b := by
  split <;> rename_i q
  · exact ⟨fun z => ⟨Int32.le_trans z (Int32.le_of_lt q), z⟩, fun z => z.2⟩
  · exact ⟨fun z => ⟨z, Int32.le_trans z (Int32.not_lt.mp q)⟩, fun z => z.1⟩
theorem c_narrow {cell till lo hi : Int32} {i : Nat} (L : LY h) (hi1 : i < 100) (hr : q_rng h cell till i lo hi) (y : ∀ lo' hi', cm_I h 34 i = cell → cm_I h 37 i ≤ till → q_rng h cell till (i + 1) lo' hi' → K 1 (q_lh h lo' hi')) (n : ¬ (cm_I h 34 i = cell ∧ cm_I h 37 i ≤ till) → q_rng h cell till (i + 1) lo hi → K 0 (q_lh h lo hi)) : cm_ci sc (d + 1) 120 [.ref 33, .int (nI i), .int cell, .int till] (q_lh h lo hi) K := by
  refine ci_of rfl (s120_0 _ _ _ (c_inN 0 99 (fun j _ hj e => ?_) (fun q => absurd rfl (q i (by omega) (by omega)))))
  refine s120_7 (h := q_lh h lo hi) L _ _ _ 1 (br_f (by decide) ⟨ix_nI (by omega) (by decide), ?_⟩)
  rw [nI_clamp (by omega)]
  refine ⟨fun q => ai (n (fun z => q z.1) ?_), fun q => ⟨fun q2 => ai ?_, fun q2 => ai (n (fun z => q2 z.2) ?_)⟩⟩
  · intro y; rw [hr y, q_ok_succ]
    exact ⟨fun z => ⟨z.1, z.2, fun e => absurd e q⟩, fun z => ⟨z.1, z.2.1⟩⟩
  · rw [set4 (by decide)]
    refine y _ _ (Decidable.not_not.mp q) q2 ?_
    intro y
    rw [q_ok_succ]
    show ((if lo < cm_I h 35 i then cm_I h 35 i else lo) ≤ y ∧ y ≤ (if cm_I h 36 i < hi then cm_I h 36 i else hi)) ↔ _
    rw [max_le, le_min]
    have := hr y
    constructor
    · rintro ⟨⟨a, b⟩, c, e⟩
      exact ⟨(this.mp ⟨a, c⟩).1, (this.mp ⟨a, c⟩).2, fun _ _ => ⟨b, e⟩⟩
    · rintro ⟨a, b, c⟩
      have c := c (Decidable.not_not.mp q) q2
      have z := this.mpr ⟨a, b⟩
      exact ⟨⟨z.1, c.1⟩, z.2, c.2⟩
  · intro y; rw [hr y, q_ok_succ]
    exact ⟨fun z => ⟨z.1, z.2, fun _ e => absurd e q2⟩, fun z => ⟨z.1, z.2.1⟩⟩
theorem c_narrowAll {cell till : Int32} {R : Nat} (L : LY h) (hR : cm_I h 33 4 = nI R) (hR2 : R ≤ 100) (k : ∀ lo hi, q_rng h cell till R lo hi → KV (q_lh h lo hi)) : cm_cv sc (d + 2) 118 [.ref 33, .int cell, .int till] h KV := by
  refine cv_of rfl (s118_0 L _ _ _ (cv_of rfl (s119_0 L ⟨rfl, s118_4 _ _ _ ?_⟩)))
  have gen : ∀ (m i : Nat) (lo hi : Int32), i + m = R → q_rng h cell till i lo hi → cm_wp sc (d + 2) 118 6 [some (.ref 33), some (.int cell), some (.int till), some (.int (nI i))] [] (q_lh h lo hi) (fun v h' => v = none ∧ KV h') := by
    intro m
    induction m with
    | zero =>
      intro i lo hi hi2 a
      obtain rfl : i = R := by omega
      refine s118_6 (h := q_lh h lo hi) L _ _ _ ⟨fun _ => ⟨rfl, k lo hi a⟩, fun q => absurd ?_ q⟩
      show cm_I h 33 4 ≤ _
      rw [hR]; exact Int32.le_refl _
    | succ m ih =>
      intro i lo hi hi2 a
      refine s118_6 (h := q_lh h lo hi) L _ _ _ ⟨fun q => absurd q ?_, fun _ => c_narrow L (by omega) a (fun lo' hi' _ _ b => s118_21 _ _ _ _ ?_) (fun _ b => s118_21 _ _ _ _ ?_)⟩
      · show ¬ cm_I h 33 4 ≤ _
        rw [hR]; exact nI_ge (by omega) (by omega)
      · rw [nI_1]; exact ih (i + 1) _ _ (by omega) b
      · rw [nI_1]; exact ih (i + 1) _ _ (by omega) b
  exact gen R 0 1 10000 (by omega) q_rng0
theorem c_fits {cell till lo hi : Int32} {w k : Nat} (L : LY h) (hr : q_rng h cell till k lo hi) (hw : 1 ≤ w) (hw2 : w ≤ 20) (y : q_ok (cm_I h 34) (cm_I h 35) (cm_I h 36) (cm_I h 37) cell till k (q_res (nI w)) → K 1 (q_lh h lo hi)) (n : ¬ q_ok (cm_I h 34) (cm_I h 35) (cm_I h 36) (cm_I h 37) cell till k (q_res (nI w)) → K 0 (q_lh h lo hi)) : cm_ci sc (d + 1) 122 [.ref 33, .int (nI w)] (q_lh h lo hi) K := by
  refine ci_of rfl (s122_0 _ (c_resistOf (nI_pos' (by omega)) (s122_4 (h := q_lh h lo hi) L _ _ (c_in (fun q => s122_15 _ 1 ⟨Or.inr rfl, ai (y ?_)⟩) (fun q => s122_15 _ 0 ⟨Or.inl rfl, ai (n fun z => q ?_)⟩)))))
  · exact ((hr _).mp q).2
  · exact (hr _).mpr ⟨q_resN hw hw2, z⟩
theorem c_leastHeld {cell till lo hi : Int32} {b p t k : Nat} (L : LY h) (E : CE h b) (hb : b ≠ 33) (hp : cm_I h b 4 = nI p) (ht : cm_I h b 5 = nI t) (hp2 : p ≤ 20) (ht1 : 1 ≤ t) (ht2 : t ≤ 1000) (hr : q_rng h cell till k lo hi)
    (kk : ∀ r, q_least (fun n => q_ok (cm_I h 34) (cm_I h 35) (cm_I h 36) (cm_I h 37) cell till k (q_res (nI (p - n / t)))) (p * t) r → K r (q_lh h lo hi)) : cm_ci sc (d + 2) 121 [.ref 33, .ref b] (q_lh h lo hi) K := by
  have hpt : p * t ≤ 20 * 1000 := Nat.mul_le_mul hp2 ht2
  have e4 : cm_I (q_lh h lo hi) b 4 = nI p := by rw [← hp]; exact (u2_a hb).trans (u2_a hb)
  have e5 : cm_I (q_lh h lo hi) b 5 = nI t := by rw [← ht]; exact (u2_a hb).trans (u2_a hb)
  refine ci_of rfl (s121_0 b _ ⟨E, ?_⟩)
  rw [e4]
  have gen : ∀ (w : Nat), w ≤ p → (∀ v, w < v → v ≤ p → ¬ q_ok (cm_I h 34) (cm_I h 35) (cm_I h 36) (cm_I h 37) cell till k (q_res (nI v))) → cm_wp sc (d + 2) 121 5 [some (.ref 33), some (.ref b), some (.int (nI w))] [] (q_lh h lo hi) (fun v h' => ∃ x, v = some (.int x) ∧ K x h') := by
    intro w
    induction w with
    | zero =>
      intro hw a
      refine s121_5 (h := q_lh h lo hi) L b _ ⟨fun _ => ai (kk (-1) (Or.inl ⟨rfl, fun n hn => ?_⟩)), fun q => absurd (by decide) q⟩
      obtain ⟨-, h1, h2⟩ := q_wN hp2 ht1 ht2 hn
      exact a _ (by omega) (Nat.sub_le _ _)
    | succ w ih =>
      intro hw a
      refine s121_5 (h := q_lh h lo hi) L b _ ⟨fun q => absurd q (nI_nlt (b := 1) (by omega) (by omega)), fun _ => c_fits L hr (by omega) (by omega) (fun y => s121_15 b _ 1 (br_f (by decide) ⟨E, ai ?_⟩)) (fun n => s121_15 b _ 0 (br_t rfl ?_))⟩
      · rw [e4, e5, pk_sub hw, pk_mul]
        have hm : (p - (w + 1)) * t + t ≤ p * t := by
          have := Nat.mul_le_mul_right t (show p - (w + 1) + 1 ≤ p by omega)
          rw [Nat.add_mul, Nat.one_mul] at this
          exact this
        refine kk _ (Or.inr ⟨(p - (w + 1)) * t, by omega, ?_, fun m hm2 => ?_, rfl⟩)
        · show q_ok _ _ _ _ _ _ _ (q_res (nI (p - (p - (w + 1)) * t / t)))
          rw [Nat.mul_div_cancel _ (by omega), show p - (p - (w + 1)) = w + 1 by omega]; exact y
        · have : m / t < p - (w + 1) := (Nat.div_lt_iff_lt_mul (by omega)).mpr hm2
          exact a _ (by omega) (Nat.sub_le _ _)
      · rw [pk_m1]
        refine ih (by omega) fun v h1 h2 => ?_
        rcases Nat.lt_or_ge (w + 1) v with z | z
        · exact a v z h2
        · obtain rfl : v = w + 1 := by omega
          exact n
  exact gen p (Nat.le_refl _) (fun v h1 h2 => absurd h1 (by omega))
theorem c_greatestHeld {cell till lo hi : Int32} {b p t k : Nat} (L : LY h) (E : CE h b) (hb : b ≠ 33) (hp : cm_I h b 4 = nI p) (ht : cm_I h b 5 = nI t) (hp2 : p ≤ 20) (ht1 : 1 ≤ t) (ht2 : t ≤ 1000) (hr : q_rng h cell till k lo hi)
    (kk : ∀ r, q_great (fun n => q_ok (cm_I h 34) (cm_I h 35) (cm_I h 36) (cm_I h 37) cell till k (q_res (nI (p - n / t)))) (p * t) r → K r (q_lh h lo hi)) : cm_ci sc (d + 2) 123 [.ref 33, .ref b] (q_lh h lo hi) K := by
  have hpt : p * t ≤ 20 * 1000 := Nat.mul_le_mul hp2 ht2
  have e4 : cm_I (q_lh h lo hi) b 4 = nI p := by rw [← hp]; exact (u2_a hb).trans (u2_a hb)
  have e5 : cm_I (q_lh h lo hi) b 5 = nI t := by rw [← ht]; exact (u2_a hb).trans (u2_a hb)
  refine ci_of rfl (s123_0 b _ ?_)
  have gen : ∀ (m w : Nat), w + m = p → (∀ v, 1 ≤ v → v ≤ w → ¬ q_ok (cm_I h 34) (cm_I h 35) (cm_I h 36) (cm_I h 37) cell till k (q_res (nI v))) → cm_wp sc (d + 2) 123 2 [some (.ref 33), some (.ref b), some (.int (nI (w + 1)))] [] (q_lh h lo hi) (fun v h' => ∃ x, v = some (.int x) ∧ K x h') := by
    intro m
    induction m with
    | zero =>
      intro w hw a
      refine s123_2 (h := q_lh h lo hi) L b _ ⟨E, fun _ => ai (kk (-1) (Or.inl ⟨rfl, fun n hn => ?_⟩)), fun q => absurd ?_ q⟩
      · obtain ⟨-, h1, h2⟩ := q_wN hp2 ht1 ht2 hn
        exact a _ (by omega) (by have := Nat.sub_le p (n / t); omega)
      · rw [e4]; exact nI_lt (by omega) (by omega)
    | succ m ih =>
      intro w hw a
      refine s123_2 (h := q_lh h lo hi) L b _ ⟨E, fun q => absurd q ?_, fun _ => c_fits L hr (by omega) (by omega) (fun y => s123_15 b _ 1 (br_f (by decide) ⟨E, ai ?_⟩)) (fun n => s123_15 b _ 0 (br_t rfl ?_))⟩
      · rw [e4]; exact nI_nlt (by omega) (by omega)
      · rw [e4, e5, pk_sub (by omega), nI_1, pk_mul]
        have hm : (p - (w + 1) + 1) * t ≤ p * t := Nat.mul_le_mul_right t (by omega)
        have hm1 : (p - (w + 1) + 1) * t = (p - (w + 1)) * t + t := by rw [Nat.add_mul, Nat.one_mul]
        have hm2 : nI ((p - (w + 1) + 1) * t) - 1 = nI ((p - (w + 1)) * t + (t - 1)) := by
          rw [hm1, show (p - (w + 1)) * t + t = (p - (w + 1)) * t + (t - 1) + 1 by omega, nI_pred]
        rw [hm2]
        refine kk _ (Or.inr ⟨(p - (w + 1)) * t + (t - 1), by omega, ?_, fun m h1 h2 => ?_, rfl⟩)
        · have : ((p - (w + 1)) * t + (t - 1)) / t = p - (w + 1) := by
            rw [Nat.mul_comm, Nat.mul_add_div (by omega), Nat.div_eq_of_lt (by omega), Nat.add_zero]
          show q_ok _ _ _ _ _ _ _ (q_res (nI (p - ((p - (w + 1)) * t + (t - 1)) / t)))
          rw [this, show p - (p - (w + 1)) = w + 1 by omega]; exact y
        · have h3 : p - (w + 1) + 1 ≤ m / t := (Nat.le_div_iff_mul_le (by omega)).mpr (by omega)
          have h4 : m / t < p := (Nat.div_lt_iff_lt_mul (by omega)).mpr h2
          exact a _ (by omega) (by omega)
      · rw [nI_1]
        refine ih (w + 1) (by omega) fun v h1 h2 => ?_
        rcases Nat.lt_or_ge w v with z | z
        · obtain rfl : v = w + 1 := by omega
          exact n
        · exact a v h1 z
  exact gen p 0 (by omega) (fun v h1 h2 => absurd h1 (by omega))
end BACK
