/-! ===== share, drops ===== -/
theorem lT {n : Nat} (h : n < 2 ^ 63) : (lN n).toInt = (n : Int) := lg_ofNat_toInt h
theorem lN_inj' {a b : Nat} (ha : a < 2 ^ 63) (hb : b < 2 ^ 63) : lN a = lN b ↔ a = b := by rw [← Int64.toInt_inj, lT ha, lT hb]; omega
theorem lN_le' {a b : Nat} (ha : a < 2 ^ 63) (hb : b < 2 ^ 63) : lN a ≤ lN b ↔ a ≤ b := by rw [Int64.le_iff_toInt_le, lT ha, lT hb]; omega
theorem lN_lt' {a b : Nat} (ha : a < 2 ^ 63) (hb : b < 2 ^ 63) : lN a < lN b ↔ a < b := by rw [Int64.lt_iff_toInt_lt, lT ha, lT hb]; omega
theorem lN_div {a b : Nat} (ha : a < 2 ^ 63) (h0 : 0 < b) (hb : b < 2 ^ 63) : lN a / lN b = lN (a / b) := by
  apply Int64.toInt_inj.mp
  rw [lg_ldiv_nonneg (by rw [lT ha]; omega) (by rw [lT hb]; omega), lT ha, lT hb, lT (Nat.lt_of_le_of_lt (Nat.div_le_self a b) ha)]
  first | rfl | exact (Int.natCast_ediv _ _).symm
theorem lN_rem {a b : Nat} (ha : a < 2 ^ 63) (h0 : 0 < b) (hb : b < 2 ^ 63) : lN a - lN a / lN b * lN b = lN (a % b) := by
  rw [lN_div ha h0 hb, lN_mul, lN_sub (Nat.div_mul_le_self a b)]
  exact congrArg lN (by have := Nat.div_add_mod' a b; omega)
theorem lN_ne0 {a : Nat} (ha : a < 2 ^ 63) (h0 : 0 < a) : lN a ≠ 0 := fun e => by
  have := (lN_inj' ha (by decide : 0 < 2 ^ 63)).mp e
  omega
/-- n over k, as it is reckoned -/
def cN (n : Nat) : Nat → Nat
  | 0 => 1
  | i + 1 => cN n i * (n - i) / (i + 1)
theorem cN_b : ∀ n : Fin 61, ∀ i : Fin 61, i.val ≤ n.val → cN n i * (n - i) < 2 ^ 62 ∧ cN n i < 2 ^ 57 ∧ 0 < cN n i := by decide +kernel
theorem cN_s : ∀ n : Fin 61, ∀ i : Fin 61, i.val ≤ n.val → cN n (min i (n - i)) = cN n i := by decide +kernel
theorem cN_b' {n i : Nat} (hn : n ≤ 60) (hi : i ≤ n) : cN n i * (n - i) < 2 ^ 62 ∧ cN n i < 2 ^ 57 ∧ 0 < cN n i := cN_b ⟨n, by omega⟩ ⟨i, by omega⟩ hi
/-- of n drops k bad, d drawn: none bad -/
def aN (n k d : Nat) : Nat := if d ≤ n - k then cN (n - k) d else 0
theorem aN_b {n k d : Nat} (hn : n ≤ 60) : aN n k d < 2 ^ 57 := by
  unfold aN
  split
  · rename_i h; exact (cN_b' (by omega) h).2.1
  · decide
section SHARE
variable {sc : cmS} {d : Nat} {h : cmH} {K : Int32 → cmH → Prop} {KJ : Int64 → cmH → Prop}
theorem c_ways {n k : Nat} (hn : n ≤ 60) (hk : k ≤ 60) (q : KJ (lN (if k ≤ n then cN n k else 0)) h) : cm_cj' sc (d + 1) 98 [.int (nI n), .int (nI k)] h KJ := by
  refine cj_of rfl (s98_0 _ _ _ _ _ ⟨fun z => ?_, fun z => aj ?_⟩)
  · have z := (nI_leI (by omega) (by omega)).mp z
    rw [if_pos z] at q
    have gen : ∀ (m i : Nat), i + m = k → cm_wp sc (d + 1) 98 12 [some (.int (nI n)), some (.int (nI k)), some (.long (lN (cN n i))), none, some (.int (nI i))] [] h (fun v h' => ∃ x, v = some (.long x) ∧ KJ x h') := by
      intro m
      induction m with
      | zero =>
        intro i hi
        obtain rfl : i = k := by omega
        exact s98_12 _ _ _ _ ⟨fun _ => aj q, fun w => absurd (Int32.le_refl _) w⟩
      | succ m ih =>
        intro i hi
        obtain ⟨b1, b2, b3⟩ := cN_b' (n := n) (i := i) hn (by omega)
        refine s98_12 _ _ _ _ ⟨fun w => absurd w (nI_ge (by omega) (by omega)), fun _ => ?_⟩
        rw [pk_sub (by omega), nI_1, nI_l (by omega), nI_l (by omega), lN_mul]
        refine c_cut (s98_33 _ _ _ _ _ ?_)
        rw [if_neg (lN_ne0 (by omega) (by omega)), lN_div (by omega) (by omega) (by omega), nI_1]
        exact ih (i + 1) (by omega)
    exact gen k 0 (by omega)
  · have : ¬ k ≤ n := fun w => z (nI_le w (by omega))
    rw [if_neg this] at q
    exact q
theorem m_ways {n k : Nat} (hn : n ≤ 60) (hk : k ≤ n) (q : KJ (lN (cN n k)) h) : cm_cj' sc (d + 1) 204 [.int (nI n), .int (nI k)] h KJ := by
  refine cj_of rfl (s204_0 _ _ ?_)
  have e : (if (nI n - nI k) < nI k then (nI n - nI k) else nI k) = nI (min k (n - k)) := by
    rw [pk_sub hk]
    by_cases z : n - k < k
    · rw [if_pos (nI_lt z (by omega)), Nat.min_eq_right (by omega)]
    · rw [if_neg (nI_nlt (by omega) (by omega)), Nat.min_eq_left (by omega)]
  rw [e]
  refine cj_of rfl (s205_0 _ _ _ _ _ ?_)
  have gen : ∀ (m i : Nat), i + m = min k (n - k) → cm_wp sc d 205 5 [some (.int (nI n)), some (.int (nI (min k (n - k)))), some (.long (lN (cN n i))), none, some (.int (nI i))] [] h (fun v h' => ∃ x, v = some (.long x) ∧ cm_wp sc (d + 1) 204 11 [some (.int (nI n)), some (.int (nI k))] [.long x] h' (fun v h' => ∃ x, v = some (.long x) ∧ KJ x h')) := by
    intro m
    induction m with
    | zero =>
      intro i hi
      obtain rfl : i = min k (n - k) := by omega
      refine s205_5 _ _ _ _ ⟨fun _ => aj (K := fun x h' => cm_wp sc (d + 1) 204 11 [some (.int (nI n)), some (.int (nI k))] [.long x] h' (fun v h' => ∃ x, v = some (.long x) ∧ KJ x h')) (s204_11 _ _ _ (aj ?_)), fun w => absurd (Int32.le_refl _) w⟩
      have := cN_s ⟨n, by omega⟩ ⟨k, by omega⟩ hk
      dsimp only at this
      rw [this]; exact q
    | succ m ih =>
      intro i hi
      obtain ⟨b1, b2, b3⟩ := cN_b' (n := n) (i := i) hn (by omega)
      refine s205_5 _ _ _ _ ⟨fun w => absurd w (nI_ge (by omega) (by omega)), fun _ => ?_⟩
      rw [pk_sub (by omega), nI_l (by omega), nI_l (by omega), lN_mul, lN_1, lN_div (by omega) (by omega) (by omega), nI_1]
      exact ⟨lN_ne0 (by omega) (by omega), ih (i + 1) (by omega)⟩
  exact gen (min k (n - k)) 0 (by omega)
/-! the common part -/
theorem mod_half {y r n : Nat} (hy : y < 2 ^ (n + 1)) (hr : r < y) (h0 : 0 < r) : y % r < 2 ^ n := by
  rw [Nat.pow_succ] at hy
  rcases Nat.lt_or_ge (2 * r) (y + 1) with z | z
  · have := Nat.mod_lt y h0; omega
  · rw [Nat.mod_eq_sub_mod (by omega), Nat.mod_eq_of_lt (by omega)]; omega
theorem m_divisor : ∀ (n x y : Nat) {d : Nat} {KJ : Int64 → cmH → Prop}, n ≤ 60 → x < 2 ^ 63 → y < 2 ^ n → KJ (lN (Nat.gcd x y)) h → cm_cj' sc (d + 2 * n + 1) 206 [.long (lN x), .long (lN y)] h KJ := by
  intro n
  induction n with
  | zero =>
    intro x y d KJ hn hx hy q
    obtain rfl : y = 0 := by omega
    rw [Nat.gcd_zero_right] at q
    exact cj_of rfl (s206_0 _ _ ⟨fun w => absurd rfl w, fun _ => s206_17 _ _ _ (aj q)⟩)
  | succ n ih =>
    intro x y d KJ hn hx hy q
    have hp : 2 ^ (n + 1) ≤ 2 ^ 60 := Nat.pow_le_pow_right (by decide) hn
    rcases Nat.eq_zero_or_pos y with rfl | y0
    · rw [Nat.gcd_zero_right] at q
      exact cj_of rfl (s206_0 _ _ ⟨fun w => absurd rfl w, fun _ => s206_17 _ _ _ (aj q)⟩)
    have hr := Nat.mod_lt x y0
    refine cj_of rfl (s206_0 _ _ ⟨fun _ => ⟨lN_ne0 (by omega) y0, ?_⟩, fun w => absurd ((lg_cmp_eq _ _).mp (Decidable.not_not.mp w)) (lN_ne0 (by omega) y0)⟩)
    rw [lN_rem hx y0 (by omega)]
    rcases Nat.eq_zero_or_pos (x % y) with e0 | r0
    · rw [e0]
      refine cj_of rfl (s206_0 _ _ ⟨fun w => absurd rfl w, fun _ => s206_17 _ _ _ ⟨_, rfl, s206_17 _ _ _ (aj ?_)⟩⟩)
      rw [Nat.gcd_comm, Nat.gcd_rec, e0, Nat.gcd_zero_left] at q
      exact q
    · have h2 := mod_half hy hr r0
      have h3 := Nat.mod_lt y r0
      show cm_cj' sc (d + 2 * n + 1 + 1) 206 _ h _
      refine cj_of rfl (s206_0 _ _ ⟨fun _ => ⟨lN_ne0 (by omega) r0, ?_⟩, fun w => absurd ((lg_cmp_eq _ _).mp (Decidable.not_not.mp w)) (lN_ne0 (by omega) r0)⟩)
      rw [lN_rem (by omega) r0 (by omega)]
      refine ih (x % y) (y % (x % y)) (by omega) (by omega) h2 (s206_17 _ _ _ ⟨_, rfl, s206_17 _ _ _ (aj ?_)⟩)
      have e1 : Nat.gcd x y = Nat.gcd (x % y) (y % (x % y)) := by
        rw [Nat.gcd_comm x y, Nat.gcd_rec y x, Nat.gcd_rec (x % y) y, Nat.gcd_comm]
      rw [← e1]; exact q
theorem c_common : ∀ (n x y i : Nat) {a b : Int64} {u v : Option Value}, n ≤ 60 → i + 2 * n + 1 ≤ 200 → x < 2 ^ 63 → y < 2 ^ n → KJ (lN (Nat.gcd x y)) h → cm_wp sc d 99 9 [some (.long a), none, some (.long b), none, some (.long (lN x)), none, some (.long (lN y)), none, some (.int (nI i)), u, v] [] h (fun v h' => ∃ x, v = some (.long x) ∧ KJ x h') := by
  intro n
  induction n with
  | zero =>
    intro x y i a b u v hn hi hx hy q
    obtain rfl : y = 0 := by omega
    rw [Nat.gcd_zero_right] at q
    exact s99_9 _ _ _ _ _ _ _ ⟨fun _ => aj q, fun _ => ⟨fun _ => aj q, fun w => absurd rfl w⟩⟩
  | succ n ih =>
    intro x y i a b u v hn hi hx hy q
    have hp : 2 ^ (n + 1) ≤ 2 ^ 60 := Nat.pow_le_pow_right (by decide) hn
    rcases Nat.eq_zero_or_pos y with rfl | y0
    · rw [Nat.gcd_zero_right] at q
      exact s99_9 _ _ _ _ _ _ _ ⟨fun _ => aj q, fun _ => ⟨fun _ => aj q, fun w => absurd rfl w⟩⟩
    have hr := Nat.mod_lt x y0
    refine s99_9 _ _ _ _ _ _ _ ⟨fun w => absurd w (nI_ge (b := 200) (by omega) (by decide)), fun _ => ⟨fun w => absurd ((lg_cmp_eq _ _).mp w) (lN_ne0 (by omega) y0), fun _ => ⟨lN_ne0 (by omega) y0, ?_⟩⟩⟩
    rw [lN_rem hx y0 (by omega), nI_1]
    rcases Nat.eq_zero_or_pos (x % y) with e0 | r0
    · rw [e0]
      rw [Nat.gcd_comm, Nat.gcd_rec, e0, Nat.gcd_zero_left] at q
      exact s99_9 _ _ _ _ _ _ _ ⟨fun _ => aj q, fun _ => ⟨fun _ => aj q, fun w => absurd rfl w⟩⟩
    · have h2 := mod_half hy hr r0
      have h3 := Nat.mod_lt y r0
      refine s99_9 _ _ _ _ _ _ _ ⟨fun w => absurd w (nI_ge (b := 200) (by omega) (by decide)), fun _ => ⟨fun w => absurd ((lg_cmp_eq _ _).mp w) (lN_ne0 (by omega) r0), fun _ => ⟨lN_ne0 (by omega) r0, ?_⟩⟩⟩
      rw [lN_rem (by omega) r0 (by omega), nI_1]
      refine ih (x % y) (y % (x % y)) (i + 1 + 1) (by omega) (by omega) (by omega) h2 ?_
      have e1 : Nat.gcd x y = Nat.gcd (x % y) (y % (x % y)) := by
        rw [Nat.gcd_comm x y, Nat.gcd_rec y x, Nat.gcd_rec (x % y) y, Nat.gcd_comm]
      rw [← e1]; exact q
def g_share (n k d : Nat) (x1 x2 x3 : Int32) : Prop := 1 ≤ n ∧ n ≤ 60 ∧ k ≤ n ∧ d ≤ n ∧ x1 = nI n ∧ x2 = nI k ∧ x3 = nI d
theorem c_isDrawn {x1 x2 x3 : Int32} (t : ∀ n k e, g_share n k e x1 x2 x3 → K 1 h) (f : (∀ n k e, ¬ g_share n k e x1 x2 x3) → K 0 h) : cm_ci sc (d + 1) 97 [.int x1, .int x2, .int x3] h K := by
  refine ci_of rfl (s97_0 x1 x2 x3 (c_inN 1 60 (fun n h1 h2 e1 => ?_) (fun q => s97_7 x1 x2 x3 0 (br_t rfl (ai (f fun n k e g => q n g.1 g.2.1 g.2.2.2.2.1))))))
  subst e1
  have un : ∀ n', n' ≤ 60 → nI n = nI n' → n' = n := fun n' h e => (nI_inj (a := n) (b := n') (by omega) (by omega) e).symm
  refine s97_7 _ x2 x3 1 (br_f (by decide) (c_inN 0 n (fun k _ h3 e2 => ?_) (fun q => s97_16 _ x2 x3 0 (br_t rfl (ai (f fun n' k e g => by
    have := un n' g.2.1 g.2.2.2.2.1; subst this
    exact q k (by omega) g.2.2.1 g.2.2.2.2.2.1)))) rfl rfl (by omega) (by decide)))
  refine s97_16 _ x2 x3 1 (br_f (by decide) (c_inN 0 n (fun e _ h4 e3 => s97_25 _ _ _ 1 (br_f (by decide) (ai (t n k e ⟨h1, h2, h3, h4, rfl, e2, e3⟩)))) (fun q => s97_25 _ _ _ 0 (br_t rfl (ai (f fun n' k e g => by
    have := un n' g.2.1 g.2.2.2.2.1; subst this
    exact q e (by omega) g.2.2.2.1 g.2.2.2.2.2.2)))) rfl rfl (by omega) (by decide)))
/-- the answer of share -/
def q_share (n k d : Nat) (x4 : Int32) : Int64 := lN ((if x4 = 0 then aN n k d else cN n d) / Nat.gcd (aN n k d) (cN n d))
theorem c_share {x1 x2 x3 x4 : Int32} (t : ∀ n k e, g_share n k e x1 x2 x3 → 0 ≤ x4 ∧ x4 ≤ 1 → KJ (q_share n k e x4) h) (f : (∀ n k e, g_share n k e x1 x2 x3 → ¬ (0 ≤ x4 ∧ x4 ≤ 1)) → KJ (-1) h) : cm_cj' sc (d + 3) 96 [.ref 0, .int x1, .int x2, .int x3, .int x4] h KJ := by
  refine cj_of rfl (s96_0 x1 x2 x3 x4 _ _ _ _ (c_isDrawn (fun n k e g => ?_) (fun q => s96_6 x1 x2 x3 x4 _ _ _ _ 0 (br_t rfl (aj (f fun n k e g => absurd g (q n k e)))))))
  refine s96_6 x1 x2 x3 x4 _ _ _ _ 1 (br_f (by decide) (c_in (fun q4 => ?_) (fun q => s96_16 x1 x2 x3 x4 _ _ _ _ 0 (br_f (by decide) (aj (f fun _ _ _ _ => q))))))
  have kk := t n k e g q4
  obtain ⟨h1, h2, h3, h4, rfl, rfl, rfl⟩ := g
  refine s96_16 _ _ _ x4 _ _ _ _ 1 (br_t (by decide) ?_)
  rw [pk_sub h3]
  refine c_ways (by omega) (by omega) (s96_30 _ _ _ _ _ _ _ _ _ (c_ways (by omega) (by omega) (s96_37 _ _ _ _ _ _ _ _ ?_)))
  rw [if_pos h4]
  have hb := (cN_b' h2 h4).2
  have ha := aN_b (k := k) (d := e) h2
  have hg : 0 < Nat.gcd (aN n k e) (cN n e) := Nat.gcd_pos_of_pos_right _ hb.2
  have hg2 : Nat.gcd (aN n k e) (cN n e) < 2 ^ 57 := Nat.lt_of_le_of_lt (Nat.gcd_le_right _ hb.2) hb.1
  have fin : ∀ z : Nat, z < 2 ^ 57 → KJ (lN (z / Nat.gcd (aN n k e) (cN n e))) h → cm_wp sc (d + 3) 96 51 [some (.ref 0), some (.int (nI n)), some (.int (nI k)), some (.int (nI e)), some (.int x4), some (.long (lN (aN n k e))), none, some (.long (lN (cN n e))), none] [.long (lN z)] h (fun v h' => ∃ x, v = some (.long x) ∧ KJ x h') := by
    intro z hz kz
    refine s96_51 _ _ _ _ _ _ _ (cj_of rfl (s99_0 _ _ _ _ _ _ _ _ _ (c_common (KJ := fun x h' => cm_wp sc (d + 3) 96 58 [some (.ref 0), some (.int (nI n)), some (.int (nI k)), some (.int (nI e)), some (.int x4), some (.long (lN (aN n k e))), none, some (.long (lN (cN n e))), none] [.long x, .long (lN z)] h' (fun v h' => ∃ x, v = some (.long x) ∧ KJ x h')) 57 _ _ 0 (by decide) (by decide) (by omega) hb.1 (s96_58 _ _ _ _ _ _ _ _ (c_cut (s96_61 _ _ _ _ _ _ _ (aj ?_)))))))
    rw [if_neg (lN_ne0 (by omega) hg), lN_div (by omega) hg (by omega)]
    exact kz
  unfold q_share at kk
  refine ⟨fun z => fin _ hb.1 ?_, fun z => fin _ ha ?_⟩
  · rw [if_neg z] at kk; exact kk
  · rw [if_pos (Decidable.not_not.mp z)] at kk; exact kk
theorem m_share {x1 x2 x3 x4 : Int32} (t : ∀ n k e, g_share n k e x1 x2 x3 → 0 ≤ x4 ∧ x4 ≤ 1 → KJ (q_share n k e x4) h) (f : (∀ n k e, g_share n k e x1 x2 x3 → ¬ (0 ≤ x4 ∧ x4 ≤ 1)) → KJ (-1) h) : cm_cj' sc (d + 116) 203 [.ref 38, .int x1, .int x2, .int x3, .int x4] h KJ := by
  refine cj_of rfl (s203_0 x1 x2 x3 x4 _ _ _ _ _ _ (m_inN 1 60 (fun n h1 h2 e1 => ?_) (fun q => s203_7 x1 x2 x3 x4 _ _ _ _ _ _ 0 (br_t rfl (aj (f fun n k e g => absurd g.2.2.2.2.1 (q n g.1 g.2.1)))))))
  subst e1
  have un : ∀ n', n' ≤ 60 → nI n = nI n' → n' = n := fun n' h e => (nI_inj (a := n) (b := n') (by omega) (by omega) e).symm
  refine s203_7 _ x2 x3 x4 _ _ _ _ _ _ 1 (br_f (by decide) (m_inN 0 n (fun k _ h3 e2 => ?_) (fun q => s203_16 _ x2 x3 x4 _ _ _ _ _ _ 0 (br_t rfl (aj (f fun n' k e g => by
    have := un n' g.2.1 g.2.2.2.2.1; subst this
    exact absurd g.2.2.2.2.2.1 (q k (by omega) g.2.2.1))))) rfl rfl (by omega) (by decide)))
  subst e2
  refine s203_16 _ _ x3 x4 _ _ _ _ _ _ 1 (br_f (by decide) (m_inN 0 n (fun e _ h4 e3 => ?_) (fun q => s203_25 _ _ x3 x4 _ _ _ _ _ _ 0 (br_t rfl (aj (f fun n' k e g => by
    have := un n' g.2.1 g.2.2.2.2.1; subst this
    exact absurd g.2.2.2.2.2.2 (q e (by omega) g.2.2.2.1))))) rfl rfl (by omega) (by decide)))
  subst e3
  refine s203_25 _ _ _ x4 _ _ _ _ _ _ 1 (br_f (by decide) (m_in (fun q4 => ?_) (fun q => s203_35 _ _ _ x4 _ _ _ _ _ _ 0 (br_f (by decide) (aj (f fun _ _ _ _ => q))))))
  have kk := t n k e ⟨h1, h2, h3, h4, rfl, rfl, rfl⟩ q4
  have hb := (cN_b' h2 h4).2
  have ha := aN_b (k := k) (d := e) h2
  have hg : 0 < Nat.gcd (aN n k e) (cN n e) := Nat.gcd_pos_of_pos_right _ hb.2
  have hg2 : Nat.gcd (aN n k e) (cN n e) < 2 ^ 57 := Nat.lt_of_le_of_lt (Nat.gcd_le_right _ hb.2) hb.1
  have fin : ∀ u1 u2 u3 u4 u5 u6 : Option Value, cm_wp sc (d + 116) 203 60 [some (.ref 38), some (.int (nI n)), some (.int (nI k)), some (.int (nI e)), some (.int x4), u1, u2, u3, u4, u5, u6] [.long (lN (aN n k e))] h (fun v h' => ∃ x, v = some (.long x) ∧ KJ x h') := by
    intro u1 u2 u3 u4 u5 u6
    refine s203_60 _ _ _ _ _ _ _ _ _ _ _ (m_ways h2 h4 (s203_67 _ _ _ _ _ _ _ _ _ _ (m_divisor (d := d) 57 _ _ (by decide) (by omega) hb.1 (s203_76 _ _ _ _ _ _ _ _ _ ?_))))
    rw [lN_div (by omega) hg (by omega), lN_div (by omega) hg (by omega)]
    unfold q_share at kk
    refine ⟨fun z => ⟨lN_ne0 (by omega) hg, aj ?_⟩, fun z => ⟨lN_ne0 (by omega) hg, aj ?_⟩⟩
    · rw [if_neg z] at kk; exact kk
    · rw [if_pos (Decidable.not_not.mp z)] at kk; exact kk
  refine s203_35 _ _ _ x4 _ _ _ _ _ _ 1 (br_t (by decide) ?_)
  rw [pk_sub h3]
  have ea : aN n k e = if e ≤ n - k then cN (n - k) e else 0 := rfl
  refine ⟨fun z => ?_, fun z => ?_⟩
  · have z := (nI_leI (by omega) (by omega)).mp z
    rw [if_pos z] at ea
    refine m_ways (by omega) z ?_
    rw [← ea]; exact fin _ _ _ _ _ _
  · have z : ¬ e ≤ n - k := fun w => z (nI_le w (by omega))
    rw [if_neg z] at ea
    rw [show (0 : Int64) = lN 0 from rfl, ← ea]; exact fin _ _ _ _ _ _
/-! drops -/
def g_drops (n k m : Nat) (x1 x2 x3 : Int32) : Prop := 1 ≤ n ∧ n ≤ 60 ∧ k ≤ n ∧ 1 ≤ m ∧ m ≤ 1000000 ∧ x1 = nI n ∧ x2 = nI k ∧ x3 = nI m
theorem c_drops {x1 x2 x3 : Int32} (t : ∀ n k m, g_drops n k m x1 x2 x3 → ∀ r, q_least (fun e => aN n k e ≤ cN n e / m) (n + 1) r → K r h) (f : (∀ n k m, ¬ g_drops n k m x1 x2 x3) → K (-1) h) : cm_ci sc (d + 2) 100 [.ref 0, .int x1, .int x2, .int x3] h K := by
  refine ci_of rfl (s100_0 x1 x2 x3 _ (c_isDrawn (fun n k e g => ?_) (fun q => s100_6 x1 x2 x3 _ 0 (br_t rfl (ai (f fun n k m g => q n k 0 ⟨g.1, g.2.1, g.2.2.1, Nat.zero_le _, g.2.2.2.2.2.1, g.2.2.2.2.2.2.1, rfl⟩))))))
  obtain ⟨h1, h2, h3, -, e1, e2, -⟩ := g
  refine s100_6 x1 x2 x3 _ 1 (br_f (by decide) (c_inN 1 1000000 (fun m h5 h6 e3 => ?_) (fun q => s100_17 x1 x2 x3 _ 0 (br_f (by decide) (ai (f fun n k m g => q m g.2.2.2.1 g.2.2.2.2.1 g.2.2.2.2.2.2.2))))))
  have kk := t n k m ⟨h1, h2, h3, h5, h6, e1, e2, e3⟩
  subst e1 e2 e3
  refine s100_17 _ _ _ _ 1 (br_t (by decide) ?_)
  have gen : ∀ (l i : Nat), i + l = n + 1 → (∀ j, j < i → ¬ aN n k j ≤ cN n j / m) → cm_wp sc (d + 2) 100 25 [some (.ref 0), some (.int (nI n)), some (.int (nI k)), some (.int (nI m)), some (.int (nI i))] [] h (fun v h' => ∃ x, v = some (.int x) ∧ K x h') := by
    intro l
    induction l with
    | zero =>
      intro i hi an
      obtain rfl : i = n + 1 := by omega
      exact s100_25 _ _ _ _ ⟨fun _ => ai (kk _ (Or.inl ⟨rfl, an⟩)), fun w => absurd (nI_lt (by omega) (by omega)) w⟩
    | succ l ih =>
      intro i hi an
      refine s100_25 _ _ _ _ ⟨fun w => absurd w (nI_nlt (by omega) (by omega)), fun _ => ?_⟩
      rw [pk_sub h3]
      have hb := (cN_b' (n := n) (i := i) h2 (by omega)).2
      have ha := aN_b (k := k) (d := i) h2
      have hq := Nat.div_le_self (cN n i) m
      refine c_ways (by omega) (by omega) (s100_39 _ _ _ _ _ (c_ways (by omega) (by omega) (s100_45 _ _ _ _ _ _ ?_)))
      rw [if_pos (show i ≤ n by omega), nI_l (by omega)]
      refine c_cut (s100_50 _ _ _ _ _ _ ?_)
      rw [if_neg (lN_ne0 (by omega) (by omega)), lN_div (by omega) (by omega) (by omega), lg_cmp_gt]
      show (lN (cN n i / m) < lN (aN n k i) → _) ∧ (¬ lN (cN n i / m) < lN (aN n k i) → _)
      rw [lN_lt' (by omega) (by omega), nI_1]
      refine ⟨fun z => ih (i + 1) (by omega) fun j hj => ?_, fun z => ai (kk _ (Or.inr ⟨i, by omega, by omega, an, rfl⟩))⟩
      rcases Nat.lt_or_ge j i with y | y
      · exact an j y
      · obtain rfl : j = i := by omega
        omega
  exact gen (n + 1) 0 (by omega) (fun j hj => absurd hj (by omega))
theorem m_drops {x1 x2 x3 : Int32} (t : ∀ n k m, g_drops n k m x1 x2 x3 → ∀ r, q_least (fun e => aN n k e ≤ cN n e / m) (n + 1) r → K r h) (f : (∀ n k m, ¬ g_drops n k m x1 x2 x3) → K (-1) h) : cm_ci sc (d + 2) 207 [.ref 38, .int x1, .int x2, .int x3] h K := by
  refine ci_of rfl (s207_0 x1 x2 x3 _ _ _ (m_inN 1 60 (fun n h1 h2 e1 => ?_) (fun q => s207_7 x1 x2 x3 _ _ _ 0 (br_t rfl (ai (f fun n k m g => q n g.1 g.2.1 g.2.2.2.2.2.1))))))
  subst e1
  have un : ∀ n', n' ≤ 60 → nI n = nI n' → n' = n := fun n' h e => (nI_inj (a := n) (b := n') (by omega) (by omega) e).symm
  refine s207_7 _ x2 x3 _ _ _ 1 (br_f (by decide) (m_inN 0 n (fun k _ h3 e2 => ?_) (fun q => s207_16 _ x2 x3 _ _ _ 0 (br_t rfl (ai (f fun n' k m g => by
    have := un n' g.2.1 g.2.2.2.2.2.1; subst this
    exact q k (by omega) g.2.2.1 g.2.2.2.2.2.2.1)))) rfl rfl (by omega) (by decide)))
  refine s207_16 _ x2 x3 _ _ _ 1 (br_f (by decide) (m_inN 1 1000000 (fun m h5 h6 e3 => ?_) (fun q => s207_27 _ x2 x3 _ _ _ 0 (br_f (by decide) (ai (f fun n' k m g => q m g.2.2.2.1 g.2.2.2.2.1 g.2.2.2.2.2.2.2))))))
  have kk := t n k m ⟨h1, h2, h3, h5, h6, rfl, e2, e3⟩
  subst e2 e3
  refine s207_27 _ _ _ _ _ _ 1 (br_t (by decide) ?_)
  have gen : ∀ (l i : Nat) (u v : Option Value), i + l = n + 1 → (∀ j, j < i → ¬ aN n k j ≤ cN n j / m) → cm_wp sc (d + 2) 207 35 [some (.ref 38), some (.int (nI n)), some (.int (nI k)), some (.int (nI m)), some (.int (nI i)), u, v] [] h (fun v h' => ∃ x, v = some (.int x) ∧ K x h') := by
    intro l
    induction l with
    | zero =>
      intro i u v hi an
      obtain rfl : i = n + 1 := by omega
      exact s207_35 _ _ _ _ _ _ ⟨fun _ => ai (kk _ (Or.inl ⟨rfl, an⟩)), fun w => absurd (nI_lt (by omega) (by omega)) w⟩
    | succ l ih =>
      intro i u v hi an
      have hb := (cN_b' (n := n) (i := i) h2 (by omega)).2
      have ha := aN_b (k := k) (d := i) h2
      have hq := Nat.div_le_self (cN n i) m
      have fin : ∀ u v : Option Value, cm_wp sc (d + 2) 207 61 [some (.ref 38), some (.int (nI n)), some (.int (nI k)), some (.int (nI m)), some (.int (nI i)), u, v] [.long (lN (aN n k i))] h (fun v h' => ∃ x, v = some (.int x) ∧ K x h') := by
        intro u v
        refine s207_61 _ _ _ _ _ _ _ (m_ways h2 (by omega) (s207_71 _ _ _ _ _ _ _ ?_))
        rw [nI_l (by omega), lN_div (by omega) (by omega) (by omega), lg_cmp_gt, lN_lt' (by omega) (by omega), nI_1]
        refine ⟨lN_ne0 (by omega) (by omega), fun z => ih (i + 1) _ _ (by omega) fun j hj => ?_, fun z => ai (kk _ (Or.inr ⟨i, by omega, by omega, an, rfl⟩))⟩
        rcases Nat.lt_or_ge j i with y | y
        · exact an j y
        · obtain rfl : j = i := by omega
          omega
      refine s207_35 _ _ _ _ _ _ ⟨fun w => absurd w (nI_nlt (by omega) (by omega)), fun _ => ?_⟩
      rw [pk_sub h3]
      have ea : aN n k i = if i ≤ n - k then cN (n - k) i else 0 := rfl
      refine ⟨fun z => ?_, fun z => ?_⟩
      · have z := (nI_leI (by omega) (by omega)).mp z
        rw [if_pos z] at ea
        refine m_ways (by omega) z ?_
        rw [← ea]; exact fin _ _
      · have z : ¬ i ≤ n - k := fun w => z (nI_le w (by omega))
        rw [if_neg z] at ea
        rw [show (0 : Int64) = lN 0 from rfl, ← ea]; exact fin _ _
  exact gen (n + 1) 0 _ _ (by omega) (fun j hj => absurd hj (by omega))
end SHARE
