/-! ===== small rows: calls by the type of their answer, checks of bounds, indices ===== -/
theorem ci_of {sc : cmS} {d M : Nat} {as : List Value} {h : cmH} {K : Int32 → cmH → Prop} {ls : cmL} (e : cm_en M as = ls) (w : cm_wp sc d M 0 ls [] h (fun v h' => ∃ x, v = some (.int x) ∧ K x h')) : cm_ci sc d M as h K := by
  unfold cm_ci; rw [e]; exact w
theorem cj_of {sc : cmS} {d M : Nat} {as : List Value} {h : cmH} {K : Int64 → cmH → Prop} {ls : cmL} (e : cm_en M as = ls) (w : cm_wp sc d M 0 ls [] h (fun v h' => ∃ x, v = some (.long x) ∧ K x h')) : cm_cj' sc d M as h K := by
  unfold cm_cj'; rw [e]; exact w
theorem cq_of {sc : cmS} {d M : Nat} {as : List Value} {h : cmH} {K : Option Nat → cmH → Prop} {ls : cmL} (e : cm_en M as = ls) (w : cm_wp sc d M 0 ls [] h (fun v h' => ∃ o, v = some (va_rf o) ∧ K o h')) : cm_cq sc d M as h K := by
  unfold cm_cq; rw [e]; exact w
theorem cv_of {sc : cmS} {d M : Nat} {as : List Value} {h : cmH} {K : cmH → Prop} {ls : cmL} (e : cm_en M as = ls) (w : cm_wp sc d M 0 ls [] h (fun v h' => v = none ∧ K h')) : cm_cv sc d M as h K := by
  unfold cm_cv; rw [e]; exact w
/-- the answer is this one -/
theorem ai {K : Int32 → cmH → Prop} {x : Int32} {h : cmH} (k : K x h) : ∃ y, some (Value.int x) = some (.int y) ∧ K y h := ⟨x, rfl, k⟩
theorem aj {K : Int64 → cmH → Prop} {x : Int64} {h : cmH} (k : K x h) : ∃ y, some (Value.long x) = some (.long y) ∧ K y h := ⟨x, rfl, k⟩
theorem aq {K : Option Nat → cmH → Prop} {x : Option Nat} {h : cmH} (k : K x h) : ∃ y, some (va_rf x) = some (va_rf y) ∧ K y h := ⟨x, rfl, k⟩
theorem ci_mono {sc : cmS} {d M : Nat} {as : List Value} {h : cmH} {K K' : Int32 → cmH → Prop} (w : cm_ci sc d M as h K) (k : ∀ x h', K x h' → K' x h') : cm_ci sc d M as h K' := cm_wp.mono w (fun v h' q => by obtain ⟨x, e, q⟩ := q; exact ⟨x, e, k x h' q⟩)
theorem cj_mono {sc : cmS} {d M : Nat} {as : List Value} {h : cmH} {K K' : Int64 → cmH → Prop} (w : cm_cj' sc d M as h K) (k : ∀ x h', K x h' → K' x h') : cm_cj' sc d M as h K' := cm_wp.mono w (fun v h' q => by obtain ⟨x, e, q⟩ := q; exact ⟨x, e, k x h' q⟩)
theorem cq_mono {sc : cmS} {d M : Nat} {as : List Value} {h : cmH} {K K' : Option Nat → cmH → Prop} (w : cm_cq sc d M as h K) (k : ∀ x h', K x h' → K' x h') : cm_cq sc d M as h K' := cm_wp.mono w (fun v h' q => by obtain ⟨x, e, q⟩ := q; exact ⟨x, e, k x h' q⟩)
theorem cv_mono {sc : cmS} {d M : Nat} {as : List Value} {h : cmH} {K K' : cmH → Prop} (w : cm_cv sc d M as h K) (k : ∀ h', K h' → K' h') : cm_cv sc d M as h K' := cm_wp.mono w (fun v h' q => ⟨q.1, k h' q.2⟩)
theorem ix_nI {i n : Nat} (hi : i < n) (hn : n < 2 ^ 31) : IX n (nI i) := ⟨nI_pos (by omega), by rw [nI_clamp (by omega)]; exact hi⟩
theorem ix_eq {x : Int32} {i n : Nat} (e : x = nI i) (hi : i < n) (hn : n < 2 ^ 31) : IX n x := e ▸ ix_nI hi hn
theorem i32_0 : (0 : Int32).toInt = 0 := by decide
theorem i32_1 : (1 : Int32).toInt = 1 := by decide
/-- between two numbers -/
theorem in_nI {x lo hi : Int32} (a b : Nat) (hlo : lo = nI a) (hhi : hi = nI b) (hb : b < 2 ^ 31) (ha : a < 2 ^ 31) : (lo ≤ x ∧ x ≤ hi) ↔ ∃ j, a ≤ j ∧ j ≤ b ∧ x = nI j := by
  subst hlo hhi
  constructor
  · rintro ⟨h1, h2⟩
    rw [Int32.le_iff_toInt_le, nI_toInt ha] at h1
    rw [Int32.le_iff_toInt_le, nI_toInt hb] at h2
    refine ⟨x.toInt.toNat, by omega, by omega, Int32.toInt_inj.mp ?_⟩
    rw [nI_toInt (by omega)]; omega
  · rintro ⟨j, h1, h2, rfl⟩
    exact ⟨nI_le h1 (by omega), nI_le h2 hb⟩
theorem in_lt {x : Int32} (n : Nat) (hn : n < 2 ^ 31) : (0 ≤ x ∧ x ≤ nI n - 1) ↔ ∃ j, j < n ∧ x = nI j := by
  cases n with
  | zero =>
    constructor
    · rintro ⟨h1, h2⟩
      rw [Int32.le_iff_toInt_le, i32_0] at h1
      rw [Int32.le_iff_toInt_le, show (nI 0 - 1).toInt = -1 by decide] at h2
      omega
    · rintro ⟨j, h, -⟩; omega
  | succ n =>
    rw [nI_pred]
    constructor
    · intro q
      obtain ⟨j, -, h2, h3⟩ := (in_nI 0 n rfl rfl (by omega) (by omega)).mp q
      exact ⟨j, by omega, h3⟩
    · rintro ⟨j, h, rfl⟩
      exact ⟨nI_pos' (by omega), nI_le (by omega) (by omega)⟩
section CHK
variable {sc : cmS} {d : Nat} {h : cmH} {K : Int32 → cmH → Prop}
theorem m_in {x lo hi : Int32} (t : lo ≤ x ∧ x ≤ hi → K 1 h) (f : ¬ (lo ≤ x ∧ x ≤ hi) → K 0 h) : cm_ci sc d 137 [.int x, .int lo, .int hi] h K :=
  ci_of rfl (s137_0 x lo hi ⟨fun c => ai (f fun q => absurd q.1 (Int32.not_le.mpr c)), fun c => ⟨fun c2 => ai (f fun q => absurd q.2 (Int32.not_le.mpr c2)), fun c2 => ai (t ⟨Int32.not_lt.mp c, Int32.not_lt.mp c2⟩)⟩⟩)
theorem c_in {x lo hi : Int32} (t : lo ≤ x ∧ x ≤ hi → K 1 h) (f : ¬ (lo ≤ x ∧ x ≤ hi) → K 0 h) : cm_ci sc d 13 [.int x, .int lo, .int hi] h K :=
  ci_of rfl (s13_0 x lo hi ⟨fun c => ai (f fun q => absurd q.1 (Int32.not_le.mpr c)), fun c => ⟨fun c2 => ai (f fun q => absurd q.2 (Int32.not_le.mpr c2)), fun c2 => ai (t ⟨Int32.not_lt.mp c, Int32.not_lt.mp c2⟩)⟩⟩)
theorem m_inN {x lo hi : Int32} (a b : Nat) (t : ∀ j, a ≤ j → j ≤ b → x = nI j → K 1 h) (f : (∀ j, a ≤ j → j ≤ b → x ≠ nI j) → K 0 h) (hlo : lo = nI a := by rfl) (hhi : hi = nI b := by rfl) (hb : b < 2 ^ 31 := by decide) (ha : a < 2 ^ 31 := by decide) : cm_ci sc d 137 [.int x, .int lo, .int hi] h K :=
  m_in (fun q => by obtain ⟨j, h1, h2, h3⟩ := (in_nI a b hlo hhi hb ha).mp q; exact t j h1 h2 h3) (fun q => f fun j h1 h2 h3 => q ((in_nI a b hlo hhi hb ha).mpr ⟨j, h1, h2, h3⟩))
theorem c_inN {x lo hi : Int32} (a b : Nat) (t : ∀ j, a ≤ j → j ≤ b → x = nI j → K 1 h) (f : (∀ j, a ≤ j → j ≤ b → x ≠ nI j) → K 0 h) (hlo : lo = nI a := by rfl) (hhi : hi = nI b := by rfl) (hb : b < 2 ^ 31 := by decide) (ha : a < 2 ^ 31 := by decide) : cm_ci sc d 13 [.int x, .int lo, .int hi] h K :=
  c_in (fun q => by obtain ⟨j, h1, h2, h3⟩ := (in_nI a b hlo hhi hb ha).mp q; exact t j h1 h2 h3) (fun q => f fun j h1 h2 h3 => q ((in_nI a b hlo hhi hb ha).mpr ⟨j, h1, h2, h3⟩))
theorem m_inL {x hi : Int32} (n : Nat) (hhi : hi = nI n) (hn : n < 2 ^ 31) (t : ∀ j, j < n → x = nI j → K 1 h) (f : (∀ j, j < n → x ≠ nI j) → K 0 h) : cm_ci sc d 137 [.int x, .int 0, .int (hi - 1)] h K := by
  subst hhi
  exact m_in (fun q => by obtain ⟨j, h1, h2⟩ := (in_lt n hn).mp q; exact t j h1 h2) (fun q => f fun j h1 h2 => q ((in_lt n hn).mpr ⟨j, h1, h2⟩))
theorem c_inL {x hi : Int32} (n : Nat) (hhi : hi = nI n) (hn : n < 2 ^ 31) (t : ∀ j, j < n → x = nI j → K 1 h) (f : (∀ j, j < n → x ≠ nI j) → K 0 h) : cm_ci sc d 13 [.int x, .int 0, .int (hi - 1)] h K := by
  subst hhi
  exact c_in (fun q => by obtain ⟨j, h1, h2⟩ := (in_lt n hn).mp q; exact t j h1 h2) (fun q => f fun j h1 h2 => q ((in_lt n hn).mpr ⟨j, h1, h2⟩))
theorem c_isSize {x : Int32} (t : ∀ j, j < 8 → x = nI j → K 1 h) (f : (∀ j, j < 8 → x ≠ nI j) → K 0 h) : cm_ci sc d 12 [.int x] h K := by
  refine ci_of rfl (s12_0 x ⟨fun c => ai (f ?_), fun c => ⟨fun c2 => ai (f ?_), fun c2 => ai ?_⟩⟩)
  · rintro j hj rfl; exact nI_pos (by omega) c
  · rintro j hj rfl; exact nI_ge (a := j) (b := 8) hj (by decide) c2
  · obtain ⟨j, hj, rfl⟩ := nI_of c
    exact t j (by rcases Nat.lt_or_ge j 8 with z | z; exact z; exact absurd (nI_le (a := 8) z hj) c2) rfl
end CHK
/-! sums -/
def cm_sum (f : Nat → Int32) : Nat → Int32
  | 0 => 0
  | n + 1 => cm_sum f n + f n
theorem cm_sum_congr {f g : Nat → Int32} : ∀ {n : Nat}, (∀ k, k < n → f k = g k) → cm_sum f n = cm_sum g n
  | 0, _ => rfl
  | n + 1, q => by
    show cm_sum f n + f n = cm_sum g n + g n
    rw [cm_sum_congr (fun k hk => q k (by omega)), q n (by omega)]
/-- a loop that counts up: from i to n, in steps of one -/
theorem up_ind {P : Nat → Prop} {n : Nat} (e : P n) (s : ∀ i, i < n → P (i + 1) → P i) : ∀ i, i ≤ n → P i := by
  intro i hi
  obtain ⟨k, rfl⟩ : ∃ k, n = i + k := ⟨n - i, by omega⟩
  clear hi
  induction k generalizing i with
  | zero => exact e
  | succ k ih =>
    exact s i (by omega) (ih (i + 1) (by rw [show i + 1 + k = i + (k + 1) by omega]; exact e) (by rw [show i + 1 + k = i + (k + 1) by omega]; exact s))
/-! stores read back -/
theorem u2_s {α : Type} {f : Nat → Nat → α} {a k : Nat} {v : α} : cm_u2 f a k v a k = v := if_pos ⟨rfl, rfl⟩
theorem u2_k {α : Type} {f : Nat → Nat → α} {a k j : Nat} {v : α} (q : j ≠ k) : cm_u2 f a k v a j = f a j := if_neg fun z => q z.2
theorem u2_a {α : Type} {f : Nat → Nat → α} {a b k j : Nat} {v : α} (q : b ≠ a) : cm_u2 f a k v b j = f b j := if_neg fun z => q z.1
/-- the same cells, with other ints and longs in them -/
def cm_w (h : cmH) (I : Nat → Nat → Int32) (J : Nat → Nat → Int64) : cmH := (h.1, h.2.1, h.2.2.1, I, J, h.2.2.2.2.2)
theorem cm_w_self (h : cmH) : cm_w h (cm_I h) (cm_J h) = h := rfl
theorem LY.w {h : cmH} {I : Nat → Nat → Int32} {J : Nat → Nat → Int64} (L : LY h) : LY (cm_w h I J) := L
theorem LY.s {h : cmH} {a k : Nat} {v : Int32} (L : LY h) : LY (cm_setI h a k v) := L
