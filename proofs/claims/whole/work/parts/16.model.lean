/-! ===== the reference's layout, and its small readers ===== -/
theorem ci_of {sc : cmS} {d M : Nat} {as : List Value} {h : cmH} {K : Int32 → cmH → Prop} {ls : cmL} (e : cm_en M as = ls) (w : cm_wp sc d M 0 ls [] h (fun v h' => ∃ x, v = some (.int x) ∧ K x h')) : cm_ci sc d M as h K := by
  unfold cm_ci; rw [e]; exact w
theorem cm_ok_nI {h : cmH} {kd a i L : Nat} (hk : cm_kd h a = kd) (hn : a < cm_n h) (hl : cm_ln h a = L) (hi : i < L) (hL : L < 2 ^ 31) : cm_ok h kd a (nI i) := ⟨hk, hn, nI_pos (by omega), by rw [nI_clamp (by omega), hl]; exact hi⟩
/-- the reference's object at m: its arrays lie behind it in the order of making: (field, place, kind, length) -/
def rm_tab : List (Nat × Nat × Nat × Nat) := []
/-- sums -/
def cm_sum (f : Nat → Int32) : Nat → Int32
  | 0 => 0
  | n + 1 => cm_sum f n + f n
theorem m_in {sc : cmS} {d : Nat} {h : cmH} {K : Int32 → cmH → Prop} {x lo hi : Int32} (k : K (if lo ≤ x ∧ x ≤ hi then 1 else 0) h) : cm_ci sc d 137 [.int x, .int lo, .int hi] h K := by
  refine ci_of rfl (s137_0 x lo hi ⟨fun c => ⟨0, rfl, ?_⟩, fun c => ⟨fun c2 => ⟨0, rfl, ?_⟩, fun c2 => ⟨1, rfl, ?_⟩⟩⟩)
  · rw [if_neg (fun q => absurd q.1 (Int32.not_le.mpr c))] at k; exact k
  · rw [if_neg (fun q => absurd q.2 (Int32.not_le.mpr c2))] at k; exact k
  · rw [if_pos ⟨Int32.not_lt.mp c, Int32.not_lt.mp c2⟩] at k; exact k
/-- heldIn: a sum of eight -/
theorem m_heldIn_loop {sc : cmS} {d : Nat} {h : cmH} {Q : Option Value → cmH → Prop} {m b f c : Nat} (hm : cm_kd h m = 11 ∧ m < cm_n h) (hb : cm_R h m 9 = some b) (hk : cm_kd h b = 13) (hn : b < cm_n h) (hl : cm_ln h b = 720) (hf : f < 9) (hc : c < 10) (k : Q (some (.int (cm_sum (fun s => cm_I h b (8 * (10 * f + c) + s)) 8))) h) :
    ∀ (n i : Nat), i + n = 8 → cm_wp sc d 146 5 [some (.ref m), some (.int (nI f)), some (.int (nI c)), some (.int (cm_sum (fun s => cm_I h b (8 * (10 * f + c) + s)) i)), some (.int (nI i))] [] h Q := by
  intro n
  induction n with
  | zero =>
    intro i hi
    obtain rfl : i = 8 := by omega
    exact s146_5 m _ _ _ _ ⟨fun _ => k, fun q => absurd (nI_le (a := 8) (b := 8) (Nat.le_refl _) (by decide)) q⟩
  | succ n ih =>
    intro i hi
    have e1 : (8 : Int32) * (10 * nI f + nI c) + nI i = nI (8 * (10 * f + c) + i) := by
      rw [show (8 : Int32) = nI 8 from rfl, show (10 : Int32) = nI 10 from rfl, pk_mul, nI_add, pk_mul, nI_add]
    refine s146_5 m _ _ _ _ ⟨fun q => absurd q (nI_ge (a := i) (b := 8) (by omega) (by decide)), fun _ => ⟨hm, b, hb, ?_, ?_⟩⟩
    · rw [e1]; exact cm_ok_nI hk hn hl (by omega) (by decide)
    · rw [e1, nI_clamp (by omega)]
      have := ih (i + 1) (by omega)
      rw [nI_succ] at this
      exact this
