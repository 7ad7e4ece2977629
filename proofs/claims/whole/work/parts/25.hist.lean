/-! ===== history, breaks ===== -/
def q_sumF (v : Nat → Int32) : Nat → Nat → Int32 → Int32
  | 0, _, a => a
  | n + 1, i, a => q_sumF v n (i + 1) (a + v i)
def q_brk (v : Nat → Int32) (m : Int32) : Nat → Nat → Int32
  | 0, _ => -1
  | n + 1, t => if v t ≤ m then q_brk v m n (t + 1) else nI (t + 1)
theorem q_sumF_congr {v w : Nat → Int32} : ∀ (n i : Nat) (a : Int32), (∀ k, i ≤ k → k < i + n → v k = w k) → q_sumF v n i a = q_sumF w n i a
  | 0, _, _, _ => rfl
  | n + 1, i, a, q => by
    show q_sumF v n (i + 1) (a + v i) = q_sumF w n (i + 1) (a + w i)
    rw [q i (by omega) (by omega), q_sumF_congr n (i + 1) _ (fun k h1 h2 => q k (by omega) (by omega))]
theorem q_brk_congr {v w : Nat → Int32} {m : Int32} : ∀ (n i : Nat), (∀ k, i ≤ k → k < i + n → v k = w k) → q_brk v m n i = q_brk w m n i
  | 0, _, _ => rfl
  | n + 1, i, q => by
    show (if v i ≤ m then q_brk v m n (i + 1) else nI (i + 1)) = if w i ≤ m then q_brk w m n (i + 1) else nI (i + 1)
    rw [q i (by omega) (by omega), q_brk_congr n (i + 1) (fun k h1 h2 => q k (by omega) (by omega))]
section HIST
variable {sc : cmS} {d : Nat} {h : cmH} {K : Int32 → cmH → Prop} {T : Nat}
theorem c_place {w t s : Nat} (k : K (nI (24 * t + 8 * w + s)) h) : cm_ci sc d 81 [.int (nI w), .int (nI (t + 1)), .int (nI s)] h K := by
  refine ci_of rfl (s81_0 _ _ _ (ai ?_))
  rw [nI_pred, show (24 : Int32) = nI 24 from rfl, show (8 : Int32) = nI 8 from rfl, pk_mul, pk_mul, nI_add, nI_add, Nat.mul_comm t, Nat.mul_comm w]
  exact k
theorem c_noted {w t s : Nat} (L : LY h) (ht : t < 2000) (hw : w < 3) (hs : s < 8) (k : K (cm_I h 20 (24 * t + 8 * w + s)) h) : cm_ci sc (d + 1) 92 [.ref 14, .int (nI w), .int (nI (t + 1)), .int (nI s)] h K := by
  refine ci_of rfl (s92_0 _ _ _ _ (c_place (s92_6 L _ _ _ _ _ ⟨fun q => absurd q (nI_pos (by omega)), fun _ => ⟨fun q => absurd q (nI_ge (b := 48000) (by omega) (by decide)), fun _ => ⟨ix_nI (by omega) (by decide), ai ?_⟩⟩⟩)))
  rw [nI_clamp (by omega)]; exact k
theorem m_history {x1 x2 x3 : Int32} (L : LY h) (hT : cm_I h 38 0 = nI T) (hT2 : T ≤ 2000) (t : ∀ t s w, t < T → s < 8 → w < 3 → x1 = nI (t + 1) → x2 = nI s → x3 = nI w → K (cm_I h 68 (3 * (8 * (t + 1) + s) + w)) h) (n : (∀ t s w, t < T → s < 8 → w < 3 → x1 = nI (t + 1) → x2 = nI s → x3 ≠ nI w) → K (-1) h) : cm_ci sc (d + 1) 198 [.ref 38, .int x1, .int x2, .int x3] h K := by
  refine ci_of rfl (s198_0 L x1 x2 x3 (m_inN 1 T (fun j hj1 hj2 e1 => ?_) (fun q => s198_9 x1 x2 x3 0 (br_t rfl (ai (n fun t s w ht hs hw e1 => absurd e1 (q (t + 1) (by omega) (by omega)))))) rfl hT (by omega) (by decide)))
  refine s198_9 x1 x2 x3 1 (br_f (by decide) (m_inN 0 7 (fun s _ hs e2 => ?_) (fun q => s198_19 x1 x2 x3 0 (br_t rfl (ai (n fun t s w ht hs hw e1 e2 => absurd e2 (q s (by omega) (by omega))))))))
  refine s198_19 x1 x2 x3 1 (br_f (by decide) (m_inN 0 2 (fun w _ hw e3 => ?_) (fun q => s198_28 L x1 x2 x3 0 (br_t rfl (ai (n fun t s w ht hs hw e1 e2 => q w (by omega) (by omega)))))))
  obtain ⟨i, rfl⟩ : ∃ i, j = i + 1 := ⟨j - 1, by omega⟩
  have k := t i s w (by omega) (by omega) (by omega) e1 e2 e3
  subst e1 e2 e3
  refine s198_28 L _ _ _ 1 (br_f (by decide) ⟨?_, ai ?_⟩)
  · rw [e24]; exact ix_nI (by omega) (by decide)
  · rw [e24, nI_clamp (by omega)]; exact k
theorem c_history {x1 x2 x3 : Int32} (L : LY h) (hT : cm_I h 0 12 = nI T) (hT2 : T ≤ 2000) (t : ∀ t s w, t < T → s < 8 → w < 3 → x1 = nI (t + 1) → x2 = nI s → x3 = nI w → K (cm_I h 20 (24 * t + 8 * w + s)) h) (n : (∀ t s w, t < T → s < 8 → w < 3 → x1 = nI (t + 1) → x2 = nI s → x3 ≠ nI w) → K (-1) h) : cm_ci sc (d + 2) 91 [.ref 0, .int x1, .int x2, .int x3] h K := by
  refine ci_of rfl (s91_0 L x1 x2 x3 (c_inN 1 T (fun j hj1 hj2 e1 => ?_) (fun q => s91_9 x1 x2 x3 0 (br_t rfl (ai (n fun t s w ht hs hw e1 => absurd e1 (q (t + 1) (by omega) (by omega)))))) rfl hT (by omega) (by decide)))
  refine s91_9 x1 x2 x3 1 (br_f (by decide) (c_isSize (fun s hs e2 => ?_) (fun q => s91_16 L x1 x2 x3 0 (br_f (by decide) (ai (n fun t s w ht hs hw e1 e2 => absurd e2 (q s (by omega))))))))
  obtain ⟨i, rfl⟩ : ∃ i, j = i + 1 := ⟨j - 1, by omega⟩
  have tt := fun w hw e3 => t i s w (by omega) (by omega) hw e1 e2 e3
  subst e1 e2
  refine s91_16 L _ _ x3 1 (br_t (by decide) ⟨fun z => ?_, fun z => ?_, fun z => ?_, fun z0 z1 z2 => ai (n ?_)⟩)
  · exact c_noted (w := 0) L (by omega) (by omega) hs (s91_58 _ _ _ _ (ai (tt 0 (by omega) z)))
  · exact c_noted (w := 1) L (by omega) (by omega) hs (s91_69 _ _ _ _ (ai (tt 1 (by omega) z)))
  · exact c_noted (w := 2) L (by omega) (by omega) hs (s91_80 _ _ _ _ (ai (tt 2 (by omega) z)))
  · rintro t s w ht hs hw - - e3
    obtain rfl | rfl | rfl : w = 0 ∨ w = 1 ∨ w = 2 := by omega
    · exact z0 e3
    · exact z1 e3
    · exact z2 e3
theorem c_lostFrom {s t : Nat} (L : LY h) (ht : t < 2000) (hs : s < 8) (k : K (q_sumF (fun k => cm_I h 20 (24 * t + 8 * 1 + k) + cm_I h 20 (24 * t + 8 * 2 + k)) (8 - s) s 0) h) : cm_ci sc (d + 2) 94 [.ref 14, .int (nI s), .int (nI (t + 1))] h K := by
  refine ci_of rfl (s94_0 _ _ _ _ ?_)
  have gen : ∀ (m i : Nat) (a : Int32), i + m = 8 → K (q_sumF (fun k => cm_I h 20 (24 * t + 8 * 1 + k) + cm_I h 20 (24 * t + 8 * 2 + k)) m i a) h → cm_wp sc (d + 2) 94 5 [some (.ref 14), some (.int (nI s)), some (.int (nI (t + 1))), some (.int a), some (.int (nI i))] [] h (fun v h' => ∃ x, v = some (.int x) ∧ K x h') := by
    intro m
    induction m with
    | zero =>
      intro i a hi kk
      obtain rfl : i = 8 := by omega
      exact s94_5 L _ _ _ _ ⟨fun _ => ai kk, fun q => absurd (Int32.le_refl _) q⟩
    | succ m ih =>
      intro i a hi kk
      refine s94_5 L _ _ _ _ ⟨fun q => absurd q (nI_ge (b := 8) (by omega) (by decide)), fun _ => c_noted (w := 1) L ht (by omega) (by omega) (s94_21 L _ _ _ _ _ _ (c_noted (w := 2) L ht (by omega) (by omega) (s94_29 _ _ _ _ _ _ _ ?_)))⟩
      rw [nI_1]
      exact ih (i + 1) _ (by omega) kk
  exact gen (8 - s) s 0 (by omega) k
theorem c_breaks {x1 x2 : Int32} (L : LY h) (hT : cm_I h 0 12 = nI T) (hT2 : T ≤ 2000) (t : ∀ s, s < 8 → x1 = nI s → 0 ≤ x2 → K (q_brk (fun t => q_sumF (fun k => cm_I h 20 (24 * t + 8 * 1 + k) + cm_I h 20 (24 * t + 8 * 2 + k)) (8 - s) s 0) x2 T 0) h) (n : (∀ s, s < 8 → x1 = nI s → ¬ 0 ≤ x2) → K (-1) h) : cm_ci sc (d + 3) 93 [.ref 0, .int x1, .int x2] h K := by
  refine ci_of rfl (s93_0 x1 x2 _ (c_isSize (fun s hs e => ?_) (fun q => s93_4 x1 x2 _ 0 (br_t rfl (ai (n fun s hs e => absurd e (q s hs)))))))
  subst e
  refine s93_4 _ x2 _ 1 (br_f (by decide) ⟨fun z => ?_, fun z => ai (n fun _ _ _ => z)⟩)
  have gen : ∀ (m i : Nat), i + m = T → K (q_brk (fun t => q_sumF (fun k => cm_I h 20 (24 * t + 8 * 1 + k) + cm_I h 20 (24 * t + 8 * 2 + k)) (8 - s) s 0) x2 m i) h → cm_wp sc (d + 3) 93 15 [some (.ref 0), some (.int (nI s)), some (.int x2), some (.int (nI (i + 1)))] [] h (fun v h' => ∃ x, v = some (.int x) ∧ K x h') := by
    intro m
    induction m with
    | zero =>
      intro i hi kk
      refine s93_15 L _ _ _ ⟨fun _ => ai kk, fun q => absurd ?_ q⟩
      rw [hT]; exact nI_lt (by omega) (by omega)
    | succ m ih =>
      intro i hi kk
      refine s93_15 L _ _ _ ⟨fun q => absurd q ?_, fun _ => c_lostFrom L (by omega) hs (s93_32 _ _ _ _ ⟨fun q => ?_, fun q => ai ?_⟩)⟩
      · rw [hT]; exact nI_nlt (by omega) (by omega)
      · unfold q_brk at kk
        rw [if_pos q] at kk
        rw [nI_1]; exact ih (i + 1) (by omega) kk
      · unfold q_brk at kk
        rw [if_neg q] at kk
        exact kk
  exact gen T 0 (by omega) (t s hs rfl z)
theorem m_breaks {x1 x2 : Int32} (L : LY h) (hT : cm_I h 38 0 = nI T) (hT2 : T ≤ 2000) (t : ∀ s, s < 8 → x1 = nI s → 0 ≤ x2 → K (q_brk (fun t => q_sumF (fun k => cm_I h 68 (3 * (8 * (t + 1) + k) + 1) + cm_I h 68 (3 * (8 * (t + 1) + k) + 2)) (8 - s) s 0) x2 T 0) h) (n : (∀ s, s < 8 → x1 = nI s → ¬ 0 ≤ x2) → K (-1) h) : cm_ci sc (d + 1) 199 [.ref 38, .int x1, .int x2] h K := by
  refine ci_of rfl (s199_0 x1 x2 _ _ _ (m_inN 0 7 (fun s _ hs e => ?_) (fun q => s199_7 x1 x2 _ _ _ 0 (br_t rfl (ai (n fun s hs e => absurd e (q s (by omega) (by omega))))))))
  subst e
  refine s199_7 _ x2 _ _ _ 1 (br_f (by decide) ⟨fun z => ?_, fun z => ai (n fun _ _ _ => z)⟩)
  have inner : ∀ (i : Nat) (hi : i < T) (m j : Nat) (a : Int32), j + m = 8 → (∀ (b : Int32) (u v : Option Value), b = q_sumF (fun k => cm_I h 68 (3 * (8 * (i + 1) + k) + 1) + cm_I h 68 (3 * (8 * (i + 1) + k) + 2)) m j a → (b ≤ x2 → cm_wp sc (d + 1) 199 18 [some (.ref 38), some (.int (nI s)), some (.int x2), some (.int (nI (i + 1) + 1)), u, v] [] h (fun v h' => ∃ x, v = some (.int x) ∧ K x h')) ∧ (¬ b ≤ x2 → K (nI (i + 1)) h)) → cm_wp sc (d + 1) 199 32 [some (.ref 38), some (.int (nI s)), some (.int x2), some (.int (nI (i + 1))), some (.int a), some (.int (nI j))] [] h (fun v h' => ∃ x, v = some (.int x) ∧ K x h') := by
    intro i hi m
    induction m with
    | zero =>
      intro j a hj kk
      obtain rfl : j = 8 := by omega
      refine s199_32 L _ _ _ _ _ ⟨fun _ => ⟨fun q => (kk a _ _ rfl).1 q, fun q => ai ((kk a none none rfl).2 q)⟩, fun q => absurd (Int32.le_refl _) q⟩
    | succ m ih =>
      intro j a hj kk
      refine s199_32 L _ _ _ _ _ ⟨fun q => absurd q (nI_ge (b := 8) (by omega) (by decide)), fun _ => ?_⟩
      rw [show (1 : Int32) = nI 1 from rfl, show (2 : Int32) = nI 2 from rfl, e24, e24, nI_clamp (by omega), nI_clamp (by omega), show nI 1 = (1 : Int32) from rfl, nI_1 j]
      exact ⟨ix_nI (by omega) (by decide), ix_nI (by omega) (by decide), ih (j + 1) _ (by omega) kk⟩
  have gen : ∀ (m i : Nat) (u v : Option Value), i + m = T → K (q_brk (fun t => q_sumF (fun k => cm_I h 68 (3 * (8 * (t + 1) + k) + 1) + cm_I h 68 (3 * (8 * (t + 1) + k) + 2)) (8 - s) s 0) x2 m i) h → cm_wp sc (d + 1) 199 18 [some (.ref 38), some (.int (nI s)), some (.int x2), some (.int (nI (i + 1))), u, v] [] h (fun v h' => ∃ x, v = some (.int x) ∧ K x h') := by
    intro m
    induction m with
    | zero =>
      intro i u v hi kk
      refine s199_18 L _ _ _ _ _ ⟨fun _ => ai kk, fun q => absurd ?_ q⟩
      rw [hT]; exact nI_lt (by omega) (by omega)
    | succ m ih =>
      intro i u v hi kk
      refine s199_18 L _ _ _ _ _ ⟨fun q => absurd q ?_, fun _ => inner i (by omega) (8 - s) s 0 (by omega) ?_⟩
      · rw [hT]; exact nI_nlt (by omega) (by omega)
      · rintro b u v rfl
        unfold q_brk at kk
        refine ⟨fun q => ?_, fun q => ?_⟩
        · rw [if_pos q] at kk
          rw [nI_1]; exact ih (i + 1) _ _ (by omega) kk
        · rw [if_neg q] at kk; exact kk
  exact gen T 0 _ _ (by omega) (t s (by omega) rfl z)
end HIST
