/-! ===== washing ===== -/
def q_stay (l st : Int32) : Int32 := (l.toInt64 * st.toInt64 / 1000).toInt32
def q_go (l st off u : Int32) : Int32 := ((((l.toInt64 - (l.toInt64 * st.toInt64 / 1000)) * off.toInt64) / 1000 * u.toInt64) / 1000).toInt32
theorem tdiv_b {x : Int} (h1 : -(2 ^ 31 * 1000) ≤ x) (h2 : x ≤ (2 ^ 31 - 1) * 1000) : -2 ^ 31 ≤ x.tdiv 1000 ∧ x.tdiv 1000 < 2 ^ 31 := by
  rcases Int.le_total 0 x with z | z
  · rw [Int.tdiv_eq_ediv_of_nonneg z]; omega
  · have e : x = -(-x) := by omega
    rw [e, Int.neg_tdiv, Int.tdiv_eq_ediv_of_nonneg (by omega)]; omega
theorem i32_ss (a b c : Int32) : a - b - c = a - (b + c) := by
  simp [Int32.sub_eq_add_neg, Int32.neg_add, Int32.add_assoc]
theorem q_stay_l {l st : Int32} (h0 : 0 ≤ st) (h1 : st ≤ 1000) : (q_stay l st).toInt64 = l.toInt64 * st.toInt64 / 1000 := by
  have a0 := Int32.le_iff_toInt_le.mp h0
  have a1 := Int32.le_iff_toInt_le.mp h1
  rw [i32_0] at a0
  rw [show (1000 : Int32).toInt = 1000 by decide] at a1
  have b0 := Int32.le_toInt l
  have b1 := Int32.toInt_lt l
  have em : (l.toInt64 * st.toInt64).toInt = l.toInt * st.toInt := by
    rw [Int64.toInt_mul, Int32.toInt_toInt64, Int32.toInt_toInt64]
    have c1 : l.toInt * st.toInt ≤ 2 ^ 31 * 1000 := by
      rcases Int.le_total 0 l.toInt with z | z
      · exact Int.le_trans (Int.mul_le_mul_of_nonneg_left a1 z) (Int.mul_le_mul_of_nonneg_right (by omega) (by decide))
      · have := Int.mul_nonpos_of_nonpos_of_nonneg z a0
        omega
    have c2 : -(2 ^ 31 * 1000) ≤ l.toInt * st.toInt := by
      rcases Int.le_total 0 l.toInt with z | z
      · have := Int.mul_nonneg z a0
        omega
      · have := Int.mul_le_mul_of_nonneg_left a1 (show 0 ≤ -l.toInt by omega)
        rw [Int.neg_mul, Int.neg_mul] at this
        omega
    exact Int.bmod_eq_of_le (by omega) (by omega)
  have c1 : l.toInt * st.toInt ≤ (2 ^ 31 - 1) * 1000 := by
    rcases Int.le_total 0 l.toInt with z | z
    · exact Int.le_trans (Int.mul_le_mul_of_nonneg_left a1 z) (Int.mul_le_mul_of_nonneg_right (by omega) (by decide))
    · have := Int.mul_nonpos_of_nonpos_of_nonneg z a0
      omega
  have c2 : -(2 ^ 31 * 1000) ≤ l.toInt * st.toInt := by
    rcases Int.le_total 0 l.toInt with z | z
    · have := Int.mul_nonneg z a0
      omega
    · have := Int.mul_le_mul_of_nonneg_left a1 (show 0 ≤ -l.toInt by omega)
      rw [Int.neg_mul, Int.neg_mul] at this
      omega
  have ed : (l.toInt64 * st.toInt64 / 1000).toInt = (l.toInt * st.toInt).tdiv 1000 := by
    rw [Int64.toInt_div, em, show (1000 : Int64).toInt = 1000 by decide]
    have t := tdiv_b c2 c1
    exact Int.bmod_eq_of_le (by omega) (by omega)
  unfold q_stay
  refine lg_i2l_l2i ?_ ?_
  · rw [ed]; exact (tdiv_b c2 c1).1
  · rw [ed]; exact (tdiv_b c2 c1).2
section WASH
variable {sc : cmS} {d : Nat} {h : cmH} {KV : cmH → Prop}
/-- what a washed cell writes -/
def P_cw (b : Nat) (x k : Nat) : Prop := (x = b + 1 ∧ k < 8) ∨ (x = b + 2 ∧ k < 8) ∨ (x = b ∧ k = 2) ∨ (x = 16 ∧ k < 8)
/-- what comes off a cell of a size -/
def c_go (h : cmH) (b : Nat) (u : Int32) (s : Nat) : Int32 := q_go (cm_I h (b + 1) s - cm_I h (b + 2) s) (cm_I h 4 s) (cm_I h 3 s) u
def c_st (h : cmH) (b s : Nat) : Int32 := q_stay (cm_I h (b + 1) s - cm_I h (b + 2) s) (cm_I h 4 s)
def CW (h h' : cmH) (b : Nat) (u : Int32) (i : Nat) : Prop := XI h h' (P_cw b) ∧ (∀ s, s < i → cm_I h' (b + 1) s = cm_I h (b + 1) s - c_go h b u s ∧ cm_I h' (b + 2) s = cm_I h (b + 2) s + c_st h b s ∧ cm_I h' 16 s = cm_I h 16 s + c_go h b u s) ∧ (∀ s, i ≤ s → cm_I h' (b + 1) s = cm_I h (b + 1) s ∧ cm_I h' (b + 2) s = cm_I h (b + 2) s ∧ cm_I h' 16 s = cm_I h 16 s) ∧ cm_I h' b 2 = cm_I h b 2 - cm_sum (c_go h b u) i
theorem c_cellWash {b : Nat} {u : Int32} (L : LY h) (E : CE h b) (hb : 88 ≤ b) (k : ∀ h', CW h h' b u 8 → KV h') : cm_cv sc (d + 1) 73 [.ref b, .int u, .ref 1, .ref 14] h KV := by
  refine cv_of rfl (s73_0 b u _ _ _ _ _ _ _ ?_)
  have gen : ∀ (m i : Nat) (h' : cmH) (u1 u2 u3 u4 u5 u6 : Option Value), i + m = 8 → CW h h' b u i → cm_wp sc (d + 1) 73 3 [some (.ref b), some (.int u), some (.ref 1), some (.ref 14), some (.int (nI i)), u1, u2, u3, u4, u5, u6] [] h' (fun v h' => v = none ∧ KV h') := by
    intro m
    induction m with
    | zero =>
      intro i h' u1 u2 u3 u4 u5 u6 hi X
      obtain rfl : i = 8 := by omega
      exact s73_3 (X.1.ly L) b _ _ _ _ _ _ _ _ ⟨fun _ => ⟨rfl, k h' X⟩, fun w => absurd (Int32.le_refl _) w⟩
    | succ m ih =>
      intro i h' u1 u2 u3 u4 u5 u6 hi X
      have L' := X.1.ly L
      refine s73_3 L' b _ _ _ _ _ _ _ _ ⟨fun w => absurd w (nI_ge (b := 8) (by omega) (by decide)), fun _ => ⟨X.1.CE E, ix_nI (by omega) (by decide), ?_⟩⟩
      rw [nI_clamp (by omega)]
      refine cv_of rfl (s74_0 (h := cm_setI (cm_setI (cm_setI h' (b + 2) i _) (b + 1) i _) b 2 _) L' _ _ ⟨ix_nI (by omega) (by decide), rfl, s73_119 _ _ _ _ _ _ ?_⟩)
      rw [nI_clamp (by omega), nI_1]
      obtain ⟨X1, v1, v2, v3⟩ := X
      obtain ⟨w1, w2, w3⟩ := v2 i (Nat.le_refl _)
      have e3 : cm_I h' 3 i = cm_I h 3 i := X1.2 _ _ (fun q => by unfold P_cw at q; omega)
      have e4 : cm_I h' 4 i = cm_I h 4 i := X1.2 _ _ (fun q => by unfold P_cw at q; omega)
      rw [sI_o (h := h') (b := b + 1) (Or.inl (by omega)), sI_o (b := b) (Or.inl (by omega)), sI_o (h := h') (b := b) (Or.inl (by omega)), sI_o (b := 16) (Or.inl (by omega)), sI_o (b := 16) (Or.inl (by omega)), sI_o (h := h') (b := 16) (Or.inl (by omega)), w1, w2, w3, v3, e3, e4]
      refine ih (i + 1) _ _ _ _ _ _ _ (by omega) ⟨?_, fun s hs => ?_, fun s hs => ?_, ?_⟩
      · exact ((((X1.set (Or.inr (Or.inl ⟨rfl, by omega⟩))).set (Or.inl ⟨rfl, by omega⟩)).set (Or.inr (Or.inr (Or.inl ⟨rfl, rfl⟩)))).set (Or.inr (Or.inr (Or.inr ⟨rfl, by omega⟩))))
      · rcases Nat.lt_or_ge s i with z | z
        · obtain ⟨y1, y2, y3⟩ := v1 s z
          refine ⟨?_, ?_, ?_⟩
          · rw [sI_o (Or.inr (by omega)), sI_o (Or.inl (by omega)), sI_o (Or.inr (by omega)), sI_o (Or.inr (by omega))]; exact y1
          · rw [sI_o (Or.inr (by omega)), sI_o (Or.inl (by omega)), sI_o (Or.inr (by omega)), sI_o (Or.inr (by omega))]; exact y2
          · rw [sI_o (Or.inr (by omega)), sI_o (Or.inl (by omega)), sI_o (Or.inr (by omega)), sI_o (Or.inr (by omega))]; exact y3
        · obtain rfl : s = i := by omega
          refine ⟨?_, ?_, ?_⟩
          · rw [sI_o (Or.inl (by omega)), sI_o (Or.inl (by omega)), sI_s]; rfl
          · rw [sI_o (Or.inl (by omega)), sI_o (Or.inl (by omega)), sI_o (Or.inl (by omega)), sI_s]; rfl
          · rw [sI_s]; rfl
      · obtain ⟨y1, y2, y3⟩ := v2 s (by omega)
        refine ⟨?_, ?_, ?_⟩
        · rw [sI_o (Or.inr (by omega)), sI_o (Or.inl (by omega)), sI_o (Or.inr (by omega)), sI_o (Or.inr (by omega))]; exact y1
        · rw [sI_o (Or.inr (by omega)), sI_o (Or.inl (by omega)), sI_o (Or.inr (by omega)), sI_o (Or.inr (by omega))]; exact y2
        · rw [sI_o (Or.inr (by omega)), sI_o (Or.inl (by omega)), sI_o (Or.inr (by omega)), sI_o (Or.inr (by omega))]; exact y3
      · rw [sI_o (Or.inl (by omega)), sI_s]
        show _ = cm_I h b 2 - (cm_sum (c_go h b u) i + c_go h b u i)
        rw [← i32_ss]
        rfl
  refine gen 8 0 h _ _ _ _ _ _ (by omega) ⟨XI.refl, fun s hs => absurd hs (by omega), fun s _ => ⟨rfl, rfl, rfl⟩, ?_⟩
  show _ = _ - (0 : Int32)
  rw [Int32.sub_zero]
/-- a washed filter, of the class: the first i cells -/
def P_fw (a n : Nat) (ca : Nat → Nat) (x k : Nat) : Prop := (x = 16 ∧ k < 8) ∨ (x = a + 2 ∧ k < 8) ∨ (x = a ∧ (k = 9 ∨ k = 10)) ∨ ∃ c, c < n ∧ (P_cw (ca c) x k ∨ (x = ca c ∧ k = 4))
def q_pore (p u be : Int32) : Int32 := if u ≤ be then p else if p + 1 < 20 then p + 1 else 20
def CWc (h h' : cmH) (a n : Nat) (ca : Nat → Nat) (u : Int32) (i : Nat) : Prop := XI h h' (P_fw a n ca) ∧ (∀ c, c < i → (∀ s, s < 8 → cm_I h' (ca c + 1) s = cm_I h (ca c + 1) s - c_go h (ca c) u s ∧ cm_I h' (ca c + 2) s = cm_I h (ca c + 2) s + c_st h (ca c) s) ∧ cm_I h' (ca c) 2 = cm_I h (ca c) 2 - cm_sum (c_go h (ca c) u) 8 ∧ cm_I h' (ca c) 4 = q_pore (cm_I h (ca c) 4) u (cm_I h a 5)) ∧ (∀ c, i ≤ c → c < n → (∀ s, s < 8 → cm_I h' (ca c + 1) s = cm_I h (ca c + 1) s ∧ cm_I h' (ca c + 2) s = cm_I h (ca c + 2) s) ∧ cm_I h' (ca c) 2 = cm_I h (ca c) 2 ∧ cm_I h' (ca c) 4 = cm_I h (ca c) 4)
def CWf (h h' : cmH) (a n : Nat) (ca : Nat → Nat) (u : Int32) : Prop := CWc h h' a n ca u n ∧ (∀ s, s < 8 → cm_I h' 16 s = cm_I h 16 s + (cm_I h (a + 2) s + cm_sum (fun c => c_go h (ca c) u s) n) ∧ cm_I h' (a + 2) s = 0) ∧ cm_I h' a 9 = 0 ∧ cm_I h' a 10 = cm_I h a 10 + 1
theorem P_fw3 {a n : Nat} {ca : Nat → Nat} (S : SP a n ca) : ¬ P_fw a n ca a 3 := by
  have h0 := S.1
  rintro (q | q | q | ⟨c, hc, q⟩)
  · omega
  · omega
  · omega
  · have := S.2.1 c hc
    unfold P_cw at q; omega
theorem P_fw5 {a n : Nat} {ca : Nat → Nat} (S : SP a n ca) : ∀ c, c < n → ¬ P_fw a n ca (ca c) 5 := by
  intro c hc
  have h0 := S.1
  have h1 := S.2.1 c hc
  rintro (q | q | q | ⟨c', hc', q⟩)
  · omega
  · omega
  · omega
  · have := S.2.2 c c' hc hc'
    unfold P_cw at q
    by_cases e : c = c'
    · subst e; omega
    · have := this e; omega
theorem c_filterWash {a n : Nat} {ca : Nat → Nat} {u : Int32} (L : LY h) (G : FC h a n ca) (S : SP a n ca) (k : ∀ h', CWf h h' a n ca u → KV h') : cm_cv sc (d + 2) 72 [.ref a, .int u, .ref 1, .ref 14] h KV := by
  have h0 := S.1
  have h10 := G.2.2.1
  refine cv_of rfl (s72_0 a u _ _ ?_)
  -- the cake
  have cake : ∀ (m i : Nat) (h' : cmH) (v : Option Value), i + m = 8 → CWc h h' a n ca u n → (∀ s, s < i → cm_I h' 16 s = cm_I h 16 s + (cm_I h (a + 2) s + cm_sum (fun c => c_go h (ca c) u s) n) ∧ cm_I h' (a + 2) s = 0) → (∀ s, i ≤ s → s < 8 → cm_I h' 16 s = cm_I h 16 s + cm_sum (fun c => c_go h (ca c) u s) n ∧ cm_I h' (a + 2) s = cm_I h (a + 2) s) → cm_I h' a 10 = cm_I h a 10 → cm_wp sc (d + 2) 72 67 [some (.ref a), some (.int u), some (.ref 1), some (.ref 14), some (.int (nI i)), v] [] h' (fun v h' => v = none ∧ KV h') := by
    intro m
    induction m with
    | zero =>
      intro i h' v hi X v1 un e10
      obtain rfl : i = 8 := by omega
      have G' := X.1.FC G (P_fw3 S) (P_fw5 S)
      refine s72_67 (X.1.ly L) a _ _ _ ⟨fun _ => ⟨G'.1, rfl, k _ ⟨⟨?_, fun c hc => ?_, fun c h1 h2 => absurd h1 (by omega)⟩, fun s hs => ?_, ?_, ?_⟩⟩, fun w => absurd (Int32.le_refl _) w⟩
      · exact (X.1.set (Or.inr (Or.inr (Or.inl ⟨rfl, Or.inl rfl⟩)))).set (Or.inr (Or.inr (Or.inl ⟨rfl, Or.inr rfl⟩)))
      · have hs := S.2.1 c hc
        obtain ⟨w1, w2, w3⟩ := X.2.1 c hc
        refine ⟨fun s hs => ?_, ?_, ?_⟩
        · rw [sI_o (Or.inl (by omega)), sI_o (Or.inl (by omega)), sI_o (Or.inl (by omega)), sI_o (Or.inl (by omega))]; exact w1 s hs
        · rw [sI_o (Or.inl (by omega)), sI_o (Or.inl (by omega))]; exact w2
        · rw [sI_o (Or.inl (by omega)), sI_o (Or.inl (by omega))]; exact w3
      · rw [sI_o (Or.inl (by omega)), sI_o (Or.inl (by omega)), sI_o (Or.inl (by omega)), sI_o (Or.inl (by omega))]; exact v1 s hs
      · rw [sI_o (Or.inr (by decide)), sI_s]
      · rw [sI_s, sI_o (Or.inr (by decide)), e10]
    | succ m ih =>
      intro i h' v hi X v1 un e10
      have G' := X.1.FC G (P_fw3 S) (P_fw5 S)
      have L' := X.1.ly L
      obtain ⟨u1, u2⟩ := un i (Nat.le_refl _) (by omega)
      refine s72_67 L' a _ _ _ ⟨fun w => absurd w (nI_ge (b := 8) (by omega) (by decide)), fun _ => ⟨G'.1, ix_nI (by omega) (by decide), ?_⟩⟩
      rw [nI_clamp (by omega)]
      refine cv_of rfl (s74_0 L' _ _ ⟨ix_nI (by omega) (by decide), rfl, s72_87 a _ _ _ ⟨G'.1, ix_nI (by omega) (by decide), ?_⟩⟩)
      rw [nI_clamp (by omega), nI_1, u1, u2]
      refine ih (i + 1) _ _ (by omega) ⟨?_, fun c hc => ?_, fun c h1 h2 => absurd h1 (by omega)⟩ (fun s hs => ?_) (fun s h1 h2 => ?_) ?_
      · exact (X.1.set (Or.inl ⟨rfl, by omega⟩)).set (Or.inr (Or.inl ⟨rfl, by omega⟩))
      · have hs := S.2.1 c hc
        obtain ⟨w1, w2, w3⟩ := X.2.1 c hc
        refine ⟨fun s hs => ?_, ?_, ?_⟩
        · rw [sI_o (Or.inl (by omega)), sI_o (Or.inl (by omega)), sI_o (Or.inl (by omega)), sI_o (Or.inl (by omega))]; exact w1 s hs
        · rw [sI_o (Or.inl (by omega)), sI_o (Or.inl (by omega))]; exact w2
        · rw [sI_o (Or.inl (by omega)), sI_o (Or.inl (by omega))]; exact w3
      · rcases Nat.lt_or_ge s i with z | z
        · rw [sI_o (Or.inl (by omega)), sI_o (Or.inr (by omega)), sI_o (Or.inr (by omega)), sI_o (Or.inl (by omega))]; exact v1 s z
        · obtain rfl : s = i := by omega
          rw [sI_o (Or.inl (by omega)), sI_s, sI_s, Int32.add_assoc, Int32.add_comm (cm_sum _ _)]
          exact ⟨rfl, rfl⟩
      · rw [sI_o (Or.inl (by omega)), sI_o (Or.inr (by omega)), sI_o (Or.inr (by omega)), sI_o (Or.inl (by omega))]; exact un s (by omega) h2
      · rw [sI_o (Or.inl (by omega)), sI_o (Or.inl (by omega))]; exact e10
  -- the cells
  have cells : ∀ (m i : Nat) (h' : cmH) (v : Option Value), i + m = n → CWc h h' a n ca u i → (∀ s, s < 8 → cm_I h' 16 s = cm_I h 16 s + cm_sum (fun c => c_go h (ca c) u s) i ∧ cm_I h' (a + 2) s = cm_I h (a + 2) s) → cm_I h' a 10 = cm_I h a 10 → cm_I h' a 5 = cm_I h a 5 → cm_wp sc (d + 2) 72 3 [some (.ref a), some (.int u), some (.ref 1), some (.ref 14), some (.int (nI i)), v] [] h' (fun v h' => v = none ∧ KV h') := by
    intro m
    induction m with
    | zero =>
      intro i h' v hi X v1 e10 e5
      obtain rfl : i = n := by omega
      have G' := X.1.FC G (P_fw3 S) (P_fw5 S)
      refine s72_3 a _ _ _ ⟨G'.1, fun _ => cake 8 0 h' _ (by omega) X (fun s hs => absurd hs (by omega)) (fun s _ hs => v1 s hs) e10, fun w => absurd ?_ w⟩
      rw [G'.2.1]; exact Int32.le_refl _
    | succ m ih =>
      intro i h' v hi X v1 e10 e5
      have G' := X.1.FC G (P_fw3 S) (P_fw5 S)
      have L' := X.1.ly L
      have hsi := S.2.1 i (by omega)
      refine s72_3 a _ _ _ ⟨G'.1, fun w => absurd w ?_, fun _ => c_cellI G' (by omega) (s72_18 a _ _ _ (some (ca i)) ⟨fun w => (by cases w), fun b eb => ?_⟩)⟩
      · rw [G'.2.1]; exact nI_ge (by omega) (by omega)
      cases eb
      have E := (G'.2.2.2 i (by omega)).2.1
      obtain ⟨un1, un2, un3⟩ := X.2.2 i (Nat.le_refl _) (by omega)
      refine ⟨E, c_cellWash L' E hsi.1 (fun h2 Y => s72_33 a _ _ (some (ca i)) ⟨Y.1.FL G'.1, ?_⟩)⟩
      have g3 : ∀ s, s < 8 → cm_I h' 3 s = cm_I h 3 s ∧ cm_I h' 4 s = cm_I h 4 s := by
        intro s hs
        refine ⟨X.1.2 _ _ ?_, X.1.2 _ _ ?_⟩
        · rintro (q | q | q | ⟨c, hc, q⟩)
          · omega
          · omega
          · omega
          · have := S.2.1 c hc; unfold P_cw at q; omega
        · rintro (q | q | q | ⟨c, hc, q⟩)
          · omega
          · omega
          · omega
          · have := S.2.1 c hc; unfold P_cw at q; omega
      have egl : ∀ s, s < 8 → c_go h' (ca i) u s = c_go h (ca i) u s ∧ c_st h' (ca i) s = c_st h (ca i) s := by
        intro s hs
        unfold c_go c_st
        rw [(un1 s hs).1, (un1 s hs).2, (g3 s hs).1, (g3 s hs).2]
        exact ⟨rfl, rfl⟩
      have X2 : XI h h2 (P_fw a n ca) := X.1.trans (Y.1.mono fun x k q => Or.inr (Or.inr (Or.inr ⟨i, by omega, Or.inl q⟩)))
      have yo : ∀ x k, ¬ P_cw (ca i) x k → cm_I h2 x k = cm_I h' x k := Y.1.2
      have fin : ∀ h3 : cmH, XI h h3 (P_fw a n ca) → cm_I h3 (ca i) 4 = q_pore (cm_I h (ca i) 4) u (cm_I h a 5) → (∀ x k, ¬ (x = ca i ∧ k = 4) → cm_I h3 x k = cm_I h2 x k) → cm_wp sc (d + 2) 72 58 [some (.ref a), some (.int u), some (.ref 1), some (.ref 14), some (.int (nI i)), some (va_rf (some (ca i)))] [] h3 (fun v h' => v = none ∧ KV h') := by
        intro h3 X3 p4 oth
        refine s72_58 a _ _ (some (ca i)) ?_
        rw [nI_1]
        refine ih (i + 1) h3 _ (by omega) ⟨X3, fun c hc => ?_, fun c h1 h2 => ?_⟩ (fun s hs => ?_) ?_ ?_
        · rcases Nat.lt_or_ge c i with z | z
          · have hs2 := S.2.2 c i (by omega) (by omega) (by omega)
            have hsc := S.2.1 c (by omega)
            obtain ⟨w1, w2, w3⟩ := X.2.1 c z
            refine ⟨fun s hs => ⟨?_, ?_⟩, ?_, ?_⟩
            · rw [oth _ _ (by omega), yo _ _ (by unfold P_cw; omega)]; exact (w1 s hs).1
            · rw [oth _ _ (by omega), yo _ _ (by unfold P_cw; omega)]; exact (w1 s hs).2
            · rw [oth _ _ (by omega), yo _ _ (by unfold P_cw; omega)]; exact w2
            · rw [oth _ _ (by omega), yo _ _ (by unfold P_cw; omega)]; exact w3
          · obtain rfl : c = i := by omega
            refine ⟨fun s hs => ⟨?_, ?_⟩, ?_, p4⟩
            · rw [oth _ _ (by omega), (Y.2.1 s hs).1, (un1 s hs).1, (egl s hs).1]
            · rw [oth _ _ (by omega), (Y.2.1 s hs).2.1, (un1 s hs).2, (egl s hs).2]
            · rw [oth _ _ (by omega), Y.2.2.2, un2]
              exact congrArg (fun y => cm_I h (ca c) 2 - y) (cm_sum_congr fun s hs => (egl s hs).1)
        · have hs2 := S.2.2 c i (by omega) (by omega) (by omega)
          have hsc := S.2.1 c (by omega)
          obtain ⟨w1, w2, w3⟩ := X.2.2 c (by omega) h2
          refine ⟨fun s hs => ⟨?_, ?_⟩, ?_, ?_⟩
          · rw [oth _ _ (by omega), yo _ _ (by unfold P_cw; omega)]; exact (w1 s hs).1
          · rw [oth _ _ (by omega), yo _ _ (by unfold P_cw; omega)]; exact (w1 s hs).2
          · rw [oth _ _ (by omega), yo _ _ (by unfold P_cw; omega)]; exact w2
          · rw [oth _ _ (by omega), yo _ _ (by unfold P_cw; omega)]; exact w3
        · refine ⟨?_, ?_⟩
          · rw [oth _ _ (by omega), (Y.2.1 s hs).2.2, (v1 s hs).1, (egl s hs).1, Int32.add_assoc]; rfl
          · rw [oth _ _ (by omega), yo _ _ (by unfold P_cw; omega)]; exact (v1 s hs).2
        · rw [oth _ _ (by omega), yo _ _ (by unfold P_cw; omega)]; exact e10
        · rw [oth _ _ (by omega), yo _ _ (by unfold P_cw; omega)]; exact e5
      have e5' : cm_I h2 a 5 = cm_I h a 5 := by rw [yo _ _ (by unfold P_cw; omega)]; exact e5
      have e4' : cm_I h2 (ca i) 4 = cm_I h (ca i) 4 := by rw [yo _ _ (by unfold P_cw; omega)]; exact un3
      rw [e5']
      refine ⟨fun q => fin h2 X2 ?_ (fun x k _ => rfl), fun q => ⟨_, rfl, Y.1.CE E, fin _ (X2.set (Or.inr (Or.inr (Or.inr ⟨i, by omega, Or.inr ⟨rfl, rfl⟩⟩)))) ?_ (fun x k z => ?_)⟩⟩
      · unfold q_pore; rw [if_pos q]; exact e4'
      · rw [sI_s, e4']; unfold q_pore; rw [if_neg q]
      · exact sI_o (by omega)
  exact cells n 0 h _ (by omega) ⟨XI.refl, fun c hc => absurd hc (by omega), fun c _ _ => ⟨fun s _ => ⟨rfl, rfl⟩, rfl, rfl⟩⟩ (fun s _ => ⟨(Int32.add_zero _).symm, rfl⟩) rfl rfl
end WASH
