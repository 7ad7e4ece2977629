/-! ===== the reference: look, lead, partOf, tell ===== -/
/-- sums of naturals -/
def q_ns (v : Nat → Nat) : Nat → Nat
  | 0 => 0
  | n + 1 => q_ns v n + v n
theorem q_ns_congr {v w : Nat → Nat} : ∀ {n : Nat}, (∀ k, k < n → v k = w k) → q_ns v n = q_ns w n
  | 0, _ => rfl
  | n + 1, q => by
    show q_ns v n + v n = q_ns w n + w n
    rw [q_ns_congr (fun k hk => q k (by omega)), q n (by omega)]
theorem q_ns_mono (v : Nat → Nat) {i n : Nat} (h : i ≤ n) : q_ns v i ≤ q_ns v n := by
  obtain ⟨m, rfl⟩ : ∃ m, n = i + m := ⟨n - i, by omega⟩
  clear h
  induction m with
  | zero => exact Nat.le_refl _
  | succ m ih => exact Nat.le_trans ih (Nat.le_add_right _ _)
theorem q_ns_le {v : Nat → Nat} {B : Nat} : ∀ {n : Nat}, (∀ k, k < n → v k ≤ B) → q_ns v n ≤ B * n
  | 0, _ => by show 0 ≤ _; omega
  | n + 1, q => by
    have h1 := q_ns_le (n := n) (fun k hk => q k (by omega))
    have h2 := q n (by omega)
    show q_ns v n + v n ≤ B * (n + 1)
    rw [Nat.mul_add, Nat.mul_one]; omega
theorem cm_sum_nI {v : Nat → Nat} : ∀ n, cm_sum (fun s => nI (v s)) n = nI (q_ns v n)
  | 0 => rfl
  | n + 1 => by
    show cm_sum (fun s => nI (v s)) n + nI (v n) = _
    rw [cm_sum_nI n, nI_add]; rfl
/-- the whole parts of shares don't pass the whole -/
theorem q_fl_le {sh : Nat → Nat} {g Q : Nat} (hQ : 0 < Q) : ∀ n, Q * q_ns (fun o => g * sh o / Q) n ≤ g * q_ns sh n
  | 0 => by show Q * 0 ≤ _; omega
  | n + 1 => by
    have h1 := q_fl_le (sh := sh) (g := g) hQ n
    have h2 := Nat.mul_div_le (g * sh n) Q
    show Q * (q_ns (fun o => g * sh o / Q) n + g * sh n / Q) ≤ g * (q_ns sh n + sh n)
    rw [Nat.mul_add, Nat.mul_add]; omega
theorem q_fl_le' {sh : Nat → Nat} {g Q n : Nat} (hQ : 0 < Q) (hs : q_ns sh n ≤ Q) : q_ns (fun o => g * sh o / Q) n ≤ g := by
  have h1 := q_fl_le (sh := sh) (g := g) hQ n
  have h2 : g * q_ns sh n ≤ g * Q := Nat.mul_le_mul_left g hs
  rw [Nat.mul_comm g Q] at h2
  exact Nat.le_of_mul_le_mul_left (Nat.le_trans h1 h2) hQ
/-- how many ahead of f have a share -/
def q_ah (sh : Nat → Nat) : Nat → Nat
  | 0 => 0
  | n + 1 => q_ah sh n + if 0 < sh n then 1 else 0
theorem q_ah_le {sh : Nat → Nat} : ∀ n, q_ah sh n ≤ n
  | 0 => Nat.le_refl _
  | n + 1 => by
    have := q_ah_le (sh := sh) n
    unfold q_ah
    split <;> omega
/-- the grains of a size that come to f -/
def q_part (sh : Nat → Nat) (g Q F f : Nat) : Nat := g * sh f / Q + if q_ah sh f < g - q_ns (fun o => g * sh o / Q) F then 1 else 0
theorem q_part_le {sh : Nat → Nat} {g Q F f : Nat} (hs : sh f ≤ Q) : q_part sh g Q F f ≤ g + 1 := by
  unfold q_part
  have : g * sh f / Q ≤ g := by
    rcases Nat.eq_zero_or_pos Q with rfl | h
    · rw [Nat.div_zero]; omega
    · exact Nat.le_trans (Nat.div_le_div_right (Nat.mul_le_mul_left g hs)) (by rw [Nat.mul_div_cancel _ h]; exact Nat.le_refl _)
  split <;> omega
section LEAD
variable {sc : cmS} {d : Nat} {h : cmH} {K : Int32 → cmH → Prop} {KV : cmH → Prop}
theorem q_width_congr {I I' : Nat → Nat → Int32} {f c : Nat} (h1 : I' 43 (10 * f + c) = I 43 (10 * f + c)) (h2 : I' 45 (10 * f + c) = I 45 (10 * f + c)) (h3 : ∀ s, s < 8 → I' 46 (8 * (10 * f + c) + s) = I 46 (8 * (10 * f + c) + s)) : q_width I' f c = q_width I f c := by
  unfold q_width q_held
  rw [h1, h2, cm_sum_congr h3]
theorem m_look {f n : Nat} (L : LY h) (hf : f < 9) (hn : cm_I h 42 f = nI n) (h10 : n ≤ 10) (ht : ∀ c, c < n → cm_I h 45 (10 * f + c) ≠ 0) (k : ∀ h', XI h h' (fun x k => x = 75) → (∀ c, c < n → cm_I h' 75 c = q_width (cm_I h) f c) → KV h') : cm_cv sc (d + 3) 192 [.ref 38, .int (nI f)] h KV := by
  refine cv_of rfl (s192_0 _ _ ?_)
  have gen : ∀ (m i : Nat) (h' : cmH), i + m = n → XI h h' (fun x k => x = 75) → (∀ c, c < i → cm_I h' 75 c = q_width (cm_I h) f c) → cm_wp sc (d + 3) 192 2 [some (.ref 38), some (.int (nI f)), some (.int (nI i))] [] h' (fun v h' => v = none ∧ KV h') := by
    intro m
    induction m with
    | zero =>
      intro i h' hi X v
      obtain rfl : i = n := by omega
      refine s192_2 (X.ly L) _ _ ⟨ix_nI hf (by decide), fun _ => ⟨rfl, k h' X v⟩, fun w => absurd ?_ w⟩
      rw [nI_clamp (by omega), X.2 42 f (by simp), hn]; exact Int32.le_refl _
    | succ m ih =>
      intro i h' hi X v
      have e : q_width (cm_I h') f i = q_width (cm_I h) f i := q_width_congr (X.2 _ _ (by simp)) (X.2 _ _ (by simp)) (fun s _ => X.2 _ _ (by simp))
      refine s192_2 (X.ly L) _ _ ⟨ix_nI hf (by decide), fun w => absurd w ?_, fun _ => m_width (X.ly L) hf (by omega) (by rw [X.2 _ _ (by simp)]; exact ht i (by omega)) (s192_23 (X.ly L) _ _ _ _ ⟨ix_nI (by omega) (by decide), ?_⟩)⟩
      · rw [nI_clamp (by omega), X.2 42 f (by simp), hn]; exact nI_ge (by omega) (by omega)
      · rw [nI_clamp (by omega), nI_1, e]
        refine ih (i + 1) _ (by omega) (X.set rfl) fun c hc => ?_
        rcases Nat.lt_or_ge c i with z | z
        · rw [sI_o (Or.inr (by omega))]; exact v c z
        · obtain rfl : c = i := by omega
          exact sI_s
  exact gen n 0 h (by omega) XI.refl (fun c hc => absurd hc (by omega))
def P_ld (f n s : Nat) (x k : Nat) : Prop := (x = 48 ∧ k = 8 * f + s) ∨ (x = 46 ∧ ∃ c, c < n ∧ k = 8 * (10 * f + c) + s)
def LDp (h h' : cmH) (f n s : Nat) (W : Nat → Nat) (st l : Nat) (i : Nat) : Prop := XI h h' (P_ld f n s) ∧ cm_I h' 48 (8 * f + s) = cm_I h 48 (8 * f + s) + nI (l - q_in (W 0) s l) ∧ ∀ c, c < n → cm_I h' 46 (8 * (10 * f + c) + s) = if c < i then cm_I h 46 (8 * (10 * f + c) + s) + nI (q_kp (W c) s st (q_lf W s st (q_in (W 0) s l) c)) else cm_I h 46 (8 * (10 * f + c) + s)
theorem m_lead {f n s st l : Nat} {W : Nat → Nat} (L : LY h) (hf : f < 9) (hn : cm_I h 42 f = nI n) (h10 : n ≤ 10) (hs : s < 8) (n0 : 0 < n) (hW : ∀ c, c < n → cm_I h 75 c = nI (W c) ∧ W c < 2 ^ 31) (hst : cm_I h 39 s = nI st) (hst2 : st ≤ 1000) (hl : l ≤ 10000) (k : ∀ h', LDp h h' f n s W st l n → K (nI (q_lf W s st (q_in (W 0) s l) n)) h') : cm_ci sc d 196 [.ref 38, .int (nI f), .int (nI s), .int (nI l)] h K := by
  refine ci_of rfl (s196_0 L _ _ _ _ _ _ _ ?_)
  rw [(hW 0 n0).1]
  refine ⟨fun w => ?_, fun w => ?_⟩
  · have w := (nI_ltI (by omega) (hW 0 n0).2).mp w
    have e1 : q_in (W 0) s l = l := by unfold q_in; rw [if_pos w]
    rw [e1] at k
    have gen : ∀ (m i : Nat) (h' : cmH) (u v : Option Value), i + m = n → LDp h h' f n s W st l i → cm_wp sc d 196 33 [some (.ref 38), some (.int (nI f)), some (.int (nI s)), some (.int (nI l)), some (.int (nI (q_lf W s st l i))), some (.int (nI i)), u, v] [] h' (fun v h' => ∃ x, v = some (.int x) ∧ K x h') := by
      intro m
      induction m with
      | zero =>
        intro i h' u v hi X
        obtain rfl : i = n := by omega
        refine s196_33 (X.1.ly L) _ _ _ _ _ _ _ ⟨ix_nI hf (by decide), fun _ => ai (k h' X), fun w => absurd ?_ w⟩
        rw [nI_clamp (by omega), X.1.2 42 f (by unfold P_ld; omega), hn]; exact Int32.le_refl _
      | succ m ih =>
        intro i h' u v hi X
        have L' := X.1.ly L
        obtain ⟨eW, hW2⟩ := hW i (by omega)
        have eW' : cm_I h' 75 i = nI (W i) := by rw [X.1.2 75 i (by unfold P_ld; omega)]; exact eW
        have hlf := q_lf_le (W := W) (s := s) (st := st) (l := l) i
        have hkp := q_kp_le (W := W i) (s := s) (l := q_lf W s st l i) hst2
        have f1 := X.2.2 i (by omega)
        rw [if_neg (by omega)] at f1
        have fin : ∀ p : Nat, p = q_pt (W i) s st → ∀ u v : Option Value, cm_wp sc d 196 77 [some (.ref 38), some (.int (nI f)), some (.int (nI s)), some (.int (nI l)), some (.int (nI (q_lf W s st l i))), some (.int (nI i)), u, v] [.int (nI p)] h' (fun v h' => ∃ x, v = some (.int x) ∧ K x h') := by
          rintro p rfl u v
          have hp := q_pt_le (W := W i) (s := s) hst2
          have hm : q_lf W s st l i * q_pt (W i) s st ≤ 10000 * 1000 := Nat.mul_le_mul (by omega) hp
          have e : nI (q_lf W s st l i) * nI (q_pt (W i) s st) / 1000 = nI (q_kp (W i) s st (q_lf W s st l i)) := by
            rw [pk_mul, show (1000 : Int32) = nI 1000 from rfl, pk_div (by omega) (by decide) (by decide)]
            rfl
          refine s196_77 L' _ _ _ _ _ _ _ _ ⟨?_, ?_⟩
          · rw [e80]; exact ix_nI (by omega) (by decide)
          · rw [e80, nI_clamp (by omega), e, f1, nI_1, pk_sub hkp]
            refine ih (i + 1) _ _ _ (by omega) ⟨X.1.set (Or.inr ⟨rfl, i, by omega, rfl⟩), ?_, fun c hc => ?_⟩
            · rw [sI_o (Or.inl (by decide))]; exact X.2.1
            · by_cases z : c = i
              · subst z; rw [sI_s, if_pos (by omega), e1]
              · rw [sI_o (Or.inr (by omega)), X.2.2 c hc]
                by_cases y : c < i
                · rw [if_pos y, if_pos (by omega)]
                · rw [if_neg y, if_neg (by omega)]
        refine s196_33 L' _ _ _ _ _ _ _ ⟨ix_nI hf (by decide), fun w => absurd w ?_, fun _ => ⟨ix_nI (by omega) (by decide), ?_⟩⟩
        · rw [nI_clamp (by omega), X.1.2 42 f (by unfold P_ld; omega), hn]; exact nI_ge (by omega) (by omega)
        rw [nI_clamp (n := i) (by omega), eW']
        refine ⟨fun z => ⟨ix_nI hs (by decide), ?_⟩, fun z => fin 1000 ?_ _ _⟩
        · have z := (nI_ltI (by omega) hW2).mp z
          rw [pk_sub (by omega), nI_clamp (by omega), X.1.2 39 s (by unfold P_ld; omega), hst, pk_div (by omega) (by omega) (by omega)]
          exact ⟨nI_ne0 (by omega) (by omega), fin _ (by unfold q_pt; rw [if_pos z]) _ _⟩
        · have z : ¬ s < W i := fun y => z (nI_lt y hW2)
          unfold q_pt; rw [if_neg z]
    refine gen n 0 h _ _ (by omega) ⟨XI.refl, ?_, fun c hc => by rw [if_neg (by omega)]⟩
    rw [e1, Nat.sub_self]; exact (Int32.add_zero _).symm
  · have w : ¬ s < W 0 := fun y => w (nI_lt y (hW 0 n0).2)
    have e1 : q_in (W 0) s l = 0 := by unfold q_in; rw [if_neg w]
    rw [e1, q_lf_0] at k
    refine ⟨by rw [e8]; exact ix_nI (by omega) (by decide), ai (k _ ⟨?_, ?_, fun c hc => ?_⟩)⟩
    · rw [e8, nI_clamp (by omega)]; exact XI.refl.set (Or.inl ⟨rfl, rfl⟩)
    · rw [e8, nI_clamp (by omega), sI_s, e1, Nat.sub_zero]
    · rw [sI_o (Or.inl (by decide)), if_pos hc, e1, q_lf_0, q_kp_0]; exact (Int32.add_zero _).symm
theorem m_partOf {f s g Q F : Nat} {sh : Nat → Nat} (L : LY h) (hF : cm_I h 38 24 = nI F) (h8 : F ≤ 8) (hf : f < F) (hs : s < 8) (hg : cm_I h 67 s = nI g) (hg2 : g ≤ 9999) (hQ : cm_I h 38 48 = nI Q) (hQ1 : 1 ≤ Q) (hQ2 : Q ≤ 1000) (hsh : ∀ o, o < F → cm_I h 56 o = nI (sh o) ∧ sh o ≤ 1000) (hsum : q_ns sh F ≤ Q) (k : K (nI (q_part sh g Q F f)) h) : cm_ci sc d 195 [.ref 38, .int (nI f), .int (nI s)] h K := by
  have hfl := q_fl_le' (g := g) hQ1 hsum
  have flv : ∀ o, o < F → ((((cm_I h 67 s).toInt64) * ((cm_I h 56 o).toInt64)) / ((cm_I h 38 48).toInt64)).toInt32 = nI (g * sh o / Q) := by
    intro o ho
    have h1 := (hsh o ho).2
    have h2 : g * sh o ≤ 9999 * 1000 := Nat.mul_le_mul hg2 h1
    rw [hg, (hsh o ho).1, hQ, nI_l (by omega), nI_l (by omega), nI_l (by omega), lN_mul, lN_div (by omega) (by omega) (by omega), lN_i]
  have hq0 : ¬ (cm_I h 38 48).toInt64 = 0 := by
    rw [hQ, nI_l (by omega)]; exact lN_ne0 (by omega) (by omega)
  refine ci_of rfl (s195_0 L _ _ _ _ _ _ ⟨ix_nI hs (by decide), ix_nI (by omega) (by decide), hq0, ?_⟩)
  rw [nI_clamp (n := s) (by omega), nI_clamp (n := f) (by omega), flv f hf, hg]
  have gen : ∀ (m i : Nat), i + m = F → cm_wp sc d 195 37 [some (.ref 38), some (.int (nI f)), some (.int (nI s)), some (.int (nI (g * sh f / Q))), some (.int (nI (g - q_ns (fun o => g * sh o / Q) i))), some (.int (nI (q_ah sh (min i f)))), some (.int (nI i))] [] h (fun v h' => ∃ x, v = some (.int x) ∧ K x h') := by
    intro m
    induction m with
    | zero =>
      intro i hi
      obtain rfl : i = F := by omega
      have ha := q_ah_le (sh := sh) f
      rw [Nat.min_eq_right (by omega)]
      refine s195_37 L _ _ _ _ _ _ ⟨fun _ => ⟨fun w => ai ?_, fun w => ai ?_⟩, fun w => absurd (by rw [hF]; exact Int32.le_refl _) w⟩
      · have w := (nI_leI (by omega) (by omega)).mp w
        unfold q_part at k
        rw [if_neg (by omega), Nat.add_zero] at k
        rw [Int32.add_zero]; exact k
      · have w : ¬ g - q_ns (fun o => g * sh o / Q) i ≤ q_ah sh f := fun y => w (nI_le y (by omega))
        unfold q_part at k
        rw [if_pos (by omega)] at k
        rw [nI_1]; exact k
    | succ m ih =>
      intro i hi
      have hmono := q_ns_mono (fun o => g * sh o / Q) (i := i + 1) (n := F) (by omega)
      have hstep : q_ns (fun o => g * sh o / Q) (i + 1) = q_ns (fun o => g * sh o / Q) i + g * sh i / Q := rfl
      have this := ih (i + 1) (by omega)
      have hshi := (hsh i (by omega)).2
      refine s195_37 L _ _ _ _ _ _ ⟨fun w => absurd w (by rw [hF]; exact nI_ge (by omega) (by omega)), fun _ => ⟨ix_nI hs (by decide), ix_nI (by omega) (by decide), hq0, ?_⟩⟩
      rw [nI_clamp (n := s) (by omega), nI_clamp (n := i) (by omega), flv i (by omega), pk_sub (by omega), Nat.sub_sub, ← hstep]
      refine ⟨fun w => s195_96 _ _ _ _ _ _ _ (s195_97 _ _ _ _ _ _ _ _ ?_), fun w => ⟨fun w2 => s195_96 _ _ _ _ _ _ _ (s195_97 _ _ _ _ _ _ _ _ ?_), fun w2 => s195_97 _ _ _ _ _ _ _ _ ?_⟩⟩
      · have w := (nI_leI (by omega) (by omega)).mp w
        rw [Nat.min_eq_right (by omega)] at this
        rw [Int32.add_zero, nI_1, Nat.min_eq_right (by omega)]; exact this
      · have w : ¬ f ≤ i := fun y => w (nI_le y (by omega))
        rw [(hsh i (by omega)).1] at w2
        have w2 : ¬ 0 < sh i := fun y => absurd w2 (nI_nle y (by omega))
        rw [Nat.min_eq_left (by omega)] at this
        unfold q_ah at this
        rw [if_neg w2, Nat.add_zero] at this
        rw [Int32.add_zero, nI_1, Nat.min_eq_left (by omega)]; exact this
      · have w : ¬ f ≤ i := fun y => w (nI_le y (by omega))
        rw [(hsh i (by omega)).1] at w2
        have w2 : 0 < sh i := by
          rcases Nat.eq_zero_or_pos (sh i) with y | y
          · exact absurd (by rw [y]; decide) w2
          · exact y
        rw [Nat.min_eq_left (by omega)] at this
        unfold q_ah at this
        rw [if_pos w2] at this
        rw [nI_1, nI_1, Nat.min_eq_left (by omega)]; exact this
  have := gen F 0 (by omega)
  rw [Nat.min_eq_left (by omega)] at this
  exact this
theorem m_tell {s w T : Nat} {v : Int32} (L : LY h) (hT : cm_I h 38 0 = nI T) (hT2 : T ≤ 2000) (hs : s < 8) (hw : w < 3) (k : KV (cm_setI (cm_setI h 68 (3 * (8 * T + s) + w) (cm_I h 68 (3 * (8 * T + s) + w) + v)) 71 (6 * s + if w = 0 then 0 else w + 3) (cm_I h 71 (6 * s + if w = 0 then 0 else w + 3) + v))) : cm_cv sc d 193 [.ref 38, .int (nI s), .int (nI w), .int v] h KV := by
  refine cv_of rfl (s193_0 L _ _ _ ?_)
  rw [hT, e24, nI_clamp (by omega)]
  refine ⟨ix_nI (by omega) (by decide), fun z => ?_, fun z => ?_⟩
  · have z : w ≠ 0 := fun y => z (by rw [y]; rfl)
    rw [if_neg z] at k
    refine s193_41 (h := cm_setI h 68 _ _) L _ _ _ _ _ ?_
    rw [show (6 : Int32) = nI 6 from rfl, pk_mul, show (3 : Int32) = nI 3 from rfl, nI_add, nI_add, nI_clamp (by omega), sI_o (Or.inl (by decide))]
    exact ⟨ix_nI (by omega) (by decide), rfl, k⟩
  · have z : w = 0 := by
      have := nI_inj (a := w) (b := 0) (by omega) (by decide) (Decidable.not_not.mp z)
      exact this
    rw [if_pos z] at k
    refine s193_41 (h := cm_setI h 68 _ _) L _ _ _ _ _ ?_
    rw [show (6 : Int32) = nI 6 from rfl, pk_mul, Int32.add_zero, nI_clamp (by omega), sI_o (Or.inl (by decide))]
    exact ⟨ix_nI (by omega) (by decide), rfl, k⟩
end LEAD
