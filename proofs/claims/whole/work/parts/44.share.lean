/-! ===== weights and shares ===== -/
/-- the weight of a filter that runs -/
def q_wt (bed : Int32) (k : Nat) : Nat := if bed = -1 then 0 else 1000000 / max 1 (bed.toNatClampNeg + k)
theorem q_wt_le {bed : Int32} {k : Nat} : q_wt bed k ≤ 1000000 := by
  unfold q_wt
  split
  · omega
  · exact Nat.div_le_self _ _
/-- the share of f: w the weights -/
def q_bs (w : Nat → Nat) (Q F f : Nat) : Nat := Q * w f / q_ns w F
def q_sh (w : Nat → Nat) (Q F f : Nat) : Nat := if w f = 0 then 0 else q_bs w Q F f + if q_ah w f < Q - q_ns (q_bs w Q F) F then 1 else 0
theorem q_ns_one (v : Nat → Nat) {i n : Nat} (h : i < n) : v i ≤ q_ns v n := by
  have h1 := q_ns_mono v (i := i + 1) (n := n) (by omega)
  have h2 : q_ns v (i + 1) = q_ns v i + v i := rfl
  omega
theorem q_bs_sum {w : Nat → Nat} {Q F : Nat} : q_ns (q_bs w Q F) F ≤ Q := by
  rcases Nat.eq_zero_or_pos (q_ns w F) with z | z
  · have : q_ns (q_bs w Q F) F = 0 := by
      have h : ∀ k, k < F → q_bs w Q F k ≤ 0 := fun k hk => by unfold q_bs; rw [z, Nat.div_zero]; exact Nat.le_refl _
      have := q_ns_le h
      omega
    omega
  · exact q_fl_le' (sh := w) z (Nat.le_refl _)
theorem q_ah_mono {w : Nat → Nat} {i n : Nat} (h : i ≤ n) : q_ah w i ≤ q_ah w n := by
  obtain ⟨m, rfl⟩ : ∃ m, n = i + m := ⟨n - i, by omega⟩
  clear h
  induction m with
  | zero => exact Nat.le_refl _
  | succ m ih => exact Nat.le_trans ih (Nat.le_add_right _ _)
/-- what is lost by cutting is less than one each -/
theorem q_cutl {v : Nat → Nat} {A D : Nat} (hD : 0 < D) : ∀ n, A * q_ns v n ≤ D * (q_ns (fun o => A * v o / D) n + q_ah v n)
  | 0 => by show A * 0 ≤ _; omega
  | n + 1 => by
    have h1 := q_cutl (v := v) (A := A) hD n
    have h2 := Nat.div_add_mod (A * v n) D
    have h3 := Nat.mod_lt (A * v n) hD
    show A * (q_ns v n + v n) ≤ D * (q_ns (fun o => A * v o / D) n + A * v n / D + (q_ah v n + if 0 < v n then 1 else 0))
    rw [Nat.mul_add A]
    by_cases z : 0 < v n
    · rw [if_pos z]
      have e : D * (q_ns (fun o => A * v o / D) n + A * v n / D + (q_ah v n + 1)) = D * (q_ns (fun o => A * v o / D) n + q_ah v n) + D * (A * v n / D) + D := by
        rw [← Nat.mul_add, ← Nat.mul_succ]; congr 1; omega
      omega
    · rw [if_neg z, show v n = 0 by omega, Nat.mul_zero, Nat.zero_div]
      exact h1
theorem q_cut1 {v : Nat → Nat} {A D n : Nat} (hD : 0 < D) (hs : q_ns v n = D) : A ≤ q_ns (fun o => A * v o / D) n + q_ah v n := by
  have := q_cutl (v := v) (A := A) hD n
  rw [hs, Nat.mul_comm A D] at this
  exact Nat.le_of_mul_le_mul_left this hD
/-- what is left goes by one each to the first with weight: the sum -/
theorem q_sh_part {w : Nat → Nat} {Q F : Nat} : ∀ i, i ≤ F → q_ns (q_sh w Q F) i = q_ns (q_bs w Q F) i + min (q_ah w i) (Q - q_ns (q_bs w Q F) F)
  | 0, _ => by show 0 = 0 + min 0 _; omega
  | i + 1, h => by
    have ih := q_sh_part (w := w) (Q := Q) (F := F) i (by omega)
    show q_ns (q_sh w Q F) i + q_sh w Q F i = q_ns (q_bs w Q F) i + q_bs w Q F i + min (q_ah w i + if 0 < w i then 1 else 0) _
    rw [ih]
    unfold q_sh
    by_cases z : w i = 0
    · rw [if_pos z, if_neg (by omega)]
      have : q_bs w Q F i = 0 := by unfold q_bs; rw [z, Nat.mul_zero, Nat.zero_div]
      omega
    · rw [if_neg z, if_pos (show 0 < w i by omega)]
      by_cases y : q_ah w i < Q - q_ns (q_bs w Q F) F
      · rw [if_pos y]; omega
      · rw [if_neg y]; omega
theorem q_sh_sum_le {w : Nat → Nat} {Q F : Nat} : q_ns (q_sh w Q F) F ≤ Q := by
  have h1 := q_sh_part (w := w) (Q := Q) (F := F) F (Nat.le_refl _)
  have h2 := q_bs_sum (w := w) (Q := Q) (F := F)
  omega
theorem q_sh_sum {w : Nat → Nat} {Q F : Nat} (hw : 0 < q_ns w F) : q_ns (q_sh w Q F) F = Q := by
  have h1 := q_sh_part (w := w) (Q := Q) (F := F) F (Nat.le_refl _)
  have h2 := q_bs_sum (w := w) (Q := Q) (F := F)
  have h3 := q_cut1 (v := w) (A := Q) hw rfl
  show _ = _
  have h4 : q_ns (fun o => Q * w o / q_ns w F) F = q_ns (q_bs w Q F) F := rfl
  omega
theorem q_sh_le {w : Nat → Nat} {Q F f : Nat} (hf : f < F) : q_sh w Q F f ≤ Q := Nat.le_trans (q_ns_one _ hf) q_sh_sum_le
theorem q_sh0 {w : Nat → Nat} {Q F f : Nat} (hw : q_ns w F = 0) (hf : f < F) : q_sh w Q F f = 0 := by
  unfold q_sh
  rw [if_pos]
  have := q_ns_one w hf
  omega
/-- behind the shares of the grains nothing is left -/
theorem q_part_all {sh : Nat → Nat} {g Q F : Nat} (hQ : 0 < Q) (hs : q_ns sh F = Q) : g - q_ns (fun o => g * sh o / Q) F ≤ q_ah sh F := by
  have := q_cut1 (v := sh) (A := g) (n := F) hQ hs
  omega
section SHARES
variable {sc : cmS} {d : Nat} {h : cmH} {K : Int32 → cmH → Prop} {KV : cmH → Prop}
theorem m_weightOf {f n k : Nat} (L : LY h) (hf : f < 9) (hn : cm_I h 42 f = nI n) (h10 : n ≤ 10) (ht : ∀ c, c < n → cm_I h 45 (10 * f + c) ≠ 0) (hk : q_cake (cm_I h) f = nI k) (hk2 : k < 2 ^ 30) (kk : K (nI (q_wt (q_bed (cm_I h) n f) k)) h) : cm_ci sc (d + 4) 191 [.ref 38, .int (nI f)] h K := by
  refine ci_of rfl (s191_0 L _ _ (m_bed L hf hn h10 ht (s191_5 L _ _ _ ⟨fun w => m_cakeOf L hf (s191_25 _ _ _ _ _ _ ?_), fun w => ai ?_⟩)))
  · obtain ⟨b, hb, eb⟩ := (q_bed_cases h10).resolve_left w
    unfold q_wt at kk
    rw [if_neg w, eb, nI_clamp (by omega)] at kk
    have e : (if (1 : Int32) < nI b + nI k then nI b + nI k else 1) = nI (max 1 (b + k)) := by
      rw [nI_add]
      by_cases z : 1 < b + k
      · rw [if_pos (show (1 : Int32) < nI (b + k) from nI_lt (a := 1) z (by omega)), Nat.max_eq_right (by omega)]
      · rw [if_neg (show ¬ (1 : Int32) < nI (b + k) from nI_nlt (a := 1) (b := b + k) (by omega) (by decide)), Nat.max_eq_left (by omega)]; rfl
    rw [eb, hk, e, show (1000000 : Int32) = nI 1000000 from rfl, pk_div (by decide) (by omega) (by omega)]
    exact ⟨nI_ne0 (by omega) (by omega), ai kk⟩
  · unfold q_wt at kk
    rw [if_pos (Decidable.not_not.mp w)] at kk
    exact kk
/-- the weights of the reference -/
def m_w (I : Nat → Nat → Int32) (C kc : Nat → Nat) (f : Nat) : Nat := if I 59 f = 0 then 0 else q_wt (q_bed I (C f) f) (kc f)
theorem q_bed_congr {I I' : Nat → Nat → Int32} {n f : Nat} (h : ∀ c, c < n → q_width I' f c = q_width I f c) : q_bed I' n f = q_bed I n f := by
  unfold q_bed
  exact q_sumN_congr n 0 0 (fun c _ hc => by rw [h c (by omega)])
/-- what flow asks of its start -/
def FW (I : Nat → Nat → Int32) (F Q T : Nat) (C kc pr st g : Nat → Nat) : Prop := I 38 24 = nI F ∧ F ≤ 8 ∧ I 38 48 = nI Q ∧ 1 ≤ Q ∧ Q ≤ 1000 ∧ I 38 0 = nI T ∧ T ≤ 2000 ∧ (∀ f, f < F → I 42 f = nI (C f) ∧ C f ≤ 10 ∧ (∀ c, c < C f → I 45 (10 * f + c) ≠ 0) ∧ q_cake I f = nI (kc f) ∧ kc f < 2 ^ 30 ∧ I 49 f = nI (pr f) ∧ 1 ≤ pr f ∧ pr f ≤ 1000 ∧ (I 59 f ≠ 0 → 0 < C f) ∧ I 57 f = 0) ∧ ∀ s, s < 8 → I 39 s = nI (st s) ∧ st s ≤ 1000 ∧ I 67 s = nI (g s) ∧ g s ≤ 9999
/-- the first loop -/
theorem m_flow1 {F Q T : Nat} {C kc pr st g : Nat → Nat} {Qv : Option Value → cmH → Prop} (L : LY h) (G : FW (cm_I h) F Q T C kc pr st g) (u4 u5 : Option Value) (k : ∀ h', XI h h' (fun x _ => x = 72 ∨ x = 76) → (∀ f, f < F → cm_I h' 72 f = nI (m_w (cm_I h) C kc f) ∧ cm_I h' 76 f = if cm_I h 59 f ≠ 0 ∧ q_bed (cm_I h) (C f) f = -1 then 1 else 0) → ∀ u5, cm_wp sc (d + 5) 190 89 [some (.ref 38), some (.long (lN (q_ns (m_w (cm_I h) C kc) F))), none, some (.int (nI Q)), some (.int (nI 0)), u5] [] h' Qv) : cm_wp sc (d + 5) 190 4 [some (.ref 38), some (.long (lN 0)), none, some (.int (nI 0)), u4, u5] [] h Qv := by
  obtain ⟨hF, h8, hQ, hQ1, hQ2, hT, hT2, hf, hs⟩ := G
  have hw : ∀ f, m_w (cm_I h) C kc f ≤ 1000000 := fun f => by unfold m_w; split; omega; exact q_wt_le
  have gen : ∀ (m i : Nat) (h' : cmH), i + m = F → XI h h' (fun x _ => x = 72 ∨ x = 76) → (∀ f, f < i → cm_I h' 72 f = nI (m_w (cm_I h) C kc f) ∧ cm_I h' 76 f = if cm_I h 59 f ≠ 0 ∧ q_bed (cm_I h) (C f) f = -1 then 1 else 0) → cm_wp sc (d + 5) 190 4 [some (.ref 38), some (.long (lN (q_ns (m_w (cm_I h) C kc) i))), none, some (.int (nI i)), u4, u5] [] h' Qv := by
    intro m
    induction m with
    | zero =>
      intro i h' hi X v
      obtain rfl : i = F := by omega
      refine s190_4 (X.ly L) _ _ _ _ ⟨fun _ => ?_, fun w => absurd ?_ w⟩
      · rw [X.2 38 48 (by simp), hQ]; exact k h' X v u5
      · rw [X.2 38 24 (by simp), hF]; exact Int32.le_refl _
    | succ m ih =>
      intro i h' hi X v
      have L' := X.ly L
      obtain ⟨e42, h10, ht, hk, hk2, -⟩ := hf i (by omega)
      have hsum := q_ns_le (v := m_w (cm_I h) C kc) (n := i) (fun k _ => hw k)
      have ix9 : IX 9 (nI i) := ix_nI (by omega) (by decide)
      have ix8 : IX 8 (nI i) := ix_nI (by omega) (by decide)
      have fin : ∀ (h2 : cmH), XI h h2 (fun x _ => x = 72 ∨ x = 76) → (∀ f, f < i → cm_I h2 72 f = nI (m_w (cm_I h) C kc f) ∧ cm_I h2 76 f = if cm_I h 59 f ≠ 0 ∧ q_bed (cm_I h) (C f) f = -1 then 1 else 0) → cm_I h2 72 i = nI (m_w (cm_I h) C kc i) → ∀ z : Int32, z = (if cm_I h 59 i ≠ 0 ∧ q_bed (cm_I h) (C i) i = -1 then 1 else 0) → cm_wp sc (d + 5) 190 64 [some (.ref 38), some (.long (lN (q_ns (m_w (cm_I h) C kc) i))), none, some (.int (nI i)), u4, u5] [.int z, .int (nI i), .ref 76] h2 Qv := by
        rintro h2 X2 v2 w2 z rfl
        refine s190_64 (X2.ly L) _ _ _ _ _ _ ⟨ix8, ix8, ?_⟩
        rw [nI_clamp (by omega), w2, nI_l (by have := hw i; omega), lN_add, nI_1]
        refine ih (i + 1) _ (by omega) (X2.set (Or.inr rfl)) fun f hf => ?_
        rcases Nat.lt_or_ge f i with y | y
        · rw [sI_o (Or.inl (by decide)), sI_o (Or.inr (by omega))]; exact v2 f y
        · obtain rfl : f = i := by omega
          rw [sI_o (Or.inl (by decide)), sI_s]
          refine ⟨w2, ?_⟩
          split <;> rfl
      have ew : ∀ h2 : cmH, XI h h2 (fun x _ => x = 72 ∨ x = 76) → q_bed (cm_I h2) (C i) i = q_bed (cm_I h) (C i) i := fun h2 X2 => q_bed_congr fun c _ => q_width_congr (X2.2 _ _ (by simp)) (X2.2 _ _ (by simp)) (fun s _ => X2.2 _ _ (by simp))
      have ec : ∀ h2 : cmH, XI h h2 (fun x _ => x = 72 ∨ x = 76) → q_cake (cm_I h2) i = nI (kc i) := fun h2 X2 => by
        rw [← hk]; unfold q_cake; exact cm_sum_congr fun s _ => X2.2 _ _ (by simp)
      refine s190_4 L' _ _ _ _ ⟨fun w => absurd w ?_, fun _ => ⟨ix9, ?_⟩⟩
      · rw [X.2 38 24 (by simp), hF]; exact nI_ge (by omega) (by omega)
      rw [nI_clamp (by omega), X.2 59 i (by simp)]
      refine ⟨fun z => ?_, fun z => ?_⟩
      · have em : m_w (cm_I h) C kc i = 0 := by unfold m_w; rw [if_pos z]
        refine s190_35 L' _ _ _ _ _ _ ⟨ix8, ix9, ?_⟩
        rw [nI_clamp (by omega), X.2 59 i (by simp)]
        refine br_t z (s190_63 _ _ _ _ _ (fin _ (X.set (Or.inl rfl)) (fun f hf => ?_) ?_ 0 ?_))
        · rw [sI_o (Or.inr (by omega)), sI_o (Or.inl (by decide))]; exact v f hf
        · rw [sI_s, em]; rfl
        · rw [if_neg (fun y => y.1 z)]
      · have em : m_w (cm_I h) C kc i = q_wt (q_bed (cm_I h) (C i) i) (kc i) := by unfold m_w; rw [if_neg z]
        refine m_weightOf L' (by omega) (by rw [X.2 _ _ (by simp)]; exact e42) h10 (fun c hc => by rw [X.2 _ _ (by simp)]; exact ht c hc) (ec h' X) hk2 (s190_31 _ _ _ _ _ _ (s190_35 L' _ _ _ _ _ _ ⟨ix8, ix9, ?_⟩))
        rw [nI_clamp (by omega), X.2 59 i (by simp), ew h' X]
        have X2 : XI h (cm_setI h' 72 i (nI (q_wt (q_bed (cm_I h) (C i) i) (kc i)))) (fun x _ => x = 72 ∨ x = 76) := X.set (Or.inl rfl)
        have v2 : ∀ f, f < i → cm_I (cm_setI h' 72 i (nI (q_wt (q_bed (cm_I h) (C i) i) (kc i)))) 72 f = nI (m_w (cm_I h) C kc f) ∧ cm_I (cm_setI h' 72 i (nI (q_wt (q_bed (cm_I h) (C i) i) (kc i)))) 76 f = if cm_I h 59 f ≠ 0 ∧ q_bed (cm_I h) (C f) f = -1 then 1 else 0 := fun f hf => by
          rw [sI_o (Or.inr (by omega)), sI_o (Or.inl (by decide))]; exact v f hf
        refine br_f z (m_bed (X2.ly L) (by omega) (by rw [X2.2 _ _ (by simp)]; exact e42) h10 (fun c hc => by rw [X2.2 _ _ (by simp)]; exact ht c hc) (s190_55 _ _ _ _ _ _ ?_))
        rw [ew _ X2]
        refine ⟨fun y => s190_63 _ _ _ _ _ (fin _ X2 v2 (by rw [sI_s, em]) 0 ?_), fun y => fin _ X2 v2 (by rw [sI_s, em]) 1 ?_⟩
        · rw [if_neg (fun q => y q.2)]
        · rw [if_pos ⟨z, Decidable.not_not.mp y⟩]
  exact gen F 0 h (by omega) XI.refl (fun f hf => absurd hf (by omega))
/-- the second and the third loop: the shares -/
theorem m_flow2 {F Q : Nat} {w : Nat → Nat} {Qv : Option Value → cmH → Prop} (L : LY h) (hF : cm_I h 38 24 = nI F) (h8 : F ≤ 8) (hQ : cm_I h 38 48 = nI Q) (hQ2 : Q ≤ 1000) (hw : ∀ f, f < F → cm_I h 72 f = nI (w f) ∧ w f ≤ 1000000) (u5 : Option Value) (k : ∀ h', XI h h' (fun x k => x = 56 ∧ k < F) → (∀ f, f < F → cm_I h' 56 f = nI (q_sh w Q F f)) → ∀ (x3 x4 : Int32) (y1 : Int64) (u5 : Option Value), cm_wp sc (d + 5) 190 203 [some (.ref 38), some (.long y1), none, some (.int x3), some (.int (nI 0)), u5] [] h' Qv) : cm_wp sc (d + 5) 190 89 [some (.ref 38), some (.long (lN (q_ns w F))), none, some (.int (nI Q)), some (.int (nI 0)), u5] [] h Qv := by
  have hWt : q_ns w F ≤ 1000000 * F := q_ns_le fun k hk => (hw k hk).2
  have hbs := q_bs_sum (w := w) (Q := Q) (F := F)
  have third : ∀ (m i : Nat) (h' : cmH) (u5 : Option Value), i + m = F → XI h h' (fun x k => x = 56 ∧ k < F) → (∀ f, f < F → cm_I h' 56 f = nI (if f < i then q_sh w Q F f else q_bs w Q F f)) → cm_wp sc (d + 5) 190 151 [some (.ref 38), some (.long (lN (q_ns w F))), none, some (.int (nI (Q - q_ns (q_bs w Q F) F - min (q_ah w i) (Q - q_ns (q_bs w Q F) F)))), some (.int (nI i)), u5] [] h' Qv := by
    intro m
    induction m with
    | zero =>
      intro i h' u5 hi X v
      obtain rfl : i = F := by omega
      refine s190_151 (X.ly L) _ _ _ _ ⟨fun _ => s190_200 _ _ _ _ (k h' X (fun f hf => by rw [v f hf, if_pos hf]) _ 0 _ _), fun z => absurd ?_ z⟩
      rw [X.2 38 24 (by simp), hF]; exact Int32.le_refl _
    | succ m ih =>
      intro i h' u5 hi X v
      have L' := X.ly L
      have ix8 : IX 8 (nI i) := ix_nI (by omega) (by decide)
      refine s190_151 L' _ _ _ _ ⟨fun z => absurd z ?_, fun _ => ?_⟩
      · rw [X.2 38 24 (by simp), hF]; exact nI_ge (by omega) (by omega)
      rw [lg_cmp_le, show (0 : Int64) = lN 0 from rfl, lN_le' (by omega) (by omega)]
      have next : ∀ h2 : cmH, XI h h2 (fun x k => x = 56 ∧ k < F) → (∀ f, f < F → cm_I h2 56 f = nI (if f < i + 1 then q_sh w Q F f else q_bs w Q F f)) → ∀ x : Int32, x = nI (Q - q_ns (q_bs w Q F) F - min (q_ah w (i + 1)) (Q - q_ns (q_bs w Q F) F)) → cm_wp sc (d + 5) 190 194 [some (.ref 38), some (.long (lN (q_ns w F))), none, some (.int x), some (.int (nI i)), u5] [] h2 Qv := by
        rintro h2 X2 v2 x rfl
        refine s190_194 _ _ _ _ ?_
        rw [nI_1]
        exact ih (i + 1) h2 _ (by omega) X2 v2
      refine ⟨fun z => s190_200 _ _ _ _ (k h' X (fun f hf => ?_) _ 0 _ _), fun z => ⟨ix8, ?_⟩⟩
      · rw [v f hf]
        have e0 : q_sh w Q F f = 0 := q_sh0 (by omega) hf
        have e1 : q_bs w Q F f = 0 := by unfold q_bs; rw [show q_ns w F = 0 by omega, Nat.div_zero]
        rw [e0, e1]; split <;> rfl
      rw [nI_clamp (by omega), X.2 72 i (by simp), (hw i (by omega)).1]
      have hwi := (hw i (by omega)).2
      have same : q_sh w Q F i = q_bs w Q F i → ∀ f, f < F → cm_I h' 56 f = nI (if f < i + 1 then q_sh w Q F f else q_bs w Q F f) := by
        intro es f hf
        rw [v f hf]
        by_cases y : f = i
        · subst y; rw [if_neg (by omega), if_pos (by omega), es]
        · by_cases y2 : f < i
          · rw [if_pos y2, if_pos (by omega)]
          · rw [if_neg y2, if_neg (by omega)]
      have eah : q_ah w (i + 1) = q_ah w i + if 0 < w i then 1 else 0 := rfl
      refine ⟨fun y => next h' X (same ?_) _ ?_, fun y => ⟨fun y2 => next h' X (same ?_) _ ?_, fun y2 => ⟨ix_nI (by omega) (by decide), next _ (X.set ⟨rfl, by omega⟩) (fun f hf => ?_) _ ?_⟩⟩⟩
      all_goals
        first
        | have w0 : w i = 0 := by
            rcases Nat.eq_zero_or_pos (w i) with q | q
            · exact q
            · exact absurd y (nI_nle q (by omega))
        | have w1 : 0 < w i := by
            rcases Nat.eq_zero_or_pos (w i) with q | q
            · exact absurd (by rw [q]; decide) y
            · exact q
      · unfold q_sh q_bs; rw [if_pos w0, w0, Nat.mul_zero, Nat.zero_div]
      · rw [eah, if_neg (by omega), Nat.add_zero]
      · have hl : ¬ 0 < Q - q_ns (q_bs w Q F) F - min (q_ah w i) (Q - q_ns (q_bs w Q F) F) := fun q => absurd y2 (nI_nle q (by omega))
        unfold q_sh
        rw [if_neg (by omega), if_neg (by omega), Nat.add_zero]
      · have hl : ¬ 0 < Q - q_ns (q_bs w Q F) F - min (q_ah w i) (Q - q_ns (q_bs w Q F) F) := fun q => absurd y2 (nI_nle q (by omega))
        rw [eah, if_pos w1]
        exact congrArg nI (by omega)
      · have hl : 0 < Q - q_ns (q_bs w Q F) F - min (q_ah w i) (Q - q_ns (q_bs w Q F) F) := by
          rcases Nat.eq_zero_or_pos (Q - q_ns (q_bs w Q F) F - min (q_ah w i) (Q - q_ns (q_bs w Q F) F)) with q | q
          · exact absurd (by rw [q]; decide) y2
          · exact q
        by_cases q : f = i
        · subst q
          rw [sI_s, v f hf, if_neg (by omega), nI_1, if_pos (by omega)]
          refine congrArg nI ?_
          unfold q_sh
          rw [if_neg (by omega), if_pos (by omega)]
        · rw [sI_o (Or.inr q), v f hf]
          by_cases y2 : f < i
          · rw [if_pos y2, if_pos (by omega)]
          · rw [if_neg y2, if_neg (by omega)]
      · have hl : 0 < Q - q_ns (q_bs w Q F) F - min (q_ah w i) (Q - q_ns (q_bs w Q F) F) := by
          rcases Nat.eq_zero_or_pos (Q - q_ns (q_bs w Q F) F - min (q_ah w i) (Q - q_ns (q_bs w Q F) F)) with q | q
          · exact absurd (by rw [q]; decide) y2
          · exact q
        rw [eah, if_pos w1, show Q - q_ns (q_bs w Q F) F - min (q_ah w i) (Q - q_ns (q_bs w Q F) F) = Q - q_ns (q_bs w Q F) F - min (q_ah w i + 1) (Q - q_ns (q_bs w Q F) F) + 1 by omega, pk_m1]
  have second : ∀ (m i : Nat) (h' : cmH) (u5 : Option Value), i + m = F → XI h h' (fun x k => x = 56 ∧ k < F) → (∀ f, f < i → cm_I h' 56 f = nI (q_bs w Q F f)) → cm_wp sc (d + 5) 190 89 [some (.ref 38), some (.long (lN (q_ns w F))), none, some (.int (nI (Q - q_ns (q_bs w Q F) i))), some (.int (nI i)), u5] [] h' Qv := by
    intro m
    induction m with
    | zero =>
      intro i h' u5 hi X v
      obtain rfl : i = F := by omega
      refine s190_89 (X.ly L) _ _ _ _ ⟨fun _ => ?_, fun z => absurd ?_ z⟩
      · have := third i 0 h' u5 (by omega) X (fun f hf => by rw [if_neg (by omega)]; exact v f hf)
        rw [show min (q_ah w 0) (Q - q_ns (q_bs w Q i) i) = 0 from Nat.zero_min _, Nat.sub_zero] at this
        exact this
      · rw [X.2 38 24 (by simp), hF]; exact Int32.le_refl _
    | succ m ih =>
      intro i h' u5 hi X v
      have L' := X.ly L
      have mono := q_ns_mono (q_bs w Q F) (i := i + 1) (n := F) (by omega)
      have estep : q_ns (q_bs w Q F) (i + 1) = q_ns (q_bs w Q F) i + q_bs w Q F i := rfl
      have hwi := (hw i (by omega)).2
      have fin : ∀ z : Int32, z = nI (q_bs w Q F i) → cm_wp sc (d + 5) 190 131 [some (.ref 38), some (.long (lN (q_ns w F))), none, some (.int (nI (Q - q_ns (q_bs w Q F) i))), some (.int (nI i)), u5] [.int z, .int (nI i), .ref 56] h' Qv := by
        rintro z rfl
        refine s190_131 L' _ _ _ _ _ _ ⟨ix_nI (by omega) (by decide), ix_nI (by omega) (by decide), ?_⟩
        rw [nI_clamp (by omega), sI_s, pk_sub (by omega), nI_1, show Q - q_ns (q_bs w Q F) i - q_bs w Q F i = Q - q_ns (q_bs w Q F) (i + 1) by omega]
        refine ih (i + 1) _ _ (by omega) (X.set ⟨rfl, by omega⟩) fun f hf => ?_
        rcases Nat.lt_or_ge f i with y | y
        · rw [sI_o (Or.inr (by omega))]; exact v f y
        · obtain rfl : f = i := by omega
          exact sI_s
      refine s190_89 L' _ _ _ _ ⟨fun z => absurd z ?_, fun _ => ⟨fun z => ⟨ix_nI (by omega) (by decide), fun y => z ((lg_cmp_eq _ _).mpr y), fin _ ?_⟩, fun z => fin _ ?_⟩⟩
      · rw [X.2 38 24 (by simp), hF]; exact nI_ge (by omega) (by omega)
      · have hne : q_ns w F ≠ 0 := fun y => z (by rw [y]; rfl)
        have hm : Q * w i ≤ 1000 * 1000000 := Nat.mul_le_mul hQ2 hwi
        rw [nI_clamp (by omega), X.2 38 48 (by simp), X.2 72 i (by simp), hQ, (hw i (by omega)).1, nI_l (by omega), nI_l (by omega), lN_mul, lN_div (by omega) (by omega) (by omega), lN_i]
        rfl
      · have h0 : q_ns w F = 0 := by
          have := (lg_cmp_eq _ _).mp (Decidable.not_not.mp z)
          exact (lN_inj' (by omega) (by decide)).mp this
        unfold q_bs; rw [h0, Nat.div_zero]; rfl
  exact second F 0 h u5 (by omega) XI.refl (fun f hf => absurd hf (by omega))
end SHARES
