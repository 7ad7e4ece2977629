/-! ===== how long an order lasts: the reference ===== -/
section MLASTS
variable {sc : cmS} {d : Nat} {h : cmH} {K : Int32 → cmH → Prop} {KV : cmH → Prop} {N Q m : Nat} {p st g : Nat → Nat} {P Tk ck lp lt : Nat → Int32} {ho : Nat → Nat → Int32} {Qv : Option Value → cmH → Prop}
def OM (x k : Nat) : Prop := (x = 42 ∧ k = 8) ∨ ((x = 43 ∨ x = 45) ∧ 80 ≤ k) ∨ (x = 46 ∧ 640 ≤ k) ∨ (x = 48 ∧ 64 ≤ k) ∨ x = 75
/-- the reference's trial filter -/
def ML (h : cmH) (N : Nat) (P Tk ck : Nat → Int32) (ho : Nat → Nat → Int32) : Prop := (∀ s, s < 8 → cm_I h 48 (64 + s) = ck s) ∧ ∀ c, c < N → cm_I h 43 (80 + c) = P c ∧ cm_I h 45 (80 + c) = Tk c ∧ ∀ s, s < 8 → cm_I h 46 (8 * (80 + c) + s) = ho c s
def MS (h : cmH) (N Q : Nat) (st g : Nat → Nat) : Prop := LY h ∧ cm_I h 42 8 = nI N ∧ 1 ≤ N ∧ N ≤ 6 ∧ cm_I h 49 8 = nI 100 ∧ cm_I h 38 48 = nI Q ∧ 1 ≤ Q ∧ Q ≤ 1000 ∧ ∀ s, s < 8 → cm_I h 39 s = nI (st s) ∧ st s ≤ 1000 ∧ cm_I h 67 s = nI (g s) ∧ g s ≤ 9999
theorem MS.x {h' : cmH} (A : MS h N Q st g) (X : XI h h' OM) (e : cm_I h' 42 8 = nI N) : MS h' N Q st g := by
  obtain ⟨L, a1, a2, a3, a4, a5, a6, a7, a8⟩ := A
  exact ⟨X.ly L, e, a2, a3, by rw [X.2 49 8 (by unfold OM; omega)]; exact a4, by rw [X.2 38 48 (by unfold OM; omega)]; exact a5, a6, a7, fun s hs => by rw [X.2 39 s (by unfold OM; omega), X.2 67 s (by unfold OM; omega)]; exact a8 s hs⟩
theorem ML.w (B : ML h N P Tk ck ho) {c : Nat} (hc : c < N) : q_width (cm_I h) 8 c = oW P Tk ho c := by
  obtain ⟨b1, b2, b3⟩ := B.2 c hc
  unfold q_width oW
  rw [show 10 * 8 + c = 80 + c from rfl, b1, b2]
  congr 1
  exact cm_sum_congr fun s hs => b3 s hs
theorem ML.b (B : ML h N P Tk ck ho) : q_bed (cm_I h) N 8 = oBed N P Tk ho := q_sumN_congr N 0 0 fun c _ hc => by rw [B.w (by omega)]
theorem ML.k {b : Nat} (B : ML h N P Tk ck ho) (cb : oB ck b) (hb : b ≤ 10000000) : q_cake (cm_I h) 8 = nI (oK ck) ∧ oK ck < 2 ^ 30 := by
  have := cb.k hb
  refine ⟨?_, this.2⟩
  rw [← this.1]
  exact cm_sum_congr fun s hs => B.1 s hs
/-- the sizes, where it doesn't go -/
theorem m_sizes0 {i : Nat} {x2 : Int32} (A : MS h N Q st g) (k : cm_wp sc (d + 1) 211 203 [some (.ref 38), some (.int (nI m)), some (.int x2), some (.int (nI i)), some (.int 0), some (.int (nI (q_ns g 8))), some (.int (-1))] [] h Qv) : ∀ j, j ≤ 8 → cm_wp sc (d + 1) 211 203 [some (.ref 38), some (.int (nI m)), some (.int x2), some (.int (nI i)), some (.int 0), some (.int (nI (q_ns g 8 - q_ns g j))), some (.int (nI j - 1))] [] h Qv := by
  intro j
  induction j with
  | zero => intro _; exact k
  | succ j ih =>
    intro hj
    obtain ⟨L, -, -, -, -, -, -, -, a8⟩ := A
    have e1 : q_ns g (j + 1) = q_ns g j + g j := rfl
    have e2 := q_ns_mono g (i := j + 1) (n := 8) hj
    rw [nI_pred]
    refine s211_203 L _ _ _ _ _ _ ⟨fun z => absurd z (nI_pos (by omega)), fun _ => ⟨fun _ => ?_, fun z => absurd rfl z⟩⟩
    rw [nI_clamp (by omega), (a8 j (by omega)).2.2.1]
    refine ⟨ix_nI (by omega) (by decide), s211_240 _ _ _ _ _ _ _ _ ?_⟩
    rw [nI_add, ← Int32.sub_eq_add_neg, show q_ns g 8 - q_ns g (j + 1) + g j = q_ns g 8 - q_ns g j by omega]
    exact ih (by omega)
/-- the sizes from j on have gone -/
def LSz (h h' : cmH) (N : Nat) (W st g : Nat → Nat) (j : Nat) : Prop := XI h h' (fun x k => (x = 48 ∧ 64 ≤ k) ∨ (x = 46 ∧ 640 ≤ k)) ∧ ∀ s, s < 8 → cm_I h' 48 (64 + s) = (if j ≤ s then cm_I h 48 (64 + s) + nI (g s - q_in (W 0) s (g s)) else cm_I h 48 (64 + s)) ∧ ∀ c, c < N → cm_I h' 46 (8 * (80 + c) + s) = if j ≤ s then cm_I h 46 (8 * (80 + c) + s) + nI (q_kp (W c) s (st s) (q_lf W s (st s) (q_in (W 0) s (g s)) c)) else cm_I h 46 (8 * (80 + c) + s)
theorem m_sizes1 {i : Nat} {x2 : Int32} {W : Nat → Nat} (A : MS h N Q st g) (hW : ∀ c, c < N → cm_I h 75 c = nI (W c) ∧ W c < 2 ^ 31) (k : ∀ h', LSz h h' N W st g 0 → cm_wp sc (d + 1) 211 203 [some (.ref 38), some (.int (nI m)), some (.int x2), some (.int (nI i)), some (.int 1), some (.int (nI (q_ns (fun s => q_lf W s (st s) (q_in (W 0) s (g s)) N) 8))), some (.int (-1))] [] h' Qv) : ∀ (j : Nat) (h1 : cmH), j ≤ 8 → LSz h h1 N W st g j → cm_wp sc (d + 1) 211 203 [some (.ref 38), some (.int (nI m)), some (.int x2), some (.int (nI i)), some (.int 1), some (.int (nI (q_ns (fun s => q_lf W s (st s) (q_in (W 0) s (g s)) N) 8 - q_ns (fun s => q_lf W s (st s) (q_in (W 0) s (g s)) N) j))), some (.int (nI j - 1))] [] h1 Qv := by
  intro j
  induction j with
  | zero => intro h1 _ X; exact k h1 X
  | succ j ih =>
    intro h1 hj X
    obtain ⟨L, a1, a2, a3, -, -, -, -, a8⟩ := A
    have L1 := X.1.ly L
    have o : ∀ x k, x ≠ 48 → x ≠ 46 → cm_I h1 x k = cm_I h x k := fun x k p q => X.1.2 x k (by omega)
    have e1 : q_ns (fun s => q_lf W s (st s) (q_in (W 0) s (g s)) N) (j + 1) = q_ns (fun s => q_lf W s (st s) (q_in (W 0) s (g s)) N) j + q_lf W j (st j) (q_in (W 0) j (g j)) N := rfl
    have e2 := q_ns_mono (fun s => q_lf W s (st s) (q_in (W 0) s (g s)) N) (i := j + 1) (n := 8) hj
    obtain ⟨b1, b2, b3, b4⟩ := a8 j (by omega)
    rw [nI_pred]
    refine s211_203 L1 _ _ _ _ _ _ ⟨fun z => absurd z (nI_pos (by omega)), fun _ => ⟨fun z => absurd z (by decide), fun _ => ?_⟩⟩
    rw [nI_clamp (by omega), o 67 j (by decide) (by decide), b3]
    refine ⟨ix_nI (by omega) (by decide), m_lead (f := 8) (n := N) (s := j) (st := st j) (l := g j) (W := W) L1 (by decide) (by rw [o 42 8 (by decide) (by decide)]; exact a1) (by omega) (by omega) (by omega) (fun c hc => by rw [o 75 c (by decide) (by decide)]; exact hW c hc) (by rw [o 39 j (by decide) (by decide)]; exact b1) b2 (by omega) (fun h2 Z => s211_230 _ _ _ _ _ _ _ _ (s211_240 _ _ _ _ _ _ _ _ ?_))⟩
    rw [nI_add, ← Int32.sub_eq_add_neg, show q_ns (fun s => q_lf W s (st s) (q_in (W 0) s (g s)) N) 8 - q_ns (fun s => q_lf W s (st s) (q_in (W 0) s (g s)) N) (j + 1) + q_lf W j (st j) (q_in (W 0) j (g j)) N = q_ns (fun s => q_lf W s (st s) (q_in (W 0) s (g s)) N) 8 - q_ns (fun s => q_lf W s (st s) (q_in (W 0) s (g s)) N) j by omega]
    obtain ⟨Z1, Z2, Z3⟩ := Z
    refine ih h2 (by omega) ⟨X.1.trans (Z1.mono fun x k q => ?_), fun s hs => ?_⟩
    · unfold P_ld at q
      rcases q with q | ⟨q, c, hc, q2⟩
      · exact Or.inl ⟨q.1, by omega⟩
      · exact Or.inr ⟨q, by omega⟩
    · obtain ⟨y1, y2⟩ := X.2 s hs
      by_cases e : s = j
      · subst e
        rw [if_neg (by omega)] at y1
        refine ⟨?_, fun c hc => ?_⟩
        · rw [if_pos (Nat.le_refl s)]
          have := Z2
          rw [show 8 * 8 + s = 64 + s from rfl, y1] at this
          exact this
        · have y2 := y2 c hc
          rw [if_neg (by omega)] at y2
          rw [if_pos (Nat.le_refl s)]
          have := Z3 c hc
          rw [if_pos hc, show 8 * (10 * 8 + c) + s = 8 * (80 + c) + s from rfl, y2] at this
          exact this
      · refine ⟨?_, fun c hc => ?_⟩
        · rw [Z1.2 48 _ (by unfold P_ld; omega), y1]
          by_cases w : j + 1 ≤ s
          · rw [if_pos w, if_pos (show j ≤ s by omega)]
          · rw [if_neg w, if_neg (show ¬ j ≤ s by omega)]
        · rw [Z1.2 46 _ (by
            rintro (q | ⟨q, c', hc', q2⟩)
            · omega
            · omega), y2 c hc]
          by_cases w : j + 1 ≤ s
          · rw [if_pos w, if_pos (show j ≤ s by omega)]
          · rw [if_neg w, if_neg (show ¬ j ≤ s by omega)]
theorem oOut_le : oOut N P Tk ho st g ≤ q_ns g 8 := by
  unfold oOut
  have : ∀ n, q_ns (fun s => q_lf (oWn P Tk ho) s (st s) (q_in (oWn P Tk ho 0) s (g s)) N) n ≤ q_ns g n := by
    intro n
    induction n with
    | zero => exact Nat.le_refl _
    | succ n ihn => exact Nat.add_le_add ihn (Nat.le_trans (q_lf_le N) q_in_le)
  exact this 8
/-- an hour of the trial -/
theorem m_trial {i b : Nat} {u4 u5 u6 : Option Value} {x2 : Int32} (hm : m ≤ 1000000) (hi : i < 100) (hb : b ≤ 10000000) (A : MS h N Q st g) (B : ML h N P Tk ck ho) (hT : ∀ c, c < N → Tk c ≠ 0) (cb : oB ck b) (kY : x2 = 0 → oGo N Q P Tk ck ho → ∀ h', XI h h' OM → MS h' N Q st g → ML h' N P Tk (oCk P Tk ck ho g) (oHo P Tk ho st g) → (oOut N P Tk ho st g ≤ m → ∀ u4 u5 u6, cm_wp sc (d + 5) 211 120 [some (.ref 38), some (.int (nI m)), some (.int 0), some (.int (nI (i + 1))), u4, u5, u6] [] h' Qv) ∧ (¬ oOut N P Tk ho st g ≤ m → Qv (some (.int (nI i))) h')) (kN : ¬ (x2 = 0 ∧ oGo N Q P Tk ck ho) → ∀ h', XI h h' OM → MS h' N Q st g → ML h' N P Tk ck ho → (q_ns g 8 ≤ m → ∀ (x2 : Int32) u4 u5 u6, cm_wp sc (d + 5) 211 120 [some (.ref 38), some (.int (nI m)), some (.int x2), some (.int (nI (i + 1))), u4, u5, u6] [] h' Qv) ∧ (¬ q_ns g 8 ≤ m → Qv (some (.int (nI i))) h')) : cm_wp sc (d + 5) 211 120 [some (.ref 38), some (.int (nI m)), some (.int x2), some (.int (nI i)), u4, u5, u6] [] h Qv := by
  obtain ⟨L, a1, a2, a3, a4, a5, a6, a7, a8⟩ := id A
  have ht : ∀ c, c < N → cm_I h 45 (10 * 8 + c) ≠ 0 := fun c hc => by rw [show 10 * 8 + c = 80 + c from rfl, (B.2 c hc).2.1]; exact hT c hc
  obtain ⟨ek, hk⟩ := B.k cb hb
  have gb : q_ns g 8 ≤ 9999 * 8 := q_ns_le fun s hs => (a8 s hs).2.2.2
  have ob : oOut N P Tk ho st g ≤ q_ns g 8 := oOut_le
  -- the sizes behind the look
  have look : ∀ (x2' x4 : Int32) (u5 u6 : Option Value), (x4 = 0 → ¬ (x2 = 0 ∧ oGo N Q P Tk ck ho)) → (x4 ≠ 0 → x4 = 1 ∧ x2 = 0 ∧ oGo N Q P Tk ck ho ∧ x2' = 0) → cm_wp sc (d + 5) 211 190 [some (.ref 38), some (.int (nI m)), some (.int x2'), some (.int (nI i)), some (.int x4), u5, u6] [] h Qv := fun x2' x4 u5 u6 c0 c1 => by
    refine s211_190 L _ _ _ _ _ _ (m_look (f := 8) (n := N) L (by decide) a1 (by omega) ht (fun h1 X1 w1 => s211_196 _ _ _ _ _ _ ?_))
    have X1o : XI h h1 OM := X1.mono fun x k q => Or.inr (Or.inr (Or.inr (Or.inr q)))
    have A1 : MS h1 N Q st g := A.x X1o (by rw [X1.2 42 8 (by omega)]; exact a1)
    have B1 : ML h1 N P Tk ck ho := ⟨fun s hs => by rw [X1.2 48 _ (by omega)]; exact B.1 s hs, fun c hc => by rw [X1.2 43 _ (by omega), X1.2 45 _ (by omega)]; exact ⟨(B.2 c hc).1, (B.2 c hc).2.1, fun s hs => by rw [X1.2 46 _ (by omega)]; exact (B.2 c hc).2.2 s hs⟩⟩
    by_cases z4 : x4 = 0
    · subst z4
      obtain ⟨k1, k2⟩ := kN (c0 rfl) h1 X1o A1 B1
      refine m_sizes0 (d := d + 4) A1 ?_ 8 (Nat.le_refl 8) |> fun w => by rw [Nat.sub_self] at w; exact w
      refine s211_203 A1.1 _ _ _ _ _ _ ⟨fun _ => ⟨fun q => ?_, fun q => k2 (fun w => q (nI_le w (by omega)))⟩, fun z => absurd (by decide) z⟩
      have hle : q_ns g 8 ≤ m := by
        rcases Nat.lt_or_ge m (q_ns g 8) with w | w
        · exact absurd q (nI_ge w (by omega))
        · exact w
      rw [nI_1]; exact k1 hle _ _ _ _
    · obtain ⟨e4, e2, go, e2'⟩ := c1 z4
      subst e4 e2'
      have hW : ∀ c, c < N → cm_I h1 75 c = nI (oWn P Tk ho c) ∧ oWn P Tk ho c < 2 ^ 31 := fun c hc => by rw [w1 c hc, B.w hc]; exact oWn_eq
      have w := m_sizes1 (sc := sc) (d := d + 4) (m := m) (i := i) (x2 := 0) (Qv := Qv) (W := oWn P Tk ho) A1 hW (fun h2 Z2 => ?_) 8 h1 (Nat.le_refl 8) ⟨XI.refl, fun s hs => ⟨by rw [if_neg (by omega)], fun c hc => by rw [if_neg (by omega)]⟩⟩
      · rw [Nat.sub_self] at w; exact w
      · have X2o : XI h1 h2 OM := Z2.1.mono fun x k q => by unfold OM; omega
        have A2 : MS h2 N Q st g := A1.x X2o (by rw [Z2.1.2 42 8 (by omega)]; exact A1.2.1)
        have B2 : ML h2 N P Tk (oCk P Tk ck ho g) (oHo P Tk ho st g) := ⟨fun s hs => by rw [(Z2.2 s hs).1, if_pos (Nat.zero_le s), B1.1 s hs]; rfl, fun c hc => ⟨by rw [Z2.1.2 43 _ (by omega)]; exact (B1.2 c hc).1, by rw [Z2.1.2 45 _ (by omega)]; exact (B1.2 c hc).2.1, fun s hs => by rw [(Z2.2 s hs).2 c hc, if_pos (Nat.zero_le s), (B1.2 c hc).2.2 s hs]; rfl⟩⟩
        obtain ⟨k1, k2⟩ := kY e2 go h2 (X1o.trans X2o) A2 B2
        have ob2 : oOut N P Tk ho st g ≤ 9999 * 8 := Nat.le_trans ob gb
        refine s211_203 A2.1 _ _ _ _ _ _ ⟨fun _ => ⟨fun q => ?_, fun q => k2 (fun w => q (nI_le w (by omega)))⟩, fun z => absurd (by decide) z⟩
        have hle : oOut N P Tk ho st g ≤ m := by
          rcases Nat.lt_or_ge m (oOut N P Tk ho st g) with w | w
          · exact absurd q (nI_ge w (by show q_ns _ 8 < 2 ^ 31; unfold oOut at ob2; omega))
          · exact w
        rw [nI_1]; exact k1 hle _ _ _
  -- behind the bed
  have push : ∀ (x2' x4 : Int32) (u5 u6 : Option Value), (x4 = 0 ∨ x4 = 1) → (x4 = 0 → ¬ (x2 = 0 ∧ oGo N Q P Tk ck ho)) → (x4 = 1 → x2 = 0 ∧ 0 < q_wt (oBed N P Tk ho) (oK ck) ∧ x2' = 0) → cm_wp sc (d + 5) 211 165 [some (.ref 38), some (.int (nI m)), some (.int x2), some (.int (nI i)), some (.int x4), u5, u6] [.int x2'] h Qv := fun x2' x4 u5 u6 hx c0 c1 => by
    refine s211_165 L _ _ _ _ _ _ _ ⟨fun z => look x2' x4 _ _ c0 (fun w => absurd z w), fun z => ?_⟩
    obtain ⟨e2, hw, e2'⟩ := c1 (hx.resolve_left z)
    rw [a5]
    refine m_push' (f := 8) (n := N) (q := Q) (k := oK ck) (pr := 100) L (by decide) a1 (by omega) ht a7 a4 (by decide) (by decide) ek (by omega) (fun r q => s211_181 _ _ _ _ _ _ _ ⟨fun zr => look x2' x4 _ _ c0 (fun _ => ⟨hx.resolve_left z, e2, ⟨hw, r, zr, by rw [← B.b]; exact q⟩, e2'⟩), fun zr => look 1 0 _ _ (fun _ w => ?_) (fun w => absurd rfl w)⟩)
    obtain ⟨r2, hr2, q2⟩ := w.2.2
    rw [B.b] at q
    exact hr2 ((q_push_uniq q2 q).trans (Decidable.not_not.mp zr))
  have bed : ∀ (x4 : Int32) (u4 u5 u6 : Option Value), (x4 = 0 ∨ x4 = 1) → (x4 = 0 → ¬ (x2 = 0 ∧ oGo N Q P Tk ck ho)) → (x4 = 1 → x2 = 0 ∧ 0 < q_wt (oBed N P Tk ho) (oK ck)) → cm_wp sc (d + 5) 211 144 [some (.ref 38), some (.int (nI m)), some (.int x2), some (.int (nI i)), u4, u5, u6] [.int x4] h Qv := fun x4 u4 u5 u6 hx c0 c1 => by
    refine s211_144 L _ _ _ _ _ _ _ ⟨fun z => s211_160 _ _ _ _ _ _ (push 1 x4 _ _ hx c0 (fun w => absurd (c1 w).1 z)), fun z => m_bed (f := 8) (n := N) L (by decide) a1 (by omega) ht (s211_156 _ _ _ _ _ _ _ ⟨fun zb => push 0 x4 _ _ hx c0 (fun w => ⟨(c1 w).1, (c1 w).2, rfl⟩), fun zb => s211_160 _ _ _ _ _ _ (push 1 x4 _ _ hx c0 (fun w => ?_))⟩)⟩
    have hw := (c1 w).2
    rw [B.b] at zb
    unfold q_wt at hw
    rw [if_pos (Decidable.not_not.mp zb)] at hw
    omega
  refine s211_120 L _ _ _ _ _ _ ⟨fun z => absurd z (nI_ge (b := 100) hi (by decide)), fun _ => ⟨fun z => s211_143 _ _ _ _ _ _ (bed 0 _ _ _ (Or.inl rfl) (fun _ w => z w.1) (fun w => absurd w (by decide))), fun z => ?_⟩⟩
  have z0 := Decidable.not_not.mp z
  refine m_weightOf (f := 8) (n := N) (k := oK ck) L (by decide) a1 (by omega) ht ek hk (s211_136 _ _ _ _ _ _ _ ⟨fun w => s211_143 _ _ _ _ _ _ (bed 0 _ _ _ (Or.inl rfl) (fun _ q => ?_) (fun w => absurd w (by decide))), fun w => bed 1 _ _ _ (Or.inr rfl) (fun w => absurd w (by decide)) (fun _ => ⟨z0, ?_⟩)⟩)
  · have := q.2.1
    rw [B.b] at w
    exact absurd w (nI_ge (a := 0) this (by have := q_wt_le (bed := oBed N P Tk ho) (k := oK ck); omega))
  · rw [B.b] at w
    rcases Nat.eq_zero_or_pos (q_wt (oBed N P Tk ho) (oK ck)) with v | v
    · exact absurd (by rw [v]; decide) w
    · exact v
end MLASTS
