/-! ===== one filter runs: the reference's runOne ===== -/
section RUNONE
variable {sc : cmS} {d : Nat} {h : cmH} {K : Int32 → cmH → Prop} {KV : cmH → Prop}
/-- what comes out of a size -/
def q_out (W : Nat → Nat) (st pt : Nat → Nat) (n s : Nat) : Nat := q_lf W s (st s) (q_in (W 0) s (pt s)) n
theorem q_out_le {W st pt : Nat → Nat} {n s : Nat} : q_out W st pt n s ≤ pt s := Nat.le_trans (q_lf_le n) q_in_le
def P_ro (f n T : Nat) (x k : Nat) : Prop := x = 75 ∨ (x = 58 ∧ k = f) ∨ (x = 48 ∧ 8 * f ≤ k ∧ k < 8 * f + 8) ∨ (x = 46 ∧ 80 * f ≤ k ∧ k < 80 * f + 8 * n) ∨ (x = 68 ∧ 24 * T ≤ k ∧ k < 24 * T + 24) ∨ (x = 71 ∧ k < 48) ∨ ((x = 69 ∨ x = 70 ∨ x = 76) ∧ k = f)
def RO1 (h h' : cmH) (f n T : Nat) (W st pt : Nat → Nat) (j : Nat) : Prop := XI h h' (P_ro f n T) ∧ (∀ c, c < n → cm_I h' 75 c = nI (W c)) ∧ cm_I h' 58 f = nI (q_ns (q_out W st pt n) 8 - q_ns (q_out W st pt n) j) ∧ (cm_I h' 69 f = cm_I h 69 f ∧ cm_I h' 70 f = cm_I h 70 f ∧ cm_I h' 76 f = cm_I h 76 f) ∧ ∀ s, s < 8 → cm_I h' 48 (8 * f + s) = (if j ≤ s then cm_I h 48 (8 * f + s) + nI (pt s - q_in (W 0) s (pt s)) else cm_I h 48 (8 * f + s)) ∧ (∀ c, c < n → cm_I h' 46 (8 * (10 * f + c) + s) = if j ≤ s then cm_I h 46 (8 * (10 * f + c) + s) + nI (q_kp (W c) s (st s) (q_lf W s (st s) (q_in (W 0) s (pt s)) c)) else cm_I h 46 (8 * (10 * f + c) + s)) ∧ (cm_I h' 68 (3 * (8 * T + s) + 1) = if j ≤ s then cm_I h 68 (3 * (8 * T + s) + 1) + nI (q_out W st pt n s) else cm_I h 68 (3 * (8 * T + s) + 1)) ∧ (cm_I h' 71 (6 * s + 4) = if j ≤ s then cm_I h 71 (6 * s + 4) + nI (q_out W st pt n s) else cm_I h 71 (6 * s + 4)) ∧ (cm_I h' 68 (3 * (8 * T + s)) = cm_I h 68 (3 * (8 * T + s)) ∧ cm_I h' 68 (3 * (8 * T + s) + 2) = cm_I h 68 (3 * (8 * T + s) + 2)) ∧ ∀ w, w < 6 → w ≠ 4 → cm_I h' 71 (6 * s + w) = cm_I h 71 (6 * s + w)
def RO2 (h h' : cmH) (f n T : Nat) (pt : Nat → Nat) (j : Nat) : Prop := XI h h' (fun x k => x = 75 ∨ (x = 68 ∧ 24 * T ≤ k ∧ k < 24 * T + 24) ∨ (x = 71 ∧ k < 48)) ∧ ∀ s, s < 8 → (cm_I h' 68 (3 * (8 * T + s) + 2) = if j ≤ s then cm_I h 68 (3 * (8 * T + s) + 2) + nI (pt s) else cm_I h 68 (3 * (8 * T + s) + 2)) ∧ (cm_I h' 71 (6 * s + 5) = if j ≤ s then cm_I h 71 (6 * s + 5) + nI (pt s) else cm_I h 71 (6 * s + 5)) ∧ (cm_I h' 68 (3 * (8 * T + s)) = cm_I h 68 (3 * (8 * T + s)) ∧ cm_I h' 68 (3 * (8 * T + s) + 1) = cm_I h 68 (3 * (8 * T + s) + 1)) ∧ ∀ w, w < 6 → w ≠ 5 → cm_I h' 71 (6 * s + w) = cm_I h 71 (6 * s + w)
/-- the best hour, kept -/
def q_rip (h h1 : cmH) (f T : Nat) (some : Nat) : cmH := if 0 < some ∧ (cm_I h 69 f = -1 ∨ cm_I h1 58 f < cm_I h 70 f) then cm_setI (cm_setI h1 69 f (nI T)) 70 f (cm_I h1 58 f) else h1
theorem m_runOne {f n T Q F : Nat} {W st sh g pt : Nat → Nat} (L : LY h) (hF : cm_I h 38 24 = nI F) (h8 : F ≤ 8) (hf : f < F) (hn : cm_I h 42 f = nI n) (h10 : n ≤ 10) (n0 : 0 < n) (ht : ∀ c, c < n → cm_I h 45 (10 * f + c) ≠ 0) (hT : cm_I h 38 0 = nI T) (hT2 : T ≤ 2000) (hg : ∀ s, s < 8 → cm_I h 67 s = nI (g s) ∧ g s ≤ 9999) (hQ : cm_I h 38 48 = nI Q) (hQ1 : 1 ≤ Q) (hQ2 : Q ≤ 1000) (hsh : ∀ o, o < F → cm_I h 56 o = nI (sh o) ∧ sh o ≤ 1000) (hsum : q_ns sh F ≤ Q) (hpt : ∀ s, s < 8 → pt s = q_part sh (g s) Q F f) (hpt2 : ∀ s, s < 8 → pt s ≤ 10000) (hW : ∀ c, c < n → q_width (cm_I h) f c = nI (W c) ∧ W c < 2 ^ 31) (hst : ∀ s, s < 8 → cm_I h 39 s = nI (st s) ∧ st s ≤ 1000) (h58 : cm_I h 58 f = 0)
    (k1 : cm_I h 57 f ≠ -1 → ∀ h1, RO1 h h1 f n T W st pt 0 → KV (q_rip h h1 f T (q_ns pt 8))) (k2 : cm_I h 57 f = -1 → ∀ h1, RO2 h h1 f n T pt 0 → KV (cm_setI h1 76 f 1)) : cm_cv sc (d + 4) 194 [.ref 38, .int (nI f)] h KV := by
  have hpb : q_ns pt 8 ≤ 10000 * 8 := q_ns_le hpt2
  have hob : q_ns (q_out W st pt n) 8 ≤ 10000 * 8 := q_ns_le fun s hs => Nat.le_trans q_out_le (hpt2 s hs)
  refine cv_of rfl (s194_0 L _ _ _ _ _ (m_look L (by omega) hn h10 ht (fun h0 X0 v0 => s194_7 _ _ _ _ _ ?_)))
  by_cases hr : cm_I h 57 f = -1
  · have gen : ∀ (j : Nat) (h' : cmH) (u v : Option Value), j ≤ 8 → RO2 h h' f n T pt j → cm_wp sc (d + 4) 194 10 [some (.ref 38), some (.int (nI f)), some (.int (nI (q_ns pt 8 - q_ns pt j))), some (.int (nI j - 1)), u, v] [] h' (fun v h' => v = none ∧ KV h') := by
      intro j
      induction j with
      | zero =>
        intro h' u v hj X
        have e57 : cm_I h' 57 f = -1 := by rw [X.1.2 57 f (by omega)]; exact hr
        refine s194_10 (X.1.ly L) _ _ _ _ _ ⟨fun _ => ⟨ix_nI (by omega) (by decide), ?_⟩, fun w => absurd (by decide) w⟩
        rw [nI_clamp (by omega)]
        exact br_f (fun w => w e57) ⟨ix_nI (by omega) (by decide), rfl, k2 hr h' X⟩
      | succ j ih =>
        intro h' u v hj X
        have L' := X.1.ly L
        have xo : ∀ x k, x ≠ 75 → x ≠ 68 → x ≠ 71 → cm_I h' x k = cm_I h x k := fun x k a b c => X.1.2 x k (by omega)
        have mono := q_ns_mono pt (i := j + 1) (n := 8) (by omega)
        have estep : q_ns pt (j + 1) = q_ns pt j + pt j := rfl
        rw [nI_pred]
        refine s194_10 L' _ _ _ _ _ ⟨fun w => absurd w (nI_pos (by omega)), fun _ => m_partOf L' (by rw [xo _ _ (by decide) (by decide) (by decide)]; exact hF) h8 hf (by omega) (by rw [xo _ _ (by decide) (by decide) (by decide)]; exact (hg j (by omega)).1) (hg j (by omega)).2 (by rw [xo _ _ (by decide) (by decide) (by decide)]; exact hQ) hQ1 hQ2 (fun o ho => by rw [xo _ _ (by decide) (by decide) (by decide)]; exact hsh o ho) hsum (s194_20 L' _ _ _ _ _ _ ⟨ix_nI (by omega) (by decide), ?_⟩)⟩
        rw [nI_clamp (by omega), ← hpt j (by omega)]
        refine br_f (fun w => w (by rw [xo _ _ (by decide) (by decide) (by decide)]; exact hr)) (m_tell (w := 2) L' (by rw [xo _ _ (by decide) (by decide) (by decide)]; exact hT) hT2 (by omega) (by omega) (s194_45 _ _ _ _ _ (s194_77 _ _ _ _ _ ?_)))
        rw [nI_add, show q_ns pt 8 - q_ns pt (j + 1) + pt j = q_ns pt 8 - q_ns pt j by omega, show nI j + -1 = nI j - 1 from (Int32.sub_eq_add_neg _ _).symm, if_neg (by decide)]
        obtain ⟨a1, a2, a3, a4⟩ := X.2 j (by omega)
        rw [if_neg (by omega)] at a1 a2
        refine ih _ _ _ (by omega) ⟨(X.1.set (Or.inr (Or.inl ⟨rfl, by omega, by omega⟩))).set (Or.inr (Or.inr ⟨rfl, by omega⟩)), fun s hs => ?_⟩
        obtain ⟨b1, b2, ⟨b3, b3'⟩, b4⟩ := X.2 s hs
        refine ⟨?_, ?_, ⟨?_, ?_⟩, fun w hw hw5 => ?_⟩
        · by_cases z : s = j
          · subst z; rw [sI_o (Or.inl (by decide)), sI_s, a1, if_pos (Nat.le_refl _)]
          · rw [sI_o (Or.inl (by decide)), sI_o (Or.inr (by omega)), b1]
            by_cases y : j ≤ s
            · rw [if_pos y, if_pos (by omega)]
            · rw [if_neg y, if_neg (by omega)]
        · by_cases z : s = j
          · subst z; rw [sI_s, a2, if_pos (Nat.le_refl _)]
          · rw [sI_o (Or.inr (by omega)), sI_o (Or.inl (by decide)), b2]
            by_cases y : j ≤ s
            · rw [if_pos y, if_pos (by omega)]
            · rw [if_neg y, if_neg (by omega)]
        · rw [sI_o (Or.inl (by decide)), sI_o (Or.inr (by omega))]; exact b3
        · rw [sI_o (Or.inl (by decide)), sI_o (Or.inr (by omega))]; exact b3'
        · rw [sI_o (Or.inr (by omega)), sI_o (Or.inl (by decide))]; exact b4 w hw hw5
    have := gen 8 h0 none none (by omega) ⟨X0.mono fun x k w => Or.inl w, fun s hs => by rw [if_neg (by omega), if_neg (by omega)]; exact ⟨X0.2 _ _ (by simp), X0.2 _ _ (by simp), ⟨X0.2 _ _ (by simp), X0.2 _ _ (by simp)⟩, fun w _ _ => X0.2 _ _ (by simp)⟩⟩
    rw [Nat.sub_self] at this
    exact this
  · have gen : ∀ (j : Nat) (h' : cmH) (u v : Option Value), j ≤ 8 → RO1 h h' f n T W st pt j → cm_wp sc (d + 4) 194 10 [some (.ref 38), some (.int (nI f)), some (.int (nI (q_ns pt 8 - q_ns pt j))), some (.int (nI j - 1)), u, v] [] h' (fun v h' => v = none ∧ KV h') := by
      intro j
      induction j with
      | zero =>
        intro h' u v hj X
        have L' := X.1.ly L
        have e57 : cm_I h' 57 f ≠ -1 := by rw [X.1.2 57 f (by unfold P_ro; omega)]; exact hr
        obtain ⟨e69, e70, -⟩ := X.2.2.2.1
        have kk := k1 hr h' X
        unfold q_rip at kk
        rw [← e69, ← e70] at kk
        refine s194_10 L' _ _ _ _ _ ⟨fun _ => ⟨ix_nI (by omega) (by decide), ?_⟩, fun w => absurd (by decide) w⟩
        rw [nI_clamp (by omega)]
        show (_ → (nI (q_ns pt 8 - 0) ≤ 0 → _) ∧ _) ∧ _
        rw [Nat.sub_zero]
        have fin : 0 < q_ns pt 8 → (cm_I h' 69 f = -1 ∨ cm_I h' 58 f < cm_I h' 70 f) → ∀ (x2 x3 : Int32) (u4 u5 : Option Value), cm_wp sc (d + 4) 194 132 [some (.ref 38), some (.int (nI f)), some (.int x2), some (.int x3), u4, u5] [] h' (fun v h' => v = none ∧ KV h') := by
          intro p1 p2 x2 x3 u4 u5
          rw [if_pos ⟨p1, p2⟩] at kk
          refine s194_132 L' _ _ _ _ _ ⟨ix_nI (by omega) (by decide), ix_nI (by omega) (by decide), rfl, ?_⟩
          rw [nI_clamp (by omega), X.1.2 38 0 (by unfold P_ro; omega), hT]
          exact kk
        refine br_t e57 ⟨fun w => ⟨rfl, ?_⟩, fun w => ⟨ix_nI (by omega) (by decide), fun z => fin ?_ (Or.inl z) _ _ _ _, fun z => ⟨fun z2 => ⟨rfl, ?_⟩, fun z2 => fin ?_ (Or.inr (Int32.not_le.mp z2)) _ _ _ _⟩⟩⟩
        · rw [if_neg] at kk
          · exact kk
          · rintro ⟨p1, -⟩
            exact nI_nle p1 (by omega) w
        · rcases Nat.eq_zero_or_pos (q_ns pt 8) with y | y
          · exact absurd (by rw [y, Nat.zero_sub]; decide) w
          · exact y
        · rw [if_neg] at kk
          · exact kk
          · rintro ⟨-, p2 | p2⟩
            · exact z p2
            · exact absurd z2 (Int32.not_le.mpr p2)
        · rcases Nat.eq_zero_or_pos (q_ns pt 8) with y | y
          · exact absurd (by rw [y, Nat.zero_sub]; decide) w
          · exact y
      | succ j ih =>
        intro h' u v hj X
        have L' := X.1.ly L
        have xo : ∀ x k, x ≠ 75 → x ≠ 58 → x ≠ 48 → x ≠ 46 → x ≠ 68 → x ≠ 71 → x ≠ 69 → x ≠ 70 → x ≠ 76 → cm_I h' x k = cm_I h x k := fun x k a b c d e f g h i => X.1.2 x k (by unfold P_ro; omega)
        have mono := q_ns_mono pt (i := j + 1) (n := 8) (by omega)
        have estep : q_ns pt (j + 1) = q_ns pt j + pt j := rfl
        have mono2 := q_ns_mono (q_out W st pt n) (i := j + 1) (n := 8) (by omega)
        have estep2 : q_ns (q_out W st pt n) (j + 1) = q_ns (q_out W st pt n) j + q_out W st pt n j := rfl
        rw [nI_pred]
        refine s194_10 L' _ _ _ _ _ ⟨fun w => absurd w (nI_pos (by omega)), fun _ => m_partOf L' (by rw [xo 38 24 (by decide) (by decide) (by decide) (by decide) (by decide) (by decide) (by decide) (by decide) (by decide)]; exact hF) h8 hf (by omega) (by rw [xo 67 j (by decide) (by decide) (by decide) (by decide) (by decide) (by decide) (by decide) (by decide) (by decide)]; exact (hg j (by omega)).1) (hg j (by omega)).2 (by rw [xo 38 48 (by decide) (by decide) (by decide) (by decide) (by decide) (by decide) (by decide) (by decide) (by decide)]; exact hQ) hQ1 hQ2 (fun o ho => by rw [xo 56 o (by decide) (by decide) (by decide) (by decide) (by decide) (by decide) (by decide) (by decide) (by decide)]; exact hsh o ho) hsum (s194_20 L' _ _ _ _ _ _ ⟨ix_nI (by omega) (by decide), ?_⟩)⟩
        rw [nI_clamp (by omega), ← hpt j (by omega)]
        refine br_t (by rw [xo 57 f (by decide) (by decide) (by decide) (by decide) (by decide) (by decide) (by decide) (by decide) (by decide)]; exact hr) (m_lead (W := W) (st := st j) L' (by omega) (by rw [xo 42 f (by decide) (by decide) (by decide) (by decide) (by decide) (by decide) (by decide) (by decide) (by decide)]; exact hn) h10 (by omega) n0 (fun c hc => ⟨X.2.1 c hc, (hW c hc).2⟩) (by rw [xo 39 j (by decide) (by decide) (by decide) (by decide) (by decide) (by decide) (by decide) (by decide) (by decide)]; exact (hst j (by omega)).1) (hst j (by omega)).2 (hpt2 j (by omega)) (fun h2 Y => s194_56 (Y.1.ly L') _ _ _ _ _ _ ⟨ix_nI (by omega) (by decide), ?_⟩))
        rw [nI_clamp (by omega)]
        have yo : ∀ x k, ¬ P_ld f n j x k → cm_I h2 x k = cm_I h' x k := Y.1.2
        have L2 : LY (cm_setI h2 58 f (cm_I h2 58 f + nI (q_lf W j (st j) (q_in (W 0) j (pt j)) n))) := Y.1.ly L'
        refine m_tell (w := 1) L2 (T := T) ?_ hT2 (by omega) (by omega) (s194_77 _ _ _ _ _ ?_)
        · rw [sI_o (Or.inl (by decide)), yo _ _ (by unfold P_ld; omega), xo 38 0 (by decide) (by decide) (by decide) (by decide) (by decide) (by decide) (by decide) (by decide) (by decide)]; exact hT
        rw [nI_add, show q_ns pt 8 - q_ns pt (j + 1) + pt j = q_ns pt 8 - q_ns pt j by omega, show nI j + -1 = nI j - 1 from (Int32.sub_eq_add_neg _ _).symm, if_neg (by decide)]
        obtain ⟨a1, a2, a3, a4, a5, a6⟩ := X.2.2.2.2 j (by omega)
        rw [if_neg (by omega)] at a1 a3 a4
        rw [sI_o (b := 68) (Or.inl (by decide)), sI_o (b := 71) (Or.inl (by decide)), yo 58 f (by unfold P_ld; omega), yo 68 _ (by unfold P_ld; omega), yo 71 _ (by unfold P_ld; omega), a3, a4, X.2.2.1, nI_add, show q_ns (q_out W st pt n) 8 - q_ns (q_out W st pt n) (j + 1) + q_lf W j (st j) (q_in (W 0) j (pt j)) n = q_ns (q_out W st pt n) 8 - q_ns (q_out W st pt n) j by show _ + q_out W st pt n j = _; omega]
        refine ih _ _ _ (by omega) ⟨?_, fun c hc => ?_, ?_, ⟨?_, ?_, ?_⟩, fun s hs => ?_⟩
        · have Y2 : XI h h2 (P_ro f n T) := X.1.trans (Y.1.mono fun x k w => by
            rcases w with w | ⟨w1, c, hc, w2⟩
            · exact Or.inr (Or.inr (Or.inl ⟨w.1, by omega, by omega⟩))
            · exact Or.inr (Or.inr (Or.inr (Or.inl ⟨w1, by omega, by omega⟩))))
          exact ((Y2.set (Or.inr (Or.inl ⟨rfl, rfl⟩))).set (Or.inr (Or.inr (Or.inr (Or.inr (Or.inl ⟨rfl, by omega, by omega⟩)))))).set (Or.inr (Or.inr (Or.inr (Or.inr (Or.inr (Or.inl ⟨rfl, by omega⟩))))))
        · rw [sI_o (Or.inl (by decide)), sI_o (Or.inl (by decide)), sI_o (Or.inl (by decide)), yo _ _ (by unfold P_ld; omega)]; exact X.2.1 c hc
        · rw [sI_o (Or.inl (by decide)), sI_o (Or.inl (by decide)), sI_s]
        · rw [sI_o (Or.inl (by decide)), sI_o (Or.inl (by decide)), sI_o (Or.inl (by decide)), yo _ _ (by unfold P_ld; omega)]; exact X.2.2.2.1.1
        · rw [sI_o (Or.inl (by decide)), sI_o (Or.inl (by decide)), sI_o (Or.inl (by decide)), yo _ _ (by unfold P_ld; omega)]; exact X.2.2.2.1.2.1
        · rw [sI_o (Or.inl (by decide)), sI_o (Or.inl (by decide)), sI_o (Or.inl (by decide)), yo _ _ (by unfold P_ld; omega)]; exact X.2.2.2.1.2.2
        · obtain ⟨b1, b2, b3, b4, ⟨b5, b5'⟩, b6⟩ := X.2.2.2.2 s hs
          by_cases z : s = j
          · subst z
            refine ⟨?_, fun c hc => ?_, ?_, ?_, ⟨?_, ?_⟩, fun w hw hw4 => ?_⟩
            · rw [sI_o (Or.inl (by decide)), sI_o (Or.inl (by decide)), sI_o (Or.inl (by decide)), Y.2.1, a1, if_pos (Nat.le_refl _)]
            · have := a2 c hc
              rw [if_neg (by omega)] at this
              rw [sI_o (Or.inl (by decide)), sI_o (Or.inl (by decide)), sI_o (Or.inl (by decide)), Y.2.2 c hc, if_pos hc, this, if_pos (Nat.le_refl _)]
            · rw [sI_o (Or.inl (by decide)), sI_s, if_pos (Nat.le_refl _)]; rfl
            · rw [sI_s, if_pos (Nat.le_refl _)]; rfl
            · rw [sI_o (Or.inl (by decide)), sI_o (Or.inr (by omega)), sI_o (Or.inl (by decide)), yo _ _ (by unfold P_ld; omega)]; exact b5
            · rw [sI_o (Or.inl (by decide)), sI_o (Or.inr (by omega)), sI_o (Or.inl (by decide)), yo _ _ (by unfold P_ld; omega)]; exact b5'
            · rw [sI_o (Or.inr (by omega)), sI_o (Or.inl (by decide)), sI_o (Or.inl (by decide)), yo _ _ (by unfold P_ld; omega)]; exact b6 w hw hw4
          · refine ⟨?_, fun c hc => ?_, ?_, ?_, ⟨?_, ?_⟩, fun w hw hw4 => ?_⟩
            · rw [sI_o (Or.inl (by decide)), sI_o (Or.inl (by decide)), sI_o (Or.inl (by decide)), yo _ _ (by unfold P_ld; omega), b1]
              by_cases y : j ≤ s
              · rw [if_pos y, if_pos (by omega)]
              · rw [if_neg y, if_neg (by omega)]
            · rw [sI_o (Or.inl (by decide)), sI_o (Or.inl (by decide)), sI_o (Or.inl (by decide)), yo _ _ (by rintro (w | ⟨-, c', hc', w⟩) <;> omega), b2 c hc]
              by_cases y : j ≤ s
              · rw [if_pos y, if_pos (by omega)]
              · rw [if_neg y, if_neg (by omega)]
            · rw [sI_o (Or.inl (by decide)), sI_o (Or.inr (by omega)), sI_o (Or.inl (by decide)), yo _ _ (by unfold P_ld; omega), b3]
              by_cases y : j ≤ s
              · rw [if_pos y, if_pos (by omega)]
              · rw [if_neg y, if_neg (by omega)]
            · rw [sI_o (Or.inr (by omega)), sI_o (Or.inl (by decide)), sI_o (Or.inl (by decide)), yo _ _ (by unfold P_ld; omega), b4]
              by_cases y : j ≤ s
              · rw [if_pos y, if_pos (by omega)]
              · rw [if_neg y, if_neg (by omega)]
            · rw [sI_o (Or.inl (by decide)), sI_o (Or.inr (by omega)), sI_o (Or.inl (by decide)), yo _ _ (by unfold P_ld; omega)]; exact b5
            · rw [sI_o (Or.inl (by decide)), sI_o (Or.inr (by omega)), sI_o (Or.inl (by decide)), yo _ _ (by unfold P_ld; omega)]; exact b5'
            · rw [sI_o (Or.inr (by omega)), sI_o (Or.inl (by decide)), sI_o (Or.inl (by decide)), yo _ _ (by unfold P_ld; omega)]; exact b6 w hw hw4
    have := gen 8 h0 none none (by omega) ⟨X0.mono fun x k w => Or.inl w, fun c hc => by rw [v0 c hc]; exact (hW c hc).1, by rw [Nat.sub_self, X0.2 _ _ (by simp)]; exact h58, ⟨X0.2 _ _ (by simp), X0.2 _ _ (by simp), X0.2 _ _ (by simp)⟩, fun s hs => by rw [if_neg (by omega), if_neg (by omega), if_neg (by omega)]; exact ⟨X0.2 _ _ (by simp), fun c _ => by rw [if_neg (by omega)]; exact X0.2 _ _ (by simp), X0.2 _ _ (by simp), X0.2 _ _ (by simp), ⟨X0.2 _ _ (by simp), X0.2 _ _ (by simp)⟩, fun w _ _ => X0.2 _ _ (by simp)⟩⟩
    rw [Nat.sub_self] at this
    exact this
end RUNONE
