/-! ===== the class's readClause ===== -/
section CCLAUSE
variable {sc : cmS} {T : Nat → Nat} {n tb : Nat} {lt : Nat → Int32} {d : Nat} {h : cmH} {KV : cmH → Prop}
/-- the reader's own fields may have changed, its text has not -/
def YR (h h' : cmH) : Prop := h' = cm_w h (cm_I h') (cm_J h') ∧ (∀ x k, ¬ (x = 9 ∧ 3 ≤ k ∧ k ≤ 6) → cm_I h' x k = cm_I h x k) ∧ ∀ x k, ¬ (x = 9 ∧ k = 7) → cm_J h' x k = cm_J h x k
theorem YR.refl {h : cmH} : YR h h := ⟨rfl, fun _ _ _ => rfl, fun _ _ _ => rfl⟩
theorem YR.of {h h' : cmH} (X : XI h h' P_r) : YR h h' := ⟨X.w.1, fun x k q => X.2 x k (by unfold P_r; omega), fun x k _ => by rw [X.J]⟩
theorem YR.trans {h h' h'' : cmH} (x : YR h h') (y : YR h' h'') : YR h h'' := by
  refine ⟨?_, fun a k z => (y.2.1 a k z).trans (x.2.1 a k z), fun a k z => (y.2.2 a k z).trans (x.2.2 a k z)⟩
  have := y.1
  rw [x.1] at this
  exact this
theorem YR.set {h h' : cmH} {k : Nat} {v : Int32} (x : YR h h') (p : 3 ≤ k ∧ k ≤ 6) : YR h (cm_setI h' 9 k v) := by
  refine ⟨?_, fun b j q => ?_, x.2.2⟩
  · rw [x.1]; rfl
  · rw [← x.2.1 b j q]
    exact if_neg fun z => q ⟨z.1, by omega, by omega⟩
theorem YR.setJ {h h' : cmH} {v : Int64} (x : YR h h') : YR h (cm_setJ h' 9 7 v) := by
  refine ⟨?_, x.2.1, fun b j q => ?_⟩
  · rw [x.1]; rfl
  · rw [← x.2.2 b j q]
    exact if_neg fun z => q z
theorem RS.y {h h' : cmH} (S : RS h T n tb lt) (X : YR h h') : RS h' T n tb lt := by
  obtain ⟨L, ⟨a, b, c, d, e, f, g, i, j⟩, nt, l⟩ := S
  have e1 := X.1
  have kd : cm_kd h' = cm_kd h := by rw [e1]; rfl
  have ln : cm_ln h' = cm_ln h := by rw [e1]; rfl
  have nn : cm_n h' = cm_n h := by rw [e1]; rfl
  have rr : cm_R h' = cm_R h := by rw [e1]; rfl
  refine ⟨by rw [e1]; exact L, ⟨by rw [rr]; exact a, by rw [kd]; exact b, by rw [nn]; exact c, d, by rw [ln]; exact e, by rw [ln]; exact f, ?_, i, fun k hk => ?_⟩, nt, fun c q => ?_⟩
  · rw [X.2.1 9 2 (by omega)]; exact g
  · rw [X.2.1 tb k (by omega)]; exact j k hk
  · rw [X.2.1 10 _ (by omega)]; exact l c q
theorem sJ_same {h : cmH} {a k : Nat} {v : Int64} : cm_J (cm_setJ h a k v) a k = v := u2_s
theorem ix1_y {c : Nat} (q : lab c) : 0 ≤ cm_ix 1 (nI c) := by
  unfold lab at q
  rcases q with rfl | rfl | rfl | rfl <;> decide
theorem ix1_n {c : Nat} (hc : c < 256) (q : ¬ lab c) : ¬ 0 ≤ cm_ix 1 (nI c) := by
  have no : ∀ m, m < 256 → c ≠ m → ¬ nI c = nI m := fun m hm z e => z (nI_inj (by omega) (by omega) e)
  unfold lab at q
  unfold cm_ix
  rw [if_pos rfl, if_neg (show ¬ nI c = 119 from no 119 (by decide) (by omega)), if_neg (show ¬ nI c = 114 from no 114 (by decide) (by omega)), if_neg (show ¬ nI c = 99 from no 99 (by decide) (by omega)), if_neg (show ¬ nI c = 117 from no 117 (by decide) (by omega))]
  decide
/-- what a clause leaves behind -/
def CLk (h h' : cmH) (T : Nat → Nat) (n tb : Nat) (lt : Nat → Int32) (c : Nat) (r : Nat × Option Nat × CL) : Prop := YR h h' ∧ RS h' T n tb lt ∧ RA h' n r.1 r.2.1 ∧ cm_I h' 9 5 = nI c ∧ (r.2.1 = none → lab c ∧ r.2.2.1 = c ∧ ∃ b v, (b = 0 ∨ b = 1) ∧ cm_I h' 9 6 = b ∧ cm_J h' 9 7 = v.toInt64 ∧ EV lt r.2.2.2.1 b ∧ EV lt r.2.2.2.2 v)
theorem c_clause {N p : Nat} {w : Option Nat} (hN : 3000 ≤ N) (hd : 36 ≤ d) (S : RS h T n tb lt) (A : RA h n p w) (k : ∀ h', CLk h h' T n tb lt (sg T n p w) (pcl T n (pp T n N) p w) → KV h') : cm_cv sc d 41 [.ref 9] h KV := by
  obtain ⟨d, rfl⟩ : ∃ e, d = e + 2 := ⟨d - 2, by omega⟩
  have h160 := S.m160
  have hle := S.2.1.le (p := p) (w := w)
  have g1 : p ≤ sq T n p := sq_ge
  obtain ⟨-, -, -, -, HS⟩ := c_expr (sc := sc) (T := T) (n := n) (tb := tb) (lt := lt) N
  obtain ⟨HC, HU, -, -, HM⟩ := c_cond (sc := sc) (T := T) (n := n) (tb := tb) (lt := lt) N N (Nat.le_refl N)
  refine cv_of rfl (s41_0 S.1 _ (c_sign S.1 S.2.1 A fun h1 X1 A1 => ?_))
  have S1 := S.x X1
  refine s41_5 S1.1 _ _ ⟨⟨nI_pos' (by omega), nI_le (b := 65535) (by omega) (by decide)⟩, by omega, fun z => ?_, fun z => ?_⟩
  case refine_2 =>
    have nl : ¬ lab (sg T n p w) := fun q => z (ix1_y q)
    have A2 : RA (cm_setI h1 9 5 (nI (sg T n p w))) n (sq T n p) w := ⟨by rw [sI_o (Or.inr (by decide))]; exact A1.1, A1.2.1, by rw [sI_o (Or.inr (by decide))]; exact A1.2.2.1, A1.2.2.2⟩
    refine c_fail S1.1.s A2 h160 fun h2 X2 A3 => s41_24 _ ⟨rfl, k h2 ?_⟩
    have Y : YR h h2 := ((YR.of X1).set ⟨by decide, by decide⟩).trans (YR.of X2)
    have ep : pcl T n (pp T n N) p w = (sq T n p, fl w (sq T n p), 0, [], []) := if_neg nl
    rw [ep]
    refine ⟨Y, S.y Y, A3, by rw [X2.2 9 5 (by unfold P_r; omega), sI_s], fun e => ?_⟩
    dsimp only at e
    unfold fl at e
    split at e <;> cases e
  have hlab : lab (sg T n p w) := Decidable.byContradiction fun q => ix1_n (by omega) q z
  obtain ⟨hl, ew, hTq⟩ := sg_lt (T := T) (n := n) (p := p) (w := w) rfl (by unfold lab at hlab; omega)
  have Y2 : YR h (cm_setI (cm_setI h1 9 5 (nI (sg T n p w))) 9 3 (cm_I h1 9 3 + 1)) := ((YR.of X1).set ⟨by decide, by decide⟩).set ⟨by decide, by decide⟩
  have A2 : RA (cm_setI (cm_setI h1 9 5 (nI (sg T n p w))) 9 3 (cm_I h1 9 3 + 1)) n (sq T n p + 1) w := ⟨by rw [sI_s, A1.1, nI_1], hl, by rw [sI_o (Or.inr (by decide)), sI_o (Or.inr (by decide))]; exact A1.2.2.1, A1.2.2.2⟩
  have S2 := S.y Y2
  refine c_expect (r := (sq T n p + 1, w, [])) (c := 58) S2.1 S2.2.1 A2 (by decide) (by decide) (fun h3 X3 A3 => s41_41 (S2.x X3).1 _ ?_)
  have ep : pcl T n (pp T n N) p w = (if sg T n (exq T n (sq T n p + 1, w, []) 58).1 (exq T n (sq T n p + 1, w, []) 58).2.1 = 33 ∨ sg T n (exq T n (sq T n p + 1, w, []) 58).1 (exq T n (sq T n p + 1, w, []) 58).2.1 = 40 then _ else _) := if_pos hlab
  rw [ep] at k
  have hr0 : (exq T n (sq T n p + 1, w, []) 58).1 ≤ n := (exq_ge (T := T) (n := n) (r := (sq T n p + 1, w, [])) (c := 58) (by decide) hl).2
  generalize hr : exq T n (sq T n p + 1, w, []) 58 = r0 at k A3 hr0
  have Y3 : YR h (cm_setI h3 9 6 1) := (Y2.trans (YR.of X3)).set ⟨by decide, by decide⟩
  have c3 : cm_I (cm_setI h3 9 6 1) 9 5 = nI (sg T n p w) := by rw [sI_o (Or.inr (by decide)), X3.2 9 5 (by unfold P_r; omega), sI_o (Or.inr (by decide)), sI_s]
  have A3' : RA (cm_setI h3 9 6 1) n r0.1 r0.2.1 := ⟨by rw [sI_o (Or.inr (by decide))]; exact A3.1, A3.2.1, by rw [sI_o (Or.inr (by decide))]; exact A3.2.2.1, A3.2.2.2⟩
  have S3 := S.y Y3
  have hle0 := S.2.1.le (p := r0.1) (w := r0.2.1)
  -- behind a condition
  have tail : ∀ (h5 : cmH) (r : PR) (cc : List Nat) (b : Int32) (u : Option Value), YR h h5 → RA h5 n r.1 r.2.1 → cm_I h5 9 5 = nI (sg T n p w) → cm_I h5 9 6 = b → (b = 0 ∨ b = 1) → (r.2.1 = none → EV lt cc b) → (∀ h', CLk h h' T n tb lt (sg T n p w) ((pp T n N 4 0 (exq T n r 63).1 (exq T n r 63).2.1).1, (pp T n N 4 0 (exq T n r 63).1 (exq T n r 63).2.1).2.1, sg T n p w, cc, (pp T n N 4 0 (exq T n r 63).1 (exq T n r 63).2.1).2.2) → KV h') → ∀ x1 : Int32, cm_wp sc (d + 2) 41 131 [some (.ref 9), some (.int x1)] [] h5 (fun v h' => v = none ∧ KV h') := by
    intro h5 r cc b u Y5 A5 e5 e6 hb E5 kk x1
    have S5 := S.y Y5
    refine s41_131 S5.1 _ (c_expect (r := r) (c := 63) S5.1 S5.2.1 A5 (by decide) (by decide) (fun h6 X6 A6 => ?_))
    have S6 := S5.x X6
    refine s41_137 S6.1 _ (HS (d + 1) h6 _ 0 _ _ S6 A6 (by omega) (by omega) (by show 16 * (n - (exq T n r 63).1) + 2 < N; omega) (fun v h7 X7 A7 E7 => s41_143 (S6.x X7).1 _ _ ⟨rfl, kk _ ?_⟩))
    have Y7 : YR h (cm_setJ h7 9 7 v.toInt64) := (Y5.trans ((YR.of X6).trans (YR.of X7))).setJ
    refine ⟨Y7, S.y Y7, A7, ?_, fun e => ⟨hlab, rfl, b, v, hb, ?_, sJ_same, E5 ?_, E7 e⟩⟩
    · show cm_I h7 9 5 = _
      rw [X7.2 9 5 (by unfold P_r; omega), X6.2 9 5 (by unfold P_r; omega)]; exact e5
    · show cm_I h7 9 6 = _
      rw [X7.2 9 6 (by unfold P_r; omega), X6.2 9 6 (by unfold P_r; omega)]; exact e6
    · exact (exq_well (pp_well e)).1
  refine c_sign S3.1 S3.2.1 A3' fun h4 X4 A4 => ?_
  have S4 := S3.x X4
  have Y4 := Y3.trans (YR.of X4)
  have c4 : cm_I h4 9 5 = nI (sg T n p w) := by rw [X4.2 9 5 (by unfold P_r; omega)]; exact c3
  have f4 : cm_I h4 9 6 = 1 := by rw [X4.2 9 6 (by unfold P_r; omega), sI_s]
  have w63 : (sg T n r0.1 r0.2.1 = 33 ∨ sg T n r0.1 r0.2.1 = 40) → cm_wp sc (d + 2) 41 63 [some (.ref 9), some (.int (nI (sg T n r0.1 r0.2.1)))] [] h4 (fun v h' => v = none ∧ KV h') := fun q => by
    rw [if_pos q] at k
    refine s41_63 S4.1 _ (HU (d + 1) h4 _ 0 (sq T n r0.1) r0.2.1 S4 A4 (by omega) (by omega) (by omega) (fun v h5 X5 A5 E5 hv => ?_))
    rw [pp_sq6 (by omega)] at A5 E5
    have S5 := S4.x X5
    refine s41_70 S5.1 _ _ (HM (d + 1) h5 _ 0 _ _ _ v S5 A5 (by omega) (by omega) (by show 16 * (n - _) + 1 < N; omega) E5 hv (fun v6 h6 X6 A6 E6 hv6 => ?_))
    refine s41_74 (S5.x X6).1 _ _ ⟨hv6, tail (cm_setI h6 9 6 v6) (pSeq (pp T n N) 6 9 0 r0.1 r0.2.1) _ v6 none ((Y4.trans ((YR.of X5).trans (YR.of X6))).set ⟨by decide, by decide⟩) ⟨by rw [sI_o (Or.inr (by decide))]; exact A6.1, A6.2.1, by rw [sI_o (Or.inr (by decide))]; exact A6.2.2.1, A6.2.2.2⟩ ?_ sI_s hv6 E6 k _⟩
    rw [sI_o (Or.inr (by decide)), X6.2 9 5 (by unfold P_r; omega), X5.2 9 5 (by unfold P_r; omega)]; exact c4
  refine s41_50 S4.1 _ _ ⟨fun q => w63 (Or.inl (nI_inj (by omega) (by decide) q)), fun q1 => ⟨fun q2 => ?_, fun q2 => w63 (Or.inr (nI_inj (by omega) (by decide) (Decidable.not_not.mp q2)))⟩⟩
  have nq : ¬ (sg T n r0.1 r0.2.1 = 33 ∨ sg T n r0.1 r0.2.1 = 40) := by
    rintro (q | q)
    · exact q1 (by rw [q]; rfl)
    · exact q2 (by rw [q]; rfl)
  rw [if_neg nq] at k
  refine HS (d + 1) h4 _ 0 (sq T n r0.1) r0.2.1 S4 A4 (by omega) (by omega) (by show 16 * (n - sq T n r0.1) + 2 < N; omega) (fun v h5 X5 A5 E5 => ?_)
  rw [pp_sq4 (by omega)] at A5 E5
  have M5 := (pp_mono (T := T) (n := n) N 4 0 r0.1 r0.2.1 hr0).2
  generalize hr1 : pp T n N 4 0 r0.1 r0.2.1 = r1 at k A5 E5 M5
  have S5 := S4.x X5
  have Y5 : YR h (cm_setJ h5 9 7 v.toInt64) := (Y4.trans (YR.of X5)).setJ
  have S5' := S.y Y5
  have A5' : RA (cm_setJ h5 9 7 v.toInt64) n r1.1 r1.2.1 := A5
  have hle1 := S.2.1.le (p := r1.1) (w := r1.2.1)
  refine s41_86 S5.1 _ _ (c_sign S5'.1 S5'.2.1 A5' fun h6 X6 A6 => ?_)
  have S6 := S5'.x X6
  have Y6 := Y5.trans (YR.of X6)
  have c6 : cm_I h6 9 5 = nI (sg T n p w) := by
    rw [X6.2 9 5 (by unfold P_r; omega)]
    show cm_I h5 9 5 = _
    rw [X5.2 9 5 (by unfold P_r; omega)]; exact c4
  have j6 : cm_J h6 9 7 = v.toInt64 := by rw [X6.J]; exact sJ_same
  have f6 : cm_I h6 9 6 = 1 := by
    rw [X6.2 9 6 (by unfold P_r; omega)]
    show cm_I h5 9 6 = _
    rw [X5.2 9 6 (by unfold P_r; omega)]; exact f4
  unfold pcl.pcs at k
  have w113 : (sg T n r1.1 r1.2.1 = 61 ∨ sg T n r1.1 r1.2.1 = 60 ∨ sg T n r1.1 r1.2.1 = 62) → cm_wp sc (d + 2) 41 113 [some (.ref 9), some (.int (nI (sg T n r1.1 r1.2.1)))] [] h6 (fun v h' => v = none ∧ KV h') := fun q => by
    rw [if_pos q] at k
    refine s41_113 S6.1 _ ?_
    rw [j6]
    obtain ⟨N', rfl⟩ : ∃ m, N = m + 1 := ⟨N - 1, by omega⟩
    refine HC (d + 1) h6 _ 0 (sq T n r1.1) r1.2.1 r1.2.2 v S6 A6 (by omega) (by omega) (by omega) E5 (fun v7 h7 X7 A7 E7 hv7 => ?_)
    rw [pp_sq5] at A7 E7
    have S7 := S6.x X7
    refine s41_124 S7.1 _ _ (HM (d + 1) h7 _ 0 _ _ _ v7 S7 A7 (by omega) (by omega) (by show 16 * (n - _) + 1 < N' + 1; omega) E7 hv7 (fun v8 h8 X8 A8 E8 hv8 => ?_))
    refine s41_128 (S7.x X8).1 _ _ ⟨hv8, tail (cm_setI h8 9 6 v8) (pSeq (pp T n (N' + 1)) 5 9 0 r1.1 r1.2.1) _ v8 none ((Y6.trans ((YR.of X7).trans (YR.of X8))).set ⟨by decide, by decide⟩) ⟨by rw [sI_o (Or.inr (by decide))]; exact A8.1, A8.2.1, by rw [sI_o (Or.inr (by decide))]; exact A8.2.2.1, A8.2.2.2⟩ ?_ sI_s hv8 (fun e => ?_) k _⟩
    · rw [sI_o (Or.inr (by decide)), X8.2 9 5 (by unfold P_r; omega), X7.2 9 5 (by unfold P_r; omega)]; exact c6
    · have := E8 e
      rw [List.append_assoc] at this
      exact this
  refine s41_93 _ _ ⟨fun q => w113 (Or.inl (nI_inj (by omega) (by decide) q)), fun q1 => ⟨fun q => w113 (Or.inr (Or.inl (nI_inj (by omega) (by decide) q))), fun q2 => ⟨fun q => w113 (Or.inr (Or.inr (nI_inj (by omega) (by decide) q))), fun q3 => ⟨rfl, ?_⟩⟩⟩⟩
  have nq2 : ¬ (sg T n r1.1 r1.2.1 = 61 ∨ sg T n r1.1 r1.2.1 = 60 ∨ sg T n r1.1 r1.2.1 = 62) := by
    rintro (q | q | q)
    · exact q1 (by rw [q]; rfl)
    · exact q2 (by rw [q]; rfl)
    · exact q3 (by rw [q]; rfl)
  rw [if_neg nq2] at k
  exact k h6 ⟨Y6, S6, A6, c6, fun e => ⟨hlab, rfl, 1, v, Or.inr rfl, f6, j6, EV.num (v := 1), E5 e⟩⟩
end CCLAUSE
