/-! ===== the reference's clause ===== -/
section MCLAUSE
variable {sc : cmS} {T : Nat → Nat} {n d : Nat} {h : cmH} {KV : cmH → Prop}
theorem m_label_lk {K : Int32 → cmH → Prop} {h0 : cmH} {p : Nat} (G : RM h0 T n) (t : lab (sg T n p none) → K 1 h) (f : ¬ lab (sg T n p none) → K 0 h) : cm_ci sc d 160 [.int (lk T n p)] h K := by
  have e : ∀ c, 0 < c → c < 256 → (lk T n p = nI c ↔ sg T n p none = c) := fun c a b => G.lk a b
  have y : lab (sg T n p none) → cm_wp sc d 160 24 [some (.int (lk T n p))] [] h (fun v h' => ∃ x, v = some (.int x) ∧ K x h') := fun q => s160_24 _ (ai (t q))
  refine ci_of rfl (s160_0 _ ⟨fun q => y (Or.inl ((e 119 (by decide) (by decide)).mp q)), fun q1 => ⟨fun q => y (Or.inr (Or.inl ((e 114 (by decide) (by decide)).mp q))), fun q2 => ⟨fun q => y (Or.inr (Or.inr (Or.inl ((e 99 (by decide) (by decide)).mp q)))), fun q3 => ⟨fun q4 => ai (f ?_), fun q => y (Or.inr (Or.inr (Or.inr ((e 117 (by decide) (by decide)).mp (Decidable.not_not.mp q)))))⟩⟩⟩⟩)
  rintro (z | z | z | z)
  · exact q1 ((e 119 (by decide) (by decide)).mpr z)
  · exact q2 ((e 114 (by decide) (by decide)).mpr z)
  · exact q3 ((e 99 (by decide) (by decide)).mpr z)
  · exact q4 ((e 117 (by decide) (by decide)).mpr z)
/-- the codes of a plain clause move up by three -/
theorem m_move {Q : Option Value → cmH → Prop} {h0 : cmH} {s len : Nat} {x1 x2 x3 : Int32} (L : LY h0) (hs : s + len + 6 ≤ 420) (e33 : cm_I h0 38 33 = nI (s + 1 + len)) (k : ∀ h', XI h0 h' P_m → (∀ j, j < s + 1 → cm_I h' 62 j = cm_I h0 62 j) → cm_I h' 62 (s + 1) = 0 → cm_I h' 62 (s + 2) = 1 → cm_I h' 62 (s + 3) = 2 → (∀ i, i < len → cm_I h' 62 (s + 4 + i) = cm_I h0 62 (s + 1 + i)) → cm_I h' 62 (s + 4 + len) = 3 → cm_I h' 38 33 = nI (s + 1 + len + 4) → (∀ j, j ≠ 33 → cm_I h' 38 j = cm_I h0 38 j) → Q none h') : ∀ (j : Nat) (h1 : cmH), j ≤ len → XI h0 h1 (fun x _ => x = 62) → (∀ q, q < s + 1 + j → cm_I h1 62 q = cm_I h0 62 q) → (∀ i, j ≤ i → i < len → cm_I h1 62 (s + 4 + i) = cm_I h0 62 (s + 1 + i)) → cm_wp sc (d + 1) 158 120 [some (.ref 38), some (.int x1), some (.int x2), some (.int x3), some (.int (nI (s + 1))), some (.int (nI (s + 1 + j) - 1))] [] h1 Q := by
  intro j
  induction j with
  | zero =>
    intro h1 hj X lo mv
    have L1 := X.ly L
    have e1 : nI (s + 1) + 1 = nI (s + 2) := nI_1 _
    have e2 : nI (s + 1) + 2 = nI (s + 3) := nI_add _ 2
    have i33 : cm_I h1 38 33 = nI (s + 1 + len) := by rw [X.2 38 33 (by omega)]; exact e33
    have e3 : cm_I h1 38 33 + 3 = nI (s + 1 + len + 3) := by rw [i33]; exact nI_add _ 3
    refine s158_120 L1 _ _ _ _ _ ⟨fun _ => ?_, fun z => absurd ?_ z⟩
    · rw [e1, e2, e3, nI_clamp (by omega), nI_clamp (by omega), nI_clamp (by omega)]
      refine ⟨ix_nI (by omega) (by decide), ix_nI (by omega) (by decide), ix_nI (by omega) (by decide), ?_⟩
      refine m_say (s := s + 1 + len + 3) L1.s.s.s.s sI_s (by omega) (s158_192 _ _ _ _ _ (k _ ?_ ?_ ?_ ?_ ?_ ?_ ?_ sI_s ?_))
      · exact ((((((X.mono fun x k q => Or.inr q).set (Or.inr rfl)).set (Or.inr rfl)).set (Or.inr rfl)).set (Or.inl ⟨rfl, by decide, by decide⟩)).set (Or.inr rfl)).set (Or.inl ⟨rfl, by decide, by decide⟩)
      · intro j hj
        rw [sI_o (Or.inl (by decide)), sI_o (Or.inr (by omega)), sI_o (Or.inl (by decide)), sI_o (Or.inr (by omega)), sI_o (Or.inr (by omega)), sI_o (Or.inr (by omega))]
        exact lo j (by omega)
      · rw [sI_o (Or.inl (by decide)), sI_o (Or.inr (by omega)), sI_o (Or.inl (by decide)), sI_o (Or.inr (by omega)), sI_o (Or.inr (by omega)), sI_s]
      · rw [sI_o (Or.inl (by decide)), sI_o (Or.inr (by omega)), sI_o (Or.inl (by decide)), sI_o (Or.inr (by omega)), sI_s]
      · rw [sI_o (Or.inl (by decide)), sI_o (Or.inr (by omega)), sI_o (Or.inl (by decide)), sI_s]
      · intro i hi
        rw [sI_o (Or.inl (by decide)), sI_o (Or.inr (by omega)), sI_o (Or.inl (by decide)), sI_o (Or.inr (by omega)), sI_o (Or.inr (by omega)), sI_o (Or.inr (by omega))]
        exact mv i (by omega) hi
      · rw [sI_o (Or.inl (by decide)), show s + 4 + len = s + 1 + len + 3 by omega, sI_s]
      · intro j hj
        rw [sI_o (Or.inr hj), sI_o (Or.inl (by decide)), sI_o (Or.inr hj), sI_o (Or.inl (by decide)), sI_o (Or.inl (by decide)), sI_o (Or.inl (by decide)), X.2 38 j (by omega)]
    · rw [show s + 1 + 0 = s + 1 from rfl, nI_pred]
      exact nI_lt (by omega) (by omega)
  | succ j ih =>
    intro h1 hj X lo mv
    have L1 := X.ly L
    rw [show s + 1 + (j + 1) = (s + 1 + j) + 1 by omega, nI_pred]
    refine s158_120 L1 _ _ _ _ _ ⟨fun z => absurd z (Int32.not_lt.mpr (nI_le (by omega) (by omega))), fun _ => ?_⟩
    have e3 : nI (s + 1 + j) + 3 = nI (s + 4 + j) := by rw [show s + 4 + j = s + 1 + j + 3 by omega]; exact nI_add _ 3
    rw [e3, nI_clamp (by omega), nI_clamp (by omega)]
    refine ⟨ix_nI (by omega) (by decide), ix_nI (by omega) (by decide), ?_⟩
    rw [← Int32.sub_eq_add_neg]
    refine ih _ (by omega) (X.set rfl) (fun q hq => ?_) (fun i h1 h2 => ?_)
    · rw [sI_o (Or.inr (by omega))]; exact lo q (by omega)
    · by_cases y : i = j
      · subst y; rw [sI_s]; exact lo _ (by omega)
      · rw [sI_o (Or.inr (by omega))]; exact mv i (by omega) h2
theorem pSeq_len' {N a b p : Nat} (h : p ≤ n) (e : (pSeq (pp T n N) a b 0 p none).2.1 = none) : (pSeq (pp T n N) a b 0 p none).2.2.length + 2 * p ≤ 2 * (pSeq (pp T n N) a b 0 p none).1 := pSeq_len (pp_mono N) (pp_dead N) (pp_len N) h e
def MCk (h h' : cmH) (n s : Nat) (r : Nat × Option Nat × CL) : Prop := XI h h' P_m ∧ ((r.2.1 = none ∧ MA h' r.1 0 (s + (flat r.2.2).length) ∧ SY h h' s (flat r.2.2)) ∨ ∃ q, r.2.1 = some q ∧ cm_I h' 38 31 = nI q ∧ q ≤ n)
theorem m_clause {N p s : Nat} (hN : 3000 ≤ N) (hd : 36 ≤ d) (G : RM h T n) (hp : p ≤ n) (A : MA h p 0 s) (hs : s ≤ 2 * p) (k : ∀ h', MCk h h' n s (pcl T n (pp T n N) p none) → KV h') : cm_cv sc d 158 [.ref 38] h KV := by
  obtain ⟨d, rfl⟩ : ∃ e, d = e + 2 := ⟨d - 2, by omega⟩
  have h160 := G.2.2.1
  have g1 : p ≤ sq T n p := sq_ge
  have g2 : sq T n p ≤ n := sq_le hp
  obtain ⟨-, -, -, -, HS⟩ := m_expr (sc := sc) (T := T) (n := n) N
  obtain ⟨HC, HU, -, -⟩ := m_cond (sc := sc) (T := T) (n := n) N N (Nat.le_refl N)
  obtain ⟨-, -, HP, HL⟩ := m_cond (sc := sc) (T := T) (n := n) N (N - 1) (by omega)
  have eN : N - 1 + 1 = N := by omega
  refine cv_of rfl (s158_0 G.1 _ _ _ _ _ (m_lk G hp A.1 fun h1 X1 e1 => s158_4 _ _ _ _ _ _ ?_))
  have Y1 := X_lk X1
  have G1 := G.x (X_m Y1)
  have A1 := A.lk X1 e1
  refine m_label_lk G (fun hlab => s158_9 G1.1 _ _ _ _ _ _ ⟨fun _ => ?_, fun y => absurd (by decide) y⟩) (fun nl => s158_9 G1.1 _ _ _ _ _ _ ⟨fun y => absurd rfl y, fun _ => m_bad G1.1 A1.1 A1.2.1 (s158_16 _ _ _ _ _ ⟨rfl, k _ ?_⟩)⟩)
  case refine_2 =>
    have ep : pcl T n (pp T n N) p none = (sq T n p, fl none (sq T n p), 0, [], []) := if_neg nl
    rw [ep]
    exact ⟨(X_m Y1).set (Or.inl ⟨rfl, by decide, by decide⟩), Or.inr ⟨sq T n p, rfl, sI_s, g2⟩⟩
  obtain ⟨hl, -, hTq⟩ := sg_lt (T := T) (n := n) (p := p) (w := none) rfl (by unfold lab at hlab; omega)
  have hcl : sg T n p none < 256 := by unfold lab at hlab; omega
  have elk : lk T n p = nI (sg T n p none) := (G.lk (by unfold lab at hlab; omega) hcl).mpr rfl
  rw [elk]
  have GA := G1.x (X_m (X_a (v := cm_I h1 38 30 + 1)))
  have XA : XI h (cm_setI h1 38 30 (cm_I h1 38 30 + 1)) P_s := Y1.trans X_a
  refine m_lk GA hl A1.nx.1 fun h2 X2 e2 => ?_
  have Y2 : XI h h2 P_s := XA.trans (X_lk X2)
  have G2 := G.x (X_m Y2)
  have A2 := A1.nx.lk X2 e2
  have ep : pcl T n (pp T n N) p none = (if sg T n (exq T n (sq T n p + 1, none, []) 58).1 (exq T n (sq T n p + 1, none, []) 58).2.1 = 33 ∨ sg T n (exq T n (sq T n p + 1, none, []) 58).1 (exq T n (sq T n p + 1, none, []) 58).2.1 = 40 then _ else _) := if_pos hlab
  rw [ep] at k
  have h3 : sq T n (sq T n p + 1) ≤ n := sq_le hl
  have g3 : sq T n p + 1 ≤ sq T n (sq T n p + 1) := sq_ge
  refine s158_31 G2.1 _ _ _ _ _ _ ⟨fun z => ?_, fun z => m_bad G2.1 A2.1 A2.2.1 (s158_40 _ _ _ _ _ ⟨rfl, k _ ?_⟩)⟩
  case refine_2 =>
    have nc : ¬ sg T n (sq T n p + 1) none = 58 := fun q => z ((GA.lk (by decide) (by decide)).mpr q)
    have ex : exq T n (sq T n p + 1, none, []) 58 = (sq T n (sq T n p + 1), some (sq T n (sq T n p + 1)), []) := if_neg nc
    rw [ex]
    dsimp only
    rw [sg_some, if_neg (by omega)]
    have e4 : (pp T n N 4 0 (sq T n (sq T n p + 1)) (some (sq T n (sq T n p + 1)))).2.1 = some (sq T n (sq T n p + 1)) := pp_dead N _ _ _ _
    refine ⟨(X_m Y2).set (Or.inl ⟨rfl, by decide, by decide⟩), Or.inr ⟨sq T n (sq T n p + 1), ?_, sI_s, h3⟩⟩
    unfold pcl.pcs
    rw [e4, sg_some, if_neg (by omega)]
  have hc58 : sg T n (sq T n p + 1) none = 58 := (GA.lk (by decide) (by decide)).mp z
  have hl2 := (sg_lt (T := T) (n := n) (p := sq T n p + 1) (w := none) hc58 (by decide)).1
  have ex : exq T n (sq T n p + 1, none, []) 58 = (sq T n (sq T n p + 1) + 1, none, []) := if_pos hc58
  rw [ex] at k
  dsimp only at k
  generalize hP : sq T n (sq T n p + 1) + 1 = P at k
  have hPn : P ≤ n := by omega
  have hPp : p + 2 ≤ P := by omega
  have A2n : MA (cm_setI h2 38 30 (cm_I h2 38 30 + 1)) P 0 s := by rw [← hP]; exact A2.nx
  have Y3 : XI h (cm_setI h2 38 30 (cm_I h2 38 30 + 1)) P_s := Y2.trans X_a
  have G3 := G.x (X_m Y3)
  refine m_say G3.1 A2n.2.2.2 (by omega) (s158_56 (G3.x X_say).1 _ _ _ _ _ ?_)
  have A3 : MA (cm_setI (cm_setI (cm_setI h2 38 30 (cm_I h2 38 30 + 1)) 62 s (nI (sg T n p none))) 38 33 (nI (s + 1))) P 0 (s + 1) := A2n.say
  have X3 : XI h (cm_setI (cm_setI (cm_setI h2 38 30 (cm_I h2 38 30 + 1)) 62 s (nI (sg T n p none))) 38 33 (nI (s + 1))) P_m := (X_m Y3).trans X_say
  have S3 : SY h (cm_setI (cm_setI (cm_setI h2 38 30 (cm_I h2 38 30 + 1)) 62 s (nI (sg T n p none))) 38 33 (nI (s + 1))) s [sg T n p none] := by
    have := SY.say (op := sg T n p none) (y := nI (s + 1)) (SY.nil (h := h) (h' := cm_setI h2 38 30 (cm_I h2 38 30 + 1)) (s := s) fun j _ => x62 Y3 j)
    exact this
  generalize (cm_setI (cm_setI (cm_setI h2 38 30 (cm_I h2 38 30 + 1)) 62 s (nI (sg T n p none))) 38 33 (nI (s + 1))) = h3 at A3 X3 S3 ⊢
  have G3' := G.x X3
  have hq2 : sq T n P ≤ n := sq_le hPn
  have gq2 : P ≤ sq T n P := sq_ge
  refine m_lk G3' hPn A3.1 fun h4 X4 e4 => ?_
  have Y4 := X_lk X4
  have X4' : XI h h4 P_m := X3.trans (X_m Y4)
  have G4 := G.x X4'
  have A4 : MA h4 (sq T n P) 0 (s + 1) := A3.lk X4 e4
  have S4 : SY h h4 s [sg T n p none] := S3.x (fun _ => rfl) (fun j => x62 Y4 j)
  have i33 : cm_I h4 38 33 = nI (s + 1) := A4.2.2.2
  -- behind a condition
  have tail : ∀ (h5 : cmH) (r : PR) (u5 : Option Value) (x2 x3 : Int32), XI h h5 P_m → p + 2 ≤ r.1 → r.1 ≤ n → (r.2.1 = none → r.2.2.length + 2 * (p + 2) ≤ 2 * r.1) → ((r.2.1 = none ∧ MA h5 r.1 0 (s + 1 + r.2.2.length) ∧ SY h h5 s ([sg T n p none] ++ r.2.2)) ∨ ∃ q, r.2.1 = some q ∧ cm_I h5 38 31 = nI q ∧ q ≤ n) → (∀ h', MCk h h' n s ((pp T n N 4 0 (exq T n r 63).1 (exq T n r 63).2.1).1, (pp T n N 4 0 (exq T n r 63).1 (exq T n r 63).2.1).2.1, sg T n p none, r.2.2, (pp T n N 4 0 (exq T n r 63).1 (exq T n r 63).2.1).2.2) → KV h') → cm_wp sc (d + 2) 158 198 [some (.ref 38), some (.int (nI (sg T n p none))), some (.int x2), some (.int x3), some (.int (nI (s + 1))), u5] [] h5 (fun v h' => v = none ∧ KV h') := by
    intro h5 r u5 x2 x3 X5 hr1 hr2 hrl C5 kk
    have G5 := G.x X5
    rcases C5 with ⟨en, A5, S5⟩ | ⟨q, eq, i31, hq⟩
    · have hrl := hrl en
      refine s158_198 G5.1 _ _ _ _ _ ⟨fun y => absurd A5.2.1 y, fun _ => m_lk G5 hr2 A5.1 fun h6 X6 e6 => ?_⟩
      have Y6 := X_lk X6
      have X6' : XI h h6 P_m := X5.trans (X_m Y6)
      have G6 := G.x X6'
      have A6 : MA h6 (sq T n r.1) 0 (s + 1 + r.2.2.length) := A5.lk X6 e6
      have S6 : SY h h6 s ([sg T n p none] ++ r.2.2) := S5.x (fun _ => rfl) (fun j => x62 Y6 j)
      have h6n : sq T n r.1 ≤ n := sq_le hr2
      have h6g : r.1 ≤ sq T n r.1 := sq_ge
      refine s158_210 G6.1 _ _ _ _ _ _ ⟨fun z => ?_, fun z => m_bad G6.1 A6.1 A6.2.1 (s158_219 (G6.x (XI.refl.set (Or.inl ⟨rfl, by decide, by decide⟩))).1 _ _ _ _ _ ⟨fun y => absurd (sI_s.symm.trans y) (nI_m (by omega)), fun _ => ⟨rfl, kk _ ?_⟩⟩)⟩
      · have hc : sg T n r.1 none = 63 := (G5.lk (by decide) (by decide)).mp z
        have hl6 := (sg_lt (T := T) (n := n) (p := r.1) (w := none) hc (by decide)).1
        have ex6 : exq T n r 63 = (sq T n r.1 + 1, none, r.2.2) := by unfold exq; rw [en, if_pos hc]
        rw [ex6] at kk
        dsimp only at kk
        have X7 : XI h (cm_setI h6 38 30 (cm_I h6 38 30 + 1)) P_m := X6'.trans (X_m X_a)
        have G7 := G.x X7
        have A7 := A6.nx
        refine s158_219 G6.1 _ _ _ _ _ ⟨fun _ => m_say G7.1 A7.2.2.2 (by omega) (s158_243 (G7.x X_say).1 _ _ _ _ _ ?_), fun y => absurd A6.2.1 y⟩
        have M4 := pp_mono (T := T) (n := n) N 4 0 (sq T n r.1 + 1) none hl6
        have L4 := pp_len (T := T) (n := n) N 4 0 (sq T n r.1 + 1) none hl6
        have S7 := SY.say (op := 2) (y := nI (s + 1 + r.2.2.length + 1)) (S6.x (h3 := cm_setI h6 38 30 (cm_I h6 38 30 + 1)) (fun _ => rfl) (fun j => sI_o (Or.inl (by decide))))
        rw [List.length_append, List.length_singleton, ← Nat.add_assoc] at S7
        refine HS (d + 1) _ _ 0 (sq T n r.1 + 1) (s + 1 + r.2.2.length + 1) (G7.x X_say) hl6 A7.say (by omega) (by omega) (by show 16 * (n - (sq T n r.1 + 1)) + 2 < N; omega) (by omega) ?_
        generalize pp T n N 4 0 (sq T n r.1 + 1) none = R at kk M4 L4
        refine ⟨fun h8 X8 en8 A8 S8 => ?_, fun h8 q X8 en8 D8 => ?_⟩
        · have l8 := L4 en8
          have X8' : XI h h8 P_m := X7.trans (X_say.trans X8)
          have G8 := G.x X8'
          have S9 := SY.seq S7 (fun _ => rfl) (c2 := R.2.2) (hc := h8) (by rw [List.length_append, List.length_append, List.length_singleton, List.length_singleton]; rw [show s + (1 + r.2.2.length + 1) = s + 1 + r.2.2.length + 1 by omega]; exact S8)
          have S10 := SY.say (op := 3) (y := nI (s + 1 + r.2.2.length + 1 + R.2.2.length + 1)) S9
          rw [List.length_append, List.length_append, List.length_append, List.length_singleton, List.length_singleton, show s + (1 + r.2.2.length + 1 + R.2.2.length) = s + 1 + r.2.2.length + 1 + R.2.2.length by omega] at S10
          refine s158_247 G8.1 _ _ _ _ _ (m_say G8.1 A8.2.2.2 (by omega) (s158_252 _ _ _ _ _ ⟨rfl, kk _ ⟨X8'.trans X_say, Or.inl ⟨en8, ?_, ?_⟩⟩⟩))
          · rw [flat_len]
            have := A8.say (x := 3)
            dsimp only
            rw [show s + (r.2.2.length + R.2.2.length + 3) = s + 1 + r.2.2.length + 1 + R.2.2.length + 1 by omega]
            exact this
          · have ef : flat (sg T n p none, r.2.2, R.2.2) = [sg T n p none] ++ r.2.2 ++ [2] ++ R.2.2 ++ [3] := by
              unfold flat
              simp only [List.cons_append, List.append_assoc, List.nil_append]
            show SY h _ s (flat (sg T n p none, r.2.2, R.2.2))
            rw [ef]; exact S10
        · have X8' : XI h h8 P_m := X7.trans (X_say.trans X8)
          have G8 := G.x X8'
          refine s158_247 G8.1 _ _ _ _ _ (m_say_dead G8.1 (by omega) D8 (fun h9 X9 D9 => s158_252 _ _ _ _ _ ⟨rfl, kk _ ⟨X8'.trans X9, Or.inr ⟨q, en8, D9.1, D9.2.1⟩⟩⟩))
      · have nc : ¬ sg T n r.1 none = 63 := fun q => z ((G5.lk (by decide) (by decide)).mpr q)
        have ex6 : exq T n r 63 = (sq T n r.1, some (sq T n r.1), r.2.2) := by unfold exq; rw [en, if_neg nc]; rfl
        rw [ex6]
        exact ⟨X6'.set (Or.inl ⟨rfl, by decide, by decide⟩), Or.inr ⟨sq T n r.1, pp_dead N _ _ _ _, sI_s, h6n⟩⟩
    · have n31 : ¬ cm_I h5 38 31 = -1 := by rw [i31]; exact nI_m (by omega)
      refine s158_198 G5.1 _ _ _ _ _ ⟨fun _ => s158_219 G5.1 _ _ _ _ _ ⟨fun y => absurd y n31, fun _ => ⟨rfl, kk _ ⟨X5, Or.inr ⟨q, ?_, i31, hq⟩⟩⟩⟩, fun y => absurd n31 y⟩
      have ex6 : (exq T n r 63).2.1 = some q := by
        unfold exq
        rw [eq, sg_some, if_neg (by decide)]; rfl
      dsimp only
      rw [ex6]; exact pp_dead N _ _ _ _
  have hcP : ∀ c, 0 < c → c < 256 → (lk T n P = nI c ↔ sg T n P none = c) := fun c a b => G.lk a b
  -- ! or (
  have w77 : (sg T n P none = 33 ∨ sg T n P none = 40) → cm_wp sc (d + 2) 158 77 [some (.ref 38), some (.int (nI (sg T n p none))), some (.int (lk T n P)), none, none, none] [] h4 (fun v h' => v = none ∧ KV h') := fun q => by
    rw [if_pos q] at k
    refine s158_77 _ _ _ _ _ (s158_78 G4.1 _ _ _ _ _ _ ⟨fun _ => ?_, fun y => absurd rfl y⟩)
    rw [i33]
    have M9 := pSeq_mono (T := T) (n := n) (N := N) (a := 6) (b := 9) (dep := 0) (w := none) hPn
    have L9 := pSeq_len' (T := T) (n := n) (N := N) (a := 6) (b := 9) hPn
    refine s158_193 G4.1 _ _ _ _ _ (m_cond0 HU HP HL (d + 1) h4 _ 0 (sq T n P) (s + 1) G4 hq2 A4 (by omega) (by omega) (by omega) (by omega) (by omega) ?_)
    rw [eN]
    have es : pS2 (pp T n N) (pp T n N) 6 9 0 (sq T n P) none = pSeq (pp T n N) 6 9 0 P none := by
      unfold pS2 pSeq
      rw [pp_sq6 (by omega)]
    rw [es]
    generalize pSeq (pp T n N) 6 9 0 P none = r at k M9 L9
    exact ⟨fun h5 X5 en A5 S5 => tail h5 r _ _ _ (X4'.trans X5) (by omega) M9.2 (fun e => by have := L9 e; omega) (Or.inl ⟨en, A5, SY.seq S4 (fun _ => rfl) (by rw [List.length_singleton]; exact S5)⟩) k, fun h5 q X5 en D5 => tail h5 r _ _ _ (X4'.trans X5) (by omega) M9.2 (fun e => by have := L9 e; omega) (Or.inr ⟨q, en, D5.1, D5.2.1⟩) k⟩
  refine s158_60 _ _ _ _ _ _ ⟨fun z => w77 (Or.inl ((hcP 33 (by decide) (by decide)).mp z)), fun z1 => ⟨fun z => w77 (Or.inr ((hcP 40 (by decide) (by decide)).mp z)), fun z2 => ?_⟩⟩
  have nq : ¬ (sg T n P none = 33 ∨ sg T n P none = 40) := by
    rintro (q | q)
    · exact z1 ((hcP 33 (by decide) (by decide)).mpr q)
    · exact z2 ((hcP 40 (by decide) (by decide)).mpr q)
  rw [if_neg nq] at k
  have M4 := pp_mono (T := T) (n := n) N 4 0 P none hPn
  have L4 := pp_len (T := T) (n := n) N 4 0 P none hPn
  refine s158_78 G4.1 _ _ _ _ _ _ ⟨fun y => absurd y (by decide), fun _ => HS (d + 1) h4 _ 0 (sq T n P) (s + 1) G4 hq2 A4 (by omega) (by omega) (by show 16 * (n - sq T n P) + 2 < N; omega) (by omega) ?_⟩
  rw [i33, pp_sq4 (by omega)]
  generalize hR : pp T n N 4 0 P none = R at k M4 L4
  refine ⟨fun h5 X5 en A5 S5 => ?_, fun h5 q X5 en D5 => ?_⟩
  case refine_2 =>
    refine s158_93 (G.x (X4'.trans X5)).1 _ _ _ _ _ ⟨fun y => absurd (D5.1.symm.trans y) (nI_m (by have := D5.2.1; omega)), fun _ => ⟨rfl, k _ ⟨X4'.trans X5, Or.inr ⟨q, ?_, D5.1, D5.2.1⟩⟩⟩⟩
    unfold pcl.pcs
    rw [en, sg_some, if_neg (by decide)]
  have l4 := L4 en
  have X5' := X4'.trans X5
  have G5 := G.x X5'
  have S5' : SY h h5 s ([sg T n p none] ++ R.2.2) := SY.seq S4 (fun _ => rfl) (by rw [List.length_singleton]; exact S5)
  refine s158_93 G5.1 _ _ _ _ _ ⟨fun _ => m_lk G5 M4.2 A5.1 fun h6 X6 e6 => s158_106 _ _ _ _ _ _ ?_, fun y => absurd A5.2.1 y⟩
  have Y6 := X_lk X6
  have X6' : XI h h6 P_m := X5'.trans (X_m Y6)
  have G6 := G.x X6'
  have A6 : MA h6 (sq T n R.1) 0 (s + 1 + R.2.2.length) := A5.lk X6 e6
  have S6 : SY h h6 s ([sg T n p none] ++ R.2.2) := S5'.x (fun _ => rfl) (fun j => x62 Y6 j)
  have h6n : sq T n R.1 ≤ n := sq_le M4.2
  have h6g : R.1 ≤ sq T n R.1 := sq_ge
  refine m_sign_lk G6 (fun z => s158_109 G6.1 _ _ _ _ _ _ ⟨fun _ => ?_, fun y => absurd (by decide) y⟩) (fun z => s158_109 G6.1 _ _ _ _ _ _ ⟨fun y => absurd rfl y, fun _ => ?_⟩)
  · -- a comparison goes on
    unfold pcl.pcs at k
    rw [en, if_pos z] at k
    have M9 := pSeq_mono (T := T) (n := n) (N := N) (a := 5) (b := 9) (dep := 0) (w := none) M4.2
    have L9 := pSeq_len' (T := T) (n := n) (N := N) (a := 5) (b := 9) M4.2
    refine s158_193 G6.1 _ _ _ _ _ (m_cond1 HC HP HL (d + 1) h6 _ 0 (sq T n R.1) (s + 1 + R.2.2.length) G6 h6n A6 (by omega) (by omega) (by omega) (by omega) (by omega) ?_)
    rw [eN]
    have es : pS2 (pp T n N) (pp T n N) 5 9 0 (sq T n R.1) none = pSeq (pp T n N) 5 9 0 R.1 none := by
      obtain ⟨N', rfl⟩ : ∃ m, N = m + 1 := ⟨N - 1, by omega⟩
      unfold pS2 pSeq
      rw [pp_sq5]
    rw [es]
    generalize pSeq (pp T n N) 5 9 0 R.1 none = r at k M9 L9
    have kk : ∀ h', MCk h h' n s ((pp T n N 4 0 (exq T n (r.1, r.2.1, R.2.2 ++ r.2.2) 63).1 (exq T n (r.1, r.2.1, R.2.2 ++ r.2.2) 63).2.1).1, (pp T n N 4 0 (exq T n (r.1, r.2.1, R.2.2 ++ r.2.2) 63).1 (exq T n (r.1, r.2.1, R.2.2 ++ r.2.2) 63).2.1).2.1, sg T n p none, R.2.2 ++ r.2.2, (pp T n N 4 0 (exq T n (r.1, r.2.1, R.2.2 ++ r.2.2) 63).1 (exq T n (r.1, r.2.1, R.2.2 ++ r.2.2) 63).2.1).2.2) → KV h' := by
      have e1 : (exq T n (r.1, r.2.1, R.2.2 ++ r.2.2) 63).1 = (exq T n r 63).1 := by unfold exq; dsimp only; split <;> rfl
      have e2 : (exq T n (r.1, r.2.1, R.2.2 ++ r.2.2) 63).2.1 = (exq T n r 63).2.1 := by unfold exq; dsimp only; split <;> rfl
      rw [e1, e2]; exact k
    refine ⟨fun h7 X7 en7 A7 S7 => tail h7 (r.1, r.2.1, R.2.2 ++ r.2.2) _ _ _ (X6'.trans X7) (by dsimp only; omega) M9.2 (fun e => by have := L9 e; dsimp only; rw [List.length_append]; omega) (Or.inl ⟨en7, ?_, ?_⟩) kk, fun h7 q X7 en7 D7 => tail h7 (r.1, r.2.1, R.2.2 ++ r.2.2) _ _ _ (X6'.trans X7) (by dsimp only; omega) M9.2 (fun e => by have := L9 e; dsimp only; rw [List.length_append]; omega) (Or.inr ⟨q, en7, D7.1, D7.2.1⟩) kk⟩
    · dsimp only
      rw [List.length_append, ← Nat.add_assoc]; exact A7
    · dsimp only
      rw [← List.append_assoc]
      exact SY.seq S6 (fun _ => rfl) (by rw [List.length_append, List.length_singleton, ← Nat.add_assoc]; exact S7)
  · -- a plain clause
    have ek : pcl.pcs T n (pp T n N) (sg T n p none) R = (sq T n R.1, R.2.1, sg T n p none, [0, 1], R.2.2) := by unfold pcl.pcs; rw [en]; exact if_neg z
    rw [ek] at k
    have e120 : cm_I h6 38 33 - 1 = nI (s + 1 + R.2.2.length) - 1 := by rw [A6.2.2.2]
    rw [e120]
    refine m_move (h0 := h6) (s := s) (len := R.2.2.length) G6.1 (by omega) A6.2.2.2 (fun h7 X7 lo c0 c1 c2 mv c3 e33 o38 => ⟨rfl, k h7 ⟨X6'.trans X7, Or.inl ⟨en, ?_, ?_⟩⟩⟩) R.2.2.length h6 (Nat.le_refl _) XI.refl (fun _ _ => rfl) (fun i a b => absurd b (by omega))
    · rw [flat_len]
      refine ⟨by rw [o38 30 (by decide)]; exact A6.1, by rw [o38 31 (by decide)]; exact A6.2.1, by rw [o38 32 (by decide)]; exact A6.2.2.1, ?_⟩
      rw [e33]
      show nI _ = nI (s + (2 + R.2.2.length + 3))
      congr 1; omega
    · have ef : flat (sg T n p none, [0, 1], R.2.2) = sg T n p none :: 0 :: 1 :: 2 :: (R.2.2 ++ [3]) := rfl
      show SY h h7 s (flat (sg T n p none, [0, 1], R.2.2))
      rw [ef]
      refine ⟨fun j hj => by rw [lo j (by omega)]; exact S6.1 j hj, fun j x hj => ?_⟩
      match j, hj with
      | 0, hj =>
        cases hj
        rw [lo _ (by omega)]
        exact S6.2 0 _ rfl
      | 1, hj => cases hj; exact c0
      | 2, hj => cases hj; exact c1
      | 3, hj => cases hj; exact c2
      | j + 4, hj =>
        replace hj : (R.2.2 ++ [3])[j]? = some x := hj
        rcases Nat.lt_or_ge j R.2.2.length with y | y
        · rw [List.getElem?_append_left y] at hj
          rw [show s + (j + 4) = s + 4 + j by omega, mv j y]
          have := S6.2 (j + 1) x (by rw [List.singleton_append, List.getElem?_cons_succ]; exact hj)
          rw [show s + 1 + j = s + (j + 1) by omega]; exact this
        · rw [List.getElem?_append_right y] at hj
          have hj0 : j - R.2.2.length = 0 := by
            rcases Nat.eq_zero_or_pos (j - R.2.2.length) with e | e
            · exact e
            · rw [List.getElem?_eq_none (by rw [List.length_singleton]; omega)] at hj; cases hj
          rw [hj0] at hj
          cases hj
          rw [show s + (j + 4) = s + 4 + R.2.2.length by omega]; exact c3
end MCLAUSE
