/-! ===== the reference's sum ===== -/
section MSUM2
variable {sc : cmS} {T : Nat → Nat} {n : Nat}
theorem m_sumL {N : Nat} (HA : mC sc T n 164 [.ref 38] 2 11 N) (HL : mLp sc T n 163 3 12 N) : mLp sc T n 163 3 12 (N + 1) := by
  intro d h Q dep p s G hp A hdep hd hN hs k
  obtain ⟨d, rfl⟩ : ∃ e, d = e + 1 := ⟨d - 1, by omega⟩
  have h160 := G.2.2.1
  have ek : pp T n (N + 1) 3 dep p none = pLoop T n (pp T n N) 2 3 43 45 dep p none := rfl
  rw [ek] at k
  have g1 : p ≤ sq T n p := sq_ge
  have stop : ¬ (sg T n p none = 43 ∨ sg T n p none = 45) → Q none h := fun z => by
    rw [pLoop_n z] at k
    exact k.1 h XI.refl rfl A (SY.nil fun _ _ => rfl)
  have go : (sg T n p none = 43 ∨ sg T n p none = 45) → cm_wp sc (d + 1) 163 29 [some (.ref 38), some (.int (lk T n p))] [] h Q := fun z => by
    rw [pLoop_y z] at k
    have hl := (sg_lt (T := T) (n := n) (p := p) (w := none) rfl (by omega)).1
    have elk : lk T n p = nI (sg T n p none) := (G.lk (by omega) (by omega)).mpr rfl
    rw [elk]
    have M0 := pp_mono (T := T) (n := n) N 2 dep (sq T n p + 1) none hl
    have L0 := pp_len (T := T) (n := n) N 2 dep (sq T n p + 1) none hl
    have GA := G.x (X_m (X_a (v := cm_I h 38 30 + 1)))
    refine s163_29 G.1 _ (HA d _ _ dep (sq T n p + 1) s GA hl A.nx hdep (by omega) (by show 16 * (n - (sq T n p + 1)) + 1 < N; omega) (by omega) ⟨fun h1 X1 en A1 S1 => ?_, fun h1 q X1 en D1 => ?_⟩)
    · rw [en] at k
      have l0 := L0 en
      have G1 := GA.x X1
      refine s163_43 G1.1 _ (m_say G1.1 A1.2.2.2 (by omega) (s163_48 G1.1.s.s _ ?_))
      have X2 : XI h1 (cm_setI (cm_setI h1 62 (s + (pp T n N 2 dep (sq T n p + 1) none).2.2.length) (nI (sg T n p none))) 38 33 (nI (s + (pp T n N 2 dep (sq T n p + 1) none).2.2.length + 1))) P_m := (XI.refl.set (Or.inr rfl)).set (Or.inl ⟨rfl, by decide, by decide⟩)
      have A2 : MA (cm_setI (cm_setI h1 62 (s + (pp T n N 2 dep (sq T n p + 1) none).2.2.length) (nI (sg T n p none))) 38 33 (nI (s + (pp T n N 2 dep (sq T n p + 1) none).2.2.length + 1))) (pp T n N 2 dep (sq T n p + 1) none).1 dep (s + (pp T n N 2 dep (sq T n p + 1) none).2.2.length + 1) := ⟨by rw [sI_o (Or.inr (by decide)), sI_o (Or.inl (by decide))]; exact A1.1, by rw [sI_o (Or.inr (by decide)), sI_o (Or.inl (by decide))]; exact A1.2.1, by rw [sI_o (Or.inr (by decide)), sI_o (Or.inl (by decide))]; exact A1.2.2.1, sI_s⟩
      have G2 := G1.x X2
      refine m_lk G2 M0.2 A2.1 fun h3 X3 e3 => s163_52 _ _ ?_
      have Y3 := X_lk X3
      have XX : XI h h3 P_m := (X_m X_a).trans (X1.trans (X2.trans (X_m Y3)))
      refine HL (d + 1) h3 Q dep (pp T n N 2 dep (sq T n p + 1) none).1 _ (G2.x (X_m Y3)) M0.2 (A2.lk X3 e3) hdep hd (by omega) (by omega) ⟨fun h4 X4 en4 A4 S4 => ?_, fun h4 q X4 en4 D4 => ?_⟩
      · refine k.1 h4 (XX.trans X4) en4 ?_ (SY.app (S1.x (x62 X_a) (fun _ => rfl)) (fun j hj => ?_) ?_ S4)
        · rw [List.length_append, List.length_cons]
          rw [show s + ((pp T n N 2 dep (sq T n p + 1) none).2.2.length + ((pp T n N 3 dep (pp T n N 2 dep (sq T n p + 1) none).1 none).2.2.length + 1)) = s + (pp T n N 2 dep (sq T n p + 1) none).2.2.length + 1 + (pp T n N 3 dep (pp T n N 2 dep (sq T n p + 1) none).1 none).2.2.length by omega]
          exact A4
        · rw [x62 Y3, sI_o (Or.inl (by decide)), sI_o (Or.inr hj)]
        · rw [x62 Y3, sI_o (Or.inl (by decide)), sI_s]
      · exact k.2 h4 q (XX.trans X4) en4 (D4.mono (Nat.le_refl _) (by omega))
    · rw [en] at k
      have G1 := GA.x X1
      have D1' := D1
      obtain ⟨e1, hq, p', s', e2, hp', e3, hs'⟩ := D1
      refine s163_43 G1.1 _ (m_say G1.1 e3 (by omega) (s163_48 G1.1.s.s _ ?_))
      have X2 : XI h1 (cm_setI (cm_setI h1 62 s' (nI (sg T n p none))) 38 33 (nI (s' + 1))) P_m := (XI.refl.set (Or.inr rfl)).set (Or.inl ⟨rfl, by decide, by decide⟩)
      have G2 := G1.x X2
      refine m_lkd (B := n + (6 - dep)) G2 hp' (by omega) (by omega) (by rw [sI_o (Or.inr (by decide)), sI_o (Or.inl (by decide))]; exact e2) fun h3 c p3 X3 f3 hp3 => s163_52 _ _ ?_
      have Y3 := X_lk X3
      have w3 : cm_I h3 38 31 = nI q := by rw [X3.2 38 31 (by omega), sI_o (Or.inr (by decide)), sI_o (Or.inl (by decide))]; exact e1
      refine s163_9 (G2.x (X_m Y3)).1 _ ⟨fun _ => ?_, fun y => absurd (by rw [w3]; exact nI_m (by omega)) y⟩
      refine k.2 h3 q ((X_m X_a).trans (X1.trans (X2.trans (X_m Y3)))) (pp_dead N _ _ _ _) ⟨w3, hq, p3, s' + 1, f3, hp3, ?_, by omega⟩
      rw [X3.2 38 33 (by omega), sI_s]
  refine s163_9 G.1 _ ⟨fun y => absurd A.2.1 y, fun _ => ⟨fun y => go (Or.inl ((G.lk (by decide) (by decide)).mp y)), fun y => ⟨fun y2 => stop ?_, fun y2 => go (Or.inr ((G.lk (by decide) (by decide)).mp (Decidable.not_not.mp y2)))⟩⟩⟩
  rintro (q | q)
  · exact y ((G.lk (by decide) (by decide)).mpr q)
  · exact y2 ((G.lk (by decide) (by decide)).mpr q)
theorem m_sum {N : Nat} (HA : mC sc T n 164 [.ref 38] 2 11 N) (HL : mLp sc T n 163 3 12 N) : mC sc T n 163 [.ref 38] 4 12 (N + 1) := by
  intro d h KV dep p s G hp A hdep hd hN hs k
  obtain ⟨d, rfl⟩ : ∃ e, d = e + 1 := ⟨d - 1, by omega⟩
  have h160 := G.2.2.1
  have hN' : 16 * (n - p) + 2 < N + 1 := hN
  have ek : pp T n (N + 1) 4 dep p none = pSeq (pp T n N) 2 3 dep p none := rfl
  rw [ek] at k
  unfold pSeq at k
  have M0 := pp_mono (T := T) (n := n) N 2 dep p none hp
  have L0 := pp_len (T := T) (n := n) N 2 dep p none hp
  refine cv_of rfl (s163_0 G.1 _ (HA d h _ dep p s G hp A hdep (by omega) (by show 16 * (n - p) + 1 < N; omega) hs ⟨fun h1 X1 en A1 S1 => ?_, fun h1 q X1 en D1 => ?_⟩))
  · rw [en] at k
    have l0 := L0 en
    have G1 := G.x X1
    refine s163_4 G1.1 _ (m_lk G1 M0.2 A1.1 fun h3 X3 e3 => s163_8 _ _ ?_)
    have Y3 := X_lk X3
    refine HL (d + 1) h3 _ dep (pp T n N 2 dep p none).1 _ (G1.x (X_m Y3)) M0.2 (A1.lk X3 e3) hdep hd (by omega) (by omega) ⟨fun h4 X4 en4 A4 S4 => ⟨rfl, k.1 h4 (X1.trans ((X_m Y3).trans X4)) en4 ?_ (SY.seq S1 (x62 Y3) S4)⟩, fun h4 q X4 en4 D4 => ⟨rfl, k.2 h4 q (X1.trans ((X_m Y3).trans X4)) en4 (D4.mono (Nat.le_refl _) (by omega))⟩⟩
    rw [List.length_append, ← Nat.add_assoc]; exact A4
  · rw [en] at k
    have G1 := G.x X1
    obtain ⟨e1, hq, p', s', e2, hp', e3, hs'⟩ := D1
    refine s163_4 G1.1 _ (m_lkd (B := n + (6 - dep)) G1 hp' (by omega) (by omega) e2 fun h3 c p3 X3 f3 hp3 => s163_8 _ _ ?_)
    have Y3 := X_lk X3
    have w3 : cm_I h3 38 31 = nI q := by rw [X3.2 38 31 (by omega)]; exact e1
    refine s163_9 (G1.x (X_m Y3)).1 _ ⟨fun _ => ⟨rfl, ?_⟩, fun y => absurd (by rw [w3]; exact nI_m (by omega)) y⟩
    exact k.2 h3 q (X1.trans (X_m Y3)) (pp_dead N _ _ _ _) ⟨w3, hq, p3, s', f3, hp3, by rw [X3.2 38 33 (by omega)]; exact e3, hs'⟩
theorem m_expr : ∀ N, mC sc T n 165 [.ref 38] 0 10 N ∧ mLp sc T n 164 1 11 N ∧ mC sc T n 164 [.ref 38] 2 11 N ∧ mLp sc T n 163 3 12 N ∧ mC sc T n 163 [.ref 38] 4 12 N
  | 0 => ⟨fun _ _ _ _ _ _ _ _ _ _ _ q => absurd q (by omega), fun _ _ _ _ _ _ _ _ _ _ _ q => absurd q (by omega), fun _ _ _ _ _ _ _ _ _ _ _ q => absurd q (by omega), fun _ _ _ _ _ _ _ _ _ _ _ q => absurd q (by omega), fun _ _ _ _ _ _ _ _ _ _ _ q => absurd q (by omega)⟩
  | N + 1 => by
    obtain ⟨a, b, c, d, e⟩ := m_expr N
    exact ⟨m_atom e, m_termL a b, m_term a b, m_sumL c d, m_sum c d⟩
end MSUM2
