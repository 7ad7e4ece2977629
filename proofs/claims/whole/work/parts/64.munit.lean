/-! ===== the reference's condition and unit ===== -/
section MUNIT
variable {sc : cmS} {T : Nat → Nat} {n : Nat}
theorem pS2_mono {N1 N2 a b dep p : Nat} {w : Option Nat} (h : p ≤ n) : p ≤ (pS2 (pp T n N1) (pp T n N2) a b dep p w).1 ∧ (pS2 (pp T n N1) (pp T n N2) a b dep p w).1 ≤ n := by
  have h1 := pp_mono (T := T) N1 a dep p w h
  have h2 := pp_mono (T := T) N2 b dep (pp T n N1 a dep p w).1 (pp T n N1 a dep p w).2.1 h1.2
  exact ⟨Nat.le_trans h1.1 h2.1, h2.2⟩
theorem pS2_len {N1 N2 a b dep p : Nat} {w : Option Nat} (h : p ≤ n) (e : (pS2 (pp T n N1) (pp T n N2) a b dep p w).2.1 = none) : (pS2 (pp T n N1) (pp T n N2) a b dep p w).2.2.length + 2 * p ≤ 2 * (pS2 (pp T n N1) (pp T n N2) a b dep p w).1 := by
  have e2 : (pp T n N2 b dep (pp T n N1 a dep p w).1 (pp T n N1 a dep p w).2.1).2.1 = none := e
  have e1 := pp_well e2
  have h1 := pp_len (T := T) N1 a dep p w h e1
  have h2 := pp_len (T := T) N2 b dep _ _ (pp_mono (T := T) N1 a dep p w h).2 e2
  show ((pp T n N1 a dep p w).2.2 ++ (pp T n N2 b dep (pp T n N1 a dep p w).1 (pp T n N1 a dep p w).2.1).2.2).length + 2 * p ≤ 2 * (pp T n N2 b dep (pp T n N1 a dep p w).1 (pp T n N1 a dep p w).2.1).1
  rw [List.length_append]; omega
theorem pS3 {N1 N2 a dep p : Nat} {w : Option Nat} : pS2 (pp T n N1) (pp T n (N2 + 1)) a 9 dep p w = ((pp T n N2 8 dep (pS2 (pp T n N1) (pp T n N2) a 7 dep p w).1 (pS2 (pp T n N1) (pp T n N2) a 7 dep p w).2.1).1, (pp T n N2 8 dep (pS2 (pp T n N1) (pp T n N2) a 7 dep p w).1 (pS2 (pp T n N1) (pp T n N2) a 7 dep p w).2.1).2.1, (pS2 (pp T n N1) (pp T n N2) a 7 dep p w).2.2 ++ (pp T n N2 8 dep (pS2 (pp T n N1) (pp T n N2) a 7 dep p w).1 (pS2 (pp T n N1) (pp T n N2) a 7 dep p w).2.1).2.2) := by
  refine Prod.ext rfl (Prod.ext rfl ?_)
  exact (List.append_assoc _ _ _).symm
theorem m_cond0 {N1 N2 : Nat} (HU : mC sc T n 175 [.ref 38] 6 14 N1) (HP : mBL sc T n 173 15 7 15 N2) (HL : mBL sc T n 172 5 8 16 N2) : ∀ (d : Nat) (h : cmH) (KV : cmH → Prop) (dep p s : Nat), RM h T n → p ≤ n → MA h p dep s → dep ≤ 6 → 3 * (6 - dep) + 16 ≤ d → 16 * (n - p) + 4 < N1 → 16 * (n - p) < N2 → s + 2 * (n - p) ≤ 410 → mK h n dep p s (pS2 (pp T n N1) (pp T n (N2 + 1)) 6 9 dep p none) KV → cm_cv sc d 172 [.ref 38, .int 0] h KV := by
  intro d h KV dep p s G hp A hdep hd hN1 hN2 hs k
  obtain ⟨d, rfl⟩ : ∃ e, d = e + 1 := ⟨d - 1, by omega⟩
  have h160 := G.2.2.1
  rw [pS3] at k
  have M0 := pS2_mono (T := T) (n := n) (N1 := N1) (N2 := N2) (a := 6) (b := 7) (dep := dep) (w := none) hp
  have L0 := pS2_len (T := T) (n := n) (N1 := N1) (N2 := N2) (a := 6) (b := 7) (dep := dep) (w := none) hp
  refine cv_of rfl (s172_0 G.1 _ (m_part0 HU HP d h _ dep p s G hp A hdep (by omega) hN1 hN2 hs ?_))
  generalize pS2 (pp T n N1) (pp T n N2) 6 7 dep p none = R at k M0 L0
  refine ⟨fun h1 X1 en A1 S1 => ?_, fun h1 q X1 en D1 => ?_⟩
  · rw [en] at k
    have l0 := L0 en
    have G1 := G.x X1
    refine HL (d + 1) h1 _ dep R.1 _ _ G1 M0.2 A1 hdep hd (by omega) (by omega) ⟨fun h4 X4 en4 A4 S4 => ⟨rfl, k.1 h4 (X1.trans X4) en4 ?_ (SY.seq S1 (fun _ => rfl) S4)⟩, fun h4 q X4 en4 D4 => ⟨rfl, k.2 h4 q (X1.trans X4) en4 (D4.mono (Nat.le_refl _) (by omega))⟩⟩
    rw [List.length_append, ← Nat.add_assoc]; exact A4
  · rw [en] at k
    refine s172_5 (G.x X1).1 _ ⟨fun _ => ⟨rfl, k.2 h1 q X1 (pp_dead N2 _ _ _ _) D1⟩, fun y => absurd (by rw [D1.1]; exact nI_m (by have := D1.2.1; omega)) y⟩
theorem m_cond1 {N1 N2 : Nat} (HU : mC sc T n 174 [.ref 38] 5 13 N1) (HP : mBL sc T n 173 15 7 15 N2) (HL : mBL sc T n 172 5 8 16 N2) : ∀ (d : Nat) (h : cmH) (KV : cmH → Prop) (dep p s : Nat), RM h T n → p ≤ n → MA h p dep s → dep ≤ 6 → 3 * (6 - dep) + 16 ≤ d → 16 * (n - p) + 4 < N1 → 16 * (n - p) < N2 → s + 2 * (n - p) ≤ 410 → mK h n dep p s (pS2 (pp T n N1) (pp T n (N2 + 1)) 5 9 dep p none) KV → cm_cv sc d 172 [.ref 38, .int 1] h KV := by
  intro d h KV dep p s G hp A hdep hd hN1 hN2 hs k
  obtain ⟨d, rfl⟩ : ∃ e, d = e + 1 := ⟨d - 1, by omega⟩
  have h160 := G.2.2.1
  rw [pS3] at k
  have M0 := pS2_mono (T := T) (n := n) (N1 := N1) (N2 := N2) (a := 5) (b := 7) (dep := dep) (w := none) hp
  have L0 := pS2_len (T := T) (n := n) (N1 := N1) (N2 := N2) (a := 5) (b := 7) (dep := dep) (w := none) hp
  refine cv_of rfl (s172_0 G.1 _ (m_part1 HU HP d h _ dep p s G hp A hdep (by omega) hN1 hN2 hs ?_))
  generalize pS2 (pp T n N1) (pp T n N2) 5 7 dep p none = R at k M0 L0
  refine ⟨fun h1 X1 en A1 S1 => ?_, fun h1 q X1 en D1 => ?_⟩
  · rw [en] at k
    have l0 := L0 en
    have G1 := G.x X1
    refine HL (d + 1) h1 _ dep R.1 _ _ G1 M0.2 A1 hdep hd (by omega) (by omega) ⟨fun h4 X4 en4 A4 S4 => ⟨rfl, k.1 h4 (X1.trans X4) en4 ?_ (SY.seq S1 (fun _ => rfl) S4)⟩, fun h4 q X4 en4 D4 => ⟨rfl, k.2 h4 q (X1.trans X4) en4 (D4.mono (Nat.le_refl _) (by omega))⟩⟩
    rw [List.length_append, ← Nat.add_assoc]; exact A4
  · rw [en] at k
    refine s172_5 (G.x X1).1 _ ⟨fun _ => ⟨rfl, k.2 h1 q X1 (pp_dead N2 _ _ _ _) D1⟩, fun y => absurd (by rw [D1.1]; exact nI_m (by have := D1.2.1; omega)) y⟩
theorem MA.dn {h : cmH} {q dep s : Nat} (A : MA h q (dep + 1) s) : MA (cm_setI h 38 32 (cm_I h 38 32 - 1)) q dep s := ⟨by rw [sI_o (Or.inr (by decide))]; exact A.1, by rw [sI_o (Or.inr (by decide))]; exact A.2.1, by rw [sI_s, A.2.2.1, nI_pred], by rw [sI_o (Or.inr (by decide))]; exact A.2.2.2⟩
theorem X_dn {h : cmH} {v : Int32} : XI h (cm_setI h 38 32 v) P_s := XI.refl.set ⟨rfl, by decide, by decide⟩
theorem m_unit {N : Nat} (HS : mC sc T n 163 [.ref 38] 4 12 N) (HC : mC sc T n 174 [.ref 38] 5 13 N) (HU : ∀ m, m ≤ N → mC sc T n 175 [.ref 38] 6 14 m) (HP : ∀ m, m ≤ N → mBL sc T n 173 15 7 15 m) (HL : ∀ m, m ≤ N → mBL sc T n 172 5 8 16 m) : mC sc T n 175 [.ref 38] 6 14 (N + 1) := by
  intro d h KV dep p s G hp A hdep hd hN hs k
  obtain ⟨d, rfl⟩ : ∃ e, d = e + 3 := ⟨d - 3, by omega⟩
  have h160 := G.2.2.1
  have hN0 : 16 * (n - p) + 3 < N + 1 := hN
  have ek : pp T n (N + 1) 6 dep p none = pUnit T n (pp T n N) dep p none := rfl
  rw [ek] at k
  have g1 : p ≤ sq T n p := sq_ge
  have g2 : sq T n p ≤ n := sq_le hp
  refine cv_of rfl (s175_0 G.1 _ (m_lk G hp A.1 fun h1 X1 e1 => ?_))
  have Y1 := X_lk X1
  have G1 := G.x (X_m Y1)
  have A1 := A.lk X1 e1
  refine s175_4 G1.1 _ _ ⟨fun z33 => ⟨fun z40 => ?_, fun z40 => ?_⟩, fun z33 => ?_⟩
  · -- a sum, compared
    have n33 : ¬ sg T n p none = 33 := fun q => z33 ((G.lk (by decide) (by decide)).mpr q)
    have n40 : ¬ sg T n p none = 40 := fun q => z40 ((G.lk (by decide) (by decide)).mpr q)
    have er : pUnit T n (pp T n N) dep p none = pSeq (pp T n N) 4 5 dep p none := by unfold pUnit; rw [if_neg n33, if_neg n40]
    rw [er] at k
    unfold pSeq at k
    have M4 := pp_mono (T := T) (n := n) N 4 dep p none hp
    have L4 := pp_len (T := T) (n := n) N 4 dep p none hp
    have M4' := pp_mono (T := T) (n := n) N 4 dep (sq T n p) none g2
    have L4' := pp_len (T := T) (n := n) N 4 dep (sq T n p) none g2
    refine HS (d + 2) h1 _ dep (sq T n p) s G1 g2 A1 hdep (by omega) (by show 16 * (n - sq T n p) + 2 < N; omega) (by omega) ?_
    rw [pp_sq4 (by omega)] at M4' L4' ⊢
    refine ⟨fun h2 X2 en A2 S2 => ?_, fun h2 q X2 en D2 => ?_⟩
    · rw [en] at k
      have l4 := L4' en
      have G2 := G1.x X2
      refine s175_72 G2.1 _ (HC (d + 2) h2 _ dep (pp T n N 4 dep p none).1 _ G2 M4.2 A2 hdep (by omega) (by show 16 * (n - (pp T n N 4 dep p none).1) + 0 < N; omega) (by omega) ⟨fun h4 X4 en4 A4 S4 => s175_76 _ ⟨rfl, k.1 h4 ((X_m Y1).trans (X2.trans X4)) en4 ?_ (SY.seq (S2.x (x62 Y1) (fun _ => rfl)) (fun _ => rfl) S4)⟩, fun h4 q X4 en4 D4 => s175_76 _ ⟨rfl, k.2 h4 q ((X_m Y1).trans (X2.trans X4)) en4 (D4.mono (Nat.le_refl _) (by omega))⟩⟩)
      rw [List.length_append, ← Nat.add_assoc]; exact A4
    · rw [en] at k
      have G2 := G1.x X2
      exact s175_72 G2.1 _ (m_cmp_dead G2.1 h160 D2 (fun h3 X3 D3 => s175_76 _ ⟨rfl, k.2 h3 q ((X_m Y1).trans (X2.trans X3)) (pp_dead N _ _ _ _) (D3.mono (Nat.le_refl _) (by omega))⟩))
  · -- a bracket
    have e40 : sg T n p none = 40 := (G.lk (by decide) (by decide)).mp (Decidable.not_not.mp z40)
    have hl := (sg_lt e40 (by decide)).1
    refine m_opens G1.1 A1 hdep (fun h6 h2 X2 A2 => s175_51 (X2.ly G1.1) _ _ ⟨fun y => absurd y (by decide), fun _ => ?_⟩) (fun h6 => s175_51 G1.1.s _ _ ⟨fun _ => s175_76 _ ⟨rfl, ?_⟩, fun y => absurd rfl y⟩)
    · have er : pUnit T n (pp T n N) dep p none = exq T n (pp T n N 11 (dep + 1) (sq T n p + 1) none) 41 := by unfold pUnit; rw [if_neg (by omega), if_pos e40, if_pos h6]
      rw [er] at k
      obtain ⟨N2, rfl⟩ : ∃ m, N = m + 2 := ⟨N - 2, by omega⟩
      have e11 : pp T n (N2 + 2) 11 (dep + 1) (sq T n p + 1) none = pS2 (pp T n (N2 + 1)) (pp T n (N2 + 1)) 6 9 (dep + 1) (sq T n p + 1) none := rfl
      rw [e11] at k
      have M4 := pS2_mono (T := T) (n := n) (N1 := N2 + 1) (N2 := N2 + 1) (a := 6) (b := 9) (dep := dep + 1) (p := sq T n p + 1) (w := none) hl
      have L4 := pS2_len (T := T) (n := n) (N1 := N2 + 1) (N2 := N2 + 1) (a := 6) (b := 9) (dep := dep + 1) (p := sq T n p + 1) (w := none) hl
      have G2 := G1.x (X_m X2)
      refine m_cond0 (N1 := N2 + 1) (N2 := N2) (HU (N2 + 1) (by omega)) (HP N2 (by omega)) (HL N2 (by omega)) (d + 2) h2 _ (dep + 1) (sq T n p + 1) s G2 hl A2 (by omega) (by omega) (by omega) (by omega) (by omega) ?_
      generalize pS2 (pp T n (N2 + 1)) (pp T n (N2 + 1)) 6 9 (dep + 1) (sq T n p + 1) none = R at k M4 L4
      refine ⟨fun h3 X3 en A3 S3 => ?_, fun h3 q X3 en D3 => ?_⟩
      · have G3 := G2.x X3
        have l4 := L4 en
        have X13 : XI h h3 P_m := (X_m Y1).trans ((X_m X2).trans X3)
        have er2 : exq T n R 41 = (if sg T n R.1 none = 41 then (sq T n R.1 + 1, none, R.2.2) else (sq T n R.1, some (sq T n R.1), R.2.2)) := by
          unfold exq; rw [en]; rfl
        rw [er2] at k
        refine s175_59 G3.1 _ (m_closes (c := 41) G3 M4.2 A3 (by decide) (by decide) (fun e h4 X4 A4 => ?_) (fun e h4 X4 f1 f2 f3 => ?_))
        · rw [if_pos e] at k
          exact s175_65 _ (s175_76 _ ⟨rfl, k.1 h4 (X13.trans (X_m X4)) rfl A4 (S3.x (fun j => by rw [x62 X2, x62 Y1]) (x62 X4))⟩)
        · rw [if_neg e] at k
          have b := sq_le (T := T) (n := n) M4.2
          exact s175_65 _ (s175_76 _ ⟨rfl, k.2 h4 _ (X13.trans (X_m X4)) rfl ⟨f2, b, _, _, f1, by omega, f3, by omega⟩⟩)
      · have G3 := G2.x X3
        have er2 : (exq T n R 41).2.1 = some q := by
          unfold exq; rw [en, sg_some, if_neg (by decide)]; rfl
        exact s175_59 G3.1 _ (m_closes_dead G3.1 h160 h6 D3 (fun h4 X4 D4 => s175_65 _ (s175_76 _ ⟨rfl, k.2 h4 q ((X_m Y1).trans ((X_m X2).trans (X3.trans (X_m X4)))) er2 (D4.mono (Nat.le_refl _) (by omega))⟩)))
    · have er : pUnit T n (pp T n N) dep p none = (sq T n p, some (sq T n p), []) := by unfold pUnit; rw [if_neg (by omega), if_pos e40, if_neg h6]; rfl
      rw [er] at k
      exact k.2 _ _ ((X_m Y1).set (Or.inl ⟨rfl, by decide, by decide⟩)) rfl (MD.mk A1 g2 (by omega))
  · -- not
    have e33 : sg T n p none = 33 := (G.lk (by decide) (by decide)).mp (Decidable.not_not.mp z33)
    have hl := (sg_lt e33 (by decide)).1
    refine m_opens G1.1 A1 hdep (fun h6 h2 X2 A2 => s175_15 (X2.ly G1.1) _ _ ⟨fun y => absurd y (by decide), fun _ => ?_⟩) (fun h6 => s175_15 G1.1.s _ _ ⟨fun _ => s175_76 _ ⟨rfl, ?_⟩, fun y => absurd rfl y⟩)
    · have er : pUnit T n (pp T n N) dep p none = ((pp T n N 6 (dep + 1) (sq T n p + 1) none).1, (pp T n N 6 (dep + 1) (sq T n p + 1) none).2.1, (pp T n N 6 (dep + 1) (sq T n p + 1) none).2.2 ++ [33]) := by unfold pUnit; rw [if_pos e33, if_pos h6]
      rw [er] at k
      have L4 := pp_len (T := T) (n := n) N 6 (dep + 1) (sq T n p + 1) none hl
      have M4 := pp_mono (T := T) (n := n) N 6 (dep + 1) (sq T n p + 1) none hl
      have G2 := G1.x (X_m X2)
      refine HU N (Nat.le_refl N) (d + 2) h2 _ (dep + 1) (sq T n p + 1) s G2 hl A2 (by omega) (by omega) (by show 16 * (n - (sq T n p + 1)) + 3 < N; omega) (by omega) ⟨fun h3 X3 en A3 S3 => ?_, fun h3 q X3 en D3 => ?_⟩
      · have G3 := G2.x X3
        have l4 := L4 en
        have X13 : XI h h3 P_m := (X_m Y1).trans ((X_m X2).trans X3)
        refine s175_22 G3.1 _ (m_say G3.1.s A3.dn.2.2.2 (by omega) (s175_38 _ (s175_76 _ ⟨rfl, k.1 _ (X13.trans ((X_m X_dn).trans X_say)) en ?_ (SY.say (S3.x (fun j => by rw [x62 X2, x62 Y1]) (x62 X_dn)))⟩)))
        rw [List.length_append, List.length_singleton]
        exact A3.dn.say
      · have G3 := G2.x X3
        have D3' : MD (cm_setI h3 38 32 (cm_I h3 38 32 - 1)) n (dep + 1) q (s + 2 * (n - (sq T n p + 1))) := D3.nx fun k a b c => sI_o (Or.inr c)
        exact s175_22 G3.1 _ (m_say_dead G3.1.s (by omega) D3' (fun h4 X4 D4 => s175_38 _ (s175_76 _ ⟨rfl, k.2 h4 q ((X_m Y1).trans ((X_m X2).trans (X3.trans ((X_m X_dn).trans X4)))) en (D4.mono (by omega) (by omega))⟩)))
    · have er : pUnit T n (pp T n N) dep p none = (sq T n p, some (sq T n p), []) := by unfold pUnit; rw [if_pos e33, if_neg h6]; rfl
      rw [er] at k
      exact k.2 _ _ ((X_m Y1).set (Or.inl ⟨rfl, by decide, by decide⟩)) rfl (MD.mk A1 g2 (by omega))
def mAll (sc : cmS) (T : Nat → Nat) (n N : Nat) : Prop := mC sc T n 174 [.ref 38] 5 13 N ∧ mC sc T n 175 [.ref 38] 6 14 N ∧ mBL sc T n 173 15 7 15 N ∧ mBL sc T n 172 5 8 16 N
theorem m_cond : ∀ N, ∀ m, m ≤ N → mAll sc T n m
  | 0 => fun m hm => by
    obtain rfl : m = 0 := by omega
    exact ⟨fun _ _ _ _ _ _ _ _ _ _ _ q => absurd q (by omega), fun _ _ _ _ _ _ _ _ _ _ _ q => absurd q (by omega), fun _ _ _ _ _ _ _ _ _ _ _ _ q => absurd q (by omega), fun _ _ _ _ _ _ _ _ _ _ _ _ q => absurd q (by omega)⟩
  | N + 1 => fun m hm => by
    have ih := m_cond N
    rcases Nat.lt_or_ge N m with y | y
    · obtain rfl : m = N + 1 := by omega
      obtain ⟨a, b, c, e⟩ := ih N (Nat.le_refl N)
      have hs := (m_expr (sc := sc) (T := T) (n := n) N).2.2.2.2
      refine ⟨m_cmp hs, m_unit hs a (fun m hm => (ih m hm).2.1) (fun m hm => (ih m hm).2.2.1) (fun m hm => (ih m hm).2.2.2), m_partL (fun d h KV dep p s G hp A h1 h2 h3 h4 k => b d h KV dep p s G hp A h1 h2 (by show 16 * (n - p) + 3 < N; omega) h4 k) c, m_condL (fun d h KV dep p s G hp A h1 h2 h3 h4 k => ?_) e⟩
      obtain ⟨N', rfl⟩ : ∃ m, N = m + 1 := ⟨N - 1, by omega⟩
      exact m_part0 (N1 := N') (N2 := N') (ih N' (by omega)).2.1 (ih N' (by omega)).2.2.1 d h KV dep p s G hp A h1 h2 (by omega) (by omega) h4 k
    · exact ih m y
end MUNIT
