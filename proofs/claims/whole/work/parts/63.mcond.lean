/-! ===== the reference's compare, unit, part, condition ===== -/
section MCOND
variable {sc : cmS} {T : Nat → Nat} {n : Nat} {d : Nat} {h : cmH} {KV : cmH → Prop}
/-- one thing behind another, with a fuel of its own each -/
def pS2 (F1 F2 : PF) (a b : Nat) : Nat → Nat → Option Nat → PR := fun dep p w => ((F2 b dep (F1 a dep p w).1 (F1 a dep p w).2.1).1, (F2 b dep (F1 a dep p w).1 (F1 a dep p w).2.1).2.1, (F1 a dep p w).2.2 ++ (F2 b dep (F1 a dep p w).1 (F1 a dep p w).2.1).2.2)
theorem MA.say {h : cmH} {p dep s : Nat} {x : Int32} (A : MA h p dep s) : MA (cm_setI (cm_setI h 62 s x) 38 33 (nI (s + 1))) p dep (s + 1) := ⟨by rw [sI_o (Or.inr (by decide)), sI_o (Or.inl (by decide))]; exact A.1, by rw [sI_o (Or.inr (by decide)), sI_o (Or.inl (by decide))]; exact A.2.1, by rw [sI_o (Or.inr (by decide)), sI_o (Or.inl (by decide))]; exact A.2.2.1, sI_s⟩
theorem X_say {h : cmH} {s : Nat} {x y : Int32} : XI h (cm_setI (cm_setI h 62 s x) 38 33 y) P_m := (XI.refl.set (Or.inr rfl)).set (Or.inl ⟨rfl, by decide, by decide⟩)
/-- say behind a fault -/
theorem m_say_dead {dep q S : Nat} {x : Int32} (L : LY h) (hS : S < 420) (D : MD h n dep q S) (k : ∀ h', XI h h' P_m → MD h' n dep q (S + 1) → KV h') : cm_cv sc d 162 [.ref 38, .int x] h KV := by
  obtain ⟨e1, hq, p, s, e2, hp, e3, hs⟩ := D
  exact m_say L e3 (by omega) (k _ X_say ⟨by rw [sI_o (Or.inr (by decide)), sI_o (Or.inl (by decide))]; exact e1, hq, p, s + 1, by rw [sI_o (Or.inr (by decide)), sI_o (Or.inl (by decide))]; exact e2, hp, sI_s, by omega⟩)
theorem SY.say {h ha : cmH} {s op : Nat} {c1 : List Nat} {y : Int32} (a : SY h ha s c1) : SY h (cm_setI (cm_setI ha 62 (s + c1.length) (nI op)) 38 33 y) s (c1 ++ [op]) := SY.app a (fun j hj => by rw [sI_o (Or.inl (by decide)), sI_o (Or.inr hj)]) (by rw [sI_o (Or.inl (by decide)), sI_s]) (SY.nil fun _ _ => rfl)
theorem m_cmp {N : Nat} (HS : mC sc T n 163 [.ref 38] 4 12 N) : mC sc T n 174 [.ref 38] 5 13 (N + 1) := by
  intro d h KV dep p s G hp A hdep hd hN hs k
  obtain ⟨d, rfl⟩ : ∃ e, d = e + 1 := ⟨d - 1, by omega⟩
  have h160 := G.2.2.1
  have hN0 : 16 * (n - p) + 0 < N + 1 := hN
  have ek : pp T n (N + 1) 5 dep p none = pCmp T n (pp T n N) dep p none := rfl
  rw [ek] at k
  have g1 : p ≤ sq T n p := sq_ge
  have g2 : sq T n p ≤ n := sq_le hp
  refine cv_of rfl (s174_0 G.1 _ ⟨fun y => absurd A.2.1 y, fun _ => m_lk G hp A.1 fun h1 X1 e1 => s174_12 _ _ (s174_16 _ _ ?_)⟩)
  have Y1 := X_lk X1
  have G1 := G.x (X_m Y1)
  have A1 := A.lk X1 e1
  refine m_sign_lk G1 (fun z => s174_21 G1.1 _ _ ⟨fun _ => ?_, fun y => absurd (by decide) y⟩) (fun z => s174_21 G1.1 _ _ ⟨fun y => absurd rfl y, fun _ => m_bad G1.1 A1.1 A1.2.1 (s174_28 _ ⟨rfl, ?_⟩)⟩)
  · have hl := (sg_lt (T := T) (n := n) (p := p) (w := none) rfl (by omega)).1
    have elk : lk T n p = nI (sg T n p none) := (G.lk (by omega) (by omega)).mpr rfl
    rw [elk]
    unfold pCmp at k
    rw [if_pos z] at k
    have M4 := pp_mono (T := T) (n := n) N 4 dep (sq T n p + 1) none hl
    have L4 := pp_len (T := T) (n := n) N 4 dep (sq T n p + 1) none hl
    have GA := G1.x (X_m (X_a (v := cm_I h1 38 30 + 1)))
    have XA : XI h (cm_setI h1 38 30 (cm_I h1 38 30 + 1)) P_s := Y1.trans X_a
    refine HS d _ _ dep (sq T n p + 1) s GA hl A1.nx hdep (by omega) (by show 16 * (n - (sq T n p + 1)) + 2 < N; omega) (by omega) ⟨fun h2 X2 en A2 S2 => ?_, fun h2 q X2 en D2 => ?_⟩
    · have l4 := L4 en
      refine s174_43 (GA.x X2).1 _ (m_say (GA.x X2).1 A2.2.2.2 (by omega) (s174_48 _ ⟨rfl, k.1 _ ((X_m XA).trans (X2.trans X_say)) en ?_ (SY.say (S2.x (x62 XA) (fun _ => rfl)))⟩))
      rw [List.length_append, List.length_singleton]
      exact A2.say
    · refine s174_43 (GA.x X2).1 _ (m_say_dead (GA.x X2).1 (by omega) D2 (fun h3 X3 D3 => s174_48 _ ⟨rfl, k.2 h3 q ((X_m XA).trans (X2.trans X3)) en (D3.mono (Nat.le_refl _) (by omega))⟩))
  · unfold pCmp at k
    rw [if_neg z] at k
    exact k.2 _ _ ((X_m Y1).set (Or.inl ⟨rfl, by decide, by decide⟩)) rfl (MD.mk A1 g2 (by omega))
theorem m_sign_m1 {K : Int32 → cmH → Prop} (k : K 0 h) : cm_ci sc d 171 [.int (-1)] h K := ci_of rfl (s171_0 _ ⟨fun y => absurd y (by decide), fun _ => ⟨fun y => absurd y (by decide), fun _ => ⟨fun _ => ai k, fun y => absurd (by decide) y⟩⟩⟩)
theorem m_cmp_dead {dep q S : Nat} (L : LY h) (h160 : n ≤ 160) (D : MD h n dep q S) (k : ∀ h', XI h h' P_m → MD h' n dep q S → KV h') : cm_cv sc (d + 1) 174 [.ref 38] h KV := by
  obtain ⟨e1, hq, r⟩ := D
  refine cv_of rfl (s174_0 L _ ⟨fun _ => s174_16 _ _ (m_sign_m1 ?_), fun y => absurd (by rw [e1]; exact nI_m (by omega)) y⟩)
  refine s174_21 L _ _ ⟨fun y => absurd rfl y, fun _ => m_bad_dead L (by omega) e1 (s174_28 _ ⟨rfl, k _ (XI.refl.set (Or.inl ⟨rfl, by decide, by decide⟩)) (MD.nx ⟨e1, hq, r⟩ fun k a b c => ?_)⟩)⟩
  by_cases y : k = 31
  · rw [y, sI_s, e1]
  · rw [sI_o (Or.inr y)]
def mBL (sc : cmS) (T : Nat → Nat) (n M pc k e N : Nat) : Prop := ∀ (d : Nat) (h : cmH) (Q : Option Value → cmH → Prop) (dep p s : Nat) (x1 : Int32), RM h T n → p ≤ n → MA h p dep s → dep ≤ 6 → 3 * (6 - dep) + e ≤ d → 16 * (n - p) < N → s + 2 * (n - p) ≤ 410 → mK h n dep p s (pp T n N k dep p none) (fun h' => Q none h') → cm_wp sc d M pc [some (.ref 38), some (.int x1)] [] h Q
/-- a call with a contract of its own, from a reading r -/
def mG (sc : cmS) (T : Nat → Nat) (n M : Nat) (as : List Value) (e N : Nat) (r : Nat → Nat → PR) : Prop := ∀ (d : Nat) (h : cmH) (KV : cmH → Prop) (dep p s : Nat), RM h T n → p ≤ n → MA h p dep s → dep ≤ 6 → 3 * (6 - dep) + e ≤ d → 16 * (n - p) < N → s + 2 * (n - p) ≤ 410 → mK h n dep p s (r dep p) KV → cm_cv sc d M as h KV
theorem m_partL {N : Nat} (HA : mG sc T n 175 [.ref 38] 14 (N - 15) (fun dep p => pp T n N 6 dep p none)) (HL : mBL sc T n 173 15 7 15 N) : mBL sc T n 173 15 7 15 (N + 1) := by
  intro d h Q dep p s x1 G hp A hdep hd hN hs k
  obtain ⟨d, rfl⟩ : ∃ e, d = e + 1 := ⟨d - 1, by omega⟩
  have h160 := G.2.2.1
  have ek : pp T n (N + 1) 7 dep p none = pLoop T n (pp T n N) 6 7 38 38 dep p none := rfl
  rw [ek] at k
  have g1 : p ≤ sq T n p := sq_ge
  refine s173_15 G.1 _ ⟨fun y => absurd A.2.1 y, fun _ => m_lk G hp A.1 fun h1 X1 e1 => ?_⟩
  have Y1 := X_lk X1
  have G1 := G.x (X_m Y1)
  have A1 := A.lk X1 e1
  have iff := RM.lk (p := p) (c := 38) G (by decide) (by decide)
  refine s173_27 G1.1 _ _ ⟨fun y => ?_, fun y => ?_⟩
  · rw [pLoop_n (fun q => y (iff.mpr (by omega)))] at k
    exact k.1 h1 (X_m Y1) rfl A1 (SY.nil fun j _ => x62 Y1 j)
  · have eo : sg T n p none = 38 := iff.mp (Decidable.not_not.mp y)
    rw [pLoop_y (Or.inl eo), eo] at k
    have hl := (sg_lt eo (by decide)).1
    have M0 := pp_mono (T := T) (n := n) N 6 dep (sq T n p + 1) none hl
    have L0 := pp_len (T := T) (n := n) N 6 dep (sq T n p + 1) none hl
    have GA := G1.x (X_m (X_a (v := cm_I h1 38 30 + 1)))
    have XA : XI h (cm_setI h1 38 30 (cm_I h1 38 30 + 1)) P_s := Y1.trans X_a
    refine HA d _ _ dep (sq T n p + 1) s GA hl A1.nx hdep (by omega) (by omega) (by omega) ⟨fun h2 X2 en A2 S2 => ?_, fun h2 q X2 en D2 => ?_⟩
    · replace en : (pp T n N 6 dep (sq T n p + 1) none).2.1 = none := en
      replace A2 : MA h2 (pp T n N 6 dep (sq T n p + 1) none).1 dep (s + (pp T n N 6 dep (sq T n p + 1) none).2.2.length) := A2
      replace S2 : SY _ h2 s (pp T n N 6 dep (sq T n p + 1) none).2.2 := S2
      rw [en] at k
      have l0 := L0 en
      have G2 := GA.x X2
      refine s173_46 G2.1 _ (m_say G2.1 A2.2.2.2 (by omega) (s173_52 _ ?_))
      refine HL (d + 1) _ Q dep (pp T n N 6 dep (sq T n p + 1) none).1 _ _ (G2.x X_say) M0.2 A2.say hdep hd (by omega) (by omega) ⟨fun h4 X4 en4 A4 S4 => ?_, fun h4 q X4 en4 D4 => ?_⟩
      · refine k.1 h4 ((X_m XA).trans (X2.trans (X_say.trans X4))) en4 ?_ (SY.app (S2.x (x62 XA) (fun _ => rfl)) (fun j hj => ?_) ?_ S4)
        · rw [List.length_append, List.length_cons]
          rw [show s + ((pp T n N 6 dep (sq T n p + 1) none).2.2.length + ((pp T n N 7 dep (pp T n N 6 dep (sq T n p + 1) none).1 none).2.2.length + 1)) = s + (pp T n N 6 dep (sq T n p + 1) none).2.2.length + 1 + (pp T n N 7 dep (pp T n N 6 dep (sq T n p + 1) none).1 none).2.2.length by omega]
          exact A4
        · rw [sI_o (Or.inl (by decide)), sI_o (Or.inr hj)]
        · rw [sI_o (Or.inl (by decide)), sI_s]; rfl
      · exact k.2 h4 q ((X_m XA).trans (X2.trans (X_say.trans X4))) en4 (D4.mono (Nat.le_refl _) (by omega))
    · replace en : (pp T n N 6 dep (sq T n p + 1) none).2.1 = some q := en
      rw [en] at k
      have G2 := GA.x X2
      refine s173_46 G2.1 _ (m_say_dead G2.1 (by omega) D2 (fun h3 X3 D3 => s173_52 _ ?_))
      refine s173_15 (G2.x X3).1 _ ⟨fun _ => ?_, fun y => absurd (by rw [D3.1]; exact nI_m (by have := D3.2.1; omega)) y⟩
      exact k.2 h3 q ((X_m XA).trans (X2.trans X3)) (pp_dead N _ _ _ _) (D3.mono (Nat.le_refl _) (by omega))
theorem m_part0 {N1 N2 : Nat} (HU : mC sc T n 175 [.ref 38] 6 14 N1) (HL : mBL sc T n 173 15 7 15 N2) : ∀ (d : Nat) (h : cmH) (KV : cmH → Prop) (dep p s : Nat), RM h T n → p ≤ n → MA h p dep s → dep ≤ 6 → 3 * (6 - dep) + 15 ≤ d → 16 * (n - p) + 4 < N1 → 16 * (n - p) < N2 → s + 2 * (n - p) ≤ 410 → mK h n dep p s (pS2 (pp T n N1) (pp T n N2) 6 7 dep p none) KV → cm_cv sc d 173 [.ref 38, .int 0] h KV := by
  intro d h KV dep p s G hp A hdep hd hN1 hN2 hs k
  obtain ⟨d, rfl⟩ : ∃ e, d = e + 1 := ⟨d - 1, by omega⟩
  have h160 := G.2.2.1
  unfold pS2 at k
  have M0 := pp_mono (T := T) (n := n) N1 6 dep p none hp
  have L0 := pp_len (T := T) (n := n) N1 6 dep p none hp
  refine cv_of rfl (s173_0 G.1 _ ⟨fun _ => HU d h _ dep p s G hp A hdep (by omega) (by show 16 * (n - p) + 3 < N1; omega) hs ⟨fun h1 X1 en A1 S1 => ?_, fun h1 q X1 en D1 => ?_⟩, fun y => absurd rfl y⟩)
  · rw [en] at k
    have l0 := L0 en
    have G1 := G.x X1
    skip
    refine HL (d + 1) h1 _ dep (pp T n N1 6 dep p none).1 _ _ G1 M0.2 A1 hdep hd (by omega) (by omega) ⟨fun h4 X4 en4 A4 S4 => ⟨rfl, k.1 h4 (X1.trans X4) en4 ?_ (SY.seq S1 (fun _ => rfl) S4)⟩, fun h4 q X4 en4 D4 => ⟨rfl, k.2 h4 q (X1.trans X4) en4 (D4.mono (Nat.le_refl _) (by omega))⟩⟩
    rw [List.length_append, ← Nat.add_assoc]; exact A4
  · rw [en] at k
    skip
    refine s173_15 (G.x X1).1 _ ⟨fun _ => ⟨rfl, k.2 h1 q X1 (pp_dead N2 _ _ _ _) D1⟩, fun y => absurd (by rw [D1.1]; exact nI_m (by have := D1.2.1; omega)) y⟩
theorem m_part1 {N1 N2 : Nat} (HU : mC sc T n 174 [.ref 38] 5 13 N1) (HL : mBL sc T n 173 15 7 15 N2) : ∀ (d : Nat) (h : cmH) (KV : cmH → Prop) (dep p s : Nat), RM h T n → p ≤ n → MA h p dep s → dep ≤ 6 → 3 * (6 - dep) + 15 ≤ d → 16 * (n - p) + 4 < N1 → 16 * (n - p) < N2 → s + 2 * (n - p) ≤ 410 → mK h n dep p s (pS2 (pp T n N1) (pp T n N2) 5 7 dep p none) KV → cm_cv sc d 173 [.ref 38, .int 1] h KV := by
  intro d h KV dep p s G hp A hdep hd hN1 hN2 hs k
  obtain ⟨d, rfl⟩ : ∃ e, d = e + 1 := ⟨d - 1, by omega⟩
  have h160 := G.2.2.1
  unfold pS2 at k
  have M0 := pp_mono (T := T) (n := n) N1 5 dep p none hp
  have L0 := pp_len (T := T) (n := n) N1 5 dep p none hp
  refine cv_of rfl (s173_0 G.1 _ ⟨fun y => absurd y (by decide), fun _ => HU d h _ dep p s G hp A hdep (by omega) (by show 16 * (n - p) + 0 < N1; omega) hs ⟨fun h1 X1 en A1 S1 => ?_, fun h1 q X1 en D1 => ?_⟩⟩)
  · rw [en] at k
    have l0 := L0 en
    have G1 := G.x X1
    refine s173_8 _ ?_
    refine HL (d + 1) h1 _ dep (pp T n N1 5 dep p none).1 _ _ G1 M0.2 A1 hdep hd (by omega) (by omega) ⟨fun h4 X4 en4 A4 S4 => ⟨rfl, k.1 h4 (X1.trans X4) en4 ?_ (SY.seq S1 (fun _ => rfl) S4)⟩, fun h4 q X4 en4 D4 => ⟨rfl, k.2 h4 q (X1.trans X4) en4 (D4.mono (Nat.le_refl _) (by omega))⟩⟩
    rw [List.length_append, ← Nat.add_assoc]; exact A4
  · rw [en] at k
    refine s173_8 _ ?_
    refine s173_15 (G.x X1).1 _ ⟨fun _ => ⟨rfl, k.2 h1 q X1 (pp_dead N2 _ _ _ _) D1⟩, fun y => absurd (by rw [D1.1]; exact nI_m (by have := D1.2.1; omega)) y⟩
theorem m_condL {N : Nat} (HA : mG sc T n 173 [.ref 38, .int 0] 15 (N - 15) (fun dep p => pp T n N 10 dep p none)) (HL : mBL sc T n 172 5 8 16 N) : mBL sc T n 172 5 8 16 (N + 1) := by
  intro d h Q dep p s x1 G hp A hdep hd hN hs k
  obtain ⟨d, rfl⟩ : ∃ e, d = e + 1 := ⟨d - 1, by omega⟩
  have h160 := G.2.2.1
  have ek : pp T n (N + 1) 8 dep p none = pLoop T n (pp T n N) 10 8 124 124 dep p none := rfl
  rw [ek] at k
  have g1 : p ≤ sq T n p := sq_ge
  refine s172_5 G.1 _ ⟨fun y => absurd A.2.1 y, fun _ => m_lk G hp A.1 fun h1 X1 e1 => ?_⟩
  have Y1 := X_lk X1
  have G1 := G.x (X_m Y1)
  have A1 := A.lk X1 e1
  have iff := RM.lk (p := p) (c := 124) G (by decide) (by decide)
  refine s172_17 G1.1 _ _ ⟨fun y => ?_, fun y => ?_⟩
  · rw [pLoop_n (fun q => y (iff.mpr (by omega)))] at k
    exact k.1 h1 (X_m Y1) rfl A1 (SY.nil fun j _ => x62 Y1 j)
  · have eo : sg T n p none = 124 := iff.mp (Decidable.not_not.mp y)
    rw [pLoop_y (Or.inl eo), eo] at k
    have hl := (sg_lt eo (by decide)).1
    have M0 := pp_mono (T := T) (n := n) N 10 dep (sq T n p + 1) none hl
    have L0 := pp_len (T := T) (n := n) N 10 dep (sq T n p + 1) none hl
    have GA := G1.x (X_m (X_a (v := cm_I h1 38 30 + 1)))
    have XA : XI h (cm_setI h1 38 30 (cm_I h1 38 30 + 1)) P_s := Y1.trans X_a
    refine HA d _ _ dep (sq T n p + 1) s GA hl A1.nx hdep (by omega) (by omega) (by omega) ⟨fun h2 X2 en A2 S2 => ?_, fun h2 q X2 en D2 => ?_⟩
    · replace en : (pp T n N 10 dep (sq T n p + 1) none).2.1 = none := en
      replace A2 : MA h2 (pp T n N 10 dep (sq T n p + 1) none).1 dep (s + (pp T n N 10 dep (sq T n p + 1) none).2.2.length) := A2
      replace S2 : SY _ h2 s (pp T n N 10 dep (sq T n p + 1) none).2.2 := S2
      rw [en] at k
      have l0 := L0 en
      have G2 := GA.x X2
      refine s172_37 G2.1 _ (m_say G2.1 A2.2.2.2 (by omega) (s172_43 _ ?_))
      refine HL (d + 1) _ Q dep (pp T n N 10 dep (sq T n p + 1) none).1 _ _ (G2.x X_say) M0.2 A2.say hdep hd (by omega) (by omega) ⟨fun h4 X4 en4 A4 S4 => ?_, fun h4 q X4 en4 D4 => ?_⟩
      · refine k.1 h4 ((X_m XA).trans (X2.trans (X_say.trans X4))) en4 ?_ (SY.app (S2.x (x62 XA) (fun _ => rfl)) (fun j hj => ?_) ?_ S4)
        · rw [List.length_append, List.length_cons]
          rw [show s + ((pp T n N 10 dep (sq T n p + 1) none).2.2.length + ((pp T n N 8 dep (pp T n N 10 dep (sq T n p + 1) none).1 none).2.2.length + 1)) = s + (pp T n N 10 dep (sq T n p + 1) none).2.2.length + 1 + (pp T n N 8 dep (pp T n N 10 dep (sq T n p + 1) none).1 none).2.2.length by omega]
          exact A4
        · rw [sI_o (Or.inl (by decide)), sI_o (Or.inr hj)]
        · rw [sI_o (Or.inl (by decide)), sI_s]; rfl
      · exact k.2 h4 q ((X_m XA).trans (X2.trans (X_say.trans X4))) en4 (D4.mono (Nat.le_refl _) (by omega))
    · replace en : (pp T n N 10 dep (sq T n p + 1) none).2.1 = some q := en
      rw [en] at k
      have G2 := GA.x X2
      refine s172_37 G2.1 _ (m_say_dead G2.1 (by omega) D2 (fun h3 X3 D3 => s172_43 _ ?_))
      refine s172_5 (G2.x X3).1 _ ⟨fun _ => ?_, fun y => absurd (by rw [D3.1]; exact nI_m (by have := D3.2.1; omega)) y⟩
      exact k.2 h3 q ((X_m XA).trans (X2.trans X3)) (pp_dead N _ _ _ _) (D3.mono (Nat.le_refl _) (by omega))
end MCOND
