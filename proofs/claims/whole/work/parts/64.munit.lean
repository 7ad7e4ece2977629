/-! ===== the reference's condition and unit ===== -/
section MUNIT
variable {sc : cmS} {T : Nat → Nat} {n : Nat}
theorem pS2_mono {N1 N2 a b dep p : Nat} {w : Option Nat} (h : p ≤ n) : p ≤ (pS2 (pp T n N1) (pp T n N2) a b dep p w).1 ∧ (pS2 (pp T n N1) (pp T n N2) a b dep p w).1 ≤ n := by
  have h1 := pp_mono (T := T) N1 a dep p w h
  have h2 := pp_mono (T := T) N2 b dep (pp T n N1 a dep p w).1 (pp T n N1 a dep p w).2.1 h1.2
  exact ⟨Nat.le_trans h1.1 h2.1, h2.2⟩
theorem pS2_len {N1 N2 a b dep p : Nat} {w : Option Nat} (h : p ≤ n) (e : (pS2 (pp T n N1) (pp T n N2) a b dep p w).2.1 = none) : (pS2 (pp T n N1) (pp T n N2) a b dep p w).2.2.length + 2 * p ≤ 2 * (pS2 (pp T n N1) (pp T n N2) a b dep p w).1 := by
  have e2 : (pp T n N2 b dep (pp T n N1 a dep p w).1 (pp T n N1 a dep p w).2.1).2.1 = none := e
  have e1 := pp_well e2
  have h1 := pp_len (T := T) N1 a dep p w h e1
  have h2 := pp_len (T := T) N2 b dep _ _ (pp_mono (T := T) N1 a dep p w h).2 e2
  show ((pp T n N1 a dep p w).2.2 ++ (pp T n N2 b dep (pp T n N1 a dep p w).1 (pp T n N1 a dep p w).2.1).2.2).length + 2 * p ≤ 2 * (pp T n N2 b dep (pp T n N1 a dep p w).1 (pp T n N1 a dep p w).2.1).1
  rw [List.length_append]; omega
theorem pS3 {N1 N2 a dep p : Nat} {w : Option Nat} : pS2 (pp T n N1) (pp T n (N2 + 1)) a 9 dep p w = ((pp T n N2 8 dep (pS2 (pp T n N1) (pp T n N2) a 7 dep p w).1 (pS2 (pp T n N1) (pp T n N2) a 7 dep p w).2.1).1, (pp T n N2 8 dep (pS2 (pp T n N1) (pp T n N2) a 7 dep p w).1 (pS2 (pp T n N1) (pp T n N2) a 7 dep p w).2.1).2.1, (pS2 (pp T n N1) (pp T n N2) a 7 dep p w).2.2 ++ (pp T n N2 8 dep (pS2 (pp T n N1) (pp T n N2) a 7 dep p w).1 (pS2 (pp T n N1) (pp T n N2) a 7 dep p w).2.1).2.2) := by
  refine Prod.ext rfl (Prod.ext rfl ?_)
  exact (List.append_assoc _ _ _).symm
theorem m_cond0 {N1 N2 : Nat} (HU : mC sc T n 175 [.ref 38] 6 14 N1) (HP : mBL sc T n 173 15 7 15 N2) (HL : mBL sc T n 172 5 8 16 N2) : ∀ (d : Nat) (h : cmH) (KV : cmH → Prop) (dep p s : Nat), RM h T n → p ≤ n → MA h p dep s → dep ≤ 6 → 3 * (6 - dep) + 16 ≤ d → 16 * (n - p) + 4 < N1 → 16 * (n - p) < N2 → s + 2 * (n - p) ≤ 410 → mK h n dep p s (pS2 (pp T n N1) (pp T n (N2 + 1)) 6 9 dep p none) KV → cm_cv sc d 172 [.ref 38, .int 0] h KV := by
  intro d h KV dep p s G hp A hdep hd hN1 hN2 hs k
  obtain ⟨d, rfl⟩ : ∃ e, d = e + 1 := ⟨d - 1, by omega⟩
  have h160 := G.2.2.1
  rw [pS3] at k
  have M0 := pS2_mono (T := T) (n := n) (N1 := N1) (N2 := N2) (a := 6) (b := 7) (dep := dep) (w := none) hp
  have L0 := pS2_len (T := T) (n := n) (N1 := N1) (N2 := N2) (a := 6) (b := 7) (dep := dep) (w := none) hp
  refine cv_of rfl (s172_0 G.1 _ (m_part0 HU HP d h _ dep p s G hp A hdep (by omega) hN1 hN2 hs ?_))
  generalize pS2 (pp T n N1) (pp T n N2) 6 7 dep p none = R at k M0 L0
  refine ⟨fun h1 X1 en A1 S1 => ?_, fun h1 q X1 en D1 => ?_⟩
  · rw [en] at k
    have l0 := L0 en
    have G1 := G.x X1
    refine HL (d + 1) h1 _ dep R.1 _ _ G1 M0.2 A1 hdep hd (by omega) (by omega) ⟨fun h4 X4 en4 A4 S4 => ⟨rfl, k.1 h4 (X1.trans X4) en4 ?_ (SY.seq S1 (fun _ => rfl) S4)⟩, fun h4 q X4 en4 D4 => ⟨rfl, k.2 h4 q (X1.trans X4) en4 (D4.mono (Nat.le_refl _) (by omega))⟩⟩
    rw [List.length_append, ← Nat.add_assoc]; exact A4
  · rw [en] at k
    refine s172_5 (G.x X1).1 _ ⟨fun _ => ⟨rfl, k.2 h1 q X1 (pp_dead N2 _ _ _ _) D1⟩, fun y => absurd (by rw [D1.1]; exact nI_m (by have := D1.2.1; omega)) y⟩
theorem m_cond1 {N1 N2 : Nat} (HU : mC sc T n 174 [.ref 38] 5 13 N1) (HP : mBL sc T n 173 15 7 15 N2) (HL : mBL sc T n 172 5 8 16 N2) : ∀ (d : Nat) (h : cmH) (KV : cmH → Prop) (dep p s : Nat), RM h T n → p ≤ n → MA h p dep s → dep ≤ 6 → 3 * (6 - dep) + 16 ≤ d → 16 * (n - p) + 4 < N1 → 16 * (n - p) < N2 → s + 2 * (n - p) ≤ 410 → mK h n dep p s (pS2 (pp T n N1) (pp T n (N2 + 1)) 5 9 dep p none) KV → cm_cv sc d 172 [.ref 38, .int 1] h KV := by
  intro d h KV dep p s G hp A hdep hd hN1 hN2 hs k
  obtain ⟨d, rfl⟩ : ∃ e, d = e + 1 := ⟨d - 1, by omega⟩
  have h160 := G.2.2.1
  rw [pS3] at k
  have M0 := pS2_mono (T := T) (n := n) (N1 := N1) (N2 := N2) (a := 5) (b := 7) (dep := dep) (w := none) hp
  have L0 := pS2_len (T := T) (n := n) (N1 := N1) (N2 := N2) (a := 5) (b := 7) (dep := dep) (w := none) hp
  refine cv_of rfl (s172_0 G.1 _ (m_part1 HU HP d h _ dep p s G hp A hdep (by omega) hN1 hN2 hs ?_))
  generalize pS2 (pp T n N1) (pp T n N2) 5 7 dep p none = R at k M0 L0
  refine ⟨fun h1 X1 en A1 S1 => ?_, fun h1 q X1 en D1 => ?_⟩
  · rw [en] at k
    have l0 := L0 en
    have G1 := G.x X1
    refine HL (d + 1) h1 _ dep R.1 _ _ G1 M0.2 A1 hdep hd (by omega) (by omega) ⟨fun h4 X4 en4 A4 S4 => ⟨rfl, k.1 h4 (X1.trans X4) en4 ?_ (SY.seq S1 (fun _ => rfl) S4)⟩, fun h4 q X4 en4 D4 => ⟨rfl, k.2 h4 q (X1.trans X4) en4 (D4.mono (Nat.le_refl _) (by omega))⟩⟩
    rw [List.length_append, ← Nat.add_assoc]; exact A4
  · rw [en] at k
    refine s172_5 (G.x X1).1 _ ⟨fun _ => ⟨rfl, k.2 h1 q X1 (pp_dead N2 _ _ _ _) D1⟩, fun y => absurd (by rw [D1.1]; exact nI_m (by have := D1.2.1; omega)) y⟩
end MUNIT
