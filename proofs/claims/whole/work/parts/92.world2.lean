/-! ===== the world's other parts ===== -/
section WORLD2
variable {h h' : cmH} {P R : Nat → Nat → Prop} {F Rn Q T NL n Re j : Nat} {fa C g st pr lc ta nn Tp : Nat → Nat} {cc Tt : Nat → Nat → Nat} {cls : Nat → List CL} {ro : Nat → Option Nat}
/-- the tape -/
def TP (h : cmH) (n : Nat) (Tp : Nat → Nat) : Prop := cm_I h 6 1 = nI n ∧ cm_I h 38 29 = nI n ∧ n ≤ 160 ∧ ∀ k, k < n → cm_I h 7 k = nI (Tp k) ∧ cm_I h 61 k = nI (Tp k) ∧ 0 < Tp k ∧ Tp k ≤ 255
theorem TP.fr (H : TP h n Tp) (L : LY h) (x : EX h h' P R) (p : ∀ k, ¬ P 6 1 ∧ ¬ P 38 29 ∧ ¬ P 7 k ∧ ¬ P 61 k) : TP h' n Tp := by
  have h88 := L.1
  obtain ⟨a, b, c, e⟩ := H
  exact ⟨by rw [(x.2 6 (by omega)).2.2.1 _ (p 0).1]; exact a, by rw [(x.2 38 (by omega)).2.2.1 _ (p 0).2.1]; exact b, c, fun k hk => by rw [(x.2 7 (by omega)).2.2.1 _ (p k).2.2.1, (x.2 61 (by omega)).2.2.1 _ (p k).2.2.2]; exact e k hk⟩
theorem TP.txt (H : TP h n Tp) (L : LY h) : TXT h 6 Tp n := by
  obtain ⟨a, b, c, e⟩ := H
  have k6 := ly_k L 6 rfl
  have k7 := ly_k L 7 rfl
  exact ⟨⟨k6.1, k7.2, ly_r L 6 0 rfl, k7.1⟩, a, by rw [ly_ln L 7 rfl]; exact c, by rw [ly_ln L 7 rfl]; decide, c, fun k hk => ⟨(e k hk).1, (e k hk).2.2⟩⟩
theorem TP.rm (H : TP h n Tp) (L : LY h) : RM h Tp n := ⟨L, H.2.1, H.2.2.1, fun k hk => (H.2.2.2 k hk).2⟩
/-- costs and price -/
def CG4 (h : cmH) : Prop := ∃ (p : Nat) (cn : Nat → Nat), cm_I h 30 2 = nI p ∧ cm_I h 38 57 = nI p ∧ p ≤ 10000 ∧ (∀ i, cn i ≤ 1000) ∧ ∀ i, i < 20 → cm_I h 31 i = nI (cn i) ∧ cm_I h 81 i = nI (cn i)
theorem CG4.fr (H : CG4 h) (L : LY h) (x : EX h h' P R) (p : ∀ k, ¬ P 30 2 ∧ ¬ P 38 57 ∧ ¬ P 31 k ∧ ¬ P 81 k) : CG4 h' := by
  have h88 := L.1
  obtain ⟨q, cn, a, b, c, e, f⟩ := H
  exact ⟨q, cn, by rw [(x.2 30 (by omega)).2.2.1 _ (p 0).1]; exact a, by rw [(x.2 38 (by omega)).2.2.1 _ (p 0).2.1]; exact b, c, e, fun k hk => by rw [(x.2 31 (by omega)).2.2.1 _ (p k).2.2.1, (x.2 81 (by omega)).2.2.1 _ (p k).2.2.2]; exact f k hk⟩
/-- gauges -/
def RG (h : cmH) (Re : Nat) : Prop := cm_I h 33 4 = nI Re ∧ cm_I h 38 62 = nI Re ∧ Re ≤ 100 ∧ ∀ i, i < Re → cm_I h 83 i = cm_I h 34 i ∧ cm_I h 84 i = cm_I h 35 i ∧ cm_I h 85 i = cm_I h 36 i ∧ cm_I h 86 i = cm_I h 37 i
theorem RG.fr (H : RG h Re) (L : LY h) (x : EX h h' P R) (p : ∀ a k, (a = 33 ∧ k = 4) ∨ (a = 38 ∧ k = 62) ∨ (34 ≤ a ∧ a ≤ 37) ∨ (83 ≤ a ∧ a ≤ 86) → ¬ P a k) : RG h' Re := by
  have h88 := L.1
  have o : ∀ a k, (a = 33 ∧ k = 4) ∨ (a = 38 ∧ k = 62) ∨ (34 ≤ a ∧ a ≤ 37) ∨ (83 ≤ a ∧ a ≤ 86) → cm_I h' a k = cm_I h a k := fun a k q => (x.2 a (by omega)).2.2.1 k (p a k q)
  obtain ⟨a, b, c, e⟩ := H
  exact ⟨by rw [o _ _ (by omega)]; exact a, by rw [o _ _ (by omega)]; exact b, c, fun i hi => by rw [o 83 i (by omega), o 84 i (by omega), o 85 i (by omega), o 86 i (by omega), o 34 i (by omega), o 35 i (by omega), o 36 i (by omega), o 37 i (by omega)]; exact e i hi⟩
/-- layers: numbers, cells, the order found last -/
def LA (h : cmH) (F : Nat) (C fa : Nat → Nat) (cc : Nat → Nat → Nat) (NL : Nat) (lc : Nat → Nat) : Prop := cm_I h 21 5 = nI NL ∧ cm_I h 38 53 = nI NL ∧ NL ≤ 6 ∧ FC h 26 NL lc ∧ SP 26 NL lc ∧ (∀ c x f, c < NL → lc c ≤ x → x ≤ lc c + 2 → f < F → ¬ OWN (fa f) (C f) (cc f) x) ∧ cm_I h 26 4 = nI 100 ∧ cm_I h 49 8 = nI 100 ∧ ∀ i, i < NL → cm_I h 77 i = cm_I h 22 i ∧ cm_I h 78 i = cm_I h 23 i ∧ ∃ t, cm_I h 23 i = nI t ∧ 1 ≤ t ∧ t ≤ 1000
theorem LA.fr (H : LA h F C fa cc NL lc) (L : LY h) (S : SW F C fa cc) (x : EX h h' P R) (p : ∀ a k, (a = 21 ∧ k = 5) ∨ (a = 38 ∧ k = 53) ∨ (a = 26 ∧ (k = 3 ∨ k = 4)) ∨ (a = 49 ∧ k = 8) ∨ a = 77 ∨ a = 78 ∨ a = 22 ∨ a = 23 → ¬ P a k) (p5 : ∀ c, c < NL → ¬ P (lc c) 5) (r : ∀ a k, R a k → (a = 9 ∧ k = 1) ∨ a = 5 ∨ a = 8 ∨ ∃ f, f < F ∧ OWN (fa f) (C f) (cc f) a) : LA h' F C fa cc NL lc := by
  have h88 := L.1
  obtain ⟨a1, a2, a3, a4, a5, a6, a7, a8, a9⟩ := H
  have o : ∀ a k, (a = 21 ∧ k = 5) ∨ (a = 38 ∧ k = 53) ∨ (a = 26 ∧ (k = 3 ∨ k = 4)) ∨ (a = 49 ∧ k = 8) ∨ a = 77 ∨ a = 78 ∨ a = 22 ∨ a = 23 → cm_I h' a k = cm_I h a k := fun a k q => (x.2 a (by omega)).2.2.1 k (p a k q)
  have nr : ∀ a k, (a = 26 ∨ a = 27 ∨ ∃ c, c < NL ∧ lc c ≤ a ∧ a ≤ lc c + 2) → ¬ R a k := fun a k q v => by
    have h9 : a ≠ 9 ∧ a ≠ 5 ∧ a ≠ 8 := by
      rcases q with q | q | ⟨c, hc, q⟩
      · omega
      · omega
      · have := (a5.2.1 c hc).1; omega
    rcases r a k v with u | u | u | ⟨f, hf, u⟩
    · omega
    · omega
    · omega
    · have := S.own88 hf u
      rcases q with q | q | ⟨c, hc, q⟩
      · omega
      · omega
      · exact a6 c a f hc q.1 q.2 hf u
  refine ⟨by rw [o _ _ (by omega)]; exact a1, by rw [o _ _ (by omega)]; exact a2, a3, ⟨x.FL a4.1 (fun k => nr 26 k (Or.inl rfl)), by rw [o _ _ (by omega)]; exact a4.2.1, a4.2.2.1, fun c hc => ⟨?_, x.CE (a4.2.2.2 c hc).2.1 (fun k => nr _ k (Or.inr (Or.inr ⟨c, hc, by omega, by omega⟩))), ?_⟩⟩, a5, a6, by rw [o _ _ (by omega)]; exact a7, by rw [o _ _ (by omega)]; exact a8, fun i hi => by rw [o 77 i (by omega), o 78 i (by omega), o 22 i (by omega), o 23 i (by omega)]; exact a9 i hi⟩
  · rw [(x.2 27 (by omega)).2.2.2 c (nr 27 c (Or.inr (Or.inl rfl)))]; exact (a4.2.2.2 c hc).1
  · rw [(x.2 (lc c) (by have := (a4.2.2.2 c hc).2.1.2.1; omega)).2.2.1 5 (p5 c hc)]; exact (a4.2.2.2 c hc).2.2
/-- the order found last -/
noncomputable def OCh (h : cmH) (NL Q : Nat) (st g : Nat → Nat) : Prop := cm_I h 21 7 = -1 ∨ ∃ m, m ≤ 1000000 ∧ cm_I h 21 7 = nI m ∧ ORow h NL (oRes NL Q m (cm_I h 22) (cm_I h 23) st g)
theorem OCh.fr (H : OCh h NL Q st g) (L : LY h) (x : EX h h' P R) (p : ∀ a k, (a = 21 ∧ (k = 6 ∨ k = 7)) ∨ a = 22 ∨ a = 23 ∨ a = 25 → ¬ P a k) : OCh h' NL Q st g := by
  have h88 := L.1
  have o : ∀ a k, (a = 21 ∧ (k = 6 ∨ k = 7)) ∨ a = 22 ∨ a = 23 ∨ a = 25 → cm_I h' a k = cm_I h a k := fun a k q => (x.2 a (by omega)).2.2.1 k (p a k q)
  have e22 : cm_I h' 22 = cm_I h 22 := funext fun k => o 22 k (by omega)
  have e23 : cm_I h' 23 = cm_I h 23 := funext fun k => o 23 k (by omega)
  unfold OCh ORow
  rw [o 21 7 (by omega), o 21 6 (by omega), e22, e23]
  rcases H with H | ⟨m, a, b, c, e⟩
  · exact Or.inl H
  · exact Or.inr ⟨m, a, b, c, fun w i hi => by rw [o 25 i (by omega)]; exact e w i hi⟩
/-- what isn't built yet is zero on the side of the reference -/
def FRE (h : cmH) (F : Nat) (C : Nat → Nat) : Prop := ∀ a k, FP F C a k → cm_I h a k = 0
theorem FRE.fr (H : FRE h F C) (L : LY h) (x : EX h h' P R) (p : ∀ a k, P a k → ¬ FP F C a k) : FRE h' F C := fun a k q => by
  have h88 := L.1
  rw [(x.2 a (by unfold FP at q; omega)).2.2.1 k (fun w => p a k w q)]; exact H a k q
theorem a1_fp {a k : Nat} (q : A1 h F C fa cc a k) : ¬ FP F C a k := by
  intro w
  unfold FP at w
  rcases q with q | q | q | q | q | q | q | q | q | q | q | q | q | q | q | ⟨q, -⟩
  all_goals omega
/-- the world behind j calls -/
noncomputable def WLD (j : Nat) (h : cmH) : Prop := ∃ (F Rn Q T NL n Re : Nat) (C fa g st pr lc ta nn Tp : Nat → Nat) (cc Tt : Nat → Nat → Nat) (cls : Nat → List CL) (ro : Nat → Option Nat), HS h F Rn C fa cc ta nn Tt cls ro Q T g st pr ∧ TP h n Tp ∧ LA h F C fa cc NL lc ∧ OCh h NL Q st g ∧ CG4 h ∧ RG h Re ∧ cm_n h ≤ 88 + 4 * j ∧ cm_sl h ≤ 110333 + 170 * j ∧ FRE h F C
theorem WLD.ly (W : WLD j h) : LY h := by
  obtain ⟨F, Rn, Q, T, NL, n, Re, C, fa, g, st, pr, lc, ta, nn, Tp, cc, Tt, cls, ro, H, -⟩ := W
  exact H.1.1
theorem WLD.up (W : WLD j h) : WLD (j + 1) h := by
  obtain ⟨F, Rn, Q, T, NL, n, Re, C, fa, g, st, pr, lc, ta, nn, Tp, cc, Tt, cls, ro, a1, a2, a3, a4, a5, a6, a7, a8, a9⟩ := W
  exact ⟨F, Rn, Q, T, NL, n, Re, C, fa, g, st, pr, lc, ta, nn, Tp, cc, Tt, cls, ro, a1, a2, a3, a4, a5, a6, by omega, by omega, a9⟩
theorem HS.mf (H : HS h F Rn C fa cc ta nn Tt cls ro Q T g st pr) : MF (cm_I h) F C := by
  obtain ⟨-, -, -, M, Z⟩ := H
  refine ⟨M.2.1, M.2.2.1, fun f hf => ⟨(M.2.2.2.1 f hf).1, (M.2.2.2.1 f hf).2.1, fun c hc => ?_⟩⟩
  obtain ⟨V, I, -⟩ := Z.1 f hf
  obtain ⟨-, -, ⟨t, e, t1, t2⟩, -⟩ := I.2.2.2 c hc
  rw [(V.2.1 c hc).2.2.1, e]
  intro w
  have := nI_inj (a := t) (b := 0) (by omega) (by decide) w
  omega
/-! the calls that only look -/
variable {sc : cmS} {d : Nat}
/-- class, then reference: the same answer, and the world stands -/
noncomputable def STi (sc : cmS) (d d' Mc Mr : Nat) (as bs : List Value) (j : Nat) (h : cmH) : Prop := cm_ci sc d Mc as h (fun r h1 => LY h1 ∧ cm_ci sc d' Mr bs h1 (fun r' h2 => r' = r ∧ WLD (j + 1) h2))
noncomputable def STj (sc : cmS) (d d' Mc Mr : Nat) (as bs : List Value) (j : Nat) (h : cmH) : Prop := cm_cj' sc d Mc as h (fun r h1 => LY h1 ∧ cm_cj' sc d' Mr bs h1 (fun r' h2 => r' = r ∧ WLD (j + 1) h2))
end WORLD2
