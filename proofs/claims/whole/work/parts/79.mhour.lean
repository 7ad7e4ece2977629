/-! ===== an hour of the reference ===== -/
section MHOUR
variable {sc : cmS} {d : Nat} {h : cmH} {KV : cmH → Prop} {Qv : Option Value → cmH → Prop} {Rn F Q : Nat} {C kc pr st g : Nat → Nat} {W : Nat → Nat → Nat} {cls : Nat → List CL} {ro : Nat → Option Nat}
/-- one filter's decision, if it is due -/
def MDr (C : Nat → Nat) (cls : Nat → List CL) (ro : Nat → Option Nat) (f : Nat) (x y : cmH) : Prop := (act (C f) (cm_I x 52 f) → MDS x y f (C f) (wq (m_lf (cm_I x) f) 99 (ro f) cls) (wq (m_lf (cm_I x) f) 119 (ro f) cls) (wq (m_lf (cm_I x) f) 114 (ro f) cls) (wq (m_lf (cm_I x) f) 117 (ro f) cls)) ∧ (¬ act (C f) (cm_I x 52 f) → y = x)
def MWv (I I' : Nat → Nat → Int32) (f n : Nat) (u : Int32) : Prop := (∀ s, s < 8 → I' 71 (6 * s + 2) = I 71 (6 * s + 2) + (I 48 (8 * f + s) + cm_sum (fun c => m_go I f c u s) n) ∧ I' 48 (8 * f + s) = 0) ∧ (∀ c, c < n → (∀ s, s < 8 → I' 46 (8 * (10 * f + c) + s) = I 46 (8 * (10 * f + c) + s) - m_go I f c u s ∧ I' 47 (8 * (10 * f + c) + s) = I 47 (8 * (10 * f + c) + s) + m_st I f c s) ∧ I' 43 (10 * f + c) = q_pore (I 43 (10 * f + c)) u (I 50 f)) ∧ I' 53 f = 0 ∧ I' 54 f = I 54 f + 1
abbrev P_mz (f : Nat) (x k : Nat) : Prop := (x = 59 ∨ x = 56 ∨ x = 57 ∨ x = 58) ∧ k = f
def MWS (h h' : cmH) (f n : Nat) : Prop := XI h h' (fun x k => P_mz f x k ∨ P_mw f n x k) ∧ (cm_I h' 59 f = (if cm_I h 52 f = 1 ∧ 0 < n then 1 else 0) ∧ cm_I h' 56 f = 0 ∧ cm_I h' 57 f = 0 ∧ cm_I h' 58 f = 0) ∧ (¬ cm_I h 52 f = 2 → ∀ x k, ¬ P_mz f x k → cm_I h' x k = cm_I h x k) ∧ (cm_I h 52 f = 2 → MWv (cm_I h) (cm_I h') f n (cm_I h 74 f))
def MWr (C : Nat → Nat) (f : Nat) (x y : cmH) : Prop := MWS x y f (C f)
/-- what stays over an hour of the reference -/
def MSt (h : cmH) (F Rn : Nat) (C : Nat → Nat) (cls : Nat → List CL) (ro : Nat → Option Nat) : Prop := LY h ∧ cm_I h 38 24 = nI F ∧ F ≤ 8 ∧ (∀ f, f < F → cm_I h 42 f = nI (C f) ∧ C f ≤ 10 ∧ cm_I h 55 f = wI (ro f) ∧ (∀ j, ro f = some j → j < Rn)) ∧ MRu h Rn cls ∧ (∀ j, j < Rn → WOK (cls j)) ∧ ∀ s, s < 8 → 0 ≤ cm_I h 41 s ∧ cm_I h 41 s ≤ 1000
/-- the places that an hour of the reference may change -/
def MHQ (x k : Nat) : Prop := x = 65 ∨ x = 66 ∨ (x = 38 ∧ (k = 37 ∨ k = 0)) ∨ x = 52 ∨ x = 60 ∨ x = 74 ∨ x = 48 ∨ x = 46 ∨ x = 47 ∨ x = 71 ∨ x = 43 ∨ x = 53 ∨ x = 54 ∨ x = 59 ∨ x = 56 ∨ x = 57 ∨ x = 58 ∨ x = 72 ∨ x = 76 ∨ x = 75 ∨ x = 73 ∨ x = 69 ∨ x = 70 ∨ x = 68
/-- places of filters and cells that aren't built yet -/
def FP (F : Nat) (C : Nat → Nat) (x k : Nat) : Prop := ((x = 42 ∨ x = 52 ∨ x = 53 ∨ x = 54 ∨ x = 56 ∨ x = 57 ∨ x = 58 ∨ x = 59 ∨ x = 60 ∨ x = 70) ∧ F ≤ k ∧ k < 8) ∨ (x = 48 ∧ 8 * F ≤ k ∧ k < 64) ∨ ((x = 46 ∨ x = 47) ∧ k < 640 ∧ (80 * F ≤ k ∨ 8 * C (k / 80) ≤ k % 80))
def MHQ2 (F : Nat) (C : Nat → Nat) (x k : Nat) : Prop := MHQ x k ∧ ¬ FP F C x k
theorem mg_fp {f x k : Nat} (hf : f < F) (h10 : C f ≤ 10) (q : P_mg f (C f) x k) : ¬ FP F C x k := by
  intro w
  rcases w with ⟨w, w1, w2⟩ | ⟨w, w1, w2⟩ | ⟨w, w1, w2⟩
  · unfold P_mg at q; omega
  · unfold P_mg at q; omega
  · have e : 80 * f ≤ k ∧ k < 80 * f + 8 * C f := by unfold P_mg at q; omega
    have e80 : k / 80 = f := by omega
    rw [e80] at w2; omega
theorem mw_fp {f x k : Nat} (hf : f < F) (h10 : C f ≤ 10) (q : P_mw f (C f) x k) : ¬ FP F C x k := by
  intro w
  rcases w with ⟨w, w1, w2⟩ | ⟨w, w1, w2⟩ | ⟨w, w1, w2⟩
  · unfold P_mw at q; omega
  · unfold P_mw at q; omega
  · have e : 80 * f ≤ k ∧ k < 80 * f + 8 * C f := by unfold P_mw at q; omega
    have e80 : k / 80 = f := by omega
    rw [e80] at w2; omega
theorem fl_fp {T x k : Nat} (q : P_fl F T C x k) : ¬ FP F C x k := by
  intro w
  rcases w with ⟨w, w1, w2⟩ | ⟨w, w1, w2⟩ | ⟨w, w1, w2⟩
  · unfold P_fl P_7 at q; omega
  · unfold P_fl P_7 at q; omega
  · unfold P_fl P_7 at q; omega
theorem MSt.x {h' : cmH} (S : MSt h F Rn C cls ro) (X : XI h h' MHQ) : MSt h' F Rn C cls ro := by
  obtain ⟨L, a, b, c, e, f, g⟩ := S
  refine ⟨X.ly L, by rw [X.2 38 24 (by unfold MHQ; omega)]; exact a, b, fun i hi => by rw [X.2 42 i (by unfold MHQ; omega), X.2 55 i (by unfold MHQ; omega)]; exact c i hi, ⟨by rw [X.2 38 34 (by unfold MHQ; omega)]; exact e.1, e.2.1, fun j hj => ?_⟩, f, fun s hs => by rw [X.2 41 s (by unfold MHQ; omega)]; exact g s hs⟩
  obtain ⟨r1, r2, r3, r4⟩ := e.2.2 j hj
  exact ⟨by rw [X.2 64 _ (by unfold MHQ; omega)]; exact r1, r2, fun i x hx => by rw [X.2 63 _ (by unfold MHQ; omega)]; exact r3 i x hx, r4⟩
theorem MDr.q {f : Nat} {x y : cmH} (D : MDr C cls ro f x y) : XI x y MHQ := by
  by_cases w : act (C f) (cm_I x 52 f)
  · exact (D.1 w).1.mono fun a k q => by
      rcases q with q | q
      · unfold P_mr at q; unfold MHQ; omega
      · unfold P_mg at q; unfold MHQ; omega
  · rw [D.2 w]; exact XI.refl
theorem MWr.q {f : Nat} {x y : cmH} (D : MWr C f x y) : XI x y MHQ := D.1.mono fun a k q => by
  rcases q with q | q
  · unfold P_mz at q; unfold MHQ; omega
  · unfold P_mw at q; unfold MHQ; omega
theorem MDr.q2 {f : Nat} {x y : cmH} (hf : f < F) (h10 : C f ≤ 10) (D : MDr C cls ro f x y) : XI x y (MHQ2 F C) := by
  by_cases w : act (C f) (cm_I x 52 f)
  · exact (D.1 w).1.mono fun a k q => by
      rcases q with q | q
      · exact ⟨by unfold P_mr at q; unfold MHQ; omega, fun v => by unfold P_mr at q; unfold FP at v; omega⟩
      · exact ⟨by unfold P_mg at q; unfold MHQ; omega, mg_fp hf h10 q⟩
  · rw [D.2 w]; exact XI.refl
theorem MWr.q2 {f : Nat} {x y : cmH} (hf : f < F) (h10 : C f ≤ 10) (D : MWr C f x y) : XI x y (fun a k => MHQ2 F C a k ∧ ¬ (a = 38 ∧ k = 0)) := D.1.mono fun a k q => by
  rcases q with q | q
  · exact ⟨⟨by unfold P_mz at q; unfold MHQ; omega, fun v => by unfold P_mz at q; unfold FP at v; omega⟩, by unfold P_mz at q; omega⟩
  · exact ⟨⟨by unfold P_mw at q; unfold MHQ; omega, mw_fp hf h10 q⟩, by unfold P_mw at q; omega⟩
theorem m_hdec {k : cmH → Prop} (kk : ∀ y, MSt y F Rn C cls ro → k y → cm_wp sc (d + 6) 186 62 [some (.ref 38), some (.int 0)] [] y Qv) : ∀ (m i : Nat) (x : cmH), i + m = F → MSt x F Rn C cls ro → (∀ y, Ch (MDr C cls ro) m i x y → k y) → cm_wp sc (d + 6) 186 12 [some (.ref 38), some (.int (nI i))] [] x Qv := by
  intro m
  induction m with
  | zero =>
    intro i x hm S hc
    obtain rfl : i = F := by omega
    refine s186_12 S.1 _ ⟨fun _ => kk x S (hc x rfl), fun z => absurd ?_ z⟩
    rw [S.2.1]; exact Int32.le_refl _
  | succ m ih =>
    intro i x hm S hc
    have hi : i < F := by omega
    have h8 := S.2.2.1
    obtain ⟨en, h10, er, ho⟩ := S.2.2.2.1 i hi
    refine s186_12 S.1 _ ⟨fun z => absurd z (by rw [S.2.1]; exact nI_ge hi (by omega)), fun _ => ?_⟩
    rw [nI_clamp (by omega), en]
    have on : ∀ y, MDr C cls ro i x y → cm_wp sc (d + 6) 186 54 [some (.ref 38), some (.int (nI i))] [] y Qv := fun y D => by
      refine s186_54 _ ?_
      rw [nI_1]
      exact ih (i + 1) y (by omega) (S.x D.q) (fun z c => hc z ⟨y, D, c⟩)
    refine ⟨ix_nI (by omega) (by decide), fun z => on x ⟨fun w => ?_, fun _ => rfl⟩, fun z => ⟨fun z4 => on x ⟨fun w => absurd z4 w.2.1, fun _ => rfl⟩, fun z4 => ⟨fun z5 => on x ⟨fun w => absurd z5 w.2.2, fun _ => rfl⟩, fun z5 => ?_⟩⟩⟩
    · exact absurd z (nI_ge (a := 0) w.1 (by omega))
    · have n0 : 0 < C i := by
        rcases Nat.eq_zero_or_pos (C i) with w | w
        · exact absurd (by rw [w]; decide) z
        · exact w
      exact m_decide S.1 (by omega) en h10 er ho S.2.2.2.2.1 S.2.2.2.2.2.1 (fun y D => on y ⟨fun _ => D, fun w => absurd ⟨n0, z4, z5⟩ w⟩)
theorem m_hwash {k : cmH → Prop} (kk : ∀ y, MSt y F Rn C cls ro → k y → (cm_I y 38 48 ≤ 0 → cm_wp sc (d + 6) 186 153 [some (.ref 38), some (.int (nI F))] [] y Qv) ∧ (¬ cm_I y 38 48 ≤ 0 → cm_cv sc (d + 5) 190 [.ref 38] y (fun z => cm_wp sc (d + 6) 186 153 [some (.ref 38), some (.int (nI F))] [] z Qv))) : ∀ (m i : Nat) (x : cmH), i + m = F → MSt x F Rn C cls ro → (∀ y, Ch (MWr C) m i x y → k y) → cm_wp sc (d + 6) 186 62 [some (.ref 38), some (.int (nI i))] [] x Qv := by
  intro m
  induction m with
  | zero =>
    intro i x hm S hc
    obtain rfl : i = F := by omega
    refine s186_62 S.1 _ ⟨fun _ => kk x S (hc x rfl), fun z => absurd ?_ z⟩
    rw [S.2.1]; exact Int32.le_refl _
  | succ m ih =>
    intro i x hm S hc
    have hi : i < F := by omega
    have h8 := S.2.2.1
    obtain ⟨en, h10, er, ho⟩ := S.2.2.2.1 i hi
    have cl : (nI i).toNatClampNeg = i := nI_clamp (by omega)
    refine s186_62 S.1 _ ⟨fun z => absurd z (by rw [S.2.1]; exact nI_ge hi (by omega)), fun _ => ?_⟩
    rw [cl, en]
    have on : ∀ y, MWr C i x y → cm_wp sc (d + 6) 186 136 [some (.ref 38), some (.int (nI i))] [] y Qv := fun y D => by
      refine s186_136 _ ?_
      rw [nI_1]
      exact ih (i + 1) y (by omega) (S.x D.q) (fun z c => hc z ⟨y, D, c⟩)
    have w99 : ∀ b : Int32, vp_nar .boolean b = b → b = (if cm_I x 52 i = 1 ∧ 0 < C i then 1 else 0) → cm_wp sc (d + 6) 186 99 [some (.ref 38), some (.int (nI i))] [.int b, .int (nI i), .ref 59] x Qv := fun b nb eb => by
      refine s186_99 S.1 _ _ _ ?_
      rw [cl, nb]
      have X : XI x (cm_setI (cm_setI (cm_setI (cm_setI x 59 i b) 56 i 0) 57 i 0) 58 i 0) (P_mz i) := (((XI.refl.set ⟨Or.inl rfl, rfl⟩).set ⟨Or.inr (Or.inl rfl), rfl⟩).set ⟨Or.inr (Or.inr (Or.inl rfl)), rfl⟩).set ⟨Or.inr (Or.inr (Or.inr rfl)), rfl⟩
      have v59 : cm_I (cm_setI (cm_setI (cm_setI (cm_setI x 59 i b) 56 i 0) 57 i 0) 58 i 0) 59 i = b := by rw [sI_o (Or.inl (by decide)), sI_o (Or.inl (by decide)), sI_o (Or.inl (by decide)), sI_s]
      have v56 : cm_I (cm_setI (cm_setI (cm_setI (cm_setI x 59 i b) 56 i 0) 57 i 0) 58 i 0) 56 i = 0 := by rw [sI_o (Or.inl (by decide)), sI_o (Or.inl (by decide)), sI_s]
      have v57 : cm_I (cm_setI (cm_setI (cm_setI (cm_setI x 59 i b) 56 i 0) 57 i 0) 58 i 0) 57 i = 0 := by rw [sI_o (Or.inl (by decide)), sI_s]
      have v58 : cm_I (cm_setI (cm_setI (cm_setI (cm_setI x 59 i b) 56 i 0) 57 i 0) 58 i 0) 58 i = 0 := sI_s
      generalize (cm_setI (cm_setI (cm_setI (cm_setI x 59 i b) 56 i 0) 57 i 0) 58 i 0) = y at X v59 v56 v57 v58 ⊢
      have oo : ∀ a k, a ≠ 59 → a ≠ 56 → a ≠ 57 → a ≠ 58 → cm_I y a k = cm_I x a k := fun a k _ _ _ _ => X.2 a k (by unfold P_mz; omega)
      refine ⟨ix_nI (by omega) (by decide), ix_nI (by omega) (by decide), fun z => on y ⟨X.mono fun _ _ q => Or.inl q, ⟨v59.trans eb, v56, v57, v58⟩, fun _ a k q => X.2 a k q, fun w => absurd w z⟩, fun z => ?_⟩
      refine m_washOne (u := cm_I x 74 i) (X.ly S.1) (by omega) (by rw [oo 42 i (by decide) (by decide) (by decide) (by decide)]; exact en) h10 (oo 74 i (by decide) (by decide) (by decide) (by decide)) (fun s hs => by rw [oo 41 s (by decide) (by decide) (by decide) (by decide)]; exact S.2.2.2.2.2.2 s hs) (fun y2 Z => on y2 ⟨(X.mono fun _ _ q => Or.inl q).trans (Z.1.mono fun _ _ q => Or.inr q), ⟨?_, ?_, ?_, ?_⟩, fun w => absurd (Decidable.not_not.mp z) w, fun _ => ?_⟩)
      · rw [Z.1.2 59 i (by unfold P_mw; omega)]; exact v59.trans eb
      · rw [Z.1.2 56 i (by unfold P_mw; omega)]; exact v56
      · rw [Z.1.2 57 i (by unfold P_mw; omega)]; exact v57
      · rw [Z.1.2 58 i (by unfold P_mw; omega)]; exact v58
      · obtain ⟨-, z1, z2, z3, z4⟩ := Z
        have o4 : ∀ a, a = 71 ∨ a = 48 ∨ a = 46 ∨ a = 47 ∨ a = 43 ∨ a = 50 ∨ a = 54 ∨ a = 41 ∨ a = 40 → ∀ k, cm_I y a k = cm_I x a k := fun a _ k => oo a k (by omega) (by omega) (by omega) (by omega)
        have eg : ∀ c s, m_go (cm_I y) i c (cm_I x 74 i) s = m_go (cm_I x) i c (cm_I x 74 i) s := fun c s => by
          unfold m_go
          rw [o4 46 (by omega), o4 47 (by omega), o4 41 (by omega), o4 40 (by omega)]
        have es : ∀ c s, m_st (cm_I y) i c s = m_st (cm_I x) i c s := fun c s => by
          unfold m_st
          rw [o4 46 (by omega), o4 47 (by omega), o4 41 (by omega)]
        refine ⟨fun s hs => ⟨?_, (z1 s hs).2⟩, fun c hc => ⟨fun s hs => ⟨?_, ?_⟩, ?_⟩, z3, by rw [z4, o4 54 (by omega)]⟩
        · rw [(z1 s hs).1, o4 71 (by omega), o4 48 (by omega)]
          congr 2
          exact cm_sum_congr fun c _ => eg c s
        · rw [((z2 c hc).1 s hs).1, o4 46 (by omega), eg]
        · rw [((z2 c hc).1 s hs).2, o4 47 (by omega), es]
        · rw [(z2 c hc).2, o4 43 (by omega), o4 50 (by omega)]
    refine ⟨ix_nI (by omega) (by decide), fun z => s186_98 _ _ (w99 0 nar_b0 (by rw [if_neg (fun w => z w.1)])), fun z => ⟨fun z2 => s186_98 _ _ (w99 0 nar_b0 (by rw [if_neg (fun w => absurd z2 (nI_ge (a := 0) w.2 (by omega)))])), fun z2 => w99 1 nar_b1 (by rw [if_pos ⟨Decidable.not_not.mp z, by
      rcases Nat.eq_zero_or_pos (C i) with w | w
      · exact absurd (by rw [w]; decide) z2
      · exact w⟩])⟩⟩
/-- since, behind the hour -/
def MSi (h h' : cmH) (F i : Nat) : Prop := XI h h' (fun x k => x = 53 ∧ k < F) ∧ ∀ f, f < F → cm_I h' 53 f = if f < i then cm_I h 53 f + (if cm_I h 59 f ≠ 0 ∨ cm_I h 52 f = 3 then 1 else 0) else cm_I h 53 f
theorem m_hsince (L : LY h) (hF : cm_I h 38 24 = nI F) (h8 : F ≤ 8) (k : ∀ y, MSi h y F F → Qv none y) : ∀ (m i : Nat) (x : cmH), i + m = F → MSi h x F i → cm_wp sc d 186 155 [some (.ref 38), some (.int (nI i))] [] x Qv := by
  intro m
  induction m with
  | zero =>
    intro i x hm X
    obtain rfl : i = F := by omega
    refine s186_155 (X.1.ly L) _ ⟨fun _ => k x X, fun z => absurd ?_ z⟩
    rw [X.1.2 38 24 (by omega), hF]; exact Int32.le_refl _
  | succ m ih =>
    intro i x hm X
    have hi : i < F := by omega
    have cl : (nI i).toNatClampNeg = i := nI_clamp (by omega)
    have L' := X.1.ly L
    refine s186_155 L' _ ⟨fun z => absurd z (by rw [X.1.2 38 24 (by omega), hF]; exact nI_ge hi (by omega)), fun _ => ?_⟩
    rw [cl, X.1.2 59 i (by omega), X.1.2 52 i (by omega), X.2 i hi, if_neg (by omega)]
    have on : ∀ b : Int32, b = (if cm_I h 59 i ≠ 0 ∨ cm_I h 52 i = 3 then 1 else 0) → cm_wp sc d 186 194 [some (.ref 38), some (.int (nI i))] [.int b, .int (cm_I h 53 i), .int (nI i), .ref 53] x Qv := fun b eb => by
      refine s186_194 L' _ _ _ _ ?_
      rw [cl, nI_1]
      refine ⟨ix_nI (by omega) (by decide), ih (i + 1) _ (by omega) ⟨X.1.set ⟨rfl, by omega⟩, fun f hf => ?_⟩⟩
      by_cases y : f = i
      · subst y; rw [sI_s, if_pos (by omega), eb]
      · rw [sI_o (Or.inr y), X.2 f hf]
        by_cases w : f < i
        · rw [if_pos w, if_pos (show f < i + 1 by omega)]
        · rw [if_neg w, if_neg (show ¬ f < i + 1 by omega)]
    refine ⟨ix_nI (by omega) (by decide), fun z => s186_189 _ _ _ (on 1 (by rw [if_pos (Or.inl z)])), fun z => ⟨fun z2 => on 0 (by rw [if_neg (fun w => w.elim z z2)]), fun z2 => s186_189 _ _ _ (on 1 (by rw [if_pos (Or.inr (Decidable.not_not.mp z2))]))⟩⟩
/-- an hour of the reference: what the flow asks is asked where the washes end -/
theorem m_hour {T : Nat} {k : cmH → Prop} (S : MSt h F Rn C cls ro) (hT : cm_I h 38 0 = nI T) (kd : ∀ y, Ch (MDr C cls ro) F 0 (cm_setI h 38 0 (nI (T + 1))) y → k y) (kw : ∀ y, k y → ∀ z, Ch (MWr C) F 0 y z → MSt z F Rn C cls ro → (cm_I z 38 48 ≤ 0 → ∀ w, MSi z w F F → KV w) ∧ (¬ cm_I z 38 48 ≤ 0 → cm_cv sc (d + 5) 190 [.ref 38] z (fun v => LY v ∧ cm_I v 38 24 = nI F ∧ ∀ w, MSi v w F F → KV w))) : cm_cv sc (d + 6) 186 [.ref 38] h KV := by
  have h8 := S.2.2.1
  have X0 : XI h (cm_setI h 38 0 (nI (T + 1))) MHQ := XI.refl.set (Or.inr (Or.inr (Or.inl ⟨rfl, Or.inr rfl⟩)))
  refine cv_of rfl (s186_0 S.1 _ ?_)
  rw [hT, nI_1]
  refine m_hdec (k := k) (fun y Sy ky => m_hwash (k := fun z => Ch (MWr C) F 0 y z) (fun z Sz cz => ?_) F 0 y (Nat.zero_add F) Sy (fun _ c => c)) F 0 _ (Nat.zero_add F) (S.x X0) kd
  obtain ⟨a, b⟩ := kw y ky z cz Sz
  have fin : ∀ v, LY v → cm_I v 38 24 = nI F → (∀ w, MSi v w F F → KV w) → cm_wp sc (d + 6) 186 153 [some (.ref 38), some (.int (nI F))] [] v (fun v h' => v = none ∧ KV h') := fun v Lv Fv kv => s186_153 _ (m_hsince Lv Fv h8 (fun w Zw => ⟨rfl, kv w Zw⟩) F 0 v (Nat.zero_add F) ⟨XI.refl, fun f _ => by rw [if_neg (by omega)]⟩)
  exact ⟨fun q => fin z Sz.1 Sz.2.1 (a q), fun q => cv_mono (b q) (fun v w => fin v w.1 w.2.1 w.2.2)⟩
end MHOUR
