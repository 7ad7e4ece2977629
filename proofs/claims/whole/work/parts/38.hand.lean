/-! ===== hand, rule, push: the calls ===== -/
section HAND
variable {sc : cmS} {d : Nat} {h : cmH} {K : Int32 → cmH → Prop} {KV : cmH → Prop} {F : Nat} {C : Nat → Nat} {fa : Nat → Nat} {cc : Nat → Nat → Nat}
/-- a filter shut or opened by hand: what it is then -/
def q_hd (st x2 : Int32) : Int32 := if x2 = 1 then (if st = 4 then -1 else 4) else (if st = 4 then 0 else -1)
theorem c_hand {x1 x2 : Int32} (L : LY h) (G : FS h F fa) (GC : ∀ f, f < F → FC h (fa f) (C f) (cc f)) (GS : ∀ f, f < F → SP (fa f) (C f) (cc f)) (y0 : ∀ f, f < F → x1 = nI f → x2 = 0 → ∀ h', CG h h' (fa f) (C f) (cc f) → K 1 (cm_setI h' (fa f) 8 0)) (y1 : ∀ f, f < F → x1 = nI f → x2 = 1 ∨ x2 = 2 → q_hd (cm_I h (fa f) 8) x2 ≠ -1 → K 1 (cm_setI h (fa f) 8 (q_hd (cm_I h (fa f) 8) x2))) (n : (∀ f, f < F → x1 = nI f → x2 ≠ 0 ∧ (x2 = 1 ∨ x2 = 2 → q_hd (cm_I h (fa f) 8) x2 = -1)) → K 0 h) : cm_ci sc (d + 4) 90 [.ref 0, .int x1, .int x2] h K := by
  have h8 := G.2.1
  refine ci_of rfl (s90_0 L x1 x2 _ _ (c_filterAt L G (fun f hf e => ?_) (fun q => s90_5 x1 x2 _ _ none ⟨fun _ => ai (n fun f hf e => absurd e (q f hf)), fun b eb => (by cases eb)⟩)))
  have un : ∀ g, g < F → x1 = nI g → g = f := fun g hg e2 => nI_inj (by omega) (by omega) (e2.symm.trans e)
  have nn : x2 ≠ 0 ∧ (x2 = 1 ∨ x2 = 2 → q_hd (cm_I h (fa f) 8) x2 = -1) → K 0 h := fun z => n fun g hg e2 => by rw [un g hg e2]; exact z
  refine s90_5 x1 x2 _ _ (some (fa f)) ⟨fun q => (by cases q), fun b eb => ?_⟩
  cases eb
  refine c_inN 0 2 (fun j _ hj ej => ?_) (fun q => s90_16 L x1 x2 (some (fa f)) _ 0 (br_f (by decide) (ai (nn ⟨fun z => q 0 (by omega) (by omega) z, fun z => ?_⟩))))
  · have Ff := (GC f hf).1
    refine s90_16 L x1 x2 (some (fa f)) _ 1 (br_t (by decide) ⟨fun z => ⟨_, rfl, Ff, ?_⟩, fun z => ⟨_, rfl, Ff, c_change L (GC f hf) (GS f hf) (fun h' X => s90_33 x1 x2 (some (fa f)) _ ⟨_, rfl, X.1.FL Ff, ai (y0 f hf e (Decidable.not_not.mp z) h' X)⟩)⟩⟩)
    have h12 : x2 = 1 ∨ x2 = 2 := by
      obtain rfl | rfl | rfl : j = 0 ∨ j = 1 ∨ j = 2 := by omega
      · exact absurd ej z
      · exact Or.inl ej
      · exact Or.inr ej
    have yy := y1 f hf e h12
    have fin : ∀ w : Int32, w = (if cm_I h (fa f) 8 = 4 then 1 else 0) → ∀ u : Option Value, cm_wp sc (d + 4) 90 53 [some (.ref 0), some (.int x1), some (.int x2), some (va_rf (some (fa f))), u] [.int w] h (fun v h' => ∃ x, v = some (.int x) ∧ K x h') := by
      intro w hw u
      rcases h12 with rfl | rfl
      · refine s90_53 x1 _ (some (fa f)) _ w (br_f (fun z => z rfl) (s90_67 x1 _ (some (fa f)) _ _ _ ?_))
        unfold q_hd at yy nn
        rw [if_pos rfl] at yy nn
        by_cases z4 : cm_I h (fa f) 8 = 4
        · rw [if_pos z4] at hw nn
          subst hw
          exact br_f (fun z => z rfl) (ai (nn ⟨by decide, fun _ => rfl⟩))
        · rw [if_neg z4] at hw yy
          subst hw
          exact br_t (by decide) ⟨_, rfl, br_t rfl (s90_83 x1 _ (some (fa f)) _ _ (some (fa f)) ⟨_, rfl, Ff, ai (yy (by decide))⟩)⟩
      · refine s90_53 x1 _ (some (fa f)) _ w (br_t (by decide) (s90_67 x1 _ (some (fa f)) _ _ _ ?_))
        unfold q_hd at yy nn
        rw [if_neg (by decide)] at yy nn
        by_cases z4 : cm_I h (fa f) 8 = 4
        · rw [if_pos z4] at hw yy
          subst hw
          exact br_t (by decide) ⟨_, rfl, br_f (by decide) (s90_83 x1 _ (some (fa f)) _ _ (some (fa f)) ⟨_, rfl, Ff, ai (yy (by decide))⟩)⟩
        · rw [if_neg z4] at hw nn
          subst hw
          exact br_f (fun z => z rfl) (ai (nn ⟨by decide, fun _ => rfl⟩))
    exact ⟨fun z4 => fin 0 (if_neg z4).symm _, fun z4 => fin 1 (if_pos (Decidable.not_not.mp z4)).symm _⟩
  · rcases z with z | z
    · exact absurd z (q 1 (by omega) (by omega))
    · exact absurd z (q 2 (by omega) (by omega))
theorem m_hand {x1 x2 : Int32} (L : LY h) (G : MF (cm_I h) F C) (y0 : ∀ f, f < F → x1 = nI f → x2 = 0 → ∀ h', MG h h' f (C f) → K 1 (cm_setI h' 52 f 0)) (y1 : ∀ f, f < F → x1 = nI f → x2 = 1 ∨ x2 = 2 → q_hd (cm_I h 52 f) x2 ≠ -1 → K 1 (cm_setI h 52 f (q_hd (cm_I h 52 f) x2))) (n : (∀ f, f < F → x1 = nI f → x2 ≠ 0 ∧ (x2 = 1 ∨ x2 = 2 → q_hd (cm_I h 52 f) x2 = -1)) → K 0 h) : cm_ci sc (d + 2) 197 [.ref 38, .int x1, .int x2] h K := by
  have h8 := G.2.1
  refine ci_of rfl (s197_0 L x1 x2 (m_isF' L G (fun f hf e => ?_) (fun q => s197_5 x1 x2 0 (br_t rfl (ai (n fun f hf e => absurd e (q f hf)))))))
  have un : ∀ g, g < F → x1 = nI g → g = f := fun g hg e2 => nI_inj (by omega) (by omega) (e2.symm.trans e)
  have nn : x2 ≠ 0 ∧ (x2 = 1 ∨ x2 = 2 → q_hd (cm_I h 52 f) x2 = -1) → K 0 h := fun z => n fun g hg e2 => by rw [un g hg e2]; exact z
  have yy0 := y0 f hf e
  have yy1 := y1 f hf e
  clear y0 y1 n
  subst e
  have ix : IX 9 (nI f) := ix_nI (by omega) (by decide)
  refine s197_5 _ x2 1 (br_f (by decide) (m_inN 0 2 (fun j _ hj ej => ?_) (fun q => s197_14 L _ x2 0 (br_f (by decide) (ai (nn ⟨fun z => q 0 (by omega) (by omega) z, fun z => ?_⟩))))))
  · obtain ⟨hC, h10, -⟩ := G.2.2 f hf
    refine s197_14 L _ x2 1 (br_t (by decide) ⟨fun z => ⟨ix, ?_⟩, fun z => m_change L (by omega) hC h10 (fun h' X => s197_28 (X.1.ly L) _ _ ⟨ix, ai ?_⟩)⟩)
    · have h12 : x2 = 1 ∨ x2 = 2 := by
        obtain rfl | rfl | rfl : j = 0 ∨ j = 1 ∨ j = 2 := by omega
        · exact absurd ej z
        · exact Or.inl ej
        · exact Or.inr ej
      have yy := yy1 h12
      rw [nI_clamp (by omega)]
      have fin : ∀ w : Int32, w = (if cm_I h 52 f = 4 then 1 else 0) → cm_wp sc (d + 2) 197 52 [some (.ref 38), some (.int (nI f)), some (.int x2)] [.int w] h (fun v h' => ∃ x, v = some (.int x) ∧ K x h') := by
        intro w hw
        rcases h12 with rfl | rfl
        · refine s197_52 _ _ w (br_t (by decide) (s197_62 L _ _ _ _ ?_))
          unfold q_hd at yy nn
          rw [if_pos rfl] at yy nn
          by_cases z4 : cm_I h 52 f = 4
          · rw [if_pos z4] at hw nn
            subst hw
            exact br_f (by decide) (ai (nn ⟨by decide, fun _ => rfl⟩))
          · rw [if_neg z4] at hw yy
            subst hw
            refine br_t rfl (br_f (fun z => z rfl) (s197_82 L _ _ _ _ ⟨ix, ai ?_⟩))
            rw [nI_clamp (by omega)]; exact yy (by decide)
        · refine s197_52 _ _ w (br_f (fun z => z rfl) (s197_62 L _ _ _ _ ?_))
          unfold q_hd at yy nn
          rw [if_neg (by decide)] at yy nn
          by_cases z4 : cm_I h 52 f = 4
          · rw [if_pos z4] at hw yy
            subst hw
            refine br_t rfl (br_t (by decide) (s197_82 L _ _ _ _ ⟨ix, ai ?_⟩))
            rw [nI_clamp (by omega)]; exact yy (by decide)
          · rw [if_neg z4] at hw nn
            subst hw
            exact br_f (by decide) (ai (nn ⟨by decide, fun _ => rfl⟩))
      exact ⟨fun z4 => fin 0 (if_neg z4).symm, fun z4 => fin 1 (if_pos (Decidable.not_not.mp z4)).symm⟩
    · rw [nI_clamp (by omega)]; exact yy0 (Decidable.not_not.mp z) h' X
  · rcases z with z | z
    · exact absurd z (q 1 (by omega) (by omega))
    · exact absurd z (q 2 (by omega) (by omega))
/-! rule -/
theorem c_rule {x1 x2 : Int32} (L : LY h) (G : FS h F fa) (GC : ∀ f, f < F → FL h (fa f)) (y : ∀ f, f < F → x1 = nI f → -1 ≤ x2 ∧ x2 ≤ cm_I h 0 11 - 1 → K 1 (cm_setI h (fa f) 7 x2)) (n : (∀ f, f < F → x1 = nI f → ¬ (-1 ≤ x2 ∧ x2 ≤ cm_I h 0 11 - 1)) → K 0 h) : cm_ci sc (d + 2) 57 [.ref 0, .int x1, .int x2] h K := by
  refine ci_of rfl (s57_0 L x1 x2 _ (c_filterAt L G (fun f hf e => ?_) (fun q => s57_5 L x1 x2 _ none ⟨fun _ => ai (n fun f hf e => absurd e (q f hf)), fun b eb => (by cases eb)⟩)))
  refine s57_5 L x1 x2 _ (some (fa f)) ⟨fun q => (by cases q), fun b eb => ?_⟩
  cases eb
  exact c_in (fun q => s57_21 x1 x2 (some (fa f)) 1 (br_t (by decide) ⟨_, rfl, GC f hf, ai (y f hf e q)⟩)) (fun q => s57_21 x1 x2 (some (fa f)) 0 (br_f (by decide) (ai (n fun _ _ _ => q))))
theorem m_rule {x1 x2 : Int32} (L : LY h) (G : MF (cm_I h) F C) (y : ∀ f, f < F → x1 = nI f → -1 ≤ x2 ∧ x2 ≤ cm_I h 38 34 - 1 → K 1 (cm_setI h 55 f x2)) (n : (∀ f, f < F → x1 = nI f → ¬ (-1 ≤ x2 ∧ x2 ≤ cm_I h 38 34 - 1)) → K 0 h) : cm_ci sc (d + 2) 177 [.ref 38, .int x1, .int x2] h K := by
  have h8 := G.2.1
  refine ci_of rfl (s177_0 L x1 x2 (m_isF' L G (fun f hf e => ?_) (fun q => s177_5 L x1 x2 0 (br_t rfl (ai (n fun f hf e => absurd e (q f hf)))))))
  have yy := y f hf e
  refine s177_5 L x1 x2 1 (br_f (by decide) (m_in (fun q => ?_) (fun q => s177_19 L x1 x2 0 (br_f (by decide) (ai (n fun _ _ _ => q))))))
  have yy := yy q
  subst e
  refine s177_19 L _ x2 1 (br_t (by decide) ⟨ix_nI (by omega) (by decide), ai ?_⟩)
  rw [nI_clamp (by omega)]; exact yy
/-! push -/
def g_push (q : Nat) (x2 : Int32) : Prop := 1 ≤ q ∧ q ≤ 1000 ∧ x2 = nI q
theorem c_push {x1 x2 : Int32} (L : LY h) (G : FS h F fa) (y : ∀ f q, f < F → x1 = nI f → g_push q x2 → FL h (fa f) ∧ cm_ci sc (d + 4) 32 [.ref (fa f), .int (nI q)] h K) (n : (∀ f q, f < F → x1 = nI f → ¬ g_push q x2) → K (-1) h) : cm_ci sc (d + 5) 31 [.ref 0, .int x1, .int x2] h K := by
  refine ci_of rfl (s31_0 L x1 x2 _ (c_filterAt L G (fun f hf e => ?_) (fun q => s31_5 x1 x2 _ none ⟨fun _ => s31_21 _ _ none (s31_30 _ _ none _ (ai (n fun f q' hf e => absurd e (q f hf)))), fun b eb => (by cases eb)⟩)))
  refine s31_5 x1 x2 _ (some (fa f)) ⟨fun q => (by cases q), fun b eb => ?_⟩
  cases eb
  refine c_inN 1 1000 (fun q h1 h2 e2 => ?_) (fun q => s31_18 x1 x2 (some (fa f)) 0 (br_f (by decide) (s31_21 _ _ (some (fa f)) (s31_30 _ _ (some (fa f)) _ (ai (n fun f q' hf e g => q q' g.1 g.2.1 g.2.2))))))
  obtain ⟨y1, y2⟩ := y f q hf e ⟨h1, h2, e2⟩
  subst e2
  refine s31_18 x1 _ (some (fa f)) 1 (br_t (by decide) ⟨_, rfl, y1, ci_mono y2 (fun r h' k => s31_30 _ _ (some (fa f)) _ (ai k))⟩)
theorem m_push {x1 x2 : Int32} (L : LY h) (G : MF (cm_I h) F C) (y : ∀ f q, f < F → x1 = nI f → g_push q x2 → cm_ci sc (d + 4) 143 [.ref 38, .int (nI f), .int (nI q)] h K) (n : (∀ f q, f < F → x1 = nI f → ¬ g_push q x2) → K (-1) h) : cm_ci sc (d + 5) 142 [.ref 38, .int x1, .int x2] h K := by
  refine ci_of rfl (s142_0 L x1 x2 (m_isF' L G (fun f hf e => ?_) (fun q => s142_5 x1 x2 0 (br_t rfl (ai (n fun f q' hf e => absurd e (q f hf)))))))
  refine s142_5 x1 x2 1 (br_f (by decide) (m_inN 1 1000 (fun q h1 h2 e2 => ?_) (fun q => s142_16 L x1 x2 0 (br_t rfl (ai (n fun f q' hf e g => q q' g.1 g.2.1 g.2.2))))))
  have yy := y f q hf e ⟨h1, h2, e2⟩
  subst e2 e
  exact s142_16 L _ _ 1 (br_f (by decide) (ci_mono yy (fun r h' k => s142_25 _ _ _ (ai k))))
end HAND
