/-! ===== cheapest ===== -/
/-- the heap h' is h but for ints at places of P -/
def XI (h h' : cmH) (P : Nat → Nat → Prop) : Prop := h' = cm_w h (cm_I h') (cm_J h) ∧ ∀ a k, ¬ P a k → cm_I h' a k = cm_I h a k
theorem XI.refl {h : cmH} {P : Nat → Nat → Prop} : XI h h P := ⟨rfl, fun _ _ _ => rfl⟩
theorem XI.set {h h' : cmH} {P : Nat → Nat → Prop} {a k : Nat} {v : Int32} (x : XI h h' P) (p : P a k) : XI h (cm_setI h' a k v) P := by
  refine ⟨?_, fun b j q => ?_⟩
  · rw [x.1]; rfl
  · rw [← x.2 b j q]
    exact if_neg fun z => q (by rw [z.1, z.2]; exact p)
theorem XI.mono {h h' : cmH} {P Q : Nat → Nat → Prop} (x : XI h h' P) (q : ∀ a k, P a k → Q a k) : XI h h' Q := ⟨x.1, fun a k z => x.2 a k fun p => z (q a k p)⟩
theorem XI.trans {h h' h'' : cmH} {P : Nat → Nat → Prop} (x : XI h h' P) (y : XI h' h'' P) : XI h h'' P := by
  refine ⟨?_, fun a k z => (y.2 a k z).trans (x.2 a k z)⟩
  have := y.1
  rw [x.1] at this
  exact this
theorem XI.ly {h h' : cmH} {P : Nat → Nat → Prop} (x : XI h h' P) (L : LY h) : LY h' := by rw [x.1]; exact L
theorem XI.J {h h' : cmH} {P : Nat → Nat → Prop} (x : XI h h' P) : cm_J h' = cm_J h := by rw [x.1]; rfl
theorem XI.R {h h' : cmH} {P : Nat → Nat → Prop} (x : XI h h' P) : cm_R h' = cm_R h := by rw [x.1]; rfl
def q_U (g co : Nat → Nat) : Nat → Nat → Nat → Nat
  | 0, f, _ => g f
  | n + 1, f, a => min (g f) (co a + q_U g co n (f + 1) (a + 1))
def q_L (g co : Nat → Nat) : Nat → Nat → Nat → Nat
  | 0, f, _ => f
  | n + 1, f, a => if co a + q_U g co n (f + 1) (a + 1) ≤ g f then q_L g co n (f + 1) (a + 1) else f
theorem q_U_le {g co : Nat → Nat} {B : Nat} : ∀ (n f a : Nat), (∀ j, f ≤ j → j ≤ f + n → g j ≤ B) → q_U g co n f a ≤ B
  | 0, f, _, q => q f (by omega) (by omega)
  | n + 1, f, a, q => by
    have := q f (by omega) (by omega)
    unfold q_U
    omega
theorem q_L_le {g co : Nat → Nat} : ∀ (n f a : Nat), q_L g co n f a ≤ f + n
  | 0, f, _ => by unfold q_L; omega
  | n + 1, f, a => by
    have := q_L_le (g := g) (co := co) n (f + 1) (a + 1)
    unfold q_L
    split <;> omega
/-- the least sum for k hours with a thing of age a -/
def q_V (co : Nat → Nat) (pr : Nat) : Nat → Nat → Nat
  | 0, _ => 0
  | k + 1, a => min (co a + q_V co pr k (a + 1)) (pr + co 0 + q_V co pr k 1)
theorem q_V_le {co : Nat → Nat} {pr : Nat} (hc : ∀ a, co a ≤ 1000) : ∀ k a, q_V co pr k a ≤ 1000 * k
  | 0, _ => by unfold q_V; omega
  | k + 1, a => by
    have := q_V_le (pr := pr) hc k (a + 1)
    have := hc a
    unfold q_V
    omega
/-- the sums from a change on -/
def q_G (co : Nat → Nat) (pr t : Nat) (h : Nat) : Nat := if h < t then pr + co 0 + q_V co pr (t - h - 1) 1 else 0
theorem q_UV {co : Nat → Nat} {pr t : Nat} : ∀ (n f a : Nat), f + n = t → q_U (q_G co pr t) co n f a = q_V co pr n a
  | 0, f, a, e => by
    show q_G co pr t f = 0
    unfold q_G
    rw [if_neg (by omega)]
  | n + 1, f, a, e => by
    unfold q_U q_V
    rw [q_UV n (f + 1) (a + 1) (by omega)]
    have : q_G co pr t f = pr + co 0 + q_V co pr n 1 := by
      unfold q_G
      rw [if_pos (by omega), show t - f - 1 = n by omega]
    rw [this, Nat.min_comm]
section CHEAP
variable {sc : cmS} {d : Nat} {h : cmH} {K : Int32 → cmH → Prop} {KV : cmH → Prop} {KJ : Int64 → cmH → Prop}
theorem set_set {a k : Nat} {v w : Int32} : cm_setI (cm_setI h a k v) a k w = cm_setI h a k w := by
  refine congrArg (fun I => ((h.1, h.2.1, h.2.2.1, I, h.2.2.2.2.1, h.2.2.2.2.2) : cmH)) ?_
  funext b j
  show cm_u2 (cm_u2 (cm_I h) a k v) a k w b j = cm_u2 (cm_I h) a k w b j
  unfold cm_u2
  by_cases q : b = a ∧ j = k
  · rw [if_pos q, if_pos q]
  · rw [if_neg q, if_neg q, if_neg q]
theorem set_self {a k : Nat} : cm_setI h a k (cm_I h a k) = h := by
  refine congrArg (fun I => ((h.1, h.2.1, h.2.2.1, I, h.2.2.2.2.1, h.2.2.2.2.2) : cmH)) ?_
  funext b j
  show cm_u2 (cm_I h) a k (cm_I h a k) b j = cm_I h b j
  unfold cm_u2
  by_cases q : b = a ∧ j = k
  · rw [if_pos q, q.1, q.2]
  · rw [if_neg q]
theorem c_costOf {a : Nat} {cn : Nat → Nat} (L : LY h) (hco : ∀ i, i < 20 → cm_I h 31 i = nI (cn i)) (ha : a < 1000) (k : K (nI (cn (min a 19))) h) : cm_ci sc (d + 1) 113 [.ref 30, .int (nI a)] h K := by
  have e : (if (19 : Int32) < nI a then (19 : Int32) else nI a) = nI (min a 19) := by
    rw [show (19 : Int32) = nI 19 from rfl]
    by_cases q : 19 < a
    · rw [if_pos (nI_lt q (by omega)), Nat.min_eq_right (by omega)]
    · rw [if_neg (nI_nlt (by omega) (by omega)), Nat.min_eq_left (by omega)]
  refine ci_of rfl (s113_0 L _ ⟨fun _ => ?_, fun q => absurd (nI_pos' (by omega)) q⟩)
  rw [e, nI_clamp (by omega), hco _ (by omega)]
  exact ⟨ix_nI (by omega) (by decide), ai k⟩
theorem c_findNext {cn g : Nat → Nat} {f n a sp : Nat} (L : LY h) (hco : ∀ i, i < 20 → cm_I h 31 i = nI (cn i)) (hcn : ∀ i, cn i ≤ 1000) (hg : ∀ j, f ≤ j → j ≤ f + n → cm_I h 32 j = nI (g j) ∧ g j ≤ 100000) (hfn : f + n ≤ 60) (ha : a ≤ 100) (hsp : sp ≤ 1000)
    (k : KV (cm_setI (cm_setI h 30 4 (nI (q_L g (fun a => cn (min a 19)) n f a))) 30 3 (nI (sp + q_U g (fun a => cn (min a 19)) n f a)))) : cm_cv sc (d + 2) 114 [.ref 30, .int (nI f), .int (nI (f + n)), .int (nI sp), .int (nI a)] h KV := by
  refine cv_of rfl (s114_0 _ _ _ _ _ _ _ ?_)
  have gen : ∀ (m i s : Nat) (b lf : Int32) (bb ll : Int32), i + m = n → s ≤ 1000 + 1000 * i → (b = -1 ∧ bb = nI (s + q_U g (fun a => cn (min a 19)) m (f + i) (a + i)) ∧ ll = nI (q_L g (fun a => cn (min a 19)) m (f + i) (a + i)) ∨ ∃ x, x ≤ 200000 ∧ b = nI x ∧ bb = nI (min x (s + q_U g (fun a => cn (min a 19)) m (f + i) (a + i))) ∧ ll = if x < s + q_U g (fun a => cn (min a 19)) m (f + i) (a + i) then lf else nI (q_L g (fun a => cn (min a 19)) m (f + i) (a + i))) → KV (cm_setI (cm_setI h 30 4 ll) 30 3 bb) → cm_wp sc (d + 2) 114 9 [some (.ref 30), some (.int (nI f)), some (.int (nI (f + n))), some (.int (nI sp)), some (.int (nI a)), some (.int (nI s)), some (.int b), some (.int (nI (f + i)))] [] (cm_setI h 30 4 lf) (fun v h' => v = none ∧ KV h') := by
    intro m
    induction m with
    | zero =>
      intro i s b lf bb ll hi hs st kk
      obtain ⟨eg, hgb⟩ := hg (f + i) (by omega) (by omega)
      have fin : ∀ (b2 lf2 : Int32), b2 = bb → lf2 = ll → cm_wp sc (d + 2) 114 64 [some (.ref 30), some (.int (nI f)), some (.int (nI (f + n))), some (.int (nI sp)), some (.int (nI a)), some (.int (nI s)), some (.int b2), some (.int (nI (f + i)))] [] (cm_setI h 30 4 lf2) (fun v h' => v = none ∧ KV h') := by
        rintro b2 lf2 rfl rfl
        refine s114_64 (h := cm_setI h 30 4 lf2) L _ _ _ _ _ _ _ ?_
        rw [nI_add, pk_sub (by omega)]
        refine c_costOf (cn := cn) (h := cm_setI h 30 4 lf2) L hco (by omega) (s114_77 _ _ _ _ _ _ _ _ _ ?_)
        rw [nI_1]
        refine s114_9 (h := cm_setI h 30 4 lf2) L _ _ _ _ _ _ _ ⟨fun _ => s114_86 (h := cm_setI h 30 4 lf2) L _ _ _ _ _ _ _ ⟨rfl, kk⟩, fun q => absurd (nI_lt (by omega) (by omega)) q⟩
      have store : bb = nI (s + g (f + i)) → ll = nI (f + i) → cm_wp sc (d + 2) 114 46 [some (.ref 30), some (.int (nI f)), some (.int (nI (f + n))), some (.int (nI sp)), some (.int (nI a)), some (.int (nI s)), some (.int b), some (.int (nI (f + i)))] [] (cm_setI h 30 4 lf) (fun v h' => v = none ∧ KV h') := by
        intro e1 e2
        refine s114_46 (h := cm_setI h 30 4 lf) L _ _ _ _ _ _ _ ⟨ix_nI (by omega) (by decide), ?_⟩
        rw [set_set, nI_clamp (by omega), show cm_I (cm_setI h 30 4 lf) 32 (f + i) = nI (g (f + i)) from eg, nI_add]
        exact fin _ _ e1.symm e2.symm
      refine s114_9 (h := cm_setI h 30 4 lf) L _ _ _ _ _ _ _ ⟨fun q => absurd q (nI_nlt (by omega) (by omega)), fun _ => ⟨fun q => absurd q (nI_ge (b := 61) (by omega) (by decide)), fun _ => ⟨fun q => ?_, fun q => ⟨ix_nI (by omega) (by decide), fun q2 => ?_, fun q2 => ?_⟩⟩⟩⟩
      · rcases st with ⟨-, e1, e2⟩ | ⟨x, hx, e, -⟩
        · exact store e1 e2
        · exfalso
          rw [q] at e
          have h1 := congrArg Int32.toInt e
          rw [nI_toInt (by omega), show (-1 : Int32).toInt = -1 by decide] at h1
          omega
      · rw [nI_clamp (by omega), show cm_I (cm_setI h 30 4 lf) 32 (f + i) = nI (g (f + i)) from eg, nI_add] at q2
        rcases st with ⟨e, -⟩ | ⟨x, hx, rfl, e1, e2⟩
        · exact absurd e q
        · have q2 := (nI_ltI (by omega) (by omega)).mp q2
          unfold q_U at e1 e2
          rw [if_pos q2] at e2
          rw [Nat.min_eq_left (by omega)] at e1
          exact fin _ _ e1.symm e2.symm
      · rw [nI_clamp (by omega), show cm_I (cm_setI h 30 4 lf) 32 (f + i) = nI (g (f + i)) from eg, nI_add] at q2
        rcases st with ⟨e, -⟩ | ⟨x, hx, rfl, e1, e2⟩
        · exact absurd e q
        · have q2 : ¬ x < s + g (f + i) := fun z => q2 (nI_lt z (by omega))
          unfold q_U at e1 e2
          rw [if_neg q2] at e2
          rw [Nat.min_eq_right (by omega)] at e1
          exact store e1 e2
    | succ m ih =>
      intro i s b lf bb ll hi hs st kk
      obtain ⟨eg, hgb⟩ := hg (f + i) (by omega) (by omega)
      have hU := q_U_le (g := g) (co := fun a => cn (min a 19)) (B := 100000) m (f + i + 1) (a + i + 1) (fun j h1 h2 => (hg j (by omega) (by omega)).2)
      have hc := hcn (min (a + i) 19)
      have eU : q_U g (fun a => cn (min a 19)) (m + 1) (f + i) (a + i) = min (g (f + i)) (cn (min (a + i) 19) + q_U g (fun a => cn (min a 19)) m (f + i + 1) (a + i + 1)) := rfl
      have eL : q_L g (fun a => cn (min a 19)) (m + 1) (f + i) (a + i) = if cn (min (a + i) 19) + q_U g (fun a => cn (min a 19)) m (f + i + 1) (a + i + 1) ≤ g (f + i) then q_L g (fun a => cn (min a 19)) m (f + i + 1) (a + i + 1) else f + i := rfl
      rw [eU, eL] at st
      have fin : ∀ (x : Nat) (lf2 : Int32), x ≤ 200000 → bb = nI (min x (s + cn (min (a + i) 19) + q_U g (fun a => cn (min a 19)) m (f + i + 1) (a + i + 1))) → ll = (if x < s + cn (min (a + i) 19) + q_U g (fun a => cn (min a 19)) m (f + i + 1) (a + i + 1) then lf2 else nI (q_L g (fun a => cn (min a 19)) m (f + i + 1) (a + i + 1))) → cm_wp sc (d + 2) 114 64 [some (.ref 30), some (.int (nI f)), some (.int (nI (f + n))), some (.int (nI sp)), some (.int (nI a)), some (.int (nI s)), some (.int (nI x)), some (.int (nI (f + i)))] [] (cm_setI h 30 4 lf2) (fun v h' => v = none ∧ KV h') := by
        intro x lf2 hx e1 e2
        refine s114_64 (h := cm_setI h 30 4 lf2) L _ _ _ _ _ _ _ ?_
        rw [nI_add, pk_sub (by omega)]
        refine c_costOf (cn := cn) (h := cm_setI h 30 4 lf2) L hco (by omega) (s114_77 _ _ _ _ _ _ _ _ _ ?_)
        rw [nI_1, nI_add, show a + (f + i) - f = a + i by omega]
        exact ih (i + 1) (s + cn (min (a + i) 19)) _ lf2 bb ll (by omega) (by omega) (Or.inr ⟨x, hx, rfl, e1, e2⟩) kk
      generalize q_U g (fun a => cn (min a 19)) m (f + i + 1) (a + i + 1) = u at *
      generalize q_L g (fun a => cn (min a 19)) m (f + i + 1) (a + i + 1) = l at *
      generalize cn (min (a + i) 19) = c at *
      have store : bb = nI (min (s + g (f + i)) (s + c + u)) → ll = (if s + g (f + i) < s + c + u then nI (f + i) else nI l) → cm_wp sc (d + 2) 114 46 [some (.ref 30), some (.int (nI f)), some (.int (nI (f + n))), some (.int (nI sp)), some (.int (nI a)), some (.int (nI s)), some (.int b), some (.int (nI (f + i)))] [] (cm_setI h 30 4 lf) (fun v h' => v = none ∧ KV h') := by
        intro e1 e2
        refine s114_46 (h := cm_setI h 30 4 lf) L _ _ _ _ _ _ _ ⟨ix_nI (by omega) (by decide), ?_⟩
        rw [set_set, nI_clamp (by omega), show cm_I (cm_setI h 30 4 lf) 32 (f + i) = nI (g (f + i)) from eg, nI_add]
        exact fin _ _ (by omega) e1 e2
      refine s114_9 (h := cm_setI h 30 4 lf) L _ _ _ _ _ _ _ ⟨fun q => absurd q (nI_nlt (by omega) (by omega)), fun _ => ⟨fun q => absurd q (nI_ge (b := 61) (by omega) (by decide)), fun _ => ⟨fun q => ?_, fun q => ⟨ix_nI (by omega) (by decide), fun q2 => ?_, fun q2 => ?_⟩⟩⟩⟩
      · rcases st with ⟨-, e1, e2⟩ | ⟨x, hx, e, -⟩
        · refine store ?_ ?_
          · rw [e1]; congr 1; omega
          · rw [e2]
            by_cases z : c + u ≤ g (f + i)
            · rw [if_pos z, if_neg (by omega)]
            · rw [if_neg z, if_pos (by omega)]
        · exfalso
          rw [q] at e
          have h1 := congrArg Int32.toInt e
          rw [nI_toInt (by omega), show (-1 : Int32).toInt = -1 by decide] at h1
          omega
      · rw [nI_clamp (by omega), show cm_I (cm_setI h 30 4 lf) 32 (f + i) = nI (g (f + i)) from eg, nI_add] at q2
        rcases st with ⟨e, -⟩ | ⟨x, hx, rfl, e1, e2⟩
        · exact absurd e q
        · have q2 := (nI_ltI (by omega) (by omega)).mp q2
          refine fin x lf hx ?_ ?_
          · rw [e1]; congr 1; omega
          · rw [e2]
            by_cases z : x < s + c + u
            · rw [if_pos z, if_pos (by omega)]
            · rw [if_neg z, if_neg (by omega), if_pos (by omega)]
      · rw [nI_clamp (by omega), show cm_I (cm_setI h 30 4 lf) 32 (f + i) = nI (g (f + i)) from eg, nI_add] at q2
        rcases st with ⟨e, -⟩ | ⟨x, hx, rfl, e1, e2⟩
        · exact absurd e q
        · have q2 : ¬ x < s + g (f + i) := fun z => q2 (nI_lt z (by omega))
          refine store ?_ ?_
          · rw [e1]; congr 1; omega
          · rw [e2, if_neg (by omega)]
            by_cases z : c + u ≤ g (f + i)
            · rw [if_pos z, if_neg (by omega)]
            · rw [if_neg z, if_pos (by omega)]
  have := gen n 0 sp (-1) (cm_I h 30 4) _ _ (by omega) (by omega) (Or.inl ⟨rfl, rfl, rfl⟩) k
  rw [set_self] at this
  exact this
/-- what weigh writes -/
def P_ch (a k : Nat) : Prop := a = 32 ∨ (a = 30 ∧ (k = 3 ∨ k = 4))
theorem c_weigh {cn : Nat → Nat} {pr t a : Nat} (L : LY h) (hco : ∀ i, i < 20 → cm_I h 31 i = nI (cn i)) (hcn : ∀ i, cn i ≤ 1000) (hp : cm_I h 30 2 = nI pr) (hpr : pr ≤ 10000) (ht : 1 ≤ t) (ht2 : t ≤ 60) (ha : a ≤ 19)
    (k : ∀ h', XI h h' P_ch → cm_I h' 30 3 = nI (q_V (fun a => cn (min a 19)) pr t a) → cm_I h' 30 4 = nI (q_L (q_G (fun a => cn (min a 19)) pr t) (fun a => cn (min a 19)) t 0 a) → KV h') : cm_cv sc (d + 3) 112 [.ref 30, .int (nI t), .int (nI a)] h KV := by
  have hV : ∀ k a, q_V (fun a => cn (min a 19)) pr k a ≤ 1000 * k := q_V_le (fun a => hcn _)
  have hG : ∀ j, q_G (fun a => cn (min a 19)) pr t j ≤ 100000 := by
    intro j
    unfold q_G
    split
    · have h1 := hV (t - j - 1) 1
      have h2 := hcn (min 0 19)
      show pr + cn (min 0 19) + _ ≤ _
      omega
    · omega
  refine cv_of rfl (s112_0 _ _ _ (c_inN 1 60 (fun j _ _ _ => ?_) (fun q => absurd rfl (q t ht ht2))))
  refine s112_7 L _ _ _ 1 (br_t (by decide) ⟨ix_nI (by omega) (by decide), ?_⟩)
  rw [nI_clamp (by omega)]
  have gen : ∀ (m : Nat) (h' : cmH), m ≤ t → XI h h' P_ch → (∀ j, m ≤ j → j ≤ t → cm_I h' 32 j = nI (q_G (fun a => cn (min a 19)) pr t j)) → cm_wp sc (d + 3) 112 22 [some (.ref 30), some (.int (nI t)), some (.int (nI a)), some (.int (nI m - 1))] [] h' (fun v h' => v = none ∧ KV h') := by
    intro m
    induction m with
    | zero =>
      intro h' hm X hg
      have L' := X.ly L
      refine s112_22 L' _ _ _ ⟨fun _ => ?_, fun q => absurd (by decide) q⟩
      have hc' : ∀ i, i < 20 → cm_I h' 31 i = nI (cn i) := fun i hi => by rw [X.2 31 i (by rintro (q | q) <;> omega)]; exact hco i hi
      have := c_findNext (sc := sc) (d := d) (h := h') (KV := fun h' => cm_wp sc (d + 3) 112 69 [some (.ref 30), some (.int (nI t)), some (.int (nI a)), some (.int (nI 0 - 1))] [] h' (fun v h' => v = none ∧ KV h')) (cn := cn) (g := q_G (fun a => cn (min a 19)) pr t) (f := 0) (n := t) (a := a) (sp := 0) L' hc' hcn (fun j h1 h2 => ⟨hg j h1 (by omega), hG j⟩) (by omega) (by omega) (by omega) ?_
      · rw [Nat.zero_add] at this; exact this
      · refine s112_69 _ _ _ ⟨rfl, k _ ((X.set (Or.inr ⟨rfl, Or.inr rfl⟩)).set (Or.inr ⟨rfl, Or.inl rfl⟩)) ?_ rfl⟩
        show nI _ = _
        rw [Nat.zero_add, q_UV t 0 a (by omega)]
    | succ m ih =>
      intro h' hm X hg
      have L' := X.ly L
      rw [nI_pred]
      have hc' : ∀ i, i < 20 → cm_I h' 31 i = nI (cn i) := fun i hi => by rw [X.2 31 i (by rintro (q | q) <;> omega)]; exact hco i hi
      have hp' : cm_I h' 30 2 = nI pr := by rw [X.2 30 2 (by rintro (q | q) <;> omega)]; exact hp
      refine s112_22 L' _ _ _ ⟨fun q => absurd q (nI_pos (by omega)), fun _ => c_costOf (a := 0) L' hc' (by omega) ?_⟩
      rw [nI_1]
      refine s112_36 L' _ _ _ _ _ _ ?_
      have := c_findNext (sc := sc) (d := d) (h := h') (KV := fun h' => cm_wp sc (d + 3) 112 40 [some (.ref 30), some (.int (nI t)), some (.int (nI a)), some (.int (nI m))] [] h' (fun v h' => v = none ∧ KV h')) (cn := cn) (g := q_G (fun a => cn (min a 19)) pr t) (f := m + 1) (n := t - (m + 1)) (a := 1) (sp := cn (min 0 19)) L' hc' hcn (fun j h1 h2 => ⟨hg j h1 (by omega), hG j⟩) (by omega) (by omega) (hcn _) ?_
      · rw [show m + 1 + (t - (m + 1)) = t by omega] at this; exact this
      · have X2 := (X.set (a := 30) (k := 4) (v := nI (q_L (q_G (fun a => cn (min a 19)) pr t) (fun a => cn (min a 19)) (t - (m + 1)) (m + 1) 1)) (Or.inr ⟨rfl, Or.inr rfl⟩)).set (a := 30) (k := 3) (v := nI (cn (min 0 19) + q_U (q_G (fun a => cn (min a 19)) pr t) (fun a => cn (min a 19)) (t - (m + 1)) (m + 1) 1)) (Or.inr ⟨rfl, Or.inl rfl⟩)
        refine s112_40 (X2.ly L) _ _ _ ⟨ix_nI (by omega) (by decide), ?_⟩
        rw [show nI m + -1 = nI m - 1 from (Int32.sub_eq_add_neg _ _).symm, nI_clamp (by omega)]
        refine ih _ (by omega) (X2.set (Or.inl rfl)) ?_
        intro j h1 h2
        rcases Nat.lt_or_ge m j with z | z
        · refine (u2_k (f := cm_I (cm_setI (cm_setI h' 30 4 _) 30 3 _)) (a := 32) (by omega)).trans ?_
          exact hg j z h2
        · obtain rfl : j = m := by omega
          refine (u2_s (f := cm_I (cm_setI (cm_setI h' 30 4 _) 30 3 _))).trans ?_
          show cm_I h' 30 2 + nI _ = _
          rw [hp', nI_add, q_UV (t - (j + 1)) (j + 1) 1 (by omega)]
          unfold q_G
          rw [if_pos (by omega), show t - j - 1 = t - (j + 1) by omega]
          congr 1
          show pr + (cn (min 0 19) + _) = pr + cn (min 0 19) + _
          omega
  refine gen t _ (Nat.le_refl _) (XI.refl.set (Or.inl rfl)) ?_
  intro j h1 h2
  obtain rfl : j = t := by omega
  refine (u2_s (f := cm_I h)).trans ?_
  unfold q_G
  rw [if_neg (by omega)]
  rfl
def g_cheap (x1 x2 x3 : Int32) : Prop := (1 ≤ x1 ∧ x1 ≤ 60) ∧ (0 ≤ x2 ∧ x2 ≤ 19) ∧ (0 ≤ x3 ∧ x3 ≤ 1)
/-- the answer -/
def q_cheap (co : Nat → Nat) (pr t a : Nat) (x3 : Int32) : Int32 := if x3 = 0 then nI (q_V co pr t a) else if q_L (q_G co pr t) co t 0 a < t then nI (q_L (q_G co pr t) co t 0 a) else -1
theorem c_cheapest {x1 x2 x3 : Int32} {cn : Nat → Nat} {pr : Nat} (L : LY h) (hco : ∀ i, i < 20 → cm_I h 31 i = nI (cn i)) (hcn : ∀ i, cn i ≤ 1000) (hp : cm_I h 30 2 = nI pr) (hpr : pr ≤ 10000)
    (y : ∀ t a, 1 ≤ t → t ≤ 60 → a ≤ 19 → x1 = nI t → x2 = nI a → g_cheap x1 x2 x3 → ∀ h', XI h h' P_ch → K (q_cheap (fun a => cn (min a 19)) pr t a x3) h') (n : ¬ g_cheap x1 x2 x3 → K (-1) h) : cm_ci sc (d + 4) 111 [.ref 0, .int x1, .int x2, .int x3] h K := by
  refine ci_of rfl (s111_0 x1 x2 x3 (c_in (fun q1 => ?_) (fun q => s111_7 x1 x2 x3 0 (br_t rfl (ai (n fun g => q g.1))))))
  refine s111_7 x1 x2 x3 1 (br_f (by decide) (c_in (fun q2 => ?_) (fun q => s111_17 x1 x2 x3 0 (br_t rfl (ai (n fun g => q g.2.1))))))
  refine s111_17 x1 x2 x3 1 (br_f (by decide) (c_in (fun q3 => ?_) (fun q => s111_26 L x1 x2 x3 0 (br_f (by decide) (ai (n fun g => q g.2.2))))))
  obtain ⟨t, ht, ht2, rfl⟩ := (in_nI 1 60 rfl rfl (by decide) (by decide)).mp q1
  obtain ⟨a, -, ha, rfl⟩ := (in_nI 0 19 rfl rfl (by decide) (by decide)).mp q2
  refine s111_26 L _ _ x3 1 (br_t (by decide) (c_weigh L hco hcn hp hpr ht ht2 ha (fun h' X e3 e4 => ?_)))
  have k := y t a ht ht2 ha rfl rfl ⟨q1, q2, q3⟩ h' X
  have hL := q_L_le (g := q_G (fun a => cn (min a 19)) pr t) (co := fun a => cn (min a 19)) t 0 a
  unfold q_cheap at k
  refine s111_40 (X.ly L) _ _ x3 ⟨fun z => ?_, fun z => ai ?_⟩
  · rw [if_neg z] at k
    rw [e4]
    refine ⟨fun z2 => ai ?_, fun z2 => ai ?_⟩
    · rw [if_neg] at k
      · exact k
      · have := (nI_leI (by omega) (by omega)).mp z2
        omega
    · rw [if_pos] at k
      · exact k
      · rcases Nat.lt_or_ge (q_L (q_G (fun a => cn (min a 19)) pr t) (fun a => cn (min a 19)) t 0 a) t with z3 | z3
        · exact z3
        · exact absurd (nI_le z3 (by omega)) z2
  · rw [if_pos (Decidable.not_not.mp z)] at k
    rw [e3]; exact k
end CHEAP
