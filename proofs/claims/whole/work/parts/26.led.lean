/-! ===== led, digest, count ===== -/
section LED
variable {sc : cmS} {d : Nat} {h : cmH} {K : Int32 → cmH → Prop} {F : Nat} {C : Nat → Nat} {fa : Nat → Nat} {cc : Nat → Nat → Nat}
theorem c_filterI {KQ : Option Nat → cmH → Prop} {i : Nat} (L : LY h) (G : FS h F fa) (hi : i < F) (k : KQ (some (fa i)) h) : cm_cq sc (d + 1) 17 [.ref 0, .int (nI i)] h KQ :=
  c_filterAt L G (fun f hf e => by
    have := G.2.1
    have := nI_inj (a := i) (b := f) (by omega) (by omega) e
    subst this; exact k) (fun q => absurd rfl (q i hi))
theorem c_cellI {KQ : Option Nat → cmH → Prop} {a n i : Nat} {ca : Nat → Nat} (G : FC h a n ca) (hi : i < n) (k : KQ (some (ca i)) h) : cm_cq sc (d + 1) 23 [.ref a, .int (nI i)] h KQ :=
  c_cellNumber G (fun c hc e => by
    have := G.2.2.1
    have := nI_inj (a := i) (b := c) (by omega) (by omega) e
    subst this; exact k) (fun q => absurd rfl (q i hi))
theorem pick6 {x v0 v1 v2 v3 v4 v5 : Int32} {P : Int32 → Prop} (k : P (q_pick x [v0, v1, v2, v3, v4, v5] 0)) : (x = 0 → P v0) ∧ (x = 1 → P v1) ∧ (x = 2 → P v2) ∧ (x = 3 → P v3) ∧ (x = 4 → P v4) ∧ (x = 5 → P v5) ∧ (¬ x = 0 → ¬ x = 1 → ¬ x = 2 → ¬ x = 3 → ¬ x = 4 → ¬ x = 5 → P (-1)) := by
  refine ⟨?_, ?_, ?_, ?_, ?_, ?_, ?_⟩
  · rintro rfl; exact k
  · rintro rfl; exact k
  · rintro rfl; exact k
  · rintro rfl; exact k
  · rintro rfl; exact k
  · rintro rfl; exact k
  · intro q0 q1 q2 q3 q4 q5
    have e : q_pick x [v0, v1, v2, v3, v4, v5] 0 = -1 := by
      show (if x = 0 then v0 else if x = 1 then v1 else if x = 2 then v2 else if x = 3 then v3 else if x = 4 then v4 else if x = 5 then v5 else -1) = -1
      rw [if_neg q0, if_neg q1, if_neg q2, if_neg q3, if_neg q4, if_neg q5]
    rw [e] at k; exact k
theorem c_heldAll {s : Nat} (L : LY h) (G : FS h F fa) (GC : ∀ f, f < F → FC h (fa f) (C f) (cc f)) (hs : s < 8) (k : K (cm_sum (fun f => cm_I h (fa f + 2) s + cm_sum (fun c => cm_I h (cc f c + 1) s) (C f)) F) h) : cm_ci sc (d + 3) 127 [.ref 0, .int (nI s)] h K := by
  have h8 := G.2.1
  refine ci_of rfl (s127_0 _ _ _ _ ?_)
  have gen : ∀ (m i : Nat) (u : Option Value), i + m = F → cm_wp sc (d + 3) 127 4 [some (.ref 0), some (.int (nI s)), some (.int (cm_sum (fun f => cm_I h (fa f + 2) s + cm_sum (fun c => cm_I h (cc f c + 1) s) (C f)) i)), some (.int (nI i)), u] [] h (fun v h' => ∃ x, v = some (.int x) ∧ K x h') := by
    intro m
    induction m with
    | zero =>
      intro i u hi
      obtain rfl : i = F := by omega
      refine s127_4 L _ _ _ _ ⟨fun _ => ai k, fun q => absurd ?_ q⟩
      rw [G.1]; exact Int32.le_refl _
    | succ m ih =>
      intro i u hi
      refine s127_4 L _ _ _ _ ⟨fun q => absurd q ?_, fun _ => c_filterI L G (by omega) (s127_17 _ _ _ _ (some (fa i)) ⟨fun q => (by cases q), fun b eb => ?_⟩)⟩
      · rw [G.1]; exact nI_ge (by omega) (by omega)
      cases eb
      refine ⟨(GC i (by omega)).1, c_heldOfSize (GC i (by omega)) hs (s127_31 _ _ _ (some (fa i)) _ _ (s127_33 _ _ _ (some (fa i)) ?_))⟩
      rw [nI_1]; exact ih (i + 1) _ (by omega)
  exact gen F 0 _ (by omega)
theorem c_led {x1 x2 : Int32} (L : LY h) (G : FS h F fa) (GC : ∀ f, f < F → FC h (fa f) (C f) (cc f)) (t : ∀ s, s < 8 → x1 = nI s → K (q_pick x2 [cm_I h 15 s, cm_sum (fun f => cm_I h (fa f + 2) s + cm_sum (fun c => cm_I h (cc f c + 1) s) (C f)) F, cm_I h 16 s, cm_I h 17 s, cm_I h 18 s, cm_I h 19 s] 0) h) (n : (∀ s, s < 8 → x1 ≠ nI s) → K (-1) h) : cm_ci sc (d + 4) 126 [.ref 0, .int x1, .int x2] h K := by
  refine ci_of rfl (s126_0 x1 x2 (c_isSize (fun s hs e => ?_) (fun q => s126_4 L x1 x2 0 (br_f (by decide) (ai (n q))))))
  obtain ⟨p0, p1, p2, p3, p4, p5, p6⟩ := pick6 (P := fun y => K y h) (t s hs e)
  subst e
  have ix : IX 8 (nI s) := ix_nI hs (by decide)
  refine s126_4 L _ x2 1 (br_t (by decide) ?_)
  rw [nI_clamp (by omega)]
  exact ⟨fun z => ⟨ix, ai (p0 z)⟩, fun z => c_heldAll L G GC hs (s126_63 _ _ _ (ai (p1 z))), fun z => ⟨ix, ai (p2 z)⟩, fun z => ⟨ix, ai (p3 z)⟩, fun z => ⟨ix, ai (p4 z)⟩, fun z => ⟨ix, ai (p5 z)⟩, fun z0 z1 z2 z3 z4 z5 => ai (p6 z0 z1 z2 z3 z4 z5)⟩
theorem m_led {x1 x2 : Int32} (L : LY h) (G : MF (cm_I h) F C) (t : ∀ s, s < 8 → x1 = nI s → K (q_pick x2 [cm_I h 71 (6 * s), cm_sum (fun f => cm_I h 48 (8 * f + s) + cm_sum (fun c => cm_I h 46 (8 * (10 * f + c) + s)) (C f)) F, cm_I h 71 (6 * s + 2), cm_I h 71 (6 * s + 3), cm_I h 71 (6 * s + 4), cm_I h 71 (6 * s + 5)] 0) h) (n : (∀ s, s < 8 → x1 ≠ nI s) → K (-1) h) : cm_ci sc (d + 1) 201 [.ref 38, .int x1, .int x2] h K := by
  have h8 := G.2.1
  refine ci_of rfl (s201_0 x1 x2 _ _ _ (m_inN 0 7 (fun s _ hs e => ?_) (fun q => s201_7 x1 x2 _ _ _ 0 (br_t rfl (ai (n fun s hs => q s (by omega) (by omega)))))))
  obtain ⟨p0, p1, p2, p3, p4, p5, p6⟩ := pick6 (P := fun y => K y h) (t s (by omega) e)
  subst e
  refine s201_7 _ x2 _ _ _ 1 (br_f (by decide) (m_inN 0 5 (fun w _ hw e2 => ?_) (fun q => s201_16 L _ x2 _ _ _ 0 (br_f (by decide) (ai (p6 (q 0 (by omega) (by omega)) (q 1 (by omega) (by omega)) (q 2 (by omega) (by omega)) (q 3 (by omega) (by omega)) (q 4 (by omega) (by omega)) (q 5 (by omega) (by omega))))))))
  refine s201_16 L _ x2 _ _ _ 1 (br_t (by decide) ⟨fun z => ?_, fun z => ?_⟩)
  · have kk := p1 z
    have inner : ∀ (f : Nat), f < F → ∀ (m c : Nat) (a : Int32), c + m = C f → (∀ v : Option Value, cm_wp sc (d + 1) 201 43 [some (.ref 38), some (.int (nI s)), some (.int x2), some (.int (a + cm_sum (fun c => cm_I h 46 (8 * (10 * f + c) + s)) (C f))), some (.int (nI f + 1)), v] [] h (fun v h' => ∃ x, v = some (.int x) ∧ K x h')) → cm_wp sc (d + 1) 201 70 [some (.ref 38), some (.int (nI s)), some (.int x2), some (.int (a + cm_sum (fun c => cm_I h 46 (8 * (10 * f + c) + s)) c)), some (.int (nI f)), some (.int (nI c))] [] h (fun v h' => ∃ x, v = some (.int x) ∧ K x h') := by
      intro f hf m
      obtain ⟨hC, h10, -⟩ := G.2.2 f hf
      induction m with
      | zero =>
        intro c a hc kk
        obtain rfl : c = C f := by omega
        refine s201_70 L _ _ _ _ _ ⟨ix_nI (by omega) (by decide), fun _ => kk _, fun q => absurd ?_ q⟩
        rw [nI_clamp (by omega), hC]; exact Int32.le_refl _
      | succ m ih =>
        intro c a hc kk
        refine s201_70 L _ _ _ _ _ ⟨ix_nI (by omega) (by decide), fun q => absurd q ?_, fun _ => ?_⟩
        · rw [nI_clamp (by omega), hC]; exact nI_ge (by omega) (by omega)
        · rw [e80, nI_clamp (by omega), nI_1, Int32.add_assoc]
          exact ⟨ix_nI (by omega) (by decide), ih (c + 1) a (by omega) kk⟩
    have gen : ∀ (m i : Nat) (u : Option Value), i + m = F → cm_wp sc (d + 1) 201 43 [some (.ref 38), some (.int (nI s)), some (.int x2), some (.int (cm_sum (fun f => cm_I h 48 (8 * f + s) + cm_sum (fun c => cm_I h 46 (8 * (10 * f + c) + s)) (C f)) i)), some (.int (nI i)), u] [] h (fun v h' => ∃ x, v = some (.int x) ∧ K x h') := by
      intro m
      induction m with
      | zero =>
        intro i u hi
        obtain rfl : i = F := by omega
        refine s201_43 L _ _ _ _ _ ⟨fun _ => ai kk, fun q => absurd ?_ q⟩
        rw [G.1]; exact Int32.le_refl _
      | succ m ih =>
        intro i u hi
        refine s201_43 L _ _ _ _ _ ⟨fun q => absurd q ?_, fun _ => ⟨?_, ?_⟩⟩
        · rw [G.1]; exact nI_ge (by omega) (by omega)
        · rw [e8]; exact ix_nI (by omega) (by decide)
        · rw [e8, nI_clamp (by omega)]
          have := inner i (by omega) (C i) 0 (cm_sum (fun f => cm_I h 48 (8 * f + s) + cm_sum (fun c => cm_I h 46 (8 * (10 * f + c) + s)) (C f)) i + cm_I h 48 (8 * i + s)) (by omega) (fun v => by
            rw [nI_1, Int32.add_assoc]; exact ih (i + 1) v (by omega))
          rw [show cm_sum (fun c => cm_I h 46 (8 * (10 * i + c) + s)) 0 = 0 from rfl, Int32.add_zero] at this
          exact this
    exact gen F 0 _ (by omega)
  · subst e2
    refine ⟨?_, ai ?_⟩
    · rw [e6]; exact ix_nI (by omega) (by decide)
    · rw [e6, nI_clamp (by omega)]
      obtain rfl | rfl | rfl | rfl | rfl | rfl : w = 0 ∨ w = 1 ∨ w = 2 ∨ w = 3 ∨ w = 4 ∨ w = 5 := by omega
      · exact p0 rfl
      · exact absurd rfl z
      · exact p2 rfl
      · exact p3 rfl
      · exact p4 rfl
      · exact p5 rfl
/-! digest -/
def q_dg (v : Nat → Int32) : Nat → Nat → Int32 → Int32
  | 0, _, x => x
  | n + 1, i, x => q_dg v n (i + 1) (31 * x + v i)
def q_dg2 (v w : Nat → Int32) : Nat → Nat → Int32 → Int32
  | 0, _, x => x
  | n + 1, i, x => q_dg2 v w n (i + 1) (31 * (31 * x + v i) + w i)
def q_dgC (p : Nat → Int32) (v w : Nat → Nat → Int32) : Nat → Nat → Int32 → Int32
  | 0, _, x => x
  | n + 1, i, x => q_dgC p v w n (i + 1) (q_dg2 (v i) (w i) 8 0 (31 * x + p i))
def q_dgF (a b c : Nat → Int32) (ck : Nat → Nat → Int32) (C : Nat → Nat) (p : Nat → Nat → Int32) (v w : Nat → Nat → Nat → Int32) : Nat → Nat → Int32 → Int32
  | 0, _, x => x
  | n + 1, i, x => q_dgF a b c ck C p v w n (i + 1) (q_dgC (p i) (v i) (w i) (C i) 0 (q_dg (ck i) 8 0 (31 * (31 * (31 * x + a i) + b i) + c i)))
theorem c_digestOnto {a n : Nat} {ca : Nat → Nat} {x : Int32} (G : FC h a n ca) (k : K (q_dgC (fun c => cm_I h (ca c) 4) (fun c s => cm_I h (ca c + 1) s) (fun c s => cm_I h (ca c + 2) s) n 0 (q_dg (fun s => cm_I h (a + 2) s) 8 0 (31 * (31 * (31 * x + cm_I h a 8) + cm_I h a 9) + cm_I h a 10))) h) : cm_ci sc (d + 2) 129 [.ref a, .int x] h K := by
  have h10 := G.2.2.1
  refine ci_of rfl (s129_0 a x _ _ _ _ ⟨G.1, ?_⟩)
  have cells : ∀ (m i : Nat) (y : Int32) (u v : Option Value), i + m = n → K (q_dgC (fun c => cm_I h (ca c) 4) (fun c s => cm_I h (ca c + 1) s) (fun c s => cm_I h (ca c + 2) s) m i y) h → cm_wp sc (d + 2) 129 58 [some (.ref a), some (.int x), some (.int y), some (.int (nI i)), u, v] [] h (fun v h' => ∃ x, v = some (.int x) ∧ K x h') := by
    intro m
    induction m with
    | zero =>
      intro i y u v hi kk
      refine s129_58 a _ _ _ _ _ ⟨G.1, fun _ => ai kk, fun q => absurd ?_ q⟩
      rw [G.2.1]; exact nI_le (by omega) (by omega)
    | succ m ih =>
      intro i y u v hi kk
      refine s129_58 a _ _ _ _ _ ⟨G.1, fun q => absurd q ?_, fun _ => c_cellI G (by omega) (s129_71 a _ _ _ _ _ (some (ca i)) ⟨fun q => (by cases q), fun b eb => ?_⟩)⟩
      · rw [G.2.1]; exact nI_ge (by omega) (by omega)
      cases eb
      have E := (G.2.2.2 i (by omega)).2.1
      refine ⟨E, ?_⟩
      have sz : ∀ (m j : Nat) (z : Int32), j + m = 8 → K (q_dgC (fun c => cm_I h (ca c) 4) (fun c s => cm_I h (ca c + 1) s) (fun c s => cm_I h (ca c + 2) s) (n - (i + 1)) (i + 1) (q_dg2 (fun s => cm_I h (ca i + 1) s) (fun s => cm_I h (ca i + 2) s) m j z)) h → cm_wp sc (d + 2) 129 92 [some (.ref a), some (.int x), some (.int z), some (.int (nI i)), some (va_rf (some (ca i))), some (.int (nI j))] [] h (fun v h' => ∃ x, v = some (.int x) ∧ K x h') := by
        intro m2
        induction m2 with
        | zero =>
          intro j z hj kk
          obtain rfl : j = 8 := by omega
          refine s129_92 a _ _ _ _ _ ⟨fun _ => s129_133 a _ _ _ (some (ca i)) _ ?_, fun q => absurd (Int32.le_refl _) q⟩
          rw [nI_1]
          exact ih (i + 1) _ _ _ (by omega) (by rw [show m = n - (i + 1) by omega]; exact kk)
        | succ m2 ih2 =>
          intro j z hj kk
          refine s129_92 a _ _ _ _ _ ⟨fun q => absurd q (nI_ge (b := 8) (by omega) (by decide)), fun _ => ⟨ca i, rfl, E, ix_nI (by omega) (by decide), ?_⟩⟩
          rw [nI_1, nI_clamp (by omega)]
          exact ih2 (j + 1) _ (by omega) kk
      refine sz 8 0 _ (by omega) ?_
      rw [show n - (i + 1) = m by omega]
      exact kk
  have ck : ∀ (m i : Nat) (y : Int32) (u v : Option Value), i + m = 8 → K (q_dgC (fun c => cm_I h (ca c) 4) (fun c s => cm_I h (ca c + 1) s) (fun c s => cm_I h (ca c + 2) s) n 0 (q_dg (fun s => cm_I h (a + 2) s) m i y)) h → cm_wp sc (d + 2) 129 32 [some (.ref a), some (.int x), some (.int y), some (.int (nI i)), u, v] [] h (fun v h' => ∃ x, v = some (.int x) ∧ K x h') := by
    intro m
    induction m with
    | zero =>
      intro i y u v hi kk
      obtain rfl : i = 8 := by omega
      exact s129_32 a _ _ _ _ _ ⟨fun _ => cells n 0 _ _ _ (by omega) kk, fun q => absurd (Int32.le_refl _) q⟩
    | succ m ih =>
      intro i y u v hi kk
      refine s129_32 a _ _ _ _ _ ⟨fun q => absurd q (nI_ge (b := 8) (by omega) (by decide)), fun _ => ⟨G.1, ix_nI (by omega) (by decide), ?_⟩⟩
      rw [nI_1, nI_clamp (by omega)]
      exact ih (i + 1) _ _ _ (by omega) kk
  exact ck 8 0 _ _ _ (by omega) k
theorem c_digest (L : LY h) (G : FS h F fa) (GC : ∀ f, f < F → FC h (fa f) (C f) (cc f)) (k : K (q_dgF (fun f => cm_I h (fa f) 8) (fun f => cm_I h (fa f) 9) (fun f => cm_I h (fa f) 10) (fun f s => cm_I h (fa f + 2) s) C (fun f c => cm_I h (cc f c) 4) (fun f c s => cm_I h (cc f c + 1) s) (fun f c s => cm_I h (cc f c + 2) s) F 0 (217 + cm_I h 0 12)) h) : cm_ci sc (d + 3) 128 [.ref 0] h K := by
  have h8 := G.2.1
  refine ci_of rfl (s128_0 L _ _ _ ?_)
  have gen : ∀ (m i : Nat) (y : Int32) (u : Option Value), i + m = F → K (q_dgF (fun f => cm_I h (fa f) 8) (fun f => cm_I h (fa f) 9) (fun f => cm_I h (fa f) 10) (fun f s => cm_I h (fa f + 2) s) C (fun f c => cm_I h (cc f c) 4) (fun f c s => cm_I h (cc f c + 1) s) (fun f c s => cm_I h (cc f c + 2) s) m i y) h → cm_wp sc (d + 3) 128 11 [some (.ref 0), some (.int y), some (.int (nI i)), u] [] h (fun v h' => ∃ x, v = some (.int x) ∧ K x h') := by
    intro m
    induction m with
    | zero =>
      intro i y u hi kk
      refine s128_11 L _ _ _ ⟨fun _ => ai kk, fun q => absurd ?_ q⟩
      rw [G.1]; exact nI_le (by omega) (by omega)
    | succ m ih =>
      intro i y u hi kk
      refine s128_11 L _ _ _ ⟨fun q => absurd q ?_, fun _ => c_filterI L G (by omega) (s128_24 _ _ _ (some (fa i)) ⟨fun q => (by cases q), fun b eb => ?_⟩)⟩
      · rw [G.1]; exact nI_ge (by omega) (by omega)
      cases eb
      refine ⟨(GC i (by omega)).1, c_digestOnto (GC i (by omega)) (s128_34 _ _ (some (fa i)) _ (s128_35 _ _ (some (fa i)) ?_))⟩
      rw [nI_1]; exact ih (i + 1) _ _ (by omega) kk
  exact gen F 0 _ _ (by omega) k
theorem m_digest (L : LY h) (G : MF (cm_I h) F C) (k : K (q_dgF (fun f => cm_I h 52 f) (fun f => cm_I h 53 f) (fun f => cm_I h 54 f) (fun f s => cm_I h 48 (8 * f + s)) C (fun f c => cm_I h 43 (10 * f + c)) (fun f c s => cm_I h 46 (8 * (10 * f + c) + s)) (fun f c s => cm_I h 47 (8 * (10 * f + c) + s)) F 0 (217 + cm_I h 38 0)) h) : cm_ci sc d 202 [.ref 38] h K := by
  have h8 := G.2.1
  refine ci_of rfl (s202_0 L _ _ _ _ _ ?_)
  have gen : ∀ (m i : Nat) (y : Int32) (u v w : Option Value), i + m = F → K (q_dgF (fun f => cm_I h 52 f) (fun f => cm_I h 53 f) (fun f => cm_I h 54 f) (fun f s => cm_I h 48 (8 * f + s)) C (fun f c => cm_I h 43 (10 * f + c)) (fun f c s => cm_I h 46 (8 * (10 * f + c) + s)) (fun f c s => cm_I h 47 (8 * (10 * f + c) + s)) m i y) h → cm_wp sc d 202 11 [some (.ref 38), some (.int y), some (.int (nI i)), u, v, w] [] h (fun v h' => ∃ x, v = some (.int x) ∧ K x h') := by
    intro m
    induction m with
    | zero =>
      intro i y u v w hi kk
      refine s202_11 L _ _ _ _ _ ⟨fun _ => ai kk, fun q => absurd ?_ q⟩
      rw [G.1]; exact nI_le (by omega) (by omega)
    | succ m ih =>
      intro i y u v w hi kk
      obtain ⟨hC, h10, -⟩ := G.2.2 i (by omega)
      have ixi : IX 9 (nI i) := ix_nI (by omega) (by decide)
      refine s202_11 L _ _ _ _ _ ⟨fun q => absurd q ?_, fun _ => ⟨ixi, ?_⟩⟩
      · rw [G.1]; exact nI_ge (by omega) (by omega)
      rw [nI_clamp (by omega)]
      have cells : ∀ (m2 j : Nat) (z : Int32) (u v : Option Value), j + m2 = C i → K (q_dgF (fun f => cm_I h 52 f) (fun f => cm_I h 53 f) (fun f => cm_I h 54 f) (fun f s => cm_I h 48 (8 * f + s)) C (fun f c => cm_I h 43 (10 * f + c)) (fun f c s => cm_I h 46 (8 * (10 * f + c) + s)) (fun f c s => cm_I h 47 (8 * (10 * f + c) + s)) m (i + 1) (q_dgC (fun c => cm_I h 43 (10 * i + c)) (fun c s => cm_I h 46 (8 * (10 * i + c) + s)) (fun c s => cm_I h 47 (8 * (10 * i + c) + s)) m2 j z)) h → cm_wp sc d 202 88 [some (.ref 38), some (.int z), some (.int (nI i)), some (.int (nI j)), u, v] [] h (fun v h' => ∃ x, v = some (.int x) ∧ K x h') := by
        intro m2
        induction m2 with
        | zero =>
          intro j z u v hj kk
          refine s202_88 L _ _ _ _ _ ⟨ixi, fun _ => ?_, fun q => absurd ?_ q⟩
          · rw [nI_1]; exact ih (i + 1) _ _ _ _ (by omega) kk
          · rw [nI_clamp (by omega), hC]; exact nI_le (by omega) (by omega)
        | succ m2 ih2 =>
          intro j z u v hj kk
          refine s202_88 L _ _ _ _ _ ⟨ixi, fun q => absurd q ?_, fun _ => ⟨?_, ?_⟩⟩
          · rw [nI_clamp (by omega), hC]; exact nI_ge (by omega) (by omega)
          · rw [e10]; exact ix_nI (by omega) (by decide)
          rw [e10, nI_clamp (by omega)]
          have sz : ∀ (m3 l : Nat) (z : Int32) (v : Option Value), l + m3 = 8 → K (q_dgF (fun f => cm_I h 52 f) (fun f => cm_I h 53 f) (fun f => cm_I h 54 f) (fun f s => cm_I h 48 (8 * f + s)) C (fun f c => cm_I h 43 (10 * f + c)) (fun f c s => cm_I h 46 (8 * (10 * f + c) + s)) (fun f c s => cm_I h 47 (8 * (10 * f + c) + s)) m (i + 1) (q_dgC (fun c => cm_I h 43 (10 * i + c)) (fun c s => cm_I h 46 (8 * (10 * i + c) + s)) (fun c s => cm_I h 47 (8 * (10 * i + c) + s)) m2 (j + 1) (q_dg2 (fun s => cm_I h 46 (8 * (10 * i + j) + s)) (fun s => cm_I h 47 (8 * (10 * i + j) + s)) m3 l z))) h → cm_wp sc d 202 118 [some (.ref 38), some (.int z), some (.int (nI i)), some (.int (nI j)), some (.int (nI l)), v] [] h (fun v h' => ∃ x, v = some (.int x) ∧ K x h') := by
            intro m3
            induction m3 with
            | zero =>
              intro l z v hl kk
              obtain rfl : l = 8 := by omega
              refine s202_118 L _ _ _ _ _ ⟨fun _ => ?_, fun q => absurd (Int32.le_refl _) q⟩
              rw [nI_1]; exact ih2 (j + 1) _ _ _ (by omega) kk
            | succ m3 ih3 =>
              intro l z v hl kk
              refine s202_118 L _ _ _ _ _ ⟨fun q => absurd q (nI_ge (b := 8) (by omega) (by decide)), fun _ => ?_⟩
              rw [e80, nI_clamp (by omega), nI_1]
              exact ⟨ix_nI (by omega) (by decide), ih3 (l + 1) _ _ (by omega) kk⟩
          exact sz 8 0 _ _ (by omega) kk
      have ck : ∀ (m2 j : Nat) (z : Int32) (u v : Option Value), j + m2 = 8 → K (q_dgF (fun f => cm_I h 52 f) (fun f => cm_I h 53 f) (fun f => cm_I h 54 f) (fun f s => cm_I h 48 (8 * f + s)) C (fun f c => cm_I h 43 (10 * f + c)) (fun f c s => cm_I h 46 (8 * (10 * f + c) + s)) (fun f c s => cm_I h 47 (8 * (10 * f + c) + s)) m (i + 1) (q_dgC (fun c => cm_I h 43 (10 * i + c)) (fun c s => cm_I h 46 (8 * (10 * i + c) + s)) (fun c s => cm_I h 47 (8 * (10 * i + c) + s)) (C i) 0 (q_dg (fun s => cm_I h 48 (8 * i + s)) m2 j z))) h → cm_wp sc d 202 57 [some (.ref 38), some (.int z), some (.int (nI i)), some (.int (nI j)), u, v] [] h (fun v h' => ∃ x, v = some (.int x) ∧ K x h') := by
        intro m2
        induction m2 with
        | zero =>
          intro j z u v hj kk
          obtain rfl : j = 8 := by omega
          exact s202_57 L _ _ _ _ _ ⟨fun _ => cells (C i) 0 _ _ _ (by omega) kk, fun q => absurd (Int32.le_refl _) q⟩
        | succ m2 ih2 =>
          intro j z u v hj kk
          refine s202_57 L _ _ _ _ _ ⟨fun q => absurd q (nI_ge (b := 8) (by omega) (by decide)), fun _ => ?_⟩
          rw [e8, nI_clamp (by omega), nI_1]
          exact ⟨ix_nI (by omega) (by decide), ih2 (j + 1) _ _ _ (by omega) kk⟩
      exact ck 8 0 _ _ _ (by omega) kk
  exact gen F 0 _ _ _ _ (by omega) k
end LED
