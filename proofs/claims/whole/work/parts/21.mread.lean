/-! ===== the reference's readers: what each answers out of its rows I (by address: 42 cells, 43 pore, 44 firstPore, 45 take, 46 holds, 47 stuck, 48 cake, 49 press ..) ===== -/
theorem e10 (a i : Nat) : (10 : Int32) * nI a + nI i = nI (10 * a + i) := by rw [show (10 : Int32) = nI 10 from rfl, pk_mul, nI_add]
theorem e8 (a i : Nat) : (8 : Int32) * nI a + nI i = nI (8 * a + i) := by rw [show (8 : Int32) = nI 8 from rfl, pk_mul, nI_add]
theorem e6 (a i : Nat) : (6 : Int32) * nI a + nI i = nI (6 * a + i) := by rw [show (6 : Int32) = nI 6 from rfl, pk_mul, nI_add]
theorem e3 (a i : Nat) : (3 : Int32) * nI a + nI i = nI (3 * a + i) := by rw [show (3 : Int32) = nI 3 from rfl, pk_mul, nI_add]
theorem e80 (f c i : Nat) : (8 : Int32) * ((10 : Int32) * nI f + nI c) + nI i = nI (8 * (10 * f + c) + i) := by rw [e10, e8]
theorem e24 (t s w : Nat) : (3 : Int32) * ((8 : Int32) * nI t + nI s) + nI w = nI (3 * (8 * t + s) + w) := by rw [e8, e3]
def q_held (I : Nat → Nat → Int32) (f c : Nat) : Int32 := cm_sum (fun s => I 46 (8 * (10 * f + c) + s)) 8
def q_wOf (p t n : Int32) : Int32 := if 0 < p - n / t then p - n / t else 0
def q_width (I : Nat → Nat → Int32) (f c : Nat) : Int32 := q_wOf (I 43 (10 * f + c)) (I 45 (10 * f + c)) (q_held I f c)
def q_res (w : Int32) : Int32 := if w = 0 then -1 else if 1 < 10000 / w / w then 10000 / w / w else 1
/-- a sum that is none where one of its parts is -/
def q_sumN (r : Nat → Int32) : Nat → Nat → Int32 → Int32
  | 0, _, a => a
  | n + 1, i, a => if r i = -1 then -1 else q_sumN r n (i + 1) (a + r i)
def q_bed (I : Nat → Nat → Int32) (n f : Nat) : Int32 := q_sumN (fun c => q_res (q_width I f c)) n 0 0
def q_cake (I : Nat → Nat → Int32) (f : Nat) : Int32 := cm_sum (fun s => I 48 (8 * f + s)) 8
theorem q_sumN_congr {r r' : Nat → Int32} : ∀ (n i : Nat) (a : Int32), (∀ k, i ≤ k → k < i + n → r k = r' k) → q_sumN r n i a = q_sumN r' n i a
  | 0, _, _, _ => rfl
  | n + 1, i, a, q => by
    show (if r i = -1 then (-1 : Int32) else q_sumN r n (i + 1) (a + r i)) = if r' i = -1 then (-1 : Int32) else q_sumN r' n (i + 1) (a + r' i)
    rw [q i (by omega) (by omega), q_sumN_congr n (i + 1) _ (fun k h1 h2 => q k (by omega) (by omega))]
section MREAD
variable {sc : cmS} {d : Nat} {h : cmH} {K : Int32 → cmH → Prop}
theorem m_isF {x : Int32} {F : Nat} (L : LY h) (hF : cm_I h 38 24 = nI F) (hF8 : F ≤ 8) (t : ∀ f, f < F → x = nI f → K 1 h) (n : (∀ f, f < F → x ≠ nI f) → K 0 h) : cm_ci sc (d + 1) 140 [.ref 38, .int x] h K :=
  ci_of rfl (s140_0 L x (m_inL F hF (by omega) (fun j hj e => s140_11 x 1 ⟨Or.inr rfl, ai (t j hj e)⟩) (fun q => s140_11 x 0 ⟨Or.inl rfl, ai (n q)⟩)))
theorem m_heldIn (L : LY h) {f c : Nat} (hf : f < 9) (hc : c < 10) (k : K (q_held (cm_I h) f c) h) : cm_ci sc d 146 [.ref 38, .int (nI f), .int (nI c)] h K := by
  refine ci_of rfl (s146_0 _ _ _ _ ?_)
  refine up_ind (P := fun i => cm_wp sc d 146 5 [some (.ref 38), some (.int (nI f)), some (.int (nI c)), some (.int (cm_sum (fun s => cm_I h 46 (8 * (10 * f + c) + s)) i)), some (.int (nI i))] [] h _) (n := 8) ?_ ?_ 0 (by omega)
  · exact s146_5 L _ _ _ _ ⟨fun _ => ai k, fun q => absurd (Int32.le_refl _) q⟩
  · intro i hi ih
    refine s146_5 L _ _ _ _ ⟨fun q => absurd q (nI_ge (b := 8) hi (by decide)), fun _ => ⟨?_, ?_⟩⟩
    · rw [e80]; exact ix_nI (by omega) (by decide)
    · rw [e80, nI_clamp (by omega), nI_1]; exact ih
theorem m_widthOf {p t n : Int32} (ht : t ≠ 0) (k : K (q_wOf p t n) h) : cm_ci sc (d + 1) 147 [.int p, .int t, .int n] h K :=
  ci_of rfl (s147_0 p t n ⟨ht, ai k⟩)
theorem m_resistOf {w : Int32} (k : K (q_res w) h) : cm_ci sc (d + 1) 148 [.int w] h K := by
  refine ci_of rfl (s148_0 w ⟨fun q => ⟨q, ai ?_⟩, fun q => ai ?_⟩)
  · unfold q_res at k; rw [if_neg q] at k; exact k
  · unfold q_res at k; rw [if_pos (Decidable.not_not.mp q)] at k; exact k
theorem m_width (L : LY h) {f c : Nat} (hf : f < 9) (hc : c < 10) (ht : cm_I h 45 (10 * f + c) ≠ 0) (k : K (q_width (cm_I h) f c) h) : cm_ci sc (d + 2) 145 [.ref 38, .int (nI f), .int (nI c)] h K := by
  refine ci_of rfl (s145_0 L _ _ ⟨?_, m_heldIn L hf hc (s145_28 _ _ _ _ _ (m_widthOf ?_ (s145_31 _ _ _ (ai ?_))))⟩)
  · rw [e10]; exact ix_nI (by omega) (by decide)
  · rw [e10, nI_clamp (by omega)]; exact ht
  · rw [e10, nI_clamp (by omega)]; exact k
theorem m_cakeOf (L : LY h) {f : Nat} (hf : f < 9) (k : K (q_cake (cm_I h) f) h) : cm_ci sc d 149 [.ref 38, .int (nI f)] h K := by
  refine ci_of rfl (s149_0 _ _ _ ?_)
  refine up_ind (P := fun i => cm_wp sc d 149 4 [some (.ref 38), some (.int (nI f)), some (.int (cm_sum (fun s => cm_I h 48 (8 * f + s)) i)), some (.int (nI i))] [] h _) (n := 8) ?_ ?_ 0 (by omega)
  · exact s149_4 L _ _ _ ⟨fun _ => ai k, fun q => absurd (Int32.le_refl _) q⟩
  · intro i hi ih
    refine s149_4 L _ _ _ ⟨fun q => absurd q (nI_ge (b := 8) hi (by decide)), fun _ => ⟨?_, ?_⟩⟩
    · rw [e8]; exact ix_nI (by omega) (by decide)
    · rw [e8, nI_clamp (by omega), nI_1]; exact ih
theorem m_bed (L : LY h) {f n : Nat} (hf : f < 9) (hn : cm_I h 42 f = nI n) (hn10 : n ≤ 10) (ht : ∀ c, c < n → cm_I h 45 (10 * f + c) ≠ 0) (k : K (q_bed (cm_I h) n f) h) : cm_ci sc (d + 3) 144 [.ref 38, .int (nI f)] h K := by
  refine ci_of rfl (s144_0 _ _ _ _ ?_)
  have gen : ∀ (m i : Nat) (a : Int32) (u : Option Value), i + m = n → K (q_sumN (fun c => q_res (q_width (cm_I h) f c)) m i a) h → cm_wp sc (d + 3) 144 4 [some (.ref 38), some (.int (nI f)), some (.int a), some (.int (nI i)), u] [] h (fun v h' => ∃ x, v = some (.int x) ∧ K x h') := by
    intro m
    induction m with
    | zero =>
      intro i a u hi kk
      refine s144_4 L _ _ _ _ ⟨ix_nI hf (by decide), fun _ => ai kk, fun q => absurd ?_ q⟩
      rw [nI_clamp (by omega), hn]; exact nI_le (by omega) (by omega)
    | succ m ih =>
      intro i a u hi kk
      refine s144_4 L _ _ _ _ ⟨ix_nI hf (by decide), fun q => absurd q ?_, fun _ => ?_⟩
      · rw [nI_clamp (by omega), hn]; exact nI_ge (by omega) (by omega)
      refine m_width L hf (by omega) (ht i (by omega)) (s144_20 _ _ _ _ _ (m_resistOf (s144_23 _ _ _ _ _ ⟨fun q => ?_, fun q => ai ?_⟩)))
      · unfold q_sumN at kk
        rw [if_neg q] at kk
        rw [nI_1]
        exact ih (i + 1) _ _ (by omega) kk
      · unfold q_sumN at kk
        rw [if_pos (Decidable.not_not.mp q)] at kk
        exact kk
  exact gen n 0 0 _ (by omega) k
theorem m_isC {x y : Int32} {F : Nat} {C : Nat → Nat} (L : LY h) (hF : cm_I h 38 24 = nI F) (hF8 : F ≤ 8) (hC : ∀ f, f < 9 → cm_I h 42 f = nI (C f) ∧ C f ≤ 10) (t : ∀ f c, f < F → c < C f → x = nI f → y = nI c → K 1 h) (n : (∀ f c, f < F → c < C f → x = nI f → y ≠ nI c) → K 0 h) : cm_ci sc (d + 2) 151 [.ref 38, .int x, .int y] h K := by
  refine ci_of rfl (s151_0 L x y (m_isF L hF hF8 (fun f hf e => ?_) (fun q => ?_)))
  · subst e
    refine s151_5 L _ _ _ (br_f (by decide) ⟨ix_nI (by omega) (by decide), ?_⟩)
    rw [nI_clamp (by omega)]
    refine m_inL (C f) (hC f (by omega)).1 (by have := (hC f (by omega)).2; omega) (fun c hc e => s151_21 _ _ _ (br_f (by decide) (ai (t f c hf hc rfl e)))) (fun q => s151_21 _ _ _ (br_t rfl (ai (n ?_))))
    intro f2 c hf2 hc e
    have : f2 = f := by
      have := (nI_eq (a := f) (b := f2) (by omega) (by omega)).mp e
      omega
    subst this
    exact q c hc
  · refine s151_5 L _ _ _ (br_t rfl (ai (n fun f c hf hc e => absurd e (q f hf))))
end MREAD
