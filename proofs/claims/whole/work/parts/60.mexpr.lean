/-! ===== the reference's number, opens, closes, atom, term, sum ===== -/
section MEXPR
variable {sc : cmS} {T : Nat → Nat} {n : Nat} {d : Nat} {h : cmH} {KV : cmH → Prop} {K : Int32 → cmH → Prop}
def P_s (x k : Nat) : Prop := x = 38 ∧ 30 ≤ k ∧ k ≤ 33
theorem ps_pm {x k : Nat} (q : P_s x k) : P_m x k := Or.inl q
theorem m_digit {c : Nat} (hc : c ≤ 255) (t : 48 ≤ c ∧ c ≤ 57 → K 1 h) (f : ¬ (48 ≤ c ∧ c ≤ 57) → K 0 h) : cm_ci sc d 170 [.int (nI c)] h K := by
  refine ci_of rfl (s170_0 _ ⟨fun z => ai (f fun q => absurd z (Int32.not_lt.mpr (nI_le (a := 48) q.1 (by omega)))), fun z => ⟨fun z2 => ai (f fun q => absurd z2 (Int32.not_lt.mpr (nI_le (b := 57) q.2 (by decide)))), fun z2 => ai (t ⟨?_, ?_⟩)⟩⟩)
  · rcases Nat.lt_or_ge c 48 with y | y
    · exact absurd ((Int32.lt_iff_toInt_lt).mpr (by rw [nI_toInt (by omega)]; show ((c : Nat) : Int) < 48; omega)) z
    · exact y
  · rcases Nat.lt_or_ge 57 c with y | y
    · exact absurd ((Int32.lt_iff_toInt_lt).mpr (by rw [nI_toInt (by omega)]; show (57 : Int) < ((c : Nat) : Int); omega)) z2
    · exact y
theorem lk_c {p : Nat} (G : RM h T n) : (lk T n p = nI (sg T n p none) ∧ 0 < sg T n p none ∧ sg T n p none ≤ 255) ∨ (lk T n p = -1 ∧ sg T n p none = 0) := by
  unfold lk sg
  by_cases y : sq T n p < n
  · rw [if_pos y, if_pos ⟨rfl, y⟩]
    exact Or.inl ⟨rfl, (G.2.2.2 _ y).2⟩
  · rw [if_neg y, if_neg (fun z => y z.2)]
    exact Or.inr ⟨rfl, rfl⟩
theorem m_digit_lk {p : Nat} (G : RM h T n) (t : 48 ≤ sg T n p none ∧ sg T n p none ≤ 57 → K 1 h) (f : ¬ (48 ≤ sg T n p none ∧ sg T n p none ≤ 57) → K 0 h) : cm_ci sc d 170 [.int (lk T n p)] h K := by
  rcases lk_c (p := p) G with ⟨e, h1, h2⟩ | ⟨e, e0⟩
  · rw [e]; exact m_digit h2 t f
  · rw [e]
    exact ci_of rfl (s170_0 _ ⟨fun _ => ai (f (by omega)), fun z => absurd (by decide) z⟩)
theorem m_letter_lk {p : Nat} (G : RM h T n) (t : isL (sg T n p none) → K 1 h) (f : ¬ isL (sg T n p none) → K 0 h) : cm_ci sc d 168 [.int (lk T n p)] h K := by
  have iff := fun c (h1 : 0 < c) (h2 : c < 256) => RM.lk (p := p) G h1 h2
  refine ci_of rfl (s168_0 _ ⟨fun z => s168_36 _ (ai (t (Or.inl ((iff 112 (by decide) (by decide)).mp z)))), fun z1 => ⟨fun z => s168_36 _ (ai (t (Or.inr (Or.inl ((iff 104 (by decide) (by decide)).mp z))))), fun z2 => ⟨fun z => s168_36 _ (ai (t (Or.inr (Or.inr (Or.inl ((iff 111 (by decide) (by decide)).mp z)))))), fun z3 => ⟨fun z => s168_36 _ (ai (t (Or.inr (Or.inr (Or.inr (Or.inl ((iff 105 (by decide) (by decide)).mp z))))))), fun z4 => ⟨fun z => s168_36 _ (ai (t (Or.inr (Or.inr (Or.inr (Or.inr (Or.inl ((iff 110 (by decide) (by decide)).mp z)))))))), fun z5 => ⟨fun z6 => ai (f ?_), fun z => s168_36 _ (ai (t (Or.inr (Or.inr (Or.inr (Or.inr (Or.inr ((iff 107 (by decide) (by decide)).mp (Decidable.not_not.mp z)))))))))⟩⟩⟩⟩⟩⟩)
  rintro (q | q | q | q | q | q)
  · exact z1 ((iff 112 (by decide) (by decide)).mpr q)
  · exact z2 ((iff 104 (by decide) (by decide)).mpr q)
  · exact z3 ((iff 111 (by decide) (by decide)).mpr q)
  · exact z4 ((iff 105 (by decide) (by decide)).mpr q)
  · exact z5 ((iff 110 (by decide) (by decide)).mpr q)
  · exact z6 ((iff 107 (by decide) (by decide)).mpr q)
theorem m_sign_lk {p : Nat} (G : RM h T n) (t : (sg T n p none = 61 ∨ sg T n p none = 60 ∨ sg T n p none = 62) → K 1 h) (f : ¬ (sg T n p none = 61 ∨ sg T n p none = 60 ∨ sg T n p none = 62) → K 0 h) : cm_ci sc d 171 [.int (lk T n p)] h K := by
  have iff := fun c (h1 : 0 < c) (h2 : c < 256) => RM.lk (p := p) G h1 h2
  refine ci_of rfl (s171_0 _ ⟨fun z => s171_18 _ (ai (t (Or.inl ((iff 61 (by decide) (by decide)).mp z)))), fun z1 => ⟨fun z => s171_18 _ (ai (t (Or.inr (Or.inl ((iff 60 (by decide) (by decide)).mp z))))), fun z2 => ⟨fun z3 => ai (f ?_), fun z => s171_18 _ (ai (t (Or.inr (Or.inr ((iff 62 (by decide) (by decide)).mp (Decidable.not_not.mp z))))))⟩⟩⟩)
  rintro (q | q | q)
  · exact z1 ((iff 61 (by decide) (by decide)).mpr q)
  · exact z2 ((iff 60 (by decide) (by decide)).mpr q)
  · exact z3 ((iff 62 (by decide) (by decide)).mpr q)
def mK (h : cmH) (n dep p s : Nat) (r : PR) (KV : cmH → Prop) : Prop := (∀ h', XI h h' P_m → r.2.1 = none → MA h' r.1 dep (s + r.2.2.length) → SY h h' s r.2.2 → KV h') ∧ ∀ h' q, XI h h' P_m → r.2.1 = some q → MD h' n dep q (s + 2 * (n - p)) → KV h'
def mC (sc : cmS) (T : Nat → Nat) (n M : Nat) (as : List Value) (k e N : Nat) : Prop := ∀ (d : Nat) (h : cmH) (KV : cmH → Prop) (dep p s : Nat), RM h T n → p ≤ n → MA h p dep s → dep ≤ 6 → 3 * (6 - dep) + e ≤ d → 16 * (n - p) + rk k < N → s + 2 * (n - p) ≤ 410 → mK h n dep p s (pp T n N k dep p none) KV → cm_cv sc d M as h KV
theorem X_lk {h h' : cmH} (X : XI h h' (fun x k => x = 38 ∧ k = 30)) : XI h h' P_s := X.mono fun x k q => ⟨q.1, by omega, by omega⟩
theorem MA.lk {h h' : cmH} {p q dep s : Nat} (A : MA h p dep s) (X : XI h h' (fun x k => x = 38 ∧ k = 30)) (e : cm_I h' 38 30 = nI q) : MA h' q dep s := ⟨e, by rw [X.2 38 31 (by omega)]; exact A.2.1, by rw [X.2 38 32 (by omega)]; exact A.2.2.1, by rw [X.2 38 33 (by omega)]; exact A.2.2.2⟩
/-- a fault at q, told now -/
theorem MD.mk {h : cmH} {q dep s S B : Nat} (A : MA h q dep s) (hq : q ≤ n) (hs : s ≤ S) : MD (cm_setI h 38 31 (nI q)) n B q S := ⟨sI_s, hq, q, s, by rw [sI_o (Or.inr (by decide))]; exact A.1, by omega, by rw [sI_o (Or.inr (by decide))]; exact A.2.2.2, hs⟩
/-- say, twice over, as a heap -/
theorem m_say2 {s : Nat} {x y : Nat} {p dep : Nat} {h1 : cmH} (G : RM h T n) (X : XI h h1 P_s) (A : MA h1 p dep s) (hs : s + 2 ≤ 420) {w1 w2 : cmH → Prop} (a1 : ∀ h', XI h h' P_m → MA h' p dep (s + 2) → SY h h' s [x, y] → w2 h') (k1 : ∀ h', LY h' → cm_cv sc d 162 [.ref 38, .int (nI y)] h' w2 → w1 h') : cm_cv sc d 162 [.ref 38, .int (nI x)] h1 w1 := by
  have L1 : LY h1 := X.ly G.1
  refine m_say L1 A.2.2.2 (by omega) (k1 _ L1.s.s (m_say L1.s.s sI_s (by omega) (a1 _ ?_ ⟨?_, ?_, ?_, sI_s⟩ ⟨fun j hj => ?_, fun j z hj => ?_⟩)))
  · exact ((((X.mono fun x k q => ps_pm q).set (Or.inr rfl)).set (Or.inl ⟨rfl, by decide, by decide⟩)).set (Or.inr rfl)).set (Or.inl ⟨rfl, by decide, by decide⟩)
  · rw [sI_o (Or.inr (by decide)), sI_o (Or.inl (by decide)), sI_o (Or.inr (by decide)), sI_o (Or.inl (by decide))]; exact A.1
  · rw [sI_o (Or.inr (by decide)), sI_o (Or.inl (by decide)), sI_o (Or.inr (by decide)), sI_o (Or.inl (by decide))]; exact A.2.1
  · rw [sI_o (Or.inr (by decide)), sI_o (Or.inl (by decide)), sI_o (Or.inr (by decide)), sI_o (Or.inl (by decide))]; exact A.2.2.1
  · rw [sI_o (Or.inl (by decide)), sI_o (Or.inr (by omega)), sI_o (Or.inl (by decide)), sI_o (Or.inr (by omega)), X.2 62 j (by unfold P_s; omega)]
  · rw [sI_o (Or.inl (by decide))]
    match j, hj with
    | 0, hj =>
      cases hj
      show cm_I (cm_setI (cm_setI (cm_setI h1 62 s (nI x)) 38 33 (nI (s + 1))) 62 (s + 1) (nI y)) 62 s = nI x
      rw [sI_o (Or.inr (by omega)), sI_o (Or.inl (by decide)), sI_s]
    | 1, hj => cases hj; rw [sI_s]
    | j + 2, hj => cases hj
theorem nI_tm (a b : Nat) : nI a * nI b = nI (a * b) := (Int32.ofNat_mul a b).symm
theorem m_number {q dep s S : Nat} (G : RM h T n) (hq : q ≤ n) (eq : sq T n q = q) (A : MA h q dep s) (hs : s + 2 ≤ 420) (hS : s ≤ S) (k0 : ¬ (48 ≤ sg T n q none ∧ sg T n q none ≤ 57) → ∀ h', XI h h' P_m → MD h' n dep q S → KV h') (k1 : (48 ≤ sg T n q none ∧ sg T n q none ≤ 57) → (nu T n 6 0 q 0).2.1 = true → ∀ h', XI h h' P_m → MA h' (nu T n 6 0 q 0).1 dep (s + 2) → SY h h' s [0, (nu T n 6 0 q 0).2.2] → KV h') (k2 : (48 ≤ sg T n q none ∧ sg T n q none ≤ 57) → (nu T n 6 0 q 0).2.1 = false → ∀ h', XI h h' P_m → MD h' n dep (nu T n 6 0 q 0).1 S → KV h') : cm_cv sc (d + 2) 169 [.ref 38] h KV := by
  have h160 := G.2.2.1
  refine cv_of rfl (s169_0 G.1 _ _ (m_lk G hq A.1 fun h1 X1 e1 => ?_))
  rw [eq] at e1
  have G1 := G.x ((X_lk X1).mono fun x k q => ps_pm q)
  have A1 := A.lk X1 e1
  refine s169_4 _ _ _ (m_digit_lk G1 (fun dg => ?_) (fun dg => ?_))
  case refine_2 =>
    refine s169_7 G1.1 _ _ _ ⟨fun z => absurd rfl z, fun _ => m_bad G1.1 A1.1 A1.2.1 (s169_14 _ _ ⟨rfl, k0 dg _ ?_ (MD.mk A1 hq hS)⟩)⟩
    exact ((X_lk X1).set ⟨rfl, by decide, by decide⟩).mono fun x k q => ps_pm q
  refine s169_7 G1.1 _ _ _ ⟨fun _ => ?_, fun z => absurd (by decide) z⟩
  have kk1 := k1 dg
  have kk2 := k2 dg
  -- the end of a number
  have fin : ∀ (p v : Nat) (h' : cmH), XI h h' P_s → MA h' p dep s → (∀ h2, XI h h2 P_m → MA h2 p dep (s + 2) → SY h h2 s [0, v] → KV h2) → ∀ x2 : Int32, cm_wp sc (d + 2) 169 89 [some (.ref 38), some (.int (nI v)), some (.int x2)] [] h' (fun v h' => v = none ∧ KV h') := by
    intro p v h' X A kk x2
    exact s169_89 (X.ly G.1) _ _ (m_say2 (x := 0) (y := v) G X A hs (fun h2 X2 A2 Y2 => s169_99 _ _ ⟨rfl, kk h2 X2 A2 Y2⟩) (fun h2 L2 w => s169_94 L2 _ _ w))
  have one : ∀ (m i p v : Nat) (h' : cmH), i ≤ 4 → p ≤ n → XI h h' P_s → MA h' p dep s → ((nu T n (m + 1) i p v).2.1 = true → ∀ h', XI h h' P_m → MA h' (nu T n (m + 1) i p v).1 dep (s + 2) → SY h h' s [0, (nu T n (m + 1) i p v).2.2] → KV h') → ((nu T n (m + 1) i p v).2.1 = false → ∀ h', XI h h' P_m → MD h' n dep (nu T n (m + 1) i p v).1 S → KV h') → (p < n → (48 ≤ T p ∧ T p ≤ 57) → i < 4 → cm_wp sc (d + 2) 169 19 [some (.ref 38), some (.int (nI (10 * v + (T p - 48)))), some (.int (nI (i + 1)))] [] (cm_setI h' 38 30 (nI (p + 1))) (fun v h' => v = none ∧ KV h')) → cm_wp sc (d + 2) 169 19 [some (.ref 38), some (.int (nI v)), some (.int (nI i))] [] h' (fun v h' => v = none ∧ KV h') := by
    intro m i p v h' hi hp X A k1 k2 nx
    have G' := G.x (X.mono fun x k q => ps_pm q)
    have e29 := G'.2.1
    rw [nu] at k1 k2
    by_cases hpn : p < n
    · have hT := G'.2.2.2 p hpn
      refine s169_19 G'.1 _ _ ⟨fun z => absurd z (by rw [e29, A.1]; exact nI_ge hpn (by omega)), fun _ => ⟨by rw [A.1]; exact ix_nI (by omega) (by decide), ?_⟩⟩
      rw [A.1, nI_clamp (by omega), hT.1]
      refine m_digit hT.2.2 (fun dg => s169_42 G'.1 _ _ _ ⟨fun z => absurd z (by decide), fun _ => ⟨fun z4 => ⟨by rw [A.1]; exact ix_nI (by omega) (by decide), ?_⟩, fun z4 => ?_⟩⟩) (fun dg => s169_42 G'.1 _ _ _ ⟨fun _ => ?_, fun z => absurd rfl z⟩)
      · have i4 : i < 4 := by
          rcases Nat.lt_or_ge i 4 with y | y
          · exact y
          · exact absurd (by rw [show i = 4 by omega]; rfl) z4
        rw [A.1, nI_clamp (by omega), hT.1, nI_1, nI_1]
        have ev : (10 : Int32) * nI v + nI (T p) - 48 = nI (10 * v + (T p - 48)) := by
          obtain ⟨t, ht⟩ : ∃ t, T p = t + 48 := ⟨T p - 48, by omega⟩
          rw [ht, Nat.add_sub_cancel]
          show nI 10 * nI v + nI (t + 48) - nI 48 = _
          rw [nI_tm, nI_add, ← Nat.add_assoc, ← nI_add, Int32.add_sub_cancel]
        rw [ev]
        exact nx hpn dg i4
      · have i4 : i = 4 := nI_inj (by omega) (by decide) (Decidable.not_not.mp z4)
        rw [if_pos ⟨hpn, dg⟩, if_neg (by omega)] at k2
        exact m_bad G'.1 A.1 A.2.1 (s169_54 _ _ ⟨rfl, k2 rfl _ ((X.set ⟨rfl, by decide, by decide⟩).mono fun x k q => ps_pm q) (MD.mk A hp hS)⟩)
      · rw [if_neg (fun q => dg q.2)] at k1
        exact fin p v h' X A (k1 rfl) _
    · rw [if_neg (fun q => hpn q.1)] at k1
      refine s169_19 G'.1 _ _ ⟨fun _ => fin p v h' X A (k1 rfl) _, fun z => absurd ?_ z⟩
      rw [e29, A.1]; exact nI_le (by omega) (by omega)
  suffices gen : ∀ (m i p v : Nat) (h' : cmH), i + m = 4 → p ≤ n → XI h h' P_s → MA h' p dep s → ((nu T n (m + 2) i p v).2.1 = true → ∀ h', XI h h' P_m → MA h' (nu T n (m + 2) i p v).1 dep (s + 2) → SY h h' s [0, (nu T n (m + 2) i p v).2.2] → KV h') → ((nu T n (m + 2) i p v).2.1 = false → ∀ h', XI h h' P_m → MD h' n dep (nu T n (m + 2) i p v).1 S → KV h') → cm_wp sc (d + 2) 169 19 [some (.ref 38), some (.int (nI v)), some (.int (nI i))] [] h' (fun v h' => v = none ∧ KV h') from gen 4 0 q 0 h1 rfl hq (X_lk X1) A1 kk1 kk2
  intro m
  induction m with
  | zero =>
    intro i p v h' hm hp X A k1 k2
    exact one 1 i p v h' (by omega) hp X A k1 k2 (fun _ _ y => absurd y (by omega))
  | succ m ih =>
    intro i p v h' hm hp X A k1 k2
    refine one (m + 2) i p v h' (by omega) hp X A k1 k2 (fun hpn dg y => ?_)
    rw [nu, if_pos ⟨hpn, dg⟩, if_pos y] at k1 k2
    exact ih (i + 1) (p + 1) _ _ (by omega) hpn (X.set ⟨rfl, by decide, by decide⟩) ⟨sI_s, by rw [sI_o (Or.inr (by decide))]; exact A.2.1, by rw [sI_o (Or.inr (by decide))]; exact A.2.2.1, by rw [sI_o (Or.inr (by decide))]; exact A.2.2.2⟩ k1 k2
theorem m_opens {q dep s : Nat} (L : LY h) (A : MA h q dep s) (hd : dep ≤ 6) (k1 : dep < 6 → ∀ h', XI h h' P_s → MA h' (q + 1) (dep + 1) s → K 1 h') (k2 : ¬ dep < 6 → K 0 (cm_setI h 38 31 (nI q))) : cm_ci sc (d + 1) 166 [.ref 38] h K := by
  refine ci_of rfl (s166_0 L ⟨fun z => ai ?_, fun z => ?_⟩)
  · rw [A.2.2.1] at z
    have h6 : dep < 6 := by
      rcases Nat.lt_or_ge dep 6 with y | y
      · exact y
      · exact absurd (by rw [show dep = 6 by omega]; rfl) z
    refine k1 h6 _ ((XI.refl.set ⟨rfl, by decide, by decide⟩).set ⟨rfl, by decide, by decide⟩) ⟨?_, ?_, ?_, ?_⟩
    · rw [sI_s]
      first
        | rw [sI_o (Or.inr (by decide)), A.1, nI_1]
        | rw [A.1, nI_1]
    · rw [sI_o (Or.inr (by decide)), sI_o (Or.inr (by decide))]; exact A.2.1
    · rw [sI_o (Or.inr (by decide)), sI_s, A.2.2.1, nI_1]
    · rw [sI_o (Or.inr (by decide)), sI_o (Or.inr (by decide))]; exact A.2.2.2
  · have e6 : nI dep = 6 := by rw [← A.2.2.1]; exact Decidable.not_not.mp z
    have h6 : dep = 6 := nI_inj (by omega) (by decide) e6
    exact m_bad L A.1 A.2.1 (s166_13 (ai (k2 (by omega))))
theorem m_closes {p dep s c : Nat} (G : RM h T n) (hp : p ≤ n) (A : MA h p (dep + 1) s) (hc : 0 < c) (hc2 : c < 128) (k1 : sg T n p none = c → ∀ h', XI h h' P_s → MA h' (sq T n p + 1) dep s → KV h') (k2 : ¬ sg T n p none = c → ∀ h', XI h h' P_s → cm_I h' 38 30 = nI (sq T n p + 1) → cm_I h' 38 31 = nI (sq T n p) → cm_I h' 38 33 = nI s → KV h') : cm_cv sc (d + 1) 167 [.ref 38, .int (nI c)] h KV := by
  refine cv_of rfl (s167_0 G.1 _ ⟨fun z => absurd A.2.1 z, fun _ => m_lk G hp A.1 fun h1 X1 e1 => ?_⟩)
  have G1 := G.x ((X_lk X1).mono fun x k q => ps_pm q)
  have A1 := A.lk X1 e1
  have iff := RM.lk (p := p) G hc (show c < 256 by omega)
  refine s167_12 G1.1 _ _ ⟨fun z => s167_20 G1.1 _ ⟨rfl, ?_⟩, fun z => m_bad G1.1 A1.1 A1.2.1 (s167_20 G1.1.s _ ⟨rfl, ?_⟩)⟩
  · refine k1 (iff.mp z) _ (((X_lk X1).set ⟨rfl, by decide, by decide⟩).set ⟨rfl, by decide, by decide⟩) ⟨?_, ?_, ?_, ?_⟩
    · rw [sI_o (Or.inr (by decide)), sI_s, A1.1, nI_1]
    · rw [sI_o (Or.inr (by decide)), sI_o (Or.inr (by decide))]; exact A1.2.1
    · rw [sI_s]
      first
        | rw [sI_o (Or.inr (by decide)), A1.2.2.1, nI_pred]
        | rw [A1.2.2.1, nI_pred]
    · rw [sI_o (Or.inr (by decide)), sI_o (Or.inr (by decide))]; exact A1.2.2.2
  · refine k2 (fun q => z (iff.mpr q)) _ ((((X_lk X1).set ⟨rfl, by decide, by decide⟩).set ⟨rfl, by decide, by decide⟩).set ⟨rfl, by decide, by decide⟩) ?_ ?_ ?_
    · rw [sI_o (Or.inr (by decide)), sI_s]
      first
        | rw [sI_o (Or.inr (by decide)), A1.1, nI_1]
        | rw [A1.1, nI_1]
    · rw [sI_o (Or.inr (by decide)), sI_o (Or.inr (by decide)), sI_s]
    · rw [sI_o (Or.inr (by decide)), sI_o (Or.inr (by decide)), sI_o (Or.inr (by decide))]; exact A1.2.2.2
/-- closes behind a fault -/
theorem m_closes_dead {dep q S : Nat} {x : Int32} (L : LY h) (h160 : n ≤ 160) (hd : dep < 6) (D : MD h n (dep + 1) q S) (k : ∀ h', XI h h' P_s → MD h' n dep q S → KV h') : cm_cv sc (d + 1) 167 [.ref 38, .int x] h KV := by
  obtain ⟨e1, hq, p, s, e2, hp, e3, hs⟩ := D
  refine cv_of rfl (s167_0 L _ ⟨fun _ => s167_20 L _ ⟨rfl, k _ ((XI.refl.set ⟨rfl, by decide, by decide⟩).set ⟨rfl, by decide, by decide⟩) ⟨?_, hq, p + 1, s, ?_, by omega, ?_, hs⟩⟩, fun z => absurd (by rw [e1]; exact nI_m (by omega)) z⟩)
  · rw [sI_o (Or.inr (by decide)), sI_o (Or.inr (by decide))]; exact e1
  · rw [sI_o (Or.inr (by decide)), sI_s, e2, nI_1]
  · rw [sI_o (Or.inr (by decide)), sI_o (Or.inr (by decide))]; exact e3
end MEXPR
