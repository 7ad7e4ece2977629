/-! ===== the class's reader: sign, fail, expect, number ===== -/
section CSIGN
variable {sc : cmS} {d : Nat} {h : cmH} {K : Int32 → cmH → Prop} {KV : cmH → Prop} {KJ : Int64 → cmH → Prop} {T : Nat → Nat} {n tb : Nat}
/-- the reader holds the text T of n bytes, in the chars tb -/
def RD (h : cmH) (T : Nat → Nat) (n tb : Nat) : Prop := cm_R h 9 1 = some tb ∧ cm_kd h tb = 12 ∧ tb < cm_n h ∧ tb ≠ 9 ∧ n ≤ cm_ln h tb ∧ cm_ln h tb < 2 ^ 31 ∧ cm_I h 9 2 = nI n ∧ n ≤ 160 ∧ ∀ k, k < n → cm_I h tb k = nI (T k) ∧ 0 < T k ∧ T k ≤ 255
def wI (w : Option Nat) : Int32 := match w with | none => -1 | some q => nI q
def RA (h : cmH) (n p : Nat) (w : Option Nat) : Prop := cm_I h 9 3 = nI p ∧ p ≤ n ∧ cm_I h 9 4 = wI w ∧ ∀ q, w = some q → q ≤ n
def P_r (x k : Nat) : Prop := x = 9 ∧ (k = 3 ∨ k = 4)
theorem nI_m {q : Nat} (hq : q < 2 ^ 31) : nI q ≠ -1 := fun e => by
  have := congrArg Int32.toInt e
  rw [nI_toInt hq] at this
  have e2 : (-1 : Int32).toInt = -1 := by decide
  omega
theorem wI_n {w : Option Nat} (hw : ∀ q, w = some q → q < 2 ^ 31) : wI w = -1 ↔ w = none := by
  cases w with
  | none => exact ⟨fun _ => rfl, fun _ => rfl⟩
  | some q => exact ⟨fun e => absurd e (nI_m (hw q rfl)), fun e => by cases e⟩
theorem RD.x {h' : cmH} (G : RD h T n tb) (X : XI h h' P_r) : RD h' T n tb := by
  obtain ⟨a, b, c, d, e, f, g, i, j⟩ := G
  have e1 := X.1
  have kd : cm_kd h' = cm_kd h := by rw [e1]; rfl
  have ln : cm_ln h' = cm_ln h := by rw [e1]; rfl
  have nn : cm_n h' = cm_n h := by rw [e1]; rfl
  refine ⟨by rw [X.R]; exact a, by rw [kd]; exact b, by rw [nn]; exact c, d, by rw [ln]; exact e, by rw [ln]; exact f, ?_, i, fun k hk => ?_⟩
  · rw [X.2 9 2 (by unfold P_r; omega)]; exact g
  · rw [X.2 tb k (by unfold P_r; omega)]; exact j k hk
theorem sg_le {p : Nat} {w : Option Nat} (hT : ∀ k, k < n → 0 < T k ∧ T k ≤ 255) : sg T n p w ≤ 255 := by
  unfold sg
  split
  · rename_i q; exact (hT _ q.2).2
  · omega
theorem RD.le {p : Nat} {w : Option Nat} (G : RD h T n tb) : sg T n p w ≤ 255 := sg_le fun k hk => (G.2.2.2.2.2.2.2.2 k hk).2
theorem c_sign {p : Nat} {w : Option Nat} (L : LY h) (G : RD h T n tb) (A : RA h n p w) (k : ∀ h', XI h h' P_r → RA h' n (sq T n p) w → K (nI (sg T n p w)) h') : cm_ci sc d 42 [.ref 9] h K := by
  have h160 : n ≤ 160 := G.2.2.2.2.2.2.2.1
  suffices gen : ∀ (m p : Nat) (h' : cmH), n - p ≤ m → XI h h' P_r → RA h' n p w → (∀ h', XI h h' P_r → RA h' n (sq T n p) w → K (nI (sg T n p w)) h') → cm_wp sc d 42 0 [some (.ref 9)] [] h' (fun v h' => ∃ x, v = some (.int x) ∧ K x h') from ci_of rfl (gen n p h (by omega) XI.refl A k)
  intro m
  induction m with
  | zero =>
    intro p h' hm X A k
    obtain ⟨a1, a2, a3, a4⟩ := A
    obtain ⟨g1, g2, g3, g4, g5, g6, g7, g8, g9⟩ := G.x X
    obtain rfl : p = n := by omega
    have eq : sq T p p = p := sq_stay (by omega)
    have es : sg T p p w = 0 := if_neg fun z => by rw [eq] at z; omega
    refine s42_0 (X.ly L) ⟨fun _ => ?_, fun _ => ⟨fun _ => ?_, fun z => absurd (by rw [a1, g7]; exact Int32.le_refl _) z⟩⟩
    all_goals
      refine s42_57 (X.ly L) ⟨fun _ => ai ?_, fun _ => ⟨fun _ => ai ?_, fun _ => ⟨fun _ => ai ?_, fun z => absurd (by rw [a1, g7]; exact Int32.le_refl _) z⟩⟩⟩
    all_goals
      have := k h' X (by rw [eq]; exact ⟨a1, a2, a3, a4⟩)
      rw [es] at this
      exact this
  | succ m ih =>
    intro p h' hm X A k
    obtain ⟨a1, a2, a3, a4⟩ := A
    obtain ⟨g1, g2, g3, g4, g5, g6, g7, g8, g9⟩ := G.x X
    have L' := X.ly L
    have np : ¬ cm_I h' 9 3 < 0 := by rw [a1]; exact nI_pos (by omega)
    by_cases hp : p < n
    case neg =>
      obtain rfl : p = n := by omega
      exact ih p h' (by omega) X ⟨a1, a2, a3, a4⟩ k
    have nl : ¬ (cm_I h' 9 2 ≤ cm_I h' 9 3) := by rw [a1, g7]; exact nI_ge hp (by omega)
    have nl2 : ¬ (Int32.ofNat (cm_ln h' tb)) ≤ cm_I h' 9 3 := by rw [a1]; exact nI_ge (by omega) g6
    have ek : cm_I h' tb (cm_I h' 9 3).toNatClampNeg = nI (T p) := by rw [a1, nI_clamp (by omega)]; exact (g9 p hp).1
    have ok : cm_ok h' 12 tb (cm_I h' 9 3) := ⟨g2, g3, np, by rw [a1, nI_clamp (by omega)]; omega⟩
    have hT := (g9 p hp).2
    refine s42_0 L' ⟨fun z => absurd z np, fun _ => ⟨fun z => absurd z nl, fun _ => ⟨tb, g1, ⟨by rw [g2]; decide, by rw [g2]; decide, g3⟩, fun z => absurd z nl2, fun _ => ⟨ok, fun z => ?_, fun z => ?_⟩⟩⟩⟩
    · rw [ek] at z
      have ne : T p ≠ 32 := fun e => z (by rw [e]; rfl)
      have eq : sq T n p = p := sq_stay (by omega)
      refine s42_57 L' ⟨fun z2 => ai ?_, fun z2 => ⟨fun z => absurd z np, fun _ => ⟨fun z => absurd z nl, fun _ => ⟨tb, g1, ⟨by rw [g2]; decide, by rw [g2]; decide, g3⟩, fun z => absurd z nl2, fun _ => ⟨ok, ?_, ai ?_⟩⟩⟩⟩⟩
      · have wn : w ≠ none := fun e => z2 (by rw [a3, e]; rfl)
        have := k h' X (by rw [eq]; exact ⟨a1, a2, a3, a4⟩)
        rw [show sg T n p w = 0 from if_neg fun q => wn q.1] at this
        exact this
      · rw [ek]; exact ⟨nI_pos' (by omega), nI_le (b := 65535) (by omega) (by decide)⟩
      · have wn : w = none := (wI_n fun q e => by have := a4 q e; omega).mp (by rw [← a3]; exact Decidable.not_not.mp z2)
        have := k h' X (by rw [eq]; exact ⟨a1, a2, a3, a4⟩)
        rw [show sg T n p w = T p by unfold sg; rw [eq]; exact if_pos ⟨wn, hp⟩] at this
        rw [ek]; exact this
    · rw [ek] at z
      have e32 : T p = 32 := nI_inj (by omega) (by decide) (Decidable.not_not.mp z)
      have eq := sq_next hp e32
      refine ih (p + 1) _ (by omega) (X.set ⟨rfl, Or.inl rfl⟩) ⟨by rw [sI_s, a1, nI_1], by omega, by rw [sI_o (Or.inr (by decide))]; exact a3, a4⟩ (fun h2 X2 A2 => ?_)
      have := k h2 X2 (by rw [eq]; exact A2)
      rw [show sg T n p w = sg T n (p + 1) w by unfold sg; rw [eq]] at this
      exact this
theorem c_fail {p : Nat} {w : Option Nat} (L : LY h) (A : RA h n p w) (hn : n ≤ 160) (k : ∀ h', XI h h' P_r → RA h' n p (fl w p) → KV h') : cm_cv sc d 43 [.ref 9] h KV := by
  obtain ⟨a1, a2, a3, a4⟩ := A
  have iff := wI_n (w := w) fun q e => by have := a4 q e; omega
  refine cv_of rfl (s43_0 L ⟨fun z => ⟨rfl, ?_⟩, fun z => ⟨rfl, ?_⟩⟩)
  · cases w with
    | none => exact absurd a3 z
    | some q => exact k h XI.refl ⟨a1, a2, a3, a4⟩
  · have e : w = none := iff.mp (by rw [← a3]; exact Decidable.not_not.mp z)
    subst e
    exact k _ (XI.refl.set ⟨rfl, Or.inr rfl⟩) ⟨by rw [sI_o (Or.inr (by decide))]; exact a1, a2, by rw [sI_s]; exact a1, fun q e => by cases e; exact a2⟩
theorem c_expect {r : PR} {c : Nat} (L : LY h) (G : RD h T n tb) (A : RA h n r.1 r.2.1) (hc : 0 < c) (hc2 : c < 128) (k : ∀ h', XI h h' P_r → RA h' n (exq T n r c).1 (exq T n r c).2.1 → KV h') : cm_cv sc (d + 1) 44 [.ref 9, .int (nI c)] h KV := by
  have h160 : n ≤ 160 := G.2.2.2.2.2.2.2.1
  have hle := G.le (p := r.1) (w := r.2.1)
  refine cv_of rfl (s44_0 L _ (c_sign L G A fun h1 X1 A1 => s44_4 (X1.ly L) _ _ ⟨fun z => ?_, fun z => s44_25 _ ⟨rfl, ?_⟩⟩))
  · have ne : ¬ sg T n r.1 r.2.1 = c := fun e => z (by rw [e])
    refine c_fail (X1.ly L) A1 h160 (fun h2 X2 A2 => s44_25 _ ⟨rfl, k h2 (X1.trans X2) ?_⟩)
    unfold exq; rw [if_neg ne]; exact A2
  · have e : sg T n r.1 r.2.1 = c := nI_inj (by omega) (by omega) (Decidable.not_not.mp z)
    have hl := (sg_lt e hc).1
    refine k _ (X1.set ⟨rfl, Or.inl rfl⟩) ?_
    unfold exq; rw [if_pos e]
    exact ⟨by rw [sI_s, A1.1, nI_1], by show sq T n r.1 + 1 ≤ n; omega, by rw [sI_o (Or.inr (by decide))]; exact A1.2.2.1, A1.2.2.2⟩
theorem c_number {p : Nat} (L : LY h) (G : RD h T n tb) (A : RA h n p none) (k : ∀ h', XI h h' P_r → RA h' n (nu T n 6 0 p 0).1 (if (nu T n 6 0 p 0).2.1 then none else some (nu T n 6 0 p 0).1) → KJ (lN (nu T n 6 0 p 0).2.2) h') : cm_cj' sc (d + 1) 49 [.ref 9] h KJ := by
  have h160 : n ≤ 160 := G.2.2.2.2.2.2.2.1
  suffices gen : ∀ (m i p v : Nat) (h' : cmH) (u : Option Value), i + m = 5 → XI h h' P_r → RA h' n p none → (∀ h', XI h h' P_r → RA h' n (nu T n (m + 1) i p v).1 (if (nu T n (m + 1) i p v).2.1 then none else some (nu T n (m + 1) i p v).1) → KJ (lN (nu T n (m + 1) i p v).2.2) h') → cm_wp sc (d + 1) 49 4 [some (.ref 9), some (.long (lN v)), none, some (.int (nI i)), u] [] h' (fun v h' => ∃ x, v = some (.long x) ∧ KJ x h') from cj_of rfl (s49_0 _ _ _ _ (gen 5 0 p 0 h _ rfl XI.refl A k))
  intro m
  induction m with
  | zero =>
    intro i p v h' u hm X A k
    obtain rfl : i = 5 := by omega
    obtain ⟨a1, a2, a3, a4⟩ := A
    obtain ⟨g1, g2, g3, g4, g5, g6, g7, g8, g9⟩ := G.x X
    have np : ¬ cm_I h' 9 3 < 0 := by rw [a1]; exact nI_pos (by omega)
    unfold nu at k
    by_cases hp : p < n
    · have nl : ¬ (cm_I h' 9 2 ≤ cm_I h' 9 3) := by rw [a1, g7]; exact nI_ge hp (by omega)
      have nl2 : ¬ (Int32.ofNat (cm_ln h' tb)) ≤ cm_I h' 9 3 := by rw [a1]; exact nI_ge (by omega) g6
      have ek : cm_I h' tb (cm_I h' 9 3).toNatClampNeg = nI (T p) := by rw [a1, nI_clamp (by omega)]; exact (g9 p hp).1
      have hT := (g9 p hp).2
      refine s49_4 (X.ly L) _ _ _ ⟨fun z => absurd z np, fun _ => ⟨fun z => absurd z nl, fun _ => ⟨tb, g1, ⟨by rw [g2]; decide, by rw [g2]; decide, g3⟩, fun z => absurd z nl2, fun _ => ⟨⟨g2, g3, np, by rw [a1, nI_clamp (by omega)]; omega⟩, ?_⟩⟩⟩⟩
      rw [ek]
      refine ⟨fun z => aj ?_, fun z => ⟨fun z2 => ⟨fun z3 => absurd z3 (by decide), fun _ => c_fail (X.ly L) ⟨a1, a2, a3, a4⟩ h160 (fun h2 X2 A2 => s49_70 _ _ _ (aj ?_))⟩, fun z2 => aj ?_⟩⟩
      · rw [if_neg (fun q => absurd z (Int32.not_lt.mpr (nI_le (a := 48) (by omega) (by omega))))] at k
        exact k h' X ⟨a1, a2, a3, a4⟩
      · have q1 : 48 ≤ T p := by
          rcases Nat.lt_or_ge (T p) 48 with y | y
          · exact absurd ((Int32.lt_iff_toInt_lt).mpr (by rw [nI_toInt (by omega)]; show ((T p : Nat) : Int) < 48; omega)) z
          · exact y
        have q2 : T p ≤ 57 := by
          rcases Nat.lt_or_ge 57 (T p) with y | y
          · exact absurd z2 (nI_ge (a := 57) y (by omega))
          · exact y
        rw [if_pos ⟨hp, q1, q2⟩, if_neg (by omega)] at k
        exact k h2 (X.trans X2) A2
      · rw [if_neg (fun q => absurd (nI_le (b := 57) q.2.2 (by decide)) z2)] at k
        exact k h' X ⟨a1, a2, a3, a4⟩
    · rw [if_neg (fun q => hp q.1)] at k
      obtain rfl : p = n := by omega
      exact s49_4 (X.ly L) _ _ _ ⟨fun z => absurd z np, fun _ => ⟨fun _ => aj (k h' X ⟨a1, a2, a3, a4⟩), fun z => absurd (by rw [a1, g7]; exact Int32.le_refl _) z⟩⟩
  | succ m ih =>
    intro i p v h' u hm X A k
    obtain ⟨a1, a2, a3, a4⟩ := A
    obtain ⟨g1, g2, g3, g4, g5, g6, g7, g8, g9⟩ := G.x X
    have np : ¬ cm_I h' 9 3 < 0 := by rw [a1]; exact nI_pos (by omega)
    rw [nu] at k
    by_cases hp : p < n
    · have nl : ¬ (cm_I h' 9 2 ≤ cm_I h' 9 3) := by rw [a1, g7]; exact nI_ge hp (by omega)
      have nl2 : ¬ (Int32.ofNat (cm_ln h' tb)) ≤ cm_I h' 9 3 := by rw [a1]; exact nI_ge (by omega) g6
      have ek : cm_I h' tb (cm_I h' 9 3).toNatClampNeg = nI (T p) := by rw [a1, nI_clamp (by omega)]; exact (g9 p hp).1
      have hT := (g9 p hp).2
      refine s49_4 (X.ly L) _ _ _ ⟨fun z => absurd z np, fun _ => ⟨fun z => absurd z nl, fun _ => ⟨tb, g1, ⟨by rw [g2]; decide, by rw [g2]; decide, g3⟩, fun z => absurd z nl2, fun _ => ⟨⟨g2, g3, np, by rw [a1, nI_clamp (by omega)]; omega⟩, ?_⟩⟩⟩⟩
      rw [ek]
      have q1 : ∀ z : ¬ nI (T p) < 48, 48 ≤ T p := fun z => by
        rcases Nat.lt_or_ge (T p) 48 with y | y
        · exact absurd ((Int32.lt_iff_toInt_lt).mpr (by rw [nI_toInt (by omega)]; show ((T p : Nat) : Int) < 48; omega)) z
        · exact y
      have q2 : ∀ z2 : nI (T p) ≤ 57, T p ≤ 57 := fun z2 => by
        rcases Nat.lt_or_ge 57 (T p) with y | y
        · exact absurd z2 (nI_ge (a := 57) y (by omega))
        · exact y
      refine ⟨fun z => aj ?_, fun z => ⟨fun z2 => ⟨fun z3 => ?_, fun z3 => c_fail (X.ly L) ⟨a1, a2, a3, a4⟩ h160 (fun h2 X2 A2 => s49_70 _ _ _ (aj ?_))⟩, fun z2 => aj ?_⟩⟩
      · rw [if_neg (fun q => absurd z (Int32.not_lt.mpr (nI_le (a := 48) (by omega) (by omega))))] at k
        exact k h' X ⟨a1, a2, a3, a4⟩
      · have i4 : i < 4 := by
          rcases Nat.lt_or_ge i 4 with y | y
          · exact y
          · exact absurd z3 (Int32.not_lt.mpr (nI_le (a := 4) y (by omega)))
        rw [if_pos ⟨hp, q1 z, q2 z2⟩, if_pos i4] at k
        have ev : (10 : Int64) * lN v + (nI (T p) - 48).toInt64 = lN (10 * v + (T p - 48)) := by
          have := q1 z
          have e : nI (T p) - 48 = nI (T p - 48) := by
            obtain ⟨t, ht⟩ : ∃ t, T p = t + 48 := ⟨T p - 48, by omega⟩
            rw [ht, Nat.add_sub_cancel]
            show nI (t + 48) - nI 48 = nI t
            rw [← nI_add, Int32.add_sub_cancel]
          rw [e, nI_l (by omega)]
          show lN 10 * lN v + _ = _
          rw [lN_mul, lN_add]
        rw [ev, a1, nI_1, nI_1]
        exact ih (i + 1) (p + 1) _ _ _ (by omega) (X.set ⟨rfl, Or.inl rfl⟩) ⟨by rw [sI_s], by omega, by rw [sI_o (Or.inr (by decide))]; exact a3, a4⟩ k
      · have i4 : ¬ i < 4 := fun y => z3 ((Int32.lt_iff_toInt_lt).mpr (by rw [nI_toInt (by omega)]; show ((i : Nat) : Int) < 4; omega))
        rw [if_pos ⟨hp, q1 z, q2 z2⟩, if_neg i4] at k
        exact k h2 (X.trans X2) A2
      · rw [if_neg (fun q => absurd (nI_le (b := 57) q.2.2 (by decide)) z2)] at k
        exact k h' X ⟨a1, a2, a3, a4⟩
    · rw [if_neg (fun q => hp q.1)] at k
      obtain rfl : p = n := by omega
      exact s49_4 (X.ly L) _ _ _ ⟨fun z => absurd z np, fun _ => ⟨fun _ => aj (k h' X ⟨a1, a2, a3, a4⟩), fun z => absurd (by rw [a1, g7]; exact Int32.le_refl _) z⟩⟩
end CSIGN
