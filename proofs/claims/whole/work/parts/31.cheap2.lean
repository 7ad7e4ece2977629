/-! ===== cheapest, of the reference ===== -/
section CHEAP2
variable {sc : cmS} {d : Nat} {h : cmH} {K : Int32 → cmH → Prop} {KV : cmH → Prop} {KJ : Int64 → cmH → Prop}
theorem e81 (a i : Nat) : (81 : Int32) * nI a + nI i = nI (81 * a + i) := by rw [show (81 : Int32) = nI 81 from rfl, pk_mul, nI_add]
/-- the heap h with other longs -/
abbrev wJ (h : cmH) (J : Nat → Nat → Int64) : cmH := cm_w h (cm_I h) J
theorem m_from {a k : Nat} {cn : Nat → Nat} {J : Nat → Nat → Int64} (L : LY h) (hco : ∀ i, i < 20 → cm_I h 81 i = nI (cn i)) (hcn : ∀ i, cn i ≤ 1000) (ha : a < 80) (hk : k < 60) (kk : KJ (lN (cn (min a 19)) + J 82 (81 * k + (a + 1))) (wJ h J)) : cm_cj' sc (d + 1) 214 [.ref 38, .int (nI (k + 1)), .int (nI a)] (wJ h J) KJ := by
  have e : (if nI a < (19 : Int32) then nI a else (19 : Int32)) = nI (min a 19) := by
    rw [show (19 : Int32) = nI 19 from rfl]
    by_cases q : a < 19
    · rw [if_pos (nI_lt q (by omega)), Nat.min_eq_left (by omega)]
    · rw [if_neg (nI_nlt (by omega) (by omega)), Nat.min_eq_right (by omega)]
  refine cj_of rfl (s214_0 (h := wJ h J) L _ _ ?_)
  rw [e, nI_pred, e81, nI_1, nI_clamp (by omega), nI_clamp (by omega)]
  refine ⟨ix_nI (by omega) (by decide), ix_nI (by omega) (by decide), aj ?_⟩
  rw [show cm_I (wJ h J) 81 (min a 19) = nI (cn (min a 19)) from hco _ (by omega), nI_l (by have := hcn (min a 19); omega)]
  exact kk
/-- the rows below k, and of row k the first a, hold the least sums -/
def q_rows (co : Nat → Nat) (pr : Nat) (J : Nat → Nat → Int64) (k a : Nat) : Prop := (∀ j i, j < k → j + i ≤ 80 → J 82 (81 * j + i) = lN (q_V co pr j i)) ∧ ∀ i, i < a → k + i ≤ 80 → J 82 (81 * k + i) = lN (q_V co pr k i)
theorem m_cheapest {x1 x2 x3 : Int32} {cn : Nat → Nat} {pr : Nat} (L : LY h) (hco : ∀ i, i < 20 → cm_I h 81 i = nI (cn i)) (hcn : ∀ i, cn i ≤ 1000) (hp : cm_I h 38 57 = nI pr) (hpr : pr ≤ 10000)
    (y : ∀ t a, 1 ≤ t → t ≤ 60 → a ≤ 19 → x1 = nI t → x2 = nI a → g_cheap x1 x2 x3 → ∀ J, K (q_cheap (fun a => cn (min a 19)) pr t a x3) (wJ h J)) (n : ¬ g_cheap x1 x2 x3 → K (-1) h) : cm_ci sc (d + 2) 213 [.ref 38, .int x1, .int x2, .int x3] h K := by
  have hV : ∀ k a, q_V (fun a => cn (min a 19)) pr k a ≤ 1000 * k := q_V_le (fun a => hcn _)
  refine ci_of rfl (s213_0 x1 x2 x3 _ _ (m_in (fun q1 => ?_) (fun q => s213_7 x1 x2 x3 _ _ 0 (br_t rfl (ai (n fun g => q g.1))))))
  refine s213_7 x1 x2 x3 _ _ 1 (br_f (by decide) (m_in (fun q2 => ?_) (fun q => s213_17 x1 x2 x3 _ _ 0 (br_t rfl (ai (n fun g => q g.2.1))))))
  refine s213_17 x1 x2 x3 _ _ 1 (br_f (by decide) (m_in (fun q3 => ?_) (fun q => s213_26 x1 x2 x3 _ _ 0 (br_f (by decide) (ai (n fun g => q g.2.2))))))
  obtain ⟨t, ht, ht2, rfl⟩ := (in_nI 1 60 rfl rfl (by decide) (by decide)).mp q1
  obtain ⟨a, -, ha, rfl⟩ := (in_nI 0 19 rfl rfl (by decide) (by decide)).mp q2
  have kk := y t a ht ht2 ha rfl rfl ⟨q1, q2, q3⟩
  clear y n
  refine s213_26 _ _ x3 _ _ 1 (br_t (by decide) ?_)
  -- the search for the first change
  have srch : ∀ (J : Nat → Nat → Int64), q_rows (fun a => cn (min a 19)) pr J (t + 1) 0 → ∀ (k : Nat) (u : Option Value), k ≤ t → K (if q_L (q_G (fun a => cn (min a 19)) pr t) (fun a => cn (min a 19)) k (t - k) (a + (t - k)) < t then nI (q_L (q_G (fun a => cn (min a 19)) pr t) (fun a => cn (min a 19)) k (t - k) (a + (t - k))) else -1) (wJ h J) → cm_wp sc (d + 2) 213 143 [some (.ref 38), some (.int (nI t)), some (.int (nI a)), some (.int x3), some (.int (nI k)), u] [] (wJ h J) (fun v h' => ∃ x, v = some (.int x) ∧ K x h') := by
    intro J hJ k
    induction k with
    | zero =>
      intro u hk q
      refine s213_143 (h := wJ h J) L _ _ _ _ _ ⟨fun _ => ai ?_, fun q => absurd (by decide) q⟩
      rw [if_neg (by show ¬ (t - 0 < t); omega)] at q
      exact q
    | succ k ih =>
      intro u hk q
      refine s213_143 (h := wJ h J) L _ _ _ _ _ ⟨fun q => absurd q (nI_nle (by omega) (by omega)), fun _ => ?_⟩
      rw [nI_add, pk_sub (by omega), show a + t - (k + 1) = a + (t - (k + 1)) by omega]
      refine m_from L hco hcn (by omega) (by omega) (s213_164 (h := wJ h J) L _ _ _ _ _ _ (m_from (a := 0) L hco hcn (by omega) (by omega) (s213_176 _ _ _ _ _ _ _ _ ?_)))
      rw [Nat.zero_add, hJ.1 k (a + (t - (k + 1)) + 1) (by omega) (by omega), hJ.1 k 1 (by omega) (by omega)]
      rw [show cm_I (wJ h J) 38 57 = nI pr from hp, nI_l (by omega), lN_add, lN_add, lN_add]
      have b1 := hV k (a + (t - (k + 1)) + 1)
      have b2 := hV k 1
      have b3 := hcn (min (a + (t - (k + 1))) 19)
      have b4 := hcn (min 0 19)
      have eU : q_U (q_G (fun a => cn (min a 19)) pr t) (fun a => cn (min a 19)) k (t - (k + 1) + 1) (a + (t - (k + 1)) + 1) = q_V (fun a => cn (min a 19)) pr k (a + (t - (k + 1)) + 1) := q_UV k _ _ (by omega)
      have eG : q_G (fun a => cn (min a 19)) pr t (t - (k + 1)) = pr + cn (min 0 19) + q_V (fun a => cn (min a 19)) pr k 1 := by
        unfold q_G
        rw [if_pos (by omega), show t - (t - (k + 1)) - 1 = k by omega]
      have eL : q_L (q_G (fun a => cn (min a 19)) pr t) (fun a => cn (min a 19)) (k + 1) (t - (k + 1)) (a + (t - (k + 1))) = if cn (min (a + (t - (k + 1))) 19) + q_V (fun a => cn (min a 19)) pr k (a + (t - (k + 1)) + 1) ≤ pr + cn (min 0 19) + q_V (fun a => cn (min a 19)) pr k 1 then q_L (q_G (fun a => cn (min a 19)) pr t) (fun a => cn (min a 19)) k (t - k) (a + (t - k)) else t - (k + 1) := by
        show (if cn (min (a + (t - (k + 1))) 19) + q_U _ _ k (t - (k + 1) + 1) (a + (t - (k + 1)) + 1) ≤ q_G _ pr t (t - (k + 1)) then q_L _ _ k (t - (k + 1) + 1) (a + (t - (k + 1)) + 1) else t - (k + 1)) = _
        rw [eU, eG, show t - (k + 1) + 1 = t - k by omega, show a + (t - (k + 1)) + 1 = a + (t - k) by omega]
      rw [eL] at q
      have cmp : ∀ m n : Nat, m < 2 ^ 31 → n < 2 ^ 31 → (lg_cmp (lN m) (lN n) ≤ 0 ↔ m ≤ n) := by
        intro m n hm hn
        unfold lg_cmp
        by_cases z : lN m > lN n
        · rw [if_pos z]
          have := (lN_lt hn hm).mp z
          exact ⟨fun y => absurd y (by decide), fun y => by omega⟩
        · rw [if_neg z]
          have : ¬ n < m := fun y => z ((lN_lt hn hm).mpr y)
          by_cases z2 : lN m = lN n
          · rw [if_pos z2]; exact ⟨fun _ => by omega, fun _ => by decide⟩
          · rw [if_neg z2]; exact ⟨fun _ => by omega, fun _ => by decide⟩
      rw [cmp _ _ (by omega) (by omega)]
      refine ⟨fun z => ?_, fun z => ai ?_⟩
      · have z' : cn (min (a + (t - (k + 1))) 19) + q_V (fun a => cn (min a 19)) pr k (a + (t - (k + 1)) + 1) ≤ pr + cn (min 0 19) + q_V (fun a => cn (min a 19)) pr k 1 := by omega
        rw [if_pos z'] at q
        rw [pk_m1]
        exact ih _ (by omega) q
      · have z' : ¬ cn (min (a + (t - (k + 1))) 19) + q_V (fun a => cn (min a 19)) pr k (a + (t - (k + 1)) + 1) ≤ pr + cn (min 0 19) + q_V (fun a => cn (min a 19)) pr k 1 := by omega
        rw [if_neg z', if_pos (by omega)] at q
        rw [pk_sub hk]
        exact q
  -- the rows
  have rows : ∀ (m k : Nat) (J : Nat → Nat → Int64) (u : Option Value), k + m = t → q_rows (fun a => cn (min a 19)) pr J (k + 1) 0 → cm_wp sc (d + 2) 213 58 [some (.ref 38), some (.int (nI t)), some (.int (nI a)), some (.int x3), some (.int (nI (k + 1))), u] [] (wJ h J) (fun v h' => ∃ x, v = some (.int x) ∧ K x h') := by
    intro m
    induction m with
    | zero =>
      intro k J u hk hJ
      obtain rfl : k = t := by omega
      have kJ := kk J
      unfold q_cheap at kJ
      refine s213_58 (h := wJ h J) L _ _ _ _ _ ⟨fun _ => ⟨fun z => ?_, fun z => ?_⟩, fun q => absurd (nI_lt (by omega) (by omega)) q⟩
      · rw [if_neg z] at kJ
        refine srch J hJ k u (Nat.le_refl _) ?_
        rw [show k - k = 0 by omega, Nat.add_zero]
        exact kJ
      · rw [if_pos (Decidable.not_not.mp z)] at kJ
        rw [e81, nI_clamp (by omega)]
        refine ⟨ix_nI (by omega) (by decide), ai ?_⟩
        rw [show cm_J (wJ h J) 82 (81 * k + a) = lN (q_V (fun a => cn (min a 19)) pr k a) from hJ.1 k a (by omega) (by omega), lN_i]
        exact kJ
    | succ m ih =>
      intro k J u hk hJ
      refine s213_58 (h := wJ h J) L _ _ _ _ _ ⟨fun q => absurd q (nI_nlt (by omega) (by omega)), fun _ => ?_⟩
      have inner : ∀ (m2 i : Nat) (J : Nat → Nat → Int64), i + m2 = 80 → q_rows (fun a => cn (min a 19)) pr J (k + 1) i → cm_wp sc (d + 2) 213 67 [some (.ref 38), some (.int (nI t)), some (.int (nI a)), some (.int x3), some (.int (nI (k + 1))), some (.int (nI i))] [] (wJ h J) (fun v h' => ∃ x, v = some (.int x) ∧ K x h') := by
        intro m2
        induction m2 with
        | zero =>
          intro i J hi hJ
          obtain rfl : i = 80 := by omega
          refine s213_67 (h := wJ h J) L _ _ _ _ _ ⟨fun _ => ?_, fun q => absurd (Int32.le_refl _) q⟩
          rw [nI_1]
          refine ih (k + 1) J _ (by omega) ⟨fun j i hj hi => ?_, fun i hi => absurd hi (by omega)⟩
          rcases Nat.lt_or_ge j (k + 1) with z | z
          · exact hJ.1 j i z hi
          · obtain rfl : j = k + 1 := by omega
            exact hJ.2 i (by omega) hi
        | succ m2 ih2 =>
          intro i J hi hJ
          refine s213_67 (h := wJ h J) L _ _ _ _ _ ⟨fun q => absurd q (nI_ge (b := 80) (by omega) (by decide)), fun _ => ?_⟩
          refine m_from L hco hcn (by omega) (by omega) (s213_94 (h := wJ h J) L _ _ _ _ _ _ _ (m_from (a := 0) L hco hcn (by omega) (by omega) (s213_106 (h := wJ h J) L _ _ _ _ _ _ _ _ _ ?_)))
          rw [e81, nI_clamp (by omega), nI_1]
          refine ⟨ix_nI (by omega) (by decide), ih2 (i + 1) (cm_u2 J 82 (81 * (k + 1) + i) _) (by omega) ⟨fun j i' hj hi' => ?_, fun i' hi' hk' => ?_⟩⟩
          · refine (u2_k (by omega)).trans (hJ.1 j i' hj hi')
          · rcases Nat.lt_or_ge i' i with z | z
            · exact (u2_k (by omega)).trans (hJ.2 i' z hk')
            · obtain rfl : i' = i := by omega
              refine u2_s.trans ?_
              rw [Nat.zero_add, hJ.1 k (i' + 1) (by omega) (by omega), hJ.1 k 1 (by omega) (by omega), show cm_I (wJ h J) 38 57 = nI pr from hp, nI_l (by omega), lN_add, lN_add, lN_add]
              have b1 := hV k (i' + 1)
              have b2 := hV k 1
              have b3 := hcn (min i' 19)
              have b4 := hcn (min 0 19)
              show _ = lN (min (cn (min i' 19) + q_V _ pr k (i' + 1)) (pr + cn (min 0 19) + q_V _ pr k 1))
              by_cases z : pr + (cn (min 0 19) + q_V (fun a => cn (min a 19)) pr k 1) < cn (min i' 19) + q_V (fun a => cn (min a 19)) pr k (i' + 1)
              · rw [if_pos ((lN_lt (by omega) (by omega)).mpr z)]; exact congrArg lN (by omega)
              · rw [if_neg (fun w => z ((lN_lt (by omega) (by omega)).mp w))]; exact congrArg lN (by omega)
      exact inner 80 0 J (by omega) hJ
  -- the row of no hours
  have zero : ∀ (m i : Nat) (J : Nat → Nat → Int64) (u : Option Value), i + m = 81 → (∀ j, j < i → J 82 j = 0) → cm_wp sc (d + 2) 213 34 [some (.ref 38), some (.int (nI t)), some (.int (nI a)), some (.int x3), some (.int (nI i)), u] [] (wJ h J) (fun v h' => ∃ x, v = some (.int x) ∧ K x h') := by
    intro m
    induction m with
    | zero =>
      intro i J u hi hJ
      obtain rfl : i = 81 := by omega
      refine s213_34 (h := wJ h J) L _ _ _ _ _ ⟨fun _ => rows t 0 J _ (by omega) ⟨fun j i hj hi => ?_, fun i hi => absurd hi (by omega)⟩, fun q => absurd (Int32.le_refl _) q⟩
      obtain rfl : j = 0 := by omega
      rw [hJ _ (by omega)]
      rfl
    | succ m ih =>
      intro i J u hi hJ
      refine s213_34 (h := wJ h J) L _ _ _ _ _ ⟨fun q => absurd q (nI_ge (b := 81) (by omega) (by decide)), fun _ => ⟨ix_nI (by omega) (by decide), ?_⟩⟩
      rw [nI_1, nI_clamp (by omega)]
      refine ih (i + 1) (cm_u2 J 82 i 0) _ (by omega) fun j hj => ?_
      rcases Nat.lt_or_ge j i with z | z
      · exact (u2_k (by omega)).trans (hJ j z)
      · obtain rfl : j = i := by omega
        exact u2_s
  exact zero 81 0 (cm_J h) _ (by omega) (fun j hj => absurd hj (by omega))
end CHEAP2
