/-! ===== count; gauge, back, barred ===== -/
theorem pick10 {x v0 v1 v2 v3 v4 v5 v6 v7 v8 v9 : Int32} {P : Int32 → Prop} (k : P (q_pick x [v0, v1, v2, v3, v4, v5, v6, v7, v8, v9] 0)) : (x = 0 → P v0) ∧ (x = 1 → P v1) ∧ (x = 2 → P v2) ∧ (x = 3 → P v3) ∧ (x = 4 → P v4) ∧ (x = 5 → P v5) ∧ (x = 6 → P v6) ∧ (x = 7 → P v7) ∧ (x = 8 → P v8) ∧ (x = 9 → P v9) ∧ (¬ x = 0 → ¬ x = 1 → ¬ x = 2 → ¬ x = 3 → ¬ x = 4 → ¬ x = 5 → ¬ x = 6 → ¬ x = 7 → ¬ x = 8 → ¬ x = 9 → P (-1)) := by
  refine ⟨?_, ?_, ?_, ?_, ?_, ?_, ?_, ?_, ?_, ?_, ?_⟩
  · rintro rfl; exact k
  · rintro rfl; exact k
  · rintro rfl; exact k
  · rintro rfl; exact k
  · rintro rfl; exact k
  · rintro rfl; exact k
  · rintro rfl; exact k
  · rintro rfl; exact k
  · rintro rfl; exact k
  · rintro rfl; exact k
  · intro q0 q1 q2 q3 q4 q5 q6 q7 q8 q9
    have e : q_pick x [v0, v1, v2, v3, v4, v5, v6, v7, v8, v9] 0 = -1 := by
      show (if x = 0 then v0 else if x = 1 then v1 else if x = 2 then v2 else if x = 3 then v3 else if x = 4 then v4 else if x = 5 then v5 else if x = 6 then v6 else if x = 7 then v7 else if x = 8 then v8 else if x = 9 then v9 else -1) = -1
      rw [if_neg q0, if_neg q1, if_neg q2, if_neg q3, if_neg q4, if_neg q5, if_neg q6, if_neg q7, if_neg q8, if_neg q9]
    rw [e] at k; exact k
section GAUGE
variable {sc : cmS} {d : Nat} {h : cmH} {K : Int32 → cmH → Prop} {KV : cmH → Prop} {F : Nat} {C : Nat → Nat} {fa : Nat → Nat} {cc : Nat → Nat → Nat}
theorem c_thatRan (L : LY h) (G : FS h F fa) (GC : ∀ f, f < F → FL h (fa f)) (k : K (cm_sum (fun f => if cm_I h (fa f) 18 = 0 then 0 else 1) F) h) : cm_ci sc (d + 2) 131 [.ref 0] h K := by
  have h8 := G.2.1
  refine ci_of rfl (s131_0 _ _ _ ?_)
  have gen : ∀ (m i : Nat) (u : Option Value), i + m = F → cm_wp sc (d + 2) 131 4 [some (.ref 0), some (.int (cm_sum (fun f => if cm_I h (fa f) 18 = 0 then 0 else 1) i)), some (.int (nI i)), u] [] h (fun v h' => ∃ x, v = some (.int x) ∧ K x h') := by
    intro m
    induction m with
    | zero =>
      intro i u hi
      obtain rfl : i = F := by omega
      refine s131_4 L _ _ _ ⟨fun _ => ai k, fun q => absurd ?_ q⟩
      rw [G.1]; exact Int32.le_refl _
    | succ m ih =>
      intro i u hi
      refine s131_4 L _ _ _ ⟨fun q => absurd q ?_, fun _ => c_filterI L G (by omega) (s131_17 _ _ _ (some (fa i)) ⟨fun q => (by cases q), fun b eb => ?_⟩)⟩
      · rw [G.1]; exact nI_ge (by omega) (by omega)
      cases eb
      have e : cm_sum (fun f => if cm_I h (fa f) 18 = 0 then 0 else 1) (i + 1) = cm_sum (fun f => if cm_I h (fa f) 18 = 0 then 0 else 1) i + (if cm_I h (fa i) 18 = 0 then 0 else 1) := rfl
      have := ih (i + 1) (some (va_rf (some (fa i)))) (by omega)
      rw [e] at this
      refine ⟨GC i (by omega), fun q => s131_32 _ _ (some (fa i)) ?_, fun q => s131_32 _ _ (some (fa i)) ?_⟩
      · rw [if_pos q, Int32.add_zero] at this; rw [nI_1]; exact this
      · rw [if_neg q] at this; rw [nI_1]; exact this
  exact gen F 0 _ (by omega)
theorem c_thatAre {st : Int32} (L : LY h) (G : FS h F fa) (GC : ∀ f, f < F → FL h (fa f)) (k : K (cm_sum (fun f => if cm_I h (fa f) 8 = st then 1 else 0) F) h) : cm_ci sc (d + 2) 132 [.ref 0, .int st] h K := by
  have h8 := G.2.1
  refine ci_of rfl (s132_0 _ _ _ _ ?_)
  have gen : ∀ (m i : Nat) (u : Option Value), i + m = F → cm_wp sc (d + 2) 132 4 [some (.ref 0), some (.int st), some (.int (cm_sum (fun f => if cm_I h (fa f) 8 = st then 1 else 0) i)), some (.int (nI i)), u] [] h (fun v h' => ∃ x, v = some (.int x) ∧ K x h') := by
    intro m
    induction m with
    | zero =>
      intro i u hi
      obtain rfl : i = F := by omega
      refine s132_4 L _ _ _ _ ⟨fun _ => ai k, fun q => absurd ?_ q⟩
      rw [G.1]; exact Int32.le_refl _
    | succ m ih =>
      intro i u hi
      refine s132_4 L _ _ _ _ ⟨fun q => absurd q ?_, fun _ => c_filterI L G (by omega) (s132_17 _ _ _ _ (some (fa i)) ⟨fun q => (by cases q), fun b eb => ?_⟩)⟩
      · rw [G.1]; exact nI_ge (by omega) (by omega)
      cases eb
      have e : cm_sum (fun f => if cm_I h (fa f) 8 = st then 1 else 0) (i + 1) = cm_sum (fun f => if cm_I h (fa f) 8 = st then 1 else 0) i + (if cm_I h (fa i) 8 = st then 1 else 0) := rfl
      have := ih (i + 1) (some (va_rf (some (fa i)))) (by omega)
      rw [e] at this
      refine ⟨GC i (by omega), fun q => s132_36 _ _ _ (some (fa i)) ?_, fun q => s132_36 _ _ _ (some (fa i)) ?_⟩
      · rw [if_neg q, Int32.add_zero] at this; rw [nI_1]; exact this
      · rw [if_pos (Decidable.not_not.mp q)] at this; rw [nI_1]; exact this
  exact gen F 0 _ (by omega)
theorem c_count {x : Int32} (L : LY h) (G : FS h F fa) (GC : ∀ f, f < F → FL h (fa f)) (k : K (q_pick x [cm_I h 0 12, cm_I h 0 10, cm_sum (fun f => if cm_I h (fa f) 18 = 0 then 0 else 1) F, cm_sum (fun f => if cm_I h (fa f) 8 = 4 then 1 else 0) F, cm_sum (fun f => if cm_I h (fa f) 8 = 5 then 1 else 0) F, cm_I h 0 11, cm_I h 21 5, cm_I h 33 4, cm_I h 6 1, cm_I h 12 1] 0) h) : cm_ci sc (d + 3) 130 [.ref 0, .int x] h K := by
  obtain ⟨p0, p1, p2, p3, p4, p5, p6, p7, p8, p9, p10⟩ := pick10 (P := fun y => K y h) k
  exact ci_of rfl (s130_0 L x ⟨fun z => ai (p0 z), fun z => ai (p1 z), fun z => c_thatRan L G GC (s130_70 _ _ (ai (p2 z))), fun z => c_thatAre L G GC (s130_76 _ _ (ai (p3 z))), fun z => c_thatAre L G GC (s130_82 _ _ (ai (p4 z))), fun z => ai (p5 z), fun z => ai (p6 z), fun z => ai (p7 z), fun z => ai (p8 z), fun z => ai (p9 z), fun z0 z1 z2 z3 z4 z5 z6 z7 z8 z9 => ai (p10 z0 z1 z2 z3 z4 z5 z6 z7 z8 z9)⟩)
theorem m_count {x : Int32} (L : LY h) (G : MF (cm_I h) F C) (k : K (q_pick x [cm_I h 38 0, cm_I h 38 24, cm_sum (fun f => if cm_I h 59 f = 0 then 0 else 1) F, cm_sum (fun f => if cm_I h 52 f = 4 then 1 else 0) F, cm_sum (fun f => if cm_I h 52 f = 5 then 1 else 0) F, cm_I h 38 34, cm_I h 38 53, cm_I h 38 62, cm_I h 38 29, cm_I h 38 48] 0) h) : cm_ci sc d 221 [.ref 38, .int x] h K := by
  have h8 := G.2.1
  obtain ⟨p0, p1, p2, p3, p4, p5, p6, p7, p8, p9, p10⟩ := pick10 (P := fun y => K y h) k
  refine ci_of rfl (s221_0 _ _ _ _ _ ?_)
  have gen : ∀ (m i : Nat), i + m = F → cm_wp sc d 221 10 [some (.ref 38), some (.int x), some (.int (cm_sum (fun f => if cm_I h 59 f = 0 then 0 else 1) i)), some (.int (cm_sum (fun f => if cm_I h 52 f = 4 then 1 else 0) i)), some (.int (cm_sum (fun f => if cm_I h 52 f = 5 then 1 else 0) i)), some (.int (nI i))] [] h (fun v h' => ∃ x, v = some (.int x) ∧ K x h') := by
    intro m
    induction m with
    | zero =>
      intro i hi
      obtain rfl : i = F := by omega
      refine s221_10 L _ _ _ _ _ ⟨fun _ => ⟨fun z => ai (p0 z), fun z => ai (p1 z), fun z => ai (p2 z), fun z => ai (p3 z), fun z => ai (p4 z), fun z => ai (p5 z), fun z => ai (p6 z), fun z => ai (p7 z), fun z => ai (p8 z), fun z => ai (p9 z), fun z0 z1 z2 z3 z4 z5 z6 z7 z8 z9 => ai (p10 z0 z1 z2 z3 z4 z5 z6 z7 z8 z9)⟩, fun q => absurd ?_ q⟩
      rw [G.1]; exact Int32.le_refl _
    | succ m ih =>
      intro i hi
      have ix : IX 9 (nI i) := ix_nI (by omega) (by decide)
      have this := ih (i + 1) (by omega)
      have e1 : cm_sum (fun f => if cm_I h 59 f = 0 then 0 else 1) (i + 1) = cm_sum (fun f => if cm_I h 59 f = 0 then 0 else 1) i + (if cm_I h 59 i = 0 then 0 else 1) := rfl
      have e2 : cm_sum (fun f => if cm_I h 52 f = 4 then 1 else 0) (i + 1) = cm_sum (fun f => if cm_I h 52 f = 4 then 1 else 0) i + (if cm_I h 52 i = 4 then 1 else 0) := rfl
      have e3 : cm_sum (fun f => if cm_I h 52 f = 5 then 1 else 0) (i + 1) = cm_sum (fun f => if cm_I h 52 f = 5 then 1 else 0) i + (if cm_I h 52 i = 5 then 1 else 0) := rfl
      rw [e1, e2, e3, ← nI_1] at this
      have w74 : ∀ z : Int32, z = (if cm_I h 52 i = 5 then 1 else 0) → cm_wp sc d 221 74 [some (.ref 38), some (.int x), some (.int (cm_sum (fun f => if cm_I h 59 f = 0 then 0 else 1) i + (if cm_I h 59 i = 0 then 0 else 1))), some (.int (cm_sum (fun f => if cm_I h 52 f = 4 then 1 else 0) i + (if cm_I h 52 i = 4 then 1 else 0))), some (.int (cm_sum (fun f => if cm_I h 52 f = 5 then 1 else 0) i)), some (.int (nI i))] [.int z, .int (cm_sum (fun f => if cm_I h 52 f = 5 then 1 else 0) i)] h (fun v h' => ∃ x, v = some (.int x) ∧ K x h') := by
        rintro z rfl
        exact s221_74 _ _ _ _ _ _ _ this
      have w54 : ∀ z : Int32, z = (if cm_I h 52 i = 4 then 1 else 0) → cm_wp sc d 221 54 [some (.ref 38), some (.int x), some (.int (cm_sum (fun f => if cm_I h 59 f = 0 then 0 else 1) i + (if cm_I h 59 i = 0 then 0 else 1))), some (.int (cm_sum (fun f => if cm_I h 52 f = 4 then 1 else 0) i)), some (.int (cm_sum (fun f => if cm_I h 52 f = 5 then 1 else 0) i)), some (.int (nI i))] [.int z, .int (cm_sum (fun f => if cm_I h 52 f = 4 then 1 else 0) i)] h (fun v h' => ∃ x, v = some (.int x) ∧ K x h') := by
        rintro z rfl
        refine s221_54 L _ _ _ _ _ _ _ ⟨ix, fun q => w74 _ ?_, fun q => w74 _ ?_⟩
        · rw [nI_clamp (by omega)] at q; rw [if_neg q]
        · rw [nI_clamp (by omega)] at q; rw [if_pos (Decidable.not_not.mp q)]
      have w35 : ∀ z : Int32, z = (if cm_I h 59 i = 0 then 0 else 1) → cm_wp sc d 221 35 [some (.ref 38), some (.int x), some (.int (cm_sum (fun f => if cm_I h 59 f = 0 then 0 else 1) i)), some (.int (cm_sum (fun f => if cm_I h 52 f = 4 then 1 else 0) i)), some (.int (cm_sum (fun f => if cm_I h 52 f = 5 then 1 else 0) i)), some (.int (nI i))] [.int z, .int (cm_sum (fun f => if cm_I h 59 f = 0 then 0 else 1) i)] h (fun v h' => ∃ x, v = some (.int x) ∧ K x h') := by
        rintro z rfl
        refine s221_35 L _ _ _ _ _ _ _ ⟨ix, fun q => w54 _ ?_, fun q => w54 _ ?_⟩
        · rw [nI_clamp (by omega)] at q; rw [if_neg q]
        · rw [nI_clamp (by omega)] at q; rw [if_pos (Decidable.not_not.mp q)]
      refine s221_10 L _ _ _ _ _ ⟨fun q => absurd q ?_, fun _ => ⟨ix, fun q => w35 _ ?_, fun q => w35 _ ?_⟩⟩
      · rw [G.1]; exact nI_ge (by omega) (by omega)
      · rw [nI_clamp (by omega)] at q; rw [if_pos q]
      · rw [nI_clamp (by omega)] at q; rw [if_neg q]
  exact gen F 0 (by omega)
/-! gauge -/
def g_gauge (x3 x4 : Int32) : Prop := ¬ x3 < 1 ∧ ¬ 10000 < x4 ∧ x3 ≤ x4
theorem e10' (a i : Nat) : nI a * (10 : Int32) + nI i = nI (10 * a + i) := by rw [show (10 : Int32) = nI 10 from rfl, pk_mul, nI_add, Nat.mul_comm]
theorem c_gauge {x1 x2 x3 x4 : Int32} {R : Nat} (L : LY h) (G : FS h F fa) (GC : ∀ f, f < F → FC h (fa f) (C f) (cc f)) (hR : cm_I h 33 4 = nI R) (hR2 : R ≤ 100) (t : ∀ f c, f < F → c < C f → x1 = nI f → x2 = nI c → g_gauge x3 x4 → R < 100 → K (nI R) (cm_setI (cm_setI (cm_setI (cm_setI (cm_setI h 34 R (nI (10 * f + c))) 35 R x3) 36 R x4) 37 R (cm_I h 0 12)) 33 4 (nI (R + 1)))) (n : (∀ f c, f < F → c < C f → x1 = nI f → x2 = nI c → g_gauge x3 x4 → ¬ R < 100) → K (-1) h) : cm_ci sc (d + 3) 115 [.ref 0, .int x1, .int x2, .int x3, .int x4] h K := by
  refine ci_of rfl (s115_0 L x1 x2 x3 x4 (c_cellAt L G GC (fun f c hf hc e1 e2 => ?_) (fun q => s115_6 L x1 x2 x3 x4 none ⟨fun _ => ai (n fun f c hf hc e1 e2 => absurd e2 (q f c hf hc e1)), fun b eb => (by cases eb)⟩)))
  refine s115_6 L x1 x2 x3 x4 (some (cc f c)) ⟨fun q => (by cases q), fun b eb => ⟨fun z => ai (n fun f c hf hc e1 e2 g => absurd z g.1), fun z1 => ⟨fun z => ai (n fun f c hf hc e1 e2 g => absurd z g.2.1), fun z2 => ⟨fun z3 => ?_, fun z => ai (n fun f c hf hc e1 e2 g => absurd g.2.2 z)⟩⟩⟩⟩
  have tt := t f c hf hc e1 e2 ⟨z1, z2, z3⟩
  have nn : ¬ R < 100 → K (-1) h := fun z => n fun _ _ _ _ _ _ _ => z
  subst e1 e2
  rw [e10']
  refine ci_of rfl (s116_0 L _ _ _ _ ⟨fun q => absurd q (by rw [hR]; exact nI_pos (by omega)), fun _ => ⟨fun q => ?_, fun q => ⟨-1, rfl, s115_50 _ _ _ _ _ (ai (nn fun z => q ?_))⟩⟩⟩)
  · have hlt : R < 100 := by
      rcases Nat.lt_or_ge R 100 with z | z
      · exact z
      · exact absurd q (by rw [hR]; exact nI_nlt (b := 100) z (by omega))
    have k := tt hlt
    rw [hR, nI_clamp (by omega), show nI R + 1 = nI (R + 1) from nI_1 R, nI_pred]
    exact ⟨ix_nI hlt (by decide), nI R, rfl, s115_50 _ _ _ _ _ (ai k)⟩
  · rw [hR]; exact nI_lt (b := 100) z (by decide)
theorem m_gauge {x1 x2 x3 x4 : Int32} {R : Nat} (L : LY h) (G : MF (cm_I h) F C) (hR : cm_I h 38 62 = nI R) (hR2 : R ≤ 100) (t : ∀ f c, f < F → c < C f → x1 = nI f → x2 = nI c → g_gauge x3 x4 → R < 100 → K (nI R) (cm_setI (cm_setI (cm_setI (cm_setI (cm_setI h 83 R (nI (10 * f + c))) 84 R x3) 85 R x4) 86 R (cm_I h 38 0)) 38 62 (nI (R + 1)))) (n : (∀ f c, f < F → c < C f → x1 = nI f → x2 = nI c → g_gauge x3 x4 → ¬ R < 100) → K (-1) h) : cm_ci sc (d + 3) 215 [.ref 38, .int x1, .int x2, .int x3, .int x4] h K := by
  have b1 : ∀ x : Int32, ¬ x < 1 ↔ 1 ≤ x := fun x => Int32.not_lt
  have b2 : ∀ x : Int32, ¬ 10000 < x ↔ x ≤ 10000 := fun x => Int32.not_lt
  refine ci_of rfl (s215_0 L x1 x2 x3 x4 (m_isC' L G (fun f c hf hc e1 e2 => ?_) (fun q => s215_6 x1 x2 x3 x4 0 (br_t rfl (ai (n fun f c hf hc e1 e2 => absurd e2 (q f c hf hc e1)))))))
  refine s215_6 x1 x2 x3 x4 1 (br_f (by decide) (m_in (fun q1 => ?_) (fun q => s215_17 x1 x2 x3 x4 0 (br_t rfl (ai (n fun f c hf hc e1 e2 g => absurd ⟨(b1 _).mp g.1, Int32.le_trans g.2.2 ((b2 _).mp g.2.1)⟩ q))))))
  refine s215_17 x1 x2 x3 x4 1 (br_f (by decide) (m_in (fun q2 => ?_) (fun q => s215_29 L x1 x2 x3 x4 0 (br_t rfl (ai (n fun f c hf hc e1 e2 g => absurd ⟨g.2.2, (b2 _).mp g.2.1⟩ q))))))
  have tt := t f c hf hc e1 e2 ⟨(b1 _).mpr q1.1, (b2 _).mpr q2.2, q2.1⟩
  have nn : ¬ R < 100 → K (-1) h := fun z => n fun _ _ _ _ _ _ _ => z
  subst e1 e2
  refine s215_29 L _ _ _ _ 1 (br_f (by decide) ⟨fun q => ?_, fun q => ai (nn fun z => q fun e => ?_)⟩)
  · have hlt : R < 100 := by
      rcases Nat.lt_or_ge R 100 with z | z
      · exact z
      · exact absurd (by rw [hR, show R = 100 by omega]; rfl) q
    have k := tt hlt
    rw [hR, nI_clamp (by omega), show nI R + 1 = nI (R + 1) from nI_1 R, nI_pred, e10]
    exact ⟨ix_nI hlt (by decide), ai k⟩
  · rw [hR] at e
    have := nI_inj (a := R) (b := 100) (by omega) (by decide) e
    omega
end GAUGE
