/-! ===== the reference's work and worthBy ===== -/
section MWORTH
variable {sc : cmS} {d : Nat} {h : cmH} {K : Int32 → cmH → Prop} {lt : Nat → Int32}
theorem m_work {cs : List Nat} {v : Int32} {R t : Nat} (L : LY h) (E : EV lt cs v) (e : cm_I h 38 37 = nI R) (hR : R + cs.length < 5040) (hc : cs.length ≤ 398) (hcd : ∀ j x, cs[j]? = some x → cm_I h 63 (R + j) = nI x) (ht : cm_I h 63 (R + cs.length) = nI t) (ht2 : t = 2 ∨ t = 3) (hl : ∀ c, isL c → cm_I h 65 c = lt c) (k : ∀ h', XI h h' (P_ev 0) → cm_I h' 38 37 = nI (R + cs.length + 1) → K v h') : cm_ci sc (d + 3) 180 [.ref 38] h K := by
  refine ci_of rfl (s180_0 _ _ (E.2 sc d h _ R 0 _ L e hR (by omega) hcd hl (fun h' u' X hv hr => ?_)))
  have et : cm_I h' 63 (R + cs.length) = nI t := by rw [X.2 63 _ (by unfold P_ev; omega)]; exact ht
  have w : ∀ x1 u, cm_wp sc (d + 3) 180 174 [some (.ref 38), some (.int x1), u] [] h' (fun v h' => ∃ x, v = some (.int x) ∧ K x h') := fun x1 u => by
    refine s180_174 (X.ly L) _ _ ?_
    rw [hv, hr, nI_1]
    exact ai (k _ (X.set (Or.inr ⟨rfl, rfl⟩)) (by rw [sI_s]))
  refine s180_2 (X.ly L) _ _ ?_
  rw [hr, nI_clamp (by omega), et]
  rcases ht2 with rfl | rfl
  · exact ⟨ix_nI (by omega) (by decide), fun _ => w _ _, fun z => absurd rfl z⟩
  · exact ⟨ix_nI (by omega) (by decide), fun _ => w _ _, fun _ => ⟨fun _ => w _ _, fun z => absurd rfl z⟩⟩
def flat (c : CL) : List Nat := c.1 :: (c.2.1 ++ 2 :: (c.2.2 ++ [3]))
def flats : List CL → List Nat
  | [] => []
  | c :: r => flat c ++ flats r
theorem flat_len {c : CL} : (flat c).length = c.2.1.length + c.2.2.length + 3 := by
  unfold flat
  rw [List.length_cons, List.length_append, List.length_cons, List.length_append, List.length_singleton]; omega
theorem m_worthBy {t l : Nat} {cls : List CL} {v : Int32} (L : LY h) (ht : t < 12) (hlb : l < 256) (hs : cm_I h 64 t = nI (flats cls).length) (hs2 : (flats cls).length ≤ 398) (hcd : ∀ j x, (flats cls)[j]? = some x → cm_I h 63 (420 * t + j) = nI x) (hc : ∀ c, c ∈ cls → c.1 < 256) (hl : ∀ c, isL c → cm_I h 65 c = lt c) (W : WV lt l cls v) (k : ∀ h', XI h h' (P_ev 0) → K v h') : cm_ci sc (d + 4) 179 [.ref 38, .int (nI t), .int (nI l)] h K := by
  have e420 : (420 : Int32) * nI t = nI (420 * t) := nI_tm 420 t
  refine ci_of rfl (s179_0 L _ _ _ _ _ ?_)
  rw [e420]
  generalize hS : (flats cls).length = S at hs hs2
  suffices gen : ∀ (cls : List CL) (off : Nat) (h' : cmH) (u3 u4 u5 : Option Value), XI h h' (P_ev 0) → cm_I h' 38 37 = nI (420 * t + off) → off + (flats cls).length = S → (∀ j x, (flats cls)[j]? = some x → cm_I h 63 (420 * t + off + j) = nI x) → (∀ c, c ∈ cls → c.1 < 256) → WV lt l cls v → cm_wp sc (d + 4) 179 9 [some (.ref 38), some (.int (nI t)), some (.int (nI l)), u3, u4, u5] [] h' (fun v h' => ∃ x, v = some (.int x) ∧ K x h') from gen cls 0 _ _ _ _ (XI.refl.set (Or.inr ⟨rfl, rfl⟩)) sI_s (by omega) hcd hc W
  intro cls
  induction cls with
  | nil =>
    intro off h' u3 u4 u5 X er eo hcd hc W
    have L' := X.ly L
    have o0 : off = S := by rw [← eo]; rfl
    have v0 : v = 0 := W
    refine s179_9 L' _ _ _ _ _ ?_
    rw [e420, nI_clamp (by omega), X.2 64 t (by unfold P_ev; omega), hs, er, nI_add, o0]
    refine ⟨ix_nI ht (by decide), fun _ => ai ?_, fun z => absurd (Int32.le_refl _) z⟩
    rw [← v0]; exact k h' X
  | cons c r ih =>
    intro off h' u3 u4 u5 X er eo hcd hc W
    have L' := X.ly L
    obtain ⟨b, x, E1, E2, WW⟩ := W
    have ef : flats (c :: r) = flat c ++ flats r := rfl
    rw [ef, List.length_append, flat_len] at eo
    have hc1 := hc c (List.mem_cons_self ..)
    have code : ∀ (g : cmH), XI h g (P_ev 0) → ∀ j y, (flat c ++ flats r)[j]? = some y → cm_I g 63 (420 * t + off + j) = nI y := fun g Xg j y hj => by rw [Xg.2 63 _ (by unfold P_ev; omega)]; exact hcd j y hj
    have lets : ∀ (g : cmH), XI h g (P_ev 0) → ∀ c, isL c → cm_I g 65 c = lt c := fun g Xg c q => by rw [Xg.2 65 _ (by unfold P_ev; omega)]; exact hl c q
    have eF : flat c ++ flats r = c.1 :: (c.2.1 ++ (2 :: (c.2.2 ++ (3 :: flats r)))) := by
      unfold flat
      simp only [List.cons_append, List.append_assoc, List.nil_append]
    have w46 : ∀ y : Int32, (y = 0 ∨ y = 1) → (y = 1 ↔ c.1 = l) → cm_wp sc (d + 4) 179 46 [some (.ref 38), some (.int (nI t)), some (.int (nI l)), u3, u4, u5] [.int y] h' (fun v h' => ∃ x, v = some (.int x) ∧ K x h') := fun y hy hyl => by
      refine s179_46 L' _ _ _ _ _ _ ?_
      rw [er, nI_1]
      have X1 : XI h (cm_setI h' 38 37 (nI (420 * t + off + 1))) (P_ev 0) := X.set (Or.inr ⟨rfl, rfl⟩)
      refine m_work (t := 2) (X1.ly L) E1 sI_s (by omega) (by omega) (fun j z hj => ?_) ?_ (Or.inl rfl) (lets _ X1) (fun h2 X2 e2 => ?_)
      · have hjl : j < c.2.1.length := (List.getElem?_eq_some_iff.mp hj).1
        have := code _ X1 (j + 1) z (by rw [eF, List.getElem?_cons_succ, List.getElem?_append_left hjl]; exact hj)
        rw [show 420 * t + off + 1 + j = 420 * t + off + (j + 1) by omega]; exact this
      · have := code _ X1 (c.2.1.length + 1) 2 (by rw [eF, List.getElem?_cons_succ, List.getElem?_append_right (Nat.le_refl _), Nat.sub_self]; rfl)
        rw [show 420 * t + off + 1 + c.2.1.length = 420 * t + off + (c.2.1.length + 1) by omega]; exact this
      have X12 := X1.trans X2
      have rest : ∀ y4 : Int32, (y4 = 0 ↔ b = 0) → cm_wp sc (d + 4) 179 69 [some (.ref 38), some (.int (nI t)), some (.int (nI l)), some (.int y), u4, u5] [.int y4] h2 (fun v h' => ∃ x, v = some (.int x) ∧ K x h') := fun y4 hy4 => by
        refine s179_69 (X12.ly L) _ _ _ _ _ _ (m_work (t := 3) (X12.ly L) E2 e2 (by omega) (by omega) (fun j z hj => ?_) ?_ (Or.inr rfl) (lets _ X12) (fun h3 X3 e3 => ?_))
        · have hjl : j < c.2.2.length := (List.getElem?_eq_some_iff.mp hj).1
          have := code _ X12 (c.2.1.length + (j + 1) + 1) z (by rw [eF, List.getElem?_cons_succ, List.getElem?_append_right (by omega), show c.2.1.length + (j + 1) - c.2.1.length = j + 1 by omega, List.getElem?_cons_succ, List.getElem?_append_left hjl]; exact hj)
          rw [show 420 * t + off + 1 + c.2.1.length + 1 + j = 420 * t + off + (c.2.1.length + (j + 1) + 1) by omega]; exact this
        · have := code _ X12 (c.2.1.length + (c.2.2.length + 1) + 1) 3 (by rw [eF, List.getElem?_cons_succ, List.getElem?_append_right (by omega), show c.2.1.length + (c.2.2.length + 1) - c.2.1.length = c.2.2.length + 1 by omega, List.getElem?_cons_succ, List.getElem?_append_right (Nat.le_refl _), Nat.sub_self]; rfl)
          rw [show 420 * t + off + 1 + c.2.1.length + 1 + c.2.2.length = 420 * t + off + (c.2.1.length + (c.2.2.length + 1) + 1) by omega]; exact this
        have X13 := X12.trans X3
        have on : ¬ (c.1 = l ∧ b ≠ 0) → ∀ z5 : Int32, cm_wp sc (d + 4) 179 89 [some (.ref 38), some (.int (nI t)), some (.int (nI l)), some (.int y), some (.int y4), some (.int z5)] [] h3 (fun v h' => ∃ x, v = some (.int x) ∧ K x h') := fun no z5 => by
          have WR : WV lt l r v := by
            rcases WW with q | q
            · exact absurd ⟨q.1, q.2.1⟩ no
            · exact q.2
          refine s179_89 _ _ _ _ _ (ih (off + (c.2.1.length + c.2.2.length + 3)) h3 _ _ _ X13 ?_ (by omega) (fun j z hj => ?_) (fun c' hc' => hc c' (List.mem_cons_of_mem _ hc')) WR)
          · rw [e3]; congr 1; omega
          · have := hcd (c.2.1.length + c.2.2.length + 3 + j) z (by rw [ef, List.getElem?_append_right (by rw [flat_len]; omega), flat_len, show c.2.1.length + c.2.2.length + 3 + j - (c.2.1.length + c.2.2.length + 3) = j by omega]; exact hj)
            rw [show 420 * t + (off + (c.2.1.length + c.2.2.length + 3)) + j = 420 * t + off + (c.2.1.length + c.2.2.length + 3 + j) by omega]; exact this
        refine s179_75 _ _ _ _ _ _ ⟨fun z => on (fun q => ?_) _, fun z => ⟨fun z2 => on (fun q => q.2 (hy4.mp z2)) _, fun z2 => ai ?_⟩⟩
        · rw [hyl.mpr q.1] at z; exact absurd z (by decide)
        · have cl : c.1 = l := hyl.mp (hy.resolve_left z)
          rcases WW with q | q
          · rw [← q.2.2]; exact k h3 X13
          · exact absurd ⟨cl, fun e => z2 (hy4.mpr e)⟩ q.1
      exact s179_61 _ _ _ _ _ _ ⟨fun z => rest 0 ⟨fun _ => z, fun _ => rfl⟩, fun z => rest 1 ⟨fun e => absurd e (by decide), fun e => absurd e z⟩⟩
    have c0 : cm_I h' 63 (420 * t + off) = nI c.1 := code h' X 0 c.1 (by rw [eF]; rfl)
    refine s179_9 L' _ _ _ _ _ ?_
    rw [e420, nI_clamp (by omega), X.2 64 t (by unfold P_ev; omega), hs, er, nI_add, nI_clamp (by omega), c0]
    refine ⟨ix_nI ht (by decide), fun z => absurd z (nI_ge (by omega) (by omega)), fun _ => ⟨ix_nI (by omega) (by decide), fun z => w46 0 (Or.inl rfl) ⟨fun e => absurd e (by decide), fun e => absurd (by rw [e]) z⟩, fun z => w46 1 (Or.inr rfl) ⟨fun _ => nI_inj (by omega) (by omega) (Decidable.not_not.mp z), fun _ => rfl⟩⟩⟩
end MWORTH
