/-! ===== set, rule, and hand where nothing is changed but the state ===== -/
section WPAIR
variable {sc : cmS} {d j : Nat} {h h' : cmH} {x1 x2 x3 : Int32} {F Rn Q T NL n Re : Nat} {fa C g st pr lc ta nn Tp : Nat → Nat} {cc Tt : Nat → Nat → Nat} {cls : Nat → List CL} {ro : Nat → Option Nat}
theorem vfl_1 {k b k' b' : Nat} (q : (k, b) ∈ vfl) (q' : (k', b') ∈ vfl) : k = k' ↔ b = b' := by
  unfold vfl at q q'
  simp only [List.mem_cons, Prod.mk.injEq, List.not_mem_nil, or_false] at q q'
  omega
theorem HS.pair {f k b : Nat} {v : Int32} (H : HS h F Rn C fa cc ta nn Tt cls ro Q T g st pr) (hf : f < F) (kb : (k, b) ∈ vfl) (hk : 4 ≤ k ∧ k ≤ 8) (c4 : k = 4 → ∃ p, v = nI p ∧ 1 ≤ p ∧ p ≤ 1000) (c7 : k = 7 → ∃ o : Option Nat, v = wI o ∧ ∀ i, o = some i → i < Rn) (c8 : k = 8 → v ≠ 1 ∧ v ≠ 2) (X : XI h h' (fun x i => (x = fa f ∧ i = k) ∨ (x = b ∧ i = f))) (ea : cm_I h' (fa f) k = v) (eb : cm_I h' b f = v) : ∃ ro' pr', HS h' F Rn C fa cc ta nn Tt cls ro' Q T g st pr' := by
  obtain ⟨⟨L, G, GC, W, CT, RR⟩, B, hT, M, Z⟩ := H
  have h88 := W.1 f hf
  have h8 := G.2.1
  have h10 : ∀ f, f < F → C f ≤ 10 := fun f hf => (GC f hf).2.2.1
  have bb : 49 ≤ b ∧ b ≤ 55 ∧ b ≠ 53 ∧ b ≠ 54 ∧ (k = 7 ↔ b = 55) := by
    unfold vfl at kb
    simp only [List.mem_cons, Prod.mk.injEq, List.not_mem_nil, or_false] at kb
    omega
  have x := X.g
  have lo : ∀ a i, a < 88 → a ≠ b → cm_I h' a i = cm_I h a i := fun a i p q => X.2 a i (by omega)
  have lob : ∀ i, i ≠ f → cm_I h' b i = cm_I h b i := fun i p => X.2 b i (by omega)
  have faf : ∀ f' i, f' < F → ¬ (f' = f ∧ i = k) → cm_I h' (fa f') i = cm_I h (fa f') i := fun f' i hf' q => X.2 _ _ (by
    rintro (w | w)
    · by_cases e : f' = f
      · exact q ⟨e, w.2⟩
      · have := W.2.1 f' f hf' hf e; omega
    · have := W.1 f' hf'; omega)
  have oth : ∀ f' a i, f' < F → OWN (fa f') (C f') (cc f') a → a ≠ fa f → cm_I h' a i = cm_I h a i := fun f' a i hf' o q => X.2 _ _ (by
    have := W.own88 hf' o
    omega)
  have k4 : ∃ pr' : Nat → Nat, (∀ f', f' < F → cm_I h' (fa f') 4 = nI (pr' f') ∧ 1 ≤ pr' f' ∧ pr' f' ≤ 1000) := by
    by_cases e : k = 4
    · obtain ⟨p, ep, p1, p2⟩ := c4 e
      refine ⟨fun i => if i = f then p else pr i, fun f' hf' => ?_⟩
      dsimp only
      by_cases y : f' = f
      · subst y
        rw [if_pos rfl, ← ep, ← ea, e]; exact ⟨rfl, p1, p2⟩
      · obtain ⟨d1, d2, d3, -⟩ := B.2.2.2.2 f' hf'
        rw [if_neg y, faf f' 4 hf' (by omega)]; exact ⟨d1, d2, d3⟩
    · refine ⟨pr, fun f' hf' => ?_⟩
      obtain ⟨d1, d2, d3, -⟩ := B.2.2.2.2 f' hf'
      rw [faf f' 4 hf' (by omega)]; exact ⟨d1, d2, d3⟩
  have k7 : ∃ ro' : Nat → Option Nat, ∀ f', f' < F → (cm_I h' (fa f') 7 = wI (ro' f') ∧ ∀ i, ro' f' = some i → i < Rn) ∧ cm_I h' 55 f' = wI (ro' f') := by
    by_cases e : k = 7
    · obtain ⟨o, eo, ho⟩ := c7 e
      have e55 := bb.2.2.2.2.mp e
      refine ⟨fun i => if i = f then o else ro i, fun f' hf' => ?_⟩
      dsimp only
      by_cases y : f' = f
      · subst y
        rw [if_pos rfl, ← eo, ← e55, eb, ← e, ea]; exact ⟨⟨rfl, ho⟩, rfl⟩
      · rw [if_neg y, faf f' 7 hf' (by omega), ← e55, lob f' y, e55]; exact ⟨RR f' hf', (M.2.2.2.1 f' hf').2.2.1⟩
    · refine ⟨ro, fun f' hf' => ?_⟩
      rw [faf f' 7 hf' (by omega), lo 55 f' (by decide) (by omega)]; exact ⟨RR f' hf', (M.2.2.2.1 f' hf').2.2.1⟩
  obtain ⟨pr', hp⟩ := k4
  obtain ⟨ro', hr⟩ := k7
  refine ⟨ro', pr', ⟨x.ly L, x.FS G (by omega), fun f' hf' => x.FC L (GC f' hf') (fun w => ?_) (fun c hc w => ?_), W, ?_, fun f' hf' => (hr f' hf').1⟩, ?_, hT, ?_, ?_⟩
  · have := W.1 f' hf'
    omega
  · have := (W.2.2.1 f' c hf' hc).2 f hf
    have := (W.2.2.1 f' c hf' hc).1
    omega
  · refine x.CTx L CT (fun y i hy w => ?_) (by omega)
    rcases w with w | w
    · rw [w.1, (GC f hf).1.1] at hy; omega
    · have kd : cm_kd h b = 13 := by
        have : b = 49 ∨ b = 50 ∨ b = 51 ∨ b = 52 ∨ b = 55 := by omega
        rcases this with rfl | rfl | rfl | rfl | rfl
        · exact (ly_k L 49 rfl).1
        · exact (ly_k L 50 rfl).1
        · exact (ly_k L 51 rfl).1
        · exact (ly_k L 52 rfl).1
        · exact (ly_k L 55 rfl).1
      rw [w.1, kd] at hy; omega
  · obtain ⟨b1, b2, b3, b4, b5⟩ := B
    refine ⟨by rw [lo 0 12 (by decide) (by omega)]; exact b1, by rw [lo 12 1 (by decide) (by omega)]; exact b2, b3, fun s hs => by rw [lo 13 s (by decide) (by omega), lo 2 s (by decide) (by omega)]; exact b4 s hs, fun f' hf' => ?_⟩
    obtain ⟨-, -, -, d4, d5, d6⟩ := b5 f' hf'
    have h88' := W.1 f' hf'
    refine ⟨(hp f' hf').1, (hp f' hf').2.1, (hp f' hf').2.2, fun e => ?_, by rw [faf f' 19 hf' (by omega)]; exact d5, fun s hs => ?_⟩
    · by_cases y : f' = f ∧ 8 = k
      · rw [y.1, y.2, ea] at e; exact absurd e (c8 y.2.symm).1
      · rw [faf f' 8 hf' (by omega)] at e; exact d4 e
    · rw [oth f' (fa f' + 2) s hf' (own_a 2 (by decide)) (fun e => by
        by_cases y : f' = f
        · rw [y] at e; omega
        · have := W.2.1 f' f hf' hf y; omega)]; exact d6 s hs
  · obtain ⟨-, m1, m2, m3, m4, m5, m6⟩ := M
    refine ⟨x.ly L, by rw [lo 38 24 (by decide) (by omega)]; exact m1, m2, fun f' hf' => ⟨by rw [lo 42 f' (by decide) (by omega)]; exact (m3 f' hf').1, (m3 f' hf').2.1, (hr f' hf').2, (hr f' hf').1.2⟩, ⟨by rw [lo 38 34 (by decide) (by omega)]; exact m4.1, m4.2.1, fun i hi => ?_⟩, m5, fun s hs => by rw [lo 41 s (by decide) (by omega)]; exact m6 s hs⟩
    obtain ⟨r1, r2, r3, r4⟩ := m4.2.2 i hi
    exact ⟨by rw [lo 64 _ (by decide) (by omega)]; exact r1, r2, fun i y hy => by rw [lo 63 _ (by decide) (by omega)]; exact r3 i y hy, r4⟩
  · obtain ⟨z1, z2, z3, z4⟩ := Z
    refine ⟨fun f' hf' => ?_, ⟨fun s hs => ?_, fun t s w p q r => ?_⟩, ⟨fun s hs => ?_, ?_⟩, ?_⟩
    · obtain ⟨v1, i1, e1⟩ := z1 f' hf'
      by_cases y : f' = f
      · subst y
        have h10 := h10 f' hf
        have occ : ∀ c e i, c < C f' → e ≤ 2 → cm_I h' (cc f' c + e) i = cm_I h (cc f' c + e) i := fun c e i hc he => oth f' _ i hf (own_c hc e he) (by have := (W.2.2.1 f' c hf hc).2 f' hf; omega)
        have oc0 : ∀ c i, c < C f' → cm_I h' (cc f' c) i = cm_I h (cc f' c) i := fun c i hc => occ c 0 i hc (by decide)
        have om : ∀ a i, MO f' a i → a ≠ b → cm_I h' a i = cm_I h a i := fun a i o q => lo a i (by unfold MO at o; omega) q
        refine ⟨⟨fun k' b' q => ?_, fun c hc => ?_, fun s hs => ?_⟩, ⟨?_, ?_, ?_, fun c hc => ?_⟩, ?_⟩
        · by_cases e : k' = k
          · have := (vfl_1 q kb).mp e
            rw [e, this, ea, eb]
          · rw [om b' f' (vfl_mo q).1 (fun w => e ((vfl_1 q kb).mpr w)), faf f' k' hf (by omega)]; exact v1.1 k' b' q
        · obtain ⟨d1, d2, d3, d4, d5⟩ := v1.2.1 c hc
          exact ⟨by rw [lo 43 _ (by decide) (by omega), oc0 c _ hc]; exact d1, by rw [lo 44 _ (by decide) (by omega), oc0 c _ hc]; exact d2, by rw [lo 45 _ (by decide) (by omega), oc0 c _ hc]; exact d3, by rw [oc0 c _ hc, d4]; exact cm_sum_congr fun s _ => (occ c 1 s hc (by decide)).symm, fun s hs => ⟨by rw [lo 46 _ (by decide) (by omega), occ c 1 s hc (by decide)]; exact (d5 s hs).1, by rw [lo 47 _ (by decide) (by omega), occ c 2 s hc (by decide)]; exact (d5 s hs).2⟩⟩
        · rw [lo 48 _ (by decide) (by omega), oth f' (fa f' + 2) s hf (own_a 2 (by decide)) (by omega)]; exact v1.2.2 s hs
        · intro w
          by_cases e : 8 = k
          · rw [e, ea] at w
            exact absurd w (fun w => w.elim (c8 e.symm).1 (c8 e.symm).2)
          · rw [faf f' 8 hf (by omega)] at w; exact i1.1 w
        · rw [faf f' 18 hf (by omega), faf f' 12 hf (by omega), faf f' 13 hf (by omega)]; exact i1.2.1
        · rw [faf f' 17 hf (by omega)]; exact i1.2.2.1
        · obtain ⟨d1, d2, d3, d4⟩ := i1.2.2.2 c hc
          exact ⟨by rw [oc0 c _ hc]; exact d1, by rw [oc0 c _ hc]; exact d2, by rw [oc0 c _ hc]; exact d3, fun q s hs => by rw [occ c 1 s hc (by decide), occ c 2 s hc (by decide)]; exact d4 q s hs⟩
        · rw [lo 60 f' (by decide) (by omega), faf f' 17 hf (by omega)]; exact e1
      · have oo : ∀ a i, OWN (fa f') (C f') (cc f') a → cm_I h' a i = cm_I h a i := fun a i o => oth f' a i hf' o (fun e => W.own hf' hf y o (by rw [e]; exact own_a 0 (by decide)))
        have om : ∀ a i, MO f' a i → cm_I h' a i = cm_I h a i := fun a i o => by
          by_cases e : a = b
          · rw [e]; refine lob i ?_
            unfold MO at o; omega
          · exact lo a i (by unfold MO at o; omega) e
        exact ⟨v1.congr (h10 f' hf') oo om, i1.congr oo, by rw [om 60 f' (by unfold MO; omega), faf f' 17 hf' (by omega)]; exact e1⟩
    · have l71 : ∀ i, cm_I h' 71 i = cm_I h 71 i := fun i => lo 71 i (by decide) (by omega)
      rw [l71, l71, l71, l71, l71, lo 15 s (by decide) (by omega), lo 16 s (by decide) (by omega), lo 17 s (by decide) (by omega), lo 18 s (by decide) (by omega), lo 19 s (by decide) (by omega)]
      exact z2.1 s hs
    · rw [lo 68 _ (by decide) (by omega), lo 20 _ (by decide) (by omega)]; exact z2.2 t s w p q r
    · rw [lo 39 s (by decide) (by omega), lo 40 s (by decide) (by omega), lo 41 s (by decide) (by omega), lo 67 s (by decide) (by omega), lo 2 s (by decide) (by omega), lo 3 s (by decide) (by omega), lo 4 s (by decide) (by omega), lo 13 s (by decide) (by omega)]
      exact z3.1 s hs
    · rw [lo 38 48 (by decide) (by omega), lo 12 1 (by decide) (by omega)]; exact z3.2
    · rw [lo 38 0 (by decide) (by omega), lo 0 12 (by decide) (by omega)]; exact z4
end WPAIR
