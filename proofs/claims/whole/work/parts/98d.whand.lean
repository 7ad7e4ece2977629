/-! ===== hand in the world ===== -/
section WHAND
variable {sc : cmS} {d j : Nat} {h h1 h2 : cmH} {x1 x2 : Int32} {F Rn Q T NL n Re : Nat} {fa C g st pr lc ta nn Tp : Nat → Nat} {cc Tt : Nat → Nat → Nat} {cls : Nat → List CL} {ro : Nat → Option Nat}
/-- all that a filter holds is carried off, on both sides; its state is new -/
theorem HS.chg {f : Nat} (H : HS h F Rn C fa cc ta nn Tt cls ro Q T g st pr) (hf : f < F) (X1 : XI h h1 (fun x i => (x = fa f ∧ i = 8) ∨ P_cg (fa f) (C f) (cc f) x i)) (V1 : CGv (cm_I h) (cm_I h1) (fa f) (C f) (cc f)) (e8 : cm_I h1 (fa f) 8 = 0) (X2 : XI h1 h2 (fun x i => (x = 52 ∧ i = f) ∨ P_mg f (C f) x i)) (V2 : MGv (cm_I h1) (cm_I h2) f (C f)) (e52 : cm_I h2 52 f = 0) : HS h2 F Rn C fa cc ta nn Tt cls ro Q T g st pr := by
  obtain ⟨S, B, hT, M, Z⟩ := H
  have W := S.2.2.2.1
  have h88 := W.1 f hf
  have h10 : ∀ f, f < F → C f ≤ 10 := fun f hf => (S.2.2.1 f hf).2.2.1
  have hF8 := S.2.1.2.1
  have P := W.sp hf
  have XP : GX h h1 (MP F C fa cc) := X1.g.mono fun x k q => by
    rcases q with q | (q | q | q | ⟨c, hc, q⟩)
    · exact Or.inr (Or.inr (Or.inr (Or.inr ⟨f, hf, Or.inl ⟨q.1, by omega, by omega⟩⟩)))
    · exact Or.inr (Or.inr (Or.inl ⟨by omega, by omega⟩))
    · exact Or.inr (Or.inr (Or.inr (Or.inr ⟨f, hf, Or.inl ⟨q.1, by omega, by omega⟩⟩)))
    · exact Or.inr (Or.inr (Or.inr (Or.inr ⟨f, hf, Or.inr (Or.inl q.1)⟩)))
    · refine Or.inr (Or.inr (Or.inr (Or.inr ⟨f, hf, Or.inr (Or.inr (Or.inr ⟨c, hc, ?_⟩))⟩)))
      unfold P_em at q; omega
  have nmp : ∀ a k, 38 ≤ a → a < 88 → ¬ MP F C fa cc a k := fun a k p q => MP.lo W q (by omega) (by omega) (by omega) (by omega)
  have YQ : XI h1 h2 MHQ := X2.mono fun x k q => by
    rcases q with q | q
    · unfold MHQ; omega
    · unfold P_mg at q; unfold MHQ; omega
  have ny : ∀ a k, a < 38 ∨ 88 ≤ a → ¬ MHQ a k := fun a k p q => by have := q.in; omega
  have oy : ∀ a k, a < 38 ∨ 88 ≤ a → cm_I h2 a k = cm_I h1 a k := fun a k p => YQ.2 a k (ny a k p)
  have om1 : ∀ a k, 38 ≤ a → a < 88 → cm_I h1 a k = cm_I h a k := fun a k p q => XP.2.1 a k (nmp a k p q)
  have fa0 : ∀ k, k ≠ 8 → k ≠ 9 → k ≠ 10 → cm_I h1 (fa f) k = cm_I h (fa f) k := fun k _ _ _ => X1.2 _ _ (by
    rintro (q | q)
    · omega
    · have := P_cg_a P q; omega)
  have oth : ∀ f' a k, f' < F → f' ≠ f → OWN (fa f') (C f') (cc f') a → cm_I h1 a k = cm_I h a k := fun f' a k hf' ne o => X1.2 _ _ (by
    have := W.own88 hf' o
    rintro (q | q)
    · exact W.own hf' hf ne o (Or.inl ⟨by omega, by omega⟩)
    · rcases own_P_cg q with q | q
      · omega
      · exact W.own hf' hf ne o q)
  have lo1 : ∀ a k, a < 38 → a ≠ 17 → a ≠ 9 → a ≠ 10 → cm_I h1 a k = cm_I h a k := fun a k p q _ _ => X1.2 _ _ (by
    rintro (w | w)
    · omega
    · rcases own_P_cg w with w | w
      · exact q w
      · have := W.own88 hf w; omega)
  have oc0 : ∀ c k, c < C f → k ≠ 2 → k ≠ 4 → cm_I h1 (cc f c) k = cm_I h (cc f c) k := fun c k hc a b => XP.2.1 _ _ (MP.ncc W hf hc a b)
  have CB1 : CB (cm_I h1) F Q C fa g st pr T (10000 * T) := by
    obtain ⟨b1, b2, b3, b4, b5⟩ := B
    refine ⟨by rw [lo1 0 12 (by decide) (by decide) (by decide) (by decide)]; exact b1, by rw [lo1 12 1 (by decide) (by decide) (by decide) (by decide)]; exact b2, b3, fun s hs => by rw [lo1 13 s (by decide) (by decide) (by decide) (by decide), lo1 2 s (by decide) (by decide) (by decide) (by decide)]; exact b4 s hs, fun f' hf' => ?_⟩
    obtain ⟨d1, d2, d3, d4, d5, d6⟩ := b5 f' hf'
    by_cases y : f' = f
    · subst y
      refine ⟨by rw [fa0 4 (by decide) (by decide) (by decide)]; exact d1, d2, d3, fun e => by rw [e8] at e; exact absurd e (by decide), by rw [fa0 19 (by decide) (by decide) (by decide)]; exact d5, fun s hs => ⟨0, (V1.1 s hs).2, by omega⟩⟩
    · have o0 : ∀ k, cm_I h1 (fa f') k = cm_I h (fa f') k := fun k => oth f' (fa f' + 0) k hf' y (own_a 0 (by decide))
      exact ⟨by rw [o0]; exact d1, d2, d3, fun e => d4 (by rw [← o0]; exact e), by rw [o0]; exact d5, fun s hs => by rw [oth f' (fa f' + 2) s hf' y (own_a 2 (by decide))]; exact d6 s hs⟩
  refine ⟨(S.mp XP).m YQ.g ny, CB1.m W oy, hT, (M.gx XP nmp).x YQ, ?_⟩
  obtain ⟨z1, z2, z3, z4⟩ := Z
  obtain ⟨g1, g2, g3, g4⟩ := V1
  obtain ⟨n1, n2, n3, n4⟩ := V2
  have hi : ∀ a k, 88 ≤ a → cm_I h2 a k = cm_I h1 a k := fun a k p => oy a k (Or.inr p)
  refine ⟨fun f' hf' => ?_, ⟨fun s hs => ?_, fun t s w p q r => ?_⟩, ⟨fun s hs => ?_, ?_⟩, ?_⟩
  · obtain ⟨v, i, e⟩ := z1 f' hf'
    by_cases y : f' = f
    · subst y
      have h10 := h10 f' hf
      refine ⟨⟨fun k b q => ?_, fun c hc => ?_, fun s hs => ?_⟩, ⟨?_, ?_, ?_, fun c hc => ?_⟩, ?_⟩
      · rw [hi (fa f') k h88]
        by_cases k8 : k = 8 ∨ k = 9 ∨ k = 10
        · have : (k = 8 ∧ b = 52) ∨ (k = 9 ∧ b = 53) ∨ (k = 10 ∧ b = 54) := by
            unfold vfl at q
            simp only [List.mem_cons, Prod.mk.injEq, List.not_mem_nil, or_false] at q
            omega
          rcases this with ⟨rfl, rfl⟩ | ⟨rfl, rfl⟩ | ⟨rfl, rfl⟩
          · rw [e52, e8]
          · rw [n3, g3]
          · rw [n4, g4]
        · have hb : ¬ ((b = 52 ∧ f' = f') ∨ P_mg f' (C f') b f') ∧ 38 ≤ b ∧ b < 88 := by
            unfold vfl at q
            simp only [List.mem_cons, Prod.mk.injEq, List.not_mem_nil, or_false] at q
            unfold P_mg
            omega
          rw [X2.2 b f' hb.1, om1 b f' hb.2.1 hb.2.2, fa0 k (by omega) (by omega) (by omega)]; exact v.1 k b q
      · obtain ⟨d1, d2, d3, d4, d5⟩ := v.2.1 c hc
        obtain ⟨gc1, gc2, gc3⟩ := g2 c hc
        have hc88 := (W.2.2.1 f' c hf hc).1
        refine ⟨?_, ?_, ?_, ?_, fun s hs => ⟨?_, ?_⟩⟩
        · rw [(n2 c hc).2, hi _ _ hc88, gc3, om1 44 _ (by decide) (by decide)]; exact d2
        · rw [X2.2 44 _ (by unfold P_mg; omega), om1 44 _ (by decide) (by decide), hi _ _ hc88, oc0 c 3 hc (by decide) (by decide)]; exact d2
        · rw [X2.2 45 _ (by unfold P_mg; omega), om1 45 _ (by decide) (by decide), hi _ _ hc88, oc0 c 5 hc (by decide) (by decide)]; exact d3
        · rw [hi _ _ hc88, gc2, cm_sum_congr (f := cm_I h2 (cc f' c + 1)) (g := fun _ => 0) fun s hs => by rw [hi _ _ (by omega)]; exact (gc1 s hs).1]; decide
        · rw [((n2 c hc).1 s hs).1, hi _ _ (by omega), (gc1 s hs).1]
        · rw [((n2 c hc).1 s hs).2, hi _ _ (by omega), (gc1 s hs).2]
      · rw [(n1 s hs).2, hi _ _ (by omega), (g1 s hs).2]
      · rw [hi _ _ h88, e8]
        exact fun w => w.elim (fun w => absurd w (by decide)) (fun w => absurd w (by decide))
      · rw [hi _ _ h88, hi _ _ h88, hi _ _ h88, fa0 18 (by decide) (by decide) (by decide), fa0 12 (by decide) (by decide) (by decide), fa0 13 (by decide) (by decide) (by decide)]; exact i.2.1
      · rw [hi _ _ h88, fa0 17 (by decide) (by decide) (by decide)]; exact i.2.2.1
      · obtain ⟨d1, d2, d3, d4⟩ := i.2.2.2 c hc
        obtain ⟨gc1, gc2, gc3⟩ := g2 c hc
        have hc88 := (W.2.2.1 f' c hf hc).1
        exact ⟨by rw [hi _ _ hc88, gc3]; exact d2, by rw [hi _ _ hc88, oc0 c 3 hc (by decide) (by decide)]; exact d2, by rw [hi _ _ hc88, oc0 c 5 hc (by decide) (by decide)]; exact d3, fun _ s hs => by rw [hi _ _ (by omega), hi _ _ (by omega)]; exact gc1 s hs⟩
      · rw [X2.2 60 f' (by unfold P_mg; omega), om1 60 _ (by decide) (by decide), hi _ _ h88, fa0 17 (by decide) (by decide) (by decide)]; exact e
    · have oo : ∀ a k, OWN (fa f') (C f') (cc f') a → cm_I h2 a k = cm_I h a k := fun a k o => by rw [hi a k (W.own88 hf' o)]; exact oth f' a k hf' y o
      have om : ∀ a k, MO f' a k → cm_I h2 a k = cm_I h a k := fun a k o => by
        have h10 := h10 f hf
        unfold MO at o
        rw [X2.2 a k (by unfold P_mg; omega)]
        exact om1 a k (by omega) (by omega)
      exact ⟨v.congr (h10 f' hf') oo om, i.congr oo, by rw [om 60 f' (by unfold MO; omega), show cm_I h2 (fa f') 17 = cm_I h (fa f') 17 from oo (fa f' + 0) 17 (own_a 0 (by decide))]; exact e⟩
  · obtain ⟨b1, b2, b3, b4, b5⟩ := z2.1 s hs
    have l71 : ∀ i, i % 6 ≠ 3 → cm_I h2 71 i = cm_I h 71 i := fun i q => by rw [X2.2 71 i (by unfold P_mg; omega)]; exact om1 71 i (by decide) (by decide)
    refine ⟨?_, ?_, ?_, ?_, ?_⟩
    · rw [l71 _ (by omega), oy 15 s (by decide), lo1 15 s (by decide) (by decide) (by decide) (by decide)]; exact b1
    · rw [l71 _ (by omega), oy 16 s (by decide), lo1 16 s (by decide) (by decide) (by decide) (by decide)]; exact b2
    · rw [(n1 s hs).1, oy 17 s (by decide), (g1 s hs).1, om1 71 _ (by decide) (by decide), om1 48 _ (by decide) (by decide), b3, (z1 f hf).1.2.2 s hs]
      congr 2
      exact cm_sum_congr fun c hc => by rw [om1 46 _ (by decide) (by decide)]; exact (((z1 f hf).1.2.1 c hc).2.2.2.2 s hs).1
    · rw [l71 _ (by omega), oy 18 s (by decide), lo1 18 s (by decide) (by decide) (by decide) (by decide)]; exact b4
    · rw [l71 _ (by omega), oy 19 s (by decide), lo1 19 s (by decide) (by decide) (by decide) (by decide)]; exact b5
  · rw [X2.2 68 _ (by unfold P_mg; omega), om1 68 _ (by decide) (by decide), oy 20 _ (by decide), lo1 20 _ (by decide) (by decide) (by decide) (by decide)]; exact z2.2 t s w p q r
  · have mm : ∀ a, a = 39 ∨ a = 40 ∨ a = 41 ∨ a = 67 → cm_I h2 a s = cm_I h a s := fun a q => by rw [X2.2 a s (by unfold P_mg; omega)]; exact om1 a s (by omega) (by omega)
    have ll : ∀ a, a = 2 ∨ a = 3 ∨ a = 4 ∨ a = 13 → cm_I h2 a s = cm_I h a s := fun a q => by rw [oy a s (by omega)]; exact lo1 a s (by omega) (by omega) (by omega) (by omega)
    rw [mm 39 (by omega), mm 40 (by omega), mm 41 (by omega), mm 67 (by omega), ll 2 (by omega), ll 3 (by omega), ll 4 (by omega), ll 13 (by omega)]; exact z3.1 s hs
  · rw [X2.2 38 48 (by unfold P_mg; omega), om1 38 48 (by decide) (by decide), oy 12 1 (by decide), lo1 12 1 (by decide) (by decide) (by decide) (by decide)]; exact z3.2
  · rw [X2.2 38 0 (by unfold P_mg; omega), om1 38 0 (by decide) (by decide), oy 0 12 (by decide), lo1 0 12 (by decide) (by decide) (by decide) (by decide)]; exact z4
end WHAND
