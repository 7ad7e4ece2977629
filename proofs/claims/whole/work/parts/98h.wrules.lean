/-! ===== rules in the world ===== -/
section WRULES
variable {sc : cmS} {d j : Nat} {h h' : cmH} {P R : Nat → Nat → Prop} {F Rn Rn' Q T NL n Re : Nat} {fa C g st pr lc ta nn Tp ta' nn' : Nat → Nat} {cc Tt Tt' : Nat → Nat → Nat} {cls cls' : Nat → List CL} {ro : Nat → Option Nat}
def A3 (h : cmH) (F : Nat) (C fa : Nat → Nat) (cc : Nat → Nat → Nat) (x k : Nat) : Prop := x = 9 ∨ x = 10 ∨ x = 6 ∨ x = 7 ∨ (x = 0 ∧ k = 11) ∨ (x = 38 ∧ k ≠ 0 ∧ k ≠ 24 ∧ k ≠ 48) ∨ x = 61 ∨ x = 62 ∨ x = 63 ∨ x = 64
/-- the house with another shelf of rules -/
theorem HS.shelf (H : HS h F Rn C fa cc ta nn Tt cls ro Q T g st pr) (x : EX h h' P R) (p : ∀ a k, P a k → A3 h F C fa cc a k) (r : ∀ a k, R a k → (a = 9 ∧ k = 1) ∨ a = 8) (hr : Rn ≤ Rn') (CT' : CTx h' 3000 Rn' ta' nn' Tt' cls') (MR' : MRu h' Rn' cls') : HS h' F Rn' C fa cc ta' nn' Tt' cls' ro Q T g st pr := by
  obtain ⟨⟨L, G, GC, W, CT, RR⟩, B, hT, M, Z⟩ := H
  have h88 := L.1
  have hF := G.2.1
  have h10 : ∀ f, f < F → C f ≤ 10 := fun f hf => (GC f hf).2.2.1
  have rl : ∀ e ∈ ly_R, ¬ R e.1 e.2.1 := by
    intro e he w
    rcases r _ _ w with q | q
    · exact ly_91 e he q
    · have : ∀ e ∈ ly_R, e.1 ≠ 8 := by decide
      exact this e he q
  have L' := x.ly L rl
  have lo : ∀ a k, a < 88 → ¬ A3 h F C fa cc a k → cm_I h' a k = cm_I h a k := fun a k ha q => (x.2 a (by omega)).2.2.1 k fun w => q (p a k w)
  have own : ∀ f a k, f < F → OWN (fa f) (C f) (cc f) a → cm_I h' a k = cm_I h a k := fun f a k hf o => by
    have h1 := W.own88 hf o
    have ha : a < cm_n h := by
      rcases o with o | ⟨c, hc, o⟩
      · have := (GC f hf).1.2.1; omega
      · have := ((GC f hf).2.2.2 c hc).2.1.2.1; omega
    refine (x.2 a ha).2.2.1 k fun w => ?_
    have := p a k w
    unfold A3 at this
    omega
  have ow0 : ∀ f k, f < F → cm_I h' (fa f) k = cm_I h (fa f) k := fun f k hf => own f (fa f + 0) k hf (own_a 0 (by decide))
  have oc0 : ∀ f c k, f < F → c < C f → cm_I h' (cc f c) k = cm_I h (cc f c) k := fun f c k hf hc => own f (cc f c + 0) k hf (own_c hc 0 (by decide))
  have G' : FS h' F fa := ⟨by rw [lo 0 10 (by decide) (by unfold A3; omega)]; exact G.1, hF, fun f hf => by rw [(x.2 5 (by omega)).2.2.2 f (fun w => by have := r _ _ w; omega)]; exact G.2.2 f hf⟩
  have nR : ∀ a, 88 ≤ a → ∀ k, ¬ R a k := fun a ha k w => by have := r _ _ w; omega
  have GC' : ∀ f, f < F → FC h' (fa f) (C f) (cc f) := fun f hf => by
    obtain ⟨g1, g2, g3, g4⟩ := GC f hf
    have a88 := W.1 f hf
    refine ⟨x.FL g1 (nR _ a88), by rw [ow0 f 3 hf]; exact g2, g3, fun c hc => ⟨?_, x.CE (g4 c hc).2.1 (nR _ (W.2.2.1 f c hf hc).1), by rw [oc0 f c 5 hf hc]; exact (g4 c hc).2.2⟩⟩
    have := g1.2.1
    rw [(x.2 (fa f + 1) (by omega)).2.2.2 c (nR _ (by omega) _)]; exact (g4 c hc).1
  refine ⟨⟨L', G', GC', W, CT', fun f hf => by rw [ow0 f 7 hf]; exact ⟨(RR f hf).1, fun i w => Nat.lt_of_lt_of_le ((RR f hf).2 i w) hr⟩⟩, ?_, hT, ?_, ?_⟩
  · obtain ⟨b1, b2, b3, b4, b5⟩ := B
    refine ⟨by rw [lo 0 12 (by decide) (by unfold A3; omega)]; exact b1, by rw [lo 12 1 (by decide) (by unfold A3; omega)]; exact b2, b3, fun s hs => by rw [lo 13 s (by decide) (by unfold A3; omega), lo 2 s (by decide) (by unfold A3; omega)]; exact b4 s hs, fun f hf => ?_⟩
    rw [ow0 f 4 hf, ow0 f 8 hf, ow0 f 19 hf]
    obtain ⟨d1, d2, d3, d4, d5, d6⟩ := b5 f hf
    exact ⟨d1, d2, d3, d4, d5, fun s hs => by rw [own f (fa f + 2) s hf (own_a 2 (by decide))]; exact d6 s hs⟩
  · obtain ⟨-, m1, m2, m3, m4, m5, m6⟩ := M
    exact ⟨L', by rw [lo 38 24 (by decide) (by unfold A3; omega)]; exact m1, m2, fun f hf => by rw [lo 42 f (by decide) (by unfold A3; omega), lo 55 f (by decide) (by unfold A3; omega)]; exact ⟨(m3 f hf).1, (m3 f hf).2.1, (m3 f hf).2.2.1, fun i w => Nat.lt_of_lt_of_le ((m3 f hf).2.2.2 i w) hr⟩, MR', fun i hi => (CT'.2.2 i hi).2.2.2.2, fun s hs => by rw [lo 41 s (by decide) (by unfold A3; omega)]; exact m6 s hs⟩
  · obtain ⟨z1, z2, z3, z4⟩ := Z
    refine ⟨fun f hf => ?_, ⟨fun s hs => ?_, fun t s w a b c => ?_⟩, ⟨fun s hs => ?_, ?_⟩, ?_⟩
    · obtain ⟨v, i, e⟩ := z1 f hf
      have om : ∀ a k, MO f a k → cm_I h' a k = cm_I h a k := fun a k o => by
        unfold MO at o
        exact lo a k (by omega) (by unfold A3; omega)
      exact ⟨v.congr (h10 f hf) (fun a k o => own f a k hf o) om, i.congr (fun a k o => own f a k hf o), by rw [om 60 f (by unfold MO; omega), ow0 f 17 hf]; exact e⟩
    · have l71 : ∀ k, cm_I h' 71 k = cm_I h 71 k := fun k => lo 71 k (by decide) (by unfold A3; omega)
      rw [l71, l71, l71, l71, l71, lo 15 s (by decide) (by unfold A3; omega), lo 16 s (by decide) (by unfold A3; omega), lo 17 s (by decide) (by unfold A3; omega), lo 18 s (by decide) (by unfold A3; omega), lo 19 s (by decide) (by unfold A3; omega)]
      exact z2.1 s hs
    · rw [lo 68 _ (by decide) (by unfold A3; omega), lo 20 _ (by decide) (by unfold A3; omega)]; exact z2.2 t s w a b c
    · rw [lo 39 s (by decide) (by unfold A3; omega), lo 40 s (by decide) (by unfold A3; omega), lo 41 s (by decide) (by unfold A3; omega), lo 67 s (by decide) (by unfold A3; omega), lo 2 s (by decide) (by unfold A3; omega), lo 3 s (by decide) (by unfold A3; omega), lo 4 s (by decide) (by unfold A3; omega), lo 13 s (by decide) (by unfold A3; omega)]
      exact z3.1 s hs
    · rw [lo 38 48 (by decide) (by unfold A3; omega), lo 12 1 (by decide) (by unfold A3; omega)]; exact z3.2
    · rw [lo 38 0 (by decide) (by unfold A3; omega), lo 0 12 (by decide) (by unfold A3; omega)]; exact z4
end WRULES
