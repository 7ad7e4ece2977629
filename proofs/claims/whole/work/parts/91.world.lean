/-! ===== the world: what holds between two calls ===== -/
section WORLD
/-- cells may be added; ints change at P, references at R -/
def EX (h h' : cmH) (P R : Nat → Nat → Prop) : Prop := cm_n h ≤ cm_n h' ∧ ∀ a, a < cm_n h → cm_kd h' a = cm_kd h a ∧ cm_ln h' a = cm_ln h a ∧ (∀ k, ¬ P a k → cm_I h' a k = cm_I h a k) ∧ ∀ k, ¬ R a k → cm_R h' a k = cm_R h a k
variable {h h' : cmH} {P R : Nat → Nat → Prop} {F Rn Q T NL n Re : Nat} {fa C g st pr lc ta nn Tp : Nat → Nat} {cc Tt : Nat → Nat → Nat} {cls : Nat → List CL} {ro : Nat → Option Nat}
theorem GX.e (x : GX h h' P) : EX h h' P (fun a k => a = 9 ∧ k = 1) := ⟨by rw [x.nn]; exact Nat.le_refl _, fun a _ => ⟨by rw [x.kd], by rw [x.ln], fun k q => x.2.1 a k q, fun k q => x.2.2 a k q⟩⟩
theorem AG.e (x : AG h h') : EX h h' (fun _ _ => False) (fun _ _ => False) := ⟨x.1, fun a ha => ⟨(x.2 a ha).1, (x.2 a ha).2.1, fun k _ => ((x.2 a ha).2.2 k).1, fun k _ => ((x.2 a ha).2.2 k).2.2⟩⟩
theorem EX.mono {P' R' : Nat → Nat → Prop} (x : EX h h' P R) (p : ∀ a k, P a k → P' a k) (r : ∀ a k, R a k → R' a k) : EX h h' P' R' := ⟨x.1, fun a ha => ⟨(x.2 a ha).1, (x.2 a ha).2.1, fun k q => (x.2 a ha).2.2.1 k fun w => q (p a k w), fun k q => (x.2 a ha).2.2.2 k fun w => q (r a k w)⟩⟩
theorem EX.trans {h'' : cmH} (x : EX h h' P R) (y : EX h' h'' P R) : EX h h'' P R := ⟨Nat.le_trans x.1 y.1, fun a ha => by
  have ha' : a < cm_n h' := Nat.lt_of_lt_of_le ha x.1
  exact ⟨((y.2 a ha').1).trans (x.2 a ha).1, ((y.2 a ha').2.1).trans (x.2 a ha).2.1, fun k q => ((y.2 a ha').2.2.1 k q).trans ((x.2 a ha).2.2.1 k q), fun k q => ((y.2 a ha').2.2.2 k q).trans ((x.2 a ha).2.2.2 k q)⟩⟩
theorem EX.set {a k : Nat} {v : Int32} (x : EX h h' P R) (p : P a k) : EX h (cm_setI h' a k v) P R := ⟨x.1, fun b hb => ⟨(x.2 b hb).1, (x.2 b hb).2.1, fun j q => (sI_o (by
  by_cases e : b = a
  · by_cases e2 : j = k
    · subst e e2; exact absurd p q
    · exact Or.inr e2
  · exact Or.inl e)).trans ((x.2 b hb).2.2.1 j q), (x.2 b hb).2.2.2⟩⟩
theorem EX.setR {a k : Nat} {v : Option Nat} (x : EX h h' P R) (p : R a k) : EX h (cm_setR h' a k v) P R := ⟨x.1, fun b hb => ⟨(x.2 b hb).1, (x.2 b hb).2.1, (x.2 b hb).2.2.1, fun j q => by
  rw [sR_R, if_neg (fun w => q (by rw [w.1, w.2]; exact p))]; exact (x.2 b hb).2.2.2 j q⟩⟩
theorem EX.ly (x : EX h h' P R) (L : LY h) (r : ∀ e ∈ ly_R, ¬ R e.1 e.2.1) : LY h' := by
  obtain ⟨a, b, c⟩ := L
  refine ⟨Nat.le_trans a x.1, fun i k n q => ?_, fun i f j q => ?_⟩
  · have hi := x.2 i (Nat.lt_of_lt_of_le (ly_lt q) a)
    rw [hi.1, hi.2.1]; exact b i k n q
  · have hi := x.2 i (Nat.lt_of_lt_of_le (ly_RL _ q) a)
    rw [hi.2.2.2 f (r _ q)]; exact c i f j q
theorem EX.FL {a : Nat} (x : EX h h' P R) (G : FL h a) (r : ∀ k, ¬ R a k) : FL h' a := by
  obtain ⟨f1, f2, f3, f4, f5, f6, f7, f8⟩ := G
  have e : ∀ i, i ≤ 3 → cm_kd h' (a + i) = cm_kd h (a + i) ∧ cm_ln h' (a + i) = cm_ln h (a + i) := fun i hi => ⟨(x.2 (a + i) (by omega)).1, (x.2 (a + i) (by omega)).2.1⟩
  have h0 := x.2 a (by omega)
  have h1 := x.1
  exact ⟨by rw [h0.1]; exact f1, by omega, by rw [h0.2.2.2 _ (r _)]; exact f3, by rw [h0.2.2.2 _ (r _)]; exact f4, by rw [h0.2.2.2 _ (r _)]; exact f5, by rw [(e 1 (by decide)).1, (e 1 (by decide)).2]; exact f6, by rw [(e 2 (by decide)).1, (e 2 (by decide)).2]; exact f7, by rw [(e 3 (by decide)).1, (e 3 (by decide)).2]; exact f8⟩
theorem EX.CE {a : Nat} (x : EX h h' P R) (G : CE h a) (r : ∀ k, ¬ R a k) : CE h' a := by
  obtain ⟨f1, f2, f3, f4, f5, f6⟩ := G
  have e : ∀ i, i ≤ 2 → cm_kd h' (a + i) = cm_kd h (a + i) ∧ cm_ln h' (a + i) = cm_ln h (a + i) := fun i hi => ⟨(x.2 (a + i) (by omega)).1, (x.2 (a + i) (by omega)).2.1⟩
  have h0 := x.2 a (by omega)
  have h1 := x.1
  exact ⟨by rw [h0.1]; exact f1, by omega, by rw [h0.2.2.2 _ (r _)]; exact f3, by rw [h0.2.2.2 _ (r _)]; exact f4, by rw [(e 1 (by decide)).1, (e 1 (by decide)).2]; exact f5, by rw [(e 2 (by decide)).1, (e 2 (by decide)).2]; exact f6⟩
theorem EX.TXT {a m : Nat} {T0 : Nat → Nat} (x : EX h h' P R) (G : TXT h a T0 m) (p : ∀ k, ¬ P a k ∧ ¬ P (a + 1) k) (r : ∀ k, ¬ R a k) : TXT h' a T0 m := by
  obtain ⟨⟨a1, a2, a3, a4⟩, b, c, e, f, g⟩ := G
  have h0 := x.2 a (by omega)
  have h1 := x.2 (a + 1) a2
  have h2 := x.1
  exact ⟨⟨by rw [h0.1]; exact a1, by omega, by rw [h0.2.2.2 _ (r _)]; exact a3, by rw [h1.1]; exact a4⟩, by rw [h0.2.2.1 _ (p _).1]; exact b, by rw [h1.2.1]; exact c, by rw [h1.2.1]; exact e, f, fun k hk => by rw [h1.2.2.1 _ (p _).2]; exact g k hk⟩
/-- the house: filters, cells, texts, stream, books, on both sides -/
def HS (h : cmH) (F Rn : Nat) (C fa : Nat → Nat) (cc : Nat → Nat → Nat) (ta nn : Nat → Nat) (Tt : Nat → Nat → Nat) (cls : Nat → List CL) (ro : Nat → Option Nat) (Q T : Nat) (g st pr : Nat → Nat) : Prop := SC h 3000 F Rn C fa cc ta nn Tt cls ro ∧ CB (cm_I h) F Q C fa g st pr T (10000 * T) ∧ T ≤ 2000 ∧ MSt h F Rn C cls ro ∧ R0 F Q C fa cc (cm_I h) (cm_I h)
/-- places that the house doesn't lean on -/
def A1 (h : cmH) (F : Nat) (C fa : Nat → Nat) (cc : Nat → Nat → Nat) (x k : Nat) : Prop := x = 9 ∨ x = 10 ∨ x = 6 ∨ x = 7 ∨ (21 ≤ x ∧ x ≤ 37) ∨ (x = 38 ∧ k ≠ 0 ∧ k ≠ 24 ∧ k ≠ 34 ∧ k ≠ 48) ∨ (x = 42 ∧ 8 ≤ k) ∨ ((x = 43 ∨ x = 44 ∨ x = 45) ∧ 80 ≤ k) ∨ ((x = 46 ∨ x = 47) ∧ 640 ≤ k) ∨ (x = 48 ∧ 64 ≤ k) ∨ x = 61 ∨ x = 62 ∨ x = 65 ∨ x = 66 ∨ (72 ≤ x ∧ x ≤ 87 ∧ x ≠ 74) ∨ (88 ≤ x ∧ (x < cm_n h → cm_kd h x ≠ 9 ∧ cm_kd h x ≠ 12) ∧ ∀ f, f < F → ¬ OWN (fa f) (C f) (cc f) x)
theorem HS.fr (H : HS h F Rn C fa cc ta nn Tt cls ro Q T g st pr) (x : EX h h' P R) (p : ∀ a k, P a k → A1 h F C fa cc a k) (r : ∀ a k, R a k → (a = 9 ∧ k = 1) ∨ a = 27) : HS h' F Rn C fa cc ta nn Tt cls ro Q T g st pr := by
  obtain ⟨⟨L, G, GC, W, CT, RR⟩, B, hT, M, Z⟩ := H
  have h88 := L.1
  have hF := G.2.1
  have h10 : ∀ f, f < F → C f ≤ 10 := fun f hf => (GC f hf).2.2.1
  have rl : ∀ e ∈ ly_R, ¬ R e.1 e.2.1 := by
    intro e he w
    rcases r _ _ w with q | q
    · exact ly_91 e he q
    · have : ∀ e ∈ ly_R, e.1 ≠ 27 := by decide
      exact this e he q
  have L' := x.ly L rl
  -- what stays
  have lo : ∀ a k, a < 88 → ¬ A1 h F C fa cc a k → cm_I h' a k = cm_I h a k := fun a k ha q => (x.2 a (by omega)).2.2.1 k fun w => q (p a k w)
  have own : ∀ f a k, f < F → OWN (fa f) (C f) (cc f) a → cm_I h' a k = cm_I h a k := fun f a k hf o => by
    have h1 := W.own88 hf o
    have ha : a < cm_n h := by
      rcases o with o | ⟨c, hc, o⟩
      · have := (GC f hf).1.2.1; omega
      · have := ((GC f hf).2.2.2 c hc).2.1.2.1; omega
    refine (x.2 a ha).2.2.1 k fun w => ?_
    have := p a k w
    unfold A1 at this
    rcases this with q | q | q | q | q | q | q | q | q | q | q | q | q | q | q | ⟨-, -, q⟩
    all_goals first | omega | exact q f hf o
  have ow0 : ∀ f k, f < F → cm_I h' (fa f) k = cm_I h (fa f) k := fun f k hf => own f (fa f + 0) k hf (own_a 0 (by decide))
  have oc0 : ∀ f c k, f < F → c < C f → cm_I h' (cc f c) k = cm_I h (cc f c) k := fun f c k hf hc => own f (cc f c + 0) k hf (own_c hc 0 (by decide))
  have G' : FS h' F fa := ⟨by rw [lo 0 10 (by decide) (by unfold A1; omega)]; exact G.1, hF, fun f hf => by rw [(x.2 5 (by omega)).2.2.2 f (fun w => by have := r _ _ w; omega)]; exact G.2.2 f hf⟩
  have nR : ∀ a, 88 ≤ a → ∀ k, ¬ R a k := fun a ha k w => by have := r _ _ w; omega
  have GC' : ∀ f, f < F → FC h' (fa f) (C f) (cc f) := fun f hf => by
    obtain ⟨g1, g2, g3, g4⟩ := GC f hf
    have a88 := W.1 f hf
    refine ⟨x.FL g1 (nR _ a88), by rw [ow0 f 3 hf]; exact g2, g3, fun c hc => ⟨?_, x.CE (g4 c hc).2.1 (nR _ (W.2.2.1 f c hf hc).1), by rw [oc0 f c 5 hf hc]; exact (g4 c hc).2.2⟩⟩
    have := g1.2.1
    rw [(x.2 (fa f + 1) (by omega)).2.2.2 c (nR _ (by omega) _)]; exact (g4 c hc).1
  have CT' : CTx h' 3000 Rn ta nn Tt cls := by
    refine ⟨by rw [lo 0 11 (by decide) (by unfold A1; omega)]; exact CT.1, CT.2.1, fun j hj => ?_⟩
    obtain ⟨c1, c2, c3, c4⟩ := CT.2.2 j hj
    have kd1 := c3.1.1
    have kd2 := c3.1.2.2.2
    have np : ∀ a k, 88 ≤ a → a < cm_n h → cm_kd h a = 9 ∨ cm_kd h a = 12 → ¬ P a k := fun a k ha hn hk w => by
      have := p a k w
      unfold A1 at this
      rcases this with q | q | q | q | q | q | q | q | q | q | q | q | q | q | q | ⟨-, q, -⟩
      all_goals first | omega | (have := q hn; omega)
    have hn := c3.1.2.1
    exact ⟨by rw [(x.2 8 (by omega)).2.2.2 j (fun w => by have := r _ _ w; omega)]; exact c1, c2, x.TXT c3 (fun k => ⟨np _ k c2 (by omega) (Or.inl kd1), np _ k (by omega) hn (Or.inr kd2)⟩) (nR _ c2), c4⟩
  refine ⟨⟨L', G', GC', W, CT', fun f hf => by rw [ow0 f 7 hf]; exact RR f hf⟩, ?_, hT, ?_, ?_⟩
  · obtain ⟨b1, b2, b3, b4, b5⟩ := B
    refine ⟨by rw [lo 0 12 (by decide) (by unfold A1; omega)]; exact b1, by rw [lo 12 1 (by decide) (by unfold A1; omega)]; exact b2, b3, fun s hs => by rw [lo 13 s (by decide) (by unfold A1; omega), lo 2 s (by decide) (by unfold A1; omega)]; exact b4 s hs, fun f hf => ?_⟩
    rw [ow0 f 4 hf, ow0 f 8 hf, ow0 f 19 hf]
    obtain ⟨d1, d2, d3, d4, d5, d6⟩ := b5 f hf
    exact ⟨d1, d2, d3, d4, d5, fun s hs => by rw [own f (fa f + 2) s hf (own_a 2 (by decide))]; exact d6 s hs⟩
  · obtain ⟨-, m1, m2, m3, m4, m5, m6⟩ := M
    refine ⟨L', by rw [lo 38 24 (by decide) (by unfold A1; omega)]; exact m1, m2, fun f hf => by rw [lo 42 f (by decide) (by unfold A1; omega), lo 55 f (by decide) (by unfold A1; omega)]; exact m3 f hf, ⟨by rw [lo 38 34 (by decide) (by unfold A1; omega)]; exact m4.1, m4.2.1, fun j hj => ?_⟩, m5, fun s hs => by rw [lo 41 s (by decide) (by unfold A1; omega)]; exact m6 s hs⟩
    obtain ⟨r1, r2, r3, r4⟩ := m4.2.2 j hj
    exact ⟨by rw [lo 64 _ (by decide) (by unfold A1; omega)]; exact r1, r2, fun i y hy => by rw [lo 63 _ (by decide) (by unfold A1; omega)]; exact r3 i y hy, r4⟩
  · obtain ⟨z1, z2, z3, z4⟩ := Z
    refine ⟨fun f hf => ?_, ⟨fun s hs => ?_, fun t s w a b c => ?_⟩, ⟨fun s hs => ?_, ?_⟩, ?_⟩
    · obtain ⟨v, i, e⟩ := z1 f hf
      have om : ∀ a k, MO f a k → cm_I h' a k = cm_I h a k := fun a k o => by
        have h10 := h10 f hf
        unfold MO at o
        exact lo a k (by omega) (by unfold A1; omega)
      exact ⟨v.congr (h10 f hf) (fun a k o => own f a k hf o) om, i.congr (fun a k o => own f a k hf o), by rw [om 60 f (by unfold MO; omega), ow0 f 17 hf]; exact e⟩
    · have l71 : ∀ k, cm_I h' 71 k = cm_I h 71 k := fun k => lo 71 k (by decide) (by unfold A1; omega)
      rw [l71, l71, l71, l71, l71, lo 15 s (by decide) (by unfold A1; omega), lo 16 s (by decide) (by unfold A1; omega), lo 17 s (by decide) (by unfold A1; omega), lo 18 s (by decide) (by unfold A1; omega), lo 19 s (by decide) (by unfold A1; omega)]
      exact z2.1 s hs
    · rw [lo 68 _ (by decide) (by unfold A1; omega), lo 20 _ (by decide) (by unfold A1; omega)]; exact z2.2 t s w a b c
    · rw [lo 39 s (by decide) (by unfold A1; omega), lo 40 s (by decide) (by unfold A1; omega), lo 41 s (by decide) (by unfold A1; omega), lo 67 s (by decide) (by unfold A1; omega), lo 2 s (by decide) (by unfold A1; omega), lo 3 s (by decide) (by unfold A1; omega), lo 4 s (by decide) (by unfold A1; omega), lo 13 s (by decide) (by unfold A1; omega)]
      exact z3.1 s hs
    · rw [lo 38 48 (by decide) (by unfold A1; omega), lo 12 1 (by decide) (by unfold A1; omega)]; exact z3.2
    · rw [lo 38 0 (by decide) (by unfold A1; omega), lo 0 12 (by decide) (by unfold A1; omega)]; exact z4
end WORLD
