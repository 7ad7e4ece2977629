/-! ===== hours in the world ===== -/
section WHOURS
variable {sc : cmS} {d j : Nat} {h h' : cmH} {x1 : Int32} {P : Nat → Nat → Prop} {N F Rn Q T NL n Re : Nat} {fa C g st pr lc ta nn Tp : Nat → Nat} {cc Tt : Nat → Nat → Nat} {cls : Nat → List CL} {ro : Nat → Option Nat} {A B A' B' : Nat → Nat → Int32}
theorem R0.congr (S : SW F C fa cc) (h10 : ∀ f, f < F → C f ≤ 10) (Z : R0 F Q C fa cc A B) (a : ∀ x k, x < 38 ∨ 88 ≤ x → A' x k = A x k) (b : ∀ x k, 38 ≤ x → x < 88 → B' x k = B x k) : R0 F Q C fa cc A' B' := by
  obtain ⟨z1, z2, z3, z4⟩ := Z
  refine ⟨fun f hf => ?_, ⟨fun s hs => ?_, fun t s w p q r => ?_⟩, ⟨fun s hs => ?_, ?_⟩, ?_⟩
  · obtain ⟨v, i, e⟩ := z1 f hf
    have oo : ∀ x k, OWN (fa f) (C f) (cc f) x → A' x k = A x k := fun x k o => a x k (Or.inr (S.own88 hf o))
    have om : ∀ x k, MO f x k → B' x k = B x k := fun x k o => b x k (by unfold MO at o; omega) (by unfold MO at o; omega)
    exact ⟨v.congr (h10 f hf) oo om, i.congr oo, by rw [b 60 f (by decide) (by decide), a (fa f) 17 (Or.inr (S.1 f hf))]; exact e⟩
  · have l71 : ∀ k, B' 71 k = B 71 k := fun k => b 71 k (by decide) (by decide)
    rw [l71, l71, l71, l71, l71, a 15 s (by decide), a 16 s (by decide), a 17 s (by decide), a 18 s (by decide), a 19 s (by decide)]
    exact z2.1 s hs
  · rw [b 68 _ (by decide) (by decide), a 20 _ (by decide)]; exact z2.2 t s w p q r
  · rw [b 39 s (by decide) (by decide), b 40 s (by decide) (by decide), b 41 s (by decide) (by decide), b 67 s (by decide) (by decide), a 2 s (by decide), a 3 s (by decide), a 4 s (by decide), a 13 s (by decide)]
    exact z3.1 s hs
  · rw [b 38 48 (by decide) (by decide), a 12 1 (by decide)]; exact z3.2
  · rw [b 38 0 (by decide) (by decide), a 0 12 (by decide)]; exact z4
theorem MSt.gx (M : MSt h F Rn C cls ro) (x : GX h h' P) (p : ∀ a k, 38 ≤ a → a < 88 → ¬ P a k) : MSt h' F Rn C cls ro := by
  obtain ⟨L, m1, m2, m3, m4, m5, m6⟩ := M
  have o : ∀ a k, 38 ≤ a → a < 88 → cm_I h' a k = cm_I h a k := fun a k p1 p2 => x.2.1 a k (p a k p1 p2)
  refine ⟨x.ly L, by rw [o 38 24 (by decide) (by decide)]; exact m1, m2, fun f hf => by rw [o 42 f (by decide) (by decide), o 55 f (by decide) (by decide)]; exact m3 f hf, ⟨by rw [o 38 34 (by decide) (by decide)]; exact m4.1, m4.2.1, fun j hj => ?_⟩, m5, fun s hs => by rw [o 41 s (by decide) (by decide)]; exact m6 s hs⟩
  obtain ⟨r1, r2, r3, r4⟩ := m4.2.2 j hj
  exact ⟨by rw [o 64 _ (by decide) (by decide)]; exact r1, r2, fun i y hy => by rw [o 63 _ (by decide) (by decide)]; exact r3 i y hy, r4⟩
theorem SC.m (S : SC h N F Rn C fa cc ta nn Tt cls ro) (x : GX h h' P) (p : ∀ a k, a < 38 ∨ 88 ≤ a → ¬ P a k) : SC h' N F Rn C fa cc ta nn Tt cls ro := by
  obtain ⟨L, G, GC, W, CT, R⟩ := S
  refine ⟨x.ly L, x.FS G (p 0 10 (by decide)), fun f hf => x.FC L (GC f hf) (p _ _ (Or.inr (W.1 f hf))) (fun c hc => p _ _ (Or.inr (W.2.2.1 f c hf hc).1)), W, ⟨by rw [x.2.1 0 11 (p 0 11 (by decide))]; exact CT.1, CT.2.1, fun j hj => ?_⟩, fun f hf => ⟨by rw [x.2.1 _ _ (p _ _ (Or.inr (W.1 f hf)))]; exact (R f hf).1, (R f hf).2⟩⟩
  obtain ⟨c1, c2, c3, c4⟩ := CT.2.2 j hj
  have e := x.e
  exact ⟨by rw [x.2.2 8 j (by omega)]; exact c1, c2, e.TXT c3 (fun k => ⟨p _ _ (Or.inr c2), p _ _ (Or.inr (by omega))⟩) (fun k w => by omega), c4⟩
theorem CB.m {B0 : Nat} (G : CB A F Q C fa g st pr T B0) (S : SW F C fa cc) (a : ∀ x k, x < 38 ∨ 88 ≤ x → A' x k = A x k) : CB A' F Q C fa g st pr T B0 := by
  obtain ⟨b1, b2, b3, b4, b5⟩ := G
  refine ⟨by rw [a 0 12 (by decide)]; exact b1, by rw [a 12 1 (by decide)]; exact b2, b3, fun s hs => by rw [a 13 s (by decide), a 2 s (by decide)]; exact b4 s hs, fun f hf => ?_⟩
  have h88 := S.1 f hf
  rw [a (fa f) 4 (Or.inr h88), a (fa f) 8 (Or.inr h88), a (fa f) 19 (Or.inr h88)]
  obtain ⟨d1, d2, d3, d4, d5, d6⟩ := b5 f hf
  exact ⟨d1, d2, d3, d4, d5, fun s hs => by rw [a (fa f + 2) s (Or.inr (by omega))]; exact d6 s hs⟩
theorem MP.own {x k : Nat} (q : MP F C fa cc x k) : x = 9 ∨ x = 10 ∨ (15 ≤ x ∧ x ≤ 20) ∨ (x = 0 ∧ k = 12) ∨ ∃ f, f < F ∧ OWN (fa f) (C f) (cc f) x := by
  rcases q with q | q | q | q | ⟨f, hf, q | q | q | ⟨c, hc, q⟩⟩
  · exact Or.inl q
  · exact Or.inr (Or.inl q)
  · exact Or.inr (Or.inr (Or.inl q))
  · exact Or.inr (Or.inr (Or.inr (Or.inl q)))
  · exact Or.inr (Or.inr (Or.inr (Or.inr ⟨f, hf, Or.inl ⟨by omega, by omega⟩⟩)))
  · exact Or.inr (Or.inr (Or.inr (Or.inr ⟨f, hf, Or.inl ⟨by omega, by omega⟩⟩)))
  · exact Or.inr (Or.inr (Or.inr (Or.inr ⟨f, hf, Or.inl ⟨by omega, by omega⟩⟩)))
  · exact Or.inr (Or.inr (Or.inr (Or.inr ⟨f, hf, Or.inr ⟨c, hc, by omega, by omega⟩⟩)))
theorem MHQ.in {x k : Nat} (q : MHQ x k) : (38 ≤ x ∧ x ≤ 76) ∧ x ≠ 61 ∧ x ≠ 49 ∧ (x = 38 → k = 37 ∨ k = 0) := by unfold MHQ at q; omega
theorem w_hours (W : WLD j h) : STi sc (d + 200) (d + 201) 60 185 [.ref 0, .int x1] [.ref 38, .int x1] j h := by
  have Wu := W.up
  obtain ⟨F, Rn, Q, T, NL, n, Re, C, fa, g, st, pr, lc, ta, nn, Tp, cc, Tt, cls, ro, H, tp, la, oc, cg, rg, hn, hs, fe⟩ := W
  obtain ⟨S, B, hT, M, Z⟩ := H
  have L := S.1
  have SWW := S.2.2.2.1
  have h10 : ∀ f, f < F → C f ≤ 10 := fun f hf => (S.2.2.1 f hf).2.2.1
  have h0 : cm_I h 38 0 = nI T := Z.2.2.2.trans B.1
  refine c_hours (N := 3000) (Nat.le_refl _) (by omega) hT S B (fun m hm htm e z Sz Bz Xz Hz => ?_) (fun q => ⟨L, m_hours_no (d := d + 194) L h0 hT q ⟨rfl, Wu⟩⟩)
  subst e
  have nmp : ∀ a k, 38 ≤ a → a < 88 → ¬ MP F C fa cc a k := fun a k p q => MP.lo SWW q (by omega) (by omega) (by omega) (by omega)
  have Mz := M.gx Xz nmp
  have Rz : R0 F Q C fa cc (cm_I h) (cm_I z) := Z.congr SWW h10 (fun _ _ _ => rfl) (fun a k p q => Xz.2.1 a k (nmp a k p q))
  refine ⟨Sz.1, m_hours (d := d + 194) hm htm SWW Mz Rz B.1 Hz (fun y Yy2 Ry => ⟨rfl, ?_⟩)⟩
  have Yy : XI z y MHQ := Yy2.mono fun _ _ q => q.1
  have ny : ∀ a k, a < 38 ∨ 88 ≤ a → ¬ MHQ a k := fun a k p q => by have := q.in; omega
  have oy : ∀ a k, a < 38 ∨ 88 ≤ a → cm_I y a k = cm_I z a k := fun a k p => Yy.2 a k (ny a k p)
  have c1 : HS y F Rn C fa cc ta nn Tt cls ro Q (T + m) g st pr := ⟨Sz.m Yy.g ny, Bz.m SWW oy, htm, Mz.x Yy, Ry.congr SWW h10 oy (fun _ _ _ _ => rfl)⟩
  have x : EX h y (fun a k => MP F C fa cc a k ∨ MHQ a k) (fun a k => a = 9 ∧ k = 1) := (Xz.e.mono (fun _ _ q => Or.inl q) (fun _ _ q => q)).trans (Yy.e.mono (fun _ _ q => Or.inr q) (fun _ _ q => absurd q id))
  have no : ∀ a k, (fun a k => MP F C fa cc a k ∨ MHQ a k) a k → a = 9 ∨ a = 10 ∨ (15 ≤ a ∧ a ≤ 20) ∨ (a = 0 ∧ k = 12) ∨ ((38 ≤ a ∧ a ≤ 76) ∧ a ≠ 61 ∧ a ≠ 49 ∧ (a = 38 → k = 37 ∨ k = 0)) ∨ ∃ f, f < F ∧ OWN (fa f) (C f) (cc f) a := fun a k q => by
    rcases q with q | q
    · rcases q.own with q | q | q | q | q
      · exact Or.inl q
      · exact Or.inr (Or.inl q)
      · exact Or.inr (Or.inr (Or.inl q))
      · exact Or.inr (Or.inr (Or.inr (Or.inl q)))
      · exact Or.inr (Or.inr (Or.inr (Or.inr (Or.inr q))))
    · exact Or.inr (Or.inr (Or.inr (Or.inr (Or.inl q.in))))
  have nlo : ∀ a k, a < 88 → a ≠ 9 → a ≠ 10 → (a < 15 ∨ 20 < a) → a ≠ 0 → (a < 38 ∨ 76 < a ∨ a = 61 ∨ a = 49 ∨ (a = 38 ∧ k ≠ 37 ∧ k ≠ 0)) → ¬ (fun a k => MP F C fa cc a k ∨ MHQ a k) a k := fun a k p1 p2 p3 p4 p5 p6 w => by
    rcases no a k w with q | q | q | q | q | ⟨f, hf, q⟩
    · exact p2 q
    · exact p3 q
    · omega
    · exact p5 q.1
    · obtain ⟨q1, q2, q3, q4⟩ := q
      rcases p6 with v | v | v | v | v
      · omega
      · omega
      · exact q2 v
      · exact q3 v
      · have := q4 v.1; omega
    · have := SWW.own88 hf q; omega
  have c2 := tp.fr L x (fun k => ⟨nlo 6 1 (by decide) (by decide) (by decide) (by decide) (by decide) (by decide), nlo 38 29 (by decide) (by decide) (by decide) (by decide) (by decide) (by decide), nlo 7 k (by decide) (by decide) (by decide) (by decide) (by decide) (Or.inl (by decide)), nlo 61 k (by decide) (by decide) (by decide) (by decide) (by decide) (Or.inr (Or.inr (Or.inl rfl)))⟩)
  have c5 := cg.fr L x (fun k => ⟨nlo 30 2 (by decide) (by decide) (by decide) (by decide) (by decide) (by decide), nlo 38 57 (by decide) (by decide) (by decide) (by decide) (by decide) (by decide), nlo 31 k (by decide) (by decide) (by decide) (by decide) (by decide) (Or.inl (by decide)), nlo 81 k (by decide) (by decide) (by decide) (by decide) (by decide) (Or.inr (Or.inl (by decide)))⟩)
  have c6 := rg.fr L x (fun a k q => nlo a k (by omega) (by omega) (by omega) (by omega) (by omega) (by omega))
  have c4 := oc.fr L x (fun a k q => nlo a k (by omega) (by omega) (by omega) (by omega) (by omega) (by omega))
  have c3 := la.fr L SWW x (fun a k q => nlo a k (by omega) (by omega) (by omega) (by omega) (by omega) (by omega)) (fun c hc w => by
    have h88 := lc88 la hc
    rcases no _ _ w with q | q | q | q | q | ⟨f, hf, q⟩
    · omega
    · omega
    · omega
    · omega
    · have := q.1; omega
    · exact la.2.2.2.2.2.1 c (lc c) f hc (Nat.le_refl _) (by omega) hf q) (fun a k q => Or.inl q)
  have xx : EX h y (fun a k => MP F C fa cc a k ∨ MHQ2 F C a k) (fun a k => a = 9 ∧ k = 1) := (Xz.e.mono (fun _ _ q => Or.inl q) (fun _ _ q => q)).trans (Yy2.e.mono (fun _ _ q => Or.inr q) (fun _ _ q => absurd q id))
  have c7 := fe.fr L xx (fun a k q w => by
    rcases q with q | q
    · unfold FP at w
      rcases q.own with q | q | q | q | ⟨f, hf, q⟩
      · omega
      · omega
      · omega
      · omega
      · have := SWW.own88 hf q; omega
    · exact q.2 w)
  exact ⟨F, Rn, Q, T + m, NL, n, Re, C, fa, g, st, pr, lc, ta, nn, Tp, cc, Tt, cls, ro, c1, c2, c3, c4, c5, c6, by rw [Yy.ns.1, Xz.nn]; omega, by rw [Yy.ns.2, Xz.sl]; omega, c7⟩
end WHOURS
