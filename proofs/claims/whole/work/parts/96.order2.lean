/-! ===== gauge, order, worth in the world ===== -/
section WORD
variable {sc : cmS} {d j : Nat} {h h' : cmH} {x1 x2 x3 x4 x5 x6 x7 x8 : Int32} {P R : Nat → Nat → Prop} {F Rn Q T NL n Re : Nat} {fa C g st pr lc ta nn Tp : Nat → Nat} {cc Tt : Nat → Nat → Nat} {cls : Nat → List CL} {ro : Nat → Option Nat}
theorem w_gauge (W : WLD j h) : STi sc (d + 200) (d + 201) 115 215 [.ref 0, .int x1, .int x2, .int x3, .int x4] [.ref 38, .int x1, .int x2, .int x3, .int x4] j h := by
  have Wu := W.up
  obtain ⟨F, Rn, Q, T, NL, n, Re, C, fa, g, st, pr, lc, ta, nn, Tp, cc, Tt, cls, ro, H, tp, la, oc, cg, rg, hn, hs, fe⟩ := W
  have MF' := H.mf
  obtain ⟨⟨L, G, GC, S, -⟩, B, hT, M, Z⟩ := id H
  have h8 := G.2.1
  refine c_gauge L G GC rg.1 rg.2.2.1 (fun f c hf hc e1 e2 gg hR => ?_) (fun q => ⟨L, m_gauge L MF' rg.2.1 rg.2.2.1 (fun f c hf hc e1 e2 gg hR => absurd hR (q f c hf hc e1 e2 gg)) (fun _ => ⟨rfl, Wu⟩)⟩)
  have X1 : XI h (cm_setI (cm_setI (cm_setI (cm_setI (cm_setI h 34 Re (nI (10 * f + c))) 35 Re x3) 36 Re x4) 37 Re (cm_I h 0 12)) 33 4 (nI (Re + 1))) (fun a k => ((34 ≤ a ∧ a ≤ 37) ∧ k = Re) ∨ (a = 33 ∧ k = 4)) := ((((XI.refl.set (Or.inl ⟨by decide, rfl⟩)).set (Or.inl ⟨by decide, rfl⟩)).set (Or.inl ⟨by decide, rfl⟩)).set (Or.inl ⟨by decide, rfl⟩)).set (Or.inr ⟨rfl, rfl⟩)
  have v34 : cm_I (cm_setI (cm_setI (cm_setI (cm_setI (cm_setI h 34 Re (nI (10 * f + c))) 35 Re x3) 36 Re x4) 37 Re (cm_I h 0 12)) 33 4 (nI (Re + 1))) 34 Re = nI (10 * f + c) := by rw [sI_o (Or.inl (by decide)), sI_o (Or.inl (by decide)), sI_o (Or.inl (by decide)), sI_o (Or.inl (by decide)), sI_s]
  have v35 : cm_I (cm_setI (cm_setI (cm_setI (cm_setI (cm_setI h 34 Re (nI (10 * f + c))) 35 Re x3) 36 Re x4) 37 Re (cm_I h 0 12)) 33 4 (nI (Re + 1))) 35 Re = x3 := by rw [sI_o (Or.inl (by decide)), sI_o (Or.inl (by decide)), sI_o (Or.inl (by decide)), sI_s]
  have v36 : cm_I (cm_setI (cm_setI (cm_setI (cm_setI (cm_setI h 34 Re (nI (10 * f + c))) 35 Re x3) 36 Re x4) 37 Re (cm_I h 0 12)) 33 4 (nI (Re + 1))) 36 Re = x4 := by rw [sI_o (Or.inl (by decide)), sI_o (Or.inl (by decide)), sI_s]
  have v37 : cm_I (cm_setI (cm_setI (cm_setI (cm_setI (cm_setI h 34 Re (nI (10 * f + c))) 35 Re x3) 36 Re x4) 37 Re (cm_I h 0 12)) 33 4 (nI (Re + 1))) 37 Re = cm_I h 0 12 := by rw [sI_o (Or.inl (by decide)), sI_s]
  have v33 : cm_I (cm_setI (cm_setI (cm_setI (cm_setI (cm_setI h 34 Re (nI (10 * f + c))) 35 Re x3) 36 Re x4) 37 Re (cm_I h 0 12)) 33 4 (nI (Re + 1))) 33 4 = nI (Re + 1) := sI_s
  generalize (cm_setI (cm_setI (cm_setI (cm_setI (cm_setI h 34 Re (nI (10 * f + c))) 35 Re x3) 36 Re x4) 37 Re (cm_I h 0 12)) 33 4 (nI (Re + 1))) = h1 at X1 v34 v35 v36 v37 v33 ⊢
  have L1 := X1.ly L
  have o : ∀ a k, (a < 33 ∨ 37 < a) → cm_I h1 a k = cm_I h a k := fun a k q => X1.2 a k (by omega)
  have MF1 : MF (cm_I h1) F C := by
    refine ⟨by rw [o 38 24 (by omega)]; exact MF'.1, MF'.2.1, fun f hf => ?_⟩
    rw [o 42 f (by omega)]
    exact ⟨(MF'.2.2 f hf).1, (MF'.2.2 f hf).2.1, fun c hc => by rw [o 45 _ (by omega)]; exact (MF'.2.2 f hf).2.2 c hc⟩
  refine ⟨L1, m_gauge L1 MF1 (by rw [o 38 62 (by omega)]; exact rg.2.1) rg.2.2.1 (fun f' c' hf' hc' e1' e2' _ _ => ⟨rfl, ?_⟩) (fun q => absurd hR (q f c hf hc e1 e2 gg))⟩
  obtain rfl : f' = f := nI_inj (by omega) (by omega) (e1'.symm.trans e1)
  have h10 := (GC f' hf).2.2.1
  obtain rfl : c' = c := nI_inj (by omega) (by omega) (e2'.symm.trans e2)
  have X2 : XI h1 (cm_setI (cm_setI (cm_setI (cm_setI (cm_setI h1 83 Re (nI (10 * f' + c'))) 84 Re x3) 85 Re x4) 86 Re (cm_I h1 38 0)) 38 62 (nI (Re + 1))) (fun a k => ((83 ≤ a ∧ a ≤ 86) ∧ k = Re) ∨ (a = 38 ∧ k = 62)) := ((((XI.refl.set (Or.inl ⟨by decide, rfl⟩)).set (Or.inl ⟨by decide, rfl⟩)).set (Or.inl ⟨by decide, rfl⟩)).set (Or.inl ⟨by decide, rfl⟩)).set (Or.inr ⟨rfl, rfl⟩)
  have u83 : cm_I (cm_setI (cm_setI (cm_setI (cm_setI (cm_setI h1 83 Re (nI (10 * f' + c'))) 84 Re x3) 85 Re x4) 86 Re (cm_I h1 38 0)) 38 62 (nI (Re + 1))) 83 Re = nI (10 * f' + c') := by rw [sI_o (Or.inl (by decide)), sI_o (Or.inl (by decide)), sI_o (Or.inl (by decide)), sI_o (Or.inl (by decide)), sI_s]
  have u84 : cm_I (cm_setI (cm_setI (cm_setI (cm_setI (cm_setI h1 83 Re (nI (10 * f' + c'))) 84 Re x3) 85 Re x4) 86 Re (cm_I h1 38 0)) 38 62 (nI (Re + 1))) 84 Re = x3 := by rw [sI_o (Or.inl (by decide)), sI_o (Or.inl (by decide)), sI_o (Or.inl (by decide)), sI_s]
  have u85 : cm_I (cm_setI (cm_setI (cm_setI (cm_setI (cm_setI h1 83 Re (nI (10 * f' + c'))) 84 Re x3) 85 Re x4) 86 Re (cm_I h1 38 0)) 38 62 (nI (Re + 1))) 85 Re = x4 := by rw [sI_o (Or.inl (by decide)), sI_o (Or.inl (by decide)), sI_s]
  have u86 : cm_I (cm_setI (cm_setI (cm_setI (cm_setI (cm_setI h1 83 Re (nI (10 * f' + c'))) 84 Re x3) 85 Re x4) 86 Re (cm_I h1 38 0)) 38 62 (nI (Re + 1))) 86 Re = cm_I h1 38 0 := by rw [sI_o (Or.inl (by decide)), sI_s]
  have u62 : cm_I (cm_setI (cm_setI (cm_setI (cm_setI (cm_setI h1 83 Re (nI (10 * f' + c'))) 84 Re x3) 85 Re x4) 86 Re (cm_I h1 38 0)) 38 62 (nI (Re + 1))) 38 62 = nI (Re + 1) := sI_s
  generalize (cm_setI (cm_setI (cm_setI (cm_setI (cm_setI h1 83 Re (nI (10 * f' + c'))) 84 Re x3) 85 Re x4) 86 Re (cm_I h1 38 0)) 38 62 (nI (Re + 1))) = h2 at X2 u83 u84 u85 u86 u62 ⊢
  have o2 : ∀ a k, a < 38 → cm_I h2 a k = cm_I h1 a k := fun a k q => X2.2 a k (by omega)
  have x : EX h h2 (fun a k => (34 ≤ a ∧ a ≤ 37) ∨ (83 ≤ a ∧ a ≤ 86) ∨ (a = 33 ∧ k = 4) ∨ (a = 38 ∧ k = 62)) (fun _ _ => False) := (X1.e.mono (fun a k q => by omega) (fun _ _ q => q)).trans (X2.e.mono (fun a k q => by omega) (fun _ _ q => q))
  have c1 : HS h2 F Rn C fa cc ta nn Tt cls ro Q T g st pr := H.fr x (fun a k q => by
    rcases q with q | q | q | q
    · exact Or.inr (Or.inr (Or.inr (Or.inr (Or.inl ⟨by omega, by omega⟩))))
    · exact Or.inr (Or.inr (Or.inr (Or.inr (Or.inr (Or.inr (Or.inr (Or.inr (Or.inr (Or.inr (Or.inr (Or.inr (Or.inr (Or.inr (Or.inl ⟨by omega, by omega, by omega⟩))))))))))))))
    · exact Or.inr (Or.inr (Or.inr (Or.inr (Or.inl ⟨by omega, by omega⟩))))
    · exact Or.inr (Or.inr (Or.inr (Or.inr (Or.inr (Or.inl ⟨q.1, by omega, by omega, by omega, by omega⟩)))))) (fun a k q => absurd q id)
  have c2 := tp.fr L x (fun k => by omega)
  have c3 := la.fr L S x (fun a k q => by omega) (fun c hc => by have := lc88 la hc; omega) (fun a k q => absurd q id)
  have c4 := oc.fr L x (fun a k q => by omega)
  have c5 := cg.fr L x (fun k => by omega)
  have c6 : RG h2 (Re + 1) := by
    refine ⟨by rw [o2 33 4 (by omega)]; exact v33, u62, by omega, fun i hi => ?_⟩
    by_cases y : i = Re
    · subst y
      rw [u83, u84, u85, u86, o2 34 _ (by omega), o2 35 _ (by omega), o2 36 _ (by omega), o2 37 _ (by omega), v34, v35, v36, v37, o 38 0 (by omega)]
      exact ⟨rfl, rfl, rfl, Z.2.2.2⟩
    · have p2 : ∀ a, 83 ≤ a → a ≤ 86 → cm_I h2 a i = cm_I h a i := fun a p q => by rw [X2.2 a i (by omega), o a i (by omega)]
      have p1 : ∀ a, 34 ≤ a → a ≤ 37 → cm_I h2 a i = cm_I h a i := fun a p q => by rw [o2 a i (by omega), X1.2 a i (by omega)]
      rw [p2 83 (by decide) (by decide), p2 84 (by decide) (by decide), p2 85 (by decide) (by decide), p2 86 (by decide) (by decide), p1 34 (by decide) (by decide), p1 35 (by decide) (by decide), p1 36 (by decide) (by decide), p1 37 (by decide) (by decide)]
      exact rg.2.2.2 i (by omega)
  exact ⟨F, Rn, Q, T, NL, n, Re + 1, C, fa, g, st, pr, lc, ta, nn, Tp, cc, Tt, cls, ro, c1, c2, c3, c4, c5, c6, by rw [X2.ns.1, X1.ns.1]; omega, by rw [X2.ns.2, X1.ns.2]; omega, fe.fr L x (fun a k q w => by unfold FP at w; omega)⟩
theorem w_order (W : WLD j h) : STi sc (d + 200) (d + 201) 103 209 [.ref 0, .int x1, .int x2] [.ref 38, .int x1, .int x2] j h := by
  have Wu := W.up
  obtain ⟨F, Rn, Q, T, NL, n, Re, C, fa, g, st, pr, lc, ta, nn, Tp, cc, Tt, cls, ro, H, tp, la, oc, cg, rg, hn, hs, fe⟩ := W
  obtain ⟨⟨L, G, GC, S, -⟩, B, hT, M, Z⟩ := id H
  obtain ⟨l1, l2, l3, l4, l5, l6, l7, l8, l9⟩ := id la
  have q48 : cm_I h 38 48 = nI Q := Z.2.2.1.2.trans B.2.1
  refine c_order (lc := lc) (st := st) (g := g) (lp := cm_I h 22) (lt := cm_I h 23) L l1 l3 B.2.1 B.2.2.1 (fun m gm => ?_) (fun q => ⟨L, m_order (lp := cm_I h 22) (lt := cm_I h 23) (st := st) (g := g) L l2 l3 q48 B.2.2.1 (fun m gm => absurd gm (q m)) (fun _ => ⟨rfl, Wu⟩)⟩)
  have A : AS h NL Q lc st g := ⟨L, l4, l5, l1, gm.2.2.2.1, l3, l7, B.2.1, gm.2.2.2.2, B.2.2.1, fun s hs => by obtain ⟨a, b, c, e⟩ := B.2.2.2.1 s hs; exact ⟨c, e, a, b⟩⟩
  refine ⟨A, fun _ => rfl, fun _ => rfl, fun i hi => by obtain ⟨-, -, t, e, t1, t2⟩ := l9 i hi; rw [e]; exact nI_le (a := 1) t1 (by omega), fun e7 => ?_, fun h1 X1 AA e71 O1 => ?_⟩
  · rcases oc with q | ⟨m0, hm0, e0, O⟩
    · rw [q] at e7; exact absurd e7.symm (nI_m (by have := gm.2.1; omega))
    · have : m0 = m := nI_inj (by omega) (by have := gm.2.1; omega) (e0.symm.trans e7)
      subst this; exact O
  have L1 := X1.ly L
  have o : ∀ a k, (a < 21 ∨ (29 < a ∧ a < 88) ∨ a = 22 ∨ a = 23) → cm_I h1 a k = cm_I h a k := fun a k q => X1.2 a k (by
    rintro (w | w)
    · exact OP.no l5 (by omega) (by omega) (by omega) (by omega) w
    · omega)
  have MB1 : MB h1 NL Q (cm_I h 22) (cm_I h 23) st g := by
    refine ⟨L1, by rw [o 38 53 (by omega)]; exact l2, gm.2.2.2.1, l3, by rw [o 49 8 (by omega)]; exact l8, by rw [o 38 48 (by omega)]; exact q48, gm.2.2.2.2, B.2.2.1, fun s hs => ?_, fun i hi => ?_⟩
    · obtain ⟨a, b, c, e⟩ := B.2.2.2.1 s hs
      obtain ⟨z1, -, -, z4⟩ := Z.2.2.1.1 s hs
      rw [o 39 s (by omega), o 67 s (by omega), z1, z4]; exact ⟨c, e, a, b⟩
    · obtain ⟨a, b, t, e, t1, t2⟩ := l9 i hi
      rw [o 77 i (by omega), o 78 i (by omega)]
      refine ⟨a, b, ?_⟩
      rw [e]
      intro w
      have := nI_inj (a := t) (b := 0) (by omega) (by decide) w
      omega
  refine ⟨L1, m_order (lp := cm_I h 22) (lt := cm_I h 23) (st := st) (g := g) L1 (by rw [o 38 53 (by omega)]; exact l2) l3 (by rw [o 38 48 (by omega)]; exact q48) B.2.2.1 (fun m' gm' => ⟨MB1, fun h2 X2 => ⟨?_, ?_⟩⟩) (fun q => absurd gm (q m))⟩
  · have : m' = m := nI_inj (by have := gm'.2.1; omega) (by have := gm.2.1; omega) (gm'.1.symm.trans gm.1)
    rw [this]
  have o2 : ∀ a k, a < 38 → cm_I h2 a k = cm_I h1 a k := fun a k q => X2.2 a k (by unfold OZ OM; omega)
  have x1 := X1.e
  have x2' := X2.e
  have x : EX h h2 (fun a k => OQ NL lc a k ∨ OZ a k) (fun _ _ => False) := (x1.mono (fun _ _ q => Or.inl q) (fun _ _ q => q)).trans (x2'.mono (fun _ _ q => Or.inr q) (fun _ _ q => q))
  have kdl : ∀ c a, c < NL → lc c ≤ a → a ≤ lc c + 2 → cm_kd h a ≠ 9 ∧ cm_kd h a ≠ 12 := fun c a hc p q => by
    have e := (l4.2.2.2 c hc).2.1
    have : a = lc c ∨ a = lc c + 1 ∨ a = lc c + 2 := by omega
    rcases this with rfl | rfl | rfl
    · rw [e.1]; exact ⟨by decide, by decide⟩
    · rw [e.2.2.2.2.1.1]; exact ⟨by decide, by decide⟩
    · rw [e.2.2.2.2.2.1]; exact ⟨by decide, by decide⟩
  have p1 : ∀ a k, (fun a k => OQ NL lc a k ∨ OZ a k) a k → A1 h F C fa cc a k := fun a k q => by
    rcases q with ((q | q | q | ⟨c, hc, q⟩) | q) | q
    · exact Or.inr (Or.inr (Or.inr (Or.inr (Or.inl ⟨by omega, by omega⟩))))
    · exact Or.inr (Or.inr (Or.inr (Or.inr (Or.inl ⟨by omega, by omega⟩))))
    · exact Or.inr (Or.inr (Or.inr (Or.inr (Or.inl ⟨by omega, by omega⟩))))
    · have := (l5.2.1 c hc).1
      exact Or.inr (Or.inr (Or.inr (Or.inr (Or.inr (Or.inr (Or.inr (Or.inr (Or.inr (Or.inr (Or.inr (Or.inr (Or.inr (Or.inr (Or.inr ⟨by omega, fun _ => kdl c a hc q.1 q.2, fun f hf => l6 c a f hc q.1 q.2 hf⟩))))))))))))))
    · exact Or.inr (Or.inr (Or.inr (Or.inr (Or.inl ⟨by omega, by omega⟩))))
    · unfold OZ OM at q
      unfold A1
      omega
  have c1 : HS h2 F Rn C fa cc ta nn Tt cls ro Q T g st pr := H.fr x p1 (fun a k q => absurd q id)
  have p2 : ∀ a k, (fun a k => OQ NL lc a k ∨ OZ a k) a k → (24 ≤ a ∧ a ≤ 29 ∧ ¬ (a = 26 ∧ k ≠ 12)) ∨ (a = 21 ∧ (k = 6 ∨ k = 7)) ∨ 88 ≤ a ∨ (42 ≤ a ∧ a ≤ 48) ∨ a = 75 ∨ a = 79 ∨ a = 80 ∨ (a = 38 ∧ k = 54) := fun a k q => by
    rcases q with ((q | q | q | ⟨c, hc, q⟩) | q) | q
    · omega
    · omega
    · omega
    · have := (l5.2.1 c hc).1; omega
    · omega
    · unfold OZ OM at q; omega
  have c2 := tp.fr L x (fun k => ⟨fun w => by have := p2 _ _ w; omega, fun w => by have := p2 _ _ w; omega, fun w => by have := p2 _ _ w; omega, fun w => by have := p2 _ _ w; omega⟩)
  have c5 := cg.fr L x (fun k => ⟨fun w => by have := p2 _ _ w; omega, fun w => by have := p2 _ _ w; omega, fun w => by have := p2 _ _ w; omega, fun w => by have := p2 _ _ w; omega⟩)
  have c6 := rg.fr L x (fun a k q w => by have := p2 _ _ w; omega)
  have la1 : LA h1 F C fa cc NL lc := ⟨AA.2.2.2.1, by rw [o 38 53 (by omega)]; exact l2, l3, AA.2.1, l5, l6, AA.2.2.2.2.2.2.1, by rw [o 49 8 (by omega)]; exact l8, fun i hi => by rw [o 77 i (by omega), o 78 i (by omega), o 22 i (by omega), o 23 i (by omega)]; exact l9 i hi⟩
  have c3 := la1.fr L1 S x2' (fun a k q w => by unfold OZ OM at w; omega) (fun c hc w => by have := (l5.2.1 c hc).1; unfold OZ OM at w; omega) (fun a k q => absurd q id)
  have c4 : OCh h2 NL Q st g := by
    have e22 : cm_I h2 22 = cm_I h 22 := funext fun k => by rw [o2 22 k (by decide), o 22 k (by omega)]
    have e23 : cm_I h2 23 = cm_I h 23 := funext fun k => by rw [o2 23 k (by decide), o 23 k (by omega)]
    refine Or.inr ⟨m, gm.2.1, by rw [o2 21 7 (by decide)]; exact e71, ?_⟩
    rw [e22, e23]
    exact ⟨by rw [o2 21 6 (by decide)]; exact O1.1, fun w i hi => by rw [o2 25 i (by decide)]; exact O1.2 w i hi⟩
  exact ⟨F, Rn, Q, T, NL, n, Re, C, fa, g, st, pr, lc, ta, nn, Tp, cc, Tt, cls, ro, c1, c2, c3, c4, c5, c6, by rw [X2.ns.1, X1.ns.1]; omega, by rw [X2.ns.2, X1.ns.2]; omega, fe.fr L x (fun a k q => a1_fp (p1 a k q))⟩
end WORD
