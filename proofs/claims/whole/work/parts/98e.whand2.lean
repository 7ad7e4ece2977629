section WHAND2
variable {sc : cmS} {d j : Nat} {h : cmH} {x1 x2 : Int32}
theorem w_hand (W : WLD j h) : STi sc (d + 200) (d + 201) 90 197 [.ref 0, .int x1, .int x2] [.ref 38, .int x1, .int x2] j h := by
  have Wu := W.up
  obtain ⟨F, Rn, Q, T, NL, n, Re, C, fa, g, st, pr, lc, ta, nn, Tp, cc, Tt, cls, ro, H, tp, la, oc, cg, rg, hn, hs, fe⟩ := W
  have MF' := H.mf
  obtain ⟨⟨L, G, GC, S, -⟩, -, -, -, Z⟩ := id H
  have h8 := G.2.1
  have mfo : ∀ h1 : cmH, (∀ a k, 38 ≤ a → a < 88 → cm_I h1 a k = cm_I h a k) → MF (cm_I h1) F C := fun h1 o => by
    refine ⟨by rw [o 38 24 (by decide) (by decide)]; exact MF'.1, MF'.2.1, fun f hf => ?_⟩
    rw [o 42 f (by decide) (by decide)]
    exact ⟨(MF'.2.2 f hf).1, (MF'.2.2 f hf).2.1, fun c hc => by rw [o 45 _ (by decide) (by decide)]; exact (MF'.2.2 f hf).2.2 c hc⟩
  refine c_hand L G GC (fun f hf => S.sp hf) (fun f hf e1 e2 h1 C1 => ?_) (fun f hf e1 e2 q => ?_) (fun q => ⟨L, m_hand L MF' (fun f hf e1 e2 => absurd e2 (q f hf e1).1) (fun f hf e1 e2 q2 => absurd ((q f hf e1).2 e2) (by rw [(Z.1 f hf).1.1 8 52 (by decide)] at q2; exact q2)) (fun _ => ⟨rfl, Wu⟩)⟩)
  · have h88 := S.1 f hf
    have P := S.sp hf
    have X1 : XI h (cm_setI h1 (fa f) 8 0) (fun x i => (x = fa f ∧ i = 8) ∨ P_cg (fa f) (C f) (cc f) x i) := (C1.1.mono fun _ _ q => Or.inr q).set (Or.inl ⟨rfl, rfl⟩)
    have s8 : ∀ a k, a ≠ fa f ∨ k ≠ 8 → cm_I (cm_setI h1 (fa f) 8 0) a k = cm_I h1 a k := fun a k q => sI_o q
    have V1 : CGv (cm_I h) (cm_I (cm_setI h1 (fa f) 8 0)) (fa f) (C f) (cc f) := by
      obtain ⟨-, a1, a2, a3, a4⟩ := C1
      refine ⟨fun s hs => ?_, fun c hc => ?_, by rw [s8 _ _ (Or.inr (by decide))]; exact a3, by rw [s8 _ _ (Or.inr (by decide))]; exact a4⟩
      · rw [s8 17 s (Or.inl (by omega)), s8 (fa f + 2) s (Or.inl (by omega))]; exact a1 s hs
      · have := P.2.1 c hc
        obtain ⟨b1, b2, b3⟩ := a2 c hc
        exact ⟨fun s hs => by rw [s8 _ _ (Or.inl (by omega)), s8 _ _ (Or.inl (by omega))]; exact b1 s hs, by rw [s8 _ _ (Or.inl (by omega))]; exact b2, by rw [s8 _ _ (Or.inl (by omega))]; exact b3⟩
    have e8 : cm_I (cm_setI h1 (fa f) 8 0) (fa f) 8 = 0 := sI_s
    generalize (cm_setI h1 (fa f) 8 0) = k1 at X1 V1 e8 ⊢
    have L1 := X1.ly L
    have o1 : ∀ a k, 38 ≤ a → a < 88 → cm_I k1 a k = cm_I h a k := fun a k p q => X1.2 a k (by
      rintro (w | w)
      · omega
      · rcases own_P_cg w with w | w
        · omega
        · have := S.own88 hf w; omega)
    refine ⟨L1, m_hand L1 (mfo k1 o1) (fun f' hf' e1' _ h2 M2 => ⟨rfl, ?_⟩) (fun f' hf' e1' e2' => by rw [e2] at e2'; exact absurd e2' (by decide)) (fun q => absurd e2 (q f hf e1).1)⟩
    obtain rfl : f' = f := nI_inj (by omega) (by omega) (e1'.symm.trans e1)
    have X2 : XI k1 (cm_setI h2 52 f' 0) (fun x i => (x = 52 ∧ i = f') ∨ P_mg f' (C f') x i) := (M2.1.mono fun _ _ q => Or.inr q).set (Or.inl ⟨rfl, rfl⟩)
    have s5 : ∀ a k, a ≠ 52 → cm_I (cm_setI h2 52 f' 0) a k = cm_I h2 a k := fun a k q => sI_o (Or.inl q)
    have V2 : MGv (cm_I k1) (cm_I (cm_setI h2 52 f' 0)) f' (C f') := by
      obtain ⟨-, a1, a2, a3, a4⟩ := M2
      exact ⟨fun s hs => by rw [s5 71 _ (by decide), s5 48 _ (by decide)]; exact a1 s hs, fun c hc => ⟨fun s hs => by rw [s5 46 _ (by decide), s5 47 _ (by decide)]; exact (a2 c hc).1 s hs, by rw [s5 43 _ (by decide)]; exact (a2 c hc).2⟩, by rw [s5 53 _ (by decide)]; exact a3, by rw [s5 54 _ (by decide)]; exact a4⟩
    have e52 : cm_I (cm_setI h2 52 f' 0) 52 f' = 0 := sI_s
    generalize (cm_setI h2 52 f' 0) = k2 at X2 V2 e52 ⊢
    have c1 := H.chg hf X1 V1 e8 X2 V2 e52
    have no : ∀ a k, ((a = fa f' ∧ k = 8) ∨ P_cg (fa f') (C f') (cc f') a k) ∨ ((a = 52 ∧ k = f') ∨ P_mg f' (C f') a k) → a = 17 ∨ OWN (fa f') (C f') (cc f') a ∨ ((43 ≤ a ∧ a ≤ 54 ∧ a ≠ 49) ∨ a = 71) := fun a k q => by
      rcases q with (q | q) | (q | q)
      · exact Or.inr (Or.inl (Or.inl ⟨by omega, by omega⟩))
      · rcases own_P_cg q with q | q
        · exact Or.inl q
        · exact Or.inr (Or.inl q)
      · exact Or.inr (Or.inr (Or.inl ⟨by omega, by omega, by omega⟩))
      · unfold P_mg at q; exact Or.inr (Or.inr (by omega))
    have x : EX h k2 (fun a k => ((a = fa f' ∧ k = 8) ∨ P_cg (fa f') (C f') (cc f') a k) ∨ ((a = 52 ∧ k = f') ∨ P_mg f' (C f') a k)) (fun _ _ => False) := (X1.e.mono (fun _ _ q => Or.inl q) (fun _ _ q => q)).trans (X2.e.mono (fun _ _ q => Or.inr q) (fun _ _ q => q))
    have nlo : ∀ a k, a < 88 → a ≠ 17 → (a < 43 ∨ 54 < a ∨ a = 49) → a ≠ 71 → ¬ (((a = fa f' ∧ k = 8) ∨ P_cg (fa f') (C f') (cc f') a k) ∨ ((a = 52 ∧ k = f') ∨ P_mg f' (C f') a k)) := fun a k p1 p2 p3 p4 w => by
      rcases no a k w with q | q | q
      · exact p2 q
      · have := S.own88 hf q; omega
      · omega
    have c2 := tp.fr L x (fun k => ⟨nlo 6 1 (by decide) (by decide) (by decide) (by decide), nlo 38 29 (by decide) (by decide) (by decide) (by decide), nlo 7 k (by decide) (by decide) (by decide) (by decide), nlo 61 k (by decide) (by decide) (by decide) (by decide)⟩)
    have c5 := cg.fr L x (fun k => ⟨nlo 30 2 (by decide) (by decide) (by decide) (by decide), nlo 38 57 (by decide) (by decide) (by decide) (by decide), nlo 31 k (by decide) (by decide) (by decide) (by decide), nlo 81 k (by decide) (by decide) (by decide) (by decide)⟩)
    have c6 := rg.fr L x (fun a k q => nlo a k (by omega) (by omega) (by omega) (by omega))
    have c4 := oc.fr L x (fun a k q => nlo a k (by omega) (by omega) (by omega) (by omega))
    have c3 := la.fr L S x (fun a k q => nlo a k (by omega) (by omega) (by omega) (by omega)) (fun c hc w => by
      have h1 := lc88 la hc
      rcases no _ _ w with q | q | q
      · omega
      · exact la.2.2.2.2.2.1 c (lc c) f' hc (Nat.le_refl _) (by omega) hf q
      · omega) (fun a k q => absurd q id)
    exact ⟨F, Rn, Q, T, NL, n, Re, C, fa, g, st, pr, lc, ta, nn, Tp, cc, Tt, cls, ro, c1, c2, c3, c4, c5, c6, by rw [X2.ns.1, X1.ns.1]; omega, by rw [X2.ns.2, X1.ns.2]; omega, fe.fr L x (fun a k q w => by
      rcases q with (q | q) | (q | q)
      · unfold FP at w; omega
      · unfold FP at w
        rcases own_P_cg q with q | q
        · omega
        · have := S.own88 hf q; omega
      · unfold FP at w; omega
      · exact mg_fp hf (GC f' hf).2.2.1 q w)⟩
  · have h88 := S.1 f hf
    have o1 : ∀ a k, 38 ≤ a → a < 88 → cm_I (cm_setI h (fa f) 8 (q_hd (cm_I h (fa f) 8) x2)) a k = cm_I h a k := fun a k p q => sI_o (Or.inl (by omega))
    have e58 : ∀ f', f' < F → cm_I h 52 f' = cm_I h (fa f') 8 := fun f' hf' => (Z.1 f' hf').1.1 8 52 (by decide)
    refine ⟨L.s, m_hand L.s (mfo _ o1) (fun f' hf' e1' e2' => by rw [e2'] at e2; exact absurd e2 (by decide)) (fun f' hf' e1' e2' q' => ⟨rfl, ?_⟩) (fun w => absurd ((w f hf e1).2 e2) (by rw [o1 52 f (by decide) (by decide), e58 f hf]; exact q))⟩
    obtain rfl : f' = f := nI_inj (by omega) (by omega) (e1'.symm.trans e1)
    rw [o1 52 f' (by decide) (by decide), e58 f' hf]
    refine WLD.pair H tp la oc cg rg fe hn hs hf (by decide : (8, 52) ∈ vfl) (by decide) (fun e => by omega) (fun e => by omega) (fun _ => ?_)
    have : q_hd (cm_I h (fa f') 8) x2 = 4 ∨ q_hd (cm_I h (fa f') 8) x2 = 0 := by
      unfold q_hd at q ⊢
      split at q <;> split at q
      · exact absurd rfl q
      · rename_i a b; rw [if_pos a, if_neg b]; exact Or.inl rfl
      · rename_i a b; rw [if_neg a, if_pos b]; exact Or.inr rfl
      · exact absurd rfl q
    rcases this with e | e <;> rw [e] <;> decide
end WHAND2
