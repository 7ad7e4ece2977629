/-! ===== feed, barred, cheapest, cost, gauge ===== -/
section SCR2
variable {sc : cmS} {d j : Nat} {h h' : cmH} {x1 x2 x3 x4 x5 x6 x7 x8 : Int32} {P R : Nat → Nat → Prop} {F Rn Q T NL n Re : Nat} {fa C g st pr lc ta nn Tp : Nat → Nat} {cc Tt : Nat → Nat → Nat} {cls : Nat → List CL} {ro : Nat → Option Nat}
theorem and255 (x : Int32) : ∃ v, v ≤ 255 ∧ x &&& 255 = nI v := by
  refine ⟨x.toBitVec.toNat &&& 255, Nat.and_le_right, ?_⟩
  refine Int32.toBitVec_inj.mp (BitVec.eq_of_toNat_eq ?_)
  have h1 : (x &&& 255).toBitVec = x.toBitVec &&& 255#32 := rfl
  have h2 : (nI (x.toBitVec.toNat &&& 255)).toBitVec = BitVec.ofNat 32 (x.toBitVec.toNat &&& 255) := rfl
  have h3 : x.toBitVec.toNat &&& 255 ≤ 255 := Nat.and_le_right
  rw [h1, h2, BitVec.toNat_and, BitVec.toNat_ofNat, BitVec.toNat_ofNat, Nat.mod_eq_of_lt (by decide : 255 < 2 ^ 32), Nat.mod_eq_of_lt (by omega)]
def isB (v : Int32) : Prop := ∃ t, v = nI t ∧ 0 < t ∧ t ≤ 255
theorem q_put_ok {b t t' : Nat → Int32} (hb : ∀ i, ∃ v, v ≤ 255 ∧ b i = nI v) (ht : ∀ k, k < n → t k = t' k ∧ isB (t k)) : ∀ (m k : Nat), k < n + q_nz b m → q_put b t n m k = q_put b t' n m k ∧ isB (q_put b t n m k)
  | 0, k, hk => ht k (by have : q_nz b 0 = 0 := rfl; omega)
  | m + 1, k, hk => by
    have e1 : q_nz b (m + 1) = q_nz b m + (if b m = 0 then 0 else 1) := rfl
    have ep : ∀ u, q_put b u n (m + 1) = if b m = 0 then q_put b u n m else fun i => if i = n + q_nz b m then b m else q_put b u n m i := fun _ => rfl
    rw [ep, ep]
    by_cases z : b m = 0
    · rw [if_pos z] at e1
      rw [if_pos z, if_pos z]
      exact q_put_ok hb ht m k (by omega)
    · rw [if_neg z] at e1
      rw [if_neg z, if_neg z]
      by_cases y : k = n + q_nz b m
      · rw [if_pos y, if_pos y]
        obtain ⟨v, hv, ev⟩ := hb m
        refine ⟨rfl, v, ev, ?_, hv⟩
        rcases Nat.eq_zero_or_pos v with w | w
        · rw [w] at ev; exact absurd ev z
        · exact w
      · rw [if_neg y, if_neg y]
        exact q_put_ok hb ht m k (by omega)
theorem w_feed (W : WLD j h) : STi sc (d + 200) (d + 201) 34 154 [.ref 0, .int x1, .int x2, .int x3, .int x4, .int x5] [.ref 38, .int x1, .int x2, .int x3, .int x4, .int x5] j h := by
  have Wu := W.up
  obtain ⟨F, Rn, Q, T, NL, n, Re, C, fa, g, st, pr, lc, ta, nn, Tp, cc, Tt, cls, ro, H, tp, la, oc, cg, rg, hn, hs, fe⟩ := W
  have L := H.1.1
  have S := H.1.2.2.2.1
  have h160 := tp.2.2.1
  refine c_feed L tp.1 h160 (fun q h1 T1 => ?_) (fun q => ⟨L, m_feed L tp.2.1 h160 (fun q2 => absurd q2 q) (fun _ => ⟨rfl, Wu⟩)⟩)
  have L1 := T1.1.ly L
  have o1 : ∀ a k, a ≠ 7 → a ≠ 6 → cm_I h1 a k = cm_I h a k := fun a k p q => T1.1.2 a k (by omega)
  refine ⟨L1, m_feed L1 (by rw [o1 38 29 (by decide) (by decide)]; exact tp.2.1) h160 (fun _ h2 T2 => ⟨rfl, ?_⟩) (fun q2 => absurd q q2)⟩
  have x : EX h h2 (fun a k => a = 7 ∨ (a = 6 ∧ k = 1) ∨ a = 61 ∨ (a = 38 ∧ k = 29)) (fun _ _ => False) := (T1.1.e.mono (fun a k q => q.elim Or.inl (fun w => Or.inr (Or.inl w))) (fun _ _ q => q)).trans (T2.1.e.mono (fun a k q => q.elim (fun w => Or.inr (Or.inr (Or.inl w))) (fun w => Or.inr (Or.inr (Or.inr w)))) (fun _ _ q => q))
  have i7 : cm_I h2 7 = cm_I h1 7 := funext fun k => T2.1.2 7 k (by omega)
  have i61 : cm_I h1 61 = cm_I h 61 := funext fun k => o1 61 k (by decide) (by decide)
  have hb : ∀ i, ∃ v, v ≤ 255 ∧ q_b20 x1 x2 x3 x4 x5 i = nI v := fun i => and255 _
  have hp := q_put_ok (n := n) hb (t := cm_I h 7) (t' := cm_I h 61) (fun k hk => by obtain ⟨a, b, c⟩ := tp.2.2.2 k hk; exact ⟨a.trans b.symm, Tp k, a, c⟩) 20
  have c1 : HS h2 F Rn C fa cc ta nn Tt cls ro Q T g st pr := H.fr x (fun a k q => tape_1 q) (fun a k q => absurd q id)
  have c3 := la.fr L S x (fun a k q => by omega) (fun c hc => by have := lc88 la hc; omega) (fun a k q => absurd q id)
  have c4 := oc.fr L x (fun a k q => by omega)
  have c5 := cg.fr L x (fun k => by omega)
  have c6 := rg.fr L x (fun a k q => by omega)
  have c2 : TP h2 (n + q_nz (q_b20 x1 x2 x3 x4 x5) 20) (fun k => (cm_I h2 7 k).toNatClampNeg) := by
    refine ⟨by rw [T2.1.2 6 1 (by omega)]; exact T1.2.2, T2.2.2, q, fun k hk => ?_⟩
    obtain ⟨e, t, et, t1, t2⟩ := hp k hk
    rw [T2.2.1, i61, i7, T1.2.1, ← e]
    dsimp only
    rw [et, nI_clamp (by omega)]
    exact ⟨rfl, rfl, t1, t2⟩
  exact ⟨F, Rn, Q, T, NL, _, Re, C, fa, g, st, pr, lc, ta, nn, _, cc, Tt, cls, ro, c1, c2, c3, c4, c5, c6, by rw [T2.1.ns.1, T1.1.ns.1]; omega, by rw [T2.1.ns.2, T1.1.ns.2]; omega, fe.fr L x (fun a k q w => by unfold FP at w; omega)⟩
theorem w_cheapest (W : WLD j h) : STi sc (d + 200) (d + 201) 111 213 [.ref 0, .int x1, .int x2, .int x3] [.ref 38, .int x1, .int x2, .int x3] j h := by
  have Wu := W.up
  obtain ⟨F, Rn, Q, T, NL, n, Re, C, fa, g, st, pr, lc, ta, nn, Tp, cc, Tt, cls, ro, H, tp, la, oc, cg, rg, hn, hs, fe⟩ := W
  have L := H.1.1
  obtain ⟨p, cn, g1, g2, g3, g4, g5⟩ := id cg
  refine c_cheapest L (fun i hi => (g5 i hi).1) g4 g1 g3 (fun t a ht1 ht2 ha e1 e2 gc h1 X1 => ?_) (fun q => ⟨L, m_cheapest L (fun i hi => (g5 i hi).2) g4 g2 g3 (fun t a _ _ _ _ _ gc => absurd gc q) (fun _ => ⟨rfl, Wu⟩)⟩)
  have L1 := X1.ly L
  have o1 : ∀ a k, a ≠ 32 → a ≠ 30 → cm_I h1 a k = cm_I h a k := fun a k p q => X1.2 a k (by unfold P_ch; omega)
  refine ⟨L1, m_cheapest L1 (fun i hi => by rw [o1 81 i (by decide) (by decide)]; exact (g5 i hi).2) g4 (by rw [o1 38 57 (by decide) (by decide)]; exact g2) g3 (fun t' a' _ _ _ e1' e2' _ J => ⟨?_, ?_⟩) (fun q => absurd gc q)⟩
  · obtain rfl : t' = t := nI_inj (by omega) (by omega) (e1'.symm.trans e1)
    obtain rfl : a' = a := nI_inj (by omega) (by omega) (e2'.symm.trans e2)
    rfl
  · have X2 : EX h (wJ h1 J) (fun a k => (a = 33 ∧ (k = 5 ∨ k = 6)) ∨ (a = 30 ∧ (k = 3 ∨ k = 4)) ∨ a = 32) (fun a k => a = 9 ∧ k = 1) := (X1.e.mono (fun a k q => q.elim (fun w => Or.inr (Or.inr w)) (fun w => Or.inr (Or.inl w))) (fun _ _ q => absurd q id)).trans ⟨Nat.le_refl _, fun a _ => ⟨rfl, rfl, fun _ _ => rfl, fun _ _ => rfl⟩⟩
    exact WLD.scr H tp la oc cg rg fe X2 (fun a k q => (scr_2 la q).1) (fun a k q => (scr_2 la q).2) (fun a k q => q) (by show cm_n h1 ≤ _; rw [X1.ns.1]; omega) (by show cm_sl h1 ≤ _; rw [X1.ns.2]; omega)
theorem w_barred (W : WLD j h) : STi sc (d + 200) (d + 201) 124 220 [.ref 0, .int x1, .int x2, .int x3] [.ref 38, .int x1, .int x2, .int x3] j h := by
  have Wu := W.up
  obtain ⟨F, Rn, Q, T, NL, n, Re, C, fa, g, st, pr, lc, ta, nn, Tp, cc, Tt, cls, ro, H, tp, la, oc, cg, rg, hn, hs, fe⟩ := W
  have MF' := H.mf
  obtain ⟨⟨L, G, GC, S, -⟩, B, hT, M, Z⟩ := id H
  have h8 := G.2.1
  have h0 : cm_I h 38 0 = nI T := Z.2.2.2.trans B.1
  have hV : VPT F C (fun f c => (cm_I h (cc f c) 4).toNatClampNeg) (fun f c => (cm_I h (cc f c) 5).toNatClampNeg) (fun f c => cm_I h (cc f c) 4) (fun f c => cm_I h (cc f c) 5) := fun f c hf hc => by
    obtain ⟨⟨p, e4, p1, p2⟩, -, ⟨t, e5, t1, t2⟩, -⟩ := (Z.1 f hf).2.1.2.2.2 c hc
    dsimp only
    rw [e4, e5, nI_clamp (by omega), nI_clamp (by omega)]
    exact ⟨rfl, rfl, p2, t1, t2⟩
  have hV' : VPT F C (fun f c => (cm_I h (cc f c) 4).toNatClampNeg) (fun f c => (cm_I h (cc f c) 5).toNatClampNeg) (fun f c => cm_I h 43 (10 * f + c)) (fun f c => cm_I h 45 (10 * f + c)) := fun f c hf hc => by
    have V := (Z.1 f hf).1.2.1 c hc
    have := hV f c hf hc
    dsimp only at this ⊢
    rw [V.1, V.2.2.1]; exact this
  refine c_barred L G GC hV (fun f c hf hc => by have := (S.2.2.1 f c hf hc).1; omega) B.1 rg.1 rg.2.2.1 (fun f c hf hc e1 e2 gb r lo hi q0 => ?_) (fun q => ⟨L, m_barred L MF' hV' h0 rg.2.1 rg.2.2.1 (fun f c hf hc e1 e2 gb => absurd gb (q f c hf hc e1 e2)) (fun _ => ⟨rfl, Wu⟩)⟩)
  have X1 : XI h (q_lh h lo hi) (fun a k => a = 33 ∧ (k = 5 ∨ k = 6)) := (XI.refl.set ⟨rfl, Or.inl rfl⟩).set ⟨rfl, Or.inr rfl⟩
  have o : ∀ a k, a ≠ 33 → cm_I (q_lh h lo hi) a k = cm_I h a k := fun a k q => X1.2 a k (by omega)
  have W1 : WLD (j + 1) (q_lh h lo hi) := WLD.scr H tp la oc cg rg fe (X1.e.mono (fun _ _ q => q) (fun _ _ q => absurd q id)) (fun a k q => (scr_2 la (Or.inl q)).1) (fun a k q => (scr_2 la (Or.inl q)).2) (fun a k q => q) (by rw [X1.ns.1]; omega) (by rw [X1.ns.2]; omega)
  refine ⟨X1.ly L, m_barred (X1.ly L) (F := F) (C := C) (T := T) (R := Re) (P := fun f c => (cm_I h (cc f c) 4).toNatClampNeg) (Tk := fun f c => (cm_I h (cc f c) 5).toNatClampNeg) ?_ (fun f c hf hc => by have := hV' f c hf hc; dsimp only at this ⊢; rw [o 43 _ (by decide), o 45 _ (by decide)]; exact this) (by rw [o 38 0 (by decide)]; exact h0) (by rw [o 38 62 (by decide)]; exact rg.2.1) rg.2.2.1 (fun f' c' hf' hc' e1' e2' gb' r' q0' => ⟨?_, W1⟩) (fun q => absurd gb (q f c hf hc e1 e2))⟩
  · refine ⟨by rw [o 38 24 (by decide)]; exact MF'.1, MF'.2.1, fun f hf => ?_⟩
    rw [o 42 f (by decide)]
    exact ⟨(MF'.2.2 f hf).1, (MF'.2.2 f hf).2.1, fun c hc => by rw [o 45 _ (by decide)]; exact (MF'.2.2 f hf).2.2 c hc⟩
  · obtain rfl : f' = f := nI_inj (by omega) (by omega) (e1'.symm.trans e1)
    have h10 := (GC f' hf).2.2.1
    obtain rfl : c' = c := nI_inj (by omega) (by omega) (e2'.symm.trans e2)
    refine q_least_uniq (fun i hiR => ?_) q0' q0
    have er : ∀ i, i < Re → cm_I (q_lh h lo hi) 83 i = cm_I h 34 i ∧ cm_I (q_lh h lo hi) 84 i = cm_I h 35 i ∧ cm_I (q_lh h lo hi) 85 i = cm_I h 36 i ∧ cm_I (q_lh h lo hi) 86 i = cm_I h 37 i := fun i hir => by
      rw [o 83 i (by decide), o 84 i (by decide), o 85 i (by decide), o 86 i (by decide)]; exact rg.2.2.2 i hir
    have eq : ∀ m, q_bk (cm_I (q_lh h lo hi) 83) (cm_I (q_lh h lo hi) 84) (cm_I (q_lh h lo hi) 85) (cm_I (q_lh h lo hi) 86) (10 * f' + c') x3 (i + 1) ((cm_I h (cc f' c') 4).toNatClampNeg) ((cm_I h (cc f' c') 5).toNatClampNeg) m ↔ q_bk (cm_I h 34) (cm_I h 35) (cm_I h 36) (cm_I h 37) (10 * f' + c') x3 (i + 1) ((cm_I h (cc f' c') 4).toNatClampNeg) ((cm_I h (cc f' c') 5).toNatClampNeg) m := fun m => by
      unfold q_bk q_ok
      constructor
      · intro w i2 hi2
        have := w i2 hi2
        obtain ⟨r1, r2, r3, r4⟩ := er i2 (by omega)
        rw [r1, r2, r3, r4] at this
        exact this
      · intro w i2 hi2
        obtain ⟨r1, r2, r3, r4⟩ := er i2 (by omega)
        rw [r1, r2, r3, r4]
        exact w i2 hi2
    unfold q_br
    obtain ⟨r1, r2, r3, r4⟩ := er i hiR
    rw [r1, r4]
    exact ⟨fun w => ⟨w.1, fun m hm v => w.2 m hm ((eq m).mpr v)⟩, fun w => ⟨w.1, fun m hm v => w.2 m hm ((eq m).mp v)⟩⟩
theorem w_cost (W : WLD j h) : STi sc (d + 200) (d + 201) 110 212 [.ref 0, .int x1, .int x2] [.ref 38, .int x1, .int x2] j h := by
  have Wu := W.up
  obtain ⟨F, Rn, Q, T, NL, n, Re, C, fa, g, st, pr, lc, ta, nn, Tp, cc, Tt, cls, ro, H, tp, la, oc, cg, rg, hn, hs, fe⟩ := W
  have L := H.1.1
  have S := H.1.2.2.2.1
  obtain ⟨p, cn, g1, g2, g3, g4, g5⟩ := id cg
  refine c_cost L (fun q => ?_) (fun q => ⟨L, m_cost L (fun q2 => absurd q2 q) (fun _ => ⟨rfl, Wu⟩)⟩)
  by_cases z : x1 = -1
  · rw [if_pos z]
    refine ⟨L.s, m_cost L.s (fun _ => ⟨rfl, ?_⟩) (fun q2 => absurd q q2)⟩
    rw [if_pos z]
    obtain ⟨v, -, hv, ev⟩ := (in_nI (x := x2) 0 10000 rfl rfl (by decide) (by decide)).mp (q.elim (fun w => w.2) (fun w => absurd z w.1))
    subst ev
    have X : XI h (cm_setI (cm_setI h 30 2 (nI v)) 38 57 (nI v)) (fun a k => (a = 30 ∧ k = 2) ∨ (a = 38 ∧ k = 57)) := (XI.refl.set (Or.inl ⟨rfl, rfl⟩)).set (Or.inr ⟨rfl, rfl⟩)
    have c1 : HS _ F Rn C fa cc ta nn Tt cls ro Q T g st pr := H.fr X.e (fun a k q => by
      rcases q with q | q
      · exact Or.inr (Or.inr (Or.inr (Or.inr (Or.inl ⟨by omega, by omega⟩))))
      · exact Or.inr (Or.inr (Or.inr (Or.inr (Or.inr (Or.inl ⟨q.1, by omega, by omega, by omega, by omega⟩)))))) (fun a k q => absurd q id)
    have c2 := tp.fr L X.e (fun k => by omega)
    have c3 := la.fr L S X.e (fun a k q => by omega) (fun c hc => by have := lc88 la hc; omega) (fun a k q => absurd q id)
    have c4 := oc.fr L X.e (fun a k q => by omega)
    have c6 := rg.fr L X.e (fun a k q => by omega)
    have c5 : CG4 (cm_setI (cm_setI h 30 2 (nI v)) 38 57 (nI v)) := ⟨v, cn, by rw [sI_o (Or.inl (by decide)), sI_s], sI_s, hv, g4, fun i hi => by rw [sI_o (Or.inl (by decide)), sI_o (Or.inl (by decide)), sI_o (Or.inl (by decide)), sI_o (Or.inl (by decide))]; exact g5 i hi⟩
    exact ⟨F, Rn, Q, T, NL, n, Re, C, fa, g, st, pr, lc, ta, nn, Tp, cc, Tt, cls, ro, c1, c2, c3, c4, c5, c6, by rw [X.ns.1]; omega, by rw [X.ns.2]; omega, fe.fr L X.e (fun a k q w => by unfold FP at w; omega)⟩
  · rw [if_neg z]
    refine ⟨L.s, m_cost L.s (fun _ => ⟨rfl, ?_⟩) (fun q2 => absurd q q2)⟩
    rw [if_neg z]
    have q' := q.elim (fun w => absurd w.1 z) (fun w => w.2)
    obtain ⟨a, -, ha, ea⟩ := (in_nI (x := x1) 0 19 rfl rfl (by decide) (by decide)).mp q'.1
    obtain ⟨v, -, hv, ev⟩ := (in_nI (x := x2) 0 1000 rfl rfl (by decide) (by decide)).mp q'.2
    subst ea ev
    rw [nI_clamp (by omega)]
    have X : XI h (cm_setI (cm_setI h 31 a (nI v)) 81 a (nI v)) (fun x _ => x = 31 ∨ x = 81) := (XI.refl.set (Or.inl rfl)).set (Or.inr rfl)
    have c1 : HS _ F Rn C fa cc ta nn Tt cls ro Q T g st pr := H.fr X.e (fun x k q => by
      rcases q with q | q
      · exact Or.inr (Or.inr (Or.inr (Or.inr (Or.inl ⟨by omega, by omega⟩))))
      · unfold A1; simp only [q]; simp) (fun a k q => absurd q id)
    have c2 := tp.fr L X.e (fun k => by omega)
    have c3 := la.fr L S X.e (fun a k q => by omega) (fun c hc => by have := lc88 la hc; omega) (fun a k q => absurd q id)
    have c4 := oc.fr L X.e (fun a k q => by omega)
    have c6 := rg.fr L X.e (fun a k q => by omega)
    have c5 : CG4 (cm_setI (cm_setI h 31 a (nI v)) 81 a (nI v)) := by
      refine ⟨p, fun i => if i = a then v else cn i, by rw [sI_o (Or.inl (by decide)), sI_o (Or.inl (by decide))]; exact g1, by rw [sI_o (Or.inl (by decide)), sI_o (Or.inl (by decide))]; exact g2, g3, fun i => ?_, fun i hi => ?_⟩
      · dsimp only; split; exact hv; exact g4 i
      · by_cases y : i = a
        · subst y
          rw [sI_o (Or.inl (by decide)), sI_s, sI_s]
          dsimp only
          rw [if_pos rfl]; exact ⟨rfl, rfl⟩
        · rw [sI_o (Or.inl (by decide)), sI_o (Or.inr y), sI_o (Or.inr y), sI_o (Or.inl (by decide))]
          dsimp only
          rw [if_neg y]; exact g5 i hi
    exact ⟨F, Rn, Q, T, NL, n, Re, C, fa, g, st, pr, lc, ta, nn, Tp, cc, Tt, cls, ro, c1, c2, c3, c4, c5, c6, by rw [X.ns.1]; omega, by rw [X.ns.2]; omega, fe.fr L X.e (fun a k q w => by unfold FP at w; omega)⟩
end SCR2
