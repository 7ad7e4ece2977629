/-! ===== the calls that only look ===== -/
section LOOK
variable {sc : cmS} {d j : Nat} {h : cmH} {x1 x2 x3 x4 : Int32}
theorem w_celled (W : WLD j h) : STi sc (d + 200) (d + 201) 21 150 [.ref 0, .int x1, .int x2, .int x3] [.ref 38, .int x1, .int x2, .int x3] j h := by
  have Wu := W.up
  obtain ⟨F, Rn, Q, T, NL, n, Re, C, fa, g, st, pr, lc, ta, nn, Tp, cc, Tt, cls, ro, H, -⟩ := W
  have MF' := H.mf
  obtain ⟨⟨L, G, GC, S, -⟩, -, -, -, Z⟩ := H
  have h8 := G.2.1
  refine c_celled L G GC (fun f c hf hc e1 e2 => ⟨L, m_celled L MF' (fun f' c' hf' hc' e1' e2' => ⟨?_, Wu⟩) (fun q => absurd e2 (q f c hf hc e1))⟩) (fun q => ⟨L, m_celled L MF' (fun f c hf hc e1 e2 => absurd e2 (q f c hf hc e1)) (fun _ => ⟨rfl, Wu⟩)⟩)
  obtain rfl : f' = f := nI_inj (by omega) (by omega) (e1'.symm.trans e1)
  have h10 := (GC f' hf).2.2.1
  obtain rfl : c' = c := nI_inj (by omega) (by omega) (e2'.symm.trans e2)
  have V := (Z.1 f' hf).1.2.1 c' hc
  have ew : q_width (cm_I h) f' c' = c_wd h (cc f' c') := wd_eq V
  have eh : q_held (cm_I h) f' c' = cm_I h (cc f' c') 2 := by
    rw [V.2.2.2.1]
    exact cm_sum_congr fun s hs => (V.2.2.2.2 s hs).1
  rw [ew, eh, V.1, V.2.2.1]
theorem w_held (W : WLD j h) : STi sc (d + 200) (d + 201) 27 152 [.ref 0, .int x1, .int x2, .int x3, .int x4] [.ref 38, .int x1, .int x2, .int x3, .int x4] j h := by
  have Wu := W.up
  obtain ⟨F, Rn, Q, T, NL, n, Re, C, fa, g, st, pr, lc, ta, nn, Tp, cc, Tt, cls, ro, H, -⟩ := W
  have MF' := H.mf
  obtain ⟨⟨L, G, GC, S, -⟩, -, -, -, Z⟩ := H
  have h8 := G.2.1
  refine c_held L G GC (fun f c s hf hc hs e1 e2 e3 gg => ⟨L, m_held L MF' (fun f' c' s' hf' hc' hs' e1' e2' e3' _ => ⟨?_, Wu⟩) (fun q => absurd gg (q f c hf hc e1 e2))⟩) (fun q => ⟨L, m_held L MF' (fun f c s hf hc hs e1 e2 e3 gg => absurd gg (q f c hf hc e1 e2)) (fun _ => ⟨rfl, Wu⟩)⟩)
  obtain rfl : f' = f := nI_inj (by omega) (by omega) (e1'.symm.trans e1)
  have h10 := (GC f' hf).2.2.1
  obtain rfl : c' = c := nI_inj (by omega) (by omega) (e2'.symm.trans e2)
  obtain rfl : s' = s := nI_inj (by omega) (by omega) (e3'.symm.trans e3)
  have V := ((Z.1 f' hf).1.2.1 c' hc).2.2.2.2 s' hs
  by_cases z : x4 = 0
  · rw [if_pos z, if_pos z]; exact V.1
  · rw [if_neg z, if_neg z]; exact V.2
theorem w_told (W : WLD j h) : STi sc (d + 200) (d + 201) 28 153 [.ref 0, .int x1, .int x2] [.ref 38, .int x1, .int x2] j h := by
  have Wu := W.up
  obtain ⟨F, Rn, Q, T, NL, n, Re, C, fa, g, st, pr, lc, ta, nn, Tp, cc, Tt, cls, ro, H, -⟩ := W
  have MF' := H.mf
  obtain ⟨⟨L, G, GC, S, -⟩, -, -, M, Z⟩ := H
  have h8 := G.2.1
  refine c_told L G GC (fun f hf e1 => ⟨L, m_told L MF' (fun f' hf' e1' => ⟨?_, Wu⟩) (fun q => absurd e1 (q f hf))⟩) (fun q => ⟨L, m_told L MF' (fun f hf e1 => absurd e1 (q f hf)) (fun _ => ⟨rfl, Wu⟩)⟩)
  obtain rfl : f' = f := nI_inj (by omega) (by omega) (e1'.symm.trans e1)
  have V := (Z.1 f' hf).1
  have eb : q_bed (cm_I h) (C f') f' = c_bedv h (C f') (cc f') := bed_eq fun c hc => V.2.1 c hc
  have ec : q_cake (cm_I h) f' = cm_sum (cm_I h (fa f' + 2)) 8 := cm_sum_congr fun s hs => V.2.2 s hs
  rw [V.1 8 52 (by decide), V.1 9 53 (by decide), V.1 10 54 (by decide), V.1 11 56 (by decide), V.1 12 57 (by decide), V.1 13 58 (by decide), eb, ec, (M.2.2.2.1 f' hf).1, (GC f' hf).2.1]
theorem w_push (W : WLD j h) : STi sc (d + 200) (d + 201) 31 142 [.ref 0, .int x1, .int x2] [.ref 38, .int x1, .int x2] j h := by
  have Wu := W.up
  obtain ⟨F, Rn, Q, T, NL, n, Re, C, fa, g, st, pr, lc, ta, nn, Tp, cc, Tt, cls, ro, H, -⟩ := W
  have MF' := H.mf
  obtain ⟨⟨L, G, GC, S, -⟩, B, hT, M, Z⟩ := H
  have h8 := G.2.1
  refine c_push L G (fun f q hf e1 gq => ⟨(GC f hf).1, ?_⟩) (fun q => ⟨L, m_push L MF' (fun f q' hf e1 gq => absurd gq (q f q' hf e1)) (fun _ => ⟨rfl, Wu⟩)⟩)
  obtain ⟨b1, b2, b3, b4, b5, b6⟩ := B.2.2.2.2 f hf
  obtain ⟨K0, ek, hK⟩ := sum_b 8 b6
  have V := (Z.1 f hf).1
  refine c_push' (GC f hf) gq.2.1 b1 b2 b3 ek (by omega) (fun r hr => ⟨L, m_push L MF' (fun f' q' hf' e1' gq' => ?_) (fun w => absurd gq (w f q hf e1))⟩)
  obtain rfl : f' = f := nI_inj (by omega) (by omega) (e1'.symm.trans e1)
  obtain rfl : q' = q := nI_inj (by have := gq'.2.1; omega) (by have := gq.2.1; omega) (gq'.2.2.symm.trans gq.2.2)
  have eb : q_bed (cm_I h) (C f') f' = c_bedv h (C f') (cc f') := bed_eq fun c hc => V.2.1 c hc
  have ec : q_cake (cm_I h) f' = nI K0 := by rw [← ek]; exact cm_sum_congr fun s hs => V.2.2 s hs
  refine m_push' L (by omega) (MF'.2.2 f' hf).1 (MF'.2.2 f' hf).2.1 (MF'.2.2 f' hf).2.2 gq.2.1 (by rw [V.1 4 49 (by decide)]; exact b1) b2 b3 ec (by omega) (fun r' hr' => ⟨?_, Wu⟩)
  rw [eb] at hr'
  exact q_push_uniq hr' hr
theorem w_history (W : WLD j h) : STi sc (d + 200) (d + 201) 91 198 [.ref 0, .int x1, .int x2, .int x3] [.ref 38, .int x1, .int x2, .int x3] j h := by
  have Wu := W.up
  obtain ⟨F, Rn, Q, T, NL, n, Re, C, fa, g, st, pr, lc, ta, nn, Tp, cc, Tt, cls, ro, H, -⟩ := W
  obtain ⟨⟨L, -⟩, B, hT, M, Z⟩ := H
  have h0 : cm_I h 38 0 = nI T := Z.2.2.2.trans B.1
  refine c_history L B.1 hT (fun t s w ht hs hw e1 e2 e3 => ⟨L, m_history L h0 hT (fun t' s' w' ht' hs' hw' e1' e2' e3' => ⟨?_, Wu⟩) (fun q => absurd e3 (q t s w ht hs hw e1 e2))⟩) (fun q => ⟨L, m_history L h0 hT (fun t s w ht hs hw e1 e2 e3 => absurd e3 (q t s w ht hs hw e1 e2)) (fun _ => ⟨rfl, Wu⟩)⟩)
  have := nI_inj (by omega) (by omega) (e1'.symm.trans e1)
  obtain rfl : t' = t := by omega
  obtain rfl : s' = s := nI_inj (by omega) (by omega) (e2'.symm.trans e2)
  obtain rfl : w' = w := nI_inj (by omega) (by omega) (e3'.symm.trans e3)
  exact Z.2.1.2 t' s' w' (by omega) hs hw
theorem w_breaks (W : WLD j h) : STi sc (d + 200) (d + 201) 93 199 [.ref 0, .int x1, .int x2] [.ref 38, .int x1, .int x2] j h := by
  have Wu := W.up
  obtain ⟨F, Rn, Q, T, NL, n, Re, C, fa, g, st, pr, lc, ta, nn, Tp, cc, Tt, cls, ro, H, -⟩ := W
  obtain ⟨⟨L, -⟩, B, hT, M, Z⟩ := H
  have h0 : cm_I h 38 0 = nI T := Z.2.2.2.trans B.1
  refine c_breaks L B.1 hT (fun s hs e1 e2 => ⟨L, m_breaks L h0 hT (fun s' hs' e1' _ => ⟨?_, Wu⟩) (fun q => absurd e2 (q s hs e1))⟩) (fun q => ⟨L, m_breaks L h0 hT (fun s hs e1 e2 => absurd e2 (q s hs e1)) (fun _ => ⟨rfl, Wu⟩)⟩)
  obtain rfl : s' = s := nI_inj (by omega) (by omega) (e1'.symm.trans e1)
  refine q_brk_congr T 0 fun t _ ht => q_sumF_congr _ s' 0 fun k h1 h2 => ?_
  have a := Z.2.1.2 t k 1 (by omega) (by omega) (by decide)
  have b := Z.2.1.2 t k 2 (by omega) (by omega) (by decide)
  rw [a, b]
theorem w_ripe (W : WLD j h) : STi sc (d + 200) (d + 201) 95 200 [.ref 0, .int x1] [.ref 38, .int x1] j h := by
  have Wu := W.up
  obtain ⟨F, Rn, Q, T, NL, n, Re, C, fa, g, st, pr, lc, ta, nn, Tp, cc, Tt, cls, ro, H, -⟩ := W
  have MF' := H.mf
  obtain ⟨⟨L, G, GC, S, -⟩, -, -, -, Z⟩ := H
  have h8 := G.2.1
  refine c_ripe L G (fun f hf => (GC f hf).1) (fun f hf e1 => ⟨L, m_ripe L MF' (fun f' hf' e1' => ⟨?_, Wu⟩) (fun q => absurd e1 (q f hf))⟩) (fun q => ⟨L, m_ripe L MF' (fun f hf e1 => absurd e1 (q f hf)) (fun _ => ⟨rfl, Wu⟩)⟩)
  obtain rfl : f' = f := nI_inj (by omega) (by omega) (e1'.symm.trans e1)
  exact (Z.1 f' hf).1.1 14 69 (by decide)
theorem w_share (W : WLD j h) : STj sc (d + 200) (d + 201) 96 203 [.ref 0, .int x1, .int x2, .int x3, .int x4] [.ref 38, .int x1, .int x2, .int x3, .int x4] j h := by
  have L := W.ly
  have Wu := W.up
  refine c_share (fun n k e gg c4 => ⟨L, m_share (d := d + 85) (fun n' k' e' gg' _ => ⟨?_, Wu⟩) (fun q => absurd c4 (q n k e gg))⟩) (fun q => ⟨L, m_share (d := d + 85) (fun n k e gg c4 => absurd c4 (q n k e gg)) (fun _ => ⟨rfl, Wu⟩)⟩)
  obtain ⟨a1, a2, a3, a4, a5, a6, a7⟩ := gg
  obtain ⟨b1, b2, b3, b4, b5, b6, b7⟩ := gg'
  obtain rfl : n' = n := nI_inj (by omega) (by omega) (b5.symm.trans a5)
  obtain rfl : k' = k := nI_inj (by omega) (by omega) (b6.symm.trans a6)
  obtain rfl : e' = e := nI_inj (by omega) (by omega) (b7.symm.trans a7)
  rfl
theorem w_drops (W : WLD j h) : STi sc (d + 200) (d + 201) 100 207 [.ref 0, .int x1, .int x2, .int x3] [.ref 38, .int x1, .int x2, .int x3] j h := by
  have L := W.ly
  have Wu := W.up
  refine c_drops (fun n k m gg r hr => ⟨L, m_drops (fun n' k' m' gg' r' hr' => ⟨?_, Wu⟩) (fun q => absurd gg (q n k m))⟩) (fun q => ⟨L, m_drops (fun n k m gg => absurd gg (q n k m)) (fun _ => ⟨rfl, Wu⟩)⟩)
  obtain ⟨a1, a2, a3, a4, a5, a6, a7, a8⟩ := gg
  obtain ⟨b1, b2, b3, b4, b5, b6, b7, b8⟩ := gg'
  obtain rfl : n' = n := nI_inj (by omega) (by omega) (b6.symm.trans a6)
  obtain rfl : k' = k := nI_inj (by omega) (by omega) (b7.symm.trans a7)
  obtain rfl : m' = m := nI_inj (by omega) (by omega) (b8.symm.trans a8)
  exact q_least_uniq (fun _ _ => Iff.rfl) hr' hr
theorem w_led (W : WLD j h) : STi sc (d + 200) (d + 201) 126 201 [.ref 0, .int x1, .int x2] [.ref 38, .int x1, .int x2] j h := by
  have Wu := W.up
  obtain ⟨F, Rn, Q, T, NL, n, Re, C, fa, g, st, pr, lc, ta, nn, Tp, cc, Tt, cls, ro, H, -⟩ := W
  have MF' := H.mf
  obtain ⟨⟨L, G, GC, S, -⟩, -, -, -, Z⟩ := H
  refine c_led L G GC (fun s hs e1 => ⟨L, m_led L MF' (fun s' hs' e1' => ⟨?_, Wu⟩) (fun q => absurd e1 (q s hs))⟩) (fun q => ⟨L, m_led L MF' (fun s hs e1 => absurd e1 (q s hs)) (fun _ => ⟨rfl, Wu⟩)⟩)
  obtain rfl : s' = s := nI_inj (by omega) (by omega) (e1'.symm.trans e1)
  obtain ⟨b1, b2, b3, b4, b5⟩ := Z.2.1.1 s' hs
  have e : cm_sum (fun f => cm_I h 48 (8 * f + s') + cm_sum (fun c => cm_I h 46 (8 * (10 * f + c) + s')) (C f)) F = cm_sum (fun f => cm_I h (fa f + 2) s' + cm_sum (fun c => cm_I h (cc f c + 1) s') (C f)) F := cm_sum_congr fun f hf => by
    have V := (Z.1 f hf).1
    rw [V.2.2 s' hs, cm_sum_congr fun c hc => ((V.2.1 c hc).2.2.2.2 s' hs).1]
  rw [b1, b2, b3, b4, b5, e]
theorem w_count (W : WLD j h) : STi sc (d + 200) (d + 201) 130 221 [.ref 0, .int x1] [.ref 38, .int x1] j h := by
  have Wu := W.up
  obtain ⟨F, Rn, Q, T, NL, n, Re, C, fa, g, st, pr, lc, ta, nn, Tp, cc, Tt, cls, ro, H, tp, la, -, -, rg, -⟩ := W
  have MF' := H.mf
  obtain ⟨⟨L, G, GC, S, CT, -⟩, B, -, M, Z⟩ := H
  refine c_count L G (fun f hf => (GC f hf).1) ⟨L, m_count L MF' ⟨?_, Wu⟩⟩
  have e1 : cm_sum (fun f => if cm_I h 59 f = 0 then 0 else 1) F = cm_sum (fun f => if cm_I h (fa f) 18 = 0 then 0 else 1) F := cm_sum_congr fun f hf => by rw [(Z.1 f hf).1.1 18 59 (by decide)]
  have e2 : ∀ v : Int32, cm_sum (fun f => if cm_I h 52 f = v then 1 else 0) F = cm_sum (fun f => if cm_I h (fa f) 8 = v then 1 else 0) F := fun v => cm_sum_congr fun f hf => by rw [(Z.1 f hf).1.1 8 52 (by decide)]
  rw [e1, e2, e2, Z.2.2.2, Z.2.2.1.2, M.2.1, G.1, M.2.2.2.2.1.1, CT.1, la.1, la.2.1, rg.1, rg.2.1, tp.1, tp.2.1]
theorem q_dg_congr {v w : Nat → Int32} : ∀ (n i : Nat) (a : Int32), (∀ k, i ≤ k → k < i + n → v k = w k) → q_dg v n i a = q_dg w n i a
  | 0, _, _, _ => rfl
  | n + 1, i, a, q => by
    unfold q_dg
    rw [q i (by omega) (by omega)]
    exact q_dg_congr n (i + 1) _ fun k h1 h2 => q k (by omega) (by omega)
theorem q_dg2_congr {v w v' w' : Nat → Int32} : ∀ (n i : Nat) (a : Int32), (∀ k, i ≤ k → k < i + n → v k = v' k ∧ w k = w' k) → q_dg2 v w n i a = q_dg2 v' w' n i a
  | 0, _, _, _ => rfl
  | n + 1, i, a, q => by
    unfold q_dg2
    rw [(q i (by omega) (by omega)).1, (q i (by omega) (by omega)).2]
    exact q_dg2_congr n (i + 1) _ fun k h1 h2 => q k (by omega) (by omega)
theorem q_dgC_congr {p p' : Nat → Int32} {v w v' w' : Nat → Nat → Int32} : ∀ (n i : Nat) (a : Int32), (∀ k, i ≤ k → k < i + n → p k = p' k ∧ ∀ s, s < 8 → v k s = v' k s ∧ w k s = w' k s) → q_dgC p v w n i a = q_dgC p' v' w' n i a
  | 0, _, _, _ => rfl
  | n + 1, i, a, q => by
    unfold q_dgC
    have qi := q i (by omega) (by omega)
    rw [qi.1, q_dg2_congr 8 0 _ (fun s _ hs => qi.2 s (by omega))]
    exact q_dgC_congr n (i + 1) _ fun k h1 h2 => q k (by omega) (by omega)
theorem q_dgF_congr {a b c a' b' c' : Nat → Int32} {ck ck' : Nat → Nat → Int32} {C : Nat → Nat} {p p' : Nat → Nat → Int32} {v w v' w' : Nat → Nat → Nat → Int32} : ∀ (n i : Nat) (x : Int32), (∀ k, i ≤ k → k < i + n → a k = a' k ∧ b k = b' k ∧ c k = c' k ∧ (∀ s, s < 8 → ck k s = ck' k s) ∧ ∀ e, e < C k → p k e = p' k e ∧ ∀ s, s < 8 → v k e s = v' k e s ∧ w k e s = w' k e s) → q_dgF a b c ck C p v w n i x = q_dgF a' b' c' ck' C p' v' w' n i x
  | 0, _, _, _ => rfl
  | n + 1, i, x, q => by
    unfold q_dgF
    obtain ⟨q1, q2, q3, q4, q5⟩ := q i (by omega) (by omega)
    rw [q1, q2, q3, q_dg_congr 8 0 _ (fun s _ hs => q4 s (by omega)), q_dgC_congr (C i) 0 _ (fun e _ he => q5 e (by omega))]
    exact q_dgF_congr n (i + 1) _ fun k h1 h2 => q k (by omega) (by omega)
theorem w_digest (W : WLD j h) : STi sc (d + 200) (d + 201) 128 202 [.ref 0] [.ref 38] j h := by
  have Wu := W.up
  obtain ⟨F, Rn, Q, T, NL, n, Re, C, fa, g, st, pr, lc, ta, nn, Tp, cc, Tt, cls, ro, H, -⟩ := W
  have MF' := H.mf
  obtain ⟨⟨L, G, GC, S, -⟩, -, -, -, Z⟩ := H
  refine c_digest L G GC ⟨L, m_digest L MF' ⟨?_, Wu⟩⟩
  rw [Z.2.2.2]
  refine q_dgF_congr F 0 _ fun f _ hf => ?_
  have V := (Z.1 f (by omega)).1
  exact ⟨V.1 8 52 (by decide), V.1 9 53 (by decide), V.1 10 54 (by decide), fun s hs => V.2.2 s hs, fun c hc => ⟨(V.2.1 c hc).1, fun s hs => (V.2.1 c hc).2.2.2.2 s hs⟩⟩
end LOOK
