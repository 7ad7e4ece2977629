/-! ===== the reference's decide ===== -/
section MDEC
variable {sc : cmS} {d : Nat} {h : cmH} {KV : cmH → Prop} {Rn : Nat} {cls : Nat → List CL}
def m_lf (I : Nat → Nat → Int32) (f : Nat) : Nat → Int32 := lt6 (if I 59 f = 0 then 0 else I 57 f) (I 53 f) (if I 59 f = 0 then 0 else I 58 f) (nI f) (I 54 f) (q_cake I f)
def MGv (I I' : Nat → Nat → Int32) (f n : Nat) : Prop := (∀ s, s < 8 → I' 71 (6 * s + 3) = I 71 (6 * s + 3) + (I 48 (8 * f + s) + cm_sum (fun c => I 46 (8 * (10 * f + c) + s)) n) ∧ I' 48 (8 * f + s) = 0) ∧ (∀ c, c < n → (∀ s, s < 8 → I' 46 (8 * (10 * f + c) + s) = 0 ∧ I' 47 (8 * (10 * f + c) + s) = 0) ∧ I' 43 (10 * f + c) = I 44 (10 * f + c)) ∧ I' 53 f = 0 ∧ I' 54 f = 0
abbrev P_mr (f : Nat) (x k : Nat) : Prop := x = 65 ∨ x = 66 ∨ (x = 38 ∧ k = 37) ∨ ((x = 52 ∨ x = 60 ∨ x = 74) ∧ k = f)
def MDS (h h' : cmH) (f n : Nat) (vc vw vr vu : Int32) : Prop := XI h h' (fun x k => P_mr f x k ∨ P_mg f n x k) ∧ cm_I h' 52 f = dst vc vw vr (cm_I h 54 f) (cm_I h 51 f) ∧ cm_I h' 60 f = (if cm_I h 60 f ≠ 0 ∨ dst vc vw vr (cm_I h 54 f) (cm_I h 51 f) = 1 then 1 else 0) ∧ (vc = 0 → vw ≠ 0 → cm_I h' 74 f = q_cl vu) ∧ (vc = 0 → ∀ x k, ¬ P_mr f x k → cm_I h' x k = cm_I h x k) ∧ (vc ≠ 0 → MGv (cm_I h) (cm_I h') f n)
theorem nar_b1 : vp_nar .boolean 1 = 1 := by decide
theorem nar_b0 : vp_nar .boolean 0 = 0 := by decide
theorem m_decide {f n : Nat} {o : Option Nat} (L : LY h) (hf : f < 8) (hn : cm_I h 42 f = nI n) (h10 : n ≤ 10) (er : cm_I h 55 f = wI o) (ho : ∀ j, o = some j → j < Rn) (G : MRu h Rn cls) (W : ∀ j, j < Rn → WOK (cls j)) (k : ∀ h', MDS h h' f n (wq (m_lf (cm_I h) f) 99 o cls) (wq (m_lf (cm_I h) f) 119 o cls) (wq (m_lf (cm_I h) f) 114 o cls) (wq (m_lf (cm_I h) f) 117 o cls) → KV h') : cm_cv sc (d + 5) 187 [.ref 38, .int (nI f)] h KV := by
  have i9 : IX 9 (nI f) := ix_nI (by omega) (by decide)
  have cl : (nI f).toNatClampNeg = f := nI_clamp (by omega)
  -- the end
  have tail : ∀ (g : cmH) (vc vw vr vu : Int32), LY g → XI h g (fun x k => P_mr f x k ∨ P_mg f n x k) → cm_I g 52 f = dst vc vw vr (cm_I h 54 f) (cm_I h 51 f) → cm_I g 60 f = cm_I h 60 f → (vc = 0 → vw ≠ 0 → cm_I g 74 f = q_cl vu) → (vc = 0 → ∀ x k, ¬ P_mr f x k → cm_I g x k = cm_I h x k) → (vc ≠ 0 → MGv (cm_I h) (cm_I g) f n) → (∀ h', MDS h h' f n vc vw vr vu → KV h') → cm_wp sc (d + 5) 187 232 [some (.ref 38), some (.int (nI f))] [] g (fun v h' => v = none ∧ KV h') := by
    intro g vc vw vr vu Lg X e52 e60 e74 n1 n2 kk
    have fin : ∀ b : Int32, b = (if cm_I h 60 f ≠ 0 ∨ dst vc vw vr (cm_I h 54 f) (cm_I h 51 f) = 1 then 1 else 0) → KV (cm_setI g 60 f b) := fun b eb => by
      have X2 : XI g (cm_setI g 60 f b) (P_mr f) := XI.refl.set (Or.inr (Or.inr (Or.inr ⟨Or.inr (Or.inl rfl), rfl⟩)))
      refine kk _ ⟨X.trans (X2.mono fun _ _ q => Or.inl q), by rw [sI_o (Or.inl (by decide))]; exact e52, by rw [sI_s]; exact eb, fun a b => by rw [sI_o (Or.inl (by decide))]; exact e74 a b, fun a x k q => by rw [X2.2 x k q]; exact n1 a x k q, fun a => ?_⟩
      obtain ⟨a1, a2, a3, a4⟩ := n2 a
      refine ⟨fun s hs => by rw [sI_o (Or.inl (by decide)), sI_o (Or.inl (by decide))]; exact a1 s hs, fun c hc => ⟨fun s hs => by rw [sI_o (Or.inl (by decide)), sI_o (Or.inl (by decide))]; exact (a2 c hc).1 s hs, by rw [sI_o (Or.inl (by decide))]; exact (a2 c hc).2⟩, by rw [sI_o (Or.inl (by decide))]; exact a3, by rw [sI_o (Or.inl (by decide))]; exact a4⟩
    have w261 : ∀ b : Int32, vp_nar .boolean b = b → b = (if cm_I h 60 f ≠ 0 ∨ dst vc vw vr (cm_I h 54 f) (cm_I h 51 f) = 1 then 1 else 0) → cm_wp sc (d + 5) 187 261 [some (.ref 38), some (.int (nI f))] [.int b, .int (nI f), .ref 60] g (fun v h' => v = none ∧ KV h') := fun b nb eb => by
      refine s187_261 Lg _ _ _ ?_
      rw [cl, nb]
      exact ⟨i9, rfl, fin b eb⟩
    refine s187_232 Lg _ ?_
    rw [cl, e60, e52]
    refine ⟨i9, fun z => s187_256 _ _ (w261 1 nar_b1 (by rw [if_pos (Or.inl z)])), fun z => ⟨fun z2 => w261 0 nar_b0 ?_, fun z2 => s187_256 _ _ (w261 1 nar_b1 (by rw [if_pos (Or.inr (Decidable.not_not.mp z2))]))⟩⟩
    rw [if_neg (fun w => w.elim z z2)]
  have X1 : XI h (cm_setI h 52 f 1) (P_mr f) := XI.refl.set (Or.inr (Or.inr (Or.inr ⟨Or.inl rfl, rfl⟩)))
  have L1 := X1.ly L
  have X1' : XI h (cm_setI h 52 f 1) (fun x k => P_mr f x k ∨ P_mg f n x k) := X1.mono fun _ _ q => Or.inl q
  refine cv_of rfl (s187_0 L _ ?_)
  rw [cl, er]
  have rest : ∀ j, o = some j → cm_wp sc (d + 5) 187 42 [some (.ref 38), some (.int (nI f))] [.int (if cm_I h 59 f = 0 then 0 else cm_I h 57 f), .int 112, .ref 65] (cm_setI h 52 f 1) (fun v h' => v = none ∧ KV h') := fun j eo => by
    subst eo
    have hj := ho j rfl
    have h12 := G.2.1
    have o52 : ∀ x k, x ≠ 52 → cm_I (cm_setI h 52 f 1) x k = cm_I h x k := fun x k q => sI_o (Or.inl q)
    -- letters told
    have w81 : ∀ g : cmH, g = cm_setI (cm_setI (cm_setI h 52 f 1) 65 112 (if cm_I h 59 f = 0 then 0 else cm_I h 57 f)) 65 104 (cm_I h 53 f) → cm_wp sc (d + 5) 187 81 [some (.ref 38), some (.int (nI f))] [.int (if cm_I h 59 f = 0 then 0 else cm_I h 58 f), .int 111, .ref 65] g (fun v h' => v = none ∧ KV h') := fun g eg => by
      have Xg : XI h g (P_mr f) := by rw [eg]; exact (X1.set (Or.inl rfl)).set (Or.inl rfl)
      refine s187_81 (Xg.ly L) _ _ _ ?_
      rw [cl, show (111 : Int32).toNatClampNeg = 111 from rfl]
      have e54 : cm_I (cm_setI (cm_setI g 65 111 (if cm_I h 59 f = 0 then 0 else cm_I h 58 f)) 65 105 (nI f)) 54 f = cm_I h 54 f := by rw [sI_o (Or.inl (by decide)), sI_o (Or.inl (by decide)), Xg.2 54 f (by unfold P_mr; omega)]
      have e54' : cm_I g 54 f = cm_I h 54 f := Xg.2 54 f (by unfold P_mr; omega)
      rw [e54']
      refine ⟨⟨by decide, by decide⟩, i9, ?_⟩
      have Xg3 : XI h (cm_setI (cm_setI (cm_setI g 65 111 (if cm_I h 59 f = 0 then 0 else cm_I h 58 f)) 65 105 (nI f)) 65 110 (cm_I h 54 f)) (P_mr f) := ((Xg.set (Or.inl rfl)).set (Or.inl rfl)).set (Or.inl rfl)
      refine m_cakeOf (Xg3.ly L) (by omega) (s187_114 (Xg3.ly L) _ _ _ ?_)
      rw [cl, show (107 : Int32).toNatClampNeg = 107 from rfl]
      have ec : q_cake (cm_I (cm_setI (cm_setI (cm_setI g 65 111 (if cm_I h 59 f = 0 then 0 else cm_I h 58 f)) 65 105 (nI f)) 65 110 (cm_I h 54 f))) f = q_cake (cm_I h) f := cm_sum_congr fun s _ => Xg3.2 48 _ (by unfold P_mr; omega)
      rw [ec]
      have e55 : cm_I (cm_setI (cm_setI (cm_setI g 65 111 (if cm_I h 59 f = 0 then 0 else cm_I h 58 f)) 65 105 (nI f)) 65 110 (cm_I h 54 f)) 55 f = nI j := by rw [Xg3.2 55 f (by unfold P_mr; omega)]; exact er
      rw [e55]
      refine ⟨⟨by decide, by decide⟩, i9, ?_⟩
      have X4 : XI h (cm_setI (cm_setI (cm_setI (cm_setI g 65 111 (if cm_I h 59 f = 0 then 0 else cm_I h 58 f)) 65 105 (nI f)) 65 110 (cm_I h 54 f)) 65 107 (q_cake (cm_I h) f)) (P_mr f) := Xg3.set (Or.inl rfl)
      have elt : ∀ c, isL c → cm_I (cm_setI (cm_setI (cm_setI (cm_setI g 65 111 (if cm_I h 59 f = 0 then 0 else cm_I h 58 f)) 65 105 (nI f)) 65 110 (cm_I h 54 f)) 65 107 (q_cake (cm_I h) f)) 65 c = m_lf (cm_I h) f c := fun c q => by
        unfold isL at q
        rcases q with rfl | rfl | rfl | rfl | rfl | rfl
        · rw [sI_o (Or.inr (by decide)), sI_o (Or.inr (by decide)), sI_o (Or.inr (by decide)), sI_o (Or.inr (by decide)), eg, sI_o (Or.inr (by decide)), sI_s]; rfl
        · rw [sI_o (Or.inr (by decide)), sI_o (Or.inr (by decide)), sI_o (Or.inr (by decide)), sI_o (Or.inr (by decide)), eg, sI_s]; rfl
        · rw [sI_o (Or.inr (by decide)), sI_o (Or.inr (by decide)), sI_o (Or.inr (by decide)), sI_s]; rfl
        · rw [sI_o (Or.inr (by decide)), sI_o (Or.inr (by decide)), sI_s]; rfl
        · rw [sI_o (Or.inr (by decide)), sI_s]; rfl
        · rw [sI_s]; rfl
      have i52 : cm_I (cm_setI (cm_setI (cm_setI (cm_setI g 65 111 (if cm_I h 59 f = 0 then 0 else cm_I h 58 f)) 65 105 (nI f)) 65 110 (cm_I h 54 f)) 65 107 (q_cake (cm_I h) f)) 52 f = 1 := by
        rw [sI_o (Or.inl (by decide)), sI_o (Or.inl (by decide)), sI_o (Or.inl (by decide)), sI_o (Or.inl (by decide)), eg, sI_o (Or.inl (by decide)), sI_o (Or.inl (by decide)), sI_s]
      have i60 : cm_I (cm_setI (cm_setI (cm_setI (cm_setI g 65 111 (if cm_I h 59 f = 0 then 0 else cm_I h 58 f)) 65 105 (nI f)) 65 110 (cm_I h 54 f)) 65 107 (q_cake (cm_I h) f)) 60 f = cm_I h 60 f := by
        rw [sI_o (Or.inl (by decide)), sI_o (Or.inl (by decide)), sI_o (Or.inl (by decide)), sI_o (Or.inl (by decide)), eg, sI_o (Or.inl (by decide)), sI_o (Or.inl (by decide)), sI_o (Or.inl (by decide))]
      generalize (cm_setI (cm_setI (cm_setI (cm_setI g 65 111 (if cm_I h 59 f = 0 then 0 else cm_I h 58 f)) 65 105 (nI f)) 65 110 (cm_I h 54 f)) 65 107 (q_cake (cm_I h) f)) = g4 at X4 elt i52 i60 ⊢
      -- a label's worth
      have wor : ∀ (g5 : cmH) (l : Nat) (K : Int32 → cmH → Prop), l < 256 → XI h g5 (P_mr f) → (∀ c, isL c → cm_I g5 65 c = m_lf (cm_I h) f c) → (∀ g6, XI h g6 (P_mr f) → (∀ c, isL c → cm_I g6 65 c = m_lf (cm_I h) f c) → cm_I g6 52 f = cm_I g5 52 f → cm_I g6 74 f = cm_I g5 74 f → cm_I g6 60 f = cm_I g5 60 f → K (wv (m_lf (cm_I h) f) l (cls j)) g6) → cm_ci sc (d + 4) 179 [.ref 38, .int (nI j), .int (nI l)] g5 K := fun g5 l K hl X5 e5 kk => by
        have hR := G.2.2 j hj
        refine m_worthBy' (X5.ly L) (by omega) hl ⟨by rw [X5.2 64 _ (by unfold P_mr; omega)]; exact hR.1, hR.2.1, fun i x hx => by rw [X5.2 63 _ (by unfold P_mr; omega)]; exact hR.2.2.1 i x hx, hR.2.2.2⟩ e5 (W j hj) (fun g6 X6 => kk g6 (X5.trans (X6.mono fun x k q => by unfold P_ev at q; unfold P_mr; omega)) (fun c q => by rw [X6.2 65 _ (by unfold P_ev; omega)]; exact e5 c q) (X6.2 52 f (by unfold P_ev; omega)) (X6.2 74 f (by unfold P_ev; omega)) (X6.2 60 f (by unfold P_ev; omega)))
      have r55 : ∀ g5, XI h g5 (P_mr f) → cm_I g5 55 f = nI j := fun g5 X5 => by rw [X5.2 55 f (by unfold P_mr; omega)]; exact er
      refine wor g4 99 _ (by decide) X4 elt (fun g5 X5 e5 a5 b5 c5 => s187_127 (X5.ly L) _ _ ⟨fun zc => ?_, fun zc => ?_⟩)
      · rw [cl, r55 g5 X5]
        refine ⟨i9, wor g5 119 _ (by decide) X5 e5 (fun g6 X6 e6 a6 b6 c6 => s187_150 (X6.ly L) _ _ ⟨fun zw => ?_, fun zw => ?_⟩)⟩
        · rw [cl, r55 g6 X6]
          refine ⟨i9, wor g6 114 _ (by decide) X6 e6 (fun g7 X7 e7 a7 b7 c7 => s187_222 (X7.ly L) _ _ ⟨fun zr => ?_, fun zr => ?_⟩)⟩
          · refine tail g7 _ _ _ _ (X7.ly L) (X7.mono fun _ _ q => Or.inl q) ?_ (by rw [c7, c6, c5, i60]) (fun _ w => absurd zw w) (fun _ x k q => X7.2 x k q) (fun w => absurd zc w) k
            rw [a7, a6, a5, i52]
            show (1 : Int32) = if wv _ 99 (cls j) ≠ 0 then 1 else if wv _ 119 (cls j) ≠ 0 then _ else if wv _ 114 (cls j) ≠ 0 then 3 else 1
            rw [if_neg (fun w => w zc), if_neg (fun w => w zw), if_neg (fun w => w zr)]
          · rw [cl]
            have X8 : XI h (cm_setI g7 52 f 3) (P_mr f) := X7.set (Or.inr (Or.inr (Or.inr ⟨Or.inl rfl, rfl⟩)))
            refine ⟨i9, tail _ _ _ _ _ (X8.ly L) (X8.mono fun _ _ q => Or.inl q) ?_ (by rw [sI_o (Or.inl (by decide)), c7, c6, c5, i60]) (fun _ w => absurd zw w) (fun _ x k q => X8.2 x k q) (fun w => absurd zc w) k⟩
            rw [sI_s]
            show (3 : Int32) = if wv _ 99 (cls j) ≠ 0 then 1 else if wv _ 119 (cls j) ≠ 0 then _ else if wv _ 114 (cls j) ≠ 0 then 3 else 1
            rw [if_neg (fun w => w zc), if_neg (fun w => w zw), if_pos zr]
        · rw [cl, r55 g6 X6]
          refine ⟨i9, wor g6 117 _ (by decide) X6 e6 (fun g7 X7 e7 a7 b7 c7 => s187_174 (X7.ly L) _ _ _ _ _ ?_)⟩
          rw [cl, X7.2 54 f (by unfold P_mr; omega), X7.2 51 f (by unfold P_mr; omega)]
          have X8 : ∀ v b, XI h (cm_setI (cm_setI g7 74 f v) 52 f b) (P_mr f) := fun v b => (X7.set (Or.inr (Or.inr (Or.inr ⟨Or.inr (Or.inr rfl), rfl⟩)))).set (Or.inr (Or.inr (Or.inr ⟨Or.inl rfl, rfl⟩)))
          have fin2 : ∀ (v b : Int32), v = q_cl (wv (m_lf (cm_I h) f) 117 (cls j)) → b = dst (wv (m_lf (cm_I h) f) 99 (cls j)) (wv (m_lf (cm_I h) f) 119 (cls j)) (wv (m_lf (cm_I h) f) 114 (cls j)) (cm_I h 54 f) (cm_I h 51 f) → cm_wp sc (d + 5) 187 206 [some (.ref 38), some (.int (nI f))] [.int b, .int (nI f), .ref 52] (cm_setI g7 74 f v) (fun v h' => v = none ∧ KV h') := fun v b ev eb => by
            refine s187_206 (XI.set (P := P_mr f) X7 (Or.inr (Or.inr (Or.inr ⟨Or.inr (Or.inr rfl), rfl⟩))) |>.ly L) _ _ _ ?_
            rw [cl]
            exact ⟨i9, tail _ _ _ _ _ ((X8 v b).ly L) ((X8 v b).mono fun _ _ q => Or.inl q) (by rw [sI_s]; exact eb) (by rw [sI_o (Or.inl (by decide)), sI_o (Or.inl (by decide)), c7, c6, c5, i60]) (fun _ _ => by rw [sI_o (Or.inl (by decide)), sI_s]; exact ev) (fun _ x k q => (X8 v b).2 x k q) (fun w => absurd zc w) k⟩
          refine ⟨ix_nI hf (by decide), i9, fun z => fin2 _ 2 rfl ?_, fun z => fin2 _ 5 rfl ?_⟩
          · unfold dst
            rw [if_neg (fun w => w zc), if_pos zw, if_neg (Int32.not_le.mpr z)]
          · unfold dst
            rw [if_neg (fun w => w zc), if_pos zw, if_pos (Int32.not_lt.mp z)]
      · have n5 : cm_I g5 42 f = nI n := by rw [X5.2 42 f (by unfold P_mr; omega)]; exact hn
        refine m_change (X5.ly L) (by omega) n5 h10 (fun g6 Z6 => s187_135 _ (tail g6 _ _ _ _ (Z6.1.ly (X5.ly L)) ((X5.mono fun _ _ q => Or.inl q).trans (Z6.1.mono fun _ _ q => Or.inr q)) ?_ ?_ (fun w => absurd w zc) (fun w => absurd w zc) (fun _ => ?_) k))
        · rw [Z6.1.2 52 f (by unfold P_mg; omega), a5, i52]
          unfold dst
          rw [if_pos zc]
        · rw [Z6.1.2 60 f (by unfold P_mg; omega), c5, i60]
        · obtain ⟨-, z1, z2, z3, z4⟩ := Z6
          refine ⟨fun s hs => ⟨?_, (z1 s hs).2⟩, fun c hc => ⟨(z2 c hc).1, ?_⟩, z3, z4⟩
          · rw [(z1 s hs).1, X5.2 71 _ (by unfold P_mr; omega), X5.2 48 _ (by unfold P_mr; omega)]
            congr 2
            exact cm_sum_congr fun c _ => X5.2 46 _ (by unfold P_mr; omega)
          · rw [(z2 c hc).2, X5.2 44 _ (by unfold P_mr; omega)]
    refine s187_42 L1 _ _ _ ?_
    rw [cl, show (112 : Int32).toNatClampNeg = 112 from rfl, o52 59 f (by decide), o52 58 f (by decide), o52 53 f (by decide)]
    refine ⟨⟨by decide, by decide⟩, i9, fun z => ?_, fun z => ?_⟩
    · have := w81 _ rfl
      rw [if_pos z] at this ⊢
      rw [if_pos z] at this
      exact this
    · have := w81 _ rfl
      rw [if_neg z] at this ⊢
      rw [if_neg z] at this
      exact this
  refine ⟨i9, fun z => ?_, fun z => ?_⟩
  · have eo : o = none := by
      cases o with
      | none => rfl
      | some j => exact absurd z (nI_m (by have := ho j rfl; have := G.2.1; omega))
    subst eo
    refine tail _ 0 0 0 0 L1 X1' ?_ (sI_o (Or.inl (by decide))) (fun _ w => absurd rfl w) (fun _ x k q => X1.2 x k q) (fun w => absurd rfl w) k
    rw [sI_s]
    unfold dst
    rw [if_neg (by decide), if_neg (by decide), if_neg (by decide)]
  · obtain ⟨j, eo⟩ : ∃ j, o = some j := by
      cases o with
      | none => exact absurd rfl z
      | some j => exact ⟨j, rfl⟩
    refine ⟨fun y => ?_, fun y => ?_⟩
    · have := rest j eo
      rw [if_pos y] at this; exact this
    · have := rest j eo
      rw [if_neg y] at this; exact this
end MDEC
