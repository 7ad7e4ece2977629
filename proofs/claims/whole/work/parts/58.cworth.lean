/-! ===== the class's goesOn, begin, faultIn, worthOf ===== -/
section CWORTH
variable {sc : cmS} {T : Nat → Nat} {n tb : Nat} {lt : Nat → Int32} {d : Nat} {h : cmH} {KV : cmH → Prop} {K : Int32 → cmH → Prop}
/-- the reader may have changed, all else has not -/
def XR (h h' : cmH) : Prop := (h'.1 = h.1 ∧ h'.2.1 = h.2.1 ∧ h'.2.2.1 = h.2.2.1) ∧ (∀ x k, ¬ (x = 9 ∧ 2 ≤ k ∧ k ≤ 6) → cm_I h' x k = cm_I h x k) ∧ (∀ x k, ¬ (x = 9 ∧ k = 7) → cm_J h' x k = cm_J h x k) ∧ ∀ x k, ¬ (x = 9 ∧ k = 1) → cm_R h' x k = cm_R h x k
theorem XR.refl {h : cmH} : XR h h := ⟨⟨rfl, rfl, rfl⟩, fun _ _ _ => rfl, fun _ _ _ => rfl, fun _ _ _ => rfl⟩
theorem XR.trans {h h' h'' : cmH} (x : XR h h') (y : XR h' h'') : XR h h'' := ⟨⟨y.1.1.trans x.1.1, y.1.2.1.trans x.1.2.1, y.1.2.2.trans x.1.2.2⟩, fun a k z => (y.2.1 a k z).trans (x.2.1 a k z), fun a k z => (y.2.2.1 a k z).trans (x.2.2.1 a k z), fun a k z => (y.2.2.2 a k z).trans (x.2.2.2 a k z)⟩
theorem YR.r {h h' : cmH} (y : YR h h') : XR h h' := ⟨by rw [y.1]; exact ⟨rfl, rfl, rfl⟩, fun x k q => y.2.1 x k (by omega), y.2.2, fun x k _ => by rw [y.1]; rfl⟩
theorem XR.kd {h h' : cmH} (x : XR h h') : cm_kd h' = cm_kd h := by unfold cm_kd; rw [x.1.2.1]
theorem XR.ln {h h' : cmH} (x : XR h h') : cm_ln h' = cm_ln h := by unfold cm_ln; rw [x.1.2.2]
theorem XR.nn {h h' : cmH} (x : XR h h') : cm_n h' = cm_n h := by unfold cm_n; rw [x.1.1]
theorem ly_91 : ∀ e ∈ ly_R, ¬ (e.1 = 9 ∧ e.2.1 = 1) := by decide
theorem XR.ly {h h' : cmH} (x : XR h h') (L : LY h) : LY h' := by
  refine ⟨by rw [x.nn]; exact L.1, fun a k n q => by rw [x.kd, x.ln]; exact L.2.1 a k n q, fun a f b q => ?_⟩
  rw [x.2.2.2 a f (ly_91 _ q)]; exact L.2.2 a f b q
/-- a text of n bytes lies at ta -/
def TXT (h : cmH) (ta : Nat) (T : Nat → Nat) (n : Nat) : Prop := TX h ta ∧ cm_I h ta 1 = nI n ∧ n ≤ cm_ln h (ta + 1) ∧ cm_ln h (ta + 1) < 2 ^ 31 ∧ n ≤ 160 ∧ ∀ k, k < n → cm_I h (ta + 1) k = nI (T k) ∧ 0 < T k ∧ T k ≤ 255
theorem sR_same {h : cmH} {a k : Nat} {v : Option Nat} : cm_R (cm_setR h a k v) a k = v := u2_s
theorem c_begin {ta : Nat} (L : LY h) (G : TXT h ta T n) (hl : ∀ c, isL c → cm_I h 10 (lx c) = lt c) (k : ∀ h', XR h h' → RS h' T n (ta + 1) lt → RA h' n 0 none → KV h') : cm_cv sc (d + 1) 40 [.ref 9, .ref ta] h KV := by
  obtain ⟨t, e1, l1, l2, l3, tt⟩ := G
  have k9 : cm_kd h 9 = 6 ∧ 9 < cm_n h := ly_k L 9 rfl
  have k10 : cm_kd h 10 = 13 ∧ 10 < cm_n h := ly_k L 10 rfl
  have n9 : ta + 1 ≠ 9 := fun e => by have := t.2.2.2; rw [e, k9.1] at this; cases this
  have n10 : ta + 1 ≠ 10 := fun e => by have := t.2.2.2; rw [e, k10.1] at this; cases this
  refine cv_of rfl (s40_0 L _ ⟨t, ⟨t.1, by have := t.2.1; omega⟩, k9, ta + 1, sR_same, ⟨by rw [t.2.2.2]; decide, by rw [t.2.2.2]; decide, t.2.1⟩, rfl, ?_⟩)
  have em : (if Int32.ofNat (cm_ln h (ta + 1)) < cm_I h ta 1 then Int32.ofNat (cm_ln h (ta + 1)) else cm_I h ta 1) = nI n := by
    rw [if_neg, e1]
    rw [e1]
    exact Int32.not_lt.mpr (nI_le l1 l2)
  rw [em]
  have X : XR h (cm_setI (cm_setI (cm_setI (cm_setR h 9 1 (some (ta + 1))) 9 2 (nI n)) 9 3 0) 9 4 (-1)) := by
    refine ⟨⟨rfl, rfl, rfl⟩, fun x k q => ?_, fun _ _ _ => rfl, fun x k q => if_neg q⟩
    rw [sI_o (by omega), sI_o (by omega), sI_o (by omega)]; rfl
  refine k _ X ⟨X.ly L, ⟨show cm_R (cm_setR h 9 1 (some (ta + 1))) 9 1 = _ from sR_same, by rw [X.kd]; exact t.2.2.2, by rw [X.nn]; exact t.2.1, n9, by rw [X.ln]; exact l1, by rw [X.ln]; exact l2, ?_, l3, fun j hj => ?_⟩, n10, fun c q => ?_⟩ ⟨?_, by omega, sI_s, fun q e => by cases e⟩
  · rw [sI_o (Or.inr (by decide)), sI_o (Or.inr (by decide)), sI_s]
  · rw [X.2.1 _ _ (by omega)]; exact tt j hj
  · rw [X.2.1 _ _ (by omega)]; exact hl c q
  · rw [sI_o (Or.inr (by decide)), sI_s]; rfl
theorem c_goesOn {p : Nat} {w : Option Nat} (S : RS h T n tb lt) (A : RA h n p w) (k1 : sg T n p w = 59 → ∀ h', XI h h' P_r → RA h' n (sq T n p + 1) w → K 1 h') (k2 : ¬ sg T n p w = 59 → ∀ h', XI h h' P_r → RA h' n (sq T n p) (if sg T n p w = 0 then w else fl w (sq T n p)) → K 0 h') : cm_ci sc (d + 1) 54 [.ref 9] h K := by
  have hle := S.2.1.le (p := p) (w := w)
  refine ci_of rfl (s54_0 S.1 _ (c_sign S.1 S.2.1 A fun h1 X1 A1 => ?_))
  have S1 := S.x X1
  refine s54_4 S1.1 _ _ ⟨fun z => ?_, fun z => ai ?_⟩
  · have ne : ¬ sg T n p w = 59 := fun q => z (by rw [q]; rfl)
    refine ⟨fun z0 => s54_31 _ (ai ?_), fun z0 => ?_⟩
    · have e0 : sg T n p w = 0 := nI_inj (by omega) (by decide) z0
      exact k2 ne h1 X1 (by rw [if_pos e0]; exact A1)
    · have e0 : ¬ sg T n p w = 0 := fun q => z0 (by rw [q]; rfl)
      exact c_fail S1.1 A1 S.m160 fun h2 X2 A2 => s54_31 _ (ai (k2 ne h2 (X1.trans X2) (by rw [if_neg e0]; exact A2)))
  · have e : sg T n p w = 59 := nI_inj (by omega) (by decide) (Decidable.not_not.mp z)
    exact k1 e _ (X1.set ⟨rfl, Or.inl rfl⟩) (A1.nx (h' := h) (sg_lt e (by decide)).1)
theorem c_faultIn {ta N : Nat} (hN : 3000 ≤ N) (hd : 38 ≤ d) (L : LY h) (G : TXT h ta T n) (k : ∀ h', XR h h' → K (wI (pText T n (pp T n N) 161 0 none).1) h') : cm_ci sc d 39 [.ref 9, .ref ta] h K := by
  obtain ⟨d, rfl⟩ : ∃ e, d = e + 2 := ⟨d - 2, by omega⟩
  obtain ⟨lt, hl⟩ : ∃ lt : Nat → Int32, ∀ c, isL c → cm_I h 10 (lx c) = lt c := ⟨fun c => cm_I h 10 (lx c), fun _ _ => rfl⟩
  refine ci_of rfl (s39_0 L _ _ _ (c_begin L G hl fun h1 X1 S1 A1 => s39_5 _ _ _ ?_))
  have h160 := S1.m160
  suffices gen : ∀ (m i p : Nat) (w : Option Nat) (h2 : cmH), i + m = 161 → i ≤ p → XR h h2 → RS h2 T n (ta + 1) lt → RA h2 n p w → (∀ h', XR h h' → K (wI (pText T n (pp T n N) m p w).1) h') → cm_wp sc (d + 2) 39 9 [some (.ref 9), some (.ref ta), some (.int 1), some (.int (nI i))] [] h2 (fun v h' => ∃ x, v = some (.int x) ∧ K x h') from gen 161 0 0 none h1 rfl (Nat.le_refl 0) X1 S1 A1 k
  intro m
  induction m with
  | zero => intro i p w h2 hm hi X2 S2 A2 k; have := A2.2.1; omega
  | succ m ih =>
    intro i p w h2 hm hi X2 S2 A2 k
    have hpn := A2.2.1
    have M := pcl_mono (T := T) (N := N) (w := w) hpn
    refine s39_9 S2.1 _ _ _ ⟨fun z => absurd z (Int32.not_lt.mpr (nI_le (b := 160) (by omega) (by decide))), fun _ => ⟨fun z => absurd z (by decide), fun _ => ?_⟩⟩
    refine c_clause (N := N) hN (by omega) S2 A2 (fun h3 Z => ?_)
    obtain ⟨Y3, S3, A3, -, -⟩ := Z
    have X3 := X2.trans Y3.r
    refine s39_24 S3.1 _ _ _ (c_goesOn S3 A3 (fun e h4 X4 A4 => ?_) (fun e h4 X4 A4 => ?_))
    · refine s39_28 _ _ _ _ ?_
      rw [nI_1]
      unfold pText at k
      rw [if_pos e] at k
      have := sq_ge (T := T) (n := n) (p := (pcl T n (pp T n N) p w).1)
      exact ih (i + 1) _ _ h4 (by omega) (by omega) (X3.trans (YR.of X4).r) (S3.x X4) A4 k
    · refine s39_28 _ _ _ _ ?_
      unfold pText at k
      rw [if_neg e] at k
      have fin : K (cm_I h4 9 4) h4 := by rw [A4.2.2.1]; exact k h4 (X3.trans (YR.of X4).r)
      exact s39_9 (S3.x X4).1 _ _ _ ⟨fun _ => ai fin, fun _ => ⟨fun _ => ai fin, fun z => absurd rfl z⟩⟩
/-- the worth of a label, by the clauses -/
def WV (lt : Nat → Int32) (l : Nat) : List CL → Int32 → Prop
  | [], v => v = 0
  | c :: r, v => ∃ b x, EV lt c.2.1 b ∧ EV lt c.2.2 x ∧ ((c.1 = l ∧ b ≠ 0 ∧ v = x) ∨ (¬ (c.1 = l ∧ b ≠ 0) ∧ WV lt l r v))
theorem c_worthOf {ta N l : Nat} {cls : List CL} (hN : 3000 ≤ N) (hd : 38 ≤ d) (hlb : l < 256) (L : LY h) (G : TXT h ta T n) (hl : ∀ c, isL c → cm_I h 10 (lx c) = lt c) (E : pText T n (pp T n N) 161 0 none = (none, cls)) (k : ∀ v h', XR h h' → WV lt l cls v → K v h') : cm_ci sc d 65 [.ref 9, .int (nI l), .ref ta] h K := by
  obtain ⟨d, rfl⟩ : ∃ e, d = e + 2 := ⟨d - 2, by omega⟩
  refine ci_of rfl (s65_0 L _ _ _ _ (c_begin L G hl fun h1 X1 S1 A1 => s65_5 _ _ _ _ ?_))
  have h160 := S1.m160
  suffices gen : ∀ (m i p : Nat) (cls : List CL) (h2 : cmH), i + m = 161 → i ≤ p → XR h h2 → RS h2 T n (ta + 1) lt → RA h2 n p none → pText T n (pp T n N) m p none = (none, cls) → (∀ v h', XR h h' → WV lt l cls v → K v h') → cm_wp sc (d + 2) 65 10 [some (.ref 9), some (.int (nI l)), some (.ref ta), some (.int 1), some (.int (nI i))] [] h2 (fun v h' => ∃ x, v = some (.int x) ∧ K x h') from gen 161 0 0 cls h1 rfl (Nat.le_refl 0) X1 S1 A1 E k
  intro m
  induction m with
  | zero => intro i p cls h2 hm hi X2 S2 A2 E k; have := A2.2.1; omega
  | succ m ih =>
    intro i p cls h2 hm hi X2 S2 A2 E k
    have hpn := A2.2.1
    have M := pcl_mono (T := T) (N := N) (w := none) hpn
    have hls := S2.2.1.le (p := p) (w := none)
    refine s65_10 S2.1 _ _ _ _ ⟨fun z => absurd z (Int32.not_lt.mpr (nI_le (b := 160) (by omega) (by decide))), fun _ => ⟨fun z => absurd z (by decide), fun _ => ?_⟩⟩
    refine c_clause (N := N) hN (by omega) S2 A2 (fun h3 Z => ?_)
    obtain ⟨Y3, S3, A3, e5, F3⟩ := Z
    have X3 := X2.trans Y3.r
    unfold pText at E
    have en : (pcl T n (pp T n N) p none).2.1 = none := by
      by_cases y : sg T n (pcl T n (pp T n N) p none).1 (pcl T n (pp T n N) p none).2.1 = 59
      · exact (sg_lt y (by decide)).2.1
      · rw [if_neg y] at E
        have := congrArg Prod.fst E
        dsimp only at this
        split at this
        · exact this
        · unfold fl at this
          split at this <;> cases this
    obtain ⟨hlab, ec, b, v, hb, e6, e7, E1, E2⟩ := F3 en
    -- if it isn't this one
    have on : ¬ ((pcl T n (pp T n N) p none).2.2.1 = l ∧ b ≠ 0) → cm_wp sc (d + 2) 65 47 [some (.ref 9), some (.int (nI l)), some (.ref ta), some (.int 1), some (.int (nI i))] [] h3 (fun v h' => ∃ x, v = some (.int x) ∧ K x h') := fun no => by
      refine s65_47 S3.1 _ _ _ _ (c_goesOn S3 A3 (fun e h4 X4 A4 => ?_) (fun e h4 X4 A4 => ?_))
      · refine s65_51 _ _ _ _ _ ?_
        rw [nI_1]
        rw [if_pos e] at E
        have s1 := sq_ge (T := T) (n := n) (p := (pcl T n (pp T n N) p none).1)
        rw [en] at E A4 e
        obtain ⟨ea, eb⟩ := Prod.mk.inj E
        refine ih (i + 1) _ _ h4 (by omega) (by omega) (X3.trans (YR.of X4).r) (S3.x X4) A4 (Prod.ext ea rfl) (fun v' h' X' W => k v' h' X' ?_)
        rw [← eb]
        exact ⟨b, v, E1, E2, Or.inr ⟨no, W⟩⟩
      · refine s65_51 _ _ _ _ _ ?_
        rw [if_neg e] at E
        obtain ⟨ea, eb⟩ := Prod.mk.inj E
        have fin : K 0 h4 := k 0 h4 (X3.trans (YR.of X4).r) (by rw [← eb]; exact ⟨b, v, E1, E2, Or.inr ⟨no, rfl⟩⟩)
        exact s65_10 (S3.x X4).1 _ _ _ _ ⟨fun _ => ai fin, fun _ => ⟨fun _ => ai fin, fun z => absurd rfl z⟩⟩
    refine s65_26 S3.1 _ _ _ _ ⟨fun z => on fun q => z (by rw [e5, ← ec, q.1]), fun z => ⟨fun z2 => on fun q => q.2 (by rw [← e6]; exact z2), fun z2 => ai ?_⟩⟩
    rw [e7, lg_l2i_i2l]
    have el : sg T n p none = l := nI_inj (by omega) (by omega) (by rw [← e5]; exact Decidable.not_not.mp z)
    refine k v h3 X3 ?_
    have hd : ∃ r, cls = (pcl T n (pp T n N) p none).2.2 :: r := by
      split at E
      · exact ⟨_, (Prod.mk.inj E).2.symm⟩
      · exact ⟨[], (Prod.mk.inj E).2.symm⟩
    obtain ⟨r, rfl⟩ := hd
    exact ⟨b, v, E1, E2, Or.inl ⟨by rw [ec]; exact el, fun q => z2 (by rw [e6]; exact q), rfl⟩⟩
theorem c_fault {N : Nat} (hN : 3000 ≤ N) (hd : 40 ≤ d) (L : LY h) (G : TXT h 6 T n) (k : ∀ h', XR h h' → K (wI (pText T n (pp T n N) 161 0 none).1) h') : cm_ci sc d 38 [.ref 0] h K := by
  obtain ⟨d, rfl⟩ : ∃ e, d = e + 1 := ⟨d - 1, by omega⟩
  exact ci_of rfl (s38_0 L (c_faultIn hN (by omega) L G fun h' X => s38_11 _ (ai (k h' X))))
end CWORTH
