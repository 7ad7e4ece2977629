/-! ===== rules, letters, worth ===== -/
section RULES
variable {sc : cmS} {d : Nat} {h : cmH} {K : Int32 → cmH → Prop} {KV : cmH → Prop} {T : Nat → Nat} {n : Nat}
theorem nar_c : ∀ t, t < 256 → vp_nar .char (nI t) = nI t := by decide +kernel
theorem c_newText {m : Nat} (hm : m ≤ 160) (k : KV (cm_setR (cm_mk (cm_mk h 9 2) 12 m) (cm_n h) 0 (some (cm_n h + 1)))) : cm_cv sc (d + 1) 3 [.ref (cm_n h), .int (nI m)] (cm_mk h 9 2) KV := by
  have e : (if (0 : Int32) < nI m then nI m else 0) = nI m := by
    split
    · rfl
    · rename_i q
      have : m = 0 := by
        rcases Nat.eq_zero_or_pos m with z | z
        · exact z
        · exact absurd (nI_lt (a := 0) z (by omega)) q
      rw [this]; rfl
  refine cv_of rfl (s3_0 _ _ ?_)
  rw [e, nI_clamp (by omega)]
  exact ⟨⟨nI_pos (by omega), by omega⟩, ⟨by rw [mk_kd, mk_n, if_neg (by omega), mk_kd, if_pos rfl], by rw [mk_n, mk_n]; omega⟩, rfl, k⟩
/-- a new text at the heap's end that holds the tape -/
def NT (h h' : cmH) (T : Nat → Nat) (n : Nat) : Prop := AG h h' ∧ cm_n h' = cm_n h + 2 ∧ cm_sl h' = cm_sl h + (2 + n) ∧ TXT h' (cm_n h) T n
theorem c_copy {a : Nat} (ha : 88 ≤ a) (L : LY h) (G : TXT h 6 T n) (X : TX h a) (hl : cm_ln h (a + 1) = n) (k : ∀ h', XI h h' (fun x _ => x = a ∨ x = a + 1) → cm_I h' a 1 = nI n → (∀ j, j < n → cm_I h' (a + 1) j = nI (T j)) → KV h') : cm_cv sc (d + 1) 56 [.ref a, .ref 6] h KV := by
  obtain ⟨X6, e6, hl6, hl6b, h160, hT⟩ := G
  have ok : 12 ≤ cm_kd h (a + 1) ∧ cm_kd h (a + 1) ≤ 18 ∧ a + 1 < cm_n h := by rw [X.2.2.2]; exact ⟨by decide, by decide, X.2.1⟩
  have ok6 : 12 ≤ cm_kd h 7 ∧ cm_kd h 7 ≤ 18 ∧ 7 < cm_n h := by rw [X6.2.2.2]; exact ⟨by decide, by decide, X6.2.1⟩
  refine cv_of rfl (s56_0 _ _ _ ⟨X, ok, X6, ?_⟩)
  have e1 : (if cm_I h 6 1 < Int32.ofNat (cm_ln h (a + 1)) then cm_I h 6 1 else Int32.ofNat (cm_ln h (a + 1))) = nI n := by
    rw [e6, hl]; split <;> rfl
  rw [e1]
  suffices gen : ∀ (m i : Nat) (h1 : cmH), i + m = n → XI h h1 (fun x _ => x = a ∨ x = a + 1) → cm_I h1 a 1 = nI n → (∀ j, j < i → cm_I h1 (a + 1) j = nI (T j)) → cm_wp sc (d + 1) 56 18 [some (.ref a), some (.ref 6), some (.int (nI i))] [] h1 (fun v h' => v = none ∧ KV h') from gen n 0 _ (by omega) (XI.refl.set (Or.inl rfl)) sI_s (fun j hj => absurd hj (by omega))
  intro m
  induction m with
  | zero =>
    intro i h1 hi X1 e2 hj
    obtain rfl : i = n := by omega
    have X' : TX h1 a := by rw [X1.1]; exact X
    refine s56_18 _ _ _ ⟨X', fun _ => ⟨rfl, k h1 X1 e2 hj⟩, fun z => absurd ?_ z⟩
    rw [e2]; exact Int32.le_refl _
  | succ m ih =>
    intro i h1 hi X1 e2 hj
    have X' : TX h1 a := by rw [X1.1]; exact X
    have X6' : TX h1 6 := by rw [X1.1]; exact X6
    have l1 : cm_ln h1 = cm_ln h := by rw [X1.1]; rfl
    have k1 : cm_kd h1 = cm_kd h := by rw [X1.1]; rfl
    have n1 : cm_n h1 = cm_n h := by rw [X1.1]; rfl
    have i7 : cm_I h1 7 i = nI (T i) := by rw [X1.2 7 i (by omega)]; exact (hT i (by omega)).1
    have tT := (hT i (by omega)).2
    refine s56_18 _ _ _ ⟨X', fun z => absurd z (by rw [e2]; exact nI_ge (by omega) (by omega)), fun _ => ?_⟩
    rw [l1, k1, n1, hl]
    refine ⟨ok, fun z => absurd z (nI_ge (by omega) (by omega)), fun _ => ⟨X6', ok6, fun z => absurd z (nI_ge (by omega) (by omega)), fun _ => ?_⟩⟩
    rw [nI_clamp (by omega), show (6 + 1 : Nat) = 7 from rfl, i7, nar_c _ (by omega), nI_1]
    refine ⟨⟨X6'.2.2.2, X6'.2.1, nI_pos (by omega), by rw [l1, nI_clamp (by omega)]; exact Nat.lt_of_lt_of_le (by omega) hl6⟩, ⟨X'.2.2.2, X'.2.1, nI_pos (by omega), by rw [l1, hl, nI_clamp (by omega)]; omega⟩, ?_⟩
    refine ih (i + 1) _ (by omega) (X1.set (Or.inr rfl)) (by rw [sI_o (Or.inl (by omega))]; exact e2) (fun j hjj => ?_)
    by_cases y : j = i
    · subst y; exact sI_s
    · rw [sI_o (Or.inr y)]; exact hj j (by omega)
theorem XR.txt {h h' : cmH} {ta : Nat} (x : XR h h') (h9 : ta ≠ 9) (h9' : ta + 1 ≠ 9) (G : TXT h ta T n) : TXT h' ta T n := by
  obtain ⟨⟨a1, a2, a3, a4⟩, b, c, e, f, g⟩ := G
  refine ⟨⟨by rw [x.kd]; exact a1, by rw [x.nn]; exact a2, by rw [x.2.2.2 _ _ (by omega)]; exact a3, by rw [x.kd]; exact a4⟩, by rw [x.2.1 _ _ (by omega)]; exact b, by rw [x.ln]; exact c, by rw [x.ln]; exact e, f, fun k hk => by rw [x.2.1 _ _ (by omega)]; exact g k hk⟩
theorem XR.ns {h h' : cmH} (x : XR h h') : cm_n h' = cm_n h ∧ cm_sl h' = cm_sl h := by unfold cm_n cm_sl; rw [x.1.1]; exact ⟨rfl, rfl⟩
theorem c_rules {N Rn : Nat} (hN : 3000 ≤ N) (hd : 39 ≤ d) (L : LY h) (eR : cm_I h 0 11 = nI Rn) (hR : Rn ≤ 12) (G : TXT h 6 T n) (B : FBd n (pText T n (pp T n N) 161 0 none)) (y : Rn < 12 → (pText T n (pp T n N) 161 0 none).1 = none → ∀ h1 h2, XR h h1 → NT h1 h2 T n → K (nI Rn) (cm_setI (cm_setI (cm_setR h2 8 Rn (some (cm_n h))) 6 1 0) 0 11 (nI (Rn + 1)))) (z : ¬ (Rn < 12 ∧ (pText T n (pp T n N) 161 0 none).1 = none) → ∀ h1, XR h h1 → K (-1) h1) : cm_ci sc d 55 [.ref 0] h K := by
  obtain ⟨d, rfl⟩ : ∃ e, d = e + 2 := ⟨d - 2, by omega⟩
  have h160 := G.2.2.2.2.1
  refine ci_of rfl (s55_0 L _ ⟨fun q => absurd q (by rw [eR]; exact nI_pos (by omega)), fun _ => ⟨fun q => ai (z (fun w => ?_) h XR.refl), fun q => ?_⟩⟩)
  · rw [eR] at q; exact absurd q (nI_ge (b := 12) w.1 (by decide))
  have hlt : Rn < 12 := by
    rcases Nat.lt_or_ge Rn 12 with w | w
    · exact w
    · exact absurd (by rw [eR]; exact nI_le (a := 12) w (by omega)) q
  refine c_faultIn hN (by omega) L G fun h1 X1 => s55_27 _ _ ⟨fun e => ?_, fun e => ai (z (fun w => e (by rw [w.2]; rfl)) h1 X1)⟩
  have L1 := X1.ly L
  have h88 := L1.1
  have G1 := X1.txt (by decide) (by decide) G
  have nn1 := X1.ns
  have i61 : cm_I (cm_mk h1 9 2) 6 1 = nI n := by rw [mk_I, if_neg (by omega)]; exact G1.2.1
  have k0 := ly_k L1 0 rfl
  have k6 := ly_k L1 6 rfl
  refine ⟨⟨by rw [mk_kd, if_neg (by omega)]; exact k0.1, by rw [mk_n]; omega⟩, 6, by rw [mk_R, if_neg (by omega)]; exact ly_r L1 0 2 rfl, ⟨by rw [mk_kd, if_neg (by omega)]; exact k6.1, by rw [mk_n]; omega⟩, ⟨by rw [mk_kd, if_pos rfl], by rw [mk_n]; omega⟩, ?_⟩
  rw [i61]
  refine c_newText h160 ?_
  generalize hg : cm_setR (cm_mk (cm_mk h1 9 2) 12 n) (cm_n h1) 0 (some (cm_n h1 + 1)) = h2
  have A2 : AG h1 h2 := by
    subst hg
    refine ⟨by rw [sR_n, mk_n, mk_n]; omega, fun a ha => ⟨by rw [sR_kd, mk_kd, mk_n, if_neg (by omega), mk_kd, if_neg (by omega)], by rw [sR_ln, mk_ln, mk_n, if_neg (by omega), mk_ln, if_neg (by omega)], fun k => ⟨by rw [sR_I, mk_I, mk_n, if_neg (by omega), mk_I, if_neg (by omega)], by rw [sR_J, mk_J, mk_n, if_neg (by omega), mk_J, if_neg (by omega)], by rw [sR_R, if_neg (by omega), mk_R, mk_n, if_neg (by omega), mk_R, if_neg (by omega)]⟩⟩⟩
  have n2 : cm_n h2 = cm_n h1 + 2 := by subst hg; rw [sR_n, mk_n, mk_n]
  have s2 : cm_sl h2 = cm_sl h1 + (2 + n) := by subst hg; rw [sR_sl, mk_sl, mk_sl]; omega
  have T2 : TX h2 (cm_n h1) := by
    subst hg
    exact ⟨by rw [sR_kd, mk_kd, mk_n, if_neg (by omega), mk_kd, if_pos rfl], by rw [sR_n, mk_n, mk_n]; omega, by rw [sR_R, if_pos ⟨rfl, rfl⟩], by rw [sR_kd, mk_kd, mk_n, if_pos rfl]⟩
  have ln2 : cm_ln h2 (cm_n h1 + 1) = n := by subst hg; rw [sR_ln, mk_ln, mk_n, if_pos rfl]
  clear hg
  have L2 := A2.ly L1
  have G2 : TXT h2 6 T n := by
    obtain ⟨a, b, c, e, f, g⟩ := G1
    refine ⟨ag_TX A2 a, by rw [((A2.2 6 (by omega)).2.2 1).1]; exact b, by rw [(A2.2 7 (by omega)).2.1]; exact c, by rw [(A2.2 7 (by omega)).2.1]; exact e, f, fun k hk => by rw [((A2.2 7 (by omega)).2.2 k).1]; exact g k hk⟩
  refine s55_47 L2 _ _ ⟨T2, c_copy (by omega) L2 G2 T2 ln2 (fun h3 X3 e3 c3 => s55_56 (X3.ly L2) _ ?_)⟩
  have L3 := X3.ly L2
  have NT3 : NT h1 h3 T n := by
    have n3 : cm_n h3 = cm_n h2 := by rw [X3.1]; rfl
    have s3 : cm_sl h3 = cm_sl h2 := by rw [X3.1]; rfl
    have k3 : cm_kd h3 = cm_kd h2 := by rw [X3.1]; rfl
    have l3 : cm_ln h3 = cm_ln h2 := by rw [X3.1]; rfl
    refine ⟨⟨by omega, fun a ha => ⟨by rw [k3]; exact (A2.2 a ha).1, by rw [l3]; exact (A2.2 a ha).2.1, fun k => ⟨by rw [X3.2 a k (by omega)]; exact ((A2.2 a ha).2.2 k).1, by rw [X3.J]; exact ((A2.2 a ha).2.2 k).2.1, by rw [X3.R]; exact ((A2.2 a ha).2.2 k).2.2⟩⟩⟩, by omega, by omega, by rw [X3.1]; exact T2, e3, by rw [l3, ln2]; exact Nat.le_refl n, by rw [l3, ln2]; omega, h160, fun j hj => ⟨c3 j hj, (G.2.2.2.2.2 j hj).2⟩⟩
  have i11 : cm_I h3 0 11 = nI Rn := by rw [X3.2 0 11 (by omega), ((A2.2 0 (by omega)).2.2 11).1, X1.2.1 0 11 (by omega)]; exact eR
  rw [i11, nI_clamp (by omega)]
  have T3 : TX h3 (cm_n h1) := NT3.2.2.2.1
  refine ⟨⟨(ly_oq L3 8 rfl (ix_nI hlt (by decide))).1, by have := T3.2.1; omega, Or.inr (Or.inr ⟨(ly_k L3 8 rfl).1, T3.1⟩)⟩, ly_k L3 0 rfl, 6, by rw [sR_R, if_neg (by omega)]; exact ly_r L3 0 2 rfl, ly_k L3 6 rfl, ai ?_⟩
  rw [sI_o (Or.inl (by decide)), sR_I, i11, nI_1, nI_pred, nn1.1]
  exact y hlt ((B.wI h160).mp e) h1 h3 X1 NT3
/-- the reference's rules -/
def RMk (h : cmH) (j : Nat) (cls : List CL) : Prop := cm_I h 64 j = nI (flats cls).length ∧ (flats cls).length ≤ 398 ∧ (∀ i x, (flats cls)[i]? = some x → cm_I h 63 (420 * j + i) = nI x) ∧ ∀ c, c ∈ cls → c.1 < 256
theorem m_rules {N Rn : Nat} (hN : 3000 ≤ N) (hd : 38 ≤ d) (eR : cm_I h 38 34 = nI Rn) (hR : Rn ≤ 12) (G : RM h T n) (y : Rn < 12 → ∀ cls, pText T n (pp T n N) 161 0 none = (none, cls) → ∀ h1, XI h h1 (fun x k => P_m x k ∨ (x = 63 ∧ 420 * Rn ≤ k) ∨ (x = 64 ∧ k = Rn) ∨ (x = 38 ∧ (k = 29 ∨ k = 34))) → RMk h1 Rn cls → cm_I h1 38 29 = 0 → cm_I h1 38 34 = nI (Rn + 1) → K (nI Rn) h1) (z : ¬ (Rn < 12 ∧ (pText T n (pp T n N) 161 0 none).1 = none) → ∀ h1, XI h h1 P_m → K (-1) h1) : cm_ci sc d 176 [.ref 38] h K := by
  obtain ⟨d, rfl⟩ : ∃ e, d = e + 1 := ⟨d - 1, by omega⟩
  have h160 := G.2.2.1
  refine ci_of rfl (s176_0 G.1 _ ⟨fun q => ai (z (fun w => ?_) h XI.refl), fun q => ?_⟩)
  · have := nI_inj (a := Rn) (b := 12) (by omega) (by decide) (eR.symm.trans q)
    omega
  have hlt : Rn < 12 := by
    rcases Nat.lt_or_ge Rn 12 with w | w
    · exact w
    · exact absurd (by rw [eR, show Rn = 12 by omega]; rfl) q
  refine m_fault hN (by omega) G fun h1 X1 F1 B1 => s176_13 _ _ ⟨fun e => ?_, fun e => ai (z (fun w => e (by rw [w.2]; rfl)) h1 X1)⟩
  have en := (B1.wI h160).mp e
  obtain ⟨f1, f2, f3, f4⟩ := F1 en
  generalize hr : pText T n (pp T n N) 161 0 none = r at y f1 f2 f3 f4 en
  obtain ⟨r1, cls⟩ := r
  dsimp only at en f1 f2 f3 f4
  subst en
  rw [List.nil_append] at f1 f2 f3
  have X1' : XI h h1 (fun x k => P_m x k ∨ (x = 63 ∧ 420 * Rn ≤ k) ∨ (x = 64 ∧ k = Rn) ∨ (x = 38 ∧ (k = 29 ∨ k = 34))) := X1.mono fun _ _ q => Or.inl q
  suffices gen : ∀ (m i : Nat) (h2 : cmH), i + m = (flats cls).length → XI h1 h2 (fun x k => x = 63 ∧ 420 * Rn ≤ k) → (∀ j x, j < i → (flats cls)[j]? = some x → cm_I h2 63 (420 * Rn + j) = nI x) → cm_wp sc (d + 1) 176 21 [some (.ref 38), some (.int (nI i))] [] h2 (fun v h' => ∃ x, v = some (.int x) ∧ K x h') from gen _ 0 h1 (Nat.zero_add _) XI.refl (fun j x hj => absurd hj (by omega))
  intro m
  induction m with
  | zero =>
    intro i h2 hi X2 c2
    have L2 := X2.ly (X1.ly G.1)
    have e33 : cm_I h2 38 33 = nI (flats cls).length := by rw [X2.2 38 33 (by omega)]; exact f1
    have e34 : cm_I h2 38 34 = nI Rn := by rw [X2.2 38 34 (by omega), X1.2 38 34 (by unfold P_m; omega)]; exact eR
    refine s176_21 L2 _ ⟨fun _ => ?_, fun z => absurd ?_ z⟩
    · rw [e33, e34, nI_clamp (by omega), nI_1, nI_pred]
      refine ⟨ix_nI hlt (by decide), ai (y hlt cls rfl _ ?_ ?_ ?_ sI_s)⟩
      · have X2' : XI h h2 (fun x k => P_m x k ∨ (x = 63 ∧ 420 * Rn ≤ k) ∨ (x = 64 ∧ k = Rn) ∨ (x = 38 ∧ (k = 29 ∨ k = 34))) := X1'.trans (X2.mono fun _ _ q => Or.inr (Or.inl q))
        exact ((X2'.set (Or.inr (Or.inr (Or.inl ⟨rfl, rfl⟩)))).set (Or.inr (Or.inr (Or.inr ⟨rfl, Or.inl rfl⟩)))).set (Or.inr (Or.inr (Or.inr ⟨rfl, Or.inr rfl⟩)))
      · refine ⟨?_, by omega, fun i' x hx => ?_, f4⟩
        · rw [sI_o (Or.inl (by decide)), sI_o (Or.inl (by decide)), sI_s]
        · rw [sI_o (Or.inl (by decide)), sI_o (Or.inl (by decide)), sI_o (Or.inl (by decide))]
          exact c2 i' x (by have := (List.getElem?_eq_some_iff.mp hx).1; omega) hx
      · rw [sI_o (Or.inr (by decide)), sI_s]
    · rw [e33, show i = (flats cls).length by omega]; exact Int32.le_refl _
  | succ m ih =>
    intro i h2 hi X2 c2
    have L2 := X2.ly (X1.ly G.1)
    have e33 : cm_I h2 38 33 = nI (flats cls).length := by rw [X2.2 38 33 (by omega)]; exact f1
    have e34 : cm_I h2 38 34 = nI Rn := by rw [X2.2 38 34 (by omega), X1.2 38 34 (by unfold P_m; omega)]; exact eR
    refine s176_21 L2 _ ⟨fun z => absurd z (by rw [e33]; exact nI_ge (by omega) (by omega)), fun _ => ?_⟩
    rw [e34, show (420 : Int32) * nI Rn = nI (420 * Rn) from nI_tm 420 Rn, nI_add, nI_clamp (by omega), nI_clamp (by omega), nI_1]
    refine ⟨ix_nI (by omega) (by decide), ix_nI (by omega) (by decide), ih (i + 1) _ (by omega) (X2.set ⟨rfl, by omega⟩) (fun j x hj hx => ?_)⟩
    by_cases yy : j = i
    · subst yy
      rw [sI_s, X2.2 62 j (by omega)]
      have := f2.2 j x hx
      rw [Nat.zero_add] at this; exact this
    · rw [sI_o (Or.inr (by omega))]; exact c2 j x (by omega) hx
end RULES
