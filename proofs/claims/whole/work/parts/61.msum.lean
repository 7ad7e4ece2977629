/-! ===== the reference's atom, term, sum ===== -/
section MSUM
variable {sc : cmS} {T : Nat → Nat} {n : Nat}
theorem SY.nil {h h' : cmH} {s : Nat} (e : ∀ j, j < s → cm_I h' 62 j = cm_I h 62 j) : SY h h' s [] := ⟨e, fun j x hj => by cases hj⟩
theorem SY.x {h h1 h2 h3 : cmH} {s : Nat} {cs : List Nat} (a : SY h1 h2 s cs) (e1 : ∀ j, cm_I h1 62 j = cm_I h 62 j) (e2 : ∀ j, cm_I h3 62 j = cm_I h2 62 j) : SY h h3 s cs := ⟨fun j hj => by rw [e2, a.1 j hj, e1], fun j x hj => by rw [e2]; exact a.2 j x hj⟩
theorem SY.app {h ha hb hc : cmH} {s op : Nat} {c1 c2 : List Nat} (a : SY h ha s c1) (l : ∀ j, j ≠ s + c1.length → cm_I hb 62 j = cm_I ha 62 j) (v : cm_I hb 62 (s + c1.length) = nI op) (b : SY hb hc (s + c1.length + 1) c2) : SY h hc s (c1 ++ op :: c2) := by
  refine ⟨fun j hj => ?_, fun j x hj => ?_⟩
  · rw [b.1 j (by omega), l j (by omega), a.1 j hj]
  · rcases Nat.lt_trichotomy j c1.length with y | y | y
    · rw [List.getElem?_append_left y] at hj
      rw [b.1 _ (by omega), l _ (by omega)]; exact a.2 j x hj
    · rw [y, List.getElem?_append_right (Nat.le_refl _), Nat.sub_self] at hj
      cases hj
      rw [y, b.1 _ (by omega)]; exact v
    · rw [List.getElem?_append_right (by omega)] at hj
      obtain ⟨i, hi⟩ : ∃ i, j - c1.length = i + 1 := ⟨j - c1.length - 1, by omega⟩
      rw [hi, List.getElem?_cons_succ] at hj
      have := b.2 i x hj
      rw [show s + c1.length + 1 + i = s + j by omega] at this
      exact this
theorem SY.seq {h ha hb hc : cmH} {s : Nat} {c1 c2 : List Nat} (a : SY h ha s c1) (l : ∀ j, cm_I hb 62 j = cm_I ha 62 j) (b : SY hb hc (s + c1.length) c2) : SY h hc s (c1 ++ c2) := by
  refine ⟨fun j hj => ?_, fun j x hj => ?_⟩
  · rw [b.1 j (by omega), l j, a.1 j hj]
  · rcases Nat.lt_or_ge j c1.length with y | y
    · rw [List.getElem?_append_left y] at hj
      rw [b.1 _ (by omega), l]; exact a.2 j x hj
    · rw [List.getElem?_append_right y] at hj
      have := b.2 _ x hj
      rw [show s + c1.length + (j - c1.length) = s + j by omega] at this
      exact this
theorem MD.mono {h : cmH} {a b q S S' : Nat} (D : MD h n a q S) (hab : b ≤ a) (hS : S ≤ S') : MD h n b q S' := by
  obtain ⟨e1, hq, p, s, e2, hp, e3, hs⟩ := D
  exact ⟨e1, hq, p, s, e2, by omega, e3, by omega⟩
theorem MD.nx {h h' : cmH} {a q S : Nat} (D : MD h n a q S) (e : ∀ k, 30 ≤ k → k ≤ 33 → k ≠ 32 → cm_I h' 38 k = cm_I h 38 k) : MD h' n a q S := by
  obtain ⟨e1, hq, p, s, e2, hp, e3, hs⟩ := D
  exact ⟨by rw [e 31 (by decide) (by decide) (by decide)]; exact e1, hq, p, s, by rw [e 30 (by decide) (by decide) (by decide)]; exact e2, hp, by rw [e 33 (by decide) (by decide) (by decide)]; exact e3, hs⟩
theorem x62 {h h' : cmH} (X : XI h h' P_s) (j : Nat) : cm_I h' 62 j = cm_I h 62 j := X.2 62 j (by unfold P_s; omega)
theorem X_m {h h' : cmH} (X : XI h h' P_s) : XI h h' P_m := X.mono fun _ _ q => ps_pm q
theorem MA.nx {h : cmH} {q dep s : Nat} (A : MA h q dep s) : MA (cm_setI h 38 30 (cm_I h 38 30 + 1)) (q + 1) dep s := ⟨by rw [sI_s, A.1, nI_1], by rw [sI_o (Or.inr (by decide))]; exact A.2.1, by rw [sI_o (Or.inr (by decide))]; exact A.2.2.1, by rw [sI_o (Or.inr (by decide))]; exact A.2.2.2⟩
theorem X_a {h : cmH} {v : Int32} : XI h (cm_setI h 38 30 v) P_s := XI.refl.set ⟨rfl, by decide, by decide⟩
theorem fl_none {q : Nat} : fl none q = some q := rfl
theorem m_atom {N : Nat} (HS : mC sc T n 163 [.ref 38] 4 12 N) : mC sc T n 165 [.ref 38] 0 10 (N + 1) := by
  intro d h KV dep p s G hp A hdep hd hN hs k
  obtain ⟨d, rfl⟩ : ∃ e, d = e + 3 := ⟨d - 3, by omega⟩
  have h160 := G.2.2.1
  have ek : pp T n (N + 1) 0 dep p none = pAtom T n (pp T n N) dep p none := rfl
  rw [ek] at k
  have g1 : p ≤ sq T n p := sq_ge
  have g2 : sq T n p ≤ n := sq_le hp
  have hN0 : 16 * (n - p) + 0 < N + 1 := hN
  refine cv_of rfl (s165_0 G.1 _ (m_lk G hp A.1 fun h1 X1 e1 => ?_))
  have Y1 := X_lk X1
  have G1 := G.x (X_m Y1)
  have A1 := A.lk X1 e1
  refine s165_4 G1.1 _ _ ⟨fun z => m_letter_lk G1 (fun hL => ?_) (fun hL => ?_), fun z => ?_⟩
  · -- a letter
    have hl := (sg_lt (T := T) (n := n) (p := p) (w := none) rfl (by unfold isL at hL; omega)).1
    have er : pAtom T n (pp T n N) dep p none = (sq T n p + 1, none, [1, sg T n p none]) := by unfold pAtom; rw [if_neg (by unfold isL at hL; omega), if_pos hL]
    rw [er] at k
    have elk : lk T n p = nI (sg T n p none) := (G.lk (by unfold isL at hL; omega) (by unfold isL at hL; omega)).mpr rfl
    rw [elk]
    refine s165_35 G1.1 _ _ ⟨fun y => absurd y (by decide), fun _ => m_say2 (x := 1) (y := sg T n p none) G (Y1.trans X_a) A1.nx (by omega) (fun h2 X2 A2 S2 => s165_58 _ (s165_65 _ ⟨rfl, k.1 h2 X2 rfl A2 S2⟩)) (fun h2 L2 w => s165_53 L2 _ w)⟩
  · -- a number, or nothing
    refine s165_35 G1.1 _ _ ⟨fun _ => ?_, fun y => absurd rfl y⟩
    have n91 : ¬ sg T n p none = 91 := fun q => z ((G.lk (by decide) (by decide)).mpr q)
    refine m_number (S := s + 2 * (n - p)) G1 g2 sq_idem A1 (by omega) (by omega) (fun dg h2 X2 D2 => ?_) (fun dg en h2 X2 A2 S2 => ?_) (fun dg en h2 X2 D2 => ?_)
    · rw [sg_sq] at dg
      have er : pAtom T n (pp T n N) dep p none = (sq T n p, some (sq T n p), []) := by unfold pAtom; rw [if_neg dg, if_neg hL, if_neg (fun q => n91 q.1)]; rfl
      rw [er] at k
      exact s165_65 _ ⟨rfl, k.2 h2 _ ((X_m Y1).trans X2) rfl D2⟩
    · rw [sg_sq] at dg
      have er : pAtom T n (pp T n N) dep p none = ((nu T n 6 0 (sq T n p) 0).1, none, [0, (nu T n 6 0 (sq T n p) 0).2.2]) := by unfold pAtom; rw [if_pos dg, if_pos en]
      rw [er] at k
      exact s165_65 _ ⟨rfl, k.1 h2 ((X_m Y1).trans X2) rfl A2 (S2.x (x62 Y1) (fun _ => rfl))⟩
    · rw [sg_sq] at dg
      have er : pAtom T n (pp T n N) dep p none = ((nu T n 6 0 (sq T n p) 0).1, some (nu T n 6 0 (sq T n p) 0).1, [0, (nu T n 6 0 (sq T n p) 0).2.2]) := by unfold pAtom; rw [if_pos dg, if_neg (by rw [en]; decide)]; rfl
      rw [er] at k
      exact s165_65 _ ⟨rfl, k.2 h2 _ ((X_m Y1).trans X2) rfl D2⟩
  · -- a bracket
    have e91 : sg T n p none = 91 := (G.lk (by decide) (by decide)).mp (Decidable.not_not.mp z)
    have hl := (sg_lt e91 (by decide)).1
    refine m_opens G1.1 A1 hdep (fun h6 h2 X2 A2 => s165_15 (X2.ly G1.1) _ _ ⟨fun y => absurd y (by decide), fun _ => ?_⟩) (fun h6 => s165_15 G1.1.s _ _ ⟨fun _ => s165_65 _ ⟨rfl, ?_⟩, fun y => absurd rfl y⟩)
    · have er : pAtom T n (pp T n N) dep p none = exq T n (pp T n N 4 (dep + 1) (sq T n p + 1) none) 93 := by unfold pAtom; rw [if_neg (by omega), if_neg (by unfold isL; omega), if_pos ⟨e91, h6⟩]
      rw [er] at k
      have M4 := pp_mono (T := T) (n := n) N 4 (dep + 1) (sq T n p + 1) none hl
      have L4 := pp_len (T := T) (n := n) N 4 (dep + 1) (sq T n p + 1) none hl
      have G2 := G1.x (X_m X2)
      refine HS (d + 2) h2 _ (dep + 1) (sq T n p + 1) s G2 hl A2 (by omega) (by omega) (by show 16 * (n - (sq T n p + 1)) + 2 < N; omega) (by omega) ⟨fun h3 X3 en A3 S3 => ?_, fun h3 q X3 en D3 => ?_⟩
      · have G3 := G2.x X3
        have l4 := L4 en
        have X13 : XI h h3 P_m := (X_m Y1).trans ((X_m X2).trans X3)
        have er2 : exq T n (pp T n N 4 (dep + 1) (sq T n p + 1) none) 93 = (if sg T n (pp T n N 4 (dep + 1) (sq T n p + 1) none).1 none = 93 then (sq T n (pp T n N 4 (dep + 1) (sq T n p + 1) none).1 + 1, none, (pp T n N 4 (dep + 1) (sq T n p + 1) none).2.2) else (sq T n (pp T n N 4 (dep + 1) (sq T n p + 1) none).1, some (sq T n (pp T n N 4 (dep + 1) (sq T n p + 1) none).1), (pp T n N 4 (dep + 1) (sq T n p + 1) none).2.2)) := by
          unfold exq; rw [en]; rfl
        rw [er2] at k
        refine s165_22 G3.1 _ (m_closes (c := 93) G3 M4.2 A3 (by decide) (by decide) (fun e h4 X4 A4 => ?_) (fun e h4 X4 f1 f2 f3 => ?_))
        · rw [if_pos e] at k
          exact s165_28 _ (s165_65 _ ⟨rfl, k.1 h4 (X13.trans (X_m X4)) rfl A4 (S3.x (fun j => by rw [x62 X2, x62 Y1]) (x62 X4))⟩)
        · rw [if_neg e] at k
          have b := sq_le (T := T) (n := n) M4.2
          exact s165_28 _ (s165_65 _ ⟨rfl, k.2 h4 _ (X13.trans (X_m X4)) rfl ⟨f2, b, _, _, f1, by omega, f3, by omega⟩⟩)
      · have G3 := G2.x X3
        have er2 : (exq T n (pp T n N 4 (dep + 1) (sq T n p + 1) none) 93).2.1 = some q := by
          unfold exq; rw [en, sg_some, if_neg (by decide)]; rfl
        refine s165_22 G3.1 _ (m_closes_dead G3.1 h160 h6 D3 (fun h4 X4 D4 => s165_28 _ (s165_65 _ ⟨rfl, k.2 h4 q ((X_m Y1).trans ((X_m X2).trans (X3.trans (X_m X4)))) er2 (D4.mono (Nat.le_refl _) (by omega))⟩)))
    · have er : pAtom T n (pp T n N) dep p none = (sq T n p, some (sq T n p), []) := by unfold pAtom; rw [if_neg (by omega), if_neg (by unfold isL; omega), if_neg (fun q => h6 q.2)]; rfl
      rw [er] at k
      exact k.2 _ _ ((X_m Y1).set (Or.inl ⟨rfl, by decide, by decide⟩)) rfl (MD.mk A1 g2 (by omega))
def mLp (sc : cmS) (T : Nat → Nat) (n M k e N : Nat) : Prop := ∀ (d : Nat) (h : cmH) (Q : Option Value → cmH → Prop) (dep p s : Nat), RM h T n → p ≤ n → MA h (sq T n p) dep s → dep ≤ 6 → 3 * (6 - dep) + e ≤ d → 16 * (n - p) < N → s + 2 * (n - p) ≤ 410 → mK h n dep p s (pp T n N k dep p none) (fun h' => Q none h') → cm_wp sc d M 9 [some (.ref 38), some (.int (lk T n p))] [] h Q
theorem m_termL {N : Nat} (HA : mC sc T n 165 [.ref 38] 0 10 N) (HL : mLp sc T n 164 1 11 N) : mLp sc T n 164 1 11 (N + 1) := by
  intro d h Q dep p s G hp A hdep hd hN hs k
  obtain ⟨d, rfl⟩ : ∃ e, d = e + 1 := ⟨d - 1, by omega⟩
  have h160 := G.2.2.1
  have ek : pp T n (N + 1) 1 dep p none = pLoop T n (pp T n N) 0 1 42 47 dep p none := rfl
  rw [ek] at k
  have g1 : p ≤ sq T n p := sq_ge
  have stop : ¬ (sg T n p none = 42 ∨ sg T n p none = 47) → Q none h := fun z => by
    rw [pLoop_n z] at k
    exact k.1 h XI.refl rfl A (SY.nil fun _ _ => rfl)
  have go : (sg T n p none = 42 ∨ sg T n p none = 47) → cm_wp sc (d + 1) 164 29 [some (.ref 38), some (.int (lk T n p))] [] h Q := fun z => by
    rw [pLoop_y z] at k
    have hl := (sg_lt (T := T) (n := n) (p := p) (w := none) rfl (by omega)).1
    have elk : lk T n p = nI (sg T n p none) := (G.lk (by omega) (by omega)).mpr rfl
    rw [elk]
    have M0 := pp_mono (T := T) (n := n) N 0 dep (sq T n p + 1) none hl
    have L0 := pp_len (T := T) (n := n) N 0 dep (sq T n p + 1) none hl
    have GA := G.x (X_m (X_a (v := cm_I h 38 30 + 1)))
    refine s164_29 G.1 _ (HA d _ _ dep (sq T n p + 1) s GA hl A.nx hdep (by omega) (by show 16 * (n - (sq T n p + 1)) + 0 < N; omega) (by omega) ⟨fun h1 X1 en A1 S1 => ?_, fun h1 q X1 en D1 => ?_⟩)
    · rw [en] at k
      have l0 := L0 en
      have G1 := GA.x X1
      refine s164_43 G1.1 _ (m_say G1.1 A1.2.2.2 (by omega) (s164_48 G1.1.s.s _ ?_))
      have X2 : XI h1 (cm_setI (cm_setI h1 62 (s + (pp T n N 0 dep (sq T n p + 1) none).2.2.length) (nI (sg T n p none))) 38 33 (nI (s + (pp T n N 0 dep (sq T n p + 1) none).2.2.length + 1))) P_m := (XI.refl.set (Or.inr rfl)).set (Or.inl ⟨rfl, by decide, by decide⟩)
      have A2 : MA (cm_setI (cm_setI h1 62 (s + (pp T n N 0 dep (sq T n p + 1) none).2.2.length) (nI (sg T n p none))) 38 33 (nI (s + (pp T n N 0 dep (sq T n p + 1) none).2.2.length + 1))) (pp T n N 0 dep (sq T n p + 1) none).1 dep (s + (pp T n N 0 dep (sq T n p + 1) none).2.2.length + 1) := ⟨by rw [sI_o (Or.inr (by decide)), sI_o (Or.inl (by decide))]; exact A1.1, by rw [sI_o (Or.inr (by decide)), sI_o (Or.inl (by decide))]; exact A1.2.1, by rw [sI_o (Or.inr (by decide)), sI_o (Or.inl (by decide))]; exact A1.2.2.1, sI_s⟩
      have G2 := G1.x X2
      refine m_lk G2 M0.2 A2.1 fun h3 X3 e3 => s164_52 _ _ ?_
      have Y3 := X_lk X3
      have XX : XI h h3 P_m := (X_m X_a).trans (X1.trans (X2.trans (X_m Y3)))
      refine HL (d + 1) h3 Q dep (pp T n N 0 dep (sq T n p + 1) none).1 _ (G2.x (X_m Y3)) M0.2 (A2.lk X3 e3) hdep hd (by omega) (by omega) ⟨fun h4 X4 en4 A4 S4 => ?_, fun h4 q X4 en4 D4 => ?_⟩
      · refine k.1 h4 (XX.trans X4) en4 ?_ (SY.app (S1.x (x62 X_a) (fun _ => rfl)) (fun j hj => ?_) ?_ S4)
        · rw [List.length_append, List.length_cons]
          rw [show s + ((pp T n N 0 dep (sq T n p + 1) none).2.2.length + ((pp T n N 1 dep (pp T n N 0 dep (sq T n p + 1) none).1 none).2.2.length + 1)) = s + (pp T n N 0 dep (sq T n p + 1) none).2.2.length + 1 + (pp T n N 1 dep (pp T n N 0 dep (sq T n p + 1) none).1 none).2.2.length by omega]
          exact A4
        · rw [x62 Y3, sI_o (Or.inl (by decide)), sI_o (Or.inr hj)]
        · rw [x62 Y3, sI_o (Or.inl (by decide)), sI_s]
      · exact k.2 h4 q (XX.trans X4) en4 (D4.mono (Nat.le_refl _) (by omega))
    · rw [en] at k
      have G1 := GA.x X1
      have D1' := D1
      obtain ⟨e1, hq, p', s', e2, hp', e3, hs'⟩ := D1
      refine s164_43 G1.1 _ (m_say G1.1 e3 (by omega) (s164_48 G1.1.s.s _ ?_))
      have X2 : XI h1 (cm_setI (cm_setI h1 62 s' (nI (sg T n p none))) 38 33 (nI (s' + 1))) P_m := (XI.refl.set (Or.inr rfl)).set (Or.inl ⟨rfl, by decide, by decide⟩)
      have G2 := G1.x X2
      refine m_lkd (B := n + (6 - dep)) G2 hp' (by omega) (by omega) (by rw [sI_o (Or.inr (by decide)), sI_o (Or.inl (by decide))]; exact e2) fun h3 c p3 X3 f3 hp3 => s164_52 _ _ ?_
      have Y3 := X_lk X3
      have w3 : cm_I h3 38 31 = nI q := by rw [X3.2 38 31 (by omega), sI_o (Or.inr (by decide)), sI_o (Or.inl (by decide))]; exact e1
      refine s164_9 (G2.x (X_m Y3)).1 _ ⟨fun _ => ?_, fun y => absurd (by rw [w3]; exact nI_m (by omega)) y⟩
      refine k.2 h3 q ((X_m X_a).trans (X1.trans (X2.trans (X_m Y3)))) (pp_dead N _ _ _ _) ⟨w3, hq, p3, s' + 1, f3, hp3, ?_, by omega⟩
      rw [X3.2 38 33 (by omega), sI_s]
  refine s164_9 G.1 _ ⟨fun y => absurd A.2.1 y, fun _ => ⟨fun y => go (Or.inl ((G.lk (by decide) (by decide)).mp y)), fun y => ⟨fun y2 => stop ?_, fun y2 => go (Or.inr ((G.lk (by decide) (by decide)).mp (Decidable.not_not.mp y2)))⟩⟩⟩
  rintro (q | q)
  · exact y ((G.lk (by decide) (by decide)).mpr q)
  · exact y2 ((G.lk (by decide) (by decide)).mpr q)
theorem m_term {N : Nat} (HA : mC sc T n 165 [.ref 38] 0 10 N) (HL : mLp sc T n 164 1 11 N) : mC sc T n 164 [.ref 38] 2 11 (N + 1) := by
  intro d h KV dep p s G hp A hdep hd hN hs k
  obtain ⟨d, rfl⟩ : ∃ e, d = e + 1 := ⟨d - 1, by omega⟩
  have h160 := G.2.2.1
  have hN' : 16 * (n - p) + 1 < N + 1 := hN
  have ek : pp T n (N + 1) 2 dep p none = pSeq (pp T n N) 0 1 dep p none := rfl
  rw [ek] at k
  unfold pSeq at k
  have M0 := pp_mono (T := T) (n := n) N 0 dep p none hp
  have L0 := pp_len (T := T) (n := n) N 0 dep p none hp
  refine cv_of rfl (s164_0 G.1 _ (HA d h _ dep p s G hp A hdep (by omega) (by show 16 * (n - p) + 0 < N; omega) hs ⟨fun h1 X1 en A1 S1 => ?_, fun h1 q X1 en D1 => ?_⟩))
  · rw [en] at k
    have l0 := L0 en
    have G1 := G.x X1
    refine s164_4 G1.1 _ (m_lk G1 M0.2 A1.1 fun h3 X3 e3 => s164_8 _ _ ?_)
    have Y3 := X_lk X3
    refine HL (d + 1) h3 _ dep (pp T n N 0 dep p none).1 _ (G1.x (X_m Y3)) M0.2 (A1.lk X3 e3) hdep hd (by omega) (by omega) ⟨fun h4 X4 en4 A4 S4 => ⟨rfl, k.1 h4 (X1.trans ((X_m Y3).trans X4)) en4 ?_ (SY.seq S1 (x62 Y3) S4)⟩, fun h4 q X4 en4 D4 => ⟨rfl, k.2 h4 q (X1.trans ((X_m Y3).trans X4)) en4 (D4.mono (Nat.le_refl _) (by omega))⟩⟩
    rw [List.length_append, ← Nat.add_assoc]; exact A4
  · rw [en] at k
    have G1 := G.x X1
    obtain ⟨e1, hq, p', s', e2, hp', e3, hs'⟩ := D1
    refine s164_4 G1.1 _ (m_lkd (B := n + (6 - dep)) G1 hp' (by omega) (by omega) e2 fun h3 c p3 X3 f3 hp3 => s164_8 _ _ ?_)
    have Y3 := X_lk X3
    have w3 : cm_I h3 38 31 = nI q := by rw [X3.2 38 31 (by omega)]; exact e1
    refine s164_9 (G1.x (X_m Y3)).1 _ ⟨fun _ => ⟨rfl, ?_⟩, fun y => absurd (by rw [w3]; exact nI_m (by omega)) y⟩
    exact k.2 h3 q (X1.trans (X_m Y3)) (pp_dead N _ _ _ _) ⟨w3, hq, p3, s', f3, hp3, by rw [X3.2 38 33 (by omega)]; exact e3, hs'⟩
end MSUM
