/-! ===== rules in the world, 2 ===== -/
section WRULES2
variable {sc : cmS} {d j : Nat} {h h' : cmH} {P R : Nat → Nat → Prop} {F Rn Q T NL n Re : Nat} {fa C g st pr lc ta nn Tp : Nat → Nat} {cc Tt : Nat → Nat → Nat} {cls : Nat → List CL} {ro : Nat → Option Nat} {c0 : List CL}
/-- what a new text writes, on both sides -/
def ruP (N a k : Nat) : Prop := a = 9 ∨ (a = 6 ∧ k = 1) ∨ (a = 0 ∧ k = 11) ∨ (a = 38 ∧ 29 ≤ k ∧ k ≤ 34) ∨ a = 62 ∨ (a = 63 ∧ 420 * N ≤ k) ∨ (a = 64 ∧ k = N)
theorem WLD.rules (H : HS h F Rn C fa cc ta nn Tt cls ro Q T g st pr) (tp : TP h n Tp) (la : LA h F C fa cc NL lc) (oc : OCh h NL Q st g) (cg : CG4 h) (rg : RG h Re) (fe : FRE h F C) (hn : cm_n h ≤ 88 + 4 * j) (hs : cm_sl h ≤ 110333 + 170 * j) (h12 : Rn < 12) (x : EX h h' (ruP Rn) (fun a k => (a = 9 ∧ k = 1) ∨ (a = 8 ∧ k = Rn))) (en : cm_n h' = cm_n h + 2) (es : cm_sl h' = cm_sl h + (2 + n)) (e : pText Tp n (pp Tp n 3000) 161 0 none = (none, c0)) (tx : TXT h' (cm_n h) Tp n) (r8 : cm_R h' 8 Rn = some (cm_n h)) (v6 : cm_I h' 6 1 = 0) (v29 : cm_I h' 38 29 = 0) (v11 : cm_I h' 0 11 = nI (Rn + 1)) (v34 : cm_I h' 38 34 = nI (Rn + 1)) (rm : RMk h' Rn c0) : WLD (j + 1) h' := by
  have L := H.1.1
  have h88 := L.1
  have S := H.1.2.2.2.1
  have CT := H.1.2.2.2.2.1
  have MR := H.2.2.2.1.2.2.2.2.1
  have L' : LY h' := x.ly L (fun a he w => by
    rcases w with w | w
    · exact ly_91 a he w
    · have : ∀ e ∈ ly_R, e.1 ≠ 8 := by decide
      exact this a he w.1)
  have wk : WOK c0 := wok_of (N := 3000) (Nat.le_refl _) L' tx (by omega) e L' h12 rm
  have CT' : CTx h' 3000 (Rn + 1) (fun i => if i = Rn then cm_n h else ta i) (fun i => if i = Rn then n else nn i) (fun i => if i = Rn then Tp else Tt i) (fun i => if i = Rn then c0 else cls i) := by
    refine ⟨v11, by omega, fun i hi => ?_⟩
    by_cases q : i = Rn
    · subst q
      simp only [if_pos]
      exact ⟨r8, h88, tx, e, wk⟩
    · simp only [if_neg q]
      obtain ⟨c1, c2, c3, c4⟩ := CT.2.2 i (by omega)
      exact ⟨by rw [(x.2 8 (by omega)).2.2.2 i (by omega)]; exact c1, c2, x.TXT c3 (fun k => ⟨by unfold ruP; omega, by unfold ruP; omega⟩) (fun k => by omega), c4⟩
  have MR' : MRu h' (Rn + 1) (fun i => if i = Rn then c0 else cls i) := by
    refine ⟨v34, by omega, fun i hi => ?_⟩
    by_cases q : i = Rn
    · subst q
      simp only [if_pos]
      exact rm
    · simp only [if_neg q]
      obtain ⟨r1, r2, r3, r4⟩ := MR.2.2 i (by omega)
      refine ⟨by rw [(x.2 64 (by omega)).2.2.1 i (by unfold ruP; omega)]; exact r1, r2, fun k y hy => ?_, r4⟩
      have hk : k < (flats (cls i)).length := (List.getElem?_eq_some_iff.mp hy).1
      rw [(x.2 63 (by omega)).2.2.1 _ (by unfold ruP; omega)]; exact r3 k y hy
  have c1 := H.shelf x (fun a k q => by unfold ruP at q; unfold A3; omega) (fun a k q => q.elim Or.inl (fun w => Or.inr w.1)) (Nat.le_succ Rn) CT' MR'
  have c2 : TP h' 0 Tp := ⟨v6, v29, by decide, fun k hk => absurd hk (Nat.not_lt_zero k)⟩
  have c3 := la.fr L S x (fun a k q => by unfold ruP; omega) (fun c hc w => by
    have := lc88 la hc
    unfold ruP at w; omega) (fun a k q => q.elim Or.inl (fun w => Or.inr (Or.inr (Or.inl w.1))))
  have c4 := oc.fr L x (fun a k q => by unfold ruP; omega)
  have c5 := cg.fr L x (fun k => by unfold ruP; omega)
  have c6 := rg.fr L x (fun a k q => by unfold ruP; omega)
  have := tp.2.2.1
  exact ⟨F, Rn + 1, Q, T, NL, 0, Re, C, fa, g, st, pr, lc, _, _, Tp, cc, _, _, ro, c1, c2, c3, c4, c5, c6, by omega, by omega, fe.fr L x (fun a k q w => by unfold ruP at q; unfold FP at w; omega)⟩
theorem w_rules (W : WLD j h) : STi sc (d + 200) (d + 201) 55 176 [.ref 0] [.ref 38] j h := by
  obtain ⟨F, Rn, Q, T, NL, n, Re, C, fa, g, st, pr, lc, ta, nn, Tp, cc, Tt, cls, ro, H, tp, la, oc, cg, rg, hn, hs, fe⟩ := W
  have L := H.1.1
  have h88 := L.1
  have CT := H.1.2.2.2.2.1
  have MR := H.2.2.2.1.2.2.2.2.1
  have rm := tp.rm L
  refine c_rules (N := 3000) (Nat.le_refl _) (by omega) L CT.1 CT.2.1 (tp.txt L) (fb_of (Nat.le_refl _) rm) (fun h12 e0 h1 h2 X1 N2 => ?_) (fun q h1 X1 => ?_)
  · obtain ⟨A, en, es, tx⟩ := N2
    have hN1 : cm_n h1 = cm_n h := X1.nn
    rw [hN1] at tx en
    have x0 : EX h h2 (ruP Rn) (fun a k => (a = 9 ∧ k = 1) ∨ (a = 8 ∧ k = Rn)) := (X1.e.mono (fun a k q => Or.inl q) (fun _ _ q => Or.inl q)).trans (A.e.mono (fun _ _ q => absurd q id) (fun _ _ q => absurd q id))
    have x1 := ((x0.setR (a := 8) (k := Rn) (v := some (cm_n h)) (Or.inr ⟨rfl, rfl⟩)).set (a := 6) (k := 1) (v := 0) (Or.inr (Or.inl ⟨rfl, rfl⟩))).set (a := 0) (k := 11) (v := nI (Rn + 1)) (Or.inr (Or.inr (Or.inl ⟨rfl, rfl⟩)))
    have y0 : EX h2 h2 (fun a _ => a = 6 ∨ a = 0) (fun a _ => a = 8) := ⟨Nat.le_refl _, fun a _ => ⟨rfl, rfl, fun _ _ => rfl, fun _ _ => rfl⟩⟩
    have y1 := ((y0.setR (a := 8) (k := Rn) (v := some (cm_n h)) rfl).set (a := 6) (k := 1) (v := 0) (Or.inl rfl)).set (a := 0) (k := 11) (v := nI (Rn + 1)) (Or.inr rfl)
    have tx1 := y1.TXT tx (fun k => by omega) (fun k => by omega)
    have o2 : ∀ a k, a ≠ 6 → a ≠ 0 → cm_I (cm_setI (cm_setI (cm_setR h2 8 Rn (some (cm_n h))) 6 1 0) 0 11 (nI (Rn + 1))) a k = cm_I h2 a k := fun a k r s => by
      rw [sI_o (Or.inl s), sI_o (Or.inl r)]; rfl
    have r8 : cm_R (cm_setI (cm_setI (cm_setR h2 8 Rn (some (cm_n h))) 6 1 0) 0 11 (nI (Rn + 1))) 8 Rn = some (cm_n h) := if_pos ⟨rfl, rfl⟩
    have v6 : cm_I (cm_setI (cm_setI (cm_setR h2 8 Rn (some (cm_n h))) 6 1 0) 0 11 (nI (Rn + 1))) 6 1 = 0 := by rw [sI_o (Or.inl (by decide)), sI_s]
    have v11 : cm_I (cm_setI (cm_setI (cm_setR h2 8 Rn (some (cm_n h))) 6 1 0) 0 11 (nI (Rn + 1))) 0 11 = nI (Rn + 1) := sI_s
    have nn1 : cm_n (cm_setI (cm_setI (cm_setR h2 8 Rn (some (cm_n h))) 6 1 0) 0 11 (nI (Rn + 1))) = cm_n h2 := rfl
    have sl1 : cm_sl (cm_setI (cm_setI (cm_setR h2 8 Rn (some (cm_n h))) 6 1 0) 0 11 (nI (Rn + 1))) = cm_sl h2 := rfl
    generalize (cm_setI (cm_setI (cm_setR h2 8 Rn (some (cm_n h))) 6 1 0) 0 11 (nI (Rn + 1))) = k1 at x1 y1 tx1 o2 r8 v6 v11 nn1 sl1 ⊢
    have L1 := x1.ly L (fun a he w => by
      rcases w with w | w
      · exact ly_91 a he w
      · have : ∀ e ∈ ly_R, e.1 ≠ 8 := by decide
        exact this a he w.1)
    have o : ∀ a k, a < 88 → a ≠ 9 → a ≠ 6 → a ≠ 0 → cm_I k1 a k = cm_I h a k := fun a k p q r s => by
      rw [o2 a k r s, ((A.2 a (by rw [X1.nn]; omega)).2.2 k).1, X1.2.1 a k (fun w => q w.1)]
    refine ⟨L1, m_rules (N := 3000) (Rn := Rn) (T := Tp) (n := n) (Nat.le_refl _) (by omega) (by rw [o 38 34 (by decide) (by decide) (by decide) (by decide)]; exact MR.1) MR.2.1 ⟨L1, by rw [o 38 29 (by decide) (by decide) (by decide) (by decide)]; exact rm.2.1, rm.2.2.1, fun k hk => by rw [o 61 k (by decide) (by decide) (by decide) (by decide)]; exact rm.2.2.2 k hk⟩ (fun _ c0 e h3 X3 R3 v29 v34 => ⟨rfl, ?_⟩) (fun q => absurd ⟨h12, e0⟩ q)⟩
    have x3 := X3.e
    have x : EX h h3 (ruP Rn) (fun a k => (a = 9 ∧ k = 1) ∨ (a = 8 ∧ k = Rn)) := x1.trans (x3.mono (fun a k q => by unfold P_m at q; unfold ruP; omega) (fun _ _ q => absurd q id))
    have z1 : cm_n h3 = cm_n h + 2 := by rw [X3.ns.1, nn1]; exact en
    have z2 : cm_sl h3 = cm_sl h + (2 + n) := by rw [X3.ns.2, sl1, es, X1.ns.2]
    have z3 : cm_R h3 8 Rn = some (cm_n h) := by rw [X3.R]; exact r8
    have z4 : cm_I h3 6 1 = 0 := by rw [X3.2 6 1 (by unfold P_m; omega)]; exact v6
    have z5 : cm_I h3 0 11 = nI (Rn + 1) := by rw [X3.2 0 11 (by unfold P_m; omega)]; exact v11
    exact WLD.rules H tp la oc cg rg fe hn hs h12 x z1 z2 e (x3.TXT tx1 (fun k => by unfold P_m; omega) (fun k q => q)) z3 z4 v29 z5 v34 R3
  · have L1 := X1.ly L
    have o : ∀ a k, a ≠ 9 → cm_I h1 a k = cm_I h a k := fun a k p => X1.2.1 a k (by omega)
    refine ⟨L1, m_rules (N := 3000) (Rn := Rn) (T := Tp) (n := n) (Nat.le_refl _) (by omega) (by rw [o 38 34 (by decide)]; exact MR.1) MR.2.1 ⟨L1, by rw [o 38 29 (by decide)]; exact rm.2.1, rm.2.2.1, fun k hk => by rw [o 61 k (by decide)]; exact rm.2.2.2 k hk⟩ (fun h12 c0 e => absurd ⟨h12, by rw [e]⟩ q) (fun _ h2 X2 => ⟨rfl, ?_⟩)⟩
    have x : EX h h2 (fun a k => a = 9 ∨ a = 10 ∨ (a = 38 ∧ ((30 ≤ k ∧ k ≤ 33) ∨ k = 1 ∨ k = 37)) ∨ a = 62 ∨ a = 65 ∨ a = 66) (fun a k => a = 9 ∧ k = 1) := (X1.e.mono (fun a k q => Or.inl q) (fun _ _ q => q)).trans (X2.e.mono (fun a k q => by unfold P_m at q; omega) (fun _ _ q => absurd q id))
    refine WLD.scr H tp la oc cg rg fe x (fun a k q => (scr_1 la q).1) (fun a k q => (scr_1 la q).2) (fun a k q => q) ?_ ?_
    · rw [X2.ns.1, X1.ns.1]; omega
    · rw [X2.ns.2, X1.ns.2]; omega
end WRULES2
