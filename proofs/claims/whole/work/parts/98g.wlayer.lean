/-! ===== layer in the world ===== -/
section WLAYER
variable {sc : cmS} {d j : Nat} {h h' : cmH} {x1 x2 : Int32} {F Rn Q T NL n Re : Nat} {fa C g st pr lc ta nn Tp : Nat → Nat} {cc Tt : Nat → Nat → Nat} {cls : Nat → List CL} {ro : Nat → Option Nat}
/-- what a new layer writes, on both sides -/
def lyP (N a k : Nat) : Prop := (a = 26 ∧ k = 3) ∨ ((a = 22 ∨ a = 23 ∨ a = 77 ∨ a = 78) ∧ k = N) ∨ (a = 21 ∧ (k = 5 ∨ k = 7)) ∨ (a = 38 ∧ k = 53)
theorem WLD.layer (H : HS h F Rn C fa cc ta nn Tt cls ro Q T g st pr) (tp : TP h n Tp) (la : LA h F C fa cc NL lc) (cg : CG4 h) (rg : RG h Re) (fe : FRE h F C) (hn : cm_n h ≤ 88 + 4 * j) (hs : cm_sl h ≤ 110333 + 170 * j) (h6 : NL < 6) (gc : g_cell x1 x2) (x : EX h h' (lyP NL) (fun a k => a = 27 ∧ k = NL)) (en : cm_n h' = cm_n h + 3) (es : cm_sl h' = cm_sl h + 22) (ce : CE h' (cm_n h)) (e5 : cm_I h' (cm_n h) 5 = x2) (r27 : cm_R h' 27 NL = some (cm_n h)) (v26 : cm_I h' 26 3 = nI (NL + 1)) (v21 : cm_I h' 21 5 = nI (NL + 1)) (v7 : cm_I h' 21 7 = -1) (v53 : cm_I h' 38 53 = nI (NL + 1)) (vv : cm_I h' 22 NL = x1 ∧ cm_I h' 77 NL = x1 ∧ cm_I h' 23 NL = x2 ∧ cm_I h' 78 NL = x2) : WLD (j + 1) h' := by
  have L := H.1.1
  have h88 := L.1
  have GC := H.1.2.2.1
  have c1 := H.fr x (fun a k q => by unfold lyP at q; unfold A1; omega) (fun a k q => Or.inr q.1)
  have c2 := tp.fr L x (fun k => by unfold lyP; omega)
  have c5 := cg.fr L x (fun k => by unfold lyP; omega)
  have c6 := rg.fr L x (fun a k q => by unfold lyP; omega)
  obtain ⟨a1, a2, a3, a4, a5, a6, a7, a8, a9⟩ := la
  have lt : ∀ c, c < NL → lc c + 2 < cm_n h := fun c hc => (a4.2.2.2 c hc).2.1.2.1
  have o : ∀ a k, a < 88 → ¬ lyP NL a k → cm_I h' a k = cm_I h a k := fun a k p q => (x.2 a (by omega)).2.2.1 k q
  have c3 : LA h' F C fa cc (NL + 1) (fun c => if c = NL then cm_n h else lc c) := by
    refine ⟨v21, v53, by omega, ⟨?_, v26, by omega, fun c hc => ?_⟩, ⟨Or.inr rfl, fun c hc => ?_, fun c c' hc hc' ne => ?_⟩, fun c y f hc p q hf w => ?_, by rw [o 26 4 (by decide) (by unfold lyP; omega)]; exact a7, by rw [o 49 8 (by decide) (by unfold lyP; omega)]; exact a8, fun i hi => ?_⟩
    · exact x.FL a4.1 (fun k w => by omega)
    · by_cases e : c = NL
      · subst e
        simp only [if_pos]
        exact ⟨r27, ce, by rw [e5]; exact gc.2.1⟩
      · simp only [if_neg e]
        have hc2 : c < NL := by omega
        have b := (a5.2.1 c hc2).1
        have l := lt c hc2
        refine ⟨?_, x.CE (a4.2.2.2 c hc2).2.1 (fun k w => by omega), ?_⟩
        · rw [(x.2 (26 + 1) (by omega)).2.2.2 c (by omega)]; exact (a4.2.2.2 c hc2).1
        · rw [(x.2 (lc c) (by omega)).2.2.1 5 (by unfold lyP; omega)]; exact (a4.2.2.2 c hc2).2.2
    · by_cases e : c = NL
      · simp only [if_pos e]; omega
      · simp only [if_neg e]; exact a5.2.1 c (by omega)
    · by_cases e : c = NL
      · by_cases e' : c' = NL
        · omega
        · simp only [if_pos e, if_neg e']
          have := lt c' (by omega); omega
      · by_cases e' : c' = NL
        · simp only [if_neg e, if_pos e']
          have := lt c (by omega); omega
        · simp only [if_neg e, if_neg e']
          exact a5.2.2 c c' (by omega) (by omega) ne
    · by_cases e : c = NL
      · simp only [if_pos e] at p q
        rcases w with w | ⟨c0, hc0, w⟩
        · have := (GC f hf).1.2.1; omega
        · have := ((GC f hf).2.2.2 c0 hc0).2.1.2.1; omega
      · simp only [if_neg e] at p q
        exact a6 c y f (by omega) p q hf w
    · by_cases e : i = NL
      · subst e
        obtain ⟨v1, v2, v3, v4⟩ := vv
        obtain ⟨t, t1, t2, et⟩ := (in_nI (x := x2) 1 1000 rfl rfl (by decide) (by decide)).mp gc.2
        exact ⟨v2.trans v1.symm, v4.trans v3.symm, t, v3.trans et, t1, t2⟩
      · rw [o 77 i (by decide) (by unfold lyP; omega), o 78 i (by decide) (by unfold lyP; omega), o 22 i (by decide) (by unfold lyP; omega), o 23 i (by decide) (by unfold lyP; omega)]
        exact a9 i (by omega)
  exact ⟨F, Rn, Q, T, NL + 1, n, Re, C, fa, g, st, pr, _, ta, nn, Tp, cc, Tt, cls, ro, c1, c2, c3, Or.inl v7, c5, c6, by omega, by omega, fe.fr L x (fun a k q w => by unfold lyP at q; unfold FP at w; omega)⟩
theorem w_layer (W : WLD j h) : STi sc (d + 200) (d + 201) 101 208 [.ref 0, .int x1, .int x2] [.ref 38, .int x1, .int x2] j h := by
  have Wu := W.up
  obtain ⟨F, Rn, Q, T, NL, n, Re, C, fa, g, st, pr, lc, ta, nn, Tp, cc, Tt, cls, ro, H, tp, la, oc, cg, rg, hn, hs, fe⟩ := W
  have L := H.1.1
  have h88 := L.1
  refine c_layer (d := d + 196) L la.1 la.2.2.2.1.2.1 la.2.2.1 (fun gc h6 h1 N1 => ?_) (fun q => ⟨L, m_layer (d := d + 200) L la.2.1 la.2.2.1 (fun gc h6 => absurd h6 (q gc)) (fun _ => ⟨rfl, Wu⟩)⟩)
  obtain ⟨A, en, es, ce, -, -, -, e5, -⟩ := N1
  have x1' : EX h (cm_setI (cm_setI (cm_setI (cm_setI (cm_setI (cm_setR h1 27 NL (some (cm_n h))) 26 3 (nI (NL + 1))) 22 NL x1) 23 NL x2) 21 5 (nI (NL + 1))) 21 7 (-1)) (lyP NL) (fun a k => a = 27 ∧ k = NL) := ((((((A.e.mono (fun _ _ q => absurd q id) (fun _ _ q => absurd q id)).setR ⟨rfl, rfl⟩).set (by unfold lyP; omega)).set (by unfold lyP; omega)).set (by unfold lyP; omega)).set (by unfold lyP; omega)).set (by unfold lyP; omega)
  have L1 := x1'.ly L (fun e he w => by
    have : ∀ e ∈ ly_R, e.1 ≠ 27 := by decide
    exact this e he w.1)
  have g53 : cm_I (cm_setI (cm_setI (cm_setI (cm_setI (cm_setI (cm_setR h1 27 NL (some (cm_n h))) 26 3 (nI (NL + 1))) 22 NL x1) 23 NL x2) 21 5 (nI (NL + 1))) 21 7 (-1)) 38 53 = nI NL := by
    rw [sI_o (Or.inl (by decide)), sI_o (Or.inl (by decide)), sI_o (Or.inl (by decide)), sI_o (Or.inl (by decide)), sI_o (Or.inl (by decide))]
    show cm_I h1 38 53 = nI NL
    rw [((A.2 38 (by omega)).2.2 53).1]; exact la.2.1
  refine ⟨L1, m_layer (d := d + 200) L1 g53 la.2.2.1 (fun _ _ => ⟨rfl, ?_⟩) (fun q => absurd h6 (q gc))⟩
  have x2' := ((x1'.set (a := 77) (k := NL) (v := x1) (by unfold lyP; omega)).set (a := 78) (k := NL) (v := x2) (by unfold lyP; omega)).set (a := 38) (k := 53) (v := nI (NL + 1)) (by unfold lyP; omega)
  have ce' : CE (cm_setR h1 27 NL (some (cm_n h))) (cm_n h) := ⟨ce.1, ce.2.1, by rw [sR_R, if_neg (by omega)]; exact ce.2.2.1, by rw [sR_R, if_neg (by omega)]; exact ce.2.2.2.1, ce.2.2.2.2.1, ce.2.2.2.2.2⟩
  refine WLD.layer H tp la cg rg fe hn hs h6 gc x2' en es ce' ?_ ?_ ?_ ?_ ?_ sI_s ⟨?_, ?_, ?_, ?_⟩
  · rw [sI_o (Or.inl (by omega)), sI_o (Or.inl (by omega)), sI_o (Or.inl (by omega)), sI_o (Or.inl (by omega)), sI_o (Or.inl (by omega)), sI_o (Or.inl (by omega)), sI_o (Or.inl (by omega)), sI_o (Or.inl (by omega))]
    exact e5
  · exact if_pos ⟨rfl, rfl⟩
  · rw [sI_o (Or.inl (by decide)), sI_o (Or.inl (by decide)), sI_o (Or.inl (by decide)), sI_o (Or.inl (by decide)), sI_o (Or.inl (by decide)), sI_o (Or.inl (by decide)), sI_o (Or.inl (by decide)), sI_s]
  · rw [sI_o (Or.inl (by decide)), sI_o (Or.inl (by decide)), sI_o (Or.inl (by decide)), sI_o (Or.inr (by decide)), sI_s]
  · rw [sI_o (Or.inl (by decide)), sI_o (Or.inl (by decide)), sI_o (Or.inl (by decide)), sI_s]
  · rw [sI_o (Or.inl (by decide)), sI_o (Or.inl (by decide)), sI_o (Or.inl (by decide)), sI_o (Or.inl (by decide)), sI_o (Or.inl (by decide)), sI_o (Or.inl (by decide)), sI_s]
  · rw [sI_o (Or.inl (by decide)), sI_o (Or.inl (by decide)), sI_s]
  · rw [sI_o (Or.inl (by decide)), sI_o (Or.inl (by decide)), sI_o (Or.inl (by decide)), sI_o (Or.inl (by decide)), sI_o (Or.inl (by decide)), sI_s]
  · rw [sI_o (Or.inl (by decide)), sI_s]
end WLAYER
