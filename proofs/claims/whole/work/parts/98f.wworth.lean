/-! ===== worth in the world ===== -/
section WWORTH
variable {sc : cmS} {d j : Nat} {h h' : cmH} {x1 x2 x3 x4 x5 x6 x7 x8 : Int32}
theorem XL.e (x : XL h h') : EX h h' (fun a _ => a = 9 ∨ a = 10) (fun a k => a = 9 ∧ k = 1) := x.g.e
theorem XL.ns (x : XL h h') : cm_n h' = cm_n h ∧ cm_sl h' = cm_sl h := by unfold cm_n cm_sl; rw [x.1.1]; exact ⟨rfl, rfl⟩
theorem w_worth (W : WLD j h) : cm_c13 sc (d + 200) [.ref 0, .int x1, .int x2, .int x3, .int x4, .int x5, .int x6, .int x7, .int x8] 87 h (fun w h1 => LY (cm_setJ h1 87 0 w.toInt64) ∧ cm_ci sc (d + 201) 178 [.ref 38, .int x1, .int x2, .int x3, .int x4, .int x5, .int x6, .int x7, .int x8] (cm_setJ h1 87 0 w.toInt64) (fun b h2 => cm_I h2 38 1 = 0 ∧ cm_J h2 87 0 = w.toInt64 ∧ b = w ∧ WLD (j + 1) h2)) (fun h1 => LY h1 ∧ cm_ci sc (d + 201) 178 [.ref 38, .int x1, .int x2, .int x3, .int x4, .int x5, .int x6, .int x7, .int x8] h1 (fun _ h2 => cm_I h2 38 1 = 1 ∧ WLD (j + 1) h2)) := by
  obtain ⟨F, Rn, Q, T, NL, n, Re, C, fa, g, st, pr, lc, ta, nn, Tp, cc, Tt, cls, ro, H, tp, la, oc, cg, rg, hn, hs, fe⟩ := W
  obtain ⟨⟨L, G, GC, S, CT, -⟩, -, -, M, Z⟩ := id H
  have mru : ∀ h1 : cmH, (∀ a k, a = 63 ∨ a = 64 ∨ (a = 38 ∧ k = 34) → cm_I h1 a k = cm_I h a k) → MRu h1 Rn cls := fun h1 o => ⟨by rw [o 38 34 (by omega)]; exact M.2.2.2.2.1.1, M.2.2.2.2.1.2.1, fun i hi => by
    obtain ⟨r1, r2, r3, r4⟩ := M.2.2.2.2.1.2.2 i hi
    exact ⟨by rw [o 64 _ (by omega)]; exact r1, r2, fun e y hy => by rw [o 63 _ (by omega)]; exact r3 e y hy, r4⟩⟩
  refine c_worth (N := 3000) (Nat.le_refl _) (by omega) L CT (fun i l gw h1 X1 => ?_) (fun q => ?_)
  · have L1 : LY h1 := X1.g.ly L
    refine ⟨ly_o L1 87 rfl ⟨by decide, by decide⟩, L1, m_worth (Rn := Rn) (cls := cls) (d := d + 196) L1 (mru _ (fun a k q => X1.2.1 a k (by omega) (by omega))) M.2.2.2.2.2.1 (fun i' l' gw' h2 X2 e2 => ⟨e2, ?_, ?_, ?_⟩) (fun q => absurd gw (q i l))⟩
    · rw [X2.J]; exact sJ_same
    · obtain ⟨a1, a2, a3, a4⟩ := gw
      obtain ⟨b1, b2, b3, b4⟩ := gw'
      have h12 := CT.2.1
      obtain rfl : i' = i := nI_inj (by omega) (by omega) (b2.symm.trans a2)
      obtain rfl : l' = l := nI_inj (by unfold lab at b3; omega) (by unfold lab at a3; omega) (b4.symm.trans a4)
      rfl
    · have x0 : EX h1 (cm_setJ h1 87 0 (wv (lt6 x3 x4 x5 x6 x7 x8) l (cls i)).toInt64) (fun _ _ => False) (fun _ _ => False) := ⟨Nat.le_refl _, fun a _ => ⟨rfl, rfl, fun _ _ => rfl, fun _ _ => rfl⟩⟩
      have x : EX h h2 (fun a k => a = 9 ∨ a = 10 ∨ (a = 38 ∧ ((30 ≤ k ∧ k ≤ 33) ∨ k = 1 ∨ k = 37)) ∨ a = 62 ∨ a = 65 ∨ a = 66) (fun a k => a = 9 ∧ k = 1) := ((X1.e.mono (fun a k q => q.elim Or.inl (fun w => Or.inr (Or.inl w))) (fun _ _ q => q)).trans (x0.mono (fun _ _ q => absurd q id) (fun _ _ q => absurd q id))).trans (X2.e.mono (fun a k q => by omega) (fun _ _ q => absurd q id))
      refine WLD.scr H tp la oc cg rg fe x (fun a k q => (scr_1 la q).1) (fun a k q => (scr_1 la q).2) (fun a k q => q) ?_ ?_
      · rw [X2.ns.1]
        show cm_n h1 ≤ _
        rw [X1.ns.1]; omega
      · rw [X2.ns.2]
        show cm_sl h1 ≤ _
        rw [X1.ns.2]; omega
  · have h88 := L.1
    have A : AG h (cm_mk h 19 6) := ⟨by rw [mk_n]; omega, fun a ha => ⟨by rw [mk_kd, if_neg (by omega)], by rw [mk_ln, if_neg (by omega)], fun k => ⟨by rw [mk_I, if_neg (by omega)], by rw [mk_J, if_neg (by omega)], by rw [mk_R, if_neg (by omega)]⟩⟩⟩
    have L1 := A.ly L
    refine ⟨L1, m_worth (Rn := Rn) (cls := cls) (d := d + 196) L1 (mru _ (fun a k q => ((A.2 a (by omega)).2.2 k).1)) M.2.2.2.2.2.1 (fun i l gw => absurd gw (q i l)) (fun _ => ⟨sI_s, ?_⟩)⟩
    have x : EX h (cm_setI (cm_mk h 19 6) 38 1 1) (fun a k => a = 9 ∨ a = 10 ∨ (a = 38 ∧ ((30 ≤ k ∧ k ≤ 33) ∨ k = 1 ∨ k = 37)) ∨ a = 62 ∨ a = 65 ∨ a = 66) (fun a k => a = 9 ∧ k = 1) := (A.e.mono (fun _ _ q => absurd q id) (fun _ _ q => absurd q id)).set (by omega)
    refine WLD.scr H tp la oc cg rg fe x (fun a k q => (scr_1 la q).1) (fun a k q => (scr_1 la q).2) (fun a k q => q) ?_ ?_
    · show cm_n (cm_mk h 19 6) ≤ _
      rw [mk_n]; omega
    · show cm_sl (cm_mk h 19 6) ≤ _
      rw [mk_sl]; omega
end WWORTH
