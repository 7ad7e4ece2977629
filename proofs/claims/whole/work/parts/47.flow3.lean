/-! ===== flow, of the reference, whole ===== -/
abbrev all0 (sh : Nat → Nat) (F : Nat) : Prop := q_ns sh F = 0
theorem all0_iff {sh : Nat → Nat} {F : Nat} : all0 sh F ↔ ∀ f, f < F → sh f = 0 := by
  constructor
  · intro z f hf
    have := q_ns_one sh hf
    unfold all0 at z
    omega
  · intro z
    have := q_ns_le (v := sh) (B := 0) (n := F) (fun k hk => by rw [z k hk]; exact Nat.le_refl _)
    unfold all0
    omega
def P_fl (F T : Nat) (C : Nat → Nat) (x k : Nat) : Prop := x = 72 ∨ x = 76 ∨ (x = 56 ∧ k < F) ∨ (x = 57 ∧ k < F) ∨ x = 75 ∨ (x = 58 ∧ k < F) ∨ x = 73 ∨ (x = 52 ∧ k < F) ∨ P_7 F T C x k
/-- what flow comes to -/
def MFl (h h' : cmH) (F T : Nat) (C st g sh : Nat → Nat) (W pt : Nat → Nat → Nat) (r : Nat → Int32) : Prop := XI h h' (P_fl F T C) ∧ (∀ f, f < F → cm_I h' 56 f = nI (sh f) ∧ cm_I h' 57 f = (if ac1 sh r f then r f else 0) ∧ cm_I h' 58 f = (if ac1 sh r f then nI (q_of C W pt st f) else 0) ∧ cm_I h' 52 f = (if ac2 sh r f ∨ (cm_I h 59 f ≠ 0 ∧ q_bed (cm_I h) (C f) f = -1) then 4 else cm_I h 52 f) ∧ cm_I h' 69 f = (if q_rp sh r C W pt st (cm_I h 69 f) (cm_I h 70 f) f then nI T else cm_I h 69 f) ∧ cm_I h' 70 f = (if q_rp sh r C W pt st (cm_I h 69 f) (cm_I h 70 f) f then nI (q_of C W pt st f) else cm_I h 70 f) ∧ ∀ s, s < 8 → cm_I h' 48 (8 * f + s) = (if ac1 sh r f then cm_I h 48 (8 * f + s) + nI (pt f s - q_in (W f 0) s (pt f s)) else cm_I h 48 (8 * f + s)) ∧ ∀ c, c < C f → cm_I h' 46 (8 * (10 * f + c) + s) = if ac1 sh r f then cm_I h 46 (8 * (10 * f + c) + s) + nI (q_kp (W f c) s (st s) (q_lf (W f) s (st s) (q_in (W f 0) s (pt f s)) c)) else cm_I h 46 (8 * (10 * f + c) + s)) ∧ ∀ s, s < 8 → cm_I h' 68 (3 * (8 * T + s)) = cm_I h 68 (3 * (8 * T + s)) + nI (g s) ∧ cm_I h' 68 (3 * (8 * T + s) + 1) = cm_I h 68 (3 * (8 * T + s) + 1) + cm_sum (fun f => if ac1 sh r f then nI (q_out (W f) st (pt f) (C f) s) else 0) F ∧ cm_I h' 68 (3 * (8 * T + s) + 2) = (if all0 sh F then cm_I h 68 (3 * (8 * T + s) + 2) + nI (g s) else cm_I h 68 (3 * (8 * T + s) + 2)) + cm_sum (fun f => if ac2 sh r f then nI (pt f s) else 0) F ∧ cm_I h' 71 (6 * s) = cm_I h 71 (6 * s) + nI (g s) ∧ cm_I h' 71 (6 * s + 4) = cm_I h 71 (6 * s + 4) + cm_sum (fun f => if ac1 sh r f then nI (q_out (W f) st (pt f) (C f) s) else 0) F ∧ cm_I h' 71 (6 * s + 5) = (if all0 sh F then cm_I h 71 (6 * s + 5) + nI (g s) else cm_I h 71 (6 * s + 5)) + cm_sum (fun f => if ac2 sh r f then nI (pt f s) else 0) F ∧ ∀ w, 1 ≤ w → w < 4 → cm_I h' 71 (6 * s + w) = cm_I h 71 (6 * s + w)
section FLOW3
variable {sc : cmS} {d : Nat} {h : cmH} {KV : cmH → Prop} {F Q T : Nat} {C kc pr st g : Nat → Nat} {W : Nat → Nat → Nat}
theorem m_flow (L : LY h) (G : FW (cm_I h) F Q T C kc pr st g) (hW : ∀ f c, f < F → c < C f → q_width (cm_I h) f c = nI (W f c) ∧ W f c < 2 ^ 31)
    (k : ∀ h' r, (∀ f, f < F → 0 < q_sh (m_w (cm_I h) C kc) Q F f → q_push (q_bed (cm_I h) (C f) f) (kc f) (pr f) (q_sh (m_w (cm_I h) C kc) Q F f) (r f)) → MFl h h' F T C st g (q_sh (m_w (cm_I h) C kc) Q F) W (fun f s => q_part (q_sh (m_w (cm_I h) C kc) Q F) (g s) Q F f) r → KV h') : cm_cv sc (d + 5) 190 [.ref 38] h KV := by
  obtain ⟨hF, h8, hQ, hQ1, hQ2, hT, hT2, hf, hs⟩ := id G
  have hw : ∀ f, m_w (cm_I h) C kc f ≤ 1000000 := fun f => by unfold m_w; split; omega; exact q_wt_le
  generalize eSH : q_sh (m_w (cm_I h) C kc) Q F = sh at k
  have hsle : ∀ f, f < F → sh f ≤ Q := fun f hf => by rw [← eSH]; exact q_sh_le hf
  have hsum : q_ns sh F ≤ Q := by rw [← eSH]; exact q_sh_sum_le
  have ran0 : ∀ f, f < F → 0 < sh f → cm_I h 59 f ≠ 0 := by
    intro f hf p z
    rw [← eSH] at p
    unfold q_sh m_w at p
    rw [if_pos z, if_pos rfl] at p
    omega
  refine cv_of rfl (s190_0 _ _ _ _ _ (m_flow1 L G _ _ (fun h1 X1 v1 u5 => ?_)))
  have a1 : ∀ x k, x ≠ 72 → x ≠ 76 → cm_I h1 x k = cm_I h x k := fun x k p q => X1.2 x k (by simp [p, q])
  refine m_flow2 (X1.ly L) (by rw [a1 _ _ (by decide) (by decide)]; exact hF) h8 (by rw [a1 _ _ (by decide) (by decide)]; exact hQ) hQ2 (fun f hf => ⟨(v1 f hf).1, hw f⟩) u5 (fun h2 X2 v2 x3 x4 y1 u5 => ?_)
  rw [eSH] at v2
  have a2 : ∀ x k, x ≠ 72 → x ≠ 76 → x ≠ 56 → cm_I h2 x k = cm_I h x k := fun x k p q r => by rw [X2.2 x k (fun z => r z.1)]; exact a1 x k p q
  have L2 := X2.ly (X1.ly L)
  have eb2 : ∀ f, q_bed (cm_I h2) (C f) f = q_bed (cm_I h) (C f) f := fun f => q_bed_congr fun c _ => q_width_congr (a2 _ _ (by decide) (by decide) (by decide)) (a2 _ _ (by decide) (by decide) (by decide)) (fun s _ => a2 _ _ (by decide) (by decide) (by decide))
  have hsh2 : ∀ f, f < F → cm_I h2 56 f = nI (sh f) ∧ sh f ≤ 1000 := fun f hf => ⟨v2 f hf, Nat.le_trans (hsle f hf) hQ2⟩
  refine m_flow4 (sh := sh) (C := C) (kc := kc) (pr := pr) L2 (by rw [a2 _ _ (by decide) (by decide) (by decide)]; exact hF) h8 (fun f hf' => ?_) hsh2 y1 x3 u5 (fun h4 r X4 v4 => ?_)
  · obtain ⟨b1, b2, b3, b4, b5, b6, b7, b8, -⟩ := hf f hf'
    refine ⟨by rw [a2 _ _ (by decide) (by decide) (by decide)]; exact b1, b2, fun c hc => by rw [a2 _ _ (by decide) (by decide) (by decide)]; exact b3 c hc, ?_, b5, by rw [a2 _ _ (by decide) (by decide) (by decide)]; exact b6, b7, b8⟩
    rw [← b4]; unfold q_cake; exact cm_sum_congr fun s _ => a2 _ _ (by decide) (by decide) (by decide)
  have a4 : ∀ x k, x ≠ 72 → x ≠ 76 → x ≠ 56 → x ≠ 57 → x ≠ 75 → cm_I h4 x k = cm_I h x k := fun x k p q r s t => by rw [X4.2 x k (by simp [s, t])]; exact a2 x k p q r
  have L4 := X4.ly L2
  have hsh4 : ∀ f, f < F → cm_I h4 56 f = nI (sh f) ∧ sh f ≤ 1000 := fun f hf => ⟨by rw [X4.2 _ _ (by simp)]; exact v2 f hf, (hsh2 f hf).2⟩
  refine m_flow5 (sh := sh) L4 (by rw [a4 _ _ (by decide) (by decide) (by decide) (by decide) (by decide)]; exact hF) h8 hsh4 y1 x3 (fun h5 xl X5 v5 hl => ?_)
  have a5 : ∀ x k, x ≠ 72 → x ≠ 76 → x ≠ 56 → x ≠ 57 → x ≠ 75 → x ≠ 58 → x ≠ 73 → cm_I h5 x k = cm_I h x k := fun x k p q r s t u v => by rw [X5.2 x k (by simp [u, v])]; exact a4 x k p q r s t
  have L5 := X5.ly L4
  refine m_flow6 (T := T) (g := g) L5 (by rw [a5 _ _ (by decide) (by decide) (by decide) (by decide) (by decide) (by decide) (by decide)]; exact hT) hT2 (fun s hs' => by rw [a5 _ _ (by decide) (by decide) (by decide) (by decide) (by decide) (by decide) (by decide)]; exact (hs s hs').2.2.1) y1 x3 xl (fun h6 X6 => ?_)
  have o6 : ∀ x k, x ≠ 68 → x ≠ 71 → cm_I h6 x k = cm_I h5 x k := fun x k p q => X6.1.2 x k (by omega)
  have a6 : ∀ x k, x ≠ 72 → x ≠ 76 → x ≠ 56 → x ≠ 57 → x ≠ 75 → x ≠ 58 → x ≠ 73 → x ≠ 68 → x ≠ 71 → cm_I h6 x k = cm_I h x k := fun x k p q r s t u v w z => by rw [o6 x k w z]; exact a5 x k p q r s t u v
  have L6 := X6.1.ly L5
  have e56 : ∀ f, f < F → cm_I h6 56 f = nI (sh f) ∧ sh f ≤ 1000 := fun f hf => ⟨by rw [o6 _ _ (by decide) (by decide), X5.2 _ _ (by simp)]; exact (hsh4 f hf).1, (hsh2 f hf).2⟩
  have e57 : ∀ f, f < F → cm_I h6 57 f = if 0 < sh f then r f else 0 := fun f hf' => by
    rw [o6 _ _ (by decide) (by decide), X5.2 _ _ (by simp), (v4 f hf').2]
    by_cases z : 0 < sh f
    · rw [if_pos z, if_pos z]
    · rw [if_neg z, if_neg z, a2 _ _ (by decide) (by decide) (by decide)]; exact (hf f hf').2.2.2.2.2.2.2.2.2
  refine m_flow7 (sh := sh) (C := C) (st := st) (g := g) (Q := Q) (T := T) (W := W) (r := r) (pt := fun f s => q_part sh (g s) Q F f) L6 (by rw [a6 _ _ (by decide) (by decide) (by decide) (by decide) (by decide) (by decide) (by decide) (by decide) (by decide)]; exact hF) h8 (fun f hf' => ?_) (by rw [a6 _ _ (by decide) (by decide) (by decide) (by decide) (by decide) (by decide) (by decide) (by decide) (by decide)]; exact hT) hT2 (fun s hs' => by rw [a6 39 _ (by decide) (by decide) (by decide) (by decide) (by decide) (by decide) (by decide) (by decide) (by decide), a6 67 _ (by decide) (by decide) (by decide) (by decide) (by decide) (by decide) (by decide) (by decide) (by decide)]; exact hs s hs') (by rw [a6 _ _ (by decide) (by decide) (by decide) (by decide) (by decide) (by decide) (by decide) (by decide) (by decide)]; exact hQ) hQ1 hQ2 e56 hsum (fun f s _ _ => rfl) y1 x3 xl hl (fun h7 X7 => ?_)
  · obtain ⟨b1, b2, b3, b4, b5, b6, b7, b8, b9, b10⟩ := hf f hf'
    refine ⟨by rw [a6 _ _ (by decide) (by decide) (by decide) (by decide) (by decide) (by decide) (by decide) (by decide) (by decide)]; exact b1, b2, fun c hc => by rw [a6 _ _ (by decide) (by decide) (by decide) (by decide) (by decide) (by decide) (by decide) (by decide) (by decide)]; exact b3 c hc, fun p => b9 (ran0 f hf' p), by rw [o6 _ _ (by decide) (by decide)]; exact v5 f hf', fun p => by rw [e57 f hf', if_pos p], fun c hc => ⟨?_, (hW f c hf' hc).2⟩⟩
    rw [← (hW f c hf' hc).1]
    exact q_width_congr (a6 _ _ (by decide) (by decide) (by decide) (by decide) (by decide) (by decide) (by decide) (by decide) (by decide)) (a6 _ _ (by decide) (by decide) (by decide) (by decide) (by decide) (by decide) (by decide) (by decide) (by decide)) (fun s _ => a6 _ _ (by decide) (by decide) (by decide) (by decide) (by decide) (by decide) (by decide) (by decide) (by decide))
  have L7 := X7.1.ly L6
  have o7 : ∀ x k, ¬ P_7 F T C x k → cm_I h7 x k = cm_I h6 x k := X7.1.2
  refine m_flow8 L7 (by rw [o7 _ _ (by unfold P_7; omega), a6 _ _ (by decide) (by decide) (by decide) (by decide) (by decide) (by decide) (by decide) (by decide) (by decide)]; exact hF) h8 y1 x3 xl (fun h8' X8 v8 => ⟨rfl, k h8' r (fun f hf' p => ?_) ⟨?_, fun f hf' => ?_, fun s hs' => ?_⟩⟩)
  · have := (v4 f hf').1 p
    rw [eb2 f] at this
    exact this
  · have m1 : XI h h2 (P_fl F T C) := (X1.mono fun x k q => q.elim Or.inl (fun w => Or.inr (Or.inl w))).trans (X2.mono fun x k q => Or.inr (Or.inr (Or.inl q)))
    have m2 : XI h h5 (P_fl F T C) := (m1.trans (X4.mono fun x k q => q.elim (fun w => Or.inr (Or.inr (Or.inr (Or.inl w)))) (fun w => Or.inr (Or.inr (Or.inr (Or.inr (Or.inl w))))))).trans (X5.mono fun x k q => q.elim (fun w => Or.inr (Or.inr (Or.inr (Or.inr (Or.inr (Or.inl w)))))) (fun w => Or.inr (Or.inr (Or.inr (Or.inr (Or.inr (Or.inr (Or.inl w))))))))
    have m3 : XI h h7 (P_fl F T C) := (m2.trans (X6.1.mono fun x k q => Or.inr (Or.inr (Or.inr (Or.inr (Or.inr (Or.inr (Or.inr (Or.inr (q.elim (fun w => Or.inr (Or.inr (Or.inr (Or.inr (Or.inl w))))) (fun w => Or.inr (Or.inr (Or.inr (Or.inr (Or.inr w))))))))))))))).trans (X7.1.mono fun x k q => Or.inr (Or.inr (Or.inr (Or.inr (Or.inr (Or.inr (Or.inr (Or.inr q))))))))
    exact m3.trans (X8.mono fun x k q => q.1.elim (fun w => Or.inr (Or.inr (Or.inr (Or.inl ⟨w, q.2⟩)))) (fun w => Or.inr (Or.inr (Or.inr (Or.inr (Or.inr (Or.inr (Or.inr (Or.inl ⟨w, q.2⟩)))))))))
  · obtain ⟨c1, c2, c3, c4, c5⟩ := X7.2.1 f hf'
    obtain ⟨d1, d2⟩ := v8 f hf'
    have o8 : ∀ x k, x ≠ 57 → x ≠ 52 → cm_I h8' x k = cm_I h7 x k := fun x k p q => X8.2 x k (by simp [p, q])
    have lt : ∀ P : Prop, ((f < F ∧ P) ↔ P) := fun P => ⟨fun q => q.2, fun q => ⟨hf', q⟩⟩
    have e69 : cm_I h6 69 f = cm_I h 69 f := a6 _ _ (by decide) (by decide) (by decide) (by decide) (by decide) (by decide) (by decide) (by decide) (by decide)
    have e70 : cm_I h6 70 f = cm_I h 70 f := a6 _ _ (by decide) (by decide) (by decide) (by decide) (by decide) (by decide) (by decide) (by decide) (by decide)
    have e76 : cm_I h6 76 f = if cm_I h 59 f ≠ 0 ∧ q_bed (cm_I h) (C f) f = -1 then 1 else 0 := by
      rw [o6 _ _ (by decide) (by decide), X5.2 _ _ (by simp), X4.2 _ _ (by simp), X2.2 _ _ (by simp)]; exact (v1 f hf').2
    simp only [lt] at c1 c2 c3 c4
    rw [e69, e70] at c2 c3
    refine ⟨?_, ?_, ?_, ?_, ?_, ?_, fun s hs' => ⟨?_, fun c hc => ?_⟩⟩
    · rw [o8 _ _ (by decide) (by decide), o7 _ _ (by unfold P_7; omega)]; exact (e56 f hf').1
    · rw [d1, o7 57 f (by unfold P_7; omega), e57 f hf']
      by_cases z : 0 < sh f
      · rw [if_pos z]
        by_cases y : r f = -1
        · rw [if_neg (fun q : ac1 sh r f => q.2 y), y]; rfl
        · rw [if_pos (⟨z, y⟩ : ac1 sh r f)]
          have hp := (v4 f hf').1 z
          rcases hp with ⟨-, e⟩ | ⟨b, -, -, ⟨e, -⟩ | ⟨p, hp, -, -, e⟩⟩
          · exact absurd e y
          · exact absurd e y
          · rw [e]
            rcases Nat.eq_zero_or_pos p with q | q
            · subst q; rfl
            · rw [if_pos (show (0 : Int32) < nI p from nI_lt (a := 0) q (by omega))]
      · rw [if_neg z, if_neg (fun q : ac1 sh r f => z q.1)]; rfl
    · rw [o8 _ _ (by decide) (by decide), c1]
      by_cases z : ac1 sh r f
      · rw [if_pos z, if_pos z]
      · rw [if_neg z, if_neg z, o6 _ _ (by decide) (by decide)]; exact v5 f hf'
    · rw [d2, c4, o7 52 f (by unfold P_7; omega), a6 52 f (by decide) (by decide) (by decide) (by decide) (by decide) (by decide) (by decide) (by decide) (by decide), e76]
      by_cases z : ac2 sh r f
      · rw [if_pos z, if_neg (by decide), if_pos (Or.inl z)]
      · rw [if_neg z]
        by_cases y : cm_I h 59 f ≠ 0 ∧ q_bed (cm_I h) (C f) f = -1
        · rw [if_pos y, if_neg (by decide), if_pos (Or.inr y)]
        · rw [if_neg y, if_pos rfl, if_neg (fun q => q.elim z y)]
    · rw [o8 _ _ (by decide) (by decide)]; exact c2
    · rw [o8 _ _ (by decide) (by decide)]; exact c3
    · have := (c5 s hs').1
      simp only [lt] at this
      rw [o8 _ _ (by decide) (by decide), this, a6 48 _ (by decide) (by decide) (by decide) (by decide) (by decide) (by decide) (by decide) (by decide) (by decide)]
    · have := (c5 s hs').2 c hc
      simp only [lt] at this
      rw [o8 _ _ (by decide) (by decide), this, a6 46 _ (by decide) (by decide) (by decide) (by decide) (by decide) (by decide) (by decide) (by decide) (by decide)]
  · obtain ⟨c1, c2, c3, c4, c5, c6⟩ := X7.2.2 s hs'
    obtain ⟨d1, d2, d3, d4, d5, d6⟩ := X6.2 s hs'
    have o8 : ∀ x k, x ≠ 57 → x ≠ 52 → cm_I h8' x k = cm_I h7 x k := fun x k p q => X8.2 x k (by simp [p, q])
    have z5 : ∀ x k, x = 68 ∨ x = 71 → cm_I h5 x k = cm_I h x k := fun x k q => a5 x k (by omega) (by omega) (by omega) (by omega) (by omega) (by omega) (by omega)
    have hall : xl = -1 ↔ all0 sh F := by
      rw [all0_iff]
      rcases hl with ⟨e, a⟩ | ⟨o, ho, p, a, e⟩
      · exact ⟨fun _ => a, fun _ => e⟩
      · refine ⟨fun q => absurd (e.symm.trans q) (m1_ne (by omega)), fun q => ?_⟩
        have := q o ho
        omega
    rw [if_pos hs'] at d1 d4
    have ec : (s < 8 ∧ xl = -1) ↔ all0 sh F := ⟨fun q => hall.mp q.2, fun q => ⟨hs', hall.mpr q⟩⟩
    simp only [ec] at d3 d5
    refine ⟨?_, ?_, ?_, ?_, ?_, ?_, fun w h1 h2 => ?_⟩
    · rw [o8 _ _ (by decide) (by decide), c1, d1, z5 _ _ (Or.inl rfl)]
    · rw [o8 _ _ (by decide) (by decide), c2, d2, z5 _ _ (Or.inl rfl)]
    · rw [o8 _ _ (by decide) (by decide), c3, d3, z5 _ _ (Or.inl rfl)]
    · have := c6 0 (by omega)
      rw [Nat.add_zero] at this
      rw [o8 _ _ (by decide) (by decide), this, d4, z5 _ _ (Or.inr rfl)]
    · rw [o8 _ _ (by decide) (by decide), c4, d6 4 (by omega) (by omega), z5 _ _ (Or.inr rfl)]
    · rw [o8 _ _ (by decide) (by decide), c5, d5, z5 _ _ (Or.inr rfl)]
    · rw [o8 _ _ (by decide) (by decide), c6 w h2, d6 w h1 (by omega), z5 _ _ (Or.inr rfl)]
end FLOW3
