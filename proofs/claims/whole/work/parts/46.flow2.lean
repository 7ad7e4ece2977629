/-! ===== flow: the filters run, and what they are behind it ===== -/
abbrev ac1 (sh : Nat → Nat) (r : Nat → Int32) (f : Nat) : Prop := 0 < sh f ∧ r f ≠ -1
abbrev ac2 (sh : Nat → Nat) (r : Nat → Int32) (f : Nat) : Prop := 0 < sh f ∧ r f = -1
/-- what f gives out in all; does it keep this hour as its best -/
def q_of (C : Nat → Nat) (W pt : Nat → Nat → Nat) (st : Nat → Nat) (f : Nat) : Nat := q_ns (q_out (W f) st (pt f) (C f)) 8
abbrev q_rp (sh : Nat → Nat) (r : Nat → Int32) (C : Nat → Nat) (W pt : Nat → Nat → Nat) (st : Nat → Nat) (v69 v70 : Int32) (f : Nat) : Prop := ac1 sh r f ∧ 0 < q_ns (pt f) 8 ∧ (v69 = -1 ∨ nI (q_of C W pt st f) < v70)
theorem cm_sum_succ (f : Nat → Int32) (n : Nat) : cm_sum f (n + 1) = cm_sum f n + f n := rfl
section FLOW2
variable {sc : cmS} {d : Nat} {h : cmH} {Qv : Option Value → cmH → Prop} {F Q T : Nat} {C kc pr st g sh : Nat → Nat} {W pt : Nat → Nat → Nat} {r : Nat → Int32}
def P_7 (F T : Nat) (C : Nat → Nat) (x k : Nat) : Prop := x = 75 ∨ ((x = 58 ∨ x = 69 ∨ x = 70 ∨ x = 76) ∧ k < F) ∨ (x = 48 ∧ k < 8 * F) ∨ (x = 46 ∧ k < 80 * F ∧ k % 80 < 8 * C (k / 80)) ∨ (x = 68 ∧ 24 * T ≤ k ∧ k < 24 * T + 24) ∨ (x = 71 ∧ k < 48)
/-- the first i filters have run -/
def RN (h h' : cmH) (F T : Nat) (C st sh : Nat → Nat) (W pt : Nat → Nat → Nat) (r : Nat → Int32) (i : Nat) : Prop := XI h h' (P_7 F T C) ∧ (∀ f, f < F → cm_I h' 58 f = (if f < i ∧ ac1 sh r f then nI (q_of C W pt st f) else cm_I h 58 f) ∧ cm_I h' 69 f = (if f < i ∧ q_rp sh r C W pt st (cm_I h 69 f) (cm_I h 70 f) f then nI T else cm_I h 69 f) ∧ cm_I h' 70 f = (if f < i ∧ q_rp sh r C W pt st (cm_I h 69 f) (cm_I h 70 f) f then nI (q_of C W pt st f) else cm_I h 70 f) ∧ cm_I h' 76 f = (if f < i ∧ ac2 sh r f then 1 else cm_I h 76 f) ∧ ∀ s, s < 8 → cm_I h' 48 (8 * f + s) = (if f < i ∧ ac1 sh r f then cm_I h 48 (8 * f + s) + nI (pt f s - q_in (W f 0) s (pt f s)) else cm_I h 48 (8 * f + s)) ∧ ∀ c, c < C f → cm_I h' 46 (8 * (10 * f + c) + s) = if f < i ∧ ac1 sh r f then cm_I h 46 (8 * (10 * f + c) + s) + nI (q_kp (W f c) s (st s) (q_lf (W f) s (st s) (q_in (W f 0) s (pt f s)) c)) else cm_I h 46 (8 * (10 * f + c) + s)) ∧ ∀ s, s < 8 → cm_I h' 68 (3 * (8 * T + s)) = cm_I h 68 (3 * (8 * T + s)) ∧ cm_I h' 68 (3 * (8 * T + s) + 1) = cm_I h 68 (3 * (8 * T + s) + 1) + cm_sum (fun f => if ac1 sh r f then nI (q_out (W f) st (pt f) (C f) s) else 0) i ∧ cm_I h' 68 (3 * (8 * T + s) + 2) = cm_I h 68 (3 * (8 * T + s) + 2) + cm_sum (fun f => if ac2 sh r f then nI (pt f s) else 0) i ∧ cm_I h' 71 (6 * s + 4) = cm_I h 71 (6 * s + 4) + cm_sum (fun f => if ac1 sh r f then nI (q_out (W f) st (pt f) (C f) s) else 0) i ∧ cm_I h' 71 (6 * s + 5) = cm_I h 71 (6 * s + 5) + cm_sum (fun f => if ac2 sh r f then nI (pt f s) else 0) i ∧ ∀ w, w < 4 → cm_I h' 71 (6 * s + w) = cm_I h 71 (6 * s + w)
/-- one that doesn't run changes nothing -/
theorem RN.skip {h' : cmH} {i : Nat} (X : RN h h' F T C st sh W pt r i) (z : sh i = 0) : RN h h' F T C st sh W pt r (i + 1) := by
  have n1 : ¬ ac1 sh r i := fun q => by have := q.1; omega
  have n2 : ¬ ac2 sh r i := fun q => by have := q.1; omega
  refine ⟨X.1, fun f hf => ?_, fun s hs => ?_⟩
  · obtain ⟨a1, a2, a3, a4, a5⟩ := X.2.1 f hf
    have e1 : ∀ P : Prop, (P → ac1 sh r f) → ((f < i + 1 ∧ P) ↔ (f < i ∧ P)) := fun P hP => ⟨fun q => ⟨by
      by_cases y : f = i
      · subst y; exact absurd (hP q.2) n1
      · have := q.1; omega, q.2⟩, fun q => ⟨by omega, q.2⟩⟩
    have e2 : (f < i + 1 ∧ ac2 sh r f) ↔ (f < i ∧ ac2 sh r f) := ⟨fun q => ⟨by
      by_cases y : f = i
      · subst y; exact absurd q.2 n2
      · have := q.1; omega, q.2⟩, fun q => ⟨by omega, q.2⟩⟩
    have e3 := e1 (ac1 sh r f) id
    have e4 := e1 (q_rp sh r C W pt st (cm_I h 69 f) (cm_I h 70 f) f) (fun q => q.1)
    refine ⟨by rw [a1]; simp only [e3], by rw [a2]; simp only [e4], by rw [a3]; simp only [e4], by rw [a4]; simp only [e2], fun s hs => ⟨by rw [(a5 s hs).1]; simp only [e3], fun c hc => by rw [(a5 s hs).2 c hc]; simp only [e3]⟩⟩
  · obtain ⟨a1, a2, a3, a4, a5, a6⟩ := X.2.2 s hs
    refine ⟨a1, ?_, ?_, ?_, ?_, a6⟩
    · rw [a2]; rw [cm_sum_succ, if_neg n1, Int32.add_zero]
    · rw [a3]; rw [cm_sum_succ, if_neg n2, Int32.add_zero]
    · rw [a4]; rw [cm_sum_succ, if_neg n1, Int32.add_zero]
    · rw [a5]; rw [cm_sum_succ, if_neg n2, Int32.add_zero]
theorem RN.skips {h' : cmH} : ∀ (m i : Nat), i + m = F → RN h h' F T C st sh W pt r i → (∀ f, i ≤ f → f < F → sh f = 0) → RN h h' F T C st sh W pt r F
  | 0, i, e, X, _ => by
    have : i = F := by omega
    rw [← this] at X ⊢; exact X
  | m + 1, i, e, X, z => RN.skips m (i + 1) (by omega) (X.skip (z i (Nat.le_refl _) (by omega))) (fun f h1 h2 => z f (by omega) h2)
theorem m_flow7 (L : LY h) (hF : cm_I h 38 24 = nI F) (h8 : F ≤ 8) (hf : ∀ f, f < F → cm_I h 42 f = nI (C f) ∧ C f ≤ 10 ∧ (∀ c, c < C f → cm_I h 45 (10 * f + c) ≠ 0) ∧ (0 < sh f → 0 < C f) ∧ cm_I h 58 f = 0 ∧ (0 < sh f → cm_I h 57 f = r f) ∧ ∀ c, c < C f → q_width (cm_I h) f c = nI (W f c) ∧ W f c < 2 ^ 31) (hT : cm_I h 38 0 = nI T) (hT2 : T ≤ 2000) (hs : ∀ s, s < 8 → cm_I h 39 s = nI (st s) ∧ st s ≤ 1000 ∧ cm_I h 67 s = nI (g s) ∧ g s ≤ 9999) (hQ : cm_I h 38 48 = nI Q) (hQ1 : 1 ≤ Q) (hQ2 : Q ≤ 1000) (hsh : ∀ f, f < F → cm_I h 56 f = nI (sh f) ∧ sh f ≤ 1000) (hsum : q_ns sh F ≤ Q) (hpt : ∀ f s, f < F → s < 8 → pt f s = q_part sh (g s) Q F f) (y1 : Int64) (x3 x4 : Int32) (hl : LST sh F x4) (k : ∀ h', RN h h' F T C st sh W pt r F → cm_wp sc (d + 5) 190 395 [some (.ref 38), some (.long y1), none, some (.int x3), some (.int x4), some (.int (nI 0))] [] h' Qv) : cm_wp sc (d + 5) 190 363 [some (.ref 38), some (.long y1), none, some (.int x3), some (.int x4), some (.int (nI 0))] [] h Qv := by
  have hpt2 : ∀ f s, f < F → s < 8 → pt f s ≤ 10000 := fun f s hf' hs' => by
    rw [hpt f s hf' hs']
    have h1 := q_part_le (sh := sh) (g := g s) (Q := Q) (F := F) (f := f) (Nat.le_trans (q_ns_one sh hf') hsum)
    have h2 := (hs s hs').2.2.2
    omega
  have gen : ∀ (m i : Nat) (h' : cmH), i + m = F + 1 → RN h h' F T C st sh W pt r i → i ≤ F → cm_wp sc (d + 5) 190 363 [some (.ref 38), some (.long y1), none, some (.int x3), some (.int x4), some (.int (nI i))] [] h' Qv := by
    intro m
    induction m with
    | zero => intro i h' hi X hle; omega
    | succ m ih =>
      intro i h' hi X hle
      have L' := X.1.ly L
      have xo : ∀ x k, x ≠ 75 → x ≠ 58 → x ≠ 69 → x ≠ 70 → x ≠ 76 → x ≠ 48 → x ≠ 46 → x ≠ 68 → x ≠ 71 → cm_I h' x k = cm_I h x k := fun x k a b c d e f g h i => X.1.2 x k (by unfold P_7; omega)
      by_cases ex : x4 < nI i
      · refine s190_363 L' _ _ _ _ ⟨fun _ => k h' (RN.skips (F - i) i (by omega) X fun f h1 h2 => ?_), fun w => absurd ex w⟩
        rcases hl with ⟨-, a⟩ | ⟨o, ho, p, a, e⟩
        · exact a f h2
        · rw [e] at ex
          have ex := (nI_ltI (by omega) (by omega)).mp ex
          exact a f (by omega) h2
      · have hiF : i < F := by
          rcases hl with ⟨e, a⟩ | ⟨o, ho, p, a, e⟩
          · exfalso
            apply ex
            rw [e, Int32.lt_iff_toInt_lt, nI_toInt (by omega), show (-1 : Int32).toInt = -1 by decide]; omega
          · rw [e] at ex
            rcases Nat.lt_or_ge i F with y | y
            · exact y
            · exact absurd (nI_lt (a := o) (b := i) (by omega) (by omega)) ex
        obtain ⟨es, hs2⟩ := hsh i hiF
        refine s190_363 L' _ _ _ _ ⟨fun w => absurd w ex, fun _ => ⟨ix_nI (by omega) (by decide), ?_⟩⟩
        rw [nI_clamp (by omega), xo 56 i (by decide) (by decide) (by decide) (by decide) (by decide) (by decide) (by decide) (by decide) (by decide), es]
        refine ⟨fun z => s190_386 _ _ _ _ ?_, fun z => ?_⟩
        · have z0 : sh i = 0 := by
            rcases Nat.eq_zero_or_pos (sh i) with y | y
            · exact y
            · exact absurd z (nI_nle y (by omega))
          rw [nI_1]
          exact ih (i + 1) h' (by omega) (X.skip z0) (by omega)
        · have z0 : 0 < sh i := by
            rcases Nat.eq_zero_or_pos (sh i) with y | y
            · exact absurd (by rw [y]; decide) z
            · exact y
          obtain ⟨e42, h10, ht, c0, e58, e57, hW⟩ := hf i hiF
          obtain ⟨b1, b2, b3, b4, b5⟩ := X.2.1 i hiF
          rw [if_neg (fun q => absurd q.1 (by omega))] at b1 b2 b3 b4
          have b5' : ∀ s, s < 8 → cm_I h' 48 (8 * i + s) = cm_I h 48 (8 * i + s) ∧ ∀ c, c < C i → cm_I h' 46 (8 * (10 * i + c) + s) = cm_I h 46 (8 * (10 * i + c) + s) := fun s hs => by
            have := b5 s hs
            rw [if_neg (fun q => absurd q.1 (by omega))] at this
            refine ⟨this.1, fun c hc => ?_⟩
            have := this.2 c hc
            rw [if_neg (fun q => absurd q.1 (by omega))] at this
            exact this
          have ex57 : cm_I h' 57 i = r i := by rw [xo 57 i (by decide) (by decide) (by decide) (by decide) (by decide) (by decide) (by decide) (by decide) (by decide)]; exact e57 z0
          have sums : ∀ s, s < 8 → cm_I h' 68 (3 * (8 * T + s)) = cm_I h 68 (3 * (8 * T + s)) ∧ _ := X.2.2
          refine m_runOne (W := W i) (st := st) (sh := sh) (g := g) (pt := pt i) (Q := Q) (n := C i) (T := T) L' (by rw [xo 38 24 (by decide) (by decide) (by decide) (by decide) (by decide) (by decide) (by decide) (by decide) (by decide)]; exact hF) h8 hiF (by rw [xo 42 i (by decide) (by decide) (by decide) (by decide) (by decide) (by decide) (by decide) (by decide) (by decide)]; exact e42) h10 (c0 z0) (fun c hc => by rw [xo 45 _ (by decide) (by decide) (by decide) (by decide) (by decide) (by decide) (by decide) (by decide) (by decide)]; exact ht c hc) (by rw [xo 38 0 (by decide) (by decide) (by decide) (by decide) (by decide) (by decide) (by decide) (by decide) (by decide)]; exact hT) hT2 (fun s hs' => by rw [xo 67 s (by decide) (by decide) (by decide) (by decide) (by decide) (by decide) (by decide) (by decide) (by decide)]; exact (hs s hs').2.2) (by rw [xo 38 48 (by decide) (by decide) (by decide) (by decide) (by decide) (by decide) (by decide) (by decide) (by decide)]; exact hQ) hQ1 hQ2 (fun o ho => by rw [xo 56 o (by decide) (by decide) (by decide) (by decide) (by decide) (by decide) (by decide) (by decide) (by decide)]; exact hsh o ho) hsum (fun s hs' => hpt i s hiF hs') (fun s hs' => hpt2 i s hiF hs') (fun c hc => ⟨by rw [← (hW c hc).1]; exact q_width_congr (xo 43 _ (by decide) (by decide) (by decide) (by decide) (by decide) (by decide) (by decide) (by decide) (by decide)) (xo 45 _ (by decide) (by decide) (by decide) (by decide) (by decide) (by decide) (by decide) (by decide) (by decide)) (fun s hs' => (b5' s hs').2 c hc), (hW c hc).2⟩) (fun s hs' => by rw [xo 39 s (by decide) (by decide) (by decide) (by decide) (by decide) (by decide) (by decide) (by decide) (by decide)]; exact ⟨(hs s hs').1, (hs s hs').2.1⟩) (by rw [b1]; exact e58) (fun hr h1 Y => s190_386 _ _ _ _ ?_) (fun hr h1 Y => s190_386 _ _ _ _ ?_)
          · rw [ex57] at hr
            have A1 : ac1 sh r i := ⟨z0, hr⟩
            have N2 : ¬ ac2 sh r i := fun q => hr q.2
            rw [nI_1]
            -- one heap for both ends
            have yo : ∀ x k, ¬ P_ro i (C i) T x k → cm_I h1 x k = cm_I h' x k := Y.1.2
            have e58' : cm_I h1 58 i = nI (q_of C W pt st i) := by rw [Y.2.2.1]; rfl
            have X1 : XI h h1 (P_7 F T C) := X.1.trans (Y.1.mono fun x k q => by
              by_cases e46 : x = 46
              · have e46' : 80 * i ≤ k ∧ k < 80 * i + 8 * C i := by unfold P_ro at q; omega
                have e80 : k / 80 = i := by omega
                refine Or.inr (Or.inr (Or.inr (Or.inl ⟨e46, by omega, ?_⟩)))
                rw [e80]; omega
              · unfold P_ro at q; unfold P_7; omega)
            have core : ∀ h2 : cmH, XI h h2 (P_7 F T C) → (∀ x k, ¬ ((x = 69 ∨ x = 70) ∧ k = i) → cm_I h2 x k = cm_I h1 x k) → cm_I h2 69 i = (if q_rp sh r C W pt st (cm_I h 69 i) (cm_I h 70 i) i then nI T else cm_I h 69 i) → cm_I h2 70 i = (if q_rp sh r C W pt st (cm_I h 69 i) (cm_I h 70 i) i then nI (q_of C W pt st i) else cm_I h 70 i) → RN h h2 F T C st sh W pt r (i + 1) := by
              intro h2 X2 o2 v69 v70
              refine ⟨X2, fun f hf' => ?_, fun s hs' => ?_⟩
              · obtain ⟨c1, c2, c3, c4, c5⟩ := X.2.1 f hf'
                by_cases y : f = i
                · subst y
                  have lt : f < f + 1 := by omega
                  refine ⟨?_, ?_, ?_, ?_, fun s hs' => ⟨?_, fun c hc => ?_⟩⟩
                  · rw [o2 _ _ (by omega), e58', if_pos ⟨lt, A1⟩]
                  · rw [v69]
                    by_cases q : q_rp sh r C W pt st (cm_I h 69 f) (cm_I h 70 f) f
                    · rw [if_pos q, if_pos ⟨lt, q⟩]
                    · rw [if_neg q, if_neg (fun p => q p.2)]
                  · rw [v70]
                    by_cases q : q_rp sh r C W pt st (cm_I h 69 f) (cm_I h 70 f) f
                    · rw [if_pos q, if_pos ⟨lt, q⟩]
                    · rw [if_neg q, if_neg (fun p => q p.2)]
                  · rw [o2 _ _ (by omega), Y.2.2.2.1.2.2, b4, if_neg (fun p => N2 p.2)]
                  · have := (Y.2.2.2.2 s hs').1
                    rw [if_pos (Nat.zero_le _)] at this
                    rw [o2 _ _ (by omega), this, (b5' s hs').1, if_pos ⟨lt, A1⟩]
                  · have := (Y.2.2.2.2 s hs').2.1 c hc
                    rw [if_pos (Nat.zero_le _)] at this
                    rw [o2 _ _ (by omega), this, (b5' s hs').2 c hc, if_pos ⟨lt, A1⟩]
                · have e1 : ∀ P : Prop, ((f < i + 1 ∧ P) ↔ (f < i ∧ P)) := fun P => ⟨fun q => ⟨by have := q.1; omega, q.2⟩, fun q => ⟨by omega, q.2⟩⟩
                  refine ⟨?_, ?_, ?_, ?_, fun s hs' => ⟨?_, fun c hc => ?_⟩⟩
                  · rw [o2 _ _ (by omega), yo _ _ (by unfold P_ro; omega), c1]; simp only [e1]
                  · rw [o2 _ _ (by omega), yo _ _ (by unfold P_ro; omega), c2]; simp only [e1]
                  · rw [o2 _ _ (by omega), yo _ _ (by unfold P_ro; omega), c3]; simp only [e1]
                  · rw [o2 _ _ (by omega), yo _ _ (by unfold P_ro; omega), c4]; simp only [e1]
                  · rw [o2 _ _ (by omega), yo _ _ (by unfold P_ro; omega), (c5 s hs').1]; simp only [e1]
                  · have hCf := (hf f hf').2.1
                    rw [o2 _ _ (by omega), yo _ _ (by unfold P_ro; omega), (c5 s hs').2 c hc]; simp only [e1]
              · obtain ⟨c1, c2, c3, c4, c5, c6⟩ := X.2.2 s hs'
                obtain ⟨-, -, d3, d4, ⟨d5, d5'⟩, d6⟩ := Y.2.2.2.2 s hs'
                rw [if_pos (Nat.zero_le _)] at d3 d4
                refine ⟨?_, ?_, ?_, ?_, ?_, fun w hw => ?_⟩
                · rw [o2 _ _ (by omega), d5]; exact c1
                · rw [o2 _ _ (by omega), d3, c2, Int32.add_assoc]; rw [cm_sum_succ, if_pos A1]
                · rw [o2 _ _ (by omega), d5', c3]; rw [cm_sum_succ, if_neg N2, Int32.add_zero]
                · rw [o2 _ _ (by omega), d4, c4, Int32.add_assoc]; rw [cm_sum_succ, if_pos A1]
                · rw [o2 _ _ (by omega), d6 5 (by omega) (by omega), c5]; rw [cm_sum_succ, if_neg N2, Int32.add_zero]
                · rw [o2 _ _ (by omega), d6 w (by omega) (by omega)]; exact c6 w hw
            unfold q_rip
            rw [b2, b3, e58']
            by_cases q : 0 < q_ns (pt i) 8 ∧ (cm_I h 69 i = -1 ∨ nI (q_of C W pt st i) < cm_I h 70 i)
            · rw [if_pos q]
              have qq : q_rp sh r C W pt st (cm_I h 69 i) (cm_I h 70 i) i := ⟨A1, q⟩
              refine ih (i + 1) _ (by omega) (core _ ((X1.set (Or.inr (Or.inl ⟨Or.inr (Or.inl rfl), hiF⟩))).set (Or.inr (Or.inl ⟨Or.inr (Or.inr (Or.inl rfl)), hiF⟩))) (fun x k hx => ?_) ?_ ?_) (by omega)
              · rw [sI_o (by omega), sI_o (by omega)]
              · rw [sI_o (Or.inl (by decide)), sI_s, if_pos qq]
              · rw [sI_s, if_pos qq]
            · rw [if_neg q]
              have qq : ¬ q_rp sh r C W pt st (cm_I h 69 i) (cm_I h 70 i) i := fun p => q p.2
              refine ih (i + 1) _ (by omega) (core _ X1 (fun x k _ => rfl) ?_ ?_) (by omega)
              · rw [if_neg qq, Y.2.2.2.1.1, b2]
              · rw [if_neg qq, Y.2.2.2.1.2.1, b3]
          · rw [ex57] at hr
            have A2 : ac2 sh r i := ⟨z0, hr⟩
            have N1 : ¬ ac1 sh r i := fun q => q.2 hr
            rw [nI_1]
            have yo : ∀ x k, x ≠ 75 → x ≠ 68 → x ≠ 71 → cm_I h1 x k = cm_I h' x k := fun x k a b c => Y.1.2 x k (by omega)
            have X1 : XI h h1 (P_7 F T C) := X.1.trans (Y.1.mono fun x k q => by unfold P_7; omega)
            refine ih (i + 1) _ (by omega) ⟨X1.set (Or.inr (Or.inl ⟨Or.inr (Or.inr (Or.inr rfl)), hiF⟩)), fun f hf' => ?_, fun s hs' => ?_⟩ (by omega)
            · obtain ⟨c1, c2, c3, c4, c5⟩ := X.2.1 f hf'
              have e1 : ∀ P : Prop, (P → ac1 sh r f) → ((f < i + 1 ∧ P) ↔ (f < i ∧ P)) := fun P hP => ⟨fun q => ⟨by
                by_cases y : f = i
                · subst y; exact absurd (hP q.2) N1
                · have := q.1; omega, q.2⟩, fun q => ⟨by omega, q.2⟩⟩
              have e3 := e1 (ac1 sh r f) id
              have e4 := e1 (q_rp sh r C W pt st (cm_I h 69 f) (cm_I h 70 f) f) (fun q => q.1)
              refine ⟨?_, ?_, ?_, ?_, fun s hs' => ⟨?_, fun c hc => ?_⟩⟩
              · rw [sI_o (Or.inl (by decide)), yo _ _ (by decide) (by decide) (by decide), c1]; simp only [e3]
              · rw [sI_o (Or.inl (by decide)), yo _ _ (by decide) (by decide) (by decide), c2]; simp only [e4]
              · rw [sI_o (Or.inl (by decide)), yo _ _ (by decide) (by decide) (by decide), c3]; simp only [e4]
              · by_cases y : f = i
                · subst y; rw [sI_s, if_pos ⟨by omega, A2⟩]
                · rw [sI_o (Or.inr y), yo _ _ (by decide) (by decide) (by decide), c4]
                  by_cases y2 : f < i
                  · by_cases q : ac2 sh r f
                    · rw [if_pos ⟨y2, q⟩, if_pos ⟨by omega, q⟩]
                    · rw [if_neg (fun p => q p.2), if_neg (fun p => q p.2)]
                  · rw [if_neg (fun p => y2 p.1), if_neg (fun p => by have := p.1; omega)]
              · rw [sI_o (Or.inl (by decide)), yo _ _ (by decide) (by decide) (by decide), (c5 s hs').1]; simp only [e3]
              · rw [sI_o (Or.inl (by decide)), yo _ _ (by decide) (by decide) (by decide), (c5 s hs').2 c hc]; simp only [e3]
            · obtain ⟨c1, c2, c3, c4, c5, c6⟩ := X.2.2 s hs'
              obtain ⟨d1, d2, ⟨d3, d3'⟩, d4⟩ := Y.2 s hs'
              rw [if_pos (Nat.zero_le _)] at d1 d2
              refine ⟨?_, ?_, ?_, ?_, ?_, fun w hw => ?_⟩
              · rw [sI_o (Or.inl (by decide)), d3]; exact c1
              · rw [sI_o (Or.inl (by decide)), d3', c2]; rw [cm_sum_succ, if_neg N1, Int32.add_zero]
              · rw [sI_o (Or.inl (by decide)), d1, c3, Int32.add_assoc]; rw [cm_sum_succ, if_pos A2]
              · rw [sI_o (Or.inl (by decide)), d4 4 (by omega) (by omega), c4]; rw [cm_sum_succ, if_neg N1, Int32.add_zero]
              · rw [sI_o (Or.inl (by decide)), d2, c5, Int32.add_assoc]; rw [cm_sum_succ, if_pos A2]
              · rw [sI_o (Or.inl (by decide)), d4 w (by omega) (by omega)]; exact c6 w hw
  refine gen (F + 1) 0 h (by omega) ⟨XI.refl, fun f hf' => ?_, fun s hs' => ?_⟩ (by omega)
  · have n0 : ∀ P : Prop, ¬ (f < 0 ∧ P) := fun P q => absurd q.1 (by omega)
    refine ⟨by rw [if_neg (n0 _)], by rw [if_neg (n0 _)], by rw [if_neg (n0 _)], by rw [if_neg (n0 _)], fun s _ => ⟨by rw [if_neg (n0 _)], fun c _ => by rw [if_neg (n0 _)]⟩⟩
  · exact ⟨rfl, (Int32.add_zero _).symm, (Int32.add_zero _).symm, (Int32.add_zero _).symm, (Int32.add_zero _).symm, fun w _ => rfl⟩
/-- the end of an hour's flow -/
theorem m_flow8 (L : LY h) (hF : cm_I h 38 24 = nI F) (h8 : F ≤ 8) (y1 : Int64) (x3 x4 : Int32) (k : ∀ h', XI h h' (fun x k => (x = 57 ∨ x = 52) ∧ k < F) → (∀ f, f < F → cm_I h' 57 f = (if 0 < cm_I h 57 f then cm_I h 57 f else 0) ∧ cm_I h' 52 f = if cm_I h 76 f = 0 then cm_I h 52 f else 4) → Qv none h') : cm_wp sc (d + 5) 190 395 [some (.ref 38), some (.long y1), none, some (.int x3), some (.int x4), some (.int (nI 0))] [] h Qv := by
  have gen : ∀ (m i : Nat) (h' : cmH), i + m = F → XI h h' (fun x k => (x = 57 ∨ x = 52) ∧ k < F) → (∀ f, f < i → cm_I h' 57 f = (if 0 < cm_I h 57 f then cm_I h 57 f else 0) ∧ cm_I h' 52 f = if cm_I h 76 f = 0 then cm_I h 52 f else 4) → (∀ f, i ≤ f → cm_I h' 57 f = cm_I h 57 f ∧ cm_I h' 52 f = cm_I h 52 f) → cm_wp sc (d + 5) 190 395 [some (.ref 38), some (.long y1), none, some (.int x3), some (.int x4), some (.int (nI i))] [] h' Qv := by
    intro m
    induction m with
    | zero =>
      intro i h' hi X v un
      obtain rfl : i = F := by omega
      refine s190_395 (X.ly L) _ _ _ _ ⟨fun _ => k h' X v, fun w => absurd ?_ w⟩
      rw [X.2 38 24 (by simp), hF]; exact Int32.le_refl _
    | succ m ih =>
      intro i h' hi X v un
      obtain ⟨u1, u2⟩ := un i (Nat.le_refl _)
      have fin : ∀ z : Int32, z = (if cm_I h 76 i = 0 then cm_I h 52 i else 4) → cm_wp sc (d + 5) 190 449 [some (.ref 38), some (.long y1), none, some (.int x3), some (.int x4), some (.int (nI i))] [.int z, .int (nI i), .ref 52] (cm_setI h' 57 i (if 0 < cm_I h 57 i then cm_I h 57 i else 0)) Qv := by
        rintro z rfl
        refine s190_449 (h := cm_setI h' 57 i _) (X.ly L) _ _ _ _ _ _ ⟨ix_nI (by omega) (by decide), ?_⟩
        rw [nI_clamp (by omega), nI_1]
        refine ih (i + 1) _ (by omega) ((X.set ⟨Or.inl rfl, by omega⟩).set ⟨Or.inr rfl, by omega⟩) (fun f hf => ?_) (fun f hf => ?_)
        · by_cases y : f = i
          · subst y; rw [sI_o (Or.inl (by decide)), sI_s, sI_s]; exact ⟨rfl, rfl⟩
          · rw [sI_o (Or.inl (by decide)), sI_o (Or.inr y), sI_o (Or.inr y), sI_o (Or.inl (by decide))]; exact v f (by omega)
        · rw [sI_o (Or.inl (by decide)), sI_o (Or.inr (by omega)), sI_o (Or.inr (by omega)), sI_o (Or.inl (by decide))]; exact un f (by omega)
      refine s190_395 (X.ly L) _ _ _ _ ⟨fun w => absurd w ?_, fun _ => ⟨ix_nI (by omega) (by decide), ix_nI (by omega) (by decide), ?_⟩⟩
      · rw [X.2 38 24 (by simp), hF]; exact nI_ge (by omega) (by omega)
      rw [nI_clamp (by omega), X.2 76 i (by simp), u1, u2]
      exact ⟨fun z => fin _ (if_pos z).symm, fun z => fin _ (if_neg z).symm⟩
  exact gen F 0 h (by omega) XI.refl (fun f hf => absurd hf (by omega)) (fun f _ => ⟨rfl, rfl⟩)
end FLOW2
