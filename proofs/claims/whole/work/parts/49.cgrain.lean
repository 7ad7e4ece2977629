/-! ===== grains to the filters, of the class ===== -/
section CGRAIN
variable {sc : cmS} {d : Nat} {h : cmH} {KV : cmH → Prop} {K : Int32 → cmH → Prop} {F Q t : Nat} {C fa g sh : Nat → Nat} {cc : Nat → Nat → Nat}
theorem c_note {w s : Nat} {v : Int32} (L : LY h) (ht : t < 2000) (hw : w < 3) (hs : s < 8) (k : KV (cm_setI h 20 (24 * t + 8 * w + s) (cm_I h 20 (24 * t + 8 * w + s) + v))) : cm_cv sc (d + 1) 80 [.ref 14, .int (nI w), .int (nI (t + 1)), .int (nI s), .int v] h KV := by
  refine cv_of rfl (s80_0 _ _ _ _ _ (c_place (s80_6 L _ _ _ _ _ _ ⟨fun q => absurd q (nI_pos (by omega)), fun _ => ⟨fun q => absurd q (nI_ge (b := 48000) (by omega) (by decide)), fun _ => ⟨ix_nI (by omega) (by decide), rfl, ?_⟩⟩⟩)))
  rw [nI_clamp (by omega)]; exact k
theorem c_noteCame {s : Nat} {v : Int32} (L : LY h) (ht : t < 2000) (hs : s < 8) (k : KV (cm_setI (cm_setI h 20 (24 * t + s) (cm_I h 20 (24 * t + s) + v)) 15 s (cm_I h 15 s + v))) : cm_cv sc (d + 2) 79 [.ref 14, .int (nI (t + 1)), .int (nI s), .int v] h KV := by
  refine cv_of rfl (s79_0 L _ _ _ (c_note (w := 0) L ht (by omega) hs (s79_8 (h := cm_setI h 20 _ _) L _ _ _ ⟨ix_nI hs (by decide), rfl, ?_⟩)))
  rw [nI_clamp (by omega), sI_o (Or.inl (by decide))]; exact k
theorem c_noteRound {s : Nat} {v : Int32} (L : LY h) (ht : t < 2000) (hs : s < 8) (k : KV (cm_setI (cm_setI h 20 (24 * t + 16 + s) (cm_I h 20 (24 * t + 16 + s) + v)) 19 s (cm_I h 19 s + v))) : cm_cv sc (d + 2) 82 [.ref 14, .int (nI (t + 1)), .int (nI s), .int v] h KV := by
  refine cv_of rfl (s82_0 L _ _ _ (c_note (w := 2) L ht (by omega) hs (s82_8 (h := cm_setI h 20 _ _) L _ _ _ ⟨ix_nI hs (by decide), rfl, ?_⟩)))
  rw [nI_clamp (by omega), sI_o (Or.inl (by decide))]; exact k
theorem c_noteOut {s : Nat} {v : Int32} (L : LY h) (ht : t < 2000) (hs : s < 8) (k : KV (cm_setI (cm_setI h 20 (24 * t + 8 + s) (cm_I h 20 (24 * t + 8 + s) + v)) 18 s (cm_I h 18 s + v))) : cm_cv sc (d + 2) 87 [.ref 14, .int (nI (t + 1)), .int (nI s), .int v] h KV := by
  refine cv_of rfl (s87_0 L _ _ _ (c_note (w := 1) L ht (by omega) hs (s87_8 (h := cm_setI h 20 _ _) L _ _ _ ⟨ix_nI hs (by decide), rfl, ?_⟩)))
  rw [nI_clamp (by omega), sI_o (Or.inl (by decide))]; exact k
theorem c_comingOf {s : Nat} (L : LY h) (hs : s < 8) (hq : cm_I h 12 1 = nI Q) (hQ : Q ≤ 1000) (hg : cm_I h 13 s = nI (g s)) (k : K (nI (if Q = 0 then 0 else g s)) h) : cm_ci sc (d + 1) 78 [.ref 12, .int (nI s)] h K := by
  refine ci_of rfl (s78_0 L _ ⟨fun z => s78_15 _ (ai ?_), fun z => c_isSize (fun j hj e => s78_12 L _ 1 (br_t (by decide) ⟨ix_nI hs (by decide), ai ?_⟩)) (fun q => absurd rfl (q s hs))⟩)
  · rw [hq] at z
    have z0 : Q = 0 := by
      have := (nI_ltI (b := 1) (by omega) (by decide)).mp z
      omega
    rw [if_pos z0] at k; exact k
  · rw [hq] at z
    have z0 : ¬ Q = 0 := fun y => z (by rw [y]; decide)
    rw [if_neg z0] at k
    rw [nI_clamp (by omega), hg]; exact k
/-- what of a size is left -/
def q_rd (sh : Nat → Nat) (g Q F : Nat) : Nat := g - q_ns (fun o => g * sh o / Q) F - min (q_ah sh F) (g - q_ns (fun o => g * sh o / Q) F)
def q_ld (sh : Nat → Nat) (g Q F f : Nat) : Nat := if 0 < sh f then q_part sh g Q F f else 0
def P_sg (F t : Nat) (fa : Nat → Nat) (x k : Nat) : Prop := ((x = 15 ∨ x = 19) ∧ k < 8) ∨ (x = 20 ∧ 24 * t ≤ k ∧ k < 24 * t + 24) ∨ ∃ f, f < F ∧ x = fa f + 3 ∧ k < 8
/-- the first i sizes -/
def SGr (h h' : cmH) (F Q t : Nat) (fa sh gg : Nat → Nat) (i : Nat) : Prop := XI h h' (P_sg F t fa) ∧ ∀ s, s < 8 → cm_I h' 15 s = (if s < i then cm_I h 15 s + nI (gg s) else cm_I h 15 s) ∧ cm_I h' 19 s = (if s < i then cm_I h 19 s + nI (q_rd sh (gg s) Q F) else cm_I h 19 s) ∧ cm_I h' 20 (24 * t + s) = (if s < i then cm_I h 20 (24 * t + s) + nI (gg s) else cm_I h 20 (24 * t + s)) ∧ cm_I h' 20 (24 * t + 8 + s) = cm_I h 20 (24 * t + 8 + s) ∧ cm_I h' 20 (24 * t + 16 + s) = (if s < i then cm_I h 20 (24 * t + 16 + s) + nI (q_rd sh (gg s) Q F) else cm_I h 20 (24 * t + 16 + s)) ∧ ∀ f, f < F → s < i → cm_I h' (fa f + 3) s = nI (q_ld sh (gg s) Q F f)
theorem c_shareGrains (L : LY h) (G : FS h F fa) (GC : ∀ f, f < F → FL h (fa f)) (S : SW F C fa cc) (hq : cm_I h 12 1 = nI Q) (hQ2 : Q ≤ 1000) (hT : cm_I h 0 12 = nI (t + 1)) (ht : t < 2000) (hg : ∀ s, s < 8 → cm_I h 13 s = nI (g s) ∧ g s ≤ 9999) (hsh : ∀ f, f < F → cm_I h (fa f) 11 = nI (sh f) ∧ sh f ≤ 1000) (hsum : q_ns sh F ≤ Q) (k : ∀ h', SGr h h' F Q t fa sh (fun s => if Q = 0 then 0 else g s) 8 → KV h') : cm_cv sc (d + 3) 77 [.ref 0] h KV := by
  have h8 := G.2.1
  have fne : ∀ f f', f < F → f' < F → f ≠ f' → fa f ≠ fa f' := fun f f' a b c => by have := S.2.1 f f' a b c; omega
  have pn : ∀ x k, x < 88 → x ≠ 15 → x ≠ 19 → x ≠ 20 → ¬ P_sg F t fa x k := fun x k hx a b c => by
    rintro (q | q | ⟨f, hf, e, -⟩)
    · omega
    · omega
    · have := S.1 f hf; omega
  have pf : ∀ f k, f < F → ¬ P_sg F t fa (fa f) k := fun f k hf => by
    have h1 := S.1 f hf
    rintro (q | q | ⟨f', hf', e, q⟩)
    · omega
    · omega
    · by_cases y : f = f'
      · subst y; omega
      · have := S.2.1 f f' hf hf' y; omega
  have gs : ∀ h', XI h h' (P_sg F t fa) → FS h' F fa := fun h' X => ⟨by rw [X.2 0 10 (pn _ _ (by omega) (by decide) (by decide) (by decide))]; exact G.1, h8, fun f hf => by rw [X.R]; exact G.2.2 f hf⟩
  refine cv_of rfl (s77_0 _ _ _ _ _ ?_)
  generalize egg : (fun s => if Q = 0 then 0 else g s) = gg at k
  have hgg : ∀ s, s < 8 → gg s ≤ 9999 := fun s hs => by rw [← egg]; show (if Q = 0 then 0 else g s) ≤ 9999; split; omega; exact (hg s hs).2
  have gen : ∀ (m i : Nat) (h' : cmH) (u2 u3 u4 u5 : Option Value), i + m = 8 → SGr h h' F Q t fa sh gg i → cm_wp sc (d + 3) 77 2 [some (.ref 0), some (.int (nI i)), u2, u3, u4, u5] [] h' (fun v h' => v = none ∧ KV h') := by
    intro m
    induction m with
    | zero =>
      intro i h' u2 u3 u4 u5 hi X
      obtain rfl : i = 8 := by omega
      exact s77_2 (X.1.ly L) _ _ _ _ _ ⟨fun _ => ⟨rfl, k h' X⟩, fun w => absurd (Int32.le_refl _) w⟩
    | succ m ih =>
      intro i h' u2 u3 u4 u5 hi X
      have hi8 : i < 8 := by omega
      have L' := X.1.ly L
      have hG := hgg i hi8
      have hfl : q_ns (fun o => gg i * sh o / Q) F ≤ gg i := by
        rcases Nat.eq_zero_or_pos Q with z | z
        · have := q_ns_le (v := fun o => gg i * sh o / Q) (B := 0) (n := F) (fun k _ => by show gg i * sh k / Q ≤ 0; rw [z, Nat.div_zero]; exact Nat.le_refl _)
          omega
        · exact q_fl_le' z hsum
      refine s77_2 L' _ _ _ _ _ ⟨fun w => absurd w (nI_ge (b := 8) hi8 (by decide)), fun _ => c_comingOf (g := g) L' hi8 (by rw [X.1.2 _ _ (pn _ _ (by omega) (by decide) (by decide) (by decide))]; exact hq) hQ2 (by rw [X.1.2 _ _ (pn _ _ (by omega) (by decide) (by decide) (by decide))]; exact (hg i hi8).1) (s77_16 L' _ _ _ _ _ _ ?_)⟩
      rw [show (if Q = 0 then 0 else g i) = gg i from by rw [← egg], X.1.2 0 12 (pn _ _ (by omega) (by decide) (by decide) (by decide)), hT]
      obtain ⟨a1, a2, a3, a4, a5, a6⟩ := X.2 i hi8
      rw [if_neg (by omega)] at a1 a2 a3 a5
      refine c_noteCame L' ht hi8 (s77_30 _ _ _ _ _ ?_)
      rw [a1, a3]
      -- the state behind what came
      have X1 : XI h (cm_setI (cm_setI h' 20 (24 * t + i) (cm_I h 20 (24 * t + i) + nI (gg i))) 15 i (cm_I h 15 i + nI (gg i))) (P_sg F t fa) := (X.1.set (Or.inr (Or.inl ⟨rfl, by omega, by omega⟩))).set (Or.inl ⟨Or.inl rfl, hi8⟩)
      generalize eh1 : cm_setI (cm_setI h' 20 (24 * t + i) (cm_I h 20 (24 * t + i) + nI (gg i))) 15 i (cm_I h 15 i + nI (gg i)) = h1 at X1
      have base : ∀ s, s < 8 → cm_I h1 15 s = (if s < i + 1 then cm_I h 15 s + nI (gg s) else cm_I h 15 s) ∧ cm_I h1 19 s = (if s < i then cm_I h 19 s + nI (q_rd sh (gg s) Q F) else cm_I h 19 s) ∧ cm_I h1 20 (24 * t + s) = (if s < i + 1 then cm_I h 20 (24 * t + s) + nI (gg s) else cm_I h 20 (24 * t + s)) ∧ cm_I h1 20 (24 * t + 8 + s) = cm_I h 20 (24 * t + 8 + s) ∧ cm_I h1 20 (24 * t + 16 + s) = (if s < i then cm_I h 20 (24 * t + 16 + s) + nI (q_rd sh (gg s) Q F) else cm_I h 20 (24 * t + 16 + s)) ∧ ∀ f, f < F → s < i → cm_I h1 (fa f + 3) s = nI (q_ld sh (gg s) Q F f) := by
        intro s hs
        obtain ⟨b1, b2, b3, b4, b5, b6⟩ := X.2 s hs
        rw [← eh1]
        refine ⟨?_, ?_, ?_, ?_, ?_, fun f hf hlt => ?_⟩
        · by_cases y : s = i
          · subst y; rw [sI_s, if_pos (by omega)]
          · rw [sI_o (Or.inr y), sI_o (Or.inl (by decide)), b1]
            by_cases y2 : s < i
            · rw [if_pos y2, if_pos (by omega)]
            · rw [if_neg y2, if_neg (by omega)]
        · rw [sI_o (Or.inl (by decide)), sI_o (Or.inl (by decide))]; exact b2
        · rw [sI_o (Or.inl (by decide))]
          by_cases y : s = i
          · subst y; rw [sI_s, if_pos (by omega)]
          · rw [sI_o (Or.inr (by omega)), b3]
            by_cases y2 : s < i
            · rw [if_pos y2, if_pos (by omega)]
            · rw [if_neg y2, if_neg (by omega)]
        · rw [sI_o (Or.inl (by decide)), sI_o (Or.inr (by omega))]; exact b4
        · rw [sI_o (Or.inl (by decide)), sI_o (Or.inr (by omega))]; exact b5
        · have := S.1 f hf
          rw [sI_o (Or.inl (by omega)), sI_o (Or.inl (by omega))]; exact b6 f hf hlt
      clear eh1
      -- what changes from here on: loads of size i
      have keep : ∀ h2 : cmH, XI h1 h2 (fun x k => ∃ f, f < F ∧ x = fa f + 3 ∧ k = i) → XI h h2 (P_sg F t fa) ∧ ∀ s, s < 8 → cm_I h2 15 s = cm_I h1 15 s ∧ cm_I h2 19 s = cm_I h1 19 s ∧ cm_I h2 20 (24 * t + s) = cm_I h1 20 (24 * t + s) ∧ cm_I h2 20 (24 * t + 8 + s) = cm_I h1 20 (24 * t + 8 + s) ∧ cm_I h2 20 (24 * t + 16 + s) = cm_I h1 20 (24 * t + 16 + s) ∧ ∀ f, f < F → s < i → cm_I h2 (fa f + 3) s = cm_I h1 (fa f + 3) s := by
        intro h2 X2
        have nn : ∀ x k, x < 88 → ¬ (∃ f, f < F ∧ x = fa f + 3 ∧ k = i) := fun x k hx => by rintro ⟨f, hf, e, -⟩; have := S.1 f hf; omega
        refine ⟨X1.trans (X2.mono fun x k q => by obtain ⟨f, hf, e, e2⟩ := q; exact Or.inr (Or.inr ⟨f, hf, e, by omega⟩)), fun s hs => ⟨X2.2 _ _ (nn _ _ (by omega)), X2.2 _ _ (nn _ _ (by omega)), X2.2 _ _ (nn _ _ (by omega)), X2.2 _ _ (nn _ _ (by omega)), X2.2 _ _ (nn _ _ (by omega)), fun f hf hlt => X2.2 _ _ ?_⟩⟩
        rintro ⟨f', hf', e, e2⟩
        omega
      have ld : ∀ h2 : cmH, XI h h2 (P_sg F t fa) → ∀ f, f < F → cm_I h2 (fa f) 11 = nI (sh f) := fun h2 X2 f hf => by rw [X2.2 _ _ (pf f 11 hf)]; exact (hsh f hf).1
      -- the round
      have fin : ∀ (h2 : cmH) (x4 : Int32) (u5 : Option Value), XI h1 h2 (fun x k => ∃ f, f < F ∧ x = fa f + 3 ∧ k = i) → (∀ f, f < F → cm_I h2 (fa f + 3) i = nI (q_ld sh (gg i) Q F f)) → cm_wp sc (d + 3) 77 158 [some (.ref 0), some (.int (nI i)), some (.int (nI (gg i))), some (.int (nI (q_rd sh (gg i) Q F))), some (.int x4), u5] [] h2 (fun v h' => v = none ∧ KV h') := by
        intro h2 x4 u5 X2 vl
        obtain ⟨X3, kp⟩ := keep h2 X2
        have L3 := X3.ly L
        refine s77_158 L3 _ _ _ _ _ ?_
        rw [X3.2 0 12 (pn _ _ (by omega) (by decide) (by decide) (by decide)), hT]
        refine c_noteRound L3 ht hi8 (s77_171 _ _ _ _ _ ?_)
        rw [nI_1]
        refine ih (i + 1) _ _ _ _ _ (by omega) ⟨(X3.set (Or.inr (Or.inl ⟨rfl, by omega, by omega⟩))).set (Or.inl ⟨Or.inr rfl, hi8⟩), fun s hs => ?_⟩
        obtain ⟨b1, b2, b3, b4, b5, b6⟩ := base s hs
        obtain ⟨c1, c2, c3, c4, c5, c6⟩ := kp s hs
        refine ⟨?_, ?_, ?_, ?_, ?_, fun f hf hlt => ?_⟩
        · rw [sI_o (Or.inl (by decide)), sI_o (Or.inl (by decide)), c1]; exact b1
        · by_cases y : s = i
          · subst y
            rw [sI_s, c2, b2, if_neg (by omega), if_pos (by omega)]
          · rw [sI_o (Or.inr y), sI_o (Or.inl (by decide)), c2, b2]
            by_cases y2 : s < i
            · rw [if_pos y2, if_pos (by omega)]
            · rw [if_neg y2, if_neg (by omega)]
        · rw [sI_o (Or.inl (by decide)), sI_o (Or.inr (by omega)), c3]; exact b3
        · rw [sI_o (Or.inl (by decide)), sI_o (Or.inr (by omega)), c4]; exact b4
        · rw [sI_o (Or.inl (by decide))]
          by_cases y : s = i
          · subst y
            rw [sI_s, c5, b5, if_neg (by omega), if_pos (by omega)]
          · rw [sI_o (Or.inr (by omega)), c5, b5]
            by_cases y2 : s < i
            · rw [if_pos y2, if_pos (by omega)]
            · rw [if_neg y2, if_neg (by omega)]
        · have := S.1 f hf
          rw [sI_o (Or.inl (by omega)), sI_o (Or.inl (by omega))]
          by_cases y : s = i
          · subst y; exact vl f hf
          · rw [c6 f hf (by omega)]; exact b6 f hf (by omega)
      -- what is left, by one each
      have third : ∀ (m2 j : Nat) (h2 : cmH) (u5 : Option Value), j + m2 = F → XI h1 h2 (fun x k => ∃ f, f < F ∧ x = fa f + 3 ∧ k = i) → (∀ f, f < F → cm_I h2 (fa f + 3) i = nI (if f < j then q_ld sh (gg i) Q F f else gg i * sh f / Q)) → cm_wp sc (d + 3) 77 104 [some (.ref 0), some (.int (nI i)), some (.int (nI (gg i))), some (.int (nI (gg i - q_ns (fun o => gg i * sh o / Q) F - min (q_ah sh j) (gg i - q_ns (fun o => gg i * sh o / Q) F)))), some (.int (nI j)), u5] [] h2 (fun v h' => v = none ∧ KV h') := by
        intro m2
        induction m2 with
        | zero =>
          intro j h2 u5 hj X2 vl
          obtain rfl : j = F := by omega
          obtain ⟨X3, kp⟩ := keep h2 X2
          refine s77_104 (X3.ly L) _ _ _ _ _ ⟨fun _ => fin h2 _ _ X2 (fun f hf => by rw [vl f hf, if_pos hf]), fun z => absurd (by rw [(gs h2 X3).1]; exact Int32.le_refl _) z⟩
        | succ m2 ih2 =>
          intro j h2 u5 hj X2 vl
          have hjf : j < F := by omega
          obtain ⟨X3, kp⟩ := keep h2 X2
          have eah : q_ah sh (j + 1) = q_ah sh j + if 0 < sh j then 1 else 0 := rfl
          refine s77_104 (X3.ly L) _ _ _ _ _ ⟨fun z => absurd z (by rw [(gs h2 X3).1]; exact nI_ge (by omega) (by omega)), fun _ => ⟨fun z => ?_, fun z => c_filterI (X3.ly L) (gs h2 X3) hjf (s77_123 _ _ _ _ _ (some (fa j)) ⟨fun w => (by cases w), fun b eb => ?_⟩)⟩⟩
          · have hl : ¬ 0 < gg i - q_ns (fun o => gg i * sh o / Q) F - min (q_ah sh j) (gg i - q_ns (fun o => gg i * sh o / Q) F) := fun q => absurd z (nI_nle q (by omega))
            have mo := q_ah_mono (w := sh) (i := j) (n := F) (by omega)
            have er : q_rd sh (gg i) Q F = gg i - q_ns (fun o => gg i * sh o / Q) F - min (q_ah sh j) (gg i - q_ns (fun o => gg i * sh o / Q) F) := by unfold q_rd; omega
            rw [← er]
            refine fin h2 _ _ X2 fun f hf => ?_
            rw [vl f hf]
            by_cases y2 : f < j
            · rw [if_pos y2]
            · rw [if_neg y2]
              refine congrArg nI ?_
              have mo2 := q_ah_mono (w := sh) (i := j) (n := f) (by omega)
              unfold q_ld q_part
              by_cases w0 : 0 < sh f
              · rw [if_pos w0, if_neg (by omega), Nat.add_zero]
              · rw [if_neg w0, show sh f = 0 by omega, Nat.mul_zero, Nat.zero_div]
          cases eb
          have hl : 0 < gg i - q_ns (fun o => gg i * sh o / Q) F - min (q_ah sh j) (gg i - q_ns (fun o => gg i * sh o / Q) F) := by
            rcases Nat.eq_zero_or_pos (gg i - q_ns (fun o => gg i * sh o / Q) F - min (q_ah sh j) (gg i - q_ns (fun o => gg i * sh o / Q) F)) with q | q
            · exact absurd (by rw [q]; decide) z
            · exact q
          have hshj := (hsh j hjf).2
          refine ⟨X3.FL (GC j hjf), ?_⟩
          rw [ld h2 X3 j hjf]
          refine ⟨fun y => s77_152 _ _ _ _ (some (fa j)) ?_, fun y => ⟨ix_nI hi8 (by decide), s77_152 _ _ _ _ (some (fa j)) ?_⟩⟩
          · have w0 : sh j = 0 := by
              rcases Nat.eq_zero_or_pos (sh j) with q | q
              · exact q
              · exact absurd y (nI_nle q (by omega))
            have := ih2 (j + 1) h2 (some (va_rf (some (fa j)))) (by omega) X2 (fun f hf => by
              rw [vl f hf]
              by_cases q : f = j
              · subst q; rw [if_neg (by omega), if_pos (by omega)]
                refine congrArg nI ?_
                unfold q_ld
                rw [if_neg (by omega), w0, Nat.mul_zero, Nat.zero_div]
              · by_cases y2 : f < j
                · rw [if_pos y2, if_pos (by omega)]
                · rw [if_neg y2, if_neg (by omega)])
            rw [eah, if_neg (by omega), Nat.add_zero] at this
            rw [nI_1]; exact this
          · have w1 : 0 < sh j := by
              rcases Nat.eq_zero_or_pos (sh j) with q | q
              · exact absurd (by rw [q]; decide) y
              · exact q
            have vj := vl j hjf
            rw [if_neg (by omega)] at vj
            rw [nI_clamp (by omega), vj, nI_1, nI_1]
            have := ih2 (j + 1) (cm_setI h2 (fa j + 3) i (nI (gg i * sh j / Q + 1))) (some (va_rf (some (fa j)))) (by omega) (X2.set ⟨j, hjf, rfl, rfl⟩) (fun f hf => by
              by_cases q : f = j
              · subst q; rw [sI_s, if_pos (by omega)]
                refine congrArg nI ?_
                unfold q_ld q_part
                rw [if_pos w1, if_pos (by omega)]
              · rw [sI_o (Or.inl (by have := fne f j hf hjf q; omega)), vl f hf]
                by_cases y2 : f < j
                · rw [if_pos y2, if_pos (by omega)]
                · rw [if_neg y2, if_neg (by omega)])
            rw [eah, if_pos w1] at this
            rw [show gg i - q_ns (fun o => gg i * sh o / Q) F - min (q_ah sh j) (gg i - q_ns (fun o => gg i * sh o / Q) F) = gg i - q_ns (fun o => gg i * sh o / Q) F - min (q_ah sh j + 1) (gg i - q_ns (fun o => gg i * sh o / Q) F) + 1 by omega, pk_m1]
            exact this
      -- the whole parts
      have second : ∀ (m2 j : Nat) (h2 : cmH) (u5 : Option Value), j + m2 = F → XI h1 h2 (fun x k => ∃ f, f < F ∧ x = fa f + 3 ∧ k = i) → (∀ f, f < j → cm_I h2 (fa f + 3) i = nI (gg i * sh f / Q)) → cm_wp sc (d + 3) 77 35 [some (.ref 0), some (.int (nI i)), some (.int (nI (gg i))), some (.int (nI (gg i - q_ns (fun o => gg i * sh o / Q) j))), some (.int (nI j)), u5] [] h2 (fun v h' => v = none ∧ KV h') := by
        intro m2
        induction m2 with
        | zero =>
          intro j h2 u5 hj X2 vl
          obtain rfl : j = F := by omega
          obtain ⟨X3, kp⟩ := keep h2 X2
          refine s77_35 (X3.ly L) _ _ _ _ _ ⟨fun _ => ?_, fun z => absurd (by rw [(gs h2 X3).1]; exact Int32.le_refl _) z⟩
          have := third j 0 h2 u5 (by omega) X2 (fun f hf => by rw [if_neg (by omega)]; exact vl f hf)
          rw [show min (q_ah sh 0) (gg i - q_ns (fun o => gg i * sh o / Q) j) = 0 from Nat.zero_min _, Nat.sub_zero] at this
          exact this
        | succ m2 ih2 =>
          intro j h2 u5 hj X2 vl
          have hjf : j < F := by omega
          obtain ⟨X3, kp⟩ := keep h2 X2
          have mono := q_ns_mono (fun o => gg i * sh o / Q) (i := j + 1) (n := F) (by omega)
          have estep : q_ns (fun o => gg i * sh o / Q) (j + 1) = q_ns (fun o => gg i * sh o / Q) j + gg i * sh j / Q := rfl
          have hshj := (hsh j hjf).2
          have hm : gg i * sh j ≤ 9999 * 1000 := Nat.mul_le_mul hG hshj
          have Fj := X3.FL (GC j hjf)
          refine s77_35 (X3.ly L) _ _ _ _ _ ⟨fun z => absurd z (by rw [(gs h2 X3).1]; exact nI_ge (by omega) (by omega)), fun _ => c_filterI (X3.ly L) (gs h2 X3) hjf (s77_50 (X3.ly L) _ _ _ _ _ (some (fa j)) ⟨fun w => (by cases w), fun b eb => ?_⟩)⟩
          cases eb
          refine ⟨Fj, ?_⟩
          rw [ld h2 X3 j hjf, X3.2 12 1 (pn _ _ (by omega) (by decide) (by decide) (by decide)), hq, nI_l (by omega), nI_l (by omega), nI_l (by omega), lN_mul]
          refine c_cut (s77_83 _ _ _ _ (some (fa j)) _ _ _ ⟨Fj.o2 (ix_nI hi8 (by decide)), _, rfl, Fj, ix_nI hi8 (by decide), s77_95 _ _ _ _ (some (fa j)) ?_⟩)
          have ev : (if lN Q = 0 then (0 : Int64) else lN (gg i * sh j) / lN Q).toInt32 = nI (gg i * sh j / Q) := by
            by_cases y : Q = 0
            · rw [y, if_pos (show lN 0 = 0 from rfl), Nat.div_zero]; rfl
            · rw [if_neg (lN_ne0 (by omega) (by omega)), lN_div (by omega) (by omega) (by omega), lN_i]
          rw [ev, nI_clamp (by omega), sI_s, pk_sub (by omega), nI_1, show gg i - q_ns (fun o => gg i * sh o / Q) j - gg i * sh j / Q = gg i - q_ns (fun o => gg i * sh o / Q) (j + 1) by omega]
          refine ih2 (j + 1) _ _ (by omega) (X2.set ⟨j, hjf, rfl, rfl⟩) fun f hf => ?_
          by_cases q : f = j
          · subst q; exact sI_s
          · rw [sI_o (Or.inl (by have := fne f j (by omega) hjf q; omega))]; exact vl f (by omega)
      exact second F 0 h1 _ (by omega) XI.refl (fun f hf => absurd hf (by omega))
  refine gen 8 0 h _ _ _ _ (by omega) ⟨XI.refl, fun s hs => ?_⟩
  rw [if_neg (by omega), if_neg (by omega), if_neg (by omega), if_neg (by omega)]
  exact ⟨rfl, rfl, rfl, rfl, rfl, fun f _ hlt => absurd hlt (by omega)⟩
end CGRAIN
