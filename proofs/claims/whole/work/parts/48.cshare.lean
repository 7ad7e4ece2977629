/-! ===== shares, of the class ===== -/
/-- the heap h' is h but for longs, and ints at places of P -/
def XW (h h' : cmH) (P : Nat → Nat → Prop) : Prop := h' = cm_w h (cm_I h') (cm_J h') ∧ ∀ a k, ¬ P a k → cm_I h' a k = cm_I h a k
theorem XW.refl {h : cmH} {P : Nat → Nat → Prop} : XW h h P := ⟨rfl, fun _ _ _ => rfl⟩
theorem XI.w {h h' : cmH} {P : Nat → Nat → Prop} (x : XI h h' P) : XW h h' P := ⟨by rw [x.1]; rfl, x.2⟩
theorem XW.set {h h' : cmH} {P : Nat → Nat → Prop} {a k : Nat} {v : Int32} (x : XW h h' P) (p : P a k) : XW h (cm_setI h' a k v) P := by
  refine ⟨?_, fun b j q => ?_⟩
  · rw [x.1]; rfl
  · rw [← x.2 b j q]
    exact if_neg fun z => q (by rw [z.1, z.2]; exact p)
theorem XW.setJ {h h' : cmH} {P : Nat → Nat → Prop} {a k : Nat} {v : Int64} (x : XW h h' P) : XW h (cm_setJ h' a k v) P := by
  refine ⟨?_, fun b j q => x.2 b j q⟩
  rw [x.1]; rfl
theorem XW.mono {h h' : cmH} {P Q : Nat → Nat → Prop} (x : XW h h' P) (q : ∀ a k, P a k → Q a k) : XW h h' Q := ⟨x.1, fun a k z => x.2 a k fun p => z (q a k p)⟩
theorem XW.trans {h h' h'' : cmH} {P : Nat → Nat → Prop} (x : XW h h' P) (y : XW h' h'' P) : XW h h'' P := by
  refine ⟨?_, fun a k z => (y.2 a k z).trans (x.2 a k z)⟩
  have := y.1
  rw [x.1] at this
  exact this
theorem XW.ly {h h' : cmH} {P : Nat → Nat → Prop} (x : XW h h' P) (L : LY h) : LY h' := by rw [x.1]; exact L
theorem XW.R {h h' : cmH} {P : Nat → Nat → Prop} (x : XW h h' P) : cm_R h' = cm_R h := by rw [x.1]; rfl
theorem XW.FL {h h' : cmH} {P : Nat → Nat → Prop} {a : Nat} (x : XW h h' P) (F : FL h a) : FL h' a := by rw [x.1]; exact F
theorem XW.CE {h h' : cmH} {P : Nat → Nat → Prop} {a : Nat} (x : XW h h' P) (F : CE h a) : CE h' a := by rw [x.1]; exact F
theorem XW.FC {h h' : cmH} {P : Nat → Nat → Prop} {a n : Nat} {ca : Nat → Nat} (x : XW h h' P) (F : FC h a n ca) (q : ¬ P a 3) (q5 : ∀ c, c < n → ¬ P (ca c) 5) : FC h' a n ca := by
  refine ⟨x.FL F.1, by rw [x.2 a 3 q]; exact F.2.1, F.2.2.1, fun c hc => ⟨by rw [x.R]; exact (F.2.2.2 c hc).1, x.CE (F.2.2.2 c hc).2.1, by rw [x.2 _ 5 (q5 c hc)]; exact (F.2.2.2 c hc).2.2⟩⟩
/-- filters and cells lie apart -/
def SW (F : Nat) (C fa : Nat → Nat) (cc : Nat → Nat → Nat) : Prop := (∀ f, f < F → 88 ≤ fa f) ∧ (∀ f f', f < F → f' < F → f ≠ f' → fa f + 3 < fa f' ∨ fa f' + 3 < fa f) ∧ (∀ f c, f < F → c < C f → 88 ≤ cc f c ∧ ∀ f', f' < F → cc f c + 2 < fa f' ∨ fa f' + 3 < cc f c) ∧ ∀ f c f' c', f < F → c < C f → f' < F → c' < C f' → (f ≠ f' ∨ c ≠ c') → cc f c + 2 < cc f' c' ∨ cc f' c' + 2 < cc f c
theorem SW.sp {F : Nat} {C fa : Nat → Nat} {cc : Nat → Nat → Nat} (S : SW F C fa cc) {f : Nat} (hf : f < F) : SP (fa f) (C f) (cc f) :=
  ⟨Or.inl (S.1 f hf), fun c hc => ⟨(S.2.2.1 f c hf hc).1, (S.2.2.1 f c hf hc).2 f hf⟩, fun c c' hc hc' e => S.2.2.2 f c f c' hf hc hf hc' (Or.inr e)⟩
section CSHARE
variable {sc : cmS} {d : Nat} {h : cmH} {KV : cmH → Prop} {KJ : Int64 → cmH → Prop} {F Q : Nat} {C fa kc : Nat → Nat} {cc : Nat → Nat → Nat}
theorem c_weight {a n k : Nat} {ca : Nat → Nat} (G : FC h a n ca) (hk : cm_sum (cm_I h (a + 2)) 8 = nI k) (hk2 : k < 2 ^ 30) (kk : KJ (lN (q_wt (c_bedv h n ca) k)) h) : cm_cj' sc (d + 4) 76 [.ref a] h KJ := by
  refine c_weightNow G ?_
  unfold q_wt at kk
  by_cases z : c_bedv h n ca = -1
  · rw [if_pos z] at kk ⊢; exact kk
  · rw [if_neg z] at kk ⊢
    obtain ⟨b, hb, eb⟩ := (c_bedv_cases G.2.2.1).resolve_left z
    rw [eb, nI_clamp (by omega)] at kk
    have e : (if (1 : Int32) < nI b + nI k then nI b + nI k else 1) = nI (max 1 (b + k)) := by
      rw [nI_add]
      by_cases z : 1 < b + k
      · rw [if_pos (show (1 : Int32) < nI (b + k) from nI_lt (a := 1) z (by omega)), Nat.max_eq_right (by omega)]
      · rw [if_neg (show ¬ (1 : Int32) < nI (b + k) from nI_nlt (a := 1) (b := b + k) (by omega) (by decide)), Nat.max_eq_left (by omega)]; rfl
    rw [eb, hk, e, nI_l (by omega), if_neg (lN_ne0 (by omega) (by omega)), show (1000000 : Int64) = lN 1000000 from rfl, lN_div (by decide) (by omega) (by omega)]
    exact kk
/-- the weights of the class -/
def c_w (h : cmH) (C fa kc : Nat → Nat) (cc : Nat → Nat → Nat) (f : Nat) : Nat := if cm_I h (fa f) 18 = 0 then 0 else q_wt (c_bedv h (C f) (cc f)) (kc f)
theorem c_bedv_congr {h h' : cmH} {n : Nat} {ca : Nat → Nat} (q : ∀ c, c < n → cm_I h' (ca c) 4 = cm_I h (ca c) 4 ∧ cm_I h' (ca c) 5 = cm_I h (ca c) 5 ∧ cm_I h' (ca c) 2 = cm_I h (ca c) 2) : c_bedv h' n ca = c_bedv h n ca := by
  unfold c_bedv
  refine q_sumN_congr n 0 0 (fun c _ hc => ?_)
  unfold c_wd
  rw [(q c (by omega)).1, (q c (by omega)).2.1, (q c (by omega)).2.2]
def P_ss (F : Nat) (fa : Nat → Nat) (x k : Nat) : Prop := ∃ f, f < F ∧ x = fa f ∧ (k = 11 ∨ k = 19)
/-- what shareStream comes to -/
def SSt (h h' : cmH) (F Q : Nat) (C fa kc : Nat → Nat) (cc : Nat → Nat → Nat) : Prop := XW h h' (P_ss F fa) ∧ ∀ f, f < F → cm_I h' (fa f) 11 = nI (q_sh (c_w h C fa kc cc) Q F f) ∧ cm_I h' (fa f) 19 = if cm_I h (fa f) 18 ≠ 0 then (if c_bedv h (C f) (cc f) = -1 then 1 else 0) else cm_I h (fa f) 19
theorem c_shareStream (L : LY h) (G : FS h F fa) (GC : ∀ f, f < F → FC h (fa f) (C f) (cc f)) (S : SW F C fa cc) (hq : cm_I h 12 1 = nI Q) (hQ2 : Q ≤ 1000) (hk : ∀ f, f < F → cm_sum (cm_I h (fa f + 2)) 8 = nI (kc f) ∧ kc f < 2 ^ 30) (h11 : ∀ f, f < F → cm_I h (fa f) 11 = 0) (k : ∀ h', SSt h h' F Q C fa kc cc → KV h') : cm_cv sc (d + 5) 75 [.ref 0] h KV := by
  have h8 := G.2.1
  have hw : ∀ f, c_w h C fa kc cc f ≤ 1000000 := fun f => by unfold c_w; split; omega; exact q_wt_le
  generalize eW : c_w h C fa kc cc = w at *
  have hWt : q_ns w F ≤ 1000000 * F := q_ns_le fun k hk => hw k
  have hbs := q_bs_sum (w := w) (Q := Q) (F := F)
  have pn : ∀ x k, x < 88 → ¬ P_ss F fa x k := fun x k hx => by rintro ⟨f, hf, e, -⟩; have := S.1 f hf; omega
  have pf : ∀ f k, f < F → k ≠ 11 → k ≠ 19 → ¬ P_ss F fa (fa f) k := fun f k hf h1 h2 => by rintro ⟨f', hf', e, q⟩; omega
  have pc : ∀ f c j k, f < F → c < C f → j ≤ 2 → ¬ P_ss F fa (cc f c + j) k := fun f c j k hf hc hj => by rintro ⟨f', hf', e, q⟩; have := (S.2.2.1 f c hf hc).2 f' hf'; omega
  have gs : ∀ h', XW h h' (P_ss F fa) → FS h' F fa := fun h' X => ⟨by rw [X.2 0 10 (pn _ _ (by omega))]; exact G.1, h8, fun f hf => by rw [X.R]; exact G.2.2 f hf⟩
  have gc : ∀ h', XW h h' (P_ss F fa) → ∀ f, f < F → FC h' (fa f) (C f) (cc f) := fun h' X f hf => X.FC (GC f hf) (pf f 3 hf (by decide) (by decide)) (fun c hc => pc f c 0 5 hf hc (by omega))
  have ck : ∀ h', XW h h' (P_ss F fa) → ∀ f, f < F → cm_sum (cm_I h' (fa f + 2)) 8 = nI (kc f) := fun h' X f hf => by
    rw [← (hk f hf).1]
    refine cm_sum_congr fun s _ => X.2 _ _ ?_
    rintro ⟨f', hf', e, q⟩
    by_cases y : f = f'
    · subst y; omega
    · have := S.2.1 f f' hf hf' y; omega
  have bd : ∀ h', XW h h' (P_ss F fa) → ∀ f, f < F → c_bedv h' (C f) (cc f) = c_bedv h (C f) (cc f) := fun h' X f hf => c_bedv_congr fun c hc => ⟨X.2 _ _ (pc f c 0 4 hf hc (by omega)), X.2 _ _ (pc f c 0 5 hf hc (by omega)), X.2 _ _ (pc f c 0 2 hf hc (by omega))⟩
  have fne : ∀ f f', f < F → f' < F → f ≠ f' → fa f ≠ fa f' := fun f f' a b c => by have := S.2.1 f f' a b c; omega
  -- the third loop
  have third : ∀ (m i : Nat) (h' : cmH) (y1 : Int64) (u5 : Option Value), i + m = F → XW h h' (P_ss F fa) → (∀ f, f < F → cm_I h' (fa f) 11 = nI (if f < i then q_sh w Q F f else q_bs w Q F f) ∧ (cm_I h (fa f) 18 ≠ 0 → cm_J h' (fa f) 16 = lN (w f)) ∧ cm_I h' (fa f) 19 = if cm_I h (fa f) 18 ≠ 0 then (if c_bedv h (C f) (cc f) = -1 then 1 else 0) else cm_I h (fa f) 19) → cm_wp sc (d + 5) 75 157 [some (.ref 0), some (.long y1), none, some (.int (nI (Q - q_ns (q_bs w Q F) F - min (q_ah w i) (Q - q_ns (q_bs w Q F) F)))), some (.int (nI i)), u5] [] h' (fun v h' => v = none ∧ KV h') := by
    intro m
    induction m with
    | zero =>
      intro i h' y1 u5 hi X v
      obtain rfl : i = F := by omega
      refine s75_157 (X.ly L) _ _ _ _ ⟨fun _ => ⟨rfl, k h' ⟨X, fun f hf => ?_⟩⟩, fun z => absurd ?_ z⟩
      · obtain ⟨a, -, b⟩ := v f hf
        rw [if_pos hf] at a
        rw [eW]; exact ⟨a, b⟩
      · rw [(gs h' X).1]; exact Int32.le_refl _
    | succ m ih =>
      intro i h' y1 u5 hi X v
      have hif : i < F := by omega
      obtain ⟨a1, a2, a3⟩ := v i hif
      rw [if_neg (by omega)] at a1
      have eah : q_ah w (i + 1) = q_ah w i + if 0 < w i then 1 else 0 := rfl
      have same : q_sh w Q F i = q_bs w Q F i → ∀ f, f < F → cm_I h' (fa f) 11 = nI (if f < i + 1 then q_sh w Q F f else q_bs w Q F f) ∧ (cm_I h (fa f) 18 ≠ 0 → cm_J h' (fa f) 16 = lN (w f)) ∧ cm_I h' (fa f) 19 = if cm_I h (fa f) 18 ≠ 0 then (if c_bedv h (C f) (cc f) = -1 then 1 else 0) else cm_I h (fa f) 19 := by
        intro es f hf
        obtain ⟨b1, b2, b3⟩ := v f hf
        refine ⟨?_, b2, b3⟩
        rw [b1]
        by_cases y : f = i
        · subst y; rw [if_neg (by omega), if_pos (by omega), es]
        · by_cases y2 : f < i
          · rw [if_pos y2, if_pos (by omega)]
          · rw [if_neg y2, if_neg (by omega)]
      refine s75_157 (X.ly L) _ _ _ _ ⟨fun z => absurd z (by rw [(gs h' X).1]; exact nI_ge (by omega) (by omega)), fun _ => ⟨fun z => ⟨rfl, k h' ⟨X, fun f hf => ?_⟩⟩, fun z => c_filterI (X.ly L) (gs h' X) hif (s75_176 _ _ _ _ (some (fa i)) ⟨fun w => (by cases w), fun b eb => ?_⟩)⟩⟩
      · have hl : ¬ 0 < Q - q_ns (q_bs w Q F) F - min (q_ah w i) (Q - q_ns (q_bs w Q F) F) := fun q => absurd z (nI_nle q (by omega))
        obtain ⟨b1, -, b3⟩ := v f hf
        refine ⟨?_, b3⟩
        rw [b1, eW]
        by_cases y2 : f < i
        · rw [if_pos y2]
        · rw [if_neg y2]
          refine congrArg nI ?_
          unfold q_sh
          have mo := q_ah_mono (w := w) (i := i) (n := f) (by omega)
          by_cases w0 : w f = 0
          · rw [if_pos w0]; unfold q_bs; rw [w0, Nat.mul_zero, Nat.zero_div]
          · rw [if_neg w0, if_neg (by omega), Nat.add_zero]
      cases eb
      have hl : 0 < Q - q_ns (q_bs w Q F) F - min (q_ah w i) (Q - q_ns (q_bs w Q F) F) := by
        rcases Nat.eq_zero_or_pos (Q - q_ns (q_bs w Q F) F - min (q_ah w i) (Q - q_ns (q_bs w Q F) F)) with q | q
        · exact absurd (by rw [q]; decide) z
        · exact q
      refine ⟨(gc h' X i hif).1, ?_⟩
      rw [X.2 (fa i) 18 (pf i 18 hif (by decide) (by decide))]
      have skip : w i = 0 → cm_wp sc (d + 5) 75 215 [some (.ref 0), some (.long y1), none, some (.int (nI (Q - q_ns (q_bs w Q F) F - min (q_ah w i) (Q - q_ns (q_bs w Q F) F)))), some (.int (nI i)), some (va_rf (some (fa i)))] [] h' (fun v h' => v = none ∧ KV h') := by
        intro w0
        refine s75_215 _ _ _ (some (fa i)) ?_
        rw [nI_1]
        have := ih (i + 1) h' y1 (some (va_rf (some (fa i)))) (by omega) X (same (by unfold q_sh q_bs; rw [if_pos w0, w0, Nat.mul_zero, Nat.zero_div]))
        rw [eah, if_neg (by omega), Nat.add_zero] at this
        exact this
      refine ⟨fun z0 => skip (by rw [← eW]; unfold c_w; rw [if_pos z0]), fun z0 => ?_⟩
      rw [a2 z0, lg_cmp_le, show (0 : Int64) = lN 0 from rfl, lN_le' (by have := hw i; omega) (by decide)]
      refine ⟨fun y => skip (by omega), fun y => s75_215 _ _ _ (some (fa i)) ?_⟩
      have w1 : 0 < w i := by omega
      rw [a1, nI_1, nI_1]
      have := ih (i + 1) (cm_setI h' (fa i) 11 (nI (q_bs w Q F i + 1))) y1 (some (va_rf (some (fa i)))) (by omega) (X.set ⟨i, hif, rfl, Or.inl rfl⟩) (fun f hf => ?_)
      · rw [eah, if_pos w1] at this
        rw [show Q - q_ns (q_bs w Q F) F - min (q_ah w i) (Q - q_ns (q_bs w Q F) F) = Q - q_ns (q_bs w Q F) F - min (q_ah w i + 1) (Q - q_ns (q_bs w Q F) F) + 1 by omega, pk_m1]
        exact this
      · obtain ⟨b1, b2, b3⟩ := v f hf
        refine ⟨?_, b2, ?_⟩
        · by_cases q : f = i
          · subst q
            rw [sI_s, if_pos (by omega)]
            refine congrArg nI ?_
            unfold q_sh
            rw [if_neg (by omega), if_pos (by omega)]
          · rw [sI_o (Or.inl (fne f i hf hif q)), b1]
            by_cases y2 : f < i
            · rw [if_pos y2, if_pos (by omega)]
            · rw [if_neg y2, if_neg (by omega)]
        · rw [sI_o (Or.inr (by decide))]; exact b3
  -- the second
  have second : ∀ (m i : Nat) (h' : cmH) (u5 : Option Value), i + m = F → XW h h' (P_ss F fa) → (∀ f, f < F → cm_I h' (fa f) 11 = nI (if f < i then q_bs w Q F f else 0) ∧ (cm_I h (fa f) 18 ≠ 0 → cm_J h' (fa f) 16 = lN (w f)) ∧ cm_I h' (fa f) 19 = if cm_I h (fa f) 18 ≠ 0 then (if c_bedv h (C f) (cc f) = -1 then 1 else 0) else cm_I h (fa f) 19) → cm_wp sc (d + 5) 75 86 [some (.ref 0), some (.long (lN (q_ns w F))), none, some (.int (nI (Q - q_ns (q_bs w Q F) i))), some (.int (nI i)), u5] [] h' (fun v h' => v = none ∧ KV h') := by
    intro m
    induction m with
    | zero =>
      intro i h' u5 hi X v
      obtain rfl : i = F := by omega
      refine s75_86 (X.ly L) _ _ _ _ ⟨fun _ => ?_, fun z => absurd (by rw [(gs h' X).1]; exact Int32.le_refl _) z⟩
      have := third i 0 h' (lN (q_ns w i)) u5 (by omega) X (fun f hf => by
        obtain ⟨a, b, c⟩ := v f hf
        rw [if_pos hf] at a
        rw [if_neg (by omega)]; exact ⟨a, b, c⟩)
      rw [show min (q_ah w 0) (Q - q_ns (q_bs w Q i) i) = 0 from Nat.zero_min _, Nat.sub_zero] at this
      exact this
    | succ m ih =>
      intro i h' u5 hi X v
      have hif : i < F := by omega
      have mono := q_ns_mono (q_bs w Q F) (i := i + 1) (n := F) (by omega)
      have estep : q_ns (q_bs w Q F) (i + 1) = q_ns (q_bs w Q F) i + q_bs w Q F i := rfl
      obtain ⟨a1, a2, a3⟩ := v i hif
      refine s75_86 (X.ly L) _ _ _ _ ⟨fun z => absurd z (by rw [(gs h' X).1]; exact nI_ge (by omega) (by omega)), fun _ => c_filterI (X.ly L) (gs h' X) hif (s75_101 (X.ly L) _ _ _ _ (some (fa i)) ⟨fun w => (by cases w), fun b eb => ?_⟩)⟩
      cases eb
      have Fi := (gc h' X i hif).1
      refine ⟨Fi, ?_⟩
      rw [X.2 (fa i) 18 (pf i 18 hif (by decide) (by decide))]
      refine ⟨fun z0 => s75_148 _ _ _ (some (fa i)) ?_, fun z0 => ?_⟩
      · have w0 : w i = 0 := by rw [← eW]; unfold c_w; rw [if_pos z0]
        have b0 : q_bs w Q F i = 0 := by unfold q_bs; rw [w0, Nat.mul_zero, Nat.zero_div]
        rw [nI_1]
        have := ih (i + 1) h' (some (va_rf (some (fa i)))) (by omega) X (fun f hf => by
          obtain ⟨b1, b2, b3⟩ := v f hf
          refine ⟨?_, b2, b3⟩
          rw [b1]
          by_cases y : f = i
          · subst y; rw [if_neg (by omega), if_pos (by omega), b0]
          · by_cases y2 : f < i
            · rw [if_pos y2, if_pos (by omega)]
            · rw [if_neg y2, if_neg (by omega)])
        rw [estep, b0, Nat.add_zero] at this
        exact this
      · have hwi := hw i
        have hm : Q * w i ≤ 1000 * 1000000 := Nat.mul_le_mul hQ2 hwi
        rw [X.2 12 1 (pn _ _ (by omega)), hq, a2 z0, nI_l (by omega), lN_mul]
        refine c_cut (s75_136 _ _ _ (some (fa i)) _ (some (fa i)) ⟨_, rfl, Fi, _, rfl, Fi, s75_148 _ _ _ (some (fa i)) ?_⟩)
        have ev : (if lN (q_ns w F) = 0 then (0 : Int64) else lN (Q * w i) / lN (q_ns w F)).toInt32 = nI (q_bs w Q F i) := by
          by_cases y : q_ns w F = 0
          · rw [y, if_pos (show lN 0 = 0 from rfl)]; unfold q_bs; rw [y, Nat.div_zero]; rfl
          · rw [if_neg (lN_ne0 (by omega) (by omega)), lN_div (by omega) (by omega) (by omega), lN_i]; rfl
        rw [ev, sI_s, pk_sub (by omega), nI_1, show Q - q_ns (q_bs w Q F) i - q_bs w Q F i = Q - q_ns (q_bs w Q F) (i + 1) by omega]
        refine ih (i + 1) _ _ (by omega) (X.set ⟨i, hif, rfl, Or.inl rfl⟩) fun f hf => ?_
        obtain ⟨b1, b2, b3⟩ := v f hf
        refine ⟨?_, b2, ?_⟩
        · by_cases y : f = i
          · subst y; rw [sI_s, if_pos (by omega)]
          · rw [sI_o (Or.inl (fne f i hf hif y)), b1]
            by_cases y2 : f < i
            · rw [if_pos y2, if_pos (by omega)]
            · rw [if_neg y2, if_neg (by omega)]
        · rw [sI_o (Or.inr (by decide))]; exact b3
  -- the first
  have first : ∀ (m i : Nat) (h' : cmH) (u4 u5 : Option Value), i + m = F → XW h h' (P_ss F fa) → (∀ f, f < F → cm_I h' (fa f) 11 = 0 ∧ (f < i → cm_I h (fa f) 18 ≠ 0 → cm_J h' (fa f) 16 = lN (w f)) ∧ cm_I h' (fa f) 19 = if f < i ∧ cm_I h (fa f) 18 ≠ 0 then (if c_bedv h (C f) (cc f) = -1 then 1 else 0) else cm_I h (fa f) 19) → cm_wp sc (d + 5) 75 4 [some (.ref 0), some (.long (lN (q_ns w i))), none, some (.int (nI i)), u4, u5] [] h' (fun v h' => v = none ∧ KV h') := by
    intro m
    induction m with
    | zero =>
      intro i h' u4 u5 hi X v
      obtain rfl : i = F := by omega
      refine s75_4 (X.ly L) _ _ _ _ ⟨fun _ => ?_, fun z => absurd (by rw [(gs h' X).1]; exact Int32.le_refl _) z⟩
      rw [X.2 12 1 (pn _ _ (by omega)), hq]
      refine second i 0 h' u5 (by omega) X fun f hf => ?_
      obtain ⟨a, b, c⟩ := v f hf
      refine ⟨by rw [if_neg (by omega)]; exact a, b hf, ?_⟩
      rw [c]
      by_cases y : cm_I h (fa f) 18 ≠ 0
      · rw [if_pos ⟨hf, y⟩, if_pos y]
      · rw [if_neg (fun q => y q.2), if_neg y]
    | succ m ih =>
      intro i h' u4 u5 hi X v
      have hif : i < F := by omega
      obtain ⟨a1, a2, a3⟩ := v i hif
      have Fi := (gc h' X i hif).1
      have estep : q_ns w (i + 1) = q_ns w i + w i := rfl
      refine s75_4 (X.ly L) _ _ _ _ ⟨fun z => absurd z (by rw [(gs h' X).1]; exact nI_ge (by omega) (by omega)), fun _ => c_filterI (X.ly L) (gs h' X) hif (s75_17 _ _ _ _ (some (fa i)) ⟨fun w => (by cases w), fun b eb => ?_⟩)⟩
      cases eb
      refine ⟨Fi, ?_⟩
      rw [X.2 (fa i) 18 (pf i 18 hif (by decide) (by decide))]
      refine ⟨fun z0 => s75_69 _ _ (some (fa i)) _ ?_, fun z0 => ?_⟩
      · have w0 : w i = 0 := by rw [← eW]; unfold c_w; rw [if_pos z0]
        rw [nI_1]
        have := ih (i + 1) h' (some (va_rf (some (fa i)))) u5 (by omega) X (fun f hf => by
          obtain ⟨b1, b2, b3⟩ := v f hf
          refine ⟨b1, fun hlt q => ?_, ?_⟩
          · by_cases y : f = i
            · subst y; exact absurd z0 q
            · exact b2 (by omega) q
          · rw [b3]
            by_cases y : f = i
            · subst y; rw [if_neg (fun q => q.2 z0), if_neg (fun q => q.2 z0)]
            · have e1 : ∀ P : Prop, ((f < i + 1 ∧ P) ↔ (f < i ∧ P)) := fun P => ⟨fun q => ⟨by have := q.1; omega, q.2⟩, fun q => ⟨by omega, q.2⟩⟩
              simp only [e1])
        rw [estep, w0, Nat.add_zero] at this
        exact this
      · refine c_weight (gc h' X i hif) (ck h' X i hif) (hk i hif).2 (s75_39 _ _ (some (fa i)) _ _ (some (fa i)) ⟨_, rfl, Fi, _, rfl, Fi, ?_⟩)
        rw [bd h' X i hif]
        have ew : q_wt (c_bedv h (C i) (cc i)) (kc i) = w i := by rw [← eW]; unfold c_w; rw [if_neg z0]
        rw [ew]
        have X2 : XW h (cm_setJ h' (fa i) 16 (lN (w i))) (P_ss F fa) := X.setJ
        refine c_bed (gc _ X2 i hif) (s75_49 _ _ (some (fa i)) _ _ (some (fa i)) ?_)
        rw [bd _ X2 i hif]
        have fin : ∀ z : Int32, z = (if c_bedv h (C i) (cc i) = -1 then 1 else 0) → cm_wp sc (d + 5) 75 58 [some (.ref 0), some (.long (lN (q_ns w i))), none, some (.int (nI i)), some (va_rf (some (fa i))), u5] [.int z, va_rf (some (fa i))] (cm_setJ h' (fa i) 16 (lN (w i))) (fun v h' => v = none ∧ KV h') := by
          intro z hz
          refine s75_58 _ _ (some (fa i)) _ _ (some (fa i)) ⟨_, rfl, Fi, by rw [hz]; split; exact Or.inr rfl; exact Or.inl rfl, _, rfl, Fi, s75_69 _ _ (some (fa i)) _ ?_⟩
          rw [show cm_J (cm_setJ h' (fa i) 16 (lN (w i))) (fa i) 16 = lN (w i) from if_pos ⟨rfl, rfl⟩, lN_add, nI_1]
          refine ih (i + 1) _ _ _ (by omega) (X2.set ⟨i, hif, rfl, Or.inr rfl⟩) fun f hf => ?_
          obtain ⟨b1, b2, b3⟩ := v f hf
          refine ⟨?_, fun hlt q => ?_, ?_⟩
          · rw [sI_o (Or.inr (by decide))]; exact b1
          · by_cases y : f = i
            · subst y; exact if_pos ⟨rfl, rfl⟩
            · exact (if_neg fun q => fne f i hf hif y q.1).trans (b2 (by omega) q)
          · by_cases y : f = i
            · subst y; rw [sI_s, if_pos ⟨by omega, z0⟩]; exact hz
            · rw [sI_o (Or.inl (fne f i hf hif y))]
              refine Eq.trans (show cm_I (cm_setJ h' (fa i) 16 (lN (w i))) (fa f) 19 = cm_I h' (fa f) 19 from rfl) ?_
              rw [b3]
              have e1 : ∀ P : Prop, ((f < i + 1 ∧ P) ↔ (f < i ∧ P)) := fun P => ⟨fun q => ⟨by have := q.1; omega, q.2⟩, fun q => ⟨by omega, q.2⟩⟩
              simp only [e1]
        exact ⟨fun y => fin 0 (if_neg y).symm, fun y => fin 1 (if_pos (Decidable.not_not.mp y)).symm⟩
  refine cv_of rfl (s75_0 _ _ _ _ _ ?_)
  refine first F 0 h _ _ (by omega) XW.refl fun f hf => ⟨h11 f hf, fun hlt => absurd hlt (by omega), by rw [if_neg (fun q => absurd q.1 (by omega))]⟩
end CSHARE
