/-! ===== flow: pushes, what comes ===== -/
/-- the last with a share -/
def LST (sh : Nat → Nat) (i : Nat) (x : Int32) : Prop := (x = -1 ∧ ∀ o, o < i → sh o = 0) ∨ ∃ o, o < i ∧ 0 < sh o ∧ (∀ p, o < p → p < i → sh p = 0) ∧ x = nI o
section FLOW
variable {sc : cmS} {d : Nat} {h : cmH} {Qv : Option Value → cmH → Prop} {F Q T : Nat} {C kc pr st g sh : Nat → Nat}
theorem m_flow4 (L : LY h) (hF : cm_I h 38 24 = nI F) (h8 : F ≤ 8) (hf : ∀ f, f < F → cm_I h 42 f = nI (C f) ∧ C f ≤ 10 ∧ (∀ c, c < C f → cm_I h 45 (10 * f + c) ≠ 0) ∧ q_cake (cm_I h) f = nI (kc f) ∧ kc f < 2 ^ 30 ∧ cm_I h 49 f = nI (pr f) ∧ 1 ≤ pr f ∧ pr f ≤ 1000) (hsh : ∀ f, f < F → cm_I h 56 f = nI (sh f) ∧ sh f ≤ 1000) (y1 : Int64) (x3 : Int32) (u5 : Option Value) (k : ∀ h' (r : Nat → Int32), XI h h' (fun x k => (x = 57 ∧ k < F) ∨ x = 75) → (∀ f, f < F → (0 < sh f → q_push (q_bed (cm_I h) (C f) f) (kc f) (pr f) (sh f) (r f)) ∧ cm_I h' 57 f = if 0 < sh f then r f else cm_I h 57 f) → cm_wp sc (d + 5) 190 260 [some (.ref 38), some (.long y1), none, some (.int x3), some (.int (-1)), some (.int (nI 0))] [] h' Qv) : cm_wp sc (d + 5) 190 203 [some (.ref 38), some (.long y1), none, some (.int x3), some (.int (nI 0)), u5] [] h Qv := by
  have gen : ∀ (m i : Nat) (h' : cmH) (r : Nat → Int32), i + m = F → XI h h' (fun x k => (x = 57 ∧ k < F) ∨ x = 75) → (∀ f, f < i → (0 < sh f → q_push (q_bed (cm_I h) (C f) f) (kc f) (pr f) (sh f) (r f)) ∧ cm_I h' 57 f = if 0 < sh f then r f else cm_I h 57 f) → (∀ f, i ≤ f → cm_I h' 57 f = cm_I h 57 f) → cm_wp sc (d + 5) 190 203 [some (.ref 38), some (.long y1), none, some (.int x3), some (.int (nI i)), u5] [] h' Qv := by
    intro m
    induction m with
    | zero =>
      intro i h' r hi X v un
      obtain rfl : i = F := by omega
      refine s190_203 (X.ly L) _ _ _ _ ⟨fun _ => k h' r X v, fun w => absurd ?_ w⟩
      rw [X.2 38 24 (by simp), hF]; exact Int32.le_refl _
    | succ m ih =>
      intro i h' r hi X v un
      have L' := X.ly L
      obtain ⟨e42, h10, ht, hk, hk2, hpr, p1, p2⟩ := hf i (by omega)
      obtain ⟨es, hs2⟩ := hsh i (by omega)
      have ix9 : IX 9 (nI i) := ix_nI (by omega) (by decide)
      have ebed : ∀ h2 : cmH, XI h h2 (fun x k => (x = 57 ∧ k < F) ∨ x = 75) → q_bed (cm_I h2) (C i) i = q_bed (cm_I h) (C i) i := fun h2 X2 => q_bed_congr fun c _ => q_width_congr (X2.2 _ _ (by simp)) (X2.2 _ _ (by simp)) (fun s _ => X2.2 _ _ (by simp))
      refine s190_203 L' _ _ _ _ ⟨fun w => absurd w ?_, fun _ => ⟨ix9, ?_⟩⟩
      · rw [X.2 38 24 (by simp), hF]; exact nI_ge (by omega) (by omega)
      rw [nI_clamp (by omega), X.2 56 i (by simp), es]
      refine ⟨fun z => s190_248 _ _ _ _ ?_, fun z => ?_⟩
      · have z0 : ¬ 0 < sh i := fun y => nI_nle y (by omega) z
        rw [nI_1]
        refine ih (i + 1) h' r (by omega) X (fun f hf => ?_) (fun f hf => un f (by omega))
        rcases Nat.lt_or_ge f i with y | y
        · exact v f y
        · obtain rfl : f = i := by omega
          exact ⟨fun y => absurd y z0, by rw [if_neg z0]; exact un f (Nat.le_refl _)⟩
      · have z0 : 0 < sh i := by
          rcases Nat.eq_zero_or_pos (sh i) with y | y
          · exact absurd (by rw [y]; decide) z
          · exact y
        refine m_push' L' (by omega) (by rw [X.2 _ _ (by simp)]; exact e42) h10 (fun c hc => by rw [X.2 _ _ (by simp)]; exact ht c hc) hs2 (by rw [X.2 _ _ (by simp)]; exact hpr) p1 p2 (by rw [← hk]; unfold q_cake; exact cm_sum_congr fun s _ => X.2 _ _ (by simp)) (by omega) (fun rr hr => s190_241 L' _ _ _ _ _ _ ⟨ix9, ?_⟩)
        rw [ebed h' X] at hr
        rw [nI_clamp (by omega)]
        have X2 : XI h (cm_setI h' 57 i rr) (fun x k => (x = 57 ∧ k < F) ∨ x = 75) := X.set (Or.inl ⟨rfl, by omega⟩)
        refine m_look (X2.ly L) (by omega) (by rw [X2.2 _ _ (by simp)]; exact e42) h10 (fun c hc => by rw [X2.2 _ _ (by simp)]; exact ht c hc) (fun h3 X3 _ => s190_248 _ _ _ _ ?_)
        rw [nI_1]
        refine ih (i + 1) h3 (fun o => if o = i then rr else r o) (by omega) (X2.trans (X3.mono fun x k w => Or.inr w)) (fun f hf => ?_) (fun f hf => ?_)
        · rw [X3.2 57 f (by simp)]
          by_cases y : f = i
          · subst y
            rw [if_pos rfl, sI_s, if_pos z0]
            exact ⟨fun _ => hr, rfl⟩
          · rw [if_neg y, sI_o (Or.inr y)]
            exact v f (by omega)
        · rw [X3.2 57 f (by simp), sI_o (Or.inr (by omega))]; exact un f (by omega)
  exact gen F 0 h (fun _ => 0) (by omega) XI.refl (fun f hf => absurd hf (by omega)) (fun f _ => rfl)
theorem m_flow5 (L : LY h) (hF : cm_I h 38 24 = nI F) (h8 : F ≤ 8) (hsh : ∀ f, f < F → cm_I h 56 f = nI (sh f) ∧ sh f ≤ 1000) (y1 : Int64) (x3 : Int32) (k : ∀ h' x4, XI h h' (fun x k => (x = 58 ∧ k < F) ∨ x = 73) → (∀ f, f < F → cm_I h' 58 f = 0) → LST sh F x4 → cm_wp sc (d + 5) 190 313 [some (.ref 38), some (.long y1), none, some (.int x3), some (.int x4), some (.int (nI 0))] [] h' Qv) : cm_wp sc (d + 5) 190 260 [some (.ref 38), some (.long y1), none, some (.int x3), some (.int (-1)), some (.int (nI 0))] [] h Qv := by
  have gen : ∀ (m i : Nat) (h' : cmH) (x4 : Int32), i + m = F → XI h h' (fun x k => (x = 58 ∧ k < F) ∨ x = 73) → (∀ f, f < i → cm_I h' 58 f = 0) → LST sh i x4 → cm_wp sc (d + 5) 190 260 [some (.ref 38), some (.long y1), none, some (.int x3), some (.int x4), some (.int (nI i))] [] h' Qv := by
    intro m
    induction m with
    | zero =>
      intro i h' x4 hi X v l
      obtain rfl : i = F := by omega
      refine s190_260 (X.ly L) _ _ _ _ ⟨fun _ => k h' x4 X v l, fun w => absurd ?_ w⟩
      rw [X.2 38 24 (by simp), hF]; exact Int32.le_refl _
    | succ m ih =>
      intro i h' x4 hi X v l
      obtain ⟨es, hs2⟩ := hsh i (by omega)
      have next : ∀ x, LST sh (i + 1) x → cm_wp sc (d + 5) 190 302 [some (.ref 38), some (.long y1), none, some (.int x3), some (.int x4), some (.int (nI i))] [.int x] (cm_setI (cm_setI h' 58 i 0) 73 i 0) Qv := by
        intro x hx
        refine s190_302 _ _ _ _ _ ?_
        rw [nI_1]
        refine ih (i + 1) _ x (by omega) ((X.set (Or.inl ⟨rfl, by omega⟩)).set (Or.inr rfl)) (fun f hf => ?_) hx
        rw [sI_o (Or.inl (by decide))]
        by_cases y : f = i
        · subst y; exact sI_s
        · rw [sI_o (Or.inr y)]; exact v f (by omega)
      refine s190_260 (X.ly L) _ _ _ _ ⟨fun w => absurd w ?_, fun _ => ⟨ix_nI (by omega) (by decide), ix_nI (by omega) (by decide), ?_⟩⟩
      · rw [X.2 38 24 (by simp), hF]; exact nI_ge (by omega) (by omega)
      rw [nI_clamp (by omega), X.2 56 i (by simp), es]
      refine ⟨fun z => next x4 ?_, fun z => next (nI i) ?_⟩
      · have z0 : sh i = 0 := by
          rcases Nat.eq_zero_or_pos (sh i) with y | y
          · exact y
          · exact absurd z (nI_nle y (by omega))
        rcases l with ⟨e, a⟩ | ⟨o, ho, p, a, e⟩
        · refine Or.inl ⟨e, fun o ho => ?_⟩
          by_cases y : o = i
          · subst y; exact z0
          · exact a o (by omega)
        · refine Or.inr ⟨o, by omega, p, fun q h1 h2 => ?_, e⟩
          by_cases y : q = i
          · subst y; exact z0
          · exact a q h1 (by omega)
      · have z0 : 0 < sh i := by
          rcases Nat.eq_zero_or_pos (sh i) with y | y
          · exact absurd (by rw [y]; decide) z
          · exact y
        exact Or.inr ⟨i, by omega, z0, fun q h1 h2 => absurd h1 (by omega), rfl⟩
  exact gen F 0 h (-1) (by omega) XI.refl (fun f hf => absurd hf (by omega)) (Or.inl ⟨rfl, fun o ho => absurd ho (by omega)⟩)
/-- what came is told; all of it goes round where none has a share -/
def TL (h h' : cmH) (T : Nat) (g : Nat → Nat) (b : Prop) [Decidable b] (i : Nat) : Prop := XI h h' (fun x k => (x = 68 ∧ 24 * T ≤ k ∧ k < 24 * T + 24) ∨ (x = 71 ∧ k < 48)) ∧ ∀ s, s < 8 → cm_I h' 68 (3 * (8 * T + s)) = (if s < i then cm_I h 68 (3 * (8 * T + s)) + nI (g s) else cm_I h 68 (3 * (8 * T + s))) ∧ cm_I h' 68 (3 * (8 * T + s) + 1) = cm_I h 68 (3 * (8 * T + s) + 1) ∧ cm_I h' 68 (3 * (8 * T + s) + 2) = (if s < i ∧ b then cm_I h 68 (3 * (8 * T + s) + 2) + nI (g s) else cm_I h 68 (3 * (8 * T + s) + 2)) ∧ cm_I h' 71 (6 * s) = (if s < i then cm_I h 71 (6 * s) + nI (g s) else cm_I h 71 (6 * s)) ∧ cm_I h' 71 (6 * s + 5) = (if s < i ∧ b then cm_I h 71 (6 * s + 5) + nI (g s) else cm_I h 71 (6 * s + 5)) ∧ ∀ w, 1 ≤ w → w ≤ 4 → cm_I h' 71 (6 * s + w) = cm_I h 71 (6 * s + w)
theorem m_flow6 (L : LY h) (hT : cm_I h 38 0 = nI T) (hT2 : T ≤ 2000) (hg : ∀ s, s < 8 → cm_I h 67 s = nI (g s)) (y1 : Int64) (x3 x4 : Int32) (k : ∀ h', TL h h' T g (x4 = -1) 8 → cm_wp sc (d + 5) 190 363 [some (.ref 38), some (.long y1), none, some (.int x3), some (.int x4), some (.int (nI 0))] [] h' Qv) : cm_wp sc (d + 5) 190 313 [some (.ref 38), some (.long y1), none, some (.int x3), some (.int x4), some (.int (nI 0))] [] h Qv := by
  have gen : ∀ (m i : Nat) (h' : cmH), i + m = 8 → TL h h' T g (x4 = -1) i → cm_wp sc (d + 5) 190 313 [some (.ref 38), some (.long y1), none, some (.int x3), some (.int x4), some (.int (nI i))] [] h' Qv := by
    intro m
    induction m with
    | zero =>
      intro i h' hi X
      obtain rfl : i = 8 := by omega
      exact s190_313 (X.1.ly L) _ _ _ _ ⟨fun _ => k h' X, fun w => absurd (Int32.le_refl _) w⟩
    | succ m ih =>
      intro i h' hi X
      have L' := X.1.ly L
      have xo : ∀ x k, x ≠ 68 → x ≠ 71 → cm_I h' x k = cm_I h x k := fun x k a b => X.1.2 x k (by omega)
      obtain ⟨a1, a2, a3, a4, a5, a6⟩ := X.2 i (by omega)
      rw [if_neg (by omega)] at a1 a3 a4 a5
      refine s190_313 L' _ _ _ _ ⟨fun w => absurd w (nI_ge (b := 8) (by omega) (by decide)), fun _ => ⟨ix_nI (by omega) (by decide), ?_⟩⟩
      rw [nI_clamp (by omega), xo 67 i (by decide) (by decide), hg i (by omega)]
      refine m_tell (w := 0) L' (by rw [xo 38 0 (by decide) (by decide)]; exact hT) hT2 (by omega) (by omega) ?_
      rw [if_pos rfl, show 3 * (8 * T + i) + 0 = 3 * (8 * T + i) from rfl, show 6 * i + 0 = 6 * i from rfl, a1, a4]
      have X1 : XI h (cm_setI (cm_setI h' 68 (3 * (8 * T + i)) (cm_I h 68 (3 * (8 * T + i)) + nI (g i))) 71 (6 * i) (cm_I h 71 (6 * i) + nI (g i))) (fun x k => (x = 68 ∧ 24 * T ≤ k ∧ k < 24 * T + 24) ∨ (x = 71 ∧ k < 48)) := (X.1.set (Or.inl ⟨rfl, by omega, by omega⟩)).set (Or.inr ⟨rfl, by omega⟩)
      refine s190_334 (X1.ly L) _ _ _ _ ⟨fun z => s190_354 _ _ _ _ ?_, fun z => ⟨ix_nI (by omega) (by decide), ?_⟩⟩
      · rw [nI_1]
        refine ih (i + 1) _ (by omega) ⟨X1, fun s hs => ?_⟩
        obtain ⟨b1, b2, b3, b4, b5, b6⟩ := X.2 s hs
        rw [if_neg (fun q => z q.2)] at b3 b5
        refine ⟨?_, ?_, ?_, ?_, ?_, fun w h1 h2 => ?_⟩
        · rw [sI_o (Or.inl (by decide))]
          by_cases y : s = i
          · subst y; rw [sI_s, if_pos (by omega)]
          · rw [sI_o (Or.inr (by omega)), b1]
            by_cases y2 : s < i
            · rw [if_pos y2, if_pos (by omega)]
            · rw [if_neg y2, if_neg (by omega)]
        · rw [sI_o (Or.inl (by decide)), sI_o (Or.inr (by omega))]; exact b2
        · rw [sI_o (Or.inl (by decide)), sI_o (Or.inr (by omega)), if_neg (fun q => z q.2)]; exact b3
        · by_cases y : s = i
          · subst y; rw [sI_s, if_pos (by omega)]
          · rw [sI_o (Or.inr (by omega)), sI_o (Or.inl (by decide)), b4]
            by_cases y2 : s < i
            · rw [if_pos y2, if_pos (by omega)]
            · rw [if_neg y2, if_neg (by omega)]
        · rw [sI_o (Or.inr (by omega)), sI_o (Or.inl (by decide)), if_neg (fun q => z q.2)]; exact b5
        · rw [sI_o (Or.inr (by omega)), sI_o (Or.inl (by decide))]; exact b6 w h1 h2
      · have z := Decidable.not_not.mp z
        rw [nI_clamp (by omega), X1.2 67 i (by omega), hg i (by omega)]
        refine m_tell (w := 2) (X1.ly L) (T := T) (by rw [X1.2 38 0 (by omega)]; exact hT) hT2 (by omega) (by omega) (s190_354 _ _ _ _ ?_)
        rw [if_neg (by decide), sI_o (b := 68) (Or.inl (by decide)), sI_o (b := 68) (Or.inr (by omega)), sI_o (b := 71) (Or.inr (by omega)), sI_o (b := 71) (Or.inl (by decide)), a3, a5, nI_1]
        refine ih (i + 1) _ (by omega) ⟨(X1.set (Or.inl ⟨rfl, by omega, by omega⟩)).set (Or.inr ⟨rfl, by omega⟩), fun s hs => ?_⟩
        obtain ⟨b1, b2, b3, b4, b5, b6⟩ := X.2 s hs
        refine ⟨?_, ?_, ?_, ?_, ?_, fun w h1 h2 => ?_⟩
        · rw [sI_o (Or.inl (by decide)), sI_o (Or.inr (by omega)), sI_o (Or.inl (by decide))]
          by_cases y : s = i
          · subst y; rw [sI_s, if_pos (by omega)]
          · rw [sI_o (Or.inr (by omega)), b1]
            by_cases y2 : s < i
            · rw [if_pos y2, if_pos (by omega)]
            · rw [if_neg y2, if_neg (by omega)]
        · rw [sI_o (Or.inl (by decide)), sI_o (Or.inr (by omega)), sI_o (Or.inl (by decide)), sI_o (Or.inr (by omega))]; exact b2
        · rw [sI_o (Or.inl (by decide))]
          by_cases y : s = i
          · subst y; rw [sI_s, if_pos ⟨by omega, z⟩]
          · rw [sI_o (Or.inr (by omega)), sI_o (Or.inl (by decide)), sI_o (Or.inr (by omega)), b3]
            by_cases y2 : s < i
            · rw [if_pos ⟨y2, z⟩, if_pos ⟨by omega, z⟩]
            · rw [if_neg (fun q => y2 q.1), if_neg (fun q => by omega)]
        · rw [sI_o (Or.inr (by omega)), sI_o (Or.inl (by decide))]
          by_cases y : s = i
          · subst y; rw [sI_s, if_pos (by omega)]
          · rw [sI_o (Or.inr (by omega)), sI_o (Or.inl (by decide)), b4]
            by_cases y2 : s < i
            · rw [if_pos y2, if_pos (by omega)]
            · rw [if_neg y2, if_neg (by omega)]
        · by_cases y : s = i
          · subst y; rw [sI_s, if_pos ⟨by omega, z⟩]
          · rw [sI_o (Or.inr (by omega)), sI_o (Or.inl (by decide)), sI_o (Or.inr (by omega)), sI_o (Or.inl (by decide)), b5]
            by_cases y2 : s < i
            · rw [if_pos ⟨y2, z⟩, if_pos ⟨by omega, z⟩]
            · rw [if_neg (fun q => y2 q.1), if_neg (fun q => by omega)]
        · rw [sI_o (Or.inr (by omega)), sI_o (Or.inl (by decide)), sI_o (Or.inr (by omega)), sI_o (Or.inl (by decide))]; exact b6 w h1 h2
  exact gen 8 0 h (by omega) ⟨XI.refl, fun s hs => by rw [if_neg (by omega), if_neg (fun q => by omega), if_neg (by omega), if_neg (fun q => by omega)]; exact ⟨rfl, rfl, rfl, rfl, rfl, fun w _ _ => rfl⟩⟩
end FLOW
