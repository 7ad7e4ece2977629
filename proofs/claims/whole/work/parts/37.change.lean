/-! ===== change ===== -/
/-- the places of a filter lie apart -/
def SP (a n : Nat) (ca : Nat → Nat) : Prop := (88 ≤ a ∨ a = 26) ∧ (∀ c, c < n → 88 ≤ ca c ∧ (ca c + 2 < a ∨ a + 3 < ca c)) ∧ ∀ c c', c < n → c' < n → c ≠ c' → ca c + 2 < ca c' ∨ ca c' + 2 < ca c
theorem sI_s {h : cmH} {a k : Nat} {v : Int32} : cm_I (cm_setI h a k v) a k = v := if_pos ⟨rfl, rfl⟩
theorem sI_o {h : cmH} {a k b j : Nat} {v : Int32} (q : b ≠ a ∨ j ≠ k) : cm_I (cm_setI h a k v) b j = cm_I h b j := if_neg fun z => q.elim (fun w => w z.1) (fun w => w z.2)
theorem XI.FL {h h' : cmH} {P : Nat → Nat → Prop} {a : Nat} (x : XI h h' P) (F : FL h a) : FL h' a := by rw [x.1]; exact F
theorem XI.CE {h h' : cmH} {P : Nat → Nat → Prop} {a : Nat} (x : XI h h' P) (F : CE h a) : CE h' a := by rw [x.1]; exact F
theorem XI.FC {h h' : cmH} {P : Nat → Nat → Prop} {a n : Nat} {ca : Nat → Nat} (x : XI h h' P) (F : FC h a n ca) (q : ¬ P a 3) (q5 : ∀ c, c < n → ¬ P (ca c) 5) : FC h' a n ca := by
  refine ⟨x.FL F.1, by rw [x.2 a 3 q]; exact F.2.1, F.2.2.1, fun c hc => ⟨by rw [x.R]; exact (F.2.2.2 c hc).1, x.CE (F.2.2.2 c hc).2.1, by rw [x.2 _ 5 (q5 c hc)]; exact (F.2.2.2 c hc).2.2⟩⟩
section CHANGE
variable {sc : cmS} {d : Nat} {h : cmH} {K : Int32 → cmH → Prop} {KV : cmH → Prop}
theorem c_fill {a n : Nat} {v : Int32} (hk : cm_kd h a = 13) (hn : a < cm_n h) (hl : cm_ln h a = n) (hn2 : n < 2 ^ 31) (k : ∀ h', XI h h' (fun b j => b = a ∧ j < n) → (∀ j, j < n → cm_I h' a j = v) → KV h') : cm_cv sc d 2 [.ref a, .int v] h KV := by
  refine cv_of rfl (s2_0 a v _ _ ⟨⟨by rw [hk]; decide, by rw [hk]; decide, hn⟩, ?_⟩)
  rw [hl]
  have gen : ∀ (m i : Nat) (h' : cmH), i + m = n → XI h h' (fun b j => b = a ∧ j < n) → (∀ j, j < i → cm_I h' a j = v) → cm_wp sc d 2 5 [some (.ref a), some (.int v), some (.int (nI i)), some (.int (nI n))] [] h' (fun v h' => v = none ∧ KV h') := by
    intro m
    induction m with
    | zero =>
      intro i h' hi X an
      obtain rfl : i = n := by omega
      exact s2_5 a _ _ _ ⟨fun _ => ⟨rfl, k h' X an⟩, fun w => absurd (Int32.le_refl _) w⟩
    | succ m ih =>
      intro i h' hi X an
      refine s2_5 a _ _ _ ⟨fun w => absurd w (nI_ge (by omega) (by omega)), fun _ => ⟨?_, ?_⟩⟩
      · refine ⟨?_, ?_, nI_pos (by omega), ?_⟩
        · rw [X.1]; exact hk
        · rw [X.1]; exact hn
        · rw [nI_clamp (by omega), X.1]; show i < cm_ln h a; rw [hl]; omega
      · rw [nI_1, nI_clamp (by omega)]
        refine ih (i + 1) _ (by omega) (X.set ⟨rfl, by omega⟩) fun j hj => ?_
        rcases Nat.lt_or_ge j i with z | z
        · rw [sI_o (Or.inr (by omega))]; exact an j z
        · obtain rfl : j = i := by omega
          exact sI_s
  exact gen n 0 h (by omega) XI.refl (fun j hj => absurd hj (by omega))
/-- what a cell writes as it is emptied -/
def P_em (b : Nat) (x k : Nat) : Prop := (x = b + 1 ∧ k < 8) ∨ (x = b + 2 ∧ k < 8) ∨ (x = b ∧ (k = 2 ∨ k = 4))
theorem c_empty {b : Nat} (E : CE h b) (k : ∀ h', XI h h' (P_em b) → (∀ s, s < 8 → cm_I h' (b + 1) s = 0 ∧ cm_I h' (b + 2) s = 0) → cm_I h' b 2 = 0 → cm_I h' b 4 = cm_I h b 3 → KV h') : cm_cv sc (d + 1) 70 [.ref b] h KV := by
  have h1 := E.2.1
  refine cv_of rfl (s70_0 b ⟨E, c_fill E.2.2.2.2.1.1 (by omega) E.2.2.2.2.1.2 (by decide) (fun h1 X1 v1 => s70_8 b ⟨X1.CE E, ?_⟩)⟩)
  have E1 := X1.CE E
  refine c_fill E1.2.2.2.2.2.1 (by have := E1.2.1; omega) E1.2.2.2.2.2.2 (by decide) (fun h2 X2 v2 => s70_16 b ⟨X2.CE E1, rfl, ?_⟩)
  have X : XI h h2 (P_em b) := (X1.mono fun a k q => Or.inl q).trans (X2.mono fun a k q => Or.inr (Or.inl q))
  refine k _ ((X.set (Or.inr (Or.inr ⟨rfl, Or.inl rfl⟩))).set (Or.inr (Or.inr ⟨rfl, Or.inr rfl⟩))) (fun s hs => ⟨?_, ?_⟩) ?_ ?_
  · rw [sI_o (Or.inl (by omega)), sI_o (Or.inl (by omega)), X2.2 _ _ (fun q => by omega)]; exact v1 s hs
  · rw [sI_o (Or.inl (by omega)), sI_o (Or.inl (by omega))]; exact v2 s hs
  · rw [sI_o (Or.inr (by decide)), sI_s]
  · rw [sI_s, sI_o (Or.inr (by decide)), X2.2 _ _ (fun q => by omega), X1.2 _ _ (fun q => by omega)]
def P_mc (a n : Nat) (ca : Nat → Nat) (x k : Nat) : Prop := (x = a + 2 ∧ k < 8) ∨ ∃ c, c < n ∧ P_em (ca c) x k
theorem c_makeClean {a n : Nat} {ca : Nat → Nat} (G : FC h a n ca) (S : SP a n ca) (k : ∀ h', XI h h' (P_mc a n ca) → (∀ s, s < 8 → cm_I h' (a + 2) s = 0) → (∀ c, c < n → (∀ s, s < 8 → cm_I h' (ca c + 1) s = 0 ∧ cm_I h' (ca c + 2) s = 0) ∧ cm_I h' (ca c) 2 = 0 ∧ cm_I h' (ca c) 4 = cm_I h (ca c) 3) → KV h') : cm_cv sc (d + 2) 69 [.ref a] h KV := by
  have h10 := G.2.2.1
  have F := G.1
  have h1 := F.2.1
  refine cv_of rfl (s69_0 a _ _ ⟨F, c_fill F.2.2.2.2.2.2.1.1 (by omega) F.2.2.2.2.2.2.1.2 (by decide) (fun h1 X1 v1 => s69_8 a _ _ ?_)⟩)
  have gen : ∀ (m i : Nat) (h' : cmH) (u : Option Value), i + m = n → XI h h' (P_mc a n ca) → (∀ s, s < 8 → cm_I h' (a + 2) s = 0) → (∀ c, c < i → (∀ s, s < 8 → cm_I h' (ca c + 1) s = 0 ∧ cm_I h' (ca c + 2) s = 0) ∧ cm_I h' (ca c) 2 = 0 ∧ cm_I h' (ca c) 4 = cm_I h (ca c) 3) → (∀ c, i ≤ c → c < n → cm_I h' (ca c) 3 = cm_I h (ca c) 3) → cm_wp sc (d + 2) 69 10 [some (.ref a), some (.int (nI i)), u] [] h' (fun v h' => v = none ∧ KV h') := by
    intro m
    induction m with
    | zero =>
      intro i h' u hi X v2 an un
      obtain rfl : i = n := by omega
      have G' := X.FC G (by rintro (q | ⟨c, hc, q⟩); omega; have := S.2.1 c hc; unfold P_em at q; omega) (fun c hc => by rintro (q | ⟨c', hc', q⟩); have := S.2.1 c hc; omega; have := S.2.2 c c' hc hc'; unfold P_em at q; by_cases e : c = c'; subst e; omega; have := this e; omega)
      refine s69_10 a _ _ ⟨G'.1, fun _ => ⟨rfl, k h' X v2 an⟩, fun w => absurd ?_ w⟩
      rw [G'.2.1]; exact Int32.le_refl _
    | succ m ih =>
      intro i h' u hi X v2 an un
      have G' := X.FC G (by rintro (q | ⟨c, hc, q⟩); omega; have := S.2.1 c hc; unfold P_em at q; omega) (fun c hc => by rintro (q | ⟨c', hc', q⟩); have := S.2.1 c hc; omega; have := S.2.2 c c' hc hc'; unfold P_em at q; by_cases e : c = c'; subst e; omega; have := this e; omega)
      refine s69_10 a _ _ ⟨G'.1, fun w => absurd w ?_, fun _ => c_cellI G' (by omega) (s69_23 a _ _ (some (ca i)) ⟨fun w => (by cases w), fun b eb => ?_⟩)⟩
      · rw [G'.2.1]; exact nI_ge (by omega) (by omega)
      cases eb
      have E := (G'.2.2.2 i (by omega)).2.1
      have hsi := S.2.1 i (by omega)
      refine ⟨E, c_empty E (fun h2 X2 w1 w2 w3 => s69_32 a _ (some (ca i)) ?_)⟩
      rw [nI_1]
      refine ih (i + 1) h2 _ (by omega) (X.trans (X2.mono fun x k q => Or.inr ⟨i, by omega, q⟩)) (fun s hs => ?_) (fun c hc => ?_) (fun c h1 h2 => ?_)
      · rw [X2.2 _ _ (fun q => by unfold P_em at q; omega)]; exact v2 s hs
      · rcases Nat.lt_or_ge c i with z | z
        · have hs2 := S.2.2 c i (by omega) (by omega) (by omega)
          obtain ⟨a1, a2, a3⟩ := an c z
          refine ⟨fun s hs => ⟨?_, ?_⟩, ?_, ?_⟩
          · rw [X2.2 _ _ (fun q => by unfold P_em at q; omega)]; exact (a1 s hs).1
          · rw [X2.2 _ _ (fun q => by unfold P_em at q; omega)]; exact (a1 s hs).2
          · rw [X2.2 _ _ (fun q => by unfold P_em at q; omega)]; exact a2
          · rw [X2.2 _ _ (fun q => by unfold P_em at q; omega)]; exact a3
        · obtain rfl : c = i := by omega
          exact ⟨w1, w2, by rw [w3]; exact un c (Nat.le_refl _) (by omega)⟩
      · have hs2 := S.2.2 c i (by omega) (by omega) (by omega)
        rw [X2.2 _ _ (fun q => by unfold P_em at q; omega)]; exact un c (by omega) h2
  refine gen n 0 h1 _ (by omega) (X1.mono fun x k q => Or.inl q) v1 (fun c hc => absurd hc (by omega)) (fun c _ hc => ?_)
  have := S.2.1 c hc
  exact X1.2 _ _ (fun q => by omega)
def P_cg (a n : Nat) (ca : Nat → Nat) (x k : Nat) : Prop := (x = 17 ∧ k < 8) ∨ (x = a ∧ (k = 9 ∨ k = 10)) ∨ P_mc a n ca x k
/-- a changed filter, of the class -/
def CG (h h' : cmH) (a n : Nat) (ca : Nat → Nat) : Prop := XI h h' (P_cg a n ca) ∧ (∀ s, s < 8 → cm_I h' 17 s = cm_I h 17 s + (cm_I h (a + 2) s + cm_sum (fun c => cm_I h (ca c + 1) s) n) ∧ cm_I h' (a + 2) s = 0) ∧ (∀ c, c < n → (∀ s, s < 8 → cm_I h' (ca c + 1) s = 0 ∧ cm_I h' (ca c + 2) s = 0) ∧ cm_I h' (ca c) 2 = 0 ∧ cm_I h' (ca c) 4 = cm_I h (ca c) 3) ∧ cm_I h' a 9 = 0 ∧ cm_I h' a 10 = 0
theorem c_change {a n : Nat} {ca : Nat → Nat} (L : LY h) (G : FC h a n ca) (S : SP a n ca) (k : ∀ h', CG h h' a n ca → KV h') : cm_cv sc (d + 3) 66 [.ref a, .ref 14] h KV := by
  have h0 := S.1
  refine cv_of rfl (s66_0 a _ ?_)
  have gen : ∀ (m i : Nat) (h' : cmH), i + m = 8 → XI h h' (fun x k => x = 17 ∧ k < 8) → (∀ s, s < i → cm_I h' 17 s = cm_I h 17 s + (cm_I h (a + 2) s + cm_sum (fun c => cm_I h (ca c + 1) s) n)) → (∀ s, i ≤ s → cm_I h' 17 s = cm_I h 17 s) → cm_wp sc (d + 3) 66 2 [some (.ref a), some (.ref 14), some (.int (nI i))] [] h' (fun v h' => v = none ∧ KV h') := by
    intro m
    induction m with
    | zero =>
      intro i h' hi X an un
      obtain rfl : i = 8 := by omega
      have G' := X.FC G (fun q => by omega) (fun c hc q => by have := S.2.1 c hc; omega)
      refine s66_2 a _ ⟨fun _ => ⟨G'.1, c_makeClean G' S (fun h2 X2 v1 v2 => s66_28 a _ ⟨X2.FL G'.1, rfl, k _ ⟨?_, ?_, ?_, ?_, ?_⟩⟩)⟩, fun w => absurd (Int32.le_refl _) w⟩
      · exact (((X.mono fun x k q => Or.inl q).trans (X2.mono fun x k q => Or.inr (Or.inr q))).set (Or.inr (Or.inl ⟨rfl, Or.inl rfl⟩))).set (Or.inr (Or.inl ⟨rfl, Or.inr rfl⟩))
      · intro s hs
        refine ⟨?_, ?_⟩
        · rw [sI_o (Or.inl (by omega)), sI_o (Or.inl (by omega)), X2.2 _ _ (by rintro (q | ⟨c, hc, q⟩); omega; have := S.2.1 c hc; unfold P_em at q; omega)]
          exact an s hs
        · rw [sI_o (Or.inl (by omega)), sI_o (Or.inl (by omega))]; exact v1 s hs
      · intro c hc
        have hsc := S.2.1 c hc
        obtain ⟨w1, w2, w3⟩ := v2 c hc
        refine ⟨fun s hs => ⟨?_, ?_⟩, ?_, ?_⟩
        · rw [sI_o (Or.inl (by omega)), sI_o (Or.inl (by omega))]; exact (w1 s hs).1
        · rw [sI_o (Or.inl (by omega)), sI_o (Or.inl (by omega))]; exact (w1 s hs).2
        · rw [sI_o (Or.inl (by omega)), sI_o (Or.inl (by omega))]; exact w2
        · rw [sI_o (Or.inl (by omega)), sI_o (Or.inl (by omega)), w3, X.2 _ _ (fun q => by omega)]
      · rw [sI_o (Or.inr (by decide)), sI_s]
      · rw [sI_s]
    | succ m ih =>
      intro i h' hi X an un
      have L' := X.ly L
      have G' := X.FC G (fun q => by omega) (fun c hc q => by have := S.2.1 c hc; omega)
      refine s66_2 a _ ⟨fun w => absurd w (nI_ge (b := 8) (by omega) (by decide)), fun _ => ⟨G'.1, c_heldOfSize G' (by omega) (s66_15 L' a _ _ _ (cv_of rfl (s68_0 L' _ _ ⟨ix_nI (by omega) (by decide), rfl, s66_18 a _ ?_⟩)))⟩⟩
      rw [nI_1, nI_clamp (by omega)]
      have e1 : cm_I h' (a + 2) i + cm_sum (fun c => cm_I h' (ca c + 1) i) n = cm_I h (a + 2) i + cm_sum (fun c => cm_I h (ca c + 1) i) n := by
        rw [X.2 _ _ (fun q => by omega)]
        congr 1
        exact cm_sum_congr fun c hc => X.2 _ _ (fun q => by have := S.2.1 c hc; omega)
      rw [e1, un i (Nat.le_refl _)]
      refine ih (i + 1) _ (by omega) (X.set ⟨rfl, by omega⟩) (fun s hs => ?_) (fun s hs => ?_)
      · rcases Nat.lt_or_ge s i with z | z
        · rw [sI_o (Or.inr (by omega))]; exact an s z
        · obtain rfl : s = i := by omega
          exact sI_s
      · rw [sI_o (Or.inr (by omega))]; exact un s (by omega)
  exact gen 8 0 h (by omega) XI.refl (fun s hs => absurd hs (by omega)) (fun s _ => rfl)
/-! the reference's -/
def P_mg (f n : Nat) (x k : Nat) : Prop := (x = 48 ∧ 8 * f ≤ k ∧ k < 8 * f + 8) ∨ ((x = 46 ∨ x = 47) ∧ 80 * f ≤ k ∧ k < 80 * f + 8 * n) ∨ (x = 71 ∧ k % 6 = 3 ∧ k < 48) ∨ (x = 43 ∧ 10 * f ≤ k ∧ k < 10 * f + n) ∨ ((x = 53 ∨ x = 54) ∧ k = f)
def MG (h h' : cmH) (f n : Nat) : Prop := XI h h' (P_mg f n) ∧ (∀ s, s < 8 → cm_I h' 71 (6 * s + 3) = cm_I h 71 (6 * s + 3) + (cm_I h 48 (8 * f + s) + cm_sum (fun c => cm_I h 46 (8 * (10 * f + c) + s)) n) ∧ cm_I h' 48 (8 * f + s) = 0) ∧ (∀ c, c < n → (∀ s, s < 8 → cm_I h' 46 (8 * (10 * f + c) + s) = 0 ∧ cm_I h' 47 (8 * (10 * f + c) + s) = 0) ∧ cm_I h' 43 (10 * f + c) = cm_I h 44 (10 * f + c)) ∧ cm_I h' 53 f = 0 ∧ cm_I h' 54 f = 0
theorem m_change {f n : Nat} (L : LY h) (hf : f < 9) (hn : cm_I h 42 f = nI n) (h10 : n ≤ 10) (k : ∀ h', MG h h' f n → KV h') : cm_cv sc d 188 [.ref 38, .int (nI f)] h KV := by
  refine cv_of rfl (s188_0 _ _ _ _ _ ?_)
  -- the pores
  have pores : ∀ (m i : Nat) (h' : cmH) (u1 u2 u3 : Option Value), i + m = n → XI h h' (P_mg f n) → (∀ s, s < 8 → cm_I h' 71 (6 * s + 3) = cm_I h 71 (6 * s + 3) + (cm_I h 48 (8 * f + s) + cm_sum (fun c => cm_I h 46 (8 * (10 * f + c) + s)) n) ∧ cm_I h' 48 (8 * f + s) = 0) → (∀ c s, c < n → s < 8 → cm_I h' 46 (8 * (10 * f + c) + s) = 0 ∧ cm_I h' 47 (8 * (10 * f + c) + s) = 0) → (∀ c, c < i → cm_I h' 43 (10 * f + c) = cm_I h 44 (10 * f + c)) → cm_wp sc d 188 115 [some (.ref 38), some (.int (nI f)), some (.int (nI i)), u1, u2, u3] [] h' (fun v h' => v = none ∧ KV h') := by
    intro m
    induction m with
    | zero =>
      intro i h' u1 u2 u3 hi X v1 v2 v3
      obtain rfl : i = n := by omega
      refine s188_115 (X.ly L) _ _ _ _ _ ⟨ix_nI hf (by decide), fun _ => ⟨rfl, k _ ⟨?_, ?_, ?_, ?_, ?_⟩⟩, fun w => absurd ?_ w⟩
      · rw [nI_clamp (by omega)]
        exact (X.set (Or.inr (Or.inr (Or.inr (Or.inr ⟨Or.inl rfl, rfl⟩))))).set (Or.inr (Or.inr (Or.inr (Or.inr ⟨Or.inr rfl, rfl⟩))))
      · intro s hs
        rw [sI_o (Or.inl (by decide)), sI_o (Or.inl (by decide)), sI_o (Or.inl (by decide)), sI_o (Or.inl (by decide))]
        exact v1 s hs
      · intro c hc
        refine ⟨fun s hs => ?_, ?_⟩
        · rw [sI_o (Or.inl (by decide)), sI_o (Or.inl (by decide)), sI_o (Or.inl (by decide)), sI_o (Or.inl (by decide))]
          exact v2 c s hc hs
        · rw [sI_o (Or.inl (by decide)), sI_o (Or.inl (by decide))]
          exact v3 c hc
      · rw [nI_clamp (by omega), sI_o (Or.inl (by decide)), sI_s]
      · rw [nI_clamp (by omega), sI_s]
      · rw [nI_clamp (by omega), X.2 42 f (by unfold P_mg; omega), hn]; exact Int32.le_refl _
    | succ m ih =>
      intro i h' u1 u2 u3 hi X v1 v2 v3
      refine s188_115 (X.ly L) _ _ _ _ _ ⟨ix_nI hf (by decide), fun w => absurd w ?_, fun _ => ?_⟩
      · rw [nI_clamp (by omega), X.2 42 f (by unfold P_mg; omega), hn]; exact nI_ge (by omega) (by omega)
      rw [e10, nI_clamp (by omega), nI_1, X.2 44 _ (by unfold P_mg; omega)]
      refine ⟨ix_nI (by omega) (by decide), ih (i + 1) _ _ _ _ (by omega) (X.set (Or.inr (Or.inr (Or.inr (Or.inl ⟨rfl, by omega, by omega⟩))))) (fun s hs => ?_) (fun c s hc hs => ?_) (fun c hc => ?_)⟩
      · rw [sI_o (Or.inl (by decide)), sI_o (Or.inl (by decide))]; exact v1 s hs
      · rw [sI_o (Or.inl (by decide)), sI_o (Or.inl (by decide))]; exact v2 c s hc hs
      · rcases Nat.lt_or_ge c i with z | z
        · rw [sI_o (Or.inr (by omega))]; exact v3 c z
        · obtain rfl : c = i := by omega
          exact sI_s
  -- the sizes
  have sizes : ∀ (m i : Nat) (h' : cmH) (u1 u2 u3 : Option Value), i + m = 8 → XI h h' (P_mg f n) → (∀ s, s < i → cm_I h' 71 (6 * s + 3) = cm_I h 71 (6 * s + 3) + (cm_I h 48 (8 * f + s) + cm_sum (fun c => cm_I h 46 (8 * (10 * f + c) + s)) n) ∧ cm_I h' 48 (8 * f + s) = 0) → (∀ c s, c < n → s < i → cm_I h' 46 (8 * (10 * f + c) + s) = 0 ∧ cm_I h' 47 (8 * (10 * f + c) + s) = 0) → (∀ s, i ≤ s → s < 8 → cm_I h' 71 (6 * s + 3) = cm_I h 71 (6 * s + 3) ∧ cm_I h' 48 (8 * f + s) = cm_I h 48 (8 * f + s) ∧ ∀ c, c < n → cm_I h' 46 (8 * (10 * f + c) + s) = cm_I h 46 (8 * (10 * f + c) + s)) → cm_wp sc d 188 2 [some (.ref 38), some (.int (nI f)), some (.int (nI i)), u1, u2, u3] [] h' (fun v h' => v = none ∧ KV h') := by
    intro m
    induction m with
    | zero =>
      intro i h' u1 u2 u3 hi X v1 v2 un
      obtain rfl : i = 8 := by omega
      exact s188_2 (X.ly L) _ _ _ _ _ ⟨fun _ => pores n 0 h' _ _ _ (by omega) X v1 v2 (fun c hc => absurd hc (by omega)), fun w => absurd (Int32.le_refl _) w⟩
    | succ m ih =>
      intro i h' u1 u2 u3 hi X v1 v2 un
      refine s188_2 (X.ly L) _ _ _ _ _ ⟨fun w => absurd w (nI_ge (b := 8) (by omega) (by decide)), fun _ => ?_⟩
      rw [e8, nI_clamp (by omega)]
      refine ⟨ix_nI (by omega) (by decide), ?_⟩
      have inner : ∀ (m2 j : Nat) (h' : cmH) (u : Option Value), j + m2 = n → XI h h' (P_mg f n) → (∀ s, s < i → cm_I h' 71 (6 * s + 3) = cm_I h 71 (6 * s + 3) + (cm_I h 48 (8 * f + s) + cm_sum (fun c => cm_I h 46 (8 * (10 * f + c) + s)) n) ∧ cm_I h' 48 (8 * f + s) = 0) → (∀ c s, c < n → s < i → cm_I h' 46 (8 * (10 * f + c) + s) = 0 ∧ cm_I h' 47 (8 * (10 * f + c) + s) = 0) → cm_I h' 48 (8 * f + i) = 0 → (∀ c, c < j → cm_I h' 46 (8 * (10 * f + c) + i) = 0 ∧ cm_I h' 47 (8 * (10 * f + c) + i) = 0) → (∀ c, j ≤ c → c < n → cm_I h' 46 (8 * (10 * f + c) + i) = cm_I h 46 (8 * (10 * f + c) + i)) → cm_I h' 71 (6 * i + 3) = cm_I h 71 (6 * i + 3) → (∀ s, i + 1 ≤ s → s < 8 → cm_I h' 71 (6 * s + 3) = cm_I h 71 (6 * s + 3) ∧ cm_I h' 48 (8 * f + s) = cm_I h 48 (8 * f + s) ∧ ∀ c, c < n → cm_I h' 46 (8 * (10 * f + c) + s) = cm_I h 46 (8 * (10 * f + c) + s)) → cm_wp sc d 188 35 [some (.ref 38), some (.int (nI f)), some (.int (nI i)), some (.int (cm_I h 48 (8 * f + i) + cm_sum (fun c => cm_I h 46 (8 * (10 * f + c) + i)) j)), some (.int (nI j)), u] [] h' (fun v h' => v = none ∧ KV h') := by
        intro m2
        induction m2 with
        | zero =>
          intro j h' u hj X v1 v2 w1 w2 w3 w4 un
          obtain rfl : j = n := by omega
          refine s188_35 (X.ly L) _ _ _ _ _ ⟨ix_nI hf (by decide), fun _ => ?_, fun w => absurd ?_ w⟩
          · rw [show (3 : Int32) = nI 3 from rfl, e6, nI_clamp (by omega), nI_1, w4]
            refine ⟨ix_nI (by omega) (by decide), ih (i + 1) _ _ _ _ (by omega) (X.set (Or.inr (Or.inr (Or.inl ⟨rfl, by omega, by omega⟩)))) (fun s hs => ?_) (fun c s hc hs => ?_) (fun s h1 h2 => ?_)⟩
            · rcases Nat.lt_or_ge s i with z | z
              · rw [sI_o (Or.inr (by omega)), sI_o (Or.inl (by decide))]; exact v1 s z
              · obtain rfl : s = i := by omega
                rw [sI_s, sI_o (Or.inl (by decide))]; exact ⟨rfl, w1⟩
            · rw [sI_o (Or.inl (by decide)), sI_o (Or.inl (by decide))]
              rcases Nat.lt_or_ge s i with z | z
              · exact v2 c s hc z
              · obtain rfl : s = i := by omega
                exact w2 c hc
            · rw [sI_o (Or.inr (by omega)), sI_o (Or.inl (by decide))]
              refine ⟨(un s h1 h2).1, (un s h1 h2).2.1, fun c hc => ?_⟩
              rw [sI_o (Or.inl (by decide))]; exact (un s h1 h2).2.2 c hc
          · rw [nI_clamp (by omega), X.2 42 f (by unfold P_mg; omega), hn]; exact Int32.le_refl _
        | succ m2 ih2 =>
          intro j h' u hj X v1 v2 w1 w2 w3 w4 un
          refine s188_35 (X.ly L) _ _ _ _ _ ⟨ix_nI hf (by decide), fun w => absurd w ?_, fun _ => ?_⟩
          · rw [nI_clamp (by omega), X.2 42 f (by unfold P_mg; omega), hn]; exact nI_ge (by omega) (by omega)
          rw [e80, nI_clamp (by omega), nI_1, w3 j (Nat.le_refl _) (by omega), Int32.add_assoc]
          refine ⟨ix_nI (by omega) (by decide), ih2 (j + 1) _ _ (by omega) ((X.set (Or.inr (Or.inl ⟨Or.inl rfl, by omega, by omega⟩))).set (Or.inr (Or.inl ⟨Or.inr rfl, by omega, by omega⟩))) (fun s hs => ?_) (fun c s hc hs => ?_) ?_ (fun c hc => ?_) (fun c h1 h2 => ?_) ?_ (fun s h1 h2 => ?_)⟩
          · rw [sI_o (Or.inl (by decide)), sI_o (Or.inl (by decide)), sI_o (Or.inl (by decide)), sI_o (Or.inl (by decide))]; exact v1 s hs
          · rw [sI_o (Or.inl (by decide)), sI_o (Or.inr (by omega)), sI_o (Or.inr (by omega)), sI_o (Or.inl (by decide))]; exact v2 c s hc hs
          · rw [sI_o (Or.inl (by decide)), sI_o (Or.inl (by decide))]; exact w1
          · rcases Nat.lt_or_ge c j with z | z
            · rw [sI_o (Or.inl (by decide)), sI_o (Or.inr (by omega)), sI_o (Or.inr (by omega)), sI_o (Or.inl (by decide))]; exact w2 c z
            · obtain rfl : c = j := by omega
              rw [sI_o (Or.inl (by decide)), sI_s, sI_s]; exact ⟨rfl, rfl⟩
          · rw [sI_o (Or.inl (by decide)), sI_o (Or.inr (by omega))]; exact w3 c (by omega) h2
          · rw [sI_o (Or.inl (by decide)), sI_o (Or.inl (by decide))]; exact w4
          · rw [sI_o (Or.inl (by decide)), sI_o (Or.inl (by decide)), sI_o (Or.inl (by decide)), sI_o (Or.inl (by decide))]
            refine ⟨(un s h1 h2).1, (un s h1 h2).2.1, fun c hc => ?_⟩
            rw [sI_o (Or.inl (by decide)), sI_o (Or.inr (by omega))]; exact (un s h1 h2).2.2 c hc
      have := inner n 0 (cm_setI h' 48 (8 * f + i) 0) u3 (by omega) (X.set (Or.inl ⟨rfl, by omega, by omega⟩)) (fun s hs => ?_) (fun c s hc hs => ?_) sI_s (fun c hc => absurd hc (by omega)) (fun c _ hc => ?_) ?_ (fun s h1 h2 => ?_)
      · rw [show cm_sum (fun c => cm_I h 46 (8 * (10 * f + c) + i)) 0 = 0 from rfl, Int32.add_zero, ← (un i (Nat.le_refl _) (by omega)).2.1] at this
        exact this
      · rw [sI_o (Or.inl (by decide)), sI_o (Or.inr (by omega))]; exact v1 s hs
      · rw [sI_o (Or.inl (by decide)), sI_o (Or.inl (by decide))]; exact v2 c s hc hs
      · rw [sI_o (Or.inl (by decide))]; exact (un i (Nat.le_refl _) (by omega)).2.2 c hc
      · rw [sI_o (Or.inl (by decide))]; exact (un i (Nat.le_refl _) (by omega)).1
      · rw [sI_o (Or.inl (by decide)), sI_o (Or.inr (by omega))]
        refine ⟨(un s (by omega) h2).1, (un s (by omega) h2).2.1, fun c hc => ?_⟩
        rw [sI_o (Or.inl (by decide))]; exact (un s (by omega) h2).2.2 c hc
  exact sizes 8 0 h _ _ _ (by omega) XI.refl (fun s hs => absurd hs (by omega)) (fun c s _ hs => absurd hs (by omega)) (fun s _ _ => ⟨rfl, rfl, fun c _ => rfl⟩)
end CHANGE
