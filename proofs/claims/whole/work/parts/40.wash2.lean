/-! ===== washing, of the reference ===== -/
section WASH2
variable {sc : cmS} {d : Nat} {h : cmH} {KV : cmH → Prop}
def m_go (I : Nat → Nat → Int32) (f c : Nat) (u : Int32) (s : Nat) : Int32 := q_go (I 46 (8 * (10 * f + c) + s) - I 47 (8 * (10 * f + c) + s)) (I 41 s) (I 40 s) u
def m_st (I : Nat → Nat → Int32) (f c s : Nat) : Int32 := q_stay (I 46 (8 * (10 * f + c) + s) - I 47 (8 * (10 * f + c) + s)) (I 41 s)
def P_mw (f n : Nat) (x k : Nat) : Prop := (x = 48 ∧ 8 * f ≤ k ∧ k < 8 * f + 8) ∨ ((x = 46 ∨ x = 47) ∧ 80 * f ≤ k ∧ k < 80 * f + 8 * n) ∨ (x = 71 ∧ k % 6 = 2 ∧ k < 48) ∨ (x = 43 ∧ 10 * f ≤ k ∧ k < 10 * f + n) ∨ ((x = 53 ∨ x = 54) ∧ k = f)
/-- cells and cake of the sizes below i are washed; of size i the cake and the first j cells -/
def MWs (h h' : cmH) (f n : Nat) (u : Int32) (i j : Nat) : Prop := XI h h' (P_mw f n) ∧ (∀ s, s < 8 → cm_I h' 71 (6 * s + 2) = (if s < i then cm_I h 71 (6 * s + 2) + (cm_I h 48 (8 * f + s) + cm_sum (fun c => m_go (cm_I h) f c u s) n) else cm_I h 71 (6 * s + 2))) ∧ (∀ c s, c < n → s < 8 → cm_I h' 46 (8 * (10 * f + c) + s) = (if s < i ∨ (s = i ∧ c < j) then cm_I h 46 (8 * (10 * f + c) + s) - m_go (cm_I h) f c u s else cm_I h 46 (8 * (10 * f + c) + s)) ∧ cm_I h' 47 (8 * (10 * f + c) + s) = (if s < i ∨ (s = i ∧ c < j) then cm_I h 47 (8 * (10 * f + c) + s) + m_st (cm_I h) f c s else cm_I h 47 (8 * (10 * f + c) + s)))
def MW (h h' : cmH) (f n : Nat) (u : Int32) : Prop := XI h h' (P_mw f n) ∧ (∀ s, s < 8 → cm_I h' 71 (6 * s + 2) = cm_I h 71 (6 * s + 2) + (cm_I h 48 (8 * f + s) + cm_sum (fun c => m_go (cm_I h) f c u s) n) ∧ cm_I h' 48 (8 * f + s) = 0) ∧ (∀ c, c < n → (∀ s, s < 8 → cm_I h' 46 (8 * (10 * f + c) + s) = cm_I h 46 (8 * (10 * f + c) + s) - m_go (cm_I h) f c u s ∧ cm_I h' 47 (8 * (10 * f + c) + s) = cm_I h 47 (8 * (10 * f + c) + s) + m_st (cm_I h) f c s) ∧ cm_I h' 43 (10 * f + c) = q_pore (cm_I h 43 (10 * f + c)) u (cm_I h 50 f)) ∧ cm_I h' 53 f = 0 ∧ cm_I h' 54 f = cm_I h 54 f + 1
theorem m_washOne {f n : Nat} {u : Int32} (L : LY h) (hf : f < 8) (hn : cm_I h 42 f = nI n) (h10 : n ≤ 10) (hu : cm_I h 74 f = u) (hst : ∀ s, s < 8 → 0 ≤ cm_I h 41 s ∧ cm_I h 41 s ≤ 1000) (k : ∀ h', MW h h' f n u → KV h') : cm_cv sc (d + 1) 189 [.ref 38, .int (nI f)] h KV := by
  refine cv_of rfl (s189_0 _ _ _ _ _ _ _ _ _ ?_)
  have ix9 : IX 9 (nI f) := ix_nI (by omega) (by decide)
  have ix8 : IX 8 (nI f) := ix_nI (by omega) (by decide)
  -- the pores
  have pores : ∀ (m i : Nat) (h' : cmH) (u1 u2 u3 u4 u5 u6 u7 : Option Value), i + m = n → MWs h h' f n u 8 0 → (∀ s, s < 8 → cm_I h' 48 (8 * f + s) = 0) → (∀ c, c < i → cm_I h' 43 (10 * f + c) = q_pore (cm_I h 43 (10 * f + c)) u (cm_I h 50 f)) → (∀ c, i ≤ c → c < n → cm_I h' 43 (10 * f + c) = cm_I h 43 (10 * f + c)) → cm_I h' 54 f = cm_I h 54 f → cm_wp sc (d + 1) 189 186 [some (.ref 38), some (.int (nI f)), some (.int (nI i)), u1, u2, u3, u4, u5, u6, u7] [] h' (fun v h' => v = none ∧ KV h') := by
    intro m
    have fin : ∀ (i : Nat) (h' : cmH) (u1 u2 u3 u4 u5 u6 u7 : Option Value), MWs h h' f n u 8 0 → (∀ s, s < 8 → cm_I h' 48 (8 * f + s) = 0) → (∀ c, c < n → cm_I h' 43 (10 * f + c) = q_pore (cm_I h 43 (10 * f + c)) u (cm_I h 50 f)) → cm_I h' 54 f = cm_I h 54 f → cm_wp sc (d + 1) 189 246 [some (.ref 38), some (.int (nI f)), some (.int (nI i)), u1, u2, u3, u4, u5, u6, u7] [] h' (fun v h' => v = none ∧ KV h') := by
      intro i h' u1 u2 u3 u4 u5 u6 u7 X v1 v2 e54
      refine s189_246 (X.1.ly L) _ _ _ _ _ _ _ _ _ ⟨ix9, rfl, k _ ⟨?_, fun s hs => ?_, fun c hc => ⟨fun s hs => ?_, ?_⟩, ?_, ?_⟩⟩
      · rw [nI_clamp (by omega)]
        exact (X.1.set (Or.inr (Or.inr (Or.inr (Or.inr ⟨Or.inl rfl, rfl⟩))))).set (Or.inr (Or.inr (Or.inr (Or.inr ⟨Or.inr rfl, rfl⟩))))
      · rw [sI_o (Or.inl (by decide)), sI_o (Or.inl (by decide)), sI_o (Or.inl (by decide)), sI_o (Or.inl (by decide))]
        refine ⟨?_, v1 s hs⟩
        rw [X.2.1 s hs, if_pos hs]
      · rw [sI_o (Or.inl (by decide)), sI_o (Or.inl (by decide)), sI_o (Or.inl (by decide)), sI_o (Or.inl (by decide))]
        have := X.2.2 c s hc hs
        rw [if_pos (Or.inl hs), if_pos (Or.inl hs)] at this
        exact this
      · rw [sI_o (Or.inl (by decide)), sI_o (Or.inl (by decide))]; exact v2 c hc
      · rw [nI_clamp (by omega), sI_o (Or.inl (by decide)), sI_s]
      · rw [nI_clamp (by omega), sI_s, e54]
    induction m with
    | zero =>
      intro i h' u1 u2 u3 u4 u5 u6 u7 hi X v1 v2 v3 e54
      obtain rfl : i = n := by omega
      refine s189_186 (X.1.ly L) _ _ _ _ _ _ _ _ _ ⟨ix9, fun _ => fin _ _ _ _ _ _ _ _ _ X v1 v2 e54, fun w => absurd ?_ w⟩
      rw [nI_clamp (by omega), X.1.2 42 f (by unfold P_mw; omega), hn]; exact Int32.le_refl _
    | succ m ih =>
      intro i h' u1 u2 u3 u4 u5 u6 u7 hi X v1 v2 v3 e54
      refine s189_186 (X.1.ly L) _ _ _ _ _ _ _ _ _ ⟨ix9, fun w => absurd w ?_, fun _ => ⟨ix8, ?_⟩⟩
      · rw [nI_clamp (by omega), X.1.2 42 f (by unfold P_mw; omega), hn]; exact nI_ge (by omega) (by omega)
      rw [nI_clamp (by omega), X.1.2 74 f (by unfold P_mw; omega), X.1.2 50 f (by unfold P_mw; omega), hu]
      refine ⟨fun q => fin _ _ _ _ _ _ _ _ _ X v1 (fun c hc => ?_) e54, fun q => ?_⟩
      · rcases Nat.lt_or_ge c i with z | z
        · exact v2 c z
        · rw [v3 c z hc]; unfold q_pore; rw [if_pos q]
      · rw [e10, nI_clamp (by omega), nI_1, v3 i (Nat.le_refl _) (by omega)]
        refine ⟨ix_nI (by omega) (by decide), ih (i + 1) _ _ _ _ _ _ _ _ (by omega) ⟨X.1.set (Or.inr (Or.inr (Or.inr (Or.inl ⟨rfl, by omega, by omega⟩)))), fun s hs => ?_, fun c s hc hs => ?_⟩ (fun s hs => ?_) (fun c hc => ?_) (fun c h1 h2 => ?_) ?_⟩
        · rw [sI_o (Or.inl (by decide))]; exact X.2.1 s hs
        · rw [sI_o (Or.inl (by decide)), sI_o (Or.inl (by decide))]; exact X.2.2 c s hc hs
        · rw [sI_o (Or.inl (by decide))]; exact v1 s hs
        · rcases Nat.lt_or_ge c i with z | z
          · rw [sI_o (Or.inr (by omega))]; exact v2 c z
          · obtain rfl : c = i := by omega
            rw [sI_s]; unfold q_pore; rw [if_neg q]
        · rw [sI_o (Or.inr (by omega))]; exact v3 c (by omega) h2
        · rw [sI_o (Or.inl (by decide))]; exact e54
  -- the sizes
  have sizes : ∀ (m i : Nat) (h' : cmH) (u1 u2 u3 u4 u5 u6 u7 : Option Value), i + m = 8 → MWs h h' f n u i 0 → (∀ s, s < i → cm_I h' 48 (8 * f + s) = 0) → (∀ s, i ≤ s → s < 8 → cm_I h' 48 (8 * f + s) = cm_I h 48 (8 * f + s)) → (∀ c, c < n → cm_I h' 43 (10 * f + c) = cm_I h 43 (10 * f + c)) → cm_I h' 54 f = cm_I h 54 f → cm_wp sc (d + 1) 189 2 [some (.ref 38), some (.int (nI f)), some (.int (nI i)), u1, u2, u3, u4, u5, u6, u7] [] h' (fun v h' => v = none ∧ KV h') := by
    intro m
    induction m with
    | zero =>
      intro i h' u1 u2 u3 u4 u5 u6 u7 hi X v1 v2 v3 e54
      obtain rfl : i = 8 := by omega
      exact s189_2 (X.1.ly L) _ _ _ _ _ _ _ _ _ ⟨fun _ => pores n 0 h' _ _ _ _ _ _ _ (by omega) X v1 (fun c hc => absurd hc (by omega)) (fun c _ hc => v3 c hc) e54, fun w => absurd (Int32.le_refl _) w⟩
    | succ m ih =>
      intro i h' u1 u2 u3 u4 u5 u6 u7 hi X v1 v2 v3 e54
      refine s189_2 (X.1.ly L) _ _ _ _ _ _ _ _ _ ⟨fun w => absurd w (nI_ge (b := 8) (by omega) (by decide)), fun _ => ?_⟩
      rw [e8, nI_clamp (by omega)]
      refine ⟨ix_nI (by omega) (by decide), ?_⟩
      have inner : ∀ (m2 j : Nat) (h' : cmH) (u3 u4 u5 u6 u7 : Option Value), j + m2 = n → MWs h h' f n u i j → (∀ s, s < i + 1 → cm_I h' 48 (8 * f + s) = 0) → (∀ s, i + 1 ≤ s → s < 8 → cm_I h' 48 (8 * f + s) = cm_I h 48 (8 * f + s)) → (∀ c, c < n → cm_I h' 43 (10 * f + c) = cm_I h 43 (10 * f + c)) → cm_I h' 54 f = cm_I h 54 f → cm_wp sc (d + 1) 189 35 [some (.ref 38), some (.int (nI f)), some (.int (nI i)), some (.int (cm_I h 48 (8 * f + i) + cm_sum (fun c => m_go (cm_I h) f c u i) j)), some (.int (nI j)), u3, u4, u5, u6, u7] [] h' (fun v h' => v = none ∧ KV h') := by
        intro m2
        induction m2 with
        | zero =>
          intro j h' u3 u4 u5 u6 u7 hj X v1 v2 v3 e54
          obtain rfl : j = n := by omega
          refine s189_35 (X.1.ly L) _ _ _ _ _ _ _ _ _ ⟨ix9, fun _ => ?_, fun w => absurd ?_ w⟩
          · have e71 := X.2.1 i (by omega)
            rw [if_neg (by omega)] at e71
            rw [show (2 : Int32) = nI 2 from rfl, e6, nI_clamp (by omega), nI_1, e71]
            refine ⟨ix_nI (by omega) (by decide), ih (i + 1) _ _ _ _ _ _ _ _ (by omega) ⟨X.1.set (Or.inr (Or.inr (Or.inl ⟨rfl, by omega, by omega⟩))), fun s hs => ?_, fun c s hc hs => ?_⟩ (fun s hs => ?_) (fun s h1 h2 => ?_) (fun c hc => ?_) ?_⟩
            · by_cases z : s = i
              · subst z; rw [sI_s, if_pos (by omega)]
              · rw [sI_o (Or.inr (by omega)), X.2.1 s hs]
                by_cases y : s < i
                · rw [if_pos y, if_pos (by omega)]
                · rw [if_neg y, if_neg (by omega)]
            · rw [sI_o (Or.inl (by decide)), sI_o (Or.inl (by decide)), (X.2.2 c s hc hs).1, (X.2.2 c s hc hs).2]
              by_cases y : s < i + 1
              · rw [if_pos (show s < i ∨ s = i ∧ c < j by omega), if_pos (show s < i ∨ s = i ∧ c < j by omega), if_pos (Or.inl y), if_pos (Or.inl y)]; exact ⟨rfl, rfl⟩
              · rw [if_neg (show ¬ (s < i ∨ s = i ∧ c < j) by omega), if_neg (show ¬ (s < i ∨ s = i ∧ c < j) by omega), if_neg (by omega), if_neg (by omega)]; exact ⟨rfl, rfl⟩
            · rw [sI_o (Or.inl (by decide))]; exact v1 s hs
            · rw [sI_o (Or.inl (by decide))]; exact v2 s h1 h2
            · rw [sI_o (Or.inl (by decide))]; exact v3 c hc
            · rw [sI_o (Or.inl (by decide))]; exact e54
          · rw [nI_clamp (by omega), X.1.2 42 f (by unfold P_mw; omega), hn]; exact Int32.le_refl _
        | succ m2 ih2 =>
          intro j h' u3 u4 u5 u6 u7 hj X v1 v2 v3 e54
          refine s189_35 (X.1.ly L) _ _ _ _ _ _ _ _ _ ⟨ix9, fun w => absurd w ?_, fun _ => ?_⟩
          · rw [nI_clamp (by omega), X.1.2 42 f (by unfold P_mw; omega), hn]; exact nI_ge (by omega) (by omega)
          obtain ⟨a46, a47⟩ := X.2.2 j i (by omega) (by omega)
          rw [if_neg (by omega)] at a46 a47
          have eS := q_stay_l (l := cm_I h 46 (8 * (10 * f + j) + i) - cm_I h 47 (8 * (10 * f + j) + i)) (hst i (by omega)).1 (hst i (by omega)).2
          unfold q_stay at eS
          rw [e80, nI_clamp (n := 8 * (10 * f + j) + i) (by omega), nI_clamp (n := i) (by omega), nI_clamp (n := f) (by omega), X.1.2 74 f (by unfold P_mw; omega), X.1.2 41 i (by unfold P_mw; omega), X.1.2 40 i (by unfold P_mw; omega), a46, a47, hu, eS, nI_1, Int32.add_assoc]
          refine ⟨ix_nI (by omega) (by decide), ix_nI (by omega) (by decide), ix8, ih2 (j + 1) _ _ _ _ _ _ (by omega) ⟨(X.1.set (Or.inr (Or.inl ⟨Or.inr rfl, by omega, by omega⟩))).set (Or.inr (Or.inl ⟨Or.inl rfl, by omega, by omega⟩)), fun s hs => ?_, fun c s hc hs => ?_⟩ (fun s hs => ?_) (fun s h1 h2 => ?_) (fun c hc => ?_) ?_⟩
          · rw [sI_o (Or.inl (by decide)), sI_o (Or.inl (by decide))]; exact X.2.1 s hs
          · by_cases z : c = j ∧ s = i
            · obtain ⟨rfl, rfl⟩ := z
              rw [sI_s, sI_o (Or.inl (by decide)), sI_s, if_pos (by omega), if_pos (by omega)]
              exact ⟨rfl, rfl⟩
            · rw [sI_o (Or.inr (by omega)), sI_o (Or.inl (by decide)), sI_o (Or.inl (by decide)), sI_o (Or.inr (by omega)), (X.2.2 c s hc hs).1, (X.2.2 c s hc hs).2]
              by_cases y : s < i ∨ s = i ∧ c < j
              · rw [if_pos y, if_pos y, if_pos (by omega), if_pos (by omega)]; exact ⟨rfl, rfl⟩
              · rw [if_neg y, if_neg y, if_neg (by omega), if_neg (by omega)]; exact ⟨rfl, rfl⟩
          · rw [sI_o (Or.inl (by decide)), sI_o (Or.inl (by decide))]; exact v1 s hs
          · rw [sI_o (Or.inl (by decide)), sI_o (Or.inl (by decide))]; exact v2 s h1 h2
          · rw [sI_o (Or.inl (by decide)), sI_o (Or.inl (by decide))]; exact v3 c hc
          · rw [sI_o (Or.inl (by decide)), sI_o (Or.inl (by decide))]; exact e54
      have := inner n 0 (cm_setI h' 48 (8 * f + i) 0) u3 u4 u5 u6 u7 (by omega) ⟨X.1.set (Or.inl ⟨rfl, by omega, by omega⟩), fun s hs => ?_, fun c s hc hs => ?_⟩ (fun s hs => ?_) (fun s h1 h2 => ?_) (fun c hc => ?_) ?_
      · rw [show cm_sum (fun c => m_go (cm_I h) f c u i) 0 = 0 from rfl, Int32.add_zero, ← v2 i (Nat.le_refl _) (by omega)] at this
        exact this
      · rw [sI_o (Or.inl (by decide))]; exact X.2.1 s hs
      · rw [sI_o (Or.inl (by decide)), sI_o (Or.inl (by decide))]; exact X.2.2 c s hc hs
      · by_cases z : s = i
        · subst z; exact sI_s
        · rw [sI_o (Or.inr (by omega))]; exact v1 s (by omega)
      · rw [sI_o (Or.inr (by omega))]; exact v2 s (by omega) h2
      · rw [sI_o (Or.inl (by decide))]; exact v3 c hc
      · rw [sI_o (Or.inl (by decide))]; exact e54
  refine sizes 8 0 h _ _ _ _ _ _ _ (by omega) ⟨XI.refl, fun s _ => by rw [if_neg (by omega)], fun c s _ _ => by rw [if_neg (by omega), if_neg (by omega)]; exact ⟨rfl, rfl⟩⟩ (fun s hs => absurd hs (by omega)) (fun s _ _ => rfl) (fun c _ => rfl) rfl
end WASH2
