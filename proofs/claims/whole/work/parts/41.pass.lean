/-! ===== grains led through a filter ===== -/
/-- the push, or none -/
def q_push (bed : Int32) (k pr q : Nat) (r : Int32) : Prop := (bed = -1 ∧ r = -1) ∨ ∃ b, b ≤ 100000 ∧ bed = nI b ∧ q_least (fun p => q_mu b k pr q p ≤ p) 100001 r
theorem q_push_uniq {bed : Int32} {k pr q : Nat} {r r' : Int32} (h1 : q_push bed k pr q r) (h2 : q_push bed k pr q r') : r = r' := by
  rcases h1 with ⟨e, rfl⟩ | ⟨b, hb, e, l⟩ <;> rcases h2 with ⟨e', rfl⟩ | ⟨b', hb', e', l'⟩
  · rfl
  · exact absurd (e'.symm.trans e) (m1_ne (by omega))
  · exact absurd (e.symm.trans e') (m1_ne (by omega))
  · have := nI_inj (a := b) (b := b') (by omega) (by omega) (e.symm.trans e')
    subst this
    exact q_least_uniq (fun n _ => Iff.rfl) l l'
/-- the part of a size that a cell of this width holds, in thousandths -/
def q_pt (W s st : Nat) : Nat := if s < W then st / (W - s) else 1000
def q_kp (W s st l : Nat) : Nat := l * q_pt W s st / 1000
/-- what is left behind c cells -/
def q_lf (W : Nat → Nat) (s st l : Nat) : Nat → Nat
  | 0 => l
  | c + 1 => q_lf W s st l c - q_kp (W c) s st (q_lf W s st l c)
theorem q_pt_le {W s st : Nat} (h : st ≤ 1000) : q_pt W s st ≤ 1000 := by
  unfold q_pt
  split
  · exact Nat.le_trans (Nat.div_le_self _ _) h
  · exact Nat.le_refl _
theorem q_kp_le {W s st l : Nat} (h : st ≤ 1000) : q_kp W s st l ≤ l := by
  unfold q_kp
  have := Nat.mul_le_mul_left l (q_pt_le (W := W) (s := s) h)
  exact Nat.le_trans (Nat.div_le_div_right this) (by rw [Nat.mul_div_cancel _ (by decide)]; exact Nat.le_refl _)
theorem q_lf_le {W : Nat → Nat} {s st l : Nat} : ∀ c, q_lf W s st l c ≤ l
  | 0 => Nat.le_refl _
  | c + 1 => by
    have := q_lf_le (W := W) (s := s) (st := st) (l := l) c
    unfold q_lf
    omega
theorem q_lf_0 {W : Nat → Nat} {s st : Nat} : ∀ c, q_lf W s st 0 c = 0 := fun c => Nat.le_zero.mp (q_lf_le c)
theorem q_kp_0 {W s st : Nat} : q_kp W s st 0 = 0 := by unfold q_kp; rw [Nat.zero_mul, Nat.zero_div]
section PASS
variable {sc : cmS} {d : Nat} {h : cmH} {K : Int32 → cmH → Prop} {KV : cmH → Prop}
theorem c_push' {a n q k pr : Nat} {ca : Nat → Nat} (G : FC h a n ca) (hq : q ≤ 1000) (hpr : cm_I h a 4 = nI pr) (p1 : 1 ≤ pr) (p2 : pr ≤ 1000) (hk : cm_sum (cm_I h (a + 2)) 8 = nI k) (hk2 : k < 2 ^ 31) (y : ∀ r, q_push (c_bedv h n ca) k pr q r → K r h) : cm_ci sc (d + 4) 32 [.ref a, .int (nI q)] h K :=
  c_pushWith G hq hpr p1 p2 hk hk2 (fun e => y _ (Or.inl ⟨e, rfl⟩)) (fun b hb e r hr => y r (Or.inr ⟨b, hb, e, hr⟩))
theorem m_push' {f n q k pr : Nat} (L : LY h) (hf : f < 9) (hn : cm_I h 42 f = nI n) (hn10 : n ≤ 10) (ht : ∀ c, c < n → cm_I h 45 (10 * f + c) ≠ 0) (hq : q ≤ 1000) (hpr : cm_I h 49 f = nI pr) (p1 : 1 ≤ pr) (p2 : pr ≤ 1000) (hk : q_cake (cm_I h) f = nI k) (hk2 : k < 2 ^ 31) (y : ∀ r, q_push (q_bed (cm_I h) n f) k pr q r → K r h) : cm_ci sc (d + 4) 143 [.ref 38, .int (nI f), .int (nI q)] h K :=
  m_pushFor L hf hn hn10 ht hq hpr p1 p2 hk hk2 (fun e => y _ (Or.inl ⟨e, rfl⟩)) (fun b hb e r hr => y r (Or.inr ⟨b, hb, e, hr⟩))
/-- a cell that holds its part of a load at la: the first i sizes -/
def P_hf (b la : Nat) (x k : Nat) : Prop := (x = la ∧ k < 8) ∨ (x = b + 1 ∧ k < 8) ∨ (x = b ∧ k = 2)
def HF (h h' : cmH) (b la : Nat) (W : Nat) (st l : Nat → Nat) (i : Nat) : Prop := XI h h' (P_hf b la) ∧ (∀ s, s < 8 → cm_I h' la s = nI (if s < i then l s - q_kp W s (st s) (l s) else l s) ∧ cm_I h' (b + 1) s = if s < i then cm_I h (b + 1) s + nI (q_kp W s (st s) (l s)) else cm_I h (b + 1) s) ∧ cm_I h' b 2 = cm_I h b 2 + cm_sum (fun s => nI (q_kp W s (st s) (l s))) i
theorem c_holdFrom {b la W : Nat} {st l : Nat → Nat} (L : LY h) (E : CE h b) (hb : 88 ≤ b) (hla : 3 ≤ la) (hne : la < b ∨ b + 2 < la) (hk : cm_kd h la = 13 ∧ la < cm_n h ∧ cm_ln h la = 8) (hW : c_wd h b = nI W) (hW2 : W < 2 ^ 31) (ht : 1 ≤ cm_I h b 5) (hst : ∀ s, s < 8 → cm_I h 2 s = nI (st s) ∧ st s ≤ 1000) (hl : ∀ s, s < 8 → cm_I h la s = nI (l s) ∧ l s ≤ 10000) (k : ∀ h', HF h h' b la W st l 8 → KV h') : cm_cv sc (d + 1) 86 [.ref b, .ref la, .ref 1] h KV := by
  refine cv_of rfl (s86_0 b la _ _ _ _ _ _ ⟨E, c_width E ht (s86_4 b la _ _ _ _ _ _ _ ?_)⟩)
  rw [hW]
  have gen : ∀ (m i : Nat) (h' : cmH) (u1 u2 u3 u4 : Option Value), i + m = 8 → HF h h' b la W st l i → cm_wp sc (d + 1) 86 8 [some (.ref b), some (.ref la), some (.ref 1), some (.int (nI W)), some (.int (nI i)), u1, u2, u3, u4] [] h' (fun v h' => v = none ∧ KV h') := by
    intro m
    induction m with
    | zero =>
      intro i h' u1 u2 u3 u4 hi X
      obtain rfl : i = 8 := by omega
      exact s86_8 (X.1.ly L) b la _ _ _ _ _ _ ⟨fun _ => ⟨rfl, k h' X⟩, fun w => absurd (Int32.le_refl _) w⟩
    | succ m ih =>
      intro i h' u1 u2 u3 u4 hi X
      have L' := X.1.ly L
      have hk' : cm_kd h' la = 13 ∧ la < cm_n h' ∧ cm_ln h' la = 8 := by rw [X.1.1]; exact hk
      obtain ⟨eS, hS⟩ := hst i (by omega)
      obtain ⟨-, hL⟩ := hl i (by omega)
      have e2 : cm_I h' 2 i = nI (st i) := by rw [X.1.2 _ _ (by unfold P_hf; omega)]; exact eS
      obtain ⟨f1, f2⟩ := X.2.1 i (by omega)
      rw [if_neg (by omega)] at f1 f2
      have fin : ∀ p : Nat, p = q_pt W i (st i) → ∀ (x5 : Int32) (u2 u3 u4 : Option Value), cm_wp sc (d + 1) 86 51 [some (.ref b), some (.ref la), some (.ref 1), some (.int (nI W)), some (.int (nI i)), some (.int x5), u2, u3, u4] [.long (lN p)] h' (fun v h' => v = none ∧ KV h') := by
        rintro p rfl x5 u2 u3 u4
        have hp := q_pt_le (W := W) (s := i) hS
        have hm : l i * q_pt W i (st i) ≤ 10000 * 1000 := Nat.mul_le_mul hL hp
        have hkp := q_kp_le (W := W) (s := i) (l := l i) hS
        have e : ((((cm_I h' la i).toInt64) * lN (q_pt W i (st i))) / (1000 : Int64)).toInt32 = nI (q_kp W i (st i) (l i)) := by
          rw [f1, nI_l (by omega), lN_mul, show (1000 : Int64) = lN 1000 from rfl, lN_div (by omega) (by decide) (by decide), lN_i]
          rfl
        refine s86_51 b la _ _ _ _ _ _ _ ⟨⟨hk'.1, hk'.2.1, nI_pos (by omega), by rw [nI_clamp (by omega), hk'.2.2]; omega⟩, X.1.CE E, ix_nI (by omega) (by decide), ?_⟩
        rw [nI_clamp (by omega), e, nI_1, sI_o (h := h') (b := b + 1) (Or.inl (by omega)), sI_o (b := b) (j := 2) (Or.inl (by omega)), sI_o (h := h') (b := b) (j := 2) (Or.inl (by omega)), f1, f2, X.2.2, pk_sub hkp]
        refine ih (i + 1) _ _ _ _ _ (by omega) ⟨?_, fun s hs => ?_, ?_⟩
        · exact ((X.1.set (Or.inl ⟨rfl, by omega⟩)).set (Or.inr (Or.inl ⟨rfl, by omega⟩))).set (Or.inr (Or.inr ⟨rfl, rfl⟩))
        · by_cases z : s = i
          · subst z
            rw [sI_o (Or.inl (by omega)), sI_o (Or.inl (by omega)), sI_s, sI_o (Or.inl (by omega)), sI_s, if_pos (by omega), if_pos (by omega)]
            exact ⟨rfl, rfl⟩
          · rw [sI_o (Or.inl (by omega)), sI_o (Or.inl (by omega)), sI_o (Or.inr (by omega)), sI_o (Or.inl (by omega)), sI_o (Or.inr (by omega)), sI_o (Or.inl (by omega)), (X.2.1 s hs).1, (X.2.1 s hs).2]
            by_cases y : s < i
            · rw [if_pos y, if_pos y, if_pos (by omega), if_pos (by omega)]; exact ⟨rfl, rfl⟩
            · rw [if_neg y, if_neg y, if_neg (by omega), if_neg (by omega)]; exact ⟨rfl, rfl⟩
        · rw [sI_s, Int32.add_assoc]; rfl
      refine s86_8 L' b la _ _ _ _ _ _ ⟨fun w => absurd w (nI_ge (b := 8) (by omega) (by decide)), fun _ => ⟨⟨by rw [hk'.1]; decide, by rw [hk'.1]; decide, hk'.2.1⟩, fun w => absurd w ?_, fun _ => ⟨fun w => ⟨ix_nI (by omega) (by decide), i32_ne0 w, ?_⟩, fun w => fin 1000 ?_ _ _ _ _⟩⟩⟩
      · rw [hk'.2.2]; exact nI_ge (b := 8) (by omega) (by decide)
      · have hlt : i < W := by
          rcases Nat.lt_or_ge i W with z | z
          · exact z
          · have := Int32.le_iff_toInt_le.mp w
            rw [pk_sub_toInt (by omega) (by omega), i32_1] at this
            omega
        rw [nI_clamp (by omega), e2, pk_sub (by omega), pk_div (by omega) (by omega) (by omega), nI_l (by have := Nat.div_le_self (st i) (W - i); omega)]
        exact fin _ (by unfold q_pt; rw [if_pos hlt]) _ _ _ _
      · have hge : ¬ i < W := by
          intro z
          apply w
          rw [pk_sub (by omega)]
          exact nI_le (a := 1) (by omega) (by omega)
        unfold q_pt; rw [if_neg hge]
  exact gen 8 0 h _ _ _ _ (by omega) ⟨XI.refl, fun s hs => by rw [if_neg (by omega), if_neg (by omega)]; exact ⟨(hl s hs).1, rfl⟩, (Int32.add_zero _).symm⟩
/-! a filter lets its load pass -/
def q_in (W0 s l : Nat) : Nat := if s < W0 then l else 0
def P_ps (a n : Nat) (ca : Nat → Nat) (x k : Nat) : Prop := (x = a ∧ k = 12) ∨ (x = a + 2 ∧ k < 8) ∨ (x = a + 3 ∧ k < 8) ∨ ∃ c, c < n ∧ ((x = ca c + 1 ∧ k < 8) ∨ (x = ca c ∧ k = 2))
/-- behind the push r, the cake and the first i cells -/
def PS (h h' : cmH) (a n : Nat) (ca : Nat → Nat) (W st l : Nat → Nat) (r : Int32) (i : Nat) : Prop := XI h h' (P_ps a n ca) ∧ cm_I h' a 12 = r ∧ (∀ s, s < 8 → cm_I h' (a + 2) s = cm_I h (a + 2) s + nI (l s - q_in (W 0) s (l s)) ∧ cm_I h' (a + 3) s = nI (q_lf W s (st s) (q_in (W 0) s (l s)) i)) ∧ ∀ c, c < n → (∀ s, s < 8 → cm_I h' (ca c + 1) s = if c < i then cm_I h (ca c + 1) s + nI (q_kp (W c) s (st s) (q_lf W s (st s) (q_in (W 0) s (l s)) c)) else cm_I h (ca c + 1) s) ∧ cm_I h' (ca c) 2 = if c < i then cm_I h (ca c) 2 + cm_sum (fun s => nI (q_kp (W c) s (st s) (q_lf W s (st s) (q_in (W 0) s (l s)) c))) 8 else cm_I h (ca c) 2
theorem q_in_le {W0 s l : Nat} : q_in W0 s l ≤ l := by unfold q_in; split <;> omega
theorem P_ps3 {a n : Nat} {ca : Nat → Nat} (S : SP a n ca) : ¬ P_ps a n ca a 3 := by
  have h0 := S.1
  rintro (q | q | q | ⟨c, hc, q⟩)
  · omega
  · omega
  · omega
  · have := S.2.1 c hc; omega
theorem P_ps5 {a n : Nat} {ca : Nat → Nat} (S : SP a n ca) : ∀ c, c < n → ¬ P_ps a n ca (ca c) 5 := by
  intro c hc
  have h0 := S.1
  have h1 := S.2.1 c hc
  rintro (q | q | q | ⟨c', hc', q⟩)
  · omega
  · omega
  · omega
  · have := S.2.2 c c' hc hc'
    by_cases e : c = c'
    · subst e; omega
    · have := this e; omega
theorem c_pass {a n q kk pr : Nat} {ca : Nat → Nat} {W st l : Nat → Nat} (L : LY h) (G : FC h a n ca) (S : SP a n ca) (hn : 0 < n) (hq : q ≤ 1000) (hpr : cm_I h a 4 = nI pr) (p1 : 1 ≤ pr) (p2 : pr ≤ 1000) (hk : cm_sum (cm_I h (a + 2)) 8 = nI kk) (hk2 : kk < 2 ^ 31) (hW : ∀ c, c < n → c_wd h (ca c) = nI (W c) ∧ W c < 2 ^ 31) (hst : ∀ s, s < 8 → cm_I h 2 s = nI (st s) ∧ st s ≤ 1000) (hl : ∀ s, s < 8 → cm_I h (a + 3) s = nI (l s) ∧ l s ≤ 10000) (z : q_push (c_bedv h n ca) kk pr q (-1) → K 0 h) (y : ∀ r, r ≠ -1 → q_push (c_bedv h n ca) kk pr q r → ∀ h', PS h h' a n ca W st l r n → K 1 h') : cm_ci sc (d + 5) 85 [.ref a, .int (nI q), .ref 1] h K := by
  have h0 := S.1
  have h10 := G.2.2.1
  refine ci_of rfl (s85_0 a _ _ _ _ _ _ ⟨G.1, c_push' G hq hpr p1 p2 hk hk2 (fun r hr => s85_5 a _ _ _ _ _ _ _ ⟨fun w => ⟨G.1, ?_⟩, fun w => ai (z (by rw [← Decidable.not_not.mp w]; exact hr))⟩)⟩)
  have yy := y r w hr
  clear y z
  have X0 : XI h (cm_setI h a 12 r) (P_ps a n ca) := XI.refl.set (Or.inl ⟨rfl, rfl⟩)
  have G0 := X0.FC G (P_ps3 S) (P_ps5 S)
  have hs0 := S.2.1 0 hn
  obtain ⟨-, E0, t0⟩ := G0.2.2.2 0 hn
  have ew0 : c_wd (cm_setI h a 12 r) (ca 0) = nI (W 0) := by
    rw [← (hW 0 hn).1]
    unfold c_wd
    rw [sI_o (Or.inl (by omega)), sI_o (Or.inl (by omega)), sI_o (Or.inl (by omega))]
  refine c_cellI (i := 0) G0 hn (s85_23 a _ _ _ _ _ _ (some (ca 0)) ⟨fun w => (by cases w), fun b eb => ?_⟩)
  cases eb
  refine ⟨E0, c_width E0 t0 (s85_40 a _ _ (some (ca 0)) _ _ _ _ ?_)⟩
  rw [ew0]
  -- the cells
  have cells : ∀ (m i : Nat) (h' : cmH) (x5 : Int32) (u : Option Value), i + m = n → PS h h' a n ca W st l r i → cm_wp sc (d + 5) 85 95 [some (.ref a), some (.int (nI q)), some (.ref 1), some (.int r), some (va_rf (some (ca 0))), some (.int x5), some (.int (nI i)), u] [] h' (fun v h' => ∃ x, v = some (.int x) ∧ K x h') := by
    intro m
    induction m with
    | zero =>
      intro i h' x5 u hi X
      obtain rfl : i = n := by omega
      have G' := X.1.FC G (P_ps3 S) (P_ps5 S)
      refine s85_95 a _ _ (some (ca 0)) _ _ _ ⟨G'.1, fun _ => ai (yy h' X), fun w => absurd ?_ w⟩
      rw [G'.2.1]; exact Int32.le_refl _
    | succ m ih =>
      intro i h' x5 u hi X
      have G' := X.1.FC G (P_ps3 S) (P_ps5 S)
      have hsi := S.2.1 i (by omega)
      obtain ⟨-, E, t⟩ := G'.2.2.2 i (by omega)
      refine s85_95 a _ _ (some (ca 0)) _ _ _ ⟨G'.1, fun w => absurd w ?_, fun _ => c_cellI G' (by omega) (s85_110 a _ _ (some (ca 0)) _ _ _ (some (ca i)) ⟨fun w => (by cases w), fun b eb => ?_⟩)⟩
      · rw [G'.2.1]; exact nI_ge (by omega) (by omega)
      cases eb
      obtain ⟨c1, c2⟩ := X.2.2.2 i (by omega)
      have fla := G'.1.2.2.2.2.2.2.2
      refine ⟨G'.1, E, c_holdFrom (W := W i) (st := st) (l := fun s => q_lf W s (st s) (q_in (W 0) s (l s)) i) (X.1.ly L) E hsi.1 (by omega) (by omega) ⟨fla.1, by have := G'.1.2.1; omega, fla.2⟩ ?_ (hW i (by omega)).2 t (fun s hs => ?_) (fun s hs => ⟨(X.2.2.1 s hs).2, ?_⟩) (fun h2 Y => s85_127 a _ _ (some (ca 0)) _ _ (some (ca i)) ?_)⟩
      · rw [← (hW i (by omega)).1]
        unfold c_wd
        rw [c2, if_neg (by omega), X.1.2 _ 4 ?_, X.1.2 _ 5 (P_ps5 S i (by omega))]
        rintro (w | w | w | ⟨c', hc', w⟩)
        · omega
        · omega
        · omega
        · have := S.2.2 i c' (by omega) hc'
          by_cases e : i = c'
          · subst e; omega
          · have := this e; omega
      · refine ⟨?_, (hst s hs).2⟩
        rw [X.1.2 2 s ?_]
        · exact (hst s hs).1
        · rintro (w | w | w | ⟨c', hc', w⟩)
          · omega
          · omega
          · omega
          · have := S.2.1 c' hc'; omega
      · have h1 := q_lf_le (W := W) (s := s) (st := st s) (l := q_in (W 0) s (l s)) i
        have h2 := q_in_le (W0 := W 0) (s := s) (l := l s)
        have h3 := (hl s hs).2
        omega
      · rw [nI_1]
        have yo : ∀ x k, ¬ P_hf (ca i) (a + 3) x k → cm_I h2 x k = cm_I h' x k := Y.1.2
        refine ih (i + 1) h2 _ _ (by omega) ⟨?_, ?_, fun s hs => ⟨?_, ?_⟩, fun c hc => ?_⟩
        · refine X.1.trans (Y.1.mono fun x k w => ?_)
          rcases w with w | w | w
          · exact Or.inr (Or.inr (Or.inl w))
          · exact Or.inr (Or.inr (Or.inr ⟨i, by omega, Or.inl w⟩))
          · exact Or.inr (Or.inr (Or.inr ⟨i, by omega, Or.inr w⟩))
        · rw [yo _ _ (by unfold P_hf; omega)]; exact X.2.1
        · rw [yo _ _ (by unfold P_hf; omega)]; exact (X.2.2.1 s hs).1
        · rw [(Y.2.1 s hs).1, if_pos hs]; rfl
        · by_cases e : c = i
          · subst e
            refine ⟨fun s hs => ?_, ?_⟩
            · rw [(Y.2.1 s hs).2, if_pos hs, c1 s hs, if_neg (by omega), if_pos (by omega)]
            · rw [Y.2.2, c2, if_neg (by omega), if_pos (by omega)]
          · have hs2 := S.2.2 c i hc (by omega) e
            have hs3 := S.2.1 c hc
            obtain ⟨d1, d2⟩ := X.2.2.2 c hc
            refine ⟨fun s hs => ?_, ?_⟩
            · rw [yo _ _ (by unfold P_hf; omega), d1 s hs]
              by_cases w : c < i
              · rw [if_pos w, if_pos (by omega)]
              · rw [if_neg w, if_neg (by omega)]
            · rw [yo _ _ (by unfold P_hf; omega), d2]
              by_cases w : c < i
              · rw [if_pos w, if_pos (by omega)]
              · rw [if_neg w, if_neg (by omega)]
  -- the cake
  have cake : ∀ (m i : Nat) (h' : cmH) (u : Option Value), i + m = 8 → W 0 ≤ i → XI h h' (P_ps a n ca) → cm_I h' a 12 = r → (∀ s, s < 8 → cm_I h' (a + 2) s = (if s < i then cm_I h (a + 2) s + nI (l s - q_in (W 0) s (l s)) else cm_I h (a + 2) s) ∧ cm_I h' (a + 3) s = nI (if s < i then q_in (W 0) s (l s) else l s)) → (∀ c, c < n → (∀ s, s < 8 → cm_I h' (ca c + 1) s = cm_I h (ca c + 1) s) ∧ cm_I h' (ca c) 2 = cm_I h (ca c) 2) → cm_wp sc (d + 5) 85 46 [some (.ref a), some (.int (nI q)), some (.ref 1), some (.int r), some (va_rf (some (ca 0))), some (.int (nI (W 0))), some (.int (nI i)), u] [] h' (fun v h' => ∃ x, v = some (.int x) ∧ K x h') := by
    intro m
    induction m with
    | zero =>
      intro i h' u hi hw X e12 v1 v2
      obtain rfl : i = 8 := by omega
      refine s85_46 a _ _ (some (ca 0)) _ _ _ ⟨fun _ => cells n 0 h' _ _ (by omega) ⟨X, e12, fun s hs => ?_, fun c hc => ?_⟩, fun w => absurd (Int32.le_refl _) w⟩
      · have := v1 s hs
        rw [if_pos hs, if_pos hs] at this
        exact this
      · refine ⟨fun s hs => ?_, ?_⟩
        · rw [if_neg (by omega)]; exact (v2 c hc).1 s hs
        · rw [if_neg (by omega)]; exact (v2 c hc).2
    | succ m ih =>
      intro i h' u hi hw X e12 v1 v2
      obtain ⟨f1, f2⟩ := v1 i (by omega)
      rw [if_neg (by omega)] at f1 f2
      refine s85_46 a _ _ (some (ca 0)) _ _ _ ⟨fun w => absurd w (nI_ge (b := 8) (by omega) (by decide)), fun _ => c_isSize (fun j hj ej => s85_58 a _ _ (some (ca 0)) _ _ _ 1 (br_f (by decide) ⟨X.FL G.1, ix_nI (by omega) (by decide), s85_86 a _ _ (some (ca 0)) _ _ _ ?_⟩)) (fun w => absurd rfl (w i (by omega)))⟩
      rw [nI_clamp (by omega), nI_1, f1, f2]
      refine ih (i + 1) _ _ (by omega) (by omega) ((X.set (Or.inr (Or.inl ⟨rfl, by omega⟩))).set (Or.inr (Or.inr (Or.inl ⟨rfl, by omega⟩)))) ?_ (fun s hs => ?_) (fun c hc => ?_)
      · rw [sI_o (Or.inl (by omega)), sI_o (Or.inl (by omega))]; exact e12
      · by_cases e : s = i
        · subst e
          have eq0 : q_in (W 0) s (l s) = 0 := by unfold q_in; rw [if_neg (by omega)]
          rw [sI_o (Or.inl (by omega)), sI_s, sI_s, if_pos (by omega), if_pos (by omega), eq0, Nat.sub_zero]
          exact ⟨rfl, rfl⟩
        · rw [sI_o (Or.inl (by omega)), sI_o (Or.inr (by omega)), sI_o (Or.inr (by omega)), sI_o (Or.inl (by omega)), (v1 s hs).1, (v1 s hs).2]
          by_cases w : s < i
          · rw [if_pos w, if_pos w, if_pos (by omega), if_pos (by omega)]; exact ⟨rfl, rfl⟩
          · rw [if_neg w, if_neg w, if_neg (by omega), if_neg (by omega)]; exact ⟨rfl, rfl⟩
      · have hs := S.2.1 c hc
        refine ⟨fun s hs => ?_, ?_⟩
        · rw [sI_o (Or.inl (by omega)), sI_o (Or.inl (by omega))]; exact (v2 c hc).1 s hs
        · rw [sI_o (Or.inl (by omega)), sI_o (Or.inl (by omega))]; exact (v2 c hc).2
  have hW0 := (hW 0 hn).2
  have base : ∀ s, s < 8 → cm_I (cm_setI h a 12 r) (a + 2) s = cm_I h (a + 2) s ∧ cm_I (cm_setI h a 12 r) (a + 3) s = nI (l s) := fun s hs => by
    rw [sI_o (Or.inl (by omega)), sI_o (Or.inl (by omega))]; exact ⟨rfl, (hl s hs).1⟩
  have baseC : ∀ c, c < n → (∀ s, s < 8 → cm_I (cm_setI h a 12 r) (ca c + 1) s = cm_I h (ca c + 1) s) ∧ cm_I (cm_setI h a 12 r) (ca c) 2 = cm_I h (ca c) 2 := fun c hc => by
    have hs := S.2.1 c hc
    refine ⟨fun s hs => sI_o (Or.inl (by omega)), sI_o (Or.inl (by omega))⟩
  rcases Nat.lt_or_ge (W 0) 8 with hw | hw
  · refine cake (8 - W 0) (W 0) _ _ (by omega) (Nat.le_refl _) X0 sI_s (fun s hs => ?_) baseC
    obtain ⟨b1, b2⟩ := base s hs
    by_cases w : s < W 0
    · have e1 : q_in (W 0) s (l s) = l s := by unfold q_in; rw [if_pos w]
      rw [if_pos w, if_pos w, e1, Nat.sub_self, b1, b2]
      exact ⟨(Int32.add_zero _).symm, rfl⟩
    · rw [if_neg w, if_neg w]; exact ⟨b1, b2⟩
  · refine s85_46 a _ _ (some (ca 0)) _ _ _ ⟨fun _ => cells n 0 _ _ _ (by omega) ⟨X0, sI_s, fun s hs => ?_, fun c hc => ?_⟩, fun w => absurd (nI_le (a := 8) hw hW0) w⟩
    · obtain ⟨b1, b2⟩ := base s hs
      have e1 : q_in (W 0) s (l s) = l s := by unfold q_in; rw [if_pos (by omega)]
      rw [e1, Nat.sub_self, b1, b2]
      exact ⟨(Int32.add_zero _).symm, rfl⟩
    · refine ⟨fun s hs => ?_, ?_⟩
      · rw [if_neg (by omega)]; exact (baseC c hc).1 s hs
      · rw [if_neg (by omega)]; exact (baseC c hc).2
end PASS
