/-! ===== how long an order lasts: the class ===== -/
section CORD
def oW (P Tk : Nat → Int32) (ho : Nat → Nat → Int32) (c : Nat) : Int32 := q_wOf (P c) (Tk c) (cm_sum (ho c) 8)
def oWn (P Tk : Nat → Int32) (ho : Nat → Nat → Int32) (c : Nat) : Nat := (oW P Tk ho c).toNatClampNeg
def oBed (N : Nat) (P Tk : Nat → Int32) (ho : Nat → Nat → Int32) : Int32 := q_sumN (fun c => q_res (oW P Tk ho c)) N 0 0
def oK (ck : Nat → Int32) : Nat := (cm_sum ck 8).toNatClampNeg
def oGo (N Q : Nat) (P Tk ck : Nat → Int32) (ho : Nat → Nat → Int32) : Prop := 0 < q_wt (oBed N P Tk ho) (oK ck) ∧ ∃ r, r ≠ -1 ∧ q_push (oBed N P Tk ho) (oK ck) 100 Q r
def oOut (N : Nat) (P Tk : Nat → Int32) (ho : Nat → Nat → Int32) (st g : Nat → Nat) : Nat := q_ns (fun s => q_lf (oWn P Tk ho) s (st s) (q_in (oWn P Tk ho 0) s (g s)) N) 8
def oCk (P Tk ck : Nat → Int32) (ho : Nat → Nat → Int32) (g : Nat → Nat) (s : Nat) : Int32 := ck s + nI (g s - q_in (oWn P Tk ho 0) s (g s))
def oHo (P Tk : Nat → Int32) (ho : Nat → Nat → Int32) (st g : Nat → Nat) (c s : Nat) : Int32 := ho c s + nI (q_kp (oWn P Tk ho c) s (st s) (q_lf (oWn P Tk ho) s (st s) (q_in (oWn P Tk ho 0) s (g s)) c))
noncomputable def oH (N Q m : Nat) (P Tk : Nat → Int32) (st g : Nat → Nat) : Nat → (Nat → Int32) → (Nat → Nat → Int32) → Nat → Nat
  | 0, _, _, h => h
  | f + 1, ck, ho, h => @ite _ (oGo N Q P Tk ck ho ∧ oOut N P Tk ho st g ≤ m) (Classical.propDecidable _) (oH N Q m P Tk st g f (oCk P Tk ck ho g) (oHo P Tk ho st g) (h + 1)) h
theorem oH_y {N Q m f h : Nat} {P Tk ck : Nat → Int32} {ho : Nat → Nat → Int32} {st g : Nat → Nat} (q : oGo N Q P Tk ck ho ∧ oOut N P Tk ho st g ≤ m) : oH N Q m P Tk st g (f + 1) ck ho h = oH N Q m P Tk st g f (oCk P Tk ck ho g) (oHo P Tk ho st g) (h + 1) := @if_pos _ (Classical.propDecidable _) q _ _ _
theorem oH_n {N Q m f h : Nat} {P Tk ck : Nat → Int32} {ho : Nat → Nat → Int32} {st g : Nat → Nat} (q : ¬ (oGo N Q P Tk ck ho ∧ oOut N P Tk ho st g ≤ m)) : oH N Q m P Tk st g (f + 1) ck ho h = h := @if_neg _ (Classical.propDecidable _) q _ _ _
theorem oH_le {N Q m : Nat} {P Tk : Nat → Int32} {st g : Nat → Nat} : ∀ (f : Nat) (ck : Nat → Int32) (ho : Nat → Nat → Int32) (h : Nat), oH N Q m P Tk st g f ck ho h ≤ h + f
  | 0, _, _, h => Nat.le_refl h
  | f + 1, ck, ho, h => by
    by_cases q : oGo N Q P Tk ck ho ∧ oOut N P Tk ho st g ≤ m
    · rw [oH_y q]; have := oH_le (N := N) (Q := Q) (m := m) (P := P) (Tk := Tk) (st := st) (g := g) f (oCk P Tk ck ho g) (oHo P Tk ho st g) (h + 1); omega
    · rw [oH_n q]; omega
/-- how long the layers last in this order -/
noncomputable def oHrs (N Q m : Nat) (P Tk : Nat → Int32) (st g : Nat → Nat) : Nat := if q_ns g 8 ≤ m then 100 else oH N Q m P Tk st g 100 (fun _ => 0) (fun _ _ => 0) 0
theorem oHrs_le {N Q m : Nat} {P Tk : Nat → Int32} {st g : Nat → Nat} : oHrs N Q m P Tk st g ≤ 100 := by
  unfold oHrs
  split
  · exact Nat.le_refl _
  · have := oH_le (N := N) (Q := Q) (m := m) (P := P) (Tk := Tk) (st := st) (g := g) 100 (fun _ => 0) (fun _ _ => 0) 0; omega
theorem oWn_eq {P Tk : Nat → Int32} {ho : Nat → Nat → Int32} {c : Nat} : oW P Tk ho c = nI (oWn P Tk ho c) ∧ oWn P Tk ho c < 2 ^ 31 := by
  obtain ⟨m, hm, e⟩ := nI_of (x := oW P Tk ho c) (Int32.not_lt.mpr q_wOf_pos)
  unfold oWn
  rw [e, nI_clamp hm]; exact ⟨rfl, hm⟩
/-- the cake stays small -/
def oB (ck : Nat → Int32) (B : Nat) : Prop := ∀ s, s < 8 → ∃ k, ck s = nI k ∧ k ≤ B
theorem oB.k {ck : Nat → Int32} {B : Nat} (q : oB ck B) (hB : B ≤ 10000000) : cm_sum ck 8 = nI (oK ck) ∧ oK ck < 2 ^ 30 := by
  obtain ⟨K, e, hK⟩ := sum_b 8 q
  unfold oK
  rw [e, nI_clamp (by omega)]; exact ⟨rfl, by omega⟩
theorem oB.next {P Tk ck : Nat → Int32} {ho : Nat → Nat → Int32} {g : Nat → Nat} {B : Nat} (q : oB ck B) (hg : ∀ s, s < 8 → g s ≤ 9999) : oB (oCk P Tk ck ho g) (B + 10000) := fun s hs => by
  obtain ⟨k, e, hk⟩ := q s hs
  unfold oCk
  rw [e, nI_add]
  have := hg s hs
  exact ⟨_, rfl, by omega⟩
variable {sc : cmS} {d : Nat} {h : cmH} {K : Int32 → cmH → Prop} {KV : cmH → Prop} {N Q m : Nat} {a st g lc : Nat → Nat} {P Tk ck : Nat → Int32} {ho : Nat → Nat → Int32}
def OP (N : Nat) (lc : Nat → Nat) (x k : Nat) : Prop := x = 28 ∨ x = 29 ∨ (x = 26 ∧ k = 12) ∨ ∃ c, c < N ∧ lc c ≤ x ∧ x ≤ lc c + 2
/-- the class's filter that runs alone -/
def AL (h : cmH) (N : Nat) (lc : Nat → Nat) (P Tk ck : Nat → Int32) (ho : Nat → Nat → Int32) : Prop := (∀ s, s < 8 → cm_I h 28 s = ck s) ∧ ∀ c, c < N → cm_I h (lc c) 4 = P c ∧ cm_I h (lc c) 5 = Tk c ∧ cm_I h (lc c) 2 = cm_sum (ho c) 8 ∧ ∀ s, s < 8 → cm_I h (lc c + 1) s = ho c s
/-- what stays in it -/
def AS (h : cmH) (N Q : Nat) (lc st g : Nat → Nat) : Prop := LY h ∧ FC h 26 N lc ∧ SP 26 N lc ∧ cm_I h 21 5 = nI N ∧ 1 ≤ N ∧ N ≤ 6 ∧ cm_I h 26 4 = nI 100 ∧ cm_I h 12 1 = nI Q ∧ 1 ≤ Q ∧ Q ≤ 1000 ∧ ∀ s, s < 8 → cm_I h 2 s = nI (st s) ∧ st s ≤ 1000 ∧ cm_I h 13 s = nI (g s) ∧ g s ≤ 9999
theorem OP.no {x k : Nat} (S : SP 26 N lc) (h1 : x < 88) (h2 : x ≠ 28) (h3 : x ≠ 29) (h4 : x ≠ 26 ∨ k ≠ 12) : ¬ OP N lc x k := by
  rintro (q | q | q | ⟨c, hc, q⟩)
  · omega
  · omega
  · omega
  · have := (S.2.1 c hc).1; omega
theorem AS.x {h' : cmH} (A : AS h N Q lc st g) (X : XI h h' (OP N lc)) (ht : ∀ c, c < N → 1 ≤ cm_I h' (lc c) 5) : AS h' N Q lc st g := by
  obtain ⟨L, G, S, a1, a2, a3, a4, a5, a6, a7, a8⟩ := A
  have o : ∀ x k, x < 88 → x ≠ 28 → x ≠ 29 → (x ≠ 26 ∨ k ≠ 12) → cm_I h' x k = cm_I h x k := fun x k b1 b2 b3 b4 => X.2 x k (OP.no S b1 b2 b3 b4)
  refine ⟨X.ly L, ⟨X.FL G.1, by rw [o 26 3 (by decide) (by decide) (by decide) (by decide)]; exact G.2.1, G.2.2.1, fun c hc => ⟨by rw [X.R]; exact (G.2.2.2 c hc).1, X.CE (G.2.2.2 c hc).2.1, ht c hc⟩⟩, S, by rw [o 21 5 (by decide) (by decide) (by decide) (by decide)]; exact a1, a2, a3, by rw [o 26 4 (by decide) (by decide) (by decide) (by decide)]; exact a4, by rw [o 12 1 (by decide) (by decide) (by decide) (by decide)]; exact a5, a6, a7, fun s hs => ?_⟩
  rw [o 2 s (by decide) (by decide) (by decide) (Or.inl (by decide)), o 13 s (by decide) (by decide) (by decide) (Or.inl (by decide))]
  exact a8 s hs
theorem c_coming {g : Nat → Nat} (L : LY h) (hq : cm_I h 12 1 = nI Q) (q1 : 1 ≤ Q) (q2 : Q ≤ 1000) (hg : ∀ s, s < 8 → cm_I h 13 s = nI (g s)) (k : K (nI (q_ns g 8)) h) : cm_ci sc (d + 2) 106 [.ref 12] h K := by
  refine ci_of rfl (s106_0 _ _ ?_)
  suffices gen : ∀ (m i : Nat), i + m = 8 → cm_wp sc (d + 2) 106 4 [some (.ref 12), some (.int (nI (q_ns g i))), some (.int (nI i))] [] h (fun v h' => ∃ x, v = some (.int x) ∧ K x h') from gen 8 0 rfl
  intro m
  induction m with
  | zero =>
    intro i hi
    obtain rfl : i = 8 := by omega
    exact s106_4 L _ _ ⟨fun _ => ai k, fun z => absurd (by decide) z⟩
  | succ m ih =>
    intro i hi
    refine s106_4 L _ _ ⟨fun z => absurd z (nI_ge (b := 8) (by omega) (by decide)), fun _ => c_comingOf L (by omega) hq q2 (hg i (by omega)) (s106_16 _ _ _ _ ?_)⟩
    rw [if_neg (by omega), nI_add, nI_1]
    exact ih (i + 1) (by omega)
theorem c_layOut (A : AS h N Q lc st g) (T : TR h a) (hT : ∀ c, c < N → 1 ≤ cm_I h 23 (a c)) (k : ∀ h', XI h h' (OP N lc) → AS h' N Q lc st g → AL h' N lc (fun c => cm_I h 22 (a c)) (fun c => cm_I h 23 (a c)) (fun _ => 0) (fun _ _ => 0) → KV h') : cm_cv sc (d + 3) 107 [.ref 21] h KV := by
  obtain ⟨L, G, S, a1, a2, a3, a4, a5, a6, a7, a8⟩ := id A
  refine cv_of rfl (s107_0 _ _ _ ?_)
  suffices gen : ∀ (m i : Nat) (h1 : cmH) (u2 u3 : Option Value), i + m = N → XI h h1 (fun x k => ∃ c, c < N ∧ x = lc c ∧ (k = 3 ∨ k = 5)) → (∀ c, c < N → 1 ≤ cm_I h1 (lc c) 5) → (∀ c, c < i → cm_I h1 (lc c) 3 = cm_I h 22 (a c) ∧ cm_I h1 (lc c) 5 = cm_I h 23 (a c)) → cm_wp sc (d + 3) 107 2 [some (.ref 21), some (.int (nI i)), u2, u3] [] h1 (fun v h' => v = none ∧ KV h') from gen N 0 h _ _ (Nat.zero_add N) XI.refl (fun c hc => (G.2.2.2 c hc).2.2) (fun c hc => absurd hc (by omega))
  intro m
  induction m with
  | zero =>
    intro i h1 u2 u3 hi X ht v
    obtain rfl : i = N := by omega
    have lo : ∀ x k, x < 88 → cm_I h1 x k = cm_I h x k := fun x k hx => X.2 x k (by rintro ⟨c, hc, q, -⟩; have := (S.2.1 c hc).1; omega)
    have G1 : FC h1 26 i lc := ⟨X.FL G.1, by rw [lo 26 3 (by decide)]; exact G.2.1, G.2.2.1, fun c hc => ⟨by rw [X.R]; exact (G.2.2.2 c hc).1, X.CE (G.2.2.2 c hc).2.1, ht c hc⟩⟩
    have L1 := X.ly L
    refine s107_2 L1 _ _ _ ⟨fun _ => s107_71 L1 _ _ _ (c_makeClean G1 S (fun h2 X2 z2 w2 => s107_78 _ _ _ ⟨rfl, ?_⟩)), fun z => absurd (by rw [lo 21 5 (by decide), a1]; exact Int32.le_refl _) z⟩
    have P5 : ∀ c, c < i → ¬ P_mc 26 i lc (lc c) 5 := fun c hc => by
      rintro (q | ⟨c', hc', q⟩)
      · have := (S.2.1 c hc).1; omega
      · unfold P_em at q
        by_cases e : c = c'
        · subst e; omega
        · have := S.2.2 c c' hc hc' e; omega
    have t2 : ∀ c, c < i → cm_I h2 (lc c) 5 = cm_I h 23 (a c) := fun c hc => by rw [X2.2 _ _ (P5 c hc)]; exact (v c hc).2
    have XO : XI h h2 (OP i lc) := (X.mono fun x k q => by
      obtain ⟨c, hc, q, -⟩ := q
      exact Or.inr (Or.inr (Or.inr ⟨c, hc, by omega, by omega⟩))).trans (X2.mono fun x k q => by
        rcases q with q | ⟨c, hc, q⟩
        · exact Or.inl q.1
        · unfold P_em at q; exact Or.inr (Or.inr (Or.inr ⟨c, hc, by omega, by omega⟩)))
    refine k h2 XO (A.x XO fun c hc => by rw [t2 c hc]; exact hT c hc) ⟨z2, fun c hc => ?_⟩
    obtain ⟨w, w3, w4⟩ := w2 c hc
    exact ⟨by rw [w4]; exact (v c hc).1, t2 c hc, by rw [w3]; exact (cm_sum_zero 8).symm, fun s hs => (w s hs).1⟩
  | succ m ih =>
    intro i h1 u2 u3 hi X ht v
    have hiN : i < N := by omega
    have lo : ∀ x k, x < 88 → cm_I h1 x k = cm_I h x k := fun x k hx => X.2 x k (by rintro ⟨c, hc, q, -⟩; have := (S.2.1 c hc).1; omega)
    have G1 : FC h1 26 N lc := ⟨X.FL G.1, by rw [lo 26 3 (by decide)]; exact G.2.1, G.2.2.1, fun c hc => ⟨by rw [X.R]; exact (G.2.2.2 c hc).1, X.CE (G.2.2.2 c hc).2.1, ht c hc⟩⟩
    have L1 := X.ly L
    have ti := T i (by omega)
    refine s107_2 L1 _ _ _ ⟨fun z => absurd z (by rw [lo 21 5 (by decide), a1]; exact nI_ge hiN (by omega)), fun _ => ⟨fun z => absurd z (nI_ge (b := 6) (by omega) (by decide)), fun _ => c_cellI G1 hiN (s107_24 L1 _ _ _ (some (lc i)) ?_)⟩⟩
    rw [nI_clamp (by omega), lo 24 i (by decide), ti.1]
    refine ⟨ix_nI (by omega) (by decide), fun e => (by cases e), fun b eb => ?_⟩
    cases eb
    refine c_inN 0 5 (fun j _ _ _ => s107_42 L1 _ (some (lc i)) _ _ ⟨fun e => absurd e (by decide), fun _ => ⟨lc i, rfl, ix_nI ti.2 (by decide), (G1.2.2.2 i hiN).2.1, s107_65 _ (some (lc i)) _ ?_⟩⟩) (fun q => absurd rfl (q (a i) (by omega) (by omega)))
    have h88 := (S.2.1 i hiN).1
    rw [nI_1, nI_clamp (by omega), sI_o (Or.inl (by omega)), lo 22 _ (by decide), lo 23 _ (by decide)]
    have S2 : XI h (cm_setI (cm_setI h1 (lc i) 3 (cm_I h 22 (a i))) (lc i) 5 (cm_I h 23 (a i))) (fun x k => ∃ c, c < N ∧ x = lc c ∧ (k = 3 ∨ k = 5)) := (X.set ⟨i, hiN, rfl, Or.inl rfl⟩).set ⟨i, hiN, rfl, Or.inr rfl⟩
    refine ih (i + 1) _ _ _ (by omega) S2 (fun c hc => ?_) (fun c hc => ?_)
    · by_cases e : c = i
      · subst e; rw [sI_s]; exact hT c hc
      · have := S.2.2 c i hc hiN e
        rw [sI_o (Or.inl (by omega)), sI_o (Or.inl (by omega))]; exact ht c hc
    · by_cases e : c = i
      · subst e; rw [sI_s, sI_o (Or.inr (by decide)), sI_s]; exact ⟨rfl, rfl⟩
      · have := S.2.2 c i (by omega) hiN e
        rw [sI_o (Or.inl (by omega)), sI_o (Or.inl (by omega)), sI_o (Or.inl (by omega)), sI_o (Or.inl (by omega))]
        exact v c (by omega)
theorem lgc_0 {n : Nat} (hn : n < 2 ^ 31) : lg_cmp (lN n) 0 ≤ 0 ↔ n = 0 := by
  rw [lg_cmp_le]
  rw [show (0 : Int64) = lN 0 from rfl, lN_le' (by omega) (by omega)]
  omega
theorem q_ns_nI {v : Nat → Int32} {w : Nat → Nat} {n : Nat} (q : ∀ s, s < n → v s = nI (w s)) : cm_sum v n = nI (q_ns w n) := by
  rw [cm_sum_congr q]; exact cm_sum_nI n
/-- the class's hours of the order that is tried -/
theorem c_hoursTried (A : AS h N Q lc st g) (T : TR h a) (hT : ∀ c, c < N → 1 ≤ cm_I h 23 (a c)) (hm : m ≤ 1000000) (k : ∀ h', XI h h' (OP N lc) → AS h' N Q lc st g → K (nI (oHrs N Q m (fun c => cm_I h 22 (a c)) (fun c => cm_I h 23 (a c)) st g)) h') : cm_ci sc (d + 6) 105 [.ref 21, .int (nI m), .ref 12, .ref 1] h K := by
  obtain ⟨L, G, S, a1, a2, a3, a4, a5, a6, a7, a8⟩ := id A
  have gb : q_ns g 8 ≤ 9999 * 8 := q_ns_le fun s hs => (a8 s hs).2.2.2
  refine ci_of rfl (s105_0 L _ _ _ _ (c_coming L a5 a6 a7 (fun s hs => (a8 s hs).2.2.1) (s105_4 L _ _ _ _ _ ⟨fun z => ?_, fun z => ai ?_⟩)))
  case refine_2 =>
    have hle : q_ns g 8 ≤ m := by
      rcases Nat.lt_or_ge m (q_ns g 8) with w | w
      · exact absurd (nI_lt w (by omega)) z
      · exact w
    have e : oHrs N Q m (fun c => cm_I h 22 (a c)) (fun c => cm_I h 23 (a c)) st g = 100 := if_pos hle
    have := k h XI.refl A
    rw [e] at this; exact this
  have hgt : ¬ q_ns g 8 ≤ m := fun w => absurd z (Int32.not_lt.mpr (nI_le w (by omega)))
  have e : oHrs N Q m (fun c => cm_I h 22 (a c)) (fun c => cm_I h 23 (a c)) st g = oH N Q m (fun c => cm_I h 22 (a c)) (fun c => cm_I h 23 (a c)) st g 100 (fun _ => 0) (fun _ _ => 0) 0 := if_neg hgt
  rw [e] at k
  refine c_layOut (d := d + 2) A T hT (fun h1 X1 A1 B1 => s105_19 _ _ _ _ ?_)
  generalize (fun c => cm_I h 22 (a c)) = P at k B1
  have hTk : ∀ c, c < N → 1 ≤ (fun c => cm_I h 23 (a c)) c := hT
  generalize (fun c => cm_I h 23 (a c)) = Tk at k B1 hTk
  suffices gen : ∀ (f i : Nat) (ck : Nat → Int32) (ho : Nat → Nat → Int32) (h2 : cmH) (u6 : Option Value), i + f = 100 → oB ck (10000 * i) → XI h h2 (OP N lc) → AS h2 N Q lc st g → AL h2 N lc P Tk ck ho → oH N Q m P Tk st g f ck ho i = oH N Q m P Tk st g 100 (fun _ => 0) (fun _ _ => 0) 0 → cm_wp sc (d + 6) 105 22 [some (.ref 21), some (.int (nI m)), some (.ref 12), some (.ref 1), some (.int (nI (q_ns g 8))), some (.int (nI i)), u6] [] h2 (fun v h' => ∃ x, v = some (.int x) ∧ K x h') from gen 100 0 _ _ h1 _ rfl (fun s _ => ⟨0, rfl, by omega⟩) X1 A1 B1 rfl
  intro f
  induction f with
  | zero =>
    intro i ck ho h2 u6 hi cb X2 A2 B2 eh
    obtain rfl : i = 100 := by omega
    have e0 : oH N Q m P Tk st g 0 ck ho 100 = 100 := rfl
    refine s105_22 _ _ _ _ ⟨fun _ => ai ?_, fun z => absurd (by decide) z⟩
    have := k h2 X2 A2
    rw [← eh, e0] at this; exact this
  | succ f ih =>
    intro i ck ho h2 u6 hi cb X2 A2 B2 eh
    refine s105_22 _ _ _ _ ⟨fun z => absurd z (nI_ge (b := 100) (by omega) (by decide)), fun _ => ?_⟩
    -- the load
    suffices ld : ∀ (n j : Nat) (h3 : cmH), j + n = 8 → XI h2 h3 (fun x _ => x = 29) → (∀ s, s < j → cm_I h3 29 s = nI (g s)) → cm_wp sc (d + 6) 105 32 [some (.ref 21), some (.int (nI m)), some (.ref 12), some (.ref 1), some (.int (nI (q_ns g 8))), some (.int (nI i)), some (.int (nI j))] [] h3 (fun v h' => ∃ x, v = some (.int x) ∧ K x h') from ld 8 0 h2 rfl XI.refl (fun s hs => absurd hs (by omega))
    intro n
    induction n with
    | succ n ihn =>
      intro j h3 hj X3 l3
      obtain ⟨L2, -, -, -, -, -, -, b5, b6, b7, b8⟩ := A2
      have L3 := X3.ly L2
      refine s105_32 L3 _ _ _ _ ⟨fun z => absurd z (nI_ge (b := 8) (by omega) (by decide)), fun _ => c_comingOf (g := g) L3 (by omega) (by rw [X3.2 12 1 (by omega)]; exact b5) b7 (by rw [X3.2 13 j (by omega)]; exact (b8 j (by omega)).2.2.1) (s105_54 L3 _ _ _ _ _ _ ?_)⟩
      rw [if_neg (by omega), nI_clamp (by omega), nI_1]
      refine ⟨ix_nI (by omega) (by decide), ihn (j + 1) _ (by omega) (X3.set rfl) (fun s hs => ?_)⟩
      by_cases y : s = j
      · subst y; exact sI_s
      · rw [sI_o (Or.inr y)]; exact l3 s (by omega)
    | zero =>
      intro j h3 hj X3 l3
      obtain rfl : j = 8 := by omega
      obtain ⟨L2, G2, -, b1, b2, b3, b4, b5, b6, b7, b8⟩ := id A2
      have L3 := X3.ly L2
      have X3o : XI h2 h3 (OP N lc) := X3.mono fun x k q => Or.inr (Or.inl q)
      have lc29 : ∀ c e k, c < N → e ≤ 2 → cm_I h3 (lc c + e) k = cm_I h2 (lc c + e) k := fun c e k hc he => X3.2 _ _ (by have := (S.2.1 c hc).1; omega)
      have lc29' : ∀ c k, c < N → cm_I h3 (lc c) k = cm_I h2 (lc c) k := fun c k hc => lc29 c 0 k hc (by decide)
      have A3 : AS h3 N Q lc st g := A2.x X3o fun c hc => by rw [lc29' c 5 hc]; exact (G2.2.2.2 c hc).2.2
      have G3 := A3.2.1
      have ekc : cm_sum (cm_I h3 (26 + 2)) 8 = nI (oK ck) := by
        rw [← (cb.k (by omega)).1]
        exact cm_sum_congr fun s hs => by rw [show 26 + 2 = 28 from rfl, X3.2 28 s (by omega)]; exact B2.1 s hs
      have ewd : ∀ c, c < N → c_wd h3 (lc c) = oW P Tk ho c := fun c hc => by
        unfold c_wd oW
        obtain ⟨p1, p2, p3, p4⟩ := B2.2 c hc
        rw [lc29' c _ hc, lc29' c _ hc, lc29' c _ hc, p1, p2, p3]
      have ebed : c_bedv h3 N lc = oBed N P Tk ho := q_sumN_congr N 0 0 fun c _ hc => by rw [ewd c (by omega)]
      have hk2 := (cb.k (B := 10000 * i) (by omega)).2
      -- no more
      have stop : ¬ (oGo N Q P Tk ck ho ∧ oOut N P Tk ho st g ≤ m) → ∀ h4, XI h2 h4 (OP N lc) → AS h4 N Q lc st g → K (nI i) h4 := fun q h4 X4 A4 => by
        have := k h4 (X2.trans X4) A4
        rw [← eh, oH_n q] at this; exact this
      refine s105_32 L3 _ _ _ _ ⟨fun _ => c_weight G3 ekc hk2 (s105_68 L3 _ _ _ _ _ ?_), fun z => absurd (by decide) z⟩
      rw [ebed, lgc_0 (by have := q_wt_le (bed := oBed N P Tk ho) (k := oK ck); omega)]
      refine ⟨fun z => s105_92 _ _ _ _ (s105_93 L3 _ _ _ _ _ ⟨fun _ => ai (stop (fun q => by have := q.1.1; omega) h3 X3o A3), fun w => absurd rfl w⟩), fun z => ?_⟩
      rw [X3.2 12 1 (by omega), b5]
      refine c_pass (kk := oK ck) (pr := 100) (W := oWn P Tk ho) (st := st) (l := g) L3 G3 S (by omega) b7 A3.2.2.2.2.2.2.1 (by decide) (by decide) ekc (by omega) (fun c hc => by rw [ewd c hc]; exact oWn_eq) (fun s hs => by obtain ⟨p, q, -, -⟩ := A3.2.2.2.2.2.2.2.2.2.2 s hs; exact ⟨p, q⟩) (fun s hs => ⟨l3 s hs, by have := (b8 s hs).2.2.2; omega⟩) (fun q => ?_) (fun r hr q h4 Z4 => ?_)
      · rw [ebed] at q
        exact s105_85 _ _ _ _ _ ⟨fun _ => s105_92 _ _ _ _ (s105_93 L3 _ _ _ _ _ ⟨fun _ => ai (stop (fun w => by obtain ⟨r, hr, q2⟩ := w.1.2; exact hr (q_push_uniq q2 q)) h3 X3o A3), fun w => absurd rfl w⟩), fun w => absurd rfl w⟩
      · rw [ebed] at q
        have go : oGo N Q P Tk ck ho := ⟨by omega, r, hr, q⟩
        obtain ⟨X4, -, z4, w4⟩ := Z4
        have X4o : XI h3 h4 (OP N lc) := X4.mono fun x k q => by
          rcases q with q | q | q | ⟨c, hc, q⟩
          · exact Or.inr (Or.inr (Or.inl q))
          · exact Or.inl q.1
          · exact Or.inr (Or.inl q.1)
          · exact Or.inr (Or.inr (Or.inr ⟨c, hc, by omega, by omega⟩))
        have p45 : ∀ c j, c < N → j ≠ 2 → cm_I h4 (lc c) j = cm_I h2 (lc c) j := fun c j hc hj => by
          rw [X4.2 _ _ (by
            have h88 := (S.2.1 c hc).1
            rintro (q | q | q | ⟨c', hc', q⟩)
            · omega
            · omega
            · omega
            · by_cases e : c = c'
              · subst e; omega
              · have := S.2.2 c c' hc hc' e; omega), lc29' c j hc]
        have A4 : AS h4 N Q lc st g := A3.x X4o fun c hc => by rw [p45 c 5 hc (by decide)]; exact (G2.2.2.2 c hc).2.2
        have L4 := A4.1
        have eo : cm_sum (cm_I h4 (26 + 3)) 8 = nI (oOut N P Tk ho st g) := q_ns_nI fun s hs => (z4 s hs).2
        have ob : oOut N P Tk ho st g ≤ 9999 * 8 := q_ns_le fun s hs => by have := (b8 s hs).2.2.2; exact Nat.le_trans (q_lf_le N) (Nat.le_trans q_in_le this)
        refine s105_85 _ _ _ _ _ ⟨fun w => absurd w (by decide), fun _ => s105_93 L4 _ _ _ _ _ ⟨fun w => absurd w (by decide), fun _ => c_loadInAll A4.2.1.1 ?_⟩⟩
        rw [eo]
        refine s105_107 _ _ _ _ _ ⟨fun w => ?_, fun w => ai (stop (fun q => w (nI_le q.2 (by omega))) h4 (X3o.trans X4o) A4)⟩
        have hle : oOut N P Tk ho st g ≤ m := by
          rcases Nat.lt_or_ge m (oOut N P Tk ho st g) with v | v
          · exact absurd w (nI_ge v (by omega))
          · exact v
        rw [nI_1]
        refine ih (i + 1) (oCk P Tk ck ho g) (oHo P Tk ho st g) h4 _ (by omega) ?_ (X2.trans (X3o.trans X4o)) A4 ⟨fun s hs => ?_, fun c hc => ?_⟩ ?_
        · have := cb.next (P := P) (Tk := Tk) (ho := ho) (g := g) (fun s hs => (b8 s hs).2.2.2)
          rw [show 10000 * (i + 1) = 10000 * i + 10000 by omega]; exact this
        · have := (z4 s hs).1
          rw [show 26 + 2 = 28 from rfl] at this
          rw [this, X3.2 28 s (by omega), B2.1 s hs]; rfl
        · obtain ⟨p1, p2, p3, p4⟩ := B2.2 c hc
          obtain ⟨y1, y2⟩ := w4 c hc
          refine ⟨by rw [p45 c 4 hc (by decide)]; exact p1, by rw [p45 c 5 hc (by decide)]; exact p2, ?_, fun s hs => ?_⟩
          · rw [y2, if_pos hc, lc29' c 2 hc, p3]
            rw [← cm_sum_add]; rfl
          · rw [y1 s hs, if_pos hc, lc29 c 1 s hc (by decide), p4 s hs]; rfl
        · rw [← eh, oH_y ⟨go, hle⟩]
end CORD
