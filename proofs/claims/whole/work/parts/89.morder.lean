/-! ===== the reference's order ===== -/
section MORD
variable {sc : cmS} {d : Nat} {h : cmH} {K : Int32 → cmH → Prop} {KV : cmH → Prop} {N Q m : Nat} {st g : Nat → Nat} {P Tk lp lt : Nat → Int32}
/-- what stays -/
def MB (h : cmH) (N Q : Nat) (lp lt : Nat → Int32) (st g : Nat → Nat) : Prop := LY h ∧ cm_I h 38 53 = nI N ∧ 1 ≤ N ∧ N ≤ 6 ∧ cm_I h 49 8 = nI 100 ∧ cm_I h 38 48 = nI Q ∧ 1 ≤ Q ∧ Q ≤ 1000 ∧ (∀ s, s < 8 → cm_I h 39 s = nI (st s) ∧ st s ≤ 1000 ∧ cm_I h 67 s = nI (g s) ∧ g s ≤ 9999) ∧ ∀ i, i < N → cm_I h 77 i = lp i ∧ cm_I h 78 i = lt i ∧ lt i ≠ 0
def OZ (x k : Nat) : Prop := OM x k ∨ x = 79 ∨ x = 80 ∨ (x = 38 ∧ k = 54)
theorem MB.x {h' : cmH} (A : MB h N Q lp lt st g) (X : XI h h' OZ) : MB h' N Q lp lt st g := by
  obtain ⟨L, a1, a2, a3, a4, a5, a6, a7, a8, a9⟩ := A
  have o : ∀ x k, x = 38 ∧ k ≠ 54 ∨ x = 49 ∨ x = 39 ∨ x = 67 ∨ x = 77 ∨ x = 78 → cm_I h' x k = cm_I h x k := fun x k q => X.2 x k (by unfold OZ OM; omega)
  exact ⟨X.ly L, by rw [o 38 53 (by omega)]; exact a1, a2, a3, by rw [o 49 8 (by omega)]; exact a4, by rw [o 38 48 (by omega)]; exact a5, a6, a7, fun s hs => by rw [o 39 s (by omega), o 67 s (by omega)]; exact a8 s hs, fun i hi => by rw [o 77 i (by omega), o 78 i (by omega)]; exact a9 i hi⟩
theorem m_lasts {p : Nat → Nat} (hm : m ≤ 1000000) (A : MB h N Q lp lt st g) (hr : ∀ c, c < N → cm_I h 79 c = nI (p c) ∧ p c < N) (hP : ∀ c, c < N → lp (p c) = P c ∧ lt (p c) = Tk c) (k : ∀ h', XI h h' OM → K (nI (oHrs N Q m P Tk st g)) h') : cm_ci sc (d + 5) 211 [.ref 38, .int (nI m)] h K := by
  obtain ⟨L, a1, a2, a3, a4, a5, a6, a7, a8, a9⟩ := id A
  have hT : ∀ c, c < N → Tk c ≠ 0 := fun c hc => by rw [← (hP c hc).2]; exact (a9 _ (hr c hc).2).2.2
  have X0 : XI h (cm_setI h 42 8 (nI N)) OM := XI.refl.set (Or.inl ⟨rfl, rfl⟩)
  refine ci_of rfl (s211_0 L _ _ _ _ _ _ ?_)
  rw [a1]
  -- the hours
  have hours : ∀ h1, XI h h1 OM → cm_I h1 42 8 = nI N → ML h1 N P Tk (fun _ => 0) (fun _ _ => 0) → ∀ u4 u5 u6, cm_wp sc (d + 5) 211 120 [some (.ref 38), some (.int (nI m)), some (.int 0), some (.int 0), u4, u5, u6] [] h1 (fun v h' => ∃ x, v = some (.int x) ∧ K x h') := fun h1 X1 e1 B1 u4 u5 u6 => by
    have A1 : MS h1 N Q st g := ⟨X1.ly L, e1, a2, a3, by rw [X1.2 49 8 (by unfold OM; omega)]; exact a4, by rw [X1.2 38 48 (by unfold OM; omega)]; exact a5, a6, a7, fun s hs => by rw [X1.2 39 s (by unfold OM; omega), X1.2 67 s (by unfold OM; omega)]; exact a8 s hs⟩
    by_cases q : q_ns g 8 ≤ m
    · have e : oHrs N Q m P Tk st g = 100 := if_pos q
      rw [e] at k
      suffices gen : ∀ (f i : Nat) (ck : Nat → Int32) (ho : Nat → Nat → Int32) (h2 : cmH) (x2 : Int32) (u4 u5 u6 : Option Value), i + f = 100 → oB ck (10000 * i) → XI h h2 OM → MS h2 N Q st g → ML h2 N P Tk ck ho → cm_wp sc (d + 5) 211 120 [some (.ref 38), some (.int (nI m)), some (.int x2), some (.int (nI i)), u4, u5, u6] [] h2 (fun v h' => ∃ x, v = some (.int x) ∧ K x h') from gen 100 0 _ _ h1 0 _ _ _ rfl (fun s _ => ⟨0, rfl, by omega⟩) X1 A1 B1
      intro f
      induction f with
      | zero =>
        intro i ck ho h2 x2 u4 u5 u6 hi cb X2 A2 B2
        obtain rfl : i = 100 := by omega
        exact s211_120 A2.1 _ _ _ _ _ _ ⟨fun _ => ai (k h2 X2), fun z => absurd (by decide) z⟩
      | succ f ih =>
        intro i ck ho h2 x2 u4 u5 u6 hi cb X2 A2 B2
        refine m_trial hm (by omega) (by omega) A2 B2 hT cb (fun _ _ h3 X3 A3 B3 => ⟨fun _ u4 u5 u6 => ih (i + 1) _ _ h3 0 _ _ _ (by omega) ?_ (X2.trans X3) A3 B3, fun w => absurd (Nat.le_trans oOut_le q) w⟩) (fun _ h3 X3 A3 B3 => ⟨fun _ x2 u4 u5 u6 => ih (i + 1) ck ho h3 x2 _ _ _ (by omega) (fun s hs => by obtain ⟨k, e, hk⟩ := cb s hs; exact ⟨k, e, by omega⟩) (X2.trans X3) A3 B3, fun w => absurd q w⟩)
        have := cb.next (P := P) (Tk := Tk) (ho := ho) (g := g) (fun s hs => (a8 s hs).2.2.2)
        rw [show 10000 * (i + 1) = 10000 * i + 10000 by omega]; exact this
    · have e : oHrs N Q m P Tk st g = oH N Q m P Tk st g 100 (fun _ => 0) (fun _ _ => 0) 0 := if_neg q
      rw [e] at k
      suffices gen : ∀ (f i : Nat) (ck : Nat → Int32) (ho : Nat → Nat → Int32) (h2 : cmH) (u4 u5 u6 : Option Value), i + f = 100 → oB ck (10000 * i) → XI h h2 OM → MS h2 N Q st g → ML h2 N P Tk ck ho → oH N Q m P Tk st g f ck ho i = oH N Q m P Tk st g 100 (fun _ => 0) (fun _ _ => 0) 0 → cm_wp sc (d + 5) 211 120 [some (.ref 38), some (.int (nI m)), some (.int 0), some (.int (nI i)), u4, u5, u6] [] h2 (fun v h' => ∃ x, v = some (.int x) ∧ K x h') from gen 100 0 _ _ h1 _ _ _ rfl (fun s _ => ⟨0, rfl, by omega⟩) X1 A1 B1 rfl
      intro f
      induction f with
      | zero =>
        intro i ck ho h2 u4 u5 u6 hi cb X2 A2 B2 eh
        obtain rfl : i = 100 := by omega
        have e0 : oH N Q m P Tk st g 0 ck ho 100 = 100 := rfl
        refine s211_120 A2.1 _ _ _ _ _ _ ⟨fun _ => ai ?_, fun z => absurd (by decide) z⟩
        have := k h2 X2
        rw [← eh, e0] at this; exact this
      | succ f ih =>
        intro i ck ho h2 u4 u5 u6 hi cb X2 A2 B2 eh
        have stop : ¬ (oGo N Q P Tk ck ho ∧ oOut N P Tk ho st g ≤ m) → ∀ h3, XI h2 h3 OM → ∃ x, some (Value.int (nI i)) = some (.int x) ∧ K x h3 := fun w h3 X3 => by
          have := k h3 (X2.trans X3)
          rw [← eh, oH_n w] at this; exact ai this
        refine m_trial hm (by omega) (by omega) A2 B2 hT cb (fun _ go h3 X3 A3 B3 => ⟨fun w u4 u5 u6 => ih (i + 1) _ _ h3 _ _ _ (by omega) ?_ (X2.trans X3) A3 B3 (by rw [← eh, oH_y ⟨go, w⟩]), fun w => stop (fun v => w v.2) h3 X3⟩) (fun w h3 X3 A3 B3 => ⟨fun v => absurd v q, fun _ => stop (fun v => w ⟨rfl, v.1⟩) h3 X3⟩)
        have := cb.next (P := P) (Tk := Tk) (ho := ho) (g := g) (fun s hs => (a8 s hs).2.2.2)
        rw [show 10000 * (i + 1) = 10000 * i + 10000 by omega]; exact this
  -- the cake is cleared
  have l94 : ∀ (n j : Nat) (h1 : cmH) (u3 u4 u5 u6 : Option Value), j + n = 8 → XI h h1 OM → cm_I h1 42 8 = nI N → (∀ c, c < N → cm_I h1 43 (80 + c) = P c ∧ cm_I h1 45 (80 + c) = Tk c) → (∀ i, i < 80 → cm_I h1 46 (640 + i) = 0) → (∀ s, s < j → cm_I h1 48 (64 + s) = 0) → cm_wp sc (d + 5) 211 94 [some (.ref 38), some (.int (nI m)), some (.int (nI j)), u3, u4, u5, u6] [] h1 (fun v h' => ∃ x, v = some (.int x) ∧ K x h') := by
    intro n
    induction n with
    | zero =>
      intro j h1 u3 u4 u5 u6 hj X1 e1 c1 z1 w1
      obtain rfl : j = 8 := by omega
      refine s211_94 (X1.ly L) _ _ _ _ _ _ ⟨fun _ => hours h1 X1 e1 ⟨w1, fun c hc => ⟨(c1 c hc).1, (c1 c hc).2, fun s hs => ?_⟩⟩ _ _ _, fun z => absurd (by decide) z⟩
      rw [show 8 * (80 + c) + s = 640 + (8 * c + s) by omega]; exact z1 _ (by omega)
    | succ n ih =>
      intro j h1 u3 u4 u5 u6 hj X1 e1 c1 z1 w1
      refine s211_94 (X1.ly L) _ _ _ _ _ _ ⟨fun z => absurd z (nI_ge (b := 8) (by omega) (by decide)), fun _ => ?_⟩
      rw [show (64 : Int32) + nI j = nI (64 + j) from nI_add 64 j, nI_clamp (by omega), nI_1]
      refine ⟨ix_nI (by omega) (by decide), ih (j + 1) _ _ _ _ _ (by omega) (X1.set (Or.inr (Or.inr (Or.inr (Or.inl ⟨rfl, by omega⟩))))) (by rw [sI_o (Or.inl (by decide))]; exact e1) (fun c hc => by rw [sI_o (Or.inl (by decide)), sI_o (Or.inl (by decide))]; exact c1 c hc) (fun i hi => by rw [sI_o (Or.inl (by decide))]; exact z1 i hi) (fun s hs => ?_)⟩
      by_cases y : s = j
      · subst y; exact sI_s
      · rw [sI_o (Or.inr (by omega))]; exact w1 s (by omega)
  -- what is held is cleared
  have l69 : ∀ (n j : Nat) (h1 : cmH) (u3 u4 u5 u6 : Option Value), j + n = 80 → XI h h1 OM → cm_I h1 42 8 = nI N → (∀ c, c < N → cm_I h1 43 (80 + c) = P c ∧ cm_I h1 45 (80 + c) = Tk c) → (∀ i, i < j → cm_I h1 46 (640 + i) = 0) → cm_wp sc (d + 5) 211 69 [some (.ref 38), some (.int (nI m)), some (.int (nI j)), u3, u4, u5, u6] [] h1 (fun v h' => ∃ x, v = some (.int x) ∧ K x h') := by
    intro n
    induction n with
    | zero =>
      intro j h1 u3 u4 u5 u6 hj X1 e1 c1 z1
      obtain rfl : j = 80 := by omega
      exact s211_69 (X1.ly L) _ _ _ _ _ _ ⟨fun _ => l94 8 0 h1 _ _ _ _ rfl X1 e1 c1 z1 (fun s hs => absurd hs (by omega)), fun z => absurd (by decide) z⟩
    | succ n ih =>
      intro j h1 u3 u4 u5 u6 hj X1 e1 c1 z1
      refine s211_69 (X1.ly L) _ _ _ _ _ _ ⟨fun z => absurd z (nI_ge (b := 80) (by omega) (by decide)), fun _ => ?_⟩
      rw [show (640 : Int32) + nI j = nI (640 + j) from nI_add 640 j, nI_clamp (by omega), nI_1]
      refine ⟨ix_nI (by omega) (by decide), ih (j + 1) _ _ _ _ _ (by omega) (X1.set (Or.inr (Or.inr (Or.inl ⟨rfl, by omega⟩)))) (by rw [sI_o (Or.inl (by decide))]; exact e1) (fun c hc => by rw [sI_o (Or.inl (by decide)), sI_o (Or.inl (by decide))]; exact c1 c hc) (fun i hi => ?_)⟩
      by_cases y : i = j
      · subst y; exact sI_s
      · rw [sI_o (Or.inr (by omega))]; exact z1 i (by omega)
  -- the layers are laid
  suffices gen : ∀ (n j : Nat) (h1 : cmH) (u3 u4 u5 u6 : Option Value), j + n = N → XI h h1 OM → cm_I h1 42 8 = nI N → (∀ c, c < j → cm_I h1 43 (80 + c) = P c ∧ cm_I h1 45 (80 + c) = Tk c) → cm_wp sc (d + 5) 211 13 [some (.ref 38), some (.int (nI m)), some (.int (nI j)), u3, u4, u5, u6] [] h1 (fun v h' => ∃ x, v = some (.int x) ∧ K x h') from gen N 0 _ _ _ _ _ (Nat.zero_add N) X0 sI_s (fun c hc => absurd hc (by omega))
  intro n
  induction n with
  | zero =>
    intro j h1 u3 u4 u5 u6 hj X1 e1 c1
    obtain rfl : j = N := by omega
    refine s211_13 (X1.ly L) _ _ _ _ _ _ ⟨fun _ => l69 80 0 h1 _ _ _ _ rfl X1 e1 c1 (fun i hi => absurd hi (by omega)), fun z => absurd ?_ z⟩
    rw [X1.2 38 53 (by unfold OM; omega), a1]; exact Int32.le_refl _
  | succ n ih =>
    intro j h1 u3 u4 u5 u6 hj X1 e1 c1
    have hjN : j < N := by omega
    obtain ⟨r1, r2⟩ := hr j hjN
    have o : ∀ x k, x = 79 ∨ x = 77 ∨ x = 78 ∨ (x = 38 ∧ k = 53) → cm_I h1 x k = cm_I h x k := fun x k q => X1.2 x k (by unfold OM; omega)
    refine s211_13 (X1.ly L) _ _ _ _ _ _ ⟨fun z => absurd z (by rw [o 38 53 (by omega), a1]; exact nI_ge hjN (by omega)), fun _ => ?_⟩
    rw [nI_clamp (by omega), o 79 j (by omega), r1, nI_clamp (by omega), o 77 _ (by omega), o 78 _ (by omega), show (80 : Int32) + nI j = nI (80 + j) from nI_add 80 j, nI_clamp (by omega), nI_1, (a9 _ r2).1, (a9 _ r2).2.1, (hP j hjN).1, (hP j hjN).2]
    refine ⟨ix_nI (by omega) (by decide), ix_nI (by omega) (by decide), ix_nI (by omega) (by decide), ih (j + 1) _ _ _ _ _ (by omega) ((X1.set (Or.inr (Or.inl ⟨Or.inl rfl, by omega⟩))).set (Or.inr (Or.inl ⟨Or.inr rfl, by omega⟩))) (by rw [sI_o (Or.inl (by decide)), sI_o (Or.inl (by decide))]; exact e1) (fun c hc => ?_)⟩
    by_cases y : c = j
    · subst y; rw [sI_o (Or.inl (by decide)), sI_s, sI_s]; exact ⟨rfl, rfl⟩
    · rw [sI_o (Or.inl (by decide)), sI_o (Or.inr (by omega)), sI_o (Or.inr (by omega)), sI_o (Or.inl (by decide))]; exact c1 c (by omega)
/-! the bits of those that are used -/
theorem bt_1 (i : Nat) : bt 1 i = decide (i = 0) := by
  by_cases h : i < 32
  · have : ∀ i, i < 32 → bt 1 i = decide (i = 0) := by decide +kernel
    exact this i h
  · rw [b_big (by omega)]; symm; rw [decide_eq_false_iff_not]; omega
theorem bit_t {x : Int32} {j : Nat} (hj : j < 32) : (x >>> (nI j &&& 31)) &&& 1 = if bt x j then 1 else 0 := by
  refine b_ext fun i hi => ?_
  rw [b_and, b_sshr j hj x hi, bt_1]
  by_cases z : i = 0
  · subst z
    rw [Nat.add_zero, if_pos hj]
    cases bt x j <;> rfl
  · have e1 : decide (i = 0) = false := decide_eq_false z
    rw [e1, Bool.and_false]
    cases bt x j
    · exact (b_0 i).symm
    · show false = bt 1 i
      rw [bt_1, e1]
theorem bit_s {x : Int32} {j i : Nat} (hj : j < 32) (hi : i < 32) : bt (x ||| ((1 : Int32) <<< (nI j &&& 31))) i = (bt x i || decide (i = j)) := by
  rw [b_or, b_shl j hj 1 hi, bt_1]
  congr 1
  by_cases z : i = j
  · subst z; simp
  · have : ¬ (j ≤ i ∧ i - j = 0) := by omega
    rw [decide_eq_false z]
    by_cases w : j ≤ i
    · rw [decide_eq_true w, Bool.true_and, decide_eq_false (by omega)]
    · rw [decide_eq_false w, Bool.false_and]
theorem scan_append {H : List Nat → Nat} : ∀ (a b : List (List Nat)) (s : Nat × List Nat), scan H (a ++ b) s = scan H b (scan H a s)
  | [], _, _ => rfl
  | p :: r, b, s => scan_append r b _
/-- the best so far, in the reference -/
def MRow (h : cmH) (N : Nat) (r : Nat × List Nat) : Prop := cm_I h 38 54 = nI r.1 - 1 ∧ (0 < r.1 → ∀ i, i < N → cm_I h 80 i = nI (fL r.2 i))
theorem fL_app {pre : List Nat} {l i : Nat} : fL (pre ++ [l]) i = if i < pre.length then fL pre i else if i = pre.length then l else 0 := by
  unfold fL
  rw [List.getD_eq_getElem?_getD, List.getD_eq_getElem?_getD]
  by_cases h : i < pre.length
  · rw [if_pos h, List.getElem?_append_left h]
  · rw [if_neg h, List.getElem?_append_right (by omega)]
    by_cases z : i = pre.length
    · rw [if_pos z, z, Nat.sub_self]; rfl
    · rw [if_neg z, List.getElem?_eq_none (by rw [List.length_singleton]; omega)]; rfl
theorem m_arrange (hm : m ≤ 1000000) : ∀ (f : Nat) (pre : List Nat) (s : Nat × List Nat) (h : cmH) (x2 : Int32) (d : Nat) (KV : cmH → Prop), pre.length + f = N → f + 6 ≤ d → MB h N Q lp lt st g → (∀ i, i < pre.length → cm_I h 79 i = nI (fL pre i) ∧ fL pre i < N) → (∀ l, l < N → (bt x2 l = true ↔ l ∈ pre)) → s.1 ≤ 101 → MRow h N s → (∀ h', XI h h' OZ → (∀ i, i < pre.length → cm_I h' 79 i = cm_I h 79 i) → MRow h' N (scan (oHp N Q m lp lt st g) (cmpl N f pre) s) → KV h') → cm_cv sc d 210 [.ref 38, .int (nI pre.length), .int x2, .int (nI m)] h KV := by
  have H100 : ∀ p, oHp N Q m lp lt st g p ≤ 100 := fun p => oHrs_le
  intro f
  induction f with
  | zero =>
    intro pre s h x2 d KV hl hd A hr hb hs O k
    obtain ⟨d, rfl⟩ : ∃ e, d = e + 6 := ⟨d - 6, by omega⟩
    obtain ⟨L, a1, a2, a3, a4, a5, a6, a7, a8, a9⟩ := id A
    have hpl : pre.length = N := by omega
    have hHp := H100 pre
    refine cv_of rfl (s210_0 L _ _ _ _ _ ⟨fun z => absurd (by rw [a1, hpl]) z, fun _ => m_lasts (P := fun c => lp (fL (pad N pre) c)) (Tk := fun c => lt (fL (pad N pre) c)) (p := fL pre) hm A (fun c hc => hr c (by omega)) (fun c hc => by rw [fL_pad hpl hc]; exact ⟨rfl, rfl⟩) (fun h1 X1 => ?_)⟩)
    have X1o : XI h h1 OZ := X1.mono fun _ _ q => Or.inl q
    have L1 := X1.ly L
    have o : ∀ x j, x = 38 ∨ x = 79 ∨ x = 80 → cm_I h1 x j = cm_I h x j := fun x j q => X1.2 x j (by unfold OM; omega)
    have es : scan (oHp N Q m lp lt st g) (cmpl N 0 pre) s = if s.1 < oHp N Q m lp lt st g pre + 1 then (oHp N Q m lp lt st g pre + 1, pre) else s := rfl
    rw [es] at k
    refine s210_13 L1 _ _ _ _ _ _ ?_
    rw [o 38 54 (by omega), O.1]
    refine ⟨fun w => ⟨rfl, ?_⟩, fun w => ?_⟩
    · have := (b_le hHp hs).mp w
      rw [if_neg (by omega)] at k
      exact k h1 X1o (fun i _ => o 79 i (by omega)) ⟨by rw [o 38 54 (by omega)]; exact O.1, fun w i hi => by rw [o 80 i (by omega)]; exact O.2 w i hi⟩
    · have hlt' : ¬ oHp N Q m lp lt st g pre + 1 ≤ s.1 := fun q => w ((b_le hHp hs).mpr q)
      rw [if_pos (by omega)] at k
      suffices gen : ∀ (n j : Nat) (h2 : cmH) (x4 : Int32), j + n = N → XI h1 h2 (fun x k => x = 80 ∨ (x = 38 ∧ k = 54)) → cm_I h2 38 54 = nI (oHp N Q m lp lt st g pre) → (∀ i, i < j → cm_I h2 80 i = nI (fL pre i)) → cm_wp sc (d + 6) 210 33 [some (.ref 38), some (.int (nI pre.length)), some (.int x2), some (.int (nI m)), some (.int x4), some (.int (nI j))] [] h2 (fun v h' => v = none ∧ KV h') from gen N 0 _ _ (Nat.zero_add N) (XI.refl.set (Or.inr ⟨rfl, rfl⟩)) sI_s (fun i hi => absurd hi (by omega))
      intro n
      induction n with
      | zero =>
        intro j h2 x4 hj X2 e2 v2
        obtain rfl : j = N := by omega
        refine s210_33 (X2.ly L1) _ _ _ _ _ ⟨fun _ => ⟨rfl, k h2 (X1o.trans (X2.mono fun x k q => by unfold OZ; omega)) (fun i _ => by rw [X2.2 79 i (by omega)]; exact o 79 i (by omega)) ⟨?_, fun _ i hi => v2 i hi⟩⟩, fun z => absurd ?_ z⟩
        · rw [e2]
          show _ = nI (_ + 1) - 1
          rw [nI_pred]
        · rw [X2.2 38 53 (by omega), o 38 53 (by omega), a1]; exact Int32.le_refl _
      | succ n ihn =>
        intro j h2 x4 hj X2 e2 v2
        refine s210_33 (X2.ly L1) _ _ _ _ _ ⟨fun z => absurd z (by rw [X2.2 38 53 (by omega), o 38 53 (by omega), a1]; exact nI_ge (by omega) (by omega)), fun _ => ?_⟩
        rw [nI_clamp (by omega), X2.2 79 j (by omega), o 79 j (by omega), (hr j (by omega)).1, nI_1]
        refine ⟨ix_nI (by omega) (by decide), ihn (j + 1) _ _ (by omega) (X2.set (Or.inl rfl)) (by rw [sI_o (Or.inl (by decide))]; exact e2) (fun i hi => ?_)⟩
        by_cases y : i = j
        · subst y; exact sI_s
        · rw [sI_o (Or.inr y)]; exact v2 i (by omega)
  | succ f ih =>
    intro pre s h x2 d KV hl hd A hr hb hs O k
    obtain ⟨d, rfl⟩ : ∃ e, d = e + 1 := ⟨d - 1, by omega⟩
    obtain ⟨L, a1, a2, a3, a4, a5, a6, a7, a8, a9⟩ := id A
    have ek : cmpl N (f + 1) pre = (List.range N).flatMap fun l => if l ∈ pre then [] else cmpl N f (pre ++ [l]) := rfl
    rw [ek] at k
    refine cv_of rfl (s210_0 L _ _ _ _ _ ⟨fun _ => ?_, fun z => absurd (fun e => ?_) z⟩)
    case refine_2 =>
      rw [a1] at e
      have := nI_inj (by omega) (by omega) e
      omega
    suffices gen : ∀ (n j : Nat) (h1 : cmH) (s1 : Nat × List Nat) (u5 : Option Value), j + n = N → XI h h1 OZ → (∀ i, i < pre.length → cm_I h1 79 i = cm_I h 79 i) → s1.1 ≤ 101 → MRow h1 N s1 → scan (oHp N Q m lp lt st g) ((List.range j).flatMap fun l => if l ∈ pre then [] else cmpl N f (pre ++ [l])) s = s1 → cm_wp sc (d + 1) 210 66 [some (.ref 38), some (.int (nI pre.length)), some (.int x2), some (.int (nI m)), some (.int (nI j)), u5] [] h1 (fun v h' => v = none ∧ KV h') from gen N 0 h s _ (Nat.zero_add N) XI.refl (fun _ _ => rfl) hs O rfl
    intro n
    induction n with
    | zero =>
      intro j h1 s1 u5 hj X1 r1 hs1 O1 es
      obtain rfl : j = N := by omega
      refine s210_66 (X1.ly L) _ _ _ _ _ ⟨fun _ => ⟨rfl, k h1 X1 r1 (by rw [es]; exact O1)⟩, fun z => absurd ?_ z⟩
      rw [(A.x X1).2.1]; exact Int32.le_refl _
    | succ n ihn =>
      intro j h1 s1 u5 hj X1 r1 hs1 O1 es
      have A1 := A.x X1
      have L1 := X1.ly L
      have es' : scan (oHp N Q m lp lt st g) ((List.range (j + 1)).flatMap fun l => if l ∈ pre then [] else cmpl N f (pre ++ [l])) s = scan (oHp N Q m lp lt st g) (if j ∈ pre then [] else cmpl N f (pre ++ [j])) s1 := by
        rw [List.range_succ, List.flatMap_append, scan_append, es]
        congr 1
        simp only [List.flatMap_cons, List.flatMap_nil, List.append_nil]
      refine s210_66 L1 _ _ _ _ _ ⟨fun z => absurd z (by rw [A1.2.1]; exact nI_ge (by omega) (by omega)), fun _ => ?_⟩
      rw [bit_t (by omega)]
      have hbj := hb j (by omega)
      refine ⟨fun z => ?_, fun z => ?_⟩
      · have hin : j ∈ pre := hbj.mp (by
          cases hbt : bt x2 j with
          | true => rfl
          | false => rw [hbt] at z; exact absurd rfl z)
        refine s210_106 _ _ _ _ _ ?_
        rw [nI_1]
        rw [if_pos hin] at es'
        exact ihn (j + 1) h1 s1 _ (by omega) X1 r1 hs1 O1 es'
      · have hnin : ¬ j ∈ pre := fun w => z (by rw [hbj.mpr w]; decide)
        rw [if_neg hnin] at es'
        rw [nI_clamp (by omega), nI_1]
        refine ⟨ix_nI (by omega) (by decide), ?_⟩
        have X2 : XI h1 (cm_setI h1 79 pre.length (nI j)) OZ := XI.refl.set (Or.inr (Or.inl rfl))
        have := ih (pre ++ [j]) s1 (cm_setI h1 79 pre.length (nI j)) (x2 ||| ((1 : Int32) <<< (nI j &&& 31))) d (fun h' => cm_wp sc (d + 1) 210 106 [some (.ref 38), some (.int (nI pre.length)), some (.int x2), some (.int (nI m)), some (.int (nI j)), u5] [] h' (fun v h' => v = none ∧ KV h')) (by rw [List.length_append, List.length_singleton]; omega) (by omega) (A1.x X2) (fun i hi => ?_) (fun l hl => ?_) hs1 ⟨by rw [sI_o (Or.inl (by decide))]; exact O1.1, fun w i hi => by rw [sI_o (Or.inl (by decide))]; exact O1.2 w i hi⟩ (fun h3 X3 r3 O3 => s210_106 _ _ _ _ _ ?_)
        · rw [List.length_append, List.length_singleton] at this; exact this
        · rw [List.length_append, List.length_singleton] at hi
          rw [fL_app]
          by_cases y : i = pre.length
          · rw [y, sI_s, if_neg (Nat.lt_irrefl _), if_pos rfl]; exact ⟨rfl, by omega⟩
          · rw [sI_o (Or.inr y), if_pos (show i < pre.length by omega), r1 i (by omega)]; exact hr i (by omega)
        · rw [bit_s (by omega) (by omega), Bool.or_eq_true, decide_eq_true_eq, hb l hl, List.mem_append, List.mem_singleton]
        · rw [nI_1]
          refine ihn (j + 1) h3 _ _ (by omega) (X1.trans (X2.trans X3)) (fun i hi => ?_) (scan_le H100 _ _ hs1) O3 es'
          rw [r3 i (by rw [List.length_append, List.length_singleton]; omega), sI_o (Or.inr (by omega))]; exact r1 i hi
end MORD
