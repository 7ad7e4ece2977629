/-! ===== the class's order ===== -/
section CORD2
def scan (H : List Nat → Nat) : List (List Nat) → Nat × List Nat → Nat × List Nat
  | [], s => s
  | p :: r, s => scan H r (if s.1 < H p + 1 then (H p + 1, p) else s)
theorem scan_stop {H : List Nat → Nat} (hH : ∀ p, H p ≤ 100) : ∀ (Ls : List (List Nat)) (s : Nat × List Nat), 101 ≤ s.1 → scan H Ls s = s
  | [], s, _ => rfl
  | p :: r, s, q => by
    unfold scan
    rw [if_neg (by have := hH p; omega)]
    exact scan_stop hH r s q
theorem scan_le {H : List Nat → Nat} (hH : ∀ p, H p ≤ 100) : ∀ (Ls : List (List Nat)) (s : Nat × List Nat), s.1 ≤ 101 → (scan H Ls s).1 ≤ 101
  | [], s, q => q
  | p :: r, s, q => by
    unfold scan
    refine scan_le hH r _ ?_
    split
    · have := hH p; show H p + 1 ≤ 101; omega
    · exact q
/-- hours by layers' numbers -/
noncomputable def oHp (N Q m : Nat) (lp lt : Nat → Int32) (st g : Nat → Nat) (p : List Nat) : Nat := oHrs N Q m (fun c => lp (fL (pad N p) c)) (fun c => lt (fL (pad N p) c)) st g
noncomputable def oRes (N Q m : Nat) (lp lt : Nat → Int32) (st g : Nat → Nat) : Nat × List Nat := scan (oHp N Q m lp lt st g) (cmpl N N []) (0, [])
variable {sc : cmS} {d : Nat} {h : cmH} {K : Int32 → cmH → Prop} {KV : cmH → Prop} {N Q m : Nat} {a st g lc : Nat → Nat} {lp lt : Nat → Int32}
def OQ (N : Nat) (lc : Nat → Nat) (x k : Nat) : Prop := OP N lc x k ∨ x = 24 ∨ x = 25 ∨ (x = 21 ∧ (k = 6 ∨ k = 7))
theorem AS.q {h' : cmH} (A : AS h N Q lc st g) (X : XI h h' (OQ N lc)) (ht : ∀ c, c < N → 1 ≤ cm_I h' (lc c) 5) : AS h' N Q lc st g := by
  obtain ⟨L, G, S, a1, a2, a3, a4, a5, a6, a7, a8⟩ := A
  have o : ∀ x k, x < 88 → x ≠ 28 → x ≠ 29 → (x ≠ 26 ∨ k ≠ 12) → x ≠ 24 → x ≠ 25 → (x ≠ 21 ∨ k = 5) → cm_I h' x k = cm_I h x k := fun x k b1 b2 b3 b4 b5 b6 b7 => X.2 x k (by
    rintro (q | q)
    · exact OP.no S b1 b2 b3 b4 q
    · omega)
  refine ⟨X.ly L, ⟨X.FL G.1, by rw [o 26 3 (by decide) (by decide) (by decide) (by decide) (by decide) (by decide) (by decide)]; exact G.2.1, G.2.2.1, fun c hc => ⟨by rw [X.R]; exact (G.2.2.2 c hc).1, X.CE (G.2.2.2 c hc).2.1, ht c hc⟩⟩, S, by rw [o 21 5 (by decide) (by decide) (by decide) (by decide) (by decide) (by decide) (by decide)]; exact a1, a2, a3, by rw [o 26 4 (by decide) (by decide) (by decide) (by decide) (by decide) (by decide) (by decide)]; exact a4, by rw [o 12 1 (by decide) (by decide) (by decide) (by decide) (by decide) (by decide) (by decide)]; exact a5, a6, a7, fun s hs => ?_⟩
  rw [o 2 s (by decide) (by decide) (by decide) (Or.inl (by decide)) (by decide) (by decide) (Or.inl (by decide)), o 13 s (by decide) (by decide) (by decide) (Or.inl (by decide)) (by decide) (by decide) (Or.inl (by decide))]
  exact a8 s hs
/-- an order that is found lies in the class -/
def ORow (h : cmH) (N : Nat) (r : Nat × List Nat) : Prop := cm_I h 21 6 = nI r.1 - 1 ∧ (0 < r.1 → ∀ i, i < N → cm_I h 25 i = nI (fL r.2 i))
theorem b_le {H b : Nat} (hH : H ≤ 100) (hb : b ≤ 101) : (nI H ≤ nI b - 1) ↔ H + 1 ≤ b := by
  cases b with
  | zero =>
    constructor
    · intro q
      have : nI 0 - 1 < nI H := by
        rw [Int32.lt_iff_toInt_lt, nI_toInt (by omega), show (nI 0 - 1).toInt = -1 by decide]; omega
      exact absurd q (Int32.not_le.mpr this)
    · intro q; omega
  | succ b =>
    rw [nI_pred]
    constructor
    · intro q
      rcases Nat.lt_or_ge b H with w | w
      · exact absurd q (nI_ge w (by omega))
      · omega
    · intro q; exact nI_le (by omega) (by omega)
theorem XI.row {h h' : cmH} {P : Nat → Nat → Prop} {b : Nat} {r : Nat → Int32} (x : XI h h' P) (p : ∀ k, P b k) : XI h (cm_rowI h' b r) P := by
  refine ⟨?_, fun c k q => ?_⟩
  · have := x.1
    show (h'.1, h'.2.1, h'.2.2.1, _, h'.2.2.2.2.1, h'.2.2.2.2.2) = _
    rw [x.1]; rfl
  · have : c ≠ b := fun e => q (by rw [e]; exact p k)
    show (if c = b then r k else cm_I h' c k) = _
    rw [if_neg this]; exact x.2 c k q
theorem row_s {h : cmH} {b k : Nat} {r : Nat → Int32} : cm_I (cm_rowI h b r) b k = r k := if_pos rfl
theorem row_o {h : cmH} {b c k : Nat} {r : Nat → Int32} (q : c ≠ b) : cm_I (cm_rowI h b r) c k = cm_I h c k := if_neg q
theorem fL_pad {p : List Nat} {c : Nat} (hl : p.length = N) (hc : c < N) : fL (pad N p) c = fL p c := by
  unfold fL pad
  rw [List.getD_eq_getElem?_getD, List.getD_eq_getElem?_getD, List.getElem?_append_left (by omega)]
theorem fL_lF {b : Nat → Nat} {i : Nat} (hi : i < 6) : fL (lF b) i = b i := by
  have : i = 0 ∨ i = 1 ∨ i = 2 ∨ i = 3 ∨ i = 4 ∨ i = 5 := by omega
  rcases this with rfl | rfl | rfl | rfl | rfl | rfl <;> rfl
theorem c_findOrder (hm : m ≤ 1000000) (A : AS h N Q lc st g) (hlp : ∀ i, cm_I h 22 i = lp i) (hlt : ∀ i, cm_I h 23 i = lt i) (hT : ∀ i, i < N → 1 ≤ lt i) (OC : cm_I h 21 7 = nI m → ORow h N (oRes N Q m lp lt st g)) (k : ∀ h', XI h h' (OQ N lc) → AS h' N Q lc st g → cm_I h' 21 7 = nI m → ORow h' N (oRes N Q m lp lt st g) → KV h') : cm_cv sc (d + 7) 104 [.ref 21, .int (nI m), .ref 12, .ref 1] h KV := by
  obtain ⟨L, G, S, a1, a2, a3, a4, a5, a6, a7, a8⟩ := id A
  obtain ⟨ck1, ck2, ck3, ck4⟩ := chk_N a2 a3
  have H100 : ∀ p, oHp N Q m lp lt st g p ≤ 100 := fun p => oHrs_le
  refine cv_of rfl (s104_0 L _ _ _ _ ⟨fun _ => ?_, fun z => ⟨rfl, k h XI.refl A (Decidable.not_not.mp z) (OC (Decidable.not_not.mp z))⟩⟩)
  -- the loop over orders
  have loop : ∀ (Ls : List (List Nat)) (i : Nat) (s : Nat × List Nat) (h1 : cmH) (u6 : Option Value), chk N Ls = true → Ls.all (okL N) = true → i + Ls.length ≤ 720 → s.1 ≤ 101 → XI h h1 (OQ N lc) → AS h1 N Q lc st g → ORow h1 N s → (∀ p r, Ls = p :: r → TR h1 (fL (pad N p))) → scan (oHp N Q m lp lt st g) Ls s = oRes N Q m lp lt st g → cm_wp sc (d + 7) 104 45 [some (.ref 21), some (.int (nI m)), some (.ref 12), some (.ref 1), some (.int 1), some (.int (nI i)), u6] [] h1 (fun v h' => v = none ∧ KV h') := by
    intro Ls
    induction Ls with
    | nil => intro i s h1 u6 c; cases c
    | cons p r ih =>
      intro i s h1 u6 c ok hi hs X1 A1 O1 T1 es
      have L1 := A1.1
      rw [List.length_cons] at hi
      have okp : okL N p = true := by rw [List.all_cons, Bool.and_eq_true] at ok; exact ok.1
      have okr : r.all (okL N) = true := by rw [List.all_cons, Bool.and_eq_true] at ok; exact ok.2
      have fin : ∀ (h2 : cmH) (x4 x5 : Int32) (u : Option Value), XI h h2 (OQ N lc) → AS h2 N Q lc st g → ORow h2 N (oRes N Q m lp lt st g) → cm_wp sc (d + 7) 104 118 [some (.ref 21), some (.int (nI m)), some (.ref 12), some (.ref 1), some (.int x4), some (.int x5), u] [] h2 (fun v h' => v = none ∧ KV h') := fun h2 x4 x5 u X2 A2 O2 => by
        refine s104_118 A2.1 _ _ _ _ ⟨rfl, k _ (X2.set (Or.inr (Or.inr (Or.inr ⟨rfl, Or.inr rfl⟩)))) ?_ sI_s ⟨by rw [sI_o (Or.inr (by decide))]; exact O2.1, fun w i hi => by rw [sI_o (Or.inl (by decide))]; exact O2.2 w i hi⟩⟩
        refine A2.q (XI.set (P := OQ N lc) XI.refl (Or.inr (Or.inr (Or.inr ⟨rfl, Or.inr rfl⟩)))) (fun c hc => ?_)
        rw [sI_o (Or.inl (by have := (S.2.1 c hc).1; omega))]; exact (A2.2.1.2.2.2 c hc).2.2
      refine s104_45 L1 _ _ _ _ ⟨fun z => absurd z (nI_ge (b := 720) (by omega) (by decide)), fun _ => ⟨fun z => absurd z (by decide), fun _ => ⟨fun z => ?_, fun z => ?_⟩⟩⟩
      · -- nothing is better
        have h101 : 101 ≤ s.1 := by
          rw [O1.1] at z
          exact (b_le (H := 100) (by decide) hs).mp z
        rw [scan_stop H100 _ _ h101] at es
        exact fin h1 _ _ _ X1 A1 (by rw [← es]; exact O1)
      · have T1 := T1 p r rfl
        have lp1 : ∀ i, cm_I h1 22 i = lp i := fun i => by
          have no : ¬ OQ N lc 22 i := by
            rintro (q | q)
            · exact OP.no S (by decide) (by decide) (by decide) (Or.inl (by decide)) q
            · omega
          rw [X1.2 22 i no]; exact hlp i
        have lt1 : ∀ i, cm_I h1 23 i = lt i := fun i => by
          have no : ¬ OQ N lc 23 i := by
            rintro (q | q)
            · exact OP.no S (by decide) (by decide) (by decide) (Or.inl (by decide)) q
            · omega
          rw [X1.2 23 i no]; exact hlt i
        have okp' := okp
        unfold okL at okp'
        simp only [Bool.and_eq_true, beq_iff_eq, List.all_eq_true, decide_eq_true_eq] at okp'
        obtain ⟨hpl, hpa⟩ := okp'
        have ent : ∀ c, c < N → fL (pad N p) c < N := fun c hc => by
          rw [fL_pad hpl hc]
          unfold fL
          rw [List.getD_eq_getElem?_getD, List.getElem?_eq_getElem (by omega)]
          exact hpa _ (List.getElem_mem (by omega : c < p.length))
        refine c_hoursTried (m := m) A1 T1 (fun c hc => by rw [lt1]; exact hT _ (ent c hc)) hm (fun h2 X2 A2 => ?_)
        have X2q : XI h1 h2 (OQ N lc) := X2.mono fun _ _ q => Or.inl q
        have eH : oHrs N Q m (fun c => cm_I h1 22 (fL (pad N p) c)) (fun c => cm_I h1 23 (fL (pad N p) c)) st g = oHp N Q m lp lt st g p := by
          unfold oHp
          congr 1
          · funext c; exact lp1 _
          · funext c; exact lt1 _
        rw [eH]
        have o21 : ∀ j, cm_I h2 21 j = cm_I h1 21 j := fun j => X2.2 21 j (OP.no S (by decide) (by decide) (by decide) (Or.inl (by decide)))
        have o24 : ∀ j, cm_I h2 24 j = cm_I h1 24 j := fun j => X2.2 24 j (OP.no S (by decide) (by decide) (by decide) (Or.inl (by decide)))
        have o25 : ∀ j, cm_I h2 25 j = cm_I h1 25 j := fun j => X2.2 25 j (OP.no S (by decide) (by decide) (by decide) (Or.inl (by decide)))
        have T2 : TR h2 (fL (pad N p)) := fun j hj => by rw [o24]; exact T1 j hj
        have hHp := H100 p
        -- behind the comparison
        have next : ∀ (h3 : cmH) (s' : Nat × List Nat) (x6 : Int32), s'.1 ≤ 101 → XI h h3 (OQ N lc) → AS h3 N Q lc st g → ORow h3 N s' → TR h3 (fL (pad N p)) → scan (oHp N Q m lp lt st g) r s' = oRes N Q m lp lt st g → cm_wp sc (d + 7) 104 106 [some (.ref 21), some (.int (nI m)), some (.ref 12), some (.ref 1), some (.int 1), some (.int (nI i)), some (.int x6)] [] h3 (fun v h' => v = none ∧ KV h') := fun h3 s' x6 hs' X3 A3 O3 T3 es' => by
          refine s104_106 A3.1 _ _ _ _ (c_next A3.1 A3.2.2.2.1 a2 a3 T3 (fun e => ?_) (fun a' e h4 X4 T4 => ?_))
          · cases r with
            | nil =>
              refine s104_110 _ _ _ _ _ ?_
              rw [nI_1]
              refine s104_45 A3.1 _ _ _ _ ⟨fun _ => fin h3 _ _ _ X3 A3 (by rw [← es']; exact O3), fun _ => ⟨fun _ => fin h3 _ _ _ X3 A3 (by rw [← es']; exact O3), fun z => absurd rfl z⟩⟩
            | cons p2 r2 =>
              unfold chk at c
              rw [e] at c
              simp at c
          · cases r with
            | nil =>
              unfold chk at c
              rw [e] at c
              cases c
            | cons p2 r2 =>
              have c2 : chk N (p2 :: r2) = true ∧ lF a' = pad N p2 := by
                unfold chk at c
                rw [e] at c
                simp only [Bool.and_eq_true, beq_iff_eq] at c
                exact ⟨c.2, c.1⟩
              refine s104_110 _ _ _ _ _ ?_
              rw [nI_1]
              have X4q : XI h3 h4 (OQ N lc) := X4.mono fun x k q => Or.inr (Or.inl q)
              refine ih (i + 1) s' h4 _ c2.1 okr (by omega) hs' (X3.trans X4q) (A3.q X4q fun c hc => ?_) ⟨by rw [X4.2 21 6 (by omega)]; exact O3.1, fun w j hj => by rw [X4.2 25 j (by omega)]; exact O3.2 w j hj⟩ (fun p' r' e' => ?_) es'
              · rw [X4.2 _ _ (by have := (S.2.1 c hc).1; omega)]; exact (A3.2.1.2.2.2 c hc).2.2
              · cases e'
                intro j hj
                rw [← c2.2, fL_lF hj]; exact T4 j hj
        have es2 : scan (oHp N Q m lp lt st g) r (if s.1 < oHp N Q m lp lt st g p + 1 then (oHp N Q m lp lt st g p + 1, p) else s) = oRes N Q m lp lt st g := es
        refine s104_74 A2.1 _ _ _ _ _ ?_
        rw [o21 6, O1.1]
        refine ⟨fun w => ?_, fun w => ?_⟩
        · have := (b_le hHp hs).mp w
          rw [if_neg (by omega)] at es2
          exact next h2 s _ hs (X1.trans X2q) A2 ⟨by rw [o21]; exact O1.1, fun w j hj => by rw [o25]; exact O1.2 w j hj⟩ T2 es2
        · have hlt' : ¬ oHp N Q m lp lt st g p + 1 ≤ s.1 := fun q => w ((b_le hHp hs).mpr q)
          rw [if_pos (by omega)] at es2
          have k24 := ly_k A2.1 24 rfl
          have k25 := ly_k A2.1 25 rfl
          refine ⟨⟨k24.2, k25.2, k24.1, k25.1, by decide, by decide, by decide, by rw [ly_ln A2.1 24 rfl]; decide, by rw [ly_ln A2.1 25 rfl]; decide⟩, ?_⟩
          have X3 : XI h2 (cm_rowI (cm_setI h2 21 6 (nI (oHp N Q m lp lt st g p))) 25 (va_cpy (cm_I (cm_setI h2 21 6 (nI (oHp N Q m lp lt st g p))) 24) (cm_I (cm_setI h2 21 6 (nI (oHp N Q m lp lt st g p))) 25) (0 : Int32).toNatClampNeg (0 : Int32).toNatClampNeg (6 : Int32).toNatClampNeg)) (OQ N lc) := XI.row (XI.set (P := OQ N lc) XI.refl (Or.inr (Or.inr (Or.inr ⟨rfl, Or.inl rfl⟩)))) (fun k => Or.inr (Or.inr (Or.inl rfl)))
          have r3 : ∀ x j, x ≠ 25 → ¬ (x = 21 ∧ j = 6) → cm_I (cm_rowI (cm_setI h2 21 6 (nI (oHp N Q m lp lt st g p))) 25 (va_cpy (cm_I (cm_setI h2 21 6 (nI (oHp N Q m lp lt st g p))) 24) (cm_I (cm_setI h2 21 6 (nI (oHp N Q m lp lt st g p))) 25) (0 : Int32).toNatClampNeg (0 : Int32).toNatClampNeg (6 : Int32).toNatClampNeg)) x j = cm_I h2 x j := fun x j q q2 => (row_o q).trans (sI_o (by omega))
          have r25 : ∀ j, j < 6 → cm_I (cm_rowI (cm_setI h2 21 6 (nI (oHp N Q m lp lt st g p))) 25 (va_cpy (cm_I (cm_setI h2 21 6 (nI (oHp N Q m lp lt st g p))) 24) (cm_I (cm_setI h2 21 6 (nI (oHp N Q m lp lt st g p))) 25) (0 : Int32).toNatClampNeg (0 : Int32).toNatClampNeg (6 : Int32).toNatClampNeg)) 25 j = cm_I h2 24 j := fun j hj => by
            rw [row_s, show (0 : Int32).toNatClampNeg = 0 by decide, show (6 : Int32).toNatClampNeg = 6 by decide]
            unfold va_cpy
            rw [if_pos ⟨by omega, by omega⟩, Nat.zero_add, Nat.sub_zero]
            exact sI_o (Or.inl (by decide))
          have r216 : cm_I (cm_rowI (cm_setI h2 21 6 (nI (oHp N Q m lp lt st g p))) 25 (va_cpy (cm_I (cm_setI h2 21 6 (nI (oHp N Q m lp lt st g p))) 24) (cm_I (cm_setI h2 21 6 (nI (oHp N Q m lp lt st g p))) 25) (0 : Int32).toNatClampNeg (0 : Int32).toNatClampNeg (6 : Int32).toNatClampNeg)) 21 6 = nI (oHp N Q m lp lt st g p) := (row_o (by decide)).trans sI_s
          generalize (cm_rowI (cm_setI h2 21 6 (nI (oHp N Q m lp lt st g p))) 25 (va_cpy (cm_I (cm_setI h2 21 6 (nI (oHp N Q m lp lt st g p))) 24) (cm_I (cm_setI h2 21 6 (nI (oHp N Q m lp lt st g p))) 25) (0 : Int32).toNatClampNeg (0 : Int32).toNatClampNeg (6 : Int32).toNatClampNeg)) = h3 at X3 r3 r25 r216 ⊢
          refine next h3 (oHp N Q m lp lt st g p + 1, p) _ (by show _ + 1 ≤ 101; omega) (X1.trans (X2q.trans X3)) (A2.q X3 fun c hc => ?_) ⟨?_, fun _ j hj => ?_⟩ (fun j hj => ?_) es2
          · rw [r3 _ _ (by have := (S.2.1 c hc).1; omega) (by have := (S.2.1 c hc).1; omega)]; exact (A2.2.1.2.2.2 c hc).2.2
          · rw [r216]
            show _ = nI (_ + 1) - 1
            rw [nI_pred]
          · rw [r25 j (by omega), (T2 j (by omega)).1]
            show nI (fL (pad N p) j) = nI (fL p j)
            rw [fL_pad hpl hj]
          · rw [r3 24 j (by decide) (by omega)]; exact T2 j hj
  -- the first order
  suffices gen : ∀ (n j : Nat) (h1 : cmH) (u5 u6 : Option Value), j + n = 6 → XI h h1 (OQ N lc) → AS h1 N Q lc st g → (∀ i, i < j → cm_I h1 24 i = nI i) → cm_wp sc (d + 7) 104 12 [some (.ref 21), some (.int (nI m)), some (.ref 12), some (.ref 1), some (.int (nI j)), u5, u6] [] h1 (fun v h' => v = none ∧ KV h') from gen 6 0 h _ _ rfl XI.refl A (fun i hi => absurd hi (by omega))
  intro n
  induction n with
  | zero =>
    intro j h1 u5 u6 hj X1 A1 v1
    obtain rfl : j = 6 := by omega
    refine s104_12 A1.1 _ _ _ _ ⟨fun _ => ?_, fun z => absurd (by decide) z⟩
    have X2 : XI h1 (cm_setI h1 21 6 (-1)) (OQ N lc) := XI.refl.set (Or.inr (Or.inr (Or.inr ⟨rfl, Or.inl rfl⟩)))
    refine loop (cmpl N N []) 0 (0, []) _ _ ck1 ck2 (by omega) (by decide) (X1.trans X2) (A1.q X2 fun c hc => ?_) ⟨by rw [sI_s]; decide, fun w => absurd w (by decide)⟩ (fun p r e => ?_) rfl
    · rw [sI_o (Or.inl (by have := (S.2.1 c hc).1; omega))]; exact (A1.2.1.2.2.2 c hc).2.2
    · rw [e] at ck4
      cases ck4
      intro i hi
      rw [sI_o (Or.inl (by decide)), v1 i hi]
      have : fL (pad N (List.range N)) i = i := by
        clear v1 e
        have q1 : N = 1 ∨ N = 2 ∨ N = 3 ∨ N = 4 ∨ N = 5 ∨ N = 6 := by omega
        have q2 : i = 0 ∨ i = 1 ∨ i = 2 ∨ i = 3 ∨ i = 4 ∨ i = 5 := by omega
        rcases q1 with rfl | rfl | rfl | rfl | rfl | rfl <;> rcases q2 with rfl | rfl | rfl | rfl | rfl | rfl <;> decide
      rw [this]; exact ⟨rfl, hi⟩
  | succ n ih =>
    intro j h1 u5 u6 hj X1 A1 v1
    refine s104_12 A1.1 _ _ _ _ ⟨fun z => absurd z (nI_ge (b := 6) (by omega) (by decide)), fun _ => ?_⟩
    rw [nI_clamp (by omega), nI_1]
    have X2 : XI h1 (cm_setI h1 24 j (nI j)) (OQ N lc) := XI.refl.set (Or.inr (Or.inl rfl))
    refine ⟨ix_nI (by omega) (by decide), ih (j + 1) _ _ _ (by omega) (X1.trans X2) (A1.q X2 fun c hc => ?_) (fun i hi => ?_)⟩
    · rw [sI_o (Or.inl (by have := (S.2.1 c hc).1; omega))]; exact (A1.2.1.2.2.2 c hc).2.2
    · by_cases y : i = j
      · subst y; exact sI_s
      · rw [sI_o (Or.inr y)]; exact v1 i (by omega)
end CORD2
