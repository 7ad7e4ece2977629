/-! ===== the class's reader: compared, unit, part, condition ===== -/
section CCOND
variable {sc : cmS} {T : Nat → Nat} {n tb : Nat} {lt : Nat → Int32}
theorem i64_le {a b : Int32} : a.toInt64 ≤ b.toInt64 ↔ a ≤ b := by rw [Int64.le_iff_toInt_le, Int32.toInt_toInt64, Int32.toInt_toInt64, Int32.le_iff_toInt_le]
theorem i64_eq {a b : Int32} : a.toInt64 = b.toInt64 ↔ a = b := ⟨fun e => by rw [← lg_l2i_i2l a, e, lg_l2i_i2l], fun e => by rw [e]⟩
theorem pp_sq0 {N dep p : Nat} {w : Option Nat} : pp T n (N + 1) 0 dep (sq T n p) w = pp T n (N + 1) 0 dep p w := by
  show pAtom T n (pp T n N) dep (sq T n p) w = pAtom T n (pp T n N) dep p w
  unfold pAtom
  rw [sg_sq, sq_idem]
theorem pp_sq2 {N dep p : Nat} {w : Option Nat} : pp T n (N + 2) 2 dep (sq T n p) w = pp T n (N + 2) 2 dep p w := by
  show pSeq (pp T n (N + 1)) 0 1 dep (sq T n p) w = pSeq (pp T n (N + 1)) 0 1 dep p w
  unfold pSeq
  rw [pp_sq0]
theorem pp_sq4 {N dep p : Nat} {w : Option Nat} (hN : 3 ≤ N) : pp T n N 4 dep (sq T n p) w = pp T n N 4 dep p w := by
  obtain ⟨N, rfl⟩ : ∃ m, N = m + 3 := ⟨N - 3, by omega⟩
  show pSeq (pp T n (N + 2)) 2 3 dep (sq T n p) w = pSeq (pp T n (N + 2)) 2 3 dep p w
  unfold pSeq
  rw [pp_sq2]
def cC (sc : cmS) (T : Nat → Nat) (n tb : Nat) (lt : Nat → Int32) (N : Nat) : Prop := ∀ (d : Nat) (h : cmH) (K : Int32 → cmH → Prop) (dep p : Nat) (w : Option Nat) (c1 : List Nat) (a : Int32), RS h T n tb lt → RA h n p w → dep ≤ 6 → 3 * (6 - dep) + 13 ≤ d → 16 * (n - p) < N → (w = none → EV lt c1 a) → (∀ v h', XI h h' P_r → RA h' n (pp T n N 5 dep p w).1 (pp T n N 5 dep p w).2.1 → ((pp T n N 5 dep p w).2.1 = none → EV lt (c1 ++ (pp T n N 5 dep p w).2.2) v) → (v = 0 ∨ v = 1) → K v h') → cm_ci sc d 51 [.ref 9, .long a.toInt64, .int (nI dep)] h K
def cU (sc : cmS) (T : Nat → Nat) (n tb : Nat) (lt : Nat → Int32) (N : Nat) : Prop := ∀ (d : Nat) (h : cmH) (K : Int32 → cmH → Prop) (dep p : Nat) (w : Option Nat), RS h T n tb lt → RA h n p w → dep ≤ 6 → 3 * (6 - dep) + 14 ≤ d → 16 * (n - p) + 3 < N → (∀ v h', XI h h' P_r → RA h' n (pp T n N 6 dep p w).1 (pp T n N 6 dep p w).2.1 → ((pp T n N 6 dep p w).2.1 = none → EV lt (pp T n N 6 dep p w).2.2 v) → (v = 0 ∨ v = 1) → K v h') → cm_ci sc d 45 [.ref 9, .int (nI dep)] h K
def cM (sc : cmS) (T : Nat → Nat) (n tb : Nat) (lt : Nat → Int32) (M k e N : Nat) : Prop := ∀ (d : Nat) (h : cmH) (K : Int32 → cmH → Prop) (dep p : Nat) (w : Option Nat) (c1 : List Nat) (a : Int32), RS h T n tb lt → RA h n p w → dep ≤ 6 → 3 * (6 - dep) + e ≤ d → 16 * (n - p) + rk k < N → (w = none → EV lt c1 a) → (a = 0 ∨ a = 1) → (∀ v h', XI h h' P_r → RA h' n (pp T n N k dep p w).1 (pp T n N k dep p w).2.1 → ((pp T n N k dep p w).2.1 = none → EV lt (c1 ++ (pp T n N k dep p w).2.2) v) → (v = 0 ∨ v = 1) → K v h') → cm_ci sc d M [.ref 9, .int a, .int (nI dep)] h K
def cBL (sc : cmS) (T : Nat → Nat) (n tb : Nat) (lt : Nat → Int32) (M pc k e N : Nat) : Prop := ∀ (d : Nat) (h : cmH) (Q : Option Value → cmH → Prop) (dep p i : Nat) (w : Option Nat) (c1 : List Nat) (a x1 : Int32) (u5 : Option Value), RS h T n tb lt → RA h n p w → i ≤ p → dep ≤ 6 → 3 * (6 - dep) + e ≤ d → 16 * (n - p) < N → (w = none → EV lt c1 a) → (a = 0 ∨ a = 1) → (∀ v h', XI h h' P_r → RA h' n (pp T n N k dep p w).1 (pp T n N k dep p w).2.1 → ((pp T n N k dep p w).2.1 = none → EV lt (c1 ++ (pp T n N k dep p w).2.2) v) → (v = 0 ∨ v = 1) → Q (some (.int v)) h') → cm_wp sc d M pc [some (.ref 9), some (.int x1), some (.int (nI dep)), some (.int a), some (.int (nI i)), u5] [] h Q
theorem c_compared {N : Nat} (HS : cJ sc T n tb lt 46 4 12 N) : cC sc T n tb lt (N + 1) := by
  intro d h K dep p w c1 a S A hdep hd hN E k
  obtain ⟨d, rfl⟩ : ∃ e, d = e + 1 := ⟨d - 1, by omega⟩
  have h160 := S.m160
  have hle := S.2.1.le (p := p) (w := w)
  have ek : pp T n (N + 1) 5 dep p w = pCmp T n (pp T n N) dep p w := rfl
  rw [ek] at k
  have g1 : p ≤ sq T n p := sq_ge
  refine ci_of rfl (s51_0 S.1 _ _ _ _ _ (c_sign S.1 S.2.1 A fun h1 X1 A1 => ?_))
  have S1 := S.x X1
  have go : (sg T n p w = 61 ∨ sg T n p w = 60 ∨ sg T n p w = 62) → ∀ u5 u6, cm_wp sc (d + 1) 51 33 [some (.ref 9), some (.long a.toInt64), none, some (.int (nI dep)), some (.int (nI (sg T n p w))), u5, u6] [] h1 (fun v h' => ∃ x, v = some (.int x) ∧ K x h') := fun z u5 u6 => by
    unfold pCmp at k
    rw [if_pos z] at k
    obtain ⟨hl, ew, hTq⟩ := sg_lt (T := T) (n := n) (p := p) (w := w) rfl (by omega)
    refine s51_33 S1.1 _ _ _ _ _ (HS d _ _ dep (sq T n p + 1) w (S1.x X_nx) (A1.nx (h' := h) hl) hdep (by omega) (by show 16 * (n - (sq T n p + 1)) + 2 < N; omega) (fun v h2 X2 A2 E2 => ?_))
    have fin : K (bo (sg T n p w) a v) h2 := k _ h2 (X1.trans (X_nx.trans X2)) A2 (fun e => by rw [← List.append_assoc]; exact EV.bin (E ew) (E2 e) (by omega)) (by
      rcases z with z | z | z
      · rw [z]; show (if a = v then (1 : Int32) else 0) = 0 ∨ (if a = v then (1 : Int32) else 0) = 1
        split <;> simp
      · rw [z]; show (if v ≤ a then (0 : Int32) else 1) = 0 ∨ (if v ≤ a then (0 : Int32) else 1) = 1
        split <;> simp
      · rw [z]; show (if a ≤ v then (0 : Int32) else 1) = 0 ∨ (if a ≤ v then (0 : Int32) else 1) = 1
        split <;> simp)
    refine s51_48 _ _ _ _ _ _ ⟨fun z1 => ⟨fun z2 => ⟨fun z3 => ai ?_, fun z3 => ai ?_⟩, fun z2 => ⟨fun z3 => ai ?_, fun z3 => ai ?_⟩⟩, fun z1 => ⟨fun z3 => ai ?_, fun z3 => ai ?_⟩⟩
    · have e : sg T n p w = 62 := by
        rcases z with z | z | z
        · exact absurd (by rw [z]; rfl) z1
        · exact absurd (by rw [z]; rfl) z2
        · exact z
      rw [e] at fin
      rw [show bo 62 a v = 0 from if_pos (i64_le.mp ((lg_cmp_le _ _).mp z3))] at fin
      exact fin
    · have e : sg T n p w = 62 := by
        rcases z with z | z | z
        · exact absurd (by rw [z]; rfl) z1
        · exact absurd (by rw [z]; rfl) z2
        · exact z
      rw [e] at fin
      rw [show bo 62 a v = 1 from if_neg (fun q => z3 ((lg_cmp_le _ _).mpr (i64_le.mpr q)))] at fin
      exact fin
    · have e : sg T n p w = 60 := nI_inj (by omega) (by decide) (Decidable.not_not.mp z2)
      rw [e] at fin
      rw [show bo 60 a v = 0 from if_pos (i64_le.mp ((lg_cmp_ge _ _).mp z3))] at fin
      exact fin
    · have e : sg T n p w = 60 := nI_inj (by omega) (by decide) (Decidable.not_not.mp z2)
      rw [e] at fin
      rw [show bo 60 a v = 1 from if_neg (fun q => z3 ((lg_cmp_ge _ _).mpr (i64_le.mpr q)))] at fin
      exact fin
    · have e : sg T n p w = 61 := nI_inj (by omega) (by decide) (Decidable.not_not.mp z1)
      rw [e] at fin
      rw [show bo 61 a v = 0 from if_neg (fun q => z3 ((lg_cmp_eq _ _).mpr (i64_eq.mpr q)))] at fin
      exact fin
    · have e : sg T n p w = 61 := nI_inj (by omega) (by decide) (Decidable.not_not.mp z1)
      rw [e] at fin
      rw [show bo 61 a v = 1 from if_pos (i64_eq.mp ((lg_cmp_eq _ _).mp (Decidable.not_not.mp z3)))] at fin
      exact fin
  refine s51_4 S1.1 _ _ _ _ _ _ ⟨fun z => go (Or.inl (nI_inj (by omega) (by decide) z)) _ _, fun z1 => ⟨fun z => go (Or.inr (Or.inl (nI_inj (by omega) (by decide) z))) _ _, fun z2 => ⟨fun z => go (Or.inr (Or.inr (nI_inj (by omega) (by decide) z))) _ _, fun z3 => ?_⟩⟩⟩
  have nz : ¬ (sg T n p w = 61 ∨ sg T n p w = 60 ∨ sg T n p w = 62) := by
    rintro (q | q | q)
    · exact z1 (by rw [q]; rfl)
    · exact z2 (by rw [q]; rfl)
    · exact z3 (by rw [q]; rfl)
  unfold pCmp at k
  rw [if_neg nz] at k
  refine c_fail S1.1 A1 h160 fun h2 X2 A2 => s51_31 _ _ _ _ _ (ai (k 0 h2 (X1.trans X2) A2 (fun e => ?_) (Or.inl rfl)))
  unfold fl at e
  cases w <;> cases e
theorem c_unit {N : Nat} (HS : cJ sc T n tb lt 46 4 12 N) (HC : cC sc T n tb lt N) (HU : ∀ m, m ≤ N → cU sc T n tb lt m) (HM : ∀ m, m ≤ N → cM sc T n tb lt 52 9 16 m) : cU sc T n tb lt (N + 1) := by
  intro d h K dep p w S A hdep hd hN k
  obtain ⟨d, rfl⟩ : ∃ e, d = e + 1 := ⟨d - 1, by omega⟩
  have h160 := S.m160
  have hle := S.2.1.le (p := p) (w := w)
  have ek : pp T n (N + 1) 6 dep p w = pUnit T n (pp T n N) dep p w := rfl
  rw [ek] at k
  have g1 : p ≤ sq T n p := sq_ge
  refine ci_of rfl (s45_0 S.1 _ _ _ (c_sign S.1 S.2.1 A fun h1 X1 A1 => ?_))
  have S1 := S.x X1
  unfold pUnit at k
  have w28 : (sg T n p w = 33 ∨ sg T n p w = 40) → ∀ u3, cm_wp sc (d + 1) 45 28 [some (.ref 9), some (.int (nI dep)), some (.int (nI (sg T n p w))), u3] [] h1 (fun v h' => ∃ x, v = some (.int x) ∧ K x h') := fun z u3 => by
    obtain ⟨hl, ew, hTq⟩ := sg_lt (T := T) (n := n) (p := p) (w := w) rfl (by omega)
    refine s45_28 S1.1 _ _ _ ⟨fun z1 => ?_, fun z1 => ?_⟩
    · have hdp : dep < 6 := by
        rcases Nat.lt_or_ge dep 6 with y | y
        · exact y
        · exact absurd z1 (Int32.not_lt.mpr (nI_le (a := 6) y (by omega)))
      rw [show nI dep + (1 : Int32) = nI (dep + 1) from nI_1 dep]
      refine ⟨fun z2 => ?_, fun z2 => ?_⟩
      · have e : sg T n p w = 40 := by
          rcases z with z | z
          · exact absurd (by rw [z]; rfl) z2
          · exact z
        rw [if_neg (by omega), if_pos e, if_pos hdp] at k
        obtain ⟨N, rfl⟩ : ∃ m, N = m + 1 := ⟨N - 1, by omega⟩
        have e11 : pp T n (N + 1) 11 (dep + 1) (sq T n p + 1) w = pSeq (pp T n N) 6 9 (dep + 1) (sq T n p + 1) w := rfl
        rw [e11] at k
        have M1 := pp_mono (T := T) (n := n) N 6 (dep + 1) (sq T n p + 1) w (by omega)
        refine HU N (by omega) d _ _ (dep + 1) (sq T n p + 1) w (S1.x X_nx) (A1.nx (h' := h) hl) (by omega) (by omega) (by omega) (fun v h2 X2 A2 E2 hv => ?_)
        have S2 := (S1.x X_nx).x X2
        refine s45_80 S2.1 _ _ _ _ ?_
        rw [show nI dep + (1 : Int32) = nI (dep + 1) from nI_1 dep]
        refine HM N (by omega) d h2 _ (dep + 1) _ _ _ v S2 A2 (by omega) (by omega) (by show 16 * (n - (pp T n N 6 (dep + 1) (sq T n p + 1) w).1) + 1 < N; omega) E2 hv (fun v3 h3 X3 A3 E3 hv3 => ?_)
        have S3 := S2.x X3
        refine s45_86 S3.1 _ _ _ _ ?_
        obtain ⟨d, rfl⟩ : ∃ e, d = e + 1 := ⟨d - 1, by omega⟩
        refine c_expect (r := pSeq (pp T n N) 6 9 (dep + 1) (sq T n p + 1) w) (c := 41) S3.1 S3.2.1 A3 (by decide) (by decide) (fun h4 X4 A4 => s45_93 _ _ _ ⟨hv3, ai (k v3 h4 (X1.trans (X_nx.trans (X2.trans (X3.trans X4)))) A4 (fun e => ?_) hv3)⟩)
        have : (exq T n (pSeq (pp T n N) 6 9 (dep + 1) (sq T n p + 1) w) 41).2.2 = (pSeq (pp T n N) 6 9 (dep + 1) (sq T n p + 1) w).2.2 := by unfold exq; split <;> rfl
        rw [this]
        refine E3 ?_
        unfold exq at e
        split at e
        · exact e
        · dsimp only at e
          unfold fl at e
          split at e <;> cases e
      · have e : sg T n p w = 33 := nI_inj (by omega) (by decide) (Decidable.not_not.mp z2)
        rw [if_pos e, if_pos hdp] at k
        refine HU N (by omega) d _ _ (dep + 1) (sq T n p + 1) w (S1.x X_nx) (A1.nx (h' := h) hl) (by omega) (by omega) (by omega) (fun v h2 X2 A2 E2 hv => ?_)
        have fin : K (if v = 0 then 1 else 0) h2 := k _ h2 (X1.trans (X_nx.trans X2)) A2 (fun e => (E2 e).not) (by split <;> simp)
        refine s45_63 _ _ _ _ ⟨fun y => ai ?_, fun y => ai ?_⟩
        · rw [if_neg y] at fin; exact fin
        · rw [if_pos (Decidable.not_not.mp y)] at fin; exact fin
    · have hdp : ¬ dep < 6 := fun y => z1 ((Int32.lt_iff_toInt_lt).mpr (by rw [nI_toInt (by omega)]; show ((dep : Nat) : Int) < 6; omega))
      have fin : ∀ h2, XI h1 h2 P_r → RA h2 n (sq T n p) (fl w (sq T n p)) → K 0 h2 := fun h2 X2 A2 => by
        rcases z with z | z
        · rw [if_pos z, if_neg hdp] at k
          exact k 0 h2 (X1.trans X2) A2 (fun e => by unfold fl at e; cases w <;> cases e) (Or.inl rfl)
        · rw [if_neg (by omega), if_pos z, if_neg hdp] at k
          exact k 0 h2 (X1.trans X2) A2 (fun e => by unfold fl at e; cases w <;> cases e) (Or.inl rfl)
      exact c_fail S1.1 A1 h160 fun h2 X2 A2 => s45_38 _ _ _ (ai (fin h2 X2 A2))
  refine s45_4 S1.1 _ _ _ _ ⟨fun z => w28 (Or.inl (nI_inj (by omega) (by decide) z)) _, fun z1 => ⟨fun z => w28 (Or.inr (nI_inj (by omega) (by decide) z)) _, fun z2 => ?_⟩⟩
  have n1 : ¬ sg T n p w = 33 := fun q => z1 (by rw [q]; rfl)
  have n2 : ¬ sg T n p w = 40 := fun q => z2 (by rw [q]; rfl)
  rw [if_neg n1, if_neg n2] at k
  have g2 : sq T n p ≤ n := A1.2.1
  have M1 := pp_mono (T := T) (n := n) N 4 dep p w A.2.1
  refine HS d h1 _ dep (sq T n p) w S1 A1 hdep (by omega) (by show 16 * (n - sq T n p) + 2 < N; omega) (fun v h2 X2 A2 E2 => ?_)
  rw [pp_sq4 (by omega)] at A2 E2
  have S2 := S1.x X2
  refine s45_23 S2.1 _ _ _ _ (HC d h2 _ dep _ _ _ v S2 A2 hdep (by omega) (by omega) E2 (fun v3 h3 X3 A3 E3 hv => s45_27 _ _ _ _ ⟨hv, ai (k v3 h3 (X1.trans (X2.trans X3)) A3 E3 hv)⟩))
theorem c_partL {N : Nat} (HU : cU sc T n tb lt N) (HL : cBL sc T n tb lt 53 5 7 15 N) : cBL sc T n tb lt 53 5 7 15 (N + 1) := by
  intro d h Q dep p i w c1 a x1 u5 S A hi hdep hd hN E ha k
  obtain ⟨d, rfl⟩ : ∃ e, d = e + 1 := ⟨d - 1, by omega⟩
  have h160 := S.m160
  have hle := S.2.1.le (p := p) (w := w)
  have ek : pp T n (N + 1) 7 dep p w = pLoop T n (pp T n N) 6 7 38 38 dep p w := rfl
  rw [ek] at k
  have hp := A.2.1
  have g1 : p ≤ sq T n p := sq_ge
  have stop : ∀ h1, XI h h1 P_r → RA h1 n (sq T n p) w → ¬ (sg T n p w = 38 ∨ sg T n p w = 38) → Q (some (.int a)) h1 := fun h1 X1 A1 z => by
    rw [pLoop_n z] at k
    exact k a h1 X1 A1 (fun e => by rw [List.append_nil]; exact E e) ha
  refine s53_5 S.1 _ _ _ _ _ ⟨fun z => ⟨ha, ?_⟩, fun z => c_sign S.1 S.2.1 A fun h1 X1 A1 => ?_⟩
  · have pn : p = n := by
      rcases Nat.lt_or_ge i 160 with y | y
      · exact absurd z (nI_ge (b := 160) y (by decide))
      · omega
    have eq : sq T n p = p := sq_stay (by omega)
    refine stop h XI.refl (by rw [eq]; exact A) fun q => ?_
    have hl := (sg_lt (T := T) (n := n) (p := p) (w := w) rfl (by omega)).1
    omega
  · have S1 := S.x X1
    refine s53_17 S1.1 _ _ _ _ _ _ ⟨fun z2 => ⟨ha, stop h1 X1 A1 fun q => z2 (by rw [show sg T n p w = 38 by omega]; rfl)⟩, fun z2 => ?_⟩
    have e : sg T n p w = 38 := nI_inj (by omega) (by decide) (Decidable.not_not.mp z2)
    rw [pLoop_y (Or.inl e)] at k
    obtain ⟨hl, ew, hTq⟩ := sg_lt e (by decide)
    have M1 := pp_mono (T := T) (n := n) N 6 dep (sq T n p + 1) w (by omega)
    refine HU d _ _ dep (sq T n p + 1) w (S1.x X_nx) (A1.nx (h' := h) hl) hdep (by omega) (by omega) (fun v h2 X2 A2 E2 hv => ?_)
    have S2 := (S1.x X_nx).x X2
    have next : ∀ b : Int32, b = bo 38 a v → (b = 0 ∨ b = 1) → cm_wp sc (d + 1) 53 53 [some (.ref 9), some (.int x1), some (.int (nI dep)), some (.int a), some (.int (nI i)), some (.int v)] [.int b] h2 Q := fun b eb hb => by
      refine s53_53 _ _ _ _ _ _ ?_
      rw [nI_1]
      refine HL (d + 1) h2 Q dep (pp T n N 6 dep (sq T n p + 1) w).1 (i + 1) (pp T n N 6 dep (sq T n p + 1) w).2.1 (c1 ++ (pp T n N 6 dep (sq T n p + 1) w).2.2 ++ [38]) b _ _ S2 A2 (by omega) hdep hd (by omega) (fun q => by rw [eb]; exact EV.bin (E (pp_well q)) (E2 q) (Or.inl rfl)) hb (fun v2 h3 X3 A3 E3 hv3 => ?_)
      refine k v2 h3 (X1.trans (X_nx.trans (X2.trans X3))) A3 (fun q => ?_) hv3
      have := E3 q
      rw [List.append_assoc, List.append_assoc] at this
      rw [e]
      exact this
    refine s53_37 _ _ _ _ _ _ ⟨fun y => s53_52 _ _ _ _ _ (next 0 ?_ (Or.inl rfl)), fun y => ⟨fun y2 => s53_52 _ _ _ _ _ (next 0 ?_ (Or.inl rfl)), fun y2 => next 1 ?_ (Or.inr rfl)⟩⟩
    · show _ = (if a = 0 then (0 : Int32) else _); rw [if_pos y]
    · show _ = (if a = 0 then (0 : Int32) else if v = 0 then 0 else 1); rw [if_neg y, if_pos y2]
    · show _ = (if a = 0 then (0 : Int32) else if v = 0 then 0 else 1); rw [if_neg y, if_neg y2]
theorem c_part {N : Nat} (HL : cBL sc T n tb lt 53 5 7 15 N) : cM sc T n tb lt 53 7 15 N := by
  intro d h K dep p w c1 a S A hdep hd hN E ha k
  exact ci_of rfl (s53_0 _ _ _ _ _ (HL d h _ dep p 0 w c1 a _ _ S A (by omega) hdep hd hN E ha (fun v h' X A' E' hv => ai (k v h' X A' E' hv))))
theorem c_condL {N : Nat} (HU : ∀ m, m ≤ N → cU sc T n tb lt m) (HP : ∀ m, m ≤ N → cM sc T n tb lt 53 7 15 m) (HL : cBL sc T n tb lt 52 10 8 16 N) : cBL sc T n tb lt 52 10 8 16 (N + 1) := by
  intro d h Q dep p i w c1 a x1 u5 S A hi hdep hd hN E ha k
  obtain ⟨d, rfl⟩ : ∃ e, d = e + 1 := ⟨d - 1, by omega⟩
  have h160 := S.m160
  have hle := S.2.1.le (p := p) (w := w)
  have ek : pp T n (N + 1) 8 dep p w = pLoop T n (pp T n N) 10 8 124 124 dep p w := rfl
  rw [ek] at k
  have hp := A.2.1
  have g1 : p ≤ sq T n p := sq_ge
  have stop : ∀ h1, XI h h1 P_r → RA h1 n (sq T n p) w → ¬ (sg T n p w = 124 ∨ sg T n p w = 124) → Q (some (.int a)) h1 := fun h1 X1 A1 z => by
    rw [pLoop_n z] at k
    exact k a h1 X1 A1 (fun e => by rw [List.append_nil]; exact E e) ha
  refine s52_10 S.1 _ _ _ _ _ ⟨fun z => ⟨ha, ?_⟩, fun z => c_sign S.1 S.2.1 A fun h1 X1 A1 => ?_⟩
  · have pn : p = n := by
      rcases Nat.lt_or_ge i 160 with y | y
      · exact absurd z (nI_ge (b := 160) y (by decide))
      · omega
    have eq : sq T n p = p := sq_stay (by omega)
    refine stop h XI.refl (by rw [eq]; exact A) fun q => ?_
    have hl := (sg_lt (T := T) (n := n) (p := p) (w := w) rfl (by omega)).1
    omega
  · have S1 := S.x X1
    refine s52_22 S1.1 _ _ _ _ _ _ ⟨fun z2 => ⟨ha, stop h1 X1 A1 fun q => z2 (by rw [show sg T n p w = 124 by omega]; rfl)⟩, fun z2 => ?_⟩
    have e : sg T n p w = 124 := nI_inj (by omega) (by decide) (Decidable.not_not.mp z2)
    rw [pLoop_y (Or.inl e)] at k
    obtain ⟨hl, ew, hTq⟩ := sg_lt e (by decide)
    have M0 := pp_mono (T := T) (n := n) N 10 dep (sq T n p + 1) w (by omega)
    obtain ⟨N', rfl⟩ : ∃ m, N = m + 1 := ⟨N - 1, by omega⟩
    have M1 := pp_mono (T := T) (n := n) N' 6 dep (sq T n p + 1) w (by omega)
    have e10 : pp T n (N' + 1) 10 dep (sq T n p + 1) w = pSeq (pp T n N') 6 7 dep (sq T n p + 1) w := rfl
    refine HU N' (by omega) d _ _ dep (sq T n p + 1) w (S1.x X_nx) (A1.nx (h' := h) hl) hdep (by omega) (by omega) (fun v h2 X2 A2 E2 hv => ?_)
    have S2 := (S1.x X_nx).x X2
    refine s52_43 S2.1 _ _ _ _ _ _ (HP N' (by omega) d h2 _ dep _ _ _ v S2 A2 hdep (by omega) (by show 16 * (n - (pp T n N' 6 dep (sq T n p + 1) w).1) + 0 < N'; omega) E2 hv (fun v3 h3 X3 A3 E3 hv3 => ?_))
    have S3 := S2.x X3
    have next : ∀ b : Int32, b = bo 124 a v3 → (b = 0 ∨ b = 1) → cm_wp sc (d + 1) 52 63 [some (.ref 9), some (.int x1), some (.int (nI dep)), some (.int a), some (.int (nI i)), some (.int v3)] [.int b] h3 Q := fun b eb hb => by
      refine s52_63 _ _ _ _ _ _ ?_
      rw [nI_1]
      refine HL (d + 1) h3 Q dep (pp T n (N' + 1) 10 dep (sq T n p + 1) w).1 (i + 1) (pp T n (N' + 1) 10 dep (sq T n p + 1) w).2.1 (c1 ++ (pp T n (N' + 1) 10 dep (sq T n p + 1) w).2.2 ++ [124]) b _ _ S3 A3 (by omega) hdep hd (by omega) (fun q => by rw [eb]; exact EV.bin (E (pp_well q)) (E3 q) (by omega)) hb (fun v2 h4 X4 A4 E4 hv4 => ?_)
      refine k v2 h4 (X1.trans (X_nx.trans (X2.trans (X3.trans X4)))) A4 (fun q => ?_) hv4
      have := E4 q
      rw [List.append_assoc, List.append_assoc] at this
      rw [e]
      exact this
    refine s52_47 _ _ _ _ _ _ ⟨fun y => s52_58 _ _ _ _ _ (next 1 ?_ (Or.inr rfl)), fun y => ⟨fun y2 => next 0 ?_ (Or.inl rfl), fun y2 => s52_58 _ _ _ _ _ (next 1 ?_ (Or.inr rfl))⟩⟩
    · show _ = (if ¬ a = 0 then (1 : Int32) else if v3 = 0 then 0 else 1); rw [if_pos y]
    · show _ = (if ¬ a = 0 then (1 : Int32) else if v3 = 0 then 0 else 1); rw [if_neg y, if_pos y2]
    · show _ = (if ¬ a = 0 then (1 : Int32) else if v3 = 0 then 0 else 1); rw [if_neg y, if_neg y2]
theorem c_condition {N : Nat} (HP : cM sc T n tb lt 53 7 15 N) (HL : cBL sc T n tb lt 52 10 8 16 N) : cM sc T n tb lt 52 9 16 (N + 1) := by
  intro d h K dep p w c1 a S A hdep hd hN E ha k
  obtain ⟨d, rfl⟩ : ∃ e, d = e + 1 := ⟨d - 1, by omega⟩
  have hN' : 16 * (n - p) + 1 < N + 1 := hN
  have M1 := pp_mono (T := T) (n := n) N 7 dep p w A.2.1
  refine ci_of rfl (s52_0 S.1 _ _ _ _ _ (HP d h _ dep p w c1 a S A hdep (by omega) (by show 16 * (n - p) + 0 < N; omega) E ha (fun v h1 X1 A1 E1 hv => s52_6 _ _ _ _ _ _ ?_)))
  refine HL (d + 1) h1 _ dep _ 0 _ _ v _ _ (S.x X1) A1 (by omega) hdep hd (by omega) E1 hv (fun v2 h3 X3 A3 E3 hv3 => ai (k v2 h3 (X1.trans X3) A3 (fun q => ?_) hv3))
  have := E3 q
  rw [List.append_assoc] at this
  exact this
def cAll (sc : cmS) (T : Nat → Nat) (n tb : Nat) (lt : Nat → Int32) (N : Nat) : Prop := cC sc T n tb lt N ∧ cU sc T n tb lt N ∧ cBL sc T n tb lt 53 5 7 15 N ∧ cBL sc T n tb lt 52 10 8 16 N ∧ cM sc T n tb lt 52 9 16 N
theorem c_cond : ∀ N, ∀ m, m ≤ N → cAll sc T n tb lt m
  | 0 => fun m hm => by
    obtain rfl : m = 0 := by omega
    exact ⟨fun _ _ _ _ _ _ _ _ _ _ _ _ q => absurd q (by omega), fun _ _ _ _ _ _ _ _ _ _ q => absurd q (by omega), fun _ _ _ _ _ _ _ _ _ _ _ _ _ _ _ _ q => absurd q (by omega), fun _ _ _ _ _ _ _ _ _ _ _ _ _ _ _ _ q => absurd q (by omega), fun _ _ _ _ _ _ _ _ _ _ _ _ q => absurd q (by omega)⟩
  | N + 1 => fun m hm => by
    have ih := c_cond N
    rcases Nat.lt_or_ge N m with y | y
    · obtain rfl : m = N + 1 := by omega
      obtain ⟨a, b, c, d, e⟩ := ih N (Nat.le_refl N)
      have hs := (c_expr (sc := sc) (T := T) (n := n) (tb := tb) (lt := lt) N).2.2.2.2
      exact ⟨c_compared hs, c_unit hs a (fun m hm => (ih m hm).2.1) (fun m hm => (ih m hm).2.2.2.2), c_partL b c, c_condL (fun m hm => (ih m hm).2.1) (fun m hm => c_part (ih m hm).2.2.1) d, c_condition (c_part c) d⟩
    · exact ih m y
end CCOND
