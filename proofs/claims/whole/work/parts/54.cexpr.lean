/-! ===== the class's reader: atom, term, sum ===== -/
section CEXPR
variable {sc : cmS} {T : Nat → Nat} {n tb : Nat} {lt : Nat → Int32}
def lx (c : Nat) : Nat := if c = 112 then 0 else if c = 104 then 1 else if c = 111 then 2 else if c = 105 then 3 else if c = 110 then 4 else 5
def RS (h : cmH) (T : Nat → Nat) (n tb : Nat) (lt : Nat → Int32) : Prop := LY h ∧ RD h T n tb ∧ tb ≠ 10 ∧ ∀ c, isL c → cm_I h 10 (lx c) = lt c
theorem RS.x {h h' : cmH} (S : RS h T n tb lt) (X : XI h h' P_r) : RS h' T n tb lt := ⟨X.ly S.1, S.2.1.x X, S.2.2.1, fun c q => by rw [X.2 10 _ (by unfold P_r; omega)]; exact S.2.2.2 c q⟩
theorem RS.m160 {h : cmH} (S : RS h T n tb lt) : n ≤ 160 := S.2.1.2.2.2.2.2.2.2.1
theorem RA.nx {h h' : cmH} {p : Nat} {w : Option Nat} (A : RA h n p w) (hp : p < n) : RA (cm_setI h 9 3 (cm_I h 9 3 + 1)) n (p + 1) w := ⟨by rw [sI_s, A.1, nI_1], hp, by rw [sI_o (Or.inr (by decide))]; exact A.2.2.1, A.2.2.2⟩
theorem X_nx {h : cmH} {v : Int32} : XI h (cm_setI h 9 3 v) P_r := XI.refl.set ⟨rfl, Or.inl rfl⟩
theorem nu_lt : ∀ (m i p v : Nat), i ≤ 4 → v < 10 ^ i → (nu T n m i p v).2.2 < 10000
  | 0, i, p, v, hi, hv => by
    have : 10 ^ i ≤ 10 ^ 4 := Nat.pow_le_pow_right (by decide) hi
    show v < 10000; omega
  | m + 1, i, p, v, hi, hv => by
    have h1 : 10 ^ i ≤ 10 ^ 4 := Nat.pow_le_pow_right (by decide) hi
    unfold nu
    split
    · rename_i q
      split
      · refine nu_lt m (i + 1) (p + 1) _ (by omega) ?_
        rw [Nat.pow_succ]; omega
      · show v < 10000; omega
    · show v < 10000; omega
theorem bd_i {y : Int64} : ((bd y).toInt32).toInt64 = bd y := by
  have e1 : (1000000 : Int64).toInt = 1000000 := by decide
  have e2 : (-1000000 : Int64).toInt = -1000000 := by decide
  have r : -1000000 ≤ (bd y).toInt ∧ (bd y).toInt ≤ 1000000 := by
    unfold bd
    by_cases a : y < (1000000 : Int64)
    · rw [if_pos a]
      rw [Int64.lt_iff_toInt_lt, e1] at a
      by_cases b : y < (-1000000 : Int64)
      · rw [if_pos b, e2]; omega
      · rw [if_neg b]
        rw [Int64.lt_iff_toInt_lt, e2] at b
        omega
    · rw [if_neg a, if_neg (by decide), e1]; omega
  exact lg_i2l_l2i (by omega) (by omega)
theorem bd_0 : bd 0 = 0 := by decide
theorem i32_640 {b : Int32} : b.toInt64 = 0 ↔ b = 0 := ⟨fun e => Decidable.byContradiction fun q => i64_0 q e, fun e => by rw [e]; decide⟩
theorem ix2_y {c : Nat} (q : isL c) : cm_ix 2 (nI c) = nI (lx c) ∧ lx c < 6 := by
  unfold isL at q
  rcases q with rfl | rfl | rfl | rfl | rfl | rfl <;> exact ⟨by decide, by decide⟩
theorem ix2_n {c : Nat} (hc : c < 256) (q : ¬ isL c) : cm_ix 2 (nI c) = -1 := by
  have no : ∀ m, m < 256 → c ≠ m → ¬ nI c = nI m := fun m hm z e => z (nI_inj (by omega) (by omega) e)
  unfold isL at q
  unfold cm_ix
  rw [if_neg (by decide), if_neg (show ¬ nI c = 112 from no 112 (by decide) (by omega)), if_neg (show ¬ nI c = 104 from no 104 (by decide) (by omega)), if_neg (show ¬ nI c = 111 from no 111 (by decide) (by omega)), if_neg (show ¬ nI c = 105 from no 105 (by decide) (by omega)), if_neg (show ¬ nI c = 110 from no 110 (by decide) (by omega)), if_neg (show ¬ nI c = 107 from no 107 (by decide) (by omega))]
/-- a reading that answers a long -/
def cJ (sc : cmS) (T : Nat → Nat) (n tb : Nat) (lt : Nat → Int32) (M k e N : Nat) : Prop := ∀ (d : Nat) (h : cmH) (K : Int64 → cmH → Prop) (dep p : Nat) (w : Option Nat), RS h T n tb lt → RA h n p w → dep ≤ 6 → 3 * (6 - dep) + e ≤ d → 16 * (n - p) + rk k < N → (∀ v h', XI h h' P_r → RA h' n (pp T n N k dep p w).1 (pp T n N k dep p w).2.1 → ((pp T n N k dep p w).2.1 = none → EV lt (pp T n N k dep p w).2.2 v) → K v.toInt64 h') → cm_cj' sc d M [.ref 9, .int (nI dep)] h K
def cLp (sc : cmS) (T : Nat → Nat) (n tb : Nat) (lt : Nat → Int32) (M k e N : Nat) : Prop := ∀ (d : Nat) (h : cmH) (Q : Option Value → cmH → Prop) (dep p i : Nat) (w : Option Nat) (c1 : List Nat) (a : Int32) (u6 u7 : Option Value), RS h T n tb lt → RA h n (sq T n p) w → p ≤ n → i ≤ sq T n p → dep ≤ 6 → 3 * (6 - dep) + e ≤ d → 16 * (n - p) < N → (w = none → EV lt c1 a) → (∀ v h', XI h h' P_r → RA h' n (pp T n N k dep p w).1 (pp T n N k dep p w).2.1 → ((pp T n N k dep p w).2.1 = none → EV lt (c1 ++ (pp T n N k dep p w).2.2) v) → Q (some (.long v.toInt64)) h') → cm_wp sc d M 15 [some (.ref 9), some (.int (nI dep)), some (.long a.toInt64), none, some (.int (nI (sg T n p w))), some (.int (nI i)), u6, u7] [] h Q
theorem pLoop_n {F : PF} {a b x y dep p : Nat} {w : Option Nat} (z : ¬ (sg T n p w = x ∨ sg T n p w = y)) : pLoop T n F a b x y dep p w = (sq T n p, w, []) := if_neg z
theorem pLoop_y {F : PF} {a b x y dep p : Nat} {w : Option Nat} (z : sg T n p w = x ∨ sg T n p w = y) : pLoop T n F a b x y dep p w = ((F b dep (F a dep (sq T n p + 1) w).1 (F a dep (sq T n p + 1) w).2.1).1, (F b dep (F a dep (sq T n p + 1) w).1 (F a dep (sq T n p + 1) w).2.1).2.1, (F a dep (sq T n p + 1) w).2.2 ++ sg T n p w :: (F b dep (F a dep (sq T n p + 1) w).1 (F a dep (sq T n p + 1) w).2.1).2.2) := if_pos z
theorem c_bounded {d : Nat} {h : cmH} {KJ : Int64 → cmH → Prop} {y : Int64} (k : KJ (bd y) h) : cm_cj' sc (d + 1) 50 [.long y] h KJ := cj_of rfl (s50_0 y ⟨_, rfl, k⟩)
theorem c_atom {N : Nat} (HS : cJ sc T n tb lt 46 4 12 N) : cJ sc T n tb lt 48 0 10 (N + 1) := by
  intro d h K dep p w S A hdep hd hN k
  obtain ⟨d, rfl⟩ : ∃ e, d = e + 1 := ⟨d - 1, by omega⟩
  have h160 := S.m160
  have hle := S.2.1.le (p := p) (w := w)
  have ek : pp T n (N + 1) 0 dep p w = pAtom T n (pp T n N) dep p w := rfl
  rw [ek] at k
  have g1 : p ≤ sq T n p := sq_ge
  refine cj_of rfl (s48_0 S.1 _ _ _ _ _ (c_sign S.1 S.2.1 A fun h1 X1 A1 => ?_))
  have S1 := S.x X1
  by_cases y1 : 48 ≤ sg T n p w ∧ sg T n p w ≤ 57
  · obtain ⟨hl, rfl, hTq⟩ := sg_lt (T := T) (n := n) (p := p) (w := w) rfl (by omega)
    unfold pAtom at k
    rw [if_pos y1] at k
    have hv := nu_lt (T := T) (n := n) 6 0 (sq T n p) 0 (by decide) (by decide)
    refine s48_4 S1.1 _ _ _ _ _ _ ⟨fun z => absurd z (Int32.not_lt.mpr (nI_le (a := 48) y1.1 (by omega))), fun _ => ⟨fun z => absurd z (Int32.not_lt.mpr (nI_le (b := 57) y1.2 (by decide))), fun _ => ?_⟩⟩
    obtain ⟨d, rfl⟩ : ∃ e, d = e + 1 := ⟨d - 1, by omega⟩
    refine c_number S1.1 S1.2.1 A1 fun h2 X2 A2 => s48_21 _ _ _ _ _ _ (aj ?_)
    rw [← nI_l (by omega)]
    refine k _ h2 (X1.trans X2) ?_ (fun _ => EV.num)
    exact A2
  · unfold pAtom at k
    rw [if_neg y1] at k
    have w22 : cm_wp sc (d + 1) 48 22 [some (.ref 9), some (.int (nI dep)), some (.int (nI (sg T n p w))), none, none, none] [] h1 (fun v h' => ∃ x, v = some (.long x) ∧ K x h') := by
      refine s48_22 S1.1 _ _ _ _ _ ⟨by omega, ?_⟩
      by_cases y2 : isL (sg T n p w)
      · obtain ⟨hl, rfl, hTq⟩ := sg_lt (T := T) (n := n) (p := p) (w := w) rfl (by unfold isL at y2; omega)
        rw [if_pos y2] at k
        obtain ⟨e1, e2⟩ := ix2_y y2
        rw [e1]
        refine ⟨fun z => absurd z (nI_pos (by omega)), fun _ => ⟨fun z => absurd z (nI_ge (b := 6) e2 (by decide)), fun _ => ⟨ix_nI e2 (by decide), aj ?_⟩⟩⟩
        rw [nI_clamp (by omega), S1.2.2.2 _ y2]
        exact k _ _ (X1.trans X_nx) (A1.nx (h' := h) hl) (fun _ => EV.letter y2)
      · rw [if_neg y2] at k
        rw [ix2_n (by omega) y2]
        have w72 : ¬ (sg T n p w = 91 ∧ dep < 6) → ∀ x3 : Int32, cm_wp sc (d + 1) 48 72 [some (.ref 9), some (.int (nI dep)), some (.int (nI (sg T n p w))), some (.int x3), none, none] [] h1 (fun v h' => ∃ x, v = some (.long x) ∧ K x h') := fun q x3 => by
          rw [if_neg q] at k
          refine s48_72 S1.1 _ _ _ _ _ (c_fail S1.1 A1 h160 fun h2 X2 A2 => s48_76 _ _ _ _ _ (aj ?_))
          refine k 0 h2 (X1.trans X2) A2 (fun e => ?_)
          unfold fl at e
          cases w <;> cases e
        refine ⟨fun _ => s48_60 S1.1 _ _ _ _ _ ⟨fun z => w72 (fun q => z (by rw [q.1]; rfl)) _, fun z => ⟨fun z2 => ?_, fun z2 => w72 (fun q => z2 ((Int32.lt_iff_toInt_lt).mpr (by rw [nI_toInt (by omega)]; show ((dep : Nat) : Int) < 6; omega))) _⟩⟩, fun z => absurd (by decide) z⟩
        have e91 : sg T n p w = 91 := nI_inj (by omega) (by decide) (Decidable.not_not.mp z)
        have hdp : dep < 6 := by
          rcases Nat.lt_or_ge dep 6 with y | y
          · exact y
          · exact absurd z2 (Int32.not_lt.mpr (nI_le (a := 6) y (by omega)))
        obtain ⟨hl, ew, hTq⟩ := sg_lt e91 (by decide)
        rw [if_pos ⟨e91, hdp⟩] at k
        show cm_cj' sc d 46 [.ref 9, .int (nI dep + 1)] _ _
        rw [nI_1]
        refine HS d _ _ (dep + 1) (sq T n p + 1) w (S1.x X_nx) (A1.nx (h' := h) hl) (by omega) (by omega) (by show 16 * (n - (sq T n p + 1)) + 2 < N; have : rk 0 = 0 := rfl; omega) (fun v h2 X2 A2 E2 => ?_)
        have S2 := (S1.x X_nx).x X2
        refine s48_95 S2.1 _ _ _ _ _ _ ?_
        obtain ⟨d, rfl⟩ : ∃ e, d = e + 1 := ⟨d - 1, by omega⟩
        refine c_expect (c := 93) S2.1 S2.2.1 A2 (by decide) (by decide) (fun h3 X3 A3 => s48_103 _ _ _ _ (aj (k v h3 (X1.trans (X_nx.trans (X2.trans X3))) A3 (fun e => ?_))))
        have : (exq T n (pp T n N 4 (dep + 1) (sq T n p + 1) w) 93).2.2 = (pp T n N 4 (dep + 1) (sq T n p + 1) w).2.2 := by unfold exq; split <;> rfl
        rw [this]
        refine E2 ?_
        unfold exq at e
        split at e
        · exact e
        · dsimp only at e
          unfold fl at e
          split at e <;> cases e
    refine s48_4 S1.1 _ _ _ _ _ _ ⟨fun _ => w22, fun z => ⟨fun _ => w22, fun z2 => absurd ⟨?_, ?_⟩ y1⟩⟩
    · rcases Nat.lt_or_ge (sg T n p w) 48 with y | y
      · exact absurd ((Int32.lt_iff_toInt_lt).mpr (by rw [nI_toInt (by omega)]; show ((sg T n p w : Nat) : Int) < 48; omega)) z
      · exact y
    · rcases Nat.lt_or_ge 57 (sg T n p w) with y | y
      · exact absurd ((Int32.lt_iff_toInt_lt).mpr (by rw [nI_toInt (by omega)]; show (57 : Int) < ((sg T n p w : Nat) : Int); omega)) z2
      · exact y
theorem c_termL {N : Nat} (HA : cJ sc T n tb lt 48 0 10 N) (HL : cLp sc T n tb lt 47 1 11 N) : cLp sc T n tb lt 47 1 11 (N + 1) := by
  intro d h Q dep p i w c1 a u6 u7 S A hp hi hdep hd hN E k
  obtain ⟨d, rfl⟩ : ∃ e, d = e + 1 := ⟨d - 1, by omega⟩
  have h160 := S.m160
  have hle := S.2.1.le (p := p) (w := w)
  have ek : pp T n (N + 1) 1 dep p w = pLoop T n (pp T n N) 0 1 42 47 dep p w := rfl
  rw [ek] at k
  have g1 : p ≤ sq T n p := sq_ge
  have g2 : sq T n p ≤ n := sq_le hp
  have stop : ¬ (sg T n p w = 42 ∨ sg T n p w = 47) → Q (some (.long a.toInt64)) h := fun z => by
    rw [pLoop_n z] at k
    exact k a h XI.refl A (fun e => by rw [List.append_nil]; exact E e)
  have go : (sg T n p w = 42 ∨ sg T n p w = 47) → cm_wp sc (d + 1) 47 37 [some (.ref 9), some (.int (nI dep)), some (.long a.toInt64), none, some (.int (nI (sg T n p w))), some (.int (nI i)), u6, u7] [] h Q := fun z => by
    rw [pLoop_y z] at k
    obtain ⟨hl, ew, hTq⟩ := sg_lt (T := T) (n := n) (p := p) (w := w) rfl (by omega)
    have M1 := pp_mono (T := T) (n := n) N 0 dep (sq T n p + 1) w (by omega)
    refine s47_37 S.1 _ _ _ _ _ _ (HA d _ _ dep (sq T n p + 1) w (S.x X_nx) (A.nx (h' := h) hl) hdep (by omega) (by show 16 * (n - (sq T n p + 1)) + 0 < N; omega) (fun v h1 X1 A1 E1 => ?_))
    have S1 := (S.x X_nx).x X1
    obtain ⟨d, rfl⟩ : ∃ e, d = e + 1 := ⟨d - 1, by omega⟩
    -- behind the two numbers
    have next : ∀ y : Int64, bd y = (bo (sg T n p w) a v).toInt64 → cm_wp sc (d + 1 + 1) 47 74 [some (.ref 9), some (.int (nI dep)), some (.long a.toInt64), none, some (.int (nI (sg T n p w))), some (.int (nI i)), some (.long v.toInt64), none] [.long y] h1 Q := fun y ey => by
      refine s47_74 _ _ _ _ _ _ (c_bounded (s47_77 S1.1 _ _ _ _ _ _ (c_sign S1.1 S1.2.1 A1 fun h2 X2 A2 => s47_82 _ _ _ _ _ _ ?_)))
      show cm_wp sc (d + 1 + 1) 47 15 [some (.ref 9), some (.int (nI dep)), some (.long (bd y)), none, _, some (.int (nI i + 1)), _, none] [] h2 Q
      rw [ey, nI_1]
      refine HL (d + 1 + 1) h2 Q dep (pp T n N 0 dep (sq T n p + 1) w).1 (i + 1) (pp T n N 0 dep (sq T n p + 1) w).2.1 (c1 ++ (pp T n N 0 dep (sq T n p + 1) w).2.2 ++ [sg T n p w]) (bo (sg T n p w) a v) _ _ (S1.x X2) A2 M1.2 (by have := sq_ge (T := T) (n := n) (p := (pp T n N 0 dep (sq T n p + 1) w).1); omega) hdep hd (by omega) (fun e => EV.bin (E (pp_well e)) (E1 e) (by omega)) (fun v2 h3 X3 A3 E3 => ?_)
      refine k v2 h3 (X_nx.trans (X1.trans (X2.trans X3))) A3 (fun e => ?_)
      have := E3 e
      rw [List.append_assoc, List.append_assoc] at this
      exact this
    refine s47_52 _ _ _ _ _ _ _ ⟨fun z2 => c_cut (next _ ?_), fun z2 => next _ ?_⟩
    · have e47 : sg T n p w = 47 := by
        rcases z with z | z
        · exact absurd (by rw [z]; rfl) z2
        · exact z
      rw [e47]
      show _ = (if v = 0 then (0 : Int32) else (bd (a.toInt64 / v.toInt64)).toInt32).toInt64
      by_cases y : v = 0
      · rw [if_pos (i32_640.mpr y), if_pos y, bd_0]; rfl
      · rw [if_neg (fun q => y (i32_640.mp q)), if_neg y, bd_i]
    · have e42 : sg T n p w = 42 := nI_inj (by omega) (by decide) (Decidable.not_not.mp z2)
      rw [e42]
      exact bd_i.symm
  refine s47_15 _ _ _ _ _ _ ⟨fun z => ?_, fun z => ⟨fun z2 => go (Or.inl (nI_inj (by omega) (by decide) z2)), fun z2 => ⟨fun z3 => ?_, fun z3 => go (Or.inr (nI_inj (by omega) (by decide) (Decidable.not_not.mp z3)))⟩⟩⟩
  · refine stop fun q => ?_
    have hl := (sg_lt (T := T) (n := n) (p := p) (w := w) rfl (by omega)).1
    exact absurd z (nI_ge (b := 160) (by omega) (by decide))
  · refine stop fun q => ?_
    rcases q with q | q
    · exact z2 (by rw [q]; rfl)
    · exact z3 (by rw [q]; rfl)
theorem c_sumL {N : Nat} (HA : cJ sc T n tb lt 47 2 11 N) (HL : cLp sc T n tb lt 46 3 12 N) : cLp sc T n tb lt 46 3 12 (N + 1) := by
  intro d h Q dep p i w c1 a u6 u7 S A hp hi hdep hd hN E k
  obtain ⟨d, rfl⟩ : ∃ e, d = e + 1 := ⟨d - 1, by omega⟩
  have h160 := S.m160
  have hle := S.2.1.le (p := p) (w := w)
  have ek : pp T n (N + 1) 3 dep p w = pLoop T n (pp T n N) 2 3 43 45 dep p w := rfl
  rw [ek] at k
  have g1 : p ≤ sq T n p := sq_ge
  have g2 : sq T n p ≤ n := sq_le hp
  have stop : ¬ (sg T n p w = 43 ∨ sg T n p w = 45) → Q (some (.long a.toInt64)) h := fun z => by
    rw [pLoop_n z] at k
    exact k a h XI.refl A (fun e => by rw [List.append_nil]; exact E e)
  have go : (sg T n p w = 43 ∨ sg T n p w = 45) → cm_wp sc (d + 1) 46 37 [some (.ref 9), some (.int (nI dep)), some (.long a.toInt64), none, some (.int (nI (sg T n p w))), some (.int (nI i)), u6, u7] [] h Q := fun z => by
    rw [pLoop_y z] at k
    obtain ⟨hl, ew, hTq⟩ := sg_lt (T := T) (n := n) (p := p) (w := w) rfl (by omega)
    have M1 := pp_mono (T := T) (n := n) N 2 dep (sq T n p + 1) w (by omega)
    refine s46_37 S.1 _ _ _ _ _ _ (HA d _ _ dep (sq T n p + 1) w (S.x X_nx) (A.nx (h' := h) hl) hdep (by omega) (by show 16 * (n - (sq T n p + 1)) + 1 < N; omega) (fun v h1 X1 A1 E1 => ?_))
    have S1 := (S.x X_nx).x X1
    obtain ⟨d, rfl⟩ : ∃ e, d = e + 1 := ⟨d - 1, by omega⟩
    -- behind the two numbers
    have next : ∀ y : Int64, bd y = (bo (sg T n p w) a v).toInt64 → cm_wp sc (d + 1 + 1) 46 72 [some (.ref 9), some (.int (nI dep)), some (.long a.toInt64), none, some (.int (nI (sg T n p w))), some (.int (nI i)), some (.long v.toInt64), none] [.long y] h1 Q := fun y ey => by
      refine s46_72 _ _ _ _ _ _ (c_bounded (s46_75 S1.1 _ _ _ _ _ _ (c_sign S1.1 S1.2.1 A1 fun h2 X2 A2 => s46_80 _ _ _ _ _ _ ?_)))
      show cm_wp sc (d + 1 + 1) 46 15 [some (.ref 9), some (.int (nI dep)), some (.long (bd y)), none, _, some (.int (nI i + 1)), _, none] [] h2 Q
      rw [ey, nI_1]
      refine HL (d + 1 + 1) h2 Q dep (pp T n N 2 dep (sq T n p + 1) w).1 (i + 1) (pp T n N 2 dep (sq T n p + 1) w).2.1 (c1 ++ (pp T n N 2 dep (sq T n p + 1) w).2.2 ++ [sg T n p w]) (bo (sg T n p w) a v) _ _ (S1.x X2) A2 M1.2 (by have := sq_ge (T := T) (n := n) (p := (pp T n N 2 dep (sq T n p + 1) w).1); omega) hdep hd (by omega) (fun e => EV.bin (E (pp_well e)) (E1 e) (by omega)) (fun v2 h3 X3 A3 E3 => ?_)
      refine k v2 h3 (X_nx.trans (X1.trans (X2.trans X3))) A3 (fun e => ?_)
      have := E3 e
      rw [List.append_assoc, List.append_assoc] at this
      exact this
    refine s46_52 _ _ _ _ _ _ _ ⟨fun z2 => next _ ?_, fun z2 => next _ ?_⟩
    · have e45 : sg T n p w = 45 := by
        rcases z with z | z
        · exact absurd (by rw [z]; rfl) z2
        · exact z
      rw [e45]
      exact bd_i.symm
    · have e43 : sg T n p w = 43 := nI_inj (by omega) (by decide) (Decidable.not_not.mp z2)
      rw [e43]
      exact bd_i.symm
  refine s46_15 _ _ _ _ _ _ ⟨fun z => ?_, fun z => ⟨fun z2 => go (Or.inl (nI_inj (by omega) (by decide) z2)), fun z2 => ⟨fun z3 => ?_, fun z3 => go (Or.inr (nI_inj (by omega) (by decide) (Decidable.not_not.mp z3)))⟩⟩⟩
  · refine stop fun q => ?_
    have hl := (sg_lt (T := T) (n := n) (p := p) (w := w) rfl (by omega)).1
    exact absurd z (nI_ge (b := 160) (by omega) (by decide))
  · refine stop fun q => ?_
    rcases q with q | q
    · exact z2 (by rw [q]; rfl)
    · exact z3 (by rw [q]; rfl)
theorem c_term {N : Nat} (HA : cJ sc T n tb lt 48 0 10 N) (HL : cLp sc T n tb lt 47 1 11 N) : cJ sc T n tb lt 47 2 11 (N + 1) := by
  intro d h K dep p w S A hdep hd hN k
  obtain ⟨d, rfl⟩ : ∃ e, d = e + 1 := ⟨d - 1, by omega⟩
  have hN' : 16 * (n - p) + 1 < N + 1 := hN
  have M1 := pp_mono (T := T) (n := n) N 0 dep p w A.2.1
  refine cj_of rfl (s47_0 S.1 _ _ _ _ _ _ _ (HA d h _ dep p w S A hdep (by omega) (by show 16 * (n - p) + 0 < N; omega) (fun v h1 X1 A1 E1 => ?_)))
  have S1 := S.x X1
  refine s47_5 S1.1 _ _ _ _ _ _ _ _ (c_sign S1.1 S1.2.1 A1 fun h2 X2 A2 => s47_10 _ _ _ _ _ _ _ ?_)
  exact HL (d + 1) h2 _ dep (pp T n N 0 dep p w).1 0 (pp T n N 0 dep p w).2.1 (pp T n N 0 dep p w).2.2 v _ _ (S1.x X2) A2 M1.2 (by omega) hdep hd (by omega) E1 (fun v2 h3 X3 A3 E3 => aj (k v2 h3 (X1.trans (X2.trans X3)) A3 E3))
theorem c_sum {N : Nat} (HA : cJ sc T n tb lt 47 2 11 N) (HL : cLp sc T n tb lt 46 3 12 N) : cJ sc T n tb lt 46 4 12 (N + 1) := by
  intro d h K dep p w S A hdep hd hN k
  obtain ⟨d, rfl⟩ : ∃ e, d = e + 1 := ⟨d - 1, by omega⟩
  have hN' : 16 * (n - p) + 2 < N + 1 := hN
  have M1 := pp_mono (T := T) (n := n) N 2 dep p w A.2.1
  refine cj_of rfl (s46_0 S.1 _ _ _ _ _ _ _ (HA d h _ dep p w S A hdep (by omega) (by show 16 * (n - p) + 1 < N; omega) (fun v h1 X1 A1 E1 => ?_)))
  have S1 := S.x X1
  refine s46_5 S1.1 _ _ _ _ _ _ _ _ (c_sign S1.1 S1.2.1 A1 fun h2 X2 A2 => s46_10 _ _ _ _ _ _ _ ?_)
  exact HL (d + 1) h2 _ dep (pp T n N 2 dep p w).1 0 (pp T n N 2 dep p w).2.1 (pp T n N 2 dep p w).2.2 v _ _ (S1.x X2) A2 M1.2 (by omega) hdep hd (by omega) E1 (fun v2 h3 X3 A3 E3 => aj (k v2 h3 (X1.trans (X2.trans X3)) A3 E3))
theorem c_expr : ∀ N, cJ sc T n tb lt 48 0 10 N ∧ cLp sc T n tb lt 47 1 11 N ∧ cJ sc T n tb lt 47 2 11 N ∧ cLp sc T n tb lt 46 3 12 N ∧ cJ sc T n tb lt 46 4 12 N
  | 0 => ⟨fun _ _ _ _ _ _ _ _ _ _ q => absurd q (by omega), fun _ _ _ _ _ _ _ _ _ _ _ _ _ _ _ _ _ q => absurd q (by omega), fun _ _ _ _ _ _ _ _ _ _ q => absurd q (by omega), fun _ _ _ _ _ _ _ _ _ _ _ _ _ _ _ _ _ q => absurd q (by omega), fun _ _ _ _ _ _ _ _ _ _ q => absurd q (by omega)⟩
  | N + 1 => by
    obtain ⟨a, b, c, d, e⟩ := c_expr N
    exact ⟨c_atom e, c_termL a b, c_term a b, c_sumL c d, c_sum c d⟩
end CEXPR
