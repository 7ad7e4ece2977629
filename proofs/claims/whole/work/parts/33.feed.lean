/-! rows on bits, shifts and unsigned numbers, to paste: each family out of a closed proof of our own, whole with what it rests on; each by itself clean at Lean in its own claim (generation 39, form 5). Take a family whole -/
/-! ===== Int32 by its bits: bt x i ===== -/
def bt (x : Int32) (i : Nat) : Bool := x.toBitVec.getLsbD i
theorem b_ext {x y : Int32} (h : ∀ i, i < 32 → bt x i = bt y i) : x = y := Int32.toBitVec_inj.mp (BitVec.eq_of_getLsbD_eq (fun i hi => h i hi))
theorem b_or (x y : Int32) (i : Nat) : bt (x ||| y) i = (bt x i || bt y i) := by unfold bt; rw [Int32.toBitVec_or, BitVec.getLsbD_or]
theorem b_and (x y : Int32) (i : Nat) : bt (x &&& y) i = (bt x i && bt y i) := by unfold bt; rw [Int32.toBitVec_and, BitVec.getLsbD_and]
theorem b_xor (x y : Int32) (i : Nat) : bt (x ^^^ y) i = (bt x i ^^ bt y i) := by unfold bt; rw [Int32.toBitVec_xor, BitVec.getLsbD_xor]
theorem b_big {x : Int32} {i : Nat} (h : 32 ≤ i) : bt x i = false := BitVec.getLsbD_of_ge _ _ h
theorem b_255 (i : Nat) : bt 255 i = decide (i < 8) := by
  rcases Nat.lt_or_ge i 32 with h | h
  · exact (by decide +kernel : ∀ i, i < 32 → bt 255 i = decide (i < 8)) i h
  · rw [b_big h, decide_eq_false (by omega)]
theorem b_65535 (i : Nat) : bt 65535 i = decide (i < 16) := by
  rcases Nat.lt_or_ge i 32 with h | h
  · exact (by decide +kernel : ∀ i, i < 32 → bt 65535 i = decide (i < 16)) i h
  · rw [b_big h, decide_eq_false (by omega)]
theorem b_m1 : ∀ i, i < 32 → bt (-1) i = true := by decide +kernel
theorem b_0 (i : Nat) : bt 0 i = false := BitVec.getLsbD_zero
theorem s_l : ∀ n, n < 32 → ((nI n &&& 31).toBitVec.smod 32).toNat = n := by decide +kernel
theorem s_u : ∀ n, n < 32 → (((nI n).toUInt32 &&& Int32.toUInt32 31).toBitVec % 32).toNat = n := by decide +kernel
theorem b_shl (n : Nat) (hn : n < 32) (x : Int32) {i : Nat} (hi : i < 32) : bt (x <<< (nI n &&& 31)) i = (decide (n ≤ i) && bt x (i - n)) := by
  unfold bt
  rw [Int32.toBitVec_shiftLeft]
  show (x.toBitVec <<< ((nI n &&& 31).toBitVec.smod 32).toNat).getLsbD i = _
  rw [s_l n hn, BitVec.getLsbD_shiftLeft]
  rcases Nat.lt_or_ge i n with h | h
  · simp [h, Nat.not_le.mpr h]
  · simp [hi, h, Nat.not_lt.mpr h]
theorem b_ushr (n : Nat) (hn : n < 32) (x : Int32) (i : Nat) : bt ((x.toUInt32 >>> ((nI n).toUInt32 &&& Int32.toUInt32 31)).toInt32) i = bt x (n + i) := by
  show (x.toUInt32 >>> ((nI n).toUInt32 &&& Int32.toUInt32 31)).toBitVec.getLsbD i = x.toUInt32.toBitVec.getLsbD (n + i)
  rw [UInt32.toBitVec_shiftRight]
  show (x.toUInt32.toBitVec >>> (((nI n).toUInt32 &&& Int32.toUInt32 31).toBitVec % 32).toNat).getLsbD i = _
  rw [s_u n hn, BitVec.getLsbD_ushiftRight]
theorem b_sshr (n : Nat) (hn : n < 32) (x : Int32) {i : Nat} (hi : i < 32) : bt (x >>> (nI n &&& 31)) i = if n + i < 32 then bt x (n + i) else bt x 31 := by
  unfold bt
  rw [Int32.toBitVec_shiftRight]
  show (x.toBitVec.sshiftRight ((nI n &&& 31).toBitVec.smod 32).toNat).getLsbD i = _
  rw [s_l n hn, BitVec.getLsbD_sshiftRight, BitVec.msb_eq_getLsbD_last]
  simp [hi]
/-! ===== feed, end ===== -/
/-- byte i of a number, the highest first -/
def qb (w : Int32) (i : Nat) : Int32 := ((w.toUInt32 >>> ((nI (24 - 8 * i)).toUInt32 &&& Int32.toUInt32 31)).toInt32) &&& 255
theorem qb_s (w : Int32) {i : Nat} (hi : i < 4) : (w >>> (nI (24 - 8 * i) &&& 31)) &&& 255 = qb w i := by
  apply b_ext
  intro k hk
  unfold qb
  rw [b_and, b_and, b_ushr _ (by omega), b_sshr _ (by omega) _ hk, b_255]
  by_cases z : k < 8
  · rw [if_pos (by omega)]
  · rw [decide_eq_false z, Bool.and_false, Bool.and_false]
theorem qb_c (w : Int32) (i : Nat) : vp_nar .char (((qb w i).toUInt32 % 65536).toInt32) = qb w i := by
  unfold qb
  rw [sc_c2]
  unfold vp_nar
  rw [sc_nar]
/-- how many of the first k bytes aren't 0 -/
def q_nz (b : Nat → Int32) : Nat → Nat
  | 0 => 0
  | k + 1 => q_nz b k + if b k = 0 then 0 else 1
/-- the row behind the first k bytes, laid from n on -/
def q_put (b : Nat → Int32) (t : Nat → Int32) (n : Nat) : Nat → Nat → Int32
  | 0 => t
  | k + 1 => if b k = 0 then q_put b t n k else fun j => if j = n + q_nz b k then b k else q_put b t n k j
theorem q_nz_le (b : Nat → Int32) : ∀ k, q_nz b k ≤ k
  | 0 => Nat.le_refl _
  | k + 1 => by
    have := q_nz_le b k
    unfold q_nz
    split <;> omega
theorem q_nz_mono (b : Nat → Int32) {i k : Nat} (h : i ≤ k) : q_nz b i ≤ q_nz b k := by
  obtain ⟨m, rfl⟩ : ∃ m, k = i + m := ⟨k - i, by omega⟩
  clear h
  induction m with
  | zero => exact Nat.le_refl _
  | succ m ih =>
    refine Nat.le_trans ih ?_
    show q_nz b (i + m) ≤ q_nz b (i + m) + _
    omega
/-- the row r and its length at (sa, sk), k bytes on -/
def TS (r sa sk : Nat) (h h' : cmH) (b : Nat → Int32) (n k : Nat) : Prop := XI h h' (fun a j => a = r ∨ (a = sa ∧ j = sk)) ∧ cm_I h' r = q_put b (cm_I h r) n k ∧ cm_I h' sa sk = nI (n + q_nz b k)
theorem TS.z {r sa sk : Nat} {h h' : cmH} {b : Nat → Int32} {n k : Nat} (x : TS r sa sk h h' b n k) (z : b k = 0) : TS r sa sk h h' b n (k + 1) := by
  refine ⟨x.1, ?_, ?_⟩
  · unfold q_put; rw [if_pos z]; exact x.2.1
  · unfold q_nz; rw [if_pos z]; exact x.2.2
theorem TS.nz {r sa sk : Nat} {h h' : cmH} {b : Nat → Int32} {n k : Nat} (hr : r ≠ sa) (x : TS r sa sk h h' b n k) (z : ¬ b k = 0) : TS r sa sk h (cm_setI (cm_setI h' r (n + q_nz b k) (b k)) sa sk (nI (n + q_nz b k + 1))) b n (k + 1) := by
  refine ⟨(x.1.set (Or.inl rfl)).set (Or.inr ⟨rfl, rfl⟩), ?_, ?_⟩
  · unfold q_put
    rw [if_neg z]
    funext j
    refine (u2_a (f := cm_I (cm_setI h' r (n + q_nz b k) (b k))) hr).trans ?_
    show cm_u2 (cm_I h') r (n + q_nz b k) (b k) r j = _
    unfold cm_u2
    by_cases q : j = n + q_nz b k
    · rw [if_pos ⟨rfl, q⟩, if_pos q]
    · rw [if_neg (fun w => q w.2), if_neg q, x.2.1]
  · refine (u2_s (f := cm_I (cm_setI h' r (n + q_nz b k) (b k)))).trans ?_
    show nI (n + q_nz b k + 1) = nI (n + (q_nz b k + if b k = 0 then 0 else 1))
    rw [if_neg z, Nat.add_assoc]
section FEED
variable {sc : cmS} {d : Nat} {h : cmH} {K : Int32 → cmH → Prop} {KV : cmH → Prop}
theorem c_bytesIn {w : Int32} {b : Nat → Int32} (hb : ∀ i, i < 4 → b i = qb w i) (k : K (nI (q_nz b 4)) h) : cm_ci sc d 35 [.int w] h K := by
  refine ci_of rfl (s35_0 _ _ _ ?_)
  have gen : ∀ (m i : Nat), i + m = 4 → cm_wp sc d 35 5 [some (.int w), some (.int (nI (q_nz b i))), some (.int (nI (32 - 8 * i) - 8))] [] h (fun v h' => ∃ x, v = some (.int x) ∧ K x h') := by
    intro m
    induction m with
    | zero =>
      intro i hi
      obtain rfl : i = 4 := by omega
      exact s35_5 _ _ _ ⟨fun _ => ai k, fun q => absurd (by decide) q⟩
    | succ m ih =>
      intro i hi
      have e : nI (32 - 8 * i) - 8 = nI (24 - 8 * i) := by
        rw [show (8 : Int32) = nI 8 from rfl, pk_sub (by omega)]; congr 1; omega
      have e2 : nI (24 - 8 * i) + -8 = nI (32 - 8 * (i + 1)) - 8 := by
        rw [show nI (24 - 8 * i) + (-8) = nI (24 - 8 * i) - 8 from (Int32.sub_eq_add_neg _ _).symm, show 32 - 8 * (i + 1) = 24 - 8 * i by omega]
      have this := ih (i + 1) (by omega)
      rw [e]
      refine s35_5 _ _ _ ⟨fun q => absurd q (nI_pos (by omega)), fun _ => ⟨fun q => s35_22 _ _ _ ?_, fun q => s35_22 _ _ _ ?_⟩⟩
      · rw [e2]
        have z : b i = 0 := by rw [hb i (by omega)]; exact q
        unfold q_nz at this
        rw [if_pos z] at this
        exact this
      · rw [e2, nI_1]
        have z : ¬ b i = 0 := by rw [hb i (by omega)]; exact q
        unfold q_nz at this
        rw [if_neg z] at this
        exact this
  exact gen 4 0 (by omega)
theorem c_addBytes {h0 : cmH} {w : Int32} {b : Nat → Int32} {n j : Nat} (L : LY h0) (T : TS 7 6 1 h0 h b n j) (hb : ∀ i, i < 4 → b (j + i) = qb w i) (hn : n + q_nz b (j + 4) ≤ 160) (k : ∀ h', TS 7 6 1 h0 h' b n (j + 4) → KV h') : cm_cv sc d 36 [.ref 6, .int w] h KV := by
  refine cv_of rfl (s36_0 _ _ _ _ ?_)
  have gen : ∀ (m i : Nat) (h : cmH) (u : Option Value), i + m = 4 → TS 7 6 1 h0 h b n (j + i) → cm_wp sc d 36 3 [some (.ref 6), some (.int w), some (.int (nI (32 - 8 * i) - 8)), u] [] h (fun v h' => v = none ∧ KV h') := by
    intro m
    induction m with
    | zero =>
      intro i h u hi T
      obtain rfl : i = 4 := by omega
      exact s36_3 _ _ _ _ ⟨fun _ => ⟨rfl, k _ T⟩, fun q => absurd (by decide) q⟩
    | succ m ih =>
      intro i h u hi T
      have e : nI (32 - 8 * i) - 8 = nI (24 - 8 * i) := by
        rw [show (8 : Int32) = nI 8 from rfl, pk_sub (by omega)]; congr 1; omega
      have e2 : nI (24 - 8 * i) + -8 = nI (32 - 8 * (i + 1)) - 8 := by
        rw [show nI (24 - 8 * i) + (-8) = nI (24 - 8 * i) - 8 from (Int32.sub_eq_add_neg _ _).symm, show 32 - 8 * (i + 1) = 24 - 8 * i by omega]
      have L' := T.1.ly L
      have hTX : TX h 6 := ⟨(ly_k L' 6 rfl).1, by have := (ly_k L' 7 rfl).2; omega, ly_r L' 6 0 rfl, (ly_k L' 7 rfl).1⟩
      have m1 := q_nz_mono b (i := j + i) (k := j + 4) (by omega)
      rw [e]
      refine s36_3 _ _ _ _ ⟨fun q => absurd q (nI_pos (by omega)), fun _ => ⟨fun q => s36_59 _ _ _ _ ?_, fun q => ⟨hTX, fun q2 => absurd q2 (by rw [T.2.2]; exact nI_pos (by omega)), fun _ => ⟨(ly_la L' 7 rfl).2, fun q2 => absurd q2 ?_, fun _ => ⟨?_, s36_59 _ _ _ _ ?_⟩⟩⟩⟩⟩
      · rw [e2]
        have z : b (j + i) = 0 := by rw [hb i (by omega)]; exact q
        exact ih (i + 1) h _ (by omega) (T.z z)
      all_goals
        have z : ¬ b (j + i) = 0 := by rw [hb i (by omega)]; exact q
        have m2 : q_nz b (j + i) + 1 ≤ q_nz b (j + 4) := by
          have := q_nz_mono b (i := j + i + 1) (k := j + 4) (by omega)
          unfold q_nz at this
          rw [if_neg z] at this
          exact this
      · rw [ly_ln L' 7 rfl, T.2.2]
        exact nI_ge (b := 160) (by omega) (by decide)
      · rw [T.2.2]
        exact ly_o L' 7 rfl (ix_nI (by omega) (by decide))
      · rw [e2]
        have T2 := T.nz (by decide) z
        rw [hb i (by omega)] at T2
        have := ih (i + 1) _ (some (.int (qb w i))) (by omega) T2
        show cm_wp sc d 36 3 [some (.ref 6), some (.int w), some (.int (nI (32 - 8 * (i + 1)) - 8)), some (.int (qb w i))] [] (cm_setI (cm_setI h 7 (cm_I h 6 1).toNatClampNeg (vp_nar .char (((qb w i).toUInt32 % 65536).toInt32))) 6 1 (cm_I h 6 1 + 1)) _
        rw [T.2.2, nI_clamp (by omega), qb_c, nI_1]
        exact this
  exact gen 4 0 h _ (by omega) T
/-- the five numbers' bytes -/
def q_w5 (x1 x2 x3 x4 x5 : Int32) (j : Nat) : Int32 := if j = 0 then x1 else if j = 1 then x2 else if j = 2 then x3 else if j = 3 then x4 else x5
def q_b20 (x1 x2 x3 x4 x5 : Int32) (k : Nat) : Int32 := qb (q_w5 x1 x2 x3 x4 x5 (k / 4)) (k % 4)
theorem q_b20_at {x1 x2 x3 x4 x5 : Int32} {j i : Nat} (hi : i < 4) : q_b20 x1 x2 x3 x4 x5 (4 * j + i) = qb (q_w5 x1 x2 x3 x4 x5 j) i := by
  unfold q_b20
  rw [show (4 * j + i) / 4 = j by omega, show (4 * j + i) % 4 = i by omega]
theorem q_nz_add (b : Nat → Int32) (j : Nat) : ∀ k, q_nz b (j + k) = q_nz b j + q_nz (fun i => b (j + i)) k
  | 0 => rfl
  | k + 1 => by
    show q_nz b (j + k) + _ = q_nz b j + (q_nz (fun i => b (j + i)) k + _)
    rw [q_nz_add b j k, Nat.add_assoc]
    rfl
theorem c_feed {x1 x2 x3 x4 x5 : Int32} {n : Nat} (L : LY h) (hn : cm_I h 6 1 = nI n) (hn2 : n ≤ 160) (t : n + q_nz (q_b20 x1 x2 x3 x4 x5) 20 ≤ 160 → ∀ h', TS 7 6 1 h h' (q_b20 x1 x2 x3 x4 x5) n 20 → K (nI (n + q_nz (q_b20 x1 x2 x3 x4 x5) 20)) h') (f : ¬ n + q_nz (q_b20 x1 x2 x3 x4 x5) 20 ≤ 160 → K (-1) h) : cm_ci sc (d + 1) 34 [.ref 0, .int x1, .int x2, .int x3, .int x4, .int x5] h K := by
  have e5 : q_nz (q_b20 x1 x2 x3 x4 x5) 20 = q_nz (fun i => q_b20 x1 x2 x3 x4 x5 (0 + i)) 4 + q_nz (fun i => q_b20 x1 x2 x3 x4 x5 (4 + i)) 4 + q_nz (fun i => q_b20 x1 x2 x3 x4 x5 (8 + i)) 4 + q_nz (fun i => q_b20 x1 x2 x3 x4 x5 (12 + i)) 4 + q_nz (fun i => q_b20 x1 x2 x3 x4 x5 (16 + i)) 4 := by
    rw [q_nz_add _ 16 4, q_nz_add _ 12 4, q_nz_add _ 8 4, q_nz_add _ 4 4, q_nz_add _ 0 4]
    show 0 + _ + _ + _ + _ + _ = _
    omega
  have b0 : ∀ i, i < 4 → q_b20 x1 x2 x3 x4 x5 (0 + i) = qb x1 i := fun i hi => q_b20_at (j := 0) hi
  have b1 : ∀ i, i < 4 → q_b20 x1 x2 x3 x4 x5 (4 + i) = qb x2 i := fun i hi => q_b20_at (j := 1) hi
  have b2 : ∀ i, i < 4 → q_b20 x1 x2 x3 x4 x5 (8 + i) = qb x3 i := fun i hi => q_b20_at (j := 2) hi
  have b3 : ∀ i, i < 4 → q_b20 x1 x2 x3 x4 x5 (12 + i) = qb x4 i := fun i hi => q_b20_at (j := 3) hi
  have b4 : ∀ i, i < 4 → q_b20 x1 x2 x3 x4 x5 (16 + i) = qb x5 i := fun i hi => q_b20_at (j := 4) hi
  refine ci_of rfl (s34_0 _ _ _ _ _ _ (c_bytesIn b0 (s34_4 _ _ _ _ _ _ _ (c_bytesIn b1 (s34_8 _ _ _ _ _ _ _ _ (c_bytesIn b2 (s34_13 _ _ _ _ _ _ _ _ (c_bytesIn b3 (s34_19 _ _ _ _ _ _ _ _ (c_bytesIn b4 (s34_25 L _ _ _ _ _ _ _ _ ?_)))))))))))
  rw [nI_add, nI_add, nI_add, nI_add, ← e5, hn, nI_add]
  have hb := q_nz_le (q_b20 x1 x2 x3 x4 x5) 20
  refine ⟨fun q => ?_, fun q => ai (f fun z => q (nI_le z (by decide)))⟩
  have q : n + q_nz (q_b20 x1 x2 x3 x4 x5) 20 ≤ 160 := (nI_leI (b := 160) (by omega) (by decide)).mp q
  have mm := fun i (hi : i ≤ 20) => q_nz_mono (q_b20 x1 x2 x3 x4 x5) hi
  have T0 : TS 7 6 1 h h (q_b20 x1 x2 x3 x4 x5) n 0 := ⟨XI.refl, rfl, hn⟩
  have m4 := mm 4 (by decide)
  have m8 := mm 8 (by decide)
  have m12 := mm 12 (by decide)
  have m16 := mm 16 (by decide)
  refine c_addBytes L T0 b0 (by show n + q_nz _ 4 ≤ 160; omega) (fun h1 T1 => s34_54 (T1.1.ly L) _ _ _ _ _ _ ?_)
  refine c_addBytes L T1 b1 (by show n + q_nz _ 8 ≤ 160; omega) (fun h2 T2 => s34_62 (T2.1.ly L) _ _ _ _ _ _ ?_)
  refine c_addBytes L T2 b2 (by show n + q_nz _ 12 ≤ 160; omega) (fun h3 T3 => s34_70 (T3.1.ly L) _ _ _ _ _ _ ?_)
  refine c_addBytes L T3 b3 (by show n + q_nz _ 16 ≤ 160; omega) (fun h4 T4 => s34_79 (T4.1.ly L) _ _ _ _ _ _ ?_)
  refine c_addBytes L T4 b4 (by show n + q_nz _ 20 ≤ 160; omega) (fun h5 T5 => s34_88 (T5.1.ly L) _ _ _ _ _ _ ?_)
  rw [T5.2.2]
  exact ai (t q h5 T5)
theorem m_byteOf {x1 x2 x3 x4 x5 : Int32} {k : Nat} (hk : k < 20) (q : K (q_b20 x1 x2 x3 x4 x5 k) h) : cm_ci sc d 155 [.int x1, .int x2, .int x3, .int x4, .int x5, .int (nI k)] h K := by
  have fin : ∀ (w : Int32) (u : Option Value), w = q_w5 x1 x2 x3 x4 x5 (k / 4) → cm_wp sc d 155 45 [some (.int x1), some (.int x2), some (.int x3), some (.int x4), some (.int x5), some (.int (nI k)), u] [.int w] h (fun v h' => ∃ x, v = some (.int x) ∧ K x h') := by
    rintro w u rfl
    refine s155_45 _ _ _ _ _ _ _ _ (ai ?_)
    rw [show (4 : Int32) = nI 4 from rfl, pk_rem (by omega) (by decide) (by decide), show (8 : Int32) = nI 8 from rfl, pk_mul, show (24 : Int32) = nI 24 from rfl, pk_sub (by omega), qb_s _ (by omega)]
    exact q
  have lt : ∀ m, m < 2 ^ 31 → nI m ≤ nI k → m ≤ k := fun m hm z => (nI_leI hm (by omega)).mp z
  refine ci_of rfl (s155_0 _ _ _ _ _ _ _ ⟨fun z1 => ⟨fun z2 => ⟨fun z3 => ⟨fun z4 => fin _ _ ?_, fun z4 => fin _ _ ?_⟩, fun z3 => fin _ _ ?_⟩, fun z2 => fin _ _ ?_⟩, fun z1 => fin _ _ ?_⟩)
  · have := lt 16 (by decide) z4
    rw [show k / 4 = 4 by omega]; rfl
  · have h1 := lt 12 (by decide) z3
    have h2 : ¬ 16 ≤ k := fun w => z4 (nI_le (a := 16) w (by omega))
    rw [show k / 4 = 3 by omega]; rfl
  · have h1 := lt 8 (by decide) z2
    have h2 : ¬ 12 ≤ k := fun w => z3 (nI_le (a := 12) w (by omega))
    rw [show k / 4 = 2 by omega]; rfl
  · have h1 := lt 4 (by decide) z1
    have h2 : ¬ 8 ≤ k := fun w => z2 (nI_le (a := 8) w (by omega))
    rw [show k / 4 = 1 by omega]; rfl
  · have h2 : ¬ 4 ≤ k := fun w => z1 (nI_le (a := 4) w (by omega))
    rw [show k / 4 = 0 by omega]; rfl
theorem m_feed {x1 x2 x3 x4 x5 : Int32} {n : Nat} (L : LY h) (hn : cm_I h 38 29 = nI n) (hn2 : n ≤ 160) (t : n + q_nz (q_b20 x1 x2 x3 x4 x5) 20 ≤ 160 → ∀ h', TS 61 38 29 h h' (q_b20 x1 x2 x3 x4 x5) n 20 → K (nI (n + q_nz (q_b20 x1 x2 x3 x4 x5) 20)) h') (f : ¬ n + q_nz (q_b20 x1 x2 x3 x4 x5) 20 ≤ 160 → K (-1) h) : cm_ci sc (d + 1) 154 [.ref 38, .int x1, .int x2, .int x3, .int x4, .int x5] h K := by
  have hb := q_nz_le (q_b20 x1 x2 x3 x4 x5)
  refine ci_of rfl (s154_0 _ _ _ _ _ _ _ _ ?_)
  have put : n + q_nz (q_b20 x1 x2 x3 x4 x5) 20 ≤ 160 → ∀ (m i : Nat) (h' : cmH) (a : Int32) (u : Option Value), i + m = 20 → TS 61 38 29 h h' (q_b20 x1 x2 x3 x4 x5) n i → cm_wp sc (d + 1) 154 62 [some (.ref 38), some (.int x1), some (.int x2), some (.int x3), some (.int x4), some (.int x5), some (.int a), some (.int (nI i)), u] [] h' (fun v h' => ∃ x, v = some (.int x) ∧ K x h') := by
    intro hh m
    induction m with
    | zero =>
      intro i h' a u hi T
      obtain rfl : i = 20 := by omega
      refine s154_62 (T.1.ly L) _ _ _ _ _ _ _ _ ⟨fun _ => ?_, fun q => absurd (Int32.le_refl _) q⟩
      rw [T.2.2]; exact ai (t hh h' T)
    | succ m ih =>
      intro i h' a u hi T
      have L' := T.1.ly L
      refine s154_62 L' _ _ _ _ _ _ _ _ ⟨fun q => absurd q (nI_ge (b := 20) (by omega) (by decide)), fun _ => m_byteOf (by omega) (s154_81 L' _ _ _ _ _ _ _ _ _ ⟨fun q => s154_109 _ _ _ _ _ _ _ _ ?_, fun q => ⟨?_, s154_109 _ _ _ _ _ _ _ _ ?_⟩⟩)⟩
      · rw [nI_1]; exact ih (i + 1) h' _ _ (by omega) (T.z q)
      all_goals
        have m2 : q_nz (q_b20 x1 x2 x3 x4 x5) i + 1 ≤ q_nz (q_b20 x1 x2 x3 x4 x5) 20 := by
          have := q_nz_mono (q_b20 x1 x2 x3 x4 x5) (i := i + 1) (k := 20) (by omega)
          unfold q_nz at this
          rw [if_neg q] at this
          exact this
      · rw [T.2.2]; exact ix_nI (by omega) (by decide)
      · rw [T.2.2, nI_clamp (by omega), nI_1, nI_1]
        exact ih (i + 1) _ _ _ (by omega) (T.nz (by decide) q)
  have cnt : ∀ (m i : Nat) (u : Option Value), i + m = 20 → cm_wp sc (d + 1) 154 6 [some (.ref 38), some (.int x1), some (.int x2), some (.int x3), some (.int x4), some (.int x5), some (.int (nI (q_nz (q_b20 x1 x2 x3 x4 x5) i))), some (.int (nI i)), u] [] h (fun v h' => ∃ x, v = some (.int x) ∧ K x h') := by
    intro m
    induction m with
    | zero =>
      intro i u hi
      obtain rfl : i = 20 := by omega
      have := hb 20
      refine s154_6 L _ _ _ _ _ _ _ _ ⟨fun _ => ?_, fun q => absurd (Int32.le_refl _) q⟩
      rw [hn, nI_add]
      refine ⟨fun q => put ((nI_leI (b := 160) (by omega) (by decide)).mp q) 20 0 h _ _ (by omega) ⟨XI.refl, rfl, hn⟩, fun q => ai (f fun z => q (nI_le z (by decide)))⟩
    | succ m ih =>
      intro i u hi
      have this := ih (i + 1) u (by omega)
      unfold q_nz at this
      refine s154_6 L _ _ _ _ _ _ _ _ ⟨fun q => absurd q (nI_ge (b := 20) (by omega) (by decide)), fun _ => m_byteOf (by omega) (s154_27 _ _ _ _ _ _ _ _ _ _ ⟨fun q => s154_35 _ _ _ _ _ _ _ _ _ _ ?_, fun q => s154_35 _ _ _ _ _ _ _ _ _ _ ?_⟩)⟩
      · rw [if_pos q] at this; rw [Int32.add_zero, nI_1]; exact this
      · rw [if_neg q] at this; rw [nI_1, nI_1]; exact this
  exact cnt 20 0 _ (by omega)
/-! end -/
theorem m_end {x : Int32} (L : LY h) (t : 0 ≤ x ∧ x ≤ cm_I h 38 29 → K 1 (cm_setI h 38 29 x)) (f : ¬ (0 ≤ x ∧ x ≤ cm_I h 38 29) → K 0 h) : cm_ci sc d 156 [.ref 38, .int x] h K :=
  ci_of rfl (s156_0 L x ⟨fun q => ai (f fun g => absurd q (Int32.not_lt.mpr g.1)), fun q => ⟨fun q2 => ai (t ⟨Int32.not_lt.mp q, q2⟩), fun q2 => ai (f fun g => q2 g.2)⟩⟩)
theorem c_end {x : Int32} (L : LY h) (t : 0 ≤ x ∧ x ≤ cm_I h 6 1 → K 1 (cm_setI h 6 1 x)) (f : ¬ (0 ≤ x ∧ x ≤ cm_I h 6 1) → K 0 h) : cm_ci sc (d + 1) 37 [.ref 0, .int x] h K :=
  ci_of rfl (s37_0 L x (c_in (fun q => s37_12 L x 1 (br_t (by decide) (ai (t q)))) (fun q => s37_12 L x 0 (br_f (by decide) (ai (f q))))))
end FEED
