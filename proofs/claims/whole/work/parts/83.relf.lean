/-! ===== class against reference: the flow ===== -/
section RELF
variable {F Q t : Nat} {fa C g st pr kc sh sh' gq : Nat → Nat} {cc W l pt : Nat → Nat → Nat} {r r' : Nat → Int32} {cls : Nat → List CL} {ro : Nat → Option Nat} {A B A' B' : Nat → Nat → Int32}
theorem q_ah_congr {v w : Nat → Nat} : ∀ {n : Nat}, (∀ k, k < n → v k = w k) → q_ah v n = q_ah w n
  | 0, _ => rfl
  | n + 1, q => by
    show q_ah v n + (if 0 < v n then 1 else 0) = q_ah w n + (if 0 < w n then 1 else 0)
    rw [q_ah_congr (fun k hk => q k (by omega)), q n (by omega)]
theorem q_sh_congr {v w : Nat → Nat} (q : ∀ k, k < F → v k = w k) {f : Nat} (hf : f < F) : q_sh v Q F f = q_sh w Q F f := by
  have b : ∀ k, k < F → q_bs v Q F k = q_bs w Q F k := fun k hk => by unfold q_bs; rw [q k hk, q_ns_congr q]
  unfold q_sh
  rw [q f hf, b f hf, q_ah_congr (fun k hk => q k (by omega)), q_ns_congr b]
theorem q_part_congr {v w : Nat → Nat} {gs : Nat} (q : ∀ k, k < F → v k = w k) {f : Nat} (hf : f < F) : q_part v gs Q F f = q_part w gs Q F f := by
  unfold q_part
  rw [q f hf, q_ah_congr (fun k hk => q k (by omega)), q_ns_congr (v := fun o => gs * v o / Q) (w := fun o => gs * w o / Q) (fun k hk => by rw [q k hk])]
theorem cm_sum_add {f g : Nat → Int32} : ∀ n, cm_sum (fun s => f s + g s) n = cm_sum f n + cm_sum g n
  | 0 => (by decide : (0 : Int32) = 0 + 0)
  | n + 1 => by
    rw [cm_sum_succ, cm_sum_succ, cm_sum_succ, cm_sum_add n]
    ac_rfl
theorem q_rd_0 {gs : Nat} (h : q_ns sh F = 0) : q_rd sh gs Q F = gs := by
  have z := all0_iff.mp (show all0 sh F from h)
  have e1 : q_ns (fun o => gs * sh o / Q) F = 0 := by
    have := q_ns_le (v := fun o => gs * sh o / Q) (B := 0) (n := F) (fun k hk => by rw [z k hk, Nat.mul_zero, Nat.zero_div]; exact Nat.le_refl _)
    omega
  have e2 : q_ah sh F = 0 := by
    rw [q_ah_congr (w := fun _ => 0) z]
    clear e1 z h
    induction F with
    | zero => rfl
    | succ F ih => show q_ah (fun _ => 0) F + 0 = 0; rw [ih]
  unfold q_rd
  rw [e1, e2]; omega
theorem q_rd_1 {gs : Nat} (hQ : 0 < Q) (h : q_ns sh F = Q) : q_rd sh gs Q F = 0 := by
  have := q_part_all (g := gs) hQ h
  unfold q_rd
  omega
/-- a width, a bed: the same on both sides -/
theorem wd_eq {b f c : Nat} (V : VCc A B b f c) : q_width B f c = q_wOf (A b 4) (A b 5) (A b 2) := by
  unfold q_width
  rw [V.1, V.2.2.1, V.2.2.2.1]
  congr 1
  exact cm_sum_congr fun s hs => (V.2.2.2.2 s hs).1
def bedA (A : Nat → Nat → Int32) (n : Nat) (ca : Nat → Nat) : Int32 := q_sumN (fun c => q_res (q_wOf (A (ca c) 4) (A (ca c) 5) (A (ca c) 2))) n 0 0
theorem bed_eq {n f : Nat} {ca : Nat → Nat} (V : ∀ c, c < n → VCc A B (ca c) f c) : q_bed B n f = bedA A n ca := by
  unfold q_bed bedA
  exact q_sumN_congr n 0 0 fun c _ hc => by rw [wd_eq (V c (by omega))]
theorem sumN_pos {v : Nat → Int32} : ∀ (n i a : Nat), (∀ k, i ≤ k → k < i + n → ∃ x, x ≤ 10000 ∧ v k = nI x) → a + 10000 * n < 2 ^ 31 → ∃ b, b < 2 ^ 31 ∧ q_sumN v n i (nI a) = nI b
  | 0, i, a, _, h => ⟨a, by omega, rfl⟩
  | n + 1, i, a, q, h => by
    obtain ⟨x, hx, e⟩ := q i (by omega) (by omega)
    obtain ⟨b, hb, e2⟩ := sumN_pos n (i + 1) (a + x) (fun k h1 h2 => q k (by omega) (by omega)) (by omega)
    refine ⟨b, hb, ?_⟩
    unfold q_sumN
    rw [e, if_neg (nI_m (by omega)), nI_add]
    exact e2
theorem bed_clean {a n : Nat} {ca : Nat → Nat} (hn : n ≤ 10) (I : INV A 0 a n ca) (hs : ∀ c, c < n → A (ca c) 2 = cm_sum (A (ca c + 1)) 8) : bedA A n ca ≠ -1 := by
  obtain ⟨b, hb, e⟩ := sumN_pos (v := fun c => q_res (q_wOf (A (ca c) 4) (A (ca c) 5) (A (ca c) 2))) n 0 0 (fun c _ hc => by
    obtain ⟨⟨p, e4, p1, p2⟩, -, ⟨t, e5, t1, t2⟩, z⟩ := I.2.2.2 c (by omega)
    have z2 : A (ca c) 2 = nI 0 := by
      rw [hs c (by omega), cm_sum_congr (g := fun _ => 0) fun s hs => (z rfl s hs).1]; decide
    have w := q_wN (p := p) (t := t) (n := 0) p2 t1 t2 (Nat.mul_pos p1 t1)
    rw [Nat.zero_div, Nat.sub_zero] at w
    rw [e4, e5, z2, w.1]
    rcases q_res_cases (w := nI p) (nI_pos' (by omega)) with q | ⟨x, x1, x2, q⟩
    · have := (q_resN w.2.1 (by omega)).1
      rw [q] at this
      exact absurd this (by decide)
    · exact ⟨x, x2, q⟩) (by omega)
  show q_sumN _ n 0 (nI 0) ≠ -1
  rw [e]; exact nI_m hb
/-- class and reference between the hours -/
def R0 (F Q : Nat) (C fa : Nat → Nat) (cc : Nat → Nat → Nat) (A B : Nat → Nat → Int32) : Prop := (∀ f, f < F → VFl A B (fa f) (C f) (cc f) f ∧ INV A Q (fa f) (C f) (cc f) ∧ B 60 f = A (fa f) 17) ∧ VBk A B ∧ VG A B ∧ B 38 0 = A 0 12
theorem flow_cmp {yw ys y' : cmH} (h10 : ∀ f, f < F → C f ≤ 10) (ht : t < 2000) (R : Rw F Q C fa cc cls ro F A (cm_I yw)) (h12 : A 0 12 = nI (t + 1)) (h0 : cm_I yw 38 0 = nI (t + 1)) (Z : ∀ f, f < F → Zw A (fa f)) (c1 : ∀ f, f < F → CF1 A A' t C st sh W l r (bedA A (C f) (cc f)) (fa f) f (cc f)) (c2 : CF2 A A' F Q t C st sh gq W l r) (M : MFl yw ys F (t + 1) C st gq sh' W pt r') (Si : MSi ys y' F F) (he : ∀ f, f < F → sh' f = sh f) (hr : ∀ f, f < F → 0 < sh f → r' f = r f) (hl : ∀ f s, f < F → s < 8 → 0 < sh f → pt f s = l f s) (hs0 : ∀ f, f < F → 0 < sh f → A (fa f) 18 ≠ 0) (hsq : q_ns sh F = 0 ∨ (0 < Q ∧ q_ns sh F = Q)) (hQ : ∀ f, f < F → sh f ≤ Q) : R0 F Q C fa cc A' (cm_I y') := by
  obtain ⟨R1, R2, R3⟩ := R
  obtain ⟨M0, M1, M2⟩ := M
  have a1 : ∀ f, f < F → (ac1 sh' r' f ↔ ac1 sh r f) := fun f hf => by
    unfold ac1
    rw [he f hf]
    exact ⟨fun q => ⟨q.1, by rw [← hr f hf q.1]; exact q.2⟩, fun q => ⟨q.1, by rw [hr f hf q.1]; exact q.2⟩⟩
  have a2 : ∀ f, f < F → (ac2 sh' r' f ↔ ac2 sh r f) := fun f hf => by
    unfold ac2
    rw [he f hf]
    exact ⟨fun q => ⟨q.1, by rw [← hr f hf q.1]; exact q.2⟩, fun q => ⟨q.1, by rw [hr f hf q.1]; exact q.2⟩⟩
  have eo : ∀ f s, f < F → s < 8 → 0 < sh f → q_out (W f) st (pt f) (C f) s = q_out (W f) st (l f) (C f) s := fun f s hf hs p => by unfold q_out; rw [hl f s hf hs p]
  have eof : ∀ f, f < F → 0 < sh f → q_of C W pt st f = q_of C W l st f := fun f hf p => q_ns_congr fun s hs => eo f s hf hs p
  have erp : ∀ f v w, f < F → (q_rp sh' r' C W pt st v w f ↔ q_rp sh r C W l st v w f) := fun f v w hf => by
    unfold q_rp
    rw [a1 f hf]
    constructor
    · rintro ⟨q1, q2, q3⟩
      refine ⟨q1, ?_, ?_⟩
      · rw [← q_ns_congr fun s hs => hl f s hf hs q1.1]; exact q2
      · rw [← eof f hf q1.1]; exact q3
    · rintro ⟨q1, q2, q3⟩
      refine ⟨q1, ?_, ?_⟩
      · rw [q_ns_congr fun s hs => hl f s hf hs q1.1]; exact q2
      · rw [eof f hf q1.1]; exact q3
  have ea0 : all0 sh' F ↔ q_ns sh F = 0 := by unfold all0; rw [q_ns_congr he]
  have es : ∀ a k, a ≠ 53 → cm_I y' a k = cm_I ys a k := fun a k q => Si.1.2 a k (fun w => q w.1)
  have fl : ∀ a k, a ≠ 53 → ¬ P_fl F (t + 1) C a k → cm_I y' a k = cm_I yw a k := fun a k q n => by rw [es a k q]; exact M0.2 a k n
  have sum1 : ∀ s, s < 8 → cm_sum (fun f => if ac1 sh' r' f then nI (q_out (W f) st (pt f) (C f) s) else 0) F = cm_sum (fun f => if ac1 sh r f then nI (q_out (W f) st (l f) (C f) s) else 0) F := fun s hs => cm_sum_congr fun f hf => by
    by_cases w : ac1 sh r f
    · rw [if_pos w, if_pos ((a1 f hf).mpr w), eo f s hf hs w.1]
    · rw [if_neg w, if_neg (fun q => w ((a1 f hf).mp q))]
  have sum2 : ∀ s, s < 8 → cm_sum (fun f => if ac2 sh' r' f then nI (pt f s) else 0) F = cm_sum (fun f => if ac2 sh r f then nI (l f s) else 0) F := fun s hs => cm_sum_congr fun f hf => by
    by_cases w : ac2 sh r f
    · rw [if_pos w, if_pos ((a2 f hf).mpr w), hl f s hf hs w.1]
    · rw [if_neg w, if_neg (fun q => w ((a2 f hf).mp q))]
  have rd : ∀ s (v : Int32), (if all0 sh' F then v + nI (gq s) else v) = v + nI (q_rd sh (gq s) Q F) := fun s v => by
    rcases hsq with q | ⟨q0, q⟩
    · rw [if_pos (ea0.mpr q), q_rd_0 q]
    · rw [if_neg (fun w => by have := ea0.mp w; omega), q_rd_1 q0 q]
      show v = v + 0
      rw [Int32.add_zero]
  refine ⟨fun f hf => ?_, ⟨fun s hs => ?_, fun t' s w ht' hs hw => ?_⟩, ⟨fun s hs => ?_, ?_⟩, ?_⟩
  · obtain ⟨V, I, -, E60⟩ := R1 f hf
    obtain ⟨k11, k12, k13, k14, k15, k8, k9, kk, kc, kcc⟩ := c1 f hf
    obtain ⟨m56, m57, m58, m52, m69, m70, m48⟩ := M1 f hf
    obtain ⟨z11, z12, z13, z18⟩ := Z f hf
    have h10 := h10 f hf
    have e59 : cm_I yw 59 f = A (fa f) 18 := V.1 18 59 (by decide)
    have e52 : cm_I yw 52 f = A (fa f) 8 := V.1 8 52 (by decide)
    have ebed : q_bed (cm_I yw) (C f) f = bedA A (C f) (cc f) := bed_eq fun c hc => V.2.1 c hc
    have s52 : cm_I ys 52 f = A' (fa f) 8 := by
      rw [m52, k8, e59, e52, ebed]
      by_cases w : ac2 sh r f ∨ (A (fa f) 18 ≠ 0 ∧ bedA A (C f) (cc f) = -1)
      · rw [if_pos w, if_pos (w.imp (a2 f hf).mpr id)]
      · rw [if_neg w, if_neg (fun q => w (q.imp (a2 f hf).mp id))]
    have s59 : cm_I ys 59 f = A (fa f) 18 := by rw [M0.2 59 f (by unfold P_fl P_7; omega)]; exact e59
    refine ⟨⟨fun k b q => ?_, fun c hc => ?_, fun s hs => ?_⟩, ⟨?_, ?_, ?_, fun c hc => ?_⟩, ?_⟩
    · unfold vfl at q
      simp only [List.mem_cons, Prod.mk.injEq, List.not_mem_nil, or_false] at q
      rcases q with ⟨rfl, rfl⟩ | ⟨rfl, rfl⟩ | ⟨rfl, rfl⟩ | ⟨rfl, rfl⟩ | ⟨rfl, rfl⟩ | ⟨rfl, rfl⟩ | ⟨rfl, rfl⟩ | ⟨rfl, rfl⟩ | ⟨rfl, rfl⟩ | ⟨rfl, rfl⟩ | ⟨rfl, rfl⟩ | ⟨rfl, rfl⟩ | ⟨rfl, rfl⟩
      · rw [fl 49 f (by decide) (by unfold P_fl P_7; omega), kk 4 (by decide) (by decide) (by decide) (by decide)]; exact V.1 4 49 (by decide)
      · rw [fl 50 f (by decide) (by unfold P_fl P_7; omega), kk 5 (by decide) (by decide) (by decide) (by decide)]; exact V.1 5 50 (by decide)
      · rw [fl 51 f (by decide) (by unfold P_fl P_7; omega), kk 6 (by decide) (by decide) (by decide) (by decide)]; exact V.1 6 51 (by decide)
      · rw [fl 55 f (by decide) (by unfold P_fl P_7; omega), kk 7 (by decide) (by decide) (by decide) (by decide)]; exact V.1 7 55 (by decide)
      · rw [es 52 f (by decide)]; exact s52
      · rw [Si.2 f hf, if_pos hf, s59, s52, M0.2 53 f (by unfold P_fl P_7; omega), V.1 9 53 (by decide), k9, k8, z18]
        by_cases w1 : A (fa f) 8 = 1
        · rw [if_pos w1, if_pos (Or.inl (by decide)), if_pos (Or.inl w1)]
        · rw [if_neg w1]
          have nr : A (fa f) 18 = 0 := by rw [z18, if_neg w1]
          have n2 : ¬ (ac2 sh r f ∨ (A (fa f) 18 ≠ 0 ∧ bedA A (C f) (cc f) = -1)) := by
            rintro (q | q)
            · exact hs0 f hf q.1 nr
            · exact q.1 nr
          rw [nr] at n2
          rw [if_neg n2]
          by_cases w3 : A (fa f) 8 = 3
          · rw [if_pos (Or.inr w3), if_pos (Or.inr w3)]
          · rw [if_neg (fun q => q.elim (fun q => q rfl) w3), if_neg (fun q => q.elim w1 w3), Int32.add_zero]
      · rw [fl 54 f (by decide) (by unfold P_fl P_7; omega), kk 10 (by decide) (by decide) (by decide) (by decide)]; exact V.1 10 54 (by decide)
      · rw [es 56 f (by decide), m56, k11, he f hf]
      · rw [es 57 f (by decide), m57, k12, z12]
        by_cases w : ac1 sh r f
        · rw [if_pos w, if_pos ((a1 f hf).mpr w), hr f hf w.1]
        · rw [if_neg w, if_neg (fun q => w ((a1 f hf).mp q))]
      · rw [es 58 f (by decide), m58, k13, z13]
        by_cases w : ac1 sh r f
        · rw [if_pos w, if_pos ((a1 f hf).mpr w), eof f hf w.1]
        · rw [if_neg w, if_neg (fun q => w ((a1 f hf).mp q))]
      · rw [es 69 f (by decide), m69, k14, V.1 14 69 (by decide), V.1 15 70 (by decide)]
        by_cases w : q_rp sh r C W l st (A (fa f) 14) (A (fa f) 15) f
        · rw [if_pos w, if_pos ((erp f _ _ hf).mpr w)]
        · rw [if_neg w, if_neg (fun q => w ((erp f _ _ hf).mp q))]
      · rw [es 70 f (by decide), m70, k15, V.1 14 69 (by decide), V.1 15 70 (by decide)]
        by_cases w : q_rp sh r C W l st (A (fa f) 14) (A (fa f) 15) f
        · rw [if_pos w, if_pos ((erp f _ _ hf).mpr w), eof f hf w.1.1]
        · rw [if_neg w, if_neg (fun q => w ((erp f _ _ hf).mp q))]
      · rw [es 59 f (by decide), s59, kk 18 (by decide) (by decide) (by decide) (by decide)]
    · obtain ⟨v1, v2, v3, v4, v5⟩ := V.2.1 c hc
      obtain ⟨d1, d2, d3, d4⟩ := kcc c hc
      refine ⟨?_, ?_, ?_, ?_, fun s hs => ⟨?_, ?_⟩⟩
      · rw [fl 43 _ (by decide) (by unfold P_fl P_7; omega), d3 4 (by decide)]; exact v1
      · rw [fl 44 _ (by decide) (by unfold P_fl P_7; omega), d3 3 (by decide)]; exact v2
      · rw [fl 45 _ (by decide) (by unfold P_fl P_7; omega), d3 5 (by decide)]; exact v3
      · rw [d2, cm_sum_congr d1]
        by_cases w : ac1 sh r f
        · rw [if_pos w, v4]
          rw [← cm_sum_add]
          exact cm_sum_congr fun s _ => by rw [if_pos w]
        · rw [if_neg w, v4]
          exact cm_sum_congr fun s _ => by rw [if_neg w]
      · rw [es 46 _ (by decide), (m48 s hs).2 c hc, d1 s hs, (v5 s hs).1]
        by_cases w : ac1 sh r f
        · rw [if_pos w, if_pos ((a1 f hf).mpr w), hl f s hf hs w.1]
        · rw [if_neg w, if_neg (fun q => w ((a1 f hf).mp q))]
      · rw [fl 47 _ (by decide) (by unfold P_fl P_7; omega), d4]; exact (v5 s hs).2
    · rw [es 48 _ (by decide), (m48 s hs).1, kc s hs, V.2.2 s hs]
      by_cases w : ac1 sh r f
      · rw [if_pos w, if_pos ((a1 f hf).mpr w), hl f s hf hs w.1]
      · rw [if_neg w, if_neg (fun q => w ((a1 f hf).mp q))]
    · rw [k8]
      intro q
      split at q
      · rcases q with q | q <;> exact absurd q (by decide)
      · exact I.1 q
    · intro q
      rw [kk 18 (by decide) (by decide) (by decide) (by decide)] at q
      have w : ¬ ac1 sh r f := fun w => hs0 f hf w.1 q
      rw [k12, k13, if_neg w, if_neg w]
      exact ⟨z12, z13⟩
    · rw [kk 17 (by decide) (by decide) (by decide) (by decide)]; exact I.2.2.1
    · obtain ⟨i1, i2, i3, i4⟩ := I.2.2.2 c hc
      obtain ⟨d1, d2, d3, d4⟩ := kcc c hc
      refine ⟨by rw [d3 4 (by decide)]; exact i1, by rw [d3 3 (by decide)]; exact i2, by rw [d3 5 (by decide)]; exact i3, fun q s hs => ?_⟩
      have w : ¬ ac1 sh r f := fun w => by have := hQ f hf; have := w.1; omega
      rw [d1 s hs, if_neg w, d4]; exact i4 q s hs
    · rw [fl 60 f (by decide) (by unfold P_fl P_7; omega), kk 17 (by decide) (by decide) (by decide) (by decide)]; exact E60 hf
  · obtain ⟨b1, b2, b3, b4, b5⟩ := R2.1 s hs
    obtain ⟨n1, n2, n3, n4, n5, n6, n7⟩ := M2 s hs
    obtain ⟨o1, o2, o3, o4, o5, -, -, -⟩ := c2.1 s hs
    refine ⟨?_, ?_, ?_, ?_, ?_⟩
    · rw [es 71 _ (by decide), n4, o1, b1]
    · rw [es 71 _ (by decide), n7 2 (by decide) (by decide), o2, b2]
    · rw [es 71 _ (by decide), n7 3 (by decide) (by decide), o3, b3]
    · rw [es 71 _ (by decide), n5, o4, b4, sum1 s hs]
    · rw [es 71 _ (by decide), n6, o5, b5, rd, sum2 s hs]
  · by_cases e : t' = t
    · subst e
      obtain ⟨n1, n2, n3, -⟩ := M2 s hs
      obtain ⟨-, -, -, -, -, o6, o7, o8⟩ := c2.1 s hs
      have b := fun w hw => R2.2 t' s w ht' hs hw
      rw [es 68 _ (by decide)]
      have : w = 0 ∨ w = 1 ∨ w = 2 := by omega
      rcases this with rfl | rfl | rfl
      · have b0 := b 0 (by decide)
        rw [Nat.add_zero] at b0 ⊢
        rw [n1, b0, show 24 * t' + 8 * 0 + s = 24 * t' + s by omega, o6]
      · rw [n2, b 1 (by decide), show 24 * t' + 8 * 1 + s = 24 * t' + 8 + s by omega, o7, sum1 s hs]
      · rw [n3, b 2 (by decide), show 24 * t' + 8 * 2 + s = 24 * t' + 16 + s by omega, o8, rd, sum2 s hs]
    · rw [fl 68 _ (by decide) (by unfold P_fl P_7; omega), c2.2.1 _ (by omega)]
      exact R2.2 t' s w ht' hs hw
  · obtain ⟨g1, g2, g3, g4⟩ := R3.1 s hs
    have k := c2.2.2
    exact ⟨by rw [fl 39 _ (by decide) (by unfold P_fl P_7; omega), k 2 s (by decide)]; exact g1, by rw [fl 40 _ (by decide) (by unfold P_fl P_7; omega), k 3 s (by decide)]; exact g2, by rw [fl 41 _ (by decide) (by unfold P_fl P_7; omega), k 4 s (by decide)]; exact g3, by rw [fl 67 _ (by decide) (by unfold P_fl P_7; omega), k 13 s (by decide)]; exact g4⟩
  · rw [fl 38 48 (by decide) (by unfold P_fl P_7; omega), c2.2.2 12 1 (by decide)]; exact R3.2
  · rw [fl 38 0 (by decide) (by unfold P_fl P_7; omega), c2.2.2 0 12 (by decide), h12, h0]
end RELF
