/-! ===== the filters run, of the class ===== -/
section CRUN
variable {sc : cmS} {d : Nat} {h : cmH} {KV : cmH → Prop} {K : Int32 → cmH → Prop} {F t : Nat} {C fa kc pr st sh : Nat → Nat} {cc W l : Nat → Nat → Nat} {r : Nat → Int32}
def P_cn (F t : Nat) (C fa : Nat → Nat) (cc : Nat → Nat → Nat) (x k : Nat) : Prop := ((x = 18 ∨ x = 19) ∧ k < 8) ∨ (x = 20 ∧ 24 * t ≤ k ∧ k < 24 * t + 24) ∨ ∃ f, f < F ∧ ((x = fa f ∧ (k = 12 ∨ k = 13 ∨ k = 14 ∨ k = 15 ∨ k = 19)) ∨ (x = fa f + 2 ∧ k < 8) ∨ (x = fa f + 3 ∧ k < 8) ∨ ∃ c, c < C f ∧ ((x = cc f c + 1 ∧ k < 8) ∨ (x = cc f c ∧ k = 2)))
/-- the first i filters have run -/
def CRN (h h' : cmH) (F t : Nat) (C fa st sh : Nat → Nat) (cc W l : Nat → Nat → Nat) (r : Nat → Int32) (i : Nat) : Prop := XI h h' (P_cn F t C fa cc) ∧ (∀ f, f < F → cm_I h' (fa f) 12 = (if f < i ∧ ac1 sh r f then r f else cm_I h (fa f) 12) ∧ cm_I h' (fa f) 13 = (if f < i ∧ ac1 sh r f then nI (q_of C W l st f) else cm_I h (fa f) 13) ∧ cm_I h' (fa f) 14 = (if f < i ∧ q_rp sh r C W l st (cm_I h (fa f) 14) (cm_I h (fa f) 15) f then nI (t + 1) else cm_I h (fa f) 14) ∧ cm_I h' (fa f) 15 = (if f < i ∧ q_rp sh r C W l st (cm_I h (fa f) 14) (cm_I h (fa f) 15) f then nI (q_of C W l st f) else cm_I h (fa f) 15) ∧ cm_I h' (fa f) 19 = (if f < i ∧ ac2 sh r f then 1 else cm_I h (fa f) 19) ∧ (∀ s, s < 8 → cm_I h' (fa f + 2) s = (if f < i ∧ ac1 sh r f then cm_I h (fa f + 2) s + nI (l f s - q_in (W f 0) s (l f s)) else cm_I h (fa f + 2) s) ∧ (i ≤ f → cm_I h' (fa f + 3) s = cm_I h (fa f + 3) s)) ∧ ∀ c, c < C f → (∀ s, s < 8 → cm_I h' (cc f c + 1) s = if f < i ∧ ac1 sh r f then cm_I h (cc f c + 1) s + nI (q_kp (W f c) s (st s) (q_lf (W f) s (st s) (q_in (W f 0) s (l f s)) c)) else cm_I h (cc f c + 1) s) ∧ cm_I h' (cc f c) 2 = if f < i ∧ ac1 sh r f then cm_I h (cc f c) 2 + cm_sum (fun s => nI (q_kp (W f c) s (st s) (q_lf (W f) s (st s) (q_in (W f 0) s (l f s)) c))) 8 else cm_I h (cc f c) 2) ∧ ∀ s, s < 8 → cm_I h' 18 s = cm_I h 18 s + cm_sum (fun f => if ac1 sh r f then nI (q_out (W f) st (l f) (C f) s) else 0) i ∧ cm_I h' 19 s = cm_I h 19 s + cm_sum (fun f => if ac2 sh r f then nI (l f s) else 0) i ∧ cm_I h' 20 (24 * t + s) = cm_I h 20 (24 * t + s) ∧ cm_I h' 20 (24 * t + 8 + s) = cm_I h 20 (24 * t + 8 + s) + cm_sum (fun f => if ac1 sh r f then nI (q_out (W f) st (l f) (C f) s) else 0) i ∧ cm_I h' 20 (24 * t + 16 + s) = cm_I h 20 (24 * t + 16 + s) + cm_sum (fun f => if ac2 sh r f then nI (l f s) else 0) i
theorem CRN.skip {h' : cmH} {i : Nat} (X : CRN h h' F t C fa st sh cc W l r i) (z : sh i = 0) : CRN h h' F t C fa st sh cc W l r (i + 1) := by
  have n1 : ¬ ac1 sh r i := fun q => by have := q.1; omega
  have n2 : ¬ ac2 sh r i := fun q => by have := q.1; omega
  refine ⟨X.1, fun f hf => ?_, fun s hs => ?_⟩
  · obtain ⟨a1, a2, a3, a4, a5, a6, a7⟩ := X.2.1 f hf
    have e1 : ∀ P : Prop, (P → ac1 sh r f) → ((f < i + 1 ∧ P) ↔ (f < i ∧ P)) := fun P hP => ⟨fun q => ⟨by
      by_cases y : f = i
      · subst y; exact absurd (hP q.2) n1
      · have := q.1; omega, q.2⟩, fun q => ⟨by omega, q.2⟩⟩
    have e2 : (f < i + 1 ∧ ac2 sh r f) ↔ (f < i ∧ ac2 sh r f) := ⟨fun q => ⟨by
      by_cases y : f = i
      · subst y; exact absurd q.2 n2
      · have := q.1; omega, q.2⟩, fun q => ⟨by omega, q.2⟩⟩
    have e3 := e1 (ac1 sh r f) id
    have e4 := e1 (q_rp sh r C W l st (cm_I h (fa f) 14) (cm_I h (fa f) 15) f) (fun q => q.1)
    refine ⟨by rw [a1]; simp only [e3], by rw [a2]; simp only [e3], by rw [a3]; simp only [e4], by rw [a4]; simp only [e4], by rw [a5]; simp only [e2], fun s hs => ⟨by rw [(a6 s hs).1]; simp only [e3], fun hle => (a6 s hs).2 (by omega)⟩, fun c hc => ⟨fun s hs => by rw [(a7 c hc).1 s hs]; simp only [e3], by rw [(a7 c hc).2]; simp only [e3]⟩⟩
  · obtain ⟨a1, a2, a3, a4, a5⟩ := X.2.2 s hs
    refine ⟨?_, ?_, a3, ?_, ?_⟩
    · rw [a1, cm_sum_succ, if_neg n1, Int32.add_zero]
    · rw [a2, cm_sum_succ, if_neg n2, Int32.add_zero]
    · rw [a4, cm_sum_succ, if_neg n1, Int32.add_zero]
    · rw [a5, cm_sum_succ, if_neg n2, Int32.add_zero]
/-- what run asks of its start -/
def CRP (h : cmH) (F t : Nat) (C fa kc pr st sh : Nat → Nat) (cc W l : Nat → Nat → Nat) : Prop := LY h ∧ FS h F fa ∧ (∀ f, f < F → FC h (fa f) (C f) (cc f)) ∧ SW F C fa cc ∧ cm_I h 0 12 = nI (t + 1) ∧ t < 2000 ∧ (∀ s, s < 8 → cm_I h 2 s = nI (st s) ∧ st s ≤ 1000) ∧ ∀ f, f < F → cm_I h (fa f) 11 = nI (sh f) ∧ sh f ≤ 1000 ∧ (0 < sh f → 0 < C f) ∧ cm_I h (fa f) 4 = nI (pr f) ∧ 1 ≤ pr f ∧ pr f ≤ 1000 ∧ cm_sum (cm_I h (fa f + 2)) 8 = nI (kc f) ∧ kc f < 2 ^ 30 ∧ (∀ c, c < C f → c_wd h (cc f c) = nI (W f c) ∧ W f c < 2 ^ 31) ∧ ∀ s, s < 8 → cm_I h (fa f + 3) s = nI (l f s) ∧ l f s ≤ 10000
theorem c_run {h' : cmH} {i : Nat} (P : CRP h F t C fa kc pr st sh cc W l) (hi : i < F) (r : Nat → Int32) (X : CRN h h' F t C fa st sh cc W l r i) (k : ∀ h2 rr, (0 < sh i → q_push (c_bedv h (C i) (cc i)) (kc i) (pr i) (sh i) rr) → CRN h h2 F t C fa st sh cc W l (fun o => if o = i then rr else r o) (i + 1) → KV h2) : cm_cv sc (d + 6) 83 [.ref 0, .int (nI i)] h' KV := by
  obtain ⟨L, G, GC, S, hT, ht, hst, hf⟩ := P
  have h8 := G.2.1
  obtain ⟨es, hs2, c0, hpr, p1, p2, hk, hk2, hW, hl⟩ := hf i hi
  have L' := X.1.ly L
  have sf := S.1
  have fne : ∀ f f', f < F → f' < F → f ≠ f' → fa f + 3 < fa f' ∨ fa f' + 3 < fa f := S.2.1
  have pn : ∀ x k, x < 88 → x ≠ 18 → x ≠ 19 → x ≠ 20 → ¬ P_cn F t C fa cc x k := fun x k hx a b c => by
    rintro (q | q | ⟨f, hf, q | q | q | ⟨c', hc', q⟩⟩)
    · omega
    · omega
    · have := sf f hf; omega
    · have := sf f hf; omega
    · have := sf f hf; omega
    · have := (S.2.2.1 f c' hf hc').1; omega
  have pf : ∀ f k, f < F → k ≠ 12 → k ≠ 13 → k ≠ 14 → k ≠ 15 → k ≠ 19 → ¬ P_cn F t C fa cc (fa f) k := fun f k hf' a1 a2 a3 a4 a5 => by
    have h1 := sf f hf'
    rintro (q | q | ⟨f', hf'', q | q | q | ⟨c', hc', q⟩⟩)
    · omega
    · omega
    · omega
    · by_cases y : f = f'
      · subst y; omega
      · have := fne f f' hf' hf'' y; omega
    · by_cases y : f = f'
      · subst y; omega
      · have := fne f f' hf' hf'' y; omega
    · have := (S.2.2.1 f' c' hf'' hc').2 f hf'; omega
  have pc : ∀ f c k, f < F → c < C f → k ≠ 2 → ¬ P_cn F t C fa cc (cc f c) k := fun f c k hf' hc hk => by
    have h1 := S.2.2.1 f c hf' hc
    rintro (q | q | ⟨f', hf'', q | q | q | ⟨c', hc', q⟩⟩)
    · omega
    · omega
    · have := h1.2 f' hf''; omega
    · have := h1.2 f' hf''; omega
    · have := h1.2 f' hf''; omega
    · by_cases y : f = f' ∧ c = c'
      · obtain ⟨rfl, rfl⟩ := y; omega
      · have := S.2.2.2 f c f' c' hf' hc hf'' hc' (by omega); omega
  have gs : FS h' F fa := ⟨by rw [X.1.2 0 10 (pn _ _ (by omega) (by decide) (by decide) (by decide))]; exact G.1, h8, fun f hf => by rw [X.1.R]; exact G.2.2 f hf⟩
  have gc : FC h' (fa i) (C i) (cc i) := X.1.FC (GC i hi) (pf i 3 hi (by decide) (by decide) (by decide) (by decide) (by decide)) (fun c hc => pc i c 5 hi hc (by decide))
  refine cv_of rfl (s83_0 L' _ _ _ _ _ (c_filterI L' gs hi (s83_5 _ _ _ _ _ (some (fa i)) ⟨fun w => (by cases w), fun b eb => ?_⟩)))
  cases eb
  refine ⟨gc.1, ?_⟩
  have e11 : cm_I h' (fa i) 11 = nI (sh i) := by rw [X.1.2 _ _ (pf i 11 hi (by decide) (by decide) (by decide) (by decide) (by decide))]; exact es
  rw [e11]
  refine ⟨fun z => ?_, fun z => ⟨rfl, k h' (r i) (fun q => absurd (nI_le (a := 1) q (by omega)) z) ?_⟩⟩
  case refine_2 =>
    have z0 : sh i = 0 := by
      rcases Nat.eq_zero_or_pos (sh i) with y | y
      · exact y
      · exact absurd (nI_le (a := 1) y (by omega)) z
    have er : (fun o => if o = i then r i else r o) = r := by
      funext o
      by_cases y : o = i
      · rw [if_pos y, y]
      · rw [if_neg y]
    rw [er]
    exact X.skip z0
  case refine_1 =>
    have z0 : 0 < sh i := by
      have := (nI_leI (a := 1) (by decide) (by omega)).mp z
      omega
    obtain ⟨b1, b2, b3, b4, b5, b6, b7⟩ := X.2.1 i hi
    have nlt : ∀ Q : Prop, ¬ (i < i ∧ Q) := fun Q q => absurd q.1 (by omega)
    rw [if_neg (nlt _)] at b1 b2 b3 b4 b5
    have b6' : ∀ s, s < 8 → cm_I h' (fa i + 2) s = cm_I h (fa i + 2) s ∧ cm_I h' (fa i + 3) s = nI (l i s) := fun s hs => by
      have := b6 s hs
      rw [if_neg (nlt _)] at this
      exact ⟨this.1, by rw [this.2 (Nat.le_refl _)]; exact (hl s hs).1⟩
    have b7' : ∀ c, c < C i → (∀ s, s < 8 → cm_I h' (cc i c + 1) s = cm_I h (cc i c + 1) s) ∧ cm_I h' (cc i c) 2 = cm_I h (cc i c) 2 := fun c hc => by
      have := b7 c hc
      rw [if_neg (nlt _)] at this
      refine ⟨fun s hs => ?_, this.2⟩
      have := this.1 s hs
      rw [if_neg (nlt _)] at this
      exact this
    have ewd : ∀ c, c < C i → c_wd h' (cc i c) = nI (W i c) ∧ W i c < 2 ^ 31 := fun c hc => by
      refine ⟨?_, (hW c hc).2⟩
      rw [← (hW c hc).1]
      unfold c_wd
      rw [X.1.2 _ _ (pc i c 4 hi hc (by decide)), X.1.2 _ _ (pc i c 5 hi hc (by decide)), (b7' c hc).2]
    have ebd : c_bedv h' (C i) (cc i) = c_bedv h (C i) (cc i) := c_bedv_congr fun c hc => ⟨X.1.2 _ _ (pc i c 4 hi hc (by decide)), X.1.2 _ _ (pc i c 5 hi hc (by decide)), (b7' c hc).2⟩
    have eld : cm_sum (cm_I h' (fa i + 3)) 8 = nI (q_ns (l i) 8) := by
      rw [← cm_sum_nI]; exact cm_sum_congr fun s hs => (b6' s hs).2
    have hlb : q_ns (l i) 8 ≤ 10000 * 8 := q_ns_le fun s hs => (hl s hs).2
    have hT' : cm_I h' 0 12 = nI (t + 1) := by rw [X.1.2 0 12 (pn _ _ (by omega) (by decide) (by decide) (by decide))]; exact hT
    -- steps on other filters' places
    have oth : ∀ rr : Int32, ∀ f, f ≠ i → (ac1 sh (fun o => if o = i then rr else r o) f ↔ ac1 sh r f) ∧ (ac2 sh (fun o => if o = i then rr else r o) f ↔ ac2 sh r f) := fun rr f y => by
      show ((0 < sh f ∧ (if f = i then rr else r f) ≠ -1) ↔ _) ∧ ((0 < sh f ∧ (if f = i then rr else r f) = -1) ↔ _)
      rw [if_neg y]; exact ⟨Iff.rfl, Iff.rfl⟩
    have orp : ∀ rr : Int32, ∀ f, f ≠ i → ∀ v1 v2, q_rp sh (fun o => if o = i then rr else r o) C W l st v1 v2 f = q_rp sh r C W l st v1 v2 f := fun rr f y v1 v2 => by
      have := propext (oth rr f y).1
      show (_ ∧ _) = (_ ∧ _)
      rw [this]
    have sums : ∀ rr : Int32, ∀ s, cm_sum (fun f => if ac1 sh (fun o => if o = i then rr else r o) f then nI (q_out (W f) st (l f) (C f) s) else 0) i = cm_sum (fun f => if ac1 sh r f then nI (q_out (W f) st (l f) (C f) s) else 0) i ∧ cm_sum (fun f => if ac2 sh (fun o => if o = i then rr else r o) f then nI (l f s) else 0) i = cm_sum (fun f => if ac2 sh r f then nI (l f s) else 0) i := fun rr s => ⟨cm_sum_congr fun f hf => by simp only [(oth rr f (by omega)).1], cm_sum_congr fun f hf => by simp only [(oth rr f (by omega)).2]⟩
    refine c_loadInAll gc.1 (s83_23 L' _ (some (fa i)) _ _ _ _ ⟨_, rfl, gc.1, ?_⟩)
    rw [eld, e11]
    refine c_pass (W := W i) (st := st) (l := l i) (kk := kc i) (pr := pr i) L' gc (S.sp hi) (c0 z0) hs2 (by rw [X.1.2 _ _ (pf i 4 hi (by decide) (by decide) (by decide) (by decide) (by decide))]; exact hpr) p1 p2 (by rw [← hk]; exact cm_sum_congr fun s hs => (b6' s hs).1) (by omega) ewd (fun s hs => by rw [X.1.2 2 s (pn _ _ (by omega) (by decide) (by decide) (by decide))]; exact hst s hs) (fun s hs => ⟨(b6' s hs).2, (hl s hs).2⟩) (fun hp => s83_36 _ (some (fa i)) _ _ _ _ ?_) (fun rr hr hp h1 Y => s83_36 _ (some (fa i)) _ _ _ _ ?_)
    · -- no push: round
      rw [ebd] at hp
      have A2 : ac2 sh (fun o => if o = i then (-1 : Int32) else r o) i := ⟨z0, if_pos rfl⟩
      have N1 : ¬ ac1 sh (fun o => if o = i then (-1 : Int32) else r o) i := fun q => q.2 (if_pos rfl)
      have gen : ∀ (m j : Nat) (h2 : cmH), j + m = 8 → XI h' h2 (fun x k => (x = 19 ∧ k < 8) ∨ (x = 20 ∧ 24 * t ≤ k ∧ k < 24 * t + 24)) → (∀ s, s < 8 → cm_I h2 19 s = (if s < j then cm_I h' 19 s + nI (l i s) else cm_I h' 19 s) ∧ cm_I h2 20 (24 * t + s) = cm_I h' 20 (24 * t + s) ∧ cm_I h2 20 (24 * t + 8 + s) = cm_I h' 20 (24 * t + 8 + s) ∧ cm_I h2 20 (24 * t + 16 + s) = (if s < j then cm_I h' 20 (24 * t + 16 + s) + nI (l i s) else cm_I h' 20 (24 * t + 16 + s))) → cm_wp sc (d + 6) 83 41 [some (.ref 0), some (.int (nI i)), some (va_rf (some (fa i))), some (.int (nI (q_ns (l i) 8))), some (.int 0), some (.int (nI j))] [] h2 (fun v h' => v = none ∧ KV h') := by
        intro m
        induction m with
        | zero =>
          intro j h2 hj X2 v
          obtain rfl : j = 8 := by omega
          have o2 : ∀ x k, x ≠ 19 → x ≠ 20 → cm_I h2 x k = cm_I h' x k := fun x k a b => X2.2 x k (by omega)
          refine s83_41 (X2.ly L') _ (some (fa i)) _ _ _ ⟨fun _ => br_t rfl ⟨_, rfl, X2.FL gc.1, rfl, k _ (-1) (fun _ => hp) ⟨?_, fun f hf' => ?_, fun s hs => ?_⟩⟩, fun w => absurd (Int32.le_refl _) w⟩
          · refine (X.1.trans (X2.mono fun x k q => ?_)).set (Or.inr (Or.inr ⟨i, hi, Or.inl ⟨rfl, by omega⟩⟩))
            rcases q with q | q
            · exact Or.inl ⟨Or.inr q.1, q.2⟩
            · exact Or.inr (Or.inl q)
          · obtain ⟨c1, c2, c3, c4, c5, c6, c7⟩ := X.2.1 f hf'
            have hsf := sf f hf'
            by_cases y : f = i
            · subst y
              have lt : ∀ Q : Prop, ((f < f + 1 ∧ Q) ↔ Q) := fun Q => ⟨fun q => q.2, fun q => ⟨by omega, q⟩⟩
              have nrp : ¬ q_rp sh (fun o => if o = f then (-1 : Int32) else r o) C W l st (cm_I h (fa f) 14) (cm_I h (fa f) 15) f := fun q => N1 q.1
              refine ⟨?_, ?_, ?_, ?_, ?_, fun s hs => ⟨?_, fun q => absurd q (by omega)⟩, fun c hc => ⟨fun s hs => ?_, ?_⟩⟩
              · rw [sI_o (Or.inr (by decide)), o2 _ _ (by omega) (by omega), if_neg (fun q => N1 q.2)]; exact b1
              · rw [sI_o (Or.inr (by decide)), o2 _ _ (by omega) (by omega), if_neg (fun q => N1 q.2)]; exact b2
              · rw [sI_o (Or.inr (by decide)), o2 _ _ (by omega) (by omega), if_neg (fun q => nrp q.2)]; exact b3
              · rw [sI_o (Or.inr (by decide)), o2 _ _ (by omega) (by omega), if_neg (fun q => nrp q.2)]; exact b4
              · rw [sI_s, if_pos ⟨by omega, A2⟩]
              · rw [sI_o (Or.inl (by omega)), o2 _ _ (by omega) (by omega), if_neg (fun q => N1 q.2)]; exact (b6' s hs).1
              · have hq := S.2.2.1 f c hf' hc
                have hq2 := hq.2 f hf'
                rw [sI_o (Or.inl (by omega)), o2 _ _ (by omega) (by omega), if_neg (fun q => N1 q.2)]; exact (b7' c hc).1 s hs
              · have hq := S.2.2.1 f c hf' hc
                have hq2 := hq.2 f hf'
                rw [sI_o (Or.inl (by omega)), o2 _ _ (by omega) (by omega), if_neg (fun q => N1 q.2)]; exact (b7' c hc).2
            · have e1 : ∀ Q : Prop, ((f < i + 1 ∧ Q) ↔ (f < i ∧ Q)) := fun Q => ⟨fun q => ⟨by have := q.1; omega, q.2⟩, fun q => ⟨by omega, q.2⟩⟩
              have hsep := fne f i hf' hi y
              have o3 : ∀ k, k ≤ 20 → True := fun _ _ => trivial
              simp only [orp (-1) f y, e1, (oth (-1) f y).1, (oth (-1) f y).2]
              refine ⟨?_, ?_, ?_, ?_, ?_, fun s hs => ⟨?_, fun q => ?_⟩, fun c hc => ⟨fun s hs => ?_, ?_⟩⟩
              · rw [sI_o (Or.inl (by omega)), o2 _ _ (by omega) (by omega), c1, if_neg y]
              · rw [sI_o (Or.inl (by omega)), o2 _ _ (by omega) (by omega)]; exact c2
              · rw [sI_o (Or.inl (by omega)), o2 _ _ (by omega) (by omega)]; exact c3
              · rw [sI_o (Or.inl (by omega)), o2 _ _ (by omega) (by omega)]; exact c4
              · rw [sI_o (Or.inl (by omega)), o2 _ _ (by omega) (by omega)]; exact c5
              · rw [sI_o (Or.inl (by omega)), o2 _ _ (by omega) (by omega)]; exact (c6 s hs).1
              · rw [sI_o (Or.inl (by omega)), o2 _ _ (by omega) (by omega)]; exact (c6 s hs).2 (by omega)
              · have hq := S.2.2.1 f c hf' hc
                have hq2 := hq.2 i hi
                rw [sI_o (Or.inl (by omega)), o2 _ _ (by omega) (by omega)]; exact (c7 c hc).1 s hs
              · have hq := S.2.2.1 f c hf' hc
                have hq2 := hq.2 i hi
                rw [sI_o (Or.inl (by omega)), o2 _ _ (by omega) (by omega)]; exact (c7 c hc).2
          · have hsi := sf i hi
            obtain ⟨c1, c2, c3, c4, c5⟩ := X.2.2 s hs
            obtain ⟨d1, d2, d3, d4⟩ := v s hs
            rw [if_pos hs] at d1 d4
            refine ⟨?_, ?_, ?_, ?_, ?_⟩
            · rw [sI_o (Or.inl (by omega)), o2 _ _ (by omega) (by omega), c1, cm_sum_succ, (sums (-1) s).1, if_neg N1, Int32.add_zero]
            · rw [sI_o (Or.inl (by omega)), d1, c2, cm_sum_succ, (sums (-1) s).2, if_pos A2, Int32.add_assoc]
            · rw [sI_o (Or.inl (by omega)), d2, c3]
            · rw [sI_o (Or.inl (by omega)), d3, c4, cm_sum_succ, (sums (-1) s).1, if_neg N1, Int32.add_zero]
            · rw [sI_o (Or.inl (by omega)), d4, c5, cm_sum_succ, (sums (-1) s).2, if_pos A2, Int32.add_assoc]
        | succ m ih =>
          intro j h2 hj X2 v
          have hj8 : j < 8 := by omega
          have hsi := sf i hi
          have L2 := X2.ly L'
          refine s83_41 L2 _ (some (fa i)) _ _ _ ⟨fun w => absurd w (nI_ge (b := 8) hj8 (by decide)), fun _ => br_t rfl ⟨_, rfl, X2.FL gc.1, ix_nI hj8 (by decide), ?_⟩⟩
          rw [nI_clamp (by omega), X2.2 0 12 (by omega), hT', X2.2 (fa i + 3) j (by omega), (b6' j hj8).2]
          obtain ⟨d1, d2, d3, d4⟩ := v j hj8
          rw [if_neg (by omega)] at d1 d4
          refine c_noteRound L2 ht hj8 (s83_96 _ (some (fa i)) _ _ _ ?_)
          rw [d1, d4, nI_1]
          refine ih (j + 1) _ (by omega) ((X2.set (Or.inr ⟨rfl, by omega, by omega⟩)).set (Or.inl ⟨rfl, hj8⟩)) fun s hs => ?_
          obtain ⟨g1, g2, g3, g4⟩ := v s hs
          refine ⟨?_, ?_, ?_, ?_⟩
          · by_cases y : s = j
            · subst y; rw [sI_s, if_pos (by omega)]
            · rw [sI_o (Or.inr y), sI_o (Or.inl (by decide)), g1]
              by_cases y2 : s < j
              · rw [if_pos y2, if_pos (by omega)]
              · rw [if_neg y2, if_neg (by omega)]
          · rw [sI_o (Or.inl (by decide)), sI_o (Or.inr (by omega))]; exact g2
          · rw [sI_o (Or.inl (by decide)), sI_o (Or.inr (by omega))]; exact g3
          · rw [sI_o (Or.inl (by decide))]
            by_cases y : s = j
            · subst y; rw [sI_s, if_pos (by omega)]
            · rw [sI_o (Or.inr (by omega)), g4]
              by_cases y2 : s < j
              · rw [if_pos y2, if_pos (by omega)]
              · rw [if_neg y2, if_neg (by omega)]
      exact gen 8 0 h' (by omega) XI.refl (fun s hs => by rw [if_neg (by omega), if_neg (by omega)]; exact ⟨rfl, rfl, rfl, rfl⟩)
    · -- it passes
      rw [ebd] at hp
      have A1 : ac1 sh (fun o => if o = i then rr else r o) i := ⟨z0, by show (if i = i then rr else r i) ≠ -1; rw [if_pos rfl]; exact hr⟩
      have N2 : ¬ ac2 sh (fun o => if o = i then rr else r o) i := fun q => hr (by have := q.2; dsimp only at this; rw [if_pos rfl] at this; exact this)
      have hsi := sf i hi
      have y1 : ∀ x k, ¬ P_ps (fa i) (C i) (cc i) x k → cm_I h1 x k = cm_I h' x k := Y.1.2
      have pps : ∀ x k, x < 88 → ¬ P_ps (fa i) (C i) (cc i) x k := fun x k hx => by
        rintro (q | q | q | ⟨c, hc, q⟩)
        · omega
        · omega
        · omega
        · have := (S.2.2.1 i c hi hc).1; omega
      have ppo : ∀ f j k, f < F → f ≠ i → j ≤ 3 → ¬ P_ps (fa i) (C i) (cc i) (fa f + j) k := fun f j k hf' y hj => by
        have h1 := fne f i hf' hi y
        rintro (q | q | q | ⟨c, hc, q⟩)
        · omega
        · omega
        · omega
        · have := (S.2.2.1 i c hi hc).2 f hf'; omega
      have ppc : ∀ f c j k, f < F → f ≠ i → c < C f → j ≤ 2 → ¬ P_ps (fa i) (C i) (cc i) (cc f c + j) k := fun f c j k hf' y hc hj => by
        have h1 := (S.2.2.1 f c hf' hc).2 i hi
        rintro (q | q | q | ⟨c', hc', q⟩)
        · omega
        · omega
        · omega
        · have := S.2.2.2 f c i c' hf' hc hi hc' (Or.inl y); omega
      have ppi : ∀ k, k ≠ 12 → ¬ P_ps (fa i) (C i) (cc i) (fa i) k := fun k hk => by
        rintro (q | q | q | ⟨c, hc, q⟩)
        · omega
        · omega
        · omega
        · have := (S.2.2.1 i c hi hc).2 i hi; omega
      have eo : ∀ s, s < 8 → cm_I h1 (fa i + 3) s = nI (q_out (W i) st (l i) (C i) s) := fun s hs => (Y.2.2.1 s hs).2
      have hob : q_of C W l st i ≤ 10000 * 8 := q_ns_le fun s hs => Nat.le_trans q_out_le (hl s hs).2
      have gen : ∀ (m j : Nat) (h2 : cmH), j + m = 8 → XI h1 h2 (fun x k => (x = 18 ∧ k < 8) ∨ (x = 20 ∧ 24 * t ≤ k ∧ k < 24 * t + 24)) → (∀ s, s < 8 → cm_I h2 18 s = (if s < j then cm_I h' 18 s + nI (q_out (W i) st (l i) (C i) s) else cm_I h' 18 s) ∧ cm_I h2 20 (24 * t + s) = cm_I h' 20 (24 * t + s) ∧ cm_I h2 20 (24 * t + 8 + s) = (if s < j then cm_I h' 20 (24 * t + 8 + s) + nI (q_out (W i) st (l i) (C i) s) else cm_I h' 20 (24 * t + 8 + s)) ∧ cm_I h2 20 (24 * t + 16 + s) = cm_I h' 20 (24 * t + 16 + s)) → cm_wp sc (d + 6) 83 41 [some (.ref 0), some (.int (nI i)), some (va_rf (some (fa i))), some (.int (nI (q_ns (l i) 8))), some (.int 1), some (.int (nI j))] [] h2 (fun v h' => v = none ∧ KV h') := by
        intro m
        induction m with
        | zero =>
          intro j h2 hj X2 v
          obtain rfl : j = 8 := by omega
          have o2 : ∀ x k, x ≠ 18 → x ≠ 20 → cm_I h2 x k = cm_I h1 x k := fun x k a b => X2.2 x k (by omega)
          have F2 : FL h2 (fa i) := X2.FL (Y.1.FL gc.1)
          have L2 : LY h2 := X2.ly (Y.1.ly L')
          refine s83_41 L2 _ (some (fa i)) _ _ _ ⟨fun _ => br_f (by decide) ⟨_, rfl, F2, c_loadInAll F2 (s83_112 L2 _ (some (fa i)) _ _ _ _ (some (fa i)) ⟨_, rfl, F2, _, rfl, F2, ?_⟩)⟩, fun w => absurd (Int32.le_refl _) w⟩
          have elo : cm_sum (cm_I h2 (fa i + 3)) 8 = nI (q_of C W l st i) := by
            unfold q_of
            rw [← cm_sum_nI]
            exact cm_sum_congr fun s hs => by rw [o2 _ _ (by omega) (by omega)]; exact eo s hs
          rw [elo, sI_o (b := 0) (Or.inl (by omega)), o2 0 12 (by decide) (by decide), y1 0 12 (pps _ _ (by omega)), hT']
          have X3 : XI h (cm_setI h2 (fa i) 13 (nI (q_of C W l st i))) (P_cn F t C fa cc) := by
            have a1 : XI h h1 (P_cn F t C fa cc) := X.1.trans (Y.1.mono fun x k q => by
              refine Or.inr (Or.inr ⟨i, hi, ?_⟩)
              rcases q with q | q | q | q
              · exact Or.inl ⟨q.1, Or.inl q.2⟩
              · exact Or.inr (Or.inl q)
              · exact Or.inr (Or.inr (Or.inl q))
              · exact Or.inr (Or.inr (Or.inr q)))
            refine (a1.trans (X2.mono fun x k q => ?_)).set (Or.inr (Or.inr ⟨i, hi, Or.inl ⟨rfl, by omega⟩⟩))
            rcases q with q | q
            · exact Or.inl ⟨Or.inl q.1, q.2⟩
            · exact Or.inr (Or.inl q)
          -- the end, by what is remembered
          have core : ∀ h4 : cmH, XI h h4 (P_cn F t C fa cc) → (∀ x k, ¬ (x = fa i ∧ (k = 14 ∨ k = 15)) → cm_I h4 x k = cm_I (cm_setI h2 (fa i) 13 (nI (q_of C W l st i))) x k) → cm_I h4 (fa i) 14 = (if q_rp sh (fun o => if o = i then rr else r o) C W l st (cm_I h (fa i) 14) (cm_I h (fa i) 15) i then nI (t + 1) else cm_I h (fa i) 14) → cm_I h4 (fa i) 15 = (if q_rp sh (fun o => if o = i then rr else r o) C W l st (cm_I h (fa i) 14) (cm_I h (fa i) 15) i then nI (q_of C W l st i) else cm_I h (fa i) 15) → KV h4 := by
            intro h4 X4 o4 v14 v15
            refine k h4 rr (fun _ => hp) ⟨X4, fun f hf' => ?_, fun s hs => ?_⟩
            · obtain ⟨c1, c2, c3, c4, c5, c6, c7⟩ := X.2.1 f hf'
              have hsf := sf f hf'
              by_cases y : f = i
              · subst y
                have lt : ∀ Q : Prop, ((f < f + 1 ∧ Q) ↔ Q) := fun Q => ⟨fun q => q.2, fun q => ⟨by omega, q⟩⟩
                simp only [lt]
                refine ⟨?_, ?_, v14, v15, ?_, fun s hs => ⟨?_, fun q => absurd q (by omega)⟩, fun c hc => ⟨fun s hs => ?_, ?_⟩⟩
                · rw [o4 _ _ (by omega), sI_o (Or.inr (by decide)), o2 _ _ (by omega) (by omega), Y.2.1, if_pos A1]; simp
                · rw [o4 _ _ (by omega), sI_s, if_pos A1]
                · rw [o4 _ _ (by omega), sI_o (Or.inr (by decide)), o2 _ _ (by omega) (by omega), y1 _ _ (ppi 19 (by decide)), if_neg N2]; exact b5
                · rw [o4 _ _ (by omega), sI_o (Or.inl (by omega)), o2 _ _ (by omega) (by omega), (Y.2.2.1 s hs).1, (b6' s hs).1, if_pos A1]
                · have hq := S.2.2.1 f c hf' hc
                  have hq2 := hq.2 f hf'
                  have := (Y.2.2.2 c hc).1 s hs
                  rw [if_pos hc] at this
                  rw [o4 _ _ (by omega), sI_o (Or.inl (by omega)), o2 _ _ (by omega) (by omega), this, (b7' c hc).1 s hs, if_pos A1]
                · have hq := S.2.2.1 f c hf' hc
                  have hq2 := hq.2 f hf'
                  have := (Y.2.2.2 c hc).2
                  rw [if_pos hc] at this
                  rw [o4 _ _ (by omega), sI_o (Or.inl (by omega)), o2 _ _ (by omega) (by omega), this, (b7' c hc).2, if_pos A1]
              · have e1 : ∀ Q : Prop, ((f < i + 1 ∧ Q) ↔ (f < i ∧ Q)) := fun Q => ⟨fun q => ⟨by have := q.1; omega, q.2⟩, fun q => ⟨by omega, q.2⟩⟩
                have hsep := fne f i hf' hi y
                simp only [orp rr f y, e1, (oth rr f y).1, (oth rr f y).2]
                have go : ∀ k, cm_I h4 (fa f) k = cm_I h' (fa f) k := fun k => by
                  rw [o4 _ _ (by omega), sI_o (Or.inl (by omega)), o2 _ _ (by omega) (by omega)]; exact y1 _ _ (ppo f 0 k hf' y (by omega))
                refine ⟨?_, ?_, ?_, ?_, ?_, fun s hs => ⟨?_, fun q => ?_⟩, fun c hc => ⟨fun s hs => ?_, ?_⟩⟩
                · rw [go, c1, if_neg y]
                · rw [go]; exact c2
                · rw [go]; exact c3
                · rw [go]; exact c4
                · rw [go]; exact c5
                · rw [o4 _ _ (by omega), sI_o (Or.inl (by omega)), o2 _ _ (by omega) (by omega), y1 _ _ (ppo f 2 s hf' y (by omega))]; exact (c6 s hs).1
                · rw [o4 _ _ (by omega), sI_o (Or.inl (by omega)), o2 _ _ (by omega) (by omega), y1 _ _ (ppo f 3 s hf' y (by omega))]; exact (c6 s hs).2 (by omega)
                · have hq := S.2.2.1 f c hf' hc
                  have hq2 := hq.2 i hi
                  rw [o4 _ _ (by omega), sI_o (Or.inl (by omega)), o2 _ _ (by omega) (by omega), y1 _ _ (ppc f c 1 s hf' y hc (by omega))]; exact (c7 c hc).1 s hs
                · have hq := S.2.2.1 f c hf' hc
                  have hq2 := hq.2 i hi
                  rw [o4 _ _ (by omega), sI_o (Or.inl (by omega)), o2 _ _ (by omega) (by omega), y1 (cc f c) 2 (ppc f c 0 2 hf' y hc (by omega))]; exact (c7 c hc).2
            · obtain ⟨c1, c2, c3, c4, c5⟩ := X.2.2 s hs
              obtain ⟨d1, d2, d3, d4⟩ := v s hs
              rw [if_pos hs] at d1 d3
              refine ⟨?_, ?_, ?_, ?_, ?_⟩
              · rw [o4 _ _ (by omega), sI_o (Or.inl (by omega)), d1, c1, cm_sum_succ, (sums rr s).1, if_pos A1, Int32.add_assoc]
              · rw [o4 _ _ (by omega), sI_o (Or.inl (by omega)), o2 _ _ (by omega) (by omega), y1 _ _ (pps _ _ (by omega)), c2, cm_sum_succ, (sums rr s).2, if_neg N2, Int32.add_zero]
              · rw [o4 _ _ (by omega), sI_o (Or.inl (by omega)), d2, c3]
              · rw [o4 _ _ (by omega), sI_o (Or.inl (by omega)), d3, c4, cm_sum_succ, (sums rr s).1, if_pos A1, Int32.add_assoc]
              · rw [o4 _ _ (by omega), sI_o (Or.inl (by omega)), d4, c5, cm_sum_succ, (sums rr s).2, if_neg N2, Int32.add_zero]
          have f14 : cm_I (cm_setI h2 (fa i) 13 (nI (q_of C W l st i))) (fa i) 14 = cm_I h (fa i) 14 := by rw [sI_o (Or.inr (by decide)), o2 _ _ (by omega) (by omega), y1 _ _ (ppi 14 (by decide))]; exact b3
          have f15 : cm_I (cm_setI h2 (fa i) 13 (nI (q_of C W l st i))) (fa i) 15 = cm_I h (fa i) 15 := by rw [sI_o (Or.inr (by decide)), o2 _ _ (by omega) (by omega), y1 _ _ (ppi 15 (by decide))]; exact b4
          have f13 : cm_I (cm_setI h2 (fa i) 13 (nI (q_of C W l st i))) (fa i) 13 = nI (q_of C W l st i) := sI_s
          have F3 : FL (cm_setI h2 (fa i) 13 (nI (q_of C W l st i))) (fa i) := F2
          have no : ¬ (0 < q_ns (l i) 8 ∧ (cm_I h (fa i) 14 = -1 ∨ nI (q_of C W l st i) < cm_I h (fa i) 15)) → KV (cm_setI h2 (fa i) 13 (nI (q_of C W l st i))) := fun q => core _ X3 (fun x k _ => rfl) (by rw [if_neg (fun p : q_rp sh (fun o => if o = i then rr else r o) C W l st (cm_I h (fa i) 14) (cm_I h (fa i) 15) i => q p.2)]; exact f14) (by rw [if_neg (fun p : q_rp sh (fun o => if o = i then rr else r o) C W l st (cm_I h (fa i) 14) (cm_I h (fa i) 15) i => q p.2)]; exact f15)
          have yes : 0 < q_ns (l i) 8 → (cm_I h (fa i) 14 = -1 ∨ nI (q_of C W l st i) < cm_I h (fa i) 15) → cm_wp sc (d + 5) 88 23 [some (.ref (fa i)), some (.int (nI (t + 1))), some (.int (nI (q_ns (l i) 8)))] [] (cm_setI h2 (fa i) 13 (nI (q_of C W l st i))) (fun v h' => v = none ∧ cm_wp sc (d + 6) 83 124 [some (.ref 0), some (.int (nI i)), some (.ref (fa i)), some (.int (nI (q_ns (l i) 8))), some (.int 1), some (.int (nI 8))] [] h' (fun v h' => v = none ∧ KV h')) := by
            intro q1 q2
            have qq : q_rp sh (fun o => if o = i then rr else r o) C W l st (cm_I h (fa i) 14) (cm_I h (fa i) 15) i := ⟨A1, q1, q2⟩
            refine s88_23 _ _ _ ⟨F3, rfl, s83_124 _ (some (fa i)) _ _ _ ⟨rfl, ?_⟩⟩
            rw [sI_o (Or.inr (by decide)), f13]
            refine core _ ((X3.set (Or.inr (Or.inr ⟨i, hi, Or.inl ⟨rfl, by omega⟩⟩))).set (Or.inr (Or.inr ⟨i, hi, Or.inl ⟨rfl, by omega⟩⟩))) (fun x k q => ?_) ?_ ?_
            · rw [sI_o (by omega), sI_o (by omega)]
            · rw [sI_o (Or.inr (by decide)), sI_s, if_pos qq]
            · rw [sI_s, if_pos qq]
          refine cv_of rfl (s88_0 _ _ _ ⟨fun w => ⟨rfl, s83_124 _ (some (fa i)) _ _ _ ⟨rfl, no ?_⟩⟩, fun w => ⟨F3, ?_⟩⟩)
          · rintro ⟨q1, -⟩
            exact nI_nle q1 (by omega) w
          · have q1 : 0 < q_ns (l i) 8 := by
              rcases Nat.eq_zero_or_pos (q_ns (l i) 8) with y | y
              · exact absurd (by rw [y]; decide) w
              · exact y
            rw [f14, f15, f13]
            refine ⟨fun z => yes q1 (Or.inl z), fun z => ⟨fun z2 => ⟨rfl, s83_124 _ (some (fa i)) _ _ _ ⟨rfl, no ?_⟩⟩, fun z2 => yes q1 (Or.inr (Int32.not_le.mp z2))⟩⟩
            rintro ⟨-, q | q⟩
            · exact z q
            · exact absurd z2 (Int32.not_le.mpr q)
        | succ m ih =>
          intro j h2 hj X2 v
          have hj8 : j < 8 := by omega
          have L2 : LY h2 := X2.ly (Y.1.ly L')
          refine s83_41 L2 _ (some (fa i)) _ _ _ ⟨fun w => absurd w (nI_ge (b := 8) hj8 (by decide)), fun _ => br_f (by decide) ⟨_, rfl, X2.FL (Y.1.FL gc.1), ix_nI hj8 (by decide), ?_⟩⟩
          rw [nI_clamp (by omega), X2.2 0 12 (by omega), y1 0 12 (pps _ _ (by omega)), hT', X2.2 (fa i + 3) j (by omega), eo j hj8]
          obtain ⟨d1, d2, d3, d4⟩ := v j hj8
          rw [if_neg (by omega)] at d1 d3
          refine c_noteOut L2 ht hj8 (s83_73 _ (some (fa i)) _ _ _ (s83_96 _ (some (fa i)) _ _ _ ?_))
          rw [d1, d3, nI_1]
          refine ih (j + 1) _ (by omega) ((X2.set (Or.inr ⟨rfl, by omega, by omega⟩)).set (Or.inl ⟨rfl, hj8⟩)) fun s hs => ?_
          obtain ⟨g1, g2, g3, g4⟩ := v s hs
          refine ⟨?_, ?_, ?_, ?_⟩
          · by_cases y : s = j
            · subst y; rw [sI_s, if_pos (by omega)]
            · rw [sI_o (Or.inr y), sI_o (Or.inl (by decide)), g1]
              by_cases y2 : s < j
              · rw [if_pos y2, if_pos (by omega)]
              · rw [if_neg y2, if_neg (by omega)]
          · rw [sI_o (Or.inl (by decide)), sI_o (Or.inr (by omega))]; exact g2
          · rw [sI_o (Or.inl (by decide))]
            by_cases y : s = j
            · subst y; rw [sI_s, if_pos (by omega)]
            · rw [sI_o (Or.inr (by omega)), g3]
              by_cases y2 : s < j
              · rw [if_pos y2, if_pos (by omega)]
              · rw [if_neg y2, if_neg (by omega)]
          · rw [sI_o (Or.inl (by decide)), sI_o (Or.inr (by omega))]; exact g4
      exact gen 8 0 h1 (by omega) XI.refl (fun s hs => by rw [if_neg (by omega), if_neg (by omega), y1 _ _ (pps _ _ (by omega)), y1 _ _ (pps _ _ (by omega)), y1 _ _ (pps _ _ (by omega)), y1 _ _ (pps _ _ (by omega))]; exact ⟨rfl, rfl, rfl, rfl⟩)
end CRUN
