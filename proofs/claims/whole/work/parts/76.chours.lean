/-! ===== the class's hours ===== -/
section CHOURS
variable {sc : cmS} {d : Nat} {h h' : cmH} {Qv : Option Value → cmH → Prop} {N Rn F Q : Nat} {fa C g st pr : Nat → Nat} {cc : Nat → Nat → Nat} {ta nn : Nat → Nat} {Tt : Nat → Nat → Nat} {cls : Nat → List CL} {ro : Nat → Option Nat} {x1 x2 : Int32}
/-- a chain of steps, numbered -/
def Ch (R : Nat → cmH → cmH → Prop) : Nat → Nat → cmH → cmH → Prop
  | 0, _, x, y => y = x
  | m + 1, i, x, y => ∃ z, R i x z ∧ Ch R m (i + 1) z y
def DSr (C fa : Nat → Nat) (cc : Nat → Nat → Nat) (cls : Nat → List CL) (ro : Nat → Option Nat) (i : Nat) (x y : cmH) : Prop := DS x y (fa i) (C i) (cc i) (wq (c_lf (cm_I x) (fa i) i) 99 (ro i) cls) (wq (c_lf (cm_I x) (fa i) i) 119 (ro i) cls) (wq (c_lf (cm_I x) (fa i) i) 114 (ro i) cls)
def WSr (C fa : Nat → Nat) (cc : Nat → Nat → Nat) (cls : Nat → List CL) (ro : Nat → Option Nat) (i : Nat) (x y : cmH) : Prop := WS x y (fa i) (C i) (cc i) (ro i) (q_cl (wq (c_lf (cm_I x) (fa i) i) 117 (ro i) cls))
/-- the class's numbers: T is now, B bounds each size of a cake -/
def CB (I : Nat → Nat → Int32) (F Q : Nat) (C fa g st pr : Nat → Nat) (T B : Nat) : Prop := I 0 12 = nI T ∧ I 12 1 = nI Q ∧ Q ≤ 1000 ∧ (∀ s, s < 8 → I 13 s = nI (g s) ∧ g s ≤ 9999 ∧ I 2 s = nI (st s) ∧ st s ≤ 1000) ∧ ∀ f, f < F → I (fa f) 4 = nI (pr f) ∧ 1 ≤ pr f ∧ pr f ≤ 1000 ∧ (I (fa f) 8 = 1 → 0 < C f) ∧ I (fa f) 19 = 0 ∧ ∀ s, s < 8 → ∃ k, I (fa f + 2) s = nI k ∧ k ≤ B
theorem P_cg_a {a n k : Nat} {ca : Nat → Nat} (S : SP a n ca) (q : P_cg a n ca a k) : k = 9 ∨ k = 10 := by
  rcases q with q | q | q | ⟨c, hc, q⟩
  · have := S.1; omega
  · omega
  · omega
  · have := S.2.1 c hc; unfold P_em at q; omega
theorem P_fw_a {a n k : Nat} {ca : Nat → Nat} (S : SP a n ca) (q : P_fw a n ca a k) : k = 9 ∨ k = 10 := by
  rcases q with q | q | q | ⟨c, hc, q⟩
  · have := S.1; omega
  · omega
  · omega
  · have := S.1; have := S.2.1 c hc; unfold P_cw at q; omega
theorem DS.lo {i x k : Nat} {a b c : Int32} (D : DS h h' (fa i) (C i) (cc i) a b c) (S : SW F C fa cc) (hi : i < F) (hx : x < 88) (h9 : x ≠ 9) (h10 : x ≠ 10) (h17 : x ≠ 17) : cm_I h' x k = cm_I h x k := by
  refine D.1.2.1 x k ?_
  rintro ((q | q | q) | q)
  · omega
  · omega
  · have := S.1 i hi; omega
  · rcases own_P_cg q with q | q
    · omega
    · have := S.own88 hi q; omega
theorem WS.lo {i x k : Nat} {u : Int32} {o1 : Option Nat} (D : WS h h' (fa i) (C i) (cc i) o1 u) (S : SW F C fa cc) (hi : i < F) (hx : x < 88) (h9 : x ≠ 9) (h10 : x ≠ 10) (h16 : x ≠ 16) : cm_I h' x k = cm_I h x k := by
  refine D.1.2.1 x k ?_
  rintro ((q | q | q) | q)
  · omega
  · omega
  · have := S.1 i hi; omega
  · rcases own_P_fw q with q | q
    · omega
    · have := S.own88 hi q; omega
theorem CB.ds {i T B : Nat} {a b c : Int32} (G : CB (cm_I h) F Q C fa g st pr T B) (D : DS h h' (fa i) (C i) (cc i) a b c) (S : SW F C fa cc) (hi : i < F) : CB (cm_I h') F Q C fa g st pr T B := by
  obtain ⟨g1, g2, g3, g4, g5⟩ := G
  refine ⟨by rw [D.lo S hi (by decide) (by decide) (by decide) (by decide)]; exact g1, by rw [D.lo S hi (by decide) (by decide) (by decide) (by decide)]; exact g2, g3, fun s hs => by rw [D.lo S hi (by decide) (by decide) (by decide) (by decide), D.lo S hi (by decide) (by decide) (by decide) (by decide)]; exact g4 s hs, fun f hf => ?_⟩
  obtain ⟨f1, f2, f3, f4, f5, f6⟩ := g5 f hf
  by_cases y : f = i
  · subst y
    have P := S.sp hf
    have e4 : cm_I h' (fa f) 4 = cm_I h (fa f) 4 := D.1.2.1 _ _ (by
      rintro (q | q)
      · have := S.1 f hf; unfold P_rd at q; omega
      · have := P_cg_a P q; omega)
    have e19 : cm_I h' (fa f) 19 = cm_I h (fa f) 19 := D.1.2.1 _ _ (by
      rintro (q | q)
      · have := S.1 f hf; unfold P_rd at q; omega
      · have := P_cg_a P q; omega)
    refine ⟨by rw [e4]; exact f1, f2, f3, fun e => ?_, by rw [e19]; exact f5, fun s hs => ?_⟩
    · rw [D.2.1] at e
      split at e
      · rename_i w; exact w.1
      · exact f4 e
    · by_cases w : act (C f) (cm_I h (fa f) 8) ∧ a ≠ 0
      · exact ⟨0, ((D.2.2.2 w).1 s hs).2, by omega⟩
      · rw [D.2.2.1 w _ _ (by have := S.1 f hf; unfold P_rd; omega)]; exact f6 s hs
  · have o : ∀ e k, e ≤ 3 → cm_I h' (fa f + e) k = cm_I h (fa f + e) k := fun e k he => D.other S hf hi y (own_a e he)
    have o0 : ∀ k, cm_I h' (fa f) k = cm_I h (fa f) k := fun k => o 0 k (by decide)
    exact ⟨by rw [o0]; exact f1, f2, f3, fun e => f4 (by rw [← o0]; exact e), by rw [o0]; exact f5, fun s hs => by rw [o 2 s (by decide)]; exact f6 s hs⟩
theorem CB.ws {i T B : Nat} {u : Int32} {o1 : Option Nat} (G : CB (cm_I h) F Q C fa g st pr T B) (D : WS h h' (fa i) (C i) (cc i) o1 u) (S : SW F C fa cc) (hi : i < F) : CB (cm_I h') F Q C fa g st pr T B := by
  obtain ⟨g1, g2, g3, g4, g5⟩ := G
  refine ⟨by rw [D.lo S hi (by decide) (by decide) (by decide) (by decide)]; exact g1, by rw [D.lo S hi (by decide) (by decide) (by decide) (by decide)]; exact g2, g3, fun s hs => by rw [D.lo S hi (by decide) (by decide) (by decide) (by decide), D.lo S hi (by decide) (by decide) (by decide) (by decide)]; exact g4 s hs, fun f hf => ?_⟩
  obtain ⟨f1, f2, f3, f4, f5, f6⟩ := g5 f hf
  by_cases y : f = i
  · subst y
    have P := S.sp hf
    have ek : ∀ k, k ≠ 9 → k ≠ 10 → k ≠ 11 → k ≠ 12 → k ≠ 13 → k ≠ 17 → k ≠ 18 → cm_I h' (fa f) k = cm_I h (fa f) k := fun k _ _ _ _ _ _ _ => D.1.2.1 _ _ (by
      rintro (q | q)
      · have := S.1 f hf; unfold P_wr at q; omega
      · have := P_fw_a P q; omega)
    refine ⟨by rw [ek 4 (by decide) (by decide) (by decide) (by decide) (by decide) (by decide) (by decide)]; exact f1, f2, f3, fun e => f4 (by rw [← ek 8 (by decide) (by decide) (by decide) (by decide) (by decide) (by decide) (by decide)]; exact e), by rw [ek 19 (by decide) (by decide) (by decide) (by decide) (by decide) (by decide) (by decide)]; exact f5, fun s hs => ?_⟩
    by_cases w : cm_I h (fa f) 8 = 2 ∧ o1 ≠ none
    · exact ⟨0, ((D.2.2.2 w).2.1 s hs).2, by omega⟩
    · rw [D.2.2.1 w _ _ (by have := S.1 f hf; unfold P_wr; omega)]; exact f6 s hs
  · have o : ∀ e k, e ≤ 3 → cm_I h' (fa f + e) k = cm_I h (fa f + e) k := fun e k he => D.other S hf hi y (own_a e he)
    have o0 : ∀ k, cm_I h' (fa f) k = cm_I h (fa f) k := fun k => o 0 k (by decide)
    exact ⟨by rw [o0]; exact f1, f2, f3, fun e => f4 (by rw [← o0]; exact e), by rw [o0]; exact f5, fun s hs => by rw [o 2 s (by decide)]; exact f6 s hs⟩
/-- washed, this hour -/
def Zw (I : Nat → Nat → Int32) (a : Nat) : Prop := I a 11 = 0 ∧ I a 12 = 0 ∧ I a 13 = 0 ∧ I a 18 = if I a 8 = 1 then 1 else 0
theorem c_hdec {T B : Nat} (hN : 3000 ≤ N) (hd : 42 ≤ d) (k : ∀ y, SC y N F Rn C fa cc ta nn Tt cls ro → CB (cm_I y) F Q C fa g st pr T B → Ch (DSr C fa cc cls ro) F 0 h y → cm_wp sc (d + 1) 60 65 [some (.ref 0), some (.int x1), some (.int x2), some (.int 0)] [] y Qv) : ∀ (m i : Nat) (x : cmH), i + m = F → SC x N F Rn C fa cc ta nn Tt cls ro → CB (cm_I x) F Q C fa g st pr T B → (∀ y, Ch (DSr C fa cc cls ro) m i x y → Ch (DSr C fa cc cls ro) F 0 h y) → cm_wp sc (d + 1) 60 44 [some (.ref 0), some (.int x1), some (.int x2), some (.int (nI i))] [] x Qv := by
  intro m
  induction m with
  | zero =>
    intro i x hm S G hc
    obtain rfl : i = F := by omega
    refine s60_44 S.1 _ _ _ ⟨fun _ => k x S G (hc x rfl), fun z => absurd ?_ z⟩
    rw [S.2.1.1]; exact Int32.le_refl _
  | succ m ih =>
    intro i x hm S G hc
    have hi : i < F := by omega
    have h8 := S.2.1.2.1
    refine s60_44 S.1 _ _ _ ⟨fun z => absurd z (by rw [S.2.1.1]; exact nI_ge hi (by omega)), fun _ => ?_⟩
    refine c_decide hN hd S.1 S.2.1 (S.2.2.1 i hi) (S.2.2.2.1.sp hi) (S.2.2.2.1.1 i hi) S.2.2.2.2.1 hi (S.2.2.2.2.2 i hi).1 (S.2.2.2.2.2 i hi).2 (fun y D => s60_57 _ _ _ ?_)
    rw [nI_1]
    exact ih (i + 1) y (by omega) (S.mp (D.mp hi)) (G.ds D S.2.2.2.1 hi) (fun z c => hc z ⟨y, D, c⟩)
theorem c_hwash {T B : Nat} (hN : 3000 ≤ N) (hd : 42 ≤ d) (k : ∀ y, SC y N F Rn C fa cc ta nn Tt cls ro → CB (cm_I y) F Q C fa g st pr T B → (∀ f, f < F → Zw (cm_I y) (fa f)) → Ch (WSr C fa cc cls ro) F 0 h y → cm_cv sc d 75 [.ref 0] y (fun z => cm_wp sc (d + 1) 60 88 [some (.ref 0), some (.int x1), some (.int x2), some (.int (nI F))] [] z Qv)) : ∀ (m i : Nat) (x : cmH), i + m = F → SC x N F Rn C fa cc ta nn Tt cls ro → CB (cm_I x) F Q C fa g st pr T B → (∀ f, f < i → Zw (cm_I x) (fa f)) → (∀ y, Ch (WSr C fa cc cls ro) m i x y → Ch (WSr C fa cc cls ro) F 0 h y) → cm_wp sc (d + 1) 60 65 [some (.ref 0), some (.int x1), some (.int x2), some (.int (nI i))] [] x Qv := by
  intro m
  induction m with
  | zero =>
    intro i x hm S G hz hc
    obtain rfl : i = F := by omega
    refine s60_65 S.1 _ _ _ ⟨fun _ => k x S G hz (hc x rfl), fun z => absurd ?_ z⟩
    rw [S.2.1.1]; exact Int32.le_refl _
  | succ m ih =>
    intro i x hm S G hz hc
    have hi : i < F := by omega
    have h8 := S.2.1.2.1
    refine s60_65 S.1 _ _ _ ⟨fun z => absurd z (by rw [S.2.1.1]; exact nI_ge hi (by omega)), fun _ => ?_⟩
    refine c_wash hN hd S.1 S.2.1 (S.2.2.1 i hi) (S.2.2.2.1.sp hi) (S.2.2.2.1.1 i hi) S.2.2.2.2.1 hi (S.2.2.2.2.2 i hi).1 (S.2.2.2.2.2 i hi).2 (fun y D => s60_78 _ _ _ ?_)
    rw [nI_1]
    refine ih (i + 1) y (by omega) (S.mp (D.mp hi)) (G.ws D S.2.2.2.1 hi) (fun f hf => ?_) (fun z c => hc z ⟨y, D, c⟩)
    by_cases w : f = i
    · subst w
      have e8 : cm_I y (fa f) 8 = cm_I x (fa f) 8 := D.1.2.1 _ _ (by
        rintro (q | q)
        · have := S.2.2.2.1.1 f hi; unfold P_wr at q; omega
        · have := P_fw_a (S.2.2.2.1.sp hi) q; omega)
      exact ⟨D.2.1.1, D.2.1.2.1, D.2.1.2.2.1, by rw [e8]; exact D.2.1.2.2.2.1⟩
    · have o0 : ∀ k, cm_I y (fa f) k = cm_I x (fa f) k := fun k => D.other (x := fa f + 0) S.2.2.2.1 (by omega) hi w (own_a 0 (by decide))
      unfold Zw
      rw [o0, o0, o0, o0, o0]; exact hz f (by omega)
theorem q_ld_le {sh : Nat → Nat} {gg f : Nat} (hs : sh f ≤ Q) (hg : gg ≤ 9999) : q_ld sh gg Q F f ≤ 10000 := by
  unfold q_ld
  split
  · have := q_part_le (F := F) (g := gg) hs; omega
  · omega
theorem sum_b {v : Nat → Int32} {B : Nat} : ∀ n, (∀ s, s < n → ∃ k, v s = nI k ∧ k ≤ B) → ∃ K, cm_sum v n = nI K ∧ K ≤ B * n
  | 0, _ => ⟨0, rfl, by omega⟩
  | n + 1, q => by
    obtain ⟨K, e, hK⟩ := sum_b n fun s hs => q s (by omega)
    obtain ⟨k, e2, hk⟩ := q n (by omega)
    refine ⟨K + k, ?_, by rw [Nat.mul_succ]; omega⟩
    rw [cm_sum_succ, e, e2, nI_add]
theorem P_ss_o {f e k : Nat} (S : SW F C fa cc) (hf : f < F) (he : e ≤ 3) (q : P_ss F fa (fa f + e) k) : e = 0 ∧ (k = 11 ∨ k = 19) := by
  obtain ⟨f', hf', q⟩ := q
  by_cases y : f = f'
  · subst y; omega
  · have := S.2.1 f f' hf hf' y; omega
theorem P_ss_c {f c e k : Nat} (S : SW F C fa cc) (hf : f < F) (hc : c < C f) (he : e ≤ 2) : ¬ P_ss F fa (cc f c + e) k := by
  rintro ⟨f', hf', q⟩
  have := (S.2.2.1 f c hf hc).2 f' hf'; omega
theorem P_sg_o {f e k t : Nat} (S : SW F C fa cc) (hf : f < F) (he : e ≤ 3) (q : P_sg F t fa (fa f + e) k) : e = 3 ∧ k < 8 := by
  have h88 := S.1 f hf
  rcases q with q | q | ⟨f', hf', q⟩
  · omega
  · omega
  · by_cases y : f = f'
    · subst y; omega
    · have := S.2.1 f f' hf hf' y; omega
theorem P_sg_c {f c e k t : Nat} (S : SW F C fa cc) (hf : f < F) (hc : c < C f) (he : e ≤ 2) : ¬ P_sg F t fa (cc f c + e) k := by
  have h88 := (S.2.2.1 f c hf hc).1
  rintro (q | q | ⟨f', hf', q⟩)
  · omega
  · omega
  · have := (S.2.2.1 f c hf hc).2 f' hf'; omega
theorem P_cn_o {f e k t : Nat} (S : SW F C fa cc) (hf : f < F) (he : e ≤ 3) (q : P_cn F t C fa cc (fa f + e) k) : (e = 0 ∧ (k = 12 ∨ k = 13 ∨ k = 14 ∨ k = 15 ∨ k = 19)) ∨ ((e = 2 ∨ e = 3) ∧ k < 8) := by
  have h88 := S.1 f hf
  rcases q with q | q | ⟨f', hf', q⟩
  · omega
  · omega
  · by_cases y : f = f'
    · subst y
      rcases q with q | q | q | ⟨c, hc, q⟩
      · omega
      · omega
      · omega
      · have := (S.2.2.1 f c hf hc).2 f hf; omega
    · rcases q with q | q | q | ⟨c, hc, q⟩
      · have := S.2.1 f f' hf hf' y; omega
      · have := S.2.1 f f' hf hf' y; omega
      · have := S.2.1 f f' hf hf' y; omega
      · have := (S.2.2.1 f' c hf' hc).2 f hf; omega
theorem P_cn_c {f c e k t : Nat} (S : SW F C fa cc) (hf : f < F) (hc : c < C f) (he : e ≤ 2) (q : P_cn F t C fa cc (cc f c + e) k) : (e = 1 ∧ k < 8) ∨ (e = 0 ∧ k = 2) := by
  have h88 := (S.2.2.1 f c hf hc).1
  rcases q with q | q | ⟨f', hf', q | q | q | ⟨c', hc', q⟩⟩
  · omega
  · omega
  · have := (S.2.2.1 f c hf hc).2 f' hf'; omega
  · have := (S.2.2.1 f c hf hc).2 f' hf'; omega
  · have := (S.2.2.1 f c hf hc).2 f' hf'; omega
  · by_cases y : f = f' ∧ c = c'
    · obtain ⟨rfl, rfl⟩ := y; omega
    · have := S.2.2.2 f c f' c' hf hc hf' hc' (by omega); omega
theorem P_cl_o {f e k : Nat} (S : SW F C fa cc) (hf : f < F) (he : e ≤ 3) (q : P_cl F fa (fa f + e) k) : e = 0 ∧ (k = 8 ∨ k = 9 ∨ k = 19) := by
  obtain ⟨f', hf', q⟩ := q
  by_cases y : f = f'
  · subst y; omega
  · have := S.2.1 f f' hf hf' y; omega
theorem P_cl_c {f c e k : Nat} (S : SW F C fa cc) (hf : f < F) (hc : c < C f) (he : e ≤ 2) : ¬ P_cl F fa (cc f c + e) k := by
  rintro ⟨f', hf', q⟩
  have := (S.2.2.1 f c hf hc).2 f' hf'; omega
end CHOURS
