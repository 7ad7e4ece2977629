/-! ===== class against reference: what is held alike ===== -/
section REL
variable {N Rn F Q : Nat} {fa C : Nat → Nat} {cc : Nat → Nat → Nat} {cls : Nat → List CL} {ro : Nat → Option Nat} {A B A' B' : Nat → Nat → Int32} {x x' y y' : cmH}
def vfl : List (Nat × Nat) := [(4, 49), (5, 50), (6, 51), (7, 55), (8, 52), (9, 53), (10, 54), (11, 56), (12, 57), (13, 58), (14, 69), (15, 70), (18, 59)]
def VF (A B : Nat → Nat → Int32) (a f : Nat) : Prop := ∀ k b, (k, b) ∈ vfl → B b f = A a k
def VCc (A B : Nat → Nat → Int32) (b f c : Nat) : Prop := B 43 (10 * f + c) = A b 4 ∧ B 44 (10 * f + c) = A b 3 ∧ B 45 (10 * f + c) = A b 5 ∧ A b 2 = cm_sum (A (b + 1)) 8 ∧ ∀ s, s < 8 → B 46 (8 * (10 * f + c) + s) = A (b + 1) s ∧ B 47 (8 * (10 * f + c) + s) = A (b + 2) s
/-- a filter of the class (A) against one of the reference (B) -/
def VFl (A B : Nat → Nat → Int32) (a n : Nat) (ca : Nat → Nat) (f : Nat) : Prop := VF A B a f ∧ (∀ c, c < n → VCc A B (ca c) f c) ∧ ∀ s, s < 8 → B 48 (8 * f + s) = A (a + 2) s
/-- the reference's places of a filter -/
def MO (f x k : Nat) : Prop := (((49 ≤ x ∧ x ≤ 60) ∨ x = 69 ∨ x = 70 ∨ x = 74) ∧ k = f) ∨ ((x = 43 ∨ x = 44 ∨ x = 45) ∧ 10 * f ≤ k ∧ k < 10 * f + 10) ∨ ((x = 46 ∨ x = 47) ∧ 80 * f ≤ k ∧ k < 80 * f + 80) ∨ (x = 48 ∧ 8 * f ≤ k ∧ k < 8 * f + 8)
theorem vfl_mo {k b f : Nat} (q : (k, b) ∈ vfl) : MO f b f ∧ (4 ≤ k ∧ k ≤ 18) := by
  unfold vfl at q
  simp only [List.mem_cons, Prod.mk.injEq, List.not_mem_nil, or_false] at q
  unfold MO
  omega
theorem VFl.congr {a n f : Nat} {ca : Nat → Nat} (hn : n ≤ 10) (V : VFl A B a n ca f) (o : ∀ x k, OWN a n ca x → A' x k = A x k) (m : ∀ x k, MO f x k → B' x k = B x k) : VFl A' B' a n ca f := by
  obtain ⟨v1, v2, v3⟩ := V
  have oa : ∀ k, A' a k = A a k := fun k => o (a + 0) k (own_a 0 (by decide))
  refine ⟨fun k b q => by rw [m _ _ (vfl_mo q).1, oa]; exact v1 k b q, fun c hc => ?_, fun s hs => by rw [m _ _ (by unfold MO; omega), o (a + 2) s (own_a 2 (by decide))]; exact v3 s hs⟩
  obtain ⟨c1, c2, c3, c4, c5⟩ := v2 c hc
  have oc : ∀ k, A' (ca c) k = A (ca c) k := fun k => o (ca c + 0) k (own_c hc 0 (by decide))
  have oc1 : ∀ k, A' (ca c + 1) k = A (ca c + 1) k := fun k => o _ k (own_c hc 1 (by decide))
  have oc2 : ∀ k, A' (ca c + 2) k = A (ca c + 2) k := fun k => o _ k (own_c hc 2 (by decide))
  exact ⟨by rw [m _ _ (by unfold MO; omega), oc]; exact c1, by rw [m _ _ (by unfold MO; omega), oc]; exact c2, by rw [m _ _ (by unfold MO; omega), oc]; exact c3, by rw [oc, c4]; exact cm_sum_congr fun s _ => (oc1 s).symm, fun s hs => ⟨by rw [m _ _ (by unfold MO; omega), oc1]; exact (c5 s hs).1, by rw [m _ _ (by unfold MO; omega), oc2]; exact (c5 s hs).2⟩⟩
/-- what holds of a filter's own numbers -/
def INV (A : Nat → Nat → Int32) (Q a n : Nat) (ca : Nat → Nat) : Prop := (A a 8 = 1 ∨ A a 8 = 2 → 0 < n) ∧ (A a 18 = 0 → A a 12 = 0 ∧ A a 13 = 0) ∧ (A a 17 = 0 ∨ A a 17 = 1) ∧ ∀ c, c < n → (∃ p, A (ca c) 4 = nI p ∧ 1 ≤ p ∧ p ≤ 20) ∧ (∃ p, A (ca c) 3 = nI p ∧ 1 ≤ p ∧ p ≤ 20) ∧ (∃ t, A (ca c) 5 = nI t ∧ 1 ≤ t ∧ t ≤ 1000) ∧ (Q = 0 → ∀ s, s < 8 → A (ca c + 1) s = 0 ∧ A (ca c + 2) s = 0)
theorem INV.congr {a n : Nat} {ca : Nat → Nat} (V : INV A Q a n ca) (o : ∀ x k, OWN a n ca x → A' x k = A x k) : INV A' Q a n ca := by
  have oa : ∀ k, A' a k = A a k := fun k => o (a + 0) k (own_a 0 (by decide))
  obtain ⟨v1, v2, v3, v4⟩ := V
  refine ⟨by rw [oa]; exact v1, by rw [oa, oa, oa]; exact v2, by rw [oa]; exact v3, fun c hc => ?_⟩
  have oc : ∀ k, A' (ca c) k = A (ca c) k := fun k => o (ca c + 0) k (own_c hc 0 (by decide))
  obtain ⟨c1, c2, c3, c4⟩ := v4 c hc
  exact ⟨by rw [oc]; exact c1, by rw [oc]; exact c2, by rw [oc]; exact c3, fun q s hs => by rw [o _ s (own_c hc 1 (by decide)), o _ s (own_c hc 2 (by decide))]; exact c4 q s hs⟩
/-- the books -/
def VBk (A B : Nat → Nat → Int32) : Prop := (∀ s, s < 8 → B 71 (6 * s) = A 15 s ∧ B 71 (6 * s + 2) = A 16 s ∧ B 71 (6 * s + 3) = A 17 s ∧ B 71 (6 * s + 4) = A 18 s ∧ B 71 (6 * s + 5) = A 19 s) ∧ ∀ t s w, t < 2000 → s < 8 → w < 3 → B 68 (3 * (8 * (t + 1) + s) + w) = A 20 (24 * t + 8 * w + s)
/-- behind the decision: ever ran, and how strong the wash will be -/
noncomputable def E1 (A B : Nat → Nat → Int32) (cls : Nat → List CL) (ro : Nat → Option Nat) (a f : Nat) : Prop := B 60 f = (if A a 17 ≠ 0 ∨ A a 8 = 1 then 1 else 0) ∧ (A a 8 = 2 → ro f ≠ none ∧ B 74 f = q_cl (wq (c_lf A a f) 117 (ro f) cls))
theorem c_lf_congr {a n f : Nat} {ca : Nat → Nat} (o : ∀ x k, OWN a n ca x → A' x k = A x k) : c_lf A' a f = c_lf A a f := by
  have oa : ∀ k, A' a k = A a k := fun k => o (a + 0) k (own_a 0 (by decide))
  unfold c_lf
  rw [oa, oa, oa, oa, cm_sum_congr fun s _ => o (a + 2) s (own_a 2 (by decide))]
theorem E1.congr {a n f : Nat} {ca : Nat → Nat} (V : E1 A B cls ro a f) (o : ∀ x k, OWN a n ca x → A' x k = A x k) (m : ∀ x k, MO f x k → B' x k = B x k) : E1 A' B' cls ro a f := by
  have oa : ∀ k, A' a k = A a k := fun k => o (a + 0) k (own_a 0 (by decide))
  unfold E1
  rw [c_lf_congr o, oa, oa, m 60 f (by unfold MO; omega), m 74 f (by unfold MO; omega)]
  exact V
theorem lf_eq {a n f : Nat} {ca : Nat → Nat} (V : VFl A B a n ca f) (I : INV A Q a n ca) : m_lf B f = c_lf A a f := by
  have e : ∀ k b, (k, b) ∈ vfl → B b f = A a k := V.1
  have e59 := e 18 59 (by decide)
  have e57 := e 12 57 (by decide)
  have e58 := e 13 58 (by decide)
  have ec : q_cake B f = cm_sum (A (a + 2)) 8 := cm_sum_congr fun s hs => V.2.2 s hs
  unfold m_lf c_lf
  rw [e 9 53 (by decide), e 10 54 (by decide), e59, e57, e58, ec]
  by_cases z : A a 18 = 0
  · rw [if_pos z, if_pos z, (I.2.1 z).1, (I.2.1 z).2]
  · rw [if_neg z, if_neg z]
/-- the reference decides of another filter -/
theorem MDr.other {f i a k : Nat} (D : MDr C cls ro i y y') (h10 : C i ≤ 10) (ne : f ≠ i) (o : MO f a k) : cm_I y' a k = cm_I y a k := by
  by_cases w : act (C i) (cm_I y 52 i)
  · refine (D.1 w).1.2 a k ?_
    unfold MO at o
    rintro (q | q)
    · unfold P_mr at q; omega
    · unfold P_mg at q; omega
  · rw [D.2 w]
theorem MWr.other {f i a k : Nat} (D : MWr C i y y') (h10 : C i ≤ 10) (ne : f ≠ i) (o : MO f a k) : cm_I y' a k = cm_I y a k := by
  refine D.1.2 a k ?_
  unfold MO at o
  rintro (q | q)
  · unfold P_mz at q; omega
  · unfold P_mw at q; omega
theorem dst_2 {a b c w v : Int32} (q : dst a b c w v = 2) : a = 0 ∧ b ≠ 0 := by
  unfold dst at q
  by_cases z : a = 0
  · rw [if_neg (fun w => w z)] at q
    by_cases z2 : b = 0
    · rw [if_neg (fun w => w z2)] at q
      split at q <;> exact absurd q (by decide)
    · exact ⟨z, z2⟩
  · rw [if_pos z] at q; exact absurd q (by decide)
theorem wq_none {lt : Nat → Int32} {l : Nat} {o : Option Nat} (q : wq lt l o cls ≠ 0) : o ≠ none := fun e => by rw [e] at q; exact q rfl
/-- class and reference behind i decisions -/
noncomputable def Rd (F Q : Nat) (C fa : Nat → Nat) (cc : Nat → Nat → Nat) (cls : Nat → List CL) (ro : Nat → Option Nat) (i : Nat) (A B : Nat → Nat → Int32) : Prop := (∀ f, f < F → VFl A B (fa f) (C f) (cc f) f ∧ INV A Q (fa f) (C f) (cc f) ∧ (f < i → E1 A B cls ro (fa f) f) ∧ (i ≤ f → B 60 f = A (fa f) 17)) ∧ VBk A B
theorem Rd.step {i : Nat} (S : SW F C fa cc) (h10 : ∀ f, f < F → C f ≤ 10) (hi : i < F) (R : Rd F Q C fa cc cls ro i (cm_I x) (cm_I y)) (D : DSr C fa cc cls ro i x x') (M : MDr C cls ro i y y') : Rd F Q C fa cc cls ro (i + 1) (cm_I x') (cm_I y') := by
  obtain ⟨R1, R2⟩ := R
  obtain ⟨V, I, -, E60⟩ := R1 i hi
  have E60 := E60 (Nat.le_refl i)
  have D' : DS x x' (fa i) (C i) (cc i) _ _ _ := D
  have h88 := S.1 i hi
  have P := S.sp hi
  have el := lf_eq V I
  have e52 : cm_I y 52 i = cm_I x (fa i) 8 := V.1 8 52 (by decide)
  have own9 : ∀ a, OWN (fa i) (C i) (cc i) a → a ≠ 9 ∧ a ≠ 10 := fun a o => by have := S.own88 hi o; omega
  have lo : ∀ a k, a < 88 → a ≠ 9 → a ≠ 10 → a ≠ 17 → cm_I x' a k = cm_I x a k := fun a k h1 h2 h3 h4 => D'.lo S hi h1 h2 h3 h4
  have fin : VFl (cm_I x') (cm_I y') (fa i) (C i) (cc i) i ∧ INV (cm_I x') Q (fa i) (C i) (cc i) ∧ E1 (cm_I x') (cm_I y') cls ro (fa i) i ∧ (∀ s, s < 8 → cm_I y' 71 (6 * s + 3) = cm_I x' 17 s) ∧ (∀ a k, a = 71 ∧ k % 6 ≠ 3 ∨ a = 68 → cm_I y' a k = cm_I y a k) := by
    by_cases ac : act (C i) (cm_I x (fa i) 8)
    · have M1 := M.1 (by rw [e52]; exact ac)
      rw [el] at M1
      obtain ⟨M0, m52, m60, m74, mz, mc⟩ := M1
      obtain ⟨D0, d8, dz, dc⟩ := D'
      rw [if_pos ac] at d8
      rw [V.1 10 54 (by decide), V.1 6 51 (by decide)] at m52 m60
      generalize wq (c_lf (cm_I x) (fa i) i) 99 (ro i) cls = vc at M0 m52 m60 m74 mz mc d8 dz dc
      generalize hvw : wq (c_lf (cm_I x) (fa i) i) 119 (ro i) cls = vw at M0 m52 m60 m74 mz mc d8 dz dc
      generalize wq (c_lf (cm_I x) (fa i) i) 114 (ro i) cls = vr at M0 m52 m60 m74 mz mc d8 dz dc
      have mbk : ∀ a k, a = 71 ∧ k % 6 ≠ 3 ∨ a = 68 → cm_I y' a k = cm_I y a k := fun a k q => M0.2 a k (by unfold P_mr P_mg; omega)
      by_cases zc : vc = 0
      · have dz := dz (fun w => w.2 zc)
        have mz := mz zc
        have o8 : ∀ a k, OWN (fa i) (C i) (cc i) a → ¬ (a = fa i ∧ k = 8) → cm_I x' a k = cm_I x a k := fun a k o n => dz a k (by have := own9 a o; unfold P_rd; omega)
        have oa : ∀ k, k ≠ 8 → cm_I x' (fa i) k = cm_I x (fa i) k := fun k n => o8 (fa i + 0) k (own_a 0 (by decide)) (by omega)
        have ocn : ∀ c e k, c < C i → e ≤ 2 → cm_I x' (cc i c + e) k = cm_I x (cc i c + e) k := fun c e k hc he => o8 _ k (own_c hc e he) (by have := P.2.1 c hc; omega)
        have oc0 : ∀ c k, c < C i → cm_I x' (cc i c) k = cm_I x (cc i c) k := fun c k hc => ocn c 0 k hc (by decide)
        have o2 : ∀ k, cm_I x' (fa i + 2) k = cm_I x (fa i + 2) k := fun k => o8 _ k (own_a 2 (by decide)) (by omega)
        have em : ∀ a k, MO i a k → a ≠ 52 → a ≠ 60 → a ≠ 74 → cm_I y' a k = cm_I y a k := fun a k o n1 n2 n3 => mz a k (by unfold MO at o; unfold P_mr; omega)
        refine ⟨⟨fun k b q => ?_, fun c hc => ?_, fun s hs => ?_⟩, ⟨?_, ?_, ?_, fun c hc => ?_⟩, ⟨?_, fun q => ?_⟩, fun s hs => ?_, mbk⟩
        · by_cases k8 : k = 8
          · subst k8
            have : b = 52 := by
              unfold vfl at q
              simp only [List.mem_cons, Prod.mk.injEq, List.not_mem_nil, or_false] at q
              omega
            subst this
            rw [m52, d8]
          · have hb : b ≠ 52 ∧ b ≠ 60 ∧ b ≠ 74 := by
              unfold vfl at q
              simp only [List.mem_cons, Prod.mk.injEq, List.not_mem_nil, or_false] at q
              omega
            rw [em b i (vfl_mo q).1 hb.1 hb.2.1 hb.2.2, oa k k8]; exact V.1 k b q
        · obtain ⟨c1, c2, c3, c4, c5⟩ := V.2.1 c hc
          have h10 := h10 i hi
          exact ⟨by rw [em _ _ (by unfold MO; omega) (by decide) (by decide) (by decide), oc0 c _ hc]; exact c1, by rw [em _ _ (by unfold MO; omega) (by decide) (by decide) (by decide), oc0 c _ hc]; exact c2, by rw [em _ _ (by unfold MO; omega) (by decide) (by decide) (by decide), oc0 c _ hc]; exact c3, by rw [oc0 c _ hc, c4]; exact cm_sum_congr fun s _ => (ocn c 1 s hc (by decide)).symm, fun s hs => ⟨by rw [em _ _ (by unfold MO; omega) (by decide) (by decide) (by decide), ocn c 1 s hc (by decide)]; exact (c5 s hs).1, by rw [em _ _ (by unfold MO; omega) (by decide) (by decide) (by decide), ocn c 2 s hc (by decide)]; exact (c5 s hs).2⟩⟩
        · rw [em _ _ (by unfold MO; omega) (by decide) (by decide) (by decide), o2]; exact V.2.2 s hs
        · exact fun _ => ac.1
        · rw [oa 18 (by decide), oa 12 (by decide), oa 13 (by decide)]; exact I.2.1
        · rw [oa 17 (by decide)]; exact I.2.2.1
        · obtain ⟨c1, c2, c3, c4⟩ := I.2.2.2 c hc
          exact ⟨by rw [oc0 c _ hc]; exact c1, by rw [oc0 c _ hc]; exact c2, by rw [oc0 c _ hc]; exact c3, fun q s hs => by rw [ocn c 1 s hc (by decide), ocn c 2 s hc (by decide)]; exact c4 q s hs⟩
        · rw [m60, E60, oa 17 (by decide), d8]
        · rw [d8] at q
          have w := dst_2 q
          have elf : c_lf (cm_I x') (fa i) i = c_lf (cm_I x) (fa i) i := by
            unfold c_lf
            rw [oa 12 (by decide), oa 9 (by decide), oa 13 (by decide), oa 10 (by decide), cm_sum_congr fun s _ => o2 s]
          exact ⟨wq_none (by rw [hvw]; exact w.2), by rw [m74 zc w.2, elf]⟩
        · rw [mz 71 _ (by unfold P_mr; omega), dz 17 s (by unfold P_rd; omega)]
          exact (R2.1 s hs).2.2.1
      · obtain ⟨g1, g2, g3, g4⟩ := dc ⟨ac, zc⟩
        obtain ⟨n1, n2, n3, n4⟩ := mc zc
        have d1 : dst vc vw vr (cm_I x (fa i) 10) (cm_I x (fa i) 6) = 1 := by unfold dst; rw [if_pos zc]
        rw [d1] at d8 m52 m60
        have oa : ∀ k, k ≠ 8 → k ≠ 9 → k ≠ 10 → cm_I x' (fa i) k = cm_I x (fa i) k := fun k _ _ _ => D0.2.1 _ _ (by
          rintro (q | q)
          · unfold P_rd at q; omega
          · have := P_cg_a P q; omega)
        have mpx : GX x x' (MP F C fa cc) := DS.mp (F := F) D hi
        have oc0 : ∀ c k, c < C i → k ≠ 2 → k ≠ 4 → cm_I x' (cc i c) k = cm_I x (cc i c) k := fun c k hc a b => mpx.2.1 _ _ (MP.ncc S hi hc a b)
        have h10 := h10 i hi
        refine ⟨⟨fun k b q => ?_, fun c hc => ?_, fun s hs => ?_⟩, ⟨?_, ?_, ?_, fun c hc => ?_⟩, ⟨?_, fun q => ?_⟩, fun s hs => ?_, mbk⟩
        · by_cases k8 : k = 8 ∨ k = 9 ∨ k = 10
          · have : (k = 8 ∧ b = 52) ∨ (k = 9 ∧ b = 53) ∨ (k = 10 ∧ b = 54) := by
              unfold vfl at q
              simp only [List.mem_cons, Prod.mk.injEq, List.not_mem_nil, or_false] at q
              omega
            rcases this with ⟨rfl, rfl⟩ | ⟨rfl, rfl⟩ | ⟨rfl, rfl⟩
            · rw [m52, d8]
            · rw [n3, g3]
            · rw [n4, g4]
          · have hb : ¬ P_mr i b i ∧ ¬ P_mg i (C i) b i := by
              unfold vfl at q
              simp only [List.mem_cons, Prod.mk.injEq, List.not_mem_nil, or_false] at q
              unfold P_mr P_mg
              omega
            rw [M0.2 b i (fun w => w.elim hb.1 hb.2), oa k (by omega) (by omega) (by omega)]; exact V.1 k b q
        · obtain ⟨c1, c2, c3, c4, c5⟩ := V.2.1 c hc
          obtain ⟨gc1, gc2, gc3⟩ := g2 c hc
          refine ⟨by rw [(n2 c hc).2, gc3]; exact c2, ?_, ?_, ?_, fun s hs => ⟨by rw [((n2 c hc).1 s hs).1, (gc1 s hs).1], by rw [((n2 c hc).1 s hs).2, (gc1 s hs).2]⟩⟩
          · rw [M0.2 44 _ (by unfold P_mr P_mg; omega), oc0 c 3 hc (by decide) (by decide)]; exact c2
          · rw [M0.2 45 _ (by unfold P_mr P_mg; omega), oc0 c 5 hc (by decide) (by decide)]; exact c3
          · rw [gc2, cm_sum_congr (g := fun _ => 0) fun s hs => (gc1 s hs).1]; decide
        · rw [(n1 s hs).2, (g1 s hs).2]
        · exact fun _ => ac.1
        · rw [oa 18 (by decide) (by decide) (by decide), oa 12 (by decide) (by decide) (by decide), oa 13 (by decide) (by decide) (by decide)]; exact I.2.1
        · rw [oa 17 (by decide) (by decide) (by decide)]; exact I.2.2.1
        · obtain ⟨c1, c2, c3, c4⟩ := I.2.2.2 c hc
          obtain ⟨gc1, gc2, gc3⟩ := g2 c hc
          exact ⟨by rw [gc3]; exact c2, by rw [oc0 c 3 hc (by decide) (by decide)]; exact c2, by rw [oc0 c 5 hc (by decide) (by decide)]; exact c3, fun _ s hs => gc1 s hs⟩
        · rw [m60, d8, if_pos (Or.inr rfl), if_pos (Or.inr rfl)]
        · rw [d8] at q; exact absurd q (by decide)
        · rw [(n1 s hs).1, (g1 s hs).1, (R2.1 s hs).2.2.1, V.2.2 s hs]
          congr 2
          exact cm_sum_congr fun c hc => ((V.2.1 c hc).2.2.2.2 s hs).1
    · have ey := M.2 (by rw [e52]; exact ac)
      subst ey
      obtain ⟨D0, d8, dz, -⟩ := D'
      rw [if_neg ac] at d8
      have dz := dz (fun w => ac w.1)
      have o8 : ∀ a k, OWN (fa i) (C i) (cc i) a → cm_I x' a k = cm_I x a k := fun a k o => by
        by_cases w : a = fa i ∧ k = 8
        · rw [w.1, w.2]; exact d8
        · exact dz a k (by have := own9 a o; unfold P_rd; omega)
      have oa : ∀ k, cm_I x' (fa i) k = cm_I x (fa i) k := fun k => o8 (fa i + 0) k (own_a 0 (by decide))
      have n12 : ¬ (cm_I x (fa i) 8 = 1 ∨ cm_I x (fa i) 8 = 2) := fun q => ac ⟨I.1 q, by rcases q with q | q <;> rw [q] <;> decide, by rcases q with q | q <;> rw [q] <;> decide⟩
      refine ⟨V.congr (h10 i hi) o8 (fun _ _ _ => rfl), I.congr o8, ⟨?_, fun q => ?_⟩, fun s hs => ?_, fun _ _ _ => rfl⟩
      · rw [E60, oa, oa]
        rcases I.2.2.1 with q | q
        · rw [if_neg (fun w => w.elim (fun e => e q) (fun e => n12 (Or.inl e)))]; exact q
        · rw [if_pos (Or.inl (by rw [q]; decide))]; exact q
      · rw [oa] at q; exact absurd (Or.inr q) n12
      · rw [dz 17 s (by unfold P_rd; omega)]; exact (R2.1 s hs).2.2.1
  obtain ⟨f1, f2, f3, f4, f5⟩ := fin
  refine ⟨fun f hf => ?_, fun s hs => ?_, fun t s w ht hs hw => ?_⟩
  · by_cases e : f = i
    · subst e
      exact ⟨f1, f2, fun _ => f3, fun q => absurd q (by omega)⟩
    · obtain ⟨v1, v2, v3, v4⟩ := R1 f hf
      have oc : ∀ a k, OWN (fa f) (C f) (cc f) a → cm_I x' a k = cm_I x a k := fun a k o => D'.other S hf hi e o
      have om : ∀ a k, MO f a k → cm_I y' a k = cm_I y a k := fun a k o => M.other (h10 i hi) e o
      refine ⟨v1.congr (h10 f hf) oc om, v2.congr oc, fun q => (v3 (by omega)).congr oc om, fun q => ?_⟩
      rw [om 60 f (by unfold MO; omega), show cm_I x' (fa f) 17 = cm_I x (fa f) 17 from oc (fa f + 0) 17 (own_a 0 (by decide))]
      exact v4 (by omega)
  · obtain ⟨b1, b2, b3, b4, b5⟩ := R2.1 s hs
    exact ⟨by rw [f5 _ _ (by omega), lo 15 s (by decide) (by decide) (by decide) (by decide)]; exact b1, by rw [f5 _ _ (by omega), lo 16 s (by decide) (by decide) (by decide) (by decide)]; exact b2, f4 s hs, by rw [f5 _ _ (by omega), lo 18 s (by decide) (by decide) (by decide) (by decide)]; exact b4, by rw [f5 _ _ (by omega), lo 19 s (by decide) (by decide) (by decide) (by decide)]; exact b5⟩
  · rw [f5 _ _ (Or.inr rfl), lo 20 _ (by decide) (by decide) (by decide) (by decide)]
    exact R2.2 t s w ht hs hw
theorem Rd.chain (S : SW F C fa cc) (h10 : ∀ f, f < F → C f ≤ 10) : ∀ (m i : Nat) (x x' y y' : cmH), i + m = F → Rd F Q C fa cc cls ro i (cm_I x) (cm_I y) → Ch (DSr C fa cc cls ro) m i x x' → Ch (MDr C cls ro) m i y y' → Rd F Q C fa cc cls ro F (cm_I x') (cm_I y')
  | 0, i, x, x', y, y', hm, R, c, c' => by
    rw [show x' = x from c, show y' = y from c', show F = i by omega]
    rw [show F = i by omega] at R
    exact R
  | m + 1, i, x, x', y, y', hm, R, ⟨z, a, b⟩, ⟨z', a', b'⟩ => Rd.chain S h10 m (i + 1) z x' z' y' (by omega) (R.step S h10 (by omega) a a') b b'
end REL
