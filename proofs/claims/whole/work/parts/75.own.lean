/-! ===== what belongs to a filter; the class's side as a whole ===== -/
section OWNS
variable {h h' : cmH} {N Rn F : Nat} {fa C : Nat → Nat} {cc : Nat → Nat → Nat} {ta nn : Nat → Nat} {Tt : Nat → Nat → Nat} {cls : Nat → List CL} {ro : Nat → Option Nat}
def OWN (a n : Nat) (ca : Nat → Nat) (x : Nat) : Prop := (a ≤ x ∧ x ≤ a + 3) ∨ ∃ c, c < n ∧ ca c ≤ x ∧ x ≤ ca c + 2
theorem SW.own (S : SW F C fa cc) {f i x : Nat} (hf : f < F) (hi : i < F) (ne : f ≠ i) (o : OWN (fa f) (C f) (cc f) x) : ¬ OWN (fa i) (C i) (cc i) x := by
  rintro (q | ⟨c, hc, q⟩)
  · rcases o with w | ⟨c', hc', w⟩
    · have := S.2.1 f i hf hi ne; omega
    · have := (S.2.2.1 f c' hf hc').2 i hi; omega
  · rcases o with w | ⟨c', hc', w⟩
    · have := (S.2.2.1 i c hi hc).2 f hf; omega
    · have := S.2.2.2 f c' i c hf hc' hi hc (Or.inl ne); omega
theorem SW.own88 (S : SW F C fa cc) {f x : Nat} (hf : f < F) (o : OWN (fa f) (C f) (cc f) x) : 88 ≤ x := by
  rcases o with w | ⟨c', hc', w⟩
  · have := S.1 f hf; omega
  · have := (S.2.2.1 f c' hf hc').1; omega
theorem own_a {a n : Nat} {ca : Nat → Nat} (e : Nat) (he : e ≤ 3) : OWN a n ca (a + e) := Or.inl ⟨by omega, by omega⟩
theorem own_c {a n c : Nat} {ca : Nat → Nat} (hc : c < n) (e : Nat) (he : e ≤ 2) : OWN a n ca (ca c + e) := Or.inr ⟨c, hc, by omega, by omega⟩
theorem own_P_cg {a n x k : Nat} {ca : Nat → Nat} (q : P_cg a n ca x k) : x = 17 ∨ OWN a n ca x := by
  rcases q with q | q | q | ⟨c, hc, q⟩
  · exact Or.inl q.1
  · exact Or.inr (Or.inl ⟨by omega, by omega⟩)
  · exact Or.inr (Or.inl ⟨by omega, by omega⟩)
  · unfold P_em at q; exact Or.inr (Or.inr ⟨c, hc, by omega, by omega⟩)
theorem own_P_fw {a n x k : Nat} {ca : Nat → Nat} (q : P_fw a n ca x k) : x = 16 ∨ OWN a n ca x := by
  rcases q with q | q | q | ⟨c, hc, q⟩
  · exact Or.inl q.1
  · exact Or.inr (Or.inl ⟨by omega, by omega⟩)
  · exact Or.inr (Or.inl ⟨by omega, by omega⟩)
  · unfold P_cw at q
    rcases q with q | q
    · by_cases y : x = 16
      · exact Or.inl y
      · exact Or.inr (Or.inr ⟨c, hc, by omega, by omega⟩)
    · exact Or.inr (Or.inr ⟨c, hc, by omega, by omega⟩)
/-- another filter decides: this one stays as it was -/
theorem DS.other {i f x k : Nat} {a b c : Int32} (D : DS h h' (fa i) (C i) (cc i) a b c) (S : SW F C fa cc) (hf : f < F) (hi : i < F) (ne : f ≠ i) (o : OWN (fa f) (C f) (cc f) x) : cm_I h' x k = cm_I h x k := by
  have h88 := S.own88 hf o
  refine D.1.2.1 x k ?_
  rintro (q | q)
  · have : OWN (fa i) (C i) (cc i) x := by
      rcases q with q | q | q
      · omega
      · omega
      · exact Or.inl ⟨by omega, by omega⟩
    exact S.own hf hi ne o this
  · rcases own_P_cg q with q | q
    · omega
    · exact S.own hf hi ne o q
theorem WS.other {i f x k : Nat} {u : Int32} {o1 : Option Nat} (D : WS h h' (fa i) (C i) (cc i) o1 u) (S : SW F C fa cc) (hf : f < F) (hi : i < F) (ne : f ≠ i) (o : OWN (fa f) (C f) (cc f) x) : cm_I h' x k = cm_I h x k := by
  have h88 := S.own88 hf o
  refine D.1.2.1 x k ?_
  rintro (q | q)
  · have : OWN (fa i) (C i) (cc i) x := by
      rcases q with q | q | q
      · omega
      · omega
      · exact Or.inl ⟨by omega, by omega⟩
    exact S.own hf hi ne o this
  · rcases own_P_fw q with q | q
    · omega
    · exact S.own hf hi ne o q
/-- the places that an hour may change -/
def MP (F : Nat) (C fa : Nat → Nat) (cc : Nat → Nat → Nat) (x k : Nat) : Prop := x = 9 ∨ x = 10 ∨ (15 ≤ x ∧ x ≤ 20) ∨ (x = 0 ∧ k = 12) ∨ ∃ f, f < F ∧ ((x = fa f ∧ 8 ≤ k ∧ k ≤ 19) ∨ x = fa f + 2 ∨ x = fa f + 3 ∨ ∃ c, c < C f ∧ ((x = cc f c ∧ (k = 2 ∨ k = 4)) ∨ x = cc f c + 1 ∨ x = cc f c + 2))
/-- the class's cells and texts -/
def SC (h : cmH) (N F Rn : Nat) (C fa : Nat → Nat) (cc : Nat → Nat → Nat) (ta nn : Nat → Nat) (Tt : Nat → Nat → Nat) (cls : Nat → List CL) (ro : Nat → Option Nat) : Prop := LY h ∧ FS h F fa ∧ (∀ f, f < F → FC h (fa f) (C f) (cc f)) ∧ SW F C fa cc ∧ CTx h N Rn ta nn Tt cls ∧ ∀ f, f < F → cm_I h (fa f) 7 = wI (ro f) ∧ ∀ j, ro f = some j → j < Rn
theorem MP.kd (L : LY h) (GC : ∀ f, f < F → FC h (fa f) (C f) (cc f)) : ∀ y k, cm_kd h y = 9 ∨ cm_kd h y = 12 → ¬ MP F C fa cc y k := by
  rintro y k hk (rfl | rfl | q | ⟨rfl, -⟩ | ⟨f, hf, q | rfl | rfl | ⟨c, hc, q | rfl | rfl⟩⟩)
  · rw [(ly_k L 9 rfl).1] at hk; omega
  · rw [(ly_k L 10 rfl).1] at hk; omega
  · have : cm_kd h y = 13 := by
      have : y = 15 ∨ y = 16 ∨ y = 17 ∨ y = 18 ∨ y = 19 ∨ y = 20 := by omega
      rcases this with rfl | rfl | rfl | rfl | rfl | rfl
      · exact (ly_k L 15 rfl).1
      · exact (ly_k L 16 rfl).1
      · exact (ly_k L 17 rfl).1
      · exact (ly_k L 18 rfl).1
      · exact (ly_k L 19 rfl).1
      · exact (ly_k L 20 rfl).1
    omega
  · rw [(ly_k L 0 rfl).1] at hk; omega
  · rw [q.1, (GC f hf).1.1] at hk; omega
  · rw [(GC f hf).1.2.2.2.2.2.2.1.1] at hk; omega
  · rw [(GC f hf).1.2.2.2.2.2.2.2.1] at hk; omega
  · rw [q.1, ((GC f hf).2.2.2 c hc).2.1.1] at hk; omega
  · rw [((GC f hf).2.2.2 c hc).2.1.2.2.2.2.1.1] at hk; omega
  · rw [((GC f hf).2.2.2 c hc).2.1.2.2.2.2.2.1] at hk; omega
theorem MP.lo {x k : Nat} (S : SW F C fa cc) (hx : x < 88) (h9 : x ≠ 9) (h10 : x ≠ 10) (h15 : x < 15 ∨ 20 < x) (h0 : x ≠ 0 ∨ k ≠ 12) : ¬ MP F C fa cc x k := by
  rintro (q | q | q | q | ⟨f, hf, q | q | q | ⟨c, hc, q⟩⟩)
  · omega
  · omega
  · omega
  · omega
  · have := S.1 f hf; omega
  · have := S.1 f hf; omega
  · have := S.1 f hf; omega
  · have := (S.2.2.1 f c hf hc).1; omega
theorem MP.nfa {f k : Nat} (S : SW F C fa cc) (hf : f < F) (hk : k < 8) : ¬ MP F C fa cc (fa f) k := by
  have h88 := S.1 f hf
  rintro (q | q | q | q | ⟨g, hg, q⟩)
  · omega
  · omega
  · omega
  · omega
  · by_cases y : f = g
    · subst y
      rcases q with q | q | q | ⟨c, hc, q⟩
      · omega
      · omega
      · omega
      · have := (S.2.2.1 f c hf hc).2 f hf; omega
    · rcases q with q | q | q | ⟨c, hc, q⟩
      · have := S.2.1 f g hf hg y; omega
      · have := S.2.1 f g hf hg y; omega
      · have := S.2.1 f g hf hg y; omega
      · have := (S.2.2.1 g c hg hc).2 f hf; omega
theorem MP.ncc {f c k : Nat} (S : SW F C fa cc) (hf : f < F) (hc : c < C f) (hk : k ≠ 2) (hk4 : k ≠ 4) : ¬ MP F C fa cc (cc f c) k := by
  have h88 := (S.2.2.1 f c hf hc).1
  rintro (q | q | q | q | ⟨g, hg, q | q | q | ⟨c', hc', q⟩⟩)
  · omega
  · omega
  · omega
  · omega
  · have := (S.2.2.1 f c hf hc).2 g hg; omega
  · have := (S.2.2.1 f c hf hc).2 g hg; omega
  · have := (S.2.2.1 f c hf hc).2 g hg; omega
  · by_cases y : f = g ∧ c = c'
    · obtain ⟨rfl, rfl⟩ := y; omega
    · have := S.2.2.2 f c g c' hf hc hg hc' (by omega); omega
theorem SC.mp (S : SC h N F Rn C fa cc ta nn Tt cls ro) (x : GX h h' (MP F C fa cc)) : SC h' N F Rn C fa cc ta nn Tt cls ro := by
  obtain ⟨L, G, GC, W, CT, R⟩ := S
  refine ⟨x.ly L, x.FS G (MP.lo W (by decide) (by decide) (by decide) (by decide) (by decide)), fun f hf => x.FC L (GC f hf) (MP.nfa W hf (by decide)) (fun c hc => MP.ncc W hf hc (by decide) (by decide)), W, x.CTx L CT (MP.kd L GC) (MP.lo W (by decide) (by decide) (by decide) (by decide) (by decide)), fun f hf => ⟨by rw [x.2.1 _ _ (MP.nfa W hf (by decide))]; exact (R f hf).1, (R f hf).2⟩⟩
theorem DS.mp {i : Nat} {a b c : Int32} (D : DS h h' (fa i) (C i) (cc i) a b c) (hi : i < F) : GX h h' (MP F C fa cc) := by
  refine D.1.mono fun x k q => ?_
  rcases q with (q | q | q) | (q | q | q | ⟨c, hc, q⟩)
  · exact Or.inl q
  · exact Or.inr (Or.inl q)
  · exact Or.inr (Or.inr (Or.inr (Or.inr ⟨i, hi, Or.inl ⟨q.1, by omega, by omega⟩⟩)))
  · exact Or.inr (Or.inr (Or.inl ⟨by omega, by omega⟩))
  · exact Or.inr (Or.inr (Or.inr (Or.inr ⟨i, hi, Or.inl ⟨q.1, by omega, by omega⟩⟩)))
  · exact Or.inr (Or.inr (Or.inr (Or.inr ⟨i, hi, Or.inr (Or.inl q.1)⟩)))
  · refine Or.inr (Or.inr (Or.inr (Or.inr ⟨i, hi, Or.inr (Or.inr (Or.inr ⟨c, hc, ?_⟩))⟩)))
    unfold P_em at q; omega
theorem WS.mp {i : Nat} {u : Int32} {o1 : Option Nat} (D : WS h h' (fa i) (C i) (cc i) o1 u) (hi : i < F) : GX h h' (MP F C fa cc) := by
  refine D.1.mono fun x k q => ?_
  rcases q with (q | q | q) | (q | q | q | ⟨c, hc, q⟩)
  · exact Or.inl q
  · exact Or.inr (Or.inl q)
  · exact Or.inr (Or.inr (Or.inr (Or.inr ⟨i, hi, Or.inl ⟨q.1, by omega, by omega⟩⟩)))
  · exact Or.inr (Or.inr (Or.inl ⟨by omega, by omega⟩))
  · exact Or.inr (Or.inr (Or.inr (Or.inr ⟨i, hi, Or.inr (Or.inl q.1)⟩)))
  · exact Or.inr (Or.inr (Or.inr (Or.inr ⟨i, hi, Or.inl ⟨q.1, by omega, by omega⟩⟩)))
  · unfold P_cw at q
    by_cases y : x = 16
    · exact Or.inr (Or.inr (Or.inl ⟨by omega, by omega⟩))
    · exact Or.inr (Or.inr (Or.inr (Or.inr ⟨i, hi, Or.inr (Or.inr (Or.inr ⟨c, hc, by omega⟩))⟩)))
theorem P_ss_mp {x k : Nat} (q : P_ss F fa x k) : MP F C fa cc x k := by
  obtain ⟨f, hf, q⟩ := q
  exact Or.inr (Or.inr (Or.inr (Or.inr ⟨f, hf, Or.inl ⟨q.1, by omega, by omega⟩⟩)))
theorem P_sg_mp {t x k : Nat} (q : P_sg F t fa x k) : MP F C fa cc x k := by
  rcases q with q | q | ⟨f, hf, q⟩
  · exact Or.inr (Or.inr (Or.inl ⟨by omega, by omega⟩))
  · exact Or.inr (Or.inr (Or.inl ⟨by omega, by omega⟩))
  · exact Or.inr (Or.inr (Or.inr (Or.inr ⟨f, hf, Or.inr (Or.inr (Or.inl q.1))⟩)))
theorem P_cn_mp {t x k : Nat} (q : P_cn F t C fa cc x k) : MP F C fa cc x k := by
  rcases q with q | q | ⟨f, hf, q | q | q | ⟨c, hc, q⟩⟩
  · exact Or.inr (Or.inr (Or.inl ⟨by omega, by omega⟩))
  · exact Or.inr (Or.inr (Or.inl ⟨by omega, by omega⟩))
  · exact Or.inr (Or.inr (Or.inr (Or.inr ⟨f, hf, Or.inl ⟨q.1, by omega, by omega⟩⟩)))
  · exact Or.inr (Or.inr (Or.inr (Or.inr ⟨f, hf, Or.inr (Or.inl q.1)⟩)))
  · exact Or.inr (Or.inr (Or.inr (Or.inr ⟨f, hf, Or.inr (Or.inr (Or.inl q.1))⟩)))
  · exact Or.inr (Or.inr (Or.inr (Or.inr ⟨f, hf, Or.inr (Or.inr (Or.inr ⟨c, hc, by omega⟩))⟩)))
theorem P_cl_mp {x k : Nat} (q : P_cl F fa x k) : MP F C fa cc x k := by
  obtain ⟨f, hf, q⟩ := q
  exact Or.inr (Or.inr (Or.inr (Or.inr ⟨f, hf, Or.inl ⟨q.1, by omega, by omega⟩⟩)))
end OWNS
