/-! ===== a clause, and a text ===== -/
section CLAUSE
variable {T : Nat → Nat} {n : Nat}
abbrev lab (c : Nat) : Prop := c = 119 ∨ c = 114 ∨ c = 99 ∨ c = 117
abbrev CL := Nat × List Nat × List Nat
theorem pp_sq5 {N dep p : Nat} {w : Option Nat} : pp T n (N + 1) 5 dep (sq T n p) w = pp T n (N + 1) 5 dep p w := by
  show pCmp T n (pp T n N) dep (sq T n p) w = pCmp T n (pp T n N) dep p w
  unfold pCmp
  rw [sg_sq, sq_idem]
theorem pp_sq6 {N dep p : Nat} {w : Option Nat} (hN : 4 ≤ N) : pp T n N 6 dep (sq T n p) w = pp T n N 6 dep p w := by
  obtain ⟨N, rfl⟩ : ∃ m, N = m + 1 := ⟨N - 1, by omega⟩
  show pUnit T n (pp T n N) dep (sq T n p) w = pUnit T n (pp T n N) dep p w
  unfold pUnit
  rw [sg_sq, sq_idem]
  unfold pSeq
  rw [pp_sq4 (by omega)]
def pcl (T : Nat → Nat) (n : Nat) (F : PF) (p : Nat) (w : Option Nat) : Nat × Option Nat × CL :=
  if lab (sg T n p w) then
    (if sg T n (exq T n (sq T n p + 1, w, []) 58).1 (exq T n (sq T n p + 1, w, []) 58).2.1 = 33 ∨ sg T n (exq T n (sq T n p + 1, w, []) 58).1 (exq T n (sq T n p + 1, w, []) 58).2.1 = 40 then
      ((F 4 0 (exq T n (pSeq F 6 9 0 (exq T n (sq T n p + 1, w, []) 58).1 (exq T n (sq T n p + 1, w, []) 58).2.1) 63).1 (exq T n (pSeq F 6 9 0 (exq T n (sq T n p + 1, w, []) 58).1 (exq T n (sq T n p + 1, w, []) 58).2.1) 63).2.1).1,
       (F 4 0 (exq T n (pSeq F 6 9 0 (exq T n (sq T n p + 1, w, []) 58).1 (exq T n (sq T n p + 1, w, []) 58).2.1) 63).1 (exq T n (pSeq F 6 9 0 (exq T n (sq T n p + 1, w, []) 58).1 (exq T n (sq T n p + 1, w, []) 58).2.1) 63).2.1).2.1,
       sg T n p w, (pSeq F 6 9 0 (exq T n (sq T n p + 1, w, []) 58).1 (exq T n (sq T n p + 1, w, []) 58).2.1).2.2,
       (F 4 0 (exq T n (pSeq F 6 9 0 (exq T n (sq T n p + 1, w, []) 58).1 (exq T n (sq T n p + 1, w, []) 58).2.1) 63).1 (exq T n (pSeq F 6 9 0 (exq T n (sq T n p + 1, w, []) 58).1 (exq T n (sq T n p + 1, w, []) 58).2.1) 63).2.1).2.2)
    else pcs T n F (sg T n p w) (F 4 0 (exq T n (sq T n p + 1, w, []) 58).1 (exq T n (sq T n p + 1, w, []) 58).2.1))
  else (sq T n p, fl w (sq T n p), 0, [], [])
where
  /-- behind a first sum r -/
  pcs (T : Nat → Nat) (n : Nat) (F : PF) (c : Nat) (r : PR) : Nat × Option Nat × CL :=
    if sg T n r.1 r.2.1 = 61 ∨ sg T n r.1 r.2.1 = 60 ∨ sg T n r.1 r.2.1 = 62 then
      ((F 4 0 (exq T n (pSeq F 5 9 0 r.1 r.2.1) 63).1 (exq T n (pSeq F 5 9 0 r.1 r.2.1) 63).2.1).1,
       (F 4 0 (exq T n (pSeq F 5 9 0 r.1 r.2.1) 63).1 (exq T n (pSeq F 5 9 0 r.1 r.2.1) 63).2.1).2.1,
       c, r.2.2 ++ (pSeq F 5 9 0 r.1 r.2.1).2.2,
       (F 4 0 (exq T n (pSeq F 5 9 0 r.1 r.2.1) 63).1 (exq T n (pSeq F 5 9 0 r.1 r.2.1) 63).2.1).2.2)
    else (sq T n r.1, r.2.1, c, [0, 1], r.2.2)
theorem exq_well {r : PR} {c : Nat} (e : (exq T n r c).2.1 = none) : r.2.1 = none ∧ sg T n r.1 r.2.1 = c ∧ (exq T n r c).1 = sq T n r.1 + 1 := by
  unfold exq at e ⊢
  by_cases y : sg T n r.1 r.2.1 = c
  · rw [if_pos y] at e ⊢; exact ⟨e, y, rfl⟩
  · rw [if_neg y] at e
    dsimp only at e
    unfold fl at e
    split at e <;> cases e
theorem pSeq_well {N a b dep p : Nat} {w : Option Nat} (e : (pSeq (pp T n N) a b dep p w).2.1 = none) : w = none ∧ (pp T n N a dep p w).2.1 = none := ⟨pp_well (N := N) (pp_well (N := N) (k := b) e), pp_well (N := N) (k := b) e⟩
theorem pSeq_mono {N a b dep p : Nat} {w : Option Nat} (h : p ≤ n) : p ≤ (pSeq (pp T n N) a b dep p w).1 ∧ (pSeq (pp T n N) a b dep p w).1 ≤ n := pSeq_ge (pp_mono N) h
def pText (T : Nat → Nat) (n : Nat) (F : PF) : Nat → Nat → Option Nat → Option Nat × List CL
  | 0, _, w => (w, [])
  | m + 1, p, w => if sg T n (pcl T n F p w).1 (pcl T n F p w).2.1 = 59 then ((pText T n F m (sq T n (pcl T n F p w).1 + 1) (pcl T n F p w).2.1).1, (pcl T n F p w).2.2 :: (pText T n F m (sq T n (pcl T n F p w).1 + 1) (pcl T n F p w).2.1).2)
    else ((if sg T n (pcl T n F p w).1 (pcl T n F p w).2.1 = 0 then (pcl T n F p w).2.1 else fl (pcl T n F p w).2.1 (sq T n (pcl T n F p w).1)), [(pcl T n F p w).2.2])
theorem pcs_mono {N c : Nat} {r : PR} (h : r.1 ≤ n) : r.1 ≤ (pcl.pcs T n (pp T n N) c r).1 ∧ (pcl.pcs T n (pp T n N) c r).1 ≤ n := by
  unfold pcl.pcs
  split
  · have h1 := pSeq_mono (T := T) (N := N) (a := 5) (b := 9) (dep := 0) (w := r.2.1) h
    have h2 := exq_ge (T := T) (r := pSeq (pp T n N) 5 9 0 r.1 r.2.1) (c := 63) (by decide) h1.2
    have h3 := pp_mono (T := T) N 4 0 _ (exq T n (pSeq (pp T n N) 5 9 0 r.1 r.2.1) 63).2.1 h2.2
    exact ⟨by dsimp only; omega, h3.2⟩
  · exact ⟨sq_ge, sq_le h⟩
theorem pcl_mono {N p : Nat} {w : Option Nat} (h : p ≤ n) : p ≤ (pcl T n (pp T n N) p w).1 ∧ (pcl T n (pp T n N) p w).1 ≤ n := by
  have g1 : p ≤ sq T n p := sq_ge
  unfold pcl
  split
  · rename_i q
    have hl := (sg_lt (T := T) (n := n) (p := p) (w := w) rfl (by unfold lab at q; omega)).1
    have h0 := exq_ge (T := T) (n := n) (r := (sq T n p + 1, w, [])) (c := 58) (by decide) hl
    dsimp only at h0
    split
    · have h1 := pSeq_mono (T := T) (N := N) (a := 6) (b := 9) (dep := 0) (w := (exq T n (sq T n p + 1, w, []) 58).2.1) h0.2
      have h2 := exq_ge (T := T) (r := pSeq (pp T n N) 6 9 0 (exq T n (sq T n p + 1, w, []) 58).1 (exq T n (sq T n p + 1, w, []) 58).2.1) (c := 63) (by decide) h1.2
      have h3 := pp_mono (T := T) N 4 0 _ (exq T n (pSeq (pp T n N) 6 9 0 (exq T n (sq T n p + 1, w, []) 58).1 (exq T n (sq T n p + 1, w, []) 58).2.1) 63).2.1 h2.2
      exact ⟨by dsimp only; omega, h3.2⟩
    · have h1 := pp_mono (T := T) N 4 0 _ (exq T n (sq T n p + 1, w, []) 58).2.1 h0.2
      have h2 := pcs_mono (T := T) (n := n) (N := N) (c := sg T n p w) h1.2
      omega
  · exact ⟨sq_ge, sq_le h⟩
end CLAUSE
