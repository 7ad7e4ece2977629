/-! ===== the reading of RULES, as a function ===== -/
section PARSE
abbrev PR := Nat × Option Nat × List Nat
def sk (T : Nat → Nat) (n : Nat) : Nat → Nat → Nat
  | 0, p => p
  | m + 1, p => if p < n ∧ T p = 32 then sk T n m (p + 1) else p
def sq (T : Nat → Nat) (n p : Nat) : Nat := sk T n (n - p) p
def sg (T : Nat → Nat) (n p : Nat) (w : Option Nat) : Nat := if w = none ∧ sq T n p < n then T (sq T n p) else 0
def fl (w : Option Nat) (q : Nat) : Option Nat := match w with | none => some q | some x => some x
def nu (T : Nat → Nat) (n : Nat) : Nat → Nat → Nat → Nat → Nat × Bool × Nat
  | 0, _, p, v => (p, true, v)
  | m + 1, i, p, v => if p < n ∧ 48 ≤ T p ∧ T p ≤ 57 then (if i < 4 then nu T n m (i + 1) (p + 1) (10 * v + (T p - 48)) else (p, false, v)) else (p, true, v)
abbrev isL (c : Nat) : Prop := c = 112 ∨ c = 104 ∨ c = 111 ∨ c = 105 ∨ c = 110 ∨ c = 107
def exq (T : Nat → Nat) (n : Nat) (r : PR) (c : Nat) : PR := if sg T n r.1 r.2.1 = c then (sq T n r.1 + 1, r.2.1, r.2.2) else (sq T n r.1, fl r.2.1 (sq T n r.1), r.2.2)
abbrev PF := Nat → Nat → Nat → Option Nat → PR
def pSeq (F : PF) (a b : Nat) : Nat → Nat → Option Nat → PR := fun dep p w => ((F b dep (F a dep p w).1 (F a dep p w).2.1).1, (F b dep (F a dep p w).1 (F a dep p w).2.1).2.1, (F a dep p w).2.2 ++ (F b dep (F a dep p w).1 (F a dep p w).2.1).2.2)
def pLoop (T : Nat → Nat) (n : Nat) (F : PF) (a b x y : Nat) : Nat → Nat → Option Nat → PR := fun dep p w => if sg T n p w = x ∨ sg T n p w = y then ((F b dep (F a dep (sq T n p + 1) w).1 (F a dep (sq T n p + 1) w).2.1).1, (F b dep (F a dep (sq T n p + 1) w).1 (F a dep (sq T n p + 1) w).2.1).2.1, (F a dep (sq T n p + 1) w).2.2 ++ sg T n p w :: (F b dep (F a dep (sq T n p + 1) w).1 (F a dep (sq T n p + 1) w).2.1).2.2) else (sq T n p, w, [])
def pAtom (T : Nat → Nat) (n : Nat) (F : PF) : Nat → Nat → Option Nat → PR := fun dep p w =>
  if 48 ≤ sg T n p w ∧ sg T n p w ≤ 57 then ((nu T n 6 0 (sq T n p) 0).1, (if (nu T n 6 0 (sq T n p) 0).2.1 then w else fl w (nu T n 6 0 (sq T n p) 0).1), [0, (nu T n 6 0 (sq T n p) 0).2.2])
  else if isL (sg T n p w) then (sq T n p + 1, w, [1, sg T n p w])
  else if sg T n p w = 91 ∧ dep < 6 then exq T n (F 4 (dep + 1) (sq T n p + 1) w) 93
  else (sq T n p, fl w (sq T n p), [])
def pCmp (T : Nat → Nat) (n : Nat) (F : PF) : Nat → Nat → Option Nat → PR := fun dep p w =>
  if sg T n p w = 61 ∨ sg T n p w = 60 ∨ sg T n p w = 62 then ((F 4 dep (sq T n p + 1) w).1, (F 4 dep (sq T n p + 1) w).2.1, (F 4 dep (sq T n p + 1) w).2.2 ++ [sg T n p w]) else (sq T n p, fl w (sq T n p), [])
def pUnit (T : Nat → Nat) (n : Nat) (F : PF) : Nat → Nat → Option Nat → PR := fun dep p w =>
  if sg T n p w = 33 then (if dep < 6 then ((F 6 (dep + 1) (sq T n p + 1) w).1, (F 6 (dep + 1) (sq T n p + 1) w).2.1, (F 6 (dep + 1) (sq T n p + 1) w).2.2 ++ [33]) else (sq T n p, fl w (sq T n p), []))
  else if sg T n p w = 40 then (if dep < 6 then exq T n (F 11 (dep + 1) (sq T n p + 1) w) 41 else (sq T n p, fl w (sq T n p), []))
  else pSeq F 4 5 dep p w
def pB (T : Nat → Nat) (n : Nat) (F : PF) : PF := fun k dep p w =>
  match k with
  | 0 => pAtom T n F dep p w
  | 1 => pLoop T n F 0 1 42 47 dep p w
  | 2 => pSeq F 0 1 dep p w
  | 3 => pLoop T n F 2 3 43 45 dep p w
  | 4 => pSeq F 2 3 dep p w
  | 5 => pCmp T n F dep p w
  | 6 => pUnit T n F dep p w
  | 7 => pLoop T n F 6 7 38 38 dep p w
  | 8 => pLoop T n F 10 8 124 124 dep p w
  | 9 => pSeq F 7 8 dep p w
  | 10 => pSeq F 6 7 dep p w
  | 11 => pSeq F 6 9 dep p w
  | _ => (p, w, [])
def pp (T : Nat → Nat) (n : Nat) : Nat → PF
  | 0 => fun _ _ p w => (p, w, [])
  | N + 1 => pB T n (pp T n N)
def rk : Nat → Nat
  | 2 => 1 | 4 => 2 | 6 => 3 | 9 => 1 | 10 => 4 | 11 => 4 | _ => 0
variable {T : Nat → Nat} {n : Nat}
theorem sk_ge : ∀ (m p : Nat), p ≤ sk T n m p
  | 0, p => Nat.le_refl p
  | m + 1, p => by
    unfold sk
    split
    · have := sk_ge m (p + 1); omega
    · exact Nat.le_refl p
theorem sk_le : ∀ (m p : Nat), p ≤ n → sk T n m p ≤ n
  | 0, p, h => h
  | m + 1, p, h => by
    unfold sk
    split
    · rename_i q; exact sk_le m (p + 1) q.1
    · exact h
theorem sq_ge {p : Nat} : p ≤ sq T n p := sk_ge _ _
theorem sq_le {p : Nat} (h : p ≤ n) : sq T n p ≤ n := sk_le _ _ h
/-- at a blank it goes on, elsewhere it stays -/
theorem sq_next {p : Nat} (h : p < n) (e : T p = 32) : sq T n p = sq T n (p + 1) := by
  unfold sq
  obtain ⟨m, hm⟩ : ∃ m, n - p = m + 1 := ⟨n - p - 1, by omega⟩
  rw [hm]
  conv => lhs; unfold sk
  rw [if_pos ⟨h, e⟩]
  have : n - (p + 1) = m := by omega
  rw [this]
theorem sq_stay {p : Nat} (h : ¬ (p < n ∧ T p = 32)) : sq T n p = p := by
  unfold sq
  cases n - p with
  | zero => rfl
  | succ m => unfold sk; rw [if_neg h]
theorem sq_sq : ∀ (m p : Nat), n - p ≤ m → ¬ (sq T n p < n ∧ T (sq T n p) = 32)
  | m, p, hm => by
    by_cases y : p < n ∧ T p = 32
    · rw [sq_next y.1 y.2]
      cases m with
      | zero => omega
      | succ m => exact sq_sq m (p + 1) (by omega)
    · rw [sq_stay y]; exact y
theorem sq_idem {p : Nat} : sq T n (sq T n p) = sq T n p := sq_stay (sq_sq _ p (Nat.le_refl _))
theorem sg_sq {p : Nat} {w : Option Nat} : sg T n (sq T n p) w = sg T n p w := by unfold sg; rw [sq_idem]
theorem sg_lt {p c : Nat} {w : Option Nat} (e : sg T n p w = c) (h : 0 < c) : sq T n p < n ∧ w = none ∧ T (sq T n p) = c := by
  unfold sg at e
  by_cases y : w = none ∧ sq T n p < n
  · rw [if_pos y] at e; exact ⟨y.2, y.1, e⟩
  · rw [if_neg y] at e; omega
theorem sg_some {p q : Nat} : sg T n p (some q) = 0 := if_neg fun z => by cases z.1
theorem nu_ge : ∀ (m i p v : Nat), p ≤ n → p ≤ (nu T n m i p v).1 ∧ (nu T n m i p v).1 ≤ n
  | 0, i, p, v, h => ⟨Nat.le_refl p, h⟩
  | m + 1, i, p, v, h => by
    unfold nu
    split
    · split
      · have := nu_ge m (i + 1) (p + 1) (10 * v + (T p - 48)) (by omega); omega
      · exact ⟨Nat.le_refl p, h⟩
    · exact ⟨Nat.le_refl p, h⟩
def Mono (n : Nat) (F : PF) : Prop := ∀ k dep p w, p ≤ n → p ≤ (F k dep p w).1 ∧ (F k dep p w).1 ≤ n
def Dead (F : PF) : Prop := ∀ k dep p q, (F k dep p (some q)).2.1 = some q
theorem exq_ge {r : PR} {c : Nat} (hc : 0 < c) (h : r.1 ≤ n) : r.1 ≤ (exq T n r c).1 ∧ (exq T n r c).1 ≤ n := by
  unfold exq
  have h1 : r.1 ≤ sq T n r.1 := sq_ge
  have h2 : sq T n r.1 ≤ n := sq_le h
  by_cases y : sg T n r.1 r.2.1 = c
  · have := (sg_lt y hc).1
    rw [if_pos y]; show _ ≤ sq T n r.1 + 1 ∧ sq T n r.1 + 1 ≤ n; omega
  · rw [if_neg y]; show _ ≤ sq T n r.1 ∧ sq T n r.1 ≤ n; omega
theorem pSeq_ge {F : PF} (M : Mono n F) {a b dep p : Nat} {w : Option Nat} (h : p ≤ n) : p ≤ (pSeq F a b dep p w).1 ∧ (pSeq F a b dep p w).1 ≤ n := by
  have h1 := M a dep p w h
  have h2 := M b dep (F a dep p w).1 (F a dep p w).2.1 h1.2
  show p ≤ (F b dep (F a dep p w).1 (F a dep p w).2.1).1 ∧ (F b dep (F a dep p w).1 (F a dep p w).2.1).1 ≤ n
  omega
theorem pLoop_ge {F : PF} (M : Mono n F) {a b x y dep p : Nat} {w : Option Nat} (hx : 0 < x) (hy : 0 < y) (h : p ≤ n) : p ≤ (pLoop T n F a b x y dep p w).1 ∧ (pLoop T n F a b x y dep p w).1 ≤ n := by
  unfold pLoop
  have g1 : p ≤ sq T n p := sq_ge
  have g2 : sq T n p ≤ n := sq_le h
  by_cases z : sg T n p w = x ∨ sg T n p w = y
  · have hl : sq T n p < n := by
      rcases z with z | z
      · exact (sg_lt z hx).1
      · exact (sg_lt z hy).1
    rw [if_pos z]
    have h1 := M a dep (sq T n p + 1) w (by omega)
    have h2 := M b dep (F a dep (sq T n p + 1) w).1 (F a dep (sq T n p + 1) w).2.1 h1.2
    exact ⟨by dsimp only; omega, h2.2⟩
  · rw [if_neg z]; exact ⟨g1, g2⟩
theorem pB_mono {F : PF} (M : Mono n F) : Mono n (pB T n F) := by
  intro k dep p w h
  have g1 : p ≤ sq T n p := sq_ge
  have g2 : sq T n p ≤ n := sq_le h
  unfold pB
  split
  · unfold pAtom
    by_cases y1 : 48 ≤ sg T n p w ∧ sg T n p w ≤ 57
    · rw [if_pos y1]
      have := nu_ge (T := T) 6 0 (sq T n p) 0 g2
      exact ⟨by dsimp only; omega, this.2⟩
    · rw [if_neg y1]
      by_cases y2 : isL (sg T n p w)
      · have := (sg_lt (T := T) (n := n) (p := p) (w := w) rfl (by unfold isL at y2; omega)).1
        rw [if_pos y2]; dsimp only; omega
      · rw [if_neg y2]
        by_cases y3 : sg T n p w = 91 ∧ dep < 6
        · have := (sg_lt y3.1 (by decide)).1
          rw [if_pos y3]
          have h1 := M 4 (dep + 1) (sq T n p + 1) w (by omega)
          have h2 := exq_ge (T := T) (r := F 4 (dep + 1) (sq T n p + 1) w) (c := 93) (by decide) h1.2
          omega
        · rw [if_neg y3]; exact ⟨g1, g2⟩
  · exact pLoop_ge M (by decide) (by decide) h
  · exact pSeq_ge M h
  · exact pLoop_ge M (by decide) (by decide) h
  · exact pSeq_ge M h
  · unfold pCmp
    by_cases y : sg T n p w = 61 ∨ sg T n p w = 60 ∨ sg T n p w = 62
    · have hl := (sg_lt (T := T) (n := n) (p := p) (w := w) rfl (by omega)).1
      rw [if_pos y]
      have h1 := M 4 dep (sq T n p + 1) w (by omega)
      exact ⟨by dsimp only; omega, h1.2⟩
    · rw [if_neg y]; exact ⟨g1, g2⟩
  · unfold pUnit
    by_cases y : sg T n p w = 33
    · have hl := (sg_lt y (by decide)).1
      rw [if_pos y]
      by_cases y2 : dep < 6
      · rw [if_pos y2]
        have h1 := M 6 (dep + 1) (sq T n p + 1) w (by omega)
        exact ⟨by dsimp only; omega, h1.2⟩
      · rw [if_neg y2]; exact ⟨g1, g2⟩
    · rw [if_neg y]
      by_cases y3 : sg T n p w = 40
      · have hl := (sg_lt y3 (by decide)).1
        rw [if_pos y3]
        by_cases y2 : dep < 6
        · rw [if_pos y2]
          have h1 := M 11 (dep + 1) (sq T n p + 1) w (by omega)
          have h2 := exq_ge (T := T) (r := F 11 (dep + 1) (sq T n p + 1) w) (c := 41) (by decide) h1.2
          omega
        · rw [if_neg y2]; exact ⟨g1, g2⟩
      · rw [if_neg y3]; exact pSeq_ge M h
  · exact pLoop_ge M (by decide) (by decide) h
  · exact pLoop_ge M (by decide) (by decide) h
  · exact pSeq_ge M h
  · exact pSeq_ge M h
  · exact pSeq_ge M h
  · exact ⟨Nat.le_refl p, h⟩
theorem pp_mono : ∀ N, Mono n (pp T n N)
  | 0 => fun _ _ p _ h => ⟨Nat.le_refl p, h⟩
  | N + 1 => pB_mono (pp_mono N)
theorem pSeq_dead {F : PF} (D : Dead F) {a b dep p q : Nat} : (pSeq F a b dep p (some q)).2.1 = some q := by
  show (F b dep (F a dep p (some q)).1 (F a dep p (some q)).2.1).2.1 = some q
  rw [D a]; exact D b _ _ _
theorem pLoop_dead {F : PF} {a b x y dep p q : Nat} (hx : 0 < x) (hy : 0 < y) : pLoop T n F a b x y dep p (some q) = (sq T n p, some q, []) := by
  unfold pLoop
  rw [sg_some, if_neg (by omega)]
theorem pB_dead {F : PF} (D : Dead F) : Dead (pB T n F) := by
  intro k dep p q
  unfold pB
  split
  · unfold pAtom
    rw [sg_some, if_neg (by omega), if_neg (by unfold isL; omega), if_neg (by omega)]; rfl
  · rw [pLoop_dead (by decide) (by decide)]
  · exact pSeq_dead D
  · rw [pLoop_dead (by decide) (by decide)]
  · exact pSeq_dead D
  · unfold pCmp; rw [sg_some, if_neg (by omega)]; rfl
  · unfold pUnit; rw [sg_some, if_neg (by omega), if_neg (by omega)]; exact pSeq_dead D
  · rw [pLoop_dead (by decide) (by decide)]
  · rw [pLoop_dead (by decide) (by decide)]
  · exact pSeq_dead D
  · exact pSeq_dead D
  · exact pSeq_dead D
  · rfl
theorem pp_dead : ∀ N, Dead (pp T n N)
  | 0 => fun _ _ _ _ => rfl
  | N + 1 => pB_dead (pp_dead N)
/-- a reading that ends well began well -/
theorem pp_well {N k dep p : Nat} {w : Option Nat} (e : (pp T n N k dep p w).2.1 = none) : w = none := by
  cases w with
  | none => rfl
  | some q => rw [pp_dead N] at e; cases e
end PARSE
