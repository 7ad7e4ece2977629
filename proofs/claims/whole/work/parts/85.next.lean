/-! ===== orders: the next one, and all of them ===== -/
section ORD
def nTurn (a : Nat → Nat) : Nat → Option Nat
  | 0 => none
  | k + 1 => if a (k + 1) < a k then nTurn a k else some k
def nOther (a : Nat → Nat) (t : Nat) : Nat → Nat
  | 0 => 0
  | o + 1 => if t < o + 1 ∧ a (o + 1) < a t then nOther a t o else o + 1
def swp (a : Nat → Nat) (i j : Nat) : Nat → Nat := fun k => if k = j then a i else if k = i then a j else a k
def rvs : Nat → (Nat → Nat) → Nat → Nat → Nat → Nat
  | 0, a, _, _ => a
  | f + 1, a, lo, hi => if lo < hi then rvs f (swp a lo hi) (lo + 1) (hi - 1) else a
def nxt (N : Nat) (a : Nat → Nat) : Option (Nat → Nat) := match nTurn a (N - 1) with
  | none => none
  | some t => some (rvs 6 (swp a t (nOther a t (N - 1))) (t + 1) (N - 1))
def fL (l : List Nat) : Nat → Nat := fun i => l.getD i 0
def lF (a : Nat → Nat) : List Nat := [a 0, a 1, a 2, a 3, a 4, a 5]
/-- all orders of N with this beginning, by the lowest first -/
def cmpl (N : Nat) : Nat → List Nat → List (List Nat)
  | 0, pre => [pre]
  | f + 1, pre => (List.range N).flatMap fun l => if l ∈ pre then [] else cmpl N f (pre ++ [l])
def pad (N : Nat) (l : List Nat) : List Nat := l ++ [0, 1, 2, 3, 4, 5].drop N
def chk (N : Nat) : List (List Nat) → Bool
  | [] => false
  | [a] => (nxt N (fL (pad N a))).isNone
  | a :: b :: r => (match nxt N (fL (pad N a)) with | none => false | some a' => lF a' == pad N b) && chk N (b :: r)
def okL (N : Nat) (l : List Nat) : Bool := l.length == N && l.all (· < N)
theorem chk_1 : chk 1 (cmpl 1 1 []) = true ∧ (cmpl 1 1 []).all (okL 1) = true ∧ (cmpl 1 1 []).length ≤ 720 ∧ (cmpl 1 1 []).head? = some (List.range 1) := by decide +kernel
theorem chk_2 : chk 2 (cmpl 2 2 []) = true ∧ (cmpl 2 2 []).all (okL 2) = true ∧ (cmpl 2 2 []).length ≤ 720 ∧ (cmpl 2 2 []).head? = some (List.range 2) := by decide +kernel
theorem chk_3 : chk 3 (cmpl 3 3 []) = true ∧ (cmpl 3 3 []).all (okL 3) = true ∧ (cmpl 3 3 []).length ≤ 720 ∧ (cmpl 3 3 []).head? = some (List.range 3) := by decide +kernel
theorem chk_4 : chk 4 (cmpl 4 4 []) = true ∧ (cmpl 4 4 []).all (okL 4) = true ∧ (cmpl 4 4 []).length ≤ 720 ∧ (cmpl 4 4 []).head? = some (List.range 4) := by decide +kernel
theorem chk_5 : chk 5 (cmpl 5 5 []) = true ∧ (cmpl 5 5 []).all (okL 5) = true ∧ (cmpl 5 5 []).length ≤ 720 ∧ (cmpl 5 5 []).head? = some (List.range 5) := by decide +kernel
theorem chk_6 : chk 6 (cmpl 6 6 []) = true ∧ (cmpl 6 6 []).all (okL 6) = true ∧ (cmpl 6 6 []).length ≤ 720 ∧ (cmpl 6 6 []).head? = some (List.range 6) := by decide +kernel
theorem chk_N {N : Nat} (h1 : 1 ≤ N) (h6 : N ≤ 6) : chk N (cmpl N N []) = true ∧ (cmpl N N []).all (okL N) = true ∧ (cmpl N N []).length ≤ 720 ∧ (cmpl N N []).head? = some (List.range N) := by
  have : N = 1 ∨ N = 2 ∨ N = 3 ∨ N = 4 ∨ N = 5 ∨ N = 6 := by omega
  rcases this with rfl | rfl | rfl | rfl | rfl | rfl
  · exact chk_1
  · exact chk_2
  · exact chk_3
  · exact chk_4
  · exact chk_5
  · exact chk_6
variable {sc : cmS} {d : Nat} {h : cmH} {K : Int32 → cmH → Prop} {KV : cmH → Prop} {N : Nat} {a : Nat → Nat}
def TR (h : cmH) (a : Nat → Nat) : Prop := ∀ i, i < 6 → cm_I h 24 i = nI (a i) ∧ a i < 6
theorem c_swap {i j : Nat} (L : LY h) (hi : i < 6) (hj : j < 6) (T : TR h a) (k : ∀ h', XI h h' (fun x _ => x = 24) → TR h' (swp a i j) → KV h') : cm_cv sc (d + 1) 109 [.ref 21, .int (nI i), .int (nI j)] h KV := by
  refine cv_of rfl (s109_0 _ _ _ (c_inN 0 5 (fun i' _ _ _ => s109_6 _ _ _ _ ⟨fun e => absurd e (by decide), fun _ => c_inN 0 5 (fun j' _ _ _ => s109_15 L _ _ _ _ ⟨fun e => absurd e (by decide), fun _ => ⟨ix_nI hi (by decide), ix_nI hj (by decide), rfl, k _ ?_ ?_⟩⟩) (fun q => absurd rfl (q j (by omega) (by omega)))⟩) (fun q => absurd rfl (q i (by omega) (by omega)))))
  · exact XI.set (P := fun x _ => x = 24) (XI.set (P := fun x _ => x = 24) XI.refl rfl) rfl
  · intro m hm
    rw [nI_clamp (by omega), nI_clamp (by omega)]
    unfold swp
    by_cases y : m = j
    · subst y; rw [sI_s, if_pos rfl]; exact T i hi
    · rw [sI_o (Or.inr y), if_neg y]
      by_cases z : m = i
      · subst z; rw [sI_s, if_pos rfl]; exact T j hj
      · rw [sI_o (Or.inr z), if_neg z]; exact T m hm
theorem nOther_b {t : Nat} : ∀ o, t < o → t ≤ nOther a t o ∧ nOther a t o ≤ o
  | 0, h => by omega
  | o + 1, h => by
    unfold nOther
    split
    · rcases Nat.lt_or_ge t o with q | q
      · have := nOther_b o q; omega
      · have : t = o := by omega
        subst this
        cases t with
        | zero => show 0 ≤ 0 ∧ 0 ≤ 0 + 1; omega
        | succ t =>
          unfold nOther
          rw [if_neg (by omega)]; omega
    · omega
theorem c_rev {x1 x2 : Int32} (hN6 : N ≤ 6) : ∀ (f lo hi : Nat) (h : cmH) (a : Nat → Nat), LY h → hi < 6 → lo ≤ hi + 1 → hi + 1 - lo ≤ 2 * f + 1 → TR h a → (∀ h', XI h h' (fun x _ => x = 24) → TR h' (rvs f a lo hi) → K 1 h') → cm_wp sc (d + 2) 108 104 [some (.ref 21), some (.int x1), some (.int x2), some (.int (nI lo)), some (.int (nI hi))] [] h (fun v h' => ∃ x, v = some (.int x) ∧ K x h') := by
  intro f
  induction f with
  | zero =>
    intro lo hi h a L h6 hl hf T k
    refine s108_104 L _ _ _ _ ⟨fun _ => ai (k h XI.refl T), fun z => absurd (nI_le (by omega) (by omega)) z⟩
  | succ f ih =>
    intro lo hi h a L h6 hl hf T k
    by_cases y : lo < hi
    · have e : rvs (f + 1) a lo hi = rvs f (swp a lo hi) (lo + 1) (hi - 1) := if_pos y
      rw [e] at k
      refine s108_104 L _ _ _ _ ⟨fun z => absurd z (nI_ge y (by omega)), fun _ => c_swap L (by omega) h6 T (fun h1 X1 T1 => s108_117 _ _ _ _ ?_)⟩
      obtain ⟨hi, rfl⟩ : ∃ m, hi = m + 1 := ⟨hi - 1, by omega⟩
      rw [nI_1, nI_m1]
      exact ih (lo + 1) hi h1 _ (X1.ly L) (by omega) (by omega) (by omega) T1 (fun h2 X2 T2 => k h2 (X1.trans X2) T2)
    · have e : rvs (f + 1) a lo hi = a := if_neg y
      rw [e] at k
      exact s108_104 L _ _ _ _ ⟨fun _ => ai (k h XI.refl T), fun z => absurd (nI_le (by omega) (by omega)) z⟩
theorem c_next (L : LY h) (hN : cm_I h 21 5 = nI N) (h1 : 1 ≤ N) (h6 : N ≤ 6) (T : TR h a) (z : nxt N a = none → K 0 h) (y : ∀ a', nxt N a = some a' → ∀ h', XI h h' (fun x _ => x = 24) → TR h' a' → K 1 h') : cm_ci sc (d + 2) 108 [.ref 21] h K := by
  have up : ∀ i j, i < 6 → j < 6 → (cm_I h 24 i ≤ cm_I h 24 j ↔ a i ≤ a j) := fun i j hi hj => by
    rw [(T i hi).1, (T j hj).1]
    have hi2 := (T i hi).2
    have hj2 := (T j hj).2
    constructor
    · intro q
      rcases Nat.lt_or_ge (a j) (a i) with w | w
      · exact absurd q (nI_ge w (by omega))
      · exact w
    · intro q; exact nI_le q (by omega)
  -- behind the turn
  have rest : ∀ t, t + 1 < N → nTurn a (N - 1) = some t → ∀ u2 u3 u4, cm_wp sc (d + 2) 108 42 [some (.ref 21), some (.int (nI t)), u2, u3, u4] [] h (fun v h' => ∃ x, v = some (.int x) ∧ K x h') := fun t ht et u2 u3 u4 => by
    have en : nxt N a = some (rvs 6 (swp a t (nOther a t (N - 1))) (t + 1) (N - 1)) := by unfold nxt; rw [et]
    have y := y _ en
    refine s108_42 L _ _ _ _ ⟨fun _ => ?_, fun q => absurd (nI_pos' (by omega)) q⟩
    have e6 : (if (6 : Int32) < cm_I h 21 5 then 6 else cm_I h 21 5) = nI N := by
      rw [hN]
      split
      · rename_i q
        have : ¬ N < 6 + 1 := fun w => absurd q (Int32.not_lt.mpr (nI_le (b := 6) (by omega) (by decide)))
        omega
      · rfl
    obtain ⟨M, rfl⟩ : ∃ m, N = m + 1 := ⟨N - 1, by omega⟩
    rw [e6, nI_pred, show M + 1 - 1 = M from rfl] at *
    have ob := nOther_b (a := a) (t := t) M (by omega)
    have w86 : cm_wp sc (d + 2) 108 86 [some (.ref 21), some (.int (nI t)), some (.int (nI (nOther a t M))), u3, u4] [] h (fun v h' => ∃ x, v = some (.int x) ∧ K x h') := by
      refine s108_86 L _ _ _ _ (c_swap L (by omega) (by omega) T (fun h1 X1 T1 => s108_92 (X1.ly L) _ _ _ _ ?_))
      rw [X1.2 21 5 (by omega), hN, nI_pred, nI_1]
      exact c_rev (N := M + 1) h6 6 (t + 1) M h1 _ (X1.ly L) (by omega) (by omega) (by omega) T1 (fun h2 X2 T2 => y h2 (X1.trans X2) T2)
    suffices gen : ∀ o, t ≤ o → o ≤ M → nOther a t o = nOther a t M → cm_wp sc (d + 2) 108 60 [some (.ref 21), some (.int (nI t)), some (.int (nI o)), u3, u4] [] h (fun v h' => ∃ x, v = some (.int x) ∧ K x h') from gen M (by omega) (Nat.le_refl M) rfl
    intro o
    induction o with
    | zero =>
      intro h1 h2 e
      have e0 : nOther a t 0 = 0 := rfl
      rw [e0] at e
      refine s108_60 L _ _ _ _ ⟨fun _ => ?_, fun q => absurd (nI_le (by omega) (by omega)) q⟩
      rw [← e] at w86; exact w86
    | succ o ih =>
      intro h1 h2 e
      have eo : nOther a t (o + 1) = if t < o + 1 ∧ a (o + 1) < a t then nOther a t o else o + 1 := rfl
      refine s108_60 L _ _ _ _ ⟨fun q => ?_, fun q => ?_⟩
      · have hto : ¬ t < o + 1 := fun w => absurd q (nI_ge w (by omega))
        rw [eo, if_neg (fun w => hto w.1)] at e
        rw [← e] at w86; exact w86
      · have hto : t < o + 1 := by
          rcases Nat.lt_or_ge t (o + 1) with w | w
          · exact w
          · exact absurd (nI_le w (by omega)) q
        rw [nI_clamp (by omega), nI_clamp (by omega)]
        refine ⟨ix_nI (by omega) (by decide), ix_nI (by omega) (by decide), fun w => ?_, fun w => ?_⟩
        · have := (up t (o + 1) (by omega) (by omega)).mp w
          rw [eo, if_neg (by omega)] at e
          rw [← e] at w86; exact w86
        · have : ¬ a t ≤ a (o + 1) := fun q => w ((up t (o + 1) (by omega) (by omega)).mpr q)
          rw [eo, if_pos (by omega)] at e
          rw [nI_m1]
          exact ih (by omega) (by omega) e
  refine ci_of rfl (s108_0 L _ _ _ _ ?_)
  rw [hN]
  suffices gen : ∀ k, k < N → nTurn a k = nTurn a (N - 1) → ∀ u2 u3 u4, cm_wp sc (d + 2) 108 7 [some (.ref 21), some (.int (nI k - 1)), u2, u3, u4] [] h (fun v h' => ∃ x, v = some (.int x) ∧ K x h') by
    obtain ⟨M, rfl⟩ : ∃ m, N = m + 1 := ⟨N - 1, by omega⟩
    have e2 : nI (M + 1) - 2 = nI M - 1 := by
      rw [← nI_1]
      simp only [Int32.sub_eq_add_neg]
      rw [Int32.add_assoc]
      congr 1
    rw [e2]
    exact gen M (by omega) rfl _ _ _
  intro k
  induction k with
  | zero =>
    intro hk e u2 u3 u4
    have e0 : nTurn a 0 = none := rfl
    rw [e0] at e
    have neg : nI 0 - 1 < 0 := by decide
    refine s108_7 L _ _ _ _ ⟨fun _ => s108_42 L _ _ _ _ ⟨fun q => absurd q (Int32.not_le.mpr neg), fun _ => ai (z ?_)⟩, fun q => absurd neg q⟩
    unfold nxt; rw [← e]
  | succ k ih =>
    intro hk e u2 u3 u4
    have ek : nTurn a (k + 1) = if a (k + 1) < a k then nTurn a k else some k := rfl
    rw [nI_pred]
    refine s108_7 L _ _ _ _ ⟨fun q => absurd q (nI_pos (by omega)), fun _ => ?_⟩
    rw [nI_1]
    refine ⟨fun q => absurd q (nI_ge (b := 6) (by omega) (by decide)), fun _ => ?_⟩
    rw [nI_clamp (by omega), nI_clamp (by omega)]
    refine ⟨ix_nI (by omega) (by decide), ix_nI (by omega) (by decide), fun w => ?_, fun w => ?_⟩
    · have := (up k (k + 1) (by omega) (by omega)).mp w
      rw [ek, if_neg (by omega)] at e
      exact rest k (by omega) e.symm _ _ _
    · have : ¬ a k ≤ a (k + 1) := fun q => w ((up k (k + 1) (by omega) (by omega)).mpr q)
      rw [ek, if_pos (by omega)] at e
      rw [← Int32.sub_eq_add_neg]
      exact ih (by omega) e _ _ _
end ORD
