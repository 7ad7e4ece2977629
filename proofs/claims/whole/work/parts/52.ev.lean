/-! ===== codes and their value, as the reference works them ===== -/
section EVAL
variable {sc : cmS} {d : Nat} {h : cmH} {K : Int32 → cmH → Prop} {lt : Nat → Int32}
def bd (y : Int64) : Int64 := if (if y < (1000000 : Int64) then y else (1000000 : Int64)) < (-1000000 : Int64) then (-1000000 : Int64) else (if y < (1000000 : Int64) then y else (1000000 : Int64))
def bo (op : Nat) (a b : Int32) : Int32 :=
  if op = 38 then (if a = 0 then 0 else if b = 0 then 0 else 1)
  else if op = 42 then (bd (a.toInt64 * b.toInt64)).toInt32
  else if op = 43 then (bd (a.toInt64 + b.toInt64)).toInt32
  else if op = 45 then (bd (a.toInt64 - b.toInt64)).toInt32
  else if op = 47 then (if b = 0 then 0 else (bd (a.toInt64 / b.toInt64)).toInt32)
  else if op = 60 then (if b ≤ a then 0 else 1)
  else if op = 61 then (if a = b then 1 else 0)
  else if op = 62 then (if a ≤ b then 0 else 1)
  else (if ¬ a = 0 then 1 else if b = 0 then 0 else 1)
theorem m_bounded {y : Int64} (k : K (bd y).toInt32 h) : cm_ci sc (d + 1) 182 [.long y] h K := ci_of rfl (s182_0 y (ai k))
theorem i64_0 {b : Int32} (q : ¬ b = 0) : ¬ b.toInt64 = 0 := fun e => q (by
  have := congrArg Int64.toInt e
  rw [Int32.toInt_toInt64] at this
  exact Int32.toInt_inj.mp (by rw [this]; rfl))
theorem m_both {op : Nat} {a b : Int32} (ho : op = 38 ∨ op = 42 ∨ op = 43 ∨ op = 45 ∨ op = 47 ∨ op = 60 ∨ op = 61 ∨ op = 62 ∨ op = 124) (k : K (bo op a b) h) : cm_ci sc (d + 2) 181 [.int (nI op), .int a, .int b] h K := by
  refine ci_of rfl (s181_0 _ _ _ ?_)
  rcases ho with rfl | rfl | rfl | rfl | rfl | rfl | rfl | rfl | rfl
  all_goals refine ⟨?_, ?_, ?_, ?_, ?_, ?_, ?_, ?_, ?_, ?_, ?_, ?_, ?_, ?_, ?_, ?_, ?_, ?_, ?_, ?_, ?_, ?_, ?_, ?_, ?_, ?_⟩
  all_goals intro e
  all_goals first
    | exact absurd e (by decide)
    | skip
  all_goals first
    | (intro _ _ _ _ _ _ _ _ _ _ _ _ _ _ _ _ _ _ _ _ _ _ _ _; first | exact absurd rfl ‹¬ nI 38 = 38› | exact absurd rfl ‹¬ nI 42 = 42› | exact absurd rfl ‹¬ nI 43 = 43› | exact absurd rfl ‹¬ nI 45 = 45› | exact absurd rfl ‹¬ nI 47 = 47› | exact absurd rfl ‹¬ nI 60 = 60› | exact absurd rfl ‹¬ nI 61 = 61› | exact absurd rfl ‹¬ nI 62 = 62› | skip)
    | skip
  · refine ⟨fun z => ai ?_, fun z => ⟨fun z2 => ai ?_, fun z2 => ai ?_⟩⟩
    · have : bo 38 a b = 0 := by show (if a = 0 then (0 : Int32) else _) = 0; rw [if_pos z]
      rw [← this]; exact k
    · have : bo 38 a b = 0 := by show (if a = 0 then (0 : Int32) else if b = 0 then 0 else 1) = 0; rw [if_neg z, if_pos z2]
      rw [← this]; exact k
    · have : bo 38 a b = 1 := by show (if a = 0 then (0 : Int32) else if b = 0 then 0 else 1) = 1; rw [if_neg z, if_neg z2]
      rw [← this]; exact k
  · exact m_bounded (s181_142 _ _ _ _ (ai k))
  · exact m_bounded (s181_124 _ _ _ _ (ai k))
  · exact m_bounded (s181_133 _ _ _ _ (ai k))
  · refine ⟨fun z => ⟨i64_0 z, m_bounded (s181_159 _ _ _ _ (ai ?_))⟩, fun z => s181_159 _ _ _ _ (ai ?_)⟩
    · have : bo 47 a b = (bd (a.toInt64 / b.toInt64)).toInt32 := by show (if b = 0 then (0 : Int32) else _) = _; rw [if_neg z]
      rw [← this]; exact k
    · have : bo 47 a b = 0 := by show (if b = 0 then (0 : Int32) else _) = _; rw [if_pos (Decidable.not_not.mp z)]
      rw [← this]; exact k
  · refine ⟨fun z => ai ?_, fun z => ai ?_⟩
    · have : bo 60 a b = 0 := by show (if b ≤ a then (0 : Int32) else 1) = _; rw [if_pos z]
      rw [← this]; exact k
    · have : bo 60 a b = 1 := by show (if b ≤ a then (0 : Int32) else 1) = _; rw [if_neg z]
      rw [← this]; exact k
  · refine ⟨fun z => ai ?_, fun z => ai ?_⟩
    · have : bo 61 a b = 0 := by show (if a = b then (1 : Int32) else 0) = _; rw [if_neg z]
      rw [← this]; exact k
    · have : bo 61 a b = 1 := by show (if a = b then (1 : Int32) else 0) = _; rw [if_pos (Decidable.not_not.mp z)]
      rw [← this]; exact k
  · refine ⟨fun z => ai ?_, fun z => ai ?_⟩
    · have : bo 62 a b = 0 := by show (if a ≤ b then (0 : Int32) else 1) = _; rw [if_pos z]
      rw [← this]; exact k
    · have : bo 62 a b = 1 := by show (if a ≤ b then (0 : Int32) else 1) = _; rw [if_neg z]
      rw [← this]; exact k
  · refine s181_207 _ _ _ ⟨fun z => s181_215 _ _ _ (ai ?_), fun z => ⟨fun z2 => ai ?_, fun z2 => s181_215 _ _ _ (ai ?_)⟩⟩
    · have : bo 124 a b = 1 := by show (if ¬ a = 0 then (1 : Int32) else if b = 0 then 0 else 1) = _; rw [if_pos z]
      rw [← this]; exact k
    · have : bo 124 a b = 0 := by show (if ¬ a = 0 then (1 : Int32) else if b = 0 then 0 else 1) = _; rw [if_neg z, if_pos z2]
      rw [← this]; exact k
    · have : bo 124 a b = 1 := by show (if ¬ a = 0 then (1 : Int32) else if b = 0 then 0 else 1) = _; rw [if_neg z, if_neg z2]
      rw [← this]; exact k
def P_ev (n x k : Nat) : Prop := (x = 66 ∧ n ≤ k) ∨ (x = 38 ∧ k = 37)
def EV (lt : Nat → Int32) (cs : List Nat) (v : Int32) : Prop := 2 ≤ cs.length ∧ ∀ (sc : cmS) (d : Nat) (h : cmH) (Q : Option Value → cmH → Prop) (R n : Nat) (u : Option Value), LY h → cm_I h 38 37 = nI R → R + cs.length < 5040 → 2 * n + cs.length ≤ 398 → (∀ j x, cs[j]? = some x → cm_I h 63 (R + j) = nI x) → (∀ c, isL c → cm_I h 65 c = lt c) → (∀ h' u', XI h h' (P_ev n) → cm_I h' 66 n = v → cm_I h' 38 37 = nI (R + cs.length) → cm_wp sc (d + 3) 180 2 [some (.ref 38), some (.int (nI (n + 1))), u'] [] h' Q) → cm_wp sc (d + 3) 180 2 [some (.ref 38), some (.int (nI n)), u] [] h Q
theorem EV.num {v : Nat} : EV lt [0, v] (nI v) := by
  refine ⟨Nat.le_refl 2, fun sc d h Q R n u L e hR hn hc hl k => ?_⟩
  simp only [List.length_cons, List.length_nil] at hR hn k
  have c0 : cm_I h 63 R = 0 := hc 0 0 rfl
  have c1 : cm_I h 63 (R + 1) = nI v := hc 1 v rfl
  refine s180_2 L _ _ ?_
  rw [e, nI_clamp (by omega), c0, nI_1]
  refine ⟨ix_nI (by omega) (by decide), fun z => absurd z (by decide), fun _ => ⟨fun z => absurd z (by decide), fun _ => ⟨fun _ => s180_57 L.s _ _ ⟨fun z => absurd rfl z, fun _ => ?_⟩, fun z => absurd rfl z⟩⟩⟩
  rw [sI_s, nI_clamp (by omega), sI_o (Or.inl (by decide)), c1]
  refine ⟨ix_nI (by omega) (by decide), s180_92 L.s _ _ _ _ ⟨ix_nI (n := 200) (by omega) (by decide), s180_171 _ _ ?_⟩⟩
  rw [nI_clamp (by omega), nI_1, sI_s, nI_1]
  refine k _ _ (((XI.refl.set (Or.inr ⟨rfl, rfl⟩)).set (Or.inl ⟨rfl, Nat.le_refl n⟩)).set (Or.inr ⟨rfl, rfl⟩)) ?_ ?_
  · rw [sI_o (Or.inl (by decide)), sI_s]
  · rw [sI_s]
theorem EV.letter {c : Nat} (q : isL c) : EV lt [1, c] (lt c) := by
  refine ⟨Nat.le_refl 2, fun sc d h Q R n u L e hR hn hc hl k => ?_⟩
  simp only [List.length_cons, List.length_nil] at hR hn k
  have c0 : cm_I h 63 R = 1 := hc 0 1 rfl
  have c1 : cm_I h 63 (R + 1) = nI c := hc 1 c rfl
  have hc' : c < 128 := by unfold isL at q; omega
  refine s180_2 L _ _ ?_
  rw [e, nI_clamp (by omega), c0, nI_1]
  refine ⟨ix_nI (by omega) (by decide), fun z => absurd z (by decide), fun _ => ⟨fun z => absurd z (by decide), fun _ => ⟨fun z => absurd z (by decide), fun _ => ⟨fun z => absurd rfl z, fun _ => s180_57 L.s _ _ ⟨fun _ => ?_, fun z => absurd (by decide) z⟩⟩⟩⟩⟩
  rw [sI_s, nI_clamp (by omega), sI_o (Or.inl (by decide)), c1, nI_clamp (by omega), sI_o (Or.inl (by decide)), hl c q]
  refine ⟨ix_nI (by omega) (by decide), ix_nI hc' (by decide), s180_92 L.s _ _ _ _ ⟨ix_nI (n := 200) (by omega) (by decide), s180_171 _ _ ?_⟩⟩
  rw [nI_clamp (by omega), nI_1, sI_s, nI_1]
  refine k _ _ (((XI.refl.set (Or.inr ⟨rfl, rfl⟩)).set (Or.inl ⟨rfl, Nat.le_refl n⟩)).set (Or.inr ⟨rfl, rfl⟩)) ?_ ?_
  · rw [sI_o (Or.inl (by decide)), sI_s]
  · rw [sI_s]
theorem EV.not {cs : List Nat} {v : Int32} (E : EV lt cs v) : EV lt (cs ++ [33]) (if v = 0 then 1 else 0) := by
  refine ⟨by rw [List.length_append]; have := E.1; omega, fun sc d h Q R n u L e hR hn hc hl k => ?_⟩
  rw [List.length_append, List.length_singleton] at hR hn k
  have h2 := E.1
  refine E.2 sc d h Q R n u L e (by omega) (by omega) (fun j x hj => hc j x (by rw [List.getElem?_append_left (by obtain ⟨w, -⟩ := List.getElem?_eq_some_iff.mp hj; exact w)]; exact hj)) hl (fun h1 u1 X hv hr => ?_)
  have cx : cm_I h1 63 (R + cs.length) = nI 33 := by
    rw [X.2 63 _ (by unfold P_ev; omega)]
    exact hc cs.length 33 (by rw [List.getElem?_append_right (Nat.le_refl _), Nat.sub_self]; rfl)
  refine s180_2 (X.ly L) _ _ ?_
  rw [hr, nI_clamp (by omega), cx, nI_1, nI_pred, nI_clamp (by omega), hv]
  refine ⟨ix_nI (by omega) (by decide), fun z => absurd z (by decide), fun _ => ⟨fun z => absurd z (by decide), fun _ => ⟨fun z => absurd z (by decide), fun _ => ⟨fun _ => ⟨fun z => absurd rfl z, fun _ => ⟨ix_nI (by omega) (by decide), fun z => ?_, fun z => ?_⟩⟩, fun z => absurd (by decide) z⟩⟩⟩⟩
  · refine s180_138 (X.ly L).s _ _ _ _ ⟨ix_nI (by omega) (by decide), s180_171 _ _ ?_⟩
    rw [nI_clamp (by omega)]
    refine k _ _ ((X.set (Or.inr ⟨rfl, rfl⟩)).set (Or.inl ⟨rfl, Nat.le_refl n⟩)) ?_ ?_
    · rw [sI_s, if_neg z]
    · rw [sI_o (Or.inl (by decide)), sI_s]; rfl
  · refine s180_138 (X.ly L).s _ _ _ _ ⟨ix_nI (by omega) (by decide), s180_171 _ _ ?_⟩
    rw [nI_clamp (by omega)]
    refine k _ _ ((X.set (Or.inr ⟨rfl, rfl⟩)).set (Or.inl ⟨rfl, Nat.le_refl n⟩)) ?_ ?_
    · rw [sI_s, if_pos (Decidable.not_not.mp z)]
    · rw [sI_o (Or.inl (by decide)), sI_s]; rfl
theorem nI_m1 {n : Nat} : nI (n + 1) + (-1) = nI n := by rw [← Int32.sub_eq_add_neg]; exact nI_pred n
theorem EV.bin {c1 c2 : List Nat} {a b : Int32} {op : Nat} (E1 : EV lt c1 a) (E2 : EV lt c2 b) (ho : op = 38 ∨ op = 42 ∨ op = 43 ∨ op = 45 ∨ op = 47 ∨ op = 60 ∨ op = 61 ∨ op = 62 ∨ op = 124) : EV lt (c1 ++ c2 ++ [op]) (bo op a b) := by
  have g1 := E1.1
  have g2 := E2.1
  have el : (c1 ++ c2 ++ [op]).length = c1.length + c2.length + 1 := by rw [List.length_append, List.length_append, List.length_singleton]
  refine ⟨by omega, fun sc d h Q R n u L e hR hn hc hl k => ?_⟩
  rw [el] at hR hn k
  refine E1.2 sc d h Q R n u L e (by omega) (by omega) (fun j x hj => ?_) hl (fun h1 u1 X hv hr => ?_)
  · have hjl : j < c1.length := (List.getElem?_eq_some_iff.mp hj).1
    exact hc j x (by rw [List.append_assoc, List.getElem?_append_left hjl]; exact hj)
  have o1 : ∀ x k, x ≠ 66 → ¬ (x = 38 ∧ k = 37) → cm_I h1 x k = cm_I h x k := fun x k q q2 => X.2 x k (by unfold P_ev; omega)
  refine E2.2 sc d h1 Q (R + c1.length) (n + 1) u1 (X.ly L) hr (by omega) (by omega) (fun j x hj => ?_) (fun c q => by rw [o1 65 c (by decide) (by omega)]; exact hl c q) (fun h2 u2 X2 hv2 hr2 => ?_)
  · have hjl : j < c2.length := (List.getElem?_eq_some_iff.mp hj).1
    rw [o1 63 _ (by decide) (by omega), Nat.add_assoc]
    exact hc (c1.length + j) x (by rw [List.append_assoc, List.getElem?_append_right (by omega), show c1.length + j - c1.length = j by omega, List.getElem?_append_left hjl]; exact hj)
  have L2 : LY h2 := X2.ly (X.ly L)
  have cx : cm_I h2 63 (R + c1.length + c2.length) = nI op := by
    rw [X2.2 63 _ (by unfold P_ev; omega), o1 63 _ (by decide) (by omega), Nat.add_assoc]
    exact hc (c1.length + c2.length) op (by rw [List.getElem?_append_right (by rw [List.length_append]; omega), List.length_append, Nat.sub_self]; rfl)
  have hv' : cm_I h2 66 n = a := by rw [X2.2 66 n (by unfold P_ev; omega)]; exact hv
  have no : ∀ m, m < 128 → op ≠ m → ¬ nI op = nI m := fun m hm q z => q (nI_inj (by omega) (by omega) z)
  refine s180_2 L2 _ _ ?_
  rw [hr2, nI_clamp (by omega), cx, nI_1, nI_m1, nI_pred, nI_clamp (by omega), nI_clamp (by omega), hv', hv2]
  refine ⟨ix_nI (by omega) (by decide), fun z => absurd z (no 2 (by decide) (by omega)), fun _ => ⟨fun z => absurd z (no 3 (by decide) (by omega)), fun _ => ⟨fun z => absurd z (no 0 (by decide) (by omega)), fun _ => ⟨fun _ => ⟨fun _ => ⟨ix_nI (by omega) (by decide), ix_nI (by omega) (by decide), m_both ho (s180_170 L2.s _ _ _ _ ⟨ix_nI (by omega) (by decide), s180_171 _ _ ?_⟩)⟩, fun z => absurd (no 33 (by decide) (by omega)) z⟩, fun z => absurd (no 1 (by decide) (by omega)) z⟩⟩⟩⟩
  rw [nI_clamp (by omega)]
  refine k _ _ ((X.trans ((X2.mono fun x k q => ?_).set (Or.inr ⟨rfl, rfl⟩))).set (Or.inl ⟨rfl, Nat.le_refl n⟩)) ?_ ?_
  · unfold P_ev at q ⊢; omega
  · rw [sI_s]
  · rw [sI_o (Or.inl (by decide)), sI_s]; rw [show R + (c1.length + c2.length + 1) = R + c1.length + c2.length + 1 by omega]
end EVAL
