/-! ===== where the cells lie that the constructors make: the class 0 .. 37, the reference 38 .. 86, the row of the law 87 ===== -/
def ly_t : List (Nat × Nat) := [(10, 13), (4, 3), (13, 8), (13, 8), (13, 8), (17, 8), (9, 2), (12, 160), (18, 12), (6, 8), (13, 6), (12, 0), (8, 2), (13, 8), (0, 6), (13, 8), (13, 8), (13, 8), (13, 8), (13, 8), (13, 48000), (5, 8), (13, 6), (13, 6), (13, 6), (13, 6), (3, 20), (16, 10), (13, 8), (13, 8), (2, 5), (13, 20), (13, 61), (7, 7), (13, 100), (13, 100), (13, 100), (13, 100), (11, 63), (13, 8), (13, 8), (13, 8), (13, 9), (13, 90), (13, 90), (13, 90), (13, 720), (13, 720), (13, 72), (13, 9), (13, 9), (13, 9), (13, 9), (13, 9), (13, 9), (13, 9), (13, 9), (13, 9), (13, 9), (15, 9), (15, 9), (13, 160), (13, 420), (13, 5040), (13, 12), (13, 128), (13, 200), (13, 8), (13, 48024), (13, 8), (13, 8), (13, 48), (13, 8), (13, 8), (13, 8), (13, 10), (15, 8), (13, 6), (13, 6), (13, 6), (13, 6), (13, 20), (14, 4941), (13, 100), (13, 100), (13, 100), (13, 100), (14, 1)]
def ly_R : List (Nat × Nat × Nat) := [(0, 0, 1), (0, 1, 5), (0, 2, 6), (0, 3, 8), (0, 4, 9), (0, 5, 12), (0, 6, 14), (0, 7, 21), (0, 8, 30), (0, 9, 33), (1, 0, 2), (1, 1, 3), (1, 2, 4), (6, 0, 7), (9, 0, 10), (12, 0, 13), (14, 0, 15), (14, 1, 16), (14, 2, 17), (14, 3, 18), (14, 4, 19), (14, 5, 20), (21, 0, 22), (21, 1, 23), (21, 2, 24), (21, 3, 25), (21, 4, 26), (26, 0, 27), (26, 1, 28), (26, 2, 29), (30, 0, 31), (30, 1, 32), (33, 0, 34), (33, 1, 35), (33, 2, 36), (33, 3, 37), (38, 2, 39), (38, 3, 40), (38, 4, 41), (38, 5, 42), (38, 6, 43), (38, 7, 44), (38, 8, 45), (38, 9, 46), (38, 10, 47), (38, 11, 48), (38, 12, 49), (38, 13, 50), (38, 14, 51), (38, 15, 52), (38, 16, 53), (38, 17, 54), (38, 18, 55), (38, 19, 56), (38, 20, 57), (38, 21, 58), (38, 22, 59), (38, 23, 60), (38, 25, 61), (38, 26, 62), (38, 27, 63), (38, 28, 64), (38, 35, 65), (38, 36, 66), (38, 38, 67), (38, 39, 68), (38, 40, 69), (38, 41, 70), (38, 42, 71), (38, 43, 72), (38, 44, 73), (38, 45, 74), (38, 46, 75), (38, 47, 76), (38, 49, 77), (38, 50, 78), (38, 51, 79), (38, 52, 80), (38, 55, 81), (38, 56, 82), (38, 58, 83), (38, 59, 84), (38, 60, 85), (38, 61, 86)]
def LY (h : cmH) : Prop := 88 ≤ cm_n h ∧ (∀ a k n, ly_t[a]? = some (k, n) → cm_kd h a = k ∧ cm_ln h a = n) ∧ (∀ a f b, (a, f, b) ∈ ly_R → cm_R h a f = some b)
def ly_rf (a f : Nat) : Option Nat := (ly_R.find? fun e => e.1 == a && e.2.1 == f).map fun e => e.2.2
abbrev IX (n : Nat) (i : Int32) : Prop := ¬ i < 0 ∧ i.toNatClampNeg < n
theorem ly_lt {a : Nat} {e : Nat × Nat} (q : ly_t[a]? = some e) : a < 88 := by
  have := (List.getElem?_eq_some_iff.mp q).1
  exact this
theorem ly_k {h : cmH} (L : LY h) (a : Nat) {k n : Nat} (q : ly_t[a]? = some (k, n)) : cm_kd h a = k ∧ a < cm_n h := ⟨(L.2.1 a k n q).1, Nat.lt_of_lt_of_le (ly_lt q) L.1⟩
theorem ly_l {h : cmH} (L : LY h) (a : Nat) {k n : Nat} (q : ly_t[a]? = some (k, n)) : (12 ≤ cm_kd h a ∧ cm_kd h a ≤ 18 ∧ a < cm_n h) ↔ (12 ≤ k ∧ k ≤ 18) := by
  rw [(L.2.1 a k n q).1]
  exact ⟨fun w => ⟨w.1, w.2.1⟩, fun w => ⟨w.1, w.2, (ly_k L a q).2⟩⟩
theorem ly_ln {h : cmH} (L : LY h) (a : Nat) {k n : Nat} (q : ly_t[a]? = some (k, n)) : cm_ln h a = n := (L.2.1 a k n q).2
theorem ly_r {h : cmH} (L : LY h) (a f : Nat) {b : Nat} (q : ly_rf a f = some b) : cm_R h a f = some b := by
  refine L.2.2 a f b ?_
  unfold ly_rf at q
  cases e : ly_R.find? (fun e => e.1 == a && e.2.1 == f) with
  | none => rw [e] at q; cases q
  | some y =>
    rw [e] at q
    have h1 := List.mem_of_find?_eq_some e
    have h2 := List.find?_some e
    simp only [Bool.and_eq_true, beq_iff_eq] at h2
    simp only [Option.map_some, Option.some.injEq] at q
    obtain ⟨y1, y2, y3⟩ := y
    obtain ⟨e1, e2⟩ := h2
    dsimp only at e1 e2 q
    subst e1 e2 q
    exact h1
theorem ly_o {h : cmH} (L : LY h) (a : Nat) {k n : Nat} {i : Int32} (q : ly_t[a]? = some (k, n)) (g : IX n i) : cm_ok h k a i := ⟨(ly_k L a q).1, (ly_k L a q).2, g.1, by rw [ly_ln L a q]; exact g.2⟩
theorem ly_oq {h : cmH} (L : LY h) (a : Nat) {k n : Nat} {i : Int32} (q : ly_t[a]? = some (k, n)) (g : IX n i) (hk : (decide (16 ≤ k) && decide (k ≤ 18)) = true := by decide) : cm_ok h (cm_kd h a) a i ∧ 16 ≤ cm_kd h a ∧ cm_kd h a ≤ 18 := by
  simp only [Bool.and_eq_true, decide_eq_true_eq] at hk
  exact ⟨⟨rfl, (ly_k L a q).2, g.1, by rw [ly_ln L a q]; exact g.2⟩, by rw [(ly_k L a q).1]; exact hk.1, by rw [(ly_k L a q).1]; exact hk.2⟩
/-- a Filter at a: its cells behind it, its cake, its load -/
def FL (h : cmH) (a : Nat) : Prop := cm_kd h a = 3 ∧ a + 3 < cm_n h ∧ cm_R h a 0 = some (a + 1) ∧ cm_R h a 1 = some (a + 2) ∧ cm_R h a 2 = some (a + 3) ∧ (cm_kd h (a + 1) = 16 ∧ cm_ln h (a + 1) = 10) ∧ (cm_kd h (a + 2) = 13 ∧ cm_ln h (a + 2) = 8) ∧ (cm_kd h (a + 3) = 13 ∧ cm_ln h (a + 3) = 8)
/-- a Cell at a -/
def CE (h : cmH) (a : Nat) : Prop := cm_kd h a = 1 ∧ a + 2 < cm_n h ∧ cm_R h a 0 = some (a + 1) ∧ cm_R h a 1 = some (a + 2) ∧ (cm_kd h (a + 1) = 13 ∧ cm_ln h (a + 1) = 8) ∧ (cm_kd h (a + 2) = 13 ∧ cm_ln h (a + 2) = 8)
/-- a Text at a -/
def TX (h : cmH) (a : Nat) : Prop := cm_kd h a = 9 ∧ a + 1 < cm_n h ∧ cm_R h a 0 = some (a + 1) ∧ cm_kd h (a + 1) = 12
section DYN
variable {h : cmH} {a : Nat} {i : Int32}
theorem FL.k (F : FL h a) : cm_kd h a = 3 ∧ a < cm_n h := ⟨F.1, by have := F.2.1; omega⟩
theorem FL.r0 (F : FL h a) : cm_R h a 0 = some (a + 1) := F.2.2.1
theorem FL.r1 (F : FL h a) : cm_R h a 1 = some (a + 2) := F.2.2.2.1
theorem FL.r2 (F : FL h a) : cm_R h a 2 = some (a + 3) := F.2.2.2.2.1
theorem FL.o0q (F : FL h a) (g : IX 10 i) : cm_ok h (cm_kd h (a + 1)) (a + 1) i ∧ 16 ≤ cm_kd h (a + 1) ∧ cm_kd h (a + 1) ≤ 18 := by
  have h1 := F.2.1; have h2 := F.2.2.2.2.2.1
  exact ⟨⟨rfl, by omega, g.1, by rw [h2.2]; exact g.2⟩, by rw [h2.1]; decide, by rw [h2.1]; decide⟩
theorem FL.o1 (F : FL h a) (g : IX 8 i) : cm_ok h 13 (a + 2) i := by
  have h1 := F.2.1; have h2 := F.2.2.2.2.2.2.1
  exact ⟨h2.1, by omega, g.1, by rw [h2.2]; exact g.2⟩
theorem FL.o2 (F : FL h a) (g : IX 8 i) : cm_ok h 13 (a + 3) i := by
  have h1 := F.2.1; have h2 := F.2.2.2.2.2.2.2
  exact ⟨h2.1, by omega, g.1, by rw [h2.2]; exact g.2⟩
theorem CE.k (F : CE h a) : cm_kd h a = 1 ∧ a < cm_n h := ⟨F.1, by have := F.2.1; omega⟩
theorem CE.r0 (F : CE h a) : cm_R h a 0 = some (a + 1) := F.2.2.1
theorem CE.r1 (F : CE h a) : cm_R h a 1 = some (a + 2) := F.2.2.2.1
theorem CE.o0 (F : CE h a) (g : IX 8 i) : cm_ok h 13 (a + 1) i := by
  have h1 := F.2.1; have h2 := F.2.2.2.2.1
  exact ⟨h2.1, by omega, g.1, by rw [h2.2]; exact g.2⟩
theorem CE.o1 (F : CE h a) (g : IX 8 i) : cm_ok h 13 (a + 2) i := by
  have h1 := F.2.1; have h2 := F.2.2.2.2.2
  exact ⟨h2.1, by omega, g.1, by rw [h2.2]; exact g.2⟩
theorem TX.k (F : TX h a) : cm_kd h a = 9 ∧ a < cm_n h := ⟨F.1, by have := F.2.1; omega⟩
theorem TX.r0 (F : TX h a) : cm_R h a 0 = some (a + 1) := F.2.2.1
theorem FL.l0 (F : FL h a) : cm_ln h (a + 1) = 10 ∧ 12 ≤ cm_kd h (a + 1) ∧ cm_kd h (a + 1) ≤ 18 ∧ a + 1 < cm_n h := by
  have h1 := F.2.1; have h2 := F.2.2.2.2.2.1
  exact ⟨h2.2, by rw [h2.1]; decide, by rw [h2.1]; decide, by omega⟩
theorem FL.l1 (F : FL h a) : cm_ln h (a + 2) = 8 ∧ 12 ≤ cm_kd h (a + 2) ∧ cm_kd h (a + 2) ≤ 18 ∧ a + 2 < cm_n h := by
  have h1 := F.2.1; have h2 := F.2.2.2.2.2.2.1
  exact ⟨h2.2, by rw [h2.1]; decide, by rw [h2.1]; decide, by omega⟩
theorem FL.l2 (F : FL h a) : cm_ln h (a + 3) = 8 ∧ 12 ≤ cm_kd h (a + 3) ∧ cm_kd h (a + 3) ≤ 18 ∧ a + 3 < cm_n h := by
  have h1 := F.2.1; have h2 := F.2.2.2.2.2.2.2
  exact ⟨h2.2, by rw [h2.1]; decide, by rw [h2.1]; decide, by omega⟩
theorem CE.l0 (F : CE h a) : cm_ln h (a + 1) = 8 ∧ 12 ≤ cm_kd h (a + 1) ∧ cm_kd h (a + 1) ≤ 18 ∧ a + 1 < cm_n h := by
  have h1 := F.2.1; have h2 := F.2.2.2.2.1
  exact ⟨h2.2, by rw [h2.1]; decide, by rw [h2.1]; decide, by omega⟩
theorem CE.l1 (F : CE h a) : cm_ln h (a + 2) = 8 ∧ 12 ≤ cm_kd h (a + 2) ∧ cm_kd h (a + 2) ≤ 18 ∧ a + 2 < cm_n h := by
  have h1 := F.2.1; have h2 := F.2.2.2.2.2
  exact ⟨h2.2, by rw [h2.1]; decide, by rw [h2.1]; decide, by omega⟩
end DYN
theorem ly_la {h : cmH} (L : LY h) (a : Nat) {k n : Nat} (q : ly_t[a]? = some (k, n)) (hk : (decide (12 ≤ k) && decide (k ≤ 18)) = true := by decide) : cm_ln h a = n ∧ 12 ≤ cm_kd h a ∧ cm_kd h a ≤ 18 ∧ a < cm_n h := by
  simp only [Bool.and_eq_true, decide_eq_true_eq] at hk
  exact ⟨ly_ln L a q, by rw [(ly_k L a q).1]; exact hk.1, by rw [(ly_k L a q).1]; exact hk.2, (ly_k L a q).2⟩
theorem wl_aln {sc : cmS} {d M pc a n : Nat} {ls : cmL} {st : List Value} {h : cmH} {Q : Option Value → cmH → Prop} {v : Int32} (hd : decode (cm_M M).2.2.1 pc = .ok (.arraylength, 1)) (g : cm_ln h a = n ∧ 12 ≤ cm_kd h a ∧ cm_kd h a ≤ 18 ∧ a < cm_n h) (hv : Int32.ofNat n = v) (k : cm_wp sc d M (pc + 1) ls (.int v :: st) h Q) : cm_wp sc d M pc ls (.ref a :: st) h Q := by
  refine wl_st (pc' := pc + 1) (ls' := ls) (st' := .int v :: st) (h' := h) hd rfl rfl rfl ?_ k
  show (if 12 ≤ cm_kd h a ∧ cm_kd h a ≤ 18 ∧ a < cm_n h then some (pc + 1, ls, .int (Int32.ofNat (cm_ln h a)) :: st, h) else none) = _
  rw [if_pos g.2, g.1, hv]
