/-! ===== the constructors run, from the empty memory (written by wip/whole/gen99.py) ===== -/
def hh0 : cmH := ((0, 0), fun _ => 0, fun _ => 0, fun _ _ => 0, fun _ _ => 0, fun _ _ => none)
def q_fill (a : Nat) (v : Int32) : Nat → cmH → cmH
  | 0, h => h
  | i + 1, h => cm_setI (q_fill a v i h) a i v
def q_mf : Nat → cmH → cmH
  | 0, h => h
  | i + 1, h => cm_setI (cm_setI (cm_setI (q_mf i h) 39 i 200) 40 i 600) 41 i 50
/-- the places that the constructors tell -/
def ZE (a k : Nat) : Prop := ((2 ≤ a ∧ a ≤ 4) ∧ k < 8) ∨ a = 26 ∨ (a = 21 ∧ k = 7) ∨ ((39 ≤ a ∧ a ≤ 41) ∧ k < 8) ∨ (a = 49 ∧ k = 8)
def ZH (h : cmH) : Prop := ∀ a k, ¬ ZE a k → cm_I h a k = 0
theorem ZH.mk {h : cmH} {x l : Nat} (z : ZH h) : ZH (cm_mk h x l) := fun a k q => by
  rw [mk_I]; split
  · rfl
  · exact z a k q
theorem ZH.sR {h : cmH} {a k : Nat} {o : Option Nat} (z : ZH h) : ZH (cm_setR h a k o) := z
theorem ZH.sI {h : cmH} {a k : Nat} {v : Int32} (z : ZH h) (p : ZE a k) : ZH (cm_setI h a k v) := fun b j q => by
  rw [sI_I, if_neg (fun w => q (by rw [w.1, w.2]; exact p))]; exact z b j q
theorem ZH.fill {h : cmH} {a : Nat} {v : Int32} (p : 2 ≤ a ∧ a ≤ 4) (z : ZH h) : ZH (q_fill a v 8 h) := by
  have g : ∀ i, i ≤ 8 → ZH (q_fill a v i h) := by
    intro i
    induction i with
    | zero => intro _; exact z
    | succ i ih => intro hi; exact (ih (by omega)).sI (Or.inl ⟨p, by omega⟩)
  exact g 8 (Nat.le_refl _)
theorem ZH.mf {h : cmH} (z : ZH h) : ZH (q_mf 8 h) := by
  have g : ∀ i, i ≤ 8 → ZH (q_mf i h) := by
    intro i
    induction i with
    | zero => intro _; exact z
    | succ i ih => intro hi; exact (((ih (by omega)).sI (by unfold ZE; omega)).sI (by unfold ZE; omega)).sI (by unfold ZE; omega)
  exact g 8 (Nat.le_refl _)
theorem z_hh0 : ZH hh0 := fun _ _ _ => rfl
section INIT0
variable {sc : cmS} {d M pc : Nat} {ls : cmL} {r : List Value} {h : cmH} {Q : Option Value → cmH → Prop}
theorem wp_c {a : Nat} (h' : cmH) (b : Nat) (e : a = b) (g : h = h') (H : cm_wp sc d M pc ls (.ref b :: r) h' Q) : cm_wp sc d M pc ls (.ref a :: r) h Q := by subst e g; exact H
theorem q_fill_kd {a : Nat} {v : Int32} : ∀ i, cm_kd (q_fill a v i h) = cm_kd h ∧ cm_ln (q_fill a v i h) = cm_ln h ∧ cm_n (q_fill a v i h) = cm_n h
  | 0 => ⟨rfl, rfl, rfl⟩
  | i + 1 => q_fill_kd i
theorem q_mf_kd : ∀ i, cm_kd (q_mf i h) = cm_kd h ∧ cm_ln (q_mf i h) = cm_ln h ∧ cm_n (q_mf i h) = cm_n h ∧ cm_R (q_mf i h) = cm_R h
  | 0 => ⟨rfl, rfl, rfl, rfl⟩
  | i + 1 => q_mf_kd i
theorem c_fill8 {a : Nat} {v : Int32} {KV : cmH → Prop} (g : cm_kd h a = 13 ∧ a < cm_n h ∧ cm_ln h a = 8) (k : KV (q_fill a v 8 h)) : cm_cv sc d 2 [.ref a, .int v] h KV := by
  have gen : ∀ (m i : Nat), i + m = 8 → cm_wp sc d 2 5 [some (.ref a), some (.int v), some (.int (nI i)), some (.int (nI 8))] [] (q_fill a v i h) (fun v h' => v = none ∧ KV h') := by
    intro m
    induction m with
    | zero =>
      intro i hi
      obtain rfl : i = 8 := by omega
      exact s2_5 _ _ _ _ ⟨fun _ => ⟨rfl, k⟩, fun w => absurd (Int32.le_refl _) w⟩
    | succ m ih =>
      intro i hi
      obtain ⟨e1, e2, e3⟩ := q_fill_kd (a := a) (v := v) (h := h) i
      refine s2_5 _ _ _ _ ⟨fun w => absurd w (nI_ge (by omega) (by decide)), fun _ => ⟨⟨by rw [e1]; exact g.1, by rw [e3]; exact g.2.1, nI_pos (by omega), by rw [e2, g.2.2, nI_clamp (by omega)]; omega⟩, ?_⟩⟩
      rw [nI_1, nI_clamp (by omega)]
      exact ih (i + 1) (by omega)
  refine cv_of rfl (s2_0 _ _ _ _ ⟨⟨by rw [g.1]; decide, by rw [g.1]; decide, g.2.1⟩, ?_⟩)
  rw [g.2.2]
  exact gen 8 0 (by omega)
theorem m_fill (g : (cm_kd h 38 = 11 ∧ 38 < cm_n h) ∧ (cm_R h 38 2 = some 39 ∧ cm_R h 38 3 = some 40 ∧ cm_R h 38 4 = some 41 ∧ cm_R h 38 12 = some 49) ∧ (cm_kd h 39 = 13 ∧ cm_kd h 40 = 13 ∧ cm_kd h 41 = 13 ∧ cm_kd h 49 = 13) ∧ (cm_ln h 39 = 8 ∧ cm_ln h 40 = 8 ∧ cm_ln h 41 = 8 ∧ cm_ln h 49 = 9) ∧ 49 < cm_n h) (k : Q none (cm_setI (q_mf 8 h) 49 8 100)) : cm_wp sc d 134 398 [some (.ref 38), some (.int (0 : Int32))] [] h Q := by
  obtain ⟨⟨g1, g2⟩, ⟨r1, r2, r3, r4⟩, ⟨k1, k2, k3, k4⟩, ⟨l1, l2, l3, l4⟩, g3⟩ := g
  have gen : ∀ (m i : Nat), i + m = 8 → cm_wp sc d 134 398 [some (.ref 38), some (.int (nI i))] [] (q_mf i h) Q := by
    intro m
    induction m with
    | zero =>
      intro i hi
      obtain rfl : i = 8 := by omega
      obtain ⟨e1, e2, e3, e4⟩ := q_mf_kd (h := h) 8
      refine t134_398 38 _ ⟨fun _ => ⟨⟨by rw [e1]; exact g1, by rw [e3]; exact g2⟩, 49, by rw [e4]; exact r4, ⟨by rw [e1]; exact k4, by rw [e3]; exact g3, by decide, by rw [e2, l4]; decide⟩, k⟩, fun w => absurd (Int32.le_refl _) w⟩
    | succ m ih =>
      intro i hi
      obtain ⟨e1, e2, e3, e4⟩ := q_mf_kd (h := h) i
      have ok : ∀ a, cm_kd h a = 13 → cm_ln h a = 8 → a < cm_n h → cm_ok (q_mf i h) 13 a (nI i) := fun a p q w => ⟨by rw [e1]; exact p, by rw [e3]; exact w, nI_pos (by omega), by rw [e2, q, nI_clamp (by omega)]; omega⟩
      refine t134_398 38 _ ⟨fun w => absurd w (nI_ge (b := 8) (by omega) (by decide)), fun _ => ⟨⟨by rw [e1]; exact g1, by rw [e3]; exact g2⟩, 39, by rw [e4]; exact r1, ok 39 k1 l1 (by omega), 40, ?_, ok 40 k2 l2 (by omega), 41, ?_, ok 41 k3 l3 (by omega), ?_⟩⟩
      · show cm_R (q_mf i h) 38 3 = some 40
        rw [e4]; exact r2
      · show cm_R (q_mf i h) 38 4 = some 41
        rw [e4]; exact r3
      · rw [nI_1, nI_clamp (by omega)]
        exact ih (i + 1) (by omega)
  exact gen 8 0 (by omega)
end INIT0
def hh1 : cmH := cm_mk hh0 10 13
def hh2 : cmH := cm_mk hh1 4 3
def hh3 : cmH := cm_mk hh2 13 8
def hh4 : cmH := cm_mk (cm_setR hh3 1 0 (some 2)) 13 8
def hh5 : cmH := cm_mk (cm_setR hh4 1 1 (some 3)) 13 8
def hh6 : cmH := cm_setR hh5 1 2 (some 4)
def hh7 : cmH := q_fill 2 (200 : Int32) 8 hh6
def hh8 : cmH := q_fill 3 (600 : Int32) 8 hh7
def hh9 : cmH := q_fill 4 (50 : Int32) 8 hh8
def hh10 : cmH := cm_mk (cm_setR hh9 0 0 (some 1)) 17 8
def hh11 : cmH := cm_mk (cm_setR hh10 0 1 (some 5)) 9 2
def hh12 : cmH := cm_setR (cm_mk hh11 12 (if (0 : Int32) < (160 : Int32) then (160 : Int32) else (0 : Int32)).toNatClampNeg) 6 0 (some (cm_n hh11))
def hh13 : cmH := cm_mk (cm_setR hh12 0 2 (some 6)) 18 12
def hh14 : cmH := cm_mk (cm_setR hh13 0 3 (some 8)) 6 8
def hh15 : cmH := cm_setR (cm_mk (cm_setR (cm_mk hh14 13 6) 9 0 (some (cm_n hh14))) 12 0) 9 1 (some (cm_n (cm_setR (cm_mk hh14 13 6) 9 0 (some (cm_n hh14)))))
def hh16 : cmH := cm_mk (cm_setR hh15 0 4 (some 9)) 8 2
def hh17 : cmH := cm_setR (cm_mk hh16 13 8) 12 0 (some (cm_n hh16))
def hh18 : cmH := cm_mk (cm_setR hh17 0 5 (some 12)) 0 6
def hh19 : cmH := cm_mk hh18 13 8
def hh20 : cmH := cm_mk (cm_setR hh19 14 0 (some 15)) 13 8
def hh21 : cmH := cm_mk (cm_setR hh20 14 1 (some 16)) 13 8
def hh22 : cmH := cm_mk (cm_setR hh21 14 2 (some 17)) 13 8
def hh23 : cmH := cm_mk (cm_setR hh22 14 3 (some 18)) 13 8
def hh24 : cmH := cm_mk (cm_setR hh23 14 4 (some 19)) 13 48000
def hh25 : cmH := cm_setR hh24 14 5 (some 20)
def hh26 : cmH := cm_mk (cm_setR hh25 0 6 (some 14)) 5 8
def hh27 : cmH := cm_mk hh26 13 6
def hh28 : cmH := cm_mk (cm_setR hh27 21 0 (some 22)) 13 6
def hh29 : cmH := cm_mk (cm_setR hh28 21 1 (some 23)) 13 6
def hh30 : cmH := cm_mk (cm_setR hh29 21 2 (some 24)) 13 6
def hh31 : cmH := cm_mk (cm_setR hh30 21 3 (some 25)) 3 20
def hh32 : cmH := cm_mk hh31 16 10
def hh33 : cmH := cm_mk (cm_setR hh32 26 0 (some 27)) 13 8
def hh34 : cmH := cm_mk (cm_setR hh33 26 1 (some 28)) 13 8
def hh35 : cmH := cm_setI (cm_setI (cm_setI (cm_setI (cm_setI (cm_setI (cm_setR hh34 26 2 (some 29)) 26 4 (100 : Int32)) 26 5 (500 : Int32)) 26 6 (50 : Int32)) 26 7 (-1 : Int32)) 26 8 (0 : Int32)) 26 14 (-1 : Int32)
def hh36 : cmH := cm_setI (cm_setR hh35 21 4 (some 26)) 21 7 (-1 : Int32)
def hh37 : cmH := cm_mk (cm_setR hh36 0 7 (some 21)) 2 5
def hh38 : cmH := cm_setR (cm_mk (cm_setR (cm_mk hh37 13 20) 30 0 (some (cm_n hh37))) 13 61) 30 1 (some (cm_n (cm_setR (cm_mk hh37 13 20) 30 0 (some (cm_n hh37)))))
def hh39 : cmH := cm_mk (cm_setR hh38 0 8 (some 30)) 7 7
def hh40 : cmH := cm_mk hh39 13 100
def hh41 : cmH := cm_mk (cm_setR hh40 33 0 (some 34)) 13 100
def hh42 : cmH := cm_mk (cm_setR hh41 33 1 (some 35)) 13 100
def hh43 : cmH := cm_mk (cm_setR hh42 33 2 (some 36)) 13 100
def hh44 : cmH := cm_setR hh43 33 3 (some 37)
def hh45 : cmH := cm_setR hh44 0 9 (some 33)
def hh46 : cmH := cm_mk hh45 11 63
def hh47 : cmH := cm_mk hh46 13 8
def hh48 : cmH := cm_mk (cm_setR hh47 38 2 (some 39)) 13 8
def hh49 : cmH := cm_mk (cm_setR hh48 38 3 (some 40)) 13 8
def hh50 : cmH := cm_mk (cm_setR hh49 38 4 (some 41)) 13 9
def hh51 : cmH := cm_mk (cm_setR hh50 38 5 (some 42)) 13 90
def hh52 : cmH := cm_mk (cm_setR hh51 38 6 (some 43)) 13 90
def hh53 : cmH := cm_mk (cm_setR hh52 38 7 (some 44)) 13 90
def hh54 : cmH := cm_mk (cm_setR hh53 38 8 (some 45)) 13 720
def hh55 : cmH := cm_mk (cm_setR hh54 38 9 (some 46)) 13 720
def hh56 : cmH := cm_mk (cm_setR hh55 38 10 (some 47)) 13 72
def hh57 : cmH := cm_mk (cm_setR hh56 38 11 (some 48)) 13 9
def hh58 : cmH := cm_mk (cm_setR hh57 38 12 (some 49)) 13 9
def hh59 : cmH := cm_mk (cm_setR hh58 38 13 (some 50)) 13 9
def hh60 : cmH := cm_mk (cm_setR hh59 38 14 (some 51)) 13 9
def hh61 : cmH := cm_mk (cm_setR hh60 38 15 (some 52)) 13 9
def hh62 : cmH := cm_mk (cm_setR hh61 38 16 (some 53)) 13 9
def hh63 : cmH := cm_mk (cm_setR hh62 38 17 (some 54)) 13 9
def hh64 : cmH := cm_mk (cm_setR hh63 38 18 (some 55)) 13 9
def hh65 : cmH := cm_mk (cm_setR hh64 38 19 (some 56)) 13 9
def hh66 : cmH := cm_mk (cm_setR hh65 38 20 (some 57)) 13 9
def hh67 : cmH := cm_mk (cm_setR hh66 38 21 (some 58)) 15 9
def hh68 : cmH := cm_mk (cm_setR hh67 38 22 (some 59)) 15 9
def hh69 : cmH := cm_mk (cm_setR hh68 38 23 (some 60)) 13 160
def hh70 : cmH := cm_mk (cm_setR hh69 38 25 (some 61)) 13 420
def hh71 : cmH := cm_mk (cm_setR hh70 38 26 (some 62)) 13 5040
def hh72 : cmH := cm_mk (cm_setR hh71 38 27 (some 63)) 13 12
def hh73 : cmH := cm_mk (cm_setR hh72 38 28 (some 64)) 13 128
def hh74 : cmH := cm_mk (cm_setR hh73 38 35 (some 65)) 13 200
def hh75 : cmH := cm_mk (cm_setR hh74 38 36 (some 66)) 13 8
def hh76 : cmH := cm_mk (cm_setR hh75 38 38 (some 67)) 13 48024
def hh77 : cmH := cm_mk (cm_setR hh76 38 39 (some 68)) 13 8
def hh78 : cmH := cm_mk (cm_setR hh77 38 40 (some 69)) 13 8
def hh79 : cmH := cm_mk (cm_setR hh78 38 41 (some 70)) 13 48
def hh80 : cmH := cm_mk (cm_setR hh79 38 42 (some 71)) 13 8
def hh81 : cmH := cm_mk (cm_setR hh80 38 43 (some 72)) 13 8
def hh82 : cmH := cm_mk (cm_setR hh81 38 44 (some 73)) 13 8
def hh83 : cmH := cm_mk (cm_setR hh82 38 45 (some 74)) 13 10
def hh84 : cmH := cm_mk (cm_setR hh83 38 46 (some 75)) 15 8
def hh85 : cmH := cm_mk (cm_setR hh84 38 47 (some 76)) 13 6
def hh86 : cmH := cm_mk (cm_setR hh85 38 49 (some 77)) 13 6
def hh87 : cmH := cm_mk (cm_setR hh86 38 50 (some 78)) 13 6
def hh88 : cmH := cm_mk (cm_setR hh87 38 51 (some 79)) 13 6
def hh89 : cmH := cm_mk (cm_setR hh88 38 52 (some 80)) 13 20
def hh90 : cmH := cm_mk (cm_setR hh89 38 55 (some 81)) 14 4941
def hh91 : cmH := cm_mk (cm_setR hh90 38 56 (some 82)) 13 100
def hh92 : cmH := cm_mk (cm_setR hh91 38 58 (some 83)) 13 100
def hh93 : cmH := cm_mk (cm_setR hh92 38 59 (some 84)) 13 100
def hh94 : cmH := cm_mk (cm_setR hh93 38 60 (some 85)) 13 100
def hh95 : cmH := cm_setR hh94 38 61 (some 86)
def hh96 : cmH := cm_setI (q_mf 8 hh95) 49 8 100
def hh97 : cmH := cm_mk hh96 14 1
theorem z_hh1 : ZH hh1 := (ZH.mk (z_hh0))
theorem z_hh2 : ZH hh2 := (ZH.mk (z_hh1))
theorem z_hh3 : ZH hh3 := (ZH.mk (z_hh2))
theorem z_hh4 : ZH hh4 := (ZH.mk ((ZH.sR (z_hh3))))
theorem z_hh5 : ZH hh5 := (ZH.mk ((ZH.sR (z_hh4))))
theorem z_hh6 : ZH hh6 := (ZH.sR (z_hh5))
theorem z_hh7 : ZH hh7 := (ZH.fill (by decide) z_hh6)
theorem z_hh8 : ZH hh8 := (ZH.fill (by decide) z_hh7)
theorem z_hh9 : ZH hh9 := (ZH.fill (by decide) z_hh8)
theorem z_hh10 : ZH hh10 := (ZH.mk ((ZH.sR (z_hh9))))
theorem z_hh11 : ZH hh11 := (ZH.mk ((ZH.sR (z_hh10))))
theorem z_hh12 : ZH hh12 := (ZH.sR ((ZH.mk (z_hh11))))
theorem z_hh13 : ZH hh13 := (ZH.mk ((ZH.sR (z_hh12))))
theorem z_hh14 : ZH hh14 := (ZH.mk ((ZH.sR (z_hh13))))
theorem z_hh15 : ZH hh15 := (ZH.sR ((ZH.mk ((ZH.sR ((ZH.mk (z_hh14))))))))
theorem z_hh16 : ZH hh16 := (ZH.mk ((ZH.sR (z_hh15))))
theorem z_hh17 : ZH hh17 := (ZH.sR ((ZH.mk (z_hh16))))
theorem z_hh18 : ZH hh18 := (ZH.mk ((ZH.sR (z_hh17))))
theorem z_hh19 : ZH hh19 := (ZH.mk (z_hh18))
theorem z_hh20 : ZH hh20 := (ZH.mk ((ZH.sR (z_hh19))))
theorem z_hh21 : ZH hh21 := (ZH.mk ((ZH.sR (z_hh20))))
theorem z_hh22 : ZH hh22 := (ZH.mk ((ZH.sR (z_hh21))))
theorem z_hh23 : ZH hh23 := (ZH.mk ((ZH.sR (z_hh22))))
theorem z_hh24 : ZH hh24 := (ZH.mk ((ZH.sR (z_hh23))))
theorem z_hh25 : ZH hh25 := (ZH.sR (z_hh24))
theorem z_hh26 : ZH hh26 := (ZH.mk ((ZH.sR (z_hh25))))
theorem z_hh27 : ZH hh27 := (ZH.mk (z_hh26))
theorem z_hh28 : ZH hh28 := (ZH.mk ((ZH.sR (z_hh27))))
theorem z_hh29 : ZH hh29 := (ZH.mk ((ZH.sR (z_hh28))))
theorem z_hh30 : ZH hh30 := (ZH.mk ((ZH.sR (z_hh29))))
theorem z_hh31 : ZH hh31 := (ZH.mk ((ZH.sR (z_hh30))))
theorem z_hh32 : ZH hh32 := (ZH.mk (z_hh31))
theorem z_hh33 : ZH hh33 := (ZH.mk ((ZH.sR (z_hh32))))
theorem z_hh34 : ZH hh34 := (ZH.mk ((ZH.sR (z_hh33))))
theorem z_hh35 : ZH hh35 := (ZH.sI ((ZH.sI ((ZH.sI ((ZH.sI ((ZH.sI ((ZH.sI ((ZH.sR (z_hh34))) (by unfold ZE; omega))) (by unfold ZE; omega))) (by unfold ZE; omega))) (by unfold ZE; omega))) (by unfold ZE; omega))) (by unfold ZE; omega))
theorem z_hh36 : ZH hh36 := (ZH.sI ((ZH.sR (z_hh35))) (by unfold ZE; omega))
theorem z_hh37 : ZH hh37 := (ZH.mk ((ZH.sR (z_hh36))))
theorem z_hh38 : ZH hh38 := (ZH.sR ((ZH.mk ((ZH.sR ((ZH.mk (z_hh37))))))))
theorem z_hh39 : ZH hh39 := (ZH.mk ((ZH.sR (z_hh38))))
theorem z_hh40 : ZH hh40 := (ZH.mk (z_hh39))
theorem z_hh41 : ZH hh41 := (ZH.mk ((ZH.sR (z_hh40))))
theorem z_hh42 : ZH hh42 := (ZH.mk ((ZH.sR (z_hh41))))
theorem z_hh43 : ZH hh43 := (ZH.mk ((ZH.sR (z_hh42))))
theorem z_hh44 : ZH hh44 := (ZH.sR (z_hh43))
theorem z_hh45 : ZH hh45 := (ZH.sR (z_hh44))
theorem z_hh46 : ZH hh46 := (ZH.mk (z_hh45))
theorem z_hh47 : ZH hh47 := (ZH.mk (z_hh46))
theorem z_hh48 : ZH hh48 := (ZH.mk ((ZH.sR (z_hh47))))
theorem z_hh49 : ZH hh49 := (ZH.mk ((ZH.sR (z_hh48))))
theorem z_hh50 : ZH hh50 := (ZH.mk ((ZH.sR (z_hh49))))
theorem z_hh51 : ZH hh51 := (ZH.mk ((ZH.sR (z_hh50))))
theorem z_hh52 : ZH hh52 := (ZH.mk ((ZH.sR (z_hh51))))
theorem z_hh53 : ZH hh53 := (ZH.mk ((ZH.sR (z_hh52))))
theorem z_hh54 : ZH hh54 := (ZH.mk ((ZH.sR (z_hh53))))
theorem z_hh55 : ZH hh55 := (ZH.mk ((ZH.sR (z_hh54))))
theorem z_hh56 : ZH hh56 := (ZH.mk ((ZH.sR (z_hh55))))
theorem z_hh57 : ZH hh57 := (ZH.mk ((ZH.sR (z_hh56))))
theorem z_hh58 : ZH hh58 := (ZH.mk ((ZH.sR (z_hh57))))
theorem z_hh59 : ZH hh59 := (ZH.mk ((ZH.sR (z_hh58))))
theorem z_hh60 : ZH hh60 := (ZH.mk ((ZH.sR (z_hh59))))
theorem z_hh61 : ZH hh61 := (ZH.mk ((ZH.sR (z_hh60))))
theorem z_hh62 : ZH hh62 := (ZH.mk ((ZH.sR (z_hh61))))
theorem z_hh63 : ZH hh63 := (ZH.mk ((ZH.sR (z_hh62))))
theorem z_hh64 : ZH hh64 := (ZH.mk ((ZH.sR (z_hh63))))
theorem z_hh65 : ZH hh65 := (ZH.mk ((ZH.sR (z_hh64))))
theorem z_hh66 : ZH hh66 := (ZH.mk ((ZH.sR (z_hh65))))
theorem z_hh67 : ZH hh67 := (ZH.mk ((ZH.sR (z_hh66))))
theorem z_hh68 : ZH hh68 := (ZH.mk ((ZH.sR (z_hh67))))
theorem z_hh69 : ZH hh69 := (ZH.mk ((ZH.sR (z_hh68))))
theorem z_hh70 : ZH hh70 := (ZH.mk ((ZH.sR (z_hh69))))
theorem z_hh71 : ZH hh71 := (ZH.mk ((ZH.sR (z_hh70))))
theorem z_hh72 : ZH hh72 := (ZH.mk ((ZH.sR (z_hh71))))
theorem z_hh73 : ZH hh73 := (ZH.mk ((ZH.sR (z_hh72))))
theorem z_hh74 : ZH hh74 := (ZH.mk ((ZH.sR (z_hh73))))
theorem z_hh75 : ZH hh75 := (ZH.mk ((ZH.sR (z_hh74))))
theorem z_hh76 : ZH hh76 := (ZH.mk ((ZH.sR (z_hh75))))
theorem z_hh77 : ZH hh77 := (ZH.mk ((ZH.sR (z_hh76))))
theorem z_hh78 : ZH hh78 := (ZH.mk ((ZH.sR (z_hh77))))
theorem z_hh79 : ZH hh79 := (ZH.mk ((ZH.sR (z_hh78))))
theorem z_hh80 : ZH hh80 := (ZH.mk ((ZH.sR (z_hh79))))
theorem z_hh81 : ZH hh81 := (ZH.mk ((ZH.sR (z_hh80))))
theorem z_hh82 : ZH hh82 := (ZH.mk ((ZH.sR (z_hh81))))
theorem z_hh83 : ZH hh83 := (ZH.mk ((ZH.sR (z_hh82))))
theorem z_hh84 : ZH hh84 := (ZH.mk ((ZH.sR (z_hh83))))
theorem z_hh85 : ZH hh85 := (ZH.mk ((ZH.sR (z_hh84))))
theorem z_hh86 : ZH hh86 := (ZH.mk ((ZH.sR (z_hh85))))
theorem z_hh87 : ZH hh87 := (ZH.mk ((ZH.sR (z_hh86))))
theorem z_hh88 : ZH hh88 := (ZH.mk ((ZH.sR (z_hh87))))
theorem z_hh89 : ZH hh89 := (ZH.mk ((ZH.sR (z_hh88))))
theorem z_hh90 : ZH hh90 := (ZH.mk ((ZH.sR (z_hh89))))
theorem z_hh91 : ZH hh91 := (ZH.mk ((ZH.sR (z_hh90))))
theorem z_hh92 : ZH hh92 := (ZH.mk ((ZH.sR (z_hh91))))
theorem z_hh93 : ZH hh93 := (ZH.mk ((ZH.sR (z_hh92))))
theorem z_hh94 : ZH hh94 := (ZH.mk ((ZH.sR (z_hh93))))
theorem z_hh95 : ZH hh95 := (ZH.sR (z_hh94))
theorem z_hh96 : ZH hh96 := (ZH.sI ((ZH.mf z_hh95)) (by unfold ZE; omega))
theorem z_hh97 : ZH hh97 := (ZH.mk (z_hh96))
section INIT
variable {sc : cmS} {d : Nat}
theorem i_1 {KV : cmH → Prop} (k : KV hh9) : cm_cv sc (d + 2) 1 [.ref 1] hh2 KV := cv_of rfl (t1_0 1 (wp_c hh3 2 (by decide +kernel) rfl (t1_9 1 2 1 ⟨(by decide +kernel), (wp_c hh4 3 (by decide +kernel) rfl (t1_17 1 3 1 ⟨(by decide +kernel), (wp_c hh5 4 (by decide +kernel) rfl (t1_25 1 4 1 ⟨(by decide +kernel), (by decide +kernel), 2, (by decide +kernel), c_fill8 (h := hh6) (KV := _) (by decide +kernel) (t1_38 1 ⟨(by decide +kernel), 3, (by decide +kernel), c_fill8 (h := hh7) (KV := _) (by decide +kernel) (t1_48 1 ⟨(by decide +kernel), 4, (by decide +kernel), c_fill8 (h := hh8) (KV := _) (by decide +kernel) (t1_57 1 (⟨rfl, k⟩))⟩)⟩)⟩))⟩))⟩)))
theorem i_3 {KV : cmH → Prop} (k : KV hh12) : cm_cv sc (d + 2) 3 [.ref 6, .int (160 : Int32)] hh11 KV := cv_of rfl (t3_0 6 (160 : Int32) ⟨(by decide +kernel), (by decide +kernel), ⟨rfl, k⟩⟩)
theorem i_4 {KV : cmH → Prop} (k : KV hh15) : cm_cv sc (d + 2) 4 [.ref 9] hh14 KV := cv_of rfl (t4_0 9 ⟨(by decide +kernel), (by decide +kernel), ⟨rfl, k⟩⟩)
theorem i_5 {KV : cmH → Prop} (k : KV hh17) : cm_cv sc (d + 2) 5 [.ref 12] hh16 KV := cv_of rfl (t5_0 12 ⟨(by decide +kernel), ⟨rfl, k⟩⟩)
theorem i_6 {KV : cmH → Prop} (k : KV hh25) : cm_cv sc (d + 2) 6 [.ref 14] hh18 KV := cv_of rfl (t6_0 14 (wp_c hh19 15 (by decide +kernel) rfl (t6_9 14 15 14 ⟨(by decide +kernel), (wp_c hh20 16 (by decide +kernel) rfl (t6_17 14 16 14 ⟨(by decide +kernel), (wp_c hh21 17 (by decide +kernel) rfl (t6_25 14 17 14 ⟨(by decide +kernel), (wp_c hh22 18 (by decide +kernel) rfl (t6_33 14 18 14 ⟨(by decide +kernel), (wp_c hh23 19 (by decide +kernel) rfl (t6_41 14 19 14 ⟨(by decide +kernel), (wp_c hh24 20 (by decide +kernel) rfl (t6_49 14 20 14 ⟨(by decide +kernel), ⟨rfl, k⟩⟩))⟩))⟩))⟩))⟩))⟩)))
theorem i_8 {KV : cmH → Prop} (k : KV hh35) : cm_cv sc (d + 2) 8 [.ref 26] hh31 KV := cv_of rfl (t8_0 26 (wp_c hh32 27 (by decide +kernel) rfl (t8_10 26 27 26 ⟨(by decide +kernel), (wp_c hh33 28 (by decide +kernel) rfl (t8_18 26 28 26 ⟨(by decide +kernel), (wp_c hh34 29 (by decide +kernel) rfl (t8_26 26 29 26 ⟨(by decide +kernel), (by decide +kernel), ⟨rfl, k⟩⟩))⟩))⟩)))
theorem i_7 {KV : cmH → Prop} (k : KV hh36) : cm_cv sc (d + 3) 7 [.ref 21] hh26 KV := cv_of rfl (t7_0 21 (wp_c hh27 22 (by decide +kernel) rfl (t7_9 21 22 21 ⟨(by decide +kernel), (wp_c hh28 23 (by decide +kernel) rfl (t7_17 21 23 21 ⟨(by decide +kernel), (wp_c hh29 24 (by decide +kernel) rfl (t7_25 21 24 21 ⟨(by decide +kernel), (wp_c hh30 25 (by decide +kernel) rfl (t7_33 21 25 21 ⟨(by decide +kernel), (wp_c hh31 26 (by decide +kernel) rfl (t7_40 21 26 21 ⟨(by decide +kernel), i_8 (KV := _) (t7_44 21 26 21 ⟨(by decide +kernel), (by decide +kernel), ⟨rfl, k⟩⟩)⟩))⟩))⟩))⟩))⟩)))
theorem i_9 {KV : cmH → Prop} (k : KV hh38) : cm_cv sc (d + 2) 9 [.ref 30] hh37 KV := cv_of rfl (t9_0 30 ⟨(by decide +kernel), (by decide +kernel), ⟨rfl, k⟩⟩)
theorem i_10 {KV : cmH → Prop} (k : KV hh44) : cm_cv sc (d + 2) 10 [.ref 33] hh39 KV := cv_of rfl (t10_0 33 (wp_c hh40 34 (by decide +kernel) rfl (t10_9 33 34 33 ⟨(by decide +kernel), (wp_c hh41 35 (by decide +kernel) rfl (t10_17 33 35 33 ⟨(by decide +kernel), (wp_c hh42 36 (by decide +kernel) rfl (t10_25 33 36 33 ⟨(by decide +kernel), (wp_c hh43 37 (by decide +kernel) rfl (t10_33 33 37 33 ⟨(by decide +kernel), ⟨rfl, k⟩⟩))⟩))⟩))⟩)))
theorem i_0 {KV : cmH → Prop} (k : KV hh45) : cm_cv sc (d + 4) 0 [.ref 0] hh1 KV := cv_of rfl (t0_0 0 (wp_c hh2 1 (by decide +kernel) rfl (t0_8 0 1 0 ⟨(by decide +kernel), i_1 (KV := _) (t0_12 0 1 0 ⟨(by decide +kernel), (wp_c hh10 5 (by decide +kernel) rfl (t0_21 0 5 0 ⟨(by decide +kernel), (wp_c hh11 6 (by decide +kernel) rfl (t0_28 0 6 0 ⟨(by decide +kernel), i_3 (KV := _) (t0_35 0 6 0 ⟨(by decide +kernel), (wp_c hh13 8 (by decide +kernel) rfl (t0_44 0 8 0 ⟨(by decide +kernel), (wp_c hh14 9 (by decide +kernel) rfl (t0_51 0 9 0 ⟨(by decide +kernel), i_4 (KV := _) (t0_55 0 9 0 ⟨(by decide +kernel), (wp_c hh16 12 (by decide +kernel) rfl (t0_62 0 12 0 ⟨(by decide +kernel), i_5 (KV := _) (t0_66 0 12 0 ⟨(by decide +kernel), (wp_c hh18 14 (by decide +kernel) rfl (t0_73 0 14 0 ⟨(by decide +kernel), i_6 (KV := _) (t0_77 0 14 0 ⟨(by decide +kernel), (wp_c hh26 21 (by decide +kernel) rfl (t0_84 0 21 0 ⟨(by decide +kernel), i_7 (KV := _) (t0_88 0 21 0 ⟨(by decide +kernel), (wp_c hh37 30 (by decide +kernel) rfl (t0_95 0 30 0 ⟨(by decide +kernel), i_9 (KV := _) (t0_99 0 30 0 ⟨(by decide +kernel), (wp_c hh39 33 (by decide +kernel) rfl (t0_106 0 33 0 ⟨(by decide +kernel), i_10 (KV := _) (t0_110 0 33 0 ⟨(by decide +kernel), ⟨rfl, k⟩⟩)⟩))⟩)⟩))⟩)⟩))⟩)⟩))⟩)⟩))⟩)⟩))⟩))⟩)⟩))⟩))⟩)⟩)))
theorem i_134 {KV : cmH → Prop} (k : KV hh96) : cm_cv sc (d + 4) 134 [.ref 38] hh46 KV := cv_of rfl (t134_0 38 _ (wp_c hh47 39 (by decide +kernel) rfl (t134_9 38 _ 39 38 ⟨(by decide +kernel), (wp_c hh48 40 (by decide +kernel) rfl (t134_17 38 _ 40 38 ⟨(by decide +kernel), (wp_c hh49 41 (by decide +kernel) rfl (t134_25 38 _ 41 38 ⟨(by decide +kernel), (wp_c hh50 42 (by decide +kernel) rfl (t134_33 38 _ 42 38 ⟨(by decide +kernel), (wp_c hh51 43 (by decide +kernel) rfl (t134_41 38 _ 43 38 ⟨(by decide +kernel), (wp_c hh52 44 (by decide +kernel) rfl (t134_49 38 _ 44 38 ⟨(by decide +kernel), (wp_c hh53 45 (by decide +kernel) rfl (t134_57 38 _ 45 38 ⟨(by decide +kernel), (wp_c hh54 46 (by decide +kernel) rfl (t134_66 38 _ 46 38 ⟨(by decide +kernel), (wp_c hh55 47 (by decide +kernel) rfl (t134_75 38 _ 47 38 ⟨(by decide +kernel), (wp_c hh56 48 (by decide +kernel) rfl (t134_83 38 _ 48 38 ⟨(by decide +kernel), (wp_c hh57 49 (by decide +kernel) rfl (t134_91 38 _ 49 38 ⟨(by decide +kernel), (wp_c hh58 50 (by decide +kernel) rfl (t134_99 38 _ 50 38 ⟨(by decide +kernel), (wp_c hh59 51 (by decide +kernel) rfl (t134_107 38 _ 51 38 ⟨(by decide +kernel), (wp_c hh60 52 (by decide +kernel) rfl (t134_115 38 _ 52 38 ⟨(by decide +kernel), (wp_c hh61 53 (by decide +kernel) rfl (t134_123 38 _ 53 38 ⟨(by decide +kernel), (wp_c hh62 54 (by decide +kernel) rfl (t134_131 38 _ 54 38 ⟨(by decide +kernel), (wp_c hh63 55 (by decide +kernel) rfl (t134_139 38 _ 55 38 ⟨(by decide +kernel), (wp_c hh64 56 (by decide +kernel) rfl (t134_147 38 _ 56 38 ⟨(by decide +kernel), (wp_c hh65 57 (by decide +kernel) rfl (t134_155 38 _ 57 38 ⟨(by decide +kernel), (wp_c hh66 58 (by decide +kernel) rfl (t134_163 38 _ 58 38 ⟨(by decide +kernel), (wp_c hh67 59 (by decide +kernel) rfl (t134_171 38 _ 59 38 ⟨(by decide +kernel), (wp_c hh68 60 (by decide +kernel) rfl (t134_179 38 _ 60 38 ⟨(by decide +kernel), (wp_c hh69 61 (by decide +kernel) rfl (t134_188 38 _ 61 38 ⟨(by decide +kernel), (wp_c hh70 62 (by decide +kernel) rfl (t134_197 38 _ 62 38 ⟨(by decide +kernel), (wp_c hh71 63 (by decide +kernel) rfl (t134_206 38 _ 63 38 ⟨(by decide +kernel), (wp_c hh72 64 (by decide +kernel) rfl (t134_214 38 _ 64 38 ⟨(by decide +kernel), (wp_c hh73 65 (by decide +kernel) rfl (t134_223 38 _ 65 38 ⟨(by decide +kernel), (wp_c hh74 66 (by decide +kernel) rfl (t134_232 38 _ 66 38 ⟨(by decide +kernel), (wp_c hh75 67 (by decide +kernel) rfl (t134_240 38 _ 67 38 ⟨(by decide +kernel), (wp_c hh76 68 (by decide +kernel) rfl (t134_248 38 _ 68 38 ⟨(by decide +kernel), (wp_c hh77 69 (by decide +kernel) rfl (t134_256 38 _ 69 38 ⟨(by decide +kernel), (wp_c hh78 70 (by decide +kernel) rfl (t134_264 38 _ 70 38 ⟨(by decide +kernel), (wp_c hh79 71 (by decide +kernel) rfl (t134_272 38 _ 71 38 ⟨(by decide +kernel), (wp_c hh80 72 (by decide +kernel) rfl (t134_280 38 _ 72 38 ⟨(by decide +kernel), (wp_c hh81 73 (by decide +kernel) rfl (t134_288 38 _ 73 38 ⟨(by decide +kernel), (wp_c hh82 74 (by decide +kernel) rfl (t134_296 38 _ 74 38 ⟨(by decide +kernel), (wp_c hh83 75 (by decide +kernel) rfl (t134_304 38 _ 75 38 ⟨(by decide +kernel), (wp_c hh84 76 (by decide +kernel) rfl (t134_312 38 _ 76 38 ⟨(by decide +kernel), (wp_c hh85 77 (by decide +kernel) rfl (t134_320 38 _ 77 38 ⟨(by decide +kernel), (wp_c hh86 78 (by decide +kernel) rfl (t134_328 38 _ 78 38 ⟨(by decide +kernel), (wp_c hh87 79 (by decide +kernel) rfl (t134_336 38 _ 79 38 ⟨(by decide +kernel), (wp_c hh88 80 (by decide +kernel) rfl (t134_344 38 _ 80 38 ⟨(by decide +kernel), (wp_c hh89 81 (by decide +kernel) rfl (t134_352 38 _ 81 38 ⟨(by decide +kernel), (wp_c hh90 82 (by decide +kernel) rfl (t134_361 38 _ 82 38 ⟨(by decide +kernel), (wp_c hh91 83 (by decide +kernel) rfl (t134_369 38 _ 83 38 ⟨(by decide +kernel), (wp_c hh92 84 (by decide +kernel) rfl (t134_377 38 _ 84 38 ⟨(by decide +kernel), (wp_c hh93 85 (by decide +kernel) rfl (t134_385 38 _ 85 38 ⟨(by decide +kernel), (wp_c hh94 86 (by decide +kernel) rfl (t134_393 38 _ 86 38 ⟨(by decide +kernel), m_fill (h := hh95) (by decide +kernel) ⟨rfl, k⟩⟩))⟩))⟩))⟩))⟩))⟩))⟩))⟩))⟩))⟩))⟩))⟩))⟩))⟩))⟩))⟩))⟩))⟩))⟩))⟩))⟩))⟩))⟩))⟩))⟩))⟩))⟩))⟩))⟩))⟩))⟩))⟩))⟩))⟩))⟩))⟩))⟩))⟩))⟩))⟩))⟩))⟩))⟩))⟩))⟩))⟩))⟩))⟩)))
end INIT
/-- the memory when the loop begins -/
def hE : cmH := hh97
theorem hE_ly : LY hE := by
  have t : (List.range 88).map (fun a => (cm_kd hE a, cm_ln hE a)) = ly_t := by decide +kernel
  have n : cm_n hE = 88 := by decide +kernel
  have r : ∀ e ∈ ly_R, cm_R hE e.1 e.2.1 = some e.2.2 := by decide +kernel
  refine ⟨by rw [n]; exact Nat.le_refl _, fun a k l q => ?_, fun a f b q => r (a, f, b) q⟩
  have ha := ly_lt q
  rw [← t, List.getElem?_map, List.getElem?_range ha] at q
  simp only [Option.map_some, Option.some.injEq, Prod.mk.injEq] at q
  exact q
theorem hE_z : ZH hE := z_hh97
theorem hE_0 {a k : Nat} (q : ¬ ZE a k) : cm_I hE a k = 0 := hE_z a k q
theorem hE_fl : FL hE 26 := by
  unfold FL
  decide +kernel
theorem hE_w : WLD 0 hE := by
  have L := hE_ly
  have v2 : ∀ s, s < 8 → cm_I hE 2 s = 200 ∧ cm_I hE 3 s = 600 ∧ cm_I hE 4 s = 50 ∧ cm_I hE 39 s = 200 ∧ cm_I hE 40 s = 600 ∧ cm_I hE 41 s = 50 := by decide +kernel
  have v26 : cm_I hE 26 3 = 0 ∧ cm_I hE 26 4 = 100 ∧ cm_I hE 49 8 = 100 ∧ cm_I hE 21 7 = -1 := by decide +kernel
  have z : ∀ a k, ¬ ZE a k → cm_I hE a k = nI 0 := fun a k q => hE_0 q
  have nn : cm_n hE = 88 := by decide +kernel
  have ns : cm_sl hE = 110333 := by decide +kernel
  refine ⟨0, 0, 0, 0, 0, 0, 0, fun _ => 0, fun _ => 0, fun _ => 0, fun _ => 200, fun _ => 0, fun _ => 0, fun _ => 0, fun _ => 0, fun _ => 0, fun _ _ => 0, fun _ _ => 0, fun _ => [], fun _ => none, ⟨⟨L, ⟨?_, by decide, fun f hf => absurd hf (by omega)⟩, fun f hf => absurd hf (by omega), ⟨fun f hf => absurd hf (by omega), fun f _ hf => absurd hf (by omega), fun f _ hf => absurd hf (by omega), fun f _ _ _ hf => absurd hf (by omega)⟩, ⟨?_, by decide, fun f hf => absurd hf (by omega)⟩, fun f hf => absurd hf (by omega)⟩, ⟨?_, ?_, by decide, fun s hs => ⟨?_, Nat.le_of_ble_eq_true rfl, ?_, Nat.le_of_ble_eq_true rfl⟩, fun f hf => absurd hf (by omega)⟩, by decide, ⟨L, ?_, by decide, fun f hf => absurd hf (by omega), ⟨?_, by decide, fun f hf => absurd hf (by omega)⟩, fun f hf => absurd hf (by omega), fun s hs => ?_⟩, ⟨fun f hf => absurd hf (by omega), ⟨fun s hs => ?_, fun t s w _ _ _ => ?_⟩, ⟨fun s hs => ?_, ?_⟩, ?_⟩⟩, ⟨?_, ?_, by decide, fun k hk => absurd hk (by omega)⟩, ⟨?_, ?_, by decide, ⟨hE_fl, v26.1, by decide, fun c hc => absurd hc (by omega)⟩, ⟨Or.inr rfl, fun c hc => absurd hc (by omega), fun c _ hc => absurd hc (by omega)⟩, fun c _ _ hc => absurd hc (by omega), v26.2.1, v26.2.2.1, fun i hi => absurd hi (by omega)⟩, Or.inl v26.2.2.2, ⟨0, fun _ => 0, ?_, ?_, by decide, fun _ => Nat.le_of_ble_eq_true rfl, fun i _ => ⟨?_, ?_⟩⟩, ⟨?_, ?_, by decide, fun i hi => absurd hi (by omega)⟩, by omega, by omega, fun a k q => hE_0 (by unfold FP at q; unfold ZE; omega)⟩
  · exact z 0 10 (by unfold ZE; omega)
  · exact z 0 11 (by unfold ZE; omega)
  · exact z 0 12 (by unfold ZE; omega)
  · exact z 12 1 (by unfold ZE; omega)
  · exact z 13 s (by unfold ZE; omega)
  · exact (v2 s hs).1
  · exact z 38 24 (by unfold ZE; omega)
  · exact z 38 34 (by unfold ZE; omega)
  · rw [(v2 s hs).2.2.2.2.2]; decide
  · rw [z 71 _ (by unfold ZE; omega), z 71 _ (by unfold ZE; omega), z 71 _ (by unfold ZE; omega), z 71 _ (by unfold ZE; omega), z 71 _ (by unfold ZE; omega), z 15 s (by unfold ZE; omega), z 16 s (by unfold ZE; omega), z 17 s (by unfold ZE; omega), z 18 s (by unfold ZE; omega), z 19 s (by unfold ZE; omega)]
    exact ⟨rfl, rfl, rfl, rfl, rfl⟩
  · rw [z 68 _ (by unfold ZE; omega), z 20 _ (by unfold ZE; omega)]
  · obtain ⟨a1, a2, a3, a4, a5, a6⟩ := v2 s hs
    rw [a1, a2, a3, a4, a5, a6, z 67 s (by unfold ZE; omega), z 13 s (by unfold ZE; omega)]
    exact ⟨rfl, rfl, rfl, rfl⟩
  · rw [z 38 48 (by unfold ZE; omega), z 12 1 (by unfold ZE; omega)]
  · rw [z 38 0 (by unfold ZE; omega), z 0 12 (by unfold ZE; omega)]
  · exact z 6 1 (by unfold ZE; omega)
  · exact z 38 29 (by unfold ZE; omega)
  · exact z 21 5 (by unfold ZE; omega)
  · exact z 38 53 (by unfold ZE; omega)
  · exact z 30 2 (by unfold ZE; omega)
  · exact z 38 57 (by unfold ZE; omega)
  · exact z 31 i (by unfold ZE; omega)
  · exact z 81 i (by unfold ZE; omega)
  · exact z 33 4 (by unfold ZE; omega)
  · exact z 38 62 (by unfold ZE; omega)
section INIT2
variable {sc : cmS} {d : Nat} {Q : Option Value → cmH → Prop}
theorem law_init (u1 u2 u3 u4 u5 u6 : Option Value) (H : cm_wp sc (d + 5) 222 23 [some (.retAddr 0), some (.ref 0), some (.ref 38), some (.ref 87), some (.int (0 : Int32)), u5, u6] [] hE Q) : cm_wp sc (d + 5) 222 0 [some (.retAddr 0), u1, u2, u3, u4, u5, u6] [] hh0 Q := by
  refine s222_0 _ _ _ _ _ _ (wp_c hh1 0 (by decide +kernel) rfl (wl_st d222_3 rfl rfl rfl rfl (wl_cv d222_4 rfl rfl rfl pm12_15 (by decide) (ca_i (Or.inl rfl) rfl (Nat.le_of_ble_eq_true rfl) (Nat.le_of_ble_eq_true rfl) (by decide +kernel) (by decide +kernel) (by decide) rfl) (i_0 (KV := _) ?_))))
  refine s222_7 _ _ _ _ _ _ (wp_c hh46 38 (by decide +kernel) rfl (wl_st d222_11 rfl rfl rfl rfl (wl_cv d222_12 rfl rfl rfl pm12_18 (by decide) (ca_i (Or.inl rfl) rfl (Nat.le_of_ble_eq_true rfl) (Nat.le_of_ble_eq_true rfl) (by decide +kernel) (by decide +kernel) (by decide) rfl) (i_134 (KV := _) ?_))))
  exact s222_15 _ _ _ _ _ (wp_c hh97 87 (by decide +kernel) rfl (s222_19 _ _ _ _ H))
/-- the law, from the empty memory: it answers 1, and this is what it takes -/
theorem law_all {sc : cmS} (hs : sc.1 ≤ 4608) (u1 u2 u3 u4 u5 u6 : Option Value) : cm_wp sc 302 222 0 [some (.retAddr 0), u1, u2, u3, u4, u5, u6] [] hh0 (fun v h => v = some (.int 1) ∧ cm_n h ≤ 2136 ∧ cm_sl h ≤ 197373) := by
  refine law_init (d := 297) _ _ _ _ _ _ (law_loop (d := 100) hs (fun h j hj W => ⟨rfl, ?_⟩) (sc.1 + 1) 0 hE u5 u6 (by omega) (by omega) hE_w)
  obtain ⟨F, Rn, Q, T, NL, n, Re, C, fa, g, st, pr, lc, ta, nn, Tp, cc, Tt, cls, ro, a1, a2, a3, a4, a5, a6, a7, a8, a9⟩ := W
  exact ⟨by omega, by omega⟩
end INIT2
