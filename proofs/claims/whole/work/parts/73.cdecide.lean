/-! ===== the class's decide: one filter ===== -/
section GXS
/-- the same cells; ints changed at places of P alone; references but for the reader's row; longs free -/
def GX (h h' : cmH) (P : Nat → Nat → Prop) : Prop := (h'.1 = h.1 ∧ h'.2.1 = h.2.1 ∧ h'.2.2.1 = h.2.2.1) ∧ (∀ x k, ¬ P x k → cm_I h' x k = cm_I h x k) ∧ ∀ x k, ¬ (x = 9 ∧ k = 1) → cm_R h' x k = cm_R h x k
variable {h h' h'' : cmH} {P P' : Nat → Nat → Prop}
theorem GX.refl : GX h h P := ⟨⟨rfl, rfl, rfl⟩, fun _ _ _ => rfl, fun _ _ _ => rfl⟩
theorem GX.trans (x : GX h h' P) (y : GX h' h'' P) : GX h h'' P := ⟨⟨y.1.1.trans x.1.1, y.1.2.1.trans x.1.2.1, y.1.2.2.trans x.1.2.2⟩, fun a k z => (y.2.1 a k z).trans (x.2.1 a k z), fun a k z => (y.2.2 a k z).trans (x.2.2 a k z)⟩
theorem GX.mono (x : GX h h' P) (q : ∀ a k, P a k → P' a k) : GX h h' P' := ⟨x.1, fun a k z => x.2.1 a k fun w => z (q a k w), x.2.2⟩
theorem XI.g (x : XI h h' P) : GX h h' P := ⟨by rw [x.1]; exact ⟨rfl, rfl, rfl⟩, x.2, fun a k _ => by rw [x.R]⟩
theorem XW.g (x : XW h h' P) : GX h h' P := ⟨by rw [x.1]; exact ⟨rfl, rfl, rfl⟩, x.2, fun a k _ => by rw [x.R]⟩
theorem XL.g (x : XL h h') : GX h h' (fun x _ => x = 9 ∨ x = 10) := ⟨x.1, fun a k z => x.2.1 a k (fun w => z (Or.inl w.1)) (fun w => z (Or.inr w)), x.2.2.2⟩
theorem GX.kd (x : GX h h' P) : cm_kd h' = cm_kd h := by unfold cm_kd; rw [x.1.2.1]
theorem GX.ln (x : GX h h' P) : cm_ln h' = cm_ln h := by unfold cm_ln; rw [x.1.2.2]
theorem GX.nn (x : GX h h' P) : cm_n h' = cm_n h := by unfold cm_n; rw [x.1.1]
theorem GX.sl (x : GX h h' P) : cm_sl h' = cm_sl h := by unfold cm_sl; rw [x.1.1]
theorem GX.ly (x : GX h h' P) (L : LY h) : LY h' := by
  obtain ⟨a, b, c⟩ := L
  exact ⟨by rw [x.nn]; exact a, fun i k n q => by rw [x.kd, x.ln]; exact b i k n q, fun i f j q => by rw [x.2.2 i f (ly_91 _ q)]; exact c i f j q⟩
theorem GX.FL {a : Nat} (x : GX h h' P) (L : LY h) (F : FL h a) : FL h' a := by
  obtain ⟨f1, f2, f3, f4, f5, f6, f7, f8⟩ := F
  have h9 : a ≠ 9 := fun e => by rw [e, (ly_k L 9 rfl).1] at f1; cases f1
  have r : ∀ k, cm_R h' a k = cm_R h a k := fun k => x.2.2 a k (by omega)
  exact ⟨by rw [x.kd]; exact f1, by rw [x.nn]; exact f2, by rw [r]; exact f3, by rw [r]; exact f4, by rw [r]; exact f5, by rw [x.kd, x.ln]; exact f6, by rw [x.kd, x.ln]; exact f7, by rw [x.kd, x.ln]; exact f8⟩
theorem GX.CE {a : Nat} (x : GX h h' P) (L : LY h) (F : CE h a) : CE h' a := by
  obtain ⟨f1, f2, f3, f4, f5, f6⟩ := F
  have h9 : a ≠ 9 := fun e => by rw [e, (ly_k L 9 rfl).1] at f1; cases f1
  have r : ∀ k, cm_R h' a k = cm_R h a k := fun k => x.2.2 a k (by omega)
  exact ⟨by rw [x.kd]; exact f1, by rw [x.nn]; exact f2, by rw [r]; exact f3, by rw [r]; exact f4, by rw [x.kd, x.ln]; exact f5, by rw [x.kd, x.ln]; exact f6⟩
theorem GX.FC {a n : Nat} {ca : Nat → Nat} (x : GX h h' P) (L : LY h) (F : FC h a n ca) (q : ¬ P a 3) (q5 : ∀ c, c < n → ¬ P (ca c) 5) : FC h' a n ca := by
  have h9 : a + 1 ≠ 9 := fun e => by have := F.1.2.2.2.2.2.1.1; rw [e, (ly_k L 9 rfl).1] at this; cases this
  refine ⟨x.FL L F.1, by rw [x.2.1 a 3 q]; exact F.2.1, F.2.2.1, fun c hc => ⟨by rw [x.2.2 _ _ (by omega)]; exact (F.2.2.2 c hc).1, x.CE L (F.2.2.2 c hc).2.1, by rw [x.2.1 _ _ (q5 c hc)]; exact (F.2.2.2 c hc).2.2⟩⟩
theorem GX.FS {F : Nat} {fa : Nat → Nat} (x : GX h h' P) (G : FS h F fa) (q : ¬ P 0 10) : FS h' F fa := ⟨by rw [x.2.1 0 10 q]; exact G.1, G.2.1, fun f hf => by rw [x.2.2 5 f (by omega)]; exact G.2.2 f hf⟩
theorem GX.TXT {ta n : Nat} {T : Nat → Nat} (x : GX h h' P) (L : LY h) (G : TXT h ta T n) (q : ∀ y k, cm_kd h y = 9 ∨ cm_kd h y = 12 → ¬ P y k) : TXT h' ta T n := by
  obtain ⟨⟨a1, a2, a3, a4⟩, b, c, e, f, g⟩ := G
  have h9 : ta ≠ 9 := fun e => by rw [e, (ly_k L 9 rfl).1] at a1; cases a1
  exact ⟨⟨by rw [x.kd]; exact a1, by rw [x.nn]; exact a2, by rw [x.2.2 _ _ (by omega)]; exact a3, by rw [x.kd]; exact a4⟩, by rw [x.2.1 _ _ (q _ _ (Or.inl a1))]; exact b, by rw [x.ln]; exact c, by rw [x.ln]; exact e, f, fun k hk => by rw [x.2.1 _ _ (q _ _ (Or.inr a4))]; exact g k hk⟩
theorem GX.CTx {N Rn : Nat} {ta nn : Nat → Nat} {Tt : Nat → Nat → Nat} {cls : Nat → List CL} (x : GX h h' P) (L : LY h) (G : CTx h N Rn ta nn Tt cls) (q : ∀ y k, cm_kd h y = 9 ∨ cm_kd h y = 12 → ¬ P y k) (q0 : ¬ P 0 11) : CTx h' N Rn ta nn Tt cls := ⟨by rw [x.2.1 0 11 q0]; exact G.1, G.2.1, fun j hj => by
  obtain ⟨a, b, c, e⟩ := G.2.2 j hj
  exact ⟨by rw [x.2.2 8 j (by omega)]; exact a, b, x.TXT L c q, e⟩⟩
end GXS
section CDEC
variable {sc : cmS} {d : Nat} {h : cmH} {KV : cmH → Prop} {N Rn F : Nat} {fa C : Nat → Nat} {cc : Nat → Nat → Nat} {ta nn : Nat → Nat} {Tt : Nat → Nat → Nat} {cls : Nat → List CL}
def c_lf (I : Nat → Nat → Int32) (a f : Nat) : Nat → Int32 := lt6 (I a 12) (I a 9) (I a 13) (nI f) (I a 10) (cm_sum (I (a + 2)) 8)
noncomputable def wq (lt : Nat → Int32) (l : Nat) (o : Option Nat) (cls : Nat → List CL) : Int32 := match o with
  | none => 0
  | some j => wv lt l (cls j)
def dst (vc vw vr wa bo : Int32) : Int32 := if vc ≠ 0 then 1 else if vw ≠ 0 then (if bo ≤ wa then 5 else 2) else if vr ≠ 0 then 3 else 1
/-- it decides -/
abbrev act (n : Nat) (st : Int32) : Prop := 0 < n ∧ st ≠ 4 ∧ st ≠ 5
/-- what a change leaves -/
def CGv (I I' : Nat → Nat → Int32) (a n : Nat) (ca : Nat → Nat) : Prop := (∀ s, s < 8 → I' 17 s = I 17 s + (I (a + 2) s + cm_sum (fun c => I (ca c + 1) s) n) ∧ I' (a + 2) s = 0) ∧ (∀ c, c < n → (∀ s, s < 8 → I' (ca c + 1) s = 0 ∧ I' (ca c + 2) s = 0) ∧ I' (ca c) 2 = 0 ∧ I' (ca c) 4 = I (ca c) 3) ∧ I' a 9 = 0 ∧ I' a 10 = 0
abbrev P_rd (a : Nat) (x k : Nat) : Prop := x = 9 ∨ x = 10 ∨ (x = a ∧ k = 8)
def DS (g g' : cmH) (a n : Nat) (ca : Nat → Nat) (vc vw vr : Int32) : Prop := GX g g' (fun x k => P_rd a x k ∨ P_cg a n ca x k) ∧ cm_I g' a 8 = (if act n (cm_I g a 8) then dst vc vw vr (cm_I g a 10) (cm_I g a 6) else cm_I g a 8) ∧ (¬ (act n (cm_I g a 8) ∧ vc ≠ 0) → ∀ x k, ¬ P_rd a x k → cm_I g' x k = cm_I g x k) ∧ (act n (cm_I g a 8) ∧ vc ≠ 0 → CGv (cm_I g) (cm_I g') a n ca)
theorem c_decide {i : Nat} {o : Option Nat} (hN : 3000 ≤ N) (hd : 42 ≤ d) (L : LY h) (G : FS h F fa) (GC : FC h (fa i) (C i) (cc i)) (S : SP (fa i) (C i) (cc i)) (h88 : 88 ≤ fa i) (CT : CTx h N Rn ta nn Tt cls) (hi : i < F) (er : cm_I h (fa i) 7 = wI o) (ho : ∀ j, o = some j → j < Rn) (k : ∀ g', DS h g' (fa i) (C i) (cc i) (wq (c_lf (cm_I h) (fa i) i) 99 o cls) (wq (c_lf (cm_I h) (fa i) i) 119 o cls) (wq (c_lf (cm_I h) (fa i) i) 114 o cls) → KV g') : cm_cv sc d 61 [.ref 0, .int (nI i)] h KV := by
  obtain ⟨d, rfl⟩ : ∃ e, d = e + 4 := ⟨d - 4, by omega⟩
  have h8 := G.2.1
  have no : ¬ act (C i) (cm_I h (fa i) 8) → KV h := fun q => k h ⟨GX.refl, by rw [if_neg q], fun _ _ _ _ => rfl, fun w => absurd w.1 q⟩
  refine cv_of rfl (s61_0 L _ _ _ (c_filterI L G hi (s61_5 L _ _ _ (some (fa i)) ⟨fun e => (by cases e), fun b eb => ?_⟩)))
  cases eb
  have en := GC.2.1
  have hn := GC.2.2.1
  refine ⟨GC.1, fun q => ⟨rfl, no fun w => ?_⟩, fun q0 => ⟨fun q => ⟨rfl, no fun w => w.2.1 q⟩, fun q4 => ⟨fun q5 => ?_, fun q => ⟨rfl, no fun w => w.2.2 (Decidable.not_not.mp q)⟩⟩⟩⟩
  · rw [en] at q
    exact absurd q (Int32.not_lt.mpr (nI_le (a := 1) w.1 (by omega)))
  have n0 : 0 < C i := by
    rcases Nat.eq_zero_or_pos (C i) with z | z
    · exact absurd (by rw [en, z]; decide) q0
    · exact z
  have ac : act (C i) (cm_I h (fa i) 8) := ⟨n0, q4, q5⟩
  have X1 : XI h (cm_setI h (fa i) 8 1) (P_rd (fa i)) := XI.refl.set (Or.inr (Or.inr ⟨rfl, rfl⟩))
  have ft : ∀ y k, cm_kd h y = 9 ∨ cm_kd h y = 12 → ¬ P_rd (fa i) y k := by
    rintro y k hk (rfl | rfl | ⟨rfl, -⟩)
    · rw [(ly_k L 9 rfl).1] at hk; omega
    · rw [(ly_k L 10 rfl).1] at hk; omega
    · rw [GC.1.1] at hk; omega
  have CT1 := X1.g.CTx L CT ft (by unfold P_rd; omega)
  have L1 := X1.ly L
  have e7 : cm_I (cm_setI h (fa i) 8 1) (fa i) 7 = wI o := by rw [sI_o (Or.inr (by decide))]; exact er
  rw [e7]
  have F1 := X1.FL GC.1
  -- no rule
  have nr : o = none → KV (cm_setI h (fa i) 8 1) := fun e => by
    subst e
    refine k _ ⟨X1.g.mono fun _ _ q => Or.inl q, ?_, fun _ x k q => X1.2 x k q, fun w => absurd rfl w.2⟩
    rw [sI_s, if_pos ac]; rfl
  refine c_rulesAt L1 CT1.1 CT1.2.1 (fun j hj ej => ?_) (fun q => s61_48 L1 _ (some (fa i)) _ none ⟨fun _ => ⟨rfl, nr ?_⟩, fun b eb => (by cases eb)⟩)
  case refine_2 =>
    cases o with
    | none => rfl
    | some j => exact absurd rfl (q j (ho j rfl))
  have eo : o = some j := by
    cases o with
    | none => exact absurd ej.symm (nI_m (by have := CT.2.1; omega))
    | some j' =>
      have := ho j' rfl
      have h12 := CT.2.1
      rw [nI_inj (by omega) (by omega) ej]
  subst eo
  obtain ⟨er1, t88, tx1, ep, W⟩ := CT1.2.2 j hj
  rw [er1]
  refine s61_48 L1 _ (some (fa i)) _ (some (ta j)) ⟨fun e => (by cases e), fun b eb => ?_⟩
  cases eb
  refine ⟨fa i, rfl, F1, c_tell L1 F1 (fun h2 X2 lt2 => ?_)⟩
  have X2' : GX h h2 (P_rd (fa i)) := X1.g.trans (X2.g.mono fun x k q => Or.inr (Or.inl q))
  have L2 := X2'.ly L
  have elt : ∀ c, isL c → cm_I h2 10 (lx c) = c_lf (cm_I h) (fa i) i c := fun c q => by
    rw [lt2 c q]
    unfold c_lf
    rw [sI_o (Or.inr (by decide)), sI_o (Or.inr (by decide)), sI_o (Or.inr (by decide)), sI_o (Or.inr (by decide))]
    congr 1
    exact cm_sum_congr fun s _ => sI_o (Or.inl (by omega))
  have wor : ∀ (h3 : cmH) (l : Nat) (K : Int32 → cmH → Prop), l < 256 → GX h h3 (P_rd (fa i)) → (∀ c, isL c → cm_I h3 10 (lx c) = c_lf (cm_I h) (fa i) i c) → (∀ h4, GX h h4 (P_rd (fa i)) → (∀ c, isL c → cm_I h4 10 (lx c) = c_lf (cm_I h) (fa i) i c) → (∀ k, cm_I h4 (fa i) k = cm_I h3 (fa i) k) → K (wv (c_lf (cm_I h) (fa i) i) l (cls j)) h4) → cm_ci sc (d + 3) 65 [.ref 9, .int (nI l), .ref (ta j)] h3 K := fun h3 l K hl X3 e3 kk => by
    have CT3 := X3.CTx L CT ft (by unfold P_rd; omega)
    refine c_worthOf' hN (by omega) hl (X3.ly L) (CT3.2.2 j hj).2.2.1 e3 ep W (fun h4 X4 => kk h4 (X3.trans (X4.l.g.mono fun x k q => q.elim Or.inl (fun w => Or.inr (Or.inl w)))) (fun c q => ?_) (fun k => X4.2.1 _ _ (by omega)))
    rw [X4.2.1 10 _ (by omega)]; exact e3 c q
  have o8 : ∀ h3, GX h h3 (P_rd (fa i)) → ∀ k, k ≠ 8 → cm_I h3 (fa i) k = cm_I h (fa i) k := fun h3 X3 k q => X3.2.1 _ _ (by unfold P_rd; omega)
  have i8 : cm_I h2 (fa i) 8 = 1 := by rw [X2.2 _ _ (by omega), sI_s]
  refine s61_63 L2 _ (some (fa i)) (some (ta j)) ⟨ta j, rfl, wor h2 99 _ (by decide) X2' elt (fun h3 X3 e3 k3 => ?_)⟩
  have L3 := X3.ly L
  have F3 := X3.FL L GC.1
  refine s61_73 L3 _ (some (fa i)) (some (ta j)) _ ⟨fun z => ?_, fun z => ⟨fa i, rfl, F3, ?_⟩⟩
  case refine_2 =>
    have G3 : FC h3 (fa i) (C i) (cc i) := X3.FC L GC (by unfold P_rd; omega) (fun c hc => by have := S.2.1 c hc; unfold P_rd; omega)
    refine c_change L3 G3 S (fun h4 Z4 => s61_84 _ (some (fa i)) (some (ta j)) ⟨rfl, k h4 ⟨?_, ?_, fun w => absurd ⟨ac, z⟩ w, fun _ => ?_⟩⟩)
    · exact (X3.mono fun _ _ q => Or.inl q).trans (Z4.1.g.mono fun _ _ q => Or.inr q)
    · have : ¬ P_cg (fa i) (C i) (cc i) (fa i) 8 := by
        rintro (q | q | q | ⟨c, hc, q⟩)
        · omega
        · omega
        · omega
        · have := S.2.1 c hc; unfold P_em at q; omega
      rw [Z4.1.2 _ _ this, k3, i8, if_pos ac]
      show (1 : Int32) = if wv _ 99 (cls j) ≠ 0 then 1 else _
      rw [if_pos z]
    · obtain ⟨-, z1, z2, z3, z4⟩ := Z4
      have I3 : ∀ x k, ¬ P_rd (fa i) x k → cm_I h3 x k = cm_I h x k := X3.2.1
      refine ⟨fun s hs => ⟨?_, (z1 s hs).2⟩, fun c hc => ⟨(z2 c hc).1, (z2 c hc).2.1, ?_⟩, z3, z4⟩
      · rw [(z1 s hs).1, I3 17 s (by unfold P_rd; omega), I3 (fa i + 2) s (by unfold P_rd; omega)]
        congr 2
        exact cm_sum_congr fun c hc => I3 _ _ (by have := S.2.1 c hc; unfold P_rd; omega)
      · rw [(z2 c hc).2.2, I3 _ _ (by have := S.2.1 c hc; unfold P_rd; omega)]
  have ez : wq (c_lf (cm_I h) (fa i) i) 99 (some j) cls = 0 := z
  -- without a change
  have fin : ∀ h4, GX h h4 (P_rd (fa i)) → cm_I h4 (fa i) 8 = dst 0 (wq (c_lf (cm_I h) (fa i) i) 119 (some j) cls) (wq (c_lf (cm_I h) (fa i) i) 114 (some j) cls) (cm_I h (fa i) 10) (cm_I h (fa i) 6) → KV h4 := fun h4 X4 e4 => k h4 ⟨X4.mono fun _ _ q => Or.inl q, by rw [e4, if_pos ac, ez], fun _ x k q => X4.2.1 x k q, fun w => absurd ez w.2⟩
  refine ⟨ta j, rfl, wor h3 119 _ (by decide) X3 e3 (fun h4 X4 e4 k4 => ?_)⟩
  have L4 := X4.ly L
  have F4 := X4.FL L GC.1
  have s8 : ∀ (h5 : cmH) (v : Int32), GX h h5 (P_rd (fa i)) → GX h (cm_setI h5 (fa i) 8 v) (P_rd (fa i)) := fun h5 v X5 => X5.trans (XI.set (P := P_rd (fa i)) XI.refl (Or.inr (Or.inr ⟨rfl, rfl⟩))).g
  refine s61_97 L4 _ (some (fa i)) (some (ta j)) _ ⟨fun zw => ⟨ta j, rfl, wor h4 114 _ (by decide) X4 e4 (fun h5 X5 e5 k5 => ?_)⟩, fun zw => ⟨fa i, rfl, F4, fun b => ?_, fun b => ?_⟩⟩
  · refine s61_133 _ (some (fa i)) (some (ta j)) _ ⟨fun zr => ⟨rfl, fin h5 X5 ?_⟩, fun zr => ⟨fa i, rfl, X5.FL L GC.1, rfl, fin _ (s8 h5 3 X5) ?_⟩⟩
    · rw [k5, k4, k3, i8]
      show (1 : Int32) = if (0 : Int32) ≠ 0 then 1 else if wv _ 119 (cls j) ≠ 0 then _ else if wv _ 114 (cls j) ≠ 0 then 3 else 1
      rw [if_neg (by decide), if_neg (fun w => w zw), if_neg (fun w => w zr)]
    · rw [sI_s]
      show (3 : Int32) = if (0 : Int32) ≠ 0 then 1 else if wv _ 119 (cls j) ≠ 0 then _ else if wv _ 114 (cls j) ≠ 0 then 3 else 1
      rw [if_neg (by decide), if_neg (fun w => w zw), if_pos zr]
  · refine s61_117 _ (some (fa i)) (some (ta j)) _ (some (fa i)) ⟨fa i, rfl, F4, rfl, fin _ (s8 h4 5 X4) ?_⟩
    rw [o8 h4 X4 6 (by decide), o8 h4 X4 10 (by decide)] at b
    rw [sI_s]
    show (5 : Int32) = if (0 : Int32) ≠ 0 then 1 else if wv _ 119 (cls j) ≠ 0 then (if _ ≤ _ then 5 else 2) else _
    rw [if_neg (by decide), if_pos zw, if_pos b]
  · refine s61_117 _ (some (fa i)) (some (ta j)) _ (some (fa i)) ⟨fa i, rfl, F4, rfl, fin _ (s8 h4 2 X4) ?_⟩
    rw [o8 h4 X4 6 (by decide), o8 h4 X4 10 (by decide)] at b
    rw [sI_s]
    show (2 : Int32) = if (0 : Int32) ≠ 0 then 1 else if wv _ 119 (cls j) ≠ 0 then (if _ ≤ _ then 5 else 2) else _
    rw [if_neg (by decide), if_pos zw, if_neg b]
end CDEC
