/-! ===== letters and worth ===== -/
section WORTH
variable {sc : cmS} {d : Nat} {h : cmH} {K : Int32 → cmH → Prop} {KV : cmH → Prop} {T : Nat → Nat} {n : Nat}
def lt6 (x3 x4 x5 x6 x7 x8 : Int32) (c : Nat) : Int32 := if c = 112 then x3 else if c = 104 then x4 else if c = 111 then x5 else if c = 105 then x6 else if c = 110 then x7 else x8
theorem c_letters {x3 x4 x5 x6 x7 x8 : Int32} (L : LY h) (k : ∀ h', XI h h' (fun b _ => b = 10) → (∀ c, isL c → cm_I h' 10 (lx c) = lt6 x3 x4 x5 x6 x7 x8 c) → KV h') : cm_cv sc d 64 [.ref 9, .int x3, .int x4, .int x5, .int x6, .int x7, .int x8] h KV := by
  refine cv_of rfl (s64_0 L _ _ _ _ _ _ ⟨rfl, k _ ?_ (fun c q => ?_)⟩)
  · have X0 : XI h h (fun b _ => b = 10) := XI.refl
    have X1 := X0.set (a := 10) (k := 0) (v := x3) rfl
    have X2 := X1.set (a := 10) (k := 1) (v := x4) rfl
    have X3 := X2.set (a := 10) (k := 2) (v := x5) rfl
    have X4 := X3.set (a := 10) (k := 3) (v := x6) rfl
    have X5 := X4.set (a := 10) (k := 4) (v := x7) rfl
    exact X5.set (a := 10) (k := 5) (v := x8) rfl
  · unfold isL at q
    rcases q with rfl | rfl | rfl | rfl | rfl | rfl
    · show cm_I _ 10 0 = x3
      rw [sI_o (Or.inr (by decide)), sI_o (Or.inr (by decide)), sI_o (Or.inr (by decide)), sI_o (Or.inr (by decide)), sI_o (Or.inr (by decide)), sI_s]
    · show cm_I _ 10 1 = x4
      rw [sI_o (Or.inr (by decide)), sI_o (Or.inr (by decide)), sI_o (Or.inr (by decide)), sI_o (Or.inr (by decide)), sI_s]
    · show cm_I _ 10 2 = x5
      rw [sI_o (Or.inr (by decide)), sI_o (Or.inr (by decide)), sI_o (Or.inr (by decide)), sI_s]
    · show cm_I _ 10 3 = x6
      rw [sI_o (Or.inr (by decide)), sI_o (Or.inr (by decide)), sI_s]
    · show cm_I _ 10 4 = x7
      rw [sI_o (Or.inr (by decide)), sI_s]
    · show cm_I _ 10 5 = x8
      rw [sI_s]
theorem c_tell {a : Nat} {x : Int32} (L : LY h) (F : FL h a) (k : ∀ h', XI h h' (fun b _ => b = 10) → (∀ c, isL c → cm_I h' 10 (lx c) = lt6 (cm_I h a 12) (cm_I h a 9) (cm_I h a 13) x (cm_I h a 10) (cm_sum (cm_I h (a + 2)) 8) c) → KV h') : cm_cv sc (d + 1) 63 [.ref a, .ref 9, .int x] h KV :=
  cv_of rfl (s63_0 _ _ ⟨F, c_cakeInAll F (s63_22 L _ _ _ _ _ _ _ _ (c_letters L (fun h' X e => s63_25 _ _ ⟨rfl, k h' X e⟩)))⟩)
theorem ci_det {M : Nat} {as : List Value} {K1 K2 : Int32 → cmH → Prop} (a : cm_ci sc d M as h K1) (b : cm_ci sc d M as h K2) : ∃ x h', K1 x h' ∧ K2 x h' := by
  obtain ⟨f, v, h1, e1, x, ex, k1⟩ := a
  obtain ⟨f2, v2, h2, e2, x2, ex2, k2⟩ := b
  have a1 := cm_fuelN f2 e1
  have a2 := cm_fuelN f e2
  rw [Nat.add_comm f2 f] at a2
  cases a1.symm.trans a2
  cases ex.symm.trans ex2
  exact ⟨x, h1, k1, k2⟩
def WOK (cls : List CL) : Prop := ∀ (lt : Nat → Int32) (l : Nat), l < 256 → (∃ v, WV lt l cls v) ∧ ∀ v v', WV lt l cls v → WV lt l cls v' → v = v'
theorem wok_of {N ta j : Nat} {cls : List CL} {h2 : cmH} (hN : 3000 ≤ N) (L : LY h) (G : TXT h ta T n) (h10 : ta ≠ 10 ∧ ta + 1 ≠ 10) (E : pText T n (pp T n N) 161 0 none = (none, cls)) (L2 : LY h2) (hj : j < 12) (R : RMk h2 j cls) : WOK cls := by
  intro lt l hl
  constructor
  · have g : cm_ci (0, fun _ => 0) 38 65 [.ref 9, .int (nI l), .ref ta] (cm_w h (fun a k => if a = 10 then lt (if k = 0 then 112 else if k = 1 then 104 else if k = 2 then 111 else if k = 3 then 105 else if k = 4 then 110 else 107) else cm_I h a k) (cm_J h)) (fun v _ => WV lt l cls v) := by
      obtain ⟨a, b, c, e, f, g⟩ := G
      refine c_worthOf (T := T) (n := n) (N := N) hN (Nat.le_refl _) hl L.w ⟨a, ?_, c, e, f, fun k hk => ?_⟩ (fun c q => ?_) E (fun v h' _ W => W)
      · show (if ta = 10 then _ else cm_I h ta 1) = _
        rw [if_neg h10.1]; exact b
      · show (if ta + 1 = 10 then _ else cm_I h (ta + 1) k) = _ ∧ _
        rw [if_neg h10.2]; exact g k hk
      · unfold isL at q
        rcases q with rfl | rfl | rfl | rfl | rfl | rfl <;> rfl
    obtain ⟨f, v, h', -, x, -, w⟩ := g
    exact ⟨x, w⟩
  · intro v v' W W'
    have g : ∀ v, WV lt l cls v → cm_ci (0, fun _ => 0) 4 179 [.ref 38, .int (nI j), .int (nI l)] (cm_w h2 (fun a k => if a = 65 then lt k else cm_I h2 a k) (cm_J h2)) (fun x _ => x = v) := fun v W => by
      obtain ⟨a, b, c, e⟩ := R
      exact m_worthBy (d := 0) (lt := lt) (cls := cls) (v := v) L2.w hj hl a b c e (fun c q => rfl) W (fun h' _ => rfl)
    obtain ⟨x, h', e1, e2⟩ := ci_det (g v W) (g v' W')
    exact e1.symm.trans e2
noncomputable def wv (lt : Nat → Int32) (l : Nat) (cls : List CL) : Int32 := Classical.epsilon (fun v => WV lt l cls v)
theorem WOK.s {cls : List CL} (W : WOK cls) {lt : Nat → Int32} {l : Nat} (hl : l < 256) : WV lt l cls (wv lt l cls) := Classical.epsilon_spec (W lt l hl).1
theorem WOK.u {cls : List CL} (W : WOK cls) {lt : Nat → Int32} {l : Nat} (hl : l < 256) {v : Int32} (q : WV lt l cls v) : v = wv lt l cls := (W lt l hl).2 v _ q (W.s hl)
theorem EV.congr {lt lt' : Nat → Int32} {cs : List Nat} {v : Int32} (q : ∀ c, isL c → lt c = lt' c) (E : EV lt cs v) : EV lt' cs v := ⟨E.1, fun sc d h Q R n u L a b c e f => E.2 sc d h Q R n u L a b c e (fun c hc => (f c hc).trans (q c hc).symm)⟩
theorem WV.congr {lt lt' : Nat → Int32} {l : Nat} (q : ∀ c, isL c → lt c = lt' c) : ∀ {cls : List CL} {v : Int32}, WV lt l cls v → WV lt' l cls v
  | [], _, w => w
  | c :: r, v, ⟨b, x, E1, E2, w⟩ => ⟨b, x, E1.congr q, E2.congr q, w.elim Or.inl (fun w => Or.inr ⟨w.1, WV.congr q w.2⟩)⟩
theorem c_worthOf' {ta N l : Nat} {lt : Nat → Int32} {cls : List CL} (hN : 3000 ≤ N) (hd : 38 ≤ d) (hlb : l < 256) (L : LY h) (G : TXT h ta T n) (hl : ∀ c, isL c → cm_I h 10 (lx c) = lt c) (E : pText T n (pp T n N) 161 0 none = (none, cls)) (W : WOK cls) (k : ∀ h', XR h h' → K (wv lt l cls) h') : cm_ci sc d 65 [.ref 9, .int (nI l), .ref ta] h K :=
  c_worthOf hN hd hlb L G hl E (fun v h' X w => by rw [W.u hlb w]; exact k h' X)
theorem m_worthBy' {t l : Nat} {lt : Nat → Int32} {cls : List CL} (L : LY h) (ht : t < 12) (hlb : l < 256) (R : RMk h t cls) (hl : ∀ c, isL c → cm_I h 65 c = lt c) (W : WOK cls) (k : ∀ h', XI h h' (P_ev 0) → K (wv lt l cls) h') : cm_ci sc (d + 4) 179 [.ref 38, .int (nI t), .int (nI l)] h K :=
  m_worthBy L ht hlb R.1 R.2.1 R.2.2.1 R.2.2.2 hl (W.s hlb) k
/-- like XR, with the letters -/
def XL (h h' : cmH) : Prop := (h'.1 = h.1 ∧ h'.2.1 = h.2.1 ∧ h'.2.2.1 = h.2.2.1) ∧ (∀ x k, ¬ (x = 9 ∧ 2 ≤ k ∧ k ≤ 6) → x ≠ 10 → cm_I h' x k = cm_I h x k) ∧ (∀ x k, ¬ (x = 9 ∧ k = 7) → cm_J h' x k = cm_J h x k) ∧ ∀ x k, ¬ (x = 9 ∧ k = 1) → cm_R h' x k = cm_R h x k
theorem XL.refl {h : cmH} : XL h h := ⟨⟨rfl, rfl, rfl⟩, fun _ _ _ _ => rfl, fun _ _ _ => rfl, fun _ _ _ => rfl⟩
theorem XR.l {h h' : cmH} (x : XR h h') : XL h h' := ⟨x.1, fun a k q _ => x.2.1 a k q, x.2.2⟩
theorem XI.l {h h' : cmH} (x : XI h h' (fun b _ => b = 10)) : XL h h' := ⟨by rw [x.1]; exact ⟨rfl, rfl, rfl⟩, fun a k _ q => x.2 a k q, fun a k _ => by rw [x.J], fun a k _ => by rw [x.R]⟩
theorem XL.trans {h h' h'' : cmH} (x : XL h h') (y : XL h' h'') : XL h h'' := ⟨⟨y.1.1.trans x.1.1, y.1.2.1.trans x.1.2.1, y.1.2.2.trans x.1.2.2⟩, fun a k z w => (y.2.1 a k z w).trans (x.2.1 a k z w), fun a k z => (y.2.2.1 a k z).trans (x.2.2.1 a k z), fun a k z => (y.2.2.2 a k z).trans (x.2.2.2 a k z)⟩
/-- the class's texts -/
def CTx (h : cmH) (N Rn : Nat) (ta nn : Nat → Nat) (Tt : Nat → Nat → Nat) (cls : Nat → List CL) : Prop := cm_I h 0 11 = nI Rn ∧ Rn ≤ 12 ∧ ∀ j, j < Rn → cm_R h 8 j = some (ta j) ∧ 88 ≤ ta j ∧ TXT h (ta j) (Tt j) (nn j) ∧ pText (Tt j) (nn j) (pp (Tt j) (nn j) N) 161 0 none = (none, cls j) ∧ WOK (cls j)
def g_worth (Rn j l : Nat) (x1 x2 : Int32) : Prop := j < Rn ∧ x1 = nI j ∧ lab l ∧ x2 = nI l
theorem c_worth {N Rn : Nat} {ta nn : Nat → Nat} {Tt : Nat → Nat → Nat} {cls : Nat → List CL} {x1 x2 x3 x4 x5 x6 x7 x8 : Int32} {o : Nat} {K1 : cmH → Prop} (hN : 3000 ≤ N) (hd : 39 ≤ d) (L : LY h) (G : CTx h N Rn ta nn Tt cls) (y : ∀ j l, g_worth Rn j l x1 x2 → ∀ h', XL h h' → cm_ok h' 14 o 0 ∧ K (wv (lt6 x3 x4 x5 x6 x7 x8) l (cls j)) h') (z : (∀ j l, ¬ g_worth Rn j l x1 x2) → K1 (cm_mk h 19 6)) : cm_c13 sc d [.ref 0, .int x1, .int x2, .int x3, .int x4, .int x5, .int x6, .int x7, .int x8] o h K K1 := by
  obtain ⟨d, rfl⟩ : ∃ e, d = e + 1 := ⟨d - 1, by omega⟩
  have hz : (∀ j l, ¬ g_worth Rn j l x1 x2) → ∀ o9, cm_wp sc (d + 1) 133 33 [some (.ref 0), some (.int x1), some (.int x2), some (.int x3), some (.int x4), some (.int x5), some (.int x6), some (.int x7), some (.int x8), some (va_rf o9)] [] h (fun v h' => (∃ w, v = some (.int w) ∧ cm_ok h' 14 o 0 ∧ K w h') ∨ (v = some (.double 0) ∧ K1 h')) := fun q o9 => s133_33 _ _ _ _ _ _ _ _ _ ⟨by omega, Or.inr ⟨rfl, z q⟩⟩
  obtain ⟨d, rfl⟩ : ∃ e, d = e + 1 := ⟨d - 1, by omega⟩
  have e133 : cm_en 133 [.ref 0, .int x1, .int x2, .int x3, .int x4, .int x5, .int x6, .int x7, .int x8] = [some (.ref 0), some (.int x1), some (.int x2), some (.int x3), some (.int x4), some (.int x5), some (.int x6), some (.int x7), some (.int x8), none] := rfl
  unfold cm_c13
  rw [e133]
  refine s133_0 L _ _ _ _ _ _ _ _ _ (c_rulesAt L G.1 G.2.1 (fun j hj ej => ?_) (fun q => s133_5 _ _ _ _ _ _ _ _ _ none ⟨fun _ => hz (fun j l w => q j w.1 w.2.1) none, fun b eb => (by cases eb)⟩))
  obtain ⟨er, h88, tx, ep, W⟩ := G.2.2 j hj
  rw [er]
  refine s133_5 _ _ _ _ _ _ _ _ _ (some (ta j)) ⟨fun e => (by cases e), fun b eb => ?_⟩
  cases eb
  refine c_inN 1 255 (fun l l1 l2 el => ?_) (fun q => s133_20 L _ _ _ _ _ _ _ _ (some (ta j)) _ ⟨fun _ => hz (fun j' l w => q l (by have := w.2.2.1; unfold lab at this; omega) (by have := w.2.2.1; unfold lab at this; omega) w.2.2.2) _, fun e => absurd rfl e⟩)
  subst el
  have e16 : ((nI l).toUInt32 % 65536).toInt32 = nI l := by
    have : ∀ l, l < 256 → ((nI l).toUInt32 % 65536).toInt32 = nI l := by decide +kernel
    exact this l (by omega)
  refine s133_20 L _ _ _ _ _ _ _ _ (some (ta j)) _ ⟨fun e => absurd e (by decide), fun _ => ⟨by omega, fun q => ?_, fun q => hz (fun j' l' w => ?_) _⟩⟩
  · rw [e16] at q
    have hlab : lab l := Decidable.byContradiction fun w => ix1_n (by omega) w q
    refine c_letters L (fun h1 X1 e1 => s133_59 (X1.ly L) _ _ _ _ _ _ _ _ (some (ta j)) ⟨ta j, rfl, ?_⟩)
    rw [e16]
    have tx1 : TXT h1 (ta j) (Tt j) (nn j) := by
      obtain ⟨a, b, c, e, f, g⟩ := tx
      refine ⟨by rw [X1.1]; exact a, by rw [X1.2 _ _ (by omega)]; exact b, by rw [X1.1]; exact c, by rw [X1.1]; exact e, f, fun k hk => by rw [X1.2 _ _ (by omega)]; exact g k hk⟩
    refine c_worthOf' hN (by omega) (by omega) (X1.ly L) tx1 e1 ep W (fun h2 X2 => s133_70 _ _ _ _ _ _ _ _ (some (ta j)) _ (Or.inl ⟨_, rfl, y j l ⟨hj, ej, hlab, rfl⟩ h2 (X1.l.trans X2.l)⟩))
  · rw [e16] at q
    have el : l' = l := nI_inj (by have := w.2.2.1; unfold lab at this; omega) (by omega) w.2.2.2.symm
    exact q (ix1_y (by rw [← el]; exact w.2.2.1))
theorem m_isLab {x : Int32} (t : ∀ l, lab l → x = nI l → K 1 h) (f : (∀ l, lab l → x ≠ nI l) → K 0 h) : cm_ci sc d 160 [.int x] h K := by
  have y : ∀ l, lab l → x = nI l → cm_wp sc d 160 24 [some (.int x)] [] h (fun v h' => ∃ x, v = some (.int x) ∧ K x h') := fun l a b => s160_24 _ (ai (t l a b))
  refine ci_of rfl (s160_0 _ ⟨fun q => y 119 (Or.inl rfl) q, fun q1 => ⟨fun q => y 114 (Or.inr (Or.inl rfl)) q, fun q2 => ⟨fun q => y 99 (Or.inr (Or.inr (Or.inl rfl))) q, fun q3 => ⟨fun q4 => ai (f ?_), fun q => y 117 (Or.inr (Or.inr (Or.inr rfl))) (Decidable.not_not.mp q)⟩⟩⟩⟩)
  rintro l (rfl | rfl | rfl | rfl)
  · exact q1
  · exact q2
  · exact q3
  · exact q4
/-- the reference's rules -/
def MRu (h : cmH) (Rn : Nat) (cls : Nat → List CL) : Prop := cm_I h 38 34 = nI Rn ∧ Rn ≤ 12 ∧ ∀ j, j < Rn → RMk h j (cls j)
theorem m_worth {Rn : Nat} {cls : Nat → List CL} {x1 x2 x3 x4 x5 x6 x7 x8 : Int32} (L : LY h) (G : MRu h Rn cls) (W : ∀ j, j < Rn → WOK (cls j)) (y : ∀ j l, g_worth Rn j l x1 x2 → ∀ h', XI h h' (fun x k => x = 65 ∨ x = 66 ∨ (x = 38 ∧ (k = 1 ∨ k = 37))) → cm_I h' 38 1 = 0 → K (wv (lt6 x3 x4 x5 x6 x7 x8) l (cls j)) h') (z : (∀ j l, ¬ g_worth Rn j l x1 x2) → K 0 (cm_setI h 38 1 1)) : cm_ci sc (d + 5) 178 [.ref 38, .int x1, .int x2, .int x3, .int x4, .int x5, .int x6, .int x7, .int x8] h K := by
  have hz : (∀ j l, ¬ g_worth Rn j l x1 x2) → cm_wp sc (d + 5) 178 26 [some (.ref 38), some (.int x1), some (.int x2), some (.int x3), some (.int x4), some (.int x5), some (.int x6), some (.int x7), some (.int x8)] [.ref 38] h (fun v h' => ∃ x, v = some (.int x) ∧ K x h') := fun q => s178_26 _ _ _ _ _ _ _ _ (s178_27 L _ _ _ _ _ _ _ _ _ ⟨fun e => absurd rfl e, fun _ => ai (z q)⟩)
  refine ci_of rfl (s178_0 L _ _ _ _ _ _ _ _ (m_inL Rn G.1 (by have := G.2.1; omega) (fun j hj ej => ?_) (fun q => s178_12 _ _ _ _ _ _ _ _ _ ⟨fun _ => hz (fun j l w => q j w.1 w.2.1), fun e => absurd rfl e⟩)))
  refine s178_12 _ _ _ _ _ _ _ _ _ ⟨fun e => absurd e (by decide), fun _ => m_isLab (fun l hl el => ?_) (fun q => s178_19 _ _ _ _ _ _ _ _ _ ⟨fun _ => hz (fun j l w => q l w.2.2.1 w.2.2.2), fun e => absurd rfl e⟩)⟩
  refine s178_19 _ _ _ _ _ _ _ _ _ ⟨fun e => absurd e (by decide), fun _ => s178_27 L _ _ _ _ _ _ _ _ _ ⟨fun _ => ?_, fun e => absurd (by decide) e⟩⟩
  subst ej el
  have X0 : XI h h (fun x k => x = 65 ∨ x = 66 ∨ (x = 38 ∧ (k = 1 ∨ k = 37))) := XI.refl
  have X1 := X0.set (a := 38) (k := 1) (v := 0) (Or.inr (Or.inr ⟨rfl, Or.inl rfl⟩))
  have X2 := ((((((X1.set (a := 65) (k := 112) (v := x3) (Or.inl rfl)).set (a := 65) (k := 104) (v := x4) (Or.inl rfl)).set (a := 65) (k := 111) (v := x5) (Or.inl rfl)).set (a := 65) (k := 105) (v := x6) (Or.inl rfl)).set (a := 65) (k := 110) (v := x7) (Or.inl rfl)).set (a := 65) (k := 107) (v := x8) (Or.inl rfl))
  have hR := G.2.2 j hj
  refine m_worthBy' (lt := lt6 x3 x4 x5 x6 x7 x8) (X2.ly L) (by have := G.2.1; omega) (by unfold lab at hl; omega) ⟨by rw [X2.2 64 _ (by omega)]; exact hR.1, hR.2.1, fun i x hx => by rw [X2.2 63 _ (by omega)]; exact hR.2.2.1 i x hx, hR.2.2.2⟩ (fun c q => ?_) (W j hj) (fun h3 X3 => s178_99 _ _ _ _ _ _ _ _ _ (ai (y j l ⟨hj, rfl, hl, rfl⟩ h3 (X2.trans (X3.mono fun x k q => by unfold P_ev at q; omega)) ?_)))
  · unfold isL at q
    rcases q with rfl | rfl | rfl | rfl | rfl | rfl
    · rw [sI_o (Or.inr (by decide)), sI_o (Or.inr (by decide)), sI_o (Or.inr (by decide)), sI_o (Or.inr (by decide)), sI_o (Or.inr (by decide)), sI_s]; rfl
    · rw [sI_o (Or.inr (by decide)), sI_o (Or.inr (by decide)), sI_o (Or.inr (by decide)), sI_o (Or.inr (by decide)), sI_s]; rfl
    · rw [sI_o (Or.inr (by decide)), sI_o (Or.inr (by decide)), sI_o (Or.inr (by decide)), sI_s]; rfl
    · rw [sI_o (Or.inr (by decide)), sI_o (Or.inr (by decide)), sI_s]; rfl
    · rw [sI_o (Or.inr (by decide)), sI_s]; rfl
    · rw [sI_s]; rfl
  · rw [X3.2 38 1 (by unfold P_ev; omega), sI_o (Or.inl (by decide)), sI_o (Or.inl (by decide)), sI_o (Or.inl (by decide)), sI_o (Or.inl (by decide)), sI_o (Or.inl (by decide)), sI_o (Or.inl (by decide)), sI_s]
end WORTH
