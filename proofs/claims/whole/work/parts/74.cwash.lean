/-! ===== the class's wash: one filter ===== -/
section CWASH
variable {sc : cmS} {d : Nat} {h : cmH} {KV : cmH → Prop} {N Rn F : Nat} {fa C : Nat → Nat} {cc : Nat → Nat → Nat} {ta nn : Nat → Nat} {Tt : Nat → Nat → Nat} {cls : Nat → List CL}
def q_cl (x : Int32) : Int32 := if 0 < (if x < 1000 then x else 1000) then (if x < 1000 then x else 1000) else 0
def cgo (I : Nat → Nat → Int32) (b : Nat) (u : Int32) (s : Nat) : Int32 := q_go (I (b + 1) s - I (b + 2) s) (I 4 s) (I 3 s) u
def cst (I : Nat → Nat → Int32) (b s : Nat) : Int32 := q_stay (I (b + 1) s - I (b + 2) s) (I 4 s)
def CWv (I I' : Nat → Nat → Int32) (a n : Nat) (ca : Nat → Nat) (u : Int32) : Prop := (∀ c, c < n → (∀ s, s < 8 → I' (ca c + 1) s = I (ca c + 1) s - cgo I (ca c) u s ∧ I' (ca c + 2) s = I (ca c + 2) s + cst I (ca c) s) ∧ I' (ca c) 2 = I (ca c) 2 - cm_sum (cgo I (ca c) u) 8 ∧ I' (ca c) 4 = q_pore (I (ca c) 4) u (I a 5)) ∧ (∀ s, s < 8 → I' 16 s = I 16 s + (I (a + 2) s + cm_sum (fun c => cgo I (ca c) u s) n) ∧ I' (a + 2) s = 0) ∧ I' a 9 = 0 ∧ I' a 10 = I a 10 + 1
abbrev P_wr (a : Nat) (x k : Nat) : Prop := x = 9 ∨ x = 10 ∨ (x = a ∧ (k = 11 ∨ k = 12 ∨ k = 13 ∨ k = 17 ∨ k = 18))
def WS (g g' : cmH) (a n : Nat) (ca : Nat → Nat) (o : Option Nat) (u : Int32) : Prop := GX g g' (fun x k => P_wr a x k ∨ P_fw a n ca x k) ∧ (cm_I g' a 11 = 0 ∧ cm_I g' a 12 = 0 ∧ cm_I g' a 13 = 0 ∧ cm_I g' a 18 = (if cm_I g a 8 = 1 then 1 else 0) ∧ cm_I g' a 17 = (if cm_I g a 17 ≠ 0 ∨ cm_I g a 8 = 1 then 1 else 0)) ∧ (¬ (cm_I g a 8 = 2 ∧ o ≠ none) → ∀ x k, ¬ P_wr a x k → cm_I g' x k = cm_I g x k) ∧ (cm_I g a 8 = 2 ∧ o ≠ none → CWv (cm_I g) (cm_I g') a n ca u)
theorem c_wash {i : Nat} {o : Option Nat} (hN : 3000 ≤ N) (hd : 42 ≤ d) (L : LY h) (G : FS h F fa) (GC : FC h (fa i) (C i) (cc i)) (S : SP (fa i) (C i) (cc i)) (h88 : 88 ≤ fa i) (CT : CTx h N Rn ta nn Tt cls) (hi : i < F) (er : cm_I h (fa i) 7 = wI o) (ho : ∀ j, o = some j → j < Rn) (k : ∀ g', WS h g' (fa i) (C i) (cc i) o (q_cl (wq (c_lf (cm_I h) (fa i) i) 117 o cls)) → KV g') : cm_cv sc d 71 [.ref 0, .int (nI i)] h KV := by
  obtain ⟨d, rfl⟩ : ∃ e, d = e + 4 := ⟨d - 4, by omega⟩
  have h8 := G.2.1
  have ft : ∀ y k, cm_kd h y = 9 ∨ cm_kd h y = 12 → ¬ P_wr (fa i) y k := by
    rintro y k hk (rfl | rfl | ⟨rfl, -⟩)
    · rw [(ly_k L 9 rfl).1] at hk; omega
    · rw [(ly_k L 10 rfl).1] at hk; omega
    · rw [GC.1.1] at hk; omega
  -- the end of it
  have tail : ∀ (g : cmH) (o3 : Option Nat) (u4 : Option Value), FL g (fa i) → cm_I g (fa i) 8 = cm_I h (fa i) 8 → cm_I g (fa i) 17 = cm_I h (fa i) 17 → GX h g (fun x k => P_wr (fa i) x k ∨ P_fw (fa i) (C i) (cc i) x k) → (¬ (cm_I h (fa i) 8 = 2 ∧ o ≠ none) → ∀ x k, ¬ P_wr (fa i) x k → cm_I g x k = cm_I h x k) → (cm_I h (fa i) 8 = 2 ∧ o ≠ none → CWv (cm_I h) (cm_I g) (fa i) (C i) (cc i) (q_cl (wq (c_lf (cm_I h) (fa i) i) 117 o cls))) → cm_wp sc (d + 4) 71 77 [some (.ref 0), some (.int (nI i)), some (.ref (fa i)), some (va_rf o3), u4] [] g (fun v h' => v = none ∧ KV h') := by
    intro g o3 u4 Fg e8 e17 Xg n1 n2
    have X3 : XI g (cm_setI (cm_setI (cm_setI g (fa i) 11 0) (fa i) 12 0) (fa i) 13 0) (P_wr (fa i)) := ((XI.refl.set (Or.inr (Or.inr ⟨rfl, by omega⟩))).set (Or.inr (Or.inr ⟨rfl, by omega⟩))).set (Or.inr (Or.inr ⟨rfl, by omega⟩))
    have i8 : cm_I (cm_setI (cm_setI (cm_setI g (fa i) 11 0) (fa i) 12 0) (fa i) 13 0) (fa i) 8 = cm_I h (fa i) 8 := by rw [sI_o (Or.inr (by decide)), sI_o (Or.inr (by decide)), sI_o (Or.inr (by decide))]; exact e8
    have i17 : cm_I (cm_setI (cm_setI (cm_setI g (fa i) 11 0) (fa i) 12 0) (fa i) 13 0) (fa i) 17 = cm_I h (fa i) 17 := by rw [sI_o (Or.inr (by decide)), sI_o (Or.inr (by decide)), sI_o (Or.inr (by decide))]; exact e17
    have v11 : cm_I (cm_setI (cm_setI (cm_setI g (fa i) 11 0) (fa i) 12 0) (fa i) 13 0) (fa i) 11 = 0 := by rw [sI_o (Or.inr (by decide)), sI_o (Or.inr (by decide)), sI_s]
    have v12 : cm_I (cm_setI (cm_setI (cm_setI g (fa i) 11 0) (fa i) 12 0) (fa i) 13 0) (fa i) 12 = 0 := by rw [sI_o (Or.inr (by decide)), sI_s]
    have v13 : cm_I (cm_setI (cm_setI (cm_setI g (fa i) 11 0) (fa i) 12 0) (fa i) 13 0) (fa i) 13 = 0 := sI_s
    refine s71_77 _ (some (fa i)) o3 _ ⟨fa i, rfl, Fg, ?_⟩
    rw [i8]
    generalize (cm_setI (cm_setI (cm_setI g (fa i) 11 0) (fa i) 12 0) (fa i) 13 0) = g3 at X3 i8 i17 v11 v12 v13 ⊢
    have F3 := X3.FL Fg
    have fin : ∀ y18 y17 : Int32, y18 = (if cm_I h (fa i) 8 = 1 then 1 else 0) → y17 = (if cm_I h (fa i) 17 ≠ 0 ∨ cm_I h (fa i) 8 = 1 then 1 else 0) → KV (cm_setI (cm_setI g3 (fa i) 18 y18) (fa i) 17 y17) := fun y18 y17 q18 q17 => by
      have X5 : XI g (cm_setI (cm_setI g3 (fa i) 18 y18) (fa i) 17 y17) (P_wr (fa i)) := (X3.set (Or.inr (Or.inr ⟨rfl, by omega⟩))).set (Or.inr (Or.inr ⟨rfl, by omega⟩))
      have o5 : ∀ k, k ≠ 18 → k ≠ 17 → cm_I (cm_setI (cm_setI g3 (fa i) 18 y18) (fa i) 17 y17) (fa i) k = cm_I g3 (fa i) k := fun k a b => by rw [sI_o (Or.inr b), sI_o (Or.inr a)]
      refine k _ ⟨Xg.trans (X5.g.mono fun _ _ q => Or.inl q), ⟨by rw [o5 11 (by decide) (by decide)]; exact v11, by rw [o5 12 (by decide) (by decide)]; exact v12, by rw [o5 13 (by decide) (by decide)]; exact v13, by rw [sI_o (Or.inr (by decide)), sI_s]; exact q18, by rw [sI_s]; exact q17⟩, fun w x j q => by rw [X5.2 x j q]; exact n1 w x j q, fun w => ?_⟩
      obtain ⟨a1, a2, a3, a4⟩ := n2 w
      have J5 : ∀ x k, ¬ P_wr (fa i) x k → cm_I (cm_setI (cm_setI g3 (fa i) 18 y18) (fa i) 17 y17) x k = cm_I g x k := X5.2
      refine ⟨fun c hc => ⟨fun s hs => ⟨?_, ?_⟩, ?_, ?_⟩, fun s hs => ⟨?_, ?_⟩, ?_, ?_⟩
      · have := S.2.1 c hc; rw [J5 _ _ (by unfold P_wr; omega)]; exact ((a1 c hc).1 s hs).1
      · have := S.2.1 c hc; rw [J5 _ _ (by unfold P_wr; omega)]; exact ((a1 c hc).1 s hs).2
      · have := S.2.1 c hc; rw [J5 _ _ (by unfold P_wr; omega)]; exact (a1 c hc).2.1
      · have := S.2.1 c hc; rw [J5 _ _ (by unfold P_wr; omega)]; exact (a1 c hc).2.2
      · rw [J5 _ _ (by unfold P_wr; omega)]; exact (a2 s hs).1
      · rw [J5 _ _ (by unfold P_wr; omega)]; exact (a2 s hs).2
      · rw [J5 _ _ (by unfold P_wr; omega)]; exact a3
      · rw [J5 _ _ (by unfold P_wr; omega)]; exact a4
    have w129 : ∀ y18 y17 : Int32, (y18 = 0 ∨ y18 = 1) → (y17 = 0 ∨ y17 = 1) → y18 = (if cm_I h (fa i) 8 = 1 then 1 else 0) → y17 = (if cm_I h (fa i) 17 ≠ 0 ∨ cm_I h (fa i) 8 = 1 then 1 else 0) → cm_wp sc (d + 4) 71 129 [some (.ref 0), some (.int (nI i)), some (.ref (fa i)), some (va_rf o3), u4] [.int y17, .ref (fa i)] (cm_setI g3 (fa i) 18 y18) (fun v h' => v = none ∧ KV h') := fun y18 y17 b18 b17 q18 q17 => s71_129 _ (some (fa i)) o3 _ _ (some (fa i)) ⟨fa i, rfl, F3, b17, rfl, fin y18 y17 q18 q17⟩
    have w106 : ∀ y18 : Int32, (y18 = 0 ∨ y18 = 1) → y18 = (if cm_I h (fa i) 8 = 1 then 1 else 0) → cm_wp sc (d + 4) 71 106 [some (.ref 0), some (.int (nI i)), some (.ref (fa i)), some (va_rf o3), u4] [.int y18, .ref (fa i)] g3 (fun v h' => v = none ∧ KV h') := fun y18 b18 q18 => by
      refine s71_106 _ (some (fa i)) o3 _ _ (some (fa i)) ⟨fa i, rfl, F3, b18, fa i, rfl, F3, ?_⟩
      rw [sI_o (Or.inr (by decide)), i17, sI_s]
      refine ⟨fun z => s71_124 _ (some (fa i)) o3 _ (some (fa i)) (w129 y18 1 b18 (Or.inr rfl) q18 (by rw [if_pos (Or.inl z)])), fun z => ⟨fun z2 => w129 y18 0 b18 (Or.inl rfl) q18 ?_, fun z2 => s71_124 _ (some (fa i)) o3 _ (some (fa i)) (w129 y18 1 b18 (Or.inr rfl) q18 ?_)⟩⟩
      · rw [if_neg]
        rintro (w | w)
        · exact z w
        · rw [if_pos w] at q18; rw [q18] at z2; exact absurd z2 (by decide)
      · rw [if_pos]
        refine Or.inr (Decidable.byContradiction fun w => z2 ?_)
        rw [if_neg w] at q18; exact q18
    exact ⟨fun z => w106 0 (Or.inl rfl) (by rw [if_neg z]), fun z => w106 1 (Or.inr rfl) (by rw [if_pos (Decidable.not_not.mp z)])⟩
  have t0 : ∀ (o3 : Option Nat) (u4 : Option Value), ¬ (cm_I h (fa i) 8 = 2 ∧ o ≠ none) → cm_wp sc (d + 4) 71 77 [some (.ref 0), some (.int (nI i)), some (.ref (fa i)), some (va_rf o3), u4] [] h (fun v h' => v = none ∧ KV h') := fun o3 u4 q => tail h o3 u4 GC.1 rfl rfl GX.refl (fun _ _ _ _ => rfl) (fun w => absurd w q)
  refine cv_of rfl (s71_0 L _ _ _ _ (c_filterI L G hi (s71_5 L _ _ _ _ (some (fa i)) ⟨fun e => (by cases e), fun b eb => ?_⟩)))
  cases eb
  refine ⟨GC.1, ?_⟩
  rw [er]
  refine c_rulesAt L CT.1 CT.2.1 (fun j hj ej => ?_) (fun q => s71_19 L _ (some (fa i)) _ _ none ⟨fa i, rfl, GC.1, fun z => t0 none _ (fun w => z w.1), fun z => ⟨fun _ => t0 none _ (fun w => ?_), fun b eb => (by cases eb)⟩⟩)
  case refine_2 =>
    cases o with
    | none => exact w.2 rfl
    | some j => exact absurd rfl (q j (ho j rfl))
  have eo : o = some j := by
    cases o with
    | none => exact absurd ej.symm (nI_m (by have := CT.2.1; omega))
    | some j' =>
      have := ho j' rfl
      have h12 := CT.2.1
      rw [nI_inj (by omega) (by omega) ej]
  subst eo
  obtain ⟨er1, t88, tx1, ep, W⟩ := CT.2.2 j hj
  rw [er1]
  refine s71_19 L _ (some (fa i)) _ _ (some (ta j)) ⟨fa i, rfl, GC.1, fun z => t0 (some (ta j)) _ (fun w => z w.1), fun z => ⟨fun e => (by cases e), fun b eb => ?_⟩⟩
  cases eb
  have z2 := Decidable.not_not.mp z
  refine c_tell L GC.1 (fun h2 X2 lt2 => ?_)
  have X2' : GX h h2 (P_wr (fa i)) := X2.g.mono fun x k q => Or.inr (Or.inl q)
  have L2 := X2'.ly L
  have CT2 := X2'.CTx L CT ft (by unfold P_wr; omega)
  have elt : ∀ c, isL c → cm_I h2 10 (lx c) = c_lf (cm_I h) (fa i) i c := fun c q => lt2 c q
  refine s71_41 L2 _ (some (fa i)) (some (ta j)) _ ⟨ta j, rfl, c_worthOf' (l := 117) hN (by omega) (by decide) L2 (CT2.2.2 j hj).2.2.1 elt ep W (fun h3 X3 => ?_)⟩
  have X3' : GX h h3 (P_wr (fa i)) := X2'.trans (X3.l.g.mono fun x k q => q.elim Or.inl (fun w => Or.inr (Or.inl w)))
  have L3 := X3'.ly L
  have F3 := X3'.FL L GC.1
  have G3 : FC h3 (fa i) (C i) (cc i) := X3'.FC L GC (by unfold P_wr; omega) (fun c hc => by have := S.2.1 c hc; unfold P_wr; omega)
  refine s71_51 L3 _ (some (fa i)) (some (ta j)) _ _ ⟨fa i, rfl, F3, c_filterWash L3 G3 S (fun h4 Z4 => ?_)⟩
  obtain ⟨⟨X4, zc, -⟩, zs, z9, z10⟩ := Z4
  have L4 := X4.ly L3
  have f8 : ¬ P_fw (fa i) (C i) (cc i) (fa i) 8 := by
    rintro (q | q | q | ⟨c, hc, q⟩)
    · omega
    · omega
    · omega
    · have := S.2.1 c hc; unfold P_cw at q; omega
  have f17 : ¬ P_fw (fa i) (C i) (cc i) (fa i) 17 := by
    rintro (q | q | q | ⟨c, hc, q⟩)
    · omega
    · omega
    · omega
    · have := S.2.1 c hc; unfold P_cw at q; omega
  have k3 : ∀ k, cm_I h3 (fa i) k = cm_I h (fa i) k := fun k => by rw [X3.2.1 _ _ (by omega), X2.2 _ _ (by omega)]
  have I3 : ∀ x k, x ≠ 9 → x ≠ 10 → cm_I h3 x k = cm_I h x k := fun x k a b => by rw [X3.2.1 _ _ (by omega), X2.2 _ _ b]
  have ecg : ∀ c, c < C i → ∀ u s, c_go h3 (cc i c) u s = cgo (cm_I h) (cc i c) u s := fun c hc u s => by
    have := S.2.1 c hc
    unfold c_go cgo
    rw [I3 _ _ (by omega) (by omega), I3 _ _ (by omega) (by omega), I3 4 _ (by decide) (by decide), I3 3 _ (by decide) (by decide)]
  refine tail h4 (some (ta j)) _ (X4.FL F3) (by rw [X4.2 _ _ f8, k3]) (by rw [X4.2 _ _ f17, k3]) ((X3'.mono fun _ _ q => Or.inl q).trans (X4.g.mono fun _ _ q => Or.inr q)) (fun w => absurd ⟨z2, fun e => by cases e⟩ w) (fun _ => ?_)
  refine ⟨fun c hc => ?_, fun s hs => ⟨?_, (zs s hs).2⟩, z9, by rw [z10, k3]⟩
  · have := S.2.1 c hc
    obtain ⟨y1, y2, y3⟩ := zc c hc
    refine ⟨fun s hs => ⟨?_, ?_⟩, ?_, ?_⟩
    · rw [(y1 s hs).1, I3 _ _ (by omega) (by omega), ecg c hc]; rfl
    · rw [(y1 s hs).2, I3 _ _ (by omega) (by omega)]
      congr 1
      unfold c_st cst
      rw [I3 _ _ (by omega) (by omega), I3 _ _ (by omega) (by omega), I3 4 _ (by decide) (by decide)]
    · rw [y2, I3 _ _ (by omega) (by omega), (show ∀ u, cm_sum (c_go h3 (cc i c) u) 8 = cm_sum (cgo (cm_I h) (cc i c) u) 8 from fun u => cm_sum_congr fun s _ => ecg c hc u s)]; rfl
    · rw [y3, I3 _ _ (by omega) (by omega), k3]; rfl
  · rw [(zs s hs).1, I3 16 s (by decide) (by decide), I3 (fa i + 2) s (by omega) (by omega), (show ∀ u, cm_sum (fun c => c_go h3 (cc i c) u s) (C i) = cm_sum (fun c => cgo (cm_I h) (cc i c) u s) (C i) from fun u => cm_sum_congr fun c hc => ecg c hc u s)]; rfl
end CWASH
