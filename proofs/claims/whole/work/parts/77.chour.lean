/-! ===== an hour of the class, and hours ===== -/
section CHOUR2
variable {sc : cmS} {d : Nat} {h h' : cmH} {Qv : Option Value → cmH → Prop} {N Rn F Q : Nat} {fa C g st pr : Nat → Nat} {cc : Nat → Nat → Nat} {ta nn : Nat → Nat} {Tt : Nat → Nat → Nat} {cls : Nat → List CL} {ro : Nat → Option Nat} {x1 x2 : Int32}
/-- an hour of the class: the heaps between, the sums of the cakes, the widths, the pushes -/
def HC (F Q : Nat) (C fa g st pr : Nat → Nat) (cc : Nat → Nat → Nat) (cls : Nat → List CL) (ro : Nat → Option Nat) (t : Nat) (x y : cmH) : Prop := ∃ (gd gw gs gg gr : cmH) (kc : Nat → Nat) (W : Nat → Nat → Nat) (r : Nat → Int32), Ch (DSr C fa cc cls ro) F 0 (cm_setI x 0 12 (nI (t + 1))) gd ∧ Ch (WSr C fa cc cls ro) F 0 gd gw ∧ CB (cm_I gw) F Q C fa g st pr (t + 1) (10000 * t) ∧ (∀ f, f < F → Zw (cm_I gw) (fa f) ∧ cm_sum (cm_I gw (fa f + 2)) 8 = nI (kc f) ∧ kc f < 2 ^ 30) ∧ SSt gw gs F Q C fa kc cc ∧ SGr gs gg F Q t fa (q_sh (c_w gw C fa kc cc) Q F) (fun s => if Q = 0 then 0 else g s) 8 ∧ (∀ f c, f < F → c < C f → c_wd gg (cc f c) = nI (W f c) ∧ W f c < 2 ^ 31) ∧ CRN gg gr F t C fa st (q_sh (c_w gw C fa kc cc) Q F) cc W (fun f s => q_ld (q_sh (c_w gw C fa kc cc) Q F) (if Q = 0 then 0 else g s) Q F f) r F ∧ (∀ f, f < F → 0 < q_sh (c_w gw C fa kc cc) Q F f → q_push (c_bedv gg (C f) (cc f)) (kc f) (pr f) (q_sh (c_w gw C fa kc cc) Q F f) (r f)) ∧ CLo gr y F fa F
theorem c_hour {t : Nat} (hN : 3000 ≤ N) (hd : 43 ≤ d) (ht : t < 2000) (S : SC h N F Rn C fa cc ta nn Tt cls ro) (G : CB (cm_I h) F Q C fa g st pr t (10000 * t)) (k : ∀ y u, SC y N F Rn C fa cc ta nn Tt cls ro → CB (cm_I y) F Q C fa g st pr (t + 1) (10000 * (t + 1)) → GX h y (MP F C fa cc) → HC F Q C fa g st pr cc cls ro t h y → cm_wp sc d 60 27 [some (.ref 0), some (.int x1), some (.int (x2 + 1)), u] [] y Qv) : cm_wp sc d 60 44 [some (.ref 0), some (.int x1), some (.int x2), some (.int 0)] [] (cm_setI h 0 12 (nI (t + 1))) Qv := by
  obtain ⟨d, rfl⟩ : ∃ e, d = e + 7 := ⟨d - 7, by omega⟩
  have W0 := S.2.2.2.1
  have h8 := S.2.1.2.1
  have X0 : GX h (cm_setI h 0 12 (nI (t + 1))) (MP F C fa cc) := (XI.set (P := MP F C fa cc) XI.refl (Or.inr (Or.inr (Or.inr (Or.inl ⟨rfl, rfl⟩))))).g
  have S0 := S.mp X0
  have G0 : CB (cm_I (cm_setI h 0 12 (nI (t + 1)))) F Q C fa g st pr (t + 1) (10000 * t) := by
    obtain ⟨g1, g2, g3, g4, g5⟩ := G
    refine ⟨sI_s, by rw [sI_o (Or.inl (by decide))]; exact g2, g3, fun s hs => by rw [sI_o (Or.inl (by decide)), sI_o (Or.inl (by decide))]; exact g4 s hs, fun f hf => ?_⟩
    have h88 := W0.1 f hf
    obtain ⟨f1, f2, f3, f4, f5, f6⟩ := g5 f hf
    refine ⟨by rw [sI_o (Or.inl (by omega))]; exact f1, f2, f3, fun e => f4 (by rw [sI_o (Or.inl (by omega))] at e; exact e), by rw [sI_o (Or.inl (by omega))]; exact f5, fun s hs => by rw [sI_o (Or.inl (by omega))]; exact f6 s hs⟩
  refine c_hdec (d := d + 6) (g := g) (st := st) (pr := pr) (Q := Q) hN (by omega) (fun gd Sd Gd Cd => ?_) F 0 _ (Nat.zero_add F) S0 G0 (fun _ c => c)
  refine c_hwash (d := d + 6) (g := g) (st := st) (pr := pr) (Q := Q) hN (by omega) (fun gw Sw Gw Zz Cw => ?_) F 0 gd (Nat.zero_add F) Sd Gd (fun f hf => absurd hf (by omega)) (fun _ c => c)
  obtain ⟨Lw, Fw, FCw, -, CTw, Rw⟩ := id Sw
  obtain ⟨w1, w2, w3, w4, w5⟩ := id Gw
  -- the cakes
  have hk : ∀ f, f < F → ∃ K, cm_sum (cm_I gw (fa f + 2)) 8 = nI K ∧ K < 2 ^ 30 := fun f hf => by
    obtain ⟨K, e, hK⟩ := sum_b 8 (w5 f hf).2.2.2.2.2
    exact ⟨K, e, by omega⟩
  have hkc : ∀ f, f < F → cm_sum (cm_I gw (fa f + 2)) 8 = nI ((cm_sum (cm_I gw (fa f + 2)) 8).toNatClampNeg) ∧ (cm_sum (cm_I gw (fa f + 2)) 8).toNatClampNeg < 2 ^ 30 := fun f hf => by
    obtain ⟨K, e, hK⟩ := hk f hf
    rw [e, nI_clamp (by omega)]; exact ⟨rfl, hK⟩
  generalize ekc : (fun f => (cm_sum (cm_I gw (fa f + 2)) 8).toNatClampNeg) = kc
  have hkc : ∀ f, f < F → cm_sum (cm_I gw (fa f + 2)) 8 = nI (kc f) ∧ kc f < 2 ^ 30 := fun f hf => by rw [← ekc]; exact hkc f hf
  refine c_shareStream (d := d + 1) (Q := Q) Lw Fw FCw W0 w2 w3 hkc (fun f hf => (Zz f hf).1) (fun gs Ss => ?_)
  have Xs : GX gw gs (MP F C fa cc) := Ss.1.g.mono fun _ _ q => P_ss_mp q
  have Ss' := Sw.mp Xs
  have sle : ∀ f, f < F → q_sh (c_w gw C fa kc cc) Q F f ≤ Q := fun f hf => q_sh_le hf
  have ssum : q_ns (q_sh (c_w gw C fa kc cc) Q F) F ≤ Q := q_sh_sum_le
  have s0c : ∀ f, f < F → 0 < q_sh (c_w gw C fa kc cc) Q F f → 0 < C f := fun f hf p => by
    have : cm_I gw (fa f) 18 ≠ 0 := fun z => by
      unfold q_sh c_w at p
      rw [if_pos z, if_pos rfl] at p
      omega
    rw [(Zz f hf).2.2.2] at this
    split at this
    · rename_i e; exact (w5 f hf).2.2.2.1 e
    · exact absurd rfl this
  generalize esh : q_sh (c_w gw C fa kc cc) Q F = sh at sle ssum s0c
  have lo_s : ∀ x k, x < 88 → cm_I gs x k = cm_I gw x k := fun x k hx => Ss.1.2 x k (by rintro ⟨f, hf, q, -⟩; have := W0.1 f hf; omega)
  refine s60_88 Ss'.1 _ _ _ (c_shareGrains (d := d + 3) (Q := Q) (C := C) (cc := cc) (g := g) (sh := sh) Ss'.1 Ss'.2.1 (fun f hf => (Ss'.2.2.1 f hf).1) W0 (by rw [lo_s _ _ (by decide)]; exact w2) w3 (by rw [lo_s _ _ (by decide)]; exact w1) ht (fun s hs => by rw [lo_s _ _ (by decide)]; exact ⟨(w4 s hs).1, (w4 s hs).2.1⟩) (fun f hf => ⟨by rw [(Ss.2 f hf).1, esh], by have := sle f hf; omega⟩) ssum (fun gg Sg => s60_92 _ _ _ ?_))
  have Xg : GX gs gg (MP F C fa cc) := Sg.1.g.mono fun _ _ q => P_sg_mp q
  have Sg' := Ss'.mp Xg
  -- what lies as it did before the shares
  have fa_g : ∀ f e k, f < F → e ≤ 3 → ¬ (e = 0 ∧ (k = 11 ∨ k = 19)) → e ≠ 3 → cm_I gg (fa f + e) k = cm_I gw (fa f + e) k := fun f e k hf he n1 n2 => by
    rw [Sg.1.2 _ _ (fun q => n2 (P_sg_o W0 hf he q).1), Ss.1.2 _ _ (fun q => n1 (P_ss_o W0 hf he q))]
  have cc_g : ∀ f c e k, f < F → c < C f → e ≤ 2 → cm_I gg (cc f c + e) k = cm_I gw (cc f c + e) k := fun f c e k hf hc he => by
    rw [Sg.1.2 _ _ (P_sg_c W0 hf hc he), Ss.1.2 _ _ (P_ss_c W0 hf hc he)]
  have lo_g : ∀ x k, x < 15 → cm_I gg x k = cm_I gw x k := fun x k hx => by
    rw [Sg.1.2 x k (by
      rintro (q | q | ⟨f, hf, q⟩)
      · omega
      · omega
      · have := W0.1 f hf; omega), lo_s x k (by omega)]
  have hW : ∀ f c, f < F → c < C f → c_wd gg (cc f c) = nI (c_wd gg (cc f c)).toNatClampNeg ∧ (c_wd gg (cc f c)).toNatClampNeg < 2 ^ 31 := fun f c hf hc => by
    obtain ⟨m, hm, e⟩ := nI_of (x := c_wd gg (cc f c)) (Int32.not_lt.mpr q_wOf_pos)
    rw [e, nI_clamp hm]; exact ⟨rfl, hm⟩
  generalize eW : (fun f c => (c_wd gg (cc f c)).toNatClampNeg) = W
  have hW : ∀ f c, f < F → c < C f → c_wd gg (cc f c) = nI (W f c) ∧ W f c < 2 ^ 31 := fun f c hf hc => by rw [← eW]; exact hW f c hf hc
  have PR : CRP gg F t C fa kc pr st sh cc W (fun f s => q_ld sh (if Q = 0 then 0 else g s) Q F f) := by
    refine ⟨Sg'.1, Sg'.2.1, Sg'.2.2.1, W0, by rw [lo_g _ _ (by decide)]; exact w1, ht, fun s hs => by rw [lo_g _ _ (by decide)]; exact ⟨(w4 s hs).2.2.1, (w4 s hs).2.2.2⟩, fun f hf => ?_⟩
    obtain ⟨f1, f2, f3, f4, f5, f6⟩ := w5 f hf
    have hs := sle f hf
    refine ⟨?_, by omega, s0c f hf, ?_, f2, f3, ?_, (hkc f hf).2, fun c hc => hW f c hf hc, fun s hs => ⟨?_, ?_⟩⟩
    · have : cm_I gg (fa f + 0) 11 = cm_I gs (fa f + 0) 11 := Sg.1.2 _ _ (fun q => by have := (P_sg_o W0 hf (by decide) q).1; omega)
      rw [Nat.add_zero] at this
      rw [this, (Ss.2 f hf).1, esh]
    · have := fa_g f 0 4 hf (by decide) (by omega) (by decide)
      rw [Nat.add_zero] at this
      rw [this]; exact f1
    · rw [← (hkc f hf).1]
      exact cm_sum_congr fun s _ => fa_g f 2 s hf (by decide) (by omega) (by decide)
    · exact ((Sg.2 s hs).2.2.2.2.2 f hf hs)
    · refine q_ld_le (sle f hf) ?_
      split
      · omega
      · exact (w4 s hs).2.1
  refine c_hrun (d := d) PR (fun gr r Zr Pr => ?_) F 0 gg (fun _ => 0) (Nat.zero_add F) ?_ (fun f hf => absurd hf (by omega))
  case refine_2 =>
    refine ⟨XI.refl, fun f hf => ?_, fun s hs => ?_⟩
    · refine ⟨?_, ?_, ?_, ?_, ?_, fun s hs => ⟨?_, fun _ => rfl⟩, fun c hc => ⟨fun s hs => ?_, ?_⟩⟩ <;> rw [if_neg (fun w => absurd w.1 (by omega))]
    · refine ⟨?_, ?_, rfl, ?_, ?_⟩ <;> (show _ = _ + (0 : Int32); rw [Int32.add_zero])
  have Xr : GX gg gr (MP F C fa cc) := Zr.1.g.mono fun _ _ q => P_cn_mp q
  have Sr' := Sg'.mp Xr
  refine c_hclose (d := d + 4) Sr'.1 Sr'.2.1 (fun f hf => (Sr'.2.2.1 f hf).1) W0.1 (fun f f' hf hf' ne => by have := W0.2.1 f f' hf hf' ne; omega) (fun y Zy => ?_) F 0 gr (Nat.zero_add F) ⟨XI.refl, fun f hf => ⟨fun q => absurd q (by omega), fun _ => ⟨rfl, rfl, rfl⟩⟩⟩
  have Xy : GX gr y (MP F C fa cc) := Zy.1.g.mono fun _ _ q => P_cl_mp q
  have Sy := Sr'.mp Xy
  have chD : ∀ (m i : Nat) (x y : cmH), i + m ≤ F → Ch (DSr C fa cc cls ro) m i x y → GX x y (MP F C fa cc) := by
    intro m
    induction m with
    | zero => intro i x y _ c; rw [show y = x from c]; exact GX.refl
    | succ m ih => intro i x y hm c; obtain ⟨z, a, b⟩ := c; exact (DS.mp a (by omega)).trans (ih (i + 1) z y (by omega) b)
  have chW : ∀ (m i : Nat) (x y : cmH), i + m ≤ F → Ch (WSr C fa cc cls ro) m i x y → GX x y (MP F C fa cc) := by
    intro m
    induction m with
    | zero => intro i x y _ c; rw [show y = x from c]; exact GX.refl
    | succ m ih => intro i x y hm c; obtain ⟨z, a, b⟩ := c; exact (WS.mp a (by omega)).trans (ih (i + 1) z y (by omega) b)
  refine k y _ Sy ?_ (X0.trans ((chD F 0 _ _ (by omega) Cd).trans ((chW F 0 _ _ (by omega) Cw).trans (Xs.trans (Xg.trans (Xr.trans Xy)))))) ⟨gd, gw, gs, gg, gr, kc, W, r, Cd, Cw, Gw, fun f hf => ⟨Zz f hf, hkc f hf⟩, Ss, by rw [esh]; exact Sg, hW, by rw [esh]; exact Zr, by rw [esh]; exact Pr, Zy⟩
  -- the numbers behind the hour
  have lo_r : ∀ x k, x < 15 → cm_I y x k = cm_I gw x k := fun x k hx => by
    rw [Zy.1.2 x k (by rintro ⟨f, hf, q, -⟩; have := W0.1 f hf; omega), Zr.1.2 x k (by
      rintro (q | q | ⟨f, hf, q | q | q | ⟨c, hc, q⟩⟩)
      · omega
      · omega
      · have := W0.1 f hf; omega
      · have := W0.1 f hf; omega
      · have := W0.1 f hf; omega
      · have := (W0.2.2.1 f c hf hc).1; omega), lo_g x k hx]
  refine ⟨by rw [lo_r _ _ (by decide)]; exact w1, by rw [lo_r _ _ (by decide)]; exact w2, w3, fun s hs => by rw [lo_r _ _ (by decide), lo_r _ _ (by decide)]; exact w4 s hs, fun f hf => ?_⟩
  obtain ⟨f1, f2, f3, f4, f5, f6⟩ := w5 f hf
  have e8 : cm_I gr (fa f) 8 = cm_I gw (fa f) 8 := by
    have a := Zr.1.2 (fa f + 0) 8 (fun q => by have := P_cn_o W0 hf (by decide) q; omega)
    have b := fa_g f 0 8 hf (by decide) (by omega) (by decide)
    rw [Nat.add_zero] at a b
    rw [a, b]
  refine ⟨?_, f2, f3, fun e => ?_, ((Zy.2 f hf).1 hf).2.2, fun s hs => ?_⟩
  · have a := Zy.1.2 (fa f + 0) 4 (fun q => by have := P_cl_o W0 hf (by decide) q; omega)
    have b := Zr.1.2 (fa f + 0) 4 (fun q => by have := P_cn_o W0 hf (by decide) q; omega)
    have c := fa_g f 0 4 hf (by decide) (by omega) (by decide)
    rw [Nat.add_zero] at a b c
    rw [a, b, c]; exact f1
  · rw [((Zy.2 f hf).1 hf).2.1] at e
    split at e
    · exact f4 (by rw [← e8]; exact e)
    · exact absurd e (by decide)
  · have a := Zy.1.2 (fa f + 2) s (fun q => by have := P_cl_o W0 hf (by decide) q; omega)
    have c := fa_g f 2 s hf (by decide) (by omega) (by decide)
    rw [a, ((Zr.2.1 f hf).2.2.2.2.2.1 s hs).1]
    obtain ⟨k, ek, hk⟩ := f6 s hs
    have hl := q_ld_le (F := F) (gg := if Q = 0 then 0 else g s) (sle f hf) (by split; omega; exact (w4 s hs).2.1)
    split
    · rw [c, ek, nI_add]; exact ⟨_, rfl, by dsimp only; omega⟩
    · rw [c, ek]; exact ⟨k, rfl, by omega⟩
/-- n hours -/
def HCn (F Q : Nat) (C fa g st pr : Nat → Nat) (cc : Nat → Nat → Nat) (cls : Nat → List CL) (ro : Nat → Option Nat) : Nat → Nat → cmH → cmH → Prop
  | 0, _, x, y => y = x
  | m + 1, t, x, y => ∃ z, HC F Q C fa g st pr cc cls ro t x z ∧ HCn F Q C fa g st pr cc cls ro m (t + 1) z y
theorem c_hours {K : Int32 → cmH → Prop} {t : Nat} {x : Int32} (hN : 3000 ≤ N) (hd : 43 ≤ d) (ht : t ≤ 2000) (S : SC h N F Rn C fa cc ta nn Tt cls ro) (G : CB (cm_I h) F Q C fa g st pr t (10000 * t)) (y : ∀ n, n ≤ 200 → t + n ≤ 2000 → x = nI n → ∀ z, SC z N F Rn C fa cc ta nn Tt cls ro → CB (cm_I z) F Q C fa g st pr (t + n) (10000 * (t + n)) → GX h z (MP F C fa cc) → HCn F Q C fa g st pr cc cls ro n t h z → K (nI (t + n)) z) (z : (∀ n, n ≤ 200 → t + n ≤ 2000 → x ≠ nI n) → K (-1) h) : cm_ci sc d 60 [.ref 0, .int x] h K := by
  obtain ⟨d, rfl⟩ : ∃ e, d = e + 1 := ⟨d - 1, by omega⟩
  refine ci_of rfl (s60_0 _ _ _ (c_inN 0 200 (fun n _ hn en => ?_) (fun q => s60_8 S.1 _ _ _ _ ⟨fun _ => ai (z fun n hn _ => q n (by omega) hn), fun e => absurd rfl e⟩)))
  subst en
  refine s60_8 S.1 _ _ _ _ ⟨fun e => absurd e (by decide), fun _ => ⟨fun q => ?_, fun q => ai (z fun n' hn' ht' e => q ?_)⟩⟩
  case refine_2 =>
    rw [G.1, nI_add]
    have := nI_inj (by omega) (by omega) e
    exact nI_le (b := 2000) (by omega) (by decide)
  rw [G.1, nI_add] at q
  have htn : t + n ≤ 2000 := by
    rcases Nat.lt_or_ge 2000 (t + n) with w | w
    · exact absurd q (nI_ge (a := 2000) w (by omega))
    · exact w
  have k := y n hn htn rfl
  suffices gen : ∀ (m i : Nat) (x : cmH) (u : Option Value), i + m = n → SC x N F Rn C fa cc ta nn Tt cls ro → CB (cm_I x) F Q C fa g st pr (t + i) (10000 * (t + i)) → GX h x (MP F C fa cc) → (∀ y, HCn F Q C fa g st pr cc cls ro m (t + i) x y → HCn F Q C fa g st pr cc cls ro n t h y) → cm_wp sc (d + 1) 60 27 [some (.ref 0), some (.int (nI n)), some (.int (nI i)), u] [] x (fun v h' => ∃ x, v = some (.int x) ∧ K x h') from gen n 0 h _ (Nat.zero_add n) S G GX.refl (fun _ c => c)
  intro m
  induction m with
  | zero =>
    intro i x u hm S G X hc
    obtain rfl : i = n := by omega
    refine s60_27 S.1 _ _ _ ⟨fun _ => ai ?_, fun z => absurd (Int32.le_refl _) z⟩
    rw [G.1]; exact k x S G X (hc x rfl)
  | succ m ih =>
    intro i x u hm S G X hc
    refine s60_27 S.1 _ _ _ ⟨fun z => absurd z (nI_ge (by omega) (by omega)), fun _ => ?_⟩
    rw [G.1, nI_1]
    refine c_hour hN hd (by omega) S G (fun y u Sy Gy Xy Hy => ?_)
    rw [nI_1]
    exact ih (i + 1) y u (by omega) Sy Gy (X.trans Xy) (fun w c => hc w ⟨y, Hy, c⟩)
end CHOUR2
