/-! ===== hours: the reference behind the class ===== -/
section HOURS
variable {sc : cmS} {d : Nat} {KV : cmH → Prop} {N Rn F Q t : Nat} {fa C g st pr : Nat → Nat} {cc : Nat → Nat → Nat} {cls : Nat → List CL} {ro : Nat → Option Nat} {x x' y : cmH}
theorem chD_mp : ∀ (m i : Nat) (x y : cmH), i + m ≤ F → Ch (DSr C fa cc cls ro) m i x y → GX x y (MP F C fa cc)
  | 0, i, x, y, _, c => by rw [show y = x from c]; exact GX.refl
  | m + 1, i, x, y, hm, ⟨z, a, b⟩ => (DS.mp a (by omega)).trans (chD_mp m (i + 1) z y (by omega) b)
theorem chM_q : ∀ (m i : Nat) (x y : cmH), Ch (MDr C cls ro) m i x y → XI x y MHQ
  | 0, i, x, y, c => by rw [show y = x from c]; exact XI.refl
  | m + 1, i, x, y, ⟨z, a, b⟩ => (MDr.q a).trans (chM_q m (i + 1) z y b)
theorem chM_q2 (h10 : ∀ f, f < F → C f ≤ 10) : ∀ (m i : Nat) (x y : cmH), i + m ≤ F → Ch (MDr C cls ro) m i x y → XI x y (MHQ2 F C)
  | 0, i, x, y, _, c => by rw [show y = x from c]; exact XI.refl
  | m + 1, i, x, y, hm, ⟨z, a, b⟩ => (MDr.q2 (by omega) (h10 i (by omega)) a).trans (chM_q2 h10 m (i + 1) z y (by omega) b)
theorem VG.fr {h h' k k' : cmH} (S : SW F C fa cc) (V : VG (cm_I h) (cm_I k)) (X : GX h h' (MP F C fa cc)) (Y : XI k k' MHQ) : VG (cm_I h') (cm_I k') := by
  have lo : ∀ a j, a = 2 ∨ a = 3 ∨ a = 4 ∨ a = 13 ∨ a = 12 → cm_I h' a j = cm_I h a j := fun a j q => X.2.1 a j (MP.lo S (by omega) (by omega) (by omega) (by omega) (by omega))
  have mm : ∀ a j, a = 39 ∨ a = 40 ∨ a = 41 ∨ a = 67 ∨ (a = 38 ∧ j = 48) → cm_I k' a j = cm_I k a j := fun a j q => Y.2 a j (by unfold MHQ; omega)
  refine ⟨fun s hs => ?_, by rw [mm 38 48 (by omega), lo 12 1 (by omega)]; exact V.2⟩
  obtain ⟨a, b, c, e⟩ := V.1 s hs
  exact ⟨by rw [mm 39 s (by omega), lo 2 s (by omega)]; exact a, by rw [mm 40 s (by omega), lo 3 s (by omega)]; exact b, by rw [mm 41 s (by omega), lo 4 s (by omega)]; exact c, by rw [mm 67 s (by omega), lo 13 s (by omega)]; exact e⟩
theorem cm_sum_zero : ∀ n, cm_sum (fun _ => 0) n = 0
  | 0 => rfl
  | n + 1 => by rw [cm_sum_succ, cm_sum_zero n]; decide
theorem c_bedA {h : cmH} {n : Nat} {ca : Nat → Nat} : c_bedv h n ca = bedA (cm_I h) n ca := rfl
/-- an hour of the reference, led by the class's -/
theorem m_hour_rel (ht : t < 2000) (S : SW F C fa cc) (M : MSt y F Rn C cls ro) (R : R0 F Q C fa cc (cm_I x) (cm_I y)) (hx : cm_I x 0 12 = nI t) (H : HC F Q C fa g st pr cc cls ro t x x') (k : ∀ y', XI y y' (MHQ2 F C) → R0 F Q C fa cc (cm_I x') (cm_I y') → cm_I x' 0 12 = nI (t + 1) → KV y') : cm_cv sc (d + 6) 186 [.ref 38] y KV := by
  obtain ⟨gd, gw, gs, gg, gr, kc, W, r, Cd, Cw, Gw, Zk, Ss, Sg, hW, Zr, Pr, Zy⟩ := H
  have h10 : ∀ f, f < F → C f ≤ 10 := fun f hf => (M.2.2.2.1 f hf).2.1
  have hF8 := M.2.2.1
  have hT : cm_I y 38 0 = nI t := R.2.2.2.trans hx
  -- the hour begins
  have X0 : GX x (cm_setI x 0 12 (nI (t + 1))) (MP F C fa cc) := (XI.set (P := MP F C fa cc) XI.refl (Or.inr (Or.inr (Or.inr (Or.inl ⟨rfl, rfl⟩))))).g
  have Y0 : XI y (cm_setI y 38 0 (nI (t + 1))) (MHQ2 F C) := XI.refl.set ⟨Or.inr (Or.inr (Or.inl ⟨rfl, Or.inr rfl⟩)), fun v => by unfold FP at v; omega⟩
  have Rd0 : Rd F Q C fa cc cls ro 0 (cm_I (cm_setI x 0 12 (nI (t + 1)))) (cm_I (cm_setI y 38 0 (nI (t + 1)))) := by
    refine ⟨fun f hf => ?_, fun s hs => ?_, fun t' s w a b c => ?_⟩
    · obtain ⟨v, i, e⟩ := R.1 f hf
      have o1 : ∀ a k, OWN (fa f) (C f) (cc f) a → cm_I (cm_setI x 0 12 (nI (t + 1))) a k = cm_I x a k := fun a k o => sI_o (Or.inl (by have := S.own88 hf o; omega))
      have o2 : ∀ a k, MO f a k → cm_I (cm_setI y 38 0 (nI (t + 1))) a k = cm_I y a k := fun a k o => sI_o (Or.inl (by unfold MO at o; omega))
      refine ⟨v.congr (h10 f hf) o1 o2, i.congr o1, fun q => absurd q (by omega), fun _ => ?_⟩
      rw [o2 60 f (by unfold MO; omega), show cm_I (cm_setI x 0 12 (nI (t + 1))) (fa f) 17 = cm_I x (fa f) 17 from o1 (fa f + 0) 17 (own_a 0 (by decide))]
      exact e
    · have := R.2.1.1 s hs
      simp only [sI_o (Or.inl (show (71 : Nat) ≠ 38 by decide)), sI_o (Or.inl (show (15 : Nat) ≠ 0 by decide)), sI_o (Or.inl (show (16 : Nat) ≠ 0 by decide)), sI_o (Or.inl (show (17 : Nat) ≠ 0 by decide)), sI_o (Or.inl (show (18 : Nat) ≠ 0 by decide)), sI_o (Or.inl (show (19 : Nat) ≠ 0 by decide))]
      exact this
    · rw [sI_o (Or.inl (by decide)), sI_o (Or.inl (by decide))]; exact R.2.1.2 t' s w a b c
  have chM : ∀ (m i : Nat) (x y : cmH), Ch (MDr C cls ro) m i x y → cm_I y 38 0 = cm_I x 38 0 := by
    intro m
    induction m with
    | zero => intro i x y c; rw [show y = x from c]
    | succ m ih =>
      intro i x y c
      obtain ⟨z, a, b⟩ := c
      rw [ih (i + 1) z y b]
      by_cases w : act (C i) (cm_I x 52 i)
      · exact (a.1 w).1.2 38 0 (by unfold P_mr P_mg; omega)
      · rw [a.2 w]
  refine m_hour (k := fun yd => Rd F Q C fa cc cls ro F (cm_I gd) (cm_I yd) ∧ XI y yd (MHQ2 F C) ∧ cm_I yd 38 0 = nI (t + 1)) M hT (fun yd cd => ⟨Rd.chain S h10 F 0 _ _ _ _ (Nat.zero_add F) Rd0 Cd cd, Y0.trans (chM_q2 h10 F 0 _ _ (by omega) cd), by rw [chM F 0 _ _ cd, sI_s]⟩) (fun yd kd yw cw Mw => ?_)
  obtain ⟨Rdd, Yd, e0d⟩ := kd
  have Xd : GX x gd (MP F C fa cc) := X0.trans (chD_mp F 0 _ _ (by omega) Cd)
  have VGd := R.2.2.1.fr S Xd (Yd.mono fun _ _ q => q.1)
  have Rww : Rw F Q C fa cc cls ro F (cm_I gw) (cm_I yw) := Rw.chain S h10 F 0 _ _ _ _ (Nat.zero_add F) ⟨fun f hf => by
    obtain ⟨v, i, e, -⟩ := Rdd.1 f hf
    exact ⟨v, i, fun _ => e hf, fun q => absurd q (by omega)⟩, Rdd.2, VGd⟩ Cw cw
  have chW : ∀ (m i : Nat) (x y : cmH), i + m ≤ F → Ch (MWr C) m i x y → XI x y (fun a k => MHQ2 F C a k ∧ ¬ (a = 38 ∧ k = 0)) := by
    intro m
    induction m with
    | zero => intro i x y _ c; rw [show y = x from c]; exact XI.refl
    | succ m ih =>
      intro i x y hm c
      obtain ⟨z, a, b⟩ := c
      exact XI.trans (MWr.q2 (by omega) (h10 i (by omega)) a) (ih (i + 1) z y (by omega) b)
  have Yw : XI y yw (MHQ2 F C) := Yd.trans ((chW F 0 _ _ (by omega) cw).mono fun _ _ q => q.1)
  obtain ⟨w1, w2, w3, w4, w5⟩ := id Gw
  have e0w : cm_I yw 38 0 = nI (t + 1) := by rw [(chW F 0 _ _ (by omega) cw).2 38 0 (fun q => q.2 ⟨rfl, rfl⟩)]; exact e0d
  have hq : cm_I yw 38 48 = nI Q := Rww.2.2.2.trans w2
  have hn19 : ∀ f, f < F → cm_I gw (fa f) 19 = 0 := fun f hf => (w5 f hf).2.2.2.2.1
  have Zz : ∀ f, f < F → Zw (cm_I gw) (fa f) := fun f hf => (Zk f hf).1
  obtain ⟨c1, c2⟩ := c_flow_sum (kc := kc) (sh := q_sh (c_w gw C fa kc cc) Q F) S hn19 Ss (fun f hf => rfl) Sg Zr Zy
  -- the weights
  have ew : ∀ f, f < F → c_w gw C fa kc cc f = m_w (cm_I yw) C kc f := fun f hf => by
    unfold c_w m_w
    obtain ⟨V, -, -, -⟩ := Rww.1 f hf
    rw [V.1 18 59 (by decide), bed_eq fun c hc => V.2.1 c hc]; rfl
  have esh : ∀ f, f < F → q_sh (m_w (cm_I yw) C kc) Q F f = q_sh (c_w gw C fa kc cc) Q F f := fun f hf => (q_sh_congr ew hf).symm
  have hs0 : ∀ f, f < F → 0 < q_sh (c_w gw C fa kc cc) Q F f → cm_I gw (fa f) 18 ≠ 0 := fun f hf p z => by
    unfold q_sh c_w at p
    rw [if_pos z, if_pos rfl] at p
    omega
  have hsQ : ∀ f, f < F → q_sh (c_w gw C fa kc cc) Q F f ≤ Q := fun f hf => q_sh_le hf
  have hsq : q_ns (q_sh (c_w gw C fa kc cc) Q F) F = 0 ∨ (0 < Q ∧ q_ns (q_sh (c_w gw C fa kc cc) Q F) F = Q) := by
    rcases Nat.eq_zero_or_pos (q_ns (c_w gw C fa kc cc) F) with z | z
    · refine Or.inl ?_
      have := q_ns_le (v := q_sh (c_w gw C fa kc cc) Q F) (B := 0) (n := F) (fun k hk => by rw [q_sh0 z hk]; exact Nat.le_refl _)
      omega
    · have e := q_sh_sum (Q := Q) z
      rcases Nat.eq_zero_or_pos Q with q | q
      · exact Or.inl (by rw [e]; exact q)
      · exact Or.inr ⟨q, e⟩
  refine ⟨fun q => ?_, fun q => ?_⟩
  · -- no stream
    have Q0 : Q = 0 := by
      rw [hq] at q
      rcases Nat.eq_zero_or_pos Q with z | z
      · exact z
      · exact absurd q (nI_ge (a := 0) z (by omega))
    intro w Zi
    have sh0 : ∀ f, f < F → q_sh (c_w gw C fa kc cc) Q F f = 0 := fun f hf => by have := hsQ f hf; omega
    refine k w (Yw.trans (Zi.1.mono fun a j q => ⟨by unfold MHQ; omega, fun v => by unfold FP at v; omega⟩)) (flow_cmp (sh' := q_sh (c_w gw C fa kc cc) Q F) (r' := r) (pt := fun f s => q_ld (q_sh (c_w gw C fa kc cc) Q F) (if Q = 0 then 0 else g s) Q F f) (ys := yw) h10 ht Rww w1 e0w Zz c1 c2 ?_ Zi (fun _ _ => rfl) (fun _ _ _ => rfl) (fun _ _ _ _ _ => rfl) hs0 hsq hsQ) ((c2.2.2 0 12 (by decide)).trans w1)
    have n1 : ∀ f, f < F → ¬ ac1 (q_sh (c_w gw C fa kc cc) Q F) r f := fun f hf w => by have := w.1; rw [sh0 f hf] at this; omega
    have n2 : ∀ f, f < F → ¬ ac2 (q_sh (c_w gw C fa kc cc) Q F) r f := fun f hf w => by have := w.1; rw [sh0 f hf] at this; omega
    have s1 : ∀ v : Nat → Int32, (∀ f, f < F → v f = 0) → cm_sum v F = 0 := fun v q => by
      rw [cm_sum_congr (g := fun _ => 0) q]; exact cm_sum_zero F
    have a0 : all0 (q_sh (c_w gw C fa kc cc) Q F) F := all0_iff.mpr sh0
    refine ⟨XI.refl, fun f hf => ?_, fun s hs => ?_⟩
    · obtain ⟨V, I, -, -⟩ := Rww.1 f hf
      obtain ⟨z11, z12, z13, z18⟩ := Zz f hf
      have nb : ¬ (cm_I yw 59 f ≠ 0 ∧ q_bed (cm_I yw) (C f) f = -1) := by
        rintro ⟨-, q⟩
        rw [bed_eq fun c hc => V.2.1 c hc] at q
        subst Q0
        exact bed_clean (h10 f hf) I (fun c hc => (V.2.1 c hc).2.2.2.1) q
      refine ⟨by rw [V.1 11 56 (by decide), z11, sh0 f hf]; rfl, by rw [if_neg (n1 f hf), V.1 12 57 (by decide), z12], by rw [if_neg (n1 f hf), V.1 13 58 (by decide), z13], by rw [if_neg (fun w => w.elim (n2 f hf) nb)], by rw [if_neg (fun w => n1 f hf w.1)], by rw [if_neg (fun w => n1 f hf w.1)], fun s hs => ⟨by rw [if_neg (n1 f hf)], fun c hc => by rw [if_neg (n1 f hf)]⟩⟩
    · have e1 : nI (if Q = 0 then 0 else g s) = 0 := by rw [if_pos Q0]; rfl
      rw [e1, s1 _ (fun f hf => if_neg (n1 f hf)), s1 _ (fun f hf => if_neg (n2 f hf)), if_pos a0, if_pos a0]
      simp only [Int32.add_zero]
      exact ⟨trivial, trivial, trivial, trivial, trivial, trivial, fun _ _ _ => trivial⟩
  · -- the stream flows
    have Q1 : 1 ≤ Q := by
      rw [hq] at q
      rcases Nat.eq_zero_or_pos Q with z | z
      · exact absurd (by rw [z]; decide) q
      · exact z
    have hFW : FW (cm_I yw) F Q (t + 1) C kc pr st g := by
      refine ⟨Mw.2.1, hF8, hq, Q1, w3, e0w, by omega, fun f hf => ?_, fun s hs => ?_⟩
      · obtain ⟨V, I, -, -⟩ := Rww.1 f hf
        obtain ⟨z11, z12, z13, z18⟩ := Zz f hf
        obtain ⟨f1, f2, f3, f4, f5, f6⟩ := w5 f hf
        refine ⟨(Mw.2.2.2.1 f hf).1, h10 f hf, fun c hc => ?_, ?_, (Zk f hf).2.2, by rw [V.1 4 49 (by decide)]; exact f1, f2, f3, fun q => ?_, by rw [V.1 12 57 (by decide)]; exact z12⟩
        · obtain ⟨-, -, ⟨tk, e5, t1, t2⟩, -⟩ := I.2.2.2 c hc
          rw [(V.2.1 c hc).2.2.1, e5]
          intro e
          have := nI_inj (a := tk) (b := 0) (by omega) (by decide) e
          omega
        · rw [← (Zk f hf).2.1]
          exact cm_sum_congr fun s hs => V.2.2 s hs
        · rw [V.1 18 59 (by decide), z18] at q
          split at q
          · rename_i e; exact f4 e
          · exact absurd rfl q
      · obtain ⟨a, b, c, e⟩ := w4 s hs
        obtain ⟨g1, g2, g3, g4⟩ := Rww.2.2.1 s hs
        exact ⟨by rw [g1]; exact c, e, by rw [g4]; exact a, b⟩
    have cgg : ∀ f c, f < F → c < C f → c_wd gg (cc f c) = c_wd gw (cc f c) := fun f c hf hc => by
      have e : ∀ j, cm_I gg (cc f c) j = cm_I gw (cc f c) j := fun j => by
        have a := Sg.1.2 (cc f c + 0) j (P_sg_c S hf hc (by decide))
        have b := Ss.1.2 (cc f c + 0) j (P_ss_c S hf hc (by decide))
        exact a.trans b
      unfold c_wd
      rw [e, e, e]
    have hWm : ∀ f c, f < F → c < C f → q_width (cm_I yw) f c = nI (W f c) ∧ W f c < 2 ^ 31 := fun f c hf hc => by
      obtain ⟨V, -, -, -⟩ := Rww.1 f hf
      rw [wd_eq (V.2.1 c hc)]
      have := hW f c hf hc
      rw [cgg f c hf hc] at this
      exact this
    refine m_flow Mw.1 hFW hWm (fun ys r' hp Mf => ⟨Mf.1.ly Mw.1, by rw [Mf.1.2 38 24 (by unfold P_fl P_7; omega)]; exact Mw.2.1, fun w Zi => ?_⟩)
    refine k w (Yw.trans ((Mf.1.mono fun a j q => ⟨by unfold P_fl P_7 at q; unfold MHQ; omega, fl_fp q⟩).trans (Zi.1.mono fun a j q => ⟨by unfold MHQ; omega, fun v => by unfold FP at v; omega⟩))) ?_ ((c2.2.2 0 12 (by decide)).trans w1)
    have hg : (fun s => if Q = 0 then 0 else g s) = g := by funext s; rw [if_neg (by omega)]
    refine flow_cmp (gq := fun s => if Q = 0 then 0 else g s) h10 ht Rww w1 e0w Zz c1 c2 (by rw [hg]; exact Mf) Zi esh (fun f hf p => ?_) (fun f s hf hs p => ?_) hs0 hsq hsQ
    · have a := hp f hf (by rw [esh f hf]; exact p)
      have b := Pr f hf p
      rw [esh f hf] at a
      obtain ⟨V, -, -, -⟩ := Rww.1 f hf
      have e : c_bedv gg (C f) (cc f) = q_bed (cm_I yw) (C f) f := by
        rw [bed_eq fun c hc => V.2.1 c hc]
        unfold c_bedv bedA
        exact q_sumN_congr _ 0 0 fun c _ hc => by rw [cgg f c hf (by omega)]; rfl
      rw [e] at b
      exact q_push_uniq a b
    · unfold q_ld
      rw [if_pos p, if_neg (by omega)]
      exact q_part_congr esh hf
theorem m_hours {K : Int32 → cmH → Prop} {n : Nat} (hn : n ≤ 200) (htn : t + n ≤ 2000) (S : SW F C fa cc) (M : MSt y F Rn C cls ro) (R : R0 F Q C fa cc (cm_I x) (cm_I y)) (hx : cm_I x 0 12 = nI t) (H : HCn F Q C fa g st pr cc cls ro n t x x') (k : ∀ y', XI y y' (MHQ2 F C) → R0 F Q C fa cc (cm_I x') (cm_I y') → K (nI (t + n)) y') : cm_ci sc (d + 7) 185 [.ref 38, .int (nI n)] y K := by
  have hT : cm_I y 38 0 = nI t := R.2.2.2.trans hx
  refine ci_of rfl (s185_0 _ _ (m_inN 0 200 (fun n' _ hn' en => ?_) (fun q => absurd rfl (q n (by omega) hn))))
  refine s185_8 M.1 _ _ _ ⟨fun e => absurd e (by decide), fun _ => ⟨fun _ => ?_, fun q => absurd ?_ q⟩⟩
  case refine_2 => rw [hT, nI_add]; exact nI_le (b := 2000) htn (by decide)
  suffices gen : ∀ (m i : Nat) (x y1 : cmH), i + m = n → MSt y1 F Rn C cls ro → R0 F Q C fa cc (cm_I x) (cm_I y1) → cm_I x 0 12 = nI (t + i) → HCn F Q C fa g st pr cc cls ro m (t + i) x x' → XI y y1 (MHQ2 F C) → cm_wp sc (d + 7) 185 27 [some (.ref 38), some (.int (nI n)), some (.int (nI i))] [] y1 (fun v h' => ∃ x, v = some (.int x) ∧ K x h') from gen n 0 x y (Nat.zero_add n) M R hx H XI.refl
  intro m
  induction m with
  | zero =>
    intro i x y1 hm M1 R1 hx1 H1 Y1
    obtain rfl : i = n := by omega
    have ex : x' = x := H1
    subst ex
    refine s185_27 M1.1 _ _ ⟨fun _ => ai ?_, fun z => absurd (Int32.le_refl _) z⟩
    rw [R1.2.2.2.trans hx1]; exact k y1 Y1 R1
  | succ m ih =>
    intro i x y1 hm M1 R1 hx1 H1 Y1
    obtain ⟨z, Hz, Hr⟩ := H1
    refine s185_27 M1.1 _ _ ⟨fun w => absurd w (nI_ge (by omega) (by omega)), fun _ => m_hour_rel (by omega) S M1 R1 hx1 Hz (fun y2 Y2 R2 e2 => s185_36 _ _ ?_)⟩
    rw [nI_1]
    exact ih (i + 1) z y2 (by omega) (M1.x (Y2.mono fun _ _ q => q.1)) R2 e2 Hr (Y1.trans Y2)
theorem m_hours_no {K : Int32 → cmH → Prop} {x : Int32} (L : LY y) (hT : cm_I y 38 0 = nI t) (ht : t ≤ 2000) (q : ∀ n, n ≤ 200 → t + n ≤ 2000 → x ≠ nI n) (k : K (-1) y) : cm_ci sc (d + 7) 185 [.ref 38, .int x] y K := by
  refine ci_of rfl (s185_0 _ _ (m_inN 0 200 (fun n _ hn en => ?_) (fun _ => s185_8 L _ _ _ ⟨fun _ => ai k, fun e => absurd rfl e⟩)))
  refine s185_8 L _ _ _ ⟨fun e => absurd e (by decide), fun _ => ⟨fun w => absurd en (q n hn ?_), fun _ => ai k⟩⟩
  rw [hT, en, nI_add] at w
  rcases Nat.lt_or_ge 2000 (t + n) with z | z
  · exact absurd w (nI_ge (a := 2000) z (by omega))
  · exact z
end HOURS
