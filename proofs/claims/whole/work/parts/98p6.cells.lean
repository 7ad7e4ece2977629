/-! ===== instructions that read, write or make cells ===== -/
section CMA
variable {p : Program} {l : Launch} {e : Env} {R : Room} {s : State} {m : MethodId} {args : Array Value} {below : List Frame} {meth : Method} {c : Code} {H : Heap} {locs : List Loc} {cells slots : Nat} {Q : State → Prop}
variable {M base : Nat} {D : va_G} {aC : Nat → ClassId} {ex : Nat → Nat} {sc : cmS} {h h' : cmH} {pc nL : Nat} {ls : Array Slot} {rest : List Value}
/-- the world's element of an object -/
theorem cm_el_obj {a : Nat} (hk : cm_kd h a < 12) : cm_el base aC h a = .inr (cm_kd h a, (List.range (cm_N (cm_kd h a))).map fun k => cm_tr base (fun _ => 0) (cm_gv h (cm_ty (cm_kd h a) k) a k)) := by unfold cm_el; rw [if_pos hk]
theorem cm_el_I {a : Nat} (hk : cm_kd h a = 12 ∨ cm_kd h a = 13 ∨ cm_kd h a = 15) : cm_el base aC h a = .inl (aC (cm_kd h a), cm_ln h a, .inl (cm_I h a)) := by
  unfold cm_el; rw [if_neg (by omega), if_neg (by omega), if_neg (by omega), if_neg (by omega)]
theorem cm_el_J {a : Nat} (hk : cm_kd h a = 14) : cm_el base aC h a = .inl (aC 14, cm_ln h a, .inr (.inl (cm_J h a))) := by
  unfold cm_el; rw [if_neg (by omega), if_pos hk]
theorem cm_el_R {a : Nat} (hk : 16 ≤ cm_kd h a) (h19 : ¬ cm_kd h a = 19 := by omega) : cm_el base aC h a = .inl (aC (cm_kd h a), cm_ln h a, .inr (.inr (.inr (.inr fun j => (cm_R h a j).map (base + ·))))) := by
  unfold cm_el; rw [if_neg (by omega), if_neg (by omega), if_neg h19, if_pos hk]
theorem cm_gv_ref (base : Nat) (ex : Nat → Nat) (ty : FieldType) (a k : Nat) : cm_tr base ex (cm_gv h ty a k) = cm_tr base (fun _ => 0) (cm_gv h ty a k) := by
  unfold cm_gv
  cases ty <;> first | rfl | (cases cm_R h a k <;> rfl)
theorem cm_trq (o : Option Nat) : cm_tr base ex (va_rf o) = va_rf (o.map (base + ·)) := by cases o <;> rfl
theorem cm_vpin {i : Int32} {n : Nat} (h1 : ¬ i < 0) (h2 : i.toNatClampNeg < n) : vp_in i n := fun q => by
  rcases q with q | q
  · exact h1 q
  · omega
/-- getfield -/
theorem cm_getf (F : cm_fix p s m args meth c M base D aC ex sc) (hrel : cm_rel base D aC h H) {ix ci k a : Nat} {nest : Bool} (hf : cm_fld (cm_M M).2.1 ix = some (ci, k, nest)) (hk : cm_kd h a = ci) (ha : a < cm_n h) (hd : decode (cm_M M).2.2.1 pc = .ok (.getfield ix, 3))
    (kk : W p l e R s m args below meth c H locs cells slots Q (F0 m (pc + 3) ls (cm_tr base ex (cm_gv h (cm_ty ci k) a k) :: rest))) : W p l e R s m args below meth c H locs cells slots Q (F0 m pc ls (.ref (base + a) :: rest)) := by
  obtain ⟨hx, hb, hml, hr, hown, hts, hlo, hnm, henv, hbs, hsc⟩ := F
  obtain ⟨h1, h2, h3, h4⟩ := cm_fld_spec hf
  obtain ⟨g1, g2, g3, g4, g5⟩ := cm_class h1
  subst hk
  have he := cm_ws_get (base := base) (aC := aC) ha
  rw [cm_el_obj h1] at he
  have hv : ((List.range (cm_N (cm_kd h a))).map fun k => cm_tr base (fun _ => 0) (cm_gv h (cm_ty (cm_kd h a) k) a k))[k]? = some (cm_tr base ex (cm_gv h (cm_ty (cm_kd h a) k) a k)) := by simp [h2, cm_gv_ref base ex]
  cases nest with
  | false => exact va_get hx hb hts g2 hown henv.1 hrel a he g1 k h2 (hts _ (h3 rfl)) (fun _ q => q) hv hd kk
  | true => exact va_getN hx hb hts g2 hown henv.1 hrel a he g1 k h2 (va_Nw.use rfl (henv.2.1 _ (h4 rfl))) (fun _ q => q) hv hd kk
theorem cm_narC {x : Int32} (h1 : 0 ≤ x) (h2 : x ≤ 65535) : narrow .char (.int x) = .int x := by
  obtain ⟨j, hj, rfl⟩ := nI_of2 (n := 65535) (M := 65535) rfl (Int32.not_lt.mpr h1) h2
  exact (pk_charN (by omega)).1
/-- a slot written -/
theorem cm_pv_spec {ty : FieldType} {a k : Nat} {v : Value} (q : cm_pv h ty a k v = some h') : cm_n h' = cm_n h ∧ cm_sl h' = cm_sl h ∧ cm_kd h' = cm_kd h ∧ cm_ln h' = cm_ln h ∧ cm_tr base ex (cm_gv h' ty a k) = cm_tr base ex v ∧ (∀ b j, ¬ (b = a ∧ j = k) → cm_I h' b j = cm_I h b j ∧ cm_J h' b j = cm_J h b j ∧ cm_R h' b j = cm_R h b j) ∧ narrow ty (cm_tr base ex v) = cm_tr base ex v ∧ fits ty (cm_tr base ex v) = true := by
  unfold cm_pv at q
  split at q
  all_goals first
    | (cases q
       exact ⟨rfl, rfl, rfl, rfl, by simp [cm_gv, cm_J, cm_setJ, cm_R, cm_setR, cm_I, cm_setI, cm_u2, cm_tr, va_rf], fun b j hbj => ⟨by simp [cm_I, cm_setI, cm_setJ, cm_setR, cm_u2, hbj], by simp [cm_J, cm_setI, cm_setJ, cm_setR, cm_u2, hbj], by simp [cm_R, cm_setI, cm_setJ, cm_setR, cm_u2, hbj]⟩, by simp [cm_tr, narrow], by simp [cm_tr, fits]⟩)
    | skip
  · obtain ⟨hc, hq⟩ := cm_if_inv q
    cases hq
    refine ⟨rfl, rfl, rfl, rfl, by simp [cm_gv, cm_I, cm_setI, cm_u2, cm_tr], fun b j hbj => ⟨by simp [cm_I, cm_setI, cm_u2, hbj], by simp [cm_J, cm_setI], by simp [cm_R, cm_setI]⟩, ?_, ?_⟩
    · rcases hc with rfl | rfl <;> rfl
    · rcases hc with rfl | rfl <;> rfl
  · obtain ⟨hc, hq⟩ := cm_if_inv q
    cases hq
    refine ⟨rfl, rfl, rfl, rfl, by simp [cm_gv, cm_I, cm_setI, cm_u2, cm_tr], fun b j hbj => ⟨by simp [cm_I, cm_setI, cm_u2, hbj], by simp [cm_J, cm_setI], by simp [cm_R, cm_setI]⟩, ?_, ?_⟩
    · exact cm_narC hc.1 hc.2
    · simp [cm_tr, fits, hc.1, hc.2]
  · cases q
theorem cm_gv_eq {ty : FieldType} {b j : Nat} (hI : cm_I h' b j = cm_I h b j) (hJ : cm_J h' b j = cm_J h b j) (hR : cm_R h' b j = cm_R h b j) : cm_gv h' ty b j = cm_gv h ty b j := by
  unfold cm_gv; rw [hI, hJ, hR]
theorem cm_el_eq {b : Nat} (hk : cm_kd h' b = cm_kd h b) (hln : cm_ln h' b = cm_ln h b) (hI : ∀ j, cm_I h' b j = cm_I h b j) (hJ : ∀ j, cm_J h' b j = cm_J h b j) (hR : ∀ j, cm_R h' b j = cm_R h b j) : cm_el base aC h' b = cm_el base aC h b := by
  have e1 : cm_I h' b = cm_I h b := funext hI
  have e2 : cm_J h' b = cm_J h b := funext hJ
  have e3 : cm_R h' b = cm_R h b := funext hR
  unfold cm_el cm_gv
  simp only [hk, hln, e1, e2, e3]
/-- putfield -/
theorem cm_putf (F : cm_fix p s m args meth c M base D aC ex sc) (hrel : cm_rel base D aC h H) (hS : va_S (fun q => base ≤ q) s.heap H locs) {ix ci k a : Nat} {nest : Bool} {v : Value} (hf : cm_fld (cm_M M).2.1 ix = some (ci, k, nest)) (hk : cm_kd h a = ci) (ha : a < cm_n h) (hfin : (cm_T ci k).2.2.2 = false ∨ ((cm_M M).1.name = "<init>" ∧ (cm_M M).2.1 = ci ∧ nest = false)) (hpv : cm_pv h (cm_ty ci k) a k v = some h') (hd : decode (cm_M M).2.2.1 pc = .ok (.putfield ix, 3))
    (kk : ∀ (H' : Heap) (locs' : List Loc), cm_rel base D aC h' H' → va_S (fun q => base ≤ q) s.heap H' locs' → W p l e R s m args below meth c H' locs' cells slots Q (F0 m (pc + 3) ls rest)) : W p l e R s m args below meth c H locs cells slots Q (F0 m pc ls (cm_tr base ex v :: .ref (base + a) :: rest)) := by
  obtain ⟨hx, hb, hml, hr, hown, hts, hlo, hnm, henv, hbs, hsc⟩ := F
  obtain ⟨h1, h2, h3, h4⟩ := cm_fld_spec hf
  obtain ⟨g1, g2, g3, g4, g5⟩ := cm_class h1
  subst hk
  obtain ⟨p1, p2, p3, p4, p5, p6, p7, p8⟩ := cm_pv_spec (base := base) (ex := ex) hpv
  have he := cm_ws_get (base := base) (aC := aC) ha
  rw [cm_el_obj h1] at he
  have hset : (cm_ws base aC h).set a (base + a, .inr (cm_kd h a, ((List.range (cm_N (cm_kd h a))).map fun k => cm_tr base (fun _ => 0) (cm_gv h (cm_ty (cm_kd h a) k) a k)).set k (cm_tr base ex v))) = cm_ws base aC h' := by
    refine cm_ws_set p1 ?_ (fun b hb => cm_el_eq (by rw [p3]) (by rw [p4]) (fun j => (p6 b j (fun q => hb q.1)).1) (fun j => (p6 b j (fun q => hb q.1)).2.1) (fun j => (p6 b j (fun q => hb q.1)).2.2))
    rw [cm_el_obj (by rw [p3]; exact h1), p3]
    refine congrArg (fun z => Sum.inr (cm_kd h a, z)) (cm_mapset ?_ ?_).symm
    · rw [← p5, cm_gv_ref base ex]
    · intro j hj
      rw [cm_gv_eq (p6 a j (fun q => hj q.2)).1 (p6 a j (fun q => hj q.2)).2.1 (p6 a j (fun q => hj q.2)).2.2]
  have hlen : k < ((List.range (cm_N (cm_kd h a))).map fun k => cm_tr base (fun _ => 0) (cm_gv h (cm_ty (cm_kd h a) k) a k)).length := by simpa using h2
  have kk2 : ∀ (H1 : Heap) (locs1 : List Loc), va_P D cm_cl ((cm_ws base aC h).set a (base + a, .inr (cm_kd h a, ((List.range (cm_N (cm_kd h a))).map fun k => cm_tr base (fun _ => 0) (cm_gv h (cm_ty (cm_kd h a) k) a k)).set k (cm_tr base ex v)))) H1 → va_D (fun q => base ≤ q) ((cm_ws base aC h).set a (base + a, .inr (cm_kd h a, ((List.range (cm_N (cm_kd h a))).map fun k => cm_tr base (fun _ => 0) (cm_gv h (cm_ty (cm_kd h a) k) a k)).set k (cm_tr base ex v)))) → va_S (fun q => base ≤ q) s.heap H1 locs1 → W p l e R s m args below meth c H1 locs1 cells slots Q (F0 m (pc + 3) ls rest) := by
    intro H1 locs1 hP _ hS1
    rw [hset] at hP
    exact kk H1 locs1 hP hS1
  have hda := g3 k h2
  cases nest with
  | false =>
    by_cases hfi : (cm_T (cm_kd h a) k).2.2.2 = false
    · exact va_put hx hb hts g2 (cm_ty (cm_kd h a)) g3 g4 hown henv.1 hrel cm_ws_D hS a he g1 k h2 (hts _ (h3 rfl)) (fun _ q => q) hfi hda p7 p8 hlen hd kk2
    · rcases hfin with q | ⟨q1, q2, q3⟩
      · exact absurd q hfi
      · exact va_putF hx hb hts g2 (cm_ty (cm_kd h a)) g3 g4 hown henv.1 hrel cm_ws_D hS a he g1 k h2 (hts _ (h3 rfl)) (fun _ q => q) (by simpa using hfi) (hnm q1) (by rw [g5 k h2, q2]) hda p7 p8 hlen hd kk2
  | true =>
    rcases hfin with q | ⟨q1, q2, q3⟩
    · exact va_putN hx hb hts g2 (cm_ty (cm_kd h a)) g3 g4 hown henv.1 hrel cm_ws_D hS a he g1 k h2 (va_Nw.use rfl (henv.2.1 _ (h4 rfl))) (fun _ q => q) q hda p7 p8 hlen hd kk2
    · cases q3
/-- arrays of whole numbers: written -/
theorem cm_setI_ws {a i : Nat} {x : Int32} (hk : cm_kd h a = 12 ∨ cm_kd h a = 13 ∨ cm_kd h a = 15) : (cm_ws base aC h).set a (base + a, .inl (aC (cm_kd h a), cm_ln h a, .inl (upd (cm_I h a) i x))) = cm_ws base aC (cm_setI h a i x) := by
  refine cm_ws_set rfl ?_ (fun b hb => cm_el_eq rfl rfl (fun j => by simp [cm_I, cm_setI, cm_u2, hb]) (fun j => rfl) (fun j => rfl))
  rw [cm_el_I (show cm_kd (cm_setI h a i x) a = 12 ∨ cm_kd (cm_setI h a i x) a = 13 ∨ cm_kd (cm_setI h a i x) a = 15 from hk)]
  refine congrArg (fun z => Sum.inl (aC (cm_kd h a), cm_ln h a, Sum.inl z)) (funext fun j => ?_)
  simp [cm_I, cm_setI, cm_u2, upd]
theorem cm_setJ_ws {a i : Nat} {x : Int64} (hk : cm_kd h a = 14) : (cm_ws base aC h).set a (base + a, .inl (aC 14, cm_ln h a, .inr (.inl (vp_updL (cm_J h a) i x)))) = cm_ws base aC (cm_setJ h a i x) := by
  refine cm_ws_set rfl ?_ (fun b hb => cm_el_eq rfl rfl (fun j => rfl) (fun j => by simp [cm_J, cm_setJ, cm_u2, hb]) (fun j => rfl))
  rw [cm_el_J (show cm_kd (cm_setJ h a i x) a = 14 from hk)]
  refine congrArg (fun z => Sum.inl (aC 14, cm_ln h a, Sum.inr (Sum.inl z))) (funext fun j => ?_)
  simp [cm_J, cm_setJ, cm_u2, vp_updL]
theorem cm_setR_ws {a i x : Nat} (hk : 16 ≤ cm_kd h a) (h19 : ¬ cm_kd h a = 19) : (cm_ws base aC h).set a (base + a, .inl (aC (cm_kd h a), cm_ln h a, .inr (.inr (.inr (.inr (va_up (fun j => (cm_R h a j).map (base + ·)) i (some (base + x)))))))) = cm_ws base aC (cm_setR h a i (some x)) := by
  refine cm_ws_set rfl ?_ (fun b hb => cm_el_eq rfl rfl (fun j => rfl) (fun j => rfl) (fun j => by simp [cm_R, cm_setR, cm_u2, hb]))
  rw [cm_el_R (show 16 ≤ cm_kd (cm_setR h a i (some x)) a from hk) (show ¬ cm_kd (cm_setR h a i (some x)) a = 19 from h19)]
  refine congrArg (fun z => Sum.inl (aC (cm_kd h a), cm_ln h a, Sum.inr (Sum.inr (Sum.inr (Sum.inr z))))) (funext fun j => ?_)
  by_cases hj : j = i <;> simp [cm_R, cm_setR, cm_u2, va_up, hj]
theorem cm_rowI_ws {a : Nat} {r : Nat → Int32} (hk : cm_kd h a = 13) : (cm_ws base aC h).set a (base + a, .inl (aC (cm_kd h a), cm_ln h a, .inl r)) = cm_ws base aC (cm_rowI h a r) := by
  refine cm_ws_set rfl ?_ (fun b hb => cm_el_eq rfl rfl (fun j => by simp [cm_I, cm_rowI, cm_row, hb]) (fun j => rfl) (fun j => rfl))
  rw [cm_el_I (Or.inr (Or.inl (show cm_kd (cm_rowI h a r) a = 13 from hk)))]
  refine congrArg (fun z => Sum.inl (aC (cm_kd h a), cm_ln h a, Sum.inl z)) (funext fun j => ?_)
  simp [cm_I, cm_rowI, cm_row]
/-- the heap's size, out of the room -/
theorem cm_sz {g : JFrame} (k : H.size ≤ s.heap.size + cells → W p l e R s m args below meth c H locs cells slots Q g) : W p l e R s m args below meth c H locs cells slots Q g := fun T hT X => k (by rw [← hT]; exact X.heapSize) T hT X
theorem cm_size (hrel : cm_rel base D aC h H) (hS : va_S (fun q => base ≤ q) s.heap H locs) (hbs : base ≤ s.heap.size) (hcn : s.heap.size + cells = base + cm_n h) (hu : H.size ≤ s.heap.size + cells) : H.size = base + cm_n h := by
  by_cases hn : cm_n h = 0
  · have := hS.1
    omega
  · have h1 := (hrel _ _ (cm_ws_get (base := base) (aC := aC) (a := cm_n h - 1) (by omega))).lt
    have h2 : base + (cm_n h - 1) < H.size := h1
    omega
/-- a cell made -/
theorem cm_push {H1 : Heap} {kd ln : Nat} (hrel : cm_rel base D aC h H) (hz : H.size = base + cm_n h) (ho : ∀ q, q < H.size → H1[q]? = H[q]?) (hn : va_at D cm_cl (base + cm_n h, cm_el base aC (cm_mk h kd ln) (cm_n h)) H1) : cm_rel base D aC (cm_mk h kd ln) H1 := by
  unfold cm_rel
  rw [cm_ws_push]
  refine va_P.app (fun k q hq => ?_) (fun k q hq => ?_)
  · exact (hrel k q hq).kept (ho q.1 ((hrel k q hq).lt))
  · have hk : k < 1 := (List.getElem?_eq_some_iff.mp hq).1
    rw [show k = 0 by omega] at hq
    cases hq
    exact hn
theorem cm_pushS {H1 : Heap} (hS : va_S (fun q => base ≤ q) s.heap H locs) (z1 : H1.size = H.size + 1) (ho : ∀ q, q < H.size → H1[q]? = H[q]?) : va_S (fun q => base ≤ q) s.heap H1 locs :=
  ⟨by rw [z1]; exact Nat.le_succ_of_le hS.1, fun q h1 h2 => (ho q (Nat.lt_of_lt_of_le h1 hS.1)).trans (hS.2.1 q h1 h2), hS.2.2⟩
end CMA
