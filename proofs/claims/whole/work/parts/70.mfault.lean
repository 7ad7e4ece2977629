/-! ===== the reference's fault ===== -/
section MFAULT
variable {sc : cmS} {T : Nat → Nat} {n d : Nat} {h : cmH} {K : Int32 → cmH → Prop}
theorem pcs_c {F : PF} {c : Nat} {r : PR} : (pcl.pcs T n F c r).2.2.1 = c := by
  unfold pcl.pcs
  split <;> rfl
theorem pcl_lab {F : PF} {p : Nat} {w : Option Nat} (e : (pcl T n F p w).2.1 = none) : lab (pcl T n F p w).2.2.1 := by
  unfold pcl at e ⊢
  by_cases q : lab (sg T n p w)
  · rw [if_pos q]
    split
    · exact q
    · rw [pcs_c]; exact q
  · rw [if_neg q] at e
    dsimp only at e
    unfold fl at e
    split at e <;> cases e
theorem pcl_len {N p : Nat} (hp : p ≤ n) (e : (pcl T n (pp T n N) p none).2.1 = none) : (flat (pcl T n (pp T n N) p none).2.2).length + 2 * p ≤ 2 * (pcl T n (pp T n N) p none).1 + 1 := by
  rw [flat_len]
  unfold pcl at e ⊢
  have g1 : p ≤ sq T n p := sq_ge
  by_cases q : lab (sg T n p none)
  case neg =>
    rw [if_neg q] at e
    cases e
  rw [if_pos q] at e ⊢
  have hl := (sg_lt (T := T) (n := n) (p := p) (w := none) rfl (by unfold lab at q; omega)).1
  have ge0 := exq_ge (T := T) (n := n) (r := (sq T n p + 1, none, [])) (c := 58) (by decide) hl
  have wl := exq_well (T := T) (n := n) (r := (sq T n p + 1, none, [])) (c := 58)
  dsimp only at ge0 wl
  generalize exq T n (sq T n p + 1, none, []) 58 = r0 at e ge0 wl ⊢
  have gs : sq T n p + 1 ≤ sq T n (sq T n p + 1) := sq_ge
  by_cases y : sg T n r0.1 r0.2.1 = 33 ∨ sg T n r0.1 r0.2.1 = 40
  · rw [if_pos y] at e ⊢
    dsimp only at e ⊢
    have e1 := exq_well (pp_well e)
    have e0 := (pSeq_well e1.1).1
    have w0 := wl e0
    rw [e0] at e e1 ⊢
    have M9 := pSeq_mono (T := T) (n := n) (N := N) (a := 6) (b := 9) (dep := 0) (w := none) ge0.2
    have L9 := pSeq_len' (T := T) (n := n) (N := N) (a := 6) (b := 9) ge0.2 e1.1
    generalize pSeq (pp T n N) 6 9 0 r0.1 none = R at e e1 M9 L9 ⊢
    have hs1 : R.1 ≤ sq T n R.1 := sq_ge
    have hl2 := (sg_lt (T := T) (n := n) (p := R.1) (w := R.2.1) e1.2.1 (by decide)).1
    have ew := pp_well e
    rw [ew, e1.2.2] at e ⊢
    have M4 := pp_mono (T := T) (n := n) N 4 0 (sq T n R.1 + 1) none hl2
    have L4 := pp_len (T := T) (n := n) N 4 0 (sq T n R.1 + 1) none hl2 e
    omega
  · rw [if_neg y] at e ⊢
    unfold pcl.pcs at e ⊢
    have e4 : (pp T n N 4 0 r0.1 r0.2.1).2.1 = none := by
      by_cases z : sg T n (pp T n N 4 0 r0.1 r0.2.1).1 (pp T n N 4 0 r0.1 r0.2.1).2.1 = 61 ∨ sg T n (pp T n N 4 0 r0.1 r0.2.1).1 (pp T n N 4 0 r0.1 r0.2.1).2.1 = 60 ∨ sg T n (pp T n N 4 0 r0.1 r0.2.1).1 (pp T n N 4 0 r0.1 r0.2.1).2.1 = 62
      · rw [if_pos z] at e
        exact (pSeq_well (exq_well (pp_well e)).1).1
      · rw [if_neg z] at e; exact e
    have e0 := pp_well e4
    have w0 := wl e0
    rw [e0] at e e4 ⊢
    have M4 := pp_mono (T := T) (n := n) N 4 0 r0.1 none ge0.2
    have L4 := pp_len (T := T) (n := n) N 4 0 r0.1 none ge0.2 e4
    generalize pp T n N 4 0 r0.1 none = R4 at e e4 M4 L4 ⊢
    by_cases z : sg T n R4.1 R4.2.1 = 61 ∨ sg T n R4.1 R4.2.1 = 60 ∨ sg T n R4.1 R4.2.1 = 62
    · rw [if_pos z] at e ⊢
      dsimp only at e ⊢
      have e1 := exq_well (pp_well e)
      rw [e4] at e e1 ⊢
      have M9 := pSeq_mono (T := T) (n := n) (N := N) (a := 5) (b := 9) (dep := 0) (w := none) M4.2
      have L9 := pSeq_len' (T := T) (n := n) (N := N) (a := 5) (b := 9) M4.2 e1.1
      generalize pSeq (pp T n N) 5 9 0 R4.1 none = R at e e1 M9 L9 ⊢
      have hs1 : R.1 ≤ sq T n R.1 := sq_ge
      have hl2 := (sg_lt (T := T) (n := n) (p := R.1) (w := R.2.1) e1.2.1 (by decide)).1
      have ew := pp_well e
      rw [ew, e1.2.2] at e ⊢
      have M4' := pp_mono (T := T) (n := n) N 4 0 (sq T n R.1 + 1) none hl2
      have L4' := pp_len (T := T) (n := n) N 4 0 (sq T n R.1 + 1) none hl2 e
      rw [List.length_append]
      omega
    · rw [if_neg z]
      dsimp only
      have hs1 : R4.1 ≤ sq T n R4.1 := sq_ge
      rw [show ([0, 1] : List Nat).length = 2 from rfl]
      omega
/-- what a good text leaves -/
def FTk (h h' : cmH) (cs : List Nat) (n : Nat) (r : Option Nat × List CL) : Prop := r.1 = none → cm_I h' 38 33 = nI (cs ++ flats r.2).length ∧ SY h h' 0 (cs ++ flats r.2) ∧ (cs ++ flats r.2).length ≤ 2 * n + 1 ∧ ∀ c, c ∈ r.2 → c.1 < 256
def FBd (n : Nat) (r : Option Nat × List CL) : Prop := ∀ q, r.1 = some q → q ≤ n
theorem m_faultL {N : Nat} (hN : 3000 ≤ N) (hd : 36 ≤ d) (G : RM h T n) : ∀ (m p : Nat) (h1 : cmH) (cs : List Nat) (Q : Option Value → cmH → Prop), n - p < m → p ≤ n → XI h h1 P_m → MA h1 p 0 cs.length → cs.length ≤ 2 * p → SY h h1 0 cs → (∀ h', XI h h' P_m → FTk h h' cs n (pText T n (pp T n N) m p none) → FBd n (pText T n (pp T n N) m p none) → Q (some (.int (wI (pText T n (pp T n N) m p none).1))) h') → cm_cv sc d 158 [.ref 38] h1 (fun h' => cm_wp sc (d + 1) 157 24 [some (.ref 38)] [] h' Q) := by
  have h160 := G.2.2.1
  intro m
  induction m with
  | zero => intro p h1 cs Q hm; omega
  | succ m ih =>
    intro p h1 cs Q hm hp X1 A1 hs S1 k
    have G1 := G.x X1
    have Mp := pcl_mono (T := T) (n := n) (N := N) (w := none) hp
    have Ll := pcl_len (T := T) (n := n) (N := N) hp
    have La := pcl_lab (T := T) (n := n) (F := pp T n N) (p := p) (w := none)
    have ek : pText T n (pp T n N) (m + 1) p none = (if sg T n (pcl T n (pp T n N) p none).1 (pcl T n (pp T n N) p none).2.1 = 59 then ((pText T n (pp T n N) m (sq T n (pcl T n (pp T n N) p none).1 + 1) (pcl T n (pp T n N) p none).2.1).1, (pcl T n (pp T n N) p none).2.2 :: (pText T n (pp T n N) m (sq T n (pcl T n (pp T n N) p none).1 + 1) (pcl T n (pp T n N) p none).2.1).2) else ((if sg T n (pcl T n (pp T n N) p none).1 (pcl T n (pp T n N) p none).2.1 = 0 then (pcl T n (pp T n N) p none).2.1 else fl (pcl T n (pp T n N) p none).2.1 (sq T n (pcl T n (pp T n N) p none).1)), [(pcl T n (pp T n N) p none).2.2])) := rfl
    rw [ek] at k
    refine m_clause (s := cs.length) hN hd G1 hp A1 hs (fun h2 C2 => ?_)
    generalize pcl T n (pp T n N) p none = r at k Mp Ll La C2
    obtain ⟨X2, C2⟩ := C2
    have X2' := X1.trans X2
    have G2 := G.x X2'
    rcases C2 with ⟨en, A2, S2⟩ | ⟨q, eq, i31, hq⟩
    · have Ll := Ll en
      have La := La en
      have La2 : r.2.2.1 < 256 := by unfold lab at La; omega
      have S2' : SY h h2 0 (cs ++ flat r.2.2) := SY.seq S1 (fun _ => rfl) (by rw [Nat.zero_add]; exact S2)
      have g3 : r.1 ≤ sq T n r.1 := sq_ge
      have h3n : sq T n r.1 ≤ n := sq_le Mp.2
      refine s157_24 G2.1 ⟨fun y => absurd A2.2.1 y, fun _ => m_lk G2 Mp.2 A2.1 fun h3 X3 e3 => ?_⟩
      have Y3 := X_lk X3
      have X3' : XI h h3 P_m := X2'.trans (X_m Y3)
      have G3 := G.x X3'
      have A3 := A2.lk X3 e3
      have S3 : SY h h3 0 (cs ++ flat r.2.2) := S2'.x (fun _ => rfl) (fun j => x62 Y3 j)
      have el : (cs ++ flat r.2.2).length = cs.length + (flat r.2.2).length := List.length_append
      rw [← el] at A3
      rw [en] at k
      refine s157_36 G3.1 _ ⟨fun z => ?_, fun z => ?_⟩
      · have nz : ¬ sg T n r.1 none = 59 := fun q => z ((G2.lk (by decide) (by decide)).mpr q)
        rw [if_neg nz] at k
        have A3' : MA h3 (sq T n r.1) 0 (cs ++ flat r.2.2).length := A3
        refine s157_58 G3.1 ⟨fun y => absurd A3.2.1 y, fun _ => m_lk G3 h3n A3.1 fun h4 X4 e4 => ?_⟩
        rw [sq_idem] at e4
        have Y4 := X_lk X4
        have X4' : XI h h4 P_m := X3'.trans (X_m Y4)
        have G4 := G.x X4'
        have A4 := A3.lk X4 e4
        have S4 : SY h h4 0 (cs ++ flat r.2.2) := S3.x (fun _ => rfl) (fun j => x62 Y4 j)
        have c := lk_c (p := sq T n r.1) G3
        rw [sg_sq] at c
        refine s157_70 G4.1 _ ⟨fun z => s157_78 G4.1 ?_, fun z => m_bad G4.1 A4.1 A4.2.1 (s157_78 G4.1.s ?_)⟩
        · have e0 : sg T n r.1 none = 0 := by
            rcases c with c | c
            · exact absurd (c.1.symm.trans z) (nI_m (by omega))
            · exact c.2
          rw [if_pos e0] at k
          rw [A4.2.1]
          refine k h4 X4' (fun _ => ?_) (fun q e => by cases e)
          have ef : cs ++ flats [r.2.2] = cs ++ flat r.2.2 := by
            show cs ++ (flat r.2.2 ++ []) = _
            rw [List.append_nil]
          dsimp only
          rw [ef]
          exact ⟨A4.2.2.2, S4, by omega, fun c hc => by cases List.mem_singleton.mp hc; exact La2⟩
        · have e0 : ¬ sg T n r.1 none = 0 := by
            rcases c with c | c
            · omega
            · exact absurd c.1 z
          rw [if_neg e0] at k
          rw [sI_s]
          exact k _ (X4'.set (Or.inl ⟨rfl, by decide, by decide⟩)) (fun e => by cases e) (fun q e => by cases e; exact h3n)
      · have z59 : sg T n r.1 none = 59 := (G2.lk (by decide) (by decide)).mp (Decidable.not_not.mp z)
        have hl := (sg_lt (T := T) (n := n) (p := r.1) (w := none) z59 (by decide)).1
        rw [if_pos z59] at k
        have X3a : XI h (cm_setI h3 38 30 (cm_I h3 38 30 + 1)) P_m := X3'.trans (X_m X_a)
        have A3a := A3.nx
        have S3a : SY h (cm_setI h3 38 30 (cm_I h3 38 30 + 1)) 0 (cs ++ flat r.2.2) := S3.x (fun _ => rfl) (fun j => sI_o (Or.inl (by decide)))
        refine cv_mono (ih (sq T n r.1 + 1) _ (cs ++ flat r.2.2) Q (by omega) hl X3a A3a (by omega) S3a (fun h' X' F' B' => k h' X' (fun e => ?_) B')) (fun h' w => s157_55 w)
        obtain ⟨f1, f2, f3, f4⟩ := F' e
        have ef : cs ++ flats (r.2.2 :: (pText T n (pp T n N) m (sq T n r.1 + 1) none).2) = cs ++ flat r.2.2 ++ flats (pText T n (pp T n N) m (sq T n r.1 + 1) none).2 := by
          show cs ++ (flat r.2.2 ++ _) = _
          rw [List.append_assoc]
        dsimp only
        rw [ef]
        exact ⟨f1, f2, f3, fun c hc => by
          rcases List.mem_cons.mp hc with e | e
          · rw [e]; exact La2
          · exact f4 c e⟩
    · have n31 : ¬ cm_I h2 38 31 = -1 := by rw [i31]; exact nI_m (by omega)
      rw [eq, sg_some, if_neg (by decide), if_pos rfl] at k
      refine s157_24 G2.1 ⟨fun _ => s157_58 G2.1 ⟨fun _ => s157_78 G2.1 ?_, fun y => absurd n31 y⟩, fun y => absurd n31 y⟩
      rw [i31]
      exact k h2 X2' (fun e => by cases e) (fun q' e => by cases e; exact hq)
theorem m_fault {N : Nat} (hN : 3000 ≤ N) (hd : 37 ≤ d) (G : RM h T n) (k : ∀ h', XI h h' P_m → FTk h h' [] n (pText T n (pp T n N) 161 0 none) → FBd n (pText T n (pp T n N) 161 0 none) → K (wI (pText T n (pp T n N) 161 0 none).1) h') : cm_ci sc d 157 [.ref 38] h K := by
  obtain ⟨d, rfl⟩ : ∃ e, d = e + 1 := ⟨d - 1, by omega⟩
  have h160 := G.2.2.1
  have X1 : XI h (cm_setI (cm_setI (cm_setI (cm_setI h 38 30 0) 38 31 (-1)) 38 32 0) 38 33 0) P_s := (((XI.refl.set ⟨rfl, by decide, by decide⟩).set ⟨rfl, by decide, by decide⟩).set ⟨rfl, by decide, by decide⟩).set ⟨rfl, by decide, by decide⟩
  refine ci_of rfl (s157_0 G.1 (m_faultL hN (by omega) G 161 0 _ [] _ (by omega) (by omega) (X_m X1) ?_ (Nat.le_refl _) (SY.nil fun j hj => absurd hj (by omega)) (fun h' X' F' B' => ai (k h' X' F' B'))))
  refine ⟨?_, ?_, ?_, sI_s⟩
  · rw [sI_o (Or.inr (by decide)), sI_o (Or.inr (by decide)), sI_o (Or.inr (by decide)), sI_s]; rfl
  · rw [sI_o (Or.inr (by decide)), sI_o (Or.inr (by decide)), sI_s]
  · rw [sI_o (Or.inr (by decide)), sI_s]; rfl
/-- where a fault lies, told without a machine: some run of the reference shows it -/
theorem fb_of {N : Nat} (hN : 3000 ≤ N) (G : RM h T n) : FBd n (pText T n (pp T n N) 161 0 none) := by
  obtain ⟨f, v, h', -, x, -, q⟩ := m_fault (sc := (0, fun _ => 0)) (d := 37) (K := fun _ _ => FBd n (pText T n (pp T n N) 161 0 none)) hN (Nat.le_refl _) G (fun _ _ _ B => B)
  exact q
theorem FBd.wI {r : Option Nat × List CL} (B : FBd n r) (hn : n ≤ 160) : wI r.1 = -1 ↔ r.1 = none := wI_n fun q e => by have := B q e; omega
end MFAULT
