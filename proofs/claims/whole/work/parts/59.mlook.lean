/-! ===== the reference's reading: lengths, look, bad, say, number, opens, closes ===== -/
section PLEN
variable {T : Nat → Nat} {n : Nat}
def Len (n : Nat) (F : PF) : Prop := ∀ k dep p w, p ≤ n → (F k dep p w).2.1 = none → (F k dep p w).2.2.length + 2 * p ≤ 2 * (F k dep p w).1
theorem pSeq_len {F : PF} (M : Mono n F) (D : Dead F) (H : Len n F) {a b dep p : Nat} {w : Option Nat} (h : p ≤ n) (e : (pSeq F a b dep p w).2.1 = none) : (pSeq F a b dep p w).2.2.length + 2 * p ≤ 2 * (pSeq F a b dep p w).1 := by
  have e2 : (F b dep (F a dep p w).1 (F a dep p w).2.1).2.1 = none := e
  have e1 : (F a dep p w).2.1 = none := by
    cases y : (F a dep p w).2.1 with
    | none => rfl
    | some q => rw [y, D] at e2; cases e2
  have h1 := H a dep p w h e1
  have h2 := H b dep _ _ (M a dep p w h).2 e2
  show ((F a dep p w).2.2 ++ (F b dep (F a dep p w).1 (F a dep p w).2.1).2.2).length + 2 * p ≤ 2 * (F b dep (F a dep p w).1 (F a dep p w).2.1).1
  rw [List.length_append]; omega
theorem pLoop_len {F : PF} (M : Mono n F) (D : Dead F) (H : Len n F) {a b x y dep p : Nat} {w : Option Nat} (hx : 0 < x) (hy : 0 < y) (h : p ≤ n) (e : (pLoop T n F a b x y dep p w).2.1 = none) : (pLoop T n F a b x y dep p w).2.2.length + 2 * p ≤ 2 * (pLoop T n F a b x y dep p w).1 := by
  have g1 : p ≤ sq T n p := sq_ge
  by_cases z : sg T n p w = x ∨ sg T n p w = y
  · have hl : sq T n p < n := by
      rcases z with z | z
      · exact (sg_lt z hx).1
      · exact (sg_lt z hy).1
    rw [pLoop_y z] at e ⊢
    have e2 : (F b dep (F a dep (sq T n p + 1) w).1 (F a dep (sq T n p + 1) w).2.1).2.1 = none := e
    have e1 : (F a dep (sq T n p + 1) w).2.1 = none := by
      cases y : (F a dep (sq T n p + 1) w).2.1 with
      | none => rfl
      | some q => rw [y, D] at e2; cases e2
    have h1 := H a dep (sq T n p + 1) w hl e1
    have h2 := H b dep _ _ (M a dep (sq T n p + 1) w hl).2 e2
    dsimp only
    rw [List.length_append, List.length_cons]; omega
  · rw [pLoop_n z]; dsimp only; rw [List.length_nil]; omega
theorem exq_len {r : PR} {c : Nat} (e : (exq T n r c).2.1 = none) : (exq T n r c).2.2 = r.2.2 ∧ r.1 + 1 ≤ (exq T n r c).1 := by
  obtain ⟨a, b, c'⟩ := exq_well e
  have := sq_ge (T := T) (n := n) (p := r.1)
  exact ⟨by unfold exq; split <;> rfl, by omega⟩
theorem nu_1 {m p v : Nat} (h : p < n) (h2 : 48 ≤ T p ∧ T p ≤ 57) : p + 1 ≤ (nu T n (m + 1) 0 p v).1 := by
  unfold nu
  rw [if_pos ⟨h, h2⟩, if_pos (by decide)]
  exact (nu_ge m 1 (p + 1) _ h).1
theorem pB_len {F : PF} (M : Mono n F) (D : Dead F) (H : Len n F) : Len n (pB T n F) := by
  intro k dep p w h e
  have g1 : p ≤ sq T n p := sq_ge
  unfold pB at e ⊢
  split at e
  · unfold pAtom at e ⊢
    by_cases y1 : 48 ≤ sg T n p w ∧ sg T n p w ≤ 57
    · obtain ⟨hl, ew, hT⟩ := sg_lt (T := T) (n := n) (p := p) (w := w) rfl (by omega)
      rw [if_pos y1]
      have : sq T n p + 1 ≤ (nu T n 6 0 (sq T n p) 0).1 := nu_1 (T := T) (n := n) (m := 5) (v := 0) hl (by omega)
      show 2 + 2 * p ≤ 2 * (nu T n 6 0 (sq T n p) 0).1
      omega
    · rw [if_neg y1] at e ⊢
      by_cases y2 : isL (sg T n p w)
      · rw [if_pos y2]
        show 2 + 2 * p ≤ 2 * (sq T n p + 1)
        omega
      · rw [if_neg y2] at e ⊢
        by_cases y3 : sg T n p w = 91 ∧ dep < 6
        · have hl := (sg_lt y3.1 (by decide)).1
          rw [if_pos y3] at e ⊢
          obtain ⟨c1, c2⟩ := exq_len e
          have := H 4 (dep + 1) (sq T n p + 1) w hl (exq_well e).1
          rw [c1]; omega
        · rw [if_neg y3] at e
          dsimp only at e
          unfold fl at e
          split at e <;> cases e
  · exact pLoop_len M D H (by decide) (by decide) h e
  · exact pSeq_len M D H h e
  · exact pLoop_len M D H (by decide) (by decide) h e
  · exact pSeq_len M D H h e
  · unfold pCmp at e ⊢
    by_cases y : sg T n p w = 61 ∨ sg T n p w = 60 ∨ sg T n p w = 62
    · have hl := (sg_lt (T := T) (n := n) (p := p) (w := w) rfl (by omega)).1
      rw [if_pos y] at e ⊢
      have := H 4 dep (sq T n p + 1) w hl e
      dsimp only
      rw [List.length_append, List.length_singleton]; omega
    · rw [if_neg y] at e
      dsimp only at e
      unfold fl at e
      split at e <;> cases e
  · unfold pUnit at e ⊢
    by_cases y : sg T n p w = 33
    · have hl := (sg_lt y (by decide)).1
      rw [if_pos y] at e ⊢
      by_cases y2 : dep < 6
      · rw [if_pos y2] at e ⊢
        have := H 6 (dep + 1) (sq T n p + 1) w hl e
        dsimp only
        rw [List.length_append, List.length_singleton]; omega
      · rw [if_neg y2] at e
        dsimp only at e
        unfold fl at e
        split at e <;> cases e
    · rw [if_neg y] at e ⊢
      by_cases y3 : sg T n p w = 40
      · have hl := (sg_lt y3 (by decide)).1
        rw [if_pos y3] at e ⊢
        by_cases y2 : dep < 6
        · rw [if_pos y2] at e ⊢
          obtain ⟨c1, c2⟩ := exq_len e
          have := H 11 (dep + 1) (sq T n p + 1) w hl (exq_well e).1
          rw [c1]; omega
        · rw [if_neg y2] at e
          dsimp only at e
          unfold fl at e
          split at e <;> cases e
      · rw [if_neg y3] at e ⊢
        exact pSeq_len M D H h e
  · exact pLoop_len M D H (by decide) (by decide) h e
  · exact pLoop_len M D H (by decide) (by decide) h e
  · exact pSeq_len M D H h e
  · exact pSeq_len M D H h e
  · exact pSeq_len M D H h e
  · show 0 + 2 * p ≤ 2 * p; omega
theorem pp_len : ∀ N, Len n (pp T n N)
  | 0 => fun _ _ p _ _ _ => by show 0 + 2 * p ≤ 2 * p; omega
  | N + 1 => pB_len (pp_mono N) (pp_dead N) (pp_len N)
end PLEN
section MLOOK
variable {sc : cmS} {T : Nat → Nat} {n : Nat} {d : Nat} {h : cmH} {KV : cmH → Prop} {K : Int32 → cmH → Prop}
/-- the reference's tape -/
def RM (h : cmH) (T : Nat → Nat) (n : Nat) : Prop := LY h ∧ cm_I h 38 29 = nI n ∧ n ≤ 160 ∧ ∀ k, k < n → cm_I h 61 k = nI (T k) ∧ 0 < T k ∧ T k ≤ 255
def P_m (x k : Nat) : Prop := (x = 38 ∧ 30 ≤ k ∧ k ≤ 33) ∨ x = 62
def MA (h : cmH) (p dep s : Nat) : Prop := cm_I h 38 30 = nI p ∧ cm_I h 38 31 = -1 ∧ cm_I h 38 32 = nI dep ∧ cm_I h 38 33 = nI s
def MD (h : cmH) (n dep q S : Nat) : Prop := cm_I h 38 31 = nI q ∧ q ≤ n ∧ ∃ p s, cm_I h 38 30 = nI p ∧ p ≤ n + (6 - dep) ∧ cm_I h 38 33 = nI s ∧ s ≤ S
def SY (h h' : cmH) (s : Nat) (cs : List Nat) : Prop := (∀ j, j < s → cm_I h' 62 j = cm_I h 62 j) ∧ ∀ j x, cs[j]? = some x → cm_I h' 62 (s + j) = nI x
theorem RM.x {h' : cmH} (G : RM h T n) (X : XI h h' P_m) : RM h' T n := ⟨X.ly G.1, by rw [X.2 38 29 (by unfold P_m; omega)]; exact G.2.1, G.2.2.1, fun k hk => by rw [X.2 61 k (by unfold P_m; omega)]; exact G.2.2.2 k hk⟩
/-- what look answers -/
def lk (T : Nat → Nat) (n p : Nat) : Int32 := if sq T n p < n then nI (T (sq T n p)) else -1
theorem lk_iff {p c : Nat} (hT : ∀ k, k < n → 0 < T k ∧ T k ≤ 255) (hc : 0 < c) (hc2 : c < 256) : lk T n p = nI c ↔ sg T n p none = c := by
  unfold lk sg
  by_cases y : sq T n p < n
  · rw [if_pos y, if_pos ⟨rfl, y⟩]
    have := hT _ y
    exact ⟨fun e => nI_inj (by omega) (by omega) e, fun e => by rw [e]⟩
  · rw [if_neg y, if_neg (fun z => y z.2)]
    exact ⟨fun e => absurd e.symm (nI_m (by omega)), fun e => by omega⟩
theorem RM.lk {p c : Nat} (G : RM h T n) (hc : 0 < c) (hc2 : c < 256) : lk T n p = nI c ↔ sg T n p none = c := lk_iff (fun k hk => (G.2.2.2 k hk).2) hc hc2
theorem m_lk {p : Nat} (G : RM h T n) (hp : p ≤ n) (e : cm_I h 38 30 = nI p) (k : ∀ h', XI h h' (fun x k => x = 38 ∧ k = 30) → cm_I h' 38 30 = nI (sq T n p) → K (lk T n p) h') : cm_ci sc d 159 [.ref 38] h K := by
  obtain ⟨L, e29, h160, hT⟩ := G
  suffices gen : ∀ (m p : Nat) (h' : cmH), n - p ≤ m → p ≤ n → XI h h' (fun x k => x = 38 ∧ k = 30) → cm_I h' 38 30 = nI p → (∀ h', XI h h' (fun x k => x = 38 ∧ k = 30) → cm_I h' 38 30 = nI (sq T n p) → K (lk T n p) h') → cm_wp sc d 159 0 [some (.ref 38)] [] h' (fun v h' => ∃ x, v = some (.int x) ∧ K x h') from ci_of rfl (gen n p h (by omega) hp XI.refl e k)
  intro m
  induction m with
  | zero =>
    intro p h' hm hp X e k
    obtain rfl : p = n := by omega
    have e' : cm_I h' 38 29 = nI p := by rw [X.2 38 29 (by omega)]; exact e29
    have eq : sq T p p = p := sq_stay (by omega)
    have el : lk T p p = -1 := if_neg (by rw [eq]; omega)
    have := k h' X (by rw [eq]; exact e)
    rw [el] at this
    exact s159_0 (X.ly L) ⟨fun _ => s159_38 (X.ly L) ⟨fun _ => ai this, fun z => absurd (by rw [e', e]; exact Int32.le_refl _) z⟩, fun z => absurd (by rw [e', e]; exact Int32.le_refl _) z⟩
  | succ m ih =>
    intro p h' hm hp X e k
    by_cases hpn : p < n
    case neg =>
      exact ih p h' (by omega) hp X e k
    have e' : cm_I h' 38 29 = nI n := by rw [X.2 38 29 (by omega)]; exact e29
    have nl : ¬ cm_I h' 38 29 ≤ cm_I h' 38 30 := by rw [e', e]; exact nI_ge hpn (by omega)
    have ek : cm_I h' 61 (cm_I h' 38 30).toNatClampNeg = nI (T p) := by rw [e, nI_clamp (by omega), X.2 61 p (by omega)]; exact (hT p hpn).1
    have ixp : IX 160 (cm_I h' 38 30) := by rw [e]; exact ix_nI (by omega) (by decide)
    have hTp := (hT p hpn).2
    refine s159_0 (X.ly L) ⟨fun z => absurd z nl, fun _ => ⟨ixp, fun z => s159_38 (X.ly L) ⟨fun z => absurd z nl, fun _ => ⟨ixp, ai ?_⟩⟩, fun z => ?_⟩⟩
    · rw [ek] at z ⊢
      have eq : sq T n p = p := sq_stay (fun q => z (by rw [q.2]; rfl))
      have := k h' X (by rw [eq]; exact e)
      rw [show lk T n p = nI (T p) by unfold lk; rw [eq]; exact if_pos hpn] at this
      exact this
    · rw [ek] at z
      have e32 : T p = 32 := nI_inj (by omega) (by decide) (Decidable.not_not.mp z)
      have eq := sq_next hpn e32
      refine ih (p + 1) _ (by omega) hpn (X.set ⟨rfl, rfl⟩) (by rw [sI_s, e, nI_1]) (fun h2 X2 e2 => ?_)
      have := k h2 X2 (by rw [eq]; exact e2)
      rw [show lk T n p = lk T n (p + 1) by unfold lk; rw [eq]] at this
      exact this
/-- look behind a fault: it may pass blanks, and answers something -/
theorem m_lkd {p B : Nat} (G : RM h T n) (hp : p ≤ B) (hB : n ≤ B) (hB2 : B < 2 ^ 31) (e : cm_I h 38 30 = nI p) (k : ∀ h' c p', XI h h' (fun x k => x = 38 ∧ k = 30) → cm_I h' 38 30 = nI p' → p' ≤ B → K c h') : cm_ci sc d 159 [.ref 38] h K := by
  by_cases y : p ≤ n
  · exact m_lk G y e fun h' X e' => k h' _ _ X e' (Nat.le_trans (sq_le y) hB)
  · obtain ⟨L, e29, h160, hT⟩ := G
    have nl : cm_I h 38 29 ≤ cm_I h 38 30 := by rw [e29, e]; exact nI_le (by omega) (by omega)
    exact ci_of rfl (s159_0 L ⟨fun _ => s159_38 L ⟨fun _ => ai (k h _ p XI.refl e hp), fun z => absurd nl z⟩, fun z => absurd nl z⟩)
theorem m_bad {p : Nat} (L : LY h) (e : cm_I h 38 30 = nI p) (e1 : cm_I h 38 31 = -1) (k : KV (cm_setI h 38 31 (nI p))) : cm_cv sc d 161 [.ref 38] h KV := by
  refine cv_of rfl (s161_0 L ⟨fun z => absurd e1 z, fun _ => s161_20 L _ ⟨rfl, ?_⟩⟩)
  rw [e]; exact k
theorem m_bad_dead {q : Nat} (L : LY h) (hq : q < 2 ^ 31) (e1 : cm_I h 38 31 = nI q) (k : KV (cm_setI h 38 31 (nI q))) : cm_cv sc d 161 [.ref 38] h KV := by
  refine cv_of rfl (s161_0 L ⟨fun z => s161_20 L _ ⟨rfl, ?_⟩, fun z => absurd (by rw [e1]; exact nI_m hq) z⟩)
  rw [e1]; exact k
theorem m_say {s : Nat} {x : Int32} (L : LY h) (e : cm_I h 38 33 = nI s) (hs : s < 420) (k : KV (cm_setI (cm_setI h 62 s x) 38 33 (nI (s + 1)))) : cm_cv sc d 162 [.ref 38, .int x] h KV := by
  refine cv_of rfl (s162_0 L _ ⟨by rw [e]; exact ix_nI hs (by decide), rfl, ?_⟩)
  rw [e, nI_clamp (by omega), nI_1]; exact k
end MLOOK
