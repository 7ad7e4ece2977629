/-! ===== class against reference: the washes ===== -/
section RELW
variable {N Rn F Q : Nat} {fa C : Nat → Nat} {cc : Nat → Nat → Nat} {cls : Nat → List CL} {ro : Nat → Option Nat} {A B A' B' : Nat → Nat → Int32} {x x' y y' : cmH}
def VG (A B : Nat → Nat → Int32) : Prop := (∀ s, s < 8 → B 39 s = A 2 s ∧ B 40 s = A 3 s ∧ B 41 s = A 4 s ∧ B 67 s = A 13 s) ∧ B 38 48 = A 12 1
noncomputable def Rw (F Q : Nat) (C fa : Nat → Nat) (cc : Nat → Nat → Nat) (cls : Nat → List CL) (ro : Nat → Option Nat) (i : Nat) (A B : Nat → Nat → Int32) : Prop := (∀ f, f < F → VFl A B (fa f) (C f) (cc f) f ∧ INV A Q (fa f) (C f) (cc f) ∧ (i ≤ f → E1 A B cls ro (fa f) f) ∧ (f < i → B 60 f = A (fa f) 17)) ∧ VBk A B ∧ VG A B
theorem q_pore_b {p : Nat} {u be : Int32} (h1 : 1 ≤ p) (h2 : p ≤ 20) : ∃ p', q_pore (nI p) u be = nI p' ∧ 1 ≤ p' ∧ p' ≤ 20 := by
  unfold q_pore
  split
  · exact ⟨p, rfl, h1, h2⟩
  · split
    · rename_i q
      rw [nI_1] at q ⊢
      refine ⟨p + 1, rfl, by omega, ?_⟩
      rcases Nat.lt_or_ge 20 (p + 1) with w | w
      · exact absurd q (Int32.not_lt.mpr (nI_le (a := 20) (by omega) (by omega)))
      · exact w
    · exact ⟨20, rfl, by decide, by decide⟩
theorem i64z : (0 : Int32).toInt64 = 0 := by decide
theorem i64d : (0 : Int64) / 1000 = 0 := by decide
theorem q_go_0 {a b u : Int32} : q_go (0 - 0) a b u = 0 := by
  unfold q_go
  rw [show (0 : Int32) - 0 = 0 by decide, i64z, Int64.zero_mul, i64d, show (0 : Int64) - 0 = 0 by decide, Int64.zero_mul, i64d, Int64.zero_mul, i64d]
  decide
theorem q_stay_0 {a : Int32} : q_stay (0 - 0) a = 0 := by
  unfold q_stay
  rw [show (0 : Int32) - 0 = 0 by decide, i64z, Int64.zero_mul, i64d]
  decide
theorem cm_sum_sub {f g : Nat → Int32} : ∀ n, cm_sum (fun s => f s - g s) n = cm_sum f n - cm_sum g n
  | 0 => (by decide : (0 : Int32) = 0 - 0)
  | n + 1 => by
    rw [cm_sum_succ, cm_sum_succ, cm_sum_succ, cm_sum_sub n]
    simp only [Int32.sub_eq_add_neg, Int32.neg_add]
    ac_rfl
theorem Rw.step {i : Nat} (S : SW F C fa cc) (h10 : ∀ f, f < F → C f ≤ 10) (hi : i < F) (R : Rw F Q C fa cc cls ro i (cm_I x) (cm_I y)) (D : WSr C fa cc cls ro i x x') (M : MWr C i y y') : Rw F Q C fa cc cls ro (i + 1) (cm_I x') (cm_I y') := by
  obtain ⟨R1, R2, R3⟩ := R
  obtain ⟨V, I, E, -⟩ := R1 i hi
  have E := E (Nat.le_refl i)
  have D' : WS x x' (fa i) (C i) (cc i) _ _ := D
  have h88 := S.1 i hi
  have P := S.sp hi
  have e52 : cm_I y 52 i = cm_I x (fa i) 8 := V.1 8 52 (by decide)
  have own9 : ∀ a, OWN (fa i) (C i) (cc i) a → a ≠ 9 ∧ a ≠ 10 := fun a o => by have := S.own88 hi o; omega
  have lo : ∀ a k, a < 88 → a ≠ 9 → a ≠ 10 → a ≠ 16 → cm_I x' a k = cm_I x a k := fun a k h1 h2 h3 h4 => D'.lo S hi h1 h2 h3 h4
  have h10i := h10 i hi
  obtain ⟨M0, ⟨m59, m56, m57, m58⟩, mz, mw⟩ := id M
  obtain ⟨D0, ⟨d11, d12, d13, d18, d17⟩, dz, dw⟩ := id D'
  have ran : cm_I y' 59 i = cm_I x' (fa i) 18 := by
    rw [m59, d18, e52]
    by_cases w : cm_I x (fa i) 8 = 1
    · rw [if_pos w, if_pos ⟨w, I.1 (Or.inl w)⟩]
    · rw [if_neg w, if_neg (fun q => w q.1)]
  have mbk : ∀ a k, a = 71 ∧ k % 6 ≠ 2 ∨ a = 68 → cm_I y' a k = cm_I y a k := fun a k q => M0.2 a k (by unfold P_mz P_mw; omega)
  have m60 : cm_I y' 60 i = cm_I x' (fa i) 17 := by rw [M0.2 60 i (by unfold P_mz P_mw; omega), E.1, d17]
  have fin : VFl (cm_I x') (cm_I y') (fa i) (C i) (cc i) i ∧ INV (cm_I x') Q (fa i) (C i) (cc i) ∧ (∀ s, s < 8 → cm_I y' 71 (6 * s + 2) = cm_I x' 16 s) := by
    by_cases st : cm_I x (fa i) 8 = 2
    · obtain ⟨er, e74⟩ := E.2 st
      have mw := mw (by rw [e52]; exact st)
      have dw := dw ⟨st, er⟩
      rw [e74] at mw
      generalize q_cl (wq (c_lf (cm_I x) (fa i) i) 117 (ro i) cls) = u at mw dw
      obtain ⟨w1, w2, w3, w4⟩ := mw
      obtain ⟨v1, v2, v3, v4⟩ := dw
      have oa : ∀ k, k ≠ 9 → k ≠ 10 → k ≠ 11 → k ≠ 12 → k ≠ 13 → k ≠ 17 → k ≠ 18 → cm_I x' (fa i) k = cm_I x (fa i) k := fun k _ _ _ _ _ _ _ => D0.2.1 _ _ (by
        rintro (q | q)
        · unfold P_wr at q; omega
        · have := P_fw_a P q; omega)
      have mpx : GX x x' (MP F C fa cc) := WS.mp (F := F) D hi
      have oc0 : ∀ c k, c < C i → k ≠ 2 → k ≠ 4 → cm_I x' (cc i c) k = cm_I x (cc i c) k := fun c k hc a b => mpx.2.1 _ _ (MP.ncc S hi hc a b)
      have ego : ∀ c s, c < C i → s < 8 → m_go (cm_I y) i c u s = cgo (cm_I x) (cc i c) u s := fun c s hc hs => by
        unfold m_go cgo
        rw [((V.2.1 c hc).2.2.2.2 s hs).1, ((V.2.1 c hc).2.2.2.2 s hs).2, (R3.1 s hs).2.2.1, (R3.1 s hs).2.1]
      have est : ∀ c s, c < C i → s < 8 → m_st (cm_I y) i c s = cst (cm_I x) (cc i c) s := fun c s hc hs => by
        unfold m_st cst
        rw [((V.2.1 c hc).2.2.2.2 s hs).1, ((V.2.1 c hc).2.2.2.2 s hs).2, (R3.1 s hs).2.2.1]
      refine ⟨⟨fun k b q => ?_, fun c hc => ?_, fun s hs => by rw [(w1 s hs).2, (v2 s hs).2]⟩, ⟨?_, fun _ => ⟨d12, d13⟩, ?_, fun c hc => ?_⟩, fun s hs => ?_⟩
      · by_cases k8 : k = 9 ∨ k = 10 ∨ k = 11 ∨ k = 12 ∨ k = 13 ∨ k = 18
        · have : (k = 9 ∧ b = 53) ∨ (k = 10 ∧ b = 54) ∨ (k = 11 ∧ b = 56) ∨ (k = 12 ∧ b = 57) ∨ (k = 13 ∧ b = 58) ∨ (k = 18 ∧ b = 59) := by
            unfold vfl at q
            simp only [List.mem_cons, Prod.mk.injEq, List.not_mem_nil, or_false] at q
            omega
          rcases this with ⟨rfl, rfl⟩ | ⟨rfl, rfl⟩ | ⟨rfl, rfl⟩ | ⟨rfl, rfl⟩ | ⟨rfl, rfl⟩ | ⟨rfl, rfl⟩
          · rw [w3, v3]
          · rw [w4, v4, V.1 10 54 (by decide)]
          · rw [m56, d11]
          · rw [m57, d12]
          · rw [m58, d13]
          · exact ran
        · have hb : ¬ P_mz i b i ∧ ¬ P_mw i (C i) b i ∧ k ≠ 17 := by
            unfold vfl at q
            simp only [List.mem_cons, Prod.mk.injEq, List.not_mem_nil, or_false] at q
            unfold P_mz P_mw
            omega
          rw [M0.2 b i (fun w => w.elim hb.1 hb.2.1), oa k (by omega) (by omega) (by omega) (by omega) (by omega) hb.2.2 (by omega)]; exact V.1 k b q
      · obtain ⟨c1, c2, c3, c4, c5⟩ := V.2.1 c hc
        obtain ⟨g1, g2, g3⟩ := v1 c hc
        refine ⟨?_, ?_, ?_, ?_, fun s hs => ⟨?_, ?_⟩⟩
        · rw [(w2 c hc).2, g3, c1, V.1 5 50 (by decide)]
        · rw [M0.2 44 _ (by unfold P_mz P_mw; omega), oc0 c 3 hc (by decide) (by decide)]; exact c2
        · rw [M0.2 45 _ (by unfold P_mz P_mw; omega), oc0 c 5 hc (by decide) (by decide)]; exact c3
        · rw [g2, c4, cm_sum_congr (f := cm_I x' (cc i c + 1)) (g := fun s => cm_I x (cc i c + 1) s - cgo (cm_I x) (cc i c) u s) fun s hs => (g1 s hs).1, cm_sum_sub]
        · rw [((w2 c hc).1 s hs).1, (g1 s hs).1, (c5 s hs).1, ego c s hc hs]
        · rw [((w2 c hc).1 s hs).2, (g1 s hs).2, (c5 s hs).2, est c s hc hs]
      · rw [oa 8 (by decide) (by decide) (by decide) (by decide) (by decide) (by decide) (by decide)]; exact I.1
      · rw [d17]
        split
        · exact Or.inr rfl
        · exact Or.inl rfl
      · obtain ⟨⟨p, c1, c1a, c1b⟩, c2, c3, c4⟩ := I.2.2.2 c hc
        obtain ⟨g1, g2, g3⟩ := v1 c hc
        refine ⟨by rw [g3, c1]; exact q_pore_b c1a c1b, by rw [oc0 c 3 hc (by decide) (by decide)]; exact c2, by rw [oc0 c 5 hc (by decide) (by decide)]; exact c3, fun q s hs => ?_⟩
        have z := c4 q s hs
        rw [(g1 s hs).1, (g1 s hs).2, z.1, z.2]
        unfold cgo cst
        rw [z.1, z.2, q_go_0, q_stay_0]
        decide
      · rw [(w1 s hs).1, (v2 s hs).1, (R2.1 s hs).2.1, V.2.2 s hs]
        congr 2
        exact cm_sum_congr fun c hc => ego c s hc hs
    · have dz := dz (fun w => st w.1)
      have mz := mz (by rw [e52]; exact st)
      have oa : ∀ k, k ≠ 11 → k ≠ 12 → k ≠ 13 → k ≠ 17 → k ≠ 18 → cm_I x' (fa i) k = cm_I x (fa i) k := fun k _ _ _ _ _ => dz _ _ (by unfold P_wr; omega)
      have o2 : ∀ k, cm_I x' (fa i + 2) k = cm_I x (fa i + 2) k := fun k => dz _ _ (by unfold P_wr; omega)
      have ocn : ∀ c e k, c < C i → e ≤ 2 → cm_I x' (cc i c + e) k = cm_I x (cc i c + e) k := fun c e k hc he => dz _ _ (by have := P.2.1 c hc; unfold P_wr; omega)
      have oc0 : ∀ c k, c < C i → cm_I x' (cc i c) k = cm_I x (cc i c) k := fun c k hc => ocn c 0 k hc (by decide)
      have em : ∀ a k, MO i a k → a ≠ 59 → a ≠ 56 → a ≠ 57 → a ≠ 58 → cm_I y' a k = cm_I y a k := fun a k o n1 n2 n3 n4 => mz a k (by unfold P_mz; omega)
      refine ⟨⟨fun k b q => ?_, fun c hc => ?_, fun s hs => ?_⟩, ⟨?_, fun _ => ⟨d12, d13⟩, ?_, fun c hc => ?_⟩, fun s hs => ?_⟩
      · by_cases k8 : k = 11 ∨ k = 12 ∨ k = 13 ∨ k = 18
        · have : (k = 11 ∧ b = 56) ∨ (k = 12 ∧ b = 57) ∨ (k = 13 ∧ b = 58) ∨ (k = 18 ∧ b = 59) := by
            unfold vfl at q
            simp only [List.mem_cons, Prod.mk.injEq, List.not_mem_nil, or_false] at q
            omega
          rcases this with ⟨rfl, rfl⟩ | ⟨rfl, rfl⟩ | ⟨rfl, rfl⟩ | ⟨rfl, rfl⟩
          · rw [m56, d11]
          · rw [m57, d12]
          · rw [m58, d13]
          · exact ran
        · have hb : b ≠ 59 ∧ b ≠ 56 ∧ b ≠ 57 ∧ b ≠ 58 ∧ k ≠ 17 := by
            unfold vfl at q
            simp only [List.mem_cons, Prod.mk.injEq, List.not_mem_nil, or_false] at q
            omega
          rw [em b i (vfl_mo q).1 hb.1 hb.2.1 hb.2.2.1 hb.2.2.2.1, oa k (by omega) (by omega) (by omega) hb.2.2.2.2 (by omega)]; exact V.1 k b q
      · obtain ⟨c1, c2, c3, c4, c5⟩ := V.2.1 c hc
        exact ⟨by rw [em _ _ (by unfold MO; omega) (by decide) (by decide) (by decide) (by decide), oc0 c _ hc]; exact c1, by rw [em _ _ (by unfold MO; omega) (by decide) (by decide) (by decide) (by decide), oc0 c _ hc]; exact c2, by rw [em _ _ (by unfold MO; omega) (by decide) (by decide) (by decide) (by decide), oc0 c _ hc]; exact c3, by rw [oc0 c _ hc, c4]; exact cm_sum_congr fun s _ => (ocn c 1 s hc (by decide)).symm, fun s hs => ⟨by rw [em _ _ (by unfold MO; omega) (by decide) (by decide) (by decide) (by decide), ocn c 1 s hc (by decide)]; exact (c5 s hs).1, by rw [em _ _ (by unfold MO; omega) (by decide) (by decide) (by decide) (by decide), ocn c 2 s hc (by decide)]; exact (c5 s hs).2⟩⟩
      · rw [em _ _ (by unfold MO; omega) (by decide) (by decide) (by decide) (by decide), o2]; exact V.2.2 s hs
      · rw [oa 8 (by decide) (by decide) (by decide) (by decide) (by decide)]; exact I.1
      · rw [d17]
        split
        · exact Or.inr rfl
        · exact Or.inl rfl
      · obtain ⟨c1, c2, c3, c4⟩ := I.2.2.2 c hc
        exact ⟨by rw [oc0 c _ hc]; exact c1, by rw [oc0 c _ hc]; exact c2, by rw [oc0 c _ hc]; exact c3, fun q s hs => by rw [ocn c 1 s hc (by decide), ocn c 2 s hc (by decide)]; exact c4 q s hs⟩
      · rw [mz 71 _ (by unfold P_mz; omega), dz 16 s (by unfold P_wr; omega)]
        exact (R2.1 s hs).2.1
  obtain ⟨f1, f2, f4⟩ := fin
  refine ⟨fun f hf => ?_, ⟨fun s hs => ?_, fun t s w ht hs hw => ?_⟩, fun s hs => ?_, ?_⟩
  · by_cases e : f = i
    · subst e
      exact ⟨f1, f2, fun q => absurd q (by omega), fun _ => m60⟩
    · obtain ⟨v1, v2, v3, v4⟩ := R1 f hf
      have oc : ∀ a k, OWN (fa f) (C f) (cc f) a → cm_I x' a k = cm_I x a k := fun a k o => D'.other S hf hi e o
      have om : ∀ a k, MO f a k → cm_I y' a k = cm_I y a k := fun a k o => M.other h10i e o
      refine ⟨v1.congr (h10 f hf) oc om, v2.congr oc, fun q => (v3 (by omega)).congr oc om, fun q => ?_⟩
      rw [om 60 f (by unfold MO; omega), show cm_I x' (fa f) 17 = cm_I x (fa f) 17 from oc (fa f + 0) 17 (own_a 0 (by decide))]
      exact v4 (by omega)
  · obtain ⟨b1, b2, b3, b4, b5⟩ := R2.1 s hs
    exact ⟨by rw [mbk _ _ (by omega), lo 15 s (by decide) (by decide) (by decide) (by decide)]; exact b1, f4 s hs, by rw [mbk _ _ (by omega), lo 17 s (by decide) (by decide) (by decide) (by decide)]; exact b3, by rw [mbk _ _ (by omega), lo 18 s (by decide) (by decide) (by decide) (by decide)]; exact b4, by rw [mbk _ _ (by omega), lo 19 s (by decide) (by decide) (by decide) (by decide)]; exact b5⟩
  · rw [mbk _ _ (Or.inr rfl), lo 20 _ (by decide) (by decide) (by decide) (by decide)]
    exact R2.2 t s w ht hs hw
  · obtain ⟨g1, g2, g3, g4⟩ := R3.1 s hs
    have mm : ∀ a, a = 39 ∨ a = 40 ∨ a = 41 ∨ a = 67 → cm_I y' a s = cm_I y a s := fun a q => M0.2 a s (by unfold P_mz P_mw; omega)
    exact ⟨by rw [mm 39 (by omega), lo 2 s (by decide) (by decide) (by decide) (by decide)]; exact g1, by rw [mm 40 (by omega), lo 3 s (by decide) (by decide) (by decide) (by decide)]; exact g2, by rw [mm 41 (by omega), lo 4 s (by decide) (by decide) (by decide) (by decide)]; exact g3, by rw [mm 67 (by omega), lo 13 s (by decide) (by decide) (by decide) (by decide)]; exact g4⟩
  · rw [M0.2 38 48 (by unfold P_mz P_mw; omega), lo 12 1 (by decide) (by decide) (by decide) (by decide)]; exact R3.2
theorem Rw.chain (S : SW F C fa cc) (h10 : ∀ f, f < F → C f ≤ 10) : ∀ (m i : Nat) (x x' y y' : cmH), i + m = F → Rw F Q C fa cc cls ro i (cm_I x) (cm_I y) → Ch (WSr C fa cc cls ro) m i x x' → Ch (MWr C) m i y y' → Rw F Q C fa cc cls ro F (cm_I x') (cm_I y')
  | 0, i, x, x', y, y', hm, R, c, c' => by
    rw [show x' = x from c, show y' = y from c', show F = i by omega]
    rw [show F = i by omega] at R
    exact R
  | m + 1, i, x, x', y, y', hm, R, ⟨z, a, b⟩, ⟨z', a', b'⟩ => Rw.chain S h10 m (i + 1) z x' z' y' (by omega) (R.step S h10 (by omega) a a') b b'
end RELW
