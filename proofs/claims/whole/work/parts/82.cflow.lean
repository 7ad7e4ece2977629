/-! ===== the class's flow, in one ===== -/
section CFLOW
variable {F Q t : Nat} {fa C g st pr kc sh gq : Nat → Nat} {cc W l : Nat → Nat → Nat} {r : Nat → Int32} {gw gs gg gr x' : cmH}
/-- of a filter -/
def CF1 (A A' : Nat → Nat → Int32) (t : Nat) (C st sh : Nat → Nat) (W l : Nat → Nat → Nat) (r : Nat → Int32) (bed : Int32) (a f : Nat) (ca : Nat → Nat) : Prop := A' a 11 = nI (sh f) ∧ A' a 12 = (if ac1 sh r f then r f else A a 12) ∧ A' a 13 = (if ac1 sh r f then nI (q_of C W l st f) else A a 13) ∧ A' a 14 = (if q_rp sh r C W l st (A a 14) (A a 15) f then nI (t + 1) else A a 14) ∧ A' a 15 = (if q_rp sh r C W l st (A a 14) (A a 15) f then nI (q_of C W l st f) else A a 15) ∧ A' a 8 = (if ac2 sh r f ∨ (A a 18 ≠ 0 ∧ bed = -1) then 4 else A a 8) ∧ A' a 9 = (if A a 8 = 1 ∨ A a 8 = 3 then A a 9 + 1 else A a 9) ∧ (∀ k, k ≠ 8 → k ≠ 9 → k < 11 ∨ 15 < k → k ≠ 19 → A' a k = A a k) ∧ (∀ s, s < 8 → A' (a + 2) s = if ac1 sh r f then A (a + 2) s + nI (l f s - q_in (W f 0) s (l f s)) else A (a + 2) s) ∧ ∀ c, c < C f → (∀ s, s < 8 → A' (ca c + 1) s = if ac1 sh r f then A (ca c + 1) s + nI (q_kp (W f c) s (st s) (q_lf (W f) s (st s) (q_in (W f 0) s (l f s)) c)) else A (ca c + 1) s) ∧ (A' (ca c) 2 = if ac1 sh r f then A (ca c) 2 + cm_sum (fun s => nI (q_kp (W f c) s (st s) (q_lf (W f) s (st s) (q_in (W f 0) s (l f s)) c))) 8 else A (ca c) 2) ∧ (∀ k, k ≠ 2 → A' (ca c) k = A (ca c) k) ∧ ∀ s, A' (ca c + 2) s = A (ca c + 2) s
/-- of the books -/
def CF2 (A A' : Nat → Nat → Int32) (F Q t : Nat) (C st sh gq : Nat → Nat) (W l : Nat → Nat → Nat) (r : Nat → Int32) : Prop := (∀ s, s < 8 → A' 15 s = A 15 s + nI (gq s) ∧ A' 16 s = A 16 s ∧ A' 17 s = A 17 s ∧ A' 18 s = A 18 s + cm_sum (fun f => if ac1 sh r f then nI (q_out (W f) st (l f) (C f) s) else 0) F ∧ A' 19 s = A 19 s + nI (q_rd sh (gq s) Q F) + cm_sum (fun f => if ac2 sh r f then nI (l f s) else 0) F ∧ A' 20 (24 * t + s) = A 20 (24 * t + s) + nI (gq s) ∧ A' 20 (24 * t + 8 + s) = A 20 (24 * t + 8 + s) + cm_sum (fun f => if ac1 sh r f then nI (q_out (W f) st (l f) (C f) s) else 0) F ∧ A' 20 (24 * t + 16 + s) = A 20 (24 * t + 16 + s) + nI (q_rd sh (gq s) Q F) + cm_sum (fun f => if ac2 sh r f then nI (l f s) else 0) F) ∧ (∀ k, ¬ (24 * t ≤ k ∧ k < 24 * t + 24) → A' 20 k = A 20 k) ∧ ∀ x k, x < 15 → A' x k = A x k
theorem c_flow_sum (S : SW F C fa cc) (Z : ∀ f, f < F → cm_I gw (fa f) 19 = 0) (Ss : SSt gw gs F Q C fa kc cc) (hsh : ∀ f, f < F → q_sh (c_w gw C fa kc cc) Q F f = sh f) (Sg : SGr gs gg F Q t fa sh gq 8) (Zr : CRN gg gr F t C fa st sh cc W l r F) (Zy : CLo gr x' F fa F) : (∀ f, f < F → CF1 (cm_I gw) (cm_I x') t C st sh W l r (c_bedv gw (C f) (cc f)) (fa f) f (cc f)) ∧ CF2 (cm_I gw) (cm_I x') F Q t C st sh gq W l r := by
  have sa : ∀ f e k, f < F → e ≤ 3 → ¬ (e = 0 ∧ (k = 11 ∨ k = 19)) → cm_I gs (fa f + e) k = cm_I gw (fa f + e) k := fun f e k hf he n => Ss.1.2 _ _ (fun q => n (P_ss_o S hf he q))
  have ga : ∀ f e k, f < F → e ≤ 3 → e ≠ 3 → cm_I gg (fa f + e) k = cm_I gs (fa f + e) k := fun f e k hf he n => Sg.1.2 _ _ (fun q => n (P_sg_o S hf he q).1)
  have ra : ∀ f e k, f < F → e ≤ 3 → ¬ ((e = 0 ∧ (k = 12 ∨ k = 13 ∨ k = 14 ∨ k = 15 ∨ k = 19)) ∨ ((e = 2 ∨ e = 3) ∧ k < 8)) → cm_I gr (fa f + e) k = cm_I gg (fa f + e) k := fun f e k hf he n => Zr.1.2 _ _ (fun q => n (P_cn_o S hf he q))
  have ya : ∀ f e k, f < F → e ≤ 3 → ¬ (e = 0 ∧ (k = 8 ∨ k = 9 ∨ k = 19)) → cm_I x' (fa f + e) k = cm_I gr (fa f + e) k := fun f e k hf he n => Zy.1.2 _ _ (fun q => n (P_cl_o S hf he q))
  have s0 : ∀ f k, f < F → k ≠ 11 → k ≠ 19 → cm_I gs (fa f) k = cm_I gw (fa f) k := fun f k hf a b => sa f 0 k hf (by decide) (by omega)
  have g0 : ∀ f k, f < F → cm_I gg (fa f) k = cm_I gs (fa f) k := fun f k hf => ga f 0 k hf (by decide) (by decide)
  have r0 : ∀ f k, f < F → k ≠ 12 → k ≠ 13 → k ≠ 14 → k ≠ 15 → k ≠ 19 → cm_I gr (fa f) k = cm_I gg (fa f) k := fun f k hf _ _ _ _ _ => ra f 0 k hf (by decide) (by omega)
  have y0 : ∀ f k, f < F → k ≠ 8 → k ≠ 9 → k ≠ 19 → cm_I x' (fa f) k = cm_I gr (fa f) k := fun f k hf _ _ _ => ya f 0 k hf (by decide) (by omega)
  have sc : ∀ f c e k, f < F → c < C f → e ≤ 2 → cm_I gg (cc f c + e) k = cm_I gw (cc f c + e) k := fun f c e k hf hc he => by rw [Sg.1.2 _ _ (P_sg_c S hf hc he), Ss.1.2 _ _ (P_ss_c S hf hc he)]
  have sc0 : ∀ f c k, f < F → c < C f → cm_I gg (cc f c) k = cm_I gw (cc f c) k := fun f c k hf hc => sc f c 0 k hf hc (by decide)
  have yc : ∀ f c e k, f < F → c < C f → e ≤ 2 → cm_I x' (cc f c + e) k = cm_I gr (cc f c + e) k := fun f c e k hf hc he => Zy.1.2 _ _ (P_cl_c S hf hc he)
  have yc0 : ∀ f c k, f < F → c < C f → cm_I x' (cc f c) k = cm_I gr (cc f c) k := fun f c k hf hc => yc f c 0 k hf hc (by decide)
  have lo_s : ∀ x k, x < 88 → cm_I gs x k = cm_I gw x k := fun x k hx => Ss.1.2 x k (by rintro ⟨f, hf, q, -⟩; have := S.1 f hf; omega)
  have lo_y : ∀ x k, x < 88 → cm_I x' x k = cm_I gr x k := fun x k hx => Zy.1.2 x k (by rintro ⟨f, hf, q, -⟩; have := S.1 f hf; omega)
  have pcn : ∀ x k, x < 88 → ¬ ((x = 18 ∨ x = 19) ∧ k < 8) → ¬ (x = 20 ∧ 24 * t ≤ k ∧ k < 24 * t + 24) → cm_I gr x k = cm_I gg x k := fun x k hx n1 n2 => Zr.1.2 x k (by
    rintro (q | q | ⟨f, hf, q | q | q | ⟨c, hc, q⟩⟩)
    · exact n1 q
    · exact n2 q
    · have := S.1 f hf; omega
    · have := S.1 f hf; omega
    · have := S.1 f hf; omega
    · have := (S.2.2.1 f c hf hc).1; omega)
  have psg : ∀ x k, x < 88 → ¬ ((x = 15 ∨ x = 19) ∧ k < 8) → ¬ (x = 20 ∧ 24 * t ≤ k ∧ k < 24 * t + 24) → cm_I gg x k = cm_I gs x k := fun x k hx n1 n2 => Sg.1.2 x k (by
    rintro (q | q | ⟨f, hf, q⟩)
    · exact n1 q
    · exact n2 q
    · have := S.1 f hf; omega)
  refine ⟨fun f hf => ?_, fun s hs => ?_, fun k hk => ?_, fun x k hx => ?_⟩
  · obtain ⟨z1, z2, z3, z4, z5, z6, z7⟩ := Zr.2.1 f hf
    obtain ⟨l1, l2, l3⟩ := (Zy.2 f hf).1 hf
    obtain ⟨t1, t2⟩ := Ss.2 f hf
    have i14 : cm_I gg (fa f) 14 = cm_I gw (fa f) 14 := by rw [g0 f _ hf, s0 f _ hf (by decide) (by decide)]
    have i15 : cm_I gg (fa f) 15 = cm_I gw (fa f) 15 := by rw [g0 f _ hf, s0 f _ hf (by decide) (by decide)]
    have i8 : cm_I gr (fa f) 8 = cm_I gw (fa f) 8 := by rw [r0 f _ hf (by decide) (by decide) (by decide) (by decide) (by decide), g0 f _ hf, s0 f _ hf (by decide) (by decide)]
    have i9 : cm_I gr (fa f) 9 = cm_I gw (fa f) 9 := by rw [r0 f _ hf (by decide) (by decide) (by decide) (by decide) (by decide), g0 f _ hf, s0 f _ hf (by decide) (by decide)]
    have hif : ∀ p : Prop, (f < F ∧ p) ↔ p := fun p => ⟨fun w => w.2, fun w => ⟨hf, w⟩⟩
    simp only [hif] at z1 z2 z3 z4 z5
    rw [i14, i15] at z3 z4
    refine ⟨?_, ?_, ?_, ?_, ?_, ?_, ?_, fun k a b c e => ?_, fun s hs => ?_, fun c hc => ⟨fun s hs => ?_, ?_, fun k hk => ?_, fun s => ?_⟩⟩
    · rw [y0 f _ hf (by decide) (by decide) (by decide), r0 f _ hf (by decide) (by decide) (by decide) (by decide) (by decide), g0 f _ hf, t1, hsh f hf]
    · rw [y0 f _ hf (by decide) (by decide) (by decide), z1, g0 f _ hf, s0 f _ hf (by decide) (by decide)]
    · rw [y0 f _ hf (by decide) (by decide) (by decide), z2, g0 f _ hf, s0 f _ hf (by decide) (by decide)]
    · rw [y0 f _ hf (by decide) (by decide) (by decide), z3]
    · rw [y0 f _ hf (by decide) (by decide) (by decide), z4]
    · rw [l2, z5, g0 f _ hf, t2, i8]
      by_cases w2 : ac2 sh r f
      · rw [if_pos w2, if_pos (Or.inl w2), if_neg (by decide)]
      · rw [if_neg w2]
        by_cases w3 : cm_I gw (fa f) 18 ≠ 0
        · rw [if_pos w3]
          by_cases w4 : c_bedv gw (C f) (cc f) = -1
          · rw [if_pos w4, if_neg (by decide), if_pos (Or.inr ⟨w3, w4⟩)]
          · rw [if_neg w4, if_pos rfl, if_neg (fun q => q.elim w2 (fun q => w4 q.2))]
        · rw [if_neg w3, Z f hf, if_pos rfl, if_neg (fun q => q.elim w2 (fun q => w3 q.1))]
    · rw [l1, i8, i9]
    · rw [y0 f k hf a b e, r0 f k hf (by omega) (by omega) (by omega) (by omega) e, g0 f k hf, s0 f k hf (by omega) e]
    · have := (z6 s hs).1
      simp only [hif] at this
      rw [ya f 2 s hf (by decide) (by omega), this, ga f 2 s hf (by decide) (by decide), sa f 2 s hf (by decide) (by omega)]
    · have := (z7 c hc).1 s hs
      simp only [hif] at this
      rw [yc f c 1 s hf hc (by decide), this, sc f c 1 s hf hc (by decide)]
    · have := (z7 c hc).2
      simp only [hif] at this
      rw [yc0 f c _ hf hc, this, sc0 f c _ hf hc]
    · have : cm_I gr (cc f c + 0) k = cm_I gg (cc f c + 0) k := Zr.1.2 _ _ (fun q => by have := P_cn_c S hf hc (by decide) q; omega)
      rw [yc0 f c k hf hc, ← sc0 f c k hf hc]; exact this
    · have : cm_I gr (cc f c + 2) s = cm_I gg (cc f c + 2) s := Zr.1.2 _ _ (fun q => by have := P_cn_c S hf hc (by decide) q; omega)
      rw [yc f c 2 s hf hc (by decide), this, sc f c 2 s hf hc (by decide)]
  · obtain ⟨a1, a2, a3, a4, a5⟩ := Zr.2.2 s hs
    obtain ⟨b1, b2, b3, b4, b5, -⟩ := Sg.2 s hs
    rw [if_pos hs] at b1 b2 b3 b5
    refine ⟨?_, ?_, ?_, ?_, ?_, ?_, ?_, ?_⟩
    · rw [lo_y 15 s (by decide), pcn 15 s (by decide) (by omega) (by omega), b1, lo_s 15 s (by decide)]
    · rw [lo_y 16 s (by decide), pcn 16 s (by decide) (by omega) (by omega), psg 16 s (by decide) (by omega) (by omega), lo_s 16 s (by decide)]
    · rw [lo_y 17 s (by decide), pcn 17 s (by decide) (by omega) (by omega), psg 17 s (by decide) (by omega) (by omega), lo_s 17 s (by decide)]
    · rw [lo_y 18 s (by decide), a1, psg 18 s (by decide) (by omega) (by omega), lo_s 18 s (by decide)]
    · rw [lo_y 19 s (by decide), a2, b2, lo_s 19 s (by decide)]
    · rw [lo_y 20 _ (by decide), a3, b3, lo_s 20 _ (by decide)]
    · rw [lo_y 20 _ (by decide), a4, b4, lo_s 20 _ (by decide)]
    · rw [lo_y 20 _ (by decide), a5, b5, lo_s 20 _ (by decide)]
  · rw [lo_y 20 k (by decide), pcn 20 k (by decide) (by omega) (fun q => hk q.2), psg 20 k (by decide) (by omega) (fun q => hk q.2), lo_s 20 k (by decide)]
  · rw [lo_y x k (by omega), pcn x k (by omega) (by omega) (by omega), psg x k (by omega) (by omega) (by omega), lo_s x k (by omega)]
end CFLOW
