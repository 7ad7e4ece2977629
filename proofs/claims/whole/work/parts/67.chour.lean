/-! ===== the class's hours: the loops behind the shares ===== -/
section CHOUR
variable {sc : cmS} {d : Nat} {h : cmH} {Q : Option Value → cmH → Prop} {F t : Nat} {C fa kc pr st sh : Nat → Nat} {cc W l : Nat → Nat → Nat} {x1 x2 : Int32}
theorem CRN.cnt {h' : cmH} {r : Nat → Int32} {i : Nat} (P : CRP h F t C fa kc pr st sh cc W l) (X : CRN h h' F t C fa st sh cc W l r i) : cm_I h' 0 10 = nI F := by
  rw [X.1.2 0 10, P.2.1.1]
  rintro (q | q | ⟨f, hf, q | q | q | ⟨c', hc', q⟩⟩)
  · omega
  · omega
  · have := P.2.2.2.1.1 f hf; omega
  · have := P.2.2.2.1.1 f hf; omega
  · have := P.2.2.2.1.1 f hf; omega
  · have := (P.2.2.2.1.2.2.1 f c' hf hc').1; omega
theorem c_hrun (P : CRP h F t C fa kc pr st sh cc W l) (k : ∀ h2 r, CRN h h2 F t C fa st sh cc W l r F → (∀ f, f < F → 0 < sh f → q_push (c_bedv h (C f) (cc f)) (kc f) (pr f) (sh f) (r f)) → cm_wp sc (d + 7) 60 115 [some (.ref 0), some (.int x1), some (.int x2), some (.int 0)] [] h2 Q) : ∀ (m i : Nat) (h' : cmH) (r : Nat → Int32), i + m = F → CRN h h' F t C fa st sh cc W l r i → (∀ f, f < i → 0 < sh f → q_push (c_bedv h (C f) (cc f)) (kc f) (pr f) (sh f) (r f)) → cm_wp sc (d + 7) 60 94 [some (.ref 0), some (.int x1), some (.int x2), some (.int (nI i))] [] h' Q := by
  have h8 := P.2.1.2.1
  intro m
  induction m with
  | zero =>
    intro i h' r hm X hq
    obtain rfl : i = F := by omega
    refine s60_94 (X.1.ly P.1) _ _ _ ⟨fun _ => k h' r X hq, fun z => absurd ?_ z⟩
    rw [X.cnt P]; exact Int32.le_refl _
  | succ m ih =>
    intro i h' r hm X hq
    refine s60_94 (X.1.ly P.1) _ _ _ ⟨fun z => absurd z (by rw [X.cnt P]; exact nI_ge (by omega) (by omega)), fun _ => ?_⟩
    refine c_run P (by omega) r X (fun h2 rr hr X2 => s60_107 _ _ _ ?_)
    rw [nI_1]
    refine ih (i + 1) h2 _ (by omega) X2 (fun f hf hs => ?_)
    by_cases y : f = i
    · subst y; rw [if_pos rfl]; exact hr hs
    · rw [if_neg y]; exact hq f (by omega) hs
theorem c_hclose (L : LY h) (G : FS h F fa) (hF : ∀ f, f < F → FL h (fa f)) (h88 : ∀ f, f < F → 88 ≤ fa f) (ne : ∀ f f', f < F → f' < F → f ≠ f' → fa f ≠ fa f') (k : ∀ h2, CLo h h2 F fa F → cm_wp sc (d + 3) 60 27 [some (.ref 0), some (.int x1), some (.int (x2 + 1)), some (.int (nI F))] [] h2 Q) : ∀ (m i : Nat) (h' : cmH), i + m = F → CLo h h' F fa i → cm_wp sc (d + 3) 60 115 [some (.ref 0), some (.int x1), some (.int x2), some (.int (nI i))] [] h' Q := by
  have h8 := G.2.1
  have cnt : ∀ h' i, CLo h h' F fa i → cm_I h' 0 10 = nI F := fun h' i X => by
    rw [X.1.2 0 10 (by rintro ⟨f, hf, e, -⟩; have := h88 f hf; omega)]; exact G.1
  intro m
  induction m with
  | zero =>
    intro i h' hm X
    obtain rfl : i = F := by omega
    refine s60_115 (X.1.ly L) _ _ _ ⟨fun _ => k h' X, fun z => absurd ?_ z⟩
    rw [cnt h' i X]; exact Int32.le_refl _
  | succ m ih =>
    intro i h' hm X
    refine s60_115 (X.1.ly L) _ _ _ ⟨fun z => absurd z (by rw [cnt h' i X]; exact nI_ge (by omega) (by omega)), fun _ => ?_⟩
    refine c_closeHour L G hF h88 ne (by omega) X (fun h2 X2 => s60_128 _ _ _ ?_)
    rw [nI_1]
    exact ih (i + 1) h2 (by omega) X2
end CHOUR
