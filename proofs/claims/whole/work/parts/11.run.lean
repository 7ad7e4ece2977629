/-! ===== the run ===== -/
set_option maxHeartbeats 4000000 in
theorem cm_run {l : Launch} {sc : cmS} (hix : cm_idxOK l sc) : ∀ (f d M pc : Nat) (cl : cmL) (st : List Value) (h : cmH) (v : Option Value) (h' : cmH), cm_ex sc f d M pc cl st h = some (v, h') →
    ∀ (p : Program) (e : Env) (R : Room) (s : State) (m : MethodId) (args : Array Value) (below : List Frame) (meth : Method) (c : Code) (H : Heap) (locs : List Loc) (ls : Array Slot) (base : Nat) (D : va_G) (aC : Nat → ClassId) (ex : Nat → Nat) (n0 sl0 : Nat), cm_fix p s m args meth c M base D aC ex sc → cm_rel base D aC h H → va_S (fun q => base ≤ q) s.heap H locs → cm_lr base ex ls cl (cm_M M).2.2.2.1 → s.heap.size = base + n0 → n0 ≤ cm_n h → sl0 ≤ cm_sl h → d ≤ R.frames → 60 * d ≤ R.locals → cm_n h' - n0 ≤ R.cells → cm_sl h' - sl0 ≤ R.slots →
      W p l e R s m args below meth c H locs (cm_n h - n0) (cm_sl h - sl0) (MQ below (cm_post base D aC ex v h') args s (cm_n h' - n0) (cm_sl h' - sl0) (fun q => base ≤ q)) (F0 m pc ls (st.map (cm_tr base ex))) := by
  intro f
  induction f with
  | zero => intro d M pc cl st h v h' q; cases q
  | succ f ih =>
    intro d M pc cl st h v h' q p e R s m args below meth c H locs ls base D aC ex n0 sl0 F hrel hS hl hs0 hn0 hsl0 hfr hlc hRc hRs
    have hmono := cm_ex_mono _ _ _ _ _ _ _ _ _ q
    unfold cm_ex at q
    split at q
    · cases q
    · rename_i i n hd
      split at q
      · cases q
      · rename_i hlk
        have hlk : cm_lk i n = true := by simpa using hlk
        split at q
        · obtain ⟨w, hw, hw2⟩ := Option.map_eq_some_iff.mp q
          cases hw2
          exact cm_ret1 F hrel hS hd hlk hw
        · split at q
          · rename_i g ix hi
            cases d with
            | zero => cases q
            | succ d =>
              dsimp only at q
              split at q
              · cases q
              · rename_i M' kind k hcM
                split at q
                · split at q
                  · rename_i hgk
                    split at q
                    · rename_i st1 h1 hpr
                      obtain ⟨a1, a2⟩ := cm_pr_mono hpr
                      obtain ⟨b1, b2⟩ := cm_ex_mono _ _ _ _ _ _ _ _ _ q
                      have hsame : cm_n h1 = cm_n h ∧ cm_sl h1 = cm_sl h := by
                        unfold cm_pr at hpr
                        split at hpr
                        all_goals first
                          | (cases hpr; done)
                          | (obtain ⟨-, h2⟩ := cm_if_inv hpr
                             cases h2
                             exact ⟨rfl, rfl⟩)
                      refine cm_prim hix F hrel hS hl hfr hlc (by omega) (by omega) hcM hgk hpr hi hd hlk fun ls1 H1 locs1 r1 r2 r3 => ?_
                      rw [← hsame.1, ← hsame.2]
                      exact ih _ _ _ _ _ _ _ _ q p e R s m args below meth c H1 locs1 ls1 base D aC ex n0 sl0 F r1 r2 r3 hs0 (by omega) (by omega) hfr hlc hRc hRs
                    · cases q
                  · cases q
                · rename_i hk6
                  split at q
                  · cases q
                  · rename_i as r hca
                    split at q
                    · cases q
                    · rename_i w h1 hcall
                      obtain ⟨a1, a2⟩ := cm_ex_mono _ _ _ _ _ _ _ _ _ hcall
                      obtain ⟨b1, b2⟩ := cm_ex_mono _ _ _ _ _ _ _ _ _ q
                      refine cm_sz fun hu => ?_
                      have hz := cm_size hrel hS F.2.2.2.2.2.2.2.2.2.1 (by omega) hu
                      have hM'1 := (cm_cM_spec hcM).1
                      obtain ⟨m1, m2, m3, m4, m5⟩ := cm_M1 hM'1
                      have hlay : (cm_lay as).length ≤ (cm_M M').2.2.2.1 := by
                        unfold cm_ca at hca
                        split at hca
                        · split at hca
                          · obtain ⟨⟨w1, w2⟩, h2⟩ := cm_if_inv hca
                            cases h2
                            exact w2
                          · cases hca
                        · split at hca
                          · split at hca
                            · obtain ⟨⟨w1, w2, w3⟩, h2⟩ := cm_if_inv hca
                              cases h2
                              exact w2
                            · cases hca
                          · cases hca
                      have hM : Met l (cm_M M').1 (cm_wsM M') ({ frames := d, cells := cm_n h1 - cm_n h, slots := cm_sl h1 - cm_sl h, locals := 60 * d }) (cm_pre base D aC ex sc as h) (cm_post base D aC ex w h1) (cm_n h1 - cm_n h) (cm_sl h1 - cm_sl h) (fun q => base ≤ q) := by
                        refine Met.ofW (cc := (cm_M M').2.2.1) (maxL := (cm_M M').2.2.2.1) (ret := (cm_M M').2.2.2.2) m2 rfl ?_
                        intro p e s m args below meth c s₁ B hml hv
                        obtain ⟨rfl, v1, v2, v3, v4⟩ := hv
                        have hts := atoms_spec (ws := cm_wsM M') B.pre
                        have hown := findClass_of_methodNamed B.named
                        rw [m1] at hown
                        have F' : cm_fix p s m ((as.map (cm_tr base ex)).toArray) meth c M' base D aC ex sc := ⟨B.exec, B.bytes, hml, B.returns, hown, fun w hw => hts w (List.mem_cons_of_mem _ hw), B.notSynchronized, (name_of_methodNamed B.named B.method).1, v2, by omega, v3⟩
                        have hW := ih _ _ _ _ _ _ _ _ hcall p e ({ frames := d, cells := cm_n h1 - cm_n h, slots := cm_sl h1 - cm_sl h, locals := 60 * d }) s m ((as.map (cm_tr base ex)).toArray) below meth c s.heap [] _ base D aC ex (cm_n h) (cm_sl h) F' v1 va_S.rf (cm_en_lr hlay) v4 (Nat.le_refl _) (Nat.le_refl _) (Nat.le_refl _) (Nat.le_refl _) (Nat.le_refl _) (Nat.le_refl _)
                        rw [Nat.sub_self, Nat.sub_self] at hW
                        rw [lg_entry_eq]
                        exact hW
                      refine cm_after (cm_callM F hrel hS hz hl hM rfl rfl hfr (by show 30 + 60 * d ≤ _; omega) hcM hk6 hca hi hd hlk ⟨by omega, by omega⟩) hS fun H1 locs1 r1 r2 => ?_
                      rw [show cm_n h - n0 + (cm_n h1 - cm_n h) = cm_n h1 - n0 by omega, show cm_sl h - sl0 + (cm_sl h1 - cm_sl h) = cm_sl h1 - sl0 by omega]
                      have hW := ih _ _ _ _ _ _ _ _ q p e R s m args below meth c H1 locs1 ls base D aC ex n0 sl0 F r1 r2 hl hs0 (by omega) (by omega) hfr hlc hRc hRs
                      have hst : (w.toList ++ r).map (cm_tr base ex) = (w.map (cm_tr base ex)).toList ++ r.map (cm_tr base ex) := by cases w <;> simp
                      rw [hst] at hW
                      exact hW
          · split at q
            · cases q
            · rename_i pc1 cl1 st1 h1 hst
              obtain ⟨a1, a2⟩ := cm_st_mono hst
              obtain ⟨b1, b2⟩ := cm_ex_mono _ _ _ _ _ _ _ _ _ q
              refine cm_sim1 F hrel hS hl (by omega) hd hlk hst (cells' := cm_n h1 - n0) (slots' := cm_sl h1 - sl0) (by omega) (by omega) (by omega) (by omega) fun ls1 H1 locs1 r1 r2 r3 => ?_
              exact ih _ _ _ _ _ _ _ _ q p e R s m args below meth c H1 locs1 ls1 base D aC ex n0 sl0 F r1 r2 r3 hs0 (by omega) (by omega) hfr hlc hRc hRs
