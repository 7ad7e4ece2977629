set_option maxHeartbeats 4000000 in
theorem cm_run {l : Launch} {sc : cmS} (hix : cm_idxOK l sc) (htr : l.stackTraces = false) : ∀ f, cm_RunOK l sc f := by
  intro f
  induction f with
  | zero => intro d M pc cl st h v h' q; cases q
  | succ f ih =>
    intro d M pc cl st h v h' q p e R s m args below meth c H locs ls base D aC ex n0 sl0 F het hrel hS hl hs0 hn0 hsl0 hfr hlc hRc hRs
    have hmono := cm_ex_mono _ _ _ _ _ _ _ _ _ q
    unfold cm_ex at q
    split at q
    · cases q
    · rename_i i n hd
      split at q
      · cases q
      · rename_i hlk
        have hlk : cm_lk i n = true := by simpa using hlk
        split at q
        · obtain ⟨w, hw, hw2⟩ := Option.map_eq_some_iff.mp q
          cases hw2
          exact vx_ret (cm_ret1 F hrel hS hd hlk hw)
        · split at q
          · rename_i g ix hi
            cases d with
            | zero => cases q
            | succ d =>
              dsimp only at q
              split at q
              · cases q
              · rename_i M' kind k hcM
                split at q
                · rename_i hk13
                  subst hk13
                  cases d with
                  | zero => cases q
                  | succ d1 =>
                    cases hw : cm_w13 st with
                    | none => rw [hw] at q; cases q
                    | some y =>
                      obtain ⟨as, x, o, r⟩ := y
                      rw [hw] at q
                      dsimp only at q
                      split at q
                      · rename_i hg
                        obtain ⟨rfl, hg1, hg2⟩ := hg
                        refine cm_sz fun hu => ?_
                        have hz := cm_size hrel hS F.2.2.2.2.2.2.2.2.2.1 (by omega) hu
                        have go : ∀ (v1 v2 : Option Value) (h1 h2 : cmH), cm_ex sc f d1 133 0 (cm_en 133 as) [] h = some (v1, h1) → R13 v1 h1 o v2 h2 → cm_ex sc f (d1 + 2) M (pc + 3) cl (v2.toList ++ r) h2 = some (v, h') →
                            W p l e R s m args below meth c H locs (cm_n h - n0) (cm_sl h - sl0) (vx_MQ below (cm_post base D aC ex v h') (cm_xc base D aC v h') args s (cm_n h' - n0) (cm_sl h' - sl0) (fun q => base ≤ q)) (F0 m pc ls (st.map (cm_tr base ex))) := by
                          intro v1 v2 h1 h2 hcall hr q
                          obtain ⟨a1, a2⟩ := cm_ex_mono _ _ _ _ _ _ _ _ _ hcall
                          obtain ⟨b1, b2⟩ := cm_ex_mono _ _ _ _ _ _ _ _ _ q
                          obtain ⟨n1, n2⟩ := hr.ns
                          refine cm_after (cm_13 F ih hrel hS hz hl hcM hi hd hlk hw ⟨hg1, hg2⟩ hcall hr hfr hlc ⟨by omega, by omega⟩) hS fun H1 locs1 r1 r2 => ?_
                          rw [show cm_n h - n0 + (cm_n h2 - cm_n h) = cm_n h2 - n0 by omega, show cm_sl h - sl0 + (cm_sl h2 - cm_sl h) = cm_sl h2 - sl0 by omega]
                          have hW := ih _ _ _ _ _ _ _ _ q p e R s m args below meth c H1 locs1 ls base D aC ex n0 sl0 F het r1 r2 hl hs0 (by omega) (by omega) hfr hlc hRc hRs
                          have hst : (v2.toList ++ r).map (cm_tr base ex) = (v2.map (cm_tr base ex)).toList ++ r.map (cm_tr base ex) := by cases v2 <;> simp
                          rw [hst] at hW
                          exact hW
                        split at q
                        · rename_i w h1 hcall
                          split at q
                          · rename_i hok
                            exact go _ (some (.int 0)) h1 _ hcall (Or.inl ⟨w, rfl, hok, rfl, rfl⟩) q
                          · cases q
                        · rename_i z h1 hcall
                          exact go _ (some (.int 1)) h1 h1 hcall (Or.inr ⟨z, rfl, rfl, rfl⟩) q
                        · cases q
                      · cases q
                · split at q
                  · split at q
                    · rename_i hgk
                      split at q
                      · rename_i st1 h1 hpr
                        obtain ⟨a1, a2⟩ := cm_pr_mono hpr
                        obtain ⟨b1, b2⟩ := cm_ex_mono _ _ _ _ _ _ _ _ _ q
                        have hsame : cm_n h1 = cm_n h ∧ cm_sl h1 = cm_sl h := by
                          unfold cm_pr at hpr
                          split at hpr
                          all_goals first
                            | (cases hpr; done)
                            | (obtain ⟨-, h2⟩ := cm_if_inv hpr
                               cases h2
                               exact ⟨rfl, rfl⟩)
                        refine cm_prim hix F hrel hS hl hfr hlc (by omega) (by omega) hcM hgk hpr hi hd hlk fun ls1 H1 locs1 r1 r2 r3 => ?_
                        rw [← hsame.1, ← hsame.2]
                        exact ih _ _ _ _ _ _ _ _ q p e R s m args below meth c H1 locs1 ls1 base D aC ex n0 sl0 F het r1 r2 r3 hs0 (by omega) (by omega) hfr hlc hRc hRs
                      · cases q
                    · cases q
                  · rename_i hk6
                    split at q
                    · cases q
                    · rename_i as r hca
                      split at q
                      · cases q
                      · rename_i w h1 hcall
                        split at q
                        · cases q
                        · rename_i hxw
                          have hxw : cm_isX w = false := by simpa using hxw
                          obtain ⟨a1, a2⟩ := cm_ex_mono _ _ _ _ _ _ _ _ _ hcall
                          obtain ⟨b1, b2⟩ := cm_ex_mono _ _ _ _ _ _ _ _ _ q
                          refine cm_sz fun hu => ?_
                          have hz := cm_size hrel hS F.2.2.2.2.2.2.2.2.2.1 (by omega) hu
                          have hM := cm_metN (cm_metX (base := base) (D := D) (aC := aC) (ex := ex) ih (cm_cM_spec hcM).1 hcall (cm_ca_lay hca)) (fun E st t q => by have q1 := q.1; rw [hxw] at q1; cases q1)
                          refine cm_after (cm_callM F hrel hS hz hl hM rfl rfl hfr (by show 30 + 60 * d ≤ _; omega) hcM hk6 hca hi hd hlk ⟨by omega, by omega⟩) hS fun H1 locs1 r1 r2 => ?_
                          rw [show cm_n h - n0 + (cm_n h1 - cm_n h) = cm_n h1 - n0 by omega, show cm_sl h - sl0 + (cm_sl h1 - cm_sl h) = cm_sl h1 - sl0 by omega]
                          have hW := ih _ _ _ _ _ _ _ _ q p e R s m args below meth c H1 locs1 ls base D aC ex n0 sl0 F het r1 r2 hl hs0 (by omega) (by omega) hfr hlc hRc hRs
                          have hst : (w.toList ++ r).map (cm_tr base ex) = (w.map (cm_tr base ex)).toList ++ r.map (cm_tr base ex) := by cases w <;> simp
                          rw [hst] at hW
                          exact hW
          · split at q
            · split at q
              · rename_i hth
                simp only [cm_thr, Bool.and_eq_true, decide_eq_true_eq] at hth
                obtain ⟨⟨⟨rfl, rfl⟩, h8⟩, hw⟩ := hth
                cases q
                exact cm_throw htr F (het rfl) hrel hS hl hs0 hn0 hsl0 hfr hlc hRc hRs h8 hw
              · cases q
            · rename_i pc1 cl1 st1 h1 hst
              obtain ⟨a1, a2⟩ := cm_st_mono hst
              obtain ⟨b1, b2⟩ := cm_ex_mono _ _ _ _ _ _ _ _ _ q
              refine cm_sim1 F hrel hS hl (by omega) hd hlk hst (cells' := cm_n h1 - n0) (slots' := cm_sl h1 - sl0) (by omega) (by omega) (by omega) (by omega) fun ls1 H1 locs1 r1 r2 r3 => ?_
              exact ih _ _ _ _ _ _ _ _ q p e R s m args below meth c H1 locs1 ls1 base D aC ex n0 sl0 F het r1 r2 r3 hs0 (by omega) (by omega) hfr hlc hRc hRs
