/-! giveBack, lose -/
section
variable {sc : rp_Sc} {σ : rp_Mm}
theorem p_giveBack (hI : Inv σ) (x : Int32) : PM sc 80 [.ref 1, .int x] 189 [.ref 48, .int x] σ := by
  have hB := hI.1
  have bn := b_n hB.1
  rcases hsB_c x (n := nR (R σ)) (by omega) with e | ⟨i, hi, rfl, e⟩
  · refine pm_ro hI (v := -1) (cl_of (D_RailPasses_giveBack_0 _ σ) rfl ?_) (cl_of (D_Ref_giveBack_0 _ σ) rfl ?_)
    · simp only [lt_nI, nI_add, pk_mul, h_rd hB, e, thI_RI, if_true]
    · simp (disch := omega) only [lt_nI, nI_add, pk_mul, s_in, r_nR hB.1, inB_hs, e, thI_RI, if_true]
  · have e1 := s_drop (sc := sc) TB11 (c_nR hB) bn.2.2.2.1 hi
    obtain ⟨σ1, es1⟩ : ∃ x, x = rp_wr (blk σ 12 (5 * i) (5 * (nR (R σ) - 1)) (fun k => σ 12 (k + 5))) 11 3 (nI (nR (R σ) - 1)) := ⟨_, rfl⟩
    have z1 : σ1 11 3 = nI (nR (R σ) - 1) := by rw [es1]; exact wr_eq
    have e1 : CL sc 81 [.ref 11, .int (nI i)] σ = RV σ1 := by rw [es1]; exact e1
    have e2 : CL sc 80 [.ref 1, .int (nI i)] σ = RI (nI (nR (R σ) - 1)) σ1 := by
      refine cl_of (D_RailPasses_giveBack_0 _ σ) rfl ?_
      simp (disch := omega) only [lt_nI, nI_add, pk_mul, nI_clamp, nI_leI, nI_ltI, nI_eq, ixT, cond_true, Nat.reduceEqDiff, Nat.reduceLeDiff, reduceIte, h_rd hB, e, thI_RI, e1, thV_RV, s_size TB11, z1]
    have f1 : Fr (fun a k => (a = 11 ∧ k = 3) ∨ (a = 12 ∧ 5 * i ≤ k)) σ σ1 := by
      rw [es1]
      exact Fr_wr (Fr_blk Fr_rfl (fun k h1 h2 => Or.inr ⟨rfl, h1⟩)) (Or.inl ⟨rfl, rfl⟩)
    have v1 : ∀ k, 5 * i ≤ k → k < 5 * (nR (R σ) - 1) → σ1 12 k = σ 12 (k + 5) := fun k h1 h2 => by
      rw [es1, wr_n2 (by decide), blk_i h1 h2]
    have er : R σ1 = R σ := R_fr f1 (fun a k ha => by omega)
    have e3 := x_giveBack (sc := sc) (σ := σ1) (i := i) (by rw [er]; exact hB.1) (by rw [er]; exact hi)
    rw [er] at e3
    obtain ⟨σ2, es2⟩ : ∃ x, x = blk (rp_wr σ1 49 3 (nI (nR (R σ) - 1))) 54 (3 * i) (3 * (nR (R σ) - 1)) (fun k => σ1 54 (k + 3)) := ⟨_, rfl⟩
    rw [← es2] at e3
    have f2 : Fr (fun a k => (a = 49 ∧ k = 3) ∨ (a = 54 ∧ 3 * i ≤ k)) σ1 σ2 := by
      rw [es2]
      exact Fr_blk (Fr_wr Fr_rfl (Or.inl ⟨rfl, rfl⟩)) (fun k h1 h2 => Or.inr ⟨rfl, h1⟩)
    have v2 : ∀ k, 3 * i ≤ k → k < 3 * (nR (R σ) - 1) → σ2 54 k = σ 54 (k + 3) := fun k h1 h2 => by
      rw [es2, blk_i h1 h2, f1 _ _ (by omega)]
    have z2 : σ2 49 3 = nI (nR (R σ) - 1) := by rw [es2, blk_o (by omega)]; exact wr_eq
    have f : Fr (fun a k => (a = 11 ∧ k = 3) ∨ (a = 12 ∧ 5 * i ≤ k) ∨ (a = 49 ∧ k = 3) ∨ (a = 54 ∧ 3 * i ≤ k)) σ σ2 := Fr_tr (Fr_mo f1 (fun _ _ => by omega)) (Fr_mo f2 (fun _ _ => by omega))
    have r0 : ∀ k, k ≠ 3 → R σ2 0 k = R σ 0 k := fun k hk => R_fk f (by omega)
    have rj : R σ2 0 3 = nI (nR (R σ) - 1) := by rw [R_at (by decide)]; exact z2
    have eR : nR (R σ2) = nR (R σ) - 1 := N1_n rj (by omega)
    have eT : nT (R σ2) = nT (R σ) := N1_e (r0 1 (by decide))
    have eP : nP (R σ2) = nP (R σ) := N1_e (r0 2 (by decide))
    have ha : ∀ a, a < 8 → a ≠ 0 → a ≠ 5 → R σ2 a = R σ a := fun a h8 h0 h6 => R_fa f (fun _ => by omega)
    -- where each ride comes from
    obtain ⟨sh, hsh⟩ : ∃ sh : Nat → Nat, sh = fun j => if j < i then j else j + 1 := ⟨_, rfl⟩
    have sh_lt : ∀ j, j < nR (R σ) - 1 → sh j < nR (R σ) := fun j hj => by rw [hsh]; dsimp only; split <;> omega
    have rq : ∀ j q, j < nR (R σ) - 1 → q < 3 → R σ2 5 (3 * j + q) = R σ 5 (3 * sh j + q) := fun j q hj hq => by
      have hl := sh_lt j hj
      rw [R_at (by simp only [lenR]; omega), R_at (σ := σ) (by simp only [lenR]; omega)]
      rw [hsh]
      dsimp only
      split
      · exact f _ _ (by omega)
      · rw [show 3 * (j + 1) + q = (3 * j + q) + 3 by omega]
        exact v2 _ (by omega) (by omega)
    have cq : ∀ j q, j < nR (R σ) - 1 → q < 5 → C σ2 10 (5 * j + q) = C σ 10 (5 * sh j + q) := fun j q hj hq => by
      have hl := sh_lt j hj
      rw [C_ar (by simp only [lenC]; omega), C_ar (σ := σ) (by simp only [lenC]; omega), f2 _ _ (by omega)]
      rw [hsh]
      dsimp only
      split
      · exact f1 _ _ (by omega)
      · rw [show 5 * (j + 1) + q = (5 * j + q) + 5 by omega]
        exact v1 _ (by omega) (by omega)
    have rdq : ∀ j q, j < nR (R σ) - 1 → q < 3 → rd (R σ2) j q = rd (R σ) (sh j) q := fun j q hj hq => by
      unfold rd N1
      rw [rq j q hj hq]
    have hln := ln_t (ha 1 (by decide) (by decide) (by decide))
    have htr := tr_t (ha 2 (by decide) (by decide) (by decide))
    have hps := ps_t (ha 4 (by decide) (by decide) (by decide))
    have cdq : ∀ j, j < nR (R σ) - 1 → cdR (R σ2) j = cdR (R σ) (sh j) ∧ payR (R σ2) j = payR (R σ) (sh j) := fun j hj => by
      unfold cdR payR cdN paysN boatN
      rw [hln, htr, hps, rdq j 0 hj (by decide), rdq j 1 hj (by decide), rdq j 2 hj (by decide)]
      exact ⟨rfl, rfl⟩
    refine ⟨_, σ1, σ2, e2, e3, Inv_m (Fr_mo f (fun _ _ => by unfold Mu; omega)) hI (bi_ride (m := nR (R σ) - 1) hB (by omega) ha r0 rj (fun a h8 h0 h6 => C_fa f (fun _ => by omega)) ?_ ?_ ?_ ?_) (N1_e (r0 0 (by decide))) (R_fa f (fun _ => by omega))⟩
    · rw [C_at (by decide), f2 _ _ (by omega)]; exact z1
    · intro j hj
      rw [eR] at hj
      obtain ⟨o1, o2⟩ := hB.1.2.2.2.2.2.1 (sh j) (sh_lt j hj)
      refine ⟨fun q hq => ?_, ?_⟩
      · have := o1 q hq
        unfold Ok at this ⊢
        unfold N1
        rw [rq j q hj hq]
        exact this
      · rw [rdq j 0 hj (by decide), rdq j 1 hj (by decide), rdq j 2 hj (by decide), eP, eT]
        exact o2
    · intro p hp
      rw [eP] at hp
      obtain ⟨o1, o2⟩ := hB.1.2.2.2.2.1 p hp
      refine ⟨fun q hq => Ok_e (by rw [ha 4 (by decide) (by decide) (by decide)]) (o1 q hq), ?_⟩
      rw [hps]
      have hle : cdays (R σ2) p ≤ cdays (R σ) p := by
        rw [cdays_e hB.1]
        unfold cdays
        rw [cnt_isC (fun j hj => by
          rw [eR] at hj
          rw [(cdq j hj).1]
          have := cdR_le hB.1 (sh_lt j hj)
          omega), eR]
        refine cnt_mono fun d _ hd => ?_
        obtain ⟨j, hj, a1, a2⟩ := isC_iff.mp hd
        exact isC_iff.mpr ⟨sh j, sh_lt j hj, by rw [← rdq j 0 hj (by decide)]; exact a1, by rw [← (cdq j hj).1]; exact a2⟩
      exact ⟨o2.1, o2.2.1, o2.2.2.1, o2.2.2.2.1, o2.2.2.2.2.1, o2.2.2.2.2.2.1, o2.2.2.2.2.2.2.1, by omega⟩
    · intro j hj
      rw [eR] at hj
      obtain ⟨o1, o2, o3⟩ := hB.2.2.2.2.2.2.1 (sh j) (sh_lt j hj)
      refine ⟨fun q hq => ?_, ?_, ?_⟩
      · rw [cq j q hj (by omega), rdq j q hj hq]
        exact o1 q hq
      · rw [cq j 3 hj (by omega), (cdq j hj).1]
        exact o2
      · rw [cq j 4 hj (by omega), (cdq j hj).2]
        exact o3
theorem p_lose (hI : Inv σ) (x : Int32) : PM sc 83 [.ref 1, .int x] 193 [.ref 48, .int x] σ := by
  have hB := hI.1
  have bn := b_n hB.1
  rcases hsB_c x (n := nP (R σ)) (by omega) with e | ⟨p, hp, rfl, e⟩
  · refine pm_ro hI (v := -1) (cl_of (D_RailPasses_lose_0 _ σ) rfl ?_) (cl_of (D_Ref_lose_0 _ σ) rfl ?_)
    · simp only [lt_nI, nI_add, pk_mul, h_ps hB, e, thI_RI, if_true]
    · simp only [lt_nI, nI_add, pk_mul, x_isPass hB.1, e, thI_RI, if_true]
  · have b := b_ps hB.1 hp
    by_cases hl : ps (R σ) p 13 = 1
    · refine pm_ro hI (v := -4) (cl_of (D_RailPasses_lose_0 _ σ) rfl ?_) (cl_of (D_Ref_lose_0 _ σ) rfl ?_)
      · simp (disch := omega) only [lt_nI, nI_add, pk_mul, nI_clamp, nI_leI, nI_ltI, nI_eq, ixT, cond_true, Nat.reduceEqDiff, Nat.reduceLeDiff, reduceIte, h_ps hB, e, thI_RI, y_isLost hB hp, hl]
      · simp (disch := omega) only [lt_nI, nI_add, pk_mul, nI_clamp, nI_leI, nI_ltI, nI_eq, ixT, cond_true, Nat.reduceEqDiff, Nat.reduceLeDiff, reduceIte, x_isPass hB.1, e, thI_RI, r_ps hB.1 hp, hl]
    · -- the memory with both cells written
      have hl0 : ps (R σ) p 13 = 0 := by omega
      have e1 := s_set (sc := sc) TB9 (v := nI 1) (c_nP hB) bn.2.2.1 hp (show 14 < 15 by decide)
      obtain ⟨σ1, es1⟩ : ∃ x, x = rp_wr σ 10 (15 * p + 14) (nI 1) := ⟨_, rfl⟩
      have e1 : CL sc 5 [.ref 9, .int (nI p), .int (nI 14), .int (nI 1)] σ = RV σ1 := by rw [es1]; exact e1
      obtain ⟨σ2, es2⟩ : ∃ x, x = rp_wr σ1 53 (16 * p + 13) (nI 1) := ⟨_, rfl⟩
      have f1 : Fr (fun a k => a = 10 ∧ k = 15 * p + 14) σ σ1 := by rw [es1]; exact Fr_wr Fr_rfl ⟨rfl, rfl⟩
      have f2 : Fr (fun a k => a = 53 ∧ k = 16 * p + 13) σ1 σ2 := by rw [es2]; exact Fr_wr Fr_rfl ⟨rfl, rfl⟩
      have f : Fr (fun a k => (a = 10 ∧ k = 15 * p + 14) ∨ (a = 53 ∧ k = 16 * p + 13)) σ σ2 := Fr_tr (Fr_mo f1 (fun _ _ => by omega)) (Fr_mo f2 (fun _ _ => by omega))
      have er1 : R σ1 = R σ := R_fr f1 (fun a k ha => by omega)
      have ha : ∀ a, a < 8 → a ≠ 4 → R σ2 a = R σ a := fun a h8 h6 => R_fa f (fun _ => by omega)
      have r0 : R σ2 0 = R σ 0 := ha 0 (by decide) (by decide)
      have rq : ∀ k, k ≠ 16 * p + 13 → R σ2 4 k = R σ 4 k := fun k hk => R_fk f (by omega)
      have rp : R σ2 4 (16 * p + 13) = nI 1 := by rw [R_at (by simp only [lenR]; omega), es2]; exact wr_eq
      have psq : ∀ j q, q < 16 → ¬ (j = p ∧ q = 13) → ps (R σ2) j q = ps (R σ) j q := fun j q hq hj => N1_e (rq _ (by omega))
      have psp : ps (R σ2) p 13 = 1 := N1_n rp (by decide)
      have eP : nP (R σ2) = nP (R σ) := N1_e (by rw [r0])
      have eR : nR (R σ2) = nR (R σ) := N1_e (by rw [r0])
      have hln := ln_t (ha 1 (by decide) (by decide))
      have htr := tr_t (ha 2 (by decide) (by decide))
      have hrd := rd_t (ha 5 (by decide) (by decide))
      have hcd : ∀ i, i < nR (R σ) → cdR (R σ2) i = cdR (R σ) i ∧ payR (R σ2) i = payR (R σ) i := fun i hi => by
        unfold cdR payR cdN paysN boatN
        rw [hln, htr, hrd, psq _ 5 (by decide) (by omega), psq _ 6 (by decide) (by omega), psq _ 7 (by decide) (by omega)]
        exact ⟨rfl, rfl⟩
      have hcy : ∀ j, cdays (R σ2) j = cdays (R σ) j := fun j => cdays_t eR fun i hi => ⟨by rw [hrd], (hcd i hi).1⟩
      have hBI : BI (C σ2) (R σ2) := by
        refine bi_lose hB ha (fun a h8 h6 => C_fa f (fun _ => by omega)) hcd ?_ ?_
        · intro j hj
          rw [eP] at hj
          obtain ⟨o1, o2⟩ := hB.1.2.2.2.2.1 j hj
          by_cases hjp : j = p
          · subst hjp
            refine ⟨fun q hq => ?_, ?_⟩
            · by_cases hq13 : q = 13
              · subst hq13; exact Ok_n rp (by decide)
              · exact Ok_e (rq _ (by omega)) (o1 q hq)
            · rw [psp, hcy, psq j 0 (by decide) (by omega), psq j 1 (by decide) (by omega), psq j 11 (by decide) (by omega), psq j 12 (by decide) (by omega), psq j 14 (by decide) (by omega)]
              refine ⟨?_, o2.2.1, o2.2.2.1, o2.2.2.2.1, o2.2.2.2.2.1, by decide, o2.2.2.2.2.2.2.1, o2.2.2.2.2.2.2.2⟩
              have tm := o2.1
              unfold TM at tm ⊢
              rw [psq j 0 (by decide) (by omega), psq j 1 (by decide) (by omega), psq j 2 (by decide) (by omega), psq j 3 (by decide) (by omega), psq j 4 (by decide) (by omega), psq j 5 (by decide) (by omega), psq j 6 (by decide) (by omega), psq j 7 (by decide) (by omega), psq j 8 (by decide) (by omega), psq j 9 (by decide) (by omega), psq j 10 (by decide) (by omega)]
              exact tm
          · refine ⟨fun q hq => Ok_e (rq _ (by omega)) (o1 q hq), ?_⟩
            have tm := o2.1
            unfold TM at tm ⊢
            rw [hcy, psq j 0 (by decide) (by omega), psq j 1 (by decide) (by omega), psq j 2 (by decide) (by omega), psq j 3 (by decide) (by omega), psq j 4 (by decide) (by omega), psq j 5 (by decide) (by omega), psq j 6 (by decide) (by omega), psq j 7 (by decide) (by omega), psq j 8 (by decide) (by omega), psq j 9 (by decide) (by omega), psq j 10 (by decide) (by omega), psq j 11 (by decide) (by omega), psq j 12 (by decide) (by omega), psq j 13 (by decide) (by omega), psq j 14 (by decide) (by omega)]
            exact ⟨tm, o2.2⟩
        · intro j hj
          rw [eP] at hj
          obtain ⟨o1, o2, o3, o4, o5⟩ := hB.2.2.2.2.2.1 j hj
          have cq : ∀ k, k ≠ 15 * p + 14 → C σ2 8 k = C σ 8 k := fun k hk => C_fk f (by omega)
          refine ⟨fun q hq => by rw [cq _ (by omega), psq j q (by omega) (by omega)]; exact o1 q hq, ?_, ?_, ?_, ?_⟩
          · rw [cq _ (by omega), psq j 14 (by decide) (by omega)]; exact o2
          · rw [cq _ (by omega), psq j 11 (by decide) (by omega)]; exact o3
          · rw [cq _ (by omega), psq j 12 (by decide) (by omega)]; exact o4
          · by_cases hjp : j = p
            · subst hjp
              rw [psp, C_ar (by simp only [lenC]; omega), f2 _ _ (by omega), es1]
              exact wr_eq
            · rw [cq _ (by omega), psq j 13 (by decide) (by omega)]; exact o5
      have ec : C σ2 = C σ1 := C_fr f2 (fun a k ha => by omega)
      have hp2 : p < nP (R σ2) := by rw [eP]; exact hp
      have hB1 : BI (C σ1) (R σ2) := by rw [← ec]; exact hBI
      have hr1 : RB (R σ1) := by rw [er1]; exact hB.1
      refine ⟨nI (refN (R σ2) p), σ1, σ2, cl_of (D_RailPasses_lose_0 _ σ) rfl ?_, cl_of (D_Ref_lose_0 _ σ1) rfl ?_, Inv_m (Fr_mo f (fun _ _ => by unfold Mu; omega)) hI hBI (N1_e (by rw [r0])) (ha 1 (by decide) (by decide))⟩
      · simp (disch := omega) only [lt_nI, nI_add, pk_mul, nI_clamp, nI_leI, nI_ltI, nI_eq, ixT, cond_true, Nat.reduceEqDiff, Nat.reduceLeDiff, reduceIte, h_ps hB, e, thI_RI, y_isLost hB hp, hl0, e1, thV_RV, y_refund hB1 hp2]
      · simp (disch := omega) only [lt_nI, nI_add, pk_mul, nI_clamp, nI_leI, nI_ltI, nI_eq, ixT, cond_true, Nat.reduceEqDiff, Nat.reduceLeDiff, reduceIte, x_isPass hr1, er1, e, thI_RI]
        rw [show σ1 53 (16 * p + 13) = nI 0 by rw [r_ps hr1 (by rw [er1]; exact hp) (by decide), er1, hl0], if_neg (by decide), ← es2, x_refundOf hBI.1 hp2, thI_RI]
end
