/-! wish, unwish -/
section
variable {sc : rp_Sc} {σ r : rp_Mm}
theorem y_wish (hB : BI (C σ) r) {t d : Nat} (ht : t < nT r) (hd : d ≤ 120) (hW : nW r < 10) : ∃ σ1, CL sc 84 [.ref 1, .int (nI t), .int (nI d)] σ = RI (nI (nW r + 1)) σ1 ∧ Fr (fun a k => (a = 13 ∧ k = 3) ∨ (a = 14 ∧ 2 * nW r ≤ k)) σ σ1 ∧ σ1 13 3 = nI (nW r + 1) ∧ σ1 14 (2 * nW r) = nI t ∧ σ1 14 (2 * nW r + 1) = nI d := by
  have bn := b_n hB.1
  obtain ⟨n, hn⟩ : ∃ n, n = nW r := ⟨_, rfl⟩
  have hz := c_nW hB
  rw [← hn] at hz hW ⊢
  have a0 := s_append (sc := sc) TB13 hz hW
  have z0 : app σ 13 13 2 n 13 3 = nI (n + 1) := app_n (by decide)
  have s0 := s_set (sc := sc) TB13 (v := nI t) z0 (by omega) (show n < n + 1 by omega) (show 0 < 2 by decide)
  have z1 := (wr_n2 (a := 14) (b := 13) (k := 2 * n + 0) (j := 3) (x := nI t) (by decide)).trans z0
  have s1 := s_set (sc := sc) TB13 (v := nI d) z1 (by omega) (show n < n + 1 by omega) (show 1 < 2 by decide)
  have z2 := (wr_n2 (a := 14) (b := 13) (k := 2 * n + 1) (j := 3) (x := nI d) (by decide)).trans z1
  refine ⟨rp_wr (rp_wr (app σ 13 13 2 n) 14 (2 * n + 0) (nI t)) 14 (2 * n + 1) (nI d), cl_of (D_RailPasses_wish_0 _ _ σ) rfl ?_, ?_, z2, ?_, wr_eq⟩
  · simp (disch := omega) only [lt_nI, nI_add, pk_mul, h_tr hB, hsB_t ht, s_isDay, inB_n, thI_RI, i_0, if_false, s_isFull TB13 σ hz, show ¬ n = 10 by omega, i_1, if_true, a0, s0, s1, thV_RV, s_size TB13, z2]
  · refine Fr_wr (Fr_wr (Fr_blk (Fr_wr Fr_rfl (Or.inl ⟨rfl, rfl⟩)) ?_) (Or.inr ⟨rfl, by omega⟩)) (Or.inr ⟨rfl, by omega⟩)
    intro k h1 h2
    exact Or.inr ⟨rfl, h1⟩
  · rw [wr_nk (by omega)]
    exact wr_eq
theorem x_wish (h : RB (R σ)) {t d : Nat} (ht : t < nT (R σ)) (hd : d ≤ 120) (hW : nW (R σ) < 10) : ∃ σ1, CL sc 194 [.ref 48, .int (nI t), .int (nI d)] σ = RI (nI (nW (R σ) + 1)) σ1 ∧ Fr (fun a k => (a = 49 ∧ k = 4) ∨ (a = 55 ∧ 2 * nW (R σ) ≤ k)) σ σ1 ∧ σ1 49 4 = nI (nW (R σ) + 1) ∧ σ1 55 (2 * nW (R σ)) = nI t ∧ σ1 55 (2 * nW (R σ) + 1) = nI d := by
  have bn := b_n h
  refine ⟨rp_wr (rp_wr (rp_wr σ 55 (2 * nW (R σ)) (nI t)) 55 (2 * nW (R σ) + 1) (nI d)) 49 4 (nI (nW (R σ) + 1)), cl_of (D_Ref_wish_0 _ _ σ) rfl ?_, ?_, wr_eq, ?_, ?_⟩
  · simp (disch := omega) only [lt_nI, nI_add, pk_mul, nI_clamp, nI_leI, nI_ltI, nI_eq, ixT, cond_true, Nat.reduceEqDiff, Nat.reduceLeDiff, reduceIte, x_isTrain h, hsB_t ht, x_isDay, inB_n, thI_RI, r_nW h, show ¬ nW (R σ) = 10 by omega, wr_n2, wr_eq]
  · exact Fr_wr (Fr_wr (Fr_wr Fr_rfl (Or.inr ⟨rfl, by omega⟩)) (Or.inr ⟨rfl, by omega⟩)) (Or.inl ⟨rfl, rfl⟩)
  · rw [wr_n2 (by decide), wr_nk (by omega)]
    exact wr_eq
  · rw [wr_n2 (by decide)]
    exact wr_eq
theorem p_wish (hI : Inv σ) (t d : Int32) : PM sc 84 [.ref 1, .int t, .int d] 194 [.ref 48, .int t, .int d] σ := by
  have hB := hI.1
  have bn := b_n hB.1
  rcases hsB_c t (n := nT (R σ)) (by omega) with e' | ⟨t, ht, rfl, e'⟩
  · refine pm_ro hI (v := -1) (cl_of (D_RailPasses_wish_0 _ _ σ) rfl ?_) (cl_of (D_Ref_wish_0 _ _ σ) rfl ?_)
    · simp only [lt_nI, nI_add, pk_mul, h_tr hB, e', i_0, thI_RI, if_true, if_false]
    · simp only [lt_nI, nI_add, pk_mul, x_isTrain hB.1, e', i_0, thI_RI, if_true, if_false]
  · rcases inB_c d (a := 0) (b := 120) (by decide) (by decide) with e'' | ⟨d, -, hd, rfl, e''⟩
    · refine pm_ro hI (v := -1) (cl_of (D_RailPasses_wish_0 _ _ σ) rfl ?_) (cl_of (D_Ref_wish_0 _ _ σ) rfl ?_)
      · simp only [lt_nI, nI_add, pk_mul, h_tr hB, s_isDay, e', e'', i_0, thI_RI, if_true, if_false]
      · simp only [lt_nI, nI_add, pk_mul, x_isTrain hB.1, x_isDay, e', e'', i_0, thI_RI, if_true, if_false]
    · by_cases hW : nW (R σ) < 10
      · obtain ⟨σ1, c1, c2, c3, c4, c5⟩ := y_wish (sc := sc) hB ht hd hW
        have er : R σ1 = R σ := R_fr c2 (fun a k ha => by omega)
        obtain ⟨σ2, d1, d2, d3, d4, d5⟩ := x_wish (sc := sc) (σ := σ1) (by rw [er]; exact hB.1) (by rw [er]; exact ht) hd (by rw [er]; exact hW)
        rw [er] at d1 d2 d3 d4 d5
        have f : Fr (fun a k => (a = 13 ∧ k = 3) ∨ (a = 14 ∧ 2 * nW (R σ) ≤ k) ∨ (a = 49 ∧ k = 4) ∨ (a = 55 ∧ 2 * nW (R σ) ≤ k)) σ σ2 := Fr_tr (Fr_mo c2 (fun _ _ => by omega)) (Fr_mo d2 (fun _ _ => by omega))
        have r0 : ∀ k, k ≠ 4 → R σ2 0 k = R σ 0 k := fun k hk => R_fk f (by omega)
        have rj : R σ2 0 4 = nI (nW (R σ) + 1) := by rw [R_at (by decide)]; exact d3
        have eW : nW (R σ2) = nW (R σ) + 1 := N1_n rj (by omega)
        have eT : nT (R σ2) = nT (R σ) := N1_e (r0 1 (by decide))
        have q0 : R σ2 6 (2 * nW (R σ)) = nI t := by rw [R_at (by simp only [lenR]; omega)]; exact d4
        have q1 : R σ2 6 (2 * nW (R σ) + 1) = nI d := by rw [R_at (by simp only [lenR]; omega)]; exact d5
        have qo : ∀ k, k < 2 * nW (R σ) → R σ2 6 k = R σ 6 k := fun k hk => R_fk f (by omega)
        have c0 : C σ2 12 (2 * nW (R σ)) = nI t := by rw [C_ar (by simp only [lenC]; omega), d2 _ _ (by omega)]; exact c4
        have c1' : C σ2 12 (2 * nW (R σ) + 1) = nI d := by rw [C_ar (by simp only [lenC]; omega), d2 _ _ (by omega)]; exact c5
        have co : ∀ k, k < 2 * nW (R σ) → C σ2 12 k = C σ 12 k := fun k hk => C_fk f (by omega)
        have w0 : ws (R σ2) (nW (R σ)) 0 = t := N1_n q0 (by omega)
        have w1 : ws (R σ2) (nW (R σ)) 1 = d := N1_n q1 (by omega)
        refine ⟨_, σ1, σ2, c1, d1, Inv_m (Fr_mo f (fun _ _ => by unfold Mu; omega)) hI (bi_wish (m := nW (R σ) + 1) hB (by omega) (fun a h8 h0 h6 => R_fa f (fun _ => by omega)) r0 rj (fun a h8 h0 h6 => C_fa f (fun _ => by omega)) ?_ ?_ ?_) (N1_e (r0 0 (by decide))) (R_fa f (fun _ => by omega))⟩
        · rw [C_at (by decide), d2 _ _ (by omega)]; exact c3
        · intro w hw
          rw [eW] at hw
          rw [eT]
          by_cases hw2 : w = nW (R σ)
          · subst hw2
            rw [w0, w1]
            refine ⟨fun q hq => ?_, ht, hd⟩
            have : q = 0 ∨ q = 1 := by omega
            rcases this with rfl | rfl
            · exact Ok_n q0 (by omega)
            · exact Ok_n q1 (by omega)
          · obtain ⟨o1, o2⟩ := hB.1.2.2.2.2.2.2.1 w (by omega)
            refine ⟨fun q hq => Ok_e (qo _ (by omega)) (o1 q hq), ?_⟩
            rw [show ws (R σ2) w 0 = ws (R σ) w 0 from N1_e (qo _ (by omega)), show ws (R σ2) w 1 = ws (R σ) w 1 from N1_e (qo _ (by omega))]
            exact o2
        · intro w hw q hq
          rw [eW] at hw
          by_cases hw2 : w = nW (R σ)
          · subst hw2
            have : q = 0 ∨ q = 1 := by omega
            rcases this with rfl | rfl
            · rw [w0]; exact c0
            · rw [w1]; exact c1'
          · rw [co _ (by omega), show ws (R σ2) w q = ws (R σ) w q from N1_e (qo _ (by omega))]
            exact hB.2.2.2.2.2.2.2.1 w (by omega) q hq
      · have hW : nW (R σ) = 10 := by omega
        refine pm_ro hI (v := -2) (cl_of (D_RailPasses_wish_0 _ _ σ) rfl ?_) (cl_of (D_Ref_wish_0 _ _ σ) rfl ?_)
        · simp (disch := omega) only [lt_nI, nI_add, pk_mul, nI_clamp, nI_leI, nI_ltI, nI_eq, ixT, cond_true, Nat.reduceEqDiff, Nat.reduceLeDiff, reduceIte, h_tr hB, s_isDay, e', e'', i_0, thI_RI, if_false, s_isFull TB13 σ (c_nW hB), hW]
        · simp (disch := omega) only [lt_nI, nI_add, pk_mul, nI_clamp, nI_leI, nI_ltI, nI_eq, ixT, cond_true, Nat.reduceEqDiff, Nat.reduceLeDiff, reduceIte, x_isTrain hB.1, x_isDay, e', e'', thI_RI, r_nW hB.1, hW]
end
