/-! prove, check: both sides -/
section
variable {sc : rp_Sc} {σ μ : rp_Mm}
theorem p_prove (hI : Inv σ) : PM sc 109 [.ref 1] 204 [.ref 48] σ := by
  have hB := hI.1
  have bn := b_n hB.1
  obtain ⟨r, er⟩ : ∃ r, r = R σ := ⟨_, rfl⟩
  have hBr : BI (C σ) r := by rw [er]; exact hB
  have dl := dsa_le (r := r) (l := 3)
  obtain ⟨N, eN⟩ : ∃ N, N = (dsa r 3).1 := ⟨_, rfl⟩
  obtain ⟨μ1, c1, f1⟩ := y_due (sc := sc) hBr
  have hB1 : BI (C μ1) r := by rw [C_fr f1 (fun a k ha => by omega)]; exact hBr
  rw [← eN] at c1 dl
  by_cases h2 : N ≤ 200
  · obtain ⟨μ2, c2, f2, z2, v2⟩ := y_write (sc := sc) hB1 (by rw [← eN]; exact h2)
    rw [← eN] at z2 v2
    have f12 : Fr (fun a k => (37 ≤ a ∧ a ≤ 41) ∨ (a = 43 ∧ k = 3) ∨ a = 44) σ μ2 := Fr_tr (Fr_mo f1 (fun _ _ => by omega)) f2
    have r2 : R μ2 = r := by rw [R_fr f12 (fun a k ha => by omega), er]
    obtain ⟨μ3, c3, f3, z3, v3⟩ := x_findDue (sc := sc) (σ := μ2) (by rw [r2]; exact hBr.1)
    rw [r2, ← eN] at z3
    rw [r2] at v3
    rw [← eN] at v3
    obtain ⟨μ4, em⟩ : ∃ m, m = rp_wr μ3 48 25 (nI N) := ⟨_, rfl⟩
    obtain ⟨μ5, ⟨f5, v5⟩, L5⟩ := lp_inv (E := fun k μ => EV sc (204, 0, 0, 27, [.ref 48, .int (nI k)], [], (rp_L0, μ))) (fun k μ => Fr (fun a _ => a = 62) μ4 μ ∧ ∀ j, j < k → μ 62 j = (dsa r 3).2 j) (n := 3 * N) (fun k μ hk hR => by
      obtain ⟨f, v⟩ := hR
      have e23 : μ 48 23 = nI N := by rw [f _ _ (by omega), em, wr_nk (by decide)]; exact z3
      have e60 : μ 61 k = (dsa r 3).2 k := by rw [f _ _ (by omega), em, wr_n2 (by decide)]; exact v3 k hk
      refine ⟨rp_wr μ 62 k ((dsa r 3).2 k), ⟨Fr_wr f rfl, fun j hj => ?_⟩, rp_Le_tr ?_ (D_Ref_prove_27 _ μ)⟩
      · by_cases e : j = k
        · subst e; exact wr_eq
        · rw [wr_nk e]; exact v j (by omega)
      · simp (disch := omega) only [lt_nI, nI_add, pk_mul, e23, nI_leI, show ¬ 3 * N ≤ k by omega, if_false, ixT, cond_true, nI_clamp, e60]
        exact rp_Le_rfl) (s := μ4) ⟨Fr_rfl, fun j hj => absurd hj (by omega)⟩
    have f24 : Fr (fun a k => (58 ≤ a ∧ a ≤ 61) ∨ (a = 48 ∧ 19 ≤ k ∧ k ≤ 25)) μ2 μ4 := by rw [em]; exact Fr_wr (Fr_mo f3 (fun _ _ => by omega)) (by omega)
    have f25 : Fr (fun a k => (58 ≤ a ∧ a ≤ 62) ∨ (a = 48 ∧ 19 ≤ k ∧ k ≤ 25)) μ2 μ5 := Fr_tr (Fr_mo f24 (fun _ _ => by omega)) (Fr_mo f5 (fun _ _ => by omega))
    have f : Fr (fun a k => (37 ≤ a ∧ a ≤ 41) ∨ (a = 43 ∧ k = 3) ∨ a = 44 ∨ (58 ≤ a ∧ a ≤ 62) ∨ (a = 48 ∧ 19 ≤ k ∧ k ≤ 25)) σ μ5 := Fr_tr (Fr_mo f12 (fun _ _ => by omega)) (Fr_mo f25 (fun _ _ => by omega))
    have e25 : μ5 48 25 = nI N := by rw [f5 _ _ (by omega), em]; exact wr_eq
    have e23 : μ5 48 23 = nI N := by rw [f5 _ _ (by omega), em, wr_nk (by decide)]; exact z3
    have rr : R μ5 = R σ := R_fr f (fun a k ha => by omega)
    refine ⟨nI N, μ2, μ5, cl_of (D_RailPasses_prove_0 σ) rfl ?_, cl_le rfl (rp_Le_tr ?_ (D_Ref_prove_0 μ2)), by rw [rr, C_fr f (fun a k ha => by omega)]; exact hB, TP_fr f (by omega) (by omega) (fun _ => by omega) (fun _ => by omega) hI.2.1, ⟨N, h2, by rw [f25 _ _ (by omega)]; exact z2, e25, fun k hk => ?_⟩, KP_fr f (by omega) (by omega) (fun _ _ _ => by omega) (fun _ => by omega) hI.2.2.2.1, WY_fr f (fun _ => by omega) (by rw [rr]) (fun _ _ _ _ => by rw [rr]) hI.2.2.2.2⟩
    · simp (disch := omega) only [lt_nI, c1, thI_RI, nI_leI, h2, if_true, c2, thV_RV, s_size TB42, z2]
    · simp (disch := omega) only [lt_nI, c3, thV_RV, z3, nI_leI, h2, if_true]
      rw [← em]
      refine rp_Le_tr (rp_Le_tr ?_ (D_Ref_prove_27 _ μ5)) L5
      simp (disch := omega) only [lt_nI, pk_mul, e23, nI_leI, Nat.le_refl, if_true, e25]
      exact rp_Le_rfl
    · rw [f25 _ _ (by omega), v2 k hk, v5 k hk]
  · have r1 : R μ1 = r := by rw [R_fr f1 (fun a k ha => by omega), er]
    obtain ⟨μ3, c3, f3, z3, v3⟩ := x_findDue (sc := sc) (σ := μ1) (by rw [r1]; exact hBr.1)
    rw [r1, ← eN] at z3
    refine ⟨-2, μ1, μ3, cl_of (D_RailPasses_prove_0 σ) rfl ?_, cl_of (D_Ref_prove_0 μ1) rfl ?_, Inv_sc (Fr_tr (Fr_mo f1 (fun _ _ => by unfold Sc; omega)) (Fr_mo f3 (fun _ _ => by unfold Sc; omega))) hI⟩
    · simp (disch := omega) only [lt_nI, c1, thI_RI, nI_leI, h2, if_false]
    · simp (disch := omega) only [lt_nI, c3, thV_RV, z3, nI_leI, h2, if_false]
theorem p_check (hI : Inv σ) : PM sc 116 [.ref 1] 209 [.ref 48] σ := by
  have hB := hI.1
  have bn := b_n hB.1
  obtain ⟨m, hm, w1, w2, w3⟩ := hI.2.2.1
  obtain ⟨r, er⟩ : ∃ r, r = R σ := ⟨_, rfl⟩
  have hBr : BI (C σ) r := by rw [er]; exact hB
  have dl := dsa_le (r := r) (l := 3)
  obtain ⟨N, eN⟩ : ∃ N, N = (dsa r 3).1 := ⟨_, rfl⟩
  obtain ⟨D, eD⟩ : ∃ D, D = (dsa r 3).2 := ⟨_, rfl⟩
  obtain ⟨μ1, c1, f1⟩ := y_due (sc := sc) hBr
  have hB1 : BI (C μ1) r := by rw [C_fr f1 (fun a k ha => by omega)]; exact hBr
  rw [← eN] at c1 dl
  by_cases h2 : N ≤ 200
  · obtain ⟨v, μ2, c2, f2, hcw⟩ := y_firstWrong (sc := sc) hB1 (m := m) (by rw [f1 _ _ (by omega)]; exact w1) hm
    rw [← eN, ← eD, show μ1 44 = σ 44 from funext fun k => f1 _ _ (by omega)] at hcw
    have f12 : Fr (fun a _ => 37 ≤ a ∧ a ≤ 41) σ μ2 := Fr_tr f1 f2
    have r2 : R μ2 = r := by rw [R_fr f12 (fun a k ha => by omega), er]
    obtain ⟨μ3, c3, f3, z3, v3⟩ := x_findDue (sc := sc) (σ := μ2) (by rw [r2]; exact hBr.1)
    rw [r2, ← eN] at z3
    rw [r2] at v3
    rw [← eN, ← eD] at v3
    have e25 : μ3 48 25 = nI m := by rw [f3 _ _ (by omega), f12 _ _ (by omega)]; exact w2
    have e61 : ∀ k, k < 3 * m → μ3 62 k = σ 44 k := fun k hk => by rw [f3 _ _ (by omega), f12 _ _ (by omega), w3 k hk]
    have Sc' : Inv μ3 := Inv_sc (Fr_tr (Fr_mo f12 (fun _ _ => by unfold Sc; omega)) (Fr_mo f3 (fun _ _ => by unfold Sc; omega))) hI
    have cc : CL sc 116 [.ref 1] σ = RI v μ2 := by
      refine cl_of (D_RailPasses_check_0 σ) rfl ?_
      simp (disch := omega) only [lt_nI, c1, thI_RI, nI_leI, h2, if_true, c2]
    have St : rp_Le (EV sc (209, 0, 0, 19, [.ref 48, .int (nI 0)], [], (rp_L0, μ3))) (EV sc (209, 0, 0, 0, [.ref 48, rp_U], [], (rp_L0, μ2))) := by
      refine rp_Le_tr ?_ (D_Ref_check_0 μ2)
      simp (disch := omega) only [lt_nI, c3, thV_RV, z3, nI_leI, h2, if_true]
      exact rp_Le_rfl
    rcases lp_first (E := fun k => EV sc (209, 0, 0, 19, [.ref 48, .int (nI k)], [], (rp_L0, μ3))) (r1 := fun k => RI (nI (k / 3)) μ3) (r0 := RI (if N ≤ m then -1 else nI m) μ3) (P := fun k => 3 * N ≤ k ∨ σ 44 k ≠ D k) (3 * m) 0 (3 * m) (by omega)
      (fun k _ hk hp => by
        refine rp_Le_tr ?_ (D_Ref_check_19 _ μ3)
        have ed : nI k / nI 3 = nI (k / 3) := pk_div (by omega) (by decide) (by decide)
        by_cases q : 3 * N ≤ k
        · simp (disch := omega) only [lt_nI, pk_mul, e25, z3, nI_leI, show ¬ 3 * m ≤ k by omega, if_false, q, if_true, ed]
          exact rp_Le_rfl
        · have hne : ¬ σ 44 k = D k := by
            rcases hp with hp | hp
            · exact absurd hp q
            · exact hp
          simp (disch := omega) only [lt_nI, pk_mul, e25, z3, nI_leI, show ¬ 3 * m ≤ k by omega, if_false, q, ixT, cond_true, nI_clamp, e61 k hk, v3 k (by omega), eq_false hne, ed]
          exact rp_Le_rfl)
      (fun k _ hk hp => by
        refine rp_Le_tr ?_ (D_Ref_check_19 _ μ3)
        have q : ¬ 3 * N ≤ k := fun q => hp (Or.inl q)
        have heq : σ 44 k = D k := Classical.byContradiction fun q => hp (Or.inr q)
        simp (disch := omega) only [lt_nI, nI_add, pk_mul, e25, z3, nI_leI, show ¬ 3 * m ≤ k by omega, if_false, q, ixT, cond_true, nI_clamp, e61 k hk, v3 k (by omega), eq_true heq, if_true]
        exact rp_Le_rfl)
      (by
        refine rp_Le_tr ?_ (D_Ref_check_19 _ μ3)
        simp (disch := omega) only [lt_nI, pk_mul, e25, z3, nI_leI, Nat.le_refl, if_true]
        by_cases q : N ≤ m
        · simp only [eq_true q, if_true]; exact rp_Le_rfl
        · simp only [eq_false q, if_false]; exact rp_Le_rfl) with ⟨k, -, hk, hp, hno, L⟩ | ⟨hno, L⟩
    · have hall : ∀ j, j < k → j < 3 * N ∧ σ 44 j = D j := fun j hj => by
        have := hno j (by omega) hj
        exact ⟨Nat.lt_of_not_le fun q => this (Or.inl q), Classical.byContradiction fun q => this (Or.inr q)⟩
      have hcw' : CW N D m (σ 44) (nI (k / 3)) := by
        by_cases q : 3 * N ≤ k
        · have hkN : k = 3 * N := by
            by_cases e : k = 3 * N
            · exact e
            · have := (hall (3 * N) (by omega)).1; omega
          refine Or.inr ⟨fun j hj => ⟨by omega, fun x hx => (hall _ (by omega)).2⟩, ?_⟩
          rw [if_neg (by omega), hkN, Nat.mul_div_cancel_left _ (by decide)]
        · have hne : ¬ σ 44 k = D k := by
            rcases hp with hp | hp
            · exact absurd hp q
            · exact hp
          refine Or.inl ⟨k / 3, by omega, fun h => hne ?_, fun j hj => ⟨by omega, fun x hx => (hall _ (by omega)).2⟩, rfl⟩
          have := h.2 (k % 3) (Nat.mod_lt _ (by decide))
          rw [Nat.div_add_mod] at this
          exact this
      have := CW_u hcw hcw'
      subst this
      exact ⟨_, μ2, μ3, cc, cl_le rfl (rp_Le_tr L St), Sc'⟩
    · have hall : ∀ j, j < 3 * m → j < 3 * N ∧ σ 44 j = D j := fun j hj => by
        have := hno j (by omega) hj
        exact ⟨Nat.lt_of_not_le fun q => this (Or.inl q), Classical.byContradiction fun q => this (Or.inr q)⟩
      have hmN : m ≤ N := by
        by_cases e : m = 0
        · omega
        · have := (hall (3 * m - 1) (by omega)).1; omega
      have hcw' : CW N D m (σ 44) (if N ≤ m then -1 else nI m) := by
        by_cases q : N ≤ m
        · rw [if_pos q]
          refine Or.inr ⟨fun j hj => ⟨by omega, fun x hx => (hall _ (by omega)).2⟩, ?_⟩
          rw [if_pos hmN]
        · rw [if_neg q]
          exact Or.inl ⟨m, by omega, fun h => absurd h.1 (by omega), fun j hj => ⟨hj, fun x hx => (hall _ (by omega)).2⟩, rfl⟩
      have := CW_u hcw hcw'
      subst this
      exact ⟨_, μ2, μ3, cc, cl_le rfl (rp_Le_tr L St), Sc'⟩
  · have r1 : R μ1 = r := by rw [R_fr f1 (fun a k ha => by omega), er]
    obtain ⟨μ3, c3, f3, z3, v3⟩ := x_findDue (sc := sc) (σ := μ1) (by rw [r1]; exact hBr.1)
    rw [r1, ← eN] at z3
    refine ⟨-2, μ1, μ3, cl_of (D_RailPasses_check_0 σ) rfl ?_, cl_of (D_Ref_check_0 μ1) rfl ?_, Inv_sc (Fr_tr (Fr_mo f1 (fun _ _ => by unfold Sc; omega)) (Fr_mo f3 (fun _ _ => by unfold Sc; omega))) hI⟩
    · simp (disch := omega) only [lt_nI, c1, thI_RI, nI_leI, h2, if_false]
    · simp (disch := omega) only [lt_nI, c3, thV_RV, z3, nI_leI, h2, if_false]
end
