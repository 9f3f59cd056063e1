/-! scan -/
def v5 (a b c d e : Nat) : Nat → Nat := fun q => match q with
  | 0 => a
  | 1 => b
  | 2 => c
  | 3 => d
  | _ => e
theorem lt5 {q : Nat} (h : q < 5) : q = 0 ∨ q = 1 ∨ q = 2 ∨ q = 3 ∨ q = 4 := by omega
section
variable {sc : rp_Sc} {σ r : rp_Mm}
theorem y_scan (hB : BI (C σ) r) {p d m s : Nat} (hp : p < nP r) (hs : s ≤ 9) (hd : d ≤ nD r) (hm : m ≤ 1439) (hS : nS r < 40) : ∃ σ1, CL sc 119 [.ref 1, .int (nI p), .int (nI d), .int (nI m), .int (nI s)] σ = RI (nI (nS r)) σ1 ∧ Fr (fun a k => (a = 15 ∧ k = 3) ∨ (a = 16 ∧ 5 * nS r ≤ k)) σ σ1 ∧ σ1 15 3 = nI (nS r + 1) ∧ ∀ q, q < 5 → σ1 16 (5 * nS r + q) = nI (v5 p d m s (nD r) q) := by
  have bn := b_n hB.1
  obtain ⟨n, hn⟩ : ∃ n, n = nS r := ⟨_, rfl⟩
  have hz := c_nS hB
  rw [← hn] at hz hS ⊢
  have a0 := s_append (sc := sc) TB15 hz hS
  have z0 : app σ 15 15 5 n 15 3 = nI (n + 1) := app_n (by decide)
  have s0 := s_set (sc := sc) TB15 (v := nI p) z0 (by omega) (show n < n + 1 by omega) (show 0 < 5 by decide)
  have z1 := (wr_n2 (a := 16) (b := 15) (k := 5 * n + 0) (j := 3) (x := nI p) (by decide)).trans z0
  have s1 := s_set (sc := sc) TB15 (v := nI d) z1 (by omega) (show n < n + 1 by omega) (show 1 < 5 by decide)
  have z2 := (wr_n2 (a := 16) (b := 15) (k := 5 * n + 1) (j := 3) (x := nI d) (by decide)).trans z1
  have s2 := s_set (sc := sc) TB15 (v := nI m) z2 (by omega) (show n < n + 1 by omega) (show 2 < 5 by decide)
  have z3 := (wr_n2 (a := 16) (b := 15) (k := 5 * n + 2) (j := 3) (x := nI m) (by decide)).trans z2
  have s3 := s_set (sc := sc) TB15 (v := nI s) z3 (by omega) (show n < n + 1 by omega) (show 3 < 5 by decide)
  have z4 := (wr_n2 (a := 16) (b := 15) (k := 5 * n + 3) (j := 3) (x := nI s) (by decide)).trans z3
  have s4 := s_set (sc := sc) TB15 (v := nI (nD r)) z4 (by omega) (show n < n + 1 by omega) (show 4 < 5 by decide)
  have z5 := (wr_n2 (a := 16) (b := 15) (k := 5 * n + 4) (j := 3) (x := nI (nD r)) (by decide)).trans z4
  have hd0 : app σ 15 15 5 n 2 7 = nI (nD r) := (app_o (by omega) (by omega)).trans (c_nD hB)
  refine ⟨_, cl_of (D_RailPasses_scan_0 _ _ _ _ σ) rfl ?_, ?_, z5, ?_⟩
  · simp (disch := omega) only [lt_nI, nI_add, pk_mul, h_ps hB, hsB_t hp, s_isStation, s_isPast hB, s_isMinute, inB_n, thI_RI, i_0, if_false, s_isFull TB15 σ hz, show ¬ n = 40 by omega, i_1, if_true, a0, s0, s1, s2, s3, wr_n2, hd0, s4, thV_RV]
  · refine Fr_wr (Fr_wr (Fr_wr (Fr_wr (Fr_wr (Fr_blk (Fr_wr Fr_rfl (Or.inl ⟨rfl, rfl⟩)) ?_) ?_) ?_) ?_) ?_) ?_
    · intro k h1 h2
      exact Or.inr ⟨rfl, h1⟩
    all_goals exact Or.inr ⟨rfl, by omega⟩
  · intro q hq
    rcases lt5 hq with rfl | rfl | rfl | rfl | rfl <;> simp (disch := omega) only [wr_eq, wr_nk] <;> rfl
theorem x_scan (h : RB (R σ)) {p d m s : Nat} (hp : p < nP (R σ)) (hs : s ≤ 9) (hd : d ≤ nD (R σ)) (hm : m ≤ 1439) (hS : nS (R σ) < 40) : ∃ σ1, CL sc 214 [.ref 48, .int (nI p), .int (nI d), .int (nI m), .int (nI s)] σ = RI (nI (nS (R σ))) σ1 ∧ Fr (fun a k => (a = 49 ∧ k = 5) ∨ (a = 56 ∧ 5 * nS (R σ) ≤ k)) σ σ1 ∧ σ1 49 5 = nI (nS (R σ) + 1) ∧ ∀ q, q < 5 → σ1 56 (5 * nS (R σ) + q) = nI (v5 p d m s (nD (R σ)) q) := by
  have bn := b_n h
  obtain ⟨n, hn⟩ : ∃ n, n = nS (R σ) := ⟨_, rfl⟩
  have hz := r_nS h
  rw [← hn] at hz hS ⊢
  refine ⟨rp_wr (rp_wr (rp_wr (rp_wr (rp_wr (rp_wr σ 56 (5 * n) (nI p)) 56 (5 * n + 1) (nI d)) 56 (5 * n + 2) (nI m)) 56 (5 * n + 3) (nI s)) 56 (5 * n + 4) (nI (nD (R σ)))) 49 5 (nI (n + 1)), cl_of (D_Ref_scan_0 _ _ _ _ σ) rfl ?_, ?_, wr_eq, ?_⟩
  · simp (disch := omega) only [lt_nI, nI_add, pk_mul, nI_clamp, nI_leI, nI_ltI, nI_eq, ixT, cond_true, Nat.reduceEqDiff, Nat.reduceLeDiff, reduceIte, x_isPass h, hsB_t hp, x_isStation, s_in, r_nD h, inB_n, thI_RI, hz, show ¬ n = 40 by omega, wr_n2, wr_eq, pk_sub, Nat.add_sub_cancel]
  · refine Fr_wr (Fr_wr (Fr_wr (Fr_wr (Fr_wr (Fr_wr Fr_rfl ?_) ?_) ?_) ?_) ?_) (Or.inl ⟨rfl, rfl⟩)
    all_goals exact Or.inr ⟨rfl, by omega⟩
  · intro q hq
    rcases lt5 hq with rfl | rfl | rfl | rfl | rfl <;> simp (disch := omega) only [wr_n2, wr_eq, wr_nk, Nat.add_zero] <;> rfl
theorem p_scan (hI : Inv σ) (p d m s : Int32) : PM sc 119 [.ref 1, .int p, .int d, .int m, .int s] 214 [.ref 48, .int p, .int d, .int m, .int s] σ := by
  have hB := hI.1
  have bn := b_n hB.1
  rcases hsB_c p (n := nP (R σ)) (by omega) with e1 | ⟨p, hp, rfl, e1⟩
  · refine pm_ro hI (v := -1) (cl_of (D_RailPasses_scan_0 _ _ _ _ σ) rfl ?_) (cl_of (D_Ref_scan_0 _ _ _ _ σ) rfl ?_)
    · simp only [lt_nI, nI_add, pk_mul, h_ps hB, e1, i_0, thI_RI, if_true, if_false]
    · simp only [lt_nI, nI_add, pk_mul, x_isPass hB.1, e1, i_0, thI_RI, if_true, if_false]
  rcases inB_c s (a := 0) (b := 9) (by decide) (by decide) with e2 | ⟨s, -, hs, rfl, e2⟩
  · refine pm_ro hI (v := -1) (cl_of (D_RailPasses_scan_0 _ _ _ _ σ) rfl ?_) (cl_of (D_Ref_scan_0 _ _ _ _ σ) rfl ?_)
    · simp only [lt_nI, nI_add, pk_mul, h_ps hB, s_isStation, e1, e2, i_0, thI_RI, if_true, if_false]
    · simp only [lt_nI, nI_add, pk_mul, x_isPass hB.1, x_isStation, e1, e2, i_0, thI_RI, if_true, if_false]
  rcases inB_c d (a := 0) (b := nD (R σ)) (by decide) (by omega) with e3 | ⟨d, -, hd, rfl, e3⟩
  · refine pm_ro hI (v := -1) (cl_of (D_RailPasses_scan_0 _ _ _ _ σ) rfl ?_) (cl_of (D_Ref_scan_0 _ _ _ _ σ) rfl ?_)
    · simp only [lt_nI, nI_add, pk_mul, h_ps hB, s_isStation, s_isPast hB, e1, e2, e3, i_0, thI_RI, if_true, if_false]
    · simp only [lt_nI, nI_add, pk_mul, x_isPass hB.1, x_isStation, s_in, r_nD hB.1, e1, e2, e3, i_0, thI_RI, if_true, if_false]
  rcases inB_c m (a := 0) (b := 1439) (by decide) (by decide) with e4 | ⟨m, -, hm, rfl, e4⟩
  · refine pm_ro hI (v := -1) (cl_of (D_RailPasses_scan_0 _ _ _ _ σ) rfl ?_) (cl_of (D_Ref_scan_0 _ _ _ _ σ) rfl ?_)
    · simp only [lt_nI, nI_add, pk_mul, h_ps hB, s_isStation, s_isPast hB, s_isMinute, e1, e2, e3, e4, i_0, thI_RI, if_true, if_false]
    · simp only [lt_nI, nI_add, pk_mul, x_isPass hB.1, x_isStation, s_in, r_nD hB.1, e1, e2, e3, e4, i_0, thI_RI, if_true, if_false]
  by_cases hS : nS (R σ) < 40
  · obtain ⟨σ1, c1, c2, c3, c4⟩ := y_scan (sc := sc) hB hp hs hd hm hS
    have er : R σ1 = R σ := R_fr c2 (fun a k ha => by omega)
    obtain ⟨σ2, d1, d2, d3, d4⟩ := x_scan (sc := sc) (σ := σ1) (by rw [er]; exact hB.1) (by rw [er]; exact hp) hs (by rw [er]; exact hd) hm (by rw [er]; exact hS)
    rw [er] at d1 d2 d3 d4
    have f : Fr (fun a k => (a = 15 ∧ k = 3) ∨ (a = 16 ∧ 5 * nS (R σ) ≤ k) ∨ (a = 49 ∧ k = 5) ∨ (a = 56 ∧ 5 * nS (R σ) ≤ k)) σ σ2 := Fr_tr (Fr_mo c2 (fun _ _ => by omega)) (Fr_mo d2 (fun _ _ => by omega))
    have r0 : ∀ k, k ≠ 5 → R σ2 0 k = R σ 0 k := fun k hk => R_fk f (by omega)
    have rj : R σ2 0 5 = nI (nS (R σ) + 1) := by rw [R_at (by decide)]; exact d3
    have eS : nS (R σ2) = nS (R σ) + 1 := N1_n rj (by omega)
    have eP : nP (R σ2) = nP (R σ) := N1_e (r0 2 (by decide))
    have hv : ∀ q, q < 5 → v5 p d m s (nD (R σ)) q < 2 ^ 31 := fun q hq => by
      rcases lt5 hq with rfl | rfl | rfl | rfl | rfl <;> simp only [v5] <;> omega
    have qn : ∀ q, q < 5 → R σ2 7 (5 * nS (R σ) + q) = nI (v5 p d m s (nD (R σ)) q) := fun q hq => by rw [R_at (by simp only [lenR]; omega)]; exact d4 q hq
    have qo : ∀ k, k < 5 * nS (R σ) → R σ2 7 k = R σ 7 k := fun k hk => R_fk f (by omega)
    have cn : ∀ q, q < 5 → C σ2 14 (5 * nS (R σ) + q) = nI (v5 p d m s (nD (R σ)) q) := fun q hq => by rw [C_ar (by simp only [lenC]; omega), d2 _ _ (by omega)]; exact c4 q hq
    have co : ∀ k, k < 5 * nS (R σ) → C σ2 14 k = C σ 14 k := fun k hk => C_fk f (by omega)
    have wn : ∀ q, q < 5 → sn (R σ2) (nS (R σ)) q = v5 p d m s (nD (R σ)) q := fun q hq => N1_n (qn q hq) (hv q hq)
    have wo : ∀ w q, w < nS (R σ) → q < 5 → sn (R σ2) w q = sn (R σ) w q := fun w q hw hq => N1_e (qo _ (by omega))
    refine ⟨_, σ1, σ2, c1, d1, Inv_m (Fr_mo f (fun _ _ => by unfold Mu; omega)) hI (bi_scan (m := nS (R σ) + 1) hB (by omega) (fun a h8 h0 h6 => R_fa f (fun _ => by omega)) r0 rj (fun a h8 h0 h6 => C_fa f (fun _ => by omega)) ?_ ?_ ?_) (N1_e (r0 0 (by decide))) (R_fa f (fun _ => by omega))⟩
    · rw [C_at (by decide), d2 _ _ (by omega)]; exact c3
    · intro w hw
      rw [eS] at hw
      rw [eP]
      by_cases hw2 : w = nS (R σ)
      · subst hw2
        refine ⟨fun q hq => Ok_n (qn q hq) (hv q hq), ?_⟩
        rw [wn 0 (by decide), wn 1 (by decide), wn 2 (by decide), wn 3 (by decide), wn 4 (by decide)]
        simp only [v5]
        omega
      · obtain ⟨o1, o2⟩ := hB.1.2.2.2.2.2.2.2 w (by omega)
        refine ⟨fun q hq => Ok_e (qo _ (by omega)) (o1 q hq), ?_⟩
        rw [wo w 0 (by omega) (by decide), wo w 1 (by omega) (by decide), wo w 2 (by omega) (by decide), wo w 3 (by omega) (by decide), wo w 4 (by omega) (by decide)]
        exact o2
    · intro w hw q hq
      rw [eS] at hw
      by_cases hw2 : w = nS (R σ)
      · subst hw2
        rw [wn q hq]; exact cn q hq
      · rw [co _ (by omega), wo w q (by omega) hq]
        exact hB.2.2.2.2.2.2.2.2 w (by omega) q hq
  · have hS : nS (R σ) = 40 := by omega
    refine pm_ro hI (v := -2) (cl_of (D_RailPasses_scan_0 _ _ _ _ σ) rfl ?_) (cl_of (D_Ref_scan_0 _ _ _ _ σ) rfl ?_)
    · simp (disch := omega) only [lt_nI, nI_add, pk_mul, nI_clamp, nI_leI, nI_ltI, nI_eq, ixT, cond_true, Nat.reduceEqDiff, Nat.reduceLeDiff, reduceIte, h_ps hB, s_isStation, s_isPast hB, s_isMinute, e1, e2, e3, e4, i_0, thI_RI, if_false, s_isFull TB15 σ (c_nS hB), hS]
    · simp (disch := omega) only [lt_nI, nI_add, pk_mul, nI_clamp, nI_leI, nI_ltI, nI_eq, ixT, cond_true, Nat.reduceEqDiff, Nat.reduceLeDiff, reduceIte, x_isPass hB.1, x_isStation, s_in, r_nD hB.1, e1, e2, e3, e4, thI_RI, r_nS hB.1, hS]
end
