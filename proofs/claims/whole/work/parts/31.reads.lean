/-! pass, row, many, forge -/
theorem wr_n2 {σ : rp_Mm} {a b k j : Nat} {x : Int32} (h : b ≠ a) : rp_wr σ a k x b j = σ b j := by simp [rp_wr, h]
section
variable {sc : rp_Sc} {σ r : rp_Mm}
theorem p_pass (hI : Inv σ) (p w : Int32) : PM sc 63 [.ref 1, .int p, .int w] 191 [.ref 48, .int p, .int w] σ := by
  have hB := hI.1
  have bn := b_n hB.1
  rcases hsB_c p (n := nP (R σ)) (by omega) with e | ⟨p, hp, rfl, e⟩
  · refine pm_ro hI (v := -1) (cl_of (D_RailPasses_pass_0 _ _ σ) rfl ?_) (cl_of (D_Ref_pass_0 _ _ σ) rfl ?_)
    · simp only [lt_nI, nI_add, pk_mul, h_ps hB, e, thI_RI, if_true]
    · simp only [lt_nI, nI_add, pk_mul, x_isPass hB.1, e, thI_RI, if_true]
  · have b := b_ps hB.1 hp
    have tm := b.1
    unfold TM at tm
    rcases inB_c w (a := 0) (b := 8) (by decide) (by decide) with e' | ⟨k, -, hk, rfl, e'⟩
    · have hne : ∀ k, k ≤ 8 → (w = nI k) = False := fun k hk => inB_ne e' (Nat.zero_le _) hk (by decide)
      refine pm_ro hI (v := -1) (cl_of (D_RailPasses_pass_0 _ _ σ) rfl ?_) (cl_of (D_Ref_pass_0 _ _ σ) rfl ?_)
      · simp only [lt_nI, nI_add, pk_mul, h_ps hB, e, thI_RI, i_0, if_false, hne 0 (by decide), hne 1 (by decide), hne 2 (by decide), hne 3 (by decide), hne 4 (by decide), hne 5 (by decide), hne 6 (by decide), hne 7 (by decide), hne 8 (by decide)]
      · simp only [lt_nI, nI_add, pk_mul, x_isPass hB.1, e, e', thI_RI, s_in, i_0, if_true, if_false]
    · have hk' : k = 0 ∨ k = 1 ∨ k = 2 ∨ k = 3 ∨ k = 4 ∨ k = 5 ∨ k = 6 ∨ k = 7 ∨ k = 8 := by omega
      rcases hk' with rfl | rfl | rfl | rfl | rfl | rfl | rfl | rfl | rfl
      · refine pm_ro hI (v := nI (ps (R σ) p 14)) (cl_of (D_RailPasses_pass_0 _ _ σ) rfl ?_) (cl_of (D_Ref_pass_0 _ _ σ) rfl ?_)
        · simp (disch := omega) only [lt_nI, nI_add, pk_mul, nI_clamp, nI_leI, nI_ltI, nI_eq, ixT, cond_true, Nat.reduceEqDiff, Nat.reduceLeDiff, reduceIte, h_ps hB, e, thI_RI, g_ps11 hB hp]
        · simp (disch := omega) only [lt_nI, nI_add, pk_mul, nI_clamp, nI_leI, nI_ltI, nI_eq, ixT, cond_true, Nat.reduceEqDiff, Nat.reduceLeDiff, reduceIte, x_isPass hB.1, e, e', thI_RI, s_in, r_ps hB.1 hp]
      · refine pm_ro hI (v := nI (ps (R σ) p 11)) (cl_of (D_RailPasses_pass_0 _ _ σ) rfl ?_) (cl_of (D_Ref_pass_0 _ _ σ) rfl ?_)
        · simp (disch := omega) only [lt_nI, nI_add, pk_mul, nI_clamp, nI_leI, nI_ltI, nI_eq, ixT, cond_true, Nat.reduceEqDiff, Nat.reduceLeDiff, reduceIte, h_ps hB, e, thI_RI, g_ps12 hB hp]
        · simp (disch := omega) only [lt_nI, nI_add, pk_mul, nI_clamp, nI_leI, nI_ltI, nI_eq, ixT, cond_true, Nat.reduceEqDiff, Nat.reduceLeDiff, reduceIte, x_isPass hB.1, e, e', thI_RI, s_in, r_ps hB.1 hp]
      · refine pm_ro hI (v := nI (ps (R σ) p 12)) (cl_of (D_RailPasses_pass_0 _ _ σ) rfl ?_) (cl_of (D_Ref_pass_0 _ _ σ) rfl ?_)
        · simp (disch := omega) only [lt_nI, nI_add, pk_mul, nI_clamp, nI_leI, nI_ltI, nI_eq, ixT, cond_true, Nat.reduceEqDiff, Nat.reduceLeDiff, reduceIte, h_ps hB, e, thI_RI, g_ps13 hB hp]
        · simp (disch := omega) only [lt_nI, nI_add, pk_mul, nI_clamp, nI_leI, nI_ltI, nI_eq, ixT, cond_true, Nat.reduceEqDiff, Nat.reduceLeDiff, reduceIte, x_isPass hB.1, e, e', thI_RI, s_in, r_ps hB.1 hp]
      · refine pm_ro hI (v := nI (cdays (R σ) p)) (cl_of (D_RailPasses_pass_0 _ _ σ) rfl ?_) (cl_of (D_Ref_pass_0 _ _ σ) rfl ?_)
        · simp (disch := omega) only [lt_nI, nI_add, pk_mul, nI_clamp, nI_leI, nI_ltI, nI_eq, ixT, cond_true, Nat.reduceEqDiff, Nat.reduceLeDiff, reduceIte, h_ps hB, e, thI_RI, y_countedDays hB hp]
        · simp (disch := omega) only [lt_nI, nI_add, pk_mul, nI_clamp, nI_leI, nI_ltI, nI_eq, ixT, cond_true, Nat.reduceEqDiff, Nat.reduceLeDiff, reduceIte, x_isPass hB.1, e, e', thI_RI, s_in, x_countedDays hB.1 hp]
      · refine pm_ro hI (v := nI (byN (R σ) p)) (cl_of (D_RailPasses_pass_0 _ _ σ) rfl ?_) (cl_of (D_Ref_pass_0 _ _ σ) rfl ?_)
        · simp (disch := omega) only [lt_nI, nI_add, pk_mul, nI_clamp, nI_leI, nI_ltI, nI_eq, ixT, cond_true, Nat.reduceEqDiff, Nat.reduceLeDiff, reduceIte, h_ps hB, e, thI_RI, y_ridesBy hB hp]
        · simp (disch := omega) only [lt_nI, nI_add, pk_mul, nI_clamp, nI_leI, nI_ltI, nI_eq, ixT, cond_true, Nat.reduceEqDiff, Nat.reduceLeDiff, reduceIte, x_isPass hB.1, e, e', thI_RI, s_in, x_by hB.1 hp]
      · refine pm_ro hI (v := nI (paidN (R σ) p)) (cl_of (D_RailPasses_pass_0 _ _ σ) rfl ?_) (cl_of (D_Ref_pass_0 _ _ σ) rfl ?_)
        · simp (disch := omega) only [lt_nI, nI_add, pk_mul, nI_clamp, nI_leI, nI_ltI, nI_eq, ixT, cond_true, Nat.reduceEqDiff, Nat.reduceLeDiff, reduceIte, h_ps hB, e, thI_RI, y_paidBy hB hp]
        · simp (disch := omega) only [lt_nI, nI_add, pk_mul, nI_clamp, nI_leI, nI_ltI, nI_eq, ixT, cond_true, Nat.reduceEqDiff, Nat.reduceLeDiff, reduceIte, x_isPass hB.1, e, e', thI_RI, s_in, x_paid hB.1 hp]
      · refine pm_ro hI (v := nI (ps (R σ) p 13)) (cl_of (D_RailPasses_pass_0 _ _ σ) rfl ?_) (cl_of (D_Ref_pass_0 _ _ σ) rfl ?_)
        · simp (disch := omega) only [lt_nI, nI_add, pk_mul, nI_clamp, nI_leI, nI_ltI, nI_eq, ixT, cond_true, Nat.reduceEqDiff, Nat.reduceLeDiff, reduceIte, h_ps hB, e, thI_RI, g_ps14 hB hp]
        · simp (disch := omega) only [lt_nI, nI_add, pk_mul, nI_clamp, nI_leI, nI_ltI, nI_eq, ixT, cond_true, Nat.reduceEqDiff, Nat.reduceLeDiff, reduceIte, x_isPass hB.1, e, e', thI_RI, s_in, r_ps hB.1 hp]
      · refine pm_ro hI (v := nI (refN (R σ) p)) (cl_of (D_RailPasses_pass_0 _ _ σ) rfl ?_) (cl_of (D_Ref_pass_0 _ _ σ) rfl ?_)
        · simp (disch := omega) only [lt_nI, nI_add, pk_mul, nI_clamp, nI_leI, nI_ltI, nI_eq, ixT, cond_true, Nat.reduceEqDiff, Nat.reduceLeDiff, reduceIte, h_ps hB, e, thI_RI, y_refund hB hp]
        · simp (disch := omega) only [lt_nI, nI_add, pk_mul, nI_clamp, nI_leI, nI_ltI, nI_eq, ixT, cond_true, Nat.reduceEqDiff, Nat.reduceLeDiff, reduceIte, x_isPass hB.1, e, e', thI_RI, s_in, x_refundOf hB.1 hp]
      · refine pm_ro hI (v := nI (ps (R σ) p 12 + ps (R σ) p 1 - 1)) (cl_of (D_RailPasses_pass_0 _ _ σ) rfl ?_) (cl_of (D_Ref_pass_0 _ _ σ) rfl ?_)
        · simp (disch := omega) only [lt_nI, nI_add, pk_mul, nI_clamp, nI_leI, nI_ltI, nI_eq, ixT, cond_true, Nat.reduceEqDiff, Nat.reduceLeDiff, reduceIte, h_ps hB, e, thI_RI, y_lastGoodDay hB hp]
        · simp (disch := omega) only [lt_nI, nI_add, pk_mul, nI_clamp, nI_leI, nI_ltI, nI_eq, ixT, cond_true, Nat.reduceEqDiff, Nat.reduceLeDiff, reduceIte, x_isPass hB.1, e, e', thI_RI, s_in, r_ps hB.1 hp, pk_sub]
theorem h_rw {n : Nat} (h : σ 43 3 = nI n) (v : Int32) : CL sc 25 [.ref 43, .int v] σ = RI (hsB v n) σ := by
  rw [s_has TB42, h]; rfl
theorem p_row (hI : Inv σ) (i w : Int32) : PM sc 114 [.ref 1, .int i, .int w] 207 [.ref 48, .int i, .int w] σ := by
  obtain ⟨n, hn, h1, h2, h3⟩ := hI.2.2.1
  rcases inB_c w (a := 0) (b := 2) (by decide) (by decide) with e | ⟨k, -, hk, rfl, e⟩
  · refine pm_ro hI (v := -1) (cl_of (D_RailPasses_row_0 _ _ σ) rfl ?_) (cl_of (D_Ref_row_0 _ _ σ) rfl ?_)
    · simp only [lt_nI, nI_add, pk_mul, s_isWithin, e, thI_RI, if_true]
    · simp only [lt_nI, nI_add, pk_mul, s_in, e, thI_RI, if_true]
  · rcases hsB_c i (n := n) (by omega) with e' | ⟨i, hi, rfl, e'⟩
    · refine pm_ro hI (v := -3) (cl_of (D_RailPasses_row_0 _ _ σ) rfl ?_) (cl_of (D_Ref_row_0 _ _ σ) rfl ?_)
      · simp only [lt_nI, nI_add, pk_mul, s_isWithin, e, e', h_rw h1, thI_RI, i_0, if_true, if_false]
      · simp (disch := omega) only [lt_nI, nI_add, pk_mul, s_in, e, h2, inB_hs, e', thI_RI, i_0, if_true, if_false]
    · refine pm_ro hI (v := σ 62 (3 * i + k)) (cl_of (D_RailPasses_row_0 _ _ σ) rfl ?_) (cl_of (D_Ref_row_0 _ _ σ) rfl ?_)
      · simp (disch := omega) only [lt_nI, nI_add, pk_mul, s_isWithin, e, e', h_rw h1, thI_RI, i_0, if_true, if_false, s_get TB42 h1 hn hi]
        rw [h3 _ (by omega)]
      · simp (disch := omega) only [lt_nI, nI_add, pk_mul, nI_clamp, nI_leI, nI_ltI, nI_eq, ixT, cond_true, Nat.reduceEqDiff, Nat.reduceLeDiff, reduceIte, s_in, e, h2, inB_hs, e', thI_RI, i_0, if_true, if_false]
theorem p_forge (hI : Inv σ) (i w x : Int32) : PM sc 115 [.ref 1, .int i, .int w, .int x] 208 [.ref 48, .int i, .int w, .int x] σ := by
  obtain ⟨n, hn, h1, h2, h3⟩ := hI.2.2.1
  rcases inB_c w (a := 0) (b := 2) (by decide) (by decide) with e | ⟨k, -, hk, rfl, e⟩
  · refine pm_ro hI (v := -1) (cl_of (D_RailPasses_forge_0 _ _ _ σ) rfl ?_) (cl_of (D_Ref_forge_0 _ _ _ σ) rfl ?_)
    · simp only [lt_nI, nI_add, pk_mul, s_isWithin, e, thI_RI, if_true]
    · simp only [lt_nI, nI_add, pk_mul, s_in, e, thI_RI, if_true]
  · rcases hsB_c i (n := n) (by omega) with e' | ⟨i, hi, rfl, e'⟩
    · refine pm_ro hI (v := -3) (cl_of (D_RailPasses_forge_0 _ _ _ σ) rfl ?_) (cl_of (D_Ref_forge_0 _ _ _ σ) rfl ?_)
      · simp only [lt_nI, nI_add, pk_mul, s_isWithin, e, e', h_rw h1, thI_RI, i_0, if_true, if_false]
      · simp (disch := omega) only [lt_nI, nI_add, pk_mul, s_in, e, h2, inB_hs, e', thI_RI, i_0, if_true, if_false]
    · refine ⟨σ 62 (3 * i + k), rp_wr σ 44 (3 * i + k) x, rp_wr (rp_wr σ 44 (3 * i + k) x) 62 (3 * i + k) x, cl_of (D_RailPasses_forge_0 _ _ _ σ) rfl ?_, cl_of (D_Ref_forge_0 _ _ _ _) rfl ?_, ?_⟩
      · simp (disch := omega) only [lt_nI, nI_add, pk_mul, s_isWithin, e, e', h_rw h1, thI_RI, thV_RV, i_0, if_true, if_false, s_get TB42 h1 hn hi, s_set TB42 h1 hn hi]
        rw [h3 _ (by omega)]
      · simp (disch := omega) only [lt_nI, nI_add, pk_mul, nI_clamp, nI_leI, nI_ltI, nI_eq, ixT, cond_true, Nat.reduceEqDiff, Nat.reduceLeDiff, reduceIte, s_in, e, wr_n2, h2, inB_hs, e', thI_RI, i_0, if_true, if_false]
      · have f : Fr (fun a k => a = 44 ∨ a = 62) σ (rp_wr (rp_wr σ 44 (3 * i + k) x) 62 (3 * i + k) x) := Fr_wr (Fr_wr Fr_rfl (Or.inl rfl)) (Or.inr rfl)
        obtain ⟨a, b, c, d, g⟩ := hI
        have er := R_fr f (fun a k ha => by omega)
        refine ⟨by rw [C_fr f (fun a k ha => by omega), er]; exact a, TP_fr f (by omega) (by omega) (fun _ => by omega) (fun _ => by omega) b, ⟨n, hn, ?_, ?_, fun j hj => ?_⟩, KP_fr f (by omega) (by omega) (fun _ _ _ => by omega) (fun _ => by omega) d, WY_fr f (fun _ => by omega) (by rw [er]) (fun _ _ _ _ => by rw [er]) g⟩
        · rw [wr_n2 (by decide), wr_n2 (by decide)]; exact h1
        · rw [wr_n2 (by decide), wr_n2 (by decide)]; exact h2
        · rw [wr_n2 (by decide)]
          by_cases hj2 : j = 3 * i + k
          · subst hj2
            rw [wr_eq, wr_eq]
          · rw [wr_nk hj2, wr_nk hj2, wr_n2 (by decide)]
            exact h3 j hj
def thereN (r : rp_Mm) : Nat → Nat := sumn (fun l => lw r l 11)
theorem y_lawsThere (h : BI (C σ) r) : CL sc 143 [.ref 2] σ = RI (nI (thereN r 3)) σ := by
  refine cl_le rfl (rp_Le_tr ?_ (D_Book_lawsThere_0 σ))
  have L := lp (E := fun i => EV sc (143, 0, 0, 4, [.ref 2, .int (nI (thereN r i)), .int (nI i)], [], (rp_L0, σ))) (n := 3) (fun i hi => by
    refine rp_Le_tr ?_ (D_Book_lawsThere_4 _ _ σ)
    simp (disch := omega) only [lt_nI, nI_add, pk_mul, nI_clamp, nI_leI, nI_ltI, nI_eq, ixT, cond_true, g_lw h hi, thI_RI, show ¬ 3 ≤ i by omega, if_false, thereN, sumn]
    exact rp_Le_rfl)
  refine rp_Le_tr ?_ L
  refine rp_Le_tr ?_ (D_Book_lawsThere_4 _ _ σ)
  simp (disch := omega) only [lt_nI, nI_add, pk_mul, nI_clamp, nI_leI, nI_ltI, nI_eq, ixT, cond_true, Nat.le_refl, if_true]
  exact rp_Le_rfl
theorem x_lawsThere {x1 : Int32} (h : RB (R σ)) : EV sc (225, 0, 0, 65, [.ref 48, .int x1, .int (nI 0), .int (nI 0)], [], (rp_L0, σ)) = RI (nI (thereN (R σ) 3)) σ := by
  have L := lp (E := fun i => EV sc (225, 0, 0, 65, [.ref 48, .int x1, .int (nI (thereN (R σ) i)), .int (nI i)], [], (rp_L0, σ))) (n := 3) (fun i hi => by
    have b := b_lw h hi
    refine rp_Le_tr ?_ (D_Ref_many_65 _ _ _ σ)
    simp (disch := omega) only [lt_nI, nI_add, pk_mul, nI_clamp, nI_leI, nI_ltI, nI_eq, ixT, cond_true, x_hasLaw h hi, thI_RI, show ¬ 3 ≤ i by omega, if_false, thereN, sumn]
    split
    next e =>
      rw [e]
      refine rp_Le_tr ?_ (D_Ref_many_84 _ _ _ _ _ σ)
      (simp only [lt_nI, nI_add, pk_mul]; exact rp_Le_rfl)
    next e =>
      rw [show lw (R σ) i 11 = 1 by omega]
      refine rp_Le_tr ?_ (D_Ref_many_84 _ _ _ _ _ σ)
      (simp only [lt_nI, nI_add, pk_mul]; exact rp_Le_rfl))
  refine (rp_Le_tr ?_ L) _ rfl
  refine rp_Le_tr ?_ (D_Ref_many_65 _ _ _ σ)
  simp (disch := omega) only [lt_nI, nI_add, pk_mul, nI_clamp, nI_leI, nI_ltI, nI_eq, ixT, cond_true, Nat.le_refl, if_true]
  exact rp_Le_rfl
theorem p_many (hI : Inv σ) (w : Int32) : PM sc 142 [.ref 1, .int w] 225 [.ref 48, .int w] σ := by
  have hB := hI.1
  have bn := b_n hB.1
  obtain ⟨n, hn, h1, h2, h3⟩ := hI.2.2.1
  obtain ⟨m, hm, q1, q2, q3⟩ := hI.2.1
  have ez : CL sc 31 [.ref 32] σ = RI (nI m) σ := cl_of (D_LawText_size_0 σ) rfl (by rw [q1])
  have ey : CL sc 19 [.ref 43] σ = RI (nI n) σ := by rw [s_size TB42, h1]
  rcases inB_c w (a := 0) (b := 9) (by decide) (by decide) with e' | ⟨k, -, hk, rfl, e'⟩
  · have hne : ∀ k, k ≤ 9 → (w = nI k) = False := fun k hk => inB_ne e' (Nat.zero_le _) hk (by decide)
    refine pm_ro hI (v := -1) (cl_of (D_RailPasses_many_0 _ σ) rfl ?_) (cl_of (D_Ref_many_0 _ σ) rfl ?_)
    · simp only [lt_nI, nI_add, pk_mul, if_false, hne 0 (by decide), hne 1 (by decide), hne 2 (by decide), hne 3 (by decide), hne 4 (by decide), hne 5 (by decide), hne 6 (by decide), hne 7 (by decide), hne 8 (by decide), hne 9 (by decide)]
    · simp only [lt_nI, nI_add, pk_mul, if_false, hne 0 (by decide), hne 1 (by decide), hne 2 (by decide), hne 3 (by decide), hne 4 (by decide), hne 5 (by decide), hne 6 (by decide), hne 7 (by decide), hne 8 (by decide), hne 9 (by decide)]
  · have hk' : k = 0 ∨ k = 1 ∨ k = 2 ∨ k = 3 ∨ k = 4 ∨ k = 5 ∨ k = 6 ∨ k = 7 ∨ k = 8 ∨ k = 9 := by omega
    rcases hk' with rfl | rfl | rfl | rfl | rfl | rfl | rfl | rfl | rfl | rfl
    · refine pm_ro hI (v := nI (nL (R σ))) (cl_of (D_RailPasses_many_0 _ σ) rfl ?_) (cl_of (D_Ref_many_0 _ σ) rfl ?_)
      · simp (disch := omega) only [lt_nI, nI_add, pk_mul, nI_clamp, nI_leI, nI_ltI, nI_eq, ixT, cond_true, Nat.reduceEqDiff, Nat.reduceLeDiff, reduceIte, thI_RI, z_ln hB]
      · simp (disch := omega) only [lt_nI, nI_add, pk_mul, nI_clamp, nI_leI, nI_ltI, nI_eq, ixT, cond_true, Nat.reduceEqDiff, Nat.reduceLeDiff, reduceIte, r_nL hB.1]
    · refine pm_ro hI (v := nI (nT (R σ))) (cl_of (D_RailPasses_many_0 _ σ) rfl ?_) (cl_of (D_Ref_many_0 _ σ) rfl ?_)
      · simp (disch := omega) only [lt_nI, nI_add, pk_mul, nI_clamp, nI_leI, nI_ltI, nI_eq, ixT, cond_true, Nat.reduceEqDiff, Nat.reduceLeDiff, reduceIte, thI_RI, z_tr hB]
      · simp (disch := omega) only [lt_nI, nI_add, pk_mul, nI_clamp, nI_leI, nI_ltI, nI_eq, ixT, cond_true, Nat.reduceEqDiff, Nat.reduceLeDiff, reduceIte, r_nT hB.1]
    · refine pm_ro hI (v := nI (thereN (R σ) 3)) (cl_of (D_RailPasses_many_0 _ σ) rfl ?_) (cl_of (D_Ref_many_0 _ σ) rfl ?_)
      · simp (disch := omega) only [lt_nI, nI_add, pk_mul, nI_clamp, nI_leI, nI_ltI, nI_eq, ixT, cond_true, Nat.reduceEqDiff, Nat.reduceLeDiff, reduceIte, thI_RI, y_lawsThere hB]
      · simp (disch := omega) only [lt_nI, nI_add, pk_mul, nI_clamp, nI_leI, nI_ltI, nI_eq, ixT, cond_true, Nat.reduceEqDiff, Nat.reduceLeDiff, reduceIte, x_lawsThere hB.1]
    · refine pm_ro hI (v := nI (nP (R σ))) (cl_of (D_RailPasses_many_0 _ σ) rfl ?_) (cl_of (D_Ref_many_0 _ σ) rfl ?_)
      · simp (disch := omega) only [lt_nI, nI_add, pk_mul, nI_clamp, nI_leI, nI_ltI, nI_eq, ixT, cond_true, Nat.reduceEqDiff, Nat.reduceLeDiff, reduceIte, thI_RI, z_ps hB]
      · simp (disch := omega) only [lt_nI, nI_add, pk_mul, nI_clamp, nI_leI, nI_ltI, nI_eq, ixT, cond_true, Nat.reduceEqDiff, Nat.reduceLeDiff, reduceIte, pk_sub, Nat.reduceSub, r_nP hB.1]
    · refine pm_ro hI (v := nI (nR (R σ))) (cl_of (D_RailPasses_many_0 _ σ) rfl ?_) (cl_of (D_Ref_many_0 _ σ) rfl ?_)
      · simp (disch := omega) only [lt_nI, nI_add, pk_mul, nI_clamp, nI_leI, nI_ltI, nI_eq, ixT, cond_true, Nat.reduceEqDiff, Nat.reduceLeDiff, reduceIte, thI_RI, z_rd hB]
      · simp (disch := omega) only [lt_nI, nI_add, pk_mul, nI_clamp, nI_leI, nI_ltI, nI_eq, ixT, cond_true, Nat.reduceEqDiff, Nat.reduceLeDiff, reduceIte, pk_sub, Nat.reduceSub, r_nR hB.1]
    · refine pm_ro hI (v := nI (nW (R σ))) (cl_of (D_RailPasses_many_0 _ σ) rfl ?_) (cl_of (D_Ref_many_0 _ σ) rfl ?_)
      · simp (disch := omega) only [lt_nI, nI_add, pk_mul, nI_clamp, nI_leI, nI_ltI, nI_eq, ixT, cond_true, Nat.reduceEqDiff, Nat.reduceLeDiff, reduceIte, thI_RI, z_ws hB]
      · simp (disch := omega) only [lt_nI, nI_add, pk_mul, nI_clamp, nI_leI, nI_ltI, nI_eq, ixT, cond_true, Nat.reduceEqDiff, Nat.reduceLeDiff, reduceIte, pk_sub, Nat.reduceSub, r_nW hB.1]
    · refine pm_ro hI (v := nI n) (cl_of (D_RailPasses_many_0 _ σ) rfl ?_) (cl_of (D_Ref_many_0 _ σ) rfl ?_)
      · simp (disch := omega) only [lt_nI, nI_add, pk_mul, nI_clamp, nI_leI, nI_ltI, nI_eq, ixT, cond_true, Nat.reduceEqDiff, Nat.reduceLeDiff, reduceIte, thI_RI, ey]
      · simp (disch := omega) only [lt_nI, nI_add, pk_mul, nI_clamp, nI_leI, nI_ltI, nI_eq, ixT, cond_true, Nat.reduceEqDiff, Nat.reduceLeDiff, reduceIte, h2]
    · refine pm_ro hI (v := nI (nS (R σ))) (cl_of (D_RailPasses_many_0 _ σ) rfl ?_) (cl_of (D_Ref_many_0 _ σ) rfl ?_)
      · simp (disch := omega) only [lt_nI, nI_add, pk_mul, nI_clamp, nI_leI, nI_ltI, nI_eq, ixT, cond_true, Nat.reduceEqDiff, Nat.reduceLeDiff, reduceIte, thI_RI, z_sn hB]
      · simp (disch := omega) only [lt_nI, nI_add, pk_mul, nI_clamp, nI_leI, nI_ltI, nI_eq, ixT, cond_true, Nat.reduceEqDiff, Nat.reduceLeDiff, reduceIte, r_nS hB.1]
    · refine pm_ro hI (v := nI m) (cl_of (D_RailPasses_many_0 _ σ) rfl ?_) (cl_of (D_Ref_many_0 _ σ) rfl ?_)
      · simp (disch := omega) only [lt_nI, nI_add, pk_mul, nI_clamp, nI_leI, nI_ltI, nI_eq, ixT, cond_true, Nat.reduceEqDiff, Nat.reduceLeDiff, reduceIte, thI_RI, ez]
      · simp (disch := omega) only [lt_nI, nI_add, pk_mul, nI_clamp, nI_leI, nI_ltI, nI_eq, ixT, cond_true, Nat.reduceEqDiff, Nat.reduceLeDiff, reduceIte, q2]
    · refine pm_ro hI (v := nI (nD (R σ))) (cl_of (D_RailPasses_many_0 _ σ) rfl ?_) (cl_of (D_Ref_many_0 _ σ) rfl ?_)
      · simp (disch := omega) only [lt_nI, nI_add, pk_mul, nI_clamp, nI_leI, nI_ltI, nI_eq, ixT, cond_true, Nat.reduceEqDiff, Nat.reduceLeDiff, reduceIte, c_nD hB]
      · simp (disch := omega) only [lt_nI, nI_add, pk_mul, nI_clamp, nI_leI, nI_ltI, nI_eq, ixT, cond_true, Nat.reduceEqDiff, Nat.reduceLeDiff, reduceIte, r_nD hB.1]
end
