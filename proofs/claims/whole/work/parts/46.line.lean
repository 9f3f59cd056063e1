/-! line, back -/
section
variable {sc : rp_Sc} {σ μ r : rp_Mm}
theorem y_line (hB : BI (C σ) r) {a b w m s : Nat} {bo : Int32} (ha : a ≤ 9) (hb : b ≤ 9) (hab : a ≠ b) (hw : w ≤ 4) (hm1 : 1 ≤ m) (hm : m ≤ 300) (hL : nL r < 14) (hs : (bo = nI 0 ∧ s = 0) ∨ (¬ bo = nI 0 ∧ s = 1)) {r' : rp_Mm} (hn' : nL r' = nL r + 1) (ho' : ∀ l q, l < nL r → q < 5 → ln r' l q = ln r l q) (hv' : ∀ q, q < 5 → ln r' (nL r) q = v5 a b w m s q) : ∃ σ1 K, CL sc 13 [.ref 1, .int (nI a), .int (nI b), .int (nI w), .int (nI m), .int bo] σ = RI (nI (nL r)) σ1 ∧ Fr (fun a k => (a = 3 ∧ k = 3) ∨ (a = 4 ∧ 5 * nL r ≤ k) ∨ a = 36) σ σ1 ∧ σ1 3 3 = nI (nL r + 1) ∧ (∀ q, q < 5 → σ1 4 (5 * nL r + q) = nI (v5 a b w m s q)) ∧ (∀ a b, a < 10 → b < 10 → σ1 36 (10 * a + b) = nI (K a b)) ∧ KK r' K := by
  have bn := b_n hB.1
  obtain ⟨n, hn⟩ : ∃ n, n = nL r := ⟨_, rfl⟩
  have hz := c_nL hB
  rw [← hn] at hz hL hn' ho' hv' ⊢
  obtain ⟨v, hv⟩ : ∃ v, v = v5 a b w m s := ⟨_, rfl⟩
  rw [← hv] at hv' ⊢
  obtain ⟨μ0, a0, h0⟩ := row0 (sc := sc) TB3 v hz hL
  obtain ⟨μ1, a1, h1⟩ := rowS (sc := sc) TB3 h0 hL (show 0 < 5 by decide)
  obtain ⟨μ2, a2, h2⟩ := rowS (sc := sc) TB3 h1 hL (show 1 < 5 by decide)
  obtain ⟨μ3, a3, h3⟩ := rowS (sc := sc) TB3 h2 hL (show 2 < 5 by decide)
  obtain ⟨μ4, a4, h4⟩ := rowS (sc := sc) TB3 h3 hL (show 3 < 5 by decide)
  obtain ⟨μ5, a5, h5⟩ := rowS (sc := sc) TB3 h4 hL (show 4 < 5 by decide)
  rw [show v 0 = a by rw [hv]; rfl] at a1
  rw [show v 1 = b by rw [hv]; rfl] at a2
  rw [show v 2 = w by rw [hv]; rfl] at a3
  rw [show v 3 = m by rw [hv]; rfl] at a4
  rw [show v 4 = s by rw [hv]; rfl] at a5
  have hbs : ∀ μ, CL sc 17 [.int bo] μ = RI (nI s) μ := fun μ => by
    rw [s_bit]
    rcases hs with ⟨rfl, rfl⟩ | ⟨hq, rfl⟩
    · rfl
    · rw [if_neg (show ¬ bo = 0 from hq)]; rfl
  obtain ⟨f5, z5, v5', -⟩ := h5
  obtain ⟨μ6, K, c6, m6, k6⟩ := y_reckon (sc := sc) (σ := μ5) (r := r') (by rw [hn']; exact z5) (by omega) (fun l hl q hq => by
      by_cases e : l = n
      · subst e
        rw [v5' q hq, hv' q hq]
      · rw [f5 _ _ (by omega), ho' l q (by omega) hq]
        exact rCa (a := 2) (by simp only [lenC]; omega) (hB.2.2.1 l (by omega) q hq)) (fun l hl => by
      by_cases e : l = n
      · subst e
        rw [hv' 0 (by decide), hv' 1 (by decide), hv' 3 (by decide), hv]
        simp only [v5]
        omega
      · have bl := b_ln hB.1 (show l < nL r by omega)
        rw [ho' l 0 (by omega) (by decide), ho' l 1 (by omega) (by decide), ho' l 3 (by omega) (by decide)]
        omega)
  refine ⟨μ6, K, cl_of (D_RailPasses_line_0 _ _ _ _ _ σ) rfl ?_, Fr_tr (Fr_mo f5 (fun _ _ => by omega)) (Fr_mo m6.1 (fun _ _ => by omega)), by rw [m6.1 _ _ (by omega)]; exact z5, fun q hq => by rw [m6.1 _ _ (by omega)]; exact v5' q hq, m6.2, k6⟩
  simp (disch := omega) only [lt_nI, s_isStation, s_isRailway, s_isWithin, inB_n, nI_eq, hab, thI_RI, i_0, i_1, if_false, if_true, s_isFull TB3 σ hz, show ¬ n = 14 by omega, a0, a1, a2, a3, a4, a5, hbs, thV_RV, c6, Nat.reduceEqDiff, reduceIte]
theorem x_line (h : RB (R σ)) {a b w m s : Nat} {bo : Int32} (ha : a ≤ 9) (hb : b ≤ 9) (hab : a ≠ b) (hw : w ≤ 4) (hm1 : 1 ≤ m) (hm : m ≤ 300) (hL : nL (R σ) < 14) (hs : (bo = nI 0 ∧ s = 0) ∨ (¬ bo = nI 0 ∧ s = 1)) : ∃ σ1, CL sc 149 [.ref 48, .int (nI a), .int (nI b), .int (nI w), .int (nI m), .int bo] σ = RI (nI (nL (R σ))) σ1 ∧ Fr (fun a k => (a = 49 ∧ k = 0) ∨ (a = 50 ∧ 5 * nL (R σ) ≤ k)) σ σ1 ∧ σ1 49 0 = nI (nL (R σ) + 1) ∧ ∀ q, q < 5 → σ1 50 (5 * nL (R σ) + q) = nI (v5 a b w m s q) := by
  have bn := b_n h
  obtain ⟨n, hn⟩ : ∃ n, n = nL (R σ) := ⟨_, rfl⟩
  have hz := r_nL h
  rw [← hn] at hz hL ⊢
  obtain ⟨μ, em⟩ : ∃ x, x = rp_wr (rp_wr (rp_wr (rp_wr σ 50 (5 * n) (nI a)) 50 (5 * n + 1) (nI b)) 50 (5 * n + 2) (nI w)) 50 (5 * n + 3) (nI m) := ⟨_, rfl⟩
  have z : μ 49 0 = nI n := by rw [em]; simp (disch := omega) only [wr_n2]; exact hz
  have e123 : ∀ x1 x2 x3 x4 x5 x6, EV sc (149, 0, 0, 123, [.ref 48, .int x1, .int x2, .int x3, .int x4, .int x5, .int x6], [.int (nI s), .int (nI (5 * n + 4)), .ref 50], (rp_L0, μ)) = RI (nI n) (rp_wr (rp_wr μ 50 (5 * n + 4) (nI s)) 49 0 (nI (n + 1))) := by
    intro x1 x2 x3 x4 x5 x6
    refine ev_of (D_Ref_line_123 _ _ _ _ _ _ _ _ μ) ?_
    simp (disch := omega) only [lt_nI, nI_add, pk_mul, nI_clamp, nI_leI, nI_ltI, nI_eq, ixT, cond_true, Nat.reduceEqDiff, Nat.reduceLeDiff, reduceIte, wr_n2, z, wr_eq, pk_sub, Nat.add_sub_cancel]
  refine ⟨rp_wr (rp_wr μ 50 (5 * n + 4) (nI s)) 49 0 (nI (n + 1)), cl_of (D_Ref_line_0 _ _ _ _ _ σ) rfl ?_, ?_, wr_eq, ?_⟩
  · simp (disch := omega) only [lt_nI, nI_add, pk_mul, nI_clamp, nI_leI, nI_ltI, nI_eq, ixT, cond_true, Nat.reduceEqDiff, Nat.reduceLeDiff, reduceIte, x_isStation, s_in, inB_n, hab, thI_RI, i_0, if_false, hz, show ¬ n = 14 by omega]
    rw [← em]
    rcases hs with ⟨hq, rfl⟩ | ⟨hq, rfl⟩
    · simp only [eq_true hq, if_true]; exact e123 _ _ _ _ _ _
    · simp only [eq_false hq, if_false]; exact e123 _ _ _ _ _ _
  · rw [em]
    refine Fr_wr (Fr_wr (Fr_wr (Fr_wr (Fr_wr (Fr_wr Fr_rfl ?_) ?_) ?_) ?_) ?_) (Or.inl ⟨rfl, rfl⟩)
    all_goals exact Or.inr ⟨rfl, by omega⟩
  · intro q hq
    rw [em]
    rcases lt5 hq with rfl | rfl | rfl | rfl | rfl <;> simp (disch := omega) only [wr_n2, wr_eq, wr_nk, Nat.add_zero] <;> rfl
theorem p_line (hI : Inv σ) (a b w m bo : Int32) : PM sc 13 [.ref 1, .int a, .int b, .int w, .int m, .int bo] 149 [.ref 48, .int a, .int b, .int w, .int m, .int bo] σ := by
  have hB := hI.1
  have bn := b_n hB.1
  rcases inB_c a (a := 0) (b := 9) (by decide) (by decide) with e1 | ⟨a, -, ha, rfl, e1⟩
  · refine pm_ro hI (v := -1) (cl_of (D_RailPasses_line_0 _ _ _ _ _ σ) rfl ?_) (cl_of (D_Ref_line_0 _ _ _ _ _ σ) rfl ?_)
    · simp only [lt_nI, s_isStation, e1, thI_RI, if_true]
    · simp only [lt_nI, x_isStation, e1, thI_RI, if_true]
  rcases inB_c b (a := 0) (b := 9) (by decide) (by decide) with e2 | ⟨b, -, hb, rfl, e2⟩
  · refine pm_ro hI (v := -1) (cl_of (D_RailPasses_line_0 _ _ _ _ _ σ) rfl ?_) (cl_of (D_Ref_line_0 _ _ _ _ _ σ) rfl ?_)
    · simp only [lt_nI, s_isStation, e1, e2, i_0, if_false, thI_RI, if_true]
    · simp only [lt_nI, x_isStation, e1, e2, i_0, if_false, thI_RI, if_true]
  by_cases hab : a = b
  · subst hab
    refine pm_ro hI (v := -1) (cl_of (D_RailPasses_line_0 _ _ _ _ _ σ) rfl ?_) (cl_of (D_Ref_line_0 _ _ _ _ _ σ) rfl ?_)
    · simp only [lt_nI, s_isStation, e1, e2, i_0, if_false, thI_RI, if_true]
    · simp only [lt_nI, x_isStation, e1, e2, i_0, if_false, thI_RI, if_true]
  have hne : (nI a = nI b) = False := by rw [nI_eq (by omega) (by omega)]; exact eq_false hab
  rcases inB_c w (a := 0) (b := 4) (by decide) (by decide) with e3 | ⟨w, -, hw, rfl, e3⟩
  · refine pm_ro hI (v := -1) (cl_of (D_RailPasses_line_0 _ _ _ _ _ σ) rfl ?_) (cl_of (D_Ref_line_0 _ _ _ _ _ σ) rfl ?_)
    · simp only [lt_nI, s_isStation, s_isRailway, e1, e2, e3, hne, i_0, if_false, thI_RI, if_true]
    · simp only [lt_nI, x_isStation, s_in, e1, e2, e3, hne, i_0, if_false, thI_RI, if_true]
  rcases inB_c m (a := 1) (b := 300) (by decide) (by decide) with e4 | ⟨m, hm1, hm, rfl, e4⟩
  · refine pm_ro hI (v := -1) (cl_of (D_RailPasses_line_0 _ _ _ _ _ σ) rfl ?_) (cl_of (D_Ref_line_0 _ _ _ _ _ σ) rfl ?_)
    · simp only [lt_nI, s_isStation, s_isRailway, s_isWithin, e1, e2, e3, e4, hne, i_0, if_false, thI_RI, if_true]
    · simp only [lt_nI, x_isStation, s_in, e1, e2, e3, e4, hne, i_0, if_false, thI_RI, if_true]
  by_cases hL : nL (R σ) < 14
  · obtain ⟨s, hs⟩ : ∃ s : Nat, (bo = nI 0 ∧ s = 0) ∨ (¬ bo = nI 0 ∧ s = 1) := by
      by_cases h : bo = nI 0
      · exact ⟨0, Or.inl ⟨h, rfl⟩⟩
      · exact ⟨1, Or.inr ⟨h, rfl⟩⟩
    have hs1 : s ≤ 1 := by rcases hs with ⟨-, rfl⟩ | ⟨-, rfl⟩ <;> omega
    have hv : ∀ q, q < 5 → v5 a b w m s q < 2 ^ 31 := fun q hq => by
      rcases lt5 hq with rfl | rfl | rfl | rfl | rfl <;> simp only [v5] <;> omega
    obtain ⟨n, hn⟩ : ∃ n, n = nL (R σ) := ⟨_, rfl⟩
    obtain ⟨r', er'⟩ : ∃ r' : rp_Mm, r' = fun x k => if x = 0 ∧ k = 0 then nI (n + 1) else if x = 1 ∧ 5 * n ≤ k then nI (v5 a b w m s (k - 5 * n)) else R σ x k := ⟨_, rfl⟩
    have q1 : nL r' = n + 1 := N1_n (by rw [er']; dsimp only; rw [if_pos ⟨rfl, rfl⟩]) (by omega)
    have q2 : ∀ l q, l < nL (R σ) → q < 5 → ln r' l q = ln (R σ) l q := fun l q hl hq => N1_e (by rw [er']; dsimp only; rw [if_neg (by omega), if_neg (by omega)])
    have q3 : ∀ q, q < 5 → ln r' (nL (R σ)) q = v5 a b w m s q := fun q hq => N1_n (by rw [er']; dsimp only; rw [if_neg (by omega), if_pos (by omega), show 5 * nL (R σ) + q - 5 * n = q by omega]) (hv q hq)
    obtain ⟨σ1, K, c1, c2, c3, c4, c5, c6⟩ := y_line (sc := sc) hB ha hb hab hw hm1 hm hL hs (by omega) q2 q3
    have er : R σ1 = R σ := R_fr c2 (fun a k ha => by omega)
    obtain ⟨σ2, d1, d2, d3, d4⟩ := x_line (sc := sc) (σ := σ1) (by rw [er]; exact hB.1) ha hb hab hw hm1 hm (by rw [er]; exact hL) hs
    rw [er] at d1 d2 d3 d4
    have f : Fr (fun a k => (a = 3 ∧ k = 3) ∨ (a = 4 ∧ 5 * nL (R σ) ≤ k) ∨ a = 36 ∨ (a = 49 ∧ k = 0) ∨ (a = 50 ∧ 5 * nL (R σ) ≤ k)) σ σ2 := Fr_tr (Fr_mo c2 (fun _ _ => by omega)) (Fr_mo d2 (fun _ _ => by omega))
    have ha' : ∀ a, a < 8 → a ≠ 0 → a ≠ 1 → R σ2 a = R σ a := fun a h8 h0 h6 => R_fa f (fun _ => by omega)
    have r0 : ∀ k, k ≠ 0 → R σ2 0 k = R σ 0 k := fun k hk => R_fk f (by omega)
    have rj : R σ2 0 0 = nI (nL (R σ) + 1) := by rw [R_at (by decide)]; exact d3
    have eL : nL (R σ2) = nL (R σ) + 1 := N1_n rj (by omega)
    have qn : ∀ q, q < 5 → R σ2 1 (5 * nL (R σ) + q) = nI (v5 a b w m s q) := fun q hq => by rw [R_at (by simp only [lenR]; omega)]; exact d4 q hq
    have qo : ∀ k, k < 5 * nL (R σ) → R σ2 1 k = R σ 1 k := fun k hk => R_fk f (by omega)
    have cn : ∀ q, q < 5 → C σ2 2 (5 * nL (R σ) + q) = nI (v5 a b w m s q) := fun q hq => by rw [C_ar (by simp only [lenC]; omega), d2 _ _ (by omega)]; exact c4 q hq
    have co : ∀ k, k < 5 * nL (R σ) → C σ2 2 k = C σ 2 k := fun k hk => C_fk f (by omega)
    have wn : ∀ q, q < 5 → ln (R σ2) (nL (R σ)) q = v5 a b w m s q := fun q hq => N1_n (qn q hq) (hv q hq)
    have wo : ∀ w q, w < nL (R σ) → q < 5 → ln (R σ2) w q = ln (R σ) w q := fun w q hw hq => N1_e (qo _ (by omega))
    have htr := tr_t (ha' 2 (by decide) (by decide) (by decide))
    have hps := ps_t (ha' 4 (by decide) (by decide) (by decide))
    have hrd := rd_t (ha' 5 (by decide) (by decide) (by decide))
    have hBI : BI (C σ2) (R σ2) := by
      refine bi_line (m := nL (R σ) + 1) hB (by omega) (by omega) ha' r0 rj (fun a h8 h0 h6 => C_fa f (fun _ => by omega)) ?_ ?_ ?_ ?_
      · rw [C_at (by decide), d2 _ _ (by omega)]; exact c3
      · intro i hi
        have br := b_rd hB.1 hi
        have bt := b_tr hB.1 br.2.1
        unfold cdR payR cdN paysN boatN
        rw [htr, hps, hrd, wo _ 4 bt.1 (by decide)]
        exact ⟨rfl, rfl⟩
      · intro l hl
        rw [eL] at hl
        by_cases hl2 : l = nL (R σ)
        · subst hl2
          refine ⟨fun q hq => Ok_n (qn q hq) (hv q hq), ?_⟩
          rw [wn 0 (by decide), wn 1 (by decide), wn 2 (by decide), wn 3 (by decide), wn 4 (by decide)]
          simp only [v5]
          omega
        · obtain ⟨o1, o2⟩ := hB.1.2.1 l (by omega)
          refine ⟨fun q hq => Ok_e (qo _ (by omega)) (o1 q hq), ?_⟩
          rw [wo l 0 (by omega) (by decide), wo l 1 (by omega) (by decide), wo l 2 (by omega) (by decide), wo l 3 (by omega) (by decide), wo l 4 (by omega) (by decide)]
          exact o2
      · intro l hl q hq
        rw [eL] at hl
        by_cases hl2 : l = nL (R σ)
        · subst hl2
          rw [wn q hq]; exact cn q hq
        · rw [co _ (by omega), wo l q (by omega) hq]
          exact hB.2.2.1 l (by omega) q hq
    refine ⟨_, σ1, σ2, c1, d1, hBI, TP_fr f (by omega) (by omega) (fun _ => by omega) (fun _ => by omega) hI.2.1, RW_fr f (by omega) (by omega) (fun _ => by omega) (fun _ => by omega) hI.2.2.1, KP_fr f (by omega) (by omega) (fun _ _ _ => by omega) (fun _ => by omega) hI.2.2.2.1, K, fun x y hx hy => by rw [d2 _ _ (by omega)]; exact c5 x y hx hy, KK_r (r := r') (by omega) (fun l q hl hq => ?_) c6⟩
    by_cases hl2 : l = nL (R σ)
    · subst hl2
      rw [wn q hq, q3 q hq]
    · rw [wo l q (by omega) hq, q2 l q (by omega) hq]
  · have hL : nL (R σ) = 14 := by omega
    refine pm_ro hI (v := -2) (cl_of (D_RailPasses_line_0 _ _ _ _ _ σ) rfl ?_) (cl_of (D_Ref_line_0 _ _ _ _ _ σ) rfl ?_)
    · simp (disch := omega) only [lt_nI, s_isStation, s_isRailway, s_isWithin, e1, e2, e3, e4, hne, i_0, if_false, thI_RI, if_true, s_isFull TB3 σ (c_nL hB), hL]
    · simp (disch := omega) only [lt_nI, x_isStation, s_in, e1, e2, e3, e4, hne, i_0, if_false, thI_RI, if_true, r_nL hB.1, hL]
theorem p_back (hI : Inv σ) : PM sc 147 [.ref 1] 229 [.ref 48] σ := by
  rcases hI.2.2.2.1 with ⟨k1, k2⟩ | ⟨k1, k2, k3⟩
  · refine pm_ro hI (v := -3) (cl_of (D_RailPasses_back_0 σ) rfl ?_) (cl_of (D_Ref_back_0 σ) rfl ?_)
    · simp only [lt_nI, k1, if_true]
    · simp only [lt_nI, k2, if_true]
  · obtain ⟨σ1, c1, c2, c3⟩ := y_bookBack (sc := sc) k3
    have bn := b_n k3.1
    have hb1 : BI (C σ1) (Rk σ) := by rw [c3]; exact k3
    obtain ⟨σ2, K, d1, d2, d3⟩ := y_reckon (sc := sc) (σ := σ1) (r := Rk σ) (c_nL hb1) (by omega) (fun l hl q hq => rCa (a := 2) (by simp only [lenC]; omega) (hb1.2.2.1 l hl q hq)) (fun l hl => by
      have := b_ln k3.1 hl
      omega)
    obtain ⟨σ3, g1, g2, g3⟩ := x_backAll (sc := sc) (σ := σ2)
    have f2 : Fr (fun a k => (2 ≤ a ∧ a < 17) ∨ a = 36) σ σ2 := Fr_tr (Fr_mo c2 (fun _ _ => by omega)) (Fr_mo d2.1 (fun _ _ => by omega))
    have f : Fr (fun a k => (2 ≤ a ∧ a < 17) ∨ a = 36 ∨ (a = 48 ∧ k = 32) ∨ (49 ≤ a ∧ a < 57)) σ σ3 := Fr_tr (Fr_mo f2 (fun _ _ => by omega)) (Fr_mo g2 (fun _ _ => by omega))
    have er : R σ3 = Rk σ := by rw [g3, Rk_fr f2 (fun k => by omega)]
    have ec : C σ3 = Ck σ := by rw [C_fr g2 (fun a k ha => by omega), C_fr d2.1 (fun a k ha => by omega), c3]
    refine ⟨nI 1, σ2, σ3, cl_of (D_RailPasses_back_0 σ) rfl ?_, cl_of (D_Ref_back_0 _) rfl ?_, by rw [er, ec]; exact k3, TP_fr f (by omega) (by omega) (fun _ => by omega) (fun _ => by omega) hI.2.1, RW_fr f (by omega) (by omega) (fun _ => by omega) (fun _ => by omega) hI.2.2.1, KP_fr f (by omega) (by omega) (fun _ _ _ => by omega) (fun _ => by omega) hI.2.2.2.1, K, fun x y hx hy => by rw [g2 _ _ (by omega)]; exact d2.2 x y hx hy, by rw [er]; exact d3⟩
    · simp only [lt_nI, k1, i_0, if_false, c1, thV_RV, d1]
    · rw [f2 _ _ (by omega), k2]
      simp only [lt_nI, i_0, if_false, g1, thV_RV]
end
