/-! choice -/
section
variable {sc : rp_Sc} {σ μ : rp_Mm}
theorem x_choose (h : RB (R σ)) {x : Int32} : ∃ μ, Fr (fun a k => (58 ≤ a ∧ a ≤ 60) ∨ (a = 48 ∧ 19 ≤ k ∧ k ≤ 21)) σ μ ∧ rp_Le (EV sc (202, 0, 0, 25, [.ref 48, .int x, .int (cha (R σ) 3).1, .int (oL (-1) (cha (R σ) 3).2), .int (oS (-1) (cha (R σ) 3).2), .int (nI 3), rp_U, rp_U], [], (rp_L0, μ))) (EV sc (202, 0, 0, 25, [.ref 48, .int x, .int (cha (R σ) 0).1, .int (oL (-1) (cha (R σ) 0).2), .int (oS (-1) (cha (R σ) 0).2), .int (nI 0), rp_U, rp_U], [], (rp_L0, σ))) := by
  obtain ⟨r, er⟩ : ∃ r, r = R σ := ⟨_, rfl⟩
  rw [← er]
  have hR : RB r := by rw [er]; exact h
  have rr : ∀ {μ}, Fr (fun a k => (58 ≤ a ∧ a ≤ 60) ∨ (a = 48 ∧ 19 ≤ k ∧ k ≤ 21)) σ μ → R μ = r := fun f => by rw [R_fr f (fun a k ha => by omega), er]
  refine lp_inv (E := fun l μ => EV sc (202, 0, 0, 25, [.ref 48, .int x, .int (cha r l).1, .int (oL (-1) (cha r l).2), .int (oS (-1) (cha r l).2), .int (nI l), rp_U, rp_U], [], (rp_L0, μ))) (fun l μ => Fr (fun a k => (58 ≤ a ∧ a ≤ 60) ∨ (a = 48 ∧ 19 ≤ k ∧ k ≤ 21)) σ μ) (n := 3) (fun l μ hl f => ?_) Fr_rfl
  have St : rp_Le (EV sc (202, 0, 0, 34, [.ref 48, .int x, .int (cha r l).1, .int (oL (-1) (cha r l).2), .int (oS (-1) (cha r l).2), .int (nI l), .int (nI 0), rp_U], [], (rp_L0, μ))) (EV sc (202, 0, 0, 25, [.ref 48, .int x, .int (cha r l).1, .int (oL (-1) (cha r l).2), .int (oS (-1) (cha r l).2), .int (nI l), rp_U, rp_U], [], (rp_L0, μ))) := by
    refine rp_Le_tr ?_ (D_Ref_choice_25 _ _ _ _ _ μ)
    simp (disch := omega) only [lt_nI, nI_leI, show ¬ 3 ≤ l by omega, if_false]
    exact rp_Le_rfl
  have T82 : ∀ (x2 x3 x4 x6 : Int32) (μ : rp_Mm), rp_Le (EV sc (202, 0, 0, 25, [.ref 48, .int x, .int x2, .int x3, .int x4, .int (nI (l + 1)), rp_U, rp_U], [], (rp_L0, μ))) (EV sc (202, 0, 0, 82, [.ref 48, .int x, .int x2, .int x3, .int x4, .int (nI l), .int x6, rp_U], [], (rp_L0, μ))) := fun x2 x3 x4 x6 μ => by
    refine rp_Le_tr ?_ (D_Ref_choice_82 _ _ _ _ _ _ μ)
    simp only [lt_nI, nI_add]
    exact rp_Le_rfl
  have bl := b_lw hR hl
  by_cases ht : lw r l 11 = 1
  · obtain ⟨μ2, f2, L2⟩ := lp_inv (E := fun s0 μ => EV sc (202, 0, 0, 34, [.ref 48, .int x, .int (chs r l (cha r l) s0).1, .int (oL (-1) (chs r l (cha r l) s0).2), .int (oS (-1) (chs r l (cha r l) s0).2), .int (nI l), .int (nI s0), rp_U], [], (rp_L0, μ))) (fun s0 μ => Fr (fun a k => (58 ≤ a ∧ a ≤ 60) ∨ (a = 48 ∧ 19 ≤ k ∧ k ≤ 21)) σ μ) (n := 121) (fun s0 μ hs f => by
      have rμ := rr f
      have hl' := x_hasLaw (sc := sc) (σ := μ) (by rw [rμ]; exact hR) hl
      obtain ⟨μ', c', f'⟩ := x_leastOf (sc := sc) (σ := μ) (l := l) (s0 := s0) (by rw [rμ]; exact hR) hl (by rw [rμ]; exact ht) (by omega)
      rw [rμ] at hl' c'
      rw [ht] at hl'
      have T76 : ∀ (x2 x3 x4 x7 : Int32) (μ : rp_Mm), rp_Le (EV sc (202, 0, 0, 34, [.ref 48, .int x, .int x2, .int x3, .int x4, .int (nI l), .int (nI (s0 + 1)), rp_U], [], (rp_L0, μ))) (EV sc (202, 0, 0, 76, [.ref 48, .int x, .int x2, .int x3, .int x4, .int (nI l), .int (nI s0), .int x7], [], (rp_L0, μ))) := fun x2 x3 x4 x7 μ => by
        refine rp_Le_tr ?_ (D_Ref_choice_76 _ _ _ _ _ _ _ μ)
        simp only [lt_nI, nI_add]
        exact rp_Le_rfl
      obtain ⟨st, est⟩ : ∃ st, st = chs r l (cha r l) s0 := ⟨_, rfl⟩
      have enx : chs r l (cha r l) (s0 + 1) = stp r l s0 st := by rw [est]; rfl
      rw [enx, ← est]
      refine ⟨μ', Fr_tr f f', rp_Le_tr ?_ (D_Ref_choice_34 _ _ _ _ _ _ μ)⟩
      simp (disch := omega) only [lt_nI, nI_ltI, show ¬ 120 < s0 by omega, if_false, hl', thI_RI, i_0, c']
      by_cases hlt : cI r (lw r l) (nW r) s0 < st.1
      · have e : stp r l s0 st = (cI r (lw r l) (nW r) s0, some (l, s0)) := if_pos ⟨ht, hlt⟩
        rw [e]
        simp only [eq_false (Int32.not_le.mpr hlt), if_false]
        exact T76 _ _ _ _ _
      · have e : stp r l s0 st = st := if_neg fun q => hlt q.2
        rw [e]
        simp only [eq_true (Int32.not_lt.mp hlt), if_true]
        exact T76 _ _ _ _ _) f
    refine ⟨μ2, f2, rp_Le_tr (rp_Le_tr (rp_Le_tr ?_ (D_Ref_choice_34 _ _ _ _ _ _ μ2)) L2) St⟩
    simp (disch := omega) only [lt_nI, nI_ltI, eq_true (show 120 < 121 by decide), if_true]
    exact T82 _ _ _ _ _
  · have e : cha r (l + 1) = cha r l := chs_nt ht
    have rμ := rr f
    have hl' := x_hasLaw (sc := sc) (σ := μ) (by rw [rμ]; exact hR) hl
    rw [rμ, show lw r l 11 = 0 by omega] at hl'
    refine ⟨μ, f, rp_Le_tr (rp_Le_tr ?_ (D_Ref_choice_34 _ _ _ _ _ _ μ)) St⟩
    rw [e]
    simp (disch := omega) only [lt_nI, nI_ltI, eq_false (show ¬ 120 < 0 by decide), if_false, hl', thI_RI, i_1, if_true]
    exact T82 _ _ _ _ _
theorem gd_none {r : rp_Mm} {n d : Nat} : gd r (fun _ => 0) n d = 0 := sum_zero fun w _ => by
  have e : gaN r (fun _ => 0) w = 0 := by
    unfold gaN
    rw [if_neg]
    rintro ⟨q, -⟩
    unfold leN at q
    rw [if_neg (by
      rintro ⟨q1, -⟩
      unfold bt at q1
      rw [Nat.zero_div] at q1
      exact absurd q1 (by decide))] at q
    exact absurd q (by decide)
  rw [e, ite_self]
theorem p_choice (hI : Inv σ) (x : Int32) : PM sc 86 [.ref 1, .int x] 202 [.ref 48, .int x] σ := by
  have hB := hI.1
  have bn := b_n hB.1
  rcases inB_c x (a := 0) (b := 14) (by decide) (by decide) with e1 | ⟨x, -, hx, rfl, e1⟩
  · refine pm_ro hI (v := -1) (cl_of (D_RailPasses_choice_0 _ σ) rfl ?_) (cl_of (D_Ref_choice_0 _ σ) rfl ?_)
    · simp only [lt_nI, s_isWithin, e1, thI_RI, if_true]
    · simp only [lt_nI, s_in, e1, thI_RI, if_true]
  obtain ⟨r, er⟩ : ∃ r, r = R σ := ⟨_, rfl⟩
  have hBr : BI (C σ) r := by rw [er]; exact hB
  have hR := hBr.1
  have ok := ok_cha (r := r) (Nat.le_refl 3)
  obtain ⟨μ0, μp, μ1, cs, c1, m0, m1, cp, csp⟩ := y_choose (sc := sc) hBr
  have r1 : R μ1 = r := by rw [R_fr m1.1 (fun a k ha => by omega), er]
  have rb1 : RB (R μ1) := by rw [r1]; exact hR
  obtain ⟨μ2, f2, L2⟩ := x_choose (sc := sc) (σ := μ1) (x := nI x) rb1
  rw [r1] at L2
  have r2 : R μ2 = r := by rw [R_fr f2 (fun a k ha => by omega), r1]
  have rb2 : RB (R μ2) := by rw [r2]; exact hR
  have ef := x_fares (sc := sc) rb1
  rw [r1] at ef
  have S1 : rp_Le (EV sc (202, 0, 0, 25, [.ref 48, .int (nI x), .int (cha r 3).1, .int (oL (-1) (cha r 3).2), .int (oS (-1) (cha r 3).2), .int (nI 3), rp_U, rp_U], [], (rp_L0, μ2))) (EV sc (202, 0, 0, 0, [.ref 48, .int (nI x), rp_U, rp_U, rp_U, rp_U, rp_U, rp_U], [], (rp_L0, μ1))) := by
    refine rp_Le_tr (rp_Le_tr L2 ?_) (D_Ref_choice_0 _ μ1)
    simp (disch := omega) only [lt_nI, s_in, e1, thI_RI, i_0, if_false, ef]
    exact rp_Le_rfl
  have hBm : BI (C μ0) r := by rw [C_fr m0.1 (fun a k ha => by omega)]; exact hBr
  have fin : ∀ {v : Int32} {μ3 : rp_Mm}, Fr (fun a k => (58 ≤ a ∧ a ≤ 60) ∨ (a = 48 ∧ 19 ≤ k ∧ k ≤ 21)) μ2 μ3 → CL sc 86 [.ref 1, .int (nI x)] σ = RI v μ1 → rp_Le (RI v μ3) (EV sc (202, 0, 0, 25, [.ref 48, .int (nI x), .int (cha r 3).1, .int (oL (-1) (cha r 3).2), .int (oS (-1) (cha r 3).2), .int (nI 3), rp_U, rp_U], [], (rp_L0, μ2))) → PM sc 86 [.ref 1, .int (nI x)] 202 [.ref 48, .int (nI x)] σ := fun {v μ3} f3 hc hl => ⟨v, μ1, μ3, hc, cl_le rfl (rp_Le_tr hl S1), Inv_sc (Fr_tr (Fr_mo m1.1 (fun _ _ => by unfold Sc; omega)) (Fr_mo (Fr_tr f2 f3) (fun _ _ => by unfold Sc; omega))) hI⟩
  have hx' : x = 0 ∨ x = 1 ∨ x = 2 ∨ x = 3 ∨ x = 4 ∨ ∃ i, i < 10 ∧ x = 5 + i := by
    by_cases q : x < 5
    · omega
    · exact Or.inr (Or.inr (Or.inr (Or.inr (Or.inr ⟨x - 5, by omega, by omega⟩))))
  have ek0 : CL sc 101 [.ref 37] μ1 = RI (cha r 3).1 μ1 := by rw [← m1.2.1]; exact cl_of (D_Plan_chosenCost_0 μ1) rfl rfl
  have ek1 : CL sc 102 [.ref 37] μ1 = RI (oL (-3) (cha r 3).2) μ1 := by rw [← m1.2.2.1]; exact cl_of (D_Plan_chosenLaw_0 μ1) rfl rfl
  have ek2 : CL sc 103 [.ref 37] μ1 = RI (oS (-3) (cha r 3).2) μ1 := by rw [← m1.2.2.2]; exact cl_of (D_Plan_chosenStart_0 μ1) rfl rfl
  have e3 : (3 : Int32) ≤ nI 3 := by decide
  cases hc : (cha r 3).2 with
  | none =>
    rw [hc] at cp csp ek1 ek2
    have cp' : CL sc 88 [.ref 37, .ref 2, .int (-3)] μ0 = RV μp := cp
    obtain ⟨μ', δ, k, c', hP, -⟩ := y_prepare (sc := sc) hBm lg_none
    have : μ' = μp := by
      rw [cp'] at c'
      exact (Prod.mk.inj (Prod.mk.inj (Option.some.inj c')).2).2.symm
    subst this
    obtain ⟨p1, p2, p3⟩ := pl_days hR (Nat.le_refl _) hP
    obtain ⟨v0, csp0⟩ := y_spend0 (sc := sc) (μ := μ') (x := -3) hP.2.1.2.1
    have e1m : μ1 = rp_wr μ' 37 10 (nI 0) := by
      rw [show oS (-3) (none : Option (Nat × Nat)) = -3 from rfl, csp0] at csp
      exact (Prod.mk.inj (Prod.mk.inj (Option.some.inj csp)).2).2.symm
    have fs : Fr (fun a k => a = 37 ∧ k = 10) μ' μ1 := by rw [e1m]; exact Fr_wr Fr_rfl ⟨rfl, rfl⟩
    have h10 : μ1 37 10 = nI 0 := by rw [e1m]; exact wr_eq
    have P1 : PL μ1 μ1 r (fun _ => 0) (nW r) δ k := PL_w (PL_self hP) (Fr_mo fs (fun _ _ => by omega))
    have hbt : ∀ i, i < 10 → (0 : Nat).testBit i = (decide (i < k) && (fun _ => false) i) := fun i _ => by rw [Nat.zero_testBit, Bool.and_false]
    have hsp : ∀ a, a < k → CL sc 106 [.ref 37, .int (nI a)] μ1 = RI (nI (b2 false)) μ1 := fun a ha => by
      have := y_isSpent (sc := sc) (M := 0) (by decide) (show a < 10 by omega) h10
      rw [Nat.zero_testBit] at this
      exact this
    have z : ∀ n, cnt (fun _ => false) n = 0 := fun n => cnt_zero fun _ _ => rfl
    have z2 : ∀ (f : Nat → Nat) n, sumn (fun i => if false = true then f i else 0) n = 0 := fun f n => sum_zero fun _ _ => rfl
    have eo : oL (-1) (none : Option (Nat × Nat)) = -1 := rfl
    have eL : oL (-3) (none : Option (Nat × Nat)) = -3 := rfl
    have eS : oS (-3) (none : Option (Nat × Nat)) = -3 := rfl
    have hn0 : ¬ (0 : Int32) ≤ -1 := by decide
    rw [hc] at fin
    have R25 : rp_Le (if nI x = 0 then RI (cha r 3).1 μ2 else if nI x = 3 then RI 0 μ2 else if nI x = 4 then RI 0 μ2 else RI (-3) μ2) (EV sc (202, 0, 0, 25, [.ref 48, .int (nI x), .int (cha r 3).1, .int (oL (-1) (none : Option (Nat × Nat))), .int (oS (-1) (none : Option (Nat × Nat))), .int (nI 3), rp_U, rp_U], [], (rp_L0, μ2))) := by
      refine rp_Le_tr ?_ (D_Ref_choice_25 _ _ _ _ _ μ2)
      rw [if_pos e3, if_neg (show ¬ (0 : Int32) ≤ oL (-1) none from hn0)]
      exact rp_Le_rfl
    rcases hx' with rfl | rfl | rfl | rfl | rfl | ⟨i, hi, rfl⟩
    · refine fin (v := (cha r 3).1) Fr_rfl (cl_of (D_RailPasses_choice_0 _ σ) rfl ?_) (rp_Le_tr ?_ R25)
      · simp (disch := omega) only [lt_nI, nI_add, pk_mul, nI_clamp, nI_leI, nI_ltI, nI_eq, ixT, cond_true, Nat.reduceEqDiff, Nat.reduceLeDiff, reduceIte, s_isWithin, e1, thI_RI, c1, thV_RV, ek0]
      · rw [if_pos (by decide)]; exact rp_Le_rfl
    · refine fin (v := -3) Fr_rfl (cl_of (D_RailPasses_choice_0 _ σ) rfl ?_) (rp_Le_tr ?_ R25)
      · simp (disch := omega) only [lt_nI, nI_clamp, nI_leI, nI_ltI, nI_eq, ixT, cond_true, Nat.reduceEqDiff, Nat.reduceLeDiff, reduceIte, s_isWithin, e1, thI_RI, c1, thV_RV, ek1]
        rfl
      · rw [if_neg (by decide), if_neg (by decide), if_neg (by decide)]; exact rp_Le_rfl
    · refine fin (v := -3) Fr_rfl (cl_of (D_RailPasses_choice_0 _ σ) rfl ?_) (rp_Le_tr ?_ R25)
      · simp (disch := omega) only [lt_nI, nI_clamp, nI_leI, nI_ltI, nI_eq, ixT, cond_true, Nat.reduceEqDiff, Nat.reduceLeDiff, reduceIte, s_isWithin, e1, thI_RI, c1, thV_RV, ek2]
        rfl
      · rw [if_neg (by decide), if_neg (by decide), if_neg (by decide)]; exact rp_Le_rfl
    · have ed := y_chosenDays (sc := sc) (Sp := fun _ => false) p1 (M := 0) (by decide) h10 hbt
      rw [z] at ed
      refine fin (v := nI 0) Fr_rfl (cl_of (D_RailPasses_choice_0 _ σ) rfl ?_) (rp_Le_tr ?_ R25)
      · simp (disch := omega) only [lt_nI, nI_clamp, nI_leI, nI_ltI, nI_eq, ixT, cond_true, Nat.reduceEqDiff, Nat.reduceLeDiff, reduceIte, s_isWithin, e1, thI_RI, c1, thV_RV, ed]
      · rw [if_neg (by decide), if_pos (by decide)]; exact rp_Le_rfl
    · have ed := y_chosenGoers (sc := sc) (Sp := fun _ => false) (q := fun i => qd r (fun _ => 0) (nW r) (δ i)) p1 P1.2.1.1 (fun i hi => (P1.2.2.2.1 i hi).2.2) hsp
      rw [z2] at ed
      refine fin (v := nI 0) Fr_rfl (cl_of (D_RailPasses_choice_0 _ σ) rfl ?_) (rp_Le_tr ?_ R25)
      · simp (disch := omega) only [lt_nI, nI_clamp, nI_leI, nI_ltI, nI_eq, ixT, cond_true, Nat.reduceEqDiff, Nat.reduceLeDiff, reduceIte, s_isWithin, e1, thI_RI, c1, thV_RV, ed]
      · rw [if_neg (by decide), if_neg (by decide), if_pos (by decide)]; exact rp_Le_rfl
    · rcases y_chosenDay (sc := sc) (Sp := fun _ => false) (δ := δ) (i := i) hi p1 P1.2.1.1 (fun i hi => (P1.2.2.2.1 i hi).1) hsp with ⟨a, -, q, -⟩ | ⟨-, ed⟩
      · exact absurd q (by decide)
      · have es : nI (5 + i) - nI 5 = nI i := by rw [pk_sub (by omega), Nat.add_sub_cancel_left]
        refine fin (v := -3) Fr_rfl (cl_of (D_RailPasses_choice_0 _ σ) rfl ?_) (rp_Le_tr ?_ R25)
        · simp (disch := omega) only [lt_nI, nI_clamp, nI_leI, nI_ltI, nI_eq, ixT, cond_true, s_isWithin, e1, thI_RI, i_0, if_false, c1, thV_RV, es, ed, show ¬ 5 + i = 0 by omega, show ¬ 5 + i = 1 by omega, show ¬ 5 + i = 2 by omega, show ¬ 5 + i = 3 by omega, show ¬ 5 + i = 4 by omega, Nat.reduceEqDiff, reduceIte]
        · simp (disch := omega) only [lt_nI, nI_eq, show ¬ 5 + i = 0 by omega, show ¬ 5 + i = 3 by omega, show ¬ 5 + i = 4 by omega, if_false]
          exact rp_Le_rfl
  | some p =>
    obtain ⟨l, s0⟩ := p
    obtain ⟨hl, h0, ht⟩ := ok.2 (l, s0) hc
    dsimp only at hl h0 ht
    rw [hc] at cp csp ek1 ek2 fin
    have bl := b_lw hR hl
    have cp' : CL sc 88 [.ref 37, .ref 2, .int (nI l)] μ0 = RV μp := cp
    obtain ⟨μ', δ, k, c', hP, hK⟩ := y_prepare (sc := sc) hBm (lg_law hBm hl)
    have : μ' = μp := by
      rw [cp'] at c'
      exact (Prod.mk.inj (Prod.mk.inj (Option.some.inj c')).2).2.symm
    subst this
    obtain ⟨p1, p2, p3⟩ := pl_days hR (Nat.le_refl _) hP
    obtain ⟨M, hM, csp0, hbt⟩ := y_spend (sc := sc) hR (Nat.le_refl _) (TM1 bl.1).1 (TM1 bl.1).2 hP hK h0
    have e1m : μ1 = rp_wr μ' 37 10 (nI M) := by
      rw [show oS (-3) (some (l, s0)) = nI s0 from rfl, csp0] at csp
      exact (Prod.mk.inj (Prod.mk.inj (Option.some.inj csp)).2).2.symm
    have fs : Fr (fun a k => a = 37 ∧ k = 10) μ' μ1 := by rw [e1m]; exact Fr_wr Fr_rfl ⟨rfl, rfl⟩
    have h10 : μ1 37 10 = nI M := by rw [e1m]; exact wr_eq
    have P1 : PL μ1 μ1 r (lw r l) (nW r) δ k := PL_w (PL_self hP) (Fr_mo fs (fun _ _ => by omega))
    have hsp : ∀ a, a < k → CL sc 106 [.ref 37, .int (nI a)] μ1 = RI (nI (b2 (tN r (lw r l) (nW r) s0 (δ a)))) μ1 := fun a ha => by
      have := y_isSpent (sc := sc) hM (show a < 10 by omega) h10
      rw [hbt a (by omega), decide_eq_true ha, Bool.true_and] at this
      exact this
    obtain ⟨μ3, c3, m3⟩ := x_takes (sc := sc) (σ := μ2) (l := l) (s0 := s0) rb2 hl (by rw [r2]; exact ht) h0
    rw [r2] at m3
    have hn0 : (0 : Int32) ≤ nI l := nI_pos' (by omega)
    have R25 : rp_Le (if nI x = 0 then RI (cha r 3).1 μ2 else if nI x = 1 then RI (nI l) μ3 else if nI x = 2 then RI (nI s0) μ3 else if nI x = 3 then RI (μ3 48 19) μ3 else if nI x = 4 then RI (μ3 48 21) μ3 else thI (CL sc 203 [.ref 48, .int (nI x - 5)] μ3) fun r3 σ2 => RI r3 σ2) (EV sc (202, 0, 0, 25, [.ref 48, .int (nI x), .int (cha r 3).1, .int (oL (-1) (some (l, s0))), .int (oS (-1) (some (l, s0))), .int (nI 3), rp_U, rp_U], [], (rp_L0, μ2))) := by
      refine rp_Le_tr ?_ (D_Ref_choice_25 _ _ _ _ _ μ2)
      rw [if_pos e3, if_pos (show (0 : Int32) ≤ oL (-1) (some (l, s0)) from hn0)]
      show rp_Le _ (if nI x = 0 then RI (cha r 3).1 μ2 else thV (CL sc 198 [.ref 48, .int (nI l), .int (nI s0)] μ2) _)
      rw [c3, thV_RV]
      exact rp_Le_rfl
    have eL : oL (-3) (some (l, s0)) = nI l := rfl
    have eS : oS (-3) (some (l, s0)) = nI s0 := rfl
    rcases hx' with rfl | rfl | rfl | rfl | rfl | ⟨i, hi, rfl⟩
    · refine fin (v := (cha r 3).1) (μ3 := μ2) Fr_rfl (cl_of (D_RailPasses_choice_0 _ σ) rfl ?_) (rp_Le_tr ?_ R25)
      · simp (disch := omega) only [lt_nI, nI_add, pk_mul, nI_clamp, nI_leI, nI_ltI, nI_eq, ixT, cond_true, Nat.reduceEqDiff, Nat.reduceLeDiff, reduceIte, s_isWithin, e1, thI_RI, c1, thV_RV, ek0]
      · rw [if_pos (by decide)]; exact rp_Le_rfl
    · refine fin (v := nI l) m3.1 (cl_of (D_RailPasses_choice_0 _ σ) rfl ?_) (rp_Le_tr ?_ R25)
      · simp (disch := omega) only [lt_nI, nI_clamp, nI_leI, nI_ltI, nI_eq, ixT, cond_true, Nat.reduceEqDiff, Nat.reduceLeDiff, reduceIte, s_isWithin, e1, thI_RI, c1, thV_RV, ek1]
        rfl
      · rw [if_neg (by decide), if_pos (by decide)]; exact rp_Le_rfl
    · refine fin (v := nI s0) m3.1 (cl_of (D_RailPasses_choice_0 _ σ) rfl ?_) (rp_Le_tr ?_ R25)
      · simp (disch := omega) only [lt_nI, nI_clamp, nI_leI, nI_ltI, nI_eq, ixT, cond_true, Nat.reduceEqDiff, Nat.reduceLeDiff, reduceIte, s_isWithin, e1, thI_RI, c1, thV_RV, ek2]
        rfl
      · rw [if_neg (by decide), if_neg (by decide), if_pos (by decide)]; exact rp_Le_rfl
    · have ed := y_chosenDays (sc := sc) (Sp := fun a => tN r (lw r l) (nW r) s0 (δ a)) p1 hM h10 hbt
      rw [mn_eq hR (Nat.le_refl _) hP] at ed
      refine fin (v := nI (mnN r (lw r l) (nW r) s0)) m3.1 (cl_of (D_RailPasses_choice_0 _ σ) rfl ?_) (rp_Le_tr ?_ R25)
      · simp (disch := omega) only [lt_nI, nI_clamp, nI_leI, nI_ltI, nI_eq, ixT, cond_true, Nat.reduceEqDiff, Nat.reduceLeDiff, reduceIte, s_isWithin, e1, thI_RI, c1, thV_RV, ed]
      · rw [if_neg (by decide), if_neg (by decide), if_neg (by decide), if_pos (by decide), m3.2.2.1]; exact rp_Le_rfl
    · have ed := y_chosenGoers (sc := sc) (Sp := fun a => tN r (lw r l) (nW r) s0 (δ a)) (q := fun i => qd r (lw r l) (nW r) (δ i)) p1 P1.2.1.1 (fun i hi => (P1.2.2.2.1 i hi).2.2) hsp
      rw [qn_eq hR (Nat.le_refl _) hP] at ed
      refine fin (v := nI (qnN r (lw r l) (nW r) s0)) m3.1 (cl_of (D_RailPasses_choice_0 _ σ) rfl ?_) (rp_Le_tr ?_ R25)
      · simp (disch := omega) only [lt_nI, nI_clamp, nI_leI, nI_ltI, nI_eq, ixT, cond_true, Nat.reduceEqDiff, Nat.reduceLeDiff, reduceIte, s_isWithin, e1, thI_RI, c1, thV_RV, ed]
      · rw [if_neg (by decide), if_neg (by decide), if_neg (by decide), if_neg (by decide), if_pos (by decide), m3.2.2.2.2]; exact rp_Le_rfl
    · have es : nI (5 + i) - nI 5 = nI i := by rw [pk_sub (by omega), Nat.add_sub_cancel_left]
      obtain ⟨v, cv, hv⟩ := x_takenAt (sc := sc) m3 hi
      have hcl : ∃ v', CL sc 107 [.ref 37, .int (nI i)] μ1 = RI v' μ1 ∧ nthV (tN r (lw r l) (nW r) s0) 122 i v' := by
        rcases y_chosenDay (sc := sc) (Sp := fun a => tN r (lw r l) (nW r) s0 (δ a)) (δ := δ) (i := i) hi p1 P1.2.1.1 (fun i hi => (P1.2.2.2.1 i hi).1) hsp with ⟨a, ha, q1, q2, ed⟩ | ⟨hno, ed⟩
        · rw [pre_eq hP ha] at q2
          exact ⟨_, ed, Or.inl ⟨δ a, p2 a ha, q1, q2, rfl⟩⟩
        · refine ⟨_, ed, Or.inr ⟨fun d hd hq => ?_, rfl⟩⟩
          obtain ⟨a, ha, e⟩ := tN_im hP hq.1
          subst e
          refine hno a ha ⟨hq.1, ?_⟩
          rw [pre_eq hP ha]
          exact hq.2
      obtain ⟨v', cv', hv'⟩ := hcl
      have := nthV_u hv' hv
      subst this
      refine fin (v := v') m3.1 (cl_of (D_RailPasses_choice_0 _ σ) rfl ?_) (rp_Le_tr ?_ R25)
      · simp (disch := omega) only [lt_nI, nI_clamp, nI_leI, nI_ltI, nI_eq, ixT, cond_true, s_isWithin, e1, thI_RI, i_0, if_false, c1, thV_RV, es, cv', show ¬ 5 + i = 0 by omega, show ¬ 5 + i = 1 by omega, show ¬ 5 + i = 2 by omega, show ¬ 5 + i = 3 by omega, show ¬ 5 + i = 4 by omega, Nat.reduceEqDiff, reduceIte]
      · simp (disch := omega) only [lt_nI, nI_eq, show ¬ 5 + i = 0 by omega, show ¬ 5 + i = 1 by omega, show ¬ 5 + i = 2 by omega, show ¬ 5 + i = 3 by omega, show ¬ 5 + i = 4 by omega, if_false, es, cv, thI_RI]
        exact rp_Le_rfl
end
