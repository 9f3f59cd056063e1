/-! least; the choice -/
def stp (r : rp_Mm) (l s0 : Nat) (st : Int32 × Option (Nat × Nat)) : Int32 × Option (Nat × Nat) := if lw r l 11 = 1 ∧ cI r (lw r l) (nW r) s0 < st.1 then (cI r (lw r l) (nW r) s0, some (l, s0)) else st
def chs (r : rp_Mm) (l : Nat) (st : Int32 × Option (Nat × Nat)) : Nat → Int32 × Option (Nat × Nat)
  | 0 => st
  | s + 1 => stp r l s (chs r l st s)
def cha (r : rp_Mm) : Nat → Int32 × Option (Nat × Nat)
  | 0 => (nI (frN r (nW r)), none)
  | l + 1 => chs r l (cha r l) 121
def oL (c : Int32) (o : Option (Nat × Nat)) : Int32 := match o with
  | none => c
  | some p => nI p.1
def oS (c : Int32) (o : Option (Nat × Nat)) : Int32 := match o with
  | none => c
  | some p => nI p.2
def okS (r : rp_Mm) (st : Int32 × Option (Nat × Nat)) : Prop := st.1 ≤ nI (frN r (nW r)) ∧ ∀ p, st.2 = some p → p.1 < 3 ∧ p.2 ≤ 120 ∧ lw r p.1 11 = 1
theorem ok_stp {r : rp_Mm} {l s0 : Nat} {st : Int32 × Option (Nat × Nat)} (h : okS r st) (hl : l < 3) (h0 : s0 ≤ 120) : okS r (stp r l s0 st) := by
  unfold stp
  split
  next q =>
    refine ⟨Int32.le_trans (Int32.le_of_lt q.2) h.1, fun p hp => ?_⟩
    cases hp
    exact ⟨hl, h0, q.1⟩
  next => exact h
theorem ok_chs {r : rp_Mm} {l : Nat} {st : Int32 × Option (Nat × Nat)} (h : okS r st) (hl : l < 3) : ∀ {s : Nat}, s ≤ 121 → okS r (chs r l st s) := by
  intro s
  induction s with
  | zero => intro _; exact h
  | succ s ih => intro hs; exact ok_stp (ih (by omega)) hl (by omega)
theorem ok_cha {r : rp_Mm} : ∀ {l : Nat}, l ≤ 3 → okS r (cha r l) := by
  intro l
  induction l with
  | zero => intro _; exact ⟨Int32.le_refl _, fun p hp => by cases hp⟩
  | succ l ih => intro hl; exact ok_chs (ih (by omega)) (by omega) (Nat.le_refl _)
theorem ci_no {r : rp_Mm} (hR : RB r) {l s0 : Nat} {st : Int32 × Option (Nat × Nat)} (hl : l < 3) (h : okS r st) (hg : ¬ hgP r (lw r l) (nW r) s0) : ¬ cI r (lw r l) (nW r) s0 < st.1 := by
  intro q
  have tm := (b_lw hR hl).1
  unfold TM at tm
  have bn := b_n hR
  have f := fr_le hR (Nat.le_refl (nW r))
  have e : cI r (lw r l) (nW r) s0 = nI (lw r l 2 + frN r (nW r)) := by
    unfold cI
    rw [sp_0 hg]
    exact Int32.sub_zero _
  rw [e] at q
  have h2 : nI (frN r (nW r)) ≤ nI (lw r l 2 + frN r (nW r)) := nI_le (by omega) (by omega)
  exact Int32.lt_irrefl (Int32.lt_of_lt_of_le q (Int32.le_trans h.1 h2))
theorem hg_no {r : rp_Mm} (hR : RB r) {l s0 : Nat} (hl : l < 3) (h : ¬ lw r l 11 = 1) : ¬ hgP r (lw r l) (nW r) s0 := by
  rintro ⟨w, hw, h1, h2⟩
  have b := b_lw hR hl
  have := b.2.2.1 (by omega)
  omega
theorem stp_nt {r : rp_Mm} {l s0 : Nat} {st : Int32 × Option (Nat × Nat)} (h : ¬ lw r l 11 = 1) : stp r l s0 st = st := if_neg fun q => h q.1
theorem chs_nt {r : rp_Mm} {l : Nat} {st : Int32 × Option (Nat × Nat)} (h : ¬ lw r l 11 = 1) : ∀ {s : Nat}, chs r l st s = st := by
  intro s
  induction s with
  | zero => rfl
  | succ s ih => show stp r l s (chs r l st s) = st; rw [ih, stp_nt h]
section
variable {sc : rp_Sc} {σ μ r : rp_Mm} {g : Nat → Nat} {n s : Nat} {δ : Nat → Nat}
theorem TM1 (h : TM g) : g 1 ≤ 60 ∧ g 0 ≤ 60 := ⟨h.2.1, h.1⟩
theorem x_leastOf (h : RB (R σ)) {l s0 : Nat} (hl : l < 3) (ht : lw (R σ) l 11 = 1) (h0 : s0 ≤ 120) : ∃ μ, CL sc 197 [.ref 48, .int (nI l), .int (nI s0)] σ = RI (cI (R σ) (lw (R σ) l) (nW (R σ)) s0) μ ∧ Fr (fun a k => (58 ≤ a ∧ a ≤ 60) ∨ (a = 48 ∧ 19 ≤ k ∧ k ≤ 21)) σ μ := by
  obtain ⟨μ, c, m⟩ := x_takes (sc := sc) h hl ht h0
  have rμ : R μ = R σ := R_fr m.1 (fun a k ha => by omega)
  have ef := x_fares (sc := sc) (σ := μ) (by rw [rμ]; exact h)
  rw [rμ] at ef
  have g2 : μ 52 (12 * l + 2) = nI (lw (R σ) l 2) := by rw [m.1 _ _ (by omega)]; exact r_lw h hl (by decide)
  refine ⟨μ, cl_of (D_Ref_leastOf_0 _ _ σ) rfl ?_, m.1⟩
  simp (disch := omega) only [lt_nI, nI_add, pk_mul, nI_clamp, nI_leI, nI_ltI, nI_eq, ixT, cond_true, c, thV_RV, ef, thI_RI, g2, m.2.2.2.1]
  rfl
theorem p_least (hI : Inv σ) (l s : Int32) : PM sc 108 [.ref 1, .int l, .int s] 196 [.ref 48, .int l, .int s] σ := by
  have hB := hI.1
  rcases inB_c l (a := 0) (b := 2) (by decide) (by decide) with e1 | ⟨l, -, hl, rfl, e1⟩
  · refine pm_ro hI (v := -1) (cl_of (D_RailPasses_least_0 _ _ σ) rfl ?_) (cl_of (D_Ref_least_0 _ _ σ) rfl ?_)
    · simp only [lt_nI, s_isLaw, e1, thI_RI, if_true]
    · simp only [lt_nI, x_isLaw, e1, thI_RI, if_true]
  have hl : l < 3 := by omega
  rcases inB_c s (a := 0) (b := 120) (by decide) (by decide) with e2 | ⟨s, -, hs, rfl, e2⟩
  · refine pm_ro hI (v := -1) (cl_of (D_RailPasses_least_0 _ _ σ) rfl ?_) (cl_of (D_Ref_least_0 _ _ σ) rfl ?_)
    · simp only [lt_nI, s_isLaw, s_isDay, e1, e2, i_0, if_false, thI_RI, if_true]
    · simp only [lt_nI, x_isLaw, x_isDay, e1, e2, i_0, if_false, thI_RI, if_true]
  have bl := b_lw hB.1 hl
  by_cases h0 : lw (R σ) l 11 = 0
  · refine pm_ro hI (v := -3) (cl_of (D_RailPasses_least_0 _ _ σ) rfl ?_) (cl_of (D_Ref_least_0 _ _ σ) rfl ?_)
    · simp only [lt_nI, s_isLaw, s_isDay, y_isLawThere hB hl, h0, e1, e2, i_0, if_false, thI_RI, if_true]
    · simp only [lt_nI, x_isLaw, x_isDay, x_hasLaw hB.1 hl, h0, e1, e2, i_0, if_false, thI_RI, if_true]
  have h1 : lw (R σ) l 11 = 1 := by omega
  obtain ⟨μp, δ, k, c1, hP, hK⟩ := y_prepare (sc := sc) hB (lg_law hB hl)
  obtain ⟨M, -, ec, -⟩ := y_spend (sc := sc) hB.1 (Nat.le_refl _) (TM1 bl.1).1 (TM1 bl.1).2 hP hK hs
  obtain ⟨μ1, em⟩ : ∃ m, m = rp_wr μp 37 10 (nI M) := ⟨_, rfl⟩
  rw [← em] at ec
  have fp : Fr (fun a k => 37 ≤ a ∧ a ≤ 41) σ μ1 := by rw [em]; exact Fr_wr (Fr_mo hP.1 (fun _ _ => by omega)) (by omega)
  have r1 : R μ1 = R σ := R_fr fp (fun a k ha => by omega)
  have rb : RB (R μ1) := by rw [r1]; exact hB.1
  obtain ⟨μ2, c2, f2⟩ := x_leastOf (sc := sc) (σ := μ1) (s0 := s) rb hl (by rw [r1]; exact h1) hs
  have xh := x_hasLaw (sc := sc) rb hl
  rw [r1] at c2 xh
  refine ⟨cI (R σ) (lw (R σ) l) (nW (R σ)) s, μ1, μ2, cl_of (D_RailPasses_least_0 _ _ σ) rfl ?_, cl_of (D_Ref_least_0 _ _ μ1) rfl ?_, Inv_sc (Fr_tr (Fr_mo fp (fun _ _ => by unfold Sc; omega)) (Fr_mo f2 (fun _ _ => by unfold Sc; omega))) hI⟩
  · simp only [lt_nI, s_isLaw, s_isDay, y_isLawThere hB hl, h1, e1, e2, i_0, if_false, thI_RI, c1, thV_RV, ec]
  · simp only [lt_nI, x_isLaw, x_isDay, xh, h1, e1, e2, i_0, if_false, thI_RI, c2]
/-- the class chooses -/
def CM (σ μ : rp_Mm) (st : Int32 × Option (Nat × Nat)) : Prop := Fr (fun a _ => 37 ≤ a ∧ a ≤ 41) σ μ ∧ μ 37 11 = st.1 ∧ μ 37 12 = oL (-3) st.2 ∧ μ 37 13 = oS (-3) st.2
theorem CM_w {μ' : rp_Mm} {st : Int32 × Option (Nat × Nat)} (m : CM σ μ st) (f : Fr (fun a k => (a = 37 ∧ 3 ≤ k ∧ k ≤ 10) ∨ (38 ≤ a ∧ a ≤ 41)) μ μ') : CM σ μ' st := ⟨Fr_tr m.1 (Fr_mo f (fun _ _ => by omega)), by rw [f _ _ (by omega)]; exact m.2.1, by rw [f _ _ (by omega)]; exact m.2.2.1, by rw [f _ _ (by omega)]; exact m.2.2.2⟩
theorem y_choose (hB : BI (C σ) r) : ∃ μ0 μ1 μ c, CL sc 87 [.ref 37, .ref 2] σ = RV μ ∧ CM σ μ0 (cha r 3) ∧ CM σ μ (cha r 3) ∧ CL sc 88 [.ref 37, .ref 2, .int (oL (-3) (cha r 3).2)] μ0 = RV μ1 ∧ CL sc 99 [.ref 37, .int (oS (-3) (cha r 3).2)] μ1 = RI c μ := by
  have hR := hB.1
  obtain ⟨μa, δa, sa, ca, hPa, -⟩ := y_prepare (sc := sc) hB lg_none
  have cμ : ∀ {μ st}, CM σ μ st → BI (C μ) r := fun m => by rw [C_fr m.1 (fun a k ha => by omega)]; exact hB
  have m0 : CM σ (rp_wr (rp_wr (rp_wr μa 37 11 (nI (frN r (nW r)))) 37 12 (-3)) 37 13 (-3)) (cha r 0) := by
    refine ⟨Fr_wr (Fr_wr (Fr_wr (Fr_mo hPa.1 (fun _ _ => by omega)) (by omega)) (by omega)) (by omega), ?_, ?_, wr_eq⟩
    · simp (disch := omega) only [wr_nk, wr_eq]; rfl
    · simp (disch := omega) only [wr_nk, wr_eq]; rfl
  obtain ⟨μ0, m1, L⟩ := lp_inv (E := fun l μ => EV sc (87, 0, 0, 29, [.ref 37, .ref 2, .int (nI l), rp_U, rp_U], [], (rp_L0, μ))) (fun l μ => CM σ μ (cha r l)) (n := 3) (fun l μ hl m => by
    have hBμ := cμ m
    have bl := b_lw hR hl
    obtain ⟨μ1, δ, k, c1, hP, hK⟩ := y_prepare (sc := sc) hBμ (lg_law hBμ hl)
    have m1 : CM σ μ1 (chs r l (cha r l) 0) := CM_w m (Fr_mo hP.1 (fun _ _ => by omega))
    obtain ⟨μ2, ⟨m2, -⟩, L2⟩ := lp_inv (E := fun s0 μ => EV sc (87, 0, 0, 42, [.ref 37, .ref 2, .int (nI l), .int (nI s0), rp_U], [], (rp_L0, μ))) (fun s0 μ => CM σ μ (chs r l (cha r l) s0) ∧ PL μ μ r (lw r l) (nW r) δ k ∧ RKD μ k (fun i => gd r (lw r l) (nW r) (δ i))) (n := 121) (fun s0 μ hs hR' => by
      obtain ⟨m, P, K⟩ := hR'
      have ok := ok_chs (ok_cha (r := r) (show l ≤ 3 by omega)) hl (show s0 ≤ 121 by omega)
      have T80 : ∀ x4 μ, rp_Le (EV sc (87, 0, 0, 42, [.ref 37, .ref 2, .int (nI l), .int (nI (s0 + 1)), rp_U], [], (rp_L0, μ))) (EV sc (87, 0, 0, 80, [.ref 37, .ref 2, .int (nI l), .int (nI s0), .int x4], [], (rp_L0, μ))) := fun x4 μ => by
        refine rp_Le_tr ?_ (D_Plan_choose_80 _ _ _ μ)
        simp only [lt_nI, nI_add]
        exact rp_Le_rfl
      obtain ⟨M, -, ec, -⟩ := y_spend (sc := sc) hR (Nat.le_refl _) (TM1 bl.1).1 (TM1 bl.1).2 P K (show s0 ≤ 120 by omega)
      obtain ⟨ν, eν⟩ : ∃ m, m = rp_wr μ 37 10 (nI M) := ⟨_, rfl⟩
      rw [← eν] at ec
      have fν : Fr (fun a k => a = 37 ∧ k = 10) μ ν := by rw [eν]; exact Fr_wr Fr_rfl ⟨rfl, rfl⟩
      have mν := CM_w m (Fr_mo fν (fun _ _ => by omega))
      have Pν : PL ν ν r (lw r l) (nW r) δ k := PL_w P (Fr_mo fν (fun _ _ => by omega))
      have Kν : RKD ν k (fun i => gd r (lw r l) (nW r) (δ i)) := RKD_w K (fν _ _ (by omega)) (fun j => fν _ _ (by omega))
      obtain ⟨st, est⟩ : ∃ st, st = chs r l (cha r l) s0 := ⟨_, rfl⟩
      have enx : chs r l (cha r l) (s0 + 1) = stp r l s0 st := by rw [est]; rfl
      rw [enx]
      rw [← est] at mν ok
      by_cases hlt : cI r (lw r l) (nW r) s0 < st.1
      · have hg : hgP r (lw r l) (nW r) s0 := Classical.byContradiction fun q => ci_no hR hl ok q hlt
        have ht : lw r l 11 = 1 := Classical.byContradiction fun q => hg_no hR hl q hg
        have e : stp r l s0 st = (cI r (lw r l) (nW r) s0, some (l, s0)) := if_pos ⟨ht, hlt⟩
        rw [e]
        have fw : Fr (fun a k => a = 37 ∧ 11 ≤ k) ν (rp_wr (rp_wr (rp_wr ν 37 11 (cI r (lw r l) (nW r) s0)) 37 12 (nI l)) 37 13 (nI s0)) := Fr_wr (Fr_wr (Fr_wr Fr_rfl (by omega)) (by omega)) (by omega)
        refine ⟨rp_wr (rp_wr (rp_wr ν 37 11 (cI r (lw r l) (nW r) s0)) 37 12 (nI l)) 37 13 (nI s0), ⟨⟨Fr_tr mν.1 (Fr_mo fw (fun _ _ => by omega)), ?_, ?_, wr_eq⟩, PL_w Pν (Fr_mo fw (fun _ _ => by omega)), RKD_w Kν (fw _ _ (by omega)) (fun j => fw _ _ (by omega))⟩, rp_Le_tr (rp_Le_tr (T80 (cI r (lw r l) (nW r) s0) _) ?_) (D_Plan_choose_42 _ _ μ)⟩
        · simp (disch := omega) only [wr_nk, wr_eq]
        · simp (disch := omega) only [wr_nk, wr_eq]; rfl
        · simp (disch := omega) only [lt_nI, nI_ltI, show ¬ 120 < s0 by omega, if_false, ec, thI_RI, mν.2.1, eq_false (Int32.not_le.mpr hlt)]
          exact rp_Le_rfl
      · have e : stp r l s0 st = st := if_neg fun q => hlt q.2
        rw [e]
        refine ⟨ν, ⟨mν, Pν, Kν⟩, rp_Le_tr (rp_Le_tr (T80 (cI r (lw r l) (nW r) s0) _) ?_) (D_Plan_choose_42 _ _ μ)⟩
        simp (disch := omega) only [lt_nI, nI_ltI, show ¬ 120 < s0 by omega, if_false, ec, thI_RI, mν.2.1, eq_true (Int32.not_lt.mp hlt), if_true]
        exact rp_Le_rfl) (s := μ1) ⟨m1, PL_self hP, hK⟩
    refine ⟨μ2, m2, rp_Le_tr (rp_Le_tr (rp_Le_tr (rp_Le_tr ?_ (D_Plan_choose_42 _ _ μ2)) L2) ?_) (D_Plan_choose_29 _ μ)⟩
    · simp (disch := omega) only [lt_nI, nI_ltI, eq_true (show 120 < 121 by decide), if_true, nI_add]
      exact rp_Le_rfl
    · simp (disch := omega) only [lt_nI, nI_leI, show ¬ 3 ≤ l by omega, if_false, c1, thV_RV]
      exact rp_Le_rfl) (s := _) m0
  have hB1 := cμ m1
  have hps : ∃ μ1 c M, CL sc 88 [.ref 37, .ref 2, .int (oL (-3) (cha r 3).2)] μ0 = RV μ1 ∧ CL sc 99 [.ref 37, .int (oS (-3) (cha r 3).2)] μ1 = RI c (rp_wr μ1 37 10 (nI M)) ∧ Fr (fun a k => (a = 37 ∧ 3 ≤ k ∧ k ≤ 9) ∨ (38 ≤ a ∧ a ≤ 41)) μ0 μ1 := by
    have ok := ok_cha (r := r) (Nat.le_refl 3)
    cases hc : (cha r 3).2 with
    | none =>
      obtain ⟨μ1, δ, k, c, hP, hK⟩ := y_prepare (sc := sc) hB1 lg_none
      obtain ⟨v, ec⟩ := y_spend0 (sc := sc) (μ := μ1) (x := -3) hP.2.1.2.1
      exact ⟨μ1, v, 0, c, ec, hP.1⟩
    | some p =>
      have okp := ok.2 p hc
      have bl := b_lw hR okp.1
      obtain ⟨μ1, δ, k, c, hP, hK⟩ := y_prepare (sc := sc) hB1 (lg_law hB1 okp.1)
      obtain ⟨M, -, ec, -⟩ := y_spend (sc := sc) hR (Nat.le_refl _) (TM1 bl.1).1 (TM1 bl.1).2 hP hK okp.2.1
      exact ⟨μ1, _, M, c, ec, hP.1⟩
  obtain ⟨μ1, v, M, c, ec, fP⟩ := hps
  have mp := CM_w m1 (Fr_mo fP (fun _ _ => by omega))
  refine ⟨μ0, μ1, rp_wr μ1 37 10 (nI M), v, cl_le rfl (rp_Le_tr ?_ (D_Plan_choose_0 σ)), m1, CM_w mp (Fr_wr Fr_rfl (by omega)), c, ec⟩
  rw [ca, thV_RV, hPa.2.1.2.2.2.2]
  refine rp_Le_tr (rp_Le_tr ?_ (D_Plan_choose_29 _ μ0)) L
  rw [if_pos (show (3 : Int32) ≤ nI 3 by decide), m1.2.2.1, c, thV_RV, mp.2.2.2, ec, thI_RI]
  exact rp_Le_rfl
theorem x_takenAt {v q : Nat → Nat} {T : Nat → Bool} (m : TS σ μ v q T) {i : Nat} (hi : i < 10) : ∃ x, CL sc 203 [.ref 48, .int (nI i)] μ = RI x μ ∧ nthV T 122 i x := by
  rcases lp_first (E := fun d => EV sc (203, 0, 0, 4, [.ref 48, .int (nI i), .int (nI i - nI (cnt T d)), .int (nI d)], [], (rp_L0, μ))) (r1 := fun d => RI (nI d) μ) (r0 := RI (-3) μ) (P := fun d => T d = true ∧ cnt T d = i) 122 0 122 (by omega)
    (fun d _ hd hp => by
      have w := (m.2.1 d hd).2.2
      rw [hp.1] at w
      refine rp_Le_tr ?_ (D_Ref_takenAt_4 _ _ _ μ)
      rw [hp.2, Int32.sub_self]
      simp (disch := omega) only [lt_nI, nI_leI, show ¬ 122 ≤ d by omega, if_false, ixT, cond_true, nI_clamp, w, b2, i_0, i_1, if_true]
      exact rp_Le_rfl)
    (fun d _ hd hp => by
      have w := (m.2.1 d hd).2.2
      have hc := cnt_le T d
      have T28 : ∀ x2, rp_Le (EV sc (203, 0, 0, 4, [.ref 48, .int (nI i), .int x2, .int (nI (d + 1))], [], (rp_L0, μ))) (EV sc (203, 0, 0, 28, [.ref 48, .int (nI i), .int x2, .int (nI d)], [], (rp_L0, μ))) := fun x2 => by
        refine rp_Le_tr ?_ (D_Ref_takenAt_28 _ _ _ μ)
        simp only [lt_nI, nI_add]
        exact rp_Le_rfl
      refine rp_Le_tr ?_ (D_Ref_takenAt_4 _ _ _ μ)
      rw [show cnt T (d + 1) = cnt T d + (if T d then 1 else 0) from rfl]
      cases hq : T d with
      | true =>
        rw [hq] at w
        have hne : ¬ nI i - nI (cnt T d) = 0 := fun q => by
          rw [Int32.sub_eq_iff_eq_add, Int32.zero_add, nI_eq (by omega) (by omega)] at q
          exact hp ⟨hq, q.symm⟩
        have e1 : nI i - nI (cnt T d) + -1 = nI i - nI (cnt T d + 1) := by
          rw [← nI_add, ← Int32.sub_sub, Int32.sub_eq_add_neg (nI i - nI (cnt T d)) (nI 1)]
          rfl
        rw [if_pos (rfl : true = true), if_neg (show ¬ (122 : Int32) ≤ nI d from nI_ge (b := 122) hd (by decide)), ixT hd (by decide), cond_true, nI_clamp (by omega), w, if_neg (show ¬ nI (b2 true) = 0 by decide), if_neg hne, e1]
        exact T28 _
      | false =>
        rw [hq] at w
        rw [if_neg (show ¬ (false = true) by decide), Nat.add_zero, if_neg (show ¬ (122 : Int32) ≤ nI d from nI_ge (b := 122) hd (by decide)), ixT hd (by decide), cond_true, nI_clamp (by omega), w, if_pos (show nI (b2 false) = 0 by decide)]
        exact T28 _)
    (by
      refine rp_Le_tr ?_ (D_Ref_takenAt_4 _ _ _ μ)
      simp (disch := omega) only [lt_nI, nI_leI, Nat.le_refl, if_true]
      exact rp_Le_rfl) with ⟨d, -, h1, h2, -, h3⟩ | ⟨h1, h2⟩
  · refine ⟨nI d, cl_le rfl (rp_Le_tr (rp_Le_tr h3 ?_) (D_Ref_takenAt_0 _ μ)), Or.inl ⟨d, h1, h2.1, h2.2, rfl⟩⟩
    rw [show nI i - nI (cnt T 0) = nI i from Int32.sub_zero _]
    exact rp_Le_rfl
  · refine ⟨-3, cl_le rfl (rp_Le_tr (rp_Le_tr h2 ?_) (D_Ref_takenAt_0 _ μ)), Or.inr ⟨fun d hd => h1 d (by omega) hd, rfl⟩⟩
    rw [show nI i - nI (cnt T 0) = nI i from Int32.sub_zero _]
    exact rp_Le_rfl
end
