/-! least; the choice -/
def stp (r : rp_Mm) (l s0 : Nat) (st : Int32 × Option (Nat × Nat)) : Int32 × Option (Nat × Nat) := if lw r l 11 = 1 ∧ cI r (lw r l) (nW r) s0 < st.1 then (cI r (lw r l) (nW r) s0, some (l, s0)) else st
def chs (r : rp_Mm) (l : Nat) (st : Int32 × Option (Nat × Nat)) : Nat → Int32 × Option (Nat × Nat)
  | 0 => st
  | s + 1 => stp r l s (chs r l st s)
def cha (r : rp_Mm) : Nat → Int32 × Option (Nat × Nat)
  | 0 => (nI (frN r (nW r)), none)
  | l + 1 => chs r l (cha r l) 121
def oL (c : Int32) (o : Option (Nat × Nat)) : Int32 := match o with
  | none => c
  | some p => nI p.1
def oS (c : Int32) (o : Option (Nat × Nat)) : Int32 := match o with
  | none => c
  | some p => nI p.2
def okS (r : rp_Mm) (st : Int32 × Option (Nat × Nat)) : Prop := st.1 ≤ nI (frN r (nW r)) ∧ ∀ p, st.2 = some p → p.1 < 3 ∧ p.2 ≤ 120 ∧ lw r p.1 11 = 1
theorem ok_stp {r : rp_Mm} {l s0 : Nat} {st : Int32 × Option (Nat × Nat)} (h : okS r st) (hl : l < 3) (h0 : s0 ≤ 120) : okS r (stp r l s0 st) := by
  unfold stp
  split
  next q =>
    refine ⟨Int32.le_trans (Int32.le_of_lt q.2) h.1, fun p hp => ?_⟩
    cases hp
    exact ⟨hl, h0, q.1⟩
  next => exact h
theorem ok_chs {r : rp_Mm} {l : Nat} {st : Int32 × Option (Nat × Nat)} (h : okS r st) (hl : l < 3) : ∀ {s : Nat}, s ≤ 121 → okS r (chs r l st s) := by
  intro s
  induction s with
  | zero => intro _; exact h
  | succ s ih => intro hs; exact ok_stp (ih (by omega)) hl (by omega)
theorem ok_cha {r : rp_Mm} : ∀ {l : Nat}, l ≤ 3 → okS r (cha r l) := by
  intro l
  induction l with
  | zero => intro _; exact ⟨Int32.le_refl _, fun p hp => by cases hp⟩
  | succ l ih => intro hl; exact ok_chs (ih (by omega)) (by omega) (Nat.le_refl _)
theorem stp_no {r : rp_Mm} (hR : RB r) {l s0 : Nat} {st : Int32 × Option (Nat × Nat)} (hl : l < 3) (h : okS r st) (hg : ¬ hgP r (lw r l) (nW r) s0) : stp r l s0 st = st := by
  unfold stp
  rw [if_neg]
  rintro ⟨-, q⟩
  have tm := (b_lw hR hl).1
  unfold TM at tm
  have bn := b_n hR
  have f := fr_le hR (Nat.le_refl (nW r))
  have e : cI r (lw r l) (nW r) s0 = nI (lw r l 2 + frN r (nW r)) := by
    unfold cI
    rw [sp_0 hg]
    exact Int32.sub_zero _
  rw [e] at q
  have h2 : nI (frN r (nW r)) ≤ nI (lw r l 2 + frN r (nW r)) := nI_le (by omega) (by omega)
  exact Int32.lt_irrefl (Int32.lt_of_lt_of_le q (Int32.le_trans h.1 h2))
theorem hg_no {r : rp_Mm} (hR : RB r) {l s0 : Nat} (hl : l < 3) (h : ¬ lw r l 11 = 1) : ¬ hgP r (lw r l) (nW r) s0 := by
  rintro ⟨w, hw, h1, h2⟩
  have b := b_lw hR hl
  have := b.2.2.1 (by omega)
  omega
theorem stp_nt {r : rp_Mm} {l s0 : Nat} {st : Int32 × Option (Nat × Nat)} (h : ¬ lw r l 11 = 1) : stp r l s0 st = st := if_neg fun q => h q.1
theorem chs_nt {r : rp_Mm} {l : Nat} {st : Int32 × Option (Nat × Nat)} (h : ¬ lw r l 11 = 1) : ∀ {s : Nat}, chs r l st s = st := by
  intro s
  induction s with
  | zero => rfl
  | succ s ih => show stp r l s (chs r l st s) = st; rw [ih, stp_nt h]
section
variable {sc : rp_Sc} {σ μ r : rp_Mm} {g : Nat → Nat} {n s : Nat} {δ : Nat → Nat}
theorem PL_self (h : PL σ μ r g n δ s) : PL μ μ r g n δ s := ⟨Fr_rfl, h.2⟩
theorem PL_w (h : PL μ μ r g n δ s) {μ' : rp_Mm} (f : Fr (fun a k => (a = 37 ∧ 8 ≤ k) ∨ (41 ≤ a ∧ a ≤ 43)) μ μ') : PL μ' μ' r g n δ s := by
  obtain ⟨-, ⟨z3, z4, z5, z6, z7⟩, hs, hA, q⟩ := h
  refine ⟨Fr_rfl, ⟨by rw [f _ _ (by omega)]; exact z3, by rw [f _ _ (by omega)]; exact z4, by rw [f _ _ (by omega)]; exact z5, by rw [f _ _ (by omega)]; exact z6, by rw [f _ _ (by omega)]; exact z7⟩, hs, fun i hi => ?_, q⟩
  rw [f _ _ (by omega), f _ _ (by omega), f _ _ (by omega)]
  exact hA i hi
theorem TM1 (h : TM g) : g 1 ≤ 60 ∧ g 0 ≤ 60 := ⟨h.2.1, h.1⟩
theorem x_leastOf (h : RB (R σ)) {l s0 : Nat} (hl : l < 3) (ht : lw (R σ) l 11 = 1) (h0 : s0 ≤ 120) : ∃ μ, CL sc 194 [.ref 47, .int (nI l), .int (nI s0)] σ = RI (cI (R σ) (lw (R σ) l) (nW (R σ)) s0) μ ∧ Fr (fun a k => (57 ≤ a ∧ a ≤ 59) ∨ (a = 47 ∧ 19 ≤ k ∧ k ≤ 21)) σ μ := by
  obtain ⟨μ, c, m⟩ := x_takes (sc := sc) h hl ht h0
  have rμ : R μ = R σ := R_fr m.1 (fun a k ha => by omega)
  have ef := x_fares (sc := sc) (σ := μ) (by rw [rμ]; exact h)
  rw [rμ] at ef
  have g2 : μ 51 (12 * l + 2) = nI (lw (R σ) l 2) := by rw [m.1 _ _ (by omega)]; exact r_lw h hl (by decide)
  refine ⟨μ, cl_of (D_Ref_leastOf_0 _ _ σ) rfl ?_, m.1⟩
  simp (disch := omega) only [lt_nI, nI_add, pk_mul, nI_clamp, nI_leI, nI_ltI, nI_eq, ixT, cond_true, c, thV_RV, ef, thI_RI, g2, m.2.2.2.1]
  rfl
theorem p_least (hI : Inv σ) (l s : Int32) : PM sc 106 [.ref 1, .int l, .int s] 193 [.ref 47, .int l, .int s] σ := by
  have hB := hI.1
  rcases inB_c l (a := 0) (b := 2) (by decide) (by decide) with e1 | ⟨l, -, hl, rfl, e1⟩
  · refine pm_ro hI (v := -1) (cl_of (D_RailPasses_least_0 _ _ σ) rfl ?_) (cl_of (D_Ref_least_0 _ _ σ) rfl ?_)
    · simp only [lt_nI, s_isLaw, e1, thI_RI, if_true]
    · simp only [lt_nI, x_isLaw, e1, thI_RI, if_true]
  have hl : l < 3 := by omega
  rcases inB_c s (a := 0) (b := 120) (by decide) (by decide) with e2 | ⟨s, -, hs, rfl, e2⟩
  · refine pm_ro hI (v := -1) (cl_of (D_RailPasses_least_0 _ _ σ) rfl ?_) (cl_of (D_Ref_least_0 _ _ σ) rfl ?_)
    · simp only [lt_nI, s_isLaw, s_isDay, e1, e2, i_0, if_false, thI_RI, if_true]
    · simp only [lt_nI, x_isLaw, x_isDay, e1, e2, i_0, if_false, thI_RI, if_true]
  have bl := b_lw hB.1 hl
  by_cases h0 : lw (R σ) l 11 = 0
  · refine pm_ro hI (v := -3) (cl_of (D_RailPasses_least_0 _ _ σ) rfl ?_) (cl_of (D_Ref_least_0 _ _ σ) rfl ?_)
    · simp only [lt_nI, s_isLaw, s_isDay, y_isLawThere hB hl, h0, e1, e2, i_0, if_false, thI_RI, if_true]
    · simp only [lt_nI, x_isLaw, x_isDay, x_hasLaw hB.1 hl, h0, e1, e2, i_0, if_false, thI_RI, if_true]
  have h1 : lw (R σ) l 11 = 1 := by omega
  obtain ⟨μ1, δ, k, c1, hP⟩ := y_prepare (sc := sc) hB (lg_law hB hl)
  have ec := y_costFrom (sc := sc) hB.1 (Nat.le_refl _) (TM1 bl.1).1 (TM1 bl.1).2 hP hs
  have r1 : R μ1 = R σ := R_fr hP.1 (fun a k ha => by omega)
  have rb : RB (R μ1) := by rw [r1]; exact hB.1
  obtain ⟨μ2, c2, f2⟩ := x_leastOf (sc := sc) (σ := μ1) (s0 := s) rb hl (by rw [r1]; exact h1) hs
  have xh := x_hasLaw (sc := sc) rb hl
  rw [r1] at c2 xh
  refine ⟨cI (R σ) (lw (R σ) l) (nW (R σ)) s, μ1, μ2, cl_of (D_RailPasses_least_0 _ _ σ) rfl ?_, cl_of (D_Ref_least_0 _ _ μ1) rfl ?_, Inv_sc (Fr_tr (Fr_mo hP.1 (fun _ _ => by unfold Sc; omega)) (Fr_mo f2 (fun _ _ => by unfold Sc; omega))) hI⟩
  · simp only [lt_nI, s_isLaw, s_isDay, y_isLawThere hB hl, h1, e1, e2, i_0, if_false, thI_RI, c1, thV_RV, ec]
  · simp only [lt_nI, x_isLaw, x_isDay, xh, h1, e1, e2, i_0, if_false, thI_RI, c2]
/-- the class chooses -/
def CM (σ μ : rp_Mm) (st : Int32 × Option (Nat × Nat)) : Prop := Fr (fun a _ => 37 ≤ a ∧ a ≤ 40) σ μ ∧ μ 37 8 = st.1 ∧ μ 37 9 = oL (-3) st.2 ∧ μ 37 10 = oS (-3) st.2
theorem y_choose (hB : BI (C σ) r) : ∃ μ0 μ, CL sc 87 [.ref 37, .ref 2] σ = RV μ ∧ CM σ μ0 (cha r 3) ∧ CM σ μ (cha r 3) ∧ CL sc 88 [.ref 37, .ref 2, .int (oL (-3) (cha r 3).2)] μ0 = RV μ := by
  have hR := hB.1
  obtain ⟨μa, δa, sa, ca, hPa⟩ := y_prepare (sc := sc) hB lg_none
  have cμ : ∀ {μ st}, CM σ μ st → BI (C μ) r := fun m => by rw [C_fr m.1 (fun a k ha => by omega)]; exact hB
  have m0 : CM σ (rp_wr (rp_wr (rp_wr μa 37 8 (nI (frN r (nW r)))) 37 9 (-3)) 37 10 (-3)) (cha r 0) := by
    refine ⟨Fr_wr (Fr_wr (Fr_wr (Fr_mo hPa.1 (fun _ _ => by omega)) (by omega)) (by omega)) (by omega), ?_, ?_, wr_eq⟩
    · simp (disch := omega) only [wr_nk, wr_eq]; rfl
    · simp (disch := omega) only [wr_nk, wr_eq]; rfl
  obtain ⟨μ0, m1, L⟩ := lp_inv (E := fun l μ => EV sc (87, 0, 0, 29, [.ref 37, .ref 2, .int (nI l), rp_U], [], (rp_L0, μ))) (fun l μ => CM σ μ (cha r l)) (n := 3) (fun l μ hl m => by
    have hBμ := cμ m
    have bl := b_lw hR hl
    obtain ⟨μ1, δ, k, c1, hP⟩ := y_prepare (sc := sc) hBμ (lg_law hBμ hl)
    have m1 : CM σ μ1 (chs r l (cha r l) 0) := ⟨Fr_tr m.1 (Fr_mo hP.1 (fun _ _ => by omega)), by rw [hP.1 _ _ (by omega)]; exact m.2.1, by rw [hP.1 _ _ (by omega)]; exact m.2.2.1, by rw [hP.1 _ _ (by omega)]; exact m.2.2.2⟩
    obtain ⟨μ2, ⟨m2, -⟩, L2⟩ := lp_inv (E := fun s0 μ => EV sc (87, 0, 0, 42, [.ref 37, .ref 2, .int (nI l), .int (nI s0)], [], (rp_L0, μ))) (fun s0 μ => CM σ μ (chs r l (cha r l) s0) ∧ PL μ μ r (lw r l) (nW r) δ k) (n := 121) (fun s0 μ hs hR' => by
      obtain ⟨m, P⟩ := hR'
      have ok := ok_chs (ok_cha (r := r) (show l ≤ 3 by omega)) hl (show s0 ≤ 121 by omega)
      have T87 : ∀ μ, rp_Le (EV sc (87, 0, 0, 42, [.ref 37, .ref 2, .int (nI l), .int (nI (s0 + 1))], [], (rp_L0, μ))) (EV sc (87, 0, 0, 87, [.ref 37, .ref 2, .int (nI l), .int (nI s0)], [], (rp_L0, μ))) := fun μ => by
        refine rp_Le_tr ?_ (D_Plan_choose_87 _ _ μ)
        simp only [lt_nI, nI_add]
        exact rp_Le_rfl
      have ec := y_costFrom (sc := sc) hR (Nat.le_refl _) (TM1 bl.1).1 (TM1 bl.1).2 P (show s0 ≤ 120 by omega)
      obtain ⟨st, est⟩ : ∃ st, st = chs r l (cha r l) s0 := ⟨_, rfl⟩
      have enx : chs r l (cha r l) (s0 + 1) = stp r l s0 st := by rw [est]; rfl
      rw [enx]
      rw [← est] at m ok
      rcases y_hasGood (sc := sc) hR (TM1 bl.1).1 P (show s0 ≤ 120 by omega) with ⟨hg, eh⟩ | ⟨hg, eh⟩
      · have ht : lw r l 11 = 1 := Classical.byContradiction fun q => hg_no hR hl q hg
        by_cases hlt : cI r (lw r l) (nW r) s0 < st.1
        · have e : stp r l s0 st = (cI r (lw r l) (nW r) s0, some (l, s0)) := if_pos ⟨ht, hlt⟩
          rw [e]
          refine ⟨rp_wr (rp_wr (rp_wr μ 37 8 (cI r (lw r l) (nW r) s0)) 37 9 (nI l)) 37 10 (nI s0), ⟨⟨Fr_wr (Fr_wr (Fr_wr m.1 (by omega)) (by omega)) (by omega), ?_, ?_, wr_eq⟩, PL_w P (Fr_wr (Fr_wr (Fr_wr Fr_rfl (by omega)) (by omega)) (by omega))⟩, rp_Le_tr (rp_Le_tr (T87 _) ?_) (D_Plan_choose_42 _ _ μ)⟩
          · simp (disch := omega) only [wr_nk, wr_eq]
          · simp (disch := omega) only [wr_nk, wr_eq]; rfl
          · simp (disch := omega) only [lt_nI, nI_ltI, show ¬ 120 < s0 by omega, if_false, eh, thI_RI, i_0, ec, m.2.1, eq_false (Int32.not_le.mpr hlt)]
            exact rp_Le_rfl
        · have e : stp r l s0 st = st := if_neg fun q => hlt q.2
          rw [e]
          refine ⟨μ, ⟨m, P⟩, rp_Le_tr (rp_Le_tr (T87 _) ?_) (D_Plan_choose_42 _ _ μ)⟩
          simp (disch := omega) only [lt_nI, nI_ltI, show ¬ 120 < s0 by omega, if_false, eh, thI_RI, i_0, ec, m.2.1, eq_true (Int32.not_lt.mp hlt), if_true]
          exact rp_Le_rfl
      · rw [stp_no hR hl ok hg]
        refine ⟨μ, ⟨m, P⟩, rp_Le_tr (rp_Le_tr (T87 _) ?_) (D_Plan_choose_42 _ _ μ)⟩
        simp (disch := omega) only [lt_nI, nI_ltI, show ¬ 120 < s0 by omega, if_false, eh, thI_RI, i_1, if_true]
        exact rp_Le_rfl) (s := μ1) ⟨m1, PL_self hP⟩
    refine ⟨μ2, m2, rp_Le_tr (rp_Le_tr (rp_Le_tr (rp_Le_tr ?_ (D_Plan_choose_42 _ _ μ2)) L2) ?_) (D_Plan_choose_29 _ μ)⟩
    · simp (disch := omega) only [lt_nI, nI_ltI, eq_true (show 120 < 121 by decide), if_true, nI_add]
      exact rp_Le_rfl
    · simp (disch := omega) only [lt_nI, nI_leI, show ¬ 3 ≤ l by omega, if_false, c1, thV_RV]
      exact rp_Le_rfl) (s := _) m0
  have hB1 := cμ m1
  have lgc : ∃ g, LG sc μ0 (oL (-3) (cha r 3).2) g := by
    have ok := ok_cha (r := r) (Nat.le_refl 3)
    cases hc : (cha r 3).2 with
    | none => exact ⟨_, lg_none⟩
    | some p => exact ⟨_, lg_law hB1 (ok.2 p hc).1⟩
  obtain ⟨gc, hlg⟩ := lgc
  obtain ⟨μ, δ, k, c, hP⟩ := y_prepare (sc := sc) hB1 hlg
  refine ⟨μ0, μ, cl_le rfl (rp_Le_tr ?_ (D_Plan_choose_0 σ)), m1, ⟨Fr_tr m1.1 (Fr_mo hP.1 (fun _ _ => by omega)), by rw [hP.1 _ _ (by omega)]; exact m1.2.1, by rw [hP.1 _ _ (by omega)]; exact m1.2.2.1, by rw [hP.1 _ _ (by omega)]; exact m1.2.2.2⟩, c⟩
  rw [ca, thV_RV, hPa.2.1.2.2.2.2]
  refine rp_Le_tr (rp_Le_tr ?_ (D_Plan_choose_29 _ μ0)) L
  rw [if_pos (show (3 : Int32) ≤ nI 3 by decide), m1.2.2.1, c, thV_RV]
  exact rp_Le_rfl
theorem x_takenAt {v q : Nat → Nat} {T : Nat → Bool} (m : TS σ μ v q T) {i : Nat} (hi : i < 10) : ∃ x, CL sc 200 [.ref 47, .int (nI i)] μ = RI x μ ∧ nthV T 122 i x := by
  rcases lp_first (E := fun d => EV sc (200, 0, 0, 4, [.ref 47, .int (nI i), .int (nI i - nI (cnt T d)), .int (nI d)], [], (rp_L0, μ))) (r1 := fun d => RI (nI d) μ) (r0 := RI (-3) μ) (P := fun d => T d = true ∧ cnt T d = i) 122 0 122 (by omega)
    (fun d _ hd hp => by
      have w := (m.2.1 d hd).2.2
      rw [hp.1] at w
      refine rp_Le_tr ?_ (D_Ref_takenAt_4 _ _ _ μ)
      rw [hp.2, Int32.sub_self]
      simp (disch := omega) only [lt_nI, nI_leI, show ¬ 122 ≤ d by omega, if_false, ixT, cond_true, nI_clamp, w, b2, i_0, i_1, if_true]
      exact rp_Le_rfl)
    (fun d _ hd hp => by
      have w := (m.2.1 d hd).2.2
      have hc := cnt_le T d
      have T28 : ∀ x2, rp_Le (EV sc (200, 0, 0, 4, [.ref 47, .int (nI i), .int x2, .int (nI (d + 1))], [], (rp_L0, μ))) (EV sc (200, 0, 0, 28, [.ref 47, .int (nI i), .int x2, .int (nI d)], [], (rp_L0, μ))) := fun x2 => by
        refine rp_Le_tr ?_ (D_Ref_takenAt_28 _ _ _ μ)
        simp only [lt_nI, nI_add]
        exact rp_Le_rfl
      refine rp_Le_tr ?_ (D_Ref_takenAt_4 _ _ _ μ)
      rw [show cnt T (d + 1) = cnt T d + (if T d then 1 else 0) from rfl]
      cases hq : T d with
      | true =>
        rw [hq] at w
        have hne : ¬ nI i - nI (cnt T d) = 0 := fun q => by
          rw [Int32.sub_eq_iff_eq_add, Int32.zero_add, nI_eq (by omega) (by omega)] at q
          exact hp ⟨hq, q.symm⟩
        have e1 : nI i - nI (cnt T d) + -1 = nI i - nI (cnt T d + 1) := by
          rw [← nI_add, ← Int32.sub_sub, Int32.sub_eq_add_neg (nI i - nI (cnt T d)) (nI 1)]
          rfl
        rw [if_pos (rfl : true = true), if_neg (show ¬ (122 : Int32) ≤ nI d from nI_ge (b := 122) hd (by decide)), ixT hd (by decide), cond_true, nI_clamp (by omega), w, if_neg (show ¬ nI (b2 true) = 0 by decide), if_neg hne, e1]
        exact T28 _
      | false =>
        rw [hq] at w
        rw [if_neg (show ¬ (false = true) by decide), Nat.add_zero, if_neg (show ¬ (122 : Int32) ≤ nI d from nI_ge (b := 122) hd (by decide)), ixT hd (by decide), cond_true, nI_clamp (by omega), w, if_pos (show nI (b2 false) = 0 by decide)]
        exact T28 _)
    (by
      refine rp_Le_tr ?_ (D_Ref_takenAt_4 _ _ _ μ)
      simp (disch := omega) only [lt_nI, nI_leI, Nat.le_refl, if_true]
      exact rp_Le_rfl) with ⟨d, -, h1, h2, -, h3⟩ | ⟨h1, h2⟩
  · refine ⟨nI d, cl_le rfl (rp_Le_tr (rp_Le_tr h3 ?_) (D_Ref_takenAt_0 _ μ)), Or.inl ⟨d, h1, h2.1, h2.2, rfl⟩⟩
    rw [show nI i - nI (cnt T 0) = nI i from Int32.sub_zero _]
    exact rp_Le_rfl
  · refine ⟨-3, cl_le rfl (rp_Le_tr (rp_Le_tr h2 ?_) (D_Ref_takenAt_0 _ μ)), Or.inr ⟨fun d hd => h1 d (by omega) hd, rfl⟩⟩
    rw [show nI i - nI (cnt T 0) = nI i from Int32.sub_zero _]
    exact rp_Le_rfl
end
