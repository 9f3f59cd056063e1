/-! sell -/
def costN (r : rp_Mm) (l : Nat) (c : Nat) : Nat := if c = 0 then lw r l 2 else lw r l 2 * lw r l 8 / 100
/-- a pass's row: the class's, the reference's -/
def vP (g : Nat → Nat) (c l s : Nat) : Nat → Nat := fun q => if q < 11 then g q else if q = 11 then c else if q = 12 then l else if q = 13 then s else 0
def wP (g : Nat → Nat) (c l s : Nat) : Nat → Nat := fun q => if q < 11 then g q else if q = 11 then l else if q = 12 then s else if q = 13 then 0 else c
theorem lt15 {q : Nat} (h : q < 15) : q < 11 ∨ q = 11 ∨ q = 12 ∨ q = 13 ∨ q = 14 := by omega
section
variable {sc : rp_Sc} {σ μ r : rp_Mm}
theorem costN_le (h : RB r) {l c : Nat} (hl : l < 3) : costN r l c ≤ 999 := by
  have tm := (b_lw h hl).1
  unfold TM at tm
  have hm : lw r l 2 * lw r l 8 ≤ 999 * 100 := Nat.mul_le_mul (by omega) (by omega)
  unfold costN
  split <;> omega
theorem y_addPass (hB : BI (C σ) r) {l s c : Nat} {ch : Int32} (hl : l < 3) (hs : s ≤ 120) (hP : nP r < 8) (hc : (ch = nI 0 ∧ c = 0) ∨ (¬ ch = nI 0 ∧ c = 1)) : ∃ σ1, CL sc 61 [.ref 2, .int (nI l), .int (nI s), .int ch] σ = RI (nI (nP r)) σ1 ∧ RowIn σ σ1 9 9 15 (nP r) 14 (vP (lw r l) (costN r l c) l s) := by
  have bn := b_n hB.1
  have tm := (b_lw hB.1 hl).1
  unfold TM at tm
  have hm : lw r l 2 * lw r l 8 ≤ 999 * 100 := Nat.mul_le_mul (by omega) (by omega)
  obtain ⟨n, hn⟩ : ∃ n, n = nP r := ⟨_, rfl⟩
  have hz := c_nP hB
  rw [← hn] at hz hP ⊢
  obtain ⟨v, hv⟩ : ∃ v, v = vP (lw r l) (costN r l c) l s := ⟨_, rfl⟩
  rw [← hv]
  have hvq : ∀ q, q < 11 → v q = lw r l q := fun q hq => by rw [hv]; unfold vP; rw [if_pos hq]
  obtain ⟨μ0, a0, h0⟩ := row0 (sc := sc) TB9 v hz hP
  obtain ⟨μ1, h1, L⟩ := lp_inv (E := fun i μ => EV sc (61, 0, 0, 12, [.ref 2, .int (nI l), .int (nI s), .int ch, .int (nI n), .int (nI i)], [], (rp_L0, μ))) (fun i μ => RowIn σ μ 9 9 15 n i v) (n := 11) (fun i μ hi hR => by
    obtain ⟨μ', a, hR'⟩ := rowS (sc := sc) TB9 hR hP (show i < 15 by omega)
    rw [hvq i hi] at a
    refine ⟨μ', hR', rp_Le_tr ?_ (D_Book_addPass_12 _ _ _ _ _ μ)⟩
    have g := f_lw (sc := sc) (q := i) hB hR.1 (by omega) (fun _ => by omega) hl (by omega)
    simp (disch := omega) only [lt_nI, nI_add, pk_mul, nI_leI, show ¬ 11 ≤ i by omega, if_false, g, thI_RI, a, thV_RV]
    exact rp_Le_rfl) h0
  obtain ⟨μ2, a2, h2⟩ := rowS (sc := sc) TB9 h1 hP (show 11 < 15 by decide)
  obtain ⟨μ3, a3, h3⟩ := rowS (sc := sc) TB9 h2 hP (show 12 < 15 by decide)
  obtain ⟨μ4, a4, h4⟩ := rowS (sc := sc) TB9 h3 hP (show 13 < 15 by decide)
  rw [show v 11 = costN r l c by rw [hv]; rfl] at a2
  rw [show v 12 = l by rw [hv]; rfl] at a3
  rw [show v 13 = s by rw [hv]; rfl] at a4
  refine ⟨μ4, cl_le rfl (rp_Le_tr ?_ (D_Book_addPass_0 _ _ _ σ)), h4⟩
  rw [a0, thI_RI]
  refine rp_Le_tr (rp_Le_tr ?_ (D_Book_addPass_12 _ _ _ _ _ μ1)) L
  have e89 : ∀ x5, EV sc (61, 0, 0, 89, [.ref 2, .int (nI l), .int (nI s), .int ch, .int (nI n), .int x5], [.int (nI (costN r l c)), .int (nI 11), .int (nI n), .ref 9], (rp_L0, μ1)) = RI (nI n) μ4 := by
    intro x5
    refine ev_of (D_Book_addPass_89 _ _ _ _ _ _ _ _ μ1) ?_
    simp only [lt_nI, a2, a3, a4, thV_RV]
  have g2 := f_lw (sc := sc) (q := 2) hB h1.1 (by omega) (fun _ => by omega) hl (by omega)
  have g8 := f_lw (sc := sc) (q := 8) hB h1.1 (by omega) (fun _ => by omega) hl (by omega)
  simp (disch := omega) only [lt_nI, nI_leI, Nat.le_refl, if_true, g2, thI_RI]
  rcases hc with ⟨hq, rfl⟩ | ⟨hq, rfl⟩
  · simp only [eq_true hq, if_true]
    exact rp_Le_eq (e89 _)
  · simp (disch := omega) only [eq_false hq, if_false, g8, thI_RI, s_percents]
    exact rp_Le_eq (e89 _)
theorem x_sell (h : RB (R σ)) {l s c : Nat} {ch : Int32} (hl : l < 3) (hs : s ≤ 120) (hP : nP (R σ) < 8) (ht : lw (R σ) l 11 = 1) (hc : (ch = nI 0 ∧ c = 0) ∨ (¬ ch = nI 0 ∧ c = 1)) : ∃ σ1, CL sc 172 [.ref 48, .int (nI l), .int (nI s), .int ch] σ = RI (nI (nP (R σ))) σ1 ∧ Fr (fun a k => (a = 49 ∧ k = 2) ∨ (a = 53 ∧ 16 * nP (R σ) ≤ k)) σ σ1 ∧ σ1 49 2 = nI (nP (R σ) + 1) ∧ ∀ q, q < 15 → σ1 53 (16 * nP (R σ) + q) = nI (wP (lw (R σ) l) (costN (R σ) l c) l s q) := by
  have bn := b_n h
  have tm := (b_lw h hl).1
  unfold TM at tm
  have hm : lw (R σ) l 2 * lw (R σ) l 8 ≤ 999 * 100 := Nat.mul_le_mul (by omega) (by omega)
  obtain ⟨n, hn⟩ : ∃ n, n = nP (R σ) := ⟨_, rfl⟩
  have hz := r_nP h
  rw [← hn] at hz hP ⊢
  obtain ⟨ν, hν⟩ : ∃ ν : Nat → rp_Mm, ν = fun i => blk σ 53 (16 * n) (16 * n + i) (fun k => nI (lw (R σ) l (k - 16 * n))) := ⟨_, rfl⟩
  have νo : ∀ i a k, a ≠ 53 → ν i a k = σ a k := fun i a k ha => by rw [hν]; exact blk_o (by omega)
  have L := lp (E := fun i => EV sc (172, 0, 0, 55, [.ref 48, .int (nI l), .int (nI s), .int ch, .int (nI (16 * n)), .int (nI i)], [], (rp_L0, ν i))) (n := 11) (fun i hi => by
    refine rp_Le_tr ?_ (D_Ref_sell_55 _ _ _ _ _ _)
    have e : ν i 52 (12 * l + i) = nI (lw (R σ) l i) := by rw [νo _ _ _ (by decide)]; exact r_lw h hl (by omega)
    simp (disch := omega) only [lt_nI, nI_add, pk_mul, nI_clamp, nI_leI, nI_ltI, nI_eq, ixT, cond_true, Nat.reduceEqDiff, Nat.reduceLeDiff, reduceIte, show ¬ 11 ≤ i by omega, e]
    refine rp_Le_eq ?_
    rw [hν]
    dsimp only
    rw [blk_s (by omega) (by rw [show 16 * n + i - 16 * n = i by omega])]
    rfl)
  have e0 : ν 0 = σ := by rw [hν]; exact blk_0
  rw [e0] at L
  obtain ⟨μ, em⟩ : ∃ x, x = rp_wr (rp_wr (rp_wr (ν 11) 53 (16 * n + 11) (nI l)) 53 (16 * n + 12) (nI s)) 53 (16 * n + 13) (nI 0) := ⟨_, rfl⟩
  have vq : ∀ q, q < 11 → μ 53 (16 * n + q) = nI (lw (R σ) l q) := fun q hq => by
    rw [em]
    simp (disch := omega) only [wr_nk]
    rw [hν]
    dsimp only
    rw [blk_i (by omega) (by omega), show 16 * n + q - 16 * n = q by omega]
  have z : μ 49 2 = nI n := by rw [em]; simp (disch := omega) only [wr_n2]; rw [νo _ _ _ (by decide)]; exact hz
  have e171 : EV sc (172, 0, 0, 171, [.ref 48, .int (nI l), .int (nI s), .int ch, .int (nI (16 * n)), .int (nI 11)], [.int (nI (costN (R σ) l c)), .int (nI (16 * n + 14)), .ref 53], (rp_L0, μ)) = RI (nI n) (rp_wr (rp_wr μ 53 (16 * n + 14) (nI (costN (R σ) l c))) 49 2 (nI (n + 1))) := by
    refine ev_of (D_Ref_sell_171 _ _ _ _ _ _ _ μ) ?_
    simp (disch := omega) only [lt_nI, nI_add, pk_mul, nI_clamp, nI_leI, nI_ltI, nI_eq, ixT, cond_true, Nat.reduceEqDiff, Nat.reduceLeDiff, reduceIte, wr_n2, z, wr_eq, pk_sub, Nat.add_sub_cancel]
  refine ⟨rp_wr (rp_wr μ 53 (16 * n + 14) (nI (costN (R σ) l c))) 49 2 (nI (n + 1)), cl_le rfl (rp_Le_tr ?_ (D_Ref_sell_0 _ _ _ σ)), ?_, wr_eq, ?_⟩
  rotate_left
  · refine Fr_wr (Fr_wr ?_ (Or.inr ⟨rfl, by omega⟩)) (Or.inl ⟨rfl, rfl⟩)
    rw [em, hν]
    refine Fr_wr (Fr_wr (Fr_wr (Fr_blk Fr_rfl (fun k h1 _ => Or.inr ⟨rfl, h1⟩)) ?_) ?_) ?_
    all_goals exact Or.inr ⟨rfl, by omega⟩
  · intro q hq
    rcases lt15 hq with h1 | rfl | rfl | rfl | rfl
    · rw [wr_n2 (by decide), wr_nk (by omega), vq q h1]
      unfold wP
      rw [if_pos h1]
    · rw [wr_n2 (by decide), wr_nk (by omega), em, wr_nk (by omega), wr_nk (by omega), wr_eq]; rfl
    · rw [wr_n2 (by decide), wr_nk (by omega), em, wr_nk (by omega), wr_eq]; rfl
    · rw [wr_n2 (by decide), wr_nk (by omega), em, wr_eq]; rfl
    · rw [wr_n2 (by decide), wr_eq]; rfl
  · simp (disch := omega) only [lt_nI, nI_add, pk_mul, nI_clamp, nI_leI, nI_ltI, nI_eq, ixT, cond_true, Nat.reduceEqDiff, Nat.reduceLeDiff, reduceIte, x_isLaw, x_isDay, inB_n, x_hasLaw h hl, ht, thI_RI, i_0, hz, show ¬ n = 8 by omega]
    refine rp_Le_tr (rp_Le_tr ?_ (D_Ref_sell_55 _ _ _ _ _ _)) L
    have q2 : μ 53 (16 * n + 2) = nI (lw (R σ) l 2) := vq 2 (by decide)
    have q8 : μ 53 (16 * n + 8) = nI (lw (R σ) l 8) := vq 8 (by decide)
    simp (disch := omega) only [lt_nI, nI_add, pk_mul, nI_clamp, nI_leI, nI_ltI, nI_eq, ixT, cond_true, Nat.reduceEqDiff, Nat.reduceLeDiff, reduceIte]
    rw [← em]
    rcases hc with ⟨hq, rfl⟩ | ⟨hq, rfl⟩
    · simp only [eq_true hq, if_true, q2]
      exact rp_Le_eq e171
    · simp only [eq_false hq, if_false, q2, q8, pk_mul]
      rw [pk_div (by omega) (by decide) (by decide)]
      exact rp_Le_eq e171
theorem p_sell (hI : Inv σ) (l s ch : Int32) : PM sc 59 [.ref 1, .int l, .int s, .int ch] 172 [.ref 48, .int l, .int s, .int ch] σ := by
  have hB := hI.1
  have bn := b_n hB.1
  rcases inB_c l (a := 0) (b := 2) (by decide) (by decide) with e1 | ⟨l, -, hl, rfl, e1⟩
  · refine pm_ro hI (v := -1) (cl_of (D_RailPasses_sell_0 _ _ _ σ) rfl ?_) (cl_of (D_Ref_sell_0 _ _ _ σ) rfl ?_)
    · simp only [lt_nI, s_isLaw, e1, thI_RI, if_true]
    · simp only [lt_nI, x_isLaw, e1, thI_RI, if_true]
  have hl : l < 3 := by omega
  rcases inB_c s (a := 0) (b := 120) (by decide) (by decide) with e2 | ⟨s, -, hs, rfl, e2⟩
  · refine pm_ro hI (v := -1) (cl_of (D_RailPasses_sell_0 _ _ _ σ) rfl ?_) (cl_of (D_Ref_sell_0 _ _ _ σ) rfl ?_)
    · simp only [lt_nI, s_isLaw, s_isDay, e1, e2, i_0, if_false, thI_RI, if_true]
    · simp only [lt_nI, x_isLaw, x_isDay, e1, e2, i_0, if_false, thI_RI, if_true]
  have bl := b_lw hB.1 hl
  by_cases h0 : lw (R σ) l 11 = 0
  · refine pm_ro hI (v := -3) (cl_of (D_RailPasses_sell_0 _ _ _ σ) rfl ?_) (cl_of (D_Ref_sell_0 _ _ _ σ) rfl ?_)
    · simp only [lt_nI, s_isLaw, s_isDay, y_isLawThere hB hl, h0, e1, e2, i_0, if_false, thI_RI, if_true]
    · simp only [lt_nI, x_isLaw, x_isDay, x_hasLaw hB.1 hl, h0, e1, e2, i_0, if_false, thI_RI, if_true]
  have h1 : lw (R σ) l 11 = 1 := by omega
  by_cases hP : nP (R σ) < 8
  · obtain ⟨c, hc⟩ : ∃ c : Nat, (ch = nI 0 ∧ c = 0) ∨ (¬ ch = nI 0 ∧ c = 1) := by
      by_cases h : ch = nI 0
      · exact ⟨0, Or.inl ⟨h, rfl⟩⟩
      · exact ⟨1, Or.inr ⟨h, rfl⟩⟩
    obtain ⟨σ1, c1, c2, c3, c4, c5⟩ := y_addPass (sc := sc) hB hl hs hP hc
    have c1 : CL sc 59 [.ref 1, .int (nI l), .int (nI s), .int ch] σ = RI (nI (nP (R σ))) σ1 := by
      refine cl_of (D_RailPasses_sell_0 _ _ _ σ) rfl ?_
      simp (disch := omega) only [lt_nI, nI_add, pk_mul, nI_clamp, nI_leI, nI_ltI, nI_eq, ixT, cond_true, Nat.reduceEqDiff, Nat.reduceLeDiff, reduceIte, s_isLaw, s_isDay, y_isLawThere hB hl, h1, e1, e2, i_0, if_false, thI_RI, if_true, s_isFull TB9 σ (c_nP hB), show ¬ nP (R σ) = 8 by omega, c1]
    have er : R σ1 = R σ := R_fr c2 (fun a k ha => by omega)
    obtain ⟨σ2, d1, d2, d3, d4⟩ := x_sell (sc := sc) (σ := σ1) (by rw [er]; exact hB.1) hl hs (by rw [er]; exact hP) (by rw [er]; exact h1) hc
    rw [er] at d1 d2 d3 d4
    have cl := costN_le hB.1 (c := c) hl
    have tm := bl.1
    unfold TM at tm
    have f : Fr (fun a k => (a = 9 ∧ k = 3) ∨ (a = 10 ∧ 15 * nP (R σ) ≤ k) ∨ (a = 49 ∧ k = 2) ∨ (a = 53 ∧ 16 * nP (R σ) ≤ k)) σ σ2 := Fr_tr (Fr_mo c2 (fun _ _ => by omega)) (Fr_mo d2 (fun _ _ => by omega))
    have ha : ∀ a, a < 8 → a ≠ 0 → a ≠ 4 → R σ2 a = R σ a := fun a h8 h0 h6 => R_fa f (fun _ => by omega)
    have r0 : ∀ k, k ≠ 2 → R σ2 0 k = R σ 0 k := fun k hk => R_fk f (by omega)
    have rj : R σ2 0 2 = nI (nP (R σ) + 1) := by rw [R_at (by decide)]; exact d3
    have eP : nP (R σ2) = nP (R σ) + 1 := N1_n rj (by omega)
    have eR : nR (R σ2) = nR (R σ) := N1_e (r0 3 (by decide))
    have hgl : ∀ q, q < 11 → lw (R σ) l q < 2 ^ 31 := fun q hq => by
      have : q = 0 ∨ q = 1 ∨ q = 2 ∨ q = 3 ∨ q = 4 ∨ q = 5 ∨ q = 6 ∨ q = 7 ∨ q = 8 ∨ q = 9 ∨ q = 10 := by omega
      rcases this with rfl | rfl | rfl | rfl | rfl | rfl | rfl | rfl | rfl | rfl | rfl <;> omega
    obtain ⟨w, hw⟩ : ∃ w, w = wP (lw (R σ) l) (costN (R σ) l c) l s := ⟨_, rfl⟩
    have w11 : w 11 = l := by rw [hw]; rfl
    have w12 : w 12 = s := by rw [hw]; rfl
    have w13 : w 13 = 0 := by rw [hw]; rfl
    have w14 : w 14 = costN (R σ) l c := by rw [hw]; rfl
    have wq : ∀ q, q < 11 → w q = lw (R σ) l q := fun q hq => by rw [hw]; unfold wP; rw [if_pos hq]
    rw [← hw] at d4
    have hv : ∀ q, q < 15 → w q < 2 ^ 31 := fun q hq => by
      rcases lt15 hq with h | rfl | rfl | rfl | rfl
      · rw [wq q h]; exact hgl q h
      all_goals omega
    have qn : ∀ q, q < 15 → R σ2 4 (16 * nP (R σ) + q) = nI (w q) := fun q hq => by rw [R_at (by simp only [lenR]; omega)]; exact d4 q hq
    have qo : ∀ k, k < 16 * nP (R σ) → R σ2 4 k = R σ 4 k := fun k hk => R_fk f (by omega)
    have cn : ∀ q, q < 14 → C σ2 8 (15 * nP (R σ) + q) = nI (vP (lw (R σ) l) (costN (R σ) l c) l s q) := fun q hq => by rw [C_ar (by simp only [lenC]; omega), d2 _ _ (by omega)]; exact c4 q hq
    have cn14 : C σ2 8 (15 * nP (R σ) + 14) = nI 0 := by rw [C_ar (by simp only [lenC]; omega), d2 _ _ (by omega)]; exact c5 14 (by decide) (by decide)
    have co : ∀ k, k < 15 * nP (R σ) → C σ2 8 k = C σ 8 k := fun k hk => C_fk f (by omega)
    have wn : ∀ q, q < 15 → ps (R σ2) (nP (R σ)) q = w q := fun q hq => N1_n (qn q hq) (hv q hq)
    have wo : ∀ p q, p < nP (R σ) → q < 15 → ps (R σ2) p q = ps (R σ) p q := fun p q hw hq => N1_e (qo _ (by omega))
    have hln := ln_t (ha 1 (by decide) (by decide) (by decide))
    have htr := tr_t (ha 2 (by decide) (by decide) (by decide))
    have hrd := rd_t (ha 5 (by decide) (by decide) (by decide))
    have hcd : ∀ i, i < nR (R σ) → cdR (R σ2) i = cdR (R σ) i ∧ payR (R σ2) i = payR (R σ) i := fun i hi => by
      have br := b_rd hB.1 hi
      unfold cdR payR cdN paysN boatN
      rw [hln, htr, hrd, wo _ 5 br.1 (by decide), wo _ 6 br.1 (by decide), wo _ 7 br.1 (by decide)]
      exact ⟨rfl, rfl⟩
    have hcy : ∀ p, cdays (R σ2) p = cdays (R σ) p := fun p => cdays_t eR fun i hi => ⟨by rw [hrd], (hcd i hi).1⟩
    have hnew : cdays (R σ) (nP (R σ)) = 0 := by
      have : ∀ k, k ≤ nR (R σ) → cnt (fun i => decide (rd (R σ) i 0 = nP (R σ)) && !isC (R σ) (nP (R σ)) (cdR (R σ) i) i) k = 0 := by
        intro k
        induction k with
        | zero => intro _; rfl
        | succ k ih =>
          intro hk
          have br := b_rd hB.1 (show k < nR (R σ) by omega)
          unfold cnt
          rw [ih (by omega), show decide (rd (R σ) k 0 = nP (R σ)) = false by simp; omega]
          rfl
      exact this _ (Nat.le_refl _)
    refine ⟨_, σ1, σ2, c1, d1, Inv_m (Fr_mo f (fun _ _ => by unfold Mu; omega)) hI (bi_pass (m := nP (R σ) + 1) hB (by omega) (by omega) ha r0 rj (fun a h8 h0 h6 => C_fa f (fun _ => by omega)) ?_ hcd ?_ ?_) (N1_e (r0 0 (by decide))) (ha 1 (by decide) (by decide) (by decide))⟩
    · rw [C_at (by decide), d2 _ _ (by omega)]; exact c3
    · intro p hp
      rw [eP] at hp
      by_cases hp2 : p = nP (R σ)
      · subst hp2
        refine ⟨fun q hq => Ok_n (qn q hq) (hv q hq), ?_⟩
        have hN := bl.2.2.2 h1
        unfold TM
        rw [hcy, hnew, wn 0 (by decide), wn 1 (by decide), wn 2 (by decide), wn 3 (by decide), wn 4 (by decide), wn 5 (by decide), wn 6 (by decide), wn 7 (by decide), wn 8 (by decide), wn 9 (by decide), wn 10 (by decide), wn 11 (by decide), wn 12 (by decide), wn 13 (by decide), wn 14 (by decide), w11, w12, w13, w14, wq 0 (by decide), wq 1 (by decide), wq 2 (by decide), wq 3 (by decide), wq 4 (by decide), wq 5 (by decide), wq 6 (by decide), wq 7 (by decide), wq 8 (by decide), wq 9 (by decide), wq 10 (by decide)]
        omega
      · obtain ⟨o1, o2⟩ := hB.1.2.2.2.2.1 p (by omega)
        refine ⟨fun q hq => Ok_e (qo _ (by omega)) (o1 q hq), ?_⟩
        unfold TM at o2 ⊢
        have hp3 : p < nP (R σ) := by omega
        rw [hcy, wo p 0 hp3 (by decide), wo p 1 hp3 (by decide), wo p 2 hp3 (by decide), wo p 3 hp3 (by decide), wo p 4 hp3 (by decide), wo p 5 hp3 (by decide), wo p 6 hp3 (by decide), wo p 7 hp3 (by decide), wo p 8 hp3 (by decide), wo p 9 hp3 (by decide), wo p 10 hp3 (by decide), wo p 11 hp3 (by decide), wo p 12 hp3 (by decide), wo p 13 hp3 (by decide), wo p 14 hp3 (by decide)]
        exact o2
    · intro p hp
      rw [eP] at hp
      by_cases hp2 : p = nP (R σ)
      · subst hp2
        rw [wn 14 (by decide), wn 11 (by decide), wn 12 (by decide), wn 13 (by decide), w11, w12, w13, w14]
        refine ⟨fun q hq => ?_, cn 11 (by decide), cn 12 (by decide), cn 13 (by decide), cn14⟩
        rw [wn q (by omega), wq q hq, cn q (by omega)]
        unfold vP
        rw [if_pos hq]
      · have hp3 : p < nP (R σ) := by omega
        obtain ⟨o1, o2, o3, o4, o5⟩ := hB.2.2.2.2.2.1 p hp3
        rw [wo p 14 hp3 (by decide), wo p 11 hp3 (by decide), wo p 12 hp3 (by decide), wo p 13 hp3 (by decide), co _ (by omega), co _ (by omega), co _ (by omega), co _ (by omega)]
        refine ⟨fun q hq => ?_, o2, o3, o4, o5⟩
        rw [co _ (by omega), wo p q hp3 (by omega)]
        exact o1 q hq
  · have hP : nP (R σ) = 8 := by omega
    refine pm_ro hI (v := -2) (cl_of (D_RailPasses_sell_0 _ _ _ σ) rfl ?_) (cl_of (D_Ref_sell_0 _ _ _ σ) rfl ?_)
    · simp (disch := omega) only [lt_nI, s_isLaw, s_isDay, y_isLawThere hB hl, h1, e1, e2, i_0, if_false, thI_RI, if_true, s_isFull TB9 σ (c_nP hB), hP]
    · simp (disch := omega) only [lt_nI, x_isLaw, x_isDay, x_hasLaw hB.1 hl, h1, e1, e2, i_0, if_false, thI_RI, if_true, r_nP hB.1, hP]
end
