/-! train -/
theorem lt9 {q : Nat} (h : q < 9) : q = 0 ∨ q = 1 ∨ q = 2 ∨ q = 3 ∨ q = 4 ∨ q = 5 ∨ q = 6 ∨ q = 7 ∨ q = 8 := by omega
section
variable {sc : rp_Sc} {σ μ r : rp_Mm} {P : Nat → Nat → Prop}
theorem f_ln (h : BI (C σ) r) (f : Fr P σ μ) (h3 : ¬ P 3 3) (h4 : ∀ k, ¬ P 4 k) {l q : Nat} (hl : l < nL r) (hq : q < 5) : CL sc 20 [.ref 3, .int (nI l), .int (nI q)] μ = RI (nI (ln r l q)) μ := by
  have b := b_n h.1
  rw [s_get TB3 ((f _ _ h3).trans (c_nL h)) b.1 hl hq, f _ _ (h4 _)]
  exact congrArg (fun z => RI z μ) (rCa (a := 2) (by simp only [lenC]; omega) (h.2.2.1 l hl q hq))
theorem f_lw (h : BI (C σ) r) (f : Fr P σ μ) (h3 : ¬ P 7 3) (h4 : ∀ k, ¬ P 8 k) {l q : Nat} (hl : l < 3) (hq : q < 12) : CL sc 20 [.ref 7, .int (nI l), .int (nI q)] μ = RI (nI (lw r l q)) μ := by
  rw [s_get TB7 ((f _ _ h3).trans (c_nK h)) (by omega) hl hq, f _ _ (h4 _)]
  exact congrArg (fun z => RI z μ) (rCa (a := 6) (by simp only [lenC]; omega) (h.2.2.2.2.1 l hl q hq))
theorem s_fare (x : Int32) : CL sc 27 [.int x] σ = RI (if inB x (nI 0) (nI 9500) = nI 0 then nI 0 else if nI 500 < x - x / nI 1000 * nI 1000 then nI 0 else nI 1) σ := by
  refine cl_of (D_RailPasses_isFareWithQuota_0 x σ) rfl ?_
  simp only [lt_nI, s_isWithin, thI_RI]
  by_cases h1 : inB x (nI 0) (nI 9500) = nI 0
  · simp only [h1, if_true]
  · by_cases h2 : nI 500 < x - x / nI 1000 * nI 1000
    · simp only [eq_false h1, eq_true h2, if_true, if_false]
    · simp only [eq_false h1, eq_false h2, if_false]
theorem rem_d {a d : Nat} (ha : a < 2 ^ 31) (h0 : 0 < d) (hd : d < 2 ^ 31) : nI a - nI (a / d) * nI d = nI (a % d) := by
  have := pk_rem ha h0 hd
  rw [pk_div ha h0 hd] at this
  exact this
/-- a train's row in the class: line, from, to, departs, takes, fast, fare, quota, overnight -/
def v9 (l a b d k s f q o : Nat) : Nat → Nat := fun x => match x with
  | 0 => l
  | 1 => a
  | 2 => b
  | 3 => d
  | 4 => k
  | 5 => s
  | 6 => f
  | 7 => q
  | _ => o
theorem y_train (hB : BI (C σ) r) {l d k fa u w s : Nat} {fo fs : Int32} (hl : l < nL r) (hd : d ≤ 1439) (hk1 : 1 ≤ k) (hk : k ≤ 900) (hfa : fa ≤ 9500) (hfa2 : fa % 1000 ≤ 500) (hT : nT r < 16) (hfo : (fo = nI 0 ∧ u = 1 ∧ w = 0) ∨ (¬ fo = nI 0 ∧ u = 0 ∧ w = 1)) (hs : (fs = nI 0 ∧ s = 0) ∨ (¬ fs = nI 0 ∧ s = 1)) : ∃ σ1, CL sc 24 [.ref 1, .int (nI l), .int fo, .int (nI d), .int (nI k), .int fs, .int (nI fa)] σ = RI (nI (nT r)) σ1 ∧ RowIn σ σ1 5 5 9 (nT r) 9 (v9 l (ln r l u) (ln r l w) d k s (fa % 1000) (fa / 1000) (if 1440 ≤ d + k then 1 else 0)) := by
  have bn := b_n hB.1
  obtain ⟨n, hn⟩ : ∃ n, n = nT r := ⟨_, rfl⟩
  have hz := c_nT hB
  rw [← hn] at hz hT ⊢
  obtain ⟨v, hv⟩ : ∃ v, v = v9 l (ln r l u) (ln r l w) d k s (fa % 1000) (fa / 1000) (if 1440 ≤ d + k then 1 else 0) := ⟨_, rfl⟩
  rw [← hv]
  obtain ⟨μ0, a0, h0⟩ := row0 (sc := sc) TB5 v hz hT
  obtain ⟨μ1, a1, h1⟩ := rowS (sc := sc) TB5 h0 hT (show 0 < 9 by decide)
  obtain ⟨μ2, a2, h2⟩ := rowS (sc := sc) TB5 h1 hT (show 1 < 9 by decide)
  obtain ⟨μ3, a3, h3⟩ := rowS (sc := sc) TB5 h2 hT (show 2 < 9 by decide)
  obtain ⟨μ4, a4, h4⟩ := rowS (sc := sc) TB5 h3 hT (show 3 < 9 by decide)
  obtain ⟨μ5, a5, h5⟩ := rowS (sc := sc) TB5 h4 hT (show 4 < 9 by decide)
  obtain ⟨μ6, a6, h6⟩ := rowS (sc := sc) TB5 h5 hT (show 5 < 9 by decide)
  obtain ⟨μ7, a7, h7⟩ := rowS (sc := sc) TB5 h6 hT (show 6 < 9 by decide)
  obtain ⟨μ8, a8, h8⟩ := rowS (sc := sc) TB5 h7 hT (show 7 < 9 by decide)
  obtain ⟨μ9, a9, h9⟩ := rowS (sc := sc) TB5 h8 hT (show 8 < 9 by decide)
  rw [show v 0 = l by rw [hv]; rfl] at a1
  rw [show v 1 = ln r l u by rw [hv]; rfl] at a2
  rw [show v 2 = ln r l w by rw [hv]; rfl] at a3
  rw [show v 3 = d by rw [hv]; rfl] at a4
  rw [show v 4 = k by rw [hv]; rfl] at a5
  rw [show v 5 = s by rw [hv]; rfl] at a6
  rw [show v 6 = fa % 1000 by rw [hv]; rfl] at a7
  rw [show v 7 = fa / 1000 by rw [hv]; rfl] at a8
  rw [show v 8 = if 1440 ≤ d + k then 1 else 0 by rw [hv]; rfl] at a9
  have g1 := f_ln (sc := sc) (q := u) hB h1.1 (by omega) (fun _ => by omega) hl (by omega)
  have g2 := f_ln (sc := sc) (q := w) hB h2.1 (by omega) (fun _ => by omega) hl (by omega)
  have hbs : ∀ μ, CL sc 17 [.int fs] μ = RI (nI s) μ := fun μ => by
    rw [s_bit]
    rcases hs with ⟨rfl, rfl⟩ | ⟨hq, rfl⟩
    · rfl
    · rw [if_neg (show ¬ fs = 0 from hq)]; rfl
  have hb1 : ∀ (μ : rp_Mm), CL sc 17 [.int (nI (if 1440 ≤ d + k then 1 else 0))] μ = RI (nI (if 1440 ≤ d + k then 1 else 0)) μ := fun μ => by
    rw [s_bit]
    split <;> rfl
  have e264 : ∀ x1 x2 x3 x4 x5 x6, EV sc (24, 0, 0, 264, [.ref 1, .int x1, .int x2, .int x3, .int x4, .int x5, .int x6, .int (nI n)], [.int (nI (if 1440 ≤ d + k then 1 else 0)), .int (nI 8), .int (nI n), .ref 5], (rp_L0, μ8)) = RI (nI n) μ9 := by
    intro x1 x2 x3 x4 x5 x6
    refine ev_of (D_RailPasses_train_264 _ _ _ _ _ _ _ _ _ _ μ8) ?_
    simp only [hb1, thI_RI, a9, thV_RV]
  have e145 : EV sc (24, 0, 0, 145, [.ref 1, .int (nI l), .int fo, .int (nI d), .int (nI k), .int fs, .int (nI fa), .int (nI n)], [.int (nI w), .int (nI l), .ref 3, .int (nI 2), .int (nI n), .ref 5], (rp_L0, μ2)) = RI (nI n) μ9 := by
    refine ev_of (D_RailPasses_train_145 _ _ _ _ _ _ _ _ _ _ _ μ2) ?_
    simp (disch := omega) only [lt_nI, g2, thI_RI, a3, thV_RV, a4, a5, hbs, a6, pk_div, rem_d, a7, a8, nI_add, nI_ltI]
    by_cases h : d + k < 1440
    · have e := e264 (nI l) fo (nI d) (nI k) fs (nI fa)
      rw [if_neg (show ¬ 1440 ≤ d + k by omega)] at e
      simp only [eq_true h, if_true]
      exact e
    · have e := e264 (nI l) fo (nI d) (nI k) fs (nI fa)
      rw [if_pos (show 1440 ≤ d + k by omega)] at e
      simp only [eq_false h, if_false]
      exact e
  have e112 : EV sc (24, 0, 0, 112, [.ref 1, .int (nI l), .int fo, .int (nI d), .int (nI k), .int fs, .int (nI fa), .int (nI n)], [.int (nI u), .int (nI l), .ref 3, .int (nI 1), .int (nI n), .ref 5], (rp_L0, μ1)) = RI (nI n) μ9 := by
    refine ev_of (D_RailPasses_train_112 _ _ _ _ _ _ _ _ _ _ _ μ1) ?_
    simp (disch := omega) only [lt_nI, g1, thI_RI, a2, thV_RV]
    rcases hfo with ⟨hq, rfl, rfl⟩ | ⟨hq, rfl, rfl⟩
    · simp only [eq_true hq, if_true]; exact e145
    · simp only [eq_false hq, if_false]; exact e145
  refine ⟨μ9, cl_of (D_RailPasses_train_0 _ _ _ _ _ _ σ) rfl ?_, h9⟩
  simp (disch := omega) only [lt_nI, h_ln hB, hsB_t hl, s_isMinute, s_isWithin, inB_n, s_fare, pk_rem, nI_ltI, show ¬ 500 < fa % 1000 by omega, thI_RI, i_0, i_1, if_false, if_true, s_isFull TB5 σ hz, show ¬ n = 16 by omega, a0, a1, thV_RV]
  rcases hfo with ⟨hq, rfl, rfl⟩ | ⟨hq, rfl, rfl⟩
  · simp only [eq_true hq, if_true]; exact e112
  · simp only [eq_false hq, if_false]; exact e112
theorem x_train (h : RB (R σ)) {l d k fa u w s : Nat} {fo fs : Int32} (hl : l < nL (R σ)) (hd : d ≤ 1439) (hk1 : 1 ≤ k) (hk : k ≤ 900) (hfa : fa ≤ 9500) (hfa2 : fa % 1000 ≤ 500) (hT : nT (R σ) < 16) (hfo : (fo = nI 0 ∧ u = 1 ∧ w = 0) ∨ (¬ fo = nI 0 ∧ u = 0 ∧ w = 1)) (hs : (fs = nI 0 ∧ s = 0) ∨ (¬ fs = nI 0 ∧ s = 1)) : ∃ σ1, CL sc 152 [.ref 48, .int (nI l), .int fo, .int (nI d), .int (nI k), .int fs, .int (nI fa)] σ = RI (nI (nT (R σ))) σ1 ∧ Fr (fun a k => (a = 49 ∧ k = 1) ∨ (a = 51 ∧ 8 * nT (R σ) ≤ k)) σ σ1 ∧ σ1 49 1 = nI (nT (R σ) + 1) ∧ ∀ q, q < 8 → σ1 51 (8 * nT (R σ) + q) = nI (v9 l (ln (R σ) l u) (ln (R σ) l w) d k s (fa % 1000) (fa / 1000) 0 q) := by
  have bn := b_n h
  obtain ⟨n, hn⟩ : ∃ n, n = nT (R σ) := ⟨_, rfl⟩
  have hz := r_nT h
  rw [← hn] at hz hT ⊢
  have g1 := r_ln h (q := u) hl (by omega)
  have g2 := r_ln h (q := w) hl (by omega)
  obtain ⟨μ5, em⟩ : ∃ x, x = rp_wr (rp_wr (rp_wr (rp_wr (rp_wr σ 51 (8 * n) (nI l)) 51 (8 * n + 1) (nI (ln (R σ) l u))) 51 (8 * n + 2) (nI (ln (R σ) l w))) 51 (8 * n + 3) (nI d)) 51 (8 * n + 4) (nI k) := ⟨_, rfl⟩
  have z5 : μ5 49 1 = nI n := by rw [em]; simp (disch := omega) only [wr_n2]; exact hz
  have e203 : ∀ x1 x2 x3 x4 x5 x7, EV sc (152, 0, 0, 203, [.ref 48, .int x1, .int x2, .int x3, .int x4, .int x5, .int (nI fa), .int x7, .int (nI (8 * n))], [.int (nI s), .int (nI (8 * n + 5)), .ref 51], (rp_L0, μ5)) = RI (nI n) (rp_wr (rp_wr (rp_wr (rp_wr μ5 51 (8 * n + 5) (nI s)) 51 (8 * n + 6) (nI (fa % 1000))) 51 (8 * n + 7) (nI (fa / 1000))) 49 1 (nI (n + 1))) := by
    intro x1 x2 x3 x4 x5 x7
    refine ev_of (D_Ref_train_203 _ _ _ _ _ _ _ _ _ _ μ5) ?_
    simp (disch := omega) only [lt_nI, nI_add, nI_clamp, nI_leI, nI_ltI, nI_eq, ixT, cond_true, Nat.reduceEqDiff, Nat.reduceLeDiff, reduceIte, pk_div, rem_d, wr_n2, z5, wr_eq, pk_sub, Nat.add_sub_cancel]
  have e161 : ∀ x2 x7, EV sc (152, 0, 0, 161, [.ref 48, .int (nI l), .int x2, .int (nI d), .int (nI k), .int fs, .int (nI fa), .int x7, .int (nI (8 * n))], [.int (nI w), .int (nI (5 * l)), .ref 50, .int (nI (8 * n + 2)), .ref 51], (rp_L0, rp_wr (rp_wr σ 51 (8 * n) (nI l)) 51 (8 * n + 1) (nI (ln (R σ) l u)))) = RI (nI n) (rp_wr (rp_wr (rp_wr (rp_wr μ5 51 (8 * n + 5) (nI s)) 51 (8 * n + 6) (nI (fa % 1000))) 51 (8 * n + 7) (nI (fa / 1000))) 49 1 (nI (n + 1))) := by
    intro x2 x7
    refine ev_of (D_Ref_train_161 _ _ _ _ _ _ _ _ _ _ _ _) ?_
    simp (disch := omega) only [lt_nI, nI_add, pk_mul, nI_clamp, nI_leI, nI_ltI, nI_eq, ixT, cond_true, Nat.reduceEqDiff, Nat.reduceLeDiff, reduceIte, wr_n2, g2]
    rw [← em]
    rcases hs with ⟨hq, rfl⟩ | ⟨hq, rfl⟩
    · simp only [eq_true hq, if_true]; exact e203 _ _ _ _ _ _
    · simp only [eq_false hq, if_false]; exact e203 _ _ _ _ _ _
  have e134 : ∀ x7, EV sc (152, 0, 0, 134, [.ref 48, .int (nI l), .int fo, .int (nI d), .int (nI k), .int fs, .int (nI fa), .int x7, .int (nI (8 * n))], [.int (nI u), .int (nI (5 * l)), .ref 50, .int (nI (8 * n + 1)), .ref 51], (rp_L0, rp_wr σ 51 (8 * n) (nI l))) = RI (nI n) (rp_wr (rp_wr (rp_wr (rp_wr μ5 51 (8 * n + 5) (nI s)) 51 (8 * n + 6) (nI (fa % 1000))) 51 (8 * n + 7) (nI (fa / 1000))) 49 1 (nI (n + 1))) := by
    intro x7
    refine ev_of (D_Ref_train_134 _ _ _ _ _ _ _ _ _ _ _ _) ?_
    simp (disch := omega) only [lt_nI, nI_add, pk_mul, nI_clamp, nI_leI, nI_ltI, nI_eq, ixT, cond_true, Nat.reduceEqDiff, Nat.reduceLeDiff, reduceIte, wr_n2, g1]
    rcases hfo with ⟨hq, rfl, rfl⟩ | ⟨hq, rfl, rfl⟩
    · simp only [eq_true hq, if_true]; exact e161 _ _
    · simp only [eq_false hq, if_false]; exact e161 _ _
  have e44 : EV sc (152, 0, 0, 44, [.ref 48, .int (nI l), .int fo, .int (nI d), .int (nI k), .int fs, .int (nI fa), rp_U, rp_U], [.int (nI 1)], (rp_L0, σ)) = RI (nI n) (rp_wr (rp_wr (rp_wr (rp_wr μ5 51 (8 * n + 5) (nI s)) 51 (8 * n + 6) (nI (fa % 1000))) 51 (8 * n + 7) (nI (fa / 1000))) 49 1 (nI (n + 1))) := by
    refine ev_of (D_Ref_train_44 _ _ _ _ _ _ _ _) ?_
    simp (disch := omega) only [lt_nI, nI_add, pk_mul, nI_clamp, nI_leI, nI_ltI, nI_eq, ixT, cond_true, Nat.reduceEqDiff, Nat.reduceLeDiff, reduceIte, s_in, inB_n, thI_RI, pk_rem, hfa2, hz, show ¬ n = 16 by omega]
    rcases hfo with ⟨hq, rfl, rfl⟩ | ⟨hq, rfl, rfl⟩
    · simp only [eq_true hq, if_true]; exact e134 _
    · simp only [eq_false hq, if_false]; exact e134 _
  refine ⟨(rp_wr (rp_wr (rp_wr (rp_wr μ5 51 (8 * n + 5) (nI s)) 51 (8 * n + 6) (nI (fa % 1000))) 51 (8 * n + 7) (nI (fa / 1000))) 49 1 (nI (n + 1))), cl_of (D_Ref_train_0 _ _ _ _ _ _ σ) rfl ?_, ?_, wr_eq, ?_⟩
  · have r0 := r_nL h
    simp (disch := omega) only [lt_nI, nI_add, pk_mul, nI_clamp, nI_leI, nI_ltI, nI_eq, ixT, cond_true, Nat.reduceEqDiff, Nat.reduceLeDiff, reduceIte, r0, inB_hs, s_in, hsB_t hl, inB_n, thI_RI, e44]
  · refine Fr_wr (Fr_wr (Fr_wr (Fr_wr ?_ (Or.inr ⟨rfl, by omega⟩)) (Or.inr ⟨rfl, by omega⟩)) (Or.inr ⟨rfl, by omega⟩)) (Or.inl ⟨rfl, rfl⟩)
    rw [em]
    refine Fr_wr (Fr_wr (Fr_wr (Fr_wr (Fr_wr Fr_rfl ?_) ?_) ?_) ?_) ?_
    all_goals exact Or.inr ⟨rfl, by omega⟩
  · intro q hq
    have : q = 0 ∨ q = 1 ∨ q = 2 ∨ q = 3 ∨ q = 4 ∨ q = 5 ∨ q = 6 ∨ q = 7 := by omega
    rw [em]
    rcases this with rfl | rfl | rfl | rfl | rfl | rfl | rfl | rfl <;> simp (disch := omega) only [wr_n2, wr_eq, wr_nk, Nat.add_zero] <;> rfl
theorem x_train43 (x1 x2 x3 x4 x5 x6 : Int32) : EV sc (152, 0, 0, 43, [.ref 48, .int x1, .int x2, .int x3, .int x4, .int x5, .int x6, rp_U, rp_U], [], (rp_L0, σ)) = RI (-1) σ := by
  refine ev_of (D_Ref_train_43 _ _ _ _ _ _ σ) ?_
  refine ev_of (D_Ref_train_44 _ _ _ _ _ _ _ σ) ?_
  rfl
theorem p_train (hI : Inv σ) (l fo d k fs f : Int32) : PM sc 24 [.ref 1, .int l, .int fo, .int d, .int k, .int fs, .int f] 152 [.ref 48, .int l, .int fo, .int d, .int k, .int fs, .int f] σ := by
  have hB := hI.1
  have bn := b_n hB.1
  have r0 := r_nL hB.1
  rcases hsB_c l (n := nL (R σ)) (by omega) with e1 | ⟨l, hl, rfl, e1⟩
  · refine pm_ro hI (v := -1) (cl_of (D_RailPasses_train_0 _ _ _ _ _ _ σ) rfl ?_) (cl_of (D_Ref_train_0 _ _ _ _ _ _ σ) rfl ?_)
    · simp only [lt_nI, h_ln hB, e1, thI_RI, if_true]
    · simp (disch := omega) only [lt_nI, s_in, r0, inB_hs, e1, thI_RI, if_true, x_train43]
  rcases inB_c d (a := 0) (b := 1439) (by decide) (by decide) with e2 | ⟨d, -, hd, rfl, e2⟩
  · refine pm_ro hI (v := -1) (cl_of (D_RailPasses_train_0 _ _ _ _ _ _ σ) rfl ?_) (cl_of (D_Ref_train_0 _ _ _ _ _ _ σ) rfl ?_)
    · simp only [lt_nI, h_ln hB, s_isMinute, e1, e2, i_0, thI_RI, if_true, if_false]
    · simp (disch := omega) only [lt_nI, s_in, r0, inB_hs, e1, e2, i_0, thI_RI, if_true, if_false, x_train43]
  rcases inB_c k (a := 1) (b := 900) (by decide) (by decide) with e3 | ⟨k, hk1, hk, rfl, e3⟩
  · refine pm_ro hI (v := -1) (cl_of (D_RailPasses_train_0 _ _ _ _ _ _ σ) rfl ?_) (cl_of (D_Ref_train_0 _ _ _ _ _ _ σ) rfl ?_)
    · simp only [lt_nI, h_ln hB, s_isMinute, s_isWithin, e1, e2, e3, i_0, thI_RI, if_true, if_false]
    · simp (disch := omega) only [lt_nI, s_in, r0, inB_hs, e1, e2, e3, i_0, thI_RI, if_true, if_false, x_train43]
  have B4 : ∀ (v : Int32), CL sc 27 [.int f] σ = RI (nI 0) σ → PM sc 24 [.ref 1, .int (nI l), .int fo, .int (nI d), .int (nI k), .int fs, .int f] 152 [.ref 48, .int (nI l), .int fo, .int (nI d), .int (nI k), .int fs, .int f] σ ∨ ¬ (inB f (nI 0) (nI 9999) = nI 0 ∨ ¬ (f - f / nI 1000 * nI 1000 ≤ nI 500)) := by
    intro v he
    by_cases hc : inB f (nI 0) (nI 9999) = nI 0 ∨ ¬ (f - f / nI 1000 * nI 1000 ≤ nI 500)
    · refine Or.inl (pm_ro hI (v := -1) (cl_of (D_RailPasses_train_0 _ _ _ _ _ _ σ) rfl ?_) (cl_of (D_Ref_train_0 _ _ _ _ _ _ σ) rfl ?_))
      · simp only [lt_nI, h_ln hB, s_isMinute, s_isWithin, e1, e2, e3, he, i_0, thI_RI, if_true, if_false]
      · have e44 : EV sc (152, 0, 0, 44, [.ref 48, .int (nI l), .int fo, .int (nI d), .int (nI k), .int fs, .int f, rp_U, rp_U], [.int (nI 1)], (rp_L0, σ)) = RI (-1) σ := by
          refine ev_of (D_Ref_train_44 _ _ _ _ _ _ _ σ) ?_
          simp only [lt_nI, s_in, i_0, if_false, thI_RI]
          by_cases h1 : inB f (nI 0) (nI 9999) = nI 0
          · simp only [eq_true h1, if_true]
          · rcases hc with hc | hc
            · exact absurd hc h1
            · simp only [eq_false h1, eq_false hc, if_false]
        simp (disch := omega) only [lt_nI, s_in, r0, inB_hs, e1, e2, e3, i_0, thI_RI, if_true, if_false, e44]
    · exact Or.inr hc
  rcases inB_c f (a := 0) (b := 9999) (by decide) (by decide) with e4 | ⟨f, -, hf, rfl, e4⟩
  · have h5 : inB f (nI 0) (nI 9500) = nI 0 := by
      rcases inB_c f (a := 0) (b := 9500) (by decide) (by decide) with e5 | ⟨g, -, hg, rfl, e5⟩
      · exact e5
      · rw [inB_n (by omega) (by omega) (by decide)] at e4
        exact absurd e4 (by decide)
    rcases B4 0 (by rw [s_fare, if_pos h5]) with h | h
    · exact h
    · exact absurd (Or.inl e4) h
  by_cases hq : f % 1000 ≤ 500
  · have hf2 : f ≤ 9500 := by omega
    by_cases hT : nT (R σ) < 16
    · obtain ⟨u, w, hfo⟩ : ∃ u w : Nat, (fo = nI 0 ∧ u = 1 ∧ w = 0) ∨ (¬ fo = nI 0 ∧ u = 0 ∧ w = 1) := by
        by_cases h : fo = nI 0
        · exact ⟨1, 0, Or.inl ⟨h, rfl, rfl⟩⟩
        · exact ⟨0, 1, Or.inr ⟨h, rfl, rfl⟩⟩
      obtain ⟨s, hs⟩ : ∃ s : Nat, (fs = nI 0 ∧ s = 0) ∨ (¬ fs = nI 0 ∧ s = 1) := by
        by_cases h : fs = nI 0
        · exact ⟨0, Or.inl ⟨h, rfl⟩⟩
        · exact ⟨1, Or.inr ⟨h, rfl⟩⟩
      obtain ⟨σ1, c1, c2, c3, c4, -⟩ := y_train (sc := sc) hB hl hd hk1 hk hf2 hq hT hfo hs
      have er : R σ1 = R σ := R_fr c2 (fun a k ha => by omega)
      obtain ⟨σ2, d1, d2, d3, d4⟩ := x_train (sc := sc) (σ := σ1) (by rw [er]; exact hB.1) (by rw [er]; exact hl) hd hk1 hk hf2 hq (by rw [er]; exact hT) hfo hs
      rw [er] at d1 d2 d3 d4
      have bl := b_ln hB.1 hl
      have fr : Fr (fun a k => (a = 5 ∧ k = 3) ∨ (a = 6 ∧ 9 * nT (R σ) ≤ k) ∨ (a = 49 ∧ k = 1) ∨ (a = 51 ∧ 8 * nT (R σ) ≤ k)) σ σ2 := Fr_tr (Fr_mo c2 (fun _ _ => by omega)) (Fr_mo d2 (fun _ _ => by omega))
      have ha : ∀ a, a < 8 → a ≠ 0 → a ≠ 2 → R σ2 a = R σ a := fun a h8 h0 h6 => R_fa fr (fun _ => by omega)
      have r0 : ∀ k, k ≠ 1 → R σ2 0 k = R σ 0 k := fun k hk => R_fk fr (by omega)
      have rj : R σ2 0 1 = nI (nT (R σ) + 1) := by rw [R_at (by decide)]; exact d3
      have eT : nT (R σ2) = nT (R σ) + 1 := N1_n rj (by omega)
      have eL : nL (R σ2) = nL (R σ) := N1_e (r0 0 (by decide))
      have lu : ln (R σ) l u ≤ 9 ∧ ln (R σ) l w ≤ 9 := by
        rcases hfo with ⟨-, rfl, rfl⟩ | ⟨-, rfl, rfl⟩ <;> exact ⟨by omega, by omega⟩
      have hs1 : s ≤ 1 := by rcases hs with ⟨-, rfl⟩ | ⟨-, rfl⟩ <;> omega
      have hv : ∀ q, q < 8 → v9 l (ln (R σ) l u) (ln (R σ) l w) d k s (f % 1000) (f / 1000) 0 q < 2 ^ 31 := fun q hq => by
        have : q = 0 ∨ q = 1 ∨ q = 2 ∨ q = 3 ∨ q = 4 ∨ q = 5 ∨ q = 6 ∨ q = 7 := by omega
        rcases this with rfl | rfl | rfl | rfl | rfl | rfl | rfl | rfl <;> simp only [v9] <;> omega
      have qn : ∀ q, q < 8 → R σ2 2 (8 * nT (R σ) + q) = nI (v9 l (ln (R σ) l u) (ln (R σ) l w) d k s (f % 1000) (f / 1000) 0 q) := fun q hq => by rw [R_at (by simp only [lenR]; omega)]; exact d4 q hq
      have qo : ∀ k, k < 8 * nT (R σ) → R σ2 2 k = R σ 2 k := fun k hk => R_fk fr (by omega)
      have cn : ∀ q, q < 9 → C σ2 4 (9 * nT (R σ) + q) = nI (v9 l (ln (R σ) l u) (ln (R σ) l w) d k s (f % 1000) (f / 1000) (if 1440 ≤ d + k then 1 else 0) q) := fun q hq => by rw [C_ar (by simp only [lenC]; omega), d2 _ _ (by omega)]; exact c4 q hq
      have co : ∀ k, k < 9 * nT (R σ) → C σ2 4 k = C σ 4 k := fun k hk => C_fk fr (by omega)
      have wn : ∀ q, q < 8 → tr (R σ2) (nT (R σ)) q = v9 l (ln (R σ) l u) (ln (R σ) l w) d k s (f % 1000) (f / 1000) 0 q := fun q hq => N1_n (qn q hq) (hv q hq)
      have wo : ∀ w q, w < nT (R σ) → q < 8 → tr (R σ2) w q = tr (R σ) w q := fun w q hw hq => N1_e (qo _ (by omega))
      have hln := ln_t (ha 1 (by decide) (by decide) (by decide))
      have hps := ps_t (ha 4 (by decide) (by decide) (by decide))
      have hrd := rd_t (ha 5 (by decide) (by decide) (by decide))
      have w3 : tr (R σ2) (nT (R σ)) 3 = d := wn 3 (by decide)
      have w4 : tr (R σ2) (nT (R σ)) 4 = k := wn 4 (by decide)
      refine ⟨_, σ1, σ2, c1, d1, Inv_m (Fr_mo fr (fun _ _ => by unfold Mu; omega)) hI (bi_train (m := nT (R σ) + 1) hB (by omega) (by omega) ha r0 rj (fun a h8 h0 h6 => C_fa fr (fun _ => by omega)) ?_ ?_ ?_ ?_) eL (ha 1 (by decide) (by decide) (by decide))⟩
      · rw [C_at (by decide), d2 _ _ (by omega)]; exact c3
      · intro i hi
        have br := b_rd hB.1 hi
        unfold cdR payR cdN paysN boatN
        rw [hln, hps, hrd, wo _ 3 br.2.1 (by decide), wo _ 4 br.2.1 (by decide), wo _ 5 br.2.1 (by decide), wo _ 6 br.2.1 (by decide), wo _ 0 br.2.1 (by decide)]
        exact ⟨rfl, rfl⟩
      · intro t ht
        rw [eT] at ht
        rw [eL]
        by_cases ht2 : t = nT (R σ)
        · subst ht2
          refine ⟨fun q hq => Ok_n (qn q hq) (hv q hq), ?_⟩
          rw [wn 0 (by decide), wn 1 (by decide), wn 2 (by decide), w3, w4, wn 5 (by decide), wn 6 (by decide), wn 7 (by decide)]
          simp only [v9]
          omega
        · obtain ⟨o1, o2⟩ := hB.1.2.2.1 t (by omega)
          refine ⟨fun q hq => Ok_e (qo _ (by omega)) (o1 q hq), ?_⟩
          rw [wo t 0 (by omega) (by decide), wo t 1 (by omega) (by decide), wo t 2 (by omega) (by decide), wo t 3 (by omega) (by decide), wo t 4 (by omega) (by decide), wo t 5 (by omega) (by decide), wo t 6 (by omega) (by decide), wo t 7 (by omega) (by decide)]
          exact o2
      · intro t ht
        rw [eT] at ht
        by_cases ht2 : t = nT (R σ)
        · subst ht2
          refine ⟨fun q hq => ?_, ?_⟩
          · rw [wn q hq, cn q (by omega)]
            have : q = 0 ∨ q = 1 ∨ q = 2 ∨ q = 3 ∨ q = 4 ∨ q = 5 ∨ q = 6 ∨ q = 7 := by omega
            rcases this with rfl | rfl | rfl | rfl | rfl | rfl | rfl | rfl <;> rfl
          · rw [cn 8 (by decide)]
            unfold ov
            rw [w3, w4]
            rfl
        · obtain ⟨o1, o2⟩ := hB.2.2.2.1 t (by omega)
          refine ⟨fun q hq => ?_, ?_⟩
          · rw [co _ (by omega), wo t q (by omega) hq]; exact o1 q hq
          · rw [co _ (by omega)]
            unfold ov
            rw [wo t 3 (by omega) (by decide), wo t 4 (by omega) (by decide)]
            exact o2
    · have hT : nT (R σ) = 16 := by omega
      refine pm_ro hI (v := -2) (cl_of (D_RailPasses_train_0 _ _ _ _ _ _ σ) rfl ?_) (cl_of (D_Ref_train_0 _ _ _ _ _ _ σ) rfl ?_)
      · simp (disch := omega) only [lt_nI, h_ln hB, s_isMinute, s_isWithin, e1, e2, e3, inB_n, s_fare, pk_rem, nI_ltI, show ¬ 500 < f % 1000 by omega, i_0, thI_RI, if_true, if_false, s_isFull TB5 σ (c_nT hB), hT]
      · have e44 : EV sc (152, 0, 0, 44, [.ref 48, .int (nI l), .int fo, .int (nI d), .int (nI k), .int fs, .int (nI f), rp_U, rp_U], [.int (nI 1)], (rp_L0, σ)) = RI (-2) σ := by
          refine ev_of (D_Ref_train_44 _ _ _ _ _ _ _ σ) ?_
          simp (disch := omega) only [lt_nI, s_in, inB_n, i_0, if_false, if_true, thI_RI, pk_rem, nI_leI, hq, r_nT hB.1, hT]
        simp (disch := omega) only [lt_nI, s_in, r_nL hB.1, inB_hs, e1, e2, e3, i_0, thI_RI, if_true, if_false, e44]
  · have he : CL sc 27 [.int (nI f)] σ = RI (nI 0) σ := by
      rw [s_fare]
      simp (disch := omega) only [pk_rem, nI_ltI, show 500 < f % 1000 by omega, if_true]
      (repeat' split) <;> first | rfl | (exfalso; omega) | (simp_all; done)
    rcases B4 0 he with h | h
    · exact h
    · refine absurd (Or.inr ?_) h
      simp (disch := omega) only [pk_rem, nI_leI]
      exact hq
end
