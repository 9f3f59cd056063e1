/-! all that ties the two sides, and the calls that change nothing -/
/-- the tape -/
def TP (σ : rp_Mm) : Prop := ∃ n, n ≤ 300 ∧ σ 32 1 = nI n ∧ σ 48 9 = nI n ∧ ∀ k, k < n → ∃ b, b < 256 ∧ σ 33 k = nI b ∧ σ 57 k = nI b
/-- the rows of the proof -/
def RW (σ : rp_Mm) : Prop := ∃ n, n ≤ 200 ∧ σ 43 3 = nI n ∧ σ 48 25 = nI n ∧ ∀ k, k < 3 * n → σ 44 k = σ 62 k
def KP (σ : rp_Mm) : Prop := (σ 1 2 = nI 0 ∧ σ 48 30 = nI 0) ∨ (σ 1 2 = nI 1 ∧ σ 48 30 = nI 1 ∧ BI (Ck σ) (Rk σ))
/-- a line's weight; the best ways -/
def wl (r : rp_Mm) (l : Nat) : Nat := 16384 * ln r l 3 + 2 ^ l
def feas (r : rp_Mm) (φ : Nat → Nat) : Prop := ∀ l, l < nL r → φ (ln r l 1) ≤ φ (ln r l 0) + wl r l ∧ φ (ln r l 0) ≤ φ (ln r l 1) + wl r l
def KK (r : rp_Mm) (K : Nat → Nat → Nat) : Prop :=
  (∀ a, a < 10 → K a a = 0) ∧ (∀ a b, a < 10 → b < 10 → K a b ≤ 536870912) ∧
  (∀ l, l < nL r → K (ln r l 0) (ln r l 1) ≤ wl r l ∧ K (ln r l 1) (ln r l 0) ≤ wl r l) ∧
  (∀ a b c, a < 10 → b < 10 → c < 10 → K a b ≤ K a c + K c b) ∧
  (∀ φ : Nat → Nat, (∀ v, v < 10 → φ v ≤ 536870912) → feas r φ → ∀ a b, a < 10 → b < 10 → φ b ≤ φ a + K a b)
def WY (σ : rp_Mm) : Prop := ∃ K, (∀ a b, a < 10 → b < 10 → σ 36 (10 * a + b) = nI (K a b)) ∧ KK (R σ) K
def Inv (σ : rp_Mm) : Prop := BI (C σ) (R σ) ∧ TP σ ∧ RW σ ∧ KP σ ∧ WY σ
/-- what may be anything between two calls -/
def Sc (a k : Nat) : Prop := (a = 32 ∧ k ≠ 1) ∨ a = 34 ∨ (37 ≤ a ∧ a ≤ 41) ∨ (45 ≤ a ∧ a ≤ 47) ∨ (a = 48 ∧ k ≠ 9 ∧ k ≠ 25 ∧ k ≠ 30) ∨ (58 ≤ a ∧ a ≤ 61) ∨ (63 ≤ a ∧ a ≤ 66) ∨ (a = 52 ∧ 36 ≤ k)
theorem R_sc {σ σ' : rp_Mm} (h : Fr Sc σ σ') : R σ' = R σ := by
  funext a k
  unfold R
  split
  next hk =>
    refine h _ _ ?_
    unfold lenR at hk
    unfold Sc
    split at hk <;> omega
  next => rfl
theorem C_sc {σ σ' : rp_Mm} (h : Fr Sc σ σ') : C σ' = C σ := C_fr h (fun a k ha => by unfold Sc; omega)
theorem Rk_fr {P : Nat → Nat → Prop} {σ σ' : rp_Mm} (h : Fr P σ σ') (hp : ∀ k, ¬ P 67 k) : Rk σ' = Rk σ := by
  funext a k
  unfold Rk
  split
  · exact h _ _ (hp _)
  · rfl
theorem Ck_fr {P : Nat → Nat → Prop} {σ σ' : rp_Mm} (h : Fr P σ σ') (hp : ∀ a k, a < 15 → ¬ P (17 + a) k) : Ck σ' = Ck σ := by
  funext a k
  unfold Ck
  cases hc : rlC a k with
  | false => rfl
  | true =>
    refine h _ _ (hp a k ?_)
    unfold rlC lenC at hc
    simp at hc
    split at hc <;> omega
theorem TP_fr {P : Nat → Nat → Prop} {σ σ' : rp_Mm} (h : Fr P σ σ') (h1 : ¬ P 32 1) (h2 : ¬ P 48 9) (h3 : ∀ k, ¬ P 33 k) (h4 : ∀ k, ¬ P 57 k) (hI : TP σ) : TP σ' := by
  obtain ⟨n, a, b, c, d⟩ := hI
  refine ⟨n, a, by rw [h _ _ h1]; exact b, by rw [h _ _ h2]; exact c, fun k hk => ?_⟩
  obtain ⟨z, q1, q2, q3⟩ := d k hk
  exact ⟨z, q1, by rw [h _ _ (h3 k)]; exact q2, by rw [h _ _ (h4 k)]; exact q3⟩
theorem RW_fr {P : Nat → Nat → Prop} {σ σ' : rp_Mm} (h : Fr P σ σ') (h1 : ¬ P 43 3) (h2 : ¬ P 48 25) (h3 : ∀ k, ¬ P 44 k) (h4 : ∀ k, ¬ P 62 k) (hI : RW σ) : RW σ' := by
  obtain ⟨n, a, b, c, d⟩ := hI
  refine ⟨n, a, by rw [h _ _ h1]; exact b, by rw [h _ _ h2]; exact c, fun k hk => ?_⟩
  rw [h _ _ (h3 k), h _ _ (h4 k)]
  exact d k hk
theorem KP_fr {P : Nat → Nat → Prop} {σ σ' : rp_Mm} (h : Fr P σ σ') (h1 : ¬ P 1 2) (h2 : ¬ P 48 30) (h3 : ∀ a k, a < 15 → ¬ P (17 + a) k) (h4 : ∀ k, ¬ P 67 k) (hI : KP σ) : KP σ' := by
  unfold KP at hI ⊢
  rw [h _ _ h1, h _ _ h2, Ck_fr h h3, Rk_fr h h4]
  exact hI
/-- the lines alone -/
theorem KK_r {r r' : rp_Mm} {K : Nat → Nat → Nat} (hn : nL r' = nL r) (hl : ∀ l q, l < nL r → q < 5 → ln r' l q = ln r l q) (h : KK r K) : KK r' K := by
  have hw : ∀ l, l < nL r → wl r' l = wl r l := fun l hlt => by unfold wl; rw [hl l 3 hlt (by decide)]
  obtain ⟨a, b, c, d, e⟩ := h
  refine ⟨a, b, fun l hlt => ?_, d, fun φ hφ hf => e φ hφ fun l hlt => ?_⟩
  · rw [hn] at hlt
    rw [hw l hlt, hl l 0 hlt (by decide), hl l 1 hlt (by decide)]
    exact c l hlt
  · have := hf l (by rw [hn]; exact hlt)
    rw [hw l hlt, hl l 0 hlt (by decide), hl l 1 hlt (by decide)] at this
    exact this
theorem WY_fr {P : Nat → Nat → Prop} {σ σ' : rp_Mm} (h : Fr P σ σ') (h1 : ∀ k, ¬ P 36 k) (hn : nL (R σ') = nL (R σ)) (hl : ∀ l q, l < nL (R σ) → q < 5 → ln (R σ') l q = ln (R σ) l q) (hI : WY σ) : WY σ' := by
  obtain ⟨K, a, b⟩ := hI
  exact ⟨K, fun x y hx hy => by rw [h _ _ (h1 _)]; exact a x y hx hy, KK_r hn hl b⟩
theorem Inv_sc {σ σ' : rp_Mm} (h : Fr Sc σ σ') (hI : Inv σ) : Inv σ' := by
  obtain ⟨a, b, c, d, e⟩ := hI
  have er := R_sc h
  refine ⟨by rw [C_sc h, er]; exact a, TP_fr h ?_ ?_ ?_ ?_ b, RW_fr h ?_ ?_ ?_ ?_ c, KP_fr h ?_ ?_ ?_ ?_ d, WY_fr h ?_ (by rw [er]) (fun _ _ _ _ => by rw [er]) e⟩
  all_goals (try unfold Sc); intros; omega
/-- one call on both sides: one answer -/
def PM (sc : rp_Sc) (m : Nat) (args : List Value) (m' : Nat) (args' : List Value) (σ : rp_Mm) : Prop := ∃ v σ1 σ2, CL sc m args σ = RI v σ1 ∧ CL sc m' args' σ1 = RI v σ2 ∧ Inv σ2
theorem pm_ro {sc : rp_Sc} {m m' : Nat} {args args' : List Value} {σ : rp_Mm} {v : Int32} (hI : Inv σ) (h1 : CL sc m args σ = RI v σ) (h2 : CL sc m' args' σ = RI v σ) : PM sc m args m' args' σ := ⟨v, σ, σ, h1, h2, hI⟩
theorem inB_ne {x : Int32} {a b k : Nat} (e : inB x (nI a) (nI b) = nI 0) (h1 : a ≤ k) (h2 : k ≤ b) (hb : b < 2 ^ 31) : (x = nI k) = False := by
  refine eq_false fun h => ?_
  rw [h, inB_n h1 h2 hb] at e
  exact absurd e (by decide)
section
variable {sc : rp_Sc} {σ r : rp_Mm}
theorem y_isLawThere (h : BI (C σ) r) {l : Nat} (hl : l < 3) : CL sc 58 [.ref 2, .int (nI l)] σ = RI (nI (lw r l 11)) σ := by
  have bl := b_lw h.1 hl
  refine cl_of (D_Book_isLawThere_0 _ σ) rfl ?_
  simp (disch := omega) only [lt_nI, nI_add, pk_mul, nI_clamp, nI_leI, nI_ltI, nI_eq, ixT, cond_true, Nat.reduceEqDiff, Nat.reduceLeDiff, reduceIte, g_lw h hl, thI_RI]
  split
  next e => rw [e]
  next e => rw [show lw r l 11 = 0 by omega]
theorem x_isAsked (h : RB (R σ)) (p t d : Int32) : CL sc 175 [.ref 48, .int p, .int t, .int d] σ = RI (if hsB p (nP (R σ)) = nI 0 then nI 0 else if hsB t (nT (R σ)) = nI 0 then nI 0 else if inB d (nI 0) (nI 120) = nI 0 then nI 0 else nI 1) σ := by
  refine cl_of (D_Ref_isAsked_0 _ _ _ σ) rfl ?_
  simp only [lt_nI, nI_add, pk_mul, x_isPass h, x_isTrain h, x_isDay, thI_RI]
  (repeat' split) <;> first | rfl | (exfalso; omega) | (simp_all; done)
theorem p_of (hI : Inv σ) (t w : Int32) : PM sc 28 [.ref 1, .int t, .int w] 153 [.ref 48, .int t, .int w] σ := by
  have hB := hI.1
  have bn := b_n hB.1
  rcases hsB_c t (n := nT (R σ)) (by omega) with e | ⟨t, ht, rfl, e⟩
  · refine pm_ro hI (v := -1) (cl_of (D_RailPasses_of_0 _ _ σ) rfl ?_) (cl_of (D_Ref_of_0 _ _ σ) rfl ?_)
    · simp only [lt_nI, nI_add, pk_mul, h_tr hB, e, thI_RI, if_true]
    · simp only [lt_nI, nI_add, pk_mul, x_isTrain hB.1, e, thI_RI, if_true]
  · rcases inB_c w (a := 0) (b := 8) (by decide) (by decide) with e' | ⟨k, -, hk, rfl, e'⟩
    · refine pm_ro hI (v := -1) (cl_of (D_RailPasses_of_0 _ _ σ) rfl ?_) (cl_of (D_Ref_of_0 _ _ σ) rfl ?_)
      · simp only [lt_nI, nI_add, pk_mul, h_tr hB, e, e', thI_RI, s_isWithin, i_0, if_true, if_false]
      · simp only [lt_nI, nI_add, pk_mul, x_isTrain hB.1, e, e', thI_RI, s_in, i_0, if_true, if_false]
    · have bo := ov_le (R σ) t
      have bq := b_tr hB.1 ht
      by_cases hk8 : k = 8
      · subst hk8
        refine pm_ro hI (v := nI (ov (R σ) t)) (cl_of (D_RailPasses_of_0 _ _ σ) rfl ?_) (cl_of (D_Ref_of_0 _ _ σ) rfl ?_)
        · simp only [lt_nI, nI_add, pk_mul, h_tr hB, e, e', thI_RI, s_isWithin, i_0, if_false, g_tr8 hB ht]
        · simp (disch := omega) only [lt_nI, nI_add, pk_mul, nI_clamp, nI_leI, nI_ltI, nI_eq, ixT, cond_true, Nat.reduceEqDiff, Nat.reduceLeDiff, reduceIte, x_isTrain hB.1, e, e', thI_RI, s_in, i_0, if_false, if_true, x_isOver hB.1 ht]
          split
          next h => rw [h]
          next h => rw [show ov (R σ) t = 1 by omega]
      · refine pm_ro hI (v := nI (tr (R σ) t k)) (cl_of (D_RailPasses_of_0 _ _ σ) rfl ?_) (cl_of (D_Ref_of_0 _ _ σ) rfl ?_)
        · simp (disch := omega) only [lt_nI, nI_add, pk_mul, h_tr hB, e, e', thI_RI, s_isWithin, i_0, if_false, g_tr hB ht]
        · simp (disch := omega) only [lt_nI, nI_add, pk_mul, nI_clamp, nI_leI, nI_ltI, nI_eq, ixT, cond_true, Nat.reduceEqDiff, Nat.reduceLeDiff, reduceIte, x_isTrain hB.1, e, e', thI_RI, s_in, i_0, if_false, if_true, hk8, r_tr hB.1 ht]
theorem p_law (hI : Inv σ) (l w : Int32) : PM sc 57 [.ref 1, .int l, .int w] 170 [.ref 48, .int l, .int w] σ := by
  have hB := hI.1
  rcases inB_c l (a := 0) (b := 2) (by decide) (by decide) with e | ⟨l, -, hl, rfl, e⟩
  · refine pm_ro hI (v := -1) (cl_of (D_RailPasses_law_0 _ _ σ) rfl ?_) (cl_of (D_Ref_law_0 _ _ σ) rfl ?_)
    · simp only [lt_nI, nI_add, pk_mul, s_isLaw, e, thI_RI, if_true]
    · simp only [lt_nI, nI_add, pk_mul, x_isLaw, e, thI_RI, if_true]
  · rcases inB_c w (a := 0) (b := 10) (by decide) (by decide) with e' | ⟨k, -, hk, rfl, e'⟩
    · refine pm_ro hI (v := -1) (cl_of (D_RailPasses_law_0 _ _ σ) rfl ?_) (cl_of (D_Ref_law_0 _ _ σ) rfl ?_)
      · simp only [lt_nI, nI_add, pk_mul, s_isLaw, e, e', thI_RI, s_isWithin, i_0, if_true, if_false]
      · simp only [lt_nI, nI_add, pk_mul, x_isLaw, e, e', thI_RI, s_in, i_0, if_true, if_false]
    · have bl := b_lw hB.1 (show l < 3 by omega)
      refine pm_ro hI (v := if lw (R σ) l 11 = 0 then -nI 3 else nI (lw (R σ) l k)) (cl_of (D_RailPasses_law_0 _ _ σ) rfl ?_) (cl_of (D_Ref_law_0 _ _ σ) rfl ?_)
      · simp (disch := omega) only [lt_nI, nI_add, pk_mul, nI_clamp, nI_leI, nI_ltI, nI_eq, ixT, cond_true, Nat.reduceEqDiff, Nat.reduceLeDiff, reduceIte, s_isLaw, e, e', thI_RI, s_isWithin, i_0, if_false, y_isLawThere hB, g_lw hB]
        (repeat' split) <;> first | rfl | (exfalso; omega) | (simp_all; done)
      · simp (disch := omega) only [lt_nI, nI_add, pk_mul, nI_clamp, nI_leI, nI_ltI, nI_eq, ixT, cond_true, Nat.reduceEqDiff, Nat.reduceLeDiff, reduceIte, x_isLaw, e, e', thI_RI, s_in, i_0, if_false, x_hasLaw hB.1, r_lw hB.1]
        (repeat' split) <;> first | rfl | (exfalso; omega) | (simp_all; done)
theorem p_may (hI : Inv σ) (p t d : Int32) : PM sc 71 [.ref 1, .int p, .int t, .int d] 174 [.ref 48, .int p, .int t, .int d] σ := by
  have hB := hI.1
  have bn := b_n hB.1
  rcases hsB_c p (n := nP (R σ)) (by omega) with e | ⟨p, hp, rfl, e⟩
  · refine pm_ro hI (v := -1) (cl_of (D_RailPasses_may_0 _ _ _ σ) rfl ?_) (cl_of (D_Ref_may_0 _ _ _ σ) rfl ?_)
    · simp only [lt_nI, nI_add, pk_mul, h_ps hB, e, thI_RI, if_true]
    · simp only [lt_nI, nI_add, pk_mul, x_isAsked hB.1, e, thI_RI, if_true]
  · rcases hsB_c t (n := nT (R σ)) (by omega) with e' | ⟨t, ht, rfl, e'⟩
    · refine pm_ro hI (v := -1) (cl_of (D_RailPasses_may_0 _ _ _ σ) rfl ?_) (cl_of (D_Ref_may_0 _ _ _ σ) rfl ?_)
      · simp only [lt_nI, nI_add, pk_mul, h_ps hB, h_tr hB, e, e', i_0, thI_RI, if_true, if_false]
      · simp only [lt_nI, nI_add, pk_mul, x_isAsked hB.1, e, e', i_0, thI_RI, if_true, if_false]
    · rcases inB_c d (a := 0) (b := 120) (by decide) (by decide) with e'' | ⟨d, -, hd, rfl, e''⟩
      · refine pm_ro hI (v := -1) (cl_of (D_RailPasses_may_0 _ _ _ σ) rfl ?_) (cl_of (D_Ref_may_0 _ _ _ σ) rfl ?_)
        · simp only [lt_nI, nI_add, pk_mul, h_ps hB, h_tr hB, s_isDay, e, e', e'', i_0, thI_RI, if_true, if_false]
        · simp only [lt_nI, nI_add, pk_mul, x_isAsked hB.1, e, e', e'', i_0, thI_RI, if_true, if_false]
      · refine pm_ro hI (v := nI (barN (R σ) p t d)) (cl_of (D_RailPasses_may_0 _ _ _ σ) rfl ?_) (cl_of (D_Ref_may_0 _ _ _ σ) rfl ?_)
        · simp only [lt_nI, nI_add, pk_mul, h_ps hB, h_tr hB, s_isDay, e, e', e'', i_0, thI_RI, if_false, y_bar hB hp ht hd]
        · simp only [lt_nI, nI_add, pk_mul, x_isAsked hB.1, e, e', e'', i_0, thI_RI, if_false, x_bar hB.1 hp ht hd]
theorem p_rideOf (hI : Inv σ) (i w : Int32) : PM sc 79 [.ref 1, .int i, .int w] 187 [.ref 48, .int i, .int w] σ := by
  have hB := hI.1
  have bn := b_n hB.1
  rcases hsB_c i (n := nR (R σ)) (by omega) with e | ⟨i, hi, rfl, e⟩
  · refine pm_ro hI (v := -1) (cl_of (D_RailPasses_rideOf_0 _ _ σ) rfl ?_) (cl_of (D_Ref_rideOf_0 _ _ σ) rfl ?_)
    · simp only [lt_nI, nI_add, pk_mul, h_rd hB, e, thI_RI, if_true]
    · simp (disch := omega) only [lt_nI, nI_add, pk_mul, s_in, r_nR hB.1, inB_hs, e, thI_RI, if_true]
  · rcases inB_c w (a := 0) (b := 4) (by decide) (by decide) with e' | ⟨k, -, hk, rfl, e'⟩
    · refine pm_ro hI (v := -1) (cl_of (D_RailPasses_rideOf_0 _ _ σ) rfl ?_) (cl_of (D_Ref_rideOf_0 _ _ σ) rfl ?_)
      · simp only [lt_nI, nI_add, pk_mul, h_rd hB, e, e', thI_RI, s_isWithin, i_0, if_true, if_false]
      · simp (disch := omega) only [lt_nI, nI_add, pk_mul, s_in, r_nR hB.1, inB_hs, e, e', thI_RI, i_0, if_true, if_false]
    · by_cases h3 : k = 3
      · subst h3
        refine pm_ro hI (v := nI (cdR (R σ) i)) (cl_of (D_RailPasses_rideOf_0 _ _ σ) rfl ?_) (cl_of (D_Ref_rideOf_0 _ _ σ) rfl ?_)
        · simp only [lt_nI, nI_add, pk_mul, h_rd hB, e, e', thI_RI, s_isWithin, i_0, if_true, if_false, g_rd3 hB hi]
        · simp (disch := omega) only [lt_nI, nI_add, pk_mul, s_in, r_nR hB.1, inB_hs, e, e', thI_RI, i_0, if_true, if_false, x_countedOf hB.1 hi]
      · by_cases h4 : k = 4
        · subst h4
          refine pm_ro hI (v := nI (payR (R σ) i)) (cl_of (D_RailPasses_rideOf_0 _ _ σ) rfl ?_) (cl_of (D_Ref_rideOf_0 _ _ σ) rfl ?_)
          · simp only [lt_nI, nI_add, pk_mul, h_rd hB, e, e', thI_RI, s_isWithin, i_0, if_true, if_false, g_rd4 hB hi]
          · simp (disch := omega) only [lt_nI, nI_add, pk_mul, nI_clamp, nI_leI, nI_ltI, nI_eq, ixT, cond_true, Nat.reduceEqDiff, Nat.reduceLeDiff, reduceIte, h3, s_in, r_nR hB.1, inB_hs, e, e', thI_RI, i_0, if_true, if_false, x_paysOf hB.1 hi]
        · refine pm_ro hI (v := nI (rd (R σ) i k)) (cl_of (D_RailPasses_rideOf_0 _ _ σ) rfl ?_) (cl_of (D_Ref_rideOf_0 _ _ σ) rfl ?_)
          · simp (disch := omega) only [lt_nI, nI_add, pk_mul, h_rd hB, e, e', thI_RI, s_isWithin, i_0, if_true, if_false, g_rd hB hi]
          · simp (disch := omega) only [lt_nI, nI_add, pk_mul, nI_clamp, nI_leI, nI_ltI, nI_eq, ixT, cond_true, Nat.reduceEqDiff, Nat.reduceLeDiff, reduceIte, h3, h4, s_in, r_nR hB.1, inB_hs, e, e', thI_RI, i_0, if_true, if_false, r_rd hB.1 hi]
theorem p_taken (hI : Inv σ) (t d : Int32) : PM sc 82 [.ref 1, .int t, .int d] 190 [.ref 48, .int t, .int d] σ := by
  have hB := hI.1
  have bn := b_n hB.1
  rcases hsB_c t (n := nT (R σ)) (by omega) with e' | ⟨t, ht, rfl, e'⟩
  · refine pm_ro hI (v := -1) (cl_of (D_RailPasses_taken_0 _ _ σ) rfl ?_) (cl_of (D_Ref_taken_0 _ _ σ) rfl ?_)
    · simp only [lt_nI, nI_add, pk_mul, h_tr hB, e', i_0, thI_RI, if_true, if_false]
    · simp only [lt_nI, nI_add, pk_mul, x_isTrain hB.1, e', i_0, thI_RI, if_true, if_false]
  · rcases inB_c d (a := 0) (b := 120) (by decide) (by decide) with e'' | ⟨d, -, hd, rfl, e''⟩
    · refine pm_ro hI (v := -1) (cl_of (D_RailPasses_taken_0 _ _ σ) rfl ?_) (cl_of (D_Ref_taken_0 _ _ σ) rfl ?_)
      · simp only [lt_nI, nI_add, pk_mul, h_tr hB, s_isDay, e', e'', i_0, thI_RI, if_true, if_false]
      · simp only [lt_nI, nI_add, pk_mul, x_isTrain hB.1, x_isDay, e', e'', i_0, thI_RI, if_true, if_false]
    · refine pm_ro hI (v := nI (onN (R σ) t d)) (cl_of (D_RailPasses_taken_0 _ _ σ) rfl ?_) (cl_of (D_Ref_taken_0 _ _ σ) rfl ?_)
      · simp only [lt_nI, nI_add, pk_mul, h_tr hB, s_isDay, e', e'', i_0, thI_RI, if_false, y_ridesOn hB ht hd]
      · simp only [lt_nI, nI_add, pk_mul, x_isTrain hB.1, x_isDay, e', e'', i_0, thI_RI, if_false, x_takenOn hB.1 ht hd]
end
