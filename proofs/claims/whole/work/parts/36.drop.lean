/-! a row goes: unwish, giveBack -/
theorem cnt_add1 {P Q : Nat → Bool} {d : Nat} : ∀ {n : Nat}, d < n → P d = false → Q d = true → (∀ i, i ≠ d → Q i = P i) → cnt Q n = cnt P n + 1 := by
  intro n
  induction n with
  | zero => intro h; omega
  | succ n ih =>
    intro h hp hq ho
    unfold cnt
    by_cases e : d = n
    · subst e
      rw [hp, hq, cnt_congr (P := Q) (Q := P) fun i hi => ho i (by omega)]
      simp
    · rw [ih (by omega) hp hq ho, ho n (fun h => e h.symm)]
      omega
theorem cnt_mono {P Q : Nat → Bool} : ∀ {n : Nat}, (∀ i, i < n → P i = true → Q i = true) → cnt P n ≤ cnt Q n := by
  intro n
  induction n with
  | zero => intro _; exact Nat.le_refl _
  | succ n ih =>
    intro h
    unfold cnt
    have := ih fun i hi => h i (by omega)
    by_cases e : P n = true
    · rw [e, h n (by omega) e]
      simp
      exact this
    · simp only [e]
      simp
      omega
theorem cnt_isC {r : rp_Mm} {p : Nat} : ∀ {k : Nat}, (∀ i, i < k → cdR r i < 122) → cnt (fun i => decide (rd r i 0 = p) && !isC r p (cdR r i) i) k = cnt (fun d => isC r p d k) 122 := by
  intro k
  induction k with
  | zero =>
    intro _
    have : ∀ n, cnt (fun d => isC r p d 0) n = 0 := by
      intro n
      induction n with
      | zero => rfl
      | succ n ih => unfold cnt; rw [ih]; rfl
    rw [this]
    rfl
  | succ k ih =>
    intro h
    have e := ih fun i hi => h i (by omega)
    show cnt _ k + _ = _
    rw [e]
    by_cases h1 : rd r k 0 = p
    · cases h2 : isC r p (cdR r k) k with
      | true =>
        have : cnt (fun d => isC r p d (k + 1)) 122 = cnt (fun d => isC r p d k) 122 := cnt_congr fun d _ => by
          show (isC r p d k || (decide (rd r k 0 = p) && decide (cdR r k = d))) = isC r p d k
          by_cases h3 : cdR r k = d
          · subst h3; rw [h2]; rfl
          · simp [h3]
        rw [this]
        simp [h2]
      | false =>
        have : cnt (fun d => isC r p d (k + 1)) 122 = cnt (fun d => isC r p d k) 122 + 1 := cnt_add1 (d := cdR r k) (h k (by omega)) h2 (by
          show (isC r p (cdR r k) k || (decide (rd r k 0 = p) && decide (cdR r k = cdR r k))) = true
          simp [h1]) (fun d hd => by
          show (isC r p d k || (decide (rd r k 0 = p) && decide (cdR r k = d))) = isC r p d k
          simp [Ne.symm hd])
        rw [this]
        simp [h1, h2]
    · have : cnt (fun d => isC r p d (k + 1)) 122 = cnt (fun d => isC r p d k) 122 := cnt_congr fun d _ => by
        show (isC r p d k || (decide (rd r k 0 = p) && decide (cdR r k = d))) = isC r p d k
        simp [h1]
      rw [this]
      simp [h1]
/-- the counted days of a pass -/
theorem cdays_e {r : rp_Mm} (h : RB r) (p : Nat) : cdays r p = cnt (fun d => isC r p d (nR r)) 122 := cnt_isC fun i hi => by
  have := cdR_le h hi
  omega
section
variable {sc : rp_Sc} {σ : rp_Mm} {t tc tq tl tw : Nat}
theorem s_drop (h : TB t tc tq tl tw) {n i : Nat} (hn : σ t 3 = nI n) (hl : n ≤ tl) (hi : i < n) : CL sc 81 [.ref t, .int (nI i)] σ = RV (rp_wr (blk σ (tc + 1) (tw * i) (tw * (n - 1)) (fun k => σ (tc + 1) (k + tw))) t 3 (nI (n - 1))) := by
  have hT := h
  obtain ⟨h1, h2, h3, h4, h5, h6, h7⟩ := h
  refine cl_le rfl (rp_Le_tr ?_ (D_Table_drop_0 h1 h2 _ σ))
  rw [s_has hT, hn, if_pos (show (0 : Int32) ≤ nI i ∧ nI i < nI n from ⟨nI_pos' (by omega), nI_lt hi (by omega)⟩), thI_RI, if_neg (by decide)]
  have hz : ∀ lo hi, blk σ (tc + 1) lo hi (fun k => σ (tc + 1) (k + tw)) t 3 = nI n := fun lo hi => by
    rw [blk_o (fun e => h7 e.1.symm), hn]
  have L := lp_from (E := fun r => EV sc (81, 0, 0, 11, [.ref t, .int (nI i), .int (nI r), rp_U], [], (rp_L0, blk σ (tc + 1) (tw * i) (tw * r) (fun k => σ (tc + 1) (k + tw))))) (a := i) (n := n - 1) (by omega) (fun r hr1 hr2 => by
    have hm : tw * i ≤ tw * r := Nat.mul_le_mul_left _ hr1
    refine rp_Le_tr ?_ (D_Table_drop_11 h1 h2 _ _ _)
    rw [hz, nI_1, if_neg (nI_ge (by omega) (by omega))]
    have M := lp (E := fun c => EV sc (81, 0, 0, 23, [.ref t, .int (nI i), .int (nI r), .int (nI c)], [], (rp_L0, blk σ (tc + 1) (tw * i) (tw * r + c) (fun k => σ (tc + 1) (k + tw))))) (n := tw) (fun c hc => by
      refine rp_Le_tr ?_ (D_Table_drop_23 h1 h2 _ _ _ _)
      have e : blk σ (tc + 1) (tw * i) (tw * r + c) (fun k => σ (tc + 1) (k + tw)) (tc + 1) (tw * (r + 1) + c) = σ (tc + 1) ((tw * r + c) + tw) := by
        rw [blk_o (by rw [Nat.mul_succ]; omega), Nat.mul_succ]
        congr 1
        omega
      rw [if_neg (show ¬ nI tw ≤ nI c from nI_ge hc (by omega)), nI_1, s_get hT (hz _ _) hl (by omega) hc, thI_RI, e, s_set hT (hz _ _) hl (by omega) hc, thV_RV, blk_s (f := fun k => σ (tc + 1) (k + tw)) (by omega) rfl, nI_1]
      exact rp_Le_rfl)
    simp only [Nat.add_zero] at M
    refine rp_Le_tr ?_ M
    refine rp_Le_tr ?_ (D_Table_drop_23 h1 h2 _ _ _ _)
    rw [if_pos (show nI tw ≤ nI tw from nI_le (Nat.le_refl _) (by omega)), nI_1, ← Nat.mul_succ]
    exact rp_Le_rfl)
  simp only [blk_0] at L
  refine rp_Le_tr ?_ L
  refine rp_Le_tr ?_ (D_Table_drop_11 h1 h2 _ _ _)
  rw [hz, nI_1, if_pos (nI_le (by omega) (by omega))]
  have e : nI n - 1 = nI (n - 1) := by
    have := nI_pred (n - 1)
    rw [show n - 1 + 1 = n by omega] at this
    exact this
  rw [e]
  exact rp_Le_rfl
end
section
variable {sc : rp_Sc} {σ : rp_Mm}
theorem p_unwish (hI : Inv σ) : PM sc 85 [.ref 1] 195 [.ref 48] σ := by
  have hB := hI.1
  have bn := b_n hB.1
  by_cases h0 : nW (R σ) = 0
  · refine pm_ro hI (v := -3) (cl_of (D_RailPasses_unwish_0 σ) rfl ?_) (cl_of (D_Ref_unwish_0 σ) rfl ?_)
    · simp (disch := omega) only [lt_nI, nI_add, pk_mul, nI_clamp, nI_leI, nI_ltI, nI_eq, ixT, cond_true, Nat.reduceEqDiff, Nat.reduceLeDiff, reduceIte, z_ws hB, h0, thI_RI]
    · simp (disch := omega) only [lt_nI, nI_add, pk_mul, nI_clamp, nI_leI, nI_ltI, nI_eq, ixT, cond_true, Nat.reduceEqDiff, Nat.reduceLeDiff, reduceIte, r_nW hB.1, h0]
  · have e1 := s_drop (sc := sc) TB13 (c_nW hB) bn.2.2.2.2.1 (show nW (R σ) - 1 < nW (R σ) by omega)
    rw [blk_0] at e1
    have e2 : CL sc 85 [.ref 1] σ = RI (nI (nW (R σ) - 1)) (rp_wr σ 13 3 (nI (nW (R σ) - 1))) := by
      refine cl_of (D_RailPasses_unwish_0 σ) rfl ?_
      simp (disch := omega) only [lt_nI, nI_add, pk_mul, nI_clamp, nI_leI, nI_ltI, nI_eq, ixT, cond_true, Nat.reduceEqDiff, Nat.reduceLeDiff, reduceIte, z_ws hB, h0, thI_RI, pk_sub, e1, thV_RV, s_size TB13, c_nW hB, wr_eq]
    obtain ⟨σ1, es1⟩ : ∃ x, x = rp_wr σ 13 3 (nI (nW (R σ) - 1)) := ⟨_, rfl⟩
    rw [← es1] at e2
    have f1 : Fr (fun a k => a = 13 ∧ k = 3) σ σ1 := by rw [es1]; exact Fr_wr Fr_rfl ⟨rfl, rfl⟩
    have er : R σ1 = R σ := R_fr f1 (fun a k ha => by omega)
    have hr1 : RB (R σ1) := by rw [er]; exact hB.1
    have e3 : CL sc 195 [.ref 48] σ1 = RI (nI (nW (R σ) - 1)) (rp_wr σ1 49 4 (nI (nW (R σ) - 1))) := by
      refine cl_of (D_Ref_unwish_0 σ1) rfl ?_
      simp (disch := omega) only [lt_nI, nI_add, pk_mul, nI_clamp, nI_leI, nI_ltI, nI_eq, ixT, cond_true, Nat.reduceEqDiff, Nat.reduceLeDiff, reduceIte, r_nW hr1, er, h0, pk_sub, wr_eq]
    obtain ⟨σ2, es2⟩ : ∃ x, x = rp_wr σ1 49 4 (nI (nW (R σ) - 1)) := ⟨_, rfl⟩
    rw [← es2] at e3
    have f : Fr (fun a k => (a = 13 ∧ k = 3) ∨ (a = 49 ∧ k = 4)) σ σ2 := by
      rw [es2]
      exact Fr_wr (Fr_mo f1 (fun _ _ h => Or.inl h)) (Or.inr ⟨rfl, rfl⟩)
    have r0 : ∀ k, k ≠ 4 → R σ2 0 k = R σ 0 k := fun k hk => R_fk f (by omega)
    have rj : R σ2 0 4 = nI (nW (R σ) - 1) := by rw [R_at (by decide), es2]; exact wr_eq
    have eW : nW (R σ2) = nW (R σ) - 1 := N1_n rj (by omega)
    have eT : nT (R σ2) = nT (R σ) := N1_e (r0 1 (by decide))
    have r6 : R σ2 6 = R σ 6 := R_fa f (fun _ => by omega)
    have c6 : C σ2 12 = C σ 12 := C_fa f (fun _ => by omega)
    refine ⟨_, σ1, σ2, e2, e3, Inv_m (Fr_mo f (fun _ _ => by unfold Mu; omega)) hI (bi_wish (m := nW (R σ) - 1) hB (by omega) (fun a h8 h0 h6 => R_fa f (fun _ => by omega)) r0 rj (fun a h8 h0 h6 => C_fa f (fun _ => by omega)) ?_ ?_ ?_) (N1_e (r0 0 (by decide))) (R_fa f (fun _ => by omega))⟩
    · rw [C_at (by decide), es2, wr_n2 (by decide), es1]; exact wr_eq
    · intro w hw
      rw [eW] at hw
      rw [eT, ws_t r6]
      obtain ⟨o1, o2⟩ := hB.1.2.2.2.2.2.2.1 w (by omega)
      exact ⟨fun q hq => Ok_e (by rw [r6]) (o1 q hq), o2⟩
    · intro w hw q hq
      rw [eW] at hw
      rw [c6, ws_t r6]
      exact hB.2.2.2.2.2.2.2.1 w (by omega) q hq
theorem x_giveBack (h : RB (R σ)) {i : Nat} (hi : i < nR (R σ)) : CL sc 189 [.ref 48, .int (nI i)] σ = RI (nI (nR (R σ) - 1)) (blk (rp_wr σ 49 3 (nI (nR (R σ) - 1))) 54 (3 * i) (3 * (nR (R σ) - 1)) (fun k => σ 54 (k + 3))) := by
  have bn := b_n h
  obtain ⟨n, hn⟩ : ∃ n, n = nR (R σ) := ⟨_, rfl⟩
  have hz := r_nR h
  rw [← hn] at hz hi bn ⊢
  have hq : ∀ lo hi, blk (rp_wr σ 49 3 (nI (n - 1))) 54 lo hi (fun k => σ 54 (k + 3)) 49 3 = nI (n - 1) := fun lo hi => by
    rw [blk_o (by omega), wr_eq]
  refine cl_le rfl (rp_Le_tr ?_ (D_Ref_giveBack_0 _ σ))
  simp (disch := omega) only [lt_nI, nI_add, pk_mul, nI_clamp, nI_leI, nI_ltI, nI_eq, ixT, cond_true, Nat.reduceEqDiff, Nat.reduceLeDiff, reduceIte, s_in, hz, inB_n, thI_RI, pk_sub]
  have L := lp_from (E := fun k => EV sc (189, 0, 0, 32, [.ref 48, .int (nI i), .int (nI k)], [], (rp_L0, blk (rp_wr σ 49 3 (nI (n - 1))) 54 (3 * i) k (fun k => σ 54 (k + 3))))) (a := 3 * i) (n := 3 * (n - 1)) (by omega) (fun k hk1 hk2 => by
    refine rp_Le_tr ?_ (D_Ref_giveBack_32 _ _ _)
    have e : blk (rp_wr σ 49 3 (nI (n - 1))) 54 (3 * i) k (fun k => σ 54 (k + 3)) 54 (k + 3) = σ 54 (k + 3) := by
      rw [blk_o (by omega), wr_n2 (by decide)]
    simp (disch := omega) only [lt_nI, nI_add, pk_mul, nI_clamp, nI_leI, nI_ltI, nI_eq, ixT, cond_true, Nat.reduceEqDiff, Nat.reduceLeDiff, reduceIte, hq, show ¬ 3 * (n - 1) ≤ k by omega, e]
    rw [blk_s (f := fun k => σ 54 (k + 3)) hk1 rfl]
    exact rp_Le_rfl)
  simp only [blk_0] at L
  refine rp_Le_tr ?_ L
  refine rp_Le_tr ?_ (D_Ref_giveBack_32 _ _ _)
  simp (disch := omega) only [lt_nI, nI_add, pk_mul, nI_clamp, nI_leI, nI_ltI, nI_eq, ixT, cond_true, Nat.reduceEqDiff, Nat.reduceLeDiff, reduceIte, hq, Nat.le_refl, if_true]
  exact rp_Le_rfl
end
