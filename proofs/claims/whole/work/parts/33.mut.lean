/-! calls that change rows -/
theorem R_fk {P : Nat → Nat → Prop} {σ σ' : rp_Mm} {a k : Nat} (h : Fr P σ σ') (hp : ¬ P (49 + a) k) : R σ' a k = R σ a k := by
  unfold R
  split
  · exact h _ _ hp
  · rfl
theorem R_fa {P : Nat → Nat → Prop} {σ σ' : rp_Mm} {a : Nat} (h : Fr P σ σ') (hp : ∀ k, ¬ P (49 + a) k) : R σ' a = R σ a := funext fun k => R_fk h (hp k)
theorem C_fk {P : Nat → Nat → Prop} {σ σ' : rp_Mm} {a k : Nat} (h : Fr P σ σ') (hp : ¬ P (2 + a) k) : C σ' a k = C σ a k := by
  unfold C
  cases rlC a k with
  | false => rfl
  | true => exact h _ _ hp
theorem C_fa {P : Nat → Nat → Prop} {σ σ' : rp_Mm} {a : Nat} (h : Fr P σ σ') (hp : ∀ k, ¬ P (2 + a) k) : C σ' a = C σ a := funext fun k => C_fk h (hp k)
def Mu (a k : Nat) : Prop := (2 ≤ a ∧ a ≤ 16) ∨ (49 ≤ a ∧ a ≤ 56) ∨ Sc a k
theorem Inv_m {σ σ' : rp_Mm} (h : Fr Mu σ σ') (hI : Inv σ) (hB : BI (C σ') (R σ')) (hn : nL (R σ') = nL (R σ)) (hl : R σ' 1 = R σ 1) : Inv σ' := by
  obtain ⟨a, b, c, d, e⟩ := hI
  refine ⟨hB, TP_fr h ?_ ?_ ?_ ?_ b, RW_fr h ?_ ?_ ?_ ?_ c, KP_fr h ?_ ?_ ?_ ?_ d, WY_fr h ?_ hn (fun _ _ _ _ => by rw [ln_t hl]) e⟩
  all_goals (try unfold Mu Sc); intros; omega
theorem Okn {r r' : rp_Mm} (h : RBn r) (j m : Nat) (hj : r' 0 j = nI m) (hm : m < 2 ^ 31) (ho : ∀ k, k ≠ j → r' 0 k = r 0 k) : ∀ k, k < 7 → Ok r' 0 k := by
  intro k hk
  by_cases e : k = j
  · subst e; exact Ok_n hj hm
  · exact Ok_e (ho k e) (h.1 k hk)
/-- a stretch of one row written anew -/
def blk (σ : rp_Mm) (a lo hi : Nat) (f : Nat → Int32) : rp_Mm := fun b k => if b = a ∧ lo ≤ k ∧ k < hi then f k else σ b k
theorem blk_0 {σ : rp_Mm} {a lo : Nat} {f : Nat → Int32} : blk σ a lo lo f = σ := by
  funext b k
  unfold blk
  rw [if_neg (by omega)]
theorem blk_s {σ : rp_Mm} {a lo hi : Nat} {f : Nat → Int32} {x : Int32} (h : lo ≤ hi) (hx : x = f hi) : rp_wr (blk σ a lo hi f) a hi x = blk σ a lo (hi + 1) f := by
  funext b k
  unfold rp_wr blk
  by_cases e : b = a
  · subst e
    by_cases e2 : k = hi
    · subst e2
      simp [h, hx]
    · by_cases e3 : lo ≤ k ∧ k < hi
      · simp [e2, e3.1, e3.2, show k < hi + 1 by omega]
      · simp [e2, e3, show ¬ (lo ≤ k ∧ k < hi + 1) by omega]
  · simp [e]
theorem blk_i {σ : rp_Mm} {a lo hi k : Nat} {f : Nat → Int32} (h1 : lo ≤ k) (h2 : k < hi) : blk σ a lo hi f a k = f k := if_pos ⟨rfl, h1, h2⟩
theorem blk_o {σ : rp_Mm} {a lo hi b k : Nat} {f : Nat → Int32} (h : ¬ (b = a ∧ lo ≤ k ∧ k < hi)) : blk σ a lo hi f b k = σ b k := if_neg h
theorem Fr_blk {P : Nat → Nat → Prop} {σ σ' : rp_Mm} {a lo hi : Nat} {f : Nat → Int32} (h : Fr P σ σ') (hp : ∀ k, lo ≤ k → k < hi → P a k) : Fr P σ (blk σ' a lo hi f) := by
  intro b k hb
  rw [blk_o, h b k hb]
  rintro ⟨rfl, h1, h2⟩
  exact hb (hp k h1 h2)
section
variable {sc : rp_Sc} {σ : rp_Mm} {t tc tq tl tw : Nat}
/-- a new row of zeros -/
def app (σ : rp_Mm) (t tc tw n : Nat) : rp_Mm := blk (rp_wr σ t 3 (nI (n + 1))) (tc + 1) (tw * n) (tw * n + tw) (fun _ => nI 0)
theorem s_append (h : TB t tc tq tl tw) {n : Nat} (hn : σ t 3 = nI n) (hl : n < tl) : CL sc 3 [.ref t] σ = RI (nI n) (app σ t tc tw n) := by
  have hT := h
  obtain ⟨h1, h2, h3, h4, h5, h6, h7⟩ := h
  refine cl_le rfl (rp_Le_tr ?_ (D_Table_append_0 h1 h2 σ))
  rw [s_isFull hT σ hn (by omega), thI_RI, if_neg (show ¬ n = tl by omega), if_pos rfl, hn, nI_1]
  have hz : ∀ c, blk (rp_wr σ t 3 (nI (n + 1))) (tc + 1) (tw * n) (tw * n + c) (fun _ => nI 0) t 3 = nI (n + 1) := fun c => by
    rw [blk_o (fun e => h7 e.1.symm), wr_eq]
  have L := lp (E := fun c => EV sc (3, 0, 0, 21, [.ref t, .int (nI c)], [], (rp_L0, blk (rp_wr σ t 3 (nI (n + 1))) (tc + 1) (tw * n) (tw * n + c) (fun _ => nI 0)))) (n := tw) (fun c hc => by
    refine rp_Le_tr ?_ (D_Table_append_21 h1 h2 _ _)
    have e : nI (n + 1) - 1 = nI n := nI_pred n
    rw [if_neg (show ¬ nI tw ≤ nI c from nI_ge hc (by omega)), hz c, e, s_set hT (hz c) (by omega) (by omega) hc, thV_RV, blk_s (x := 0) (f := fun _ => nI 0) (by omega) rfl, nI_1]
    exact rp_Le_rfl)
  simp only [Nat.add_zero, blk_0] at L
  refine rp_Le_tr ?_ L
  refine rp_Le_tr ?_ (D_Table_append_21 h1 h2 _ _)
  rw [if_pos (show nI tw ≤ nI tw from nI_le (Nat.le_refl _) (by omega)), hz tw]
  exact rp_Le_eq (by rw [show nI (n + 1) - 1 = nI n from nI_pred n]; rfl)
theorem app_n {n : Nat} (h7 : tc + 1 ≠ t) : app σ t tc tw n t 3 = nI (n + 1) := by
  unfold app
  rw [blk_o (fun e => h7 e.1.symm), wr_eq]
theorem app_o {n a k : Nat} (h : ¬ (a = t ∧ k = 3)) (h2 : ¬ (a = tc + 1 ∧ tw * n ≤ k ∧ k < tw * n + tw)) : app σ t tc tw n a k = σ a k := by
  unfold app
  rw [blk_o h2]
  unfold rp_wr
  by_cases e : a = t
  · rw [if_pos e, if_neg (fun e2 => h ⟨e, e2⟩)]
  · rw [if_neg e]
theorem app_f {P : Nat → Nat → Prop} {σ' : rp_Mm} {n : Nat} (hf : Fr P σ' σ) (h1 : P t 3) (h2 : ∀ k, P (tc + 1) k) : Fr P σ' (app σ t tc tw n) := Fr_blk (Fr_wr hf h1) (fun k _ _ => h2 k)
end
section
variable {sc : rp_Sc} {σ : rp_Mm}
theorem bi_days {c r c' r' : rp_Mm} {m : Nat} (h : BI c r) (hm : m ≤ 120) (hr : ∀ a, a < 8 → a ≠ 0 → r' a = r a) (hr0 : ∀ k, k ≠ 6 → r' 0 k = r 0 k) (hr6 : r' 0 6 = nI m) (hc : ∀ a, a < 15 → a ≠ 0 → c' a = c a) (hc0 : c' 0 7 = nI m) : BI c' r' := by
  obtain ⟨⟨a1, a2, a3, a4, a5, a6, a7, a8⟩, ⟨b1, b2, b3, b4, b5, b6, b7, b8⟩⟩ := h
  have eL : nL r' = nL r := N1_e (hr0 0 (by decide))
  have eT : nT r' = nT r := N1_e (hr0 1 (by decide))
  have eP : nP r' = nP r := N1_e (hr0 2 (by decide))
  have eR : nR r' = nR r := N1_e (hr0 3 (by decide))
  have eW : nW r' = nW r := N1_e (hr0 4 (by decide))
  have eS : nS r' = nS r := N1_e (hr0 5 (by decide))
  have eD : nD r' = m := N1_n hr6 (by omega)
  obtain ⟨cd, cp⟩ := cd_t (hr 1 (by decide) (by decide)) (hr 2 (by decide) (by decide)) (hr 4 (by decide) (by decide)) (hr 5 (by decide) (by decide))
  have er := rd_t (hr 5 (by decide) (by decide))
  refine ⟨⟨⟨Okn a1 6 m hr6 (by omega) hr0, ?_⟩, RBl_t eL (hr 1 (by decide) (by decide)) a2, RBt_t eT (by omega) (hr 2 (by decide) (by decide)) a3, RBk_t (hr 3 (by decide) (by decide)) a4, RBp_t eP (hr 4 (by decide) (by decide)) (fun p => cdays_t eR fun i _ => by rw [cd, er]; exact ⟨rfl, rfl⟩) a5, RBr_t eR (by omega) (by omega) (hr 5 (by decide) (by decide)) a6, RBw_t eW (by omega) (hr 6 (by decide) (by decide)) a7, RBs_t eS (by omega) (hr 7 (by decide) (by decide)) a8⟩, ⟨?_, CBl_t eL (hr 1 (by decide) (by decide)) (hc 2 (by decide) (by decide)) b2, CBt_t eT (hr 2 (by decide) (by decide)) (hc 4 (by decide) (by decide)) b3, CBk_t (hr 3 (by decide) (by decide)) (hc 6 (by decide) (by decide)) b4, CBp_t eP (hr 4 (by decide) (by decide)) (hc 8 (by decide) (by decide)) b5, CBr_t eR (hr 5 (by decide) (by decide)) (hc 10 (by decide) (by decide)) (fun i _ => by rw [cd, cp]; exact ⟨rfl, rfl⟩) b6, CBw_t eW (hr 6 (by decide) (by decide)) (hc 12 (by decide) (by decide)) b7, CBs_t eS (hr 7 (by decide) (by decide)) (hc 14 (by decide) (by decide)) b8⟩⟩
  · have := a1.2
    rw [eL, eT, eP, eR, eW, eS, eD]
    omega
  · unfold CBn at b1 ⊢
    rw [eL, eT, eP, eR, eW, eS, eD, hc 1 (by decide) (by decide), hc 3 (by decide) (by decide), hc 5 (by decide) (by decide), hc 7 (by decide) (by decide), hc 9 (by decide) (by decide), hc 11 (by decide) (by decide), hc 13 (by decide) (by decide)]
    exact ⟨b1.1, b1.2.1, b1.2.2.1, b1.2.2.2.1, b1.2.2.2.2.1, b1.2.2.2.2.2.1, b1.2.2.2.2.2.2.1, hc0⟩
theorem p_days (hI : Inv σ) (x : Int32) : PM sc 29 [.ref 1, .int x] 156 [.ref 48, .int x] σ := by
  have hB := hI.1
  have bn := b_n hB.1
  rcases inB_c x (a := 1) (b := 20) (by decide) (by decide) with e | ⟨n, hn1, hn2, rfl, e⟩
  · refine pm_ro hI (v := -1) (cl_of (D_RailPasses_days_0 _ σ) rfl ?_) (cl_of (D_Ref_days_0 _ σ) rfl ?_)
    · simp only [lt_nI, nI_add, pk_mul, s_isWithin, e, thI_RI, if_true]
    · simp only [lt_nI, nI_add, pk_mul, s_in, e, thI_RI, if_true]
  · by_cases hd : nD (R σ) + n ≤ 120
    · refine ⟨nI (nD (R σ) + n), rp_wr σ 2 7 (nI (nD (R σ) + n)), rp_wr (rp_wr σ 2 7 (nI (nD (R σ) + n))) 49 6 (nI (nD (R σ) + n)), cl_of (D_RailPasses_days_0 _ σ) rfl ?_, cl_of (D_Ref_days_0 _ _) rfl ?_, ?_⟩
      · simp (disch := omega) only [lt_nI, nI_add, pk_mul, nI_clamp, nI_leI, nI_ltI, nI_eq, ixT, cond_true, Nat.reduceEqDiff, Nat.reduceLeDiff, reduceIte, s_isWithin, e, thI_RI, c_nD hB, hd, wr_eq]
      · simp (disch := omega) only [lt_nI, nI_add, pk_mul, nI_clamp, nI_leI, nI_ltI, nI_eq, ixT, cond_true, Nat.reduceEqDiff, Nat.reduceLeDiff, reduceIte, s_in, e, thI_RI, wr_n2, r_nD hB.1, hd, wr_eq]
      · have f : Fr (fun a k => (a = 2 ∧ k = 7) ∨ (a = 49 ∧ k = 6)) σ (rp_wr (rp_wr σ 2 7 (nI (nD (R σ) + n))) 49 6 (nI (nD (R σ) + n))) := Fr_wr (Fr_wr Fr_rfl (Or.inl ⟨rfl, rfl⟩)) (Or.inr ⟨rfl, rfl⟩)
        have r0 : ∀ k, k ≠ 6 → R (rp_wr (rp_wr σ 2 7 (nI (nD (R σ) + n))) 49 6 (nI (nD (R σ) + n))) 0 k = R σ 0 k := fun k hk => R_fk f (by omega)
        refine Inv_m (Fr_mo f (fun _ _ => by unfold Mu; omega)) hI (bi_days (m := nD (R σ) + n) hB hd (fun a h8 ha => R_fa f (fun _ => by omega)) r0 ?_ (fun a h8 ha => C_fa f (fun _ => by omega)) ?_) (N1_e (r0 0 (by decide))) (R_fa f (fun _ => by omega))
        · rw [R_at (by decide)]
          exact wr_eq
        · rw [C_at (by decide), wr_n2 (by decide)]
          exact wr_eq
    · refine pm_ro hI (v := -4) (cl_of (D_RailPasses_days_0 _ σ) rfl ?_) (cl_of (D_Ref_days_0 _ σ) rfl ?_)
      · simp (disch := omega) only [lt_nI, nI_add, pk_mul, nI_clamp, nI_leI, nI_ltI, nI_eq, ixT, cond_true, Nat.reduceEqDiff, Nat.reduceLeDiff, reduceIte, s_isWithin, e, thI_RI, c_nD hB, hd]
      · simp (disch := omega) only [lt_nI, nI_add, pk_mul, nI_clamp, nI_leI, nI_ltI, nI_eq, ixT, cond_true, Nat.reduceEqDiff, Nat.reduceLeDiff, reduceIte, s_in, e, thI_RI, r_nD hB.1, hd]
end
