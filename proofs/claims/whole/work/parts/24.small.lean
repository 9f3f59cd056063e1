/-! small methods -/
/-- a number below n -/
noncomputable def hsB (x : Int32) (n : Nat) : Int32 := if 0 ≤ x ∧ x < nI n then 1 else 0
theorem hsB_c (x : Int32) {n : Nat} (hn : n < 2 ^ 31) : hsB x n = nI 0 ∨ ∃ k, k < n ∧ x = nI k ∧ hsB x n = nI 1 := by
  unfold hsB
  split
  next h =>
    obtain ⟨k, hk, rfl⟩ := nI_of (Int32.not_lt.mpr h.1)
    exact Or.inr ⟨k, (nI_ltI hk hn).mp h.2, rfl, rfl⟩
  next h => exact Or.inl rfl
theorem hsB_t {k n : Nat} (h : k < n) (hn : n < 2 ^ 31) : hsB (nI k) n = nI 1 := if_pos ⟨nI_pos' (by omega), nI_lt h hn⟩
theorem inB_c (x : Int32) {a b : Nat} (ha : a < 2 ^ 31) (hb : b < 2 ^ 31) : inB x (nI a) (nI b) = nI 0 ∨ ∃ k, a ≤ k ∧ k ≤ b ∧ x = nI k ∧ inB x (nI a) (nI b) = nI 1 := by
  rcases inB_N (v := x) ha hb with ⟨n, e, h1, h2, h3⟩ | ⟨h, -⟩
  · exact Or.inr ⟨n, h1, h2, e, h3⟩
  · exact Or.inl h
theorem inB_n {k a b : Nat} (ha : a ≤ k) (hk : k ≤ b) (hb : b < 2 ^ 31) : inB (nI k) (nI a) (nI b) = nI 1 := inB_t ⟨nI_le ha (by omega), nI_le hk hb⟩
theorem inB_and (v lo hi : Int32) : inB v lo hi &&& nI 1 = inB v lo hi := by
  unfold inB
  split <;> decide
theorem inB_hs {v : Int32} {n : Nat} (hn : n < 2 ^ 31) : inB v (nI 0) (nI n - nI 1) = hsB v n := by
  unfold hsB
  cases n with
  | zero =>
    rw [inB_f, if_neg]
    · intro h
      exact Int32.lt_irrefl (Int32.lt_of_le_of_lt h.1 h.2)
    · intro h
      have h1 : v ≤ -1 := h.2
      have h2 : (0 : Int32) ≤ v := h.1
      exact absurd (Int32.le_trans h2 h1) (by decide)
  | succ n =>
    rw [show nI (n + 1) - nI 1 = nI n from nI_pred n]
    rcases inB_c v (a := 0) (b := n) (by decide) (by omega) with e | ⟨k, -, hk, rfl, e⟩
    · rw [e, if_neg]
      · rfl
      · intro h
        obtain ⟨j, hj, rfl⟩ := nI_of (Int32.not_lt.mpr h.1)
        have hj2 := (nI_ltI hj hn).mp h.2
        rw [inB_n (Nat.zero_le _) (by omega) (by omega)] at e
        exact absurd e (by decide)
    · rw [e, if_pos ⟨nI_pos' (by omega), nI_lt (by omega) (by omega)⟩]
      rfl
section
variable {sc : rp_Sc} {σ r : rp_Mm}
theorem i_0 : (nI 1 = nI 0) = False := eq_false (by decide)
theorem i_1 : (nI 0 = nI 0) = True := eq_true rfl
theorem s_isStation (v : Int32) : CL sc 14 [.int v] σ = RI (inB v (nI 0) (nI 9)) σ := by
  refine cl_of (D_RailPasses_isStation_0 v σ) rfl ?_
  simp only [s_isWithin, thI_RI, lt_nI, nI_add, pk_mul, inB_and, if_true]
theorem s_isRailway (v : Int32) : CL sc 16 [.int v] σ = RI (inB v (nI 0) (nI 4)) σ := by
  refine cl_of (D_RailPasses_isRailway_0 v σ) rfl ?_
  simp only [s_isWithin, thI_RI, lt_nI, nI_add, pk_mul, inB_and, if_true]
theorem s_isLaw (v : Int32) : CL sc 55 [.int v] σ = RI (inB v (nI 0) (nI 2)) σ := by
  refine cl_of (D_RailPasses_isLaw_0 v σ) rfl ?_
  simp only [s_isWithin, thI_RI, lt_nI, nI_add, pk_mul, inB_and, if_true]
theorem s_isDay (v : Int32) : CL sc 60 [.int v] σ = RI (inB v (nI 0) (nI 120)) σ := by
  refine cl_of (D_RailPasses_isDay_0 v σ) rfl ?_
  simp only [s_isWithin, thI_RI, lt_nI, nI_add, pk_mul, inB_and, if_true]
theorem s_isMinute (v : Int32) : CL sc 26 [.int v] σ = RI (inB v (nI 0) (nI 1439)) σ := by
  refine cl_of (D_RailPasses_isMinute_0 v σ) rfl ?_
  simp only [s_isWithin, thI_RI, lt_nI, nI_add, pk_mul, inB_and, if_true]
theorem s_isPast (h : BI (C σ) r) (v : Int32) : CL sc 120 [.ref 1, .int v] σ = RI (inB v (nI 0) (nI (nD r))) σ := by
  refine cl_of (D_RailPasses_isPast_0 v σ) rfl ?_
  simp only [s_isWithin, thI_RI, lt_nI, nI_add, pk_mul, inB_and, if_true, c_nD h]
theorem x_isStation (v : Int32) : CL sc 150 [.int v] σ = RI (inB v (nI 0) (nI 9)) σ := by
  refine cl_of (D_Ref_isStation_0 v σ) rfl ?_
  simp only [s_in, thI_RI, lt_nI, nI_add, pk_mul, inB_and, if_true]
theorem x_isLaw (v : Int32) : CL sc 159 [.int v] σ = RI (inB v (nI 0) (nI 2)) σ := by
  refine cl_of (D_Ref_isLaw_0 v σ) rfl ?_
  simp only [s_in, thI_RI, lt_nI, nI_add, pk_mul, inB_and, if_true]
theorem x_isDay (v : Int32) : CL sc 173 [.int v] σ = RI (inB v (nI 0) (nI 120)) σ := by
  refine cl_of (D_Ref_isDay_0 v σ) rfl ?_
  simp only [s_in, thI_RI, lt_nI, nI_add, pk_mul, inB_and, if_true]
theorem x_isKnown (h : RB (R σ)) (v : Int32) : CL sc 216 [.ref 48, .int v] σ = RI (inB v (nI 0) (nI (nD (R σ)))) σ := by
  refine cl_of (D_Ref_isKnown_0 v σ) rfl ?_
  simp only [s_in, thI_RI, lt_nI, nI_add, pk_mul, inB_and, if_true, r_nD h]
theorem hsB_and (v : Int32) (n : Nat) : hsB v n &&& nI 1 = hsB v n := by
  unfold hsB
  split <;> decide
theorem x_isTrain (h : RB (R σ)) (v : Int32) : CL sc 154 [.ref 48, .int v] σ = RI (hsB v (nT (R σ))) σ := by
  have bn := b_n h
  refine cl_of (D_Ref_isTrain_0 v σ) rfl ?_
  simp (disch := omega) only [s_in, thI_RI, lt_nI, nI_add, pk_mul, r_nT h, inB_hs, hsB_and, if_true]
theorem x_isPass (h : RB (R σ)) (v : Int32) : CL sc 176 [.ref 48, .int v] σ = RI (hsB v (nP (R σ))) σ := by
  have bn := b_n h
  refine cl_of (D_Ref_isPass_0 v σ) rfl ?_
  simp (disch := omega) only [s_in, thI_RI, lt_nI, nI_add, pk_mul, r_nP h, inB_hs, hsB_and, if_true]
theorem h_ln (h : BI (C σ) r) (v : Int32) : CL sc 25 [.ref 3, .int v] σ = RI (hsB v (nL r)) σ := by
  rw [s_has TB3, c_nL h]; rfl
theorem h_tr (h : BI (C σ) r) (v : Int32) : CL sc 25 [.ref 5, .int v] σ = RI (hsB v (nT r)) σ := by
  rw [s_has TB5, c_nT h]; rfl
theorem h_ps (h : BI (C σ) r) (v : Int32) : CL sc 25 [.ref 9, .int v] σ = RI (hsB v (nP r)) σ := by
  rw [s_has TB9, c_nP h]; rfl
theorem h_rd (h : BI (C σ) r) (v : Int32) : CL sc 25 [.ref 11, .int v] σ = RI (hsB v (nR r)) σ := by
  rw [s_has TB11, c_nR h]; rfl
theorem z_ln (h : BI (C σ) r) : CL sc 19 [.ref 3] σ = RI (nI (nL r)) σ := by rw [s_size TB3, c_nL h]
theorem z_tr (h : BI (C σ) r) : CL sc 19 [.ref 5] σ = RI (nI (nT r)) σ := by rw [s_size TB5, c_nT h]
theorem z_ps (h : BI (C σ) r) : CL sc 19 [.ref 9] σ = RI (nI (nP r)) σ := by rw [s_size TB9, c_nP h]
theorem z_rd (h : BI (C σ) r) : CL sc 19 [.ref 11] σ = RI (nI (nR r)) σ := by rw [s_size TB11, c_nR h]
theorem z_ws (h : BI (C σ) r) : CL sc 19 [.ref 13] σ = RI (nI (nW r)) σ := by rw [s_size TB13, c_nW h]
theorem z_sn (h : BI (C σ) r) : CL sc 19 [.ref 15] σ = RI (nI (nS r)) σ := by rw [s_size TB15, c_nS h]
theorem s_bit (v : Int32) : CL sc 17 [.int v] σ = RI (if v = 0 then 0 else 1) σ := by
  refine cl_of (D_RailPasses_bit_0 v σ) rfl ?_
  split <;> rfl
theorem ov_le (r : rp_Mm) (t : Nat) : ov r t ≤ 1 := by unfold ov; split <;> omega
theorem x_isOver (h : RB (R σ)) {t : Nat} (ht : t < nT (R σ)) : CL sc 155 [.ref 48, .int (nI t)] σ = RI (nI (ov (R σ) t)) σ := by
  have bn := b_n h
  have bq := b_tr h ht
  refine cl_of (D_Ref_isOver_0 _ σ) rfl ?_
  simp (disch := omega) only [lt_nI, nI_add, pk_mul, nI_clamp, nI_leI, nI_ltI, nI_eq, ixT, cond_true, r_tr h ht]
  unfold ov
  (repeat' split) <;> first | rfl | (exfalso; omega) | (simp_all; done)
theorem x_hasLaw (h : RB (R σ)) {l : Nat} (hl : l < 3) : CL sc 171 [.ref 48, .int (nI l)] σ = RI (nI (lw (R σ) l 11)) σ := by
  have bl := b_lw h hl
  refine cl_of (D_Ref_hasLaw_0 _ σ) rfl ?_
  simp (disch := omega) only [lt_nI, nI_add, pk_mul, nI_clamp, nI_leI, nI_ltI, nI_eq, ixT, cond_true, r_lw h hl]
  split
  next e => rw [e]
  next e => rw [show lw (R σ) l 11 = 0 by omega]
theorem x_counted (h : RB (R σ)) {t d n : Nat} (ht : t < nT (R σ)) (hd : d ≤ 121) (hn : n ≤ 24) : CL sc 180 [.ref 48, .int (nI t), .int (nI d), .int (nI n)] σ = RI (nI (cdN (R σ) t d n)) σ := by
  have bn := b_n h
  have bq := b_tr h ht
  have bo := ov_le (R σ) t
  refine cl_of (D_Ref_counted_0 _ _ _ σ) rfl ?_
  simp (disch := omega) only [lt_nI, nI_add, pk_mul, nI_clamp, nI_leI, nI_ltI, nI_eq, ixT, cond_true, r_tr h ht, x_isOver h ht, thI_RI]
  unfold cdN ov
  (repeat' split) <;> first | rfl | (exfalso; omega) | (simp_all; done)
/-- the reference's row of terms -/
theorem x_letsTrain (h : RB (R σ)) {t a q at' : Nat} {g : Nat → Nat} (ht : t < nT (R σ)) (hA : rp_L0[a + 1]? = some (.inl (false, q))) (hq : at' + 11 ≤ q) (hq2 : q < 2 ^ 20) (hg : ∀ k, k < 11 → σ (a + 1) (at' + k) = nI (g k)) (tm : TM g) : CL sc 178 [.ref 48, .ref (a + 1), .int (nI at'), .int (nI t)] σ = RI (nI (leN (R σ) (g 3) (g 4) t)) σ := by
  have bn := b_n h
  have bq := b_tr h ht
  have bl := b_ln h bq.1
  unfold TM at tm
  refine cl_of (D_Ref_letsTrain_0 hA _ _ σ) rfl ?_
  have e : CL sc 179 [.ref (a + 1), .int (nI at'), .int (nI (tr (R σ) t 0)), .int (nI (ln (R σ) (tr (R σ) t 0) 2))] σ = RI (nI (leN (R σ) (g 3) (g 4) t)) σ := by
    refine cl_of (D_Ref_lets_0 hA _ _ _ σ) rfl ?_
    simp (disch := omega) only [lt_nI, nI_add, pk_mul, nI_clamp, nI_leI, nI_ltI, nI_eq, ixT, cond_true, hg, sh_b, bt_e]
    unfold leN
    split
    · split
      · rw [if_pos (by omega)]
      · rw [if_neg (by omega)]
    · rw [if_neg (by omega)]
  simp (disch := omega) only [lt_nI, nI_add, pk_mul, nI_clamp, nI_leI, nI_ltI, nI_eq, ixT, cond_true, r_tr h ht, r_tr0 h ht, r_ln h bq.1, e, thI_RI]
  unfold leN
  split <;> rfl
theorem x_pays (h : RB (R σ)) {t a q at' : Nat} {g : Nat → Nat} (ht : t < nT (R σ)) (hA : rp_L0[a + 1]? = some (.inl (false, q))) (hq : at' + 11 ≤ q) (hq2 : q < 2 ^ 20) (hg : ∀ k, k < 11 → σ (a + 1) (at' + k) = nI (g k)) (tm : TM g) : CL sc 186 [.ref 48, .ref (a + 1), .int (nI at'), .int (nI t)] σ = RI (nI (paysN (R σ) (g 6) (g 7) t)) σ := by
  have bn := b_n h
  have bq := b_tr h ht
  have bl := b_ln h bq.1
  unfold TM at tm
  refine cl_of (D_Ref_pays_0 hA _ _ σ) rfl ?_
  have hm : tr (R σ) t 6 * g 7 ≤ 500 * 100 := Nat.mul_le_mul (by omega) (by omega)
  simp (disch := omega) only [lt_nI, nI_add, pk_mul, nI_clamp, nI_leI, nI_ltI, nI_eq, ixT, cond_true, r_tr h ht, r_tr0 h ht, r_ln h bq.1, hg]
  have e1 : tr (R σ) t 5 = 0 ∨ tr (R σ) t 5 = 1 := by omega
  have e2 : ln (R σ) (tr (R σ) t 0) 4 = 0 ∨ ln (R σ) (tr (R σ) t 0) 4 = 1 := by omega
  unfold paysN boatN
  rcases e1 with e1 | e1 <;> rcases e2 with e2 | e2 <;> rw [e1, e2] <;> simp only [Nat.zero_mul, Nat.one_mul] <;> rw [pk_div (by omega) (by decide) (by decide), nI_add] <;> rfl
theorem cdN_le (r : rp_Mm) (t d n : Nat) : d ≤ cdN r t d n ∧ cdN r t d n ≤ d + 1 := by unfold cdN; split <;> omega
theorem leN_le (r : rp_Mm) (a b t : Nat) : leN r a b t ≤ 1 := by unfold leN; split <;> omega
theorem paysN_le {r : rp_Mm} (h : RB r) {t f b : Nat} (ht : t < nT r) (hf : f ≤ 999) (hb : b ≤ 100) : paysN r f b t ≤ 1499 := by
  have bq := b_tr h ht
  have hm : tr r t 6 * b ≤ 500 * 100 := Nat.mul_le_mul (by omega) (by omega)
  unfold paysN boatN
  split <;> split <;> omega
/-- the class's table of terms -/
theorem y_lets (h : BJ (C σ) r) {T tc tq tl tw t : Nat} {x : Int32} {g : Nat → Nat} (ht : t < nT r) (hT : TB T tc tq tl tw) (hg : ∀ q, q < 11 → CL sc 20 [.ref T, .int x, .int (nI q)] σ = RI (nI (g q)) σ) (tm : TM g) : CL sc 74 [.ref 2, .ref T, .int x, .int (nI t)] σ = RI (nI (leN r (g 3) (g 4) t)) σ := by
  have bn := b_n h.1
  have bq := b_tr h.1 ht
  have bl := b_ln h.1 bq.1
  unfold TM at tm
  have e : ∀ y, EV sc (74, 0, 0, 43, [.ref 2, .ref T, .int x, .int (nI t), .int (nI (tr r t 0)), .int (nI (ln r (tr r t 0) 2)), rp_U, rp_U], [.int (nI y)], (rp_L0, σ)) = RI (if nI y = nI 0 then nI 0 else if bt (g 4) (tr r t 0) = 1 then nI 0 else nI 1) σ := by
    intro y
    refine ev_of (D_Book_lets_43 hT.1 hT.2.1 _ _ _ _ _ σ) ?_
    simp (disch := omega) only [lt_nI, nI_add, pk_mul, nI_clamp, nI_leI, nI_ltI, nI_eq, ixT, cond_true, hg, thI_RI, sh_b, bt_e]
    by_cases hy : nI y = nI 0
    · simp only [hy, if_true]
      split <;> rfl
    · simp only [hy, if_false, ↓reduceIte]
      split <;> simp [*]
  refine cl_of (D_Book_lets_0 hT.1 hT.2.1 _ _ σ) rfl ?_
  simp (disch := omega) only [lt_nI, nI_add, pk_mul, nI_clamp, nI_leI, nI_ltI, nI_eq, ixT, cond_true, j_tr h ht, j_ln h bq.1, hg, thI_RI, sh_b, bt_e, e]
  have b1 := bt_lt (g 4) (tr r t 0)
  unfold leN
  by_cases h1 : bt (g 3) (ln r (tr r t 0) 2) = 1 <;> by_cases h2 : bt (g 4) (tr r t 0) = 1 <;> simp [h1, h2, i_0, show ¬ (1 : Nat) = 0 by decide]
  rw [if_pos (by omega)]
theorem s_percents {a b : Nat} (hm : a * b < 2 ^ 31) : CL sc 62 [.int (nI a), .int (nI b)] σ = RI (nI (a * b / 100)) σ := by
  refine cl_of (D_RailPasses_percents_0 _ _ σ) rfl ?_
  rw [lt_nI, pk_mul, pk_div hm (by decide) (by decide)]
theorem y_pays (h : BJ (C σ) r) {T tc tq tl tw t : Nat} {x : Int32} {g : Nat → Nat} (ht : t < nT r) (hT : TB T tc tq tl tw) (hg : ∀ q, q < 11 → CL sc 20 [.ref T, .int x, .int (nI q)] σ = RI (nI (g q)) σ) (tm : TM g) : CL sc 78 [.ref 2, .ref T, .int x, .int (nI t)] σ = RI (nI (paysN r (g 6) (g 7) t)) σ := by
  have bn := b_n h.1
  have bq := b_tr h.1 ht
  have bl := b_ln h.1 bq.1
  unfold TM at tm
  have hm : tr r t 6 * g 7 ≤ 500 * 100 := Nat.mul_le_mul (by omega) (by omega)
  have e : ∀ y : Nat, EV sc (78, 0, 0, 28, [.ref 2, .ref T, .int x, .int (nI t), .int (nI y)], [], (rp_L0, σ)) = RI (nI (y + boatN r (g 7) t)) σ := by
    intro y
    refine ev_of (D_Book_pays_28 hT.1 hT.2.1 _ _ _ σ) ?_
    simp (disch := omega) only [lt_nI, nI_add, pk_mul, nI_clamp, nI_leI, nI_ltI, nI_eq, ixT, cond_true, j_tr h ht, j_ln h bq.1, hg, thI_RI, s_percents]
    unfold boatN
    (repeat' split) <;> first | rfl | (exfalso; omega) | (simp_all; done)
  refine cl_of (D_Book_pays_0 hT.1 hT.2.1 _ _ σ) rfl ?_
  simp (disch := omega) only [lt_nI, nI_add, pk_mul, nI_clamp, nI_leI, nI_ltI, nI_eq, ixT, cond_true, j_tr h ht, j_ln h bq.1, hg, thI_RI, e]
  unfold paysN
  split
  · rw [Nat.zero_add]
  · rfl
theorem y_cday (h : BJ (C σ) r) {T tc tq tl tw t d : Nat} {x : Int32} {g : Nat → Nat} (ht : t < nT r) (hT : TB T tc tq tl tw) (hg : ∀ q, q < 11 → CL sc 20 [.ref T, .int x, .int (nI q)] σ = RI (nI (g q)) σ) (tm : TM g) (hd : d ≤ 121) : CL sc 73 [.ref 2, .ref T, .int x, .int (nI t), .int (nI d)] σ = RI (nI (cdN r t d (g 5))) σ := by
  have bn := b_n h.1
  have bq := b_tr h.1 ht
  have bo := ov_le r t
  unfold TM at tm
  have e : ∀ y : Nat, y < 2 → EV sc (73, 0, 0, 26, [.ref 2, .ref T, .int x, .int (nI t), .int (nI d), rp_U], [.int (nI y)], (rp_L0, σ)) = RI (nI (if ov r t = 1 ∧ y = 1 then d + 1 else d)) σ := by
    intro y hy
    refine ev_of (D_Book_countedDay_26 hT.1 hT.2.1 _ _ _ _ σ) ?_
    simp (disch := omega) only [lt_nI, nI_add, pk_mul, nI_clamp, nI_leI, nI_ltI, nI_eq, ixT, cond_true, j_tr8 h ht, thI_RI]
    (repeat' split) <;> first | rfl | (exfalso; omega) | (simp_all; done)
  refine cl_of (D_Book_countedDay_0 hT.1 hT.2.1 _ _ _ σ) rfl ?_
  simp (disch := omega) only [lt_nI, nI_add, pk_mul, nI_clamp, nI_leI, nI_ltI, nI_eq, ixT, cond_true, j_tr h ht, hg, thI_RI, e]
  have eo : ov r t = 1 ↔ 1440 ≤ tr r t 3 + tr r t 4 := by unfold ov; split <;> omega
  unfold cdN
  split
  · rw [if_neg (by omega), if_neg (by omega)]
  · by_cases h1 : 1440 ≤ tr r t 3 + tr r t 4
    · rw [if_pos ⟨eo.mpr h1, trivial⟩, if_pos (by omega)]
    · rw [if_neg (fun h => h1 (eo.mp h.1)), if_neg (by omega)]
end
