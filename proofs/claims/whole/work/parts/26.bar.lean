/-! refunds, bars -/
def pctN (r : rp_Mm) (p : Nat) : Nat := if ps r p 13 = 1 then ps r p 10 else ps r p 9
def refN (r : rp_Mm) (p : Nat) : Nat := ps r p 14 * (ps r p 0 - cdays r p) * pctN r p / (100 * ps r p 0)
def quN (r : rp_Mm) (t d : Nat) : Nat := if tr r t 5 = 1 ∧ tr r t 7 ≤ onN r t d then 5 else 0
def barN (r : rp_Mm) (p t d : Nat) : Nat :=
  if leN r (ps r p 3) (ps r p 4) t = 0 then 1
  else if cdN r t d (ps r p 5) < ps r p 12 ∨ ps r p 12 + ps r p 1 - 1 < cdN r t d (ps r p 5) then 2
  else if ps r p 13 = 1 then 3
  else if isC r p (cdN r t d (ps r p 5)) (nR r) = false ∧ cdays r p = ps r p 0 then 4
  else quN r t d
theorem ref_b {r : rp_Mm} (h : RB r) {p : Nat} (hp : p < nP r) : ps r p 14 * (ps r p 0 - cdays r p) ≤ 59940 ∧ ps r p 14 * (ps r p 0 - cdays r p) * pctN r p ≤ 5994000 ∧ pctN r p ≤ 100 := by
  have b := b_ps h hp
  have tm := b.1
  unfold TM at tm
  have h1 : pctN r p ≤ 100 := by unfold pctN; split <;> omega
  have h2 : ps r p 14 * (ps r p 0 - cdays r p) ≤ 999 * 60 := Nat.mul_le_mul (by omega) (by omega)
  have h3 : ps r p 14 * (ps r p 0 - cdays r p) * pctN r p ≤ 999 * 60 * 100 := Nat.mul_le_mul h2 h1
  exact ⟨by omega, by omega, h1⟩
/-- never more than the pass cost -/
theorem refN_le {r : rp_Mm} (h : RB r) {p : Nat} (hp : p < nP r) : refN r p ≤ 999 := by
  have b := b_ps h hp
  obtain ⟨-, -, h1⟩ := ref_b h hp
  unfold refN
  refine Nat.div_le_of_le_mul ?_
  have h2 : ps r p 14 * (ps r p 0 - cdays r p) * pctN r p ≤ 999 * ps r p 0 * 100 := Nat.mul_le_mul (Nat.mul_le_mul (by omega) (by omega)) h1
  have e : 100 * ps r p 0 * 999 = 999 * ps r p 0 * 100 := by omega
  omega
theorem barN_le (r : rp_Mm) (p t d : Nat) : barN r p t d ≤ 5 := by
  unfold barN quN
  (repeat' split) <;> omega
section
variable {sc : rp_Sc} {σ r : rp_Mm}
theorem x_refundOf (h : RB (R σ)) {p : Nat} (hp : p < nP (R σ)) : CL sc 192 [.ref 48, .int (nI p)] σ = RI (nI (refN (R σ) p)) σ := by
  have bn := b_n h
  have b := b_ps h hp
  have tm := b.1
  unfold TM at tm
  obtain ⟨c1, c2, c3⟩ := ref_b h hp
  have e : EV sc (192, 0, 0, 39, [.ref 48, .int (nI p), .int (nI (16 * p)), rp_U, rp_U], [.int (nI (pctN (R σ) p))], (rp_L0, σ)) = RI (nI (refN (R σ) p)) σ := by
    refine ev_of (D_Ref_refundOf_39 _ _ _ σ) ?_
    simp (disch := omega) only [lt_nI, nI_add, pk_mul, nI_clamp, nI_leI, nI_ltI, nI_eq, ixT, cond_true, r_ps h hp, x_countedDays h hp, thI_RI, pk_sub, pk_div]
    rw [if_neg (by omega)]
    rfl
  refine cl_of (D_Ref_refundOf_0 _ σ) rfl ?_
  simp (disch := omega) only [lt_nI, nI_add, pk_mul, nI_clamp, nI_leI, nI_ltI, nI_eq, ixT, cond_true, r_ps h hp]
  unfold pctN at e
  split
  next h1 => rw [if_pos h1] at e; exact e
  next h1 => rw [if_neg h1] at e; exact e
theorem y_isLost (h : BI (C σ) r) {p : Nat} (hp : p < nP r) : CL sc 69 [.ref 2, .int (nI p)] σ = RI (nI (ps r p 13)) σ := by
  have b := b_ps h.1 hp
  refine cl_of (D_Book_isLost_0 _ σ) rfl ?_
  simp (disch := omega) only [lt_nI, nI_add, pk_mul, nI_clamp, nI_leI, nI_ltI, nI_eq, ixT, cond_true, g_ps14 h hp, thI_RI]
  split
  next e => rw [e]
  next e => rw [show ps r p 13 = 0 by omega]
theorem y_lastGoodDay (h : BI (C σ) r) {p : Nat} (hp : p < nP r) : CL sc 70 [.ref 2, .int (nI p)] σ = RI (nI (ps r p 12 + ps r p 1 - 1)) σ := by
  have b := b_ps h.1 hp
  refine cl_of (D_Book_lastGoodDay_0 _ σ) rfl ?_
  simp (disch := omega) only [lt_nI, nI_add, pk_mul, nI_clamp, nI_leI, nI_ltI, nI_eq, ixT, cond_true, g_ps13 h hp, g_ps h hp, thI_RI, pk_sub]
theorem y_refund (h : BI (C σ) r) {p : Nat} (hp : p < nP r) : CL sc 68 [.ref 2, .int (nI p)] σ = RI (nI (refN r p)) σ := by
  have bn := b_n h.1
  have b := b_ps h.1 hp
  have tm := b.1
  unfold TM at tm
  obtain ⟨c1, c2, c3⟩ := ref_b h.1 hp
  have e : ∀ q, q < 11 → ps r p q = pctN r p → EV sc (68, 0, 0, 36, [.ref 2, .int (nI p), .int (nI (ps r p 0)), rp_U], [.int (nI q), .int (nI p), .ref 9], (rp_L0, σ)) = RI (nI (refN r p)) σ := by
    intro q hq eq
    refine ev_of (D_Book_refund_36 _ _ _ _ σ) ?_
    simp (disch := omega) only [lt_nI, nI_add, pk_mul, nI_clamp, nI_leI, nI_ltI, nI_eq, ixT, cond_true, g_ps h hp, g_ps11 h hp, y_countedDays h hp, thI_RI, pk_sub, eq, pk_div]
    rw [if_neg (by omega)]
    rfl
  refine cl_of (D_Book_refund_0 _ σ) rfl ?_
  simp (disch := omega) only [lt_nI, nI_add, pk_mul, nI_clamp, nI_leI, nI_ltI, nI_eq, ixT, cond_true, g_ps h hp, y_isLost h hp, thI_RI]
  rw [if_pos (by omega)]
  unfold pctN at e
  split
  next h1 => exact e 9 (by decide) (by rw [if_neg (by omega)])
  next h1 => exact e 10 (by decide) (by rw [if_pos (by omega)])
theorem x_bar (h : RB (R σ)) {p t d : Nat} (hp : p < nP (R σ)) (ht : t < nT (R σ)) (hd : d ≤ 120) : CL sc 177 [.ref 48, .int (nI p), .int (nI t), .int (nI d)] σ = RI (nI (barN (R σ) p t d)) σ := by
  have bn := b_n h
  have b := b_ps h hp
  have bq := b_tr h ht
  have tm := b.1
  unfold TM at tm
  have bo : onN (R σ) t d ≤ nR (R σ) := cnt_le _ _
  have bl := leN_le (R σ) (ps (R σ) p 3) (ps (R σ) p 4) t
  have bc := cdN_le (R σ) t d (ps (R σ) p 5)
  have e1 := x_letsTrain (sc := sc) h (a := 52) (q := 128) (at' := 16 * p) (g := ps (R σ) p) ht rfl (by omega) (by decide) (fun k hk => r_ps h hp (by omega)) b.1
  have e2 : ∀ y1 y2 : Int32, EV sc (177, 0, 0, 132, [.ref 48, .int (nI p), .int (nI t), .int (nI d), .int y1, .int y2], [], (rp_L0, σ)) = RI (nI (quN (R σ) t d)) σ := by
    intro y1 y2
    refine ev_of (D_Ref_bar_132 _ _ _ _ _ σ) ?_
    simp (disch := omega) only [lt_nI, nI_add, pk_mul, nI_clamp, nI_leI, nI_ltI, nI_eq, ixT, cond_true, r_tr h ht, x_takenOn h ht hd, thI_RI]
    unfold quN
    (repeat' split) <;> first | rfl | (exfalso; omega) | (simp_all; done)
  refine cl_of (D_Ref_bar_0 _ _ _ σ) rfl ?_
  simp (disch := omega) only [lt_nI, nI_add, pk_mul, nI_clamp, nI_leI, nI_ltI, nI_eq, ixT, cond_true, e1, r_ps h hp, r_nR h, x_counted h ht, thI_RI, pk_sub, s_in, e2, x_countedDays h hp, x_isCounted h hp]
  unfold barN
  split
  next h1 => first | rfl | rw [if_pos h1]
  next h1 =>
    try rw [if_neg h1]
    by_cases h2 : cdN (R σ) t d (ps (R σ) p 5) < ps (R σ) p 12 ∨ ps (R σ) p 12 + ps (R σ) p 1 - 1 < cdN (R σ) t d (ps (R σ) p 5)
    · rw [if_pos h2, inB_f, if_pos (show (0 : Int32) = nI 0 from rfl)]
      intro hh
      rw [nI_leI (by omega) (by omega), nI_leI (by omega) (by omega)] at hh
      omega
    · rw [if_neg h2, inB_n (by omega) (by omega) (by omega), if_neg (by decide)]
      split
      next h3 => first | rfl | rw [if_pos h3]
      next h3 =>
        try rw [if_neg h3]
        rcases Bool.eq_false_or_eq_true (isC (R σ) p (cdN (R σ) t d (ps (R σ) p 5)) (nR (R σ))) with h4 | h4
        · simp only [h4, b2, cond_true, i_0, if_false, Bool.true_eq_false, false_and]
        · simp only [h4, b2, cond_false, i_1, if_true, true_and]
          (repeat' split) <;> first | rfl | (exfalso; omega) | (simp_all; done)
theorem y_bar (h : BI (C σ) r) {p t d : Nat} (hp : p < nP r) (ht : t < nT r) (hd : d ≤ 120) : CL sc 72 [.ref 2, .int (nI p), .int (nI t), .int (nI d)] σ = RI (nI (barN r p t d)) σ := by
  have bn := b_n h.1
  have b := b_ps h.1 hp
  have bq := b_tr h.1 ht
  have tm := b.1
  unfold TM at tm
  have bo : onN r t d ≤ nR r := cnt_le _ _
  have bl := leN_le r (ps r p 3) (ps r p 4) t
  have bc := cdN_le r t d (ps r p 5)
  have hg : ∀ q, q < 11 → CL sc 20 [.ref 9, .int (nI p), .int (nI q)] σ = RI (nI (ps r p q)) σ := fun q hq => g_ps h hp hq
  have e1 := y_lets (sc := sc) (BJ_of h) ht TB9 hg b.1
  have e3 := y_cday (sc := sc) (BJ_of h) (d := d) ht TB9 hg b.1 (by omega)
  have e2 : ∀ y2 : Int32, EV sc (72, 0, 0, 101, [.ref 2, .int (nI p), .int (nI t), .int (nI d), .int y2], [], (rp_L0, σ)) = RI (nI (quN r t d)) σ := by
    intro y2
    refine ev_of (D_Book_bar_101 _ _ _ _ σ) ?_
    simp (disch := omega) only [lt_nI, nI_add, pk_mul, nI_clamp, nI_leI, nI_ltI, nI_eq, ixT, cond_true, g_tr h ht, y_ridesOn h ht hd, thI_RI]
    unfold quN
    (repeat' split) <;> first | rfl | (exfalso; omega) | (simp_all; done)
  refine cl_of (D_Book_bar_0 _ _ _ σ) rfl ?_
  simp (disch := omega) only [lt_nI, nI_add, pk_mul, nI_clamp, nI_leI, nI_ltI, nI_eq, ixT, cond_true, e1, e3, thI_RI, e2, g_ps13 h hp, g_ps h hp, y_lastGoodDay h hp, y_isLost h hp, z_rd h, y_countedDays h hp, y_isCounted h hp]
  unfold barN
  split
  next h1 => first | rfl | rw [if_pos h1]
  next h1 =>
    try rw [if_neg h1]
    by_cases h2 : cdN r t d (ps r p 5) < ps r p 12 ∨ ps r p 12 + ps r p 1 - 1 < cdN r t d (ps r p 5)
    · rw [if_pos h2]
      (repeat' split) <;> first | rfl | (exfalso; omega) | (simp_all; done)
    · rw [if_neg h2, if_neg (show ¬ cdN r t d (ps r p 5) < ps r p 12 by omega), if_pos (show cdN r t d (ps r p 5) ≤ ps r p 12 + ps r p 1 - 1 by omega)]
      by_cases h3 : ps r p 13 = 1
      · rw [if_pos h3, if_neg (by omega)]
      · rw [if_neg h3, if_pos (by omega)]
        rcases Bool.eq_false_or_eq_true (isC r p (cdN r t d (ps r p 5)) (nR r)) with h4 | h4
        · simp only [h4, b2, cond_true, i_0, if_false, Bool.true_eq_false, false_and]
        · simp only [h4, b2, cond_false, i_1, if_true, true_and]
          (repeat' split) <;> first | rfl | (exfalso; omega) | (simp_all; done)
end
