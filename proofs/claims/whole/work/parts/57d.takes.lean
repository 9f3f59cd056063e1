/-! the reference takes days one by one -/
section
variable {sc : rp_Sc} {σ μ : rp_Mm}
theorem x_fares (h : RB (R σ)) : CL sc 201 [.ref 48] σ = RI (nI (frN (R σ) (nW (R σ)))) σ := by
  have bn := b_n h
  have L := lp (E := fun w => EV sc (201, 0, 0, 4, [.ref 48, .int (nI (frN (R σ) w)), .int (nI w)], [], (rp_L0, σ))) (n := nW (R σ)) (fun w hw => by
    have bw := b_ws h hw
    refine rp_Le_tr ?_ (D_Ref_fares_4 _ _ σ)
    simp (disch := omega) only [lt_nI, nI_add, pk_mul, nI_clamp, nI_leI, nI_ltI, nI_eq, ixT, cond_true, r_nW h, show ¬ nW (R σ) ≤ w by omega, if_false, r_ws0 h hw, r_tr h bw.1]
    exact rp_Le_rfl)
  refine cl_le rfl (rp_Le_tr (rp_Le_tr (rp_Le_tr ?_ (D_Ref_fares_4 _ _ σ)) L) (D_Ref_fares_0 σ))
  simp (disch := omega) only [r_nW h, nI_leI, Nat.le_refl, if_true]
  exact rp_Le_rfl
theorem x_countedWish (h : RB (R σ)) {w l : Nat} (hw : w < nW (R σ)) (hl : l < 3) : CL sc 200 [.ref 48, .int (nI w), .int (nI l)] σ = RI (nI (cwN (R σ) (lw (R σ) l) w)) σ := by
  have bn := b_n h
  have bw := b_ws h hw
  have tm := (b_lw h hl).1
  unfold TM at tm
  refine cl_of (D_Ref_countedWish_0 _ _ σ) rfl ?_
  simp (disch := omega) only [lt_nI, nI_add, pk_mul, nI_clamp, nI_leI, nI_ltI, nI_eq, ixT, cond_true, r_ws0 h hw, r_ws h hw, r_lw h hl, x_counted h bw.1, thI_RI]
  rfl
/-- the gain: what is told if it is none doesn't matter -/
theorem x_gainOf (h : RB (R σ)) {w l : Nat} (hw : w < nW (R σ)) (hl : l < 3) : ∃ v : Int32, CL sc 199 [.ref 48, .int (nI w), .int (nI l)] σ = RI v σ ∧ ((goN (R σ) (lw (R σ) l) w = 1 ∧ v = nI (gaN (R σ) (lw (R σ) l) w) ∧ 0 < gaN (R σ) (lw (R σ) l) w) ∨ (goN (R σ) (lw (R σ) l) w = 0 ∧ gaN (R σ) (lw (R σ) l) w = 0 ∧ v ≤ 0)) := by
  have bn := b_n h
  have bw := b_ws h hw
  have tm := (b_lw h hl).1
  have tm' := tm
  unfold TM at tm'
  have l1 := fa_le h hw
  have l2 : pyN (R σ) (lw (R σ) l) w ≤ 1499 := paysN_le h bw.1 (by omega) (by omega)
  have l3 := leN_le (R σ) (lw (R σ) l 3) (lw (R σ) l 4) (ws (R σ) w 0)
  have e1 := x_letsTrain (sc := sc) h (a := 51) (q := 48) (at' := 12 * l) (g := lw (R σ) l) bw.1 rfl (by omega) (by decide) (fun k hk => r_lw h hl (by omega)) tm
  have e2 : CL sc 186 [.ref 48, .ref 52, .int (nI (12 * l)), .int (nI (ws (R σ) w 0))] σ = RI (nI (pyN (R σ) (lw (R σ) l) w)) σ := x_pays (sc := sc) h (a := 51) (q := 48) (at' := 12 * l) (g := lw (R σ) l) bw.1 rfl (by omega) (by decide) (fun k hk => r_lw h hl (by omega)) tm
  have e3 : σ 51 (8 * ws (R σ) w 0 + 6) = nI (faN (R σ) w) := r_tr h bw.1 (by decide)
  by_cases hc : leN (R σ) (lw (R σ) l 3) (lw (R σ) l 4) (ws (R σ) w 0) = 1
  · refine ⟨nI (faN (R σ) w) - nI (pyN (R σ) (lw (R σ) l) w), cl_of (D_Ref_gainOf_0 _ _ σ) rfl ?_, ?_⟩
    · simp (disch := omega) only [lt_nI, nI_add, pk_mul, nI_clamp, nI_leI, nI_ltI, nI_eq, ixT, cond_true, r_ws0 h hw, e1, thI_RI, hc, e3, e2, Nat.reduceEqDiff, reduceIte]
    · by_cases h2 : pyN (R σ) (lw (R σ) l) w < faN (R σ) w
      · refine Or.inl ?_
        unfold goN gaN
        rw [if_pos ⟨hc, h2⟩, if_pos ⟨hc, h2⟩, pk_sub (by omega)]
        exact ⟨rfl, rfl, by omega⟩
      · refine Or.inr ?_
        unfold goN gaN
        rw [if_neg (fun q => h2 q.2), if_neg (fun q => h2 q.2)]
        refine ⟨rfl, rfl, ?_⟩
        by_cases e : faN (R σ) w = pyN (R σ) (lw (R σ) l) w
        · rw [e, Int32.sub_self]; decide
        · exact Int32.le_of_lt (pk_sneg (by omega) (by omega))
  · refine ⟨0, cl_of (D_Ref_gainOf_0 _ _ σ) rfl ?_, Or.inr ?_⟩
    · simp (disch := omega) only [lt_nI, nI_add, pk_mul, nI_clamp, nI_leI, nI_ltI, nI_eq, ixT, cond_true, r_ws0 h hw, e1, thI_RI, show leN (R σ) (lw (R σ) l 3) (lw (R σ) l 4) (ws (R σ) w 0) = 0 by omega, if_true]
    · unfold goN gaN
      rw [if_neg (fun q => hc q.1), if_neg (fun q => hc q.1)]
      exact ⟨rfl, rfl, by decide⟩
/-- the reference's rows of gains -/
def GM (σ μ : rp_Mm) (l n : Nat) : Prop := Fr (fun a _ => 58 ≤ a ∧ a ≤ 60) σ μ ∧ ∀ d, d < 122 → μ 58 d = nI (gd (R σ) (lw (R σ) l) n d) ∧ μ 59 d = nI (qd (R σ) (lw (R σ) l) n d) ∧ μ 60 d = nI 0
theorem x_gains (h : RB (R σ)) {l s0 : Nat} (hl : l < 3) : ∃ μ, GM σ μ l (nW (R σ)) ∧ rp_Le (EV sc (198, 0, 0, 37, [.ref 48, .int (nI l), .int (nI s0), .int (nI (nW (R σ))), rp_U, rp_U, rp_U], [], (rp_L0, μ))) (EV sc (198, 0, 0, 0, [.ref 48, .int (nI l), .int (nI s0), rp_U, rp_U, rp_U, rp_U], [], (rp_L0, σ))) := by
  have bn := b_n h
  obtain ⟨μ0, ⟨f0, v0⟩, L0⟩ := lp_inv (E := fun i μ => EV sc (198, 0, 0, 2, [.ref 48, .int (nI l), .int (nI s0), .int (nI i), rp_U, rp_U, rp_U], [], (rp_L0, μ))) (fun i μ => Fr (fun a _ => 58 ≤ a ∧ a ≤ 60) σ μ ∧ ∀ d, d < i → μ 58 d = nI 0 ∧ μ 59 d = nI 0 ∧ μ 60 d = nI 0) (n := 122) (fun i μ hi hR => by
    obtain ⟨f, v⟩ := hR
    refine ⟨rp_wr (rp_wr (rp_wr μ 58 i (nI 0)) 59 i (nI 0)) 60 i (nI 0), ⟨Fr_wr (Fr_wr (Fr_wr f (by omega)) (by omega)) (by omega), fun d hd => ?_⟩, rp_Le_tr ?_ (D_Ref_takes_2 _ _ _ μ)⟩
    · by_cases e : d = i
      · subst e
        simp (disch := omega) only [wr_n2, wr_eq]
        exact ⟨trivial, trivial, trivial⟩
      · simp (disch := omega) only [wr_n2, wr_nk]
        exact v d (by omega)
    · simp (disch := omega) only [lt_nI, nI_add, pk_mul, nI_clamp, nI_leI, nI_ltI, nI_eq, ixT, cond_true, show ¬ 122 ≤ i by omega, if_false]
      exact rp_Le_rfl) (s := σ) ⟨Fr_rfl, fun d hd => absurd hd (by omega)⟩
  obtain ⟨μ1, m1, L1⟩ := lp_inv (E := fun w μ => EV sc (198, 0, 0, 37, [.ref 48, .int (nI l), .int (nI s0), .int (nI w), rp_U, rp_U, rp_U], [], (rp_L0, μ))) (fun w μ => GM σ μ l w) (n := nW (R σ)) (fun w μ hw hR => by
    obtain ⟨f, v⟩ := hR
    have rμ : R μ = R σ := R_fr f (fun a k ha => by omega)
    have hR' : RB (R μ) := by rw [rμ]; exact h
    obtain ⟨x, cx, hx⟩ := x_gainOf (sc := sc) (σ := μ) (w := w) hR' (by rw [rμ]; exact hw) hl
    have cd := x_countedWish (sc := sc) (σ := μ) (w := w) hR' (by rw [rμ]; exact hw) hl
    rw [rμ] at hx cd
    obtain ⟨d, ed⟩ : ∃ d, d = cwN (R σ) (lw (R σ) l) w := ⟨_, rfl⟩
    have dl : d ≤ 121 := by rw [ed]; exact cw_le h hw
    rw [← ed] at cd
    have gl := ga_le (g := lw (R σ) l) h hw
    have vd := v d (by omega)
    have zw : μ 49 4 = nI (nW (R σ)) := by rw [f _ _ (by omega)]; exact r_nW h
    have T102 : ∀ (x4 : Int32) (y0 y1 : Nat) (μ : rp_Mm), rp_Le (EV sc (198, 0, 0, 37, [.ref 48, .int (nI l), .int (nI s0), .int (nI (w + 1)), rp_U, rp_U, rp_U], [], (rp_L0, rp_wr μ 59 d (nI (y1 + y0))))) (EV sc (198, 0, 0, 102, [.ref 48, .int (nI l), .int (nI s0), .int (nI w), .int x4, .int (nI d), rp_U], [.int (nI y0), .int (nI y1), .int (nI d), .ref 59], (rp_L0, μ))) := fun x4 y0 y1 μ => by
      refine rp_Le_tr ?_ (D_Ref_takes_102 _ _ _ _ _ _ _ _ μ)
      simp (disch := omega) only [lt_nI, nI_add, pk_mul, nI_clamp, nI_leI, nI_ltI, nI_eq, ixT, cond_true]
      exact rp_Le_rfl
    refine ⟨rp_wr (rp_wr μ 58 d (nI (gd (R σ) (lw (R σ) l) w d + gaN (R σ) (lw (R σ) l) w))) 59 d (nI (qd (R σ) (lw (R σ) l) w d + goN (R σ) (lw (R σ) l) w)), ⟨Fr_wr (Fr_wr f (by omega)) (by omega), fun c hc => ?_⟩, rp_Le_tr ?_ (D_Ref_takes_37 _ _ _ μ)⟩
    · rw [gd_s, qd_s, ← ed]
      by_cases e : c = d
      · subst e
        simp (disch := omega) only [wr_n2, wr_eq, if_true]
        exact ⟨trivial, trivial, vd.2.2⟩
      · have e' : ¬ d = c := fun q => e q.symm
        simp (disch := omega) only [wr_n2, wr_nk, e', if_false, Nat.add_zero]
        exact v c hc
    · simp (disch := omega) only [zw, nI_leI, show ¬ nW (R σ) ≤ w by omega, if_false, cx, thI_RI, cd, ixT, cond_true, nI_clamp, vd.1]
      rcases hx with ⟨h1, h2, h3⟩ | ⟨h1, h2, h3⟩
      · have hn0 : ¬ x ≤ 0 := by rw [h2]; exact nI_nle h3 (by omega)
        rw [if_neg hn0, h1]
        refine rp_Le_tr (rp_Le_tr (T102 x 1 (qd (R σ) (lw (R σ) l) w d) _) ?_) (D_Ref_takes_82 _ _ _ _ _ _ _ _ μ)
        rw [h2]
        rw [h2] at hn0
        simp (disch := omega) only [ixT, cond_true, nI_clamp, eq_false hn0, if_false, nI_add, wr_n2, vd.2.1]
        exact rp_Le_rfl
      · rw [if_pos h3, h1, h2]
        refine rp_Le_tr (rp_Le_tr (T102 x 0 (qd (R σ) (lw (R σ) l) w d) _) ?_) (D_Ref_takes_82 _ _ _ _ _ _ _ _ μ)
        simp (disch := omega) only [lt_nI, ixT, cond_true, nI_clamp, nI_add, wr_n2, vd.2.1]
        simp only [eq_true (show x ≤ nI 0 from h3), if_true]
        exact rp_Le_rfl) (s := μ0) ⟨f0, fun d hd => v0 d hd⟩
  refine ⟨μ1, m1, rp_Le_tr L1 (rp_Le_tr (rp_Le_tr (rp_Le_tr ?_ (D_Ref_takes_2 _ _ _ μ0)) L0) (D_Ref_takes_0 _ _ σ))⟩
  simp (disch := omega) only [lt_nI, nI_leI, Nat.le_refl, if_true]
  exact rp_Le_rfl
end
