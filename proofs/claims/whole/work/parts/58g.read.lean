/-! read: the class's text, the reference's -/
section
variable {sc : rp_Sc} {σ μ : rp_Mm} {t : Nat → Nat} {n : Nat} {F B : Nat → Nat}
theorem out_l {g c : Nat} (h : prs t n F B (n + 1) 0 (0, T0, fun _ => false) = (c, .inl g)) : outR t n F B = .inl g := by
  unfold outR
  rw [h]
theorem out_r {c : Nat} {st : rp_PS} (h : prs t n F B (n + 1) 0 (0, T0, fun _ => false) = (c, .inr st)) : outR t n F B = if st.2.2 1 = true ∧ st.2.2 2 = true then .inr (c, if st.2.1 3 = 0 then setT st.2.1 3 31 else st.2.1) else .inl n := by
  unfold outR
  rw [h]
def LawOk (T : Nat → Nat) : Prop := TM T ∧ 1 ≤ T 0 ∧ T 0 ≤ T 1
theorem LawOk_of {st : rp_PS} (h : OkP st) (h1 : st.2.2 1 = true) : LawOk (if st.2.1 3 = 0 then setT st.2.1 3 31 else st.2.1) := by
  have q := h.2.1 h1
  have tm := h.1
  split
  · refine ⟨?_, ?_, ?_⟩
    · unfold TM at tm ⊢
      simp [setT]
      omega
    · simp [setT]; omega
    · simp [setT]; omega
  · exact ⟨tm, q.1, q.2⟩
theorem y_startOver (hC : CT σ t n) : ∃ μ, CL sc 35 [.ref 32] σ = RV μ ∧ Fr (fun a k => (a = 32 ∧ 2 ≤ k ∧ k ≤ 6) ∨ a = 34) σ μ ∧ μ 32 3 = nI 0 ∧ μ 32 5 = nI 0 ∧ μ 32 6 = nI 0 ∧ TT μ T0 := by
  obtain ⟨ν, eν⟩ : ∃ m, m = rp_wr (rp_wr (rp_wr σ 32 3 (nI 0)) 32 6 (nI 0)) 32 5 (nI 0) := ⟨_, rfl⟩
  have fν : Fr (fun a k => (a = 32 ∧ 2 ≤ k ∧ k ≤ 6) ∨ a = 34) σ ν := by rw [eν]; exact Fr_wr (Fr_wr (Fr_wr Fr_rfl (by omega)) (by omega)) (by omega)
  obtain ⟨μ, ⟨f, v⟩, L⟩ := lp_inv (E := fun i μ => EV sc (35, 0, 0, 17, [.ref 32, .int (nI i)], [], (rp_L0, μ))) (fun i μ => Fr (fun a _ => a = 34) ν μ ∧ ∀ k, k < i → μ 34 k = nI 0) (n := 11) (fun i μ hi hR => by
    obtain ⟨f, v⟩ := hR
    refine ⟨rp_wr μ 34 i (nI 0), ⟨Fr_wr f rfl, fun k hk => ?_⟩, rp_Le_tr ?_ (D_LawText_startOver_17 _ μ)⟩
    · by_cases e : k = i
      · subst e; exact wr_eq
      · rw [wr_nk e]; exact v k (by omega)
    · simp (disch := omega) only [lt_nI, nI_add, pk_mul, nI_clamp, nI_leI, nI_ltI, nI_eq, ixT, cond_true, show ¬ 11 ≤ i by omega, if_false]
      exact rp_Le_rfl) (s := ν) ⟨Fr_rfl, fun k hk => absurd hk (by omega)⟩
  have w : Fr (fun a _ => a = 34) ν (rp_wr (rp_wr μ 34 5 (nI 24)) 34 8 (nI 100)) := Fr_wr (Fr_wr f rfl) rfl
  refine ⟨rp_wr (rp_wr μ 34 5 (nI 24)) 34 8 (nI 100), cl_le rfl (rp_Le_tr (rp_Le_tr (rp_Le_tr ?_ (D_LawText_startOver_17 _ μ)) L) (rp_Le_tr ?_ (D_LawText_startOver_0 σ))), Fr_tr fν (Fr_mo w (fun _ _ => by omega)), ?_, ?_, ?_, fun k hk => ?_⟩
  · rw [if_pos (show (11 : Int32) ≤ nI 11 by decide)]
    show rp_Le _ (thV (CL sc 36 [.ref 32, .int (nI 5), .int (nI 24)] μ) fun σ1 => thV (CL sc 36 [.ref 32, .int (nI 8), .int (nI 100)] σ1) fun σ2 => RV σ2)
    rw [y_setTerm (by decide), thV_RV, y_setTerm (by decide), thV_RV]
    exact rp_Le_rfl
  · rw [eν]
    exact rp_Le_rfl
  · rw [w _ _ (by omega), eν]; simp (disch := omega) only [wr_nk, wr_eq]
  · rw [w _ _ (by omega), eν]; exact wr_eq
  · rw [w _ _ (by omega), eν]; simp (disch := omega) only [wr_nk, wr_eq]
  · unfold T0
    by_cases e8 : k = 8
    · subst e8
      rw [wr_eq]
      rfl
    · rw [wr_nk e8]
      by_cases e5 : k = 5
      · subst e5
        rw [wr_eq]
        rfl
      · rw [wr_nk e5, if_neg e5, if_neg e8]
        exact v k hk
theorem y_firstFault (hC : CT σ t n) (hL : Lx t n F B) : ∃ μ, Fr (fun a k => (a = 32 ∧ 2 ≤ k ∧ k ≤ 6) ∨ a = 34) σ μ ∧ ((∃ g, outR t n F B = .inl g ∧ g ≤ n ∧ CL sc 34 [.ref 32] σ = RI (nI g) μ) ∨ ∃ c T, outR t n F B = .inr (c, T) ∧ CL sc 34 [.ref 32] σ = RI (-1) μ ∧ TT μ T ∧ μ 32 6 = nI c ∧ LawOk T) := by
  have hn := hC.2.1
  obtain ⟨μ1, c1, f1, z3, z5, z6, hT1⟩ := y_startOver (sc := sc) hC
  have hC1 := CT_f hC f1 (by omega) (fun _ => by omega)
  obtain ⟨μ2, c2, f2, w2, w3⟩ := y_advance (sc := sc) hC1 (Nat.zero_le n) z3 (hL 0 (Nat.zero_le n))
  have f12 : Fr (fun a k => (a = 32 ∧ 2 ≤ k ∧ k ≤ 6) ∨ a = 34) σ μ2 := Fr_tr f1 (Fr_mo f2 (fun _ _ => by omega))
  have S0 : rp_Le (EV sc (34, 0, 0, 10, [.ref 32, .int (nI 0)], [], (rp_L0, μ2))) (EV sc (34, 0, 0, 0, [.ref 32, rp_U], [], (rp_L0, σ))) := by
    refine rp_Le_tr ?_ (D_LawText_firstFault_0 σ)
    rw [c1, thV_RV, c2, thV_RV]
    exact rp_Le_rfl
  have hK : KS μ2 t n F B (0, T0, fun _ => false) := ⟨CT_f hC1 f2 (by omega) (fun _ => by omega), Nat.zero_le n, ⟨w2, w3⟩, TT_f hT1 f2 (fun _ => by omega), by rw [f2 _ _ (by omega), z5]; exact SS_0⟩
  rcases y_parse (sc := sc) hL (n + 1) 0 (0, T0, fun _ => false) μ2 (by dsimp only; omega) (Nat.zero_le _) hK OkP_0 (by rw [f2 _ _ (by omega)]; exact z6) with ⟨g, c', e, gl, μ', L, f'⟩ | ⟨c', st', e, μ', L, f', hK', hO', h6⟩
  · exact ⟨μ', Fr_tr f12 f', Or.inl ⟨g, out_l e, gl, cl_le rfl (rp_Le_tr L S0)⟩⟩
  · have es1 := y_isSeen (sc := sc) (k := 1) hK'.2.2.2.2 (by decide) (by decide)
    have es2 := y_isSeen (sc := sc) (k := 2) hK'.2.2.2.2 (by decide) (by decide)
    have es3 := y_isSeen (sc := sc) (k := 3) hK'.2.2.2.2 (by decide) (by decide)
    have ho := out_r e
    have hsz : μ' 32 1 = nI n := hK'.1.1
    by_cases h12 : st'.2.2 1 = true ∧ st'.2.2 2 = true
    · rw [if_pos h12] at ho
      rw [h12.1] at es1
      rw [h12.2] at es2
      have lok := LawOk_of hO' h12.1
      by_cases h3 : st'.2.2 3 = true
      · have hne : ¬ st'.2.1 3 = 0 := hO'.2.2.mp h3
        rw [if_neg hne] at ho lok
        rw [h3] at es3
        refine ⟨μ', Fr_tr f12 f', Or.inr ⟨c', _, ho, cl_le rfl (rp_Le_tr (rp_Le_tr (rp_Le_tr ?_ (D_LawText_firstFault_56 _ μ')) L) S0), hK'.2.2.2.1, h6, lok⟩⟩
        simp only [lt_nI, es1, es2, es3, thI_RI, b2, cond_true, i_0, if_false]
        exact rp_Le_rfl
      · have hz : st'.2.1 3 = 0 := Classical.byContradiction fun q => h3 (hO'.2.2.mpr q)
        rw [if_pos hz] at ho lok
        have h3f : st'.2.2 3 = false := by rw [← Bool.not_eq_true]; exact h3
        rw [h3f] at es3
        have w : Fr (fun a _ => a = 34) μ' (rp_wr μ' 34 3 (nI 31)) := Fr_wr Fr_rfl rfl
        refine ⟨rp_wr μ' 34 3 (nI 31), Fr_tr (Fr_tr f12 f') (Fr_mo w (fun _ _ => by omega)), Or.inr ⟨c', _, ho, cl_le rfl (rp_Le_tr (rp_Le_tr (rp_Le_tr ?_ (D_LawText_firstFault_56 _ μ')) L) S0), TT_w hK'.2.2.2.1, by rw [w _ _ (by omega)]; exact h6, lok⟩⟩
        have est := y_setTerm (sc := sc) (μ := μ') (k := 3) (x := nI 31) (by decide)
        simp only [lt_nI, es1, es2, es3, thI_RI, b2, cond_true, cond_false, i_0, i_1, if_true, if_false, est, thV_RV]
        exact rp_Le_rfl
    · rw [if_neg h12] at ho
      refine ⟨μ', Fr_tr f12 f', Or.inl ⟨n, ho, Nat.le_refl _, cl_le rfl (rp_Le_tr (rp_Le_tr (rp_Le_tr ?_ (D_LawText_firstFault_56 _ μ')) L) S0)⟩⟩
      by_cases h1 : st'.2.2 1 = true
      · have h2 : st'.2.2 2 = false := by rw [← Bool.not_eq_true]; exact fun q => h12 ⟨h1, q⟩
        rw [h1] at es1
        rw [h2] at es2
        simp only [lt_nI, es1, es2, thI_RI, b2, cond_true, cond_false, i_0, i_1, if_true, if_false, hsz]
        exact rp_Le_rfl
      · have h1f : st'.2.2 1 = false := by rw [← Bool.not_eq_true]; exact h1
        rw [h1f] at es1
        simp only [lt_nI, es1, thI_RI, b2, cond_false, i_1, if_true, hsz]
        exact rp_Le_rfl
/-! the reference -/
theorem x_parse (hL : Lx t n F B) {x1 : Int32} : ∀ (fu c : Nat) (st : rp_PS) (μ : rp_Mm), n < st.1 + fu → KR μ t n F B st → OkP st → (∃ g c', prs t n F B fu c st = (c', .inl g) ∧ g ≤ n ∧ ∃ μ' x, rp_Le (EV sc (158, 0, 0, 106, [.ref 48, .int x1, .int (nI 36), .int x, rp_U], [], (rp_L0, μ'))) (EV sc (158, 0, 0, 82, [.ref 48, .int x1, .int (nI 36), .int (nI c), rp_U], [], (rp_L0, μ))) ∧ Fr (fun a k => (a = 48 ∧ 10 ≤ k ∧ k ≤ 15) ∨ (a = 52 ∧ 36 ≤ k)) μ μ' ∧ μ' 48 14 = nI g) ∨ (∃ c' st', prs t n F B fu c st = (c', .inr st') ∧ ∃ μ', rp_Le (EV sc (158, 0, 0, 106, [.ref 48, .int x1, .int (nI 36), .int (nI c'), rp_U], [], (rp_L0, μ'))) (EV sc (158, 0, 0, 82, [.ref 48, .int x1, .int (nI 36), .int (nI c), rp_U], [], (rp_L0, μ))) ∧ Fr (fun a k => (a = 48 ∧ 10 ≤ k ∧ k ≤ 15) ∨ (a = 52 ∧ 36 ≤ k)) μ μ' ∧ KR μ' t n F B st' ∧ OkP st') := by
  intro fu
  induction fu with
  | zero => intro c st μ h hK; exact absurd hK.2.1 (by omega)
  | succ fu ih =>
    intro c st μ h hK hO
    have hn := hK.1.2.1
    have l1 := lx_b hL hK.2.1
    have e10 := hK.2.2.1.1
    have dl := tkd_le t n (F st.1)
    unfold prs
    by_cases hf : F st.1 < n
    · rw [if_pos hf]
      have hk0 : ¬ tkd t n (F st.1) = 0 := by
        unfold tkd
        rw [if_neg (by omega)]
        split
        · omega
        · split <;> omega
      have eg := x_good (sc := sc) hK.2.2.2.2.2
      rcases x_wantRule (sc := sc) hL hK (OkP_4 hO) with ⟨g, hg, gl, μ', c', f, z⟩ | ⟨st', hg, μ', c', f, hK'⟩
      · rw [hg]
        refine Or.inl ⟨g, c, rfl, gl, μ', nI (c + 1), ?_, f, z⟩
        have S : rp_Le (EV sc (158, 0, 0, 82, [.ref 48, .int x1, .int (nI 36), .int (nI (c + 1)), rp_U], [], (rp_L0, μ'))) (EV sc (158, 0, 0, 82, [.ref 48, .int x1, .int (nI 36), .int (nI c), rp_U], [], (rp_L0, μ))) := by
          refine rp_Le_tr ?_ (D_Ref_read_82 _ _ _ μ)
          simp (disch := omega) only [lt_nI, e10, nI_eq, hk0, if_false, eg, thI_RI, Nat.reduceEqDiff, reduceIte, c', thV_RV, nI_add]
          exact rp_Le_rfl
        refine rp_Le_tr (rp_Le_tr ?_ (D_Ref_read_82 _ _ _ μ')) S
        have eb := x_bad (sc := sc) (show g ≤ 300 by omega) z
        by_cases q : μ' 48 10 = 0
        · rw [if_pos q]; exact rp_Le_rfl
        · rw [if_neg q, eb, thI_RI, if_pos (by decide)]; exact rp_Le_rfl
      · rw [hg]
        dsimp only
        obtain ⟨hO', hlt, hle⟩ := rule_ok hL hK.2.1 hO hg
        have S : rp_Le (EV sc (158, 0, 0, 82, [.ref 48, .int x1, .int (nI 36), .int (nI (c + 1)), rp_U], [], (rp_L0, μ'))) (EV sc (158, 0, 0, 82, [.ref 48, .int x1, .int (nI 36), .int (nI c), rp_U], [], (rp_L0, μ))) := by
          refine rp_Le_tr ?_ (D_Ref_read_82 _ _ _ μ)
          simp (disch := omega) only [lt_nI, e10, nI_eq, hk0, if_false, eg, thI_RI, Nat.reduceEqDiff, reduceIte, c', thV_RV, nI_add]
          exact rp_Le_rfl
        rcases ih (c + 1) st' μ' (by omega) hK' hO' with ⟨g, c'', e, gl, μ'', x, L, f'', z⟩ | ⟨c'', st'', e, μ'', L, f'', q⟩
        · exact Or.inl ⟨g, c'', e, gl, μ'', x, rp_Le_tr L S, Fr_tr f f'', z⟩
        · exact Or.inr ⟨c'', st'', e, μ'', rp_Le_tr L S, Fr_tr f f'', q⟩
    · rw [if_neg hf]
      have hk0 : tkd t n (F st.1) = 0 := by unfold tkd; rw [if_pos (by omega)]
      refine Or.inr ⟨c, st, rfl, μ, rp_Le_tr ?_ (D_Ref_read_82 _ _ _ μ), Fr_rfl, hK, hO⟩
      rw [e10, hk0, if_pos (by decide)]
      exact rp_Le_rfl
theorem x_read (hR : RT σ t n) (hL : Lx t n F B) {l : Nat} (hl : l < 3) : ∃ μ, (Fr (fun a k => (a = 48 ∧ 9 ≤ k ∧ k ≤ 15) ∨ (a = 52 ∧ 36 ≤ k)) σ μ ∧ μ 48 9 = nI 0 ∧ ∃ g, outR t n F B = .inl g ∧ CL sc 158 [.ref 48, .int (nI l)] σ = RI (-100 - nI g) μ) ∨ (Fr (fun a k => (a = 48 ∧ 9 ≤ k ∧ k ≤ 15) ∨ (a = 52 ∧ (36 ≤ k ∨ (12 * l ≤ k ∧ k < 12 * l + 12)))) σ μ ∧ μ 48 9 = nI 0 ∧ ∃ c T, outR t n F B = .inr (c, T) ∧ CL sc 158 [.ref 48, .int (nI l)] σ = RI (nI c) μ ∧ (∀ k, k < 11 → μ 52 (12 * l + k) = nI (T k)) ∧ μ 52 (12 * l + 11) = nI 1) := by
  have hn := hR.2.1
  obtain ⟨μ1, ⟨f1, v1⟩, L1⟩ := lp_inv (E := fun k μ => EV sc (158, 0, 0, 19, [.ref 48, .int (nI l), .int (nI 36), .int (nI k), rp_U], [], (rp_L0, μ))) (fun k μ => Fr (fun a k => a = 52 ∧ 36 ≤ k) σ μ ∧ ∀ j, j < k → μ 52 (36 + j) = nI (T0 j)) (n := 12) (fun k μ hk hR' => by
    obtain ⟨f, v⟩ := hR'
    have T54 : ∀ y : Nat, rp_Le (EV sc (158, 0, 0, 19, [.ref 48, .int (nI l), .int (nI 36), .int (nI (k + 1)), rp_U], [], (rp_L0, rp_wr μ 52 (36 + k) (nI y)))) (EV sc (158, 0, 0, 54, [.ref 48, .int (nI l), .int (nI 36), .int (nI k), rp_U], [.int (nI y), .int (nI (36 + k)), .ref 52], (rp_L0, μ))) := fun y => by
      refine rp_Le_tr ?_ (D_Ref_read_54 _ _ _ _ _ μ)
      simp (disch := omega) only [lt_nI, nI_add, pk_mul, nI_clamp, nI_leI, nI_ltI, nI_eq, ixT, cond_true]
      exact rp_Le_rfl
    refine ⟨rp_wr μ 52 (36 + k) (nI (T0 k)), ⟨Fr_wr f ⟨rfl, by omega⟩, fun j hj => ?_⟩, rp_Le_tr ?_ (D_Ref_read_19 _ _ _ μ)⟩
    · by_cases e : j = k
      · subst e; exact wr_eq
      · rw [wr_nk (by omega)]; exact v j (by omega)
    · simp (disch := omega) only [lt_nI, nI_leI, nI_eq, show ¬ 12 ≤ k by omega, if_false, nI_add]
      unfold T0
      by_cases e5 : k = 5
      · rw [if_pos e5]
        simp only [eq_true e5, if_true]
        exact T54 24
      · rw [if_neg e5]
        by_cases e8 : k = 8
        · rw [if_pos e8]
          simp only [eq_false e5, eq_true e8, if_true, if_false]
          exact T54 100
        · rw [if_neg e8]
          simp only [eq_false e5, eq_false e8, if_false]
          exact T54 0) (s := σ) ⟨Fr_rfl, fun j hj => absurd hj (by omega)⟩
  obtain ⟨ν, eν⟩ : ∃ m, m = rp_wr (rp_wr (rp_wr μ1 48 14 (-1)) 48 15 (nI 0)) 48 12 (nI 0) := ⟨_, rfl⟩
  have fν : Fr (fun a k => a = 48 ∧ 12 ≤ k ∧ k ≤ 15) μ1 ν := by rw [eν]; exact Fr_wr (Fr_wr (Fr_wr Fr_rfl (by omega)) (by omega)) (by omega)
  have hRν := RT_f (RT_f hR f1 (by omega) (fun _ => by omega)) fν (by omega) (fun _ => by omega)
  obtain ⟨μ2, c2, f2, z2⟩ := x_advance (sc := sc) hRν (Nat.zero_le n) (show ν 48 12 = nI 0 by rw [eν]; exact wr_eq) (hL 0 (Nat.zero_le n))
  have hK : KR μ2 t n F B (0, T0, fun _ => false) := by
    refine ⟨RT_f hRν f2 (by omega) (fun _ => by omega), Nat.zero_le n, z2, fun k hk => ?_, ?_, ?_⟩
    · rw [f2 _ _ (by omega), fν _ _ (by omega)]; exact v1 k (by omega)
    · rw [f2 _ _ (by omega), show ν 48 15 = nI 0 by rw [eν, wr_nk (by decide)]; exact wr_eq]; exact SS_0
    · rw [f2 _ _ (by omega), eν, wr_nk (by decide), wr_nk (by decide)]; exact wr_eq
  have f02 : Fr (fun a k => (a = 48 ∧ 10 ≤ k ∧ k ≤ 15) ∨ (a = 52 ∧ 36 ≤ k)) σ μ2 := Fr_tr (Fr_mo f1 (fun _ _ => by omega)) (Fr_tr (Fr_mo fν (fun _ _ => by omega)) (Fr_mo f2 (fun _ _ => by omega)))
  have S0 : rp_Le (EV sc (158, 0, 0, 82, [.ref 48, .int (nI l), .int (nI 36), .int (nI 0), rp_U], [], (rp_L0, μ2))) (EV sc (158, 0, 0, 0, [.ref 48, .int (nI l), rp_U, rp_U, rp_U], [], (rp_L0, σ))) := by
    refine rp_Le_tr (rp_Le_tr (rp_Le_tr ?_ (D_Ref_read_19 _ _ _ μ1)) L1) (rp_Le_tr ?_ (D_Ref_read_0 _ σ))
    · rw [if_pos (show (12 : Int32) ≤ nI 12 by decide)]
      show rp_Le _ (thV (CL sc 160 [.ref 48] (rp_wr (rp_wr (rp_wr μ1 48 14 (-1)) 48 15 (nI 0)) 48 12 (nI 0))) _)
      rw [← eν, c2, thV_RV]
      exact rp_Le_rfl
    · simp (disch := omega) only [lt_nI, x_isLaw, inB_n, thI_RI, i_0, if_false]
      exact rp_Le_rfl
  have F141 : ∀ (μ : rp_Mm) (x : Int32) (g : Nat), g ≤ 300 → μ 48 14 = nI g → rp_Le (RI (-100 - nI g) (rp_wr μ 48 9 (nI 0))) (EV sc (158, 0, 0, 141, [.ref 48, .int (nI l), .int (nI 36), .int x, rp_U], [], (rp_L0, μ))) := fun μ x g hg hz => by
    have z' : rp_wr μ 48 9 (nI 0) 48 14 = nI g := by rw [wr_nk (by decide)]; exact hz
    refine rp_Le_tr ?_ (D_Ref_read_141 _ _ _ μ)
    show rp_Le _ (thI (CL sc 163 [.ref 48] (rp_wr μ 48 9 (nI 0))) _)
    rw [x_bad hg z', thI_RI, if_pos (by decide), z']
    exact rp_Le_rfl
  rcases x_parse (sc := sc) (x1 := nI l) hL (n + 1) 0 (0, T0, fun _ => false) μ2 (by dsimp only; omega) hK OkP_0 with ⟨g, c', e, gl, μ', x, L, f', z⟩ | ⟨c', st', e, μ', L, f', hK', hO'⟩
  · refine ⟨rp_wr μ' 48 9 (nI 0), Or.inl ⟨Fr_wr (Fr_mo (Fr_tr f02 f') (fun _ _ => by omega)) (by omega), wr_eq, g, out_l e, cl_le rfl (rp_Le_tr (rp_Le_tr (rp_Le_tr ?_ (D_Ref_read_106 _ _ _ μ')) L) S0)⟩⟩
    rw [x_bad (show g ≤ 300 by omega) z, thI_RI, if_pos (by decide)]
    exact F141 μ' _ g (by omega) z
  · have ho := out_r e
    have f2' : Fr (fun a k => (a = 48 ∧ 9 ≤ k ∧ k ≤ 15) ∨ (a = 52 ∧ 36 ≤ k)) σ μ' := Fr_mo (Fr_tr f02 f') (fun _ _ => by omega)
    obtain ⟨hR', hp', hRK, hTR, ⟨cs, cs1, cs2, cs3⟩, g14⟩ := hK'
    have eg := x_good (sc := sc) g14
    have e0 : (μ' 48 15) &&& 1 = nI (b2 (st'.2.2 1)) := by
      have := cs3 1 (by decide) (by decide)
      have k0 : kapp 1 = 0 := rfl
      rw [k0] at this
      unfold bt at this
      rw [Nat.pow_zero, Nat.div_one] at this
      rw [cs2, ← this]
      exact and1 (by omega)
    have e2 : ((μ' 48 15) >>> (2 &&& 31)) &&& 1 = nI (b2 (st'.2.2 2)) := by
      have := cs3 2 (by decide) (by decide)
      have k0 : kapp 2 = 2 := rfl
      rw [k0] at this
      rw [cs2, ← this]
      exact sh_b (n := cs) (k := 2) (by omega) (by decide)
    by_cases h12 : st'.2.2 1 = true ∧ st'.2.2 2 = true
    · rw [if_pos h12] at ho
      rw [h12.1] at e0
      rw [h12.2] at e2
      obtain ⟨T', eT'⟩ : ∃ T', T' = (if st'.2.1 3 = 0 then setT st'.2.1 3 31 else st'.2.1) := ⟨_, rfl⟩
      rw [← eT'] at ho
      have t3b : st'.2.1 3 < 32 := by have := hO'.1; unfold TM at this; omega
      -- the spare row is made ready
      obtain ⟨ν1, e1⟩ : ∃ m, m = rp_wr (rp_wr (rp_wr μ' 48 9 (nI 0)) 52 39 (nI (T' 3))) 52 47 (nI 1) := ⟨_, rfl⟩
      have fn1 : Fr (fun a k => (a = 48 ∧ k = 9) ∨ (a = 52 ∧ 36 ≤ k)) μ' ν1 := by rw [e1]; exact Fr_wr (Fr_wr (Fr_wr Fr_rfl (by omega)) (by omega)) (by omega)
      have sp : ∀ k, k < 12 → ν1 52 (36 + k) = nI (if k = 11 then 1 else T' k) := fun k hk => by
        rw [e1]
        by_cases q : k = 11
        · subst q; rw [if_pos rfl]; exact wr_eq
        · rw [if_neg q, wr_nk (by omega)]
          by_cases q3 : k = 3
          · subst q3; exact wr_eq
          · rw [wr_nk (by omega), wr_n2 (by decide), hTR k (by omega), eT']
            split
            · unfold setT; rw [if_neg q3]
            · rfl
      obtain ⟨μ3, ⟨f3, v3⟩, L3⟩ := lp_inv (E := fun k μ => EV sc (158, 0, 0, 206, [.ref 48, .int (nI l), .int (nI 36), .int (nI c'), .int (nI k)], [], (rp_L0, μ))) (fun k μ => Fr (fun a k => a = 52 ∧ 12 * l ≤ k ∧ k < 12 * l + 12) ν1 μ ∧ ∀ j, j < k → μ 52 (12 * l + j) = nI (if j = 11 then 1 else T' j)) (n := 12) (fun k μ hk hR' => by
        obtain ⟨f, v⟩ := hR'
        refine ⟨rp_wr μ 52 (12 * l + k) (nI (if k = 11 then 1 else T' k)), ⟨Fr_wr f ⟨rfl, by omega, by omega⟩, fun j hj => ?_⟩, rp_Le_tr ?_ (D_Ref_read_206 _ _ _ _ μ)⟩
        · by_cases q : j = k
          · subst q; exact wr_eq
          · rw [wr_nk (by omega)]; exact v j (by omega)
        · have e36 : μ 52 (36 + k) = nI (if k = 11 then 1 else T' k) := by rw [f _ _ (by omega)]; exact sp k hk
          simp (disch := omega) only [lt_nI, nI_leI, show ¬ 12 ≤ k by omega, if_false, nI_add, pk_mul, ixT, cond_true, nI_clamp, e36]
          exact rp_Le_rfl) (s := ν1) ⟨Fr_rfl, fun j hj => absurd hj (by omega)⟩
      have g14' : rp_wr μ' 48 9 (nI 0) 48 14 = -1 := by rw [wr_nk (by decide)]; exact g14
      have S192 : ∀ y : Nat, y = T' 3 → rp_Le (EV sc (158, 0, 0, 206, [.ref 48, .int (nI l), .int (nI 36), .int (nI c'), .int (nI 0)], [], (rp_L0, ν1))) (EV sc (158, 0, 0, 192, [.ref 48, .int (nI l), .int (nI 36), .int (nI c'), rp_U], [.int (nI y), .int (nI 39), .ref 52], (rp_L0, rp_wr μ' 48 9 (nI 0)))) := fun y hy => by
        subst hy
        refine rp_Le_tr ?_ (D_Ref_read_192 _ _ _ _ _ _)
        simp (disch := omega) only [lt_nI, nI_add, ixT, cond_true, nI_clamp]
        rw [e1]
        exact rp_Le_rfl
      have e39 : rp_wr μ' 48 9 (nI 0) 52 39 = nI (st'.2.1 3) := by rw [wr_n2 (by decide)]; exact hTR 3 (by decide)
      refine ⟨μ3, Or.inr ⟨Fr_tr (Fr_mo f2' (fun _ _ => by omega)) (Fr_tr (Fr_mo fn1 (fun _ _ => by omega)) (Fr_mo f3 (fun _ _ => by omega))), ?_, c', T', ho, cl_le rfl (rp_Le_tr (rp_Le_tr (rp_Le_tr ?_ (D_Ref_read_106 _ _ _ μ')) L) S0), fun k hk => ?_, v3 11 (by decide)⟩⟩
      · rw [f3 _ _ (by omega), e1, wr_n2 (by decide), wr_n2 (by decide)]; exact wr_eq
      · rw [eg, thI_RI, if_neg (by decide), e0, if_neg (by decide), e2, if_neg (by decide)]
        refine rp_Le_tr ?_ (D_Ref_read_141 _ _ _ μ')
        show rp_Le _ (thI (CL sc 163 [.ref 48] (rp_wr μ' 48 9 (nI 0))) _)
        rw [x_good g14', thI_RI, if_neg (by decide)]
        have S3 : rp_Le (RI (nI c') μ3) (EV sc (158, 0, 0, 206, [.ref 48, .int (nI l), .int (nI 36), .int (nI c'), .int (nI 0)], [], (rp_L0, ν1))) := by
          refine rp_Le_tr (rp_Le_tr ?_ (D_Ref_read_206 _ _ _ _ μ3)) L3
          rw [if_pos (show (12 : Int32) ≤ nI 12 by decide)]
          exact rp_Le_rfl
        simp (disch := omega) only [lt_nI, nI_add, ixT, cond_true, nI_clamp, Nat.reduceAdd, e39, nI_eq]
        by_cases q : st'.2.1 3 = 0
        · simp only [eq_true q, if_true]
          refine rp_Le_tr S3 (S192 31 ?_)
          rw [eT', if_pos q]
          rfl
        · simp only [eq_false q, if_false]
          refine rp_Le_tr S3 (S192 _ ?_)
          rw [eT', if_neg q]
      · have := v3 k (by omega)
        rw [if_neg (by omega)] at this
        exact this
    · rw [if_neg h12] at ho
      have g14' : rp_wr μ' 48 14 (nI n) 48 14 = nI n := wr_eq
      have S133 : rp_Le (RI (-100 - nI n) (rp_wr (rp_wr μ' 48 14 (nI n)) 48 9 (nI 0))) (EV sc (158, 0, 0, 133, [.ref 48, .int (nI l), .int (nI 36), .int (nI c'), rp_U], [], (rp_L0, μ'))) := by
        refine rp_Le_tr (rp_Le_tr (F141 (rp_wr μ' 48 14 (nI n)) (nI c') n (by omega) g14') ?_) (D_Ref_read_133 _ _ _ μ')
        rw [hR'.1]
        exact rp_Le_rfl
      refine ⟨rp_wr (rp_wr μ' 48 14 (nI n)) 48 9 (nI 0), Or.inl ⟨Fr_wr (Fr_wr f2' (by omega)) (by omega), wr_eq, n, ho, cl_le rfl (rp_Le_tr (rp_Le_tr (rp_Le_tr ?_ (D_Ref_read_106 _ _ _ μ')) L) S0)⟩⟩
      rw [eg, thI_RI, if_neg (by decide), e0]
      by_cases h1 : st'.2.2 1 = true
      · have h2 : st'.2.2 2 = false := by rw [← Bool.not_eq_true]; exact fun q => h12 ⟨h1, q⟩
        rw [h1, if_neg (by decide), e2, h2, if_pos (by decide)]
        exact S133
      · have h1f : st'.2.2 1 = false := by rw [← Bool.not_eq_true]; exact h1
        rw [h1f, if_pos (by decide)]
        exact S133
end
