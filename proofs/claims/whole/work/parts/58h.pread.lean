/-! read: both sides -/
section
variable {sc : rp_Sc} {σ μ : rp_Mm}
theorem y_rules : CL sc 56 [.ref 32] μ = RI (μ 32 6) μ := cl_of (D_LawText_rules_0 μ) rfl rfl
theorem y_empty : CL sc 54 [.ref 32] μ = RV (rp_wr μ 32 1 (nI 0)) := cl_of (D_LawText_empty_0 μ) rfl rfl
theorem y_setLaw {l c : Nat} {T : Nat → Nat} (hz : μ 7 3 = nI 3) (hl : l < 3) (hT : TT μ T) (h6 : μ 32 6 = nI c) {x2 : Int32} : ∃ μ', rp_Le (RI (nI c) μ') (EV sc (33, 0, 0, 36, [.ref 1, .int (nI l), .int x2, .int (nI 0)], [], (rp_L0, μ))) ∧ Fr (fun a k => a = 8 ∧ 12 * l ≤ k ∧ k < 12 * l + 12) μ μ' ∧ (∀ k, k < 11 → μ' 8 (12 * l + k) = nI (T k)) ∧ μ' 8 (12 * l + 11) = nI 1 := by
  obtain ⟨μ1, ⟨f1, v1⟩, L⟩ := lp_inv (E := fun k μ => EV sc (33, 0, 0, 36, [.ref 1, .int (nI l), .int x2, .int (nI k)], [], (rp_L0, μ))) (fun k μ' => Fr (fun a k => a = 8 ∧ 12 * l ≤ k ∧ k < 12 * l + 12) μ μ' ∧ ∀ j, j < k → μ' 8 (12 * l + j) = nI (T j)) (n := 11) (fun k μ' hk hR => by
    obtain ⟨f, v⟩ := hR
    have et : CL sc 51 [.ref 32, .int (nI k)] μ' = RI (nI (T k)) μ' := by rw [y_term hk, f _ _ (by omega), hT k hk]
    have es := s_set (sc := sc) TB7 (σ := μ') (n := 3) (i := l) (c := k) (v := nI (T k)) (by rw [f _ _ (by omega)]; exact hz) (by decide) hl (by omega)
    refine ⟨rp_wr μ' 8 (12 * l + k) (nI (T k)), ⟨Fr_wr f ⟨rfl, by omega, by omega⟩, fun j hj => ?_⟩, rp_Le_tr ?_ (D_RailPasses_read_36 _ _ _ μ')⟩
    · by_cases e : j = k
      · subst e; exact wr_eq
      · rw [wr_nk (by omega)]; exact v j (by omega)
    · simp (disch := omega) only [lt_nI, nI_leI, show ¬ 11 ≤ k by omega, if_false, et, thI_RI, es, thV_RV, nI_add]
      exact rp_Le_rfl) (s := μ) ⟨Fr_rfl, fun j hj => absurd hj (by omega)⟩
  have es := s_set (sc := sc) TB7 (σ := μ1) (n := 3) (i := l) (c := 11) (v := nI 1) (by rw [f1 _ _ (by omega)]; exact hz) (by decide) hl (by decide)
  refine ⟨rp_wr μ1 8 (12 * l + 11) (nI 1), rp_Le_tr (rp_Le_tr ?_ (D_RailPasses_read_36 _ _ _ μ1)) L, Fr_wr f1 ⟨rfl, by omega, by omega⟩, fun k hk => by rw [wr_nk (by omega)]; exact v1 k hk, wr_eq⟩
  have e6 : rp_wr μ1 8 (12 * l + 11) (nI 1) 32 6 = nI c := by rw [wr_n2 (by decide), f1 _ _ (by omega)]; exact h6
  simp (disch := omega) only [lt_nI, nI_leI, Nat.le_refl, if_true, es, thV_RV, y_rules, e6, thI_RI]
  exact rp_Le_rfl
theorem p_read (hI : Inv σ) (l : Int32) : PM sc 33 [.ref 1, .int l] 158 [.ref 48, .int l] σ := by
  have hB := hI.1
  obtain ⟨n, t1, t2, t3, t4⟩ := hI.2.1
  obtain ⟨t, et⟩ : ∃ t : Nat → Nat, t = fun k => (σ 33 k).toNatClampNeg := ⟨_, rfl⟩
  have tv : ∀ k, k < n → σ 33 k = nI (t k) ∧ σ 57 k = nI (t k) ∧ t k < 256 := fun k hk => by
    obtain ⟨b, b1, b2, b3⟩ := t4 k hk
    have : t k = b := by rw [et]; dsimp only; rw [b2]; exact nI_clamp (by omega)
    rw [this]
    exact ⟨b2, b3, b1⟩
  have hC : CT σ t n := ⟨t2, t1, fun k hk => ⟨(tv k hk).1, (tv k hk).2.2⟩⟩
  obtain ⟨F, B, hL⟩ := Lx_ex t n
  obtain ⟨μ1, f1, hx⟩ := y_firstFault (sc := sc) hC hL
  obtain ⟨μ2, e2⟩ : ∃ m, m = rp_wr μ1 32 1 (nI 0) := ⟨_, rfl⟩
  have f2 : Fr (fun a k => (a = 32 ∧ 1 ≤ k ∧ k ≤ 6) ∨ a = 34) σ μ2 := by rw [e2]; exact Fr_wr (Fr_mo f1 (fun _ _ => by omega)) (by omega)
  have z2 : μ2 32 1 = nI 0 := by rw [e2]; exact wr_eq
  have hR : RT μ2 t n := ⟨by rw [f2 _ _ (by omega)]; exact t3, t1, fun k hk => ⟨by rw [f2 _ _ (by omega)]; exact (tv k hk).2.1, (tv k hk).2.2⟩⟩
  -- where no row of the book changes
  have fin : ∀ {μ3 : rp_Mm}, Fr (fun a k => (a = 32 ∧ 1 ≤ k ∧ k ≤ 6) ∨ a = 34 ∨ (a = 48 ∧ 9 ≤ k ∧ k ≤ 15) ∨ (a = 52 ∧ 36 ≤ k)) σ μ3 → μ3 32 1 = nI 0 → μ3 48 9 = nI 0 → Inv μ3 := fun {μ3} f z z' => by
    have er : R μ3 = R σ := by
      funext a k
      unfold R
      split
      next hk =>
        refine f _ _ ?_
        have ha := lenR_8 hk
        have h36 : a = 3 → k < 36 := fun e => by subst e; exact hk
        omega
      next => rfl
    have ec : C μ3 = C σ := C_fr f (fun a k ha => by omega)
    exact ⟨by rw [er, ec]; exact hB, ⟨0, by decide, z, z', fun k hk => absurd hk (by omega)⟩, RW_fr f (by omega) (by omega) (fun _ => by omega) (fun _ => by omega) hI.2.2.1, KP_fr f (by omega) (by omega) (fun _ _ _ => by omega) (fun _ => by omega) hI.2.2.2.1, WY_fr f (fun _ => by omega) (by rw [er]) (fun _ _ _ _ => by rw [er]) hI.2.2.2.2⟩
  rcases inB_c l (a := 0) (b := 2) (by decide) (by decide) with e1 | ⟨l, -, hl, rfl, e1⟩
  · have cc : CL sc 33 [.ref 1, .int l] σ = RI (-1) μ2 := by
      refine cl_of (D_RailPasses_read_0 _ σ) rfl ?_
      rcases hx with ⟨g, -, -, c⟩ | ⟨c', T, -, c, -⟩
      · rw [c, thI_RI, y_empty, thV_RV, ← e2, s_isLaw, e1, thI_RI, if_pos (by decide)]
      · rw [c, thI_RI, y_empty, thV_RV, ← e2, s_isLaw, e1, thI_RI, if_pos (by decide)]
    refine ⟨-1, μ2, rp_wr μ2 48 9 (nI 0), cc, cl_of (D_Ref_read_0 _ μ2) rfl ?_, fin (Fr_wr (Fr_mo f2 (fun _ _ => by omega)) (by omega)) (by rw [wr_n2 (by decide)]; exact z2) wr_eq⟩
    rw [x_isLaw, e1, thI_RI, if_pos (by decide)]
    rfl
  have hl : l < 3 := by omega
  obtain ⟨μ3, hy⟩ := x_read (sc := sc) hR hL hl
  rcases hx with ⟨g, ho, gl, c⟩ | ⟨c', T, ho, c, hTT, h6, hok⟩
  · rcases hy with ⟨f3, z3, g', ho', c3⟩ | ⟨-, -, c'', T', ho', -⟩
    · rw [ho] at ho'
      cases ho'
      have hne : ¬ nI g = -1 := fun q => bI_n g (by omega) q
      refine ⟨-100 - nI g, μ2, μ3, cl_of (D_RailPasses_read_0 _ σ) rfl ?_, c3, fin (Fr_tr (Fr_mo f2 (fun _ _ => by omega)) (Fr_mo f3 (fun _ _ => by omega))) (by rw [f3 _ _ (by omega)]; exact z2) z3⟩
      rw [c, thI_RI, y_empty, thV_RV, ← e2, s_isLaw, e1, thI_RI, if_neg (by decide), if_neg hne]
    · rw [ho] at ho'; cases ho'
  · have hz : μ2 7 3 = nI 3 := by rw [f2 _ _ (by omega)]; exact c_nK hB
    have hT2 : TT μ2 T := by rw [e2]; exact TT_f hTT (P := fun a k => a = 32 ∧ k = 1) (Fr_wr Fr_rfl ⟨rfl, rfl⟩) (fun _ => by omega)
    obtain ⟨μ4, L4, f4, v4, v4'⟩ := y_setLaw (sc := sc) (x2 := -1) hz hl hT2 (by rw [e2, wr_nk (by decide)]; exact h6)
    have cc : CL sc 33 [.ref 1, .int (nI l)] σ = RI (nI c') μ4 := by
      refine cl_le rfl (rp_Le_tr (rp_Le_tr L4 ?_) (D_RailPasses_read_0 _ σ))
      rw [c, thI_RI, y_empty, thV_RV, ← e2, s_isLaw, e1, thI_RI, if_neg (by decide), if_pos rfl]
      exact rp_Le_rfl
    have hR4 : RT μ4 t n := RT_f hR f4 (by omega) (fun _ => by omega)
    obtain ⟨μ5, hy⟩ := x_read (sc := sc) hR4 hL hl
    rcases hy with ⟨-, -, g', ho', -⟩ | ⟨f5, z5, c'', T', ho', c5, v5, v5'⟩
    · rw [ho] at ho'; cases ho'
    · rw [ho] at ho'
      cases ho'
      have f : Fr (fun a k => (a = 32 ∧ 1 ≤ k ∧ k ≤ 6) ∨ a = 34 ∨ (a = 8 ∧ 12 * l ≤ k ∧ k < 12 * l + 12) ∨ (a = 48 ∧ 9 ≤ k ∧ k ≤ 15) ∨ (a = 52 ∧ (36 ≤ k ∨ (12 * l ≤ k ∧ k < 12 * l + 12)))) σ μ5 := Fr_tr (Fr_mo f2 (fun _ _ => by omega)) (Fr_tr (Fr_mo f4 (fun _ _ => by omega)) (Fr_mo f5 (fun _ _ => by omega)))
      have tm := hok.1
      have tl : ∀ k, k < 11 → T k < 2 ^ 31 := fun k hk => by
        unfold TM at tm
        have : k = 0 ∨ k = 1 ∨ k = 2 ∨ k = 3 ∨ k = 4 ∨ k = 5 ∨ k = 6 ∨ k = 7 ∨ k = 8 ∨ k = 9 ∨ k = 10 := by omega
        rcases this with rfl | rfl | rfl | rfl | rfl | rfl | rfl | rfl | rfl | rfl | rfl <;> omega
      have ha : ∀ a, a < 8 → a ≠ 3 → R μ5 a = R σ a := fun a h8 h3 => R_fa f (fun _ => by omega)
      have hc : ∀ a, a < 15 → a ≠ 6 → C μ5 a = C σ a := fun a h8 h3 => C_fa f (fun _ => by omega)
      have qn : ∀ q, q < 11 → R μ5 3 (12 * l + q) = nI (T q) := fun q hq => by rw [R_at (by simp only [lenR]; omega)]; exact v5 q hq
      have qn' : R μ5 3 (12 * l + 11) = nI 1 := by rw [R_at (by simp only [lenR]; omega)]; exact v5'
      have qo : ∀ j q, j < 3 → j ≠ l → q < 12 → R μ5 3 (12 * j + q) = R σ 3 (12 * j + q) := fun j q hj hne hq => R_fk f (by omega)
      have cn : ∀ q, q < 11 → C μ5 6 (12 * l + q) = nI (T q) := fun q hq => by rw [C_ar (by simp only [lenC]; omega), f5 _ _ (by omega)]; exact v4 q hq
      have cn' : C μ5 6 (12 * l + 11) = nI 1 := by rw [C_ar (by simp only [lenC]; omega), f5 _ _ (by omega)]; exact v4'
      have co : ∀ j q, j < 3 → j ≠ l → q < 12 → C μ5 6 (12 * j + q) = C σ 6 (12 * j + q) := fun j q hj hne hq => C_fk f (by omega)
      have wn : ∀ q, q < 11 → lw (R μ5) l q = T q := fun q hq => N1_n (qn q hq) (tl q hq)
      have wn' : lw (R μ5) l 11 = 1 := N1_n qn' (by decide)
      have wo : ∀ j q, j < 3 → j ≠ l → q < 12 → lw (R μ5) j q = lw (R σ) j q := fun j q hj hne hq => N1_e (qo j q hj hne hq)
      have hBI : BI (C μ5) (R μ5) := by
        refine bi_law hB ha hc (fun j hj => ?_) (fun j hj q hq => ?_)
        · by_cases e : j = l
          · subst e
            refine ⟨fun q hq => ?_, ?_, by omega, fun h => by omega, fun _ => ?_⟩
            · by_cases q11 : q = 11
              · subst q11; exact Ok_n qn' (by decide)
              · exact Ok_n (qn q (by omega)) (tl q (by omega))
            · unfold TM at tm ⊢
              rw [wn 0 (by decide), wn 1 (by decide), wn 2 (by decide), wn 3 (by decide), wn 4 (by decide), wn 5 (by decide), wn 6 (by decide), wn 7 (by decide), wn 8 (by decide), wn 9 (by decide), wn 10 (by decide)]
              exact tm
            · rw [wn 0 (by decide), wn 1 (by decide)]
              exact hok.2
          · obtain ⟨o1, o2⟩ := hB.1.2.2.2.1 j hj
            refine ⟨fun q hq => Ok_e (qo j q hj e hq) (o1 q hq), ?_⟩
            unfold TM at o2 ⊢
            rw [wo j 0 hj e (by decide), wo j 1 hj e (by decide), wo j 2 hj e (by decide), wo j 3 hj e (by decide), wo j 4 hj e (by decide), wo j 5 hj e (by decide), wo j 6 hj e (by decide), wo j 7 hj e (by decide), wo j 8 hj e (by decide), wo j 9 hj e (by decide), wo j 10 hj e (by decide), wo j 11 hj e (by decide)]
            exact o2
        · by_cases e : j = l
          · subst e
            by_cases q11 : q = 11
            · subst q11; rw [wn']; exact cn'
            · rw [wn q (by omega)]; exact cn q (by omega)
          · rw [co j q hj e hq, wo j q hj e hq]
            exact hB.2.2.2.2.1 j hj q hq
      exact ⟨nI c', μ4, μ5, cc, c5, hBI, ⟨0, by decide, by rw [f5 _ _ (by omega), f4 _ _ (by omega)]; exact z2, z5, fun k hk => absurd hk (by omega)⟩, RW_fr f (by omega) (by omega) (fun _ => by omega) (fun _ => by omega) hI.2.2.1, KP_fr f (by omega) (by omega) (fun _ _ _ => by omega) (fun _ => by omega) hI.2.2.2.1, WY_fr f (fun _ => by omega) (N1_e (by rw [ha 0 (by decide) (by decide)])) (fun _ _ _ _ => by rw [ln_t (ha 1 (by decide) (by decide))]) hI.2.2.2.2⟩
end
