/-! the plan is prepared for a law -/
/-- the terms of a law as the class reads them -/
def LG (sc : rp_Sc) (σ : rp_Mm) (x : Int32) (g : Nat → Nat) : Prop := (∀ μ, C μ = C σ → ∀ q, q < 11 → CL sc 20 [.ref 7, .int x, .int (nI q)] μ = RI (nI (g q)) μ) ∧ TM g
section
variable {sc : rp_Sc} {σ μ r : rp_Mm} {g : Nat → Nat}
theorem lg_law (hB : BI (C σ) r) {l : Nat} (hl : l < 3) : LG sc σ (nI l) (lw r l) := ⟨fun μ e q hq => g_lw (by rw [e]; exact hB) hl (by omega), (b_lw hB.1 hl).1⟩
theorem lg_none : LG sc σ (-3) (fun _ => 0) := ⟨fun μ _ q _ => s_get_neg TB7 (by decide), by unfold TM; decide⟩
theorem y_wishPlace {n s : Nat} {δ : Nat → Nat} (hR : RB r) (hP : PL σ μ r g n δ s) (hn : n < nW r) : ∃ a μ' δ' s', CL sc 90 [.ref 37, .int (nI (cwN r g n))] μ = RI (nI a) μ' ∧ a < s' ∧ s' ≤ n + 1 ∧ δ' a = cwN r g n ∧ Fr (fun a k => (a = 37 ∧ 3 ≤ k ∧ k ≤ 9) ∨ (38 ≤ a ∧ a ≤ 41)) σ μ' ∧ (μ' 37 3 = nI s' ∧ μ' 37 6 = nI (g 0) ∧ μ' 37 7 = nI (g 1) ∧ μ' 37 8 = nI (g 2) ∧ μ' 37 9 = nI (frN r n)) ∧ PA μ' s' δ' (fun i => gd r g n (δ' i)) (fun i => qd r g n (δ' i)) ∧ (∀ i j, i < j → j < s' → δ' i < δ' j) ∧ (∀ i, i < s' → ∃ w, w < n + 1 ∧ cwN r g w = δ' i) ∧ ∀ w, w < n + 1 → ∃ i, i < s' ∧ δ' i = cwN r g w := by
  have bn := b_n hR
  obtain ⟨f, ⟨z3, z4, z5, z6, z7⟩, hs, hA, hin, h1, h2⟩ := hP
  have hd := cw_le (g := g) hR hn
  obtain ⟨d, ed⟩ : ∃ d, d = cwN r g n := ⟨_, rfl⟩
  rw [← ed] at hd ⊢
  obtain ⟨a, μ', c, ha, hlo, hx⟩ := y_place (sc := sc) (show s < 10 by omega) hd (fun i hi => by
    obtain ⟨w, hw, e⟩ := h1 i hi
    rw [← e]
    exact cw_le hR (by omega)) z3 hA
  rcases hx with ⟨q1, q2, rfl⟩ | ⟨q1, q2, q3, q4⟩
  · refine ⟨a, μ', δ, s, c, q1, by omega, q2, f, ⟨z3, z4, z5, z6, z7⟩, hA, hin, fun i hi => ?_, fun w hw => ?_⟩
    · obtain ⟨w, hw, e⟩ := h1 i hi
      exact ⟨w, by omega, e⟩
    · by_cases e : w = n
      · subst e; exact ⟨a, q1, by rw [q2, ed]⟩
      · exact h2 w (by omega)
  · have hhi : ∀ i, a ≤ i → i < s → d < δ i := fun i h3 h4 => by
      rcases q1 with q1 | q1
      · omega
      · by_cases e : i = a
        · rw [e]; exact q1
        · have := hin a i (by omega) h4; omega
    have hno : ∀ w, w < n → cwN r g w ≠ d := fun w hw e => by
      obtain ⟨i, hi, e2⟩ := h2 w hw
      by_cases q : i < a
      · have := hlo i q; omega
      · have := hhi i (by omega) hi; omega
    have g0 := gd_0 hno
    refine ⟨a, μ', insO δ a d, s + 1, c, by omega, by omega, ?_, Fr_tr f (Fr_mo q2 (fun _ _ => by omega)), ⟨q3, by rw [q2 _ _ (by omega)]; exact z4, by rw [q2 _ _ (by omega)]; exact z5, by rw [q2 _ _ (by omega)]; exact z6, by rw [q2 _ _ (by omega)]; exact z7⟩, fun i hi => ?_, fun i j hij hj => ?_, fun i hi => ?_, fun w hw => ?_⟩
    · unfold insO; rw [if_neg (by omega), if_pos rfl]
    · have := q4 i hi
      unfold insO at this ⊢
      by_cases e1 : i < a
      · simp only [e1, if_true] at this ⊢
        exact this
      · by_cases e2 : i = a
        · simp only [e2, Nat.lt_irrefl, if_false, if_true, g0.1, g0.2] at this ⊢
          exact this
        · simp only [e1, e2, if_false] at this ⊢
          exact this
    · unfold insO
      by_cases e1 : j < a
      · rw [if_pos (show i < a by omega), if_pos e1]; exact hin i j hij (by omega)
      · rw [if_neg e1]
        by_cases e2 : j = a
        · rw [if_pos e2, if_pos (show i < a by omega)]; exact hlo i (by omega)
        · rw [if_neg e2]
          by_cases e3 : i < a
          · rw [if_pos e3]
            have := hlo i e3
            have := hhi (j - 1) (by omega) (by omega)
            omega
          · rw [if_neg e3]
            by_cases e4 : i = a
            · rw [if_pos e4]; exact hhi (j - 1) (by omega) (by omega)
            · rw [if_neg e4]; exact hin (i - 1) (j - 1) (by omega) (by omega)
    · unfold insO
      by_cases e1 : i < a
      · rw [if_pos e1]
        obtain ⟨w, hw, e⟩ := h1 i (by omega)
        exact ⟨w, by omega, e⟩
      · rw [if_neg e1]
        by_cases e2 : i = a
        · rw [if_pos e2]; exact ⟨n, by omega, ed.symm⟩
        · rw [if_neg e2]
          obtain ⟨w, hw, e⟩ := h1 (i - 1) (by omega)
          exact ⟨w, by omega, e⟩
    · by_cases e : w = n
      · subst e
        refine ⟨a, by omega, ?_⟩
        unfold insO
        rw [if_neg (by omega), if_pos rfl]
        exact ed
      · obtain ⟨i, hi, e2⟩ := h2 w (by omega)
        by_cases q : i < a
        · refine ⟨i, by omega, ?_⟩
          unfold insO
          rw [if_pos q]; exact e2
        · refine ⟨i + 1, by omega, ?_⟩
          unfold insO
          rw [if_neg (by omega), if_neg (by omega), Nat.add_sub_cancel]; exact e2
theorem y_prepWish (hB : BI (C σ) r) {x : Int32} (hg : LG sc σ x g) {n s : Nat} {δ : Nat → Nat} (hP : PL σ μ r g n δ s) (hn : n < nW r) : ∃ μ' δ' s', CL sc 89 [.ref 37, .ref 2, .int x, .int (nI (ws r n 0)), .int (nI (ws r n 1))] μ = RV μ' ∧ PL σ μ' r g (n + 1) δ' s' := by
  have bn := b_n hB.1
  have bw := b_ws hB.1 hn
  obtain ⟨gg, tm⟩ := hg
  have tm' := tm
  unfold TM at tm'
  have eC : C μ = C σ := C_fr hP.1 (fun a k ha => by omega)
  have hBμ : BI (C μ) r := by rw [eC]; exact hB
  obtain ⟨a, μ1, δ', s', c1, ha, hs', hda, f1, ⟨z3, z4, z5, z6, z7⟩, hA, hin, h1, h2⟩ := y_wishPlace (sc := sc) hB.1 hP hn
  have eC1 : C μ1 = C σ := C_fr f1 (fun a k ha => by omega)
  obtain ⟨μ2, em⟩ : ∃ m, m = rp_wr μ1 37 9 (nI (frN r (n + 1))) := ⟨_, rfl⟩
  have f2 : Fr (fun a k => (a = 37 ∧ 3 ≤ k ∧ k ≤ 9) ∨ (38 ≤ a ∧ a ≤ 41)) σ μ2 := by rw [em]; exact Fr_wr f1 (Or.inl ⟨rfl, by decide, by decide⟩)
  have eC2 : C μ2 = C σ := C_fr f2 (fun a k ha => by omega)
  have hB2 : BI (C μ2) r := by rw [eC2]; exact hB
  have y3 : μ2 37 3 = nI s' := by rw [em, wr_nk (by decide)]; exact z3
  have ys : μ2 37 3 = nI s' ∧ μ2 37 6 = nI (g 0) ∧ μ2 37 7 = nI (g 1) ∧ μ2 37 8 = nI (g 2) ∧ μ2 37 9 = nI (frN r (n + 1)) := ⟨y3, by rw [em, wr_nk (by decide)]; exact z4, by rw [em, wr_nk (by decide)]; exact z5, by rw [em, wr_nk (by decide)]; exact z6, by rw [em]; exact wr_eq⟩
  have hA2 : PA μ2 s' δ' (fun i => gd r g n (δ' i)) (fun i => qd r g n (δ' i)) := fun i hi => by rw [em, wr_n2 (by decide), wr_n2 (by decide), wr_n2 (by decide)]; exact hA i hi
  have hfr : frN r (n + 1) = frN r n + faN r n := rfl
  have l1 := fa_le hB.1 hn
  have l2 := paysN_le hB.1 (t := ws r n 0) (f := g 6) (b := g 7) bw.1 (by omega) (by omega)
  have l3 := leN_le r (g 3) (g 4) (ws r n 0)
  have efare : CL sc 20 [.ref 5, .int (nI (ws r n 0)), .int (nI 6)] μ = RI (nI (faN r n)) μ := g_tr hBμ bw.1 (by decide)
  have epay : CL sc 78 [.ref 2, .ref 7, .int x, .int (nI (ws r n 0))] μ = RI (nI (pyN r g n)) μ := y_pays (BJ_of hBμ) bw.1 TB7 (gg μ eC) tm
  have eday : CL sc 73 [.ref 2, .ref 7, .int x, .int (nI (ws r n 0)), .int (nI (ws r n 1))] μ = RI (nI (cwN r g n)) μ := y_cday (BJ_of hBμ) bw.1 TB7 (gg μ eC) tm (by omega)
  have elets : CL sc 74 [.ref 2, .ref 7, .int x, .int (nI (ws r n 0))] μ2 = RI (nI (leN r (g 3) (g 4) (ws r n 0))) μ2 := y_lets (BJ_of hB2) bw.1 TB7 (gg μ2 eC2) tm
  have l4 : pyN r g n ≤ 1499 := l2
  have hne : ∀ i, i < s' → i ≠ a → ¬ cwN r g n = δ' i := fun i hi hia e => by
    rw [← hda] at e
    by_cases q : i < a
    · have := hin i a q ha; omega
    · have := hin a i (by omega) hi; omega
  by_cases hc : leN r (g 3) (g 4) (ws r n 0) = 1 ∧ pyN r g n < faN r n
  · have ega : gaN r g n = faN r n - pyN r g n := by unfold gaN; rw [if_pos hc]
    have ego : goN r g n = 1 := by unfold goN; rw [if_pos hc]
    refine ⟨rp_wr (rp_wr μ2 39 a (nI (gd r g (n + 1) (δ' a)))) 40 a (nI (qd r g (n + 1) (δ' a))), δ', s', cl_of (D_Plan_prepareWish_0 _ _ _ μ) rfl ?_, Fr_wr (Fr_wr f2 (by omega)) (by omega), ?_, by omega, fun i hi => ?_, hin, h1, h2⟩
    · have v1 := (hA2 a ha).2.1
      have v2 := (hA2 a ha).2.2
      have eg : gd r g (n + 1) (δ' a) = gd r g n (δ' a) + (faN r n - pyN r g n) := by rw [gd_s, hda, if_pos rfl, ega]
      have eq : qd r g (n + 1) (δ' a) = qd r g n (δ' a) + 1 := by rw [qd_s, hda, if_pos rfl, ego]
      simp (disch := omega) only [lt_nI, efare, thI_RI, epay, eday, c1, z7, nI_add, ← hfr, ← em, y3, nI_ltI, nI_leI, show ¬ a < 0 by omega, show ¬ s' ≤ a by omega, show ¬ 10 ≤ a by omega, show ¬ faN r n ≤ pyN r g n by omega, if_false, elets, hc.1, i_0, ixT, cond_true, nI_clamp, v1, pk_sub, wr_n2, v2, eg, eq]
    · obtain ⟨w3, w4, w5, w6, w7⟩ := ys
      simp (disch := omega) only [wr_n2]
      exact ⟨w3, w4, w5, w6, w7⟩
    · by_cases e : i = a
      · subst e
        simp (disch := omega) only [wr_n2, wr_eq]
        exact ⟨(hA2 i hi).1, trivial, trivial⟩
      · simp (disch := omega) only [wr_n2, wr_nk]
        rw [gd_s, qd_s, if_neg (hne i hi e), if_neg (hne i hi e)]
        exact hA2 i hi
  · have ega : gaN r g n = 0 := by unfold gaN; rw [if_neg hc]
    have ego : goN r g n = 0 := by unfold goN; rw [if_neg hc]
    refine ⟨μ2, δ', s', cl_of (D_Plan_prepareWish_0 _ _ _ μ) rfl ?_, f2, ys, by omega, fun i hi => ?_, hin, h1, h2⟩
    · simp (disch := omega) only [lt_nI, efare, thI_RI, epay, eday, c1, z7, nI_add, ← hfr, ← em, y3, nI_ltI, nI_leI, show ¬ a < 0 by omega, show ¬ s' ≤ a by omega, show ¬ 10 ≤ a by omega, if_false]
      by_cases h3 : faN r n ≤ pyN r g n
      · simp only [eq_true h3, if_true]
      · have h4 : leN r (g 3) (g 4) (ws r n 0) = 0 := by
          have : ¬ leN r (g 3) (g 4) (ws r n 0) = 1 := fun q => hc ⟨q, by omega⟩
          omega
        simp only [eq_false h3, if_false, elets, thI_RI, h4, if_true]
    · have := hA2 i hi
      dsimp only
      rw [gd_s, qd_s, ega, ego]
      simp only [ite_self, Nat.add_zero]
      exact this
/-- what is known of the plan's days -/
theorem pl_days {n s : Nat} {δ : Nat → Nat} (hR : RB r) (hn : n ≤ nW r) (hP : PL σ μ r g n δ s) : s ≤ 10 ∧ (∀ i, i < s → δ i < 122) ∧ (∀ i, i < s → gd r g n (δ i) ≤ 5000 ∧ qd r g n (δ i) ≤ 10) := by
  have bn := b_n hR
  obtain ⟨-, -, hs, -, -, h1, -⟩ := hP
  refine ⟨by omega, fun i hi => ?_, fun i hi => ?_⟩
  · obtain ⟨w, hw, e⟩ := h1 i hi
    have := cw_le (g := g) hR (show w < nW r by omega)
    omega
  · have q1 := gd_le (g := g) (d := δ i) hR hn
    have q2 := qd_le (r := r) (g := g) (n := n) (d := δ i)
    omega
theorem PL_rk {n s : Nat} {δ : Nat → Nat} (hP : PL σ μ r g n δ s) {μ' : rp_Mm} (f : Fr (fun a k => a = 41 ∨ (a = 37 ∧ k = 5)) μ μ') : PL σ μ' r g n δ s := by
  obtain ⟨h, ⟨z3, z4, z5, z6, z7⟩, hs, hA, q⟩ := hP
  refine ⟨Fr_tr h (Fr_mo f (fun _ _ => by omega)), ⟨by rw [f _ _ (by omega)]; exact z3, by rw [f _ _ (by omega)]; exact z4, by rw [f _ _ (by omega)]; exact z5, by rw [f _ _ (by omega)]; exact z6, by rw [f _ _ (by omega)]; exact z7⟩, hs, fun i hi => ?_, q⟩
  rw [f _ _ (by omega), f _ _ (by omega), f _ _ (by omega)]
  exact hA i hi
theorem PL_self {n s : Nat} {δ : Nat → Nat} (h : PL σ μ r g n δ s) : PL μ μ r g n δ s := ⟨Fr_rfl, h.2⟩
theorem PL_w {n s : Nat} {δ : Nat → Nat} (h : PL μ μ r g n δ s) {μ' : rp_Mm} (f : Fr (fun a k => (a = 37 ∧ 10 ≤ k) ∨ (42 ≤ a ∧ a ≤ 44)) μ μ') : PL μ' μ' r g n δ s := by
  obtain ⟨-, ⟨z3, z4, z5, z6, z7⟩, hs, hA, q⟩ := h
  refine ⟨Fr_rfl, ⟨by rw [f _ _ (by omega)]; exact z3, by rw [f _ _ (by omega)]; exact z4, by rw [f _ _ (by omega)]; exact z5, by rw [f _ _ (by omega)]; exact z6, by rw [f _ _ (by omega)]; exact z7⟩, hs, fun i hi => ?_, q⟩
  rw [f _ _ (by omega), f _ _ (by omega), f _ _ (by omega)]
  exact hA i hi
theorem y_prepare (hB : BI (C σ) r) {x : Int32} (hg : LG sc σ x g) : ∃ μ δ s, CL sc 88 [.ref 37, .ref 2, .int x] σ = RV μ ∧ PL σ μ r g (nW r) δ s ∧ RKD μ s (fun i => gd r g (nW r) (δ i)) := by
  have bn := b_n hB.1
  obtain ⟨gg, tm⟩ := id hg
  obtain ⟨μ0, em⟩ : ∃ m, m = rp_wr (rp_wr σ 37 3 (nI 0)) 37 9 (nI 0) := ⟨_, rfl⟩
  have k0 : ∀ μ, Fr (fun a k => (a = 37 ∧ 3 ≤ k ∧ k ≤ 9) ∨ (38 ≤ a ∧ a ≤ 41)) σ μ → C μ = C σ := fun μ f => C_fr f (fun a k ha => by omega)
  have f0 : Fr (fun a k => (a = 37 ∧ 3 ≤ k ∧ k ≤ 9) ∨ (38 ≤ a ∧ a ≤ 41)) σ μ0 := by rw [em]; exact Fr_wr (Fr_wr Fr_rfl (by omega)) (by omega)
  have f1 : Fr (fun a k => (a = 37 ∧ 3 ≤ k ∧ k ≤ 9) ∨ (38 ≤ a ∧ a ≤ 41)) σ (rp_wr μ0 37 6 (nI (g 0))) := Fr_wr f0 (by omega)
  have f2 : Fr (fun a k => (a = 37 ∧ 3 ≤ k ∧ k ≤ 9) ∨ (38 ≤ a ∧ a ≤ 41)) σ (rp_wr (rp_wr μ0 37 6 (nI (g 0))) 37 7 (nI (g 1))) := Fr_wr f1 (by omega)
  have f3 : Fr (fun a k => (a = 37 ∧ 3 ≤ k ∧ k ≤ 9) ∨ (38 ≤ a ∧ a ≤ 41)) σ (rp_wr (rp_wr (rp_wr μ0 37 6 (nI (g 0))) 37 7 (nI (g 1))) 37 8 (nI (g 2))) := Fr_wr f2 (by omega)
  have P0 : PL σ (rp_wr (rp_wr (rp_wr μ0 37 6 (nI (g 0))) 37 7 (nI (g 1))) 37 8 (nI (g 2))) r g 0 (fun _ => 0) 0 := by
    refine ⟨f3, ⟨?_, ?_, ?_, wr_eq, ?_⟩, Nat.le_refl _, fun i hi => absurd hi (by omega), fun i j _ hj => absurd hj (by omega), fun i hi => absurd hi (by omega), fun w hw => absurd hw (by omega)⟩
    · rw [em]; simp (disch := omega) only [wr_nk, wr_eq]
    · simp (disch := omega) only [wr_nk, wr_eq]
    · simp (disch := omega) only [wr_nk, wr_eq]
    · rw [em]; simp (disch := omega) only [wr_nk, wr_eq]; rfl
  obtain ⟨μ, ⟨δ, s, hP⟩, L⟩ := lp_inv (E := fun n μ => EV sc (88, 0, 0, 51, [.ref 37, .ref 2, .int x, .int (nI n)], [], (rp_L0, μ))) (fun n μ => ∃ δ s, PL σ μ r g n δ s) (n := nW r) (fun n μ hn hR => by
    obtain ⟨δ, s, hP⟩ := hR
    have hBμ : BI (C μ) r := by rw [k0 μ hP.1]; exact hB
    obtain ⟨μ', δ', s', c, hP'⟩ := y_prepWish (sc := sc) hB hg hP hn
    refine ⟨μ', ⟨δ', s', hP'⟩, rp_Le_tr ?_ (D_Plan_prepare_51 _ _ μ)⟩
    simp (disch := omega) only [lt_nI, nI_add, z_ws hBμ, thI_RI, nI_leI, show ¬ nW r ≤ n by omega, if_false, g_ws hBμ hn, c, thV_RV]
    exact rp_Le_rfl) ⟨_, _, P0⟩
  obtain ⟨p1, p2, p3⟩ := pl_days hB.1 (Nat.le_refl _) hP
  obtain ⟨μ', cr, fr, hk⟩ := y_rankDays (sc := sc) (μ := μ) (A := fun i => gd r g (nW r) (δ i)) p1 hP.2.1.1 (fun j hj => ⟨(hP.2.2.2.1 j hj).2.1, (p3 j hj).1⟩)
  refine ⟨μ', δ, s, cl_le rfl (rp_Le_tr ?_ (D_Plan_prepare_0 _ σ)), PL_rk hP fr, hk⟩
  have e0 := gg μ0 (k0 _ f0) 0 (by decide)
  have e1 := gg _ (k0 _ f1) 1 (by decide)
  have e2 := gg _ (k0 _ f2) 2 (by decide)
  simp only [lt_nI]
  rw [← em, e0, thI_RI, e1, thI_RI, e2, thI_RI]
  refine rp_Le_tr (rp_Le_tr ?_ (D_Plan_prepare_51 _ _ μ)) L
  have hBμ : BI (C μ) r := by rw [k0 μ hP.1]; exact hB
  simp (disch := omega) only [z_ws hBμ, thI_RI, nI_leI, Nat.le_refl, if_true, cr, thV_RV]
  exact rp_Le_rfl
end
