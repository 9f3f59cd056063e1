/-! scans in their order -/
def tmS (r : rp_Mm) (s : Nat) : Nat := sn r s 1 * 1440 + sn r s 2
def whS (r : rp_Mm) (s : Nat) : Nat := tmS r s * 40 + s
def mtS (r : rp_Mm) (p k s : Nat) : Prop := sn r s 0 = p ∧ sn r s 4 ≤ k
/-- the order of those of the first j scans that count -/
def SO (r : rp_Mm) (p k j : Nat) (o : Nat → Nat) (n : Nat) : Prop := n ≤ j ∧ (∀ i, i < n → o i < j ∧ mtS r p k (o i)) ∧ (∀ i i', i < i' → i' < n → whS r (o i) < whS r (o i')) ∧ ∀ s, s < j → mtS r p k s → ∃ i, i < n ∧ o i = s
/-- the class's row of them -/
def OM (σ μ : rp_Mm) (o : Nat → Nat) (n : Nat) : Prop := Fr (fun a k => (a = 45 ∧ k = 1) ∨ a = 46) σ μ ∧ μ 45 1 = nI n ∧ ∀ i, i < n → μ 46 i = nI (o i)
def insO (o : Nat → Nat) (at' s : Nat) : Nat → Nat := fun i => if i < at' then o i else if i = at' then s else o (i - 1)
theorem SO_ins {r : rp_Mm} {p k s : Nat} {o : Nat → Nat} {n a : Nat} (h : SO r p k s o n) (hs : s < 40) (hm : mtS r p k s) (ha : a ≤ n) (h1 : 0 < a → tmS r (o (a - 1)) ≤ tmS r s) (h2 : ∀ i, a ≤ i → i < n → tmS r s < tmS r (o i)) : SO r p k (s + 1) (insO o a s) (n + 1) := by
  obtain ⟨b, c, d, e⟩ := h
  have lo : ∀ i, i < a → whS r (o i) < whS r s := fun i hi => by
    have q1 := h1 (by omega)
    have q2 := (c (a - 1) (by omega)).1
    have q3 : whS r (o (a - 1)) < whS r s := by unfold whS; omega
    by_cases q : i = a - 1
    · subst q; exact q3
    · have := d i (a - 1) (by omega) (by omega)
      omega
  have hi' : ∀ i, a ≤ i → i < n → whS r s < whS r (o i) := fun i h3 h4 => by
    have := h2 i h3 h4
    unfold whS
    omega
  refine ⟨by omega, fun i hi => ?_, fun i i' hlt hi => ?_, fun x hx hm' => ?_⟩
  · unfold insO
    split
    · have := c i (by omega); exact ⟨by omega, this.2⟩
    · split
      · exact ⟨by omega, hm⟩
      · have := c (i - 1) (by omega); exact ⟨by omega, this.2⟩
  · unfold insO
    by_cases q1 : i' < a
    · rw [if_pos (show i < a by omega), if_pos q1]; exact d i i' hlt (by omega)
    · rw [if_neg q1]
      by_cases q2 : i' = a
      · rw [if_pos q2, if_pos (show i < a by omega)]; exact lo i (by omega)
      · rw [if_neg q2]
        by_cases q3 : i < a
        · rw [if_pos q3]
          have := lo i q3
          have := hi' (i' - 1) (by omega) (by omega)
          omega
        · rw [if_neg q3]
          by_cases q4 : i = a
          · rw [if_pos q4]; exact hi' (i' - 1) (by omega) (by omega)
          · rw [if_neg q4]; exact d (i - 1) (i' - 1) (by omega) (by omega)
  · by_cases q : x = s
    · subst q
      refine ⟨a, by omega, ?_⟩
      unfold insO
      rw [if_neg (by omega), if_pos rfl]
    · obtain ⟨i, hi, rfl⟩ := e x (by omega) hm'
      by_cases q1 : i < a
      · refine ⟨i, by omega, ?_⟩
        unfold insO
        rw [if_pos q1]
      · refine ⟨i + 1, by omega, ?_⟩
        unfold insO
        rw [if_neg (by omega), if_neg (by omega), Nat.add_sub_cancel]
section
variable {sc : rp_Sc} {σ μ r : rp_Mm}
theorem y_timeOf (h : BI (C σ) r) {s : Nat} (hs : s < nS r) : CL sc 130 [.ref 15, .int (nI s)] σ = RI (nI (tmS r s)) σ := by
  have b := b_sn h.1 hs
  refine cl_of (D_Ledger_timeOf_0 _ σ) rfl ?_
  simp (disch := omega) only [lt_nI, nI_add, pk_mul, g_sn h hs, thI_RI]
  rfl
theorem y_scanAt {i : Nat} (hi : i < 40) : CL sc 129 [.ref 45, .int (nI i)] σ = RI (σ 46 i) σ := by
  refine cl_of (D_Ledger_scanAt_0 _ σ) rfl ?_
  simp (disch := omega) only [lt_nI, nI_add, pk_mul, nI_clamp, nI_leI, nI_ltI, nI_eq, ixT, cond_true, show ¬ i < 0 by omega, show ¬ 40 ≤ i by omega, if_false]
theorem y_setScan {i : Nat} {x : Int32} (hi : i < 40) : CL sc 131 [.ref 45, .int (nI i), .int x] σ = RV (rp_wr σ 46 i x) := by
  refine cl_of (D_Ledger_setScan_0 _ _ σ) rfl ?_
  simp (disch := omega) only [lt_nI, nI_add, pk_mul, nI_clamp, nI_leI, nI_ltI, nI_eq, ixT, cond_true, show ¬ i < 0 by omega, show ¬ 40 ≤ i by omega, if_false]
/-- one scan more -/
theorem y_insert (hB : BI (C σ) r) {p k s n : Nat} {o : Nat → Nat} (hs : s < nS r) (hO : SO r p k s o n) (hm : mtS r p k s) (hM : OM σ μ o n) : ∃ μ' o', CL sc 128 [.ref 45, .ref 15, .int (nI s)] μ = RV μ' ∧ OM σ μ' o' (n + 1) ∧ SO r p k (s + 1) o' (n + 1) := by
  have bn := b_n hB.1
  obtain ⟨f, z, v⟩ := hM
  have hn : n ≤ s := hO.1
  have tle : ∀ x, x < nS r → tmS r x < 2 ^ 30 := fun x hx => by
    have b := b_sn hB.1 hx
    unfold tmS
    omega
  have LL : ∀ (a : Nat) (μ : rp_Mm), a ≤ n → Fr (fun a k => (a = 45 ∧ k = 1) ∨ a = 46) σ μ → μ 45 1 = nI n → (∀ i, i < a → μ 46 i = nI (o i)) → (∀ i, a ≤ i → i < n → μ 46 (i + 1) = nI (o i) ∧ tmS r s < tmS r (o i)) → ∃ a' μ', a' ≤ n ∧ Fr (fun a k => (a = 45 ∧ k = 1) ∨ a = 46) σ μ' ∧ μ' 45 1 = nI n ∧ (∀ i, i < a' → μ' 46 i = nI (o i)) ∧ (∀ i, a' ≤ i → i < n → μ' 46 (i + 1) = nI (o i) ∧ tmS r s < tmS r (o i)) ∧ (0 < a' → tmS r (o (a' - 1)) ≤ tmS r s) ∧ rp_Le (EV sc (128, 0, 0, 46, [.ref 45, .ref 15, .int (nI s), .int (nI a')], [], (rp_L0, μ'))) (EV sc (128, 0, 0, 5, [.ref 45, .ref 15, .int (nI s), .int (nI a)], [], (rp_L0, μ))) := by
    intro a
    induction a with
    | zero =>
      intro μ ha f z v w
      refine ⟨0, μ, ha, f, z, v, w, fun h => absurd h (by omega), rp_Le_tr ?_ (D_Ledger_insert_5 _ _ μ)⟩
      simp (disch := omega) only [lt_nI, nI_leI, Nat.le_refl, if_true]
      exact rp_Le_rfl
    | succ a ih =>
      intro μ ha f z v w
      have hBμ : BI (C μ) r := by rw [C_fr f (fun a k ha => by omega)]; exact hB
      have ho := (hO.2.1 a (by omega)).1
      have va := v a (by omega)
      have t1 := tle (o a) (by omega)
      have t2 := tle s hs
      have e1 := y_scanAt (sc := sc) (σ := μ) (show a < 40 by omega)
      rw [va] at e1
      have e2 := y_timeOf (sc := sc) hBμ (show o a < nS r by omega)
      have e3 := y_timeOf (sc := sc) hBμ hs
      by_cases hc : tmS r (o a) ≤ tmS r s
      · refine ⟨a + 1, μ, ha, f, z, v, w, fun _ => by rw [Nat.add_sub_cancel]; exact hc, rp_Le_tr ?_ (D_Ledger_insert_5 _ _ μ)⟩
        simp (disch := omega) only [lt_nI, nI_leI, show ¬ a + 1 ≤ 0 by omega, if_false, pk_sub, Nat.add_sub_cancel, e1, thI_RI, e2, e3, hc, if_true]
        exact rp_Le_rfl
      · have e4 := y_setScan (sc := sc) (σ := μ) (x := nI (o a)) (show a + 1 < 40 by omega)
        obtain ⟨a', μ', q1, q2, q3, q4, q5, q6, q7⟩ := ih (rp_wr μ 46 (a + 1) (nI (o a))) (by omega) (Fr_wr f (Or.inr rfl)) (by rw [wr_n2 (by decide)]; exact z) (fun i hi => by rw [wr_nk (by omega)]; exact v i (by omega)) (fun i h1 h2 => by
          by_cases q : i = a
          · subst q; exact ⟨wr_eq, by omega⟩
          · rw [wr_nk (by omega)]; exact w i (by omega) h2)
        refine ⟨a', μ', q1, q2, q3, q4, q5, q6, rp_Le_tr (rp_Le_tr q7 ?_) (D_Ledger_insert_5 _ _ μ)⟩
        have e5 : nI (a + 1) + -1 = nI a := pk_m1 a
        simp (disch := omega) only [nI_leI, show ¬ nI (a + 1) ≤ 0 from nI_nle (by omega) (by omega), if_false, nI_pred, e1, thI_RI, e2, e3, hc, e4, thV_RV, e5]
        exact rp_Le_rfl
  obtain ⟨a, μ1, q1, q2, q3, q4, q5, q6, L⟩ := LL n μ (Nat.le_refl _) f z v (fun i h1 h2 => absurd h1 (by omega))
  have e := y_setScan (sc := sc) (σ := μ1) (x := nI s) (show a < 40 by omega)
  refine ⟨rp_wr (rp_wr μ1 46 a (nI s)) 45 1 (nI (n + 1)), insO o a s, cl_le rfl (rp_Le_tr ?_ (D_Ledger_insert_0 _ μ)), ⟨Fr_wr (Fr_wr q2 (Or.inr rfl)) (Or.inl ⟨rfl, rfl⟩), wr_eq, fun i hi => ?_⟩, SO_ins hO (by omega) hm q1 q6 fun i h1 h2 => (q5 i h1 h2).2⟩
  · rw [z]
    refine rp_Le_tr (rp_Le_tr ?_ (D_Ledger_insert_46 _ _ μ1)) L
    rw [e, thV_RV, wr_n2 (by decide), q3, nI_1]
    exact rp_Le_rfl
  · rw [wr_n2 (by decide)]
    unfold insO
    by_cases h1 : i < a
    · rw [wr_nk (by omega), if_pos h1]; exact q4 i h1
    · rw [if_neg h1]
      by_cases h2 : i = a
      · rw [if_pos h2, h2, wr_eq]
      · rw [if_neg h2, wr_nk h2]
        have := (q5 (i - 1) (by omega) (by omega)).1
        rw [show i - 1 + 1 = i by omega] at this
        exact this
theorem y_sort (hB : BI (C σ) r) {p k : Nat} (hp : p < nP r) (hk : k ≤ 120) : ∃ μ o n, CL sc 127 [.ref 45, .ref 15, .int (nI p), .int (nI k)] σ = RV μ ∧ OM σ μ o n ∧ SO r p k (nS r) o n := by
  have bn := b_n hB.1
  obtain ⟨μ, ⟨o, n, h1, h2⟩, L⟩ := lp_inv (E := fun s μ => EV sc (127, 0, 0, 8, [.ref 45, .ref 15, .int (nI p), .int (nI k), .int (nI s)], [], (rp_L0, μ))) (fun s μ => ∃ o n, OM σ μ o n ∧ SO r p k s o n) (n := nS r) (fun s μ hs hR => by
    obtain ⟨o, n, h1, h2⟩ := hR
    have hBμ : BI (C μ) r := by rw [C_fr h1.1 (fun a k ha => by omega)]; exact hB
    have b := b_sn hB.1 hs
    have T : ∀ μ, rp_Le (EV sc (127, 0, 0, 8, [.ref 45, .ref 15, .int (nI p), .int (nI k), .int (nI (s + 1))], [], (rp_L0, μ))) (EV sc (127, 0, 0, 46, [.ref 45, .ref 15, .int (nI p), .int (nI k), .int (nI s)], [], (rp_L0, μ))) := fun μ => by
      refine rp_Le_tr ?_ (D_Ledger_sortScans_46 _ _ _ μ)
      simp only [lt_nI, nI_add]
      exact rp_Le_rfl
    by_cases hm : mtS r p k s
    · obtain ⟨μ', o', c, m, q⟩ := y_insert (sc := sc) hB hs h2 hm h1
      refine ⟨μ', ⟨o', n + 1, m, q⟩, rp_Le_tr (rp_Le_tr (T μ') ?_) (D_Ledger_sortScans_8 _ _ _ μ)⟩
      simp (disch := omega) only [lt_nI, z_sn hBμ, thI_RI, nI_leI, show ¬ nS r ≤ s by omega, if_false, g_sn hBμ hs, nI_eq, hm.1, if_true, nI_ltI, show ¬ k < sn r s 4 from Nat.not_lt.mpr hm.2, c, thV_RV]
      exact rp_Le_rfl
    · refine ⟨μ, ⟨o, n, h1, by have := h2.1; omega, fun i hi => ⟨by have := (h2.2.1 i hi).1; omega, (h2.2.1 i hi).2⟩, h2.2.2.1, fun x hx hmx => ?_⟩, rp_Le_tr (rp_Le_tr (T μ) ?_) (D_Ledger_sortScans_8 _ _ _ μ)⟩
      · by_cases q : x = s
        · subst q; exact absurd hmx hm
        · exact h2.2.2.2 x (by omega) hmx
      · simp (disch := omega) only [lt_nI, z_sn hBμ, thI_RI, nI_leI, show ¬ nS r ≤ s by omega, if_false, g_sn hBμ hs, nI_eq, nI_ltI]
        by_cases h0 : sn r s 0 = p
        · have h4 : k < sn r s 4 := by
            refine Nat.lt_of_not_le fun h4 => hm ⟨h0, h4⟩
          simp only [eq_true h0, eq_true h4, if_true]
          exact rp_Le_rfl
        · simp only [eq_false h0, if_false]
          exact rp_Le_rfl) (s := rp_wr σ 45 1 (nI 0)) ⟨fun _ => 0, 0, ⟨Fr_wr Fr_rfl (Or.inl ⟨rfl, rfl⟩), wr_eq, fun i hi => absurd hi (by omega)⟩, ⟨Nat.le_refl _, fun i hi => absurd hi (by omega), fun i i' _ hi => absurd hi (by omega), fun s hs => absurd hs (by omega)⟩⟩
  refine ⟨μ, o, n, cl_le rfl (rp_Le_tr (rp_Le_tr ?_ L) (D_Ledger_sortScans_0 _ _ σ)), h1, h2⟩
  have hBμ : BI (C μ) r := by rw [C_fr h1.1 (fun a k ha => by omega)]; exact hB
  refine rp_Le_tr ?_ (D_Ledger_sortScans_8 _ _ _ μ)
  simp (disch := omega) only [lt_nI, z_sn hBμ, thI_RI, nI_leI, Nat.le_refl, if_true]
  exact rp_Le_rfl
end
