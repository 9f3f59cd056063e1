/-! the days that spare something, ranked -/
def RKD (μ : rp_Mm) (s : Nat) (A : Nat → Nat) : Prop := ∃ (ρ : Nat → Nat) (m : Nat), μ 37 5 = nI m ∧ m ≤ s ∧ (∀ j, j < m → μ 41 j = nI (ρ j) ∧ ρ j < s ∧ 0 < A (ρ j)) ∧ (∀ j k, j < k → k < m → A (ρ k) < A (ρ j) ∨ (A (ρ k) = A (ρ j) ∧ ρ j < ρ k)) ∧ ∀ i, i < s → 0 < A i → ∃ j, j < m ∧ ρ j = i
theorem RKD_w {μ μ' : rp_Mm} {s : Nat} {A : Nat → Nat} (h : RKD μ s A) (e5 : μ' 37 5 = μ 37 5) (e41 : ∀ j, μ' 41 j = μ 41 j) : RKD μ' s A := by
  obtain ⟨ρ, m, h1, h2, h3, h4⟩ := h
  exact ⟨ρ, m, by rw [e5]; exact h1, h2, fun j hj => by rw [e41]; exact h3 j hj, h4⟩
section
variable {sc : rp_Sc} {σ μ : rp_Mm}
theorem y_rankedAt {i : Nat} (hi : i < 10) : CL sc 97 [.ref 37, .int (nI i)] σ = RI (σ 41 i) σ := by
  refine cl_of (D_Plan_rankedAt_0 _ σ) rfl ?_
  simp (disch := omega) only [lt_nI, nI_clamp, nI_leI, nI_ltI, nI_eq, ixT, cond_true, show ¬ i < 0 by omega, show ¬ 10 ≤ i by omega, if_false]
theorem y_setRanked {i : Nat} {x : Int32} (hi : i < 10) : CL sc 98 [.ref 37, .int (nI i), .int x] σ = RV (rp_wr σ 41 i x) := by
  refine cl_of (D_Plan_setRanked_0 _ _ σ) rfl ?_
  simp (disch := omega) only [lt_nI, nI_clamp, nI_leI, nI_ltI, nI_eq, ixT, cond_true, show ¬ i < 0 by omega, show ¬ 10 ≤ i by omega, if_false]
/-- one more is put where it belongs -/
theorem y_rankDay {s m i : Nat} {A ρ : Nat → Nat} (hs : s ≤ 10) (hi : i < s) (hm : m ≤ i) (hz : μ 37 5 = nI m) (hA : ∀ j, j < s → μ 39 j = nI (A j) ∧ A j ≤ 5000) (hρ : ∀ j, j < m → μ 41 j = nI (ρ j) ∧ ρ j < i) (hso : ∀ j k, j < k → k < m → A (ρ k) ≤ A (ρ j)) : ∃ p μ', p ≤ m ∧ CL sc 96 [.ref 37, .int (nI i)] μ = RV μ' ∧ Fr (fun a k => a = 41 ∨ (a = 37 ∧ k = 5)) μ μ' ∧ μ' 37 5 = nI (m + 1) ∧ (∀ j, j < m + 1 → μ' 41 j = nI (insO ρ p i j)) ∧ (∀ j, p ≤ j → j < m → A (ρ j) < A i) ∧ ∀ j, j < p → A i ≤ A (ρ j) := by
  have stop : ∀ (x : Nat) (ν : rp_Mm), x ≤ m → Fr (fun a k => a = 41 ∨ (a = 37 ∧ k = 5)) μ ν → ν 37 5 = nI m → (∀ j, j < x → ν 41 j = nI (ρ j)) → (∀ j, x ≤ j → j < m → ν 41 (j + 1) = nI (ρ j)) → ∃ μ', rp_Le (RV μ') (EV sc (96, 0, 0, 46, [.ref 37, .int (nI i), .int (nI x)], [], (rp_L0, ν))) ∧ Fr (fun a k => a = 41 ∨ (a = 37 ∧ k = 5)) μ μ' ∧ μ' 37 5 = nI (m + 1) ∧ ∀ j, j < m + 1 → μ' 41 j = nI (insO ρ x i j) := by
    intro x ν hx f z v w
    refine ⟨rp_wr (rp_wr ν 41 x (nI i)) 37 5 (nI (m + 1)), rp_Le_tr ?_ (D_Plan_rankDay_46 _ _ ν), Fr_wr (Fr_wr f (Or.inl rfl)) (Or.inr ⟨rfl, rfl⟩), wr_eq, fun j hj => ?_⟩
    · rw [y_setRanked (by omega), thV_RV]
      simp (disch := omega) only [lt_nI, wr_n2, z, nI_add]
      exact rp_Le_rfl
    · rw [wr_n2 (by decide)]
      unfold insO
      by_cases e1 : j < x
      · rw [if_pos e1, wr_nk (by omega)]; exact v j e1
      · rw [if_neg e1]
        by_cases e2 : j = x
        · subst e2; rw [if_pos rfl]; exact wr_eq
        · rw [if_neg e2, wr_nk e2]
          have := w (j - 1) (by omega) (by omega)
          rw [show j - 1 + 1 = j by omega] at this
          exact this
  have LL : ∀ (x : Nat) (ν : rp_Mm), x ≤ m → Fr (fun a k => a = 41 ∨ (a = 37 ∧ k = 5)) μ ν → ν 37 5 = nI m → (∀ j, j < x → ν 41 j = nI (ρ j)) → (∀ j, x ≤ j → j < m → ν 41 (j + 1) = nI (ρ j)) → (∀ j, x ≤ j → j < m → A (ρ j) < A i) → ∃ p μ', p ≤ m ∧ rp_Le (RV μ') (EV sc (96, 0, 0, 5, [.ref 37, .int (nI i), .int (nI x)], [], (rp_L0, ν))) ∧ Fr (fun a k => a = 41 ∨ (a = 37 ∧ k = 5)) μ μ' ∧ μ' 37 5 = nI (m + 1) ∧ (∀ j, j < m + 1 → μ' 41 j = nI (insO ρ p i j)) ∧ (∀ j, p ≤ j → j < m → A (ρ j) < A i) ∧ ∀ j, j < p → A i ≤ A (ρ j) := by
    intro x
    induction x with
    | zero =>
      intro ν hx f z v w q
      obtain ⟨μ', L, q1, q2, q3⟩ := stop 0 ν hx f z v w
      refine ⟨0, μ', hx, rp_Le_tr (rp_Le_tr L ?_) (D_Plan_rankDay_5 _ _ ν), q1, q2, q3, q, fun j hj => absurd hj (by omega)⟩
      rw [if_pos (by decide)]
      exact rp_Le_rfl
    | succ x ih =>
      intro ν hx f z v w q
      have hr := hρ x (by omega)
      have vx := v x (by omega)
      have hAr := hA (ρ x) (by omega)
      have hAi := hA i hi
      have e1 : CL sc 97 [.ref 37, .int (nI x)] ν = RI (nI (ρ x)) ν := by rw [y_rankedAt (by omega), vx]
      have e2 : CL sc 92 [.ref 37, .int (nI (ρ x))] ν = RI (nI (A (ρ x))) ν := by rw [y_sparedAt (by omega), f _ _ (by omega), hAr.1]
      have e3 : CL sc 92 [.ref 37, .int (nI i)] ν = RI (nI (A i)) ν := by rw [y_sparedAt (by omega), f _ _ (by omega), hAi.1]
      have ep := y_setRanked (sc := sc) (σ := ν) (i := x + 1) (x := nI (ρ x)) (by omega)
      by_cases hle : A i ≤ A (ρ x)
      · obtain ⟨μ', L, q1, q2, q3⟩ := stop (x + 1) ν hx f z v w
        refine ⟨x + 1, μ', hx, rp_Le_tr (rp_Le_tr L ?_) (D_Plan_rankDay_5 _ _ ν), q1, q2, q3, q, fun j hj => ?_⟩
        · simp (disch := omega) only [nI_leI, nI_pred, e1, e2, e3, thI_RI, hle, if_true]
          rw [if_neg (show ¬ nI (x + 1) ≤ 0 from nI_ge (b := x + 1) (a := 0) (by omega) (by omega))]
          exact rp_Le_rfl
        · by_cases e : j = x
          · subst e; exact hle
          · have := hso j x (by omega) (by omega); omega
      · obtain ⟨p, μ', hp, L, q'⟩ := ih (rp_wr ν 41 (x + 1) (nI (ρ x))) (by omega) (Fr_wr f (Or.inl rfl)) (by rw [wr_n2 (by decide)]; exact z) (fun j hj => by rw [wr_nk (by omega)]; exact v j (by omega)) (fun j h1 h2 => by
          by_cases e : j = x
          · subst e; exact wr_eq
          · rw [wr_nk (by omega)]; exact w j (by omega) h2) (fun j h1 h2 => by
          by_cases e : j = x
          · subst e; omega
          · exact q j (by omega) h2)
        refine ⟨p, μ', hp, rp_Le_tr (rp_Le_tr L ?_) (D_Plan_rankDay_5 _ _ ν), q'⟩
        have em : nI (x + 1) + -1 = nI x := pk_m1 x
        simp (disch := omega) only [nI_leI, show ¬ x + 1 ≤ 0 by omega, if_false, nI_pred, e1, e2, e3, thI_RI, hle, ep, thV_RV, em]
        rw [if_neg (show ¬ nI (x + 1) ≤ 0 from nI_ge (b := x + 1) (a := 0) (by omega) (by omega))]
        exact rp_Le_rfl
  obtain ⟨p, μ', hp, L, q⟩ := LL m μ (Nat.le_refl _) Fr_rfl hz (fun j hj => (hρ j hj).1) (fun j h1 h2 => absurd h1 (by omega)) (fun j h1 h2 => absurd h1 (by omega))
  refine ⟨p, μ', hp, cl_le rfl (rp_Le_tr (rp_Le_tr L ?_) (D_Plan_rankDay_0 _ μ)), q⟩
  rw [hz]
  exact rp_Le_rfl
theorem y_rankDays {s : Nat} {A : Nat → Nat} (hs : s ≤ 10) (hz : μ 37 3 = nI s) (hA : ∀ j, j < s → μ 39 j = nI (A j) ∧ A j ≤ 5000) : ∃ μ', CL sc 95 [.ref 37] μ = RV μ' ∧ Fr (fun a k => a = 41 ∨ (a = 37 ∧ k = 5)) μ μ' ∧ RKD μ' s A := by
  obtain ⟨μ', ⟨f', k'⟩, L⟩ := lp_inv (E := fun i ν => EV sc (95, 0, 0, 7, [.ref 37, .int (nI i)], [], (rp_L0, ν))) (fun i ν => Fr (fun a k => a = 41 ∨ (a = 37 ∧ k = 5)) μ ν ∧ RKD ν i A) (n := s) (fun i ν hi hR => by
    obtain ⟨f, ρ, m, k1, k2, k3, k4, k5⟩ := hR
    have z3 : ν 37 3 = nI s := by rw [f _ _ (by omega)]; exact hz
    have hAi := hA i hi
    have es : CL sc 92 [.ref 37, .int (nI i)] ν = RI (nI (A i)) ν := by rw [y_sparedAt (by omega), f _ _ (by omega), hAi.1]
    have T28 : ∀ ν, rp_Le (EV sc (95, 0, 0, 7, [.ref 37, .int (nI (i + 1))], [], (rp_L0, ν))) (EV sc (95, 0, 0, 28, [.ref 37, .int (nI i)], [], (rp_L0, ν))) := fun ν => by
      refine rp_Le_tr ?_ (D_Plan_rankDays_28 _ ν)
      simp only [lt_nI, nI_add]
      exact rp_Le_rfl
    by_cases h0 : 0 < A i
    · obtain ⟨p, μ', hp, c, f1, z1, v1, lo, hi2⟩ := y_rankDay (sc := sc) (μ := ν) hs hi k2 k1 (fun j hj => by rw [f _ _ (by omega)]; exact hA j hj) (fun j hj => ⟨(k3 j hj).1, (k3 j hj).2.1⟩) (fun j k h1 h2 => by have := k4 j k h1 h2; omega)
      refine ⟨μ', ⟨Fr_tr f f1, insO ρ p i, m + 1, z1, by omega, fun j hj => ⟨v1 j hj, ?_⟩, fun j k hjk hk => ?_, fun i' hi' h0' => ?_⟩, rp_Le_tr (rp_Le_tr (T28 μ') ?_) (D_Plan_rankDays_7 _ ν)⟩
      · unfold insO
        by_cases e1 : j < p
        · rw [if_pos e1]; have := (k3 j (by omega)).2; omega
        · rw [if_neg e1]
          by_cases e2 : j = p
          · rw [if_pos e2]; omega
          · rw [if_neg e2]; have := (k3 (j - 1) (by omega)).2; omega
      · unfold insO
        by_cases e1 : k < p
        · rw [if_pos (show j < p by omega), if_pos e1]; exact k4 j k hjk (by omega)
        · rw [if_neg e1]
          by_cases e2 : k = p
          · rw [if_pos e2, if_pos (show j < p by omega)]
            have h1 := hi2 j (by omega)
            have h2 := (k3 j (by omega)).2.1
            omega
          · rw [if_neg e2]
            by_cases e3 : j < p
            · rw [if_pos e3]; exact k4 j (k - 1) (by omega) (by omega)
            · rw [if_neg e3]
              by_cases e4 : j = p
              · rw [if_pos e4]; exact Or.inl (lo (k - 1) (by omega) (by omega))
              · rw [if_neg e4]; exact k4 (j - 1) (k - 1) (by omega) (by omega)
      · by_cases e : i' = i
        · subst e
          refine ⟨p, by omega, ?_⟩
          unfold insO
          rw [if_neg (by omega), if_pos rfl]
        · obtain ⟨j, hj, ej⟩ := k5 i' (by omega) h0'
          by_cases q : j < p
          · refine ⟨j, by omega, ?_⟩
            unfold insO
            rw [if_pos q]; exact ej
          · refine ⟨j + 1, by omega, ?_⟩
            unfold insO
            rw [if_neg (by omega), if_neg (by omega), Nat.add_sub_cancel]; exact ej
      · simp (disch := omega) only [lt_nI, z3, nI_leI, show ¬ s ≤ i by omega, if_false, es, thI_RI, show ¬ A i ≤ 0 by omega, c, thV_RV]
        exact rp_Le_rfl
    · refine ⟨ν, ⟨f, ρ, m, k1, by omega, fun j hj => ?_, k4, fun i' hi' h0' => ?_⟩, rp_Le_tr (rp_Le_tr (T28 ν) ?_) (D_Plan_rankDays_7 _ ν)⟩
      · have := k3 j hj
        exact ⟨this.1, by omega, this.2.2⟩
      · refine k5 i' ?_ h0'
        by_cases e : i' = i
        · subst e; exact absurd h0' h0
        · omega
      · simp (disch := omega) only [lt_nI, z3, nI_leI, show ¬ s ≤ i by omega, if_false, es, thI_RI, show A i ≤ 0 by omega, if_true]
        exact rp_Le_rfl) (s := rp_wr μ 37 5 (nI 0)) ⟨Fr_wr Fr_rfl (Or.inr ⟨rfl, rfl⟩), fun _ => 0, 0, wr_eq, Nat.le_refl _, fun j hj => absurd hj (by omega), fun j k _ hk => absurd hk (by omega), fun i hi => absurd hi (by omega)⟩
  refine ⟨μ', cl_le rfl (rp_Le_tr (rp_Le_tr (rp_Le_tr ?_ (D_Plan_rankDays_7 _ μ')) L) (D_Plan_rankDays_0 μ)), f', k'⟩
  have z3 : μ' 37 3 = nI s := by rw [f' _ _ (by omega)]; exact hz
  rw [z3, if_pos (nI_le (Nat.le_refl _) (by omega))]
  exact rp_Le_rfl
end
