/-! the reference's parts -/
section
variable {sc : rp_Sc} {σ μ : rp_Mm} {T : Nat → Nat}
theorem x_divide (hv : ∀ x, x < 9 → σ 64 x = nI (T x)) (ok : okT T 163878) {A : Nat} (hA : A ≤ 999) : ∃ μ, CL sc 223 [.ref 48, .int (nI A)] σ = RV μ ∧ Fr (fun a _ => a = 65 ∨ a = 66) σ μ ∧ ∀ w, w < 5 → μ 66 w = nI (shN A (T 3) (fun r => T (4 + r)) w) := by
  obtain ⟨S, eS⟩ : ∃ S, S = T 3 := ⟨_, rfl⟩
  obtain ⟨m, em⟩ : ∃ m : Nat → Nat, m = fun r => T (4 + r) := ⟨_, rfl⟩
  have hsum : sumn m 5 = S := by rw [em, eS]; exact okT_s ok
  have hS3 : S ≤ 163878 := by rw [eS]; exact ok.2 3 (by decide)
  have hmr : ∀ r, r < 5 → m r ≤ 163878 := fun r hr => by rw [em]; exact ok.2 (4 + r) (by omega)
  have vS : ∀ μ, Fr (fun a _ => a = 65 ∨ a = 66) σ μ → μ 64 3 = nI S := fun μ f => by rw [f _ _ (by omega), eS]; exact hv 3 (by decide)
  have vm : ∀ μ, Fr (fun a _ => a = 65 ∨ a = 66) σ μ → ∀ r, r < 5 → μ 64 (4 + r) = nI (m r) := fun μ f r hr => by rw [f _ _ (by omega), em]; exact hv (4 + r) (by omega)
  rw [← eS, ← em]
  have hAm : ∀ r, r < 5 → A * m r < 2 ^ 31 := fun r hr => Nat.lt_of_le_of_lt (Nat.mul_le_mul hA (hmr r hr)) (by decide)
  have T80 : ∀ (r : Nat) (l y : Nat) (x4 : Int32) (μ : rp_Mm), r < 5 → μ 66 r = nI y → y ≤ l → rp_Le (EV sc (223, 0, 0, 4, [.ref 48, .int (nI A), .int (nI (l - y)), .int (nI (r + 1)), rp_U], [], (rp_L0, rp_wr μ 65 r x4))) (EV sc (223, 0, 0, 80, [.ref 48, .int (nI A), .int (nI l), .int (nI r), rp_U], [.int x4, .int (nI r), .ref 65], (rp_L0, μ))) := fun r l y x4 μ hr hy hl => by
    refine rp_Le_tr ?_ (D_Ref_divide_80 _ _ _ _ _ μ)
    simp (disch := omega) only [lt_nI, nI_add, ixT, cond_true, nI_clamp, wr_n2, hy, pk_sub]
    exact rp_Le_rfl
  unfold shN
  by_cases h0 : S = 0
  · obtain ⟨μ1, ⟨f1, v1⟩, L1⟩ := lp_inv (E := fun r μ => EV sc (223, 0, 0, 4, [.ref 48, .int (nI A), .int (nI A), .int (nI r), rp_U], [], (rp_L0, μ))) (fun r μ => Fr (fun a _ => a = 65 ∨ a = 66) σ μ ∧ ∀ q, q < r → μ 66 q = nI 0) (n := 5) (fun r μ hr hR => by
      obtain ⟨f, v⟩ := hR
      refine ⟨rp_wr (rp_wr μ 66 r (nI 0)) 65 r (nI 0), ⟨Fr_wr (Fr_wr f (Or.inr rfl)) (Or.inl rfl), fun q hq => ?_⟩, rp_Le_tr ?_ (D_Ref_divide_4 _ _ _ μ)⟩
      · rw [wr_n2 (by decide)]
        by_cases e : q = r
        · subst e; exact wr_eq
        · rw [wr_nk e]; exact v q (by omega)
      · have e0 : μ 64 3 = nI 0 := by rw [vS μ f, h0]
        simp (disch := omega) only [lt_nI, nI_leI, show ¬ 5 ≤ r by omega, if_false, e0, if_true]
        refine rp_Le_tr (rp_Le_tr (T80 r A 0 (nI 0) _ hr wr_eq (by omega)) ?_) (D_Ref_divide_44 _ _ _ _ _ μ)
        simp (disch := omega) only [lt_nI, ixT, cond_true, nI_clamp, wr_n2, e0, if_true]
        exact rp_Le_rfl) (s := σ) ⟨Fr_rfl, fun q hq => absurd hq (by omega)⟩
    refine ⟨rp_wr μ1 66 0 (nI A), cl_le rfl (rp_Le_tr (rp_Le_tr (rp_Le_tr ?_ (D_Ref_divide_4 _ _ _ μ1)) L1) (D_Ref_divide_0 _ σ)), Fr_wr f1 (Or.inr rfl), fun w hw => ?_⟩
    · have e0 : μ1 64 3 = nI 0 := by rw [vS μ1 f1, h0]
      simp (disch := omega) only [lt_nI, nI_leI, Nat.le_refl, if_true, e0]
      exact rp_Le_rfl
    · rw [if_pos h0]
      by_cases e : w = 0
      · subst e; rw [wr_eq, if_pos rfl]
      · rw [wr_nk e, if_neg e]; exact v1 w hw
  · have hS : 0 < S := by omega
    have dv : ∀ r, r < 5 → nI (A * m r) / nI S = nI (fS A S m r) := fun r hr => pk_div (hAm r hr) hS (by omega)
    have rm : ∀ r, r < 5 → nI (A * m r) - nI (fS A S m r) * nI S = nI (rS A S m r) := fun r hr => rem_d (hAm r hr) hS (by omega)
    have rlt : ∀ r, rS A S m r < S := fun r => Nat.mod_lt _ hS
    have flt : ∀ r, r < 5 → fS A S m r < 2 ^ 30 := fun r hr => by
      have := sum_fA (A := A) hS hsum (i := r + 1) (by omega)
      rw [show sumn (fS A S m) (r + 1) = sumn (fS A S m) r + fS A S m r from rfl] at this
      omega
    obtain ⟨μ1, ⟨f1, v1⟩, L1⟩ := lp_inv (E := fun r μ => EV sc (223, 0, 0, 4, [.ref 48, .int (nI A), .int (nI (A - sumn (fS A S m) r)), .int (nI r), rp_U], [], (rp_L0, μ))) (fun r μ => Fr (fun a _ => a = 65 ∨ a = 66) σ μ ∧ ∀ q, q < r → μ 66 q = nI (fS A S m q) ∧ μ 65 q = nI (rS A S m q)) (n := 5) (fun r μ hr hR => by
      obtain ⟨f, v⟩ := hR
      have q1 := sum_fA (A := A) hS hsum (i := r + 1) (by omega)
      rw [show sumn (fS A S m) (r + 1) = sumn (fS A S m) r + fS A S m r from rfl] at q1
      refine ⟨rp_wr (rp_wr μ 66 r (nI (fS A S m r))) 65 r (nI (rS A S m r)), ⟨Fr_wr (Fr_wr f (Or.inr rfl)) (Or.inl rfl), fun q hq => ?_⟩, rp_Le_tr ?_ (D_Ref_divide_4 _ _ _ μ)⟩
      · by_cases e : q = r
        · subst e; exact ⟨by rw [wr_n2 (by decide)]; exact wr_eq, wr_eq⟩
        · rw [wr_n2 (by decide), wr_nk e, wr_nk e, wr_n2 (by decide)]; exact v q (by omega)
      · have e0 := vS μ f
        have em' := vm μ f r hr
        have T1 := T80 r (A - sumn (fS A S m) r) (fS A S m r) (nI (rS A S m r)) (rp_wr μ 66 r (nI (fS A S m r))) hr wr_eq (by omega)
        rw [show A - sumn (fS A S m) r - fS A S m r = A - sumn (fS A S m) (r + 1) by rw [show sumn (fS A S m) (r + 1) = sumn (fS A S m) r + fS A S m r from rfl]; omega] at T1
        simp (disch := omega) only [lt_nI, nI_leI, nI_eq, show ¬ 5 ≤ r by omega, if_false, e0, h0, nI_add, ixT, cond_true, nI_clamp, em', pk_mul, dv r hr]
        refine rp_Le_tr (rp_Le_tr T1 ?_) (D_Ref_divide_44 _ _ _ _ _ μ)
        simp (disch := omega) only [lt_nI, ixT, cond_true, nI_clamp, wr_n2, e0, nI_eq, h0, if_false, nI_add, em', pk_mul, dv r hr]
        rw [← pk_mul (fS A S m r) S, rm r hr]
        exact rp_Le_rfl) (s := σ) ⟨Fr_rfl, fun q hq => absurd hq (by omega)⟩
    have hl5 := left_lt (A := A) hS hsum
    have hA5 := sum_fA (A := A) hS hsum (i := 5) (by omega)
    obtain ⟨tk, etk⟩ : ∃ tk : Nat → Nat → Bool, tk = tkn allE (rS A S m) 5 := ⟨_, rfl⟩
    obtain ⟨⟨μ2, y2⟩, ⟨f2, v2, c2⟩, L2⟩ := lp_inv (S := rp_Mm × Int32) (E := fun j p => EV sc (223, 0, 0, 113, [.ref 48, .int (nI A), .int (nI (leftN A S m - j)), .int p.2, rp_U], [], (rp_L0, p.1))) (fun j p => Fr (fun a _ => a = 65 ∨ a = 66) σ p.1 ∧ (∀ q, q < 5 → p.1 66 q = nI (fS A S m q + (if tk j q then 1 else 0)) ∧ p.1 65 q = r1 (tk j q) (rS A S m q)) ∧ cnt (tk j) 5 = j) (n := leftN A S m) (fun j p hj hR => by
      obtain ⟨μ, y⟩ := p
      obtain ⟨f, v, hc⟩ := hR
      dsimp only at f v
      have St : rp_Le (EV sc (223, 0, 0, 122, [.ref 48, .int (nI A), .int (nI (leftN A S m - j)), .int (nI 0), .int (nI 1)], [], (rp_L0, μ))) (EV sc (223, 0, 0, 113, [.ref 48, .int (nI A), .int (nI (leftN A S m - j)), .int y, rp_U], [], (rp_L0, μ))) := by
        refine rp_Le_tr ?_ (D_Ref_divide_113 _ _ _ μ)
        simp (disch := omega) only [lt_nI, nI_leI, show ¬ leftN A S m - j ≤ 0 by omega, if_false]
        exact rp_Le_rfl
      obtain ⟨b, ⟨b1, b2, b3⟩, L⟩ := lp_inv_from (S := Nat) (E := fun i b => EV sc (223, 0, 0, 122, [.ref 48, .int (nI A), .int (nI (leftN A S m - j)), .int (nI b), .int (nI i)], [], (rp_L0, μ))) (fun i b => b < i ∧ (∀ q, q < i → r1N (tk j q) (rS A S m q) ≤ r1N (tk j b) (rS A S m b)) ∧ ∀ q, q < b → r1N (tk j q) (rS A S m q) < r1N (tk j b) (rS A S m b)) (a := 1) (n := 5) (by decide) (fun i b hi1 hi hR => by
        obtain ⟨b1, b2, b3⟩ := hR
        have T150 : ∀ (x3 : Int32) (y : Nat), rp_Le (EV sc (223, 0, 0, 122, [.ref 48, .int (nI A), .int (nI (leftN A S m - j)), .int (nI y), .int (nI (i + 1))], [], (rp_L0, μ))) (EV sc (223, 0, 0, 150, [.ref 48, .int (nI A), .int (nI (leftN A S m - j)), .int x3, .int (nI i)], [.int (nI y)], (rp_L0, μ))) := fun x3 y => by
          refine rp_Le_tr ?_ (D_Ref_divide_150 _ _ _ _ _ μ)
          simp only [lt_nI, nI_add]
          exact rp_Le_rfl
        have li := rlt i
        have lb := rlt b
        have vi := (v i hi).2
        have vb := (v b (by omega)).2
        have cmp := r1_le (t := tk j i) (t' := tk j b) (n := rS A S m i) (m := rS A S m b) (by omega) (by omega)
        by_cases c : r1N (tk j i) (rS A S m i) ≤ r1N (tk j b) (rS A S m b)
        · refine ⟨b, ⟨by omega, fun q hq => ?_, b3⟩, rp_Le_tr (rp_Le_tr (T150 (nI b) b) ?_) (D_Ref_divide_122 _ _ _ _ μ)⟩
          · by_cases e : q = i
            · subst e; exact c
            · exact b2 q (by omega)
          · simp (disch := omega) only [lt_nI, nI_leI, show ¬ 5 ≤ i by omega, if_false, ixT, cond_true, nI_clamp, vi, vb, cmp, c, if_true]
            exact rp_Le_rfl
        · refine ⟨i, ⟨by omega, fun q hq => ?_, fun q hq => ?_⟩, rp_Le_tr (rp_Le_tr (T150 (nI b) i) ?_) (D_Ref_divide_122 _ _ _ _ μ)⟩
          · by_cases e : q = i
            · subst e; exact Nat.le_refl _
            · have := b2 q (by omega); omega
          · have := b2 q (by omega); omega
          · simp (disch := omega) only [lt_nI, nI_leI, show ¬ 5 ≤ i by omega, if_false, ixT, cond_true, nI_clamp, vi, vb, cmp, c]
            exact rp_Le_rfl) (s := 0) ⟨by omega, fun q hq => by rw [show q = 0 by omega]; exact Nat.le_refl _, fun q hq => absurd hq (by omega)⟩
      -- b is the next by rank
      have ub : tk j b = false := by
        obtain ⟨q, hq, hqf⟩ := cnt_ex (P := tk j) (n := 5) (by omega)
        have h1 := b2 q hq
        cases hb : tk j b with
        | false => rfl
        | true =>
          rw [hb, hqf] at h1
          simp only [r1N] at h1
          simp at h1
      have hrk : rk allE (rS A S m) 5 b = j := by
        rw [etk] at hc ub
        refine tkn_next hc (by omega) rfl ub fun q hq hqf => ?_
        have h1 := b2 q hq
        rw [etk, hqf, ub] at h1
        simp [r1N] at h1
        rw [← Bool.not_eq_true, bet_iff]
        rintro ⟨-, h2 | ⟨h2, h3⟩⟩
        · omega
        · have h4 := b3 q h3
          rw [etk, hqf, ub] at h4
          simp [r1N] at h4
          omega
      have ts : ∀ q, q < 5 → tk (j + 1) q = (tk j q || decide (q = b)) := fun q hq => by
        rw [etk]
        exact tkn_succ (by omega) rfl hrk hq
      have fb := flt b (by omega)
      have vb := v b (by omega)
      rw [ub] at vb
      have vb1 : μ 66 b = nI (fS A S m b) := vb.1
      refine ⟨(rp_wr (rp_wr μ 66 b (nI (fS A S m b + 1))) 65 b (-1), nI b), ⟨Fr_wr (Fr_wr f (Or.inr rfl)) (Or.inl rfl), fun q hq => ?_, ?_⟩, rp_Le_tr (rp_Le_tr (rp_Le_tr ?_ (D_Ref_divide_122 _ _ _ _ μ)) L) St⟩
      · rw [ts q hq]
        dsimp only
        by_cases e : q = b
        · subst e
          rw [wr_n2 (by decide), wr_eq, wr_eq]
          simp [r1]
        · rw [wr_n2 (by decide), wr_nk e, wr_nk e, wr_n2 (by decide)]
          simp [e]
          exact v q hq
      · rw [etk] at hc ⊢
        exact tkn_cnt hc (by omega) rfl hrk
      · have em1 : nI (leftN A S m - j) + -1 = nI (leftN A S m - (j + 1)) := by
          obtain ⟨k, ek⟩ : ∃ k, leftN A S m - j = k + 1 := ⟨leftN A S m - j - 1, by omega⟩
          rw [ek, show leftN A S m - (j + 1) = k by omega]
          exact pk_m1 k
        rw [if_pos (show (5 : Int32) ≤ nI 5 by decide), ixT (by omega) (by decide), cond_true, cond_true, cond_true, nI_clamp (by omega), vb1, nI_1, em1]
        exact rp_Le_rfl) (s := (μ1, nI 5)) ⟨f1, fun q hq => by
          have : tk 0 q = false := by rw [etk, ← Bool.not_eq_true, tkn_iff]; omega
          rw [this]
          exact v1 q hq, by rw [etk]; exact tkn_0⟩
    dsimp only at f2 v2
    refine ⟨μ2, cl_le rfl (rp_Le_tr (rp_Le_tr (rp_Le_tr (rp_Le_tr ?_ L2) ?_) L1) (D_Ref_divide_0 _ σ)), f2, fun w hw => ?_⟩
    · refine rp_Le_tr ?_ (D_Ref_divide_113 _ _ _ μ2)
      rw [Nat.sub_self, if_pos (show nI 0 ≤ 0 by decide)]
      exact rp_Le_rfl
    · refine rp_Le_tr ?_ (D_Ref_divide_4 _ _ _ μ1)
      have e0 := vS μ1 f1
      simp (disch := omega) only [lt_nI, nI_leI, nI_eq, Nat.le_refl, if_true, e0, h0, if_false]
      exact rp_Le_rfl
    · rw [if_neg h0, (v2 w hw).1, etk]
      congr 2
      unfold tkn
      simp [allE]
end
