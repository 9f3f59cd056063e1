/-! the law: each call's two answers are one, so it comes to 1 -/
def En (q : Nat) (xs : Nat → Int32) (pc i : Nat) (st : List Value) (σ : rp_Mm) : Prop := ∃ μ, EV (some (q, xs)) (230, 67, 13472, pc, [.ref 0, .ref 1, .ref 48, .int (nI i)], st, (rp_L0, σ)) = RI 1 μ
theorem am_c {sc : rp_Sc} {o : Option rp_Rs} {s : rp_As} (hD : rp_Le o (EV sc s)) (h : ∃ μ, o = RI 1 μ) : ∃ μ, EV sc s = RI 1 μ := by
  obtain ⟨μ, e⟩ := h
  exact ⟨μ, hD _ e⟩
theorem am_p {sc : rp_Sc} {m m' : Nat} {a a' : List Value} {σ : rp_Mm} {K : rp_Mm → Option rp_Rs} (hp : PM sc m a m' a' σ) (H : ∀ σ', Inv σ' → ∃ μ, K σ' = RI 1 μ) : ∃ μ, (thI (CL sc m a σ) fun r2 σ1 => thI (CL sc m' a' σ1) fun r4 σ3 => if (r2 = r4 : Prop) then K σ3 else RI 0 σ3) = RI 1 μ := by
  obtain ⟨v, σ1, σ2, e1, e2, hI⟩ := hp
  rw [e1, thI_RI, e2, thI_RI, if_pos rfl]
  exact H σ2 hI
section
variable {q i : Nat} {xs : Nat → Int32} {σ : rp_Mm}
theorem am_ix (hq : q ≤ 3584) (h : i + 7 ≤ q) (k : Nat) (hk : k < 7) : rp_ix (nI i + nI k) q = true := by
  rw [nI_add]
  exact ixT (by omega) (by omega)
theorem am_176 (hq : q ≤ 3584) (hi : i + 7 ≤ q) (hI : Inv σ) (H : ∀ σ', Inv σ' → En q xs 1318 i [] σ') : En q xs 176 i [] σ := by
  refine am_c (D_Law_law_176 _ σ) ?_
  simp only [show rp_ix (nI i + (1 : Int32)) q = true from am_ix hq hi 1 (by decide), show rp_ix (nI i + (2 : Int32)) q = true from am_ix hq hi 2 (by decide), show rp_ix (nI i + (3 : Int32)) q = true from am_ix hq hi 3 (by decide), show rp_ix (nI i + (4 : Int32)) q = true from am_ix hq hi 4 (by decide), show rp_ix (nI i + (5 : Int32)) q = true from am_ix hq hi 5 (by decide), cond_true]
  by_cases h5 : (xs (nI i + (5 : Int32)).toNatClampNeg) = 0
  · rw [if_pos h5]
    obtain ⟨v, σ1, σ2, e1, e2, hI2⟩ := p_line (sc := some (q, xs)) hI (xs (nI i + (1 : Int32)).toNatClampNeg) (xs (nI i + (2 : Int32)).toNatClampNeg) (xs (nI i + (3 : Int32)).toNatClampNeg) (xs (nI i + (4 : Int32)).toNatClampNeg) 0
    refine am_c (D_Law_law_210 _ _ _ _ _ _ σ) ?_
    rw [e1, thI_RI]
    simp only [show rp_ix (nI i + (1 : Int32)) q = true from am_ix hq hi 1 (by decide), show rp_ix (nI i + (2 : Int32)) q = true from am_ix hq hi 2 (by decide), show rp_ix (nI i + (3 : Int32)) q = true from am_ix hq hi 3 (by decide), show rp_ix (nI i + (4 : Int32)) q = true from am_ix hq hi 4 (by decide), show rp_ix (nI i + (5 : Int32)) q = true from am_ix hq hi 5 (by decide), cond_true]
    rw [if_pos h5]
    refine am_c (D_Law_law_247 _ _ _ _ _ _ _ σ1) ?_
    rw [e2, thI_RI, if_pos rfl]
    exact H σ2 hI2
  · rw [if_neg h5]
    obtain ⟨v, σ1, σ2, e1, e2, hI2⟩ := p_line (sc := some (q, xs)) hI (xs (nI i + (1 : Int32)).toNatClampNeg) (xs (nI i + (2 : Int32)).toNatClampNeg) (xs (nI i + (3 : Int32)).toNatClampNeg) (xs (nI i + (4 : Int32)).toNatClampNeg) 1
    refine am_c (D_Law_law_210 _ _ _ _ _ _ σ) ?_
    rw [e1, thI_RI]
    simp only [show rp_ix (nI i + (1 : Int32)) q = true from am_ix hq hi 1 (by decide), show rp_ix (nI i + (2 : Int32)) q = true from am_ix hq hi 2 (by decide), show rp_ix (nI i + (3 : Int32)) q = true from am_ix hq hi 3 (by decide), show rp_ix (nI i + (4 : Int32)) q = true from am_ix hq hi 4 (by decide), show rp_ix (nI i + (5 : Int32)) q = true from am_ix hq hi 5 (by decide), cond_true]
    rw [if_neg h5]
    refine am_c (D_Law_law_247 _ _ _ _ _ _ _ σ1) ?_
    rw [e2, thI_RI, if_pos rfl]
    exact H σ2 hI2
theorem am_255 (hq : q ≤ 3584) (hi : i + 7 ≤ q) (hI : Inv σ) (H : ∀ σ', Inv σ' → En q xs 1318 i [] σ') : En q xs 255 i [] σ := by
  refine am_c (D_Law_law_255 _ σ) ?_
  simp only [show rp_ix (nI i + (1 : Int32)) q = true from am_ix hq hi 1 (by decide), show rp_ix (nI i + (2 : Int32)) q = true from am_ix hq hi 2 (by decide), cond_true]
  by_cases h2 : (xs (nI i + (2 : Int32)).toNatClampNeg) = 0
  · rw [if_pos h2]
    refine am_c (D_Law_law_274 _ _ _ σ) ?_
    simp only [show rp_ix (nI i + (3 : Int32)) q = true from am_ix hq hi 3 (by decide), show rp_ix (nI i + (4 : Int32)) q = true from am_ix hq hi 4 (by decide), show rp_ix (nI i + (5 : Int32)) q = true from am_ix hq hi 5 (by decide), cond_true]
    by_cases h5 : (xs (nI i + (5 : Int32)).toNatClampNeg) = 0
    · rw [if_pos h5]
      obtain ⟨v, σ1, σ2, e1, e2, hI2⟩ := p_train (sc := some (q, xs)) hI (xs (nI i + (1 : Int32)).toNatClampNeg) 0 (xs (nI i + (3 : Int32)).toNatClampNeg) (xs (nI i + (4 : Int32)).toNatClampNeg) 0 (xs (nI i + (6 : Int32)).toNatClampNeg)
      refine am_c (D_Law_law_297 _ _ _ _ _ _ σ) ?_
      simp only [show rp_ix (nI i + (1 : Int32)) q = true from am_ix hq hi 1 (by decide), show rp_ix (nI i + (2 : Int32)) q = true from am_ix hq hi 2 (by decide), show rp_ix (nI i + (6 : Int32)) q = true from am_ix hq hi 6 (by decide), cond_true]
      rw [e1, thI_RI]
      rw [if_pos h2]
      refine am_c (D_Law_law_325 _ _ _ _ σ1) ?_
      simp only [show rp_ix (nI i + (3 : Int32)) q = true from am_ix hq hi 3 (by decide), show rp_ix (nI i + (4 : Int32)) q = true from am_ix hq hi 4 (by decide), show rp_ix (nI i + (5 : Int32)) q = true from am_ix hq hi 5 (by decide), cond_true]
      rw [if_pos h5]
      refine am_c (D_Law_law_348 _ _ _ _ _ _ _ σ1) ?_
      simp only [show rp_ix (nI i + (6 : Int32)) q = true from am_ix hq hi 6 (by decide), cond_true]
      rw [e2, thI_RI, if_pos rfl]
      exact H σ2 hI2
    · rw [if_neg h5]
      obtain ⟨v, σ1, σ2, e1, e2, hI2⟩ := p_train (sc := some (q, xs)) hI (xs (nI i + (1 : Int32)).toNatClampNeg) 0 (xs (nI i + (3 : Int32)).toNatClampNeg) (xs (nI i + (4 : Int32)).toNatClampNeg) 1 (xs (nI i + (6 : Int32)).toNatClampNeg)
      refine am_c (D_Law_law_297 _ _ _ _ _ _ σ) ?_
      simp only [show rp_ix (nI i + (1 : Int32)) q = true from am_ix hq hi 1 (by decide), show rp_ix (nI i + (2 : Int32)) q = true from am_ix hq hi 2 (by decide), show rp_ix (nI i + (6 : Int32)) q = true from am_ix hq hi 6 (by decide), cond_true]
      rw [e1, thI_RI]
      rw [if_pos h2]
      refine am_c (D_Law_law_325 _ _ _ _ σ1) ?_
      simp only [show rp_ix (nI i + (3 : Int32)) q = true from am_ix hq hi 3 (by decide), show rp_ix (nI i + (4 : Int32)) q = true from am_ix hq hi 4 (by decide), show rp_ix (nI i + (5 : Int32)) q = true from am_ix hq hi 5 (by decide), cond_true]
      rw [if_neg h5]
      refine am_c (D_Law_law_348 _ _ _ _ _ _ _ σ1) ?_
      simp only [show rp_ix (nI i + (6 : Int32)) q = true from am_ix hq hi 6 (by decide), cond_true]
      rw [e2, thI_RI, if_pos rfl]
      exact H σ2 hI2
  · rw [if_neg h2]
    refine am_c (D_Law_law_274 _ _ _ σ) ?_
    simp only [show rp_ix (nI i + (3 : Int32)) q = true from am_ix hq hi 3 (by decide), show rp_ix (nI i + (4 : Int32)) q = true from am_ix hq hi 4 (by decide), show rp_ix (nI i + (5 : Int32)) q = true from am_ix hq hi 5 (by decide), cond_true]
    by_cases h5 : (xs (nI i + (5 : Int32)).toNatClampNeg) = 0
    · rw [if_pos h5]
      obtain ⟨v, σ1, σ2, e1, e2, hI2⟩ := p_train (sc := some (q, xs)) hI (xs (nI i + (1 : Int32)).toNatClampNeg) 1 (xs (nI i + (3 : Int32)).toNatClampNeg) (xs (nI i + (4 : Int32)).toNatClampNeg) 0 (xs (nI i + (6 : Int32)).toNatClampNeg)
      refine am_c (D_Law_law_297 _ _ _ _ _ _ σ) ?_
      simp only [show rp_ix (nI i + (1 : Int32)) q = true from am_ix hq hi 1 (by decide), show rp_ix (nI i + (2 : Int32)) q = true from am_ix hq hi 2 (by decide), show rp_ix (nI i + (6 : Int32)) q = true from am_ix hq hi 6 (by decide), cond_true]
      rw [e1, thI_RI]
      rw [if_neg h2]
      refine am_c (D_Law_law_325 _ _ _ _ σ1) ?_
      simp only [show rp_ix (nI i + (3 : Int32)) q = true from am_ix hq hi 3 (by decide), show rp_ix (nI i + (4 : Int32)) q = true from am_ix hq hi 4 (by decide), show rp_ix (nI i + (5 : Int32)) q = true from am_ix hq hi 5 (by decide), cond_true]
      rw [if_pos h5]
      refine am_c (D_Law_law_348 _ _ _ _ _ _ _ σ1) ?_
      simp only [show rp_ix (nI i + (6 : Int32)) q = true from am_ix hq hi 6 (by decide), cond_true]
      rw [e2, thI_RI, if_pos rfl]
      exact H σ2 hI2
    · rw [if_neg h5]
      obtain ⟨v, σ1, σ2, e1, e2, hI2⟩ := p_train (sc := some (q, xs)) hI (xs (nI i + (1 : Int32)).toNatClampNeg) 1 (xs (nI i + (3 : Int32)).toNatClampNeg) (xs (nI i + (4 : Int32)).toNatClampNeg) 1 (xs (nI i + (6 : Int32)).toNatClampNeg)
      refine am_c (D_Law_law_297 _ _ _ _ _ _ σ) ?_
      simp only [show rp_ix (nI i + (1 : Int32)) q = true from am_ix hq hi 1 (by decide), show rp_ix (nI i + (2 : Int32)) q = true from am_ix hq hi 2 (by decide), show rp_ix (nI i + (6 : Int32)) q = true from am_ix hq hi 6 (by decide), cond_true]
      rw [e1, thI_RI]
      rw [if_neg h2]
      refine am_c (D_Law_law_325 _ _ _ _ σ1) ?_
      simp only [show rp_ix (nI i + (3 : Int32)) q = true from am_ix hq hi 3 (by decide), show rp_ix (nI i + (4 : Int32)) q = true from am_ix hq hi 4 (by decide), show rp_ix (nI i + (5 : Int32)) q = true from am_ix hq hi 5 (by decide), cond_true]
      rw [if_neg h5]
      refine am_c (D_Law_law_348 _ _ _ _ _ _ _ σ1) ?_
      simp only [show rp_ix (nI i + (6 : Int32)) q = true from am_ix hq hi 6 (by decide), cond_true]
      rw [e2, thI_RI, if_pos rfl]
      exact H σ2 hI2
theorem am_362 (hq : q ≤ 3584) (hi : i + 7 ≤ q) (hI : Inv σ) (H : ∀ σ', Inv σ' → En q xs 1318 i [] σ') : En q xs 362 i [] σ := by
  refine am_c (D_Law_law_362 _ σ) ?_
  simp only [show rp_ix (nI i + (1 : Int32)) q = true from am_ix hq hi 1 (by decide), show rp_ix (nI i + (2 : Int32)) q = true from am_ix hq hi 2 (by decide), cond_true]
  exact am_p (p_of hI _ _) H
theorem am_395 (hq : q ≤ 3584) (hi : i + 7 ≤ q) (hI : Inv σ) (H : ∀ σ', Inv σ' → En q xs 1318 i [] σ') : En q xs 395 i [] σ := by
  refine am_c (D_Law_law_395 _ σ) ?_
  simp only [show rp_ix (nI i + (1 : Int32)) q = true from am_ix hq hi 1 (by decide), cond_true]
  exact am_p (p_days hI _) H
theorem am_418 (hq : q ≤ 3584) (hi : i + 7 ≤ q) (hI : Inv σ) (H : ∀ σ', Inv σ' → En q xs 1318 i [] σ') : En q xs 418 i [] σ := by
  refine am_c (D_Law_law_418 _ σ) ?_
  simp only [show rp_ix (nI i + (1 : Int32)) q = true from am_ix hq hi 1 (by decide), show rp_ix (nI i + (2 : Int32)) q = true from am_ix hq hi 2 (by decide), show rp_ix (nI i + (3 : Int32)) q = true from am_ix hq hi 3 (by decide), cond_true]
  exact am_p (p_feed hI _ _) H
theorem am_481 (hq : q ≤ 3584) (hi : i + 7 ≤ q) (hI : Inv σ) (H : ∀ σ', Inv σ' → En q xs 1318 i [] σ') : En q xs 481 i [] σ := by
  refine am_c (D_Law_law_481 _ σ) ?_
  simp only [show rp_ix (nI i + (1 : Int32)) q = true from am_ix hq hi 1 (by decide), cond_true]
  exact am_p (p_read hI _) H
theorem am_504 (hq : q ≤ 3584) (hi : i + 7 ≤ q) (hI : Inv σ) (H : ∀ σ', Inv σ' → En q xs 1318 i [] σ') : En q xs 504 i [] σ := by
  refine am_c (D_Law_law_504 _ σ) ?_
  simp only [show rp_ix (nI i + (1 : Int32)) q = true from am_ix hq hi 1 (by decide), show rp_ix (nI i + (2 : Int32)) q = true from am_ix hq hi 2 (by decide), cond_true]
  exact am_p (p_law hI _ _) H
theorem am_537 (hq : q ≤ 3584) (hi : i + 7 ≤ q) (hI : Inv σ) (H : ∀ σ', Inv σ' → En q xs 1318 i [] σ') : En q xs 537 i [] σ := by
  refine am_c (D_Law_law_537 _ σ) ?_
  simp only [show rp_ix (nI i + (1 : Int32)) q = true from am_ix hq hi 1 (by decide), show rp_ix (nI i + (2 : Int32)) q = true from am_ix hq hi 2 (by decide), show rp_ix (nI i + (3 : Int32)) q = true from am_ix hq hi 3 (by decide), cond_true]
  by_cases h3 : (xs (nI i + (3 : Int32)).toNatClampNeg) = 0
  · rw [if_pos h3]
    obtain ⟨v, σ1, σ2, e1, e2, hI2⟩ := p_sell (sc := some (q, xs)) hI (xs (nI i + (1 : Int32)).toNatClampNeg) (xs (nI i + (2 : Int32)).toNatClampNeg) 0
    refine am_c (D_Law_law_561 _ _ _ _ σ) ?_
    rw [e1, thI_RI]
    simp only [show rp_ix (nI i + (1 : Int32)) q = true from am_ix hq hi 1 (by decide), show rp_ix (nI i + (2 : Int32)) q = true from am_ix hq hi 2 (by decide), show rp_ix (nI i + (3 : Int32)) q = true from am_ix hq hi 3 (by decide), cond_true]
    rw [if_pos h3]
    refine am_c (D_Law_law_588 _ _ _ _ _ σ1) ?_
    rw [e2, thI_RI, if_pos rfl]
    exact H σ2 hI2
  · rw [if_neg h3]
    obtain ⟨v, σ1, σ2, e1, e2, hI2⟩ := p_sell (sc := some (q, xs)) hI (xs (nI i + (1 : Int32)).toNatClampNeg) (xs (nI i + (2 : Int32)).toNatClampNeg) 1
    refine am_c (D_Law_law_561 _ _ _ _ σ) ?_
    rw [e1, thI_RI]
    simp only [show rp_ix (nI i + (1 : Int32)) q = true from am_ix hq hi 1 (by decide), show rp_ix (nI i + (2 : Int32)) q = true from am_ix hq hi 2 (by decide), show rp_ix (nI i + (3 : Int32)) q = true from am_ix hq hi 3 (by decide), cond_true]
    rw [if_neg h3]
    refine am_c (D_Law_law_588 _ _ _ _ _ σ1) ?_
    rw [e2, thI_RI, if_pos rfl]
    exact H σ2 hI2
theorem am_596 (hq : q ≤ 3584) (hi : i + 7 ≤ q) (hI : Inv σ) (H : ∀ σ', Inv σ' → En q xs 1318 i [] σ') : En q xs 596 i [] σ := by
  refine am_c (D_Law_law_596 _ σ) ?_
  simp only [show rp_ix (nI i + (1 : Int32)) q = true from am_ix hq hi 1 (by decide), show rp_ix (nI i + (2 : Int32)) q = true from am_ix hq hi 2 (by decide), cond_true]
  exact am_p (p_pass hI _ _) H
theorem am_629 (hq : q ≤ 3584) (hi : i + 7 ≤ q) (hI : Inv σ) (H : ∀ σ', Inv σ' → En q xs 1318 i [] σ') : En q xs 629 i [] σ := by
  refine am_c (D_Law_law_629 _ σ) ?_
  simp only [show rp_ix (nI i + (1 : Int32)) q = true from am_ix hq hi 1 (by decide), show rp_ix (nI i + (2 : Int32)) q = true from am_ix hq hi 2 (by decide), show rp_ix (nI i + (3 : Int32)) q = true from am_ix hq hi 3 (by decide), cond_true]
  exact am_p (p_may hI _ _ _) H
theorem am_672 (hq : q ≤ 3584) (hi : i + 7 ≤ q) (hI : Inv σ) (H : ∀ σ', Inv σ' → En q xs 1318 i [] σ') : En q xs 672 i [] σ := by
  refine am_c (D_Law_law_672 _ σ) ?_
  simp only [show rp_ix (nI i + (1 : Int32)) q = true from am_ix hq hi 1 (by decide), show rp_ix (nI i + (2 : Int32)) q = true from am_ix hq hi 2 (by decide), show rp_ix (nI i + (3 : Int32)) q = true from am_ix hq hi 3 (by decide), cond_true]
  exact am_p (p_ride hI _ _ _) H
theorem am_715 (hq : q ≤ 3584) (hi : i + 7 ≤ q) (hI : Inv σ) (H : ∀ σ', Inv σ' → En q xs 1318 i [] σ') : En q xs 715 i [] σ := by
  refine am_c (D_Law_law_715 _ σ) ?_
  simp only [show rp_ix (nI i + (1 : Int32)) q = true from am_ix hq hi 1 (by decide), show rp_ix (nI i + (2 : Int32)) q = true from am_ix hq hi 2 (by decide), cond_true]
  exact am_p (p_rideOf hI _ _) H
theorem am_748 (hq : q ≤ 3584) (hi : i + 7 ≤ q) (hI : Inv σ) (H : ∀ σ', Inv σ' → En q xs 1318 i [] σ') : En q xs 748 i [] σ := by
  refine am_c (D_Law_law_748 _ σ) ?_
  simp only [show rp_ix (nI i + (1 : Int32)) q = true from am_ix hq hi 1 (by decide), cond_true]
  exact am_p (p_giveBack hI _) H
theorem am_771 (hq : q ≤ 3584) (hi : i + 7 ≤ q) (hI : Inv σ) (H : ∀ σ', Inv σ' → En q xs 1318 i [] σ') : En q xs 771 i [] σ := by
  refine am_c (D_Law_law_771 _ σ) ?_
  simp only [show rp_ix (nI i + (1 : Int32)) q = true from am_ix hq hi 1 (by decide), show rp_ix (nI i + (2 : Int32)) q = true from am_ix hq hi 2 (by decide), cond_true]
  exact am_p (p_taken hI _ _) H
theorem am_804 (hq : q ≤ 3584) (hi : i + 7 ≤ q) (hI : Inv σ) (H : ∀ σ', Inv σ' → En q xs 1318 i [] σ') : En q xs 804 i [] σ := by
  refine am_c (D_Law_law_804 _ σ) ?_
  simp only [show rp_ix (nI i + (1 : Int32)) q = true from am_ix hq hi 1 (by decide), cond_true]
  exact am_p (p_lose hI _) H
theorem am_827 (hq : q ≤ 3584) (hi : i + 7 ≤ q) (hI : Inv σ) (H : ∀ σ', Inv σ' → En q xs 1318 i [] σ') : En q xs 827 i [] σ := by
  refine am_c (D_Law_law_827 _ σ) ?_
  simp only [show rp_ix (nI i + (1 : Int32)) q = true from am_ix hq hi 1 (by decide), show rp_ix (nI i + (2 : Int32)) q = true from am_ix hq hi 2 (by decide), cond_true]
  exact am_p (p_wish hI _ _) H
theorem am_860 (hq : q ≤ 3584) (hi : i + 7 ≤ q) (hI : Inv σ) (H : ∀ σ', Inv σ' → En q xs 1318 i [] σ') : En q xs 860 i [] σ := by
  refine am_c (D_Law_law_860 _ σ) ?_
  exact am_p (p_unwish hI) H
theorem am_873 (hq : q ≤ 3584) (hi : i + 7 ≤ q) (hI : Inv σ) (H : ∀ σ', Inv σ' → En q xs 1318 i [] σ') : En q xs 873 i [] σ := by
  refine am_c (D_Law_law_873 _ σ) ?_
  simp only [show rp_ix (nI i + (1 : Int32)) q = true from am_ix hq hi 1 (by decide), cond_true]
  exact am_p (p_choice hI _) H
theorem am_896 (hq : q ≤ 3584) (hi : i + 7 ≤ q) (hI : Inv σ) (H : ∀ σ', Inv σ' → En q xs 1318 i [] σ') : En q xs 896 i [] σ := by
  refine am_c (D_Law_law_896 _ σ) ?_
  simp only [show rp_ix (nI i + (1 : Int32)) q = true from am_ix hq hi 1 (by decide), show rp_ix (nI i + (2 : Int32)) q = true from am_ix hq hi 2 (by decide), cond_true]
  exact am_p (p_least hI _ _) H
theorem am_929 (hq : q ≤ 3584) (hi : i + 7 ≤ q) (hI : Inv σ) (H : ∀ σ', Inv σ' → En q xs 1318 i [] σ') : En q xs 929 i [] σ := by
  refine am_c (D_Law_law_929 _ σ) ?_
  exact am_p (p_prove hI) H
theorem am_942 (hq : q ≤ 3584) (hi : i + 7 ≤ q) (hI : Inv σ) (H : ∀ σ', Inv σ' → En q xs 1318 i [] σ') : En q xs 942 i [] σ := by
  refine am_c (D_Law_law_942 _ σ) ?_
  simp only [show rp_ix (nI i + (1 : Int32)) q = true from am_ix hq hi 1 (by decide), show rp_ix (nI i + (2 : Int32)) q = true from am_ix hq hi 2 (by decide), cond_true]
  exact am_p (p_row hI _ _) H
theorem am_975 (hq : q ≤ 3584) (hi : i + 7 ≤ q) (hI : Inv σ) (H : ∀ σ', Inv σ' → En q xs 1318 i [] σ') : En q xs 975 i [] σ := by
  refine am_c (D_Law_law_975 _ σ) ?_
  simp only [show rp_ix (nI i + (1 : Int32)) q = true from am_ix hq hi 1 (by decide), show rp_ix (nI i + (2 : Int32)) q = true from am_ix hq hi 2 (by decide), show rp_ix (nI i + (3 : Int32)) q = true from am_ix hq hi 3 (by decide), cond_true]
  exact am_p (p_forge hI _ _ _) H
theorem am_1018 (hq : q ≤ 3584) (hi : i + 7 ≤ q) (hI : Inv σ) (H : ∀ σ', Inv σ' → En q xs 1318 i [] σ') : En q xs 1018 i [] σ := by
  refine am_c (D_Law_law_1018 _ σ) ?_
  exact am_p (p_check hI) H
theorem am_1031 (hq : q ≤ 3584) (hi : i + 7 ≤ q) (hI : Inv σ) (H : ∀ σ', Inv σ' → En q xs 1318 i [] σ') : En q xs 1031 i [] σ := by
  refine am_c (D_Law_law_1031 _ σ) ?_
  simp only [show rp_ix (nI i + (1 : Int32)) q = true from am_ix hq hi 1 (by decide), show rp_ix (nI i + (2 : Int32)) q = true from am_ix hq hi 2 (by decide), show rp_ix (nI i + (3 : Int32)) q = true from am_ix hq hi 3 (by decide), show rp_ix (nI i + (4 : Int32)) q = true from am_ix hq hi 4 (by decide), cond_true]
  exact am_p (p_scan hI _ _ _ _) H
theorem am_1084 (hq : q ≤ 3584) (hi : i + 7 ≤ q) (hI : Inv σ) (H : ∀ σ', Inv σ' → En q xs 1318 i [] σ') : En q xs 1084 i [] σ := by
  refine am_c (D_Law_law_1084 _ σ) ?_
  simp only [show rp_ix (nI i + (1 : Int32)) q = true from am_ix hq hi 1 (by decide), show rp_ix (nI i + (2 : Int32)) q = true from am_ix hq hi 2 (by decide), cond_true]
  exact am_p (p_miles hI _ _) H
theorem am_1117 (hq : q ≤ 3584) (hi : i + 7 ≤ q) (hI : Inv σ) (H : ∀ σ', Inv σ' → En q xs 1318 i [] σ') : En q xs 1117 i [] σ := by
  refine am_c (D_Law_law_1117 _ σ) ?_
  simp only [show rp_ix (nI i + (1 : Int32)) q = true from am_ix hq hi 1 (by decide), show rp_ix (nI i + (2 : Int32)) q = true from am_ix hq hi 2 (by decide), cond_true]
  exact am_p (p_way hI _ _) H
theorem am_1150 (hq : q ≤ 3584) (hi : i + 7 ≤ q) (hI : Inv σ) (H : ∀ σ', Inv σ' → En q xs 1318 i [] σ') : En q xs 1150 i [] σ := by
  refine am_c (D_Law_law_1150 _ σ) ?_
  simp only [show rp_ix (nI i + (1 : Int32)) q = true from am_ix hq hi 1 (by decide), show rp_ix (nI i + (2 : Int32)) q = true from am_ix hq hi 2 (by decide), show rp_ix (nI i + (3 : Int32)) q = true from am_ix hq hi 3 (by decide), cond_true]
  exact am_p (p_ridden hI _ _ _) H
theorem am_1193 (hq : q ≤ 3584) (hi : i + 7 ≤ q) (hI : Inv σ) (H : ∀ σ', Inv σ' → En q xs 1318 i [] σ') : En q xs 1193 i [] σ := by
  refine am_c (D_Law_law_1193 _ σ) ?_
  simp only [show rp_ix (nI i + (1 : Int32)) q = true from am_ix hq hi 1 (by decide), show rp_ix (nI i + (2 : Int32)) q = true from am_ix hq hi 2 (by decide), show rp_ix (nI i + (3 : Int32)) q = true from am_ix hq hi 3 (by decide), cond_true]
  exact am_p (p_part hI _ _ _) H
theorem am_1236 (hq : q ≤ 3584) (hi : i + 7 ≤ q) (hI : Inv σ) (H : ∀ σ', Inv σ' → En q xs 1318 i [] σ') : En q xs 1236 i [] σ := by
  refine am_c (D_Law_law_1236 _ σ) ?_
  simp only [show rp_ix (nI i + (1 : Int32)) q = true from am_ix hq hi 1 (by decide), show rp_ix (nI i + (2 : Int32)) q = true from am_ix hq hi 2 (by decide), cond_true]
  exact am_p (p_account hI _ _) H
theorem am_1269 (hq : q ≤ 3584) (hi : i + 7 ≤ q) (hI : Inv σ) (H : ∀ σ', Inv σ' → En q xs 1318 i [] σ') : En q xs 1269 i [] σ := by
  refine am_c (D_Law_law_1269 _ σ) ?_
  simp only [show rp_ix (nI i + (1 : Int32)) q = true from am_ix hq hi 1 (by decide), cond_true]
  exact am_p (p_many hI _) H
theorem am_1292 (hq : q ≤ 3584) (hi : i + 7 ≤ q) (hI : Inv σ) (H : ∀ σ', Inv σ' → En q xs 1318 i [] σ') : En q xs 1292 i [] σ := by
  refine am_c (D_Law_law_1292 _ σ) ?_
  exact am_p (p_keep hI) H
theorem am_1305 (hq : q ≤ 3584) (hi : i + 7 ≤ q) (hI : Inv σ) (H : ∀ σ', Inv σ' → En q xs 1318 i [] σ') : En q xs 1305 i [] σ := by
  refine am_c (D_Law_law_1305 _ σ) ?_
  exact am_p (p_back hI) H
theorem am_lo : ∀ q, q < 7 → ∀ i, i < 7 → nI q - (7 : Int32) < nI i := by decide +kernel
theorem am_step (hq : q ≤ 3584) (hi : i + 7 ≤ q) (hI : Inv σ) (H : ∀ σ', Inv σ' → En q xs 1318 i [] σ') : En q xs 18 i [] σ := by
  refine am_c (D_Law_law_18 _ σ) ?_
  have h0 : ¬ Int32.ofNat q - (7 : Int32) < nI i := by
    show ¬ nI q - nI 7 < nI i
    rw [pk_sub (by omega), nI_ltI (by omega) (by omega)]
    omega
  rw [if_neg h0, show rp_ix (nI i) q = true from ixT (by omega) (by omega), cond_true]
  obtain ⟨j, hj, ej⟩ := pk_andE (xs (nI i).toNatClampNeg) (m := 31) 5 (by decide)
  rw [ej]
  clear ej
  have hj : j < 32 := hj
  match j, hj with
  | 0, _ => rw [if_pos (show nI 0 = (0 : Int32) from rfl)]; exact am_176 hq hi hI H
  | 1, _ => rw [if_neg (show ¬ nI 1 = (0 : Int32) by decide), if_pos (show nI 1 = (1 : Int32) from rfl)]; exact am_255 hq hi hI H
  | 2, _ => rw [if_neg (show ¬ nI 2 = (0 : Int32) by decide), if_neg (show ¬ nI 2 = (1 : Int32) by decide), if_pos (show nI 2 = (2 : Int32) from rfl)]; exact am_362 hq hi hI H
  | 3, _ => rw [if_neg (show ¬ nI 3 = (0 : Int32) by decide), if_neg (show ¬ nI 3 = (1 : Int32) by decide), if_neg (show ¬ nI 3 = (2 : Int32) by decide), if_pos (show nI 3 = (3 : Int32) from rfl)]; exact am_395 hq hi hI H
  | 4, _ => rw [if_neg (show ¬ nI 4 = (0 : Int32) by decide), if_neg (show ¬ nI 4 = (1 : Int32) by decide), if_neg (show ¬ nI 4 = (2 : Int32) by decide), if_neg (show ¬ nI 4 = (3 : Int32) by decide), if_pos (show nI 4 = (4 : Int32) from rfl)]; exact am_418 hq hi hI H
  | 5, _ => rw [if_neg (show ¬ nI 5 = (0 : Int32) by decide), if_neg (show ¬ nI 5 = (1 : Int32) by decide), if_neg (show ¬ nI 5 = (2 : Int32) by decide), if_neg (show ¬ nI 5 = (3 : Int32) by decide), if_neg (show ¬ nI 5 = (4 : Int32) by decide), if_pos (show nI 5 = (5 : Int32) from rfl)]; exact am_481 hq hi hI H
  | 6, _ => rw [if_neg (show ¬ nI 6 = (0 : Int32) by decide), if_neg (show ¬ nI 6 = (1 : Int32) by decide), if_neg (show ¬ nI 6 = (2 : Int32) by decide), if_neg (show ¬ nI 6 = (3 : Int32) by decide), if_neg (show ¬ nI 6 = (4 : Int32) by decide), if_neg (show ¬ nI 6 = (5 : Int32) by decide), if_pos (show nI 6 = (6 : Int32) from rfl)]; exact am_504 hq hi hI H
  | 7, _ => rw [if_neg (show ¬ nI 7 = (0 : Int32) by decide), if_neg (show ¬ nI 7 = (1 : Int32) by decide), if_neg (show ¬ nI 7 = (2 : Int32) by decide), if_neg (show ¬ nI 7 = (3 : Int32) by decide), if_neg (show ¬ nI 7 = (4 : Int32) by decide), if_neg (show ¬ nI 7 = (5 : Int32) by decide), if_neg (show ¬ nI 7 = (6 : Int32) by decide), if_pos (show nI 7 = (7 : Int32) from rfl)]; exact am_537 hq hi hI H
  | 8, _ => rw [if_neg (show ¬ nI 8 = (0 : Int32) by decide), if_neg (show ¬ nI 8 = (1 : Int32) by decide), if_neg (show ¬ nI 8 = (2 : Int32) by decide), if_neg (show ¬ nI 8 = (3 : Int32) by decide), if_neg (show ¬ nI 8 = (4 : Int32) by decide), if_neg (show ¬ nI 8 = (5 : Int32) by decide), if_neg (show ¬ nI 8 = (6 : Int32) by decide), if_neg (show ¬ nI 8 = (7 : Int32) by decide), if_pos (show nI 8 = (8 : Int32) from rfl)]; exact am_596 hq hi hI H
  | 9, _ => rw [if_neg (show ¬ nI 9 = (0 : Int32) by decide), if_neg (show ¬ nI 9 = (1 : Int32) by decide), if_neg (show ¬ nI 9 = (2 : Int32) by decide), if_neg (show ¬ nI 9 = (3 : Int32) by decide), if_neg (show ¬ nI 9 = (4 : Int32) by decide), if_neg (show ¬ nI 9 = (5 : Int32) by decide), if_neg (show ¬ nI 9 = (6 : Int32) by decide), if_neg (show ¬ nI 9 = (7 : Int32) by decide), if_neg (show ¬ nI 9 = (8 : Int32) by decide), if_pos (show nI 9 = (9 : Int32) from rfl)]; exact am_629 hq hi hI H
  | 10, _ => rw [if_neg (show ¬ nI 10 = (0 : Int32) by decide), if_neg (show ¬ nI 10 = (1 : Int32) by decide), if_neg (show ¬ nI 10 = (2 : Int32) by decide), if_neg (show ¬ nI 10 = (3 : Int32) by decide), if_neg (show ¬ nI 10 = (4 : Int32) by decide), if_neg (show ¬ nI 10 = (5 : Int32) by decide), if_neg (show ¬ nI 10 = (6 : Int32) by decide), if_neg (show ¬ nI 10 = (7 : Int32) by decide), if_neg (show ¬ nI 10 = (8 : Int32) by decide), if_neg (show ¬ nI 10 = (9 : Int32) by decide), if_pos (show nI 10 = (10 : Int32) from rfl)]; exact am_672 hq hi hI H
  | 11, _ => rw [if_neg (show ¬ nI 11 = (0 : Int32) by decide), if_neg (show ¬ nI 11 = (1 : Int32) by decide), if_neg (show ¬ nI 11 = (2 : Int32) by decide), if_neg (show ¬ nI 11 = (3 : Int32) by decide), if_neg (show ¬ nI 11 = (4 : Int32) by decide), if_neg (show ¬ nI 11 = (5 : Int32) by decide), if_neg (show ¬ nI 11 = (6 : Int32) by decide), if_neg (show ¬ nI 11 = (7 : Int32) by decide), if_neg (show ¬ nI 11 = (8 : Int32) by decide), if_neg (show ¬ nI 11 = (9 : Int32) by decide), if_neg (show ¬ nI 11 = (10 : Int32) by decide), if_pos (show nI 11 = (11 : Int32) from rfl)]; exact am_715 hq hi hI H
  | 12, _ => rw [if_neg (show ¬ nI 12 = (0 : Int32) by decide), if_neg (show ¬ nI 12 = (1 : Int32) by decide), if_neg (show ¬ nI 12 = (2 : Int32) by decide), if_neg (show ¬ nI 12 = (3 : Int32) by decide), if_neg (show ¬ nI 12 = (4 : Int32) by decide), if_neg (show ¬ nI 12 = (5 : Int32) by decide), if_neg (show ¬ nI 12 = (6 : Int32) by decide), if_neg (show ¬ nI 12 = (7 : Int32) by decide), if_neg (show ¬ nI 12 = (8 : Int32) by decide), if_neg (show ¬ nI 12 = (9 : Int32) by decide), if_neg (show ¬ nI 12 = (10 : Int32) by decide), if_neg (show ¬ nI 12 = (11 : Int32) by decide), if_pos (show nI 12 = (12 : Int32) from rfl)]; exact am_748 hq hi hI H
  | 13, _ => rw [if_neg (show ¬ nI 13 = (0 : Int32) by decide), if_neg (show ¬ nI 13 = (1 : Int32) by decide), if_neg (show ¬ nI 13 = (2 : Int32) by decide), if_neg (show ¬ nI 13 = (3 : Int32) by decide), if_neg (show ¬ nI 13 = (4 : Int32) by decide), if_neg (show ¬ nI 13 = (5 : Int32) by decide), if_neg (show ¬ nI 13 = (6 : Int32) by decide), if_neg (show ¬ nI 13 = (7 : Int32) by decide), if_neg (show ¬ nI 13 = (8 : Int32) by decide), if_neg (show ¬ nI 13 = (9 : Int32) by decide), if_neg (show ¬ nI 13 = (10 : Int32) by decide), if_neg (show ¬ nI 13 = (11 : Int32) by decide), if_neg (show ¬ nI 13 = (12 : Int32) by decide), if_pos (show nI 13 = (13 : Int32) from rfl)]; exact am_771 hq hi hI H
  | 14, _ => rw [if_neg (show ¬ nI 14 = (0 : Int32) by decide), if_neg (show ¬ nI 14 = (1 : Int32) by decide), if_neg (show ¬ nI 14 = (2 : Int32) by decide), if_neg (show ¬ nI 14 = (3 : Int32) by decide), if_neg (show ¬ nI 14 = (4 : Int32) by decide), if_neg (show ¬ nI 14 = (5 : Int32) by decide), if_neg (show ¬ nI 14 = (6 : Int32) by decide), if_neg (show ¬ nI 14 = (7 : Int32) by decide), if_neg (show ¬ nI 14 = (8 : Int32) by decide), if_neg (show ¬ nI 14 = (9 : Int32) by decide), if_neg (show ¬ nI 14 = (10 : Int32) by decide), if_neg (show ¬ nI 14 = (11 : Int32) by decide), if_neg (show ¬ nI 14 = (12 : Int32) by decide), if_neg (show ¬ nI 14 = (13 : Int32) by decide), if_pos (show nI 14 = (14 : Int32) from rfl)]; exact am_804 hq hi hI H
  | 15, _ => rw [if_neg (show ¬ nI 15 = (0 : Int32) by decide), if_neg (show ¬ nI 15 = (1 : Int32) by decide), if_neg (show ¬ nI 15 = (2 : Int32) by decide), if_neg (show ¬ nI 15 = (3 : Int32) by decide), if_neg (show ¬ nI 15 = (4 : Int32) by decide), if_neg (show ¬ nI 15 = (5 : Int32) by decide), if_neg (show ¬ nI 15 = (6 : Int32) by decide), if_neg (show ¬ nI 15 = (7 : Int32) by decide), if_neg (show ¬ nI 15 = (8 : Int32) by decide), if_neg (show ¬ nI 15 = (9 : Int32) by decide), if_neg (show ¬ nI 15 = (10 : Int32) by decide), if_neg (show ¬ nI 15 = (11 : Int32) by decide), if_neg (show ¬ nI 15 = (12 : Int32) by decide), if_neg (show ¬ nI 15 = (13 : Int32) by decide), if_neg (show ¬ nI 15 = (14 : Int32) by decide), if_pos (show nI 15 = (15 : Int32) from rfl)]; exact am_827 hq hi hI H
  | 16, _ => rw [if_neg (show ¬ nI 16 = (0 : Int32) by decide), if_neg (show ¬ nI 16 = (1 : Int32) by decide), if_neg (show ¬ nI 16 = (2 : Int32) by decide), if_neg (show ¬ nI 16 = (3 : Int32) by decide), if_neg (show ¬ nI 16 = (4 : Int32) by decide), if_neg (show ¬ nI 16 = (5 : Int32) by decide), if_neg (show ¬ nI 16 = (6 : Int32) by decide), if_neg (show ¬ nI 16 = (7 : Int32) by decide), if_neg (show ¬ nI 16 = (8 : Int32) by decide), if_neg (show ¬ nI 16 = (9 : Int32) by decide), if_neg (show ¬ nI 16 = (10 : Int32) by decide), if_neg (show ¬ nI 16 = (11 : Int32) by decide), if_neg (show ¬ nI 16 = (12 : Int32) by decide), if_neg (show ¬ nI 16 = (13 : Int32) by decide), if_neg (show ¬ nI 16 = (14 : Int32) by decide), if_neg (show ¬ nI 16 = (15 : Int32) by decide), if_pos (show nI 16 = (16 : Int32) from rfl)]; exact am_860 hq hi hI H
  | 17, _ => rw [if_neg (show ¬ nI 17 = (0 : Int32) by decide), if_neg (show ¬ nI 17 = (1 : Int32) by decide), if_neg (show ¬ nI 17 = (2 : Int32) by decide), if_neg (show ¬ nI 17 = (3 : Int32) by decide), if_neg (show ¬ nI 17 = (4 : Int32) by decide), if_neg (show ¬ nI 17 = (5 : Int32) by decide), if_neg (show ¬ nI 17 = (6 : Int32) by decide), if_neg (show ¬ nI 17 = (7 : Int32) by decide), if_neg (show ¬ nI 17 = (8 : Int32) by decide), if_neg (show ¬ nI 17 = (9 : Int32) by decide), if_neg (show ¬ nI 17 = (10 : Int32) by decide), if_neg (show ¬ nI 17 = (11 : Int32) by decide), if_neg (show ¬ nI 17 = (12 : Int32) by decide), if_neg (show ¬ nI 17 = (13 : Int32) by decide), if_neg (show ¬ nI 17 = (14 : Int32) by decide), if_neg (show ¬ nI 17 = (15 : Int32) by decide), if_neg (show ¬ nI 17 = (16 : Int32) by decide), if_pos (show nI 17 = (17 : Int32) from rfl)]; exact am_873 hq hi hI H
  | 18, _ => rw [if_neg (show ¬ nI 18 = (0 : Int32) by decide), if_neg (show ¬ nI 18 = (1 : Int32) by decide), if_neg (show ¬ nI 18 = (2 : Int32) by decide), if_neg (show ¬ nI 18 = (3 : Int32) by decide), if_neg (show ¬ nI 18 = (4 : Int32) by decide), if_neg (show ¬ nI 18 = (5 : Int32) by decide), if_neg (show ¬ nI 18 = (6 : Int32) by decide), if_neg (show ¬ nI 18 = (7 : Int32) by decide), if_neg (show ¬ nI 18 = (8 : Int32) by decide), if_neg (show ¬ nI 18 = (9 : Int32) by decide), if_neg (show ¬ nI 18 = (10 : Int32) by decide), if_neg (show ¬ nI 18 = (11 : Int32) by decide), if_neg (show ¬ nI 18 = (12 : Int32) by decide), if_neg (show ¬ nI 18 = (13 : Int32) by decide), if_neg (show ¬ nI 18 = (14 : Int32) by decide), if_neg (show ¬ nI 18 = (15 : Int32) by decide), if_neg (show ¬ nI 18 = (16 : Int32) by decide), if_neg (show ¬ nI 18 = (17 : Int32) by decide), if_pos (show nI 18 = (18 : Int32) from rfl)]; exact am_896 hq hi hI H
  | 19, _ => rw [if_neg (show ¬ nI 19 = (0 : Int32) by decide), if_neg (show ¬ nI 19 = (1 : Int32) by decide), if_neg (show ¬ nI 19 = (2 : Int32) by decide), if_neg (show ¬ nI 19 = (3 : Int32) by decide), if_neg (show ¬ nI 19 = (4 : Int32) by decide), if_neg (show ¬ nI 19 = (5 : Int32) by decide), if_neg (show ¬ nI 19 = (6 : Int32) by decide), if_neg (show ¬ nI 19 = (7 : Int32) by decide), if_neg (show ¬ nI 19 = (8 : Int32) by decide), if_neg (show ¬ nI 19 = (9 : Int32) by decide), if_neg (show ¬ nI 19 = (10 : Int32) by decide), if_neg (show ¬ nI 19 = (11 : Int32) by decide), if_neg (show ¬ nI 19 = (12 : Int32) by decide), if_neg (show ¬ nI 19 = (13 : Int32) by decide), if_neg (show ¬ nI 19 = (14 : Int32) by decide), if_neg (show ¬ nI 19 = (15 : Int32) by decide), if_neg (show ¬ nI 19 = (16 : Int32) by decide), if_neg (show ¬ nI 19 = (17 : Int32) by decide), if_neg (show ¬ nI 19 = (18 : Int32) by decide), if_pos (show nI 19 = (19 : Int32) from rfl)]; exact am_929 hq hi hI H
  | 20, _ => rw [if_neg (show ¬ nI 20 = (0 : Int32) by decide), if_neg (show ¬ nI 20 = (1 : Int32) by decide), if_neg (show ¬ nI 20 = (2 : Int32) by decide), if_neg (show ¬ nI 20 = (3 : Int32) by decide), if_neg (show ¬ nI 20 = (4 : Int32) by decide), if_neg (show ¬ nI 20 = (5 : Int32) by decide), if_neg (show ¬ nI 20 = (6 : Int32) by decide), if_neg (show ¬ nI 20 = (7 : Int32) by decide), if_neg (show ¬ nI 20 = (8 : Int32) by decide), if_neg (show ¬ nI 20 = (9 : Int32) by decide), if_neg (show ¬ nI 20 = (10 : Int32) by decide), if_neg (show ¬ nI 20 = (11 : Int32) by decide), if_neg (show ¬ nI 20 = (12 : Int32) by decide), if_neg (show ¬ nI 20 = (13 : Int32) by decide), if_neg (show ¬ nI 20 = (14 : Int32) by decide), if_neg (show ¬ nI 20 = (15 : Int32) by decide), if_neg (show ¬ nI 20 = (16 : Int32) by decide), if_neg (show ¬ nI 20 = (17 : Int32) by decide), if_neg (show ¬ nI 20 = (18 : Int32) by decide), if_neg (show ¬ nI 20 = (19 : Int32) by decide), if_pos (show nI 20 = (20 : Int32) from rfl)]; exact am_942 hq hi hI H
  | 21, _ => rw [if_neg (show ¬ nI 21 = (0 : Int32) by decide), if_neg (show ¬ nI 21 = (1 : Int32) by decide), if_neg (show ¬ nI 21 = (2 : Int32) by decide), if_neg (show ¬ nI 21 = (3 : Int32) by decide), if_neg (show ¬ nI 21 = (4 : Int32) by decide), if_neg (show ¬ nI 21 = (5 : Int32) by decide), if_neg (show ¬ nI 21 = (6 : Int32) by decide), if_neg (show ¬ nI 21 = (7 : Int32) by decide), if_neg (show ¬ nI 21 = (8 : Int32) by decide), if_neg (show ¬ nI 21 = (9 : Int32) by decide), if_neg (show ¬ nI 21 = (10 : Int32) by decide), if_neg (show ¬ nI 21 = (11 : Int32) by decide), if_neg (show ¬ nI 21 = (12 : Int32) by decide), if_neg (show ¬ nI 21 = (13 : Int32) by decide), if_neg (show ¬ nI 21 = (14 : Int32) by decide), if_neg (show ¬ nI 21 = (15 : Int32) by decide), if_neg (show ¬ nI 21 = (16 : Int32) by decide), if_neg (show ¬ nI 21 = (17 : Int32) by decide), if_neg (show ¬ nI 21 = (18 : Int32) by decide), if_neg (show ¬ nI 21 = (19 : Int32) by decide), if_neg (show ¬ nI 21 = (20 : Int32) by decide), if_pos (show nI 21 = (21 : Int32) from rfl)]; exact am_975 hq hi hI H
  | 22, _ => rw [if_neg (show ¬ nI 22 = (0 : Int32) by decide), if_neg (show ¬ nI 22 = (1 : Int32) by decide), if_neg (show ¬ nI 22 = (2 : Int32) by decide), if_neg (show ¬ nI 22 = (3 : Int32) by decide), if_neg (show ¬ nI 22 = (4 : Int32) by decide), if_neg (show ¬ nI 22 = (5 : Int32) by decide), if_neg (show ¬ nI 22 = (6 : Int32) by decide), if_neg (show ¬ nI 22 = (7 : Int32) by decide), if_neg (show ¬ nI 22 = (8 : Int32) by decide), if_neg (show ¬ nI 22 = (9 : Int32) by decide), if_neg (show ¬ nI 22 = (10 : Int32) by decide), if_neg (show ¬ nI 22 = (11 : Int32) by decide), if_neg (show ¬ nI 22 = (12 : Int32) by decide), if_neg (show ¬ nI 22 = (13 : Int32) by decide), if_neg (show ¬ nI 22 = (14 : Int32) by decide), if_neg (show ¬ nI 22 = (15 : Int32) by decide), if_neg (show ¬ nI 22 = (16 : Int32) by decide), if_neg (show ¬ nI 22 = (17 : Int32) by decide), if_neg (show ¬ nI 22 = (18 : Int32) by decide), if_neg (show ¬ nI 22 = (19 : Int32) by decide), if_neg (show ¬ nI 22 = (20 : Int32) by decide), if_neg (show ¬ nI 22 = (21 : Int32) by decide), if_pos (show nI 22 = (22 : Int32) from rfl)]; exact am_1018 hq hi hI H
  | 23, _ => rw [if_neg (show ¬ nI 23 = (0 : Int32) by decide), if_neg (show ¬ nI 23 = (1 : Int32) by decide), if_neg (show ¬ nI 23 = (2 : Int32) by decide), if_neg (show ¬ nI 23 = (3 : Int32) by decide), if_neg (show ¬ nI 23 = (4 : Int32) by decide), if_neg (show ¬ nI 23 = (5 : Int32) by decide), if_neg (show ¬ nI 23 = (6 : Int32) by decide), if_neg (show ¬ nI 23 = (7 : Int32) by decide), if_neg (show ¬ nI 23 = (8 : Int32) by decide), if_neg (show ¬ nI 23 = (9 : Int32) by decide), if_neg (show ¬ nI 23 = (10 : Int32) by decide), if_neg (show ¬ nI 23 = (11 : Int32) by decide), if_neg (show ¬ nI 23 = (12 : Int32) by decide), if_neg (show ¬ nI 23 = (13 : Int32) by decide), if_neg (show ¬ nI 23 = (14 : Int32) by decide), if_neg (show ¬ nI 23 = (15 : Int32) by decide), if_neg (show ¬ nI 23 = (16 : Int32) by decide), if_neg (show ¬ nI 23 = (17 : Int32) by decide), if_neg (show ¬ nI 23 = (18 : Int32) by decide), if_neg (show ¬ nI 23 = (19 : Int32) by decide), if_neg (show ¬ nI 23 = (20 : Int32) by decide), if_neg (show ¬ nI 23 = (21 : Int32) by decide), if_neg (show ¬ nI 23 = (22 : Int32) by decide), if_pos (show nI 23 = (23 : Int32) from rfl)]; exact am_1031 hq hi hI H
  | 24, _ => rw [if_neg (show ¬ nI 24 = (0 : Int32) by decide), if_neg (show ¬ nI 24 = (1 : Int32) by decide), if_neg (show ¬ nI 24 = (2 : Int32) by decide), if_neg (show ¬ nI 24 = (3 : Int32) by decide), if_neg (show ¬ nI 24 = (4 : Int32) by decide), if_neg (show ¬ nI 24 = (5 : Int32) by decide), if_neg (show ¬ nI 24 = (6 : Int32) by decide), if_neg (show ¬ nI 24 = (7 : Int32) by decide), if_neg (show ¬ nI 24 = (8 : Int32) by decide), if_neg (show ¬ nI 24 = (9 : Int32) by decide), if_neg (show ¬ nI 24 = (10 : Int32) by decide), if_neg (show ¬ nI 24 = (11 : Int32) by decide), if_neg (show ¬ nI 24 = (12 : Int32) by decide), if_neg (show ¬ nI 24 = (13 : Int32) by decide), if_neg (show ¬ nI 24 = (14 : Int32) by decide), if_neg (show ¬ nI 24 = (15 : Int32) by decide), if_neg (show ¬ nI 24 = (16 : Int32) by decide), if_neg (show ¬ nI 24 = (17 : Int32) by decide), if_neg (show ¬ nI 24 = (18 : Int32) by decide), if_neg (show ¬ nI 24 = (19 : Int32) by decide), if_neg (show ¬ nI 24 = (20 : Int32) by decide), if_neg (show ¬ nI 24 = (21 : Int32) by decide), if_neg (show ¬ nI 24 = (22 : Int32) by decide), if_neg (show ¬ nI 24 = (23 : Int32) by decide), if_pos (show nI 24 = (24 : Int32) from rfl)]; exact am_1084 hq hi hI H
  | 25, _ => rw [if_neg (show ¬ nI 25 = (0 : Int32) by decide), if_neg (show ¬ nI 25 = (1 : Int32) by decide), if_neg (show ¬ nI 25 = (2 : Int32) by decide), if_neg (show ¬ nI 25 = (3 : Int32) by decide), if_neg (show ¬ nI 25 = (4 : Int32) by decide), if_neg (show ¬ nI 25 = (5 : Int32) by decide), if_neg (show ¬ nI 25 = (6 : Int32) by decide), if_neg (show ¬ nI 25 = (7 : Int32) by decide), if_neg (show ¬ nI 25 = (8 : Int32) by decide), if_neg (show ¬ nI 25 = (9 : Int32) by decide), if_neg (show ¬ nI 25 = (10 : Int32) by decide), if_neg (show ¬ nI 25 = (11 : Int32) by decide), if_neg (show ¬ nI 25 = (12 : Int32) by decide), if_neg (show ¬ nI 25 = (13 : Int32) by decide), if_neg (show ¬ nI 25 = (14 : Int32) by decide), if_neg (show ¬ nI 25 = (15 : Int32) by decide), if_neg (show ¬ nI 25 = (16 : Int32) by decide), if_neg (show ¬ nI 25 = (17 : Int32) by decide), if_neg (show ¬ nI 25 = (18 : Int32) by decide), if_neg (show ¬ nI 25 = (19 : Int32) by decide), if_neg (show ¬ nI 25 = (20 : Int32) by decide), if_neg (show ¬ nI 25 = (21 : Int32) by decide), if_neg (show ¬ nI 25 = (22 : Int32) by decide), if_neg (show ¬ nI 25 = (23 : Int32) by decide), if_neg (show ¬ nI 25 = (24 : Int32) by decide), if_pos (show nI 25 = (25 : Int32) from rfl)]; exact am_1117 hq hi hI H
  | 26, _ => rw [if_neg (show ¬ nI 26 = (0 : Int32) by decide), if_neg (show ¬ nI 26 = (1 : Int32) by decide), if_neg (show ¬ nI 26 = (2 : Int32) by decide), if_neg (show ¬ nI 26 = (3 : Int32) by decide), if_neg (show ¬ nI 26 = (4 : Int32) by decide), if_neg (show ¬ nI 26 = (5 : Int32) by decide), if_neg (show ¬ nI 26 = (6 : Int32) by decide), if_neg (show ¬ nI 26 = (7 : Int32) by decide), if_neg (show ¬ nI 26 = (8 : Int32) by decide), if_neg (show ¬ nI 26 = (9 : Int32) by decide), if_neg (show ¬ nI 26 = (10 : Int32) by decide), if_neg (show ¬ nI 26 = (11 : Int32) by decide), if_neg (show ¬ nI 26 = (12 : Int32) by decide), if_neg (show ¬ nI 26 = (13 : Int32) by decide), if_neg (show ¬ nI 26 = (14 : Int32) by decide), if_neg (show ¬ nI 26 = (15 : Int32) by decide), if_neg (show ¬ nI 26 = (16 : Int32) by decide), if_neg (show ¬ nI 26 = (17 : Int32) by decide), if_neg (show ¬ nI 26 = (18 : Int32) by decide), if_neg (show ¬ nI 26 = (19 : Int32) by decide), if_neg (show ¬ nI 26 = (20 : Int32) by decide), if_neg (show ¬ nI 26 = (21 : Int32) by decide), if_neg (show ¬ nI 26 = (22 : Int32) by decide), if_neg (show ¬ nI 26 = (23 : Int32) by decide), if_neg (show ¬ nI 26 = (24 : Int32) by decide), if_neg (show ¬ nI 26 = (25 : Int32) by decide), if_pos (show nI 26 = (26 : Int32) from rfl)]; exact am_1150 hq hi hI H
  | 27, _ => rw [if_neg (show ¬ nI 27 = (0 : Int32) by decide), if_neg (show ¬ nI 27 = (1 : Int32) by decide), if_neg (show ¬ nI 27 = (2 : Int32) by decide), if_neg (show ¬ nI 27 = (3 : Int32) by decide), if_neg (show ¬ nI 27 = (4 : Int32) by decide), if_neg (show ¬ nI 27 = (5 : Int32) by decide), if_neg (show ¬ nI 27 = (6 : Int32) by decide), if_neg (show ¬ nI 27 = (7 : Int32) by decide), if_neg (show ¬ nI 27 = (8 : Int32) by decide), if_neg (show ¬ nI 27 = (9 : Int32) by decide), if_neg (show ¬ nI 27 = (10 : Int32) by decide), if_neg (show ¬ nI 27 = (11 : Int32) by decide), if_neg (show ¬ nI 27 = (12 : Int32) by decide), if_neg (show ¬ nI 27 = (13 : Int32) by decide), if_neg (show ¬ nI 27 = (14 : Int32) by decide), if_neg (show ¬ nI 27 = (15 : Int32) by decide), if_neg (show ¬ nI 27 = (16 : Int32) by decide), if_neg (show ¬ nI 27 = (17 : Int32) by decide), if_neg (show ¬ nI 27 = (18 : Int32) by decide), if_neg (show ¬ nI 27 = (19 : Int32) by decide), if_neg (show ¬ nI 27 = (20 : Int32) by decide), if_neg (show ¬ nI 27 = (21 : Int32) by decide), if_neg (show ¬ nI 27 = (22 : Int32) by decide), if_neg (show ¬ nI 27 = (23 : Int32) by decide), if_neg (show ¬ nI 27 = (24 : Int32) by decide), if_neg (show ¬ nI 27 = (25 : Int32) by decide), if_neg (show ¬ nI 27 = (26 : Int32) by decide), if_pos (show nI 27 = (27 : Int32) from rfl)]; exact am_1193 hq hi hI H
  | 28, _ => rw [if_neg (show ¬ nI 28 = (0 : Int32) by decide), if_neg (show ¬ nI 28 = (1 : Int32) by decide), if_neg (show ¬ nI 28 = (2 : Int32) by decide), if_neg (show ¬ nI 28 = (3 : Int32) by decide), if_neg (show ¬ nI 28 = (4 : Int32) by decide), if_neg (show ¬ nI 28 = (5 : Int32) by decide), if_neg (show ¬ nI 28 = (6 : Int32) by decide), if_neg (show ¬ nI 28 = (7 : Int32) by decide), if_neg (show ¬ nI 28 = (8 : Int32) by decide), if_neg (show ¬ nI 28 = (9 : Int32) by decide), if_neg (show ¬ nI 28 = (10 : Int32) by decide), if_neg (show ¬ nI 28 = (11 : Int32) by decide), if_neg (show ¬ nI 28 = (12 : Int32) by decide), if_neg (show ¬ nI 28 = (13 : Int32) by decide), if_neg (show ¬ nI 28 = (14 : Int32) by decide), if_neg (show ¬ nI 28 = (15 : Int32) by decide), if_neg (show ¬ nI 28 = (16 : Int32) by decide), if_neg (show ¬ nI 28 = (17 : Int32) by decide), if_neg (show ¬ nI 28 = (18 : Int32) by decide), if_neg (show ¬ nI 28 = (19 : Int32) by decide), if_neg (show ¬ nI 28 = (20 : Int32) by decide), if_neg (show ¬ nI 28 = (21 : Int32) by decide), if_neg (show ¬ nI 28 = (22 : Int32) by decide), if_neg (show ¬ nI 28 = (23 : Int32) by decide), if_neg (show ¬ nI 28 = (24 : Int32) by decide), if_neg (show ¬ nI 28 = (25 : Int32) by decide), if_neg (show ¬ nI 28 = (26 : Int32) by decide), if_neg (show ¬ nI 28 = (27 : Int32) by decide), if_pos (show nI 28 = (28 : Int32) from rfl)]; exact am_1236 hq hi hI H
  | 29, _ => rw [if_neg (show ¬ nI 29 = (0 : Int32) by decide), if_neg (show ¬ nI 29 = (1 : Int32) by decide), if_neg (show ¬ nI 29 = (2 : Int32) by decide), if_neg (show ¬ nI 29 = (3 : Int32) by decide), if_neg (show ¬ nI 29 = (4 : Int32) by decide), if_neg (show ¬ nI 29 = (5 : Int32) by decide), if_neg (show ¬ nI 29 = (6 : Int32) by decide), if_neg (show ¬ nI 29 = (7 : Int32) by decide), if_neg (show ¬ nI 29 = (8 : Int32) by decide), if_neg (show ¬ nI 29 = (9 : Int32) by decide), if_neg (show ¬ nI 29 = (10 : Int32) by decide), if_neg (show ¬ nI 29 = (11 : Int32) by decide), if_neg (show ¬ nI 29 = (12 : Int32) by decide), if_neg (show ¬ nI 29 = (13 : Int32) by decide), if_neg (show ¬ nI 29 = (14 : Int32) by decide), if_neg (show ¬ nI 29 = (15 : Int32) by decide), if_neg (show ¬ nI 29 = (16 : Int32) by decide), if_neg (show ¬ nI 29 = (17 : Int32) by decide), if_neg (show ¬ nI 29 = (18 : Int32) by decide), if_neg (show ¬ nI 29 = (19 : Int32) by decide), if_neg (show ¬ nI 29 = (20 : Int32) by decide), if_neg (show ¬ nI 29 = (21 : Int32) by decide), if_neg (show ¬ nI 29 = (22 : Int32) by decide), if_neg (show ¬ nI 29 = (23 : Int32) by decide), if_neg (show ¬ nI 29 = (24 : Int32) by decide), if_neg (show ¬ nI 29 = (25 : Int32) by decide), if_neg (show ¬ nI 29 = (26 : Int32) by decide), if_neg (show ¬ nI 29 = (27 : Int32) by decide), if_neg (show ¬ nI 29 = (28 : Int32) by decide), if_pos (show nI 29 = (29 : Int32) from rfl)]; exact am_1269 hq hi hI H
  | 30, _ => rw [if_neg (show ¬ nI 30 = (0 : Int32) by decide), if_neg (show ¬ nI 30 = (1 : Int32) by decide), if_neg (show ¬ nI 30 = (2 : Int32) by decide), if_neg (show ¬ nI 30 = (3 : Int32) by decide), if_neg (show ¬ nI 30 = (4 : Int32) by decide), if_neg (show ¬ nI 30 = (5 : Int32) by decide), if_neg (show ¬ nI 30 = (6 : Int32) by decide), if_neg (show ¬ nI 30 = (7 : Int32) by decide), if_neg (show ¬ nI 30 = (8 : Int32) by decide), if_neg (show ¬ nI 30 = (9 : Int32) by decide), if_neg (show ¬ nI 30 = (10 : Int32) by decide), if_neg (show ¬ nI 30 = (11 : Int32) by decide), if_neg (show ¬ nI 30 = (12 : Int32) by decide), if_neg (show ¬ nI 30 = (13 : Int32) by decide), if_neg (show ¬ nI 30 = (14 : Int32) by decide), if_neg (show ¬ nI 30 = (15 : Int32) by decide), if_neg (show ¬ nI 30 = (16 : Int32) by decide), if_neg (show ¬ nI 30 = (17 : Int32) by decide), if_neg (show ¬ nI 30 = (18 : Int32) by decide), if_neg (show ¬ nI 30 = (19 : Int32) by decide), if_neg (show ¬ nI 30 = (20 : Int32) by decide), if_neg (show ¬ nI 30 = (21 : Int32) by decide), if_neg (show ¬ nI 30 = (22 : Int32) by decide), if_neg (show ¬ nI 30 = (23 : Int32) by decide), if_neg (show ¬ nI 30 = (24 : Int32) by decide), if_neg (show ¬ nI 30 = (25 : Int32) by decide), if_neg (show ¬ nI 30 = (26 : Int32) by decide), if_neg (show ¬ nI 30 = (27 : Int32) by decide), if_neg (show ¬ nI 30 = (28 : Int32) by decide), if_neg (show ¬ nI 30 = (29 : Int32) by decide), if_pos (show nI 30 = (30 : Int32) from rfl)]; exact am_1292 hq hi hI H
  | 31, _ => rw [if_neg (show ¬ nI 31 = (0 : Int32) by decide), if_neg (show ¬ nI 31 = (1 : Int32) by decide), if_neg (show ¬ nI 31 = (2 : Int32) by decide), if_neg (show ¬ nI 31 = (3 : Int32) by decide), if_neg (show ¬ nI 31 = (4 : Int32) by decide), if_neg (show ¬ nI 31 = (5 : Int32) by decide), if_neg (show ¬ nI 31 = (6 : Int32) by decide), if_neg (show ¬ nI 31 = (7 : Int32) by decide), if_neg (show ¬ nI 31 = (8 : Int32) by decide), if_neg (show ¬ nI 31 = (9 : Int32) by decide), if_neg (show ¬ nI 31 = (10 : Int32) by decide), if_neg (show ¬ nI 31 = (11 : Int32) by decide), if_neg (show ¬ nI 31 = (12 : Int32) by decide), if_neg (show ¬ nI 31 = (13 : Int32) by decide), if_neg (show ¬ nI 31 = (14 : Int32) by decide), if_neg (show ¬ nI 31 = (15 : Int32) by decide), if_neg (show ¬ nI 31 = (16 : Int32) by decide), if_neg (show ¬ nI 31 = (17 : Int32) by decide), if_neg (show ¬ nI 31 = (18 : Int32) by decide), if_neg (show ¬ nI 31 = (19 : Int32) by decide), if_neg (show ¬ nI 31 = (20 : Int32) by decide), if_neg (show ¬ nI 31 = (21 : Int32) by decide), if_neg (show ¬ nI 31 = (22 : Int32) by decide), if_neg (show ¬ nI 31 = (23 : Int32) by decide), if_neg (show ¬ nI 31 = (24 : Int32) by decide), if_neg (show ¬ nI 31 = (25 : Int32) by decide), if_neg (show ¬ nI 31 = (26 : Int32) by decide), if_neg (show ¬ nI 31 = (27 : Int32) by decide), if_neg (show ¬ nI 31 = (28 : Int32) by decide), if_neg (show ¬ nI 31 = (29 : Int32) by decide), if_neg (show ¬ nI 31 = (30 : Int32) by decide), if_pos (show nI 31 = (31 : Int32) from rfl)]; exact am_1305 hq hi hI H
  | j + 32, h => exact absurd h (by omega)
theorem am_loop (hq : q ≤ 3584) : ∀ n i σ, q ≤ i + n → i ≤ q → Inv σ → En q xs 18 i [] σ := by
  have hd : ∀ i σ, i ≤ q → q < i + 7 → En q xs 18 i [] σ := by
    intro i σ h1 h2
    refine am_c (D_Law_law_18 _ σ) ?_
    have h0 : Int32.ofNat q - (7 : Int32) < nI i := by
      by_cases h7 : q < 7
      · exact am_lo q h7 i (by omega)
      · show nI q - nI 7 < nI i
        rw [pk_sub (by omega), nI_ltI (by omega) (by omega)]
        omega
    rw [if_pos h0]
    exact ⟨σ, rfl⟩
  intro n
  induction n with
  | zero => exact fun i σ h1 h2 _ => hd i σ h2 (by omega)
  | succ n ih =>
    intro i σ h1 h2 hI
    by_cases h7 : q < i + 7
    · exact hd i σ h2 h7
    · refine am_step hq (by omega) hI fun σ' hI' => ?_
      refine am_c (D_Law_law_1318 _ σ') ?_
      rw [show nI i + 7 = nI (i + 7) from nI_add i 7]
      exact ih (i + 7) σ' (by omega) (by omega) hI'
end
theorem rp_AM (q : Nat) (xs : Nat → Int32) (hq : q ≤ 3584) : ∃ n x, rp_run rp_mt rp_mi rp_cf rp_tx (some (q, xs)) n (230, 0, 0, 0, [.ref 0, rp_U, rp_U, rp_U], [], ([.inr (99, [])], fun _ _ => 0)) = some x ∧ x.1 = some (.int 1) := by
  obtain ⟨μ, h1, h2⟩ := xi_go (sc := some (q, xs))
  obtain ⟨ν, h3⟩ := am_loop (q := q) (xs := xs) hq q 0 μ (by omega) (by omega) (xi_inv h1)
  obtain ⟨n, h4⟩ := (rp_Ev_iff _ _ _ _ _ _ _).mp (h2.trans h3)
  exact ⟨n, _, h4, rfl⟩
