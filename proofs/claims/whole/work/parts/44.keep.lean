/-! keep, and what back copies -/
theorem TB18 : TB 18 18 70 14 5 := ⟨rfl, rfl, by decide, by decide, by decide, by decide, by decide⟩
theorem TB20 : TB 20 20 144 16 9 := ⟨rfl, rfl, by decide, by decide, by decide, by decide, by decide⟩
theorem TB22 : TB 22 22 36 3 12 := ⟨rfl, rfl, by decide, by decide, by decide, by decide, by decide⟩
theorem TB24 : TB 24 24 120 8 15 := ⟨rfl, rfl, by decide, by decide, by decide, by decide, by decide⟩
theorem TB26 : TB 26 26 200 40 5 := ⟨rfl, rfl, by decide, by decide, by decide, by decide, by decide⟩
theorem TB28 : TB 28 28 20 10 2 := ⟨rfl, rfl, by decide, by decide, by decide, by decide, by decide⟩
theorem TB30 : TB 30 30 200 40 5 := ⟨rfl, rfl, by decide, by decide, by decide, by decide, by decide⟩
section
variable {sc : rp_Sc} {σ μ : rp_Mm}
theorem s_copy {t tc o oc tq tl tw : Nat} (hT : TB t tc tq tl tw) (hO : TB o oc tq tl tw) (hd : o ≠ t ∧ oc + 1 ≠ t ∧ o ≠ tc + 1 ∧ oc ≠ tc) {n : Nat} (hn : σ o 3 = nI n) (hl : n ≤ tl) : ∃ μ, CL sc 146 [.ref t, .ref o] σ = RV μ ∧ Fr (fun a k => (a = t ∧ k = 3) ∨ (a = tc + 1 ∧ k < tq)) σ μ ∧ μ t 3 = σ o 3 ∧ ∀ k, k < tq → μ (tc + 1) k = σ (oc + 1) k := by
  obtain ⟨h1, h2, h3, h4, h5, h6, h7⟩ := hT
  obtain ⟨o1, o2, o3, o4, o5, o6, o7⟩ := hO
  have L := lp (E := fun i => EV sc (146, 0, 0, 17, [.ref t, .ref o, .int (nI i)], [], (rp_L0, blk (rp_wr σ t 3 (nI n)) (tc + 1) 0 i (fun k => σ (oc + 1) k)))) (n := tq) (fun i hi => by
    refine rp_Le_tr ?_ (D_Table_copyFrom_17 h1 h2 o1 o2 _ _)
    have e : blk (rp_wr σ t 3 (nI n)) (tc + 1) 0 i (fun k => σ (oc + 1) k) (oc + 1) i = σ (oc + 1) i := by
      rw [blk_o (by omega), wr_n2 (by omega)]
    have hq : ¬ Int32.ofNat tq ≤ nI i := nI_ge hi (by omega)
    simp (disch := omega) only [hq, if_false, ixT, cond_true, nI_clamp, e, nI_1]
    rw [blk_s (f := fun k => σ (oc + 1) k) (by omega) rfl]
    exact rp_Le_rfl)
  refine ⟨blk (rp_wr σ t 3 (nI n)) (tc + 1) 0 tq (fun k => σ (oc + 1) k), cl_le rfl (rp_Le_tr ?_ (D_Table_copyFrom_0 h1 h2 o1 o2 σ)), Fr_blk (Fr_wr Fr_rfl (Or.inl ⟨rfl, rfl⟩)) (fun k _ hk => Or.inr ⟨rfl, hk⟩), ?_, fun k hk => blk_i (by omega) hk⟩
  · rw [hn, if_neg (nI_nlt hl (by omega))]
    rw [blk_0] at L
    refine rp_Le_tr (rp_Le_tr ?_ (D_Table_copyFrom_17 h1 h2 o1 o2 _ _)) L
    rw [if_pos (show Int32.ofNat tq ≤ nI tq from nI_le (Nat.le_refl _) (by omega))]
    exact rp_Le_rfl
  · rw [blk_o (by omega), wr_eq, hn]
/-- the first i tables are copied -/
def Cp (σ μ : rp_Mm) (d s i : Nat) : Prop := Fr (fun a _ => d ≤ a ∧ a < d + 2 * i) σ μ ∧ ∀ j, j < i → μ (d + 2 * j) 3 = σ (s + 2 * j) 3 ∧ ∀ k, k < lenC (2 + 2 * j) → μ (d + 1 + 2 * j) k = σ (s + 1 + 2 * j) k
theorem cp_s {d s i tq tl tw n t o : Nat} (h : Cp σ μ d s i) (ht : t = d + 2 * i) (ho : o = s + 2 * i) (hT : TB t t tq tl tw) (hO : TB o o tq tl tw) (hi : i < 7) (hds : d + 15 ≤ s ∨ s + 15 ≤ d) (hq : tq = lenC (2 + 2 * i)) (hn : σ o 3 = nI n) (hl : n ≤ tl) : ∃ μ', CL sc 146 [.ref t, .ref o] μ = RV μ' ∧ Cp σ μ' d s (i + 1) := by
  subst ht ho
  obtain ⟨f, v⟩ := h
  obtain ⟨μ', c, f', z, w⟩ := s_copy (sc := sc) (σ := μ) hT hO (by omega) (n := n) (by rw [f _ _ (by omega)]; exact hn) hl
  refine ⟨μ', c, Fr_tr (Fr_mo f (fun _ _ => by omega)) (Fr_mo f' (fun _ _ => by omega)), fun j hj => ?_⟩
  by_cases e : j = i
  · subst e
    refine ⟨by rw [z, f _ _ (by omega)], fun k hk => ?_⟩
    rw [show d + 1 + 2 * j = d + 2 * j + 1 by omega, w k (by omega), f _ _ (by omega), show s + 1 + 2 * j = s + 2 * j + 1 by omega]
  · obtain ⟨a, b⟩ := v j (by omega)
    refine ⟨by rw [f' _ _ (by omega)]; exact a, fun k hk => ?_⟩
    rw [f' _ _ (by omega)]
    exact b k hk
theorem rlC_c {a k : Nat} (h : rlC a k = true) : (a = 0 ∧ k = 7) ∨ (∃ j, j < 7 ∧ a = 1 + 2 * j ∧ k = 3) ∨ ∃ j, j < 7 ∧ a = 2 + 2 * j ∧ k < lenC (2 + 2 * j) := by
  unfold rlC at h
  simp only [Bool.or_eq_true, Bool.and_eq_true, beq_iff_eq, decide_eq_true_eq] at h
  rcases h with (h | h) | h
  · exact Or.inl h
  · exact Or.inr (Or.inl ⟨a / 2, by omega, by omega, h.2⟩)
  · have : ∃ j, j < 7 ∧ a = 2 + 2 * j := by
      unfold lenC at h
      split at h
      · exact ⟨0, by decide, rfl⟩
      · exact ⟨1, by decide, rfl⟩
      · exact ⟨2, by decide, rfl⟩
      · exact ⟨3, by decide, rfl⟩
      · exact ⟨4, by decide, rfl⟩
      · exact ⟨5, by decide, rfl⟩
      · exact ⟨6, by decide, rfl⟩
      · omega
    obtain ⟨j, hj, rfl⟩ := this
    exact Or.inr (Or.inr ⟨j, hj, rfl, h⟩)
theorem cp_v {d s : Nat} (h : Cp σ μ (d + 1) (s + 1) 7) {x : Int32} (hx : x = σ s 7) {a k : Nat} (hr : rlC a k = true) : rp_wr μ d 7 x (d + a) k = σ (s + a) k := by
  rcases rlC_c hr with ⟨rfl, rfl⟩ | ⟨j, hj, rfl, rfl⟩ | ⟨j, hj, rfl, hk⟩
  · rw [Nat.add_zero, Nat.add_zero, wr_eq, hx]
  · rw [wr_n2 (by omega), show d + (1 + 2 * j) = d + 1 + 2 * j by omega, (h.2 j hj).1, show s + (1 + 2 * j) = s + 1 + 2 * j by omega]
  · rw [wr_n2 (by omega), show d + (2 + 2 * j) = d + 1 + 1 + 2 * j by omega, (h.2 j hj).2 k hk, show s + (2 + 2 * j) = s + 1 + 1 + 2 * j by omega]
theorem y_bookKeep {r : rp_Mm} (hB : BI (C σ) r) : ∃ μ, CL sc 145 [.ref 17, .ref 2] σ = RV μ ∧ Fr (fun a _ => 17 ≤ a ∧ a < 32) σ μ ∧ Ck μ = C σ := by
  have bn := b_n hB.1
  have h0 : Cp σ σ 18 3 0 := ⟨Fr_rfl, fun j hj => absurd hj (by omega)⟩
  obtain ⟨μ1, a1, h1⟩ := cp_s (sc := sc) h0 rfl rfl TB18 TB3 (by decide) (by decide) rfl (c_nL hB) (by omega)
  obtain ⟨μ2, a2, h2⟩ := cp_s (sc := sc) h1 rfl rfl TB20 TB5 (by decide) (by decide) rfl (c_nT hB) (by omega)
  obtain ⟨μ3, a3, h3⟩ := cp_s (sc := sc) h2 rfl rfl TB22 TB7 (by decide) (by decide) rfl (c_nK hB) (by omega)
  obtain ⟨μ4, a4, h4⟩ := cp_s (sc := sc) h3 rfl rfl TB24 TB9 (by decide) (by decide) rfl (c_nP hB) (by omega)
  obtain ⟨μ5, a5, h5⟩ := cp_s (sc := sc) h4 rfl rfl TB26 TB11 (by decide) (by decide) rfl (c_nR hB) (by omega)
  obtain ⟨μ6, a6, h6⟩ := cp_s (sc := sc) h5 rfl rfl TB28 TB13 (by decide) (by decide) rfl (c_nW hB) (by omega)
  obtain ⟨μ7, a7, h7⟩ := cp_s (sc := sc) h6 rfl rfl TB30 TB15 (by decide) (by decide) rfl (c_nS hB) (by omega)
  refine ⟨rp_wr μ7 17 7 (μ7 2 7), cl_of (D_Book_copyFrom17_0 σ) rfl ?_, Fr_wr (Fr_mo h7.1 (fun _ _ => by omega)) (by decide), ?_⟩
  · simp only [a1, a2, a3, a4, a5, a6, a7, thV_RV]
  · funext a k
    unfold Ck C
    cases hr : rlC a k with
    | false => rfl
    | true => exact cp_v (d := 17) (s := 2) h7 (h7.1 _ _ (by omega)) hr
theorem y_bookBack {r : rp_Mm} (hB : BI (Ck σ) r) : ∃ μ, CL sc 145 [.ref 2, .ref 17] σ = RV μ ∧ Fr (fun a _ => 2 ≤ a ∧ a < 17) σ μ ∧ C μ = Ck σ := by
  have bn := b_n hB.1
  have hk : ∀ {a k : Nat} {x : Int32}, rlC a k = true → Ck σ a k = x → σ (17 + a) k = x := fun {a k x} h e => by
    unfold Ck at e
    rw [h] at e
    exact e
  have h0 : Cp σ σ 3 18 0 := ⟨Fr_rfl, fun j hj => absurd hj (by omega)⟩
  have cb := hB.2.1
  obtain ⟨μ1, a1, h1⟩ := cp_s (sc := sc) h0 rfl rfl TB3 TB18 (by decide) (by decide) rfl (hk (a := 1) (by decide) cb.1) (by omega)
  obtain ⟨μ2, a2, h2⟩ := cp_s (sc := sc) h1 rfl rfl TB5 TB20 (by decide) (by decide) rfl (hk (a := 3) (by decide) cb.2.1) (by omega)
  obtain ⟨μ3, a3, h3⟩ := cp_s (sc := sc) h2 rfl rfl TB7 TB22 (by decide) (by decide) rfl (hk (a := 5) (by decide) cb.2.2.1) (by omega)
  obtain ⟨μ4, a4, h4⟩ := cp_s (sc := sc) h3 rfl rfl TB9 TB24 (by decide) (by decide) rfl (hk (a := 7) (by decide) cb.2.2.2.1) (by omega)
  obtain ⟨μ5, a5, h5⟩ := cp_s (sc := sc) h4 rfl rfl TB11 TB26 (by decide) (by decide) rfl (hk (a := 9) (by decide) cb.2.2.2.2.1) (by omega)
  obtain ⟨μ6, a6, h6⟩ := cp_s (sc := sc) h5 rfl rfl TB13 TB28 (by decide) (by decide) rfl (hk (a := 11) (by decide) cb.2.2.2.2.2.1) (by omega)
  obtain ⟨μ7, a7, h7⟩ := cp_s (sc := sc) h6 rfl rfl TB15 TB30 (by decide) (by decide) rfl (hk (a := 13) (by decide) cb.2.2.2.2.2.2.1) (by omega)
  refine ⟨rp_wr μ7 2 7 (μ7 17 7), cl_of (D_Book_copyFrom2_0 σ) rfl ?_, Fr_wr (Fr_mo h7.1 (fun _ _ => by omega)) (by decide), ?_⟩
  · simp only [a1, a2, a3, a4, a5, a6, a7, thV_RV]
  · funext a k
    unfold Ck C
    cases hr : rlC a k with
    | false => rfl
    | true => exact cp_v (d := 2) (s := 17) h7 (h7.1 _ _ (by omega)) hr
/-! the reference's rows -/
def lenM (a : Nat) : Nat := match a with
  | 0 => 7
  | 1 => 70
  | 2 => 128
  | 3 => 48
  | 4 => 128
  | 5 => 120
  | 6 => 20
  | _ => 200
def offM : Nat → Nat
  | 0 => 0
  | i + 1 => offM i + lenM i
theorem offM_mono {i j : Nat} (h : i ≤ j) : offM i ≤ offM j := by
  induction h with
  | refl => exact Nat.le_refl _
  | step _ ih => exact Nat.le_trans ih (Nat.le_add_right _ _)
theorem offM_lt {j i : Nat} (h : j < i) : offM j + lenM j ≤ offM i := offM_mono (i := j + 1) h
theorem x_mvKeep {a q n p : Nat} (hA : rp_L0[a + 1]? = some (.inl (false, q))) (hq : q < 2 ^ 20) (hn : n ≤ q) (hp : σ 48 32 = nI p) (hl : p + n ≤ 725) (ha : a + 1 ≠ 67 ∧ a + 1 ≠ 48) : ∃ μ, CL sc 228 [.ref 48, .ref (a + 1), .int (nI n), .int (nI 1)] σ = RV μ ∧ Fr (fun b k => (b = 48 ∧ k = 32) ∨ (b = 67 ∧ p ≤ k)) σ μ ∧ μ 48 32 = nI (p + n) ∧ ∀ k, k < n → μ 67 (p + k) = σ (a + 1) k := by
  obtain ⟨μ, ⟨f, z, v⟩, L⟩ := lp_inv (E := fun i μ => EV sc (228, 0, 0, 3, [.ref 48, .ref (a + 1), .int (nI n), .int (nI 1), .int (nI i)], [], (rp_L0, μ))) (fun i μ => Fr (fun b k => (b = 48 ∧ k = 32) ∨ (b = 67 ∧ p ≤ k)) σ μ ∧ μ 48 32 = nI (p + i) ∧ ∀ k, k < i → μ 67 (p + k) = σ (a + 1) k) (n := n) (fun i μ hi hR => by
    obtain ⟨f, z, v⟩ := hR
    refine ⟨rp_wr (rp_wr μ 67 (p + i) (σ (a + 1) i)) 48 32 (nI (p + i + 1)), ⟨Fr_wr (Fr_wr f (Or.inr ⟨rfl, by omega⟩)) (Or.inl ⟨rfl, rfl⟩), wr_eq, fun k hk => ?_⟩, rp_Le_tr ?_ (D_Ref_move_3 hA _ _ _ μ)⟩
    · rw [wr_n2 (by decide)]
      by_cases e : k = i
      · subst e; exact wr_eq
      · rw [wr_nk (by omega)]; exact v k (by omega)
    · simp (disch := omega) only [lt_nI, nI_leI, show ¬ n ≤ i by omega, if_false, i_0, z, ixT, cond_true, nI_clamp]
      refine rp_Le_tr ?_ (D_Ref_move_42 hA _ _ _ _)
      simp (disch := omega) only [lt_nI, nI_add, wr_n2, z, f (a + 1) i (by omega)]
      exact rp_Le_rfl) (s := σ) ⟨Fr_rfl, hp, fun j hj => absurd hj (by omega)⟩
  refine ⟨μ, cl_le rfl (rp_Le_tr (rp_Le_tr ?_ L) (D_Ref_move_0 hA _ _ σ)), f, z, v⟩
  refine rp_Le_tr ?_ (D_Ref_move_3 hA _ _ _ μ)
  simp (disch := omega) only [nI_leI, Nat.le_refl, if_true]
  exact rp_Le_rfl
theorem x_mvBack {a q n p : Nat} (hA : rp_L0[a + 1]? = some (.inl (false, q))) (hq : q < 2 ^ 20) (hn : n ≤ q) (hp : σ 48 32 = nI p) (hl : p + n ≤ 725) (ha : a + 1 ≠ 67 ∧ a + 1 ≠ 48) : ∃ μ, CL sc 228 [.ref 48, .ref (a + 1), .int (nI n), .int (nI 0)] σ = RV μ ∧ Fr (fun b k => (b = 48 ∧ k = 32) ∨ b = a + 1) σ μ ∧ μ 48 32 = nI (p + n) ∧ ∀ k, k < n → μ (a + 1) k = σ 67 (p + k) := by
  obtain ⟨μ, ⟨f, z, v⟩, L⟩ := lp_inv (E := fun i μ => EV sc (228, 0, 0, 3, [.ref 48, .ref (a + 1), .int (nI n), .int (nI 0), .int (nI i)], [], (rp_L0, μ))) (fun i μ => Fr (fun b k => (b = 48 ∧ k = 32) ∨ b = a + 1) σ μ ∧ μ 48 32 = nI (p + i) ∧ ∀ k, k < i → μ (a + 1) k = σ 67 (p + k)) (n := n) (fun i μ hi hR => by
    obtain ⟨f, z, v⟩ := hR
    refine ⟨rp_wr (rp_wr μ (a + 1) i (σ 67 (p + i))) 48 32 (nI (p + i + 1)), ⟨Fr_wr (Fr_wr f (Or.inr rfl)) (Or.inl ⟨rfl, rfl⟩), wr_eq, fun k hk => ?_⟩, rp_Le_tr ?_ (D_Ref_move_3 hA _ _ _ μ)⟩
    · rw [wr_n2 (by omega)]
      by_cases e : k = i
      · subst e; exact wr_eq
      · rw [wr_nk (by omega)]; exact v k (by omega)
    · simp (disch := omega) only [lt_nI, nI_leI, show ¬ n ≤ i by omega, if_false, i_1, if_true, z, ixT, cond_true, nI_clamp]
      refine rp_Le_tr ?_ (D_Ref_move_42 hA _ _ _ _)
      simp (disch := omega) only [lt_nI, nI_add, wr_n2, z, f 67 (p + i) (by omega)]
      exact rp_Le_rfl) (s := σ) ⟨Fr_rfl, hp, fun j hj => absurd hj (by omega)⟩
  refine ⟨μ, cl_le rfl (rp_Le_tr (rp_Le_tr ?_ L) (D_Ref_move_0 hA _ _ σ)), f, z, v⟩
  refine rp_Le_tr ?_ (D_Ref_move_3 hA _ _ _ μ)
  simp (disch := omega) only [nI_leI, Nat.le_refl, if_true]
  exact rp_Le_rfl
def MK (σ μ : rp_Mm) (i : Nat) : Prop := Fr (fun b k => (b = 48 ∧ k = 32) ∨ b = 67) σ μ ∧ μ 48 32 = nI (offM i) ∧ ∀ j, j < i → ∀ k, k < lenM j → μ 67 (offM j + k) = σ (49 + j) k
theorem mk_s {i n : Nat} (h : MK σ μ i) (hi : i < 8) (hA : rp_L0[49 + i]? = some (.inl (false, n))) (hn : lenM i = n) : ∃ μ', CL sc 228 [.ref 48, .ref (49 + i), .int (nI n), .int (nI 1)] μ = RV μ' ∧ MK σ μ' (i + 1) := by
  obtain ⟨f, z, v⟩ := h
  subst hn
  have ho : offM i + lenM i ≤ 725 := Nat.le_trans (offM_mono (i := i + 1) (j := 8) hi) (by decide)
  have hl : lenM i < 2 ^ 20 := Nat.lt_of_le_of_lt (show lenM i ≤ 725 by omega) (by decide)
  obtain ⟨μ', c, f', z', w⟩ := x_mvKeep (sc := sc) (σ := μ) (a := 48 + i) (by rw [show 48 + i + 1 = 49 + i by omega]; exact hA) hl (Nat.le_refl _) z ho (by omega)
  rw [show 48 + i + 1 = 49 + i by omega] at c w
  refine ⟨μ', c, Fr_tr f (Fr_mo f' (fun _ _ => by omega)), z', fun j hj k hk => ?_⟩
  by_cases e : j = i
  · subst e
    rw [w k hk, f _ _ (by omega)]
  · have := offM_lt (show j < i by omega)
    rw [f' _ _ (by omega)]
    exact v j (by omega) k hk
def MB (σ μ : rp_Mm) (i : Nat) : Prop := Fr (fun b k => (b = 48 ∧ k = 32) ∨ (49 ≤ b ∧ b < 49 + i)) σ μ ∧ μ 48 32 = nI (offM i) ∧ ∀ j, j < i → ∀ k, k < lenM j → μ (49 + j) k = σ 67 (offM j + k)
theorem mb_s {i n : Nat} (h : MB σ μ i) (hi : i < 8) (hA : rp_L0[49 + i]? = some (.inl (false, n))) (hn : lenM i = n) : ∃ μ', CL sc 228 [.ref 48, .ref (49 + i), .int (nI n), .int (nI 0)] μ = RV μ' ∧ MB σ μ' (i + 1) := by
  obtain ⟨f, z, v⟩ := h
  subst hn
  have ho : offM i + lenM i ≤ 725 := Nat.le_trans (offM_mono (i := i + 1) (j := 8) hi) (by decide)
  have hl : lenM i < 2 ^ 20 := Nat.lt_of_le_of_lt (show lenM i ≤ 725 by omega) (by decide)
  obtain ⟨μ', c, f', z', w⟩ := x_mvBack (sc := sc) (σ := μ) (a := 48 + i) (by rw [show 48 + i + 1 = 49 + i by omega]; exact hA) hl (Nat.le_refl _) z ho (by omega)
  rw [show 48 + i + 1 = 49 + i by omega] at c w f'
  refine ⟨μ', c, Fr_tr (Fr_mo f (fun _ _ => by omega)) (Fr_mo f' (fun _ _ => by omega)), z', fun j hj k hk => ?_⟩
  by_cases e : j = i
  · subst e
    rw [w k hk, f _ _ (by omega)]
  · rw [f' _ _ (by omega)]
    exact v j (by omega) k hk
theorem offK_M {a : Nat} (h : a < 8) : offK a = offM a ∧ lenR a ≤ lenM a := by
  have : a = 0 ∨ a = 1 ∨ a = 2 ∨ a = 3 ∨ a = 4 ∨ a = 5 ∨ a = 6 ∨ a = 7 := by omega
  rcases this with rfl | rfl | rfl | rfl | rfl | rfl | rfl | rfl <;> decide
theorem lenR_8 {a k : Nat} (h : k < lenR a) : a < 8 := by
  unfold lenR at h
  split at h <;> omega
theorem x_keepAll : ∃ μ, CL sc 227 [.ref 48, .int (nI 1)] σ = RV μ ∧ Fr (fun b k => (b = 48 ∧ k = 32) ∨ b = 67) σ μ ∧ Rk μ = R σ := by
  have h0 : MK σ (rp_wr σ 48 32 (nI 0)) 0 := ⟨Fr_wr Fr_rfl (Or.inl ⟨rfl, rfl⟩), wr_eq, fun j hj => absurd hj (by omega)⟩
  obtain ⟨μ1, a1, h1⟩ := mk_s (sc := sc) h0 (by decide) rfl rfl
  obtain ⟨μ2, a2, h2⟩ := mk_s (sc := sc) h1 (by decide) rfl rfl
  obtain ⟨μ3, a3, h3⟩ := mk_s (sc := sc) h2 (by decide) rfl rfl
  obtain ⟨μ4, a4, h4⟩ := mk_s (sc := sc) h3 (by decide) rfl rfl
  obtain ⟨μ5, a5, h5⟩ := mk_s (sc := sc) h4 (by decide) rfl rfl
  obtain ⟨μ6, a6, h6⟩ := mk_s (sc := sc) h5 (by decide) rfl rfl
  obtain ⟨μ7, a7, h7⟩ := mk_s (sc := sc) h6 (by decide) rfl rfl
  obtain ⟨μ8, a8, h8⟩ := mk_s (sc := sc) h7 (by decide) rfl rfl
  refine ⟨μ8, cl_of (D_Ref_moveAll_0 _ σ) rfl ?_, h8.1, ?_⟩
  · simp only [lt_nI]
    rw [a1, thV_RV, a2, thV_RV, a3, thV_RV, a4, thV_RV, a5, thV_RV, a6, thV_RV, a7, thV_RV, a8, thV_RV]
  · funext a k
    unfold Rk R
    split
    next hk =>
      have ha := lenR_8 hk
      obtain ⟨e1, e2⟩ := offK_M ha
      rw [e1]
      exact h8.2.2 a ha k (by omega)
    next => rfl
theorem x_backAll : ∃ μ, CL sc 227 [.ref 48, .int (nI 0)] σ = RV μ ∧ Fr (fun b k => (b = 48 ∧ k = 32) ∨ (49 ≤ b ∧ b < 57)) σ μ ∧ R μ = Rk σ := by
  have h0 : MB σ (rp_wr σ 48 32 (nI 0)) 0 := ⟨Fr_wr Fr_rfl (Or.inl ⟨rfl, rfl⟩), wr_eq, fun j hj => absurd hj (by omega)⟩
  obtain ⟨μ1, a1, h1⟩ := mb_s (sc := sc) h0 (by decide) rfl rfl
  obtain ⟨μ2, a2, h2⟩ := mb_s (sc := sc) h1 (by decide) rfl rfl
  obtain ⟨μ3, a3, h3⟩ := mb_s (sc := sc) h2 (by decide) rfl rfl
  obtain ⟨μ4, a4, h4⟩ := mb_s (sc := sc) h3 (by decide) rfl rfl
  obtain ⟨μ5, a5, h5⟩ := mb_s (sc := sc) h4 (by decide) rfl rfl
  obtain ⟨μ6, a6, h6⟩ := mb_s (sc := sc) h5 (by decide) rfl rfl
  obtain ⟨μ7, a7, h7⟩ := mb_s (sc := sc) h6 (by decide) rfl rfl
  obtain ⟨μ8, a8, h8⟩ := mb_s (sc := sc) h7 (by decide) rfl rfl
  refine ⟨μ8, cl_of (D_Ref_moveAll_0 _ σ) rfl ?_, h8.1, ?_⟩
  · simp only [lt_nI]
    rw [a1, thV_RV, a2, thV_RV, a3, thV_RV, a4, thV_RV, a5, thV_RV, a6, thV_RV, a7, thV_RV, a8, thV_RV]
  · funext a k
    unfold Rk R
    split
    next hk =>
      have ha := lenR_8 hk
      obtain ⟨e1, e2⟩ := offK_M ha
      rw [e1]
      exact h8.2.2 a ha k (by omega)
    next => rfl
theorem p_keep (hI : Inv σ) : PM sc 144 [.ref 1] 226 [.ref 48] σ := by
  obtain ⟨σ1, c1, c2, c3⟩ := y_bookKeep (sc := sc) hI.1
  obtain ⟨σ2, d1, d2, d3⟩ := x_keepAll (sc := sc) (σ := rp_wr σ1 1 2 (nI 1))
  have f1 : Fr (fun a k => (17 ≤ a ∧ a < 32) ∨ (a = 1 ∧ k = 2)) σ (rp_wr σ1 1 2 (nI 1)) := Fr_wr (Fr_mo c2 (fun _ _ => by omega)) (Or.inr ⟨rfl, rfl⟩)
  have f2 : Fr (fun a k => (17 ≤ a ∧ a < 32) ∨ (a = 1 ∧ k = 2) ∨ (a = 48 ∧ (k = 32 ∨ k = 30)) ∨ a = 67) σ (rp_wr σ2 48 30 (nI 1)) := Fr_wr (Fr_tr (Fr_mo f1 (fun _ _ => by omega)) (Fr_mo d2 (fun _ _ => by omega))) (by omega)
  have er : R (rp_wr σ2 48 30 (nI 1)) = R σ := R_fr f2 (fun a k ha => by omega)
  have ec : C (rp_wr σ2 48 30 (nI 1)) = C σ := C_fr f2 (fun a k ha => by omega)
  refine ⟨nI 1, rp_wr σ1 1 2 (nI 1), rp_wr σ2 48 30 (nI 1), cl_of (D_RailPasses_keep_0 σ) rfl ?_, cl_of (D_Ref_keep_0 _) rfl ?_, by rw [er, ec]; exact hI.1, TP_fr f2 (by omega) (by omega) (fun _ => by omega) (fun _ => by omega) hI.2.1, RW_fr f2 (by omega) (by omega) (fun _ => by omega) (fun _ => by omega) hI.2.2.1, Or.inr ⟨?_, wr_eq, ?_⟩, WY_fr f2 (fun _ => by omega) (by rw [er]) (fun _ _ _ _ => by rw [er]) hI.2.2.2.2⟩
  · rw [c1, thV_RV]; rfl
  · simp only [lt_nI, d1, thV_RV]
  · rw [wr_n2 (by decide), d2 _ _ (by omega), wr_eq]
  · have f3 : Fr (fun a k => (a = 1 ∧ k = 2) ∨ (a = 48 ∧ (k = 32 ∨ k = 30)) ∨ a = 67) σ1 (rp_wr σ2 48 30 (nI 1)) := Fr_wr (Fr_tr (Fr_wr Fr_rfl (Or.inl ⟨rfl, rfl⟩)) (Fr_mo d2 (fun _ _ => by omega))) (by omega)
    have f4 : Fr (fun a k => a = 48 ∧ k = 30) σ2 (rp_wr σ2 48 30 (nI 1)) := Fr_wr Fr_rfl ⟨rfl, rfl⟩
    rw [Ck_fr f3 (fun a k ha => by omega), Rk_fr f4 (fun k => by omega), c3, d3, R_fr f1 (fun a k ha => by omega)]
    exact hI.1
end
