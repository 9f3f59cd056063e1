/-! feed -/
/-- byte k of eight -/
abbrev byI (x : Int64) (k : Int32) : Int32 := ((x.toUInt64 >>> ((8 * k).toInt64.toUInt64 &&& Int64.toUInt64 63)).toInt64 &&& 255).toInt32
theorem byteN (y : Int64) : ∃ b, b < 256 ∧ (y &&& 255).toInt32 = nI b := by
  refine ⟨y.toBitVec.toNat % 256, Nat.mod_lt _ (by decide), ?_⟩
  apply Int32.toBitVec_inj.mp
  apply BitVec.eq_of_toNat_eq
  rw [pk_tn (Nat.lt_trans (Nat.mod_lt _ (by decide)) (by decide))]
  show ((y &&& 255 : Int64).toBitVec.signExtend 32).toNat = _
  rw [BitVec.signExtend_eq_setWidth_of_le _ (by decide), BitVec.toNat_setWidth, Int64.toBitVec_and, BitVec.toNat_and]
  show (y.toBitVec.toNat &&& 255) % 2 ^ 32 = _
  rw [show (255 : Nat) = 2 ^ 8 - 1 by decide, Nat.and_two_pow_sub_one_eq_mod]
  exact Nat.mod_eq_of_lt (Nat.lt_trans (Nat.mod_lt _ (by decide)) (by decide))
section
variable {sc : rp_Sc} {σ : rp_Mm}
theorem y_put {x : Int64} {n m : Nat} (hz : σ 32 1 = nI n) (hm : m ≤ 8) (hn : n + m ≤ 300) : ∃ μ, CL sc 32 [.ref 32, .long x, .int (nI m)] σ = RV μ ∧ Fr (fun a k => (a = 32 ∧ k = 1) ∨ (a = 33 ∧ n ≤ k)) σ μ ∧ μ 32 1 = nI (n + m) ∧ ∀ j, j < m → μ 33 (n + j) = byI x (nI j) := by
  obtain ⟨μ, ⟨f, z, v⟩, L⟩ := lp_inv (E := fun i μ => EV sc (32, 0, 0, 3, [.ref 32, .long x, rp_U, .int (nI m), .int (nI i)], [], (rp_L0, μ))) (fun i μ => Fr (fun a k => (a = 32 ∧ k = 1) ∨ (a = 33 ∧ n ≤ k)) σ μ ∧ μ 32 1 = nI (n + i) ∧ ∀ j, j < i → μ 33 (n + j) = byI x (nI j)) (n := m) (fun i μ hi hR => by
    obtain ⟨f, z, v⟩ := hR
    refine ⟨rp_wr (rp_wr μ 33 (n + i) (byI x (nI i))) 32 1 (nI (n + i + 1)), ⟨Fr_wr (Fr_wr f (Or.inr ⟨rfl, by omega⟩)) (Or.inl ⟨rfl, rfl⟩), wr_eq, fun j hj => ?_⟩, rp_Le_tr ?_ (D_LawText_put_3 _ _ _ μ)⟩
    · rw [wr_n2 (by decide)]
      by_cases e : j = i
      · subst e; exact wr_eq
      · rw [wr_nk (by omega)]; exact v j (by omega)
    · simp (disch := omega) only [nI_leI, show ¬ m ≤ i by omega, if_false, z, nI_1, show ¬ (300 : Int32) ≤ nI (n + i) from nI_ge (b := 300) (by omega) (by decide), ixT, cond_true, nI_clamp, wr_n2]
      exact rp_Le_rfl) (s := σ) ⟨Fr_rfl, hz, fun j hj => absurd hj (by omega)⟩
  refine ⟨μ, cl_le rfl (rp_Le_tr (rp_Le_tr ?_ L) (D_LawText_put_0 _ _ σ)), f, z, v⟩
  refine rp_Le_tr ?_ (D_LawText_put_3 _ _ _ μ)
  simp (disch := omega) only [nI_leI, Nat.le_refl, if_true]
  exact rp_Le_rfl
theorem x_feed {x : Int64} {n m : Nat} (hz : σ 48 9 = nI n) (hm1 : 1 ≤ m) (hm : m ≤ 8) (hn : n + m ≤ 300) : ∃ μ, CL sc 157 [.ref 48, .long x, .int (nI m)] σ = RI (nI (n + m)) μ ∧ Fr (fun a k => (a = 48 ∧ k = 9) ∨ (a = 57 ∧ n ≤ k)) σ μ ∧ μ 48 9 = nI (n + m) ∧ ∀ j, j < m → μ 57 (n + j) = byI x (nI j) := by
  obtain ⟨μ, ⟨f, z, v⟩, L⟩ := lp_inv (E := fun i μ => EV sc (157, 0, 0, 30, [.ref 48, .long x, rp_U, .int (nI m), .int (nI i)], [], (rp_L0, μ))) (fun i μ => Fr (fun a k => (a = 48 ∧ k = 9) ∨ (a = 57 ∧ n ≤ k)) σ μ ∧ μ 48 9 = nI (n + i) ∧ ∀ j, j < i → μ 57 (n + j) = byI x (nI j)) (n := m) (fun i μ hi hR => by
    obtain ⟨f, z, v⟩ := hR
    refine ⟨rp_wr (rp_wr μ 57 (n + i) (byI x (nI i))) 48 9 (nI (n + i + 1)), ⟨Fr_wr (Fr_wr f (Or.inr ⟨rfl, by omega⟩)) (Or.inl ⟨rfl, rfl⟩), wr_eq, fun j hj => ?_⟩, rp_Le_tr ?_ (D_Ref_feed_30 _ _ _ μ)⟩
    · rw [wr_n2 (by decide)]
      by_cases e : j = i
      · subst e; exact wr_eq
      · rw [wr_nk (by omega)]; exact v j (by omega)
    · simp (disch := omega) only [nI_leI, show ¬ m ≤ i by omega, if_false, z, nI_1, ixT, cond_true, nI_clamp, wr_n2]
      exact rp_Le_rfl) (s := σ) ⟨Fr_rfl, hz, fun j hj => absurd hj (by omega)⟩
  refine ⟨μ, cl_le rfl (rp_Le_tr ?_ (D_Ref_feed_0 _ _ σ)), f, z, v⟩
  simp (disch := omega) only [lt_nI, nI_add, pk_mul, nI_clamp, nI_leI, nI_ltI, nI_eq, ixT, cond_true, Nat.reduceEqDiff, Nat.reduceLeDiff, reduceIte, s_in, inB_n, thI_RI, hz, hn]
  refine rp_Le_tr (rp_Le_tr ?_ (D_Ref_feed_30 _ _ _ μ)) L
  simp (disch := omega) only [nI_leI, Nat.le_refl, if_true, z]
  exact rp_Le_rfl
theorem s_tsize : CL sc 31 [.ref 32] σ = RI (σ 32 1) σ := cl_of (D_LawText_size_0 σ) rfl rfl
theorem p_feed (hI : Inv σ) (x : Int64) (m : Int32) : PM sc 30 [.ref 1, .long x, .int m] 157 [.ref 48, .long x, .int m] σ := by
  obtain ⟨n, t1, t2, t3, t4⟩ := hI.2.1
  rcases inB_c m (a := 1) (b := 8) (by decide) (by decide) with e1 | ⟨m, hm1, hm, rfl, e1⟩
  · refine pm_ro hI (v := -1) (cl_of (D_RailPasses_feed_0 _ _ σ) rfl ?_) (cl_of (D_Ref_feed_0 _ _ σ) rfl ?_)
    · simp only [lt_nI, s_isWithin, e1, thI_RI, if_true]
    · simp only [lt_nI, s_in, e1, thI_RI, if_true]
  by_cases hn : n + m ≤ 300
  · obtain ⟨σ1, c1, c2, c3, c4⟩ := y_put (sc := sc) (x := x) t2 hm hn
    have c1 : CL sc 30 [.ref 1, .long x, .int (nI m)] σ = RI (nI (n + m)) σ1 := by
      refine cl_of (D_RailPasses_feed_0 _ _ σ) rfl ?_
      simp (disch := omega) only [lt_nI, nI_add, pk_mul, nI_clamp, nI_leI, nI_ltI, nI_eq, ixT, cond_true, Nat.reduceEqDiff, Nat.reduceLeDiff, reduceIte, s_isWithin, inB_n, thI_RI, s_tsize, t2, hn, c1, thV_RV, c3]
    obtain ⟨σ2, d1, d2, d3, d4⟩ := x_feed (sc := sc) (σ := σ1) (x := x) (by rw [c2 _ _ (by omega)]; exact t3) hm1 hm hn
    have f : Fr (fun a k => (a = 32 ∧ k = 1) ∨ (a = 33 ∧ n ≤ k) ∨ (a = 48 ∧ k = 9) ∨ (a = 57 ∧ n ≤ k)) σ σ2 := Fr_tr (Fr_mo c2 (fun _ _ => by omega)) (Fr_mo d2 (fun _ _ => by omega))
    have er : R σ2 = R σ := R_fr f (fun a k ha => by omega)
    have ec : C σ2 = C σ := C_fr f (fun a k ha => by omega)
    refine ⟨_, σ1, σ2, c1, d1, by rw [er, ec]; exact hI.1, ?_, RW_fr f (by omega) (by omega) (fun _ => by omega) (fun _ => by omega) hI.2.2.1, KP_fr f (by omega) (by omega) (fun _ _ _ => by omega) (fun _ => by omega) hI.2.2.2.1, WY_fr f (fun _ => by omega) (by rw [er]) (fun _ _ _ _ => by rw [er]) hI.2.2.2.2⟩
    refine ⟨n + m, hn, by rw [d2 _ _ (by omega)]; exact c3, d3, fun k hk => ?_⟩
    by_cases hk2 : k < n
    · rw [f _ _ (by omega), f _ _ (by omega)]; exact t4 k hk2
    · obtain ⟨j, rfl⟩ : ∃ j, k = n + j := ⟨k - n, by omega⟩
      obtain ⟨b, hb, hv⟩ := byteN ((x.toUInt64 >>> ((8 * nI j).toInt64.toUInt64 &&& Int64.toUInt64 63)).toInt64)
      exact ⟨b, hb, by rw [d2 _ _ (by omega), c4 j (by omega)]; exact hv, by rw [d4 j (by omega)]; exact hv⟩
  · refine pm_ro hI (v := -2) (cl_of (D_RailPasses_feed_0 _ _ σ) rfl ?_) (cl_of (D_Ref_feed_0 _ _ σ) rfl ?_)
    · simp (disch := omega) only [lt_nI, nI_add, pk_mul, nI_clamp, nI_leI, nI_ltI, nI_eq, ixT, cond_true, Nat.reduceEqDiff, Nat.reduceLeDiff, reduceIte, s_isWithin, e1, thI_RI, s_tsize, t2, hn]
    · simp (disch := omega) only [lt_nI, nI_add, pk_mul, nI_clamp, nI_leI, nI_ltI, nI_eq, ixT, cond_true, Nat.reduceEqDiff, Nat.reduceLeDiff, reduceIte, s_in, e1, thI_RI, t3, hn]
end
