/-! miles, way -/
section
variable {sc : rp_Sc} {σ μ : rp_Mm} {K : Nat → Nat → Nat}
theorem y_milesOf {a b : Nat} (hv : μ 36 (10 * a + b) = nI (K a b)) (hk : K a b < 2 ^ 31) (ha : a < 10) (hb : b < 10) : CL sc 122 [.ref 35, .int (nI a), .int (nI b)] μ = RI (nI (K a b / 16384)) μ := by
  refine cl_of (D_Ways_milesOf_0 _ _ μ) rfl ?_
  rw [y_keyOf hv ha hb, thI_RI]
  exact congrArg (fun z => RI z μ) (sh_r (k := 14) hk (by decide))
theorem y_linesOf {a b : Nat} (hv : μ 36 (10 * a + b) = nI (K a b)) (hk : K a b < 2 ^ 31) (ha : a < 10) (hb : b < 10) : CL sc 124 [.ref 35, .int (nI a), .int (nI b)] μ = RI (nI (K a b % 16384)) μ := by
  refine cl_of (D_Ways_linesOf_0 _ _ μ) rfl ?_
  rw [y_keyOf hv ha hb, thI_RI]
  exact congrArg (fun z => RI z μ) (pk_andN (m := 16383) (by omega) 14 rfl)
theorem x_wayTo (h : RB (R σ)) (hK : KK (R σ) K) {a b : Nat} {x : Int32} (ha : a < 10) (hb : b < 10) : ∃ μ, CL sc 211 [.ref 48, .int (nI a), .int (nI b), .int x] σ = RI (if 536870912 ≤ K a b then -3 else if x = nI 0 then nI (K a b / 16384) else nI (K a b % 16384)) μ ∧ Fr (fun a _ => a = 63) σ μ := by
  obtain ⟨μ, F, c, m, v⟩ := x_reach (sc := sc) h hK ha
  refine ⟨μ, cl_of (D_Ref_wayTo_0 _ _ _ σ) rfl ?_, m.1⟩
  simp (disch := omega) only [lt_nI, x_isStation, inB_n, thI_RI, i_0, if_false, c, thV_RV, ixT, cond_true, nI_clamp, m.2 b hb]
  rcases v b hb with ⟨h1, h2⟩ | ⟨h1, h2⟩
  · rw [h2] at h1
    have e1 : nI (K a b) / nI 16384 = nI (K a b / 16384) := pk_div (by omega) (by decide) (by decide)
    have e2 : nI (K a b) - nI (K a b / 16384) * nI 16384 = nI (K a b % 16384) := rem_d (by omega) (by decide) (by decide)
    have e3 : ¬ 536870912 ≤ K a b := by omega
    simp (disch := omega) only [nI_ltI, h1, if_true, e1, e2, e3, if_false, h2]
    by_cases hx : x = nI 0
    · simp only [eq_true hx, if_true]
    · simp only [eq_false hx, if_false]
  · have e3 : 536870912 ≤ K a b := by omega
    simp (disch := omega) only [nI_ltI, h1, Nat.lt_irrefl, if_false, e3, if_true]
theorem p_miles (hI : Inv σ) (a b : Int32) : PM sc 121 [.ref 1, .int a, .int b] 210 [.ref 48, .int a, .int b] σ := by
  have hB := hI.1
  obtain ⟨K, kv, hK⟩ := hI.2.2.2.2
  rcases inB_c a (a := 0) (b := 9) (by decide) (by decide) with e1 | ⟨a, -, ha, rfl, e1⟩
  · have e : CL sc 211 [.ref 48, .int a, .int b, .int (nI 0)] σ = RI (-1) σ := by
      refine cl_of (D_Ref_wayTo_0 _ _ _ σ) rfl ?_
      simp only [lt_nI, x_isStation, e1, thI_RI, if_true]
    refine pm_ro hI (v := -1) (cl_of (D_RailPasses_miles_0 _ _ σ) rfl ?_) (cl_of (D_Ref_miles_0 _ _ σ) rfl ?_)
    · simp only [lt_nI, s_isStation, e1, thI_RI, if_true]
    · simp only [lt_nI, e, thI_RI]
  rcases inB_c b (a := 0) (b := 9) (by decide) (by decide) with e2 | ⟨b, -, hb, rfl, e2⟩
  · have e : CL sc 211 [.ref 48, .int (nI a), .int b, .int (nI 0)] σ = RI (-1) σ := by
      refine cl_of (D_Ref_wayTo_0 _ _ _ σ) rfl ?_
      simp only [lt_nI, x_isStation, e1, e2, i_0, if_false, thI_RI, if_true]
    refine pm_ro hI (v := -1) (cl_of (D_RailPasses_miles_0 _ _ σ) rfl ?_) (cl_of (D_Ref_miles_0 _ _ σ) rfl ?_)
    · simp only [lt_nI, s_isStation, e1, e2, i_0, if_false, thI_RI, if_true]
    · simp only [lt_nI, e, thI_RI]
  have bk := hK.2.1 a b (by omega) (by omega)
  obtain ⟨μ, c, f⟩ := x_wayTo (sc := sc) (x := nI 0) hB.1 hK (show a < 10 by omega) (show b < 10 by omega)
  refine ⟨_, σ, μ, cl_of (D_RailPasses_miles_0 _ _ σ) rfl ?_, cl_of (D_Ref_miles_0 _ _ σ) rfl (show _ = RI (if 536870912 ≤ K a b then -3 else nI (K a b / 16384)) μ from ?_), Inv_sc (Fr_mo f (fun _ _ => by unfold Sc; omega)) hI⟩
  · have kv' := kv a b (by omega) (by omega)
    simp (disch := omega) only [lt_nI, s_isStation, e1, e2, i_0, if_false, thI_RI, y_isThere kv', y_milesOf kv']
    by_cases h : 536870912 ≤ K a b
    · simp only [h, if_true, i_1]
    · simp only [h, if_false, i_0]
  · simp only [lt_nI, c, thI_RI, if_true]
theorem p_way (hI : Inv σ) (a b : Int32) : PM sc 123 [.ref 1, .int a, .int b] 213 [.ref 48, .int a, .int b] σ := by
  have hB := hI.1
  obtain ⟨K, kv, hK⟩ := hI.2.2.2.2
  rcases inB_c a (a := 0) (b := 9) (by decide) (by decide) with e1 | ⟨a, -, ha, rfl, e1⟩
  · have e : CL sc 211 [.ref 48, .int a, .int b, .int (nI 1)] σ = RI (-1) σ := by
      refine cl_of (D_Ref_wayTo_0 _ _ _ σ) rfl ?_
      simp only [lt_nI, x_isStation, e1, thI_RI, if_true]
    refine pm_ro hI (v := -1) (cl_of (D_RailPasses_way_0 _ _ σ) rfl ?_) (cl_of (D_Ref_way_0 _ _ σ) rfl ?_)
    · simp only [lt_nI, s_isStation, e1, thI_RI, if_true]
    · simp only [lt_nI, e, thI_RI]
  rcases inB_c b (a := 0) (b := 9) (by decide) (by decide) with e2 | ⟨b, -, hb, rfl, e2⟩
  · have e : CL sc 211 [.ref 48, .int (nI a), .int b, .int (nI 1)] σ = RI (-1) σ := by
      refine cl_of (D_Ref_wayTo_0 _ _ _ σ) rfl ?_
      simp only [lt_nI, x_isStation, e1, e2, i_0, if_false, thI_RI, if_true]
    refine pm_ro hI (v := -1) (cl_of (D_RailPasses_way_0 _ _ σ) rfl ?_) (cl_of (D_Ref_way_0 _ _ σ) rfl ?_)
    · simp only [lt_nI, s_isStation, e1, e2, i_0, if_false, thI_RI, if_true]
    · simp only [lt_nI, e, thI_RI]
  have bk := hK.2.1 a b (by omega) (by omega)
  obtain ⟨μ, c, f⟩ := x_wayTo (sc := sc) (x := nI 1) hB.1 hK (show a < 10 by omega) (show b < 10 by omega)
  refine ⟨_, σ, μ, cl_of (D_RailPasses_way_0 _ _ σ) rfl ?_, cl_of (D_Ref_way_0 _ _ σ) rfl (show _ = RI (if 536870912 ≤ K a b then -3 else nI (K a b % 16384)) μ from ?_), Inv_sc (Fr_mo f (fun _ _ => by unfold Sc; omega)) hI⟩
  · have kv' := kv a b (by omega) (by omega)
    simp (disch := omega) only [lt_nI, s_isStation, e1, e2, i_0, if_false, thI_RI, y_isThere kv', y_linesOf kv']
    by_cases h : 536870912 ≤ K a b
    · simp only [h, if_true, i_1]
    · simp only [h, if_false, i_0]
  · simp only [lt_nI, c, thI_RI, i_0, if_false]
end
