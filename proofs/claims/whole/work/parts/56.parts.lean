/-! ridden, part, account -/
def shT (r : rp_Mm) (K : Nat → Nat → Nat) (o : Nat → Nat) (n A w : Nat) : Nat := shN A (goT r K o (n - 1) 3) (fun x => goT r K o (n - 1) (4 + x)) w
section
variable {sc : rp_Sc} {σ μ : rp_Mm} {K : Nat → Nat → Nat}
theorem ok_goS {r : rp_Mm} (h : RB r) {p k n : Nat} {o : Nat → Nat} (hO : SO r p k (nS r) o n) : okT (goT r K o (n - 1)) 163878 := by
  have bn := b_n h
  have := hO.1
  refine ok_mono (ok_go h) ?_
  have : (n - 1) * 4202 ≤ 39 * 4202 := Nat.mul_le_mul_right _ (by omega)
  exact this
theorem x_partOf (h : RB (R σ)) (hK : KK (R σ) K) {p k n A w : Nat} {o : Nat → Nat} (hp : p < nP (R σ)) (hk : k ≤ 120) (hO : SO (R σ) p k (nS (R σ)) o n) (hA : A ≤ 999) (hw : w < 5) : ∃ μ, CL sc 222 [.ref 48, .int (nI p), .int (nI w), .int (nI k), .int (nI A)] σ = RI (nI (shT (R σ) K o n A w)) μ ∧ Fr (fun a _ => 63 ≤ a ∧ a ≤ 66) σ μ := by
  obtain ⟨μ1, c1, m1⟩ := x_go (sc := sc) h hK hp hk hO
  obtain ⟨μ2, c2, f2, v2⟩ := x_divide (sc := sc) (σ := μ1) m1.2 (ok_goS h hO) hA
  refine ⟨μ2, cl_of (D_Ref_partOf_0 _ _ _ _ σ) rfl ?_, Fr_tr (Fr_mo m1.1 (fun _ _ => by omega)) (Fr_mo f2 (fun _ _ => by omega))⟩
  rw [c1, thV_RV, c2, thV_RV, ixT hw (by decide), cond_true, nI_clamp (by omega), v2 w hw]
  rfl
theorem p_ridden (hI : Inv σ) (p k w : Int32) : PM sc 125 [.ref 1, .int p, .int k, .int w] 215 [.ref 48, .int p, .int k, .int w] σ := by
  have hB := hI.1
  have bn := b_n hB.1
  obtain ⟨K, kv, hK⟩ := hI.2.2.2.2
  rcases hsB_c p (n := nP (R σ)) (by omega) with e1 | ⟨p, hp, rfl, e1⟩
  · refine pm_ro hI (v := -1) (cl_of (D_RailPasses_ridden_0 _ _ _ σ) rfl ?_) (cl_of (D_Ref_ridden_0 _ _ _ σ) rfl ?_)
    · simp only [lt_nI, h_ps hB, e1, thI_RI, if_true]
    · simp only [lt_nI, x_isPass hB.1, e1, thI_RI, if_true]
  rcases inB_c w (a := 0) (b := 8) (by decide) (by decide) with e2 | ⟨w, -, hw, rfl, e2⟩
  · refine pm_ro hI (v := -1) (cl_of (D_RailPasses_ridden_0 _ _ _ σ) rfl ?_) (cl_of (D_Ref_ridden_0 _ _ _ σ) rfl ?_)
    · simp only [lt_nI, h_ps hB, s_isWithin, e1, e2, i_0, if_false, thI_RI, if_true]
    · simp only [lt_nI, x_isPass hB.1, s_in, e1, e2, i_0, if_false, thI_RI, if_true]
  rcases inB_c k (a := 0) (b := nD (R σ)) (by decide) (by omega) with e3 | ⟨k, -, hk, rfl, e3⟩
  · refine pm_ro hI (v := -1) (cl_of (D_RailPasses_ridden_0 _ _ _ σ) rfl ?_) (cl_of (D_Ref_ridden_0 _ _ _ σ) rfl ?_)
    · simp only [lt_nI, h_ps hB, s_isWithin, s_isPast hB, e1, e2, e3, i_0, if_false, thI_RI, if_true]
    · simp only [lt_nI, x_isPass hB.1, s_in, x_isKnown hB.1, e1, e2, e3, i_0, if_false, thI_RI, if_true]
  obtain ⟨μ1, o, n, c1, hO, f1, m1⟩ := y_ledger (sc := sc) hB kv hK.2.1 hp (show k ≤ 120 by omega)
  have r1 : R μ1 = R σ := R_fr f1 (fun a k ha => by omega)
  have ok := ok_goS (K := K) hB.1 hO
  obtain ⟨T, eT⟩ : ∃ T, T = goT (R σ) K o (n - 1) := ⟨_, rfl⟩
  obtain ⟨μ2, c2, m2⟩ := x_go (sc := sc) (σ := μ1) (K := K) (by rw [r1]; exact hB.1) (by rw [r1]; exact hK) (by rw [r1]; exact hp) (show k ≤ 120 by omega) (by rw [r1]; exact hO)
  rw [r1] at m2
  rw [← eT] at m1 m2 ok
  refine ⟨nI (T w), μ1, μ2, cl_of (D_RailPasses_ridden_0 _ _ _ σ) rfl ?_, cl_of (D_Ref_ridden_0 _ _ _ μ1) rfl ?_, Inv_sc (Fr_tr (Fr_mo f1 (fun _ _ => by unfold Sc; omega)) (Fr_mo m2.1 (fun _ _ => by unfold Sc; omega))) hI⟩
  · have el : CL sc 134 [.ref 45] μ1 = RI (nI (T 0)) μ1 := by rw [← m1.2.1]; exact cl_of (D_Ledger_legs_0 μ1) rfl rfl
    have ew : CL sc 135 [.ref 45] μ1 = RI (nI (T 1)) μ1 := by rw [← m1.2.2.1]; exact cl_of (D_Ledger_wayless_0 μ1) rfl rfl
    have ed : CL sc 136 [.ref 45] μ1 = RI (nI (T 2)) μ1 := by rw [← m1.2.2.2.1]; exact cl_of (D_Ledger_doubted_0 μ1) rfl rfl
    have ea := y_allMiles (sc := sc) m1 ok
    have hw' : w = 0 ∨ w = 1 ∨ w = 2 ∨ w = 3 ∨ ∃ v, v < 5 ∧ w = 4 + v := by
      by_cases q : w < 4
      · omega
      · exact Or.inr (Or.inr (Or.inr (Or.inr ⟨w - 4, by omega, by omega⟩)))
    rcases hw' with rfl | rfl | rfl | rfl | ⟨v, hv, rfl⟩
    · simp (disch := omega) only [lt_nI, nI_add, pk_mul, nI_clamp, nI_leI, nI_ltI, nI_eq, ixT, cond_true, Nat.reduceEqDiff, Nat.reduceLeDiff, reduceIte, h_ps hB, s_isWithin, s_isPast hB, e1, e2, e3, thI_RI, c1, thV_RV, el]
    · simp (disch := omega) only [lt_nI, nI_add, pk_mul, nI_clamp, nI_leI, nI_ltI, nI_eq, ixT, cond_true, Nat.reduceEqDiff, Nat.reduceLeDiff, reduceIte, h_ps hB, s_isWithin, s_isPast hB, e1, e2, e3, thI_RI, c1, thV_RV, ew]
    · simp (disch := omega) only [lt_nI, nI_add, pk_mul, nI_clamp, nI_leI, nI_ltI, nI_eq, ixT, cond_true, Nat.reduceEqDiff, Nat.reduceLeDiff, reduceIte, h_ps hB, s_isWithin, s_isPast hB, e1, e2, e3, thI_RI, c1, thV_RV, ed]
    · simp (disch := omega) only [lt_nI, nI_add, pk_mul, nI_clamp, nI_leI, nI_ltI, nI_eq, ixT, cond_true, Nat.reduceEqDiff, Nat.reduceLeDiff, reduceIte, h_ps hB, s_isWithin, s_isPast hB, e1, e2, e3, thI_RI, c1, thV_RV, ea]
    · have em := y_milesBy (sc := sc) m1 hv
      have es : nI (4 + v) - nI 4 = nI v := by rw [pk_sub (by omega), Nat.add_sub_cancel_left]
      simp (disch := omega) only [lt_nI, nI_add, pk_mul, nI_clamp, nI_leI, nI_ltI, nI_eq, ixT, cond_true, Nat.reduceEqDiff, Nat.reduceLeDiff, reduceIte, h_ps hB, s_isWithin, s_isPast hB, e1, e2, e3, thI_RI, c1, thV_RV, es, em, show ¬ 4 + v = 0 by omega, show ¬ 4 + v = 1 by omega, show ¬ 4 + v = 2 by omega, show ¬ 4 + v = 3 by omega, if_false]
  · have rb : RB (R μ1) := by rw [r1]; exact hB.1
    have g := m2.2 w (by omega)
    have x1 := x_isPass (sc := sc) rb (nI p)
    have x2 := x_isKnown (sc := sc) rb (nI k)
    rw [r1] at x1 x2
    simp (disch := omega) only [lt_nI, nI_add, pk_mul, nI_clamp, nI_leI, nI_ltI, nI_eq, ixT, cond_true, Nat.reduceEqDiff, Nat.reduceLeDiff, reduceIte, x1, x2, s_in, e1, e2, e3, thI_RI, c2, thV_RV, g]
theorem p_part (hI : Inv σ) (p w k : Int32) : PM sc 139 [.ref 1, .int p, .int w, .int k] 221 [.ref 48, .int p, .int w, .int k] σ := by
  have hB := hI.1
  have bn := b_n hB.1
  obtain ⟨K, kv, hK⟩ := hI.2.2.2.2
  rcases hsB_c p (n := nP (R σ)) (by omega) with e1 | ⟨p, hp, rfl, e1⟩
  · refine pm_ro hI (v := -1) (cl_of (D_RailPasses_part_0 _ _ _ σ) rfl ?_) (cl_of (D_Ref_part_0 _ _ _ σ) rfl ?_)
    · simp only [lt_nI, h_ps hB, e1, thI_RI, if_true]
    · simp only [lt_nI, x_isPass hB.1, e1, thI_RI, if_true]
  rcases inB_c w (a := 0) (b := 4) (by decide) (by decide) with e2 | ⟨w, -, hw, rfl, e2⟩
  · refine pm_ro hI (v := -1) (cl_of (D_RailPasses_part_0 _ _ _ σ) rfl ?_) (cl_of (D_Ref_part_0 _ _ _ σ) rfl ?_)
    · simp only [lt_nI, h_ps hB, s_isRailway, e1, e2, i_0, if_false, thI_RI, if_true]
    · simp only [lt_nI, x_isPass hB.1, s_in, e1, e2, i_0, if_false, thI_RI, if_true]
  rcases inB_c k (a := 0) (b := nD (R σ)) (by decide) (by omega) with e3 | ⟨k, -, hk, rfl, e3⟩
  · refine pm_ro hI (v := -1) (cl_of (D_RailPasses_part_0 _ _ _ σ) rfl ?_) (cl_of (D_Ref_part_0 _ _ _ σ) rfl ?_)
    · simp only [lt_nI, h_ps hB, s_isRailway, s_isPast hB, e1, e2, e3, i_0, if_false, thI_RI, if_true]
    · simp only [lt_nI, x_isPass hB.1, s_in, x_isKnown hB.1, e1, e2, e3, i_0, if_false, thI_RI, if_true]
  have bp := b_ps hB.1 hp
  obtain ⟨μ1, o, n, c1, hO, f1, m1⟩ := y_ledger (sc := sc) hB kv hK.2.1 hp (show k ≤ 120 by omega)
  have r1 : R μ1 = R σ := R_fr f1 (fun a k ha => by omega)
  have rb : RB (R μ1) := by rw [r1]; exact hB.1
  obtain ⟨μ2, c2, f2⟩ := x_partOf (sc := sc) (σ := μ1) (K := K) (A := ps (R σ) p 14) rb (by rw [r1]; exact hK) (by rw [r1]; exact hp) (show k ≤ 120 by omega) (by rw [r1]; exact hO) (by omega) (show w < 5 by omega)
  rw [r1] at c2
  refine ⟨_, μ1, μ2, cl_of (D_RailPasses_part_0 _ _ _ σ) rfl ?_, cl_of (D_Ref_part_0 _ _ _ μ1) rfl (show _ = RI (nI (shT (R σ) K o n (ps (R σ) p 14) w)) μ2 from ?_), Inv_sc (Fr_tr (Fr_mo f1 (fun _ _ => by unfold Sc; omega)) (Fr_mo f2 (fun _ _ => by unfold Sc; omega))) hI⟩
  · have hB1 : BI (C μ1) (R σ) := by rw [C_fr f1 (fun a k ha => by omega)]; exact hB
    have es := y_share (sc := sc) m1 (ok_goS hB.1 hO) (A := ps (R σ) p 14) (w := w) (by omega) (by omega)
    simp (disch := omega) only [lt_nI, nI_add, pk_mul, nI_clamp, nI_leI, nI_ltI, nI_eq, ixT, cond_true, Nat.reduceEqDiff, Nat.reduceLeDiff, reduceIte, h_ps hB, s_isRailway, s_isPast hB, e1, e2, e3, thI_RI, c1, thV_RV, g_ps11 hB1 hp, es]
    rfl
  · have g := r_ps rb (p := p) (q := 14) (by rw [r1]; exact hp) (by decide)
    have x1 := x_isPass (sc := sc) rb (nI p)
    have x2 := x_isKnown (sc := sc) rb (nI k)
    rw [r1] at x1 x2 g
    simp (disch := omega) only [lt_nI, nI_add, pk_mul, nI_clamp, nI_leI, nI_ltI, nI_eq, ixT, cond_true, Nat.reduceEqDiff, Nat.reduceLeDiff, reduceIte, x1, x2, s_in, e1, e2, e3, thI_RI, g, c2]
/-- what the passes sum up to -/
def accu (l : Nat → Bool) (W : Nat → Nat × Nat) : Nat → Int32
  | 0 => nI 0
  | p + 1 => if l p then accu l W p + nI (W p).1 - nI (W p).2 else accu l W p + nI (W p).1
theorem accu_c {l : Nat → Bool} {W W' : Nat → Nat × Nat} : ∀ {p : Nat}, (∀ q, q < p → W q = W' q) → accu l W p = accu l W' p := by
  intro p
  induction p with
  | zero => intro _; rfl
  | succ p ih => intro h; unfold accu; rw [ih fun q hq => h q (by omega), h p (by omega)]
theorem p_account (hI : Inv σ) (w k : Int32) : PM sc 141 [.ref 1, .int w, .int k] 224 [.ref 48, .int w, .int k] σ := by
  have hB := hI.1
  have bn := b_n hB.1
  obtain ⟨K, kv, hK⟩ := hI.2.2.2.2
  rcases inB_c w (a := 0) (b := 4) (by decide) (by decide) with e2 | ⟨w, -, hw, rfl, e2⟩
  · refine pm_ro hI (v := -1) (cl_of (D_RailPasses_account_0 _ _ σ) rfl ?_) (cl_of (D_Ref_account_0 _ _ σ) rfl ?_)
    · simp only [lt_nI, s_isRailway, e2, i_0, if_false, thI_RI, if_true]
    · simp only [lt_nI, s_in, e2, i_0, if_false, thI_RI, if_true]
  rcases inB_c k (a := 0) (b := nD (R σ)) (by decide) (by omega) with e3 | ⟨k, -, hk, rfl, e3⟩
  · refine pm_ro hI (v := -1) (cl_of (D_RailPasses_account_0 _ _ σ) rfl ?_) (cl_of (D_Ref_account_0 _ _ σ) rfl ?_)
    · simp only [lt_nI, s_isRailway, s_isPast hB, e2, e3, i_0, if_false, thI_RI, if_true]
    · simp only [lt_nI, s_in, x_isKnown hB.1, e2, e3, i_0, if_false, thI_RI, if_true]
  obtain ⟨r, er⟩ : ∃ r, r = R σ := ⟨_, rfl⟩
  obtain ⟨lo, el⟩ : ∃ lo : Nat → Bool, lo = fun p => decide (ps r p 13 = 1) := ⟨_, rfl⟩
  have hBr : BI (C σ) r := by rw [er]; exact hB
  have hRr : RB r := hBr.1
  have bnr := b_n hRr
  have hKr : KK r K := by rw [er]; exact hK
  have hkd : k ≤ 120 := by omega
  -- the class
  obtain ⟨⟨μ1, s1⟩, ⟨W, f1, es1, hW⟩, L1⟩ := lp_inv (S := rp_Mm × Int32) (E := fun p s => EV sc (141, 0, 0, 22, [.ref 1, .int (nI w), .int (nI k), .int s.2, .int (nI p)], [], (rp_L0, s.1))) (fun p s => ∃ W : Nat → Nat × Nat, Fr (fun a _ => 45 ≤ a ∧ a ≤ 47) σ s.1 ∧ s.2 = accu lo W p ∧ ∀ q, q < p → ∃ o n, SO r q k (nS r) o n ∧ W q = (shT r K o n (ps r q 14) w, shT r K o n (refN r q) w)) (n := nP r) (fun p s hp hR => by
    obtain ⟨μ, s⟩ := s
    obtain ⟨W, f, es, hW⟩ := hR
    dsimp only at f es
    have bp := b_ps hRr hp
    have hBμ : BI (C μ) r := by rw [C_fr f (fun a k ha => by omega)]; exact hBr
    have kvμ : ∀ a b, a < 10 → b < 10 → μ 36 (10 * a + b) = nI (K a b) := fun a b ha hb => by rw [f _ _ (by omega)]; exact kv a b ha hb
    obtain ⟨μ1, o, n, c1, hO, f1, m1⟩ := y_ledger (sc := sc) hBμ kvμ hKr.2.1 hp hkd
    have hB1 : BI (C μ1) r := by rw [C_fr f1 (fun a k ha => by omega)]; exact hBμ
    have h1 := y_share (sc := sc) m1 (ok_goS hRr hO) (A := ps r p 14) (w := w) (by omega) (by omega)
    have h2 := y_share (sc := sc) m1 (ok_goS hRr hO) (A := refN r p) (w := w) (refN_le hRr hp) (by omega)
    have T112 : ∀ x3 μ, rp_Le (EV sc (141, 0, 0, 22, [.ref 1, .int (nI w), .int (nI k), .int x3, .int (nI (p + 1))], [], (rp_L0, μ))) (EV sc (141, 0, 0, 112, [.ref 1, .int (nI w), .int (nI k), .int x3, .int (nI p)], [], (rp_L0, μ))) := fun x3 μ => by
      refine rp_Le_tr ?_ (D_RailPasses_account_112 _ _ _ _ μ)
      simp only [lt_nI, nI_add]
      exact rp_Le_rfl
    obtain ⟨W', eW⟩ : ∃ W' : Nat → Nat × Nat, W' = fun q => if q = p then (shT r K o n (ps r p 14) w, shT r K o n (refN r p) w) else W q := ⟨_, rfl⟩
    have ea : accu lo W' p = accu lo W p := accu_c fun q hq => by rw [eW]; dsimp only; rw [if_neg (by omega)]
    have ep : W' p = (shT r K o n (ps r p 14) w, shT r K o n (refN r p) w) := by rw [eW]; dsimp only; rw [if_pos rfl]
    refine ⟨(μ1, accu lo W' (p + 1)), ⟨W', Fr_tr f f1, rfl, fun q hq => ?_⟩, rp_Le_tr (rp_Le_tr (T112 _ _) ?_) (D_RailPasses_account_22 _ _ _ _ μ)⟩
    · by_cases e : q = p
      · subst e; exact ⟨o, n, hO, ep⟩
      · obtain ⟨o', n', q1, q2⟩ := hW q (by omega)
        refine ⟨o', n', q1, ?_⟩
        rw [eW]
        dsimp only
        rw [if_neg e]
        exact q2
    · unfold accu
      rw [ea, ep, ← es]
      simp (disch := omega) only [lt_nI, z_ps hBμ, thI_RI, nI_leI, nI_eq, show ¬ nP r ≤ p by omega, if_false, c1, thV_RV, g_ps11 hB1 hp, h1, y_isLost hB1 hp]
      by_cases hl : ps r p 13 = 0
      · have : lo p = false := by rw [el]; simp; omega
        rw [this]
        simp only [eq_true hl, if_true]
        exact rp_Le_rfl
      · have : lo p = true := by rw [el]; simp; omega
        rw [this]
        simp only [eq_false hl, if_false, y_refund hB1 hp, thI_RI, h2]
        exact rp_Le_rfl) (s := (σ, nI 0)) ⟨fun _ => (0, 0), Fr_rfl, rfl, fun q hq => absurd hq (by omega)⟩
  dsimp only at f1 es1
  have hB1 : BI (C μ1) r := by rw [C_fr f1 (fun a k ha => by omega)]; exact hBr
  have r1 : R μ1 = r := by rw [R_fr f1 (fun a k ha => by omega), er]
  have cc : CL sc 141 [.ref 1, .int (nI w), .int (nI k)] σ = RI (accu lo W (nP r)) μ1 := by
    refine cl_le rfl (rp_Le_tr ?_ (D_RailPasses_account_0 _ _ σ))
    simp (disch := omega) only [lt_nI, s_isRailway, s_isPast hB, e2, e3, i_0, if_false, thI_RI]
    refine rp_Le_tr (rp_Le_tr ?_ (D_RailPasses_account_22 _ _ _ _ μ1)) L1
    simp (disch := omega) only [z_ps hB1, thI_RI, nI_leI, Nat.le_refl, if_true]
    rw [es1]
    exact rp_Le_rfl
  -- the reference
  obtain ⟨μ2, f2, L2⟩ := lp_inv (E := fun p μ => EV sc (224, 0, 0, 24, [.ref 48, .int (nI w), .int (nI k), .int (accu lo W p), .int (nI p)], [], (rp_L0, μ))) (fun p μ => Fr (fun a _ => 63 ≤ a ∧ a ≤ 66) μ1 μ) (n := nP r) (fun p μ hp f => by
    have bp := b_ps hRr hp
    have rμ : R μ = r := by rw [R_fr f (fun a k ha => by omega), r1]
    obtain ⟨o, n, hO, hWp⟩ := hW p hp
    obtain ⟨μa, ca, fa⟩ := x_partOf (sc := sc) (σ := μ) (K := K) (A := ps r p 14) (by rw [rμ]; exact hRr) (by rw [rμ]; exact hKr) (by rw [rμ]; exact hp) hkd (by rw [rμ]; exact hO) (by omega) (show w < 5 by omega)
    have ra : R μa = r := by rw [R_fr fa (fun a k ha => by omega), rμ]
    rw [rμ] at ca
    have g14 : μ 53 (16 * p + 14) = nI (ps r p 14) := by
      have := r_ps (σ := μ) (by rw [rμ]; exact hRr) (p := p) (q := 14) (by rw [rμ]; exact hp) (by decide)
      rw [rμ] at this
      exact this
    have g13 : μa 53 (16 * p + 13) = nI (ps r p 13) := by
      have := r_ps (σ := μa) (by rw [ra]; exact hRr) (p := p) (q := 13) (by rw [ra]; exact hp) (by decide)
      rw [ra] at this
      exact this
    have gn : μ 49 2 = nI (nP r) := by
      have := r_nP (σ := μ) (by rw [rμ]; exact hRr)
      rw [rμ] at this
      exact this
    have T95 : ∀ (x3 y0 y1 : Int32) (μ : rp_Mm), rp_Le (EV sc (224, 0, 0, 24, [.ref 48, .int (nI w), .int (nI k), .int (y1 - y0), .int (nI (p + 1))], [], (rp_L0, μ))) (EV sc (224, 0, 0, 95, [.ref 48, .int (nI w), .int (nI k), .int x3, .int (nI p)], [.int y0, .int y1], (rp_L0, μ))) := fun x3 y0 y1 μ => by
      refine rp_Le_tr ?_ (D_Ref_account_95 _ _ _ _ _ _ μ)
      simp only [lt_nI, nI_add]
      exact rp_Le_rfl
    by_cases hl : ps r p 13 = 1
    · have elo : lo p = true := by rw [el]; simp; omega
      have xr := x_refundOf (sc := sc) (σ := μa) (by rw [ra]; exact hRr) (p := p) (by rw [ra]; exact hp)
      rw [ra] at xr
      obtain ⟨μb, cb, fb⟩ := x_partOf (sc := sc) (σ := μa) (K := K) (A := refN r p) (by rw [ra]; exact hRr) (by rw [ra]; exact hKr) (by rw [ra]; exact hp) hkd (by rw [ra]; exact hO) (refN_le hRr hp) (show w < 5 by omega)
      rw [ra] at cb
      refine ⟨μb, Fr_tr f (Fr_tr fa fb), rp_Le_tr ?_ (D_Ref_account_24 _ _ _ _ μ)⟩
      rw [show accu lo W (p + 1) = accu lo W p + nI (shT r K o n (ps r p 14) w) - nI (shT r K o n (refN r p) w) by
        show (if lo p then accu lo W p + nI (W p).1 - nI (W p).2 else accu lo W p + nI (W p).1) = _
        rw [elo, hWp]
        rfl]
      simp (disch := omega) only [lt_nI, nI_add, pk_mul, nI_clamp, nI_leI, nI_ltI, nI_eq, ixT, cond_true, gn, show ¬ nP r ≤ p by omega, if_false, g14, ca, thI_RI, g13, hl, if_true, xr, cb]
      exact T95 _ _ _ _
    · have elo : lo p = false := by rw [el]; simp; omega
      refine ⟨μa, Fr_tr f fa, rp_Le_tr ?_ (D_Ref_account_24 _ _ _ _ μ)⟩
      have T := T95 (accu lo W p + nI (shT r K o n (ps r p 14) w)) (nI 0) (accu lo W p + nI (shT r K o n (ps r p 14) w)) μa
      rw [show accu lo W p + nI (shT r K o n (ps r p 14) w) - nI 0 = accu lo W p + nI (shT r K o n (ps r p 14) w) from Int32.sub_zero _] at T
      rw [show accu lo W (p + 1) = accu lo W p + nI (shT r K o n (ps r p 14) w) by
        show (if lo p then accu lo W p + nI (W p).1 - nI (W p).2 else accu lo W p + nI (W p).1) = _
        rw [elo, hWp]
        rfl]
      simp (disch := omega) only [lt_nI, nI_add, pk_mul, nI_clamp, nI_leI, nI_ltI, nI_eq, ixT, cond_true, gn, show ¬ nP r ≤ p by omega, if_false, g14, ca, thI_RI, g13, hl]
      exact T) (s := μ1) Fr_rfl
  refine ⟨_, μ1, μ2, cc, cl_le rfl (rp_Le_tr ?_ (D_Ref_account_0 _ _ μ1)), Inv_sc (Fr_tr (Fr_mo f1 (fun _ _ => by unfold Sc; omega)) (Fr_mo f2 (fun _ _ => by unfold Sc; omega))) hI⟩
  have rb : RB (R μ1) := by rw [r1]; exact hRr
  have x2 := x_isKnown (sc := sc) rb (nI k)
  rw [r1] at x2
  rw [← er] at e3
  simp (disch := omega) only [lt_nI, s_in, x2, e2, e3, i_0, if_false, thI_RI]
  refine rp_Le_tr (rp_Le_tr ?_ (D_Ref_account_24 _ _ _ _ μ2)) L2
  have gn : μ2 49 2 = nI (nP r) := by
    have r2 : R μ2 = r := by rw [R_fr f2 (fun a k ha => by omega), r1]
    have := r_nP (σ := μ2) (by rw [r2]; exact hRr)
    rw [r2] at this
    exact this
  rw [gn, if_pos (nI_le (Nat.le_refl _) (by omega))]
  exact rp_Le_rfl
end
