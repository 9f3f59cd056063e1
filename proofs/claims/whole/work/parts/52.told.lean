/-! the reference's legs -/
def bI (o : Option Nat) : Int32 := match o with
  | none => -1
  | some b => nI b
def TMr (σ μ : rp_Mm) (T : Nat → Nat) : Prop := Fr (fun a _ => a = 63 ∨ a = 64) σ μ ∧ ∀ x, x < 9 → μ 64 x = nI (T x)
theorem TMr_i {σ μ : rp_Mm} {T : Nat → Nat} {i : Nat} (h : TMr σ μ T) : TMr σ (rp_wr μ 64 i (nI (T i + 1))) (incT T i) := by
  refine ⟨Fr_wr h.1 (Or.inr rfl), fun x hx => ?_⟩
  unfold incT
  by_cases q : x = i
  · subst q; rw [wr_eq, if_pos rfl]
  · rw [wr_nk q, if_neg q]; exact h.2 x hx
theorem TMr_a {σ μ : rp_Mm} {T : Nat → Nat} {w m : Nat} (h : TMr σ μ T) : TMr σ (rp_wr (rp_wr μ 64 3 (nI (T 3 + m))) 64 (4 + w) (nI (T (4 + w) + m))) (add2 T w m) := by
  refine ⟨Fr_wr (Fr_wr h.1 (Or.inr rfl)) (Or.inr rfl), fun x hx => ?_⟩
  unfold add2
  by_cases q : x = 4 + w
  · subst q; rw [wr_eq, if_neg (by omega), if_pos rfl]
  · rw [wr_nk q, if_neg q]
    by_cases q2 : x = 3
    · subst q2; rw [wr_eq, if_pos rfl]
    · rw [wr_nk q2, if_neg q2]; exact h.2 x hx
section
variable {sc : rp_Sc} {σ μ : rp_Mm} {K : Nat → Nat → Nat} {T : Nat → Nat}
theorem whS_lt {r : rp_Mm} (h : RB r) {s : Nat} (hs : s < nS r) : whS r s < 2 ^ 30 := by
  have b := b_sn h hs
  have bn := b_n h
  unfold whS tmS
  omega
theorem x_whenOf (h : RB (R σ)) {s : Nat} (hs : s < nS (R σ)) : CL sc 219 [.ref 48, .int (nI s)] σ = RI (nI (whS (R σ) s)) σ := by
  have b := b_sn h hs
  have bn := b_n h
  refine cl_of (D_Ref_whenOf_0 _ σ) rfl ?_
  simp (disch := omega) only [lt_nI, nI_add, pk_mul, nI_clamp, nI_leI, nI_ltI, nI_eq, ixT, cond_true, r_sn h hs]
  rfl
/-- the next one behind -/
theorem x_next (h : RB (R σ)) {p k : Nat} (hp : p < nP (R σ)) (hk : k ≤ 120) (β : Int32) : ∃ ob, CL sc 218 [.ref 48, .int (nI p), .int β, .int (nI k)] σ = RI (bI ob) σ ∧ (match ob with
    | none => ∀ s, s < nS (R σ) → ¬ (mtS (R σ) p k s ∧ ¬ nI (whS (R σ) s) ≤ β)
    | some b => b < nS (R σ) ∧ (mtS (R σ) p k b ∧ ¬ nI (whS (R σ) b) ≤ β) ∧ ∀ s, s < nS (R σ) → mtS (R σ) p k s ∧ ¬ nI (whS (R σ) s) ≤ β → whS (R σ) b ≤ whS (R σ) s) := by
  have bn := b_n h
  obtain ⟨Q, hQ⟩ : ∃ Q : Nat → Prop, Q = fun s => mtS (R σ) p k s ∧ ¬ nI (whS (R σ) s) ≤ β := ⟨_, rfl⟩
  obtain ⟨ob, hob, L⟩ := lp_inv (S := Option Nat) (E := fun j ob => EV sc (218, 0, 0, 6, [.ref 48, .int (nI p), .int β, .int (nI k), .int (bI ob), .int (nI j), rp_U], [], (rp_L0, σ))) (fun j ob => match ob with
    | none => ∀ s, s < j → ¬ Q s
    | some b => b < j ∧ Q b ∧ ∀ s, s < j → Q s → whS (R σ) b ≤ whS (R σ) s) (n := nS (R σ)) (fun j ob hj hR => by
    have b := b_sn h hj
    have T94 : ∀ x4 x6 y0, rp_Le (EV sc (218, 0, 0, 6, [.ref 48, .int (nI p), .int β, .int (nI k), .int y0, .int (nI (j + 1)), rp_U], [], (rp_L0, σ))) (EV sc (218, 0, 0, 94, [.ref 48, .int (nI p), .int β, .int (nI k), .int x4, .int (nI j), .int x6], [.int y0], (rp_L0, σ))) := fun x4 x6 y0 => by
      refine rp_Le_tr ?_ (D_Ref_nextScan_94 _ _ _ _ _ _ _ σ)
      simp only [lt_nI, nI_add]
      exact rp_Le_rfl
    have T92 : ∀ x4 x6, rp_Le (EV sc (218, 0, 0, 6, [.ref 48, .int (nI p), .int β, .int (nI k), .int x4, .int (nI (j + 1)), rp_U], [], (rp_L0, σ))) (EV sc (218, 0, 0, 92, [.ref 48, .int (nI p), .int β, .int (nI k), .int x4, .int (nI j), .int x6], [], (rp_L0, σ))) := fun x4 x6 => rp_Le_tr (T94 x4 x6 x4) (D_Ref_nextScan_92 _ _ _ _ _ _ σ)
    have T87 : ∀ x4 x6, rp_Le (EV sc (218, 0, 0, 6, [.ref 48, .int (nI p), .int β, .int (nI k), .int (nI j), .int (nI (j + 1)), rp_U], [], (rp_L0, σ))) (EV sc (218, 0, 0, 87, [.ref 48, .int (nI p), .int β, .int (nI k), .int x4, .int (nI j), .int x6], [], (rp_L0, σ))) := fun x4 x6 => rp_Le_tr (T94 x4 x6 (nI j)) (D_Ref_nextScan_87 _ _ _ _ _ _ σ)
    have T59 : ∀ x4, rp_Le (EV sc (218, 0, 0, 6, [.ref 48, .int (nI p), .int β, .int (nI k), .int x4, .int (nI (j + 1)), rp_U], [], (rp_L0, σ))) (EV sc (218, 0, 0, 59, [.ref 48, .int (nI p), .int β, .int (nI k), .int x4, .int (nI j), rp_U], [], (rp_L0, σ))) := fun x4 => by
      refine rp_Le_tr (rp_Le_tr ?_ (D_Ref_nextScan_60 _ _ _ _ _ _ σ)) (D_Ref_nextScan_59 _ _ _ _ _ σ)
      simp only [lt_nI, i_1, if_true]
      exact T92 x4 (nI 0)
    have ew := x_whenOf (sc := sc) h hj
    by_cases hq : Q j
    · have hq' := hq
      rw [hQ] at hq'
      -- to 60 with 1
      have S1 : rp_Le (EV sc (218, 0, 0, 60, [.ref 48, .int (nI p), .int β, .int (nI k), .int (bI ob), .int (nI j), rp_U], [.int (nI 1)], (rp_L0, σ))) (EV sc (218, 0, 0, 6, [.ref 48, .int (nI p), .int β, .int (nI k), .int (bI ob), .int (nI j), rp_U], [], (rp_L0, σ))) := by
        refine rp_Le_tr ?_ (D_Ref_nextScan_6 _ _ _ _ _ σ)
        simp (disch := omega) only [lt_nI, nI_clamp, nI_leI, nI_ltI, nI_eq, ixT, cond_true, pk_mul, nI_add, r_nS h, show ¬ nS (R σ) ≤ j by omega, if_false, r_sn0 h hj, r_sn h hj, hq'.1.1, if_true, show ¬ k < sn (R σ) j 4 from Nat.not_lt.mpr hq'.1.2, ew, thI_RI, eq_false hq'.2]
        exact rp_Le_rfl
      cases ob with
      | none =>
        refine ⟨some j, ⟨by omega, hq, fun s hs hs2 => ?_⟩, rp_Le_tr (rp_Le_tr ?_ (D_Ref_nextScan_60 _ _ _ _ _ _ σ)) S1⟩
        · by_cases q : s = j
          · subst q; exact Nat.le_refl _
          · exact absurd hs2 (hR s (by omega))
        · rw [if_neg (show ¬ nI 1 = 0 by decide), if_pos (show bI none < 0 by decide)]
          exact T87 _ _
      | some c =>
        obtain ⟨c1, c2, c3⟩ := hR
        have ec := x_whenOf (sc := sc) h (show c < nS (R σ) by omega)
        have l1 := whS_lt h hj
        have l2 := whS_lt h (show c < nS (R σ) by omega)
        have hcn : ¬ bI (some c) < 0 := nI_pos (show c < 2 ^ 31 by omega)
        by_cases hlt : whS (R σ) c ≤ whS (R σ) j
        · refine ⟨some c, ⟨by omega, c2, fun s hs hs2 => ?_⟩, rp_Le_tr (rp_Le_tr ?_ (D_Ref_nextScan_60 _ _ _ _ _ _ σ)) S1⟩
          · by_cases q : s = j
            · subst q; exact hlt
            · exact c3 s (by omega) hs2
          · rw [if_neg (show ¬ nI 1 = 0 by decide), if_neg hcn, ew, thI_RI]
            show rp_Le _ (thI (CL sc 219 [.ref 48, .int (nI c)] σ) _)
            rw [ec, thI_RI, if_pos ((nI_leI (by omega) (by omega)).mpr hlt)]
            exact T92 _ _
        · refine ⟨some j, ⟨by omega, hq, fun s hs hs2 => ?_⟩, rp_Le_tr (rp_Le_tr ?_ (D_Ref_nextScan_60 _ _ _ _ _ _ σ)) S1⟩
          · by_cases q : s = j
            · subst q; exact Nat.le_refl _
            · have := c3 s (by omega) hs2
              omega
          · rw [if_neg (show ¬ nI 1 = 0 by decide), if_neg hcn, ew, thI_RI]
            show rp_Le _ (thI (CL sc 219 [.ref 48, .int (nI c)] σ) _)
            rw [ec, thI_RI, if_neg (fun q => hlt ((nI_leI (by omega) (by omega)).mp q))]
            exact T87 _ _
    · refine ⟨ob, ?_, rp_Le_tr ?_ (D_Ref_nextScan_6 _ _ _ _ _ σ)⟩
      · cases ob with
        | none =>
          intro s hs
          by_cases q : s = j
          · subst q; exact hq
          · exact hR s (by omega)
        | some c =>
          obtain ⟨c1, c2, c3⟩ := hR
          refine ⟨by omega, c2, fun s hs hs2 => ?_⟩
          by_cases q : s = j
          · subst q; exact absurd hs2 hq
          · exact c3 s (by omega) hs2
      · simp (disch := omega) only [lt_nI, nI_clamp, nI_leI, nI_ltI, nI_eq, ixT, cond_true, pk_mul, nI_add, r_nS h, show ¬ nS (R σ) ≤ j by omega, if_false, r_sn0 h hj, r_sn h hj]
        by_cases h1 : sn (R σ) j 0 = p
        · by_cases h2 : k < sn (R σ) j 4
          · simp only [eq_true h1, eq_true h2, if_true]
            exact T59 _
          · have h3 : nI (whS (R σ) j) ≤ β := by
              refine Classical.byContradiction fun h3 => hq ?_
              rw [hQ]
              exact ⟨⟨h1, Nat.not_lt.mp h2⟩, h3⟩
            simp only [eq_true h1, eq_false h2, if_true, if_false, ew, thI_RI, eq_true h3]
            exact T59 _
        · simp only [eq_false h1, if_false]
          exact T59 _) (s := none) (fun s hs => absurd hs (by omega))
  refine ⟨ob, cl_le rfl (rp_Le_tr (rp_Le_tr ?_ L) (D_Ref_nextScan_0 _ _ _ σ)), ?_⟩
  · refine rp_Le_tr ?_ (D_Ref_nextScan_6 _ _ _ _ _ σ)
    simp (disch := omega) only [r_nS h, nI_leI, Nat.le_refl, if_true]
    exact rp_Le_rfl
  · rw [hQ] at hob
    exact hob
end
