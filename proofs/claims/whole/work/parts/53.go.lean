/-! the reference goes through the scans of a pass -/
section
variable {sc : rp_Sc} {σ μ : rp_Mm} {K : Nat → Nat → Nat} {T : Nat → Nat}
theorem x_addLeg (h : RB (R σ)) (hK : KK (R σ) K) {a b : Nat} (ha : a < nS (R σ)) (hb : b < nS (R σ)) (hab : whS (R σ) a < whS (R σ) b) (hd : sn (R σ) a 1 = sn (R σ) b 1) (hs : sn (R σ) a 3 ≠ sn (R σ) b 3) (hM : TMr σ μ T) : ∃ μ', CL sc 220 [.ref 48, .int (nI a), .int (nI b)] μ = RV μ' ∧ TMr σ μ' (legT (R σ) K a b T) := by
  have bn := b_n h
  have ba := b_sn h ha
  have bb := b_sn h hb
  obtain ⟨x, ex⟩ : ∃ x, x = sn (R σ) a 3 := ⟨_, rfl⟩
  obtain ⟨y, ey⟩ : ∃ y, y = sn (R σ) b 3 := ⟨_, rfl⟩
  have hm : sn (R σ) a 2 ≤ sn (R σ) b 2 := by unfold whS tmS at hab; omega
  obtain ⟨μ1, em⟩ : ∃ m, m = rp_wr μ 64 0 (nI (T 0 + 1)) := ⟨_, rfl⟩
  have m1 : TMr σ μ1 (incT T 0) := by rw [em]; exact TMr_i hM
  have r1 : R μ1 = R σ := R_fr m1.1 (fun a k ha => by omega)
  obtain ⟨μ2, F, c2, f2, v2⟩ := x_reach (sc := sc) (σ := μ1) (K := K) (by rw [r1]; exact h) (by rw [r1]; exact hK) (show x < 10 by omega)
  have m2 : TMr σ μ2 (incT T 0) := ⟨Fr_tr m1.1 (Fr_mo f2.1 (fun _ _ => by omega)), fun z hz => by rw [f2.1 _ _ (by omega)]; exact m1.2 z hz⟩
  have g0 : ∀ z, z < nS (R σ) → ∀ q, q < 5 → μ2 56 (5 * z + q) = nI (sn (R σ) z q) := fun z hz q hq => by rw [m2.1 _ _ (by omega)]; exact r_sn h hz hq
  have gx : μ1 56 (5 * a + 3) = nI x := by rw [m1.1 _ _ (by omega), ex]; exact r_sn h ha (by decide)
  have gy : μ2 56 (5 * b + 3) = nI y := by rw [ey]; exact g0 b hb 3 (by decide)
  have e0 : μ 64 0 = nI (T 0) := hM.2 0 (by decide)
  have kb := hK.2.1 x y (by omega) (by omega)
  have vy := v2 y (by omega)
  have e62 := f2.2 y (by omega)
  unfold legT
  rw [if_pos ⟨hd, hs⟩, ← ex, ← ey]
  by_cases h1 : 536870912 ≤ K x y
  · rw [if_pos h1]
    refine ⟨_, cl_of (D_Ref_addLeg_0 _ _ μ) rfl ?_, TMr_i m2⟩
    have hF : ¬ F y < 100000000 := by omega
    have e1 : μ2 64 1 = nI (T 1) := m2.2 1 (by decide)
    simp (disch := omega) only [lt_nI, nI_add, pk_mul, nI_clamp, nI_leI, nI_ltI, nI_eq, ixT, cond_true, e0, ← em, gx, c2, thV_RV, gy, e62, hF, if_false]
    rw [e1, nI_add]
    rfl
  · rw [if_neg h1]
    have hF : F y < 100000000 := by omega
    have hFk : F y = K x y := by omega
    have ed : nI (F y) / nI 16384 = nI (K x y / 16384) := by rw [hFk]; exact pk_div (by omega) (by decide) (by decide)
    have hm' : ∀ z, CL sc 220 [.ref 48, .int (nI a), .int (nI b)] μ = z ↔ CL sc 220 [.ref 48, .int (nI a), .int (nI b)] μ = z := fun _ => Iff.rfl
    by_cases h2 : 3 * (sn (R σ) b 2 - sn (R σ) a 2) < K x y / 16384
    · rw [if_pos h2]
      refine ⟨_, cl_of (D_Ref_addLeg_0 _ _ μ) rfl ?_, TMr_i m2⟩
      have e1 : μ2 64 2 = nI (T 2) := m2.2 2 (by decide)
      simp (disch := omega) only [lt_nI, nI_add, pk_mul, nI_clamp, nI_leI, nI_ltI, nI_eq, ixT, cond_true, e0, ← em, gx, c2, thV_RV, gy, e62, hF, if_true, g0 a ha, g0 b hb, pk_sub, ed, show ¬ K x y / 16384 ≤ 3 * (sn (R σ) b 2 - sn (R σ) a 2) by omega, if_false]
      rw [e1, nI_add]
      rfl
    · rw [if_neg h2]
      obtain ⟨bits, eb⟩ : ∃ bits, bits = K x y % 16384 := ⟨_, rfl⟩
      rw [← eb]
      have hbl : bits < 2 ^ 14 := by rw [eb]; exact Nat.mod_lt _ (by decide)
      have er : nI (F y) - nI (F y) / nI 16384 * nI 16384 = nI bits := by rw [hFk, eb]; exact pk_rem (by omega) (by decide) (by decide)
      rw [ed] at er
      obtain ⟨μ3, m3, L⟩ := lp_inv (E := fun l μ => EV sc (220, 0, 0, 102, [.ref 48, .int (nI a), .int (nI b), .int (nI (F y)), .int (nI l)], [], (rp_L0, μ))) (fun l μ => TMr σ μ (addm (R σ) bits (incT T 0) l)) (n := nL (R σ)) (fun l μ hl hR => by
        have bl := b_ln h hl
        have Tt : ∀ μ, rp_Le (EV sc (220, 0, 0, 102, [.ref 48, .int (nI a), .int (nI b), .int (nI (F y)), .int (nI (l + 1))], [], (rp_L0, μ))) (EV sc (220, 0, 0, 179, [.ref 48, .int (nI a), .int (nI b), .int (nI (F y)), .int (nI l)], [], (rp_L0, μ))) := fun μ => by
          refine rp_Le_tr ?_ (D_Ref_addLeg_179 _ _ _ _ μ)
          simp only [lt_nI, nI_add]
          exact rp_Le_rfl
        have l2 : μ 50 (5 * l + 2) = nI (ln (R σ) l 2) := by rw [hR.1 _ _ (by omega)]; exact r_ln h hl (by decide)
        have l3 : μ 50 (5 * l + 3) = nI (ln (R σ) l 3) := by rw [hR.1 _ _ (by omega)]; exact r_ln h hl (by decide)
        have zl : μ 49 0 = nI (nL (R σ)) := by rw [hR.1 _ _ (by omega)]; exact r_nL h
        unfold addm
        by_cases hq : bt bits l = 1
        · rw [if_pos hq]
          refine ⟨_, TMr_a (w := ln (R σ) l 2) (m := ln (R σ) l 3) hR, rp_Le_tr (rp_Le_tr (Tt _) ?_) (D_Ref_addLeg_102 _ _ _ _ μ)⟩
          have w3 := hR.2 3 (by decide)
          have ww := hR.2 (4 + ln (R σ) l 2) (by omega)
          simp (disch := omega) only [lt_nI, nI_add, pk_mul, nI_clamp, nI_leI, ixT, cond_true, zl, show ¬ nL (R σ) ≤ l by omega, if_false, ed]
          rw [← pk_mul (K x y / 16384) 16384, er, sh_b (by omega) (by omega)]
          simp (disch := omega) only [hq, if_true, w3, l2, l3, wr_n2, nI_add, ixT, cond_true, nI_clamp, wr_nk, ww]
          exact rp_Le_rfl
        · rw [if_neg hq]
          refine ⟨μ, hR, rp_Le_tr (rp_Le_tr (Tt _) ?_) (D_Ref_addLeg_102 _ _ _ _ μ)⟩
          simp (disch := omega) only [lt_nI, nI_add, pk_mul, nI_clamp, nI_leI, ixT, cond_true, zl, show ¬ nL (R σ) ≤ l by omega, if_false, ed]
          rw [← pk_mul (K x y / 16384) 16384, er, sh_b (by omega) (by omega)]
          simp (disch := omega) only [bt_e, hq, if_false]
          exact rp_Le_rfl) (s := μ2) m2
      refine ⟨μ3, cl_le rfl (rp_Le_tr ?_ (D_Ref_addLeg_0 _ _ μ)), m3⟩
      simp (disch := omega) only [lt_nI, nI_add, pk_mul, nI_clamp, nI_leI, nI_ltI, nI_eq, ixT, cond_true, e0, ← em, gx, c2, thV_RV, gy, e62, hF, if_true, g0 a ha, g0 b hb, pk_sub, ed, show K x y / 16384 ≤ 3 * (sn (R σ) b 2 - sn (R σ) a 2) by omega]
      have zl : μ3 49 0 = nI (nL (R σ)) := by rw [m3.1 _ _ (by omega)]; exact r_nL h
      refine rp_Le_tr (rp_Le_tr ?_ (D_Ref_addLeg_102 _ _ _ _ μ3)) L
      simp (disch := omega) only [zl, nI_leI, Nat.le_refl, if_true]
      exact rp_Le_rfl
theorem x_go (h : RB (R σ)) (hK : KK (R σ) K) {p k n : Nat} {o : Nat → Nat} (hp : p < nP (R σ)) (hk : k ≤ 120) (hO : SO (R σ) p k (nS (R σ)) o n) : ∃ μ, CL sc 217 [.ref 48, .int (nI p), .int (nI k)] σ = RV μ ∧ TMr σ μ (goT (R σ) K o (n - 1)) := by
  have bn := b_n h
  obtain ⟨o1, o2, o3, o4⟩ := hO
  obtain ⟨μ0, ⟨f0, v0⟩, L0⟩ := lp_inv (E := fun i μ => EV sc (217, 0, 0, 2, [.ref 48, .int (nI p), .int (nI k), .int (nI i), rp_U], [], (rp_L0, μ))) (fun i μ => Fr (fun a _ => a = 63 ∨ a = 64) σ μ ∧ ∀ x, x < i → μ 64 x = nI 0) (n := 9) (fun i μ hi hR => by
    obtain ⟨f, v⟩ := hR
    refine ⟨rp_wr μ 64 i (nI 0), ⟨Fr_wr f (Or.inr rfl), fun x hx => ?_⟩, rp_Le_tr ?_ (D_Ref_goThrough_2 _ _ _ μ)⟩
    · by_cases q : x = i
      · subst q; exact wr_eq
      · rw [wr_nk q]; exact v x (by omega)
    · simp (disch := omega) only [lt_nI, nI_add, pk_mul, nI_clamp, nI_leI, nI_ltI, nI_eq, ixT, cond_true, show ¬ 9 ≤ i by omega, if_false]
      exact rp_Le_rfl) (s := σ) ⟨Fr_rfl, fun w hw => absurd hw (by omega)⟩
  have m0 : TMr σ μ0 (goT (R σ) K o 0) := ⟨f0, fun x hx => by rw [v0 x hx]; rfl⟩
  have rr : ∀ {μ T}, TMr σ μ T → R μ = R σ := fun m => R_fr m.1 (fun a k ha => by omega)
  -- the next ones, by the order
  have nx0 : ∀ {μ T}, TMr σ μ T → CL sc 218 [.ref 48, .int (nI p), .int (-1), .int (nI k)] μ = RI (if 0 < n then nI (o 0) else -1) μ := fun {μ T} m => by
    obtain ⟨ob, c, hb⟩ := x_next (sc := sc) (σ := μ) (by rw [rr m]; exact h) (by rw [rr m]; exact hp) hk (-1)
    rw [rr m] at hb
    rw [c]
    have neg : ∀ s, s < nS (R σ) → ¬ nI (whS (R σ) s) ≤ -1 := fun s hs q => by
      have l := whS_lt h hs
      have h1 : (0 : Int32) ≤ nI (whS (R σ) s) := nI_pos' (by omega)
      exact absurd (Int32.le_trans h1 q) (by decide)
    cases ob with
    | none =>
      by_cases hn : 0 < n
      · exact absurd ⟨(o2 0 hn).2, neg _ (o2 0 hn).1⟩ (hb (o 0) (o2 0 hn).1)
      · rw [if_neg hn]; rfl
    | some b =>
      obtain ⟨b1, b2, b3⟩ := hb
      obtain ⟨i, hi, rfl⟩ := o4 b b1 b2.1
      rw [if_pos (by omega)]
      have := b3 (o 0) (o2 0 (by omega)).1 ⟨(o2 0 (by omega)).2, neg _ (o2 0 (by omega)).1⟩
      by_cases q : i = 0
      · subst q; rfl
      · have := o3 0 i (by omega) hi
        omega
  have nx : ∀ {μ T} (i : Nat), i < n → TMr σ μ T → CL sc 218 [.ref 48, .int (nI p), .int (nI (whS (R σ) (o i))), .int (nI k)] μ = RI (if i + 1 < n then nI (o (i + 1)) else -1) μ := fun {μ T} i hi m => by
    obtain ⟨ob, c, hb⟩ := x_next (sc := sc) (σ := μ) (by rw [rr m]; exact h) (by rw [rr m]; exact hp) hk (nI (whS (R σ) (o i)))
    rw [rr m] at hb
    rw [c]
    have lw : ∀ s, s < nS (R σ) → whS (R σ) s < 2 ^ 30 := fun s hs => whS_lt h hs
    have cmp : ∀ s, s < nS (R σ) → (nI (whS (R σ) s) ≤ nI (whS (R σ) (o i)) ↔ whS (R σ) s ≤ whS (R σ) (o i)) := fun s hs => by
      have l1 := lw s hs
      have l2 := lw (o i) (o2 i hi).1
      exact nI_leI (by omega) (by omega)
    cases ob with
    | none =>
      by_cases hn : i + 1 < n
      · have q := o2 (i + 1) hn
        refine absurd ⟨q.2, ?_⟩ (hb (o (i + 1)) q.1)
        rw [cmp _ q.1]
        have := o3 i (i + 1) (by omega) hn
        omega
      · rw [if_neg hn]; rfl
    | some b =>
      obtain ⟨b1, b2, b3⟩ := hb
      obtain ⟨i', hi', rfl⟩ := o4 b b1 b2.1
      have b2' := b2.2
      rw [cmp _ b1] at b2'
      have hlt : i < i' := by
        refine Nat.lt_of_not_le fun hle => b2' ?_
        by_cases q : i' = i
        · rw [q]; exact Nat.le_refl _
        · have := o3 i' i (by omega) hi; omega
      rw [if_pos (by omega)]
      have q := o2 (i + 1) (by omega)
      have := b3 (o (i + 1)) q.1 ⟨q.2, by
        rw [cmp _ q.1]
        have := o3 i (i + 1) (by omega) (by omega)
        omega⟩
      by_cases q : i' = i + 1
      · subst q; rfl
      · have := o3 (i + 1) i' (by omega) hi'
        omega
  have St : rp_Le (EV sc (217, 0, 0, 29, [.ref 48, .int (nI p), .int (nI k), .int (if 0 < n then nI (o 0) else -1), rp_U], [], (rp_L0, μ0))) (EV sc (217, 0, 0, 0, [.ref 48, .int (nI p), .int (nI k), rp_U, rp_U], [], (rp_L0, σ))) := by
    refine rp_Le_tr (rp_Le_tr (rp_Le_tr ?_ (D_Ref_goThrough_2 _ _ _ μ0)) L0) (D_Ref_goThrough_0 _ _ σ)
    rw [if_pos (show (9 : Int32) ≤ nI 9 by decide), nx0 m0, thI_RI]
    exact rp_Le_rfl
  by_cases hn : 0 < n
  · rw [if_pos hn] at St
    have T106 : ∀ x3 x4 μ, rp_Le (EV sc (217, 0, 0, 29, [.ref 48, .int (nI p), .int (nI k), .int x4, rp_U], [], (rp_L0, μ))) (EV sc (217, 0, 0, 106, [.ref 48, .int (nI p), .int (nI k), .int x3, .int x4], [], (rp_L0, μ))) := fun x3 x4 μ => rp_Le_tr rp_Le_rfl (D_Ref_goThrough_106 _ _ _ _ μ)
    obtain ⟨μ1, m1, L1⟩ := lp_inv (E := fun i μ => EV sc (217, 0, 0, 29, [.ref 48, .int (nI p), .int (nI k), .int (nI (o i)), rp_U], [], (rp_L0, μ))) (fun i μ => TMr σ μ (goT (R σ) K o i)) (n := n - 1) (fun i μ hi hR => by
      have qa := o2 i (by omega)
      have qb := o2 (i + 1) (by omega)
      have ew := x_whenOf (sc := sc) (σ := μ) (by rw [rr hR]; exact h) (s := o i) (by rw [rr hR]; exact qa.1)
      rw [rr hR] at ew
      have en := nx i (by omega) hR
      rw [if_pos (by omega)] at en
      have g0 : ∀ z, z < nS (R σ) → ∀ q, q < 5 → μ 56 (5 * z + q) = nI (sn (R σ) z q) := fun z hz q hq => by rw [hR.1 _ _ (by omega)]; exact r_sn h hz hq
      have ba := b_sn h qa.1
      have bb := b_sn h qb.1
      have lt := o3 i (i + 1) (by omega) (by omega)
      have hlt0 : ¬ nI (o i) < 0 := nI_pos (by omega)
      have hlt1 : ¬ nI (o (i + 1)) < 0 := nI_pos (by omega)
      by_cases hc : sn (R σ) (o i) 1 = sn (R σ) (o (i + 1)) 1 ∧ sn (R σ) (o i) 3 ≠ sn (R σ) (o (i + 1)) 3
      · obtain ⟨μ', c', m'⟩ := x_addLeg (sc := sc) h hK qa.1 qb.1 lt hc.1 hc.2 hR
        refine ⟨μ', m', rp_Le_tr (rp_Le_tr (T106 (nI (o i)) _ _) ?_) (D_Ref_goThrough_29 _ _ _ μ)⟩
        simp (disch := omega) only [eq_false hlt0, eq_false hlt1, if_false, ew, en, thI_RI, lt_nI, nI_add, pk_mul, nI_clamp, nI_leI, nI_ltI, nI_eq, ixT, cond_true, g0 (o i) qa.1, g0 (o (i + 1)) qb.1, hc.1, if_true, hc.2, c', thV_RV]
        exact rp_Le_rfl
      · refine ⟨μ, ?_, rp_Le_tr (rp_Le_tr (T106 (nI (o i)) _ _) ?_) (D_Ref_goThrough_29 _ _ _ μ)⟩
        · show TMr σ μ (legT (R σ) K (o i) (o (i + 1)) (goT (R σ) K o i))
          unfold legT
          rw [if_neg hc]
          exact hR
        · simp (disch := omega) only [eq_false hlt0, eq_false hlt1, if_false, ew, en, thI_RI, lt_nI, nI_add, pk_mul, nI_clamp, nI_leI, nI_ltI, nI_eq, ixT, cond_true, g0 (o i) qa.1, g0 (o (i + 1)) qb.1]
          by_cases h1 : sn (R σ) (o i) 1 = sn (R σ) (o (i + 1)) 1
          · have h2 : sn (R σ) (o i) 3 = sn (R σ) (o (i + 1)) 3 := Classical.byContradiction fun h2 => hc ⟨h1, h2⟩
            simp only [eq_true h1, eq_true h2, if_true]
            exact rp_Le_rfl
          · simp only [eq_false h1, if_false]
            exact rp_Le_rfl) (s := μ0) m0
    refine ⟨μ1, cl_le rfl (rp_Le_tr (rp_Le_tr (rp_Le_tr ?_ (D_Ref_goThrough_29 _ _ _ μ1)) L1) St), m1⟩
    have qa := o2 (n - 1) (by omega)
    have ew := x_whenOf (sc := sc) (σ := μ1) (by rw [rr m1]; exact h) (s := o (n - 1)) (by rw [rr m1]; exact qa.1)
    rw [rr m1] at ew
    have en := nx (n - 1) (by omega) m1
    rw [if_neg (by omega)] at en
    have hlt0 : ¬ nI (o (n - 1)) < 0 := nI_pos (by omega)
    rw [if_neg hlt0, ew, thI_RI, en, thI_RI, if_pos (by decide)]
    refine rp_Le_tr (rp_Le_tr ?_ (D_Ref_goThrough_29 _ _ _ μ1)) (T106 _ _ _)
    rw [if_pos (by decide)]
    exact rp_Le_rfl
  · rw [if_neg hn] at St
    refine ⟨μ0, cl_le rfl (rp_Le_tr (rp_Le_tr ?_ (D_Ref_goThrough_29 _ _ _ μ0)) St), by rw [show n - 1 = 0 by omega]; exact m0⟩
    rw [if_pos (by decide)]
    exact rp_Le_rfl
end
