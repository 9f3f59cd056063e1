/-! ride -/
def v3 (a b c : Nat) : Nat → Nat := fun q => match q with
  | 0 => a
  | 1 => b
  | _ => c
theorem lt3 {q : Nat} (h : q < 3) : q = 0 ∨ q = 1 ∨ q = 2 := by omega
theorem BJ_fr {P : Nat → Nat → Prop} {σ σ' r : rp_Mm} (f : Fr P σ σ') (hp : ∀ a k, a < 9 → ¬ P (2 + a) k) (h : BJ (C σ) r) : BJ (C σ') r := by
  obtain ⟨a1, a2, a3, a4, a5, a6, a7⟩ := h
  have e : ∀ a, a < 9 → C σ' a = C σ a := fun a ha => C_fa f (fun k => hp a k ha)
  refine ⟨a1, by rw [e 1 (by decide)]; exact a2, by rw [e 3 (by decide)]; exact a3, by rw [e 7 (by decide)]; exact a4, ?_, ?_, ?_⟩
  · intro l hl q hq
    rw [e 2 (by decide)]; exact a5 l hl q hq
  · intro l hl
    rw [e 4 (by decide)]; exact a6 l hl
  · intro l hl
    rw [e 8 (by decide)]; exact a7 l hl
theorem bar0 {r : rp_Mm} (h : RB r) {p t d : Nat} (hp : p < nP r) (hb : barN r p t d = 0) : isC r p (cdN r t d (ps r p 5)) (nR r) = true ∨ cdays r p < ps r p 0 := by
  have b := b_ps h hp
  unfold barN at hb
  split at hb
  · omega
  · split at hb
    · omega
    · split at hb
      · omega
      · split at hb
        · omega
        · rename_i h4
          cases hc : isC r p (cdN r t d (ps r p 5)) (nR r) with
          | true => exact Or.inl rfl
          | false => right; have : ¬ cdays r p = ps r p 0 := fun e => h4 ⟨hc, e⟩; omega
section
variable {sc : rp_Sc} {σ r : rp_Mm}
theorem y_ride (hB : BI (C σ) r) {p t d : Nat} (hp : p < nP r) (ht : t < nT r) (hd : d ≤ 120) (hR : nR r < 40) (hb : barN r p t d = 0) : ∃ σ1, CL sc 76 [.ref 1, .int (nI p), .int (nI t), .int (nI d)] σ = RI (nI (paysN r (ps r p 6) (ps r p 7) t)) σ1 ∧ Fr (fun a k => (a = 11 ∧ k = 3) ∨ (a = 12 ∧ 5 * nR r ≤ k)) σ σ1 ∧ σ1 11 3 = nI (nR r + 1) ∧ ∀ q, q < 5 → σ1 12 (5 * nR r + q) = nI (v5 p t d (cdN r t d (ps r p 5)) (paysN r (ps r p 6) (ps r p 7) t) q) := by
  have bn := b_n hB.1
  have b := b_ps hB.1 hp
  obtain ⟨n, hn⟩ : ∃ n, n = nR r := ⟨_, rfl⟩
  have hz := c_nR hB
  have hJ := BJ_of hB
  rw [← hn] at hz hR ⊢
  have a0 := s_append (sc := sc) TB11 hz hR
  have z0 : app σ 11 11 5 n 11 3 = nI (n + 1) := app_n (by decide)
  have s0 := s_set (sc := sc) TB11 (v := nI p) z0 (by omega) (show n < n + 1 by omega) (show 0 < 5 by decide)
  have z1 := (wr_n2 (a := 12) (b := 11) (k := 5 * n + 0) (j := 3) (x := nI p) (by decide)).trans z0
  have s1 := s_set (sc := sc) TB11 (v := nI t) z1 (by omega) (show n < n + 1 by omega) (show 1 < 5 by decide)
  have z2 := (wr_n2 (a := 12) (b := 11) (k := 5 * n + 1) (j := 3) (x := nI t) (by decide)).trans z1
  have s2 := s_set (sc := sc) TB11 (v := nI d) z2 (by omega) (show n < n + 1 by omega) (show 2 < 5 by decide)
  have z3 := (wr_n2 (a := 12) (b := 11) (k := 5 * n + 2) (j := 3) (x := nI d) (by decide)).trans z2
  obtain ⟨μ3, em3⟩ : ∃ x, x = rp_wr (rp_wr (rp_wr (app σ 11 11 5 n) 12 (5 * n + 0) (nI p)) 12 (5 * n + 1) (nI t)) 12 (5 * n + 2) (nI d) := ⟨_, rfl⟩
  have f3 : Fr (fun a k => (a = 11 ∧ k = 3) ∨ (a = 12 ∧ 5 * n ≤ k)) σ μ3 := by
    rw [em3]
    refine Fr_wr (Fr_wr (Fr_wr (Fr_blk (Fr_wr Fr_rfl (Or.inl ⟨rfl, rfl⟩)) ?_) ?_) ?_) ?_
    · intro k h1 h2
      exact Or.inr ⟨rfl, h1⟩
    all_goals exact Or.inr ⟨rfl, by omega⟩
  have v0 : μ3 12 (5 * n + 0) = nI p := by rw [em3]; simp (disch := omega) only [wr_eq, wr_nk]
  have v1 : μ3 12 (5 * n + 1) = nI t := by rw [em3]; simp (disch := omega) only [wr_eq, wr_nk]
  have v2 : μ3 12 (5 * n + 2) = nI d := by rw [em3]; simp (disch := omega) only [wr_eq, wr_nk]
  have z3 : μ3 11 3 = nI (n + 1) := by rw [em3]; exact z3
  have s2 : CL sc 5 [.ref 11, .int (nI n), .int (nI 2), .int (nI d)] (rp_wr (rp_wr (app σ 11 11 5 n) 12 (5 * n + 0) (nI p)) 12 (5 * n + 1) (nI t)) = RV μ3 := by rw [em3]; exact s2
  have j3 := BJ_fr f3 (fun a k ha => by omega) hJ
  have k1 := y_cday (sc := sc) j3 (d := d) ht TB9 (fun q hq => j_ps j3 hp hq) b.1 (by omega)
  have s3 := s_set (sc := sc) TB11 (v := nI (cdN r t d (ps r p 5))) z3 (by omega) (show n < n + 1 by omega) (show 3 < 5 by decide)
  obtain ⟨μ4, em4⟩ : ∃ x, x = rp_wr μ3 12 (5 * n + 3) (nI (cdN r t d (ps r p 5))) := ⟨_, rfl⟩
  have s3 : CL sc 5 [.ref 11, .int (nI n), .int (nI 3), .int (nI (cdN r t d (ps r p 5)))] μ3 = RV μ4 := by rw [em4]; exact s3
  have f4 : Fr (fun a k => (a = 11 ∧ k = 3) ∨ (a = 12 ∧ 5 * n ≤ k)) σ μ4 := by rw [em4]; exact Fr_wr f3 (Or.inr ⟨rfl, by omega⟩)
  have z4 : μ4 11 3 = nI (n + 1) := by rw [em4, wr_n2 (by decide)]; exact z3
  have j4 := BJ_fr f4 (fun a k ha => by omega) hJ
  have k2 := y_pays (sc := sc) j4 ht TB9 (fun q hq => j_ps j4 hp hq) b.1
  have s4 := s_set (sc := sc) TB11 (v := nI (paysN r (ps r p 6) (ps r p 7) t)) z4 (by omega) (show n < n + 1 by omega) (show 4 < 5 by decide)
  obtain ⟨μ5, em5⟩ : ∃ x, x = rp_wr μ4 12 (5 * n + 4) (nI (paysN r (ps r p 6) (ps r p 7) t)) := ⟨_, rfl⟩
  have s4 : CL sc 5 [.ref 11, .int (nI n), .int (nI 4), .int (nI (paysN r (ps r p 6) (ps r p 7) t))] μ4 = RV μ5 := by rw [em5]; exact s4
  have f5 : Fr (fun a k => (a = 11 ∧ k = 3) ∨ (a = 12 ∧ 5 * n ≤ k)) σ μ5 := by rw [em5]; exact Fr_wr f4 (Or.inr ⟨rfl, by omega⟩)
  have z5 : μ5 11 3 = nI (n + 1) := by rw [em5, wr_n2 (by decide)]; exact z4
  have hadd : CL sc 77 [.ref 2, .int (nI p), .int (nI t), .int (nI d)] σ = RI (nI n) μ5 := by
    refine cl_of (D_Book_addRide_0 _ _ _ σ) rfl ?_
    simp (disch := omega) only [lt_nI, nI_add, pk_mul, a0, s0, s1, s2, s3, s4, k1, k2, thI_RI, thV_RV]
  have g4 := s_get (sc := sc) TB11 z5 (by omega) (show n < n + 1 by omega) (show 4 < 5 by decide)
  have w4 : μ5 12 (5 * n + 4) = nI (paysN r (ps r p 6) (ps r p 7) t) := by rw [em5]; exact wr_eq
  have w3 : μ5 12 (5 * n + 3) = nI (cdN r t d (ps r p 5)) := by rw [em5, wr_nk (by omega), em4]; exact wr_eq
  have wq : ∀ k, k < 5 * n + 3 → μ5 12 k = μ3 12 k := fun k hk => by rw [em5, wr_nk (by omega), em4, wr_nk (by omega)]
  refine ⟨μ5, cl_of (D_RailPasses_ride_0 _ _ _ σ) rfl ?_, f5, z5, ?_⟩
  · simp (disch := omega) only [lt_nI, nI_add, pk_mul, nI_clamp, nI_leI, nI_ltI, nI_eq, ixT, cond_true, Nat.reduceEqDiff, Nat.reduceLeDiff, reduceIte, h_ps hB, hsB_t hp, h_tr hB, hsB_t ht, s_isDay, inB_n, thI_RI, s_isFull TB11 σ hz, show ¬ n = 40 by omega, if_false, y_bar hB hp ht hd, hb, hadd, g4]
    rw [w4]
  · intro q hq
    rcases lt5 hq with rfl | rfl | rfl | rfl | rfl
    · rw [wq _ (by omega)]; exact v0
    · rw [wq _ (by omega)]; exact v1
    · rw [wq _ (by omega)]; exact v2
    · exact w3
    · exact w4
/-- the reference's rows with a ride more -/
def rideM (σ : rp_Mm) (n p t d : Nat) : rp_Mm := rp_wr (rp_wr (rp_wr (rp_wr σ 54 (3 * n) (nI p)) 54 (3 * n + 1) (nI t)) 54 (3 * n + 2) (nI d)) 49 3 (nI (n + 1))
theorem x_ride (h : RB (R σ)) {p t d : Nat} (hp : p < nP (R σ)) (ht : t < nT (R σ)) (hd : d ≤ 120) (hR : nR (R σ) < 40) (hb : barN (R σ) p t d = 0) (h2 : RB (R (rideM σ (nR (R σ)) p t d))) (hp2 : p < nP (R (rideM σ (nR (R σ)) p t d))) (ht2 : t < nT (R (rideM σ (nR (R σ)) p t d))) : CL sc 185 [.ref 48, .int (nI p), .int (nI t), .int (nI d)] σ = RI (nI (paysN (R (rideM σ (nR (R σ)) p t d)) (ps (R (rideM σ (nR (R σ)) p t d)) p 6) (ps (R (rideM σ (nR (R σ)) p t d)) p 7) t)) (rideM σ (nR (R σ)) p t d) := by
  have bn := b_n h
  have bn2 := b_n h2
  have hz := r_nR h
  have e := x_pays (sc := sc) h2 (a := 52) (q := 128) (at' := 16 * p) (g := ps (R (rideM σ (nR (R σ)) p t d)) p) ht2 rfl (by omega) (by decide) (fun k hk => r_ps h2 hp2 (by omega)) (b_ps h2 hp2).1
  generalize paysN (R (rideM σ (nR (R σ)) p t d)) (ps (R (rideM σ (nR (R σ)) p t d)) p 6) (ps (R (rideM σ (nR (R σ)) p t d)) p 7) t = v at e ⊢
  refine cl_of (D_Ref_ride_0 _ _ _ σ) rfl ?_
  simp (disch := omega) only [lt_nI, nI_add, pk_mul, nI_clamp, nI_leI, nI_ltI, nI_eq, ixT, cond_true, Nat.reduceEqDiff, Nat.reduceLeDiff, reduceIte, x_isAsked h, hsB_t hp, hsB_t ht, inB_n, thI_RI, hz, show ¬ nR (R σ) = 40 by omega, x_bar h hp ht hd, hb, wr_n2]
  rw [show rp_wr (rp_wr (rp_wr (rp_wr σ 54 (3 * nR (R σ)) (nI p)) 54 (3 * nR (R σ) + 1) (nI t)) 54 (3 * nR (R σ) + 2) (nI d)) 49 3 (nI (nR (R σ) + 1)) = rideM σ (nR (R σ)) p t d from rfl, e, thI_RI]
theorem p_ride (hI : Inv σ) (p t d : Int32) : PM sc 76 [.ref 1, .int p, .int t, .int d] 185 [.ref 48, .int p, .int t, .int d] σ := by
  have hB := hI.1
  have bn := b_n hB.1
  rcases hsB_c p (n := nP (R σ)) (by omega) with e1 | ⟨p, hp, rfl, e1⟩
  · refine pm_ro hI (v := -1) (cl_of (D_RailPasses_ride_0 _ _ _ σ) rfl ?_) (cl_of (D_Ref_ride_0 _ _ _ σ) rfl ?_)
    · simp only [lt_nI, nI_add, pk_mul, h_ps hB, e1, thI_RI, if_true]
    · simp only [lt_nI, nI_add, pk_mul, x_isAsked hB.1, e1, thI_RI, if_true]
  rcases hsB_c t (n := nT (R σ)) (by omega) with e2 | ⟨t, ht, rfl, e2⟩
  · refine pm_ro hI (v := -1) (cl_of (D_RailPasses_ride_0 _ _ _ σ) rfl ?_) (cl_of (D_Ref_ride_0 _ _ _ σ) rfl ?_)
    · simp only [lt_nI, nI_add, pk_mul, h_ps hB, h_tr hB, e1, e2, i_0, thI_RI, if_true, if_false]
    · simp only [lt_nI, nI_add, pk_mul, x_isAsked hB.1, e1, e2, i_0, thI_RI, if_true, if_false]
  rcases inB_c d (a := 0) (b := 120) (by decide) (by decide) with e3 | ⟨d, -, hd, rfl, e3⟩
  · refine pm_ro hI (v := -1) (cl_of (D_RailPasses_ride_0 _ _ _ σ) rfl ?_) (cl_of (D_Ref_ride_0 _ _ _ σ) rfl ?_)
    · simp only [lt_nI, nI_add, pk_mul, h_ps hB, h_tr hB, s_isDay, e1, e2, e3, i_0, thI_RI, if_true, if_false]
    · simp only [lt_nI, nI_add, pk_mul, x_isAsked hB.1, e1, e2, e3, i_0, thI_RI, if_true, if_false]
  by_cases hR : nR (R σ) < 40
  · have bb := barN_le (R σ) p t d
    by_cases hb : barN (R σ) p t d = 0
    · obtain ⟨σ1, c1, c2, c3, c4⟩ := y_ride (sc := sc) hB hp ht hd hR hb
      have er : R σ1 = R σ := R_fr c2 (fun a k ha => by omega)
      have b := b_ps hB.1 hp
      obtain ⟨σ2, es2⟩ : ∃ x, x = rideM σ1 (nR (R σ)) p t d := ⟨_, rfl⟩
      have d2 : Fr (fun a k => (a = 49 ∧ k = 3) ∨ (a = 54 ∧ 3 * nR (R σ) ≤ k)) σ1 σ2 := by
        rw [es2]
        exact Fr_wr (Fr_wr (Fr_wr (Fr_wr Fr_rfl (Or.inr ⟨rfl, by omega⟩)) (Or.inr ⟨rfl, by omega⟩)) (Or.inr ⟨rfl, by omega⟩)) (Or.inl ⟨rfl, rfl⟩)
      have d3 : σ2 49 3 = nI (nR (R σ) + 1) := by rw [es2]; exact wr_eq
      have d4 : ∀ q, q < 3 → σ2 54 (3 * nR (R σ) + q) = nI (v3 p t d q) := by
        intro q hq
        rw [es2]
        unfold rideM
        rcases lt3 hq with rfl | rfl | rfl <;> simp (disch := omega) only [wr_n2, wr_eq, wr_nk, Nat.add_zero] <;> rfl
      have f : Fr (fun a k => (a = 11 ∧ k = 3) ∨ (a = 12 ∧ 5 * nR (R σ) ≤ k) ∨ (a = 49 ∧ k = 3) ∨ (a = 54 ∧ 3 * nR (R σ) ≤ k)) σ σ2 := Fr_tr (Fr_mo c2 (fun _ _ => by omega)) (Fr_mo d2 (fun _ _ => by omega))
      have ha : ∀ a, a < 8 → a ≠ 0 → a ≠ 5 → R σ2 a = R σ a := fun a h8 h0 h6 => R_fa f (fun _ => by omega)
      have r0 : ∀ k, k ≠ 3 → R σ2 0 k = R σ 0 k := fun k hk => R_fk f (by omega)
      have rj : R σ2 0 3 = nI (nR (R σ) + 1) := by rw [R_at (by decide)]; exact d3
      have eR : nR (R σ2) = nR (R σ) + 1 := N1_n rj (by omega)
      have eP : nP (R σ2) = nP (R σ) := N1_e (r0 2 (by decide))
      have eT : nT (R σ2) = nT (R σ) := N1_e (r0 1 (by decide))
      have hv : ∀ q, q < 3 → v3 p t d q < 2 ^ 31 := fun q hq => by
        rcases lt3 hq with rfl | rfl | rfl <;> simp only [v3] <;> omega
      have qn : ∀ q, q < 3 → R σ2 5 (3 * nR (R σ) + q) = nI (v3 p t d q) := fun q hq => by rw [R_at (by simp only [lenR]; omega)]; exact d4 q hq
      have qo : ∀ k, k < 3 * nR (R σ) → R σ2 5 k = R σ 5 k := fun k hk => R_fk f (by omega)
      have cn : ∀ q, q < 5 → C σ2 10 (5 * nR (R σ) + q) = nI (v5 p t d (cdN (R σ) t d (ps (R σ) p 5)) (paysN (R σ) (ps (R σ) p 6) (ps (R σ) p 7) t) q) := fun q hq => by rw [C_ar (by simp only [lenC]; omega), d2 _ _ (by omega)]; exact c4 q hq
      have co : ∀ k, k < 5 * nR (R σ) → C σ2 10 k = C σ 10 k := fun k hk => C_fk f (by omega)
      have wn : ∀ q, q < 3 → rd (R σ2) (nR (R σ)) q = v3 p t d q := fun q hq => N1_n (qn q hq) (hv q hq)
      have wo : ∀ w q, w < nR (R σ) → q < 3 → rd (R σ2) w q = rd (R σ) w q := fun w q hw hq => N1_e (qo _ (by omega))
      have hln := ln_t (ha 1 (by decide) (by decide) (by decide))
      have htr := tr_t (ha 2 (by decide) (by decide) (by decide))
      have hps := ps_t (ha 4 (by decide) (by decide) (by decide))
      have cdo : ∀ j, j < nR (R σ) → cdR (R σ2) j = cdR (R σ) j ∧ payR (R σ2) j = payR (R σ) j := fun j hj => by
        unfold cdR payR cdN paysN boatN
        rw [hln, htr, hps, wo j 0 hj (by decide), wo j 1 hj (by decide), wo j 2 hj (by decide)]
        exact ⟨rfl, rfl⟩
      have w0 : rd (R σ2) (nR (R σ)) 0 = p := wn 0 (by decide)
      have w1 : rd (R σ2) (nR (R σ)) 1 = t := wn 1 (by decide)
      have w2 : rd (R σ2) (nR (R σ)) 2 = d := wn 2 (by decide)
      have cdn : cdR (R σ2) (nR (R σ)) = cdN (R σ) t d (ps (R σ) p 5) ∧ payR (R σ2) (nR (R σ)) = paysN (R σ) (ps (R σ) p 6) (ps (R σ) p 7) t := by
        unfold cdR payR cdN paysN boatN
        rw [hln, htr, hps, w0, w1, w2]
        exact ⟨rfl, rfl⟩
      have hBI : BI (C σ2) (R σ2) := by
        refine bi_ride (m := nR (R σ) + 1) hB (by omega) ha r0 rj (fun a h8 h0 h6 => C_fa f (fun _ => by omega)) ?_ ?_ ?_ ?_
        · rw [C_at (by decide), d2 _ _ (by omega)]; exact c3
        · intro w hw
          rw [eR] at hw
          rw [eP, eT]
          by_cases hw2 : w = nR (R σ)
          · subst hw2
            rw [w0, w1, w2]
            exact ⟨fun q hq => Ok_n (qn q hq) (hv q hq), hp, ht, hd⟩
          · obtain ⟨o1, o2⟩ := hB.1.2.2.2.2.2.1 w (by omega)
            refine ⟨fun q hq => Ok_e (qo _ (by omega)) (o1 q hq), ?_⟩
            rw [wo w 0 (by omega) (by decide), wo w 1 (by omega) (by decide), wo w 2 (by omega) (by decide)]
            exact o2
        · intro j hj
          rw [eP] at hj
          obtain ⟨o1, o2⟩ := hB.1.2.2.2.2.1 j hj
          refine ⟨fun q hq => Ok_e (by rw [ha 4 (by decide) (by decide) (by decide)]) (o1 q hq), ?_⟩
          rw [hps]
          have hle : cdays (R σ2) j ≤ ps (R σ) j 0 := by
            have e4 : cnt (fun i => decide (rd (R σ2) i 0 = j) && !isC (R σ2) j (cdR (R σ2) i) i) (nR (R σ)) = cdays (R σ) j := by
              unfold cdays
              refine cnt_congr fun i hi => ?_
              rw [wo i 0 hi (by decide), (cdo i hi).1, isC_t fun k hk => ⟨wo k 0 (by omega) (by decide), (cdo k (by omega)).1⟩]
            unfold cdays
            rw [eR]
            unfold cnt
            rw [e4]
            have o3 := o2.2.2.2.2.2.2.2
            rw [w0]
            by_cases hjp : p = j
            · subst hjp
              rw [cdn.1, isC_t (r := R σ) fun k hk => ⟨wo k 0 (by omega) (by decide), (cdo k (by omega)).1⟩]
              rcases bar0 hB.1 hp hb with hc | hc
              · rw [hc]
                simp
                exact o3
              · split <;> omega
            · simp [hjp]
              exact o3
          exact ⟨o2.1, o2.2.1, o2.2.2.1, o2.2.2.2.1, o2.2.2.2.2.1, o2.2.2.2.2.2.1, o2.2.2.2.2.2.2.1, hle⟩
        · intro j hj
          rw [eR] at hj
          by_cases hj2 : j = nR (R σ)
          · subst hj2
            refine ⟨fun q hq => ?_, ?_, ?_⟩
            · rw [cn q (by omega), wn q hq]
              rcases lt3 hq with rfl | rfl | rfl <;> rfl
            · rw [cdn.1]; exact cn 3 (by decide)
            · rw [cdn.2]; exact cn 4 (by decide)
          · obtain ⟨o1, o2, o3⟩ := hB.2.2.2.2.2.2.1 j (by omega)
            refine ⟨fun q hq => ?_, ?_, ?_⟩
            · rw [co _ (by omega), wo j q (by omega) hq]; exact o1 q hq
            · rw [co _ (by omega), (cdo j (by omega)).1]; exact o2
            · rw [co _ (by omega), (cdo j (by omega)).2]; exact o3
      have d1 := x_ride (sc := sc) (σ := σ1) (p := p) (t := t) (d := d) (by rw [er]; exact hB.1) (by rw [er]; exact hp) (by rw [er]; exact ht) hd (by rw [er]; exact hR) (by rw [er]; exact hb)
      rw [er, ← es2] at d1
      have d1 := d1 hBI.1 (by rw [eP]; exact hp) (by rw [eT]; exact ht)
      rw [show paysN (R σ2) (ps (R σ2) p 6) (ps (R σ2) p 7) t = paysN (R σ) (ps (R σ) p 6) (ps (R σ) p 7) t by unfold paysN boatN; rw [hln, htr, hps]] at d1
      exact ⟨_, σ1, σ2, c1, d1, Inv_m (Fr_mo f (fun _ _ => by unfold Mu; omega)) hI hBI (N1_e (r0 0 (by decide))) (R_fa f (fun _ => by omega))⟩
    · refine pm_ro hI (v := -4) (cl_of (D_RailPasses_ride_0 _ _ _ σ) rfl ?_) (cl_of (D_Ref_ride_0 _ _ _ σ) rfl ?_)
      · simp (disch := omega) only [lt_nI, nI_add, pk_mul, nI_clamp, nI_leI, nI_ltI, nI_eq, ixT, cond_true, Nat.reduceEqDiff, Nat.reduceLeDiff, reduceIte, h_ps hB, h_tr hB, s_isDay, e1, e2, e3, thI_RI, s_isFull TB11 σ (c_nR hB), show ¬ nR (R σ) = 40 by omega, if_false, y_bar hB hp ht hd, hb]
      · simp (disch := omega) only [lt_nI, nI_add, pk_mul, nI_clamp, nI_leI, nI_ltI, nI_eq, ixT, cond_true, Nat.reduceEqDiff, Nat.reduceLeDiff, reduceIte, x_isAsked hB.1, e1, e2, e3, thI_RI, r_nR hB.1, show ¬ nR (R σ) = 40 by omega, x_bar hB.1 hp ht hd, hb]
  · have hR : nR (R σ) = 40 := by omega
    refine pm_ro hI (v := -2) (cl_of (D_RailPasses_ride_0 _ _ _ σ) rfl ?_) (cl_of (D_Ref_ride_0 _ _ _ σ) rfl ?_)
    · simp (disch := omega) only [lt_nI, nI_add, pk_mul, nI_clamp, nI_leI, nI_ltI, nI_eq, ixT, cond_true, Nat.reduceEqDiff, Nat.reduceLeDiff, reduceIte, h_ps hB, h_tr hB, s_isDay, e1, e2, e3, thI_RI, s_isFull TB11 σ (c_nR hB), hR]
    · simp (disch := omega) only [lt_nI, nI_add, pk_mul, nI_clamp, nI_leI, nI_ltI, nI_eq, ixT, cond_true, Nat.reduceEqDiff, Nat.reduceLeDiff, reduceIte, x_isAsked hB.1, e1, e2, e3, thI_RI, r_nR hB.1, hR]
end
