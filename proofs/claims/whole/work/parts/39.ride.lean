/-! ride -/
def v3 (a b c : Nat) : Nat → Nat := fun q => match q with
  | 0 => a
  | 1 => b
  | _ => c
theorem lt3 {q : Nat} (h : q < 3) : q = 0 ∨ q = 1 ∨ q = 2 := by omega
theorem BJ_fr {P : Nat → Nat → Prop} {σ σ' r : rp_Mm} (f : Fr P σ σ') (hp : ∀ a k, a < 9 → ¬ P (2 + a) k) (h : BJ (C σ) r) : BJ (C σ') r := by
  obtain ⟨a1, a2, a3, a4, a5, a6, a7⟩ := h
  have e : ∀ a, a < 9 → C σ' a = C σ a := fun a ha => C_fa f (fun k => hp a k ha)
  refine ⟨a1, by rw [e 1 (by decide)]; exact a2, by rw [e 3 (by decide)]; exact a3, by rw [e 7 (by decide)]; exact a4, ?_, ?_, ?_⟩
  · intro l hl q hq
    rw [e 2 (by decide)]; exact a5 l hl q hq
  · intro l hl
    rw [e 4 (by decide)]; exact a6 l hl
  · intro l hl
    rw [e 8 (by decide)]; exact a7 l hl
theorem bar0 {r : rp_Mm} (h : RB r) {p t d : Nat} (hp : p < nP r) (hb : barN r p t d = 0) : isC r p (cdN r t d (ps r p 5)) (nR r) = true ∨ cdays r p < ps r p 0 := by
  have b := b_ps h hp
  unfold barN at hb
  split at hb
  · omega
  · split at hb
    · omega
    · split at hb
      · omega
      · split at hb
        · omega
        · rename_i h4
          cases hc : isC r p (cdN r t d (ps r p 5)) (nR r) with
          | true => exact Or.inl rfl
          | false => right; have : ¬ cdays r p = ps r p 0 := fun e => h4 ⟨hc, e⟩; omega
section
variable {sc : rp_Sc} {σ r : rp_Mm}
theorem y_ride (hB : BI (C σ) r) {p t d : Nat} (hp : p < nP r) (ht : t < nT r) (hd : d ≤ 120) (hR : nR r < 40) (hb : barN r p t d = 0) : ∃ σ1, CL sc 76 [.ref 1, .int (nI p), .int (nI t), .int (nI d)] σ = RI (nI (paysN r (ps r p 6) (ps r p 7) t)) σ1 ∧ Fr (fun a k => (a = 11 ∧ k = 3) ∨ (a = 12 ∧ 5 * nR r ≤ k)) σ σ1 ∧ σ1 11 3 = nI (nR r + 1) ∧ ∀ q, q < 5 → σ1 12 (5 * nR r + q) = nI (v5 p t d (cdN r t d (ps r p 5)) (paysN r (ps r p 6) (ps r p 7) t) q) := by
  have bn := b_n hB.1
  have b := b_ps hB.1 hp
  obtain ⟨n, hn⟩ : ∃ n, n = nR r := ⟨_, rfl⟩
  have hz := c_nR hB
  have hJ := BJ_of hB
  rw [← hn] at hz hR ⊢
  have a0 := s_append (sc := sc) TB11 hz hR
  have z0 : app σ 11 11 5 n 11 3 = nI (n + 1) := app_n (by decide)
  have s0 := s_set (sc := sc) TB11 (v := nI p) z0 (by omega) (show n < n + 1 by omega) (show 0 < 5 by decide)
  have z1 := (wr_n2 (a := 12) (b := 11) (k := 5 * n + 0) (j := 3) (x := nI p) (by decide)).trans z0
  have s1 := s_set (sc := sc) TB11 (v := nI t) z1 (by omega) (show n < n + 1 by omega) (show 1 < 5 by decide)
  have z2 := (wr_n2 (a := 12) (b := 11) (k := 5 * n + 1) (j := 3) (x := nI t) (by decide)).trans z1
  have s2 := s_set (sc := sc) TB11 (v := nI d) z2 (by omega) (show n < n + 1 by omega) (show 2 < 5 by decide)
  have z3 := (wr_n2 (a := 12) (b := 11) (k := 5 * n + 2) (j := 3) (x := nI d) (by decide)).trans z2
  obtain ⟨μ3, em3⟩ : ∃ x, x = rp_wr (rp_wr (rp_wr (app σ 11 11 5 n) 12 (5 * n + 0) (nI p)) 12 (5 * n + 1) (nI t)) 12 (5 * n + 2) (nI d) := ⟨_, rfl⟩
  have f3 : Fr (fun a k => (a = 11 ∧ k = 3) ∨ (a = 12 ∧ 5 * n ≤ k)) σ μ3 := by
    rw [em3]
    refine Fr_wr (Fr_wr (Fr_wr (Fr_blk (Fr_wr Fr_rfl (Or.inl ⟨rfl, rfl⟩)) ?_) ?_) ?_) ?_
    · intro k h1 h2
      exact Or.inr ⟨rfl, h1⟩
    all_goals exact Or.inr ⟨rfl, by omega⟩
  have v0 : μ3 12 (5 * n + 0) = nI p := by rw [em3]; simp (disch := omega) only [wr_eq, wr_nk]
  have v1 : μ3 12 (5 * n + 1) = nI t := by rw [em3]; simp (disch := omega) only [wr_eq, wr_nk]
  have v2 : μ3 12 (5 * n + 2) = nI d := by rw [em3]; simp (disch := omega) only [wr_eq, wr_nk]
  have z3 : μ3 11 3 = nI (n + 1) := by rw [em3]; exact z3
  have s2 : CL sc 5 [.ref 11, .int (nI n), .int (nI 2), .int (nI d)] (rp_wr (rp_wr (app σ 11 11 5 n) 12 (5 * n + 0) (nI p)) 12 (5 * n + 1) (nI t)) = RV μ3 := by rw [em3]; exact s2
  have j3 := BJ_fr f3 (fun a k ha => by omega) hJ
  have k1 := y_cday (sc := sc) j3 (d := d) ht TB9 (fun q hq => j_ps j3 hp hq) b.1 (by omega)
  have s3 := s_set (sc := sc) TB11 (v := nI (cdN r t d (ps r p 5))) z3 (by omega) (show n < n + 1 by omega) (show 3 < 5 by decide)
  obtain ⟨μ4, em4⟩ : ∃ x, x = rp_wr μ3 12 (5 * n + 3) (nI (cdN r t d (ps r p 5))) := ⟨_, rfl⟩
  have s3 : CL sc 5 [.ref 11, .int (nI n), .int (nI 3), .int (nI (cdN r t d (ps r p 5)))] μ3 = RV μ4 := by rw [em4]; exact s3
  have f4 : Fr (fun a k => (a = 11 ∧ k = 3) ∨ (a = 12 ∧ 5 * n ≤ k)) σ μ4 := by rw [em4]; exact Fr_wr f3 (Or.inr ⟨rfl, by omega⟩)
  have z4 : μ4 11 3 = nI (n + 1) := by rw [em4, wr_n2 (by decide)]; exact z3
  have j4 := BJ_fr f4 (fun a k ha => by omega) hJ
  have k2 := y_pays (sc := sc) j4 ht TB9 (fun q hq => j_ps j4 hp hq) b.1
  have s4 := s_set (sc := sc) TB11 (v := nI (paysN r (ps r p 6) (ps r p 7) t)) z4 (by omega) (show n < n + 1 by omega) (show 4 < 5 by decide)
  obtain ⟨μ5, em5⟩ : ∃ x, x = rp_wr μ4 12 (5 * n + 4) (nI (paysN r (ps r p 6) (ps r p 7) t)) := ⟨_, rfl⟩
  have s4 : CL sc 5 [.ref 11, .int (nI n), .int (nI 4), .int (nI (paysN r (ps r p 6) (ps r p 7) t))] μ4 = RV μ5 := by rw [em5]; exact s4
  have f5 : Fr (fun a k => (a = 11 ∧ k = 3) ∨ (a = 12 ∧ 5 * n ≤ k)) σ μ5 := by rw [em5]; exact Fr_wr f4 (Or.inr ⟨rfl, by omega⟩)
  have z5 : μ5 11 3 = nI (n + 1) := by rw [em5, wr_n2 (by decide)]; exact z4
  have hadd : CL sc 77 [.ref 2, .int (nI p), .int (nI t), .int (nI d)] σ = RI (nI n) μ5 := by
    refine cl_of (D_Book_addRide_0 _ _ _ σ) rfl ?_
    simp (disch := omega) only [lt_nI, nI_add, pk_mul, a0, s0, s1, s2, s3, s4, k1, k2, thI_RI, thV_RV]
  have g4 := s_get (sc := sc) TB11 z5 (by omega) (show n < n + 1 by omega) (show 4 < 5 by decide)
  have w4 : μ5 12 (5 * n + 4) = nI (paysN r (ps r p 6) (ps r p 7) t) := by rw [em5]; exact wr_eq
  have w3 : μ5 12 (5 * n + 3) = nI (cdN r t d (ps r p 5)) := by rw [em5, wr_nk (by omega), em4]; exact wr_eq
  have wq : ∀ k, k < 5 * n + 3 → μ5 12 k = μ3 12 k := fun k hk => by rw [em5, wr_nk (by omega), em4, wr_nk (by omega)]
  refine ⟨μ5, cl_of (D_RailPasses_ride_0 _ _ _ σ) rfl ?_, f5, z5, ?_⟩
  · simp (disch := omega) only [lt_nI, nI_add, pk_mul, nI_clamp, nI_leI, nI_ltI, nI_eq, ixT, cond_true, Nat.reduceEqDiff, Nat.reduceLeDiff, reduceIte, h_ps hB, hsB_t hp, h_tr hB, hsB_t ht, s_isDay, inB_n, thI_RI, s_isFull TB11 σ hz, show ¬ n = 40 by omega, if_false, y_bar hB hp ht hd, hb, hadd, g4]
    rw [w4]
  · intro q hq
    rcases lt5 hq with rfl | rfl | rfl | rfl | rfl
    · rw [wq _ (by omega)]; exact v0
    · rw [wq _ (by omega)]; exact v1
    · rw [wq _ (by omega)]; exact v2
    · exact w3
    · exact w4
theorem x_ride (h : RB (R σ)) {p t d : Nat} (hp : p < nP (R σ)) (ht : t < nT (R σ)) (hd : d ≤ 120) (hR : nR (R σ) < 40) (hb : barN (R σ) p t d = 0) : ∃ σ1, CL sc 182 [.ref 47, .int (nI p), .int (nI t), .int (nI d)] σ = RI (nI (paysN (R σ) (ps (R σ) p 6) (ps (R σ) p 7) t)) σ1 ∧ Fr (fun a k => (a = 48 ∧ k = 3) ∨ (a = 53 ∧ 3 * nR (R σ) ≤ k)) σ σ1 ∧ σ1 48 3 = nI (nR (R σ) + 1) ∧ ∀ q, q < 3 → σ1 53 (3 * nR (R σ) + q) = nI (v3 p t d q) := by
  sorry
end
