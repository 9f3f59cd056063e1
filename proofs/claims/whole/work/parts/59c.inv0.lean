theorem xi_inv {μ : rp_Mm} (h : xi_cells μ = true) : Inv μ := by
  unfold xi_cells at h
  simp only [Bool.and_eq_true, beq_iff_eq, List.all_eq_true, List.mem_range] at h
  obtain ⟨h48, h36, hs, h7, h2, h32, h47, h42, h1, hk⟩ := h
  have z0 : ∀ k, k < 7 → R μ 0 k = nI 0 := fun k hk => (R_at (a := 0) hk).trans (h48 k hk)
  have n0 : ∀ k, k < 7 → N1 (R μ) 0 k = 0 := fun k hk => by unfold N1; rw [z0 k hk]; rfl
  have z3 : ∀ k, k < 36 → R μ 3 k = nI 0 := fun k hk => (R_at (a := 3) hk).trans (h36 k hk).1
  have n3 : ∀ k, k < 36 → N1 (R μ) 3 k = 0 := fun k hk => by unfold N1; rw [z3 k hk]; rfl
  have eL : nL (R μ) = 0 := n0 0 (by decide)
  have eT : nT (R μ) = 0 := n0 1 (by decide)
  have eP : nP (R μ) = 0 := n0 2 (by decide)
  have eR : nR (R μ) = 0 := n0 3 (by decide)
  have eW : nW (R μ) = 0 := n0 4 (by decide)
  have eS : nS (R μ) = 0 := n0 5 (by decide)
  have eD : nD (R μ) = 0 := n0 6 (by decide)
  have lz : ∀ l q, l < 3 → q < 12 → lw (R μ) l q = 0 := fun l q hl hq => n3 _ (by omega)
  have c3 : ∀ a, a ∈ [3, 5, 9, 11, 13, 15] → μ a 3 = nI 0 := fun a ha => hs a ha
  refine ⟨⟨⟨⟨fun k hk => ?_, by omega, by omega, by omega, by omega, by omega, by omega, by omega⟩, fun l hl => absurd hl (by omega), fun l hl => absurd hl (by omega), fun l hl => ?_, fun l hl => absurd hl (by omega), fun l hl => absurd hl (by omega), fun l hl => absurd hl (by omega), fun l hl => absurd hl (by omega)⟩, ⟨?_, ?_, ?_, ?_, ?_, ?_, ?_, ?_⟩, fun l hl => absurd hl (by omega), fun l hl => absurd hl (by omega), fun l hl q hq => ?_, fun l hl => absurd hl (by omega), fun l hl => absurd hl (by omega), fun l hl => absurd hl (by omega), fun l hl => absurd hl (by omega)⟩, ⟨0, by decide, h32, h47 9 (by decide), fun k hk => absurd hk (by omega)⟩, ⟨0, by decide, h42, h47 25 (by decide), fun k hk => absurd hk (by omega)⟩, Or.inl ⟨h1, h47 30 (by decide)⟩, ⟨fun a b => if a = b then 0 else 536870912, fun a b ha hb => ?_, ?_⟩⟩
  · unfold Ok; rw [z0 k hk, n0 k hk]
  · refine ⟨fun q hq => ?_, ?_, ?_, ?_, ?_⟩
    · unfold Ok; rw [z3 _ (by omega), n3 _ (by omega)]
    · unfold TM
      rw [lz l 0 hl (by decide), lz l 1 hl (by decide), lz l 2 hl (by decide), lz l 3 hl (by decide), lz l 4 hl (by decide), lz l 5 hl (by decide), lz l 6 hl (by decide), lz l 7 hl (by decide), lz l 8 hl (by decide), lz l 9 hl (by decide), lz l 10 hl (by decide)]
      decide
    · rw [lz l 11 hl (by decide)]; decide
    · exact fun _ => ⟨lz l 0 hl (by decide), lz l 1 hl (by decide)⟩
    · rw [lz l 11 hl (by decide)]; intro h; cases h
  · rw [eL]; exact (C_at (a := 1) (k := 3) rfl).trans (c3 3 (by decide))
  · rw [eT]; exact (C_at (a := 3) (k := 3) rfl).trans (c3 5 (by decide))
  · exact (C_at (a := 5) (k := 3) rfl).trans h7
  · rw [eP]; exact (C_at (a := 7) (k := 3) rfl).trans (c3 9 (by decide))
  · rw [eR]; exact (C_at (a := 9) (k := 3) rfl).trans (c3 11 (by decide))
  · rw [eW]; exact (C_at (a := 11) (k := 3) rfl).trans (c3 13 (by decide))
  · rw [eS]; exact (C_at (a := 13) (k := 3) rfl).trans (c3 15 (by decide))
  · rw [eD]; exact (C_at (a := 0) (k := 7) rfl).trans h2
  · rw [lz l q hl hq]; exact (C_ar (a := 6) (k := 12 * l + q) (show _ < 36 by omega)).trans (h36 _ (by omega)).2
  · dsimp only
    rw [hk (10 * a + b) (by omega)]
    by_cases e : a = b
    · rw [if_pos (by omega), if_pos e]; rfl
    · rw [if_neg (by omega), if_neg e]; rfl
  · refine ⟨fun a _ => if_pos rfl, fun a b _ _ => by dsimp only; split <;> omega, fun l hl => absurd hl (by omega), fun a b c _ _ _ => ?_, fun φ hφ _ a b ha hb => ?_⟩
    · dsimp only
      repeat' split
      all_goals omega
    · dsimp only
      have := hφ b hb
      split
      next e => subst e; omega
      next => omega
