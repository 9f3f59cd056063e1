/-! a new row of a table, cell by cell; loops with an invariant -/
theorem lp_inv {S : Type} {E : Nat → S → Option rp_Rs} (Iv : Nat → S → Prop) : ∀ {n : Nat}, (∀ i s, i < n → Iv i s → ∃ s', Iv (i + 1) s' ∧ rp_Le (E (i + 1) s') (E i s)) → ∀ {s : S}, Iv 0 s → ∃ s', Iv n s' ∧ rp_Le (E n s') (E 0 s) := by
  intro n
  induction n with
  | zero => intro _ s h; exact ⟨s, h, rp_Le_rfl⟩
  | succ n ih =>
    intro hs s h
    obtain ⟨s1, h1, l1⟩ := ih (fun i s hi => hs i s (by omega)) h
    obtain ⟨s2, h2, l2⟩ := hs n s1 (by omega) h1
    exact ⟨s2, h2, rp_Le_tr l2 l1⟩
theorem lp_inv_from {S : Type} {E : Nat → S → Option rp_Rs} (Iv : Nat → S → Prop) {a n : Nat} (h : a ≤ n) (hs : ∀ i s, a ≤ i → i < n → Iv i s → ∃ s', Iv (i + 1) s' ∧ rp_Le (E (i + 1) s') (E i s)) {s : S} (h0 : Iv a s) : ∃ s', Iv n s' ∧ rp_Le (E n s') (E a s) := by
  have := lp_inv (E := fun k => E (a + k)) (fun k => Iv (a + k)) (n := n - a) (fun i s hi => hs (a + i) s (by omega) (by omega)) (s := s) h0
  have e : a + (n - a) = n := by omega
  simp only [e, Nat.add_zero] at this
  exact this
/-- a row under way: j cells are told, those behind are 0 -/
def RowIn (σ μ : rp_Mm) (t tc tw n j : Nat) (v : Nat → Nat) : Prop := Fr (fun a k => (a = t ∧ k = 3) ∨ (a = tc + 1 ∧ tw * n ≤ k)) σ μ ∧ μ t 3 = nI (n + 1) ∧ (∀ q, q < j → μ (tc + 1) (tw * n + q) = nI (v q)) ∧ ∀ q, j ≤ q → q < tw → μ (tc + 1) (tw * n + q) = nI 0
section
variable {sc : rp_Sc} {σ μ : rp_Mm} {t tc tq tl tw : Nat}
theorem row0 (h : TB t tc tq tl tw) {n : Nat} (v : Nat → Nat) (hn : σ t 3 = nI n) (hl : n < tl) : ∃ μ, CL sc 3 [.ref t] σ = RI (nI n) μ ∧ RowIn σ μ t tc tw n 0 v := by
  refine ⟨_, s_append h hn hl, ?_, app_n h.2.2.2.2.2.2, fun q hq => absurd hq (by omega), fun q _ hq => ?_⟩
  · exact Fr_blk (Fr_wr Fr_rfl (Or.inl ⟨rfl, rfl⟩)) (fun k h1 _ => Or.inr ⟨rfl, h1⟩)
  · unfold app
    rw [blk_i (by omega) (by omega)]
theorem rowS (h : TB t tc tq tl tw) {n j : Nat} {v : Nat → Nat} (hR : RowIn σ μ t tc tw n j v) (hl : n < tl) (hj : j < tw) : ∃ μ', CL sc 5 [.ref t, .int (nI n), .int (nI j), .int (nI (v j))] μ = RV μ' ∧ RowIn σ μ' t tc tw n (j + 1) v := by
  obtain ⟨a, b, c, d⟩ := hR
  refine ⟨_, s_set h b (by omega) (by omega) hj, Fr_wr a (Or.inr ⟨rfl, by omega⟩), ?_, fun q hq => ?_, fun q h1 h2 => ?_⟩
  · rw [wr_n2 (fun e => h.2.2.2.2.2.2 e.symm)]; exact b
  · by_cases e : q = j
    · subst e; exact wr_eq
    · rw [wr_nk (by omega)]; exact c q (by omega)
  · rw [wr_nk (by omega)]; exact d q (by omega) h2
end
