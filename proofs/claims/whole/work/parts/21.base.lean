/-! numbers, loops -/
theorem lit_nI (n : Nat) : (OfNat.ofNat n : Int32) = nI n := rfl
/-- a cell's number -/
def NN (f : rp_Mm) (a k : Nat) : Nat := (f a k).toNatClampNeg
def OK (f : rp_Mm) (a k : Nat) : Prop := f a k = nI (NN f a k) ∧ NN f a k < 2 ^ 31
theorem OK_of {f : rp_Mm} {a k n : Nat} (h : f a k = nI n) (hn : n < 2 ^ 31) : OK f a k ∧ NN f a k = n := by
  have e : NN f a k = n := by unfold NN; rw [h]; exact nI_clamp hn
  exact ⟨⟨by rw [e]; exact h, by rw [e]; exact hn⟩, e⟩
theorem ia_ok {α : Type} {x : Int32} {n q : Nat} {o : Option α} (hx : x = nI n) (hn : n < q) (hq : q < 2 ^ 31) : (bif rp_ix x q then o else none) = o := by
  have : rp_ix x q = true := by
    unfold rp_ix
    rw [hx, nI_toInt (by omega)]
    simp only [Bool.and_eq_true, decide_eq_true_eq]
    omega
  rw [this]
  rfl
theorem cl_nI {x : Int32} {n : Nat} (hx : x = nI n) (hn : n < 2 ^ 31) : x.toNatClampNeg = n := by rw [hx]; exact nI_clamp hn
/-- f at 0, 1, .. n-1, one behind the other -/
def foldn {α : Type} (f : Nat → α → α) : Nat → α → α
  | 0, a => a
  | n + 1, a => f n (foldn f n a)
theorem loop_up {α β : Type} (E : Nat → α → β) (f : Nat → α → α) {a : α} : ∀ (n : Nat), (∀ i, i < n → E i (foldn f i a) = E (i + 1) (foldn f (i + 1) a)) → E 0 a = E n (foldn f n a) := by
  intro n
  induction n with
  | zero => intro _; rfl
  | succ n ih => intro hs; exact (ih fun i hi => hs i (by omega)).trans (hs n (by omega))
theorem loop_any {β : Type} (E : Nat → β) (P : Nat → Prop) {r0 r1 : β} : ∀ (k i n : Nat), i + k = n → (∀ j, i ≤ j → j < n → P j → E j = r1) → (∀ j, i ≤ j → j < n → ¬ P j → E j = E (j + 1)) → E n = r0 → (∃ j, i ≤ j ∧ j < n ∧ P j) ∧ E i = r1 ∨ (∀ j, i ≤ j → j < n → ¬ P j) ∧ E i = r0 := by
  intro k
  induction k with
  | zero =>
    intro i n h _ _ h3
    have : i = n := by omega
    subst this
    exact Or.inr ⟨fun j h1 h2 => absurd h1 (by omega), h3⟩
  | succ k ih =>
    intro i n h h1 h2 h3
    by_cases hp : P i
    · exact Or.inl ⟨⟨i, Nat.le_refl _, by omega, hp⟩, h1 i (Nat.le_refl _) (by omega) hp⟩
    · have e := h2 i (Nat.le_refl _) (by omega) hp
      rcases ih (i + 1) n (by omega) (fun j a b c => h1 j (by omega) b c) (fun j a b c => h2 j (by omega) b c) h3 with ⟨⟨j, a, b, c⟩, q⟩ | ⟨a, q⟩
      · exact Or.inl ⟨⟨j, by omega, b, c⟩, e.trans q⟩
      · refine Or.inr ⟨fun j hj hn => ?_, e.trans q⟩
        by_cases hji : j = i
        · subst hji; exact hp
        · exact a j (by omega) hn
/-- how many below n -/
def cnt (P : Nat → Bool) : Nat → Nat
  | 0 => 0
  | n + 1 => cnt P n + (if P n then 1 else 0)
theorem cnt_le (P : Nat → Bool) : ∀ n, cnt P n ≤ n := by
  intro n
  induction n with
  | zero => exact Nat.le_refl _
  | succ n ih => unfold cnt; split <;> omega
theorem cnt_congr {P Q : Nat → Bool} : ∀ {n : Nat}, (∀ i, i < n → P i = Q i) → cnt P n = cnt Q n := by
  intro n
  induction n with
  | zero => intro _; rfl
  | succ n ih => intro h; unfold cnt; rw [ih fun i hi => h i (by omega), h n (by omega)]
/-- a sum below n -/
def sumn (f : Nat → Nat) : Nat → Nat
  | 0 => 0
  | n + 1 => sumn f n + f n
theorem sumn_congr {f g : Nat → Nat} : ∀ {n : Nat}, (∀ i, i < n → f i = g i) → sumn f n = sumn g n := by
  intro n
  induction n with
  | zero => intro _; rfl
  | succ n ih => intro h; unfold sumn; rw [ih fun i hi => h i (by omega), h n (by omega)]
theorem sumn_le {f : Nat → Nat} {b : Nat} : ∀ {n : Nat}, (∀ i, i < n → f i ≤ b) → sumn f n ≤ n * b := by
  intro n
  induction n with
  | zero => intro _; exact Nat.zero_le _
  | succ n ih =>
    intro h
    unfold sumn
    have h1 := ih fun i hi => h i (by omega)
    have h2 := h n (by omega)
    rw [Nat.succ_mul]
    omega
theorem wr_eq {σ : rp_Mm} {a k : Nat} {x : Int32} : rp_wr σ a k x a k = x := by simp [rp_wr]
theorem wr_nk {σ : rp_Mm} {a k j : Nat} {x : Int32} (h : j ≠ k) : rp_wr σ a k x a j = σ a j := by simp [rp_wr, h]
theorem wr_na {σ : rp_Mm} {a b k : Nat} {x : Int32} (h : b ≠ a) : rp_wr σ a k x b = σ b := by funext j; simp [rp_wr, h]
theorem wr_self {σ : rp_Mm} {a k : Nat} {x : Int32} (h : σ a k = x) : rp_wr σ a k x = σ := by
  funext b j
  unfold rp_wr
  split
  next e => split
            next e2 => rw [e, e2, h]
            next => rfl
  next => rfl
/-! tables of the class -/
def TB (t tc tq : Nat) (tl tw : Nat) : Prop := rp_L0[t]? = some (.inr (5, [some (.ref (tc + 1)), some (.int (nI tl)), some (.int (nI tw)), none])) ∧ rp_L0[tc + 1]? = some (.inl (false, tq)) ∧ tl * tw ≤ tq ∧ tq < 2 ^ 20 ∧ tw < 2 ^ 10 ∧ tl < 2 ^ 10 ∧ tc + 1 ≠ t
theorem TB3 : TB 3 3 70 14 5 := ⟨rfl, rfl, by decide, by decide, by decide, by decide, by decide⟩
theorem TB5 : TB 5 5 144 16 9 := ⟨rfl, rfl, by decide, by decide, by decide, by decide, by decide⟩
theorem TB7 : TB 7 7 36 3 12 := ⟨rfl, rfl, by decide, by decide, by decide, by decide, by decide⟩
theorem TB9 : TB 9 9 120 8 15 := ⟨rfl, rfl, by decide, by decide, by decide, by decide, by decide⟩
theorem TB11 : TB 11 11 200 40 5 := ⟨rfl, rfl, by decide, by decide, by decide, by decide, by decide⟩
theorem TB13 : TB 13 13 20 10 2 := ⟨rfl, rfl, by decide, by decide, by decide, by decide, by decide⟩
theorem TB15 : TB 15 15 200 40 5 := ⟨rfl, rfl, by decide, by decide, by decide, by decide, by decide⟩
theorem TB42 : TB 43 43 600 200 3 := ⟨rfl, rfl, by decide, by decide, by decide, by decide, by decide⟩
section
variable {sc : rp_Sc} {t tc tq tl tw : Nat}
theorem s_place (h : TB t tc tq tl tw) {σ : rp_Mm} {n i c : Nat} (hn : σ t 3 = nI n) (hl : n ≤ tl) (hi : i < n) (hc : c < tw) : CL sc 6 [.ref t, .int (nI i), .int (nI c)] σ = RI (nI (tw * i + c)) σ := by
  obtain ⟨h1, h2, h3, h4, h5, h6, -⟩ := h
  refine cl_of (D_Table_place_0 h1 h2 _ _ σ) rfl ?_
  rw [if_neg (nI_pos (by omega)), hn, if_neg (nI_ge hi (by omega)), if_neg (nI_pos (by omega)), if_neg (nI_ge hc (by omega)), pk_mul, nI_add, Nat.mul_comm]
theorem s_place_neg (h : TB t tc tq tl tw) {σ : rp_Mm} {x c : Int32} (hx : x < 0) : CL sc 6 [.ref t, .int x, .int c] σ = RI (-1) σ := by
  obtain ⟨h1, h2, -⟩ := h
  exact cl_of (D_Table_place_0 h1 h2 _ _ σ) rfl (if_pos hx)
theorem mul_lt {i n c tl tw tq : Nat} (hl : n ≤ tl) (hi : i < n) (hc : c < tw) (h3 : tl * tw ≤ tq) : tw * i + c < tq := by
  have h : tw * (i + 1) ≤ tw * tl := Nat.mul_le_mul_left _ (by omega)
  rw [Nat.mul_succ] at h
  rw [Nat.mul_comm tl tw] at h3
  omega
theorem s_get (h : TB t tc tq tl tw) {σ : rp_Mm} {n i c : Nat} (hn : σ t 3 = nI n) (hl : n ≤ tl) (hi : i < n) (hc : c < tw) : CL sc 20 [.ref t, .int (nI i), .int (nI c)] σ = RI (σ (tc + 1) (tw * i + c)) σ := by
  have hp := s_place (sc := sc) h hn hl hi hc
  obtain ⟨h1, h2, h3, h4, h5, h6, -⟩ := h
  have hlt := mul_lt hl hi hc h3
  refine cl_of (D_Table_get_0 h1 h2 _ _ σ) rfl ?_
  rw [hp, thI_RI, if_neg (nI_pos (by omega)), if_neg (show ¬ Int32.ofNat tq ≤ nI (tw * i + c) from nI_ge hlt (by omega)), ia_ok rfl hlt (by omega), nI_clamp (by omega)]
theorem s_get_neg (h : TB t tc tq tl tw) {σ : rp_Mm} {x c : Int32} (hx : x < 0) : CL sc 20 [.ref t, .int x, .int c] σ = RI 0 σ := by
  have hp := s_place_neg (sc := sc) (c := c) h (σ := σ) hx
  obtain ⟨h1, h2, -⟩ := h
  refine cl_of (D_Table_get_0 h1 h2 _ _ σ) rfl ?_
  rw [hp, thI_RI, if_pos (by decide)]
theorem s_set (h : TB t tc tq tl tw) {σ : rp_Mm} {n i c : Nat} {v : Int32} (hn : σ t 3 = nI n) (hl : n ≤ tl) (hi : i < n) (hc : c < tw) : CL sc 5 [.ref t, .int (nI i), .int (nI c), .int v] σ = RV (rp_wr σ (tc + 1) (tw * i + c) v) := by
  have hp := s_place (sc := sc) h hn hl hi hc
  obtain ⟨h1, h2, h3, h4, h5, h6, -⟩ := h
  have hlt := mul_lt hl hi hc h3
  refine cl_of (D_Table_set_0 h1 h2 _ _ _ σ) rfl ?_
  rw [hp, thI_RI, if_neg (nI_pos (by omega)), if_neg (show ¬ Int32.ofNat tq ≤ nI (tw * i + c) from nI_ge hlt (by omega)), ia_ok rfl hlt (by omega), nI_clamp (by omega)]
theorem s_size (h : TB t tc tq tl tw) (σ : rp_Mm) : CL sc 19 [.ref t] σ = RI (σ t 3) σ := by
  obtain ⟨h1, h2, -⟩ := h
  exact cl_of (D_Table_size_0 h1 h2 σ) rfl rfl
theorem s_has (h : TB t tc tq tl tw) (σ : rp_Mm) (x : Int32) : CL sc 25 [.ref t, .int x] σ = RI (if 0 ≤ x ∧ x < σ t 3 then 1 else 0) σ := by
  obtain ⟨h1, h2, -⟩ := h
  refine cl_of (D_Table_has_0 h1 h2 x σ) rfl ?_
  by_cases a : x < 0
  · rw [if_pos a, if_neg (fun h => absurd h.1 (Int32.not_le.mpr a))]
  · rw [if_neg a]
    by_cases b : σ t 3 ≤ x
    · rw [if_pos b, if_neg (fun h => absurd h.2 (Int32.not_lt.mpr b))]
    · rw [if_neg b, if_pos ⟨Int32.not_lt.mp a, Int32.not_le.mp b⟩]
theorem s_isFull (h : TB t tc tq tl tw) (σ : rp_Mm) {n : Nat} (hn : σ t 3 = nI n) (hl : n ≤ tl) : CL sc 4 [.ref t] σ = RI (if n = tl then 1 else 0) σ := by
  obtain ⟨h1, h2, h3, h4, h5, h6, -⟩ := h
  refine cl_of (D_Table_isFull_0 h1 h2 σ) rfl ?_
  rw [hn]
  by_cases e : n = tl
  · subst e; simp only [nI_ltI (show n < 2 ^ 31 by omega) (show n < 2 ^ 31 by omega)]; simp
  · simp only [nI_ltI (show n < 2 ^ 31 by omega) (show tl < 2 ^ 31 by omega)]; simp [show n < tl by omega, e]
theorem s_clear (h : TB t tc tq tl tw) (σ : rp_Mm) : CL sc 113 [.ref t] σ = RV (rp_wr σ t 3 0) := by
  obtain ⟨h1, h2, -⟩ := h
  exact cl_of (D_Table_clear_0 h1 h2 σ) rfl rfl
end
