/-! the best one by one: who is taken, by rank -/
def bet (e : Nat → Bool) (v : Nat → Nat) (a b : Nat) : Bool := e a && (decide (v b < v a) || (decide (v a = v b) && decide (a < b)))
def rk (e : Nat → Bool) (v : Nat → Nat) (n b : Nat) : Nat := cnt (fun a => bet e v a b) n
def tkn (e : Nat → Bool) (v : Nat → Nat) (n j r : Nat) : Bool := e r && decide (rk e v n r < j)
theorem cnt_add {P Q : Nat → Bool} {b : Nat} : ∀ {n : Nat}, b < n → P b = false → Q b = true → (∀ i, i < n → i ≠ b → Q i = P i) → cnt Q n = cnt P n + 1 := by
  intro n
  induction n with
  | zero => intro h; exact absurd h (by omega)
  | succ n ih =>
    intro hb hp hq ho
    unfold cnt
    by_cases e : b = n
    · subst e
      rw [cnt_congr (n := b) (P := Q) (Q := P) fun i hi => ho i (by omega) (by omega), hp, hq]
      rfl
    · rw [ih (by omega) hp hq fun i hi => ho i (by omega), ho n (by omega) (by omega)]
      omega
theorem cnt_ex {P : Nat → Bool} : ∀ {n : Nat}, cnt P n < n → ∃ i, i < n ∧ P i = false := by
  intro n
  induction n with
  | zero => intro h; exact absurd h (by omega)
  | succ n ih =>
    intro h
    unfold cnt at h
    cases hp : P n with
    | false => exact ⟨n, by omega, hp⟩
    | true =>
      rw [hp] at h
      simp at h
      obtain ⟨i, hi, q⟩ := ih h
      exact ⟨i, by omega, q⟩
theorem cnt_zero {P : Nat → Bool} : ∀ {n : Nat}, (∀ i, i < n → P i = false) → cnt P n = 0 := by
  intro n
  induction n with
  | zero => intro _; rfl
  | succ n ih => intro h; unfold cnt; rw [ih fun i hi => h i (by omega), h n (by omega)]; rfl
section
variable {e : Nat → Bool} {v : Nat → Nat} {n : Nat}
theorem bet_iff {a b : Nat} : bet e v a b = true ↔ e a = true ∧ (v b < v a ∨ (v a = v b ∧ a < b)) := by
  unfold bet
  simp
theorem rk_lt {a b : Nat} (ha : a < n) (h : bet e v a b = true) : rk e v n a < rk e v n b := by
  have h' := bet_iff.mp h
  refine cnt_lt (j := a) (fun i _ hi => ?_) ha h ?_
  · have hi := bet_iff.mp hi
    exact bet_iff.mpr ⟨hi.1, by omega⟩
  · rw [← Bool.not_eq_true, bet_iff]
    omega
theorem rk_tot {a b : Nat} (ea : e a = true) (eb : e b = true) (h : a ≠ b) : bet e v a b = true ∨ bet e v b a = true := by
  rw [bet_iff, bet_iff]
  by_cases h1 : v a = v b
  · by_cases h2 : a < b
    · exact Or.inl ⟨ea, by omega⟩
    · exact Or.inr ⟨eb, by omega⟩
  · by_cases h2 : v b < v a
    · exact Or.inl ⟨ea, by omega⟩
    · exact Or.inr ⟨eb, by omega⟩
theorem rk_inj {a b : Nat} (ha : a < n) (hb : b < n) (ea : e a = true) (eb : e b = true) (h : rk e v n a = rk e v n b) : a = b := by
  by_cases q : a = b
  · exact q
  · rcases rk_tot (v := v) ea eb q with h1 | h1
    · have := rk_lt ha h1; omega
    · have := rk_lt hb h1; omega
theorem tkn_iff {j r : Nat} : tkn e v n j r = true ↔ e r = true ∧ rk e v n r < j := by
  unfold tkn
  simp
/-- the best of those that are left has the next rank -/
theorem tkn_next {j b : Nat} (hc : cnt (tkn e v n j) n = j) (hb : b < n) (eb : e b = true) (nb : tkn e v n j b = false) (best : ∀ r, r < n → tkn e v n j r = false → bet e v r b = false) : rk e v n b = j := by
  have hj : j ≤ rk e v n b := by
    have : ¬ (e b = true ∧ rk e v n b < j) := fun h => by rw [tkn_iff.mpr h] at nb; exact absurd nb (by decide)
    exact Nat.le_of_not_lt fun q => this ⟨eb, q⟩
  have : rk e v n b = cnt (tkn e v n j) n := by
    unfold rk
    refine cnt_congr fun r hr => ?_
    cases ht : tkn e v n j r with
    | false => exact best r hr ht
    | true =>
      have ⟨er, hr2⟩ := tkn_iff.mp ht
      have hne : r ≠ b := fun q => by rw [q] at hr2; omega
      rcases rk_tot (v := v) er eb hne with h1 | h1
      · exact h1
      · have := rk_lt hb h1; omega
  omega
theorem tkn_succ {j b : Nat} (hb : b < n) (eb : e b = true) (h : rk e v n b = j) {r : Nat} (hr : r < n) : tkn e v n (j + 1) r = (tkn e v n j r || decide (r = b)) := by
  by_cases q : r = b
  · subst q
    rw [tkn_iff.mpr ⟨eb, by omega⟩]
    simp
  · have : decide (r = b) = false := by simp [q]
    rw [this, Bool.or_false]
    cases er : e r with
    | false => unfold tkn; rw [er]; rfl
    | true =>
      have hne : rk e v n r ≠ j := fun w => q (rk_inj hr hb er eb (w.trans h.symm))
      unfold tkn
      rw [er]
      simp
      omega
theorem tkn_cnt {j b : Nat} (hc : cnt (tkn e v n j) n = j) (hb : b < n) (eb : e b = true) (h : rk e v n b = j) : cnt (tkn e v n (j + 1)) n = j + 1 := by
  rw [cnt_add (P := tkn e v n j) hb ?_ (tkn_iff.mpr ⟨eb, by omega⟩) ?_, hc]
  · rw [← Bool.not_eq_true, tkn_iff]
    omega
  · intro i hi hne
    rw [tkn_succ hb eb h hi]
    simp [hne]
theorem tkn_0 : cnt (tkn e v n 0) n = 0 := cnt_zero fun i _ => by rw [← Bool.not_eq_true, tkn_iff]; omega
end
