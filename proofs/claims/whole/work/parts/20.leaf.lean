/-! FROM HERE ON: memories alone. What the methods answer, leaves first -/
theorem cl_of {sc : rp_Sc} {m : Nat} {args ls : List Value} {σ : rp_Mm} {t : Option rp_Rs} {x : rp_Rs} (h : rp_Le t (EV sc (m, 0, 0, 0, ls, [], (rp_L0, σ)))) (he : rp_en (rp_mt m).2.2.1 args = ls) (ht : t = some x) : CL sc m args σ = some x := by
  subst he
  exact h x ht
theorem ev_of {sc : rp_Sc} {s : rp_As} {t : Option rp_Rs} {x : rp_Rs} (h : rp_Le t (EV sc s)) (ht : t = some x) : EV sc s = some x := h x ht
/-- a truth as 0 or 1 -/
def b01 (c : Prop) [Decidable c] : Int32 := if c then 1 else 0
theorem b01_t {c : Prop} [Decidable c] (h : c) : b01 c = 1 := if_pos h
theorem b01_f {c : Prop} [Decidable c] (h : ¬ c) : b01 c = 0 := if_neg h
theorem b01_0 {c : Prop} [Decidable c] : b01 c = 0 ↔ ¬ c := by
  unfold b01
  split
  · simp [*]
  · simp [*]
theorem b01_1 {c : Prop} [Decidable c] : b01 c = 1 ↔ c := by
  unfold b01
  split
  · simp [*]
  · simp [*]
theorem b01_and {c : Prop} [Decidable c] : b01 c &&& 1 = b01 c := by
  unfold b01
  split <;> decide
theorem ite01 {c : Prop} [Decidable c] {α : Type} {a b : α} : (if b01 c = 0 then a else b) = if c then b else a := by
  by_cases h : c
  · rw [if_pos h, if_neg (by rw [b01_t h]; decide)]
  · rw [if_neg h, if_pos (b01_f h)]
theorem ite11 {c : Prop} [Decidable c] {α : Type} {a b : α} : (if b01 c = 1 then a else b) = if c then a else b := by
  by_cases h : c
  · rw [if_pos h, if_pos (b01_t h)]
  · rw [if_neg h, if_neg (by rw [b01_f h]; decide)]
/-- a number between two -/
noncomputable def inB (v lo hi : Int32) : Int32 := if lo ≤ v ∧ v ≤ hi then 1 else 0
theorem inB_t {v lo hi : Int32} (h : lo ≤ v ∧ v ≤ hi) : inB v lo hi = 1 := if_pos h
theorem inB_f {v lo hi : Int32} (h : ¬ (lo ≤ v ∧ v ≤ hi)) : inB v lo hi = 0 := if_neg h
theorem inB_tree {v lo hi : Int32} {σ : rp_Mm} : (if v < lo then RI 0 σ else if hi < v then RI 0 σ else RI 1 σ) = RI (inB v lo hi) σ := by
  unfold inB
  by_cases h1 : v < lo
  · rw [if_pos h1, if_neg (fun h => absurd h.1 (Int32.not_le.mpr h1))]
  · rw [if_neg h1]
    by_cases h2 : hi < v
    · rw [if_pos h2, if_neg (fun h => absurd h.2 (Int32.not_le.mpr h2))]
    · rw [if_neg h2, if_pos ⟨Int32.not_lt.mp h1, Int32.not_lt.mp h2⟩]
theorem inB_cases (v lo hi : Int32) : (inB v lo hi = 1 ∧ lo ≤ v ∧ v ≤ hi) ∨ (inB v lo hi = 0 ∧ ¬ (lo ≤ v ∧ v ≤ hi)) := by
  by_cases h : lo ≤ v ∧ v ≤ hi
  · exact Or.inl ⟨inB_t h, h⟩
  · exact Or.inr ⟨inB_f h, h⟩
/-- what is between 0 and a small number is such a number -/
theorem inB_nat {v : Int32} {n : Nat} (hn : n < 2 ^ 31) (h : (0 : Int32) ≤ v ∧ v ≤ nI n) : ∃ k : Nat, k ≤ n ∧ v = nI k := nI_of2 (nI_toInt hn) (Int32.not_lt.mpr h.1) h.2
section
variable {sc : rp_Sc}
theorem s_isWithin (v lo hi : Int32) (σ : rp_Mm) : CL sc 15 [.int v, .int lo, .int hi] σ = RI (inB v lo hi) σ := cl_of (D_RailPasses_isWithin_0 v lo hi σ) rfl inB_tree
theorem s_in (v lo hi : Int32) (σ : rp_Mm) : CL sc 151 [.int v, .int lo, .int hi] σ = RI (inB v lo hi) σ := cl_of (D_Ref_in_0 v lo hi σ) rfl inB_tree
end
