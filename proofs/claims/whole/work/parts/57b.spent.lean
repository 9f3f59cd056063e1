/-! days to spend -/
theorem sum_map {F δ : Nat → Nat} : ∀ (N s : Nat), (∀ i, i < s → δ i < N) → (∀ i j, i < j → j < s → δ i < δ j) → (∀ d, d < N → F d ≠ 0 → ∃ i, i < s ∧ δ i = d) → sumn (fun i => F (δ i)) s = sumn F N := by
  intro N
  induction N with
  | zero =>
    intro s h1 _ _
    cases s with
    | zero => rfl
    | succ s => exact absurd (h1 0 (by omega)) (by omega)
  | succ N ih =>
    intro s h1 h2 h3
    by_cases hx : ∃ i, i < s ∧ δ i = N
    · obtain ⟨i, hi, e⟩ := hx
      obtain ⟨t, rfl⟩ : ∃ t, s = t + 1 := ⟨s - 1, by omega⟩
      have hit : i = t := by
        refine Classical.byContradiction fun q => ?_
        have := h2 i t (by omega) (by omega)
        have := h1 t (by omega)
        omega
      subst hit
      show sumn (fun j => F (δ j)) i + F (δ i) = sumn F N + F N
      rw [e, ih i (fun j hj => by have := h2 j i hj (by omega); omega) (fun j k hjk hk => h2 j k hjk (by omega)) fun d hd hF => ?_]
      obtain ⟨j, hj, e2⟩ := h3 d (by omega) hF
      refine ⟨j, ?_, e2⟩
      by_cases q : j = i
      · rw [q] at e2; omega
      · omega
    · have hF : F N = 0 := Classical.byContradiction fun q => hx (h3 N (by omega) q)
      show _ = sumn F N + F N
      rw [hF, ih s (fun i hi => by
        have := h1 i hi
        have : δ i ≠ N := fun q => hx ⟨i, hi, q⟩
        omega) h2 fun d hd hF => h3 d (by omega) hF]
      rfl
theorem cnt_sum {P : Nat → Bool} : ∀ {n : Nat}, cnt P n = sumn (fun i => if P i then 1 else 0) n := by
  intro n
  induction n with
  | zero => rfl
  | succ n ih => unfold cnt sumn; rw [ih]
theorem cnt_map {P : Nat → Bool} {δ : Nat → Nat} {N s : Nat} (h1 : ∀ i, i < s → δ i < N) (h2 : ∀ i j, i < j → j < s → δ i < δ j) (h3 : ∀ d, d < N → P d = true → ∃ i, i < s ∧ δ i = d) : cnt (fun i => P (δ i)) s = cnt P N := by
  rw [cnt_sum, cnt_sum]
  refine sum_map (F := fun d => if P d then 1 else 0) N s h1 h2 fun d hd hF => h3 d hd ?_
  cases hp : P d with
  | true => rfl
  | false => rw [hp] at hF; exact absurd rfl hF
def eN (r : rp_Mm) (g : Nat → Nat) (n s0 d : Nat) : Bool := decide (s0 ≤ d ∧ d < s0 + g 1) && decide (0 < gd r g n d)
def tN (r : rp_Mm) (g : Nat → Nat) (n s0 : Nat) : Nat → Bool := tkn (eN r g n s0) (gd r g n) 122 (g 0)
def spN (r : rp_Mm) (g : Nat → Nat) (n s0 : Nat) : Nat := sumn (fun d => if tN r g n s0 d then gd r g n d else 0) 122
def mnN (r : rp_Mm) (g : Nat → Nat) (n s0 : Nat) : Nat := cnt (tN r g n s0) 122
def qnN (r : rp_Mm) (g : Nat → Nat) (n s0 : Nat) : Nat := sumn (fun d => if tN r g n s0 d then qd r g n d else 0) 122
def cI (r : rp_Mm) (g : Nat → Nat) (n s0 : Nat) : Int32 := nI (g 2 + frN r n) - nI (spN r g n s0)
def hgP (r : rp_Mm) (g : Nat → Nat) (n s0 : Nat) : Prop := ∃ w, w < n ∧ s0 ≤ cwN r g w ∧ cwN r g w < s0 + g 1
theorem eN_iff {r : rp_Mm} {g : Nat → Nat} {n s0 d : Nat} : eN r g n s0 d = true ↔ (s0 ≤ d ∧ d < s0 + g 1) ∧ 0 < gd r g n d := by
  unfold eN
  simp
theorem gd_pos {r : rp_Mm} {g : Nat → Nat} {n d : Nat} (h : 0 < gd r g n d) : ∃ w, w < n ∧ cwN r g w = d := by
  refine Classical.byContradiction fun q => ?_
  have := (gd_0 (r := r) (g := g) (n := n) (d := d) fun w hw e => q ⟨w, hw, e⟩).1
  omega
theorem tN_e {r : rp_Mm} {g : Nat → Nat} {n s0 d : Nat} (h : tN r g n s0 d = true) : (s0 ≤ d ∧ d < s0 + g 1) ∧ 0 < gd r g n d := eN_iff.mp (tkn_iff.mp h).1
/-- no good day: nothing is spent -/
theorem sp_0 {r : rp_Mm} {g : Nat → Nat} {n s0 : Nat} (h : ¬ hgP r g n s0) : spN r g n s0 = 0 := sum_zero fun d _ => by
  rw [if_neg]
  intro q
  obtain ⟨q1, q2⟩ := tN_e q
  obtain ⟨w, hw, rfl⟩ := gd_pos q2
  exact h ⟨w, hw, q1⟩
section
variable {sc : rp_Sc} {σ μ r : rp_Mm} {g : Nat → Nat} {n s : Nat} {δ : Nat → Nat}
theorem pl_im (hP : PL σ μ r g n δ s) {d : Nat} (h : 0 < gd r g n d) : ∃ i, i < s ∧ δ i = d := by
  obtain ⟨w, hw, rfl⟩ := gd_pos h
  exact hP.2.2.2.2.2.2 w hw
theorem y_isGood (hR : RB r) (hn : n ≤ nW r) (hg1 : g 1 ≤ 60) (hP : PL σ μ r g n δ s) {i s0 : Nat} (hi : i < s) (h0 : s0 ≤ 120) : CL sc 100 [.ref 37, .int (nI i), .int (nI s0)] μ = RI (nI (b2 (decide (s0 ≤ δ i ∧ δ i < s0 + g 1)))) μ := by
  obtain ⟨p1, p2, p3⟩ := pl_days hR hn hP
  have e1 := y_dayAt (sc := sc) (σ := μ) (i := i) (by omega)
  rw [(hP.2.2.2.1 i hi).1] at e1
  have := p2 i hi
  refine cl_of (D_Plan_isGood_0 _ _ μ) rfl ?_
  simp (disch := omega) only [lt_nI, e1, thI_RI, nI_ltI, hP.2.1.2.2.1, nI_add, nI_leI]
  by_cases h1 : δ i < s0
  · have : decide (s0 ≤ δ i ∧ δ i < s0 + g 1) = false := by simp; omega
    rw [this]
    simp only [eq_true h1, if_true]
    rfl
  · by_cases h2 : s0 + g 1 ≤ δ i
    · have : decide (s0 ≤ δ i ∧ δ i < s0 + g 1) = false := by simp; omega
      rw [this]
      simp only [eq_false h1, eq_true h2, if_true, if_false]
      rfl
    · have : decide (s0 ≤ δ i ∧ δ i < s0 + g 1) = true := by simp; omega
      rw [this]
      simp only [eq_false h1, eq_false h2, if_false]
      rfl
theorem y_hasGood (hR : RB r) (hg1 : g 1 ≤ 60) (hP : PL σ μ r g (nW r) δ s) {s0 : Nat} (h0 : s0 ≤ 120) : (hgP r g (nW r) s0 ∧ CL sc 111 [.ref 37, .int (nI s0)] μ = RI (nI 1) μ) ∨ (¬ hgP r g (nW r) s0 ∧ CL sc 111 [.ref 37, .int (nI s0)] μ = RI (nI 0) μ) := by
  obtain ⟨p1, p2, p3⟩ := pl_days hR (Nat.le_refl _) hP
  have z3 := hP.2.1.1
  have eg : ∀ i, i < s → CL sc 100 [.ref 37, .int (nI i), .int (nI s0)] μ = RI (nI (b2 (decide (s0 ≤ δ i ∧ δ i < s0 + g 1)))) μ := fun i hi => y_isGood hR (Nat.le_refl _) hg1 hP hi h0
  rcases lp_first (E := fun i => EV sc (111, 0, 0, 2, [.ref 37, .int (nI s0), .int (nI i)], [], (rp_L0, μ))) (r1 := fun _ => RI (nI 1) μ) (r0 := RI (nI 0) μ) (P := fun i => s0 ≤ δ i ∧ δ i < s0 + g 1) s 0 s (by omega)
    (fun i _ hi hp => by
      refine rp_Le_tr ?_ (D_Plan_hasGoodDay_2 _ _ μ)
      have : decide (s0 ≤ δ i ∧ δ i < s0 + g 1) = true := by simp; exact hp
      simp (disch := omega) only [lt_nI, z3, nI_leI, show ¬ s ≤ i by omega, if_false, eg i hi, thI_RI, this, b2, cond_true, i_0]
      exact rp_Le_rfl)
    (fun i _ hi hp => by
      refine rp_Le_tr ?_ (D_Plan_hasGoodDay_2 _ _ μ)
      have : decide (s0 ≤ δ i ∧ δ i < s0 + g 1) = false := by simp; omega
      simp (disch := omega) only [lt_nI, nI_add, z3, nI_leI, show ¬ s ≤ i by omega, if_false, eg i hi, thI_RI, this, b2, cond_false, i_1, if_true]
      exact rp_Le_rfl)
    (by
      refine rp_Le_tr ?_ (D_Plan_hasGoodDay_2 _ _ μ)
      simp (disch := omega) only [z3, nI_leI, Nat.le_refl, if_true]
      exact rp_Le_rfl) with ⟨j, -, h1, h2, -, h3⟩ | ⟨h1, h2⟩
  · refine Or.inl ⟨?_, cl_le rfl (rp_Le_tr h3 (D_Plan_hasGoodDay_0 _ μ))⟩
    obtain ⟨w, hw, e⟩ := hP.2.2.2.2.2.1 j h1
    exact ⟨w, hw, by rw [e]; exact h2⟩
  · refine Or.inr ⟨?_, cl_le rfl (rp_Le_tr h2 (D_Plan_hasGoodDay_0 _ μ))⟩
    rintro ⟨w, hw, q⟩
    obtain ⟨i, hi, e⟩ := hP.2.2.2.2.2.2 w hw
    exact h1 i (by omega) hi (by rw [e]; exact q)
end
