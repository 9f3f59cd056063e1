/-! days to spend -/
theorem sum_map {F δ : Nat → Nat} : ∀ (N s : Nat), (∀ i, i < s → δ i < N) → (∀ i j, i < j → j < s → δ i < δ j) → (∀ d, d < N → F d ≠ 0 → ∃ i, i < s ∧ δ i = d) → sumn (fun i => F (δ i)) s = sumn F N := by
  intro N
  induction N with
  | zero =>
    intro s h1 _ _
    cases s with
    | zero => rfl
    | succ s => exact absurd (h1 0 (by omega)) (by omega)
  | succ N ih =>
    intro s h1 h2 h3
    by_cases hx : ∃ i, i < s ∧ δ i = N
    · obtain ⟨i, hi, e⟩ := hx
      obtain ⟨t, rfl⟩ : ∃ t, s = t + 1 := ⟨s - 1, by omega⟩
      have hit : i = t := by
        refine Classical.byContradiction fun q => ?_
        have := h2 i t (by omega) (by omega)
        have := h1 t (by omega)
        omega
      subst hit
      show sumn (fun j => F (δ j)) i + F (δ i) = sumn F N + F N
      rw [e, ih i (fun j hj => by have := h2 j i hj (by omega); omega) (fun j k hjk hk => h2 j k hjk (by omega)) fun d hd hF => ?_]
      obtain ⟨j, hj, e2⟩ := h3 d (by omega) hF
      refine ⟨j, ?_, e2⟩
      by_cases q : j = i
      · rw [q] at e2; omega
      · omega
    · have hF : F N = 0 := Classical.byContradiction fun q => hx (h3 N (by omega) q)
      show _ = sumn F N + F N
      rw [hF, ih s (fun i hi => by
        have := h1 i hi
        have : δ i ≠ N := fun q => hx ⟨i, hi, q⟩
        omega) h2 fun d hd hF => h3 d (by omega) hF]
      rfl
theorem cnt_sum {P : Nat → Bool} : ∀ {n : Nat}, cnt P n = sumn (fun i => if P i then 1 else 0) n := by
  intro n
  induction n with
  | zero => rfl
  | succ n ih => unfold cnt sumn; rw [ih]
theorem cnt_map {P : Nat → Bool} {δ : Nat → Nat} {N s : Nat} (h1 : ∀ i, i < s → δ i < N) (h2 : ∀ i j, i < j → j < s → δ i < δ j) (h3 : ∀ d, d < N → P d = true → ∃ i, i < s ∧ δ i = d) : cnt (fun i => P (δ i)) s = cnt P N := by
  rw [cnt_sum, cnt_sum]
  refine sum_map (F := fun d => if P d then 1 else 0) N s h1 h2 fun d hd hF => h3 d hd ?_
  cases hp : P d with
  | true => rfl
  | false => rw [hp] at hF; exact absurd rfl hF
def eN (r : rp_Mm) (g : Nat → Nat) (n s0 d : Nat) : Bool := decide (s0 ≤ d ∧ d < s0 + g 1) && decide (0 < gd r g n d)
def tN (r : rp_Mm) (g : Nat → Nat) (n s0 : Nat) : Nat → Bool := tkn (eN r g n s0) (gd r g n) 122 (g 0)
def spN (r : rp_Mm) (g : Nat → Nat) (n s0 : Nat) : Nat := sumn (fun d => if tN r g n s0 d then gd r g n d else 0) 122
def mnN (r : rp_Mm) (g : Nat → Nat) (n s0 : Nat) : Nat := cnt (tN r g n s0) 122
def qnN (r : rp_Mm) (g : Nat → Nat) (n s0 : Nat) : Nat := sumn (fun d => if tN r g n s0 d then qd r g n d else 0) 122
def cI (r : rp_Mm) (g : Nat → Nat) (n s0 : Nat) : Int32 := nI (g 2 + frN r n) - nI (spN r g n s0)
def hgP (r : rp_Mm) (g : Nat → Nat) (n s0 : Nat) : Prop := ∃ w, w < n ∧ s0 ≤ cwN r g w ∧ cwN r g w < s0 + g 1
theorem eN_iff {r : rp_Mm} {g : Nat → Nat} {n s0 d : Nat} : eN r g n s0 d = true ↔ (s0 ≤ d ∧ d < s0 + g 1) ∧ 0 < gd r g n d := by
  unfold eN
  simp
theorem gd_pos {r : rp_Mm} {g : Nat → Nat} {n d : Nat} (h : 0 < gd r g n d) : ∃ w, w < n ∧ cwN r g w = d := by
  refine Classical.byContradiction fun q => ?_
  have := (gd_0 (r := r) (g := g) (n := n) (d := d) fun w hw e => q ⟨w, hw, e⟩).1
  omega
theorem tN_e {r : rp_Mm} {g : Nat → Nat} {n s0 d : Nat} (h : tN r g n s0 d = true) : (s0 ≤ d ∧ d < s0 + g 1) ∧ 0 < gd r g n d := eN_iff.mp (tkn_iff.mp h).1
/-- no good day: nothing is spent -/
theorem sp_0 {r : rp_Mm} {g : Nat → Nat} {n s0 : Nat} (h : ¬ hgP r g n s0) : spN r g n s0 = 0 := sum_zero fun d _ => by
  rw [if_neg]
  intro q
  obtain ⟨q1, q2⟩ := tN_e q
  obtain ⟨w, hw, rfl⟩ := gd_pos q2
  exact h ⟨w, hw, q1⟩
section
variable {sc : rp_Sc} {σ μ r : rp_Mm} {g : Nat → Nat} {n s : Nat} {δ : Nat → Nat}
/-- what is known of the plan's days -/
theorem pl_days (hR : RB r) (hn : n ≤ nW r) (hP : PL σ μ r g n δ s) : s ≤ 10 ∧ (∀ i, i < s → δ i < 122) ∧ (∀ i, i < s → gd r g n (δ i) ≤ 5000 ∧ qd r g n (δ i) ≤ 10) := by
  have bn := b_n hR
  obtain ⟨-, -, hs, -, -, h1, -⟩ := hP
  refine ⟨by omega, fun i hi => ?_, fun i hi => ?_⟩
  · obtain ⟨w, hw, e⟩ := h1 i hi
    have := cw_le (g := g) hR (show w < nW r by omega)
    omega
  · have q1 := gd_le (g := g) (d := δ i) hR hn
    have q2 := qd_le (r := r) (g := g) (n := n) (d := δ i)
    omega
theorem pl_im (hP : PL σ μ r g n δ s) {d : Nat} (h : 0 < gd r g n d) : ∃ i, i < s ∧ δ i = d := by
  obtain ⟨w, hw, rfl⟩ := gd_pos h
  exact hP.2.2.2.2.2.2 w hw
theorem y_isGood (hR : RB r) (hn : n ≤ nW r) (hg1 : g 1 ≤ 60) (hP : PL σ μ r g n δ s) {i s0 : Nat} (hi : i < s) (h0 : s0 ≤ 120) : CL sc 96 [.ref 37, .int (nI i), .int (nI s0)] μ = RI (nI (b2 (decide (s0 ≤ δ i ∧ δ i < s0 + g 1)))) μ := by
  obtain ⟨p1, p2, p3⟩ := pl_days hR hn hP
  have e1 := y_dayAt (sc := sc) (σ := μ) (i := i) (by omega)
  rw [(hP.2.2.2.1 i hi).1] at e1
  have := p2 i hi
  refine cl_of (D_Plan_isGood_0 _ _ μ) rfl ?_
  simp (disch := omega) only [lt_nI, e1, thI_RI, nI_ltI, hP.2.1.2.2.1, nI_add, nI_leI]
  by_cases h1 : δ i < s0
  · have : decide (s0 ≤ δ i ∧ δ i < s0 + g 1) = false := by simp; omega
    rw [this]
    simp only [eq_true h1, if_true]
    rfl
  · by_cases h2 : s0 + g 1 ≤ δ i
    · have : decide (s0 ≤ δ i ∧ δ i < s0 + g 1) = false := by simp; omega
      rw [this]
      simp only [eq_false h1, eq_true h2, if_true, if_false]
      rfl
    · have : decide (s0 ≤ δ i ∧ δ i < s0 + g 1) = true := by simp; omega
      rw [this]
      simp only [eq_false h1, eq_false h2, if_false]
      rfl
theorem y_hasGood (hR : RB r) (hg1 : g 1 ≤ 60) (hP : PL σ μ r g (nW r) δ s) {s0 : Nat} (h0 : s0 ≤ 120) : (hgP r g (nW r) s0 ∧ CL sc 95 [.ref 37, .int (nI s0)] μ = RI (nI 1) μ) ∨ (¬ hgP r g (nW r) s0 ∧ CL sc 95 [.ref 37, .int (nI s0)] μ = RI (nI 0) μ) := by
  obtain ⟨p1, p2, p3⟩ := pl_days hR (Nat.le_refl _) hP
  have z3 := hP.2.1.1
  have eg : ∀ i, i < s → CL sc 96 [.ref 37, .int (nI i), .int (nI s0)] μ = RI (nI (b2 (decide (s0 ≤ δ i ∧ δ i < s0 + g 1)))) μ := fun i hi => y_isGood hR (Nat.le_refl _) hg1 hP hi h0
  rcases lp_first (E := fun i => EV sc (95, 0, 0, 2, [.ref 37, .int (nI s0), .int (nI i)], [], (rp_L0, μ))) (r1 := fun _ => RI (nI 1) μ) (r0 := RI (nI 0) μ) (P := fun i => s0 ≤ δ i ∧ δ i < s0 + g 1) s 0 s (by omega)
    (fun i _ hi hp => by
      refine rp_Le_tr ?_ (D_Plan_hasGoodDay_2 _ _ μ)
      have : decide (s0 ≤ δ i ∧ δ i < s0 + g 1) = true := by simp; exact hp
      simp (disch := omega) only [lt_nI, z3, nI_leI, show ¬ s ≤ i by omega, if_false, eg i hi, thI_RI, this, b2, cond_true, i_0]
      exact rp_Le_rfl)
    (fun i _ hi hp => by
      refine rp_Le_tr ?_ (D_Plan_hasGoodDay_2 _ _ μ)
      have : decide (s0 ≤ δ i ∧ δ i < s0 + g 1) = false := by simp; omega
      simp (disch := omega) only [lt_nI, nI_add, z3, nI_leI, show ¬ s ≤ i by omega, if_false, eg i hi, thI_RI, this, b2, cond_false, i_1, if_true]
      exact rp_Le_rfl)
    (by
      refine rp_Le_tr ?_ (D_Plan_hasGoodDay_2 _ _ μ)
      simp (disch := omega) only [z3, nI_leI, Nat.le_refl, if_true]
      exact rp_Le_rfl) with ⟨j, -, h1, h2, -, h3⟩ | ⟨h1, h2⟩
  · refine Or.inl ⟨?_, cl_le rfl (rp_Le_tr h3 (D_Plan_hasGoodDay_0 _ μ))⟩
    obtain ⟨w, hw, e⟩ := hP.2.2.2.2.2.1 j h1
    exact ⟨w, hw, by rw [e]; exact h2⟩
  · refine Or.inr ⟨?_, cl_le rfl (rp_Le_tr h2 (D_Plan_hasGoodDay_0 _ μ))⟩
    rintro ⟨w, hw, q⟩
    obtain ⟨i, hi, e⟩ := hP.2.2.2.2.2.2 w hw
    exact h1 i (by omega) hi (by rw [e]; exact q)
theorem y_betterDays (hR : RB r) (hn : n ≤ nW r) (hg1 : g 1 ≤ 60) (hP : PL σ μ r g n δ s) {a s0 : Nat} (ha : a < s) (h0 : s0 ≤ 120) (hpos : 0 < gd r g n (δ a)) : CL sc 99 [.ref 37, .int (nI a), .int (nI s0)] μ = RI (nI (rk (eN r g n s0) (gd r g n) 122 (δ a))) μ := by
  obtain ⟨p1, p2, p3⟩ := pl_days hR hn hP
  have hin := hP.2.2.2.2.1
  have z3 := hP.2.1.1
  have es : ∀ i, i < s → CL sc 92 [.ref 37, .int (nI i)] μ = RI (nI (gd r g n (δ i))) μ := fun i hi => by rw [y_sparedAt (by omega), (hP.2.2.2.1 i hi).2.1]
  have eg : ∀ i, i < s → CL sc 96 [.ref 37, .int (nI i), .int (nI s0)] μ = RI (nI (b2 (decide (s0 ≤ δ i ∧ δ i < s0 + g 1)))) μ := fun i hi => y_isGood hR hn hg1 hP hi h0
  obtain ⟨B, eB⟩ : ∃ B : Nat → Bool, B = fun i => bet (eN r g n s0) (gd r g n) (δ i) (δ a) := ⟨_, rfl⟩
  have hB : ∀ i, i < s → (B i = true ↔ (gd r g n (δ a) < gd r g n (δ i) ∨ (gd r g n (δ i) = gd r g n (δ a) ∧ i < a)) ∧ (s0 ≤ δ i ∧ δ i < s0 + g 1)) := fun i hi => by
    rw [eB]
    dsimp only
    rw [bet_iff, eN_iff]
    have hlt : δ i < δ a ↔ i < a := ⟨fun q => Nat.lt_of_not_le fun q2 => by
      by_cases e : i = a
      · rw [e] at q; omega
      · have := hin a i (by omega) hi; omega, fun q => hin i a q ha⟩
    rw [hlt]
    constructor
    · rintro ⟨⟨q1, q2⟩, q3⟩
      exact ⟨q3, q1⟩
    · rintro ⟨q1, q2⟩
      exact ⟨⟨q2, by omega⟩, q1⟩
  have hc : rk (eN r g n s0) (gd r g n) 122 (δ a) = cnt B s := by
    rw [eB]
    refine (cnt_map (P := fun d => bet (eN r g n s0) (gd r g n) d (δ a)) p2 hin fun d hd hb => ?_).symm
    exact pl_im hP (eN_iff.mp (bet_iff.mp hb).1).2
  rw [hc]
  have L := lp (E := fun i => EV sc (99, 0, 0, 5, [.ref 37, .int (nI a), .int (nI s0), .int (nI (cnt B i)), .int (nI i), rp_U], [], (rp_L0, μ))) (n := s) (fun i hi => by
    have q3 := p3 i hi
    have qa := p3 a ha
    have T73 : ∀ (x3 : Int32) (x5 : Int32), rp_Le (EV sc (99, 0, 0, 5, [.ref 37, .int (nI a), .int (nI s0), .int x3, .int (nI (i + 1)), rp_U], [], (rp_L0, μ))) (EV sc (99, 0, 0, 73, [.ref 37, .int (nI a), .int (nI s0), .int x3, .int (nI i), .int x5], [], (rp_L0, μ))) := fun x3 x5 => by
      refine rp_Le_tr ?_ (D_Plan_betterDays_73 _ _ _ _ _ μ)
      simp only [lt_nI, nI_add]
      exact rp_Le_rfl
    have T52 : ∀ (x3 : Int32), rp_Le (EV sc (99, 0, 0, 5, [.ref 37, .int (nI a), .int (nI s0), .int x3, .int (nI (i + 1)), rp_U], [], (rp_L0, μ))) (EV sc (99, 0, 0, 52, [.ref 37, .int (nI a), .int (nI s0), .int x3, .int (nI i), rp_U], [], (rp_L0, μ))) := fun x3 => by
      refine rp_Le_tr (rp_Le_tr (rp_Le_tr (T73 x3 (nI 0)) ?_) (D_Plan_betterDays_53 _ _ _ _ _ μ)) (D_Plan_betterDays_52 _ _ _ _ μ)
      simp only [lt_nI, i_1, if_true]
      exact rp_Le_rfl
    have T48 : ∀ (x3 : Nat), rp_Le (EV sc (99, 0, 0, 5, [.ref 37, .int (nI a), .int (nI s0), .int (nI (x3 + b2 (decide (s0 ≤ δ i ∧ δ i < s0 + g 1)))), .int (nI (i + 1)), rp_U], [], (rp_L0, μ))) (EV sc (99, 0, 0, 48, [.ref 37, .int (nI a), .int (nI s0), .int (nI x3), .int (nI i), rp_U], [], (rp_L0, μ))) := fun x3 => by
      refine rp_Le_tr (rp_Le_tr (rp_Le_tr (T73 _ (nI 1)) ?_) (D_Plan_betterDays_53 _ _ _ _ _ μ)) (D_Plan_betterDays_48 _ _ _ _ μ)
      simp only [lt_nI, i_0, if_false, eg i hi, thI_RI]
      cases decide (s0 ≤ δ i ∧ δ i < s0 + g 1) with
      | true => simp only [b2, cond_true, i_0, if_false, nI_add]; exact rp_Le_rfl
      | false => simp only [b2, cond_false, i_1, if_true, Nat.add_zero]; exact rp_Le_rfl
    refine rp_Le_tr ?_ (D_Plan_betterDays_5 _ _ _ _ μ)
    simp (disch := omega) only [z3, nI_leI, nI_ltI, nI_eq, show ¬ s ≤ i by omega, if_false, es i hi, es a ha, thI_RI]
    show rp_Le (EV sc (99, 0, 0, 5, [.ref 37, .int (nI a), .int (nI s0), .int (nI (cnt B i + (if B i then 1 else 0))), .int (nI (i + 1)), rp_U], [], (rp_L0, μ))) _
    have hb1 : ∀ (c : gd r g n (δ a) < gd r g n (δ i) ∨ (gd r g n (δ i) = gd r g n (δ a) ∧ i < a)), (if B i then 1 else 0) = b2 (decide (s0 ≤ δ i ∧ δ i < s0 + g 1)) := fun c => by
      by_cases q : s0 ≤ δ i ∧ δ i < s0 + g 1
      · rw [(hB i hi).mpr ⟨c, q⟩]
        simp [b2, q]
      · have : B i = false := by rw [← Bool.not_eq_true, hB i hi]; exact fun w => q w.2
        rw [this]
        simp [b2, q]
    by_cases c1 : gd r g n (δ a) < gd r g n (δ i)
    · rw [hb1 (Or.inl c1)]
      simp only [eq_true c1, if_true]
      exact T48 _
    · by_cases c2 : gd r g n (δ i) = gd r g n (δ a)
      · by_cases c3 : a ≤ i
        · have : B i = false := by rw [← Bool.not_eq_true, hB i hi]; omega
          rw [this]
          simp only [eq_false c1, eq_true c2, eq_true c3, if_true, if_false]
          exact T52 _
        · rw [hb1 (Or.inr ⟨c2, by omega⟩)]
          simp only [eq_false c1, eq_true c2, eq_false c3, if_true, if_false]
          exact T48 _
      · have : B i = false := by rw [← Bool.not_eq_true, hB i hi]; omega
        rw [this]
        simp only [eq_false c1, eq_false c2, if_false]
        exact T52 _)
  refine cl_le rfl (rp_Le_tr (rp_Le_tr (rp_Le_tr ?_ (D_Plan_betterDays_5 _ _ _ _ μ)) L) (D_Plan_betterDays_0 _ _ μ))
  simp (disch := omega) only [z3, nI_leI, Nat.le_refl, if_true]
  exact rp_Le_rfl
theorem y_isSpent0 (hP : PL σ μ r g n δ s) (hs : s ≤ 10) {a : Nat} {x : Int32} (ha : a < s) (h0 : gd r g n (δ a) = 0) : CL sc 98 [.ref 37, .int (nI a), .int x] μ = RI (nI 0) μ := by
  refine cl_of (D_Plan_isSpent_0 _ _ μ) rfl ?_
  have e : μ 39 a = nI 0 := by
    rw [(hP.2.2.2.1 a ha).2.1]
    dsimp only
    rw [h0]
  rw [y_sparedAt (by omega), e, thI_RI, if_pos (by decide)]
  rfl
theorem y_isSpent (hR : RB r) (hn : n ≤ nW r) (hg1 : g 1 ≤ 60) (hg0 : g 0 ≤ 60) (hP : PL σ μ r g n δ s) {a s0 : Nat} (ha : a < s) (h0 : s0 ≤ 120) : CL sc 98 [.ref 37, .int (nI a), .int (nI s0)] μ = RI (nI (b2 (tN r g n s0 (δ a)))) μ := by
  obtain ⟨p1, p2, p3⟩ := pl_days hR hn hP
  by_cases hpos : 0 < gd r g n (δ a)
  · have eb := y_betterDays (sc := sc) hR hn hg1 hP ha h0 hpos
    have hrk : rk (eN r g n s0) (gd r g n) 122 (δ a) ≤ 122 := cnt_le _ _
    have q3 := p3 a ha
    refine cl_of (D_Plan_isSpent_0 _ _ μ) rfl ?_
    rw [y_sparedAt (by omega), (hP.2.2.2.1 a ha).2.1, thI_RI, if_neg (nI_nle hpos (by omega)), y_isGood hR hn hg1 hP ha h0, thI_RI]
    by_cases hgood : s0 ≤ δ a ∧ δ a < s0 + g 1
    · have hd : decide (s0 ≤ δ a ∧ δ a < s0 + g 1) = true := by simp; exact hgood
      have he : eN r g n s0 (δ a) = true := eN_iff.mpr ⟨hgood, hpos⟩
      simp (disch := omega) only [lt_nI, hd, b2, cond_true, i_0, if_false, eb, thI_RI, hP.2.1.2.1, nI_leI]
      by_cases hlt : g 0 ≤ rk (eN r g n s0) (gd r g n) 122 (δ a)
      · have : tN r g n s0 (δ a) = false := by
          unfold tN
          rw [← Bool.not_eq_true, tkn_iff]
          omega
        rw [this]
        simp only [eq_true hlt, if_true]
        rfl
      · have : tN r g n s0 (δ a) = true := by
          unfold tN
          rw [tkn_iff]
          exact ⟨he, by omega⟩
        rw [this]
        simp only [eq_false hlt, if_false]
        rfl
    · have hd : decide (s0 ≤ δ a ∧ δ a < s0 + g 1) = false := by simp; omega
      have : tN r g n s0 (δ a) = false := by
        rw [← Bool.not_eq_true]
        intro q
        exact hgood (tN_e q).1
      rw [this]
      simp only [lt_nI, hd, b2, cond_false, i_1, if_true]
  · have : tN r g n s0 (δ a) = false := by
      rw [← Bool.not_eq_true]
      intro q
      exact hpos (tN_e q).2
    rw [this]
    exact y_isSpent0 hP p1 ha (by omega)
theorem y_costFrom (hR : RB r) (hn : n ≤ nW r) (hg1 : g 1 ≤ 60) (hg0 : g 0 ≤ 60) (hP : PL σ μ r g n δ s) {s0 : Nat} (h0 : s0 ≤ 120) : CL sc 97 [.ref 37, .int (nI s0)] μ = RI (cI r g n s0) μ := by
  obtain ⟨p1, p2, p3⟩ := pl_days hR hn hP
  have z3 := hP.2.1.1
  have hsp : spN r g n s0 = sumn (fun i => if tN r g n s0 (δ i) then gd r g n (δ i) else 0) s := by
    refine (sum_map (F := fun d => if tN r g n s0 d then gd r g n d else 0) 122 s p2 hP.2.2.2.2.1 fun d hd hF => ?_).symm
    refine pl_im hP (Nat.pos_of_ne_zero fun q => hF ?_)
    rw [q, ite_self]
  unfold cI
  rw [hsp]
  have L := lp (E := fun i => EV sc (97, 0, 0, 12, [.ref 37, .int (nI s0), .int (nI (g 2 + frN r n) - nI (sumn (fun i => if tN r g n s0 (δ i) then gd r g n (δ i) else 0) i)), .int (nI i)], [], (rp_L0, μ))) (n := s) (fun i hi => by
    have T37 : ∀ x2, rp_Le (EV sc (97, 0, 0, 12, [.ref 37, .int (nI s0), .int x2, .int (nI (i + 1))], [], (rp_L0, μ))) (EV sc (97, 0, 0, 37, [.ref 37, .int (nI s0), .int x2, .int (nI i)], [], (rp_L0, μ))) := fun x2 => by
      refine rp_Le_tr ?_ (D_Plan_costFrom_37 _ _ _ μ)
      simp only [lt_nI, nI_add]
      exact rp_Le_rfl
    have es := y_sparedAt (sc := sc) (σ := μ) (i := i) (by omega)
    rw [(hP.2.2.2.1 i hi).2.1] at es
    refine rp_Le_tr ?_ (D_Plan_costFrom_12 _ _ _ μ)
    rw [show sumn (fun i => if tN r g n s0 (δ i) then gd r g n (δ i) else 0) (i + 1) = sumn (fun i => if tN r g n s0 (δ i) then gd r g n (δ i) else 0) i + (if tN r g n s0 (δ i) then gd r g n (δ i) else 0) from rfl]
    rw [z3, if_neg (nI_ge hi (by omega)), y_isSpent hR hn hg1 hg0 hP hi h0, thI_RI]
    cases tN r g n s0 (δ i) with
    | true =>
      simp only [lt_nI, b2, cond_true, i_0, if_false, if_true, es, thI_RI, Int32.sub_sub, nI_add]
      exact T37 _
    | false =>
      simp only [lt_nI, b2, cond_false, i_1, if_true, Bool.false_eq_true, if_false, Nat.add_zero]
      exact T37 _)
  refine cl_le rfl (rp_Le_tr (rp_Le_tr (rp_Le_tr ?_ (D_Plan_costFrom_12 _ _ _ μ)) L) (rp_Le_tr ?_ (D_Plan_costFrom_0 _ μ)))
  · rw [z3, if_pos (nI_le (Nat.le_refl _) (by omega))]
    exact rp_Le_rfl
  · rw [hP.2.1.2.2.2.1, hP.2.1.2.2.2.2, nI_add]
    have e : nI (g 2 + frN r n) - nI (sumn (fun i => if tN r g n s0 (δ i) then gd r g n (δ i) else 0) 0) = nI (g 2 + frN r n) := Int32.sub_zero _
    rw [e]
    exact rp_Le_rfl
end
