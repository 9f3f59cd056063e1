/-! days as bits -/
theorem mk_all : (List.range 1024).all (fun M => (List.range 10).all (fun a => decide (nI M ||| (nI 1 <<< (nI a &&& nI 31)) = nI (M ||| 2 ^ a)) && (decide (M ||| 2 ^ a < 1024) && (decide ((nI M >>> (nI a &&& nI 31)) &&& nI 1 = nI 1) == M.testBit a))) && decide (rp_bc (nI M) = nI (cnt (fun i => M.testBit i) 10))) = true := by decide +kernel
theorem mk_of {M : Nat} (h : M < 1024) : (∀ a, a < 10 → nI M ||| (nI 1 <<< (nI a &&& nI 31)) = nI (M ||| 2 ^ a) ∧ M ||| 2 ^ a < 1024 ∧ decide ((nI M >>> (nI a &&& nI 31)) &&& nI 1 = nI 1) = M.testBit a) ∧ rp_bc (nI M) = nI (cnt (fun i => M.testBit i) 10) := by
  have h1 := List.all_eq_true.mp mk_all M (List.mem_range.mpr h)
  simp only [Bool.and_eq_true, List.all_eq_true, List.mem_range, decide_eq_true_eq, beq_iff_eq] at h1
  exact h1
theorem mk_set {M a i : Nat} : (M ||| 2 ^ a).testBit i = (M.testBit i || decide (a = i)) := by
  rw [Nat.testBit_or, Nat.testBit_two_pow]
/-! what the class tells of the choice -/
section
variable {sc : rp_Sc} {σ μ r : rp_Mm} {g : Nat → Nat} {n s : Nat} {δ : Nat → Nat} {Sp : Nat → Bool}
theorem y_isSpent {M i : Nat} (hM : M < 1024) (hi : i < 10) (h10 : μ 37 10 = nI M) : CL sc 106 [.ref 37, .int (nI i)] μ = RI (nI (b2 (M.testBit i))) μ := by
  have h := ((mk_of hM).1 i hi).2.2
  refine cl_of (D_Plan_isSpent_0 _ μ) rfl ?_
  rw [h10, ← h]
  by_cases q : (nI M >>> (nI i &&& 31)) &&& 1 = 1
  · rw [if_pos q, decide_eq_true (show (nI M >>> (nI i &&& nI 31)) &&& nI 1 = nI 1 from q)]; rfl
  · rw [if_neg q, decide_eq_false (show ¬ (nI M >>> (nI i &&& nI 31)) &&& nI 1 = nI 1 from q)]; rfl
theorem cnt_ext {P Q : Nat → Bool} {s : Nat} : ∀ {N : Nat}, s ≤ N → (∀ i, i < N → P i = (decide (i < s) && Q i)) → cnt P N = cnt Q s := by
  intro N
  induction N with
  | zero => intro h _; have : s = 0 := by omega
            subst this; rfl
  | succ N ih =>
    intro h hp
    by_cases e : s = N + 1
    · subst e
      exact cnt_congr fun i hi => by rw [hp i hi, decide_eq_true hi, Bool.true_and]
    · have hN : P N = false := by rw [hp N (by omega), decide_eq_false (by omega), Bool.false_and]
      show cnt P N + (if P N then 1 else 0) = _
      rw [hN, ih (by omega) fun i hi => hp i (by omega)]
      rfl
theorem y_chosenDays {M : Nat} (hs : s ≤ 10) (hM : M < 1024) (h10 : μ 37 10 = nI M) (hb : ∀ i, i < 10 → M.testBit i = (decide (i < s) && Sp i)) : CL sc 104 [.ref 37] μ = RI (nI (cnt Sp s)) μ := by
  refine cl_of (D_Plan_chosenDays_0 μ) rfl ?_
  rw [h10, (mk_of hM).2, cnt_ext hs hb]
theorem y_chosenGoers {q : Nat → Nat} (hs : s ≤ 10) (z3 : μ 37 3 = nI s) (hq : ∀ i, i < s → μ 40 i = nI (q i)) (hsp : ∀ a, a < s → CL sc 106 [.ref 37, .int (nI a)] μ = RI (nI (b2 (Sp a))) μ) : CL sc 105 [.ref 37] μ = RI (nI (sumn (fun i => if Sp i then q i else 0) s)) μ := by
  have L := lp (E := fun i => EV sc (105, 0, 0, 4, [.ref 37, .int (nI (sumn (fun i => if Sp i then q i else 0) i)), .int (nI i)], [], (rp_L0, μ))) (n := s) (fun i hi => by
    have T28 : ∀ x1, rp_Le (EV sc (105, 0, 0, 4, [.ref 37, .int x1, .int (nI (i + 1))], [], (rp_L0, μ))) (EV sc (105, 0, 0, 28, [.ref 37, .int x1, .int (nI i)], [], (rp_L0, μ))) := fun x1 => by
      refine rp_Le_tr ?_ (D_Plan_chosenGoers_28 _ _ μ)
      simp only [lt_nI, nI_add]
      exact rp_Le_rfl
    have eg := y_goersAt (sc := sc) (σ := μ) (i := i) (by omega)
    rw [hq i hi] at eg
    refine rp_Le_tr ?_ (D_Plan_chosenGoers_4 _ _ μ)
    rw [show sumn (fun i => if Sp i then q i else 0) (i + 1) = sumn (fun i => if Sp i then q i else 0) i + (if Sp i then q i else 0) from rfl]
    rw [z3, if_neg (nI_ge hi (by omega)), hsp i hi, thI_RI]
    cases Sp i with
    | true =>
      simp only [lt_nI, b2, cond_true, i_0, if_false, if_true, eg, thI_RI, nI_add]
      exact T28 _
    | false =>
      simp only [lt_nI, b2, cond_false, i_1, if_true, Bool.false_eq_true, if_false, Nat.add_zero]
      exact T28 _)
  refine cl_le rfl (rp_Le_tr (rp_Le_tr (rp_Le_tr ?_ (D_Plan_chosenGoers_4 _ _ μ)) L) (D_Plan_chosenGoers_0 μ))
  rw [z3, if_pos (nI_le (Nat.le_refl _) (by omega))]
  exact rp_Le_rfl
theorem y_chosenDay {i : Nat} (hi2 : i < 10) (hs : s ≤ 10) (z3 : μ 37 3 = nI s) (hd : ∀ i, i < s → μ 38 i = nI (δ i)) (hsp : ∀ a, a < s → CL sc 106 [.ref 37, .int (nI a)] μ = RI (nI (b2 (Sp a))) μ) : (∃ a, a < s ∧ Sp a = true ∧ cnt Sp a = i ∧ CL sc 107 [.ref 37, .int (nI i)] μ = RI (nI (δ a)) μ) ∨ ((∀ a, a < s → ¬ (Sp a = true ∧ cnt Sp a = i)) ∧ CL sc 107 [.ref 37, .int (nI i)] μ = RI (-3) μ) := by
  rcases lp_first (E := fun a => EV sc (107, 0, 0, 4, [.ref 37, .int (nI i), .int (nI (cnt Sp a)), .int (nI a)], [], (rp_L0, μ))) (r1 := fun a => RI (nI (δ a)) μ) (r0 := RI (-3) μ) (P := fun a => Sp a = true ∧ cnt Sp a = i) s 0 s (by omega)
    (fun a _ ha hp => by
      have ed := y_dayAt (sc := sc) (σ := μ) (i := a) (by omega)
      rw [hd a ha] at ed
      refine rp_Le_tr ?_ (D_Plan_chosenDay_4 _ _ _ μ)
      rw [z3, if_neg (nI_ge ha (by omega)), hsp a ha, thI_RI, hp.1, hp.2, if_neg (by decide), if_pos rfl, ed, thI_RI]
      exact rp_Le_rfl)
    (fun a _ ha hp => by
      have hc := cnt_le Sp a
      have T34 : ∀ x1 x2, rp_Le (EV sc (107, 0, 0, 4, [.ref 37, .int x1, .int x2, .int (nI (a + 1))], [], (rp_L0, μ))) (EV sc (107, 0, 0, 34, [.ref 37, .int x1, .int x2, .int (nI a)], [], (rp_L0, μ))) := fun x1 x2 => by
        refine rp_Le_tr ?_ (D_Plan_chosenDay_34 _ _ _ μ)
        simp only [lt_nI, nI_add]
        exact rp_Le_rfl
      refine rp_Le_tr ?_ (D_Plan_chosenDay_4 _ _ _ μ)
      rw [show cnt Sp (a + 1) = cnt Sp a + (if Sp a then 1 else 0) from rfl]
      rw [z3, if_neg (nI_ge ha (by omega)), hsp a ha, thI_RI]
      cases hq : Sp a with
      | true =>
        have hne : ¬ cnt Sp a = i := fun q => hp ⟨hq, q⟩
        simp (disch := omega) only [lt_nI, b2, cond_true, i_0, if_false, if_true, nI_eq, hne, nI_add]
        exact T34 _ _
      | false =>
        simp only [lt_nI, b2, cond_false, i_1, if_true, Bool.false_eq_true, if_false, Nat.add_zero]
        exact T34 _ _)
    (by
      refine rp_Le_tr ?_ (D_Plan_chosenDay_4 _ _ _ μ)
      rw [z3, if_pos (nI_le (Nat.le_refl _) (by omega))]
      exact rp_Le_rfl) with ⟨a, -, h1, h2, -, h3⟩ | ⟨h1, h2⟩
  · exact Or.inl ⟨a, h1, h2.1, h2.2, cl_le rfl (rp_Le_tr h3 (D_Plan_chosenDay_0 _ μ))⟩
  · exact Or.inr ⟨fun a ha => h1 a (by omega) ha, cl_le rfl (rp_Le_tr h2 (D_Plan_chosenDay_0 _ μ))⟩
/-- by days -/
theorem tN_im (hP : PL σ μ r g n δ s) {s0 d : Nat} (h : tN r g n s0 d = true) : ∃ i, i < s ∧ δ i = d := pl_im hP (tN_e h).2
theorem mn_eq (hR : RB r) (hn : n ≤ nW r) (hP : PL σ μ r g n δ s) {s0 : Nat} : cnt (fun i => tN r g n s0 (δ i)) s = mnN r g n s0 := cnt_map (P := tN r g n s0) (pl_days hR hn hP).2.1 hP.2.2.2.2.1 fun _ _ h => tN_im hP h
theorem qn_eq (hR : RB r) (hn : n ≤ nW r) (hP : PL σ μ r g n δ s) {s0 : Nat} : sumn (fun i => if tN r g n s0 (δ i) then qd r g n (δ i) else 0) s = qnN r g n s0 := sum_map (F := fun d => if tN r g n s0 d then qd r g n d else 0) 122 s (pl_days hR hn hP).2.1 hP.2.2.2.2.1 fun d _ hF => by
  cases ht : tN r g n s0 d with
  | true => exact tN_im hP ht
  | false => rw [ht] at hF; exact absurd rfl hF
theorem pre_eq (hP : PL σ μ r g n δ s) {s0 a : Nat} (ha : a < s) : cnt (fun i => tN r g n s0 (δ i)) a = cnt (tN r g n s0) (δ a) := by
  have hin := hP.2.2.2.2.1
  refine cnt_map (P := tN r g n s0) (fun i hi => hin i a hi ha) (fun i j hij hj => hin i j hij (by omega)) fun d hd h => ?_
  obtain ⟨i, hi, e⟩ := tN_im hP h
  refine ⟨i, Nat.lt_of_not_le fun q => ?_, e⟩
  by_cases q2 : i = a
  · rw [q2] at e; omega
  · have := hin a i (by omega) hi; omega
/-- the i-th of those that are so -/
def nthV (T : Nat → Bool) (N i : Nat) (v : Int32) : Prop := (∃ d, d < N ∧ T d = true ∧ cnt T d = i ∧ v = nI d) ∨ ((∀ d, d < N → ¬ (T d = true ∧ cnt T d = i)) ∧ v = -3)
theorem nthV_u {T : Nat → Bool} {N i : Nat} {v v' : Int32} (h : nthV T N i v) (h' : nthV T N i v') : v = v' := by
  have mono : ∀ {a b : Nat}, a < b → T a = true → cnt T a < cnt T b := by
    intro a b hab ha
    have : ∀ k, cnt T (a + 1) ≤ cnt T (a + 1 + k) := by
      intro k
      induction k with
      | zero => exact Nat.le_refl _
      | succ k ih => exact Nat.le_trans ih (Nat.le_add_right _ _)
    have h1 := this (b - (a + 1))
    rw [show a + 1 + (b - (a + 1)) = b by omega] at h1
    have h2 : cnt T (a + 1) = cnt T a + 1 := by
      show cnt T a + (if T a then 1 else 0) = _
      rw [ha]
      rfl
    omega
  rcases h with ⟨d, h1, h2, h3, h4⟩ | ⟨h1, h4⟩ <;> rcases h' with ⟨d', h1', h2', h3', h4'⟩ | ⟨h1', h4'⟩
  · have : d = d' := by
      refine Classical.byContradiction fun q => ?_
      by_cases hlt : d < d'
      · have := mono hlt h2; omega
      · have := mono (show d' < d by omega) h2'; omega
    rw [h4, h4', this]
  · exact absurd ⟨h2, h3⟩ (h1' d h1)
  · exact absurd ⟨h2', h3'⟩ (h1 d' h1')
  · rw [h4, h4']
end
