/-! loops -/
theorem rp_Le_tr {a b c : Option rp_Rs} (h1 : rp_Le a b) (h2 : rp_Le b c) : rp_Le a c := fun x h => h2 x (h1 x h)
theorem cl_le {sc : rp_Sc} {m : Nat} {args ls : List Value} {σ : rp_Mm} {x : rp_Rs} (he : rp_en (rp_mt m).2.2.1 args = ls) (h : rp_Le (some x) (EV sc (m, 0, 0, 0, ls, [], (rp_L0, σ)))) : CL sc m args σ = some x := by
  subst he
  exact h x rfl
theorem lp {E : Nat → Option rp_Rs} : ∀ {n : Nat}, (∀ i, i < n → rp_Le (E (i + 1)) (E i)) → rp_Le (E n) (E 0) := by
  intro n
  induction n with
  | zero => intro _; exact rp_Le_rfl
  | succ n ih => intro hs; exact rp_Le_tr (hs n (by omega)) (ih fun i hi => hs i (by omega))
theorem lp_from {E : Nat → Option rp_Rs} {a n : Nat} (h : a ≤ n) (hs : ∀ i, a ≤ i → i < n → rp_Le (E (i + 1)) (E i)) : rp_Le (E n) (E a) := by
  have := lp (E := fun k => E (a + k)) (n := n - a) (fun i hi => hs (a + i) (by omega) (by omega))
  have e : a + (n - a) = n := by omega
  simp only [e, Nat.add_zero] at this
  exact this
/-- the first of n that is so ends the loop -/
theorem lp_first {E r1 : Nat → Option rp_Rs} {P : Nat → Prop} {r0 : Option rp_Rs} : ∀ (k i n : Nat), i + k = n → (∀ j, i ≤ j → j < n → P j → rp_Le (r1 j) (E j)) → (∀ j, i ≤ j → j < n → ¬ P j → rp_Le (E (j + 1)) (E j)) → rp_Le r0 (E n) → (∃ j, i ≤ j ∧ j < n ∧ P j ∧ (∀ q, i ≤ q → q < j → ¬ P q) ∧ rp_Le (r1 j) (E i)) ∨ (∀ j, i ≤ j → j < n → ¬ P j) ∧ rp_Le r0 (E i) := by
  intro k
  induction k with
  | zero =>
    intro i n h _ _ h3
    have : i = n := by omega
    subst this
    exact Or.inr ⟨fun j h1 h2 => absurd h1 (by omega), h3⟩
  | succ k ih =>
    intro i n h h1 h2 h3
    by_cases hp : P i
    · exact Or.inl ⟨i, Nat.le_refl _, by omega, hp, fun q a b => absurd a (by omega), h1 i (Nat.le_refl _) (by omega) hp⟩
    · have e := h2 i (Nat.le_refl _) (by omega) hp
      rcases ih (i + 1) n (by omega) (fun j a b c => h1 j (by omega) b c) (fun j a b c => h2 j (by omega) b c) h3 with ⟨j, a, b, c, d, q⟩ | ⟨a, q⟩
      · refine Or.inl ⟨j, by omega, b, c, fun z hz hj => ?_, rp_Le_tr q e⟩
        by_cases hzi : z = i
        · subst hzi; exact hp
        · exact d z (by omega) hj
      · refine Or.inr ⟨fun j hj hn => ?_, rp_Le_tr q e⟩
        by_cases hji : j = i
        · subst hji; exact hp
        · exact a j (by omega) hn
def b2 (b : Bool) : Nat := bif b then 1 else 0
theorem b2_le (b : Bool) : b2 b ≤ 1 := by cases b <;> decide
theorem isC_iff {r : rp_Mm} {p d : Nat} : ∀ {k : Nat}, isC r p d k = true ↔ ∃ i, i < k ∧ rd r i 0 = p ∧ cdR r i = d := by
  intro k
  induction k with
  | zero => simp [isC]
  | succ k ih =>
    unfold isC
    rw [Bool.or_eq_true, ih]
    simp only [Bool.and_eq_true, decide_eq_true_eq]
    constructor
    · rintro (⟨i, h1, h2⟩ | h)
      · exact ⟨i, by omega, h2⟩
      · exact ⟨k, by omega, h⟩
    · rintro ⟨i, h1, h2⟩
      by_cases e : i = k
      · subst e; exact Or.inr h2
      · exact Or.inl ⟨i, by omega, h2⟩
theorem cdR_le {r : rp_Mm} (h : RB r) {i : Nat} (hi : i < nR r) : cdR r i ≤ 121 := by
  have b := b_rd h hi
  have := cdN_le r (rd r i 1) (rd r i 2) (ps r (rd r i 0) 5)
  unfold cdR
  omega
theorem payR_le {r : rp_Mm} (h : RB r) {i : Nat} (hi : i < nR r) : payR r i ≤ 1499 := by
  have b := b_rd h hi
  have c := (b_ps h b.1).1
  unfold TM at c
  exact paysN_le h b.2.1 (by omega) (by omega)
theorem cdays_le (r : rp_Mm) (p : Nat) : cdays r p ≤ nR r := cnt_le _ _
/-- the rides on a train that day; of a pass; what was paid -/
def onN (r : rp_Mm) (t d : Nat) : Nat := cnt (fun i => decide (rd r i 1 = t) && decide (rd r i 2 = d)) (nR r)
def byN (r : rp_Mm) (p : Nat) : Nat := cnt (fun i => decide (rd r i 0 = p)) (nR r)
def paidN (r : rp_Mm) (p : Nat) : Nat := sumn (fun i => if rd r i 0 = p then payR r i else 0) (nR r)
section
variable {sc : rp_Sc} {σ r : rp_Mm}
theorem x_countedOf (h : RB (R σ)) {i : Nat} (hi : i < nR (R σ)) : CL sc 182 [.ref 48, .int (nI i)] σ = RI (nI (cdR (R σ) i)) σ := by
  have bn := b_n h
  have br := b_rd h hi
  have bp := (b_ps h br.1).1
  unfold TM at bp
  refine cl_of (D_Ref_countedOf_0 _ σ) rfl ?_
  simp (disch := omega) only [lt_nI, nI_add, pk_mul, nI_clamp, nI_leI, nI_ltI, nI_eq, ixT, cond_true, r_rd h hi, r_rd0 h hi, r_ps h br.1, x_counted h br.2.1, thI_RI]
  rfl
theorem x_paysOf (h : RB (R σ)) {i : Nat} (hi : i < nR (R σ)) : CL sc 188 [.ref 48, .int (nI i)] σ = RI (nI (payR (R σ) i)) σ := by
  have bn := b_n h
  have br := b_rd h hi
  have bp := (b_ps h br.1).1
  refine cl_of (D_Ref_paysOf_0 _ σ) rfl ?_
  have e := x_pays (sc := sc) h (a := 52) (q := 128) (at' := 16 * rd (R σ) i 0) (g := ps (R σ) (rd (R σ) i 0)) br.2.1 rfl (by omega) (by decide) (fun k hk => r_ps h br.1 (by omega)) bp
  simp (disch := omega) only [lt_nI, nI_add, pk_mul, nI_clamp, nI_leI, nI_ltI, nI_eq, ixT, cond_true, r_rd h hi, r_rd0 h hi, e, thI_RI]
  rfl
theorem x_isCounted (h : RB (R σ)) {p d k : Nat} (hp : p < nP (R σ)) (hd : d ≤ 121) (hk : k ≤ nR (R σ)) : CL sc 181 [.ref 48, .int (nI p), .int (nI d), .int (nI k)] σ = RI (nI (b2 (isC (R σ) p d k))) σ := by
  have bn := b_n h
  refine cl_le rfl (rp_Le_tr ?_ (D_Ref_isCounted_0 _ _ _ σ))
  have L := lp (E := fun i => EV sc (181, 0, 0, 6, [.ref 48, .int (nI p), .int (nI d), .int (nI k), .int (nI (b2 (isC (R σ) p d i))), .int (nI i)], [], (rp_L0, σ))) (n := k) (fun i hi => by
    have br := b_rd h (show i < nR (R σ) by omega)
    have bc := cdR_le h (show i < nR (R σ) by omega)
    have bb := b2_le (isC (R σ) p d i)
    refine rp_Le_tr ?_ (D_Ref_isCounted_6 _ _ _ _ _ σ)
    simp (disch := omega) only [lt_nI, nI_add, pk_mul, nI_clamp, nI_leI, nI_ltI, nI_eq, ixT, cond_true, r_rd0 h (show i < nR (R σ) by omega), x_countedOf h (show i < nR (R σ) by omega), thI_RI, show ¬ k ≤ i by omega, if_false]
    cases hc : isC (R σ) p d i with
    | true =>
      simp only [isC, hc, b2, Bool.true_or, cond_true, show ¬ (1 : Nat) = 0 by decide, if_false]
      refine rp_Le_tr (rp_Le_tr ?_ (D_Ref_isCounted_45 _ _ _ _ _ _ σ)) (D_Ref_isCounted_40 _ _ _ _ _ σ)
      simp only [lt_nI, nI_add, pk_mul]
      exact rp_Le_rfl
    | false =>
      simp only [isC, hc, b2, Bool.false_or, cond_false, if_true]
      by_cases h1 : rd (R σ) i 0 = p
      · by_cases h2 : cdR (R σ) i = d
        · simp only [h1, h2, if_true, decide_true, Bool.and_self, cond_true]
          refine rp_Le_tr (rp_Le_tr ?_ (D_Ref_isCounted_45 _ _ _ _ _ _ σ)) (D_Ref_isCounted_40 _ _ _ _ _ σ)
          simp only [lt_nI, nI_add, pk_mul]
          exact rp_Le_rfl
        · simp only [h1, h2, if_true, if_false, decide_true, decide_false, Bool.and_false, cond_false]
          refine rp_Le_tr (rp_Le_tr ?_ (D_Ref_isCounted_45 _ _ _ _ _ _ σ)) (D_Ref_isCounted_44 _ _ _ _ _ σ)
          simp only [lt_nI, nI_add, pk_mul]
          exact rp_Le_rfl
      · simp only [h1, if_false, decide_false, Bool.false_and, cond_false]
        refine rp_Le_tr (rp_Le_tr ?_ (D_Ref_isCounted_45 _ _ _ _ _ _ σ)) (D_Ref_isCounted_44 _ _ _ _ _ σ)
        simp only [lt_nI, nI_add, pk_mul]
        exact rp_Le_rfl)
  refine rp_Le_tr ?_ L
  refine rp_Le_tr ?_ (D_Ref_isCounted_6 _ _ _ _ _ σ)
  simp (disch := omega) only [lt_nI, nI_add, pk_mul, nI_clamp, nI_leI, nI_ltI, nI_eq, ixT, cond_true, Nat.le_refl, if_true]
  cases isC (R σ) p d k <;> exact rp_Le_rfl
theorem y_isCounted (h : BI (C σ) r) {p d k : Nat} (hp : p < nP r) (hd : d ≤ 121) (hk : k ≤ nR r) : CL sc 65 [.ref 2, .int (nI p), .int (nI d), .int (nI k)] σ = RI (nI (b2 (isC r p d k))) σ := by
  have bn := b_n h.1
  refine cl_le rfl (rp_Le_tr ?_ (D_Book_isCounted_0 _ _ _ σ))
  rcases lp_first (E := fun i => EV sc (65, 0, 0, 3, [.ref 2, .int (nI p), .int (nI d), .int (nI k), .int (nI i)], [], (rp_L0, σ))) (r1 := fun _ => RI (nI 1) σ) (r0 := RI (nI 0) σ) (P := fun i => rd r i 0 = p ∧ cdR r i = d) k 0 k (by omega)
    (fun i _ hi hP => by
      have br := b_rd h.1 (show i < nR r by omega)
      have bc := cdR_le h.1 (show i < nR r by omega)
      refine rp_Le_tr ?_ (D_Book_isCounted_3 _ _ _ _ σ)
      simp (disch := omega) only [lt_nI, nI_add, pk_mul, nI_clamp, nI_leI, nI_ltI, nI_eq, ixT, cond_true, z_rd h, g_rd h (show i < nR r by omega), g_rd3 h (show i < nR r by omega), thI_RI, show ¬ k ≤ i by omega, show ¬ nR r ≤ i by omega, if_false, hP.1, hP.2, if_true]
      exact rp_Le_rfl)
    (fun i _ hi hP => by
      have br := b_rd h.1 (show i < nR r by omega)
      have bc := cdR_le h.1 (show i < nR r by omega)
      refine rp_Le_tr ?_ (D_Book_isCounted_3 _ _ _ _ σ)
      simp (disch := omega) only [lt_nI, nI_add, pk_mul, nI_clamp, nI_leI, nI_ltI, nI_eq, ixT, cond_true, z_rd h, g_rd h (show i < nR r by omega), g_rd3 h (show i < nR r by omega), thI_RI, show ¬ k ≤ i by omega, show ¬ nR r ≤ i by omega, if_false]
      have J : rp_Le (EV sc (65, 0, 0, 3, [.ref 2, .int (nI p), .int (nI d), .int (nI k), .int (nI (i + 1))], [], (rp_L0, σ))) (EV sc (65, 0, 0, 51, [.ref 2, .int (nI p), .int (nI d), .int (nI k), .int (nI i)], [], (rp_L0, σ))) := by
        refine rp_Le_tr ?_ (D_Book_isCounted_51 _ _ _ _ σ)
        simp only [lt_nI, nI_add, pk_mul]
        exact rp_Le_rfl
      split
      · split
        · exact absurd ⟨by assumption, by assumption⟩ hP
        · exact J
      · exact J)
    (by
      refine rp_Le_tr ?_ (D_Book_isCounted_3 _ _ _ _ σ)
      simp (disch := omega) only [lt_nI, nI_add, pk_mul, nI_clamp, nI_leI, nI_ltI, nI_eq, ixT, cond_true, Nat.le_refl, if_true]
      exact rp_Le_rfl) with ⟨j, -, h1, h2, -, h3⟩ | ⟨h1, h2⟩
  · rw [isC_iff.mpr ⟨j, h1, h2⟩]
    exact h3
  · have : isC r p d k = false := by
      rw [← Bool.not_eq_true, isC_iff]
      rintro ⟨i, a, b⟩
      exact h1 i (by omega) a b
    rw [this]
    exact h2
theorem x_countedDays (h : RB (R σ)) {p : Nat} (hp : p < nP (R σ)) : CL sc 183 [.ref 48, .int (nI p)] σ = RI (nI (cdays (R σ) p)) σ := by
  have bn := b_n h
  refine cl_le rfl (rp_Le_tr ?_ (D_Ref_countedDays_0 _ σ))
  have L := lp (E := fun i => EV sc (183, 0, 0, 4, [.ref 48, .int (nI p), .int (nI (cnt (fun i => decide (rd (R σ) i 0 = p) && !isC (R σ) p (cdR (R σ) i) i) i)), .int (nI i)], [], (rp_L0, σ))) (n := nR (R σ)) (fun i hi => by
    have br := b_rd h hi
    have bc := cdR_le h hi
    refine rp_Le_tr ?_ (D_Ref_countedDays_4 _ _ _ σ)
    simp (disch := omega) only [lt_nI, nI_add, pk_mul, nI_clamp, nI_leI, nI_ltI, nI_eq, ixT, cond_true, r_nR h, r_rd0 h hi, x_countedOf h hi, x_isCounted h hp bc (show i ≤ nR (R σ) by omega), thI_RI, show ¬ nR (R σ) ≤ i by omega, if_false, cnt]
    by_cases h1 : rd (R σ) i 0 = p
    · rcases Bool.eq_false_or_eq_true (isC (R σ) p (cdR (R σ) i) i) with h2 | h2
      · simp only [h1, h2, b2, i_0, if_true, if_false, decide_true, Bool.not_true, Bool.and_false, cond_true]
        refine rp_Le_tr (rp_Le_tr ?_ (D_Ref_countedDays_46 _ _ _ _ _ σ)) (D_Ref_countedDays_45 _ _ _ _ σ)
        (simp only [lt_nI, nI_add, pk_mul]; exact rp_Le_rfl)
      · simp only [h1, h2, b2, i_1, if_true, if_false, decide_true, Bool.not_false, Bool.and_true, cond_false]
        refine rp_Le_tr ?_ (D_Ref_countedDays_46 _ _ _ _ _ σ)
        (simp only [lt_nI, nI_add, pk_mul]; exact rp_Le_rfl)
    · simp only [h1, if_false, decide_false, Bool.false_and]
      refine rp_Le_tr (rp_Le_tr ?_ (D_Ref_countedDays_46 _ _ _ _ _ σ)) (D_Ref_countedDays_45 _ _ _ _ σ)
      simp only [lt_nI, nI_add, pk_mul]
      exact rp_Le_rfl)
  refine rp_Le_tr ?_ L
  refine rp_Le_tr ?_ (D_Ref_countedDays_4 _ _ _ σ)
  simp (disch := omega) only [lt_nI, nI_add, pk_mul, nI_clamp, nI_leI, nI_ltI, nI_eq, ixT, cond_true, r_nR h, Nat.le_refl, if_true]
  exact rp_Le_rfl
theorem y_countedDays (h : BI (C σ) r) {p : Nat} (hp : p < nP r) : CL sc 64 [.ref 2, .int (nI p)] σ = RI (nI (cdays r p)) σ := by
  have bn := b_n h.1
  refine cl_le rfl (rp_Le_tr ?_ (D_Book_countedDays_0 _ σ))
  have L := lp (E := fun i => EV sc (64, 0, 0, 4, [.ref 2, .int (nI p), .int (nI (cnt (fun i => decide (rd r i 0 = p) && !isC r p (cdR r i) i) i)), .int (nI i)], [], (rp_L0, σ))) (n := nR r) (fun i hi => by
    have br := b_rd h.1 hi
    have bc := cdR_le h.1 hi
    refine rp_Le_tr ?_ (D_Book_countedDays_4 _ _ _ σ)
    simp (disch := omega) only [lt_nI, nI_add, pk_mul, nI_clamp, nI_leI, nI_ltI, nI_eq, ixT, cond_true, z_rd h, g_rd h hi, g_rd3 h hi, y_isCounted h hp bc (show i ≤ nR r by omega), thI_RI, show ¬ nR r ≤ i by omega, if_false, cnt]
    by_cases h1 : rd r i 0 = p
    · rcases Bool.eq_false_or_eq_true (isC r p (cdR r i) i) with h2 | h2
      · simp only [h1, h2, b2, i_0, if_true, if_false, decide_true, Bool.not_true, Bool.and_false, cond_true]
        refine rp_Le_tr ?_ (D_Book_countedDays_49 _ _ _ σ)
        (simp only [lt_nI, nI_add, pk_mul]; exact rp_Le_rfl)
      · simp only [h1, h2, b2, i_1, if_true, if_false, decide_true, Bool.not_false, Bool.and_true, cond_false]
        refine rp_Le_tr ?_ (D_Book_countedDays_49 _ _ _ σ)
        (simp only [lt_nI, nI_add, pk_mul]; exact rp_Le_rfl)
    · simp only [h1, if_false, decide_false, Bool.false_and]
      refine rp_Le_tr ?_ (D_Book_countedDays_49 _ _ _ σ)
      (simp only [lt_nI, nI_add, pk_mul]; exact rp_Le_rfl))
  refine rp_Le_tr ?_ L
  refine rp_Le_tr ?_ (D_Book_countedDays_4 _ _ _ σ)
  simp (disch := omega) only [lt_nI, nI_add, pk_mul, nI_clamp, nI_leI, nI_ltI, nI_eq, ixT, cond_true, z_rd h, thI_RI, Nat.le_refl, if_true]
  exact rp_Le_rfl
theorem x_takenOn (h : RB (R σ)) {t d : Nat} (ht : t < nT (R σ)) (hd : d ≤ 120) : CL sc 184 [.ref 48, .int (nI t), .int (nI d)] σ = RI (nI (onN (R σ) t d)) σ := by
  have bn := b_n h
  refine cl_le rfl (rp_Le_tr ?_ (D_Ref_takenOn_0 _ _ σ))
  have L := lp (E := fun i => EV sc (184, 0, 0, 5, [.ref 48, .int (nI t), .int (nI d), .int (nI (cnt (fun i => decide (rd (R σ) i 1 = t) && decide (rd (R σ) i 2 = d)) i)), .int (nI i)], [], (rp_L0, σ))) (n := nR (R σ)) (fun i hi => by
    have br := b_rd h hi
    refine rp_Le_tr ?_ (D_Ref_takenOn_5 _ _ _ _ σ)
    simp (disch := omega) only [lt_nI, nI_add, pk_mul, nI_clamp, nI_leI, nI_ltI, nI_eq, ixT, cond_true, r_nR h, r_rd h hi, show ¬ nR (R σ) ≤ i by omega, if_false, cnt]
    by_cases h1 : rd (R σ) i 1 = t
    · by_cases h2 : rd (R σ) i 2 = d
      · simp only [h1, h2, if_true, decide_true, Bool.and_self]
        refine rp_Le_tr ?_ (D_Ref_takenOn_52 _ _ _ _ _ _ σ)
        (simp only [lt_nI, nI_add, pk_mul]; exact rp_Le_rfl)
      · simp only [h1, h2, if_true, if_false, decide_true, decide_false, Bool.and_false]
        refine rp_Le_tr (rp_Le_tr ?_ (D_Ref_takenOn_52 _ _ _ _ _ _ σ)) (D_Ref_takenOn_51 _ _ _ _ _ σ)
        (simp only [lt_nI, nI_add, pk_mul]; exact rp_Le_rfl)
    · simp only [h1, if_false, decide_false, Bool.false_and]
      refine rp_Le_tr (rp_Le_tr ?_ (D_Ref_takenOn_52 _ _ _ _ _ _ σ)) (D_Ref_takenOn_51 _ _ _ _ _ σ)
      (simp only [lt_nI, nI_add, pk_mul]; exact rp_Le_rfl))
  refine rp_Le_tr ?_ L
  refine rp_Le_tr ?_ (D_Ref_takenOn_5 _ _ _ _ σ)
  simp (disch := omega) only [lt_nI, nI_add, pk_mul, nI_clamp, nI_leI, nI_ltI, nI_eq, ixT, cond_true, r_nR h, Nat.le_refl, if_true]
  exact rp_Le_rfl
theorem y_ridesOn (h : BI (C σ) r) {t d : Nat} (ht : t < nT r) (hd : d ≤ 120) : CL sc 75 [.ref 2, .int (nI t), .int (nI d)] σ = RI (nI (onN r t d)) σ := by
  have bn := b_n h.1
  refine cl_le rfl (rp_Le_tr ?_ (D_Book_ridesOn_0 _ _ σ))
  have L := lp (E := fun i => EV sc (75, 0, 0, 5, [.ref 2, .int (nI t), .int (nI d), .int (nI (cnt (fun i => decide (rd r i 1 = t) && decide (rd r i 2 = d)) i)), .int (nI i)], [], (rp_L0, σ))) (n := nR r) (fun i hi => by
    have br := b_rd h.1 hi
    refine rp_Le_tr ?_ (D_Book_ridesOn_5 _ _ _ _ σ)
    simp (disch := omega) only [lt_nI, nI_add, pk_mul, nI_clamp, nI_leI, nI_ltI, nI_eq, ixT, cond_true, z_rd h, g_rd h hi, thI_RI, show ¬ nR r ≤ i by omega, if_false, cnt]
    by_cases h1 : rd r i 1 = t
    · by_cases h2 : rd r i 2 = d
      · simp only [h1, h2, if_true, decide_true, Bool.and_self]
        refine rp_Le_tr ?_ (D_Book_ridesOn_48 _ _ _ _ σ)
        (simp only [lt_nI, nI_add, pk_mul]; exact rp_Le_rfl)
      · simp only [h1, h2, if_true, if_false, decide_true, decide_false, Bool.and_false]
        refine rp_Le_tr ?_ (D_Book_ridesOn_48 _ _ _ _ σ)
        (simp only [lt_nI, nI_add, pk_mul]; exact rp_Le_rfl)
    · simp only [h1, if_false, decide_false, Bool.false_and]
      refine rp_Le_tr ?_ (D_Book_ridesOn_48 _ _ _ _ σ)
      (simp only [lt_nI, nI_add, pk_mul]; exact rp_Le_rfl))
  refine rp_Le_tr ?_ L
  refine rp_Le_tr ?_ (D_Book_ridesOn_5 _ _ _ _ σ)
  simp (disch := omega) only [lt_nI, nI_add, pk_mul, nI_clamp, nI_leI, nI_ltI, nI_eq, ixT, cond_true, z_rd h, thI_RI, Nat.le_refl, if_true]
  exact rp_Le_rfl
theorem y_ridesBy (h : BI (C σ) r) {p : Nat} (hp : p < nP r) : CL sc 66 [.ref 2, .int (nI p)] σ = RI (nI (byN r p)) σ := by
  have bn := b_n h.1
  refine cl_le rfl (rp_Le_tr ?_ (D_Book_ridesBy_0 _ σ))
  have L := lp (E := fun i => EV sc (66, 0, 0, 4, [.ref 2, .int (nI p), .int (nI (cnt (fun i => decide (rd r i 0 = p)) i)), .int (nI i)], [], (rp_L0, σ))) (n := nR r) (fun i hi => by
    have br := b_rd h.1 hi
    refine rp_Le_tr ?_ (D_Book_ridesBy_4 _ _ _ σ)
    simp (disch := omega) only [lt_nI, nI_add, pk_mul, nI_clamp, nI_leI, nI_ltI, nI_eq, ixT, cond_true, z_rd h, g_rd h hi, thI_RI, show ¬ nR r ≤ i by omega, if_false, cnt]
    by_cases h1 : rd r i 0 = p
    · simp only [h1, if_true, decide_true]
      refine rp_Le_tr ?_ (D_Book_ridesBy_31 _ _ _ σ)
      (simp only [lt_nI, nI_add, pk_mul]; exact rp_Le_rfl)
    · simp only [h1, if_false, decide_false, Bool.false_eq_true]
      refine rp_Le_tr ?_ (D_Book_ridesBy_31 _ _ _ σ)
      (simp only [lt_nI, nI_add, pk_mul]; exact rp_Le_rfl))
  refine rp_Le_tr ?_ L
  refine rp_Le_tr ?_ (D_Book_ridesBy_4 _ _ _ σ)
  simp (disch := omega) only [lt_nI, nI_add, pk_mul, nI_clamp, nI_leI, nI_ltI, nI_eq, ixT, cond_true, z_rd h, thI_RI, Nat.le_refl, if_true]
  exact rp_Le_rfl
theorem y_paidBy (h : BI (C σ) r) {p : Nat} (hp : p < nP r) : CL sc 67 [.ref 2, .int (nI p)] σ = RI (nI (paidN r p)) σ := by
  have bn := b_n h.1
  refine cl_le rfl (rp_Le_tr ?_ (D_Book_paidBy_0 _ σ))
  have L := lp (E := fun i => EV sc (67, 0, 0, 4, [.ref 2, .int (nI p), .int (nI (sumn (fun i => if rd r i 0 = p then payR r i else 0) i)), .int (nI i)], [], (rp_L0, σ))) (n := nR r) (fun i hi => by
    have br := b_rd h.1 hi
    refine rp_Le_tr ?_ (D_Book_paidBy_4 _ _ _ σ)
    simp (disch := omega) only [lt_nI, nI_add, pk_mul, nI_clamp, nI_leI, nI_ltI, nI_eq, ixT, cond_true, z_rd h, g_rd h hi, g_rd4 h hi, thI_RI, show ¬ nR r ≤ i by omega, if_false, sumn]
    by_cases h1 : rd r i 0 = p
    · simp only [h1, if_true]
      refine rp_Le_tr ?_ (D_Book_paidBy_40 _ _ _ σ)
      (simp only [lt_nI, nI_add, pk_mul]; exact rp_Le_rfl)
    · simp only [h1, if_false]
      refine rp_Le_tr ?_ (D_Book_paidBy_40 _ _ _ σ)
      (simp only [lt_nI, nI_add, pk_mul]; exact rp_Le_rfl))
  refine rp_Le_tr ?_ L
  refine rp_Le_tr ?_ (D_Book_paidBy_4 _ _ _ σ)
  simp (disch := omega) only [lt_nI, nI_add, pk_mul, nI_clamp, nI_leI, nI_ltI, nI_eq, ixT, cond_true, z_rd h, thI_RI, Nat.le_refl, if_true]
  exact rp_Le_rfl
theorem x_by {p : Nat} {x2 x3 : Int32} (h : RB (R σ)) (hp : p < nP (R σ)) : EV sc (191, 0, 0, 115, [.ref 48, .int (nI p), .int x2, .int x3, .int (nI 0), .int (nI 0)], [], (rp_L0, σ)) = RI (nI (byN (R σ) p)) σ := by
  have bn := b_n h
  have L := lp (E := fun i => EV sc (191, 0, 0, 115, [.ref 48, .int (nI p), .int x2, .int x3, .int (nI (cnt (fun i => decide (rd (R σ) i 0 = p)) i)), .int (nI i)], [], (rp_L0, σ))) (n := nR (R σ)) (fun i hi => by
    have br := b_rd h hi
    refine rp_Le_tr ?_ (D_Ref_pass_115 _ _ _ _ _ σ)
    simp (disch := omega) only [lt_nI, nI_add, pk_mul, nI_clamp, nI_leI, nI_ltI, nI_eq, ixT, cond_true, r_nR h, r_rd0 h hi, show ¬ nR (R σ) ≤ i by omega, if_false, cnt]
    by_cases h1 : rd (R σ) i 0 = p
    · simp only [h1, if_true, decide_true]
      refine rp_Le_tr ?_ (D_Ref_pass_146 _ _ _ _ _ _ _ σ)
      (simp only [lt_nI, nI_add, pk_mul]; exact rp_Le_rfl)
    · simp only [h1, if_false, decide_false, Bool.false_eq_true]
      refine rp_Le_tr ?_ (D_Ref_pass_146 _ _ _ _ _ _ _ σ)
      (simp only [lt_nI, nI_add, pk_mul]; exact rp_Le_rfl))
  refine (rp_Le_tr ?_ L) _ rfl
  refine rp_Le_tr ?_ (D_Ref_pass_115 _ _ _ _ _ σ)
  simp (disch := omega) only [lt_nI, nI_add, pk_mul, nI_clamp, nI_leI, nI_ltI, nI_eq, ixT, cond_true, r_nR h, Nat.le_refl, if_true]
  exact rp_Le_rfl
theorem x_paid {p : Nat} {x2 x3 : Int32} (h : RB (R σ)) (hp : p < nP (R σ)) : EV sc (191, 0, 0, 161, [.ref 48, .int (nI p), .int x2, .int x3, .int (nI 0), .int (nI 0)], [], (rp_L0, σ)) = RI (nI (paidN (R σ) p)) σ := by
  have bn := b_n h
  have L := lp (E := fun i => EV sc (191, 0, 0, 161, [.ref 48, .int (nI p), .int x2, .int x3, .int (nI (sumn (fun i => if rd (R σ) i 0 = p then payR (R σ) i else 0) i)), .int (nI i)], [], (rp_L0, σ))) (n := nR (R σ)) (fun i hi => by
    have br := b_rd h hi
    refine rp_Le_tr ?_ (D_Ref_pass_161 _ _ _ _ _ σ)
    simp (disch := omega) only [lt_nI, nI_add, pk_mul, nI_clamp, nI_leI, nI_ltI, nI_eq, ixT, cond_true, r_nR h, r_rd0 h hi, x_paysOf h hi, thI_RI, show ¬ nR (R σ) ≤ i by omega, if_false, sumn]
    by_cases h1 : rd (R σ) i 0 = p
    · simp only [h1, if_true]
      refine rp_Le_tr ?_ (D_Ref_pass_197 _ _ _ _ _ _ _ σ)
      (simp only [lt_nI, nI_add, pk_mul]; exact rp_Le_rfl)
    · simp only [h1, if_false]
      refine rp_Le_tr ?_ (D_Ref_pass_197 _ _ _ _ _ _ _ σ)
      (simp only [lt_nI, nI_add, pk_mul]; exact rp_Le_rfl))
  refine (rp_Le_tr ?_ L) _ rfl
  refine rp_Le_tr ?_ (D_Ref_pass_161 _ _ _ _ _ σ)
  simp (disch := omega) only [lt_nI, nI_add, pk_mul, nI_clamp, nI_leI, nI_ltI, nI_eq, ixT, cond_true, r_nR h, Nat.le_refl, if_true]
  exact rp_Le_rfl
end
