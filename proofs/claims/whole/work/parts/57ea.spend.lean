/-! the class spends days -/
section
variable {sc : rp_Sc} {σ μ r : rp_Mm} {g : Nat → Nat} {n s : Nat} {δ : Nat → Nat}
/-- nothing to spend -/
theorem y_spend0 {x : Int32} (h6 : μ 37 6 = nI 0) : ∃ c, CL sc 99 [.ref 37, .int x] μ = RI c (rp_wr μ 37 10 (nI 0)) := by
  refine ⟨μ 37 8 + μ 37 9, cl_le rfl (rp_Le_tr (rp_Le_tr ?_ (D_Plan_spend_23 _ _ _ _ _)) (D_Plan_spend_0 _ μ))⟩
  rw [h6, if_pos (show nI 0 ≤ 0 by decide)]
  simp only [ite_self]
  exact rp_Le_rfl
theorem y_spend (hR : RB r) (hn : n ≤ nW r) (hg1 : g 1 ≤ 60) (hg0 : g 0 ≤ 60) (hP : PL σ μ r g n δ s) (hK : RKD μ s (fun i => gd r g n (δ i))) {s0 : Nat} (h0 : s0 ≤ 120) : ∃ M, M < 1024 ∧ CL sc 99 [.ref 37, .int (nI s0)] μ = RI (cI r g n s0) (rp_wr μ 37 10 (nI M)) ∧ ∀ i, i < 10 → M.testBit i = (decide (i < s) && tN r g n s0 (δ i)) := by
  obtain ⟨p1, p2, p3⟩ := pl_days hR hn hP
  have hin := hP.2.2.2.2.1
  obtain ⟨ρ, m, z5, hm, hρ, hso, hco⟩ := hK
  dsimp only at hρ hso hco
  obtain ⟨e, ee⟩ : ∃ e, e = eN r g n s0 := ⟨_, rfl⟩
  obtain ⟨v, ev⟩ : ∃ v, v = gd r g n := ⟨_, rfl⟩
  have he : ∀ d, e d = true ↔ (s0 ≤ d ∧ d < s0 + g 1) ∧ 0 < v d := fun d => by rw [ee, ev]; exact eN_iff
  have etN : ∀ d, tN r g n s0 d = tkn e v 122 (g 0) d := fun d => by rw [ee, ev]; rfl
  have ecI : cI r g n s0 = nI (g 2 + frN r n) - nI (sumn (fun d => if tkn e v 122 (g 0) d then v d else 0) 122) := by rw [ee, ev]; rfl
  have him : ∀ d, 0 < v d → ∃ i, i < s ∧ δ i = d := fun d h => pl_im hP (by rw [ev] at h; exact h)
  rw [← ev] at hρ hso hco p3
  have hinj : ∀ i j, i < s → j < s → δ i = δ j → i = j := fun i j hi hj h => by
    refine Classical.byContradiction fun q => ?_
    by_cases q2 : i < j
    · have := hin i j q2 hj; omega
    · have := hin j i (by omega) hi; omega
  have hri : ∀ j k, j < m → k < m → ρ j = ρ k → j = k := fun j k hj hk h => by
    refine Classical.byContradiction fun q => ?_
    by_cases q2 : j < k
    · have := hso j k q2 hk; rw [h] at this; omega
    · have := hso k j (by omega) hj; rw [h] at this; omega
  rw [ecI]
  have LL : ∀ (q k j M : Nat), k + q = m → j ≤ g 0 → cnt (tkn e v 122 j) 122 = j → M < 1024 → (∀ i, i < 10 → M.testBit i = (decide (i < s) && tkn e v 122 j (δ i))) → (∀ i, i < s → (tkn e v 122 j (δ i) = true ↔ ∃ k', k' < k ∧ ρ k' = i ∧ (s0 ≤ δ i ∧ δ i < s0 + g 1))) → ∃ M', M' < 1024 ∧ rp_Le (RI (nI (g 2 + frN r n) - nI (sumn (fun d => if tkn e v 122 (g 0) d then v d else 0) 122)) (rp_wr μ 37 10 (nI M'))) (EV sc (99, 0, 0, 23, [.ref 37, .int (nI s0), .int (nI (g 2 + frN r n) - nI (sumn (fun d => if tkn e v 122 j d then v d else 0) 122)), .int (nI (g 0 - j)), .int (nI k), rp_U], [], (rp_L0, rp_wr μ 37 10 (nI M)))) ∧ (∀ i, i < 10 → M'.testBit i = (decide (i < s) && tN r g n s0 (δ i))) := by
    intro q
    induction q with
    | zero =>
      intro k j M hk hj hc hM hb hT
      have hk : k = m := by omega
      subst hk
      have hd : ∀ d, d < 122 → tkn e v 122 j d = tkn e v 122 (g 0) d := fun d hd => by
        cases ed : e d with
        | false => unfold tkn; rw [ed]; rfl
        | true =>
          have hd2 := (he d).mp ed
          obtain ⟨i, hi, rfl⟩ := him d hd2.2
          obtain ⟨k', hk', ek⟩ := hco i hi hd2.2
          have h1 : tkn e v 122 j (δ i) = true := (hT i hi).mpr ⟨k', hk', ek, hd2.1⟩
          rw [h1]
          have := (tkn_iff.mp h1).2
          exact (tkn_iff.mpr ⟨ed, by omega⟩).symm
      refine ⟨M, hM, rp_Le_tr ?_ (D_Plan_spend_23 _ _ _ _ _), fun i hi => ?_⟩
      · rw [wr_nk (show (5 : Nat) ≠ 10 by decide), z5, if_pos (nI_le (Nat.le_refl _) (by omega))]
        rw [sumn_congr (f := fun d => if tkn e v 122 (g 0) d then v d else 0) (g := fun d => if tkn e v 122 j d then v d else 0) (n := 122) (fun i hi => by
          show (if tkn e v 122 (g 0) i then v i else 0) = (if tkn e v 122 j i then v i else 0)
          rw [hd i hi])]
        exact rp_Le_rfl
      · rw [hb i hi, etN]
        by_cases q : i < s
        · rw [hd (δ i) (p2 i q)]
        · rw [decide_eq_false q, Bool.false_and, Bool.false_and]
    | succ q ih =>
      intro k j M hk hj hc hM hb hT
      have hkm : k < m := by omega
      obtain ⟨μ', em⟩ : ∃ m', m' = rp_wr μ 37 10 (nI M) := ⟨_, rfl⟩
      have f' : Fr (fun a k => a = 37 ∧ k = 10) μ μ' := by rw [em]; exact Fr_wr Fr_rfl ⟨rfl, rfl⟩
      have z5' : μ' 37 5 = nI m := by rw [f' _ _ (by omega)]; exact z5
      by_cases hjg : j = g 0
      · subst hjg
        refine ⟨M, hM, rp_Le_tr ?_ (D_Plan_spend_23 _ _ _ _ _), fun i hi => by rw [hb i hi, etN]⟩
        rw [← em, z5', Nat.sub_self, if_neg (nI_ge hkm (by omega)), if_pos (show nI 0 ≤ 0 by decide)]
        exact rp_Le_rfl
      · have hrk := hρ k hkm
        have hP' : PL μ' μ' r g n δ s := PL_w (PL_self hP) (Fr_mo f' (fun _ _ => by omega))
        have eat : CL sc 97 [.ref 37, .int (nI k)] μ' = RI (nI (ρ k)) μ' := by rw [y_rankedAt (by omega), f' _ _ (by omega), hrk.1]
        have egd := y_isGood (sc := sc) hR hn hg1 hP' hrk.2.1 h0
        have T79 : ∀ (x2 x3 x5 : Int32) (ν : rp_Mm), rp_Le (EV sc (99, 0, 0, 23, [.ref 37, .int (nI s0), .int x2, .int x3, .int (nI (k + 1)), rp_U], [], (rp_L0, ν))) (EV sc (99, 0, 0, 79, [.ref 37, .int (nI s0), .int x2, .int x3, .int (nI k), .int x5], [], (rp_L0, ν))) := fun x2 x3 x5 ν => by
          refine rp_Le_tr ?_ (D_Plan_spend_79 _ _ _ _ _ ν)
          simp only [lt_nI, nI_add]
          exact rp_Le_rfl
        have hl0 : ¬ nI (g 0 - j) ≤ 0 := nI_nle (show 0 < g 0 - j by omega) (by omega)
        by_cases hgood : s0 ≤ δ (ρ k) ∧ δ (ρ k) < s0 + g 1
        · have hdec : decide (s0 ≤ δ (ρ k) ∧ δ (ρ k) < s0 + g 1) = true := decide_eq_true hgood
          rw [hdec] at egd
          obtain ⟨b, eb⟩ : ∃ b, b = δ (ρ k) := ⟨_, rfl⟩
          have hb122 : b < 122 := by rw [eb]; exact p2 _ hrk.2.1
          have hbe : e b = true := (he b).mpr (by rw [eb]; exact ⟨hgood, hrk.2.2⟩)
          have hnb : tkn e v 122 j b = false := by
            rw [← Bool.not_eq_true, eb]
            intro w
            obtain ⟨k', hk', ek, -⟩ := (hT _ hrk.2.1).mp w
            have := hri k' k (by omega) hkm ek
            omega
          have hrkb : rk e v 122 b = j := tkn_next hc hb122 hbe hnb fun d hd htd => by
            rw [← Bool.not_eq_true, bet_iff]
            rintro ⟨ed, hx⟩
            have hd2 := (he d).mp ed
            obtain ⟨i, hi, rfl⟩ := him d hd2.2
            obtain ⟨k', hk', ek⟩ := hco i hi hd2.2
            by_cases q1 : k' < k
            · rw [(hT i hi).mpr ⟨k', q1, ek, hd2.1⟩] at htd
              exact absurd htd (by decide)
            · by_cases q2 : k' = k
              · rw [q2] at ek
                rw [eb, ek] at hx
                omega
              · have h3 := hso k k' (by omega) hk'
                rw [ek] at h3
                rw [eb] at hx
                rcases h3 with h3 | ⟨h3, h4⟩
                · omega
                · have := hin (ρ k) i h4 hi
                  omega
          have hsuc : ∀ d, d < 122 → tkn e v 122 (j + 1) d = (tkn e v 122 j d || decide (d = b)) := fun d hd => tkn_succ hb122 hbe hrkb hd
          have hmk := (mk_of hM).1 (ρ k) (by omega)
          have hsum := sum_add (P := tkn e v 122 j) (Q := tkn e v 122 (j + 1)) (f := v) hb122 hnb (tkn_iff.mpr ⟨hbe, by omega⟩) (fun i hi hne => by rw [hsuc i hi, decide_eq_false hne, Bool.or_false])
          obtain ⟨M', h1, h2, h3⟩ := ih (k + 1) (j + 1) (M ||| 2 ^ (ρ k)) (by omega) (by omega) (tkn_cnt hc hb122 hbe hrkb) hmk.2.1 (fun i hi => by
            rw [mk_set, hb i hi]
            by_cases q1 : i < s
            · rw [decide_eq_true q1, Bool.true_and, Bool.true_and, hsuc _ (p2 i q1)]
              congr 1
              rw [eb]
              exact decide_eq_decide.mpr ⟨fun w => by rw [w], fun w => (hinj _ _ q1 hrk.2.1 w).symm⟩
            · rw [decide_eq_false q1, Bool.false_and, Bool.false_and, decide_eq_false (by omega)]
              rfl) (fun i hi => by
            rw [hsuc _ (p2 i hi), Bool.or_eq_true, hT i hi, decide_eq_true_eq, eb]
            constructor
            · rintro (⟨k', a1, a2, a3⟩ | a)
              · exact ⟨k', by omega, a2, a3⟩
              · have := hinj _ _ hi hrk.2.1 a
                subst this
                exact ⟨k, by omega, rfl, hgood⟩
            · rintro ⟨k', a1, a2, a3⟩
              by_cases q1 : k' = k
              · right; rw [← a2, q1]
              · exact Or.inl ⟨k', by omega, a2, a3⟩)
          refine ⟨M', h1, rp_Le_tr (rp_Le_tr h2 ?_) (D_Plan_spend_23 _ _ _ _ _), h3⟩
          have esp : CL sc 92 [.ref 37, .int (nI (ρ k))] μ' = RI (nI (v b)) μ' := by
            rw [y_sparedAt (by omega), (hP'.2.2.2.1 _ hrk.2.1).2.1, eb, ev]
          have e10 : μ' 37 10 = nI M := by rw [em]; exact wr_eq
          have ewr : rp_wr μ' 37 10 (nI (M ||| 2 ^ (ρ k))) = rp_wr μ 37 10 (nI (M ||| 2 ^ (ρ k))) := by
            funext a j'
            unfold rp_wr
            by_cases q1 : a = 37
            · by_cases q2 : j' = 10
              · simp only [q1, q2, if_true]
              · simp only [q1, q2, if_true, if_false]
                exact f' _ _ (by omega)
            · simp only [q1, if_false]
              exact f' _ _ (by omega)
          have el : nI (g 0 - j) + -1 = nI (g 0 - (j + 1)) := by
            rw [show g 0 - j = (g 0 - (j + 1)) + 1 by omega]
            exact pk_m1 _
          rw [← em, z5', if_neg (nI_ge hkm (by omega)), if_neg hl0, eat, thI_RI, egd, thI_RI, if_neg (show ¬ nI (b2 true) = 0 by decide), esp, thI_RI, e10, el]
          have hor : nI M ||| ((1 : Int32) <<< (nI (ρ k) &&& 31)) = nI (M ||| 2 ^ (ρ k)) := hmk.1
          rw [hor, ewr, Int32.sub_sub, nI_add, ← hsum]
          exact T79 _ _ _ _
        · have hdec : decide (s0 ≤ δ (ρ k) ∧ δ (ρ k) < s0 + g 1) = false := decide_eq_false hgood
          rw [hdec] at egd
          obtain ⟨M', h1, h2, h3⟩ := ih (k + 1) j M (by omega) hj hc hM hb (fun i hi => by
            rw [hT i hi]
            constructor
            · rintro ⟨k', a1, a2, a3⟩
              exact ⟨k', by omega, a2, a3⟩
            · rintro ⟨k', a1, a2, a3⟩
              refine ⟨k', ?_, a2, a3⟩
              by_cases q1 : k' = k
              · rw [← a2, q1] at a3; exact absurd a3 hgood
              · omega)
          refine ⟨M', h1, rp_Le_tr (rp_Le_tr h2 ?_) (D_Plan_spend_23 _ _ _ _ _), h3⟩
          rw [← em, z5', if_neg (nI_ge hkm (by omega)), if_neg hl0, eat, thI_RI, egd, thI_RI, if_pos (show nI (b2 false) = 0 by decide)]
          exact T79 _ _ _ _
  obtain ⟨M, h1, h2, h3⟩ := LL m 0 0 0 (by omega) (Nat.zero_le _) tkn_0 (by decide) (fun i hi => by
    rw [Nat.zero_testBit]
    have : tkn e v 122 0 (δ i) = false := by rw [← Bool.not_eq_true, tkn_iff]; omega
    rw [this, Bool.and_false]) (fun i hi => by
    constructor
    · intro w
      rw [tkn_iff] at w
      omega
    · rintro ⟨k', a1, -⟩
      omega)
  refine ⟨M, h1, cl_le rfl (rp_Le_tr (rp_Le_tr h2 ?_) (D_Plan_spend_0 _ μ)), h3⟩
  have hz : sumn (fun d => if tkn e v 122 0 d then v d else 0) 122 = 0 := sum_zero fun d _ => by
    rw [if_neg]
    rw [tkn_iff]
    omega
  rw [hz, hP.2.1.2.2.2.1, hP.2.1.2.2.2.2, hP.2.1.2.1, nI_add, Nat.sub_zero, show nI (g 2 + frN r n) - nI 0 = nI (g 2 + frN r n) from Int32.sub_zero _]
  exact rp_Le_rfl
end
