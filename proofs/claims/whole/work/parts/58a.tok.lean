/-! the reference's pieces -/
def tkd (t : Nat → Nat) (n f : Nat) : Nat := if f = n then 0 else if srt (t f) = 1 then 1 else if srt (t f) = 2 then 2 else 3
def tvl (t : Nat → Nat) (n f b : Nat) : Nat := if f = n then 0 else if srt (t f) = 1 then (if b - f ≤ 6 then hw t f (b - f) else 0) else if srt (t f) = 2 then dv t f (min (b - f) 3) else t f
def RT (μ : rp_Mm) (t : Nat → Nat) (n : Nat) : Prop := μ 48 9 = nI n ∧ n ≤ 300 ∧ ∀ k, k < n → μ 57 k = nI (t k) ∧ t k < 256
def RK (μ : rp_Mm) (t : Nat → Nat) (n f b : Nat) : Prop := μ 48 10 = nI (tkd t n f) ∧ μ 48 11 = nI f ∧ μ 48 12 = nI b ∧ μ 48 13 = nI (tvl t n f b)
section
variable {t : Nat → Nat} {n p f b : Nat}
theorem TK_l (hT : TK t n p f b) (hf : f < n) (h : srt (t f) ≠ 0) {i : Nat} (hi : i < b - f) : srt (t (f + i)) = srt (t f) := by
  by_cases e : i = 0
  · subst e; rfl
  · exact ((hT.2.2.2.2.2.2 hf).2.1 (f + i) (by omega) (by omega)).2
theorem tvl_lt (hT : TK t n p f b) (hb : ∀ i, i < n → t i < 256) : tvl t n f b < 2 ^ 30 := by
  obtain ⟨t1, t2, -, -, t5, t6, t7⟩ := id hT
  unfold tvl
  split
  · decide
  · split
    next h1 =>
      split
      next h2 =>
        have := hw_lt (t := t) (f := f) (m := b - f) fun i hi => by
          have := TK_l hT (by omega) (by omega) hi
          rw [h1] at this
          exact (srt_1.mp this).2
        have h3 : 27 ^ (b - f) ≤ 27 ^ 6 := Nat.pow_le_pow_right (by decide) h2
        omega
      next => decide
    next =>
      split
      next h2 =>
        have := dv_lt (t := t) (f := f) (m := min (b - f) 3) fun i hi => by
          have := TK_l hT (i := i) (by omega) (by omega) (by omega)
          rw [h2] at this
          exact (srt_2.mp this).2
        have h3 : 10 ^ (min (b - f) 3) ≤ 10 ^ 3 := Nat.pow_le_pow_right (by decide) (by omega)
        omega
      next =>
        have := hb f (by omega)
        omega
/-- a known word -/
theorem tok_word (hT : TK t n p f b) {j : Nat} (hj : j < 12) : (tkd t n f = 1 ∧ tvl t n f b = Wn j) ↔ wdB t f b j = true := by
  obtain ⟨t1, t2, -, -, t5, t6, t7⟩ := id hT
  have wl := wlen_ok j hj
  rw [wdB_iff]
  constructor
  · rintro ⟨h1, h2⟩
    have hf : f ≠ n := fun e => by unfold tkd at h1; rw [if_pos e] at h1; exact absurd h1 (by decide)
    have hs : srt (t f) = 1 := by
      unfold tkd at h1
      rw [if_neg hf] at h1
      by_cases q : srt (t f) = 1
      · exact q
      · rw [if_neg q] at h1
        split at h1 <;> omega
    unfold tvl at h2
    rw [if_neg hf, if_pos hs] at h2
    have hl : ∀ i, i < b - f → 97 ≤ t (f + i) ∧ t (f + i) ≤ 122 := fun i hi => by
      have := TK_l hT (by omega) (by omega) hi
      rw [hs] at this
      exact srt_1.mp this
    have wz : Wn j ≠ 0 := by
      intro q
      have := hw_inj (t := wn j) (t' := wn j) (f := 0) (f' := 0) (m := wlen j) (m' := 0) (fun i hi => by rw [Nat.zero_add]; exact (wn_ok j hj i hi).2) (fun i hi => absurd hi (by omega)) (by show Wn j = 0; exact q)
      omega
    by_cases q : b - f ≤ 6
    · rw [if_pos q] at h2
      have := hw_inj (t := t) (t' := wn j) (f := f) (f' := 0) hl (fun i hi => by rw [Nat.zero_add]; exact (wn_ok j hj i hi).2) h2
      refine ⟨this.1, fun i hi => ?_⟩
      have q2 := this.2 i (by omega)
      rw [Nat.zero_add] at q2
      exact q2
    · rw [if_neg q] at h2
      exact absurd h2.symm wz
  · rintro ⟨h1, h2⟩
    have hf : f ≠ n := fun e => by have := t6 e; omega
    have h0 := h2 0 (by omega)
    rw [Nat.add_zero] at h0
    have w0 := (wn_ok j hj 0 (by omega)).2
    have hs : srt (t f) = 1 := srt_1.mpr (by rw [h0]; exact w0)
    unfold tkd tvl
    rw [if_neg hf, if_pos hs, if_neg hf, if_pos hs, if_pos (by omega), h1]
    refine ⟨rfl, ?_⟩
    exact hw_c (f' := 0) fun i hi => by rw [Nat.zero_add]; exact h2 i hi
theorem tok_num (hT : TK t n p f b) {lo hi : Nat} : (tkd t n f = 2 ∧ b - f ≤ 3 ∧ lo ≤ tvl t n f b ∧ tvl t n f b ≤ hi ∧ nIn t n f b lo hi = some (tvl t n f b)) ∨ (¬ (tkd t n f = 2 ∧ b - f ≤ 3 ∧ lo ≤ tvl t n f b ∧ tvl t n f b ≤ hi) ∧ nIn t n f b lo hi = none) := by
  obtain ⟨t1, t2, -, -, t5, t6, t7⟩ := id hT
  by_cases hc : f < n ∧ srt (t f) = 2 ∧ b - f ≤ 3 ∧ lo ≤ dv t f (b - f) ∧ dv t f (b - f) ≤ hi
  · have e1 : tkd t n f = 2 := by unfold tkd; rw [if_neg (by omega), if_neg (by omega), if_pos hc.2.1]
    have e2 : tvl t n f b = dv t f (b - f) := by unfold tvl; rw [if_neg (by omega), if_neg (by omega), if_pos hc.2.1, Nat.min_eq_left hc.2.2.1]
    rw [e1, e2]
    exact Or.inl ⟨rfl, hc.2.2.1, hc.2.2.2.1, hc.2.2.2.2, if_pos hc⟩
  · refine Or.inr ⟨fun q => hc ?_, if_neg hc⟩
    obtain ⟨q1, q2, q3, q4⟩ := q
    have hf : f ≠ n := fun e => by unfold tkd at q1; rw [if_pos e] at q1; exact absurd q1 (by decide)
    have hs : srt (t f) = 2 := by
      unfold tkd at q1
      rw [if_neg hf] at q1
      by_cases q : srt (t f) = 1
      · rw [if_pos q] at q1; exact absurd q1 (by decide)
      · rw [if_neg q] at q1
        by_cases q2 : srt (t f) = 2
        · exact q2
        · rw [if_neg q2] at q1; exact absurd q1 (by decide)
    have e2 : tvl t n f b = dv t f (b - f) := by unfold tvl; rw [if_neg hf, if_neg (by omega), if_pos hs, Nat.min_eq_left q2]
    rw [e2] at q3 q4
    exact ⟨by omega, hs, q2, q3, q4⟩
theorem tok_sign (hT : TK t n p f b) : (tkd t n f = 3 ∧ tvl t n f b = 59) ↔ (f < n ∧ t f = 59) := by
  obtain ⟨t1, t2, -, -, t5, t6, t7⟩ := id hT
  have s59 : srt 59 = 0 := rfl
  constructor
  · rintro ⟨h1, h2⟩
    have hf : f ≠ n := fun e => by unfold tkd at h1; rw [if_pos e] at h1; exact absurd h1 (by decide)
    unfold tkd at h1
    rw [if_neg hf] at h1
    by_cases q : srt (t f) = 1
    · rw [if_pos q] at h1; exact absurd h1 (by decide)
    · rw [if_neg q] at h1
      by_cases q2 : srt (t f) = 2
      · rw [if_pos q2] at h1; exact absurd h1 (by decide)
      · unfold tvl at h2
        rw [if_neg hf, if_neg q, if_neg q2] at h2
        exact ⟨by omega, h2⟩
  · rintro ⟨h1, h2⟩
    unfold tkd tvl
    rw [h2, s59, if_neg (by omega), if_neg (by decide), if_neg (by decide), if_neg (by omega), if_neg (by decide), if_neg (by decide)]
    exact ⟨rfl, rfl⟩
end
section
variable {sc : rp_Sc} {σ μ : rp_Mm} {t : Nat → Nat} {n : Nat}
theorem RT_f {P : Nat → Nat → Prop} (h : RT σ t n) (f : Fr P σ μ) (h1 : ¬ P 48 9) (h2 : ∀ k, ¬ P 57 k) : RT μ t n := ⟨by rw [f _ _ h1]; exact h.1, h.2.1, fun k hk => by rw [f _ _ (h2 k)]; exact h.2.2 k hk⟩
theorem x_isLetter {b : Nat} (hb : b < 256) : CL sc 161 [.int (nI b)] μ = RI (nI (if srt b = 1 then 1 else 0)) μ := by
  refine cl_of (D_Ref_isLetter_0 _ μ) rfl ?_
  simp (disch := omega) only [lt_nI, nI_ltI]
  by_cases h1 : b < 97
  · have e : ¬ srt b = 1 := by rw [srt_1]; omega
    simp only [eq_true h1, eq_false e, if_true, if_false]
  · by_cases h2 : 122 < b
    · have e : ¬ srt b = 1 := by rw [srt_1]; omega
      simp only [eq_false h1, eq_true h2, eq_false e, if_true, if_false]
    · have e : srt b = 1 := by rw [srt_1]; omega
      simp only [eq_false h1, eq_false h2, eq_true e, if_true, if_false]
theorem x_isDigit {b : Nat} (hb : b < 256) : CL sc 162 [.int (nI b)] μ = RI (nI (if srt b = 2 then 1 else 0)) μ := by
  refine cl_of (D_Ref_isDigit_0 _ μ) rfl ?_
  simp (disch := omega) only [lt_nI, nI_ltI]
  by_cases h1 : b < 48
  · have e : ¬ srt b = 2 := by rw [srt_2]; omega
    simp only [eq_true h1, eq_false e, if_true, if_false]
  · by_cases h2 : 57 < b
    · have e : ¬ srt b = 2 := by rw [srt_2]; omega
      simp only [eq_false h1, eq_true h2, eq_false e, if_true, if_false]
    · have e : srt b = 2 := by rw [srt_2]; omega
      simp only [eq_false h1, eq_false h2, eq_true e, if_true, if_false]
theorem x_advance (h : RT μ t n) {p f b : Nat} (hp : p ≤ n) (h3 : μ 48 12 = nI p) (hT : TK t n p f b) : ∃ μ', CL sc 160 [.ref 48] μ = RV μ' ∧ Fr (fun a k => a = 48 ∧ 10 ≤ k ∧ k ≤ 13) μ μ' ∧ RK μ' t n f b := by
  have hn := h.2.1
  obtain ⟨t1, t2, t3, t4, t5, t6, t7⟩ := id hT
  have hb256 : ∀ i, i < n → t i < 256 := fun i hi => (h.2.2 i hi).2
  have L1 := lp_from (E := fun i => EV sc (160, 0, 0, 5, [.ref 48, .int (nI i)], [], (rp_L0, μ))) (a := p) (n := f) t1 (fun i h1 h2 => by
    refine rp_Le_tr ?_ (D_Ref_advance_5 _ μ)
    have e32 := t3 i h1 h2
    simp (disch := omega) only [lt_nI, h.1, nI_leI, show ¬ n ≤ i by omega, if_false, ixT, cond_true, nI_clamp, (h.2.2 i (by omega)).1, e32, if_true, nI_add]
    exact rp_Le_rfl)
  have S0 : rp_Le (EV sc (160, 0, 0, 30, [.ref 48, .int (nI f)], [], (rp_L0, μ))) (EV sc (160, 0, 0, 0, [.ref 48, rp_U], [], (rp_L0, μ))) := by
    refine rp_Le_tr (rp_Le_tr (rp_Le_tr ?_ (D_Ref_advance_5 _ μ)) L1) (rp_Le_tr ?_ (D_Ref_advance_0 μ))
    · by_cases hf : f = n
      · simp (disch := omega) only [h.1, nI_leI, show n ≤ f by omega, if_true]
        exact rp_Le_rfl
      · have h4 := t4 (by omega)
        have h5 := hb256 f (by omega)
        simp (disch := omega) only [lt_nI, h.1, nI_leI, show ¬ n ≤ f by omega, if_false, ixT, cond_true, nI_clamp, (h.2.2 f (by omega)).1, nI_eq, h4]
        exact rp_Le_rfl
    · rw [h3]
      exact rp_Le_rfl
  obtain ⟨ν, eν⟩ : ∃ m, m = rp_wr (rp_wr μ 48 11 (nI f)) 48 13 (nI 0) := ⟨_, rfl⟩
  have fν : Fr (fun a k => a = 48 ∧ 10 ≤ k ∧ k ≤ 13) μ ν := by rw [eν]; exact Fr_wr (Fr_wr Fr_rfl (by omega)) (by omega)
  have hν := RT_f h fν (by omega) (fun _ => by omega)
  have v11 : ν 48 11 = nI f := by rw [eν, wr_nk (by decide)]; exact wr_eq
  have v13 : ν 48 13 = nI 0 := by rw [eν]; exact wr_eq
  by_cases hf : f = n
  · have hb := t6 hf
    refine ⟨rp_wr (rp_wr ν 48 10 (nI 0)) 48 12 (nI f), cl_le rfl (rp_Le_tr (rp_Le_tr ?_ (D_Ref_advance_30 _ μ)) S0), Fr_wr (Fr_wr fν (by omega)) (by omega), ?_⟩
    · have hfe : nI f = nI n := by rw [hf]
      simp only [lt_nI, ← eν, hν.1, eq_true hfe, if_true]
      exact rp_Le_rfl
    · unfold RK tkd tvl
      rw [if_pos hf, if_pos hf]
      refine ⟨by simp (disch := omega) only [wr_nk, wr_eq], by simp (disch := omega) only [wr_nk]; exact v11, by rw [wr_eq, hb, hf], by simp (disch := omega) only [wr_nk]; exact v13⟩
  · have hfn : f < n := by omega
    obtain ⟨b1, b2', b3⟩ := t7 hfn
    have tf := hb256 f hfn
    have vf : ν 57 f = nI (t f) := (hν.2.2 f hfn).1
    have hne : ¬ nI f = nI n := by rw [nI_eq (by omega) (by omega)]; exact hf
    by_cases s1 : srt (t f) = 1
    · -- a word
      obtain ⟨ν1, e1⟩ : ∃ m, m = rp_wr ν 48 10 (nI 1) := ⟨_, rfl⟩
      have hl : ∀ i, i < b - f → srt (t (f + i)) = 1 := fun i hi => by rw [TK_l hT hfn (by omega) hi, s1]
      obtain ⟨vI, evI⟩ : ∃ vI : Nat → Nat, vI = fun m => if m ≤ 6 then hw t f m else 0 := ⟨_, rfl⟩
      obtain ⟨ν2, ⟨f2, z2⟩, L2⟩ := lp_inv (E := fun m μ => EV sc (160, 0, 0, 73, [.ref 48, .int (nI (f + m))], [], (rp_L0, μ))) (fun m μ' => Fr (fun a k => a = 48 ∧ k = 13) ν1 μ' ∧ μ' 48 13 = nI (vI m)) (n := b - f) (fun m μ' hm hR => by
        obtain ⟨fr, z⟩ := hR
        have hR1 := RT_f hν (Fr_tr (show Fr (fun a k => a = 48 ∧ (k = 10 ∨ k = 13)) ν ν1 by rw [e1]; exact Fr_wr Fr_rfl (by omega)) (Fr_mo fr (fun _ _ => by omega))) (by omega) (fun _ => by omega)
        have w11 : μ' 48 11 = nI f := by rw [fr _ _ (by omega), e1, wr_nk (by decide)]; exact v11
        have q := srt_1.mp (hl m hm)
        have T126 : ∀ y, rp_Le (EV sc (160, 0, 0, 73, [.ref 48, .int (nI (f + (m + 1)))], [], (rp_L0, rp_wr μ' 48 13 y))) (EV sc (160, 0, 0, 126, [.ref 48, .int (nI (f + m))], [.int y, .ref 48], (rp_L0, μ'))) := fun y => by
          refine rp_Le_tr ?_ (D_Ref_advance_126 _ _ μ')
          rw [nI_1]
          exact rp_Le_rfl
        refine ⟨rp_wr μ' 48 13 (nI (vI (m + 1))), ⟨Fr_wr fr ⟨rfl, rfl⟩, wr_eq⟩, rp_Le_tr ?_ (D_Ref_advance_73 _ μ')⟩
        have em : f + m - f = m := by omega
        simp (disch := omega) only [lt_nI, hR1.1, nI_leI, show ¬ n ≤ f + m by omega, if_false, ixT, cond_true, nI_clamp, (hR1.2.2 (f + m) (by omega)).1, x_isLetter (show t (f + m) < 256 by omega), hl m hm, if_true, thI_RI, i_0, w11, pk_sub, em, z]
        by_cases h6 : 6 ≤ m
        · have ev : vI (m + 1) = 0 := by rw [evI]; dsimp only; rw [if_neg (by omega)]
          rw [ev]
          simp only [eq_true h6, if_true]
          exact T126 _
        · have ev : 27 * vI m + t (f + m) - 96 = vI (m + 1) := by
            rw [evI]
            dsimp only
            rw [if_pos (by omega), if_pos (by omega)]
            show _ = 27 * hw t f m + (t (f + m) - 96)
            omega
          simp (disch := omega) only [eq_false h6, if_false, pk_mul, nI_add, pk_sub, ev]
          exact T126 _) (s := ν1) ⟨Fr_rfl, by rw [e1, wr_nk (by decide), v13, evI]; rfl⟩
      have hR2 := RT_f hν (Fr_tr (show Fr (fun a k => a = 48 ∧ (k = 10 ∨ k = 13)) ν ν1 by rw [e1]; exact Fr_wr Fr_rfl (by omega)) (Fr_mo f2 (fun _ _ => by omega))) (by omega) (fun _ => by omega)
      have w11 : ν2 48 11 = nI f := by rw [f2 _ _ (by omega), e1, wr_nk (by decide)]; exact v11
      have eb : f + (b - f) = b := by omega
      have w10 : ν2 48 10 = nI 1 := by rw [f2 _ _ (by omega), e1]; exact wr_eq
      have X1 : rp_Le (EV sc (160, 0, 0, 73, [.ref 48, .int (nI (f + 0))], [], (rp_L0, ν1))) (EV sc (160, 0, 0, 30, [.ref 48, .int (nI f)], [], (rp_L0, μ))) := by
        refine rp_Le_tr ?_ (D_Ref_advance_30 _ μ)
        simp (disch := omega) only [lt_nI, ← eν, hν.1, eq_false hne, if_false, ixT, cond_true, nI_clamp, vf, x_isLetter tf, s1, if_true, thI_RI, i_0]
        rw [← e1]
        exact rp_Le_rfl
      have X2 : rp_Le (EV sc (160, 0, 0, 135, [.ref 48, .int (nI b)], [], (rp_L0, ν2))) (EV sc (160, 0, 0, 73, [.ref 48, .int (nI (f + (b - f)))], [], (rp_L0, ν2))) := by
        refine rp_Le_tr ?_ (D_Ref_advance_73 _ ν2)
        rw [eb]
        by_cases hbn : b = n
        · simp (disch := omega) only [hR2.1, nI_leI, show n ≤ b by omega, if_true]
          exact rp_Le_rfl
        · have sb : ¬ srt (t b) = 1 := by
            rcases b3 (by omega) with q | q
            · omega
            · rw [s1] at q; exact q
          simp (disch := omega) only [lt_nI, hR2.1, nI_leI, show ¬ n ≤ b by omega, if_false, ixT, cond_true, nI_clamp, (hR2.2.2 b (by omega)).1, x_isLetter (hb256 b (by omega)), sb, thI_RI, i_1, if_true]
          exact rp_Le_rfl
      refine ⟨rp_wr ν2 48 12 (nI b), cl_le rfl (rp_Le_tr (rp_Le_tr (rp_Le_tr (rp_Le_tr (rp_Le_tr ?_ (D_Ref_advance_135 _ ν2)) X2) L2) X1) S0), Fr_wr (Fr_tr (Fr_tr fν (show Fr (fun a k => a = 48 ∧ 10 ≤ k ∧ k ≤ 13) ν ν1 by rw [e1]; exact Fr_wr Fr_rfl (by omega))) (Fr_mo f2 (fun _ _ => by omega))) (by omega), ?_⟩
      · by_cases h6 : b - f ≤ 6
        · simp (disch := omega) only [lt_nI, w11, pk_sub, nI_leI, h6, if_true]
          rw [wr_self (rfl : ν2 48 13 = ν2 48 13)]
          exact rp_Le_rfl
        · have z0 : ν2 48 13 = nI 0 := by rw [z2, evI]; dsimp only; rw [if_neg h6]
          simp (disch := omega) only [lt_nI, w11, pk_sub, nI_leI, h6, if_false]
          rw [wr_self z0]
          exact rp_Le_rfl
      · unfold RK tkd tvl
        rw [if_neg hf, if_pos s1, if_neg hf, if_pos s1, wr_nk (by decide), wr_nk (by decide), wr_eq, wr_nk (by decide), w10, w11, z2, evI]
        exact ⟨rfl, rfl, rfl, rfl⟩
    · by_cases s2 : srt (t f) = 2
      · -- a number
        obtain ⟨ν1, e1⟩ : ∃ m, m = rp_wr ν 48 10 (nI 2) := ⟨_, rfl⟩
        have hl : ∀ i, i < b - f → srt (t (f + i)) = 2 := fun i hi => by rw [TK_l hT hfn (by omega) hi, s2]
        obtain ⟨vI, evI⟩ : ∃ vI : Nat → Nat, vI = fun m => dv t f (min m 3) := ⟨_, rfl⟩
        obtain ⟨ν2, ⟨f2, z2⟩, L2⟩ := lp_inv (E := fun m μ => EV sc (160, 0, 0, 178, [.ref 48, .int (nI (f + m))], [], (rp_L0, μ))) (fun m μ' => Fr (fun a k => a = 48 ∧ k = 13) ν1 μ' ∧ μ' 48 13 = nI (vI m)) (n := b - f) (fun m μ' hm hR => by
          obtain ⟨fr, z⟩ := hR
          have hR1 := RT_f hν (Fr_tr (show Fr (fun a k => a = 48 ∧ (k = 10 ∨ k = 13)) ν ν1 by rw [e1]; exact Fr_wr Fr_rfl (by omega)) (Fr_mo fr (fun _ _ => by omega))) (by omega) (fun _ => by omega)
          have w11 : μ' 48 11 = nI f := by rw [fr _ _ (by omega), e1, wr_nk (by decide)]; exact v11
          have q := srt_2.mp (hl m hm)
          have T233 : ∀ y, rp_Le (EV sc (160, 0, 0, 178, [.ref 48, .int (nI (f + (m + 1)))], [], (rp_L0, rp_wr μ' 48 13 y))) (EV sc (160, 0, 0, 233, [.ref 48, .int (nI (f + m))], [.int y, .ref 48], (rp_L0, μ'))) := fun y => by
            refine rp_Le_tr ?_ (D_Ref_advance_233 _ _ μ')
            rw [nI_1]
            exact rp_Le_rfl
          refine ⟨rp_wr μ' 48 13 (nI (vI (m + 1))), ⟨Fr_wr fr ⟨rfl, rfl⟩, wr_eq⟩, rp_Le_tr ?_ (D_Ref_advance_178 _ μ')⟩
          have em : f + m - f = m := by omega
          simp (disch := omega) only [lt_nI, hR1.1, nI_leI, show ¬ n ≤ f + m by omega, if_false, ixT, cond_true, nI_clamp, (hR1.2.2 (f + m) (by omega)).1, x_isDigit (show t (f + m) < 256 by omega), hl m hm, if_true, thI_RI, i_0, w11, pk_sub, em, z]
          by_cases h6 : 3 ≤ m
          · have ev : vI (m + 1) = vI m := by rw [evI]; dsimp only; rw [show min (m + 1) 3 = 3 by omega, show min m 3 = 3 by omega]
            rw [ev]
            simp only [eq_true h6, if_true]
            exact T233 _
          · have ev : 10 * vI m + t (f + m) - 48 = vI (m + 1) := by
              rw [evI]
              dsimp only
              rw [show min (m + 1) 3 = m + 1 by omega, show min m 3 = m by omega]
              show _ = 10 * dv t f m + (t (f + m) - 48)
              omega
            simp (disch := omega) only [eq_false h6, if_false, pk_mul, nI_add, pk_sub, ev]
            exact T233 _) (s := ν1) ⟨Fr_rfl, by rw [e1, wr_nk (by decide), v13, evI]; rfl⟩
        have hR2 := RT_f hν (Fr_tr (show Fr (fun a k => a = 48 ∧ (k = 10 ∨ k = 13)) ν ν1 by rw [e1]; exact Fr_wr Fr_rfl (by omega)) (Fr_mo f2 (fun _ _ => by omega))) (by omega) (fun _ => by omega)
        have w11 : ν2 48 11 = nI f := by rw [f2 _ _ (by omega), e1, wr_nk (by decide)]; exact v11
        have eb : f + (b - f) = b := by omega
        have w10 : ν2 48 10 = nI 2 := by rw [f2 _ _ (by omega), e1]; exact wr_eq
        have X1 : rp_Le (EV sc (160, 0, 0, 178, [.ref 48, .int (nI (f + 0))], [], (rp_L0, ν1))) (EV sc (160, 0, 0, 30, [.ref 48, .int (nI f)], [], (rp_L0, μ))) := by
          refine rp_Le_tr ?_ (D_Ref_advance_30 _ μ)
          simp (disch := omega) only [lt_nI, ← eν, hν.1, eq_false hne, if_false, ixT, cond_true, nI_clamp, vf, x_isLetter tf, s1, thI_RI, i_1, if_true, x_isDigit tf, s2, i_0]
          rw [← e1]
          exact rp_Le_rfl
        refine ⟨rp_wr ν2 48 12 (nI b), cl_le rfl (rp_Le_tr (rp_Le_tr (rp_Le_tr (rp_Le_tr ?_ (D_Ref_advance_178 _ ν2)) L2) X1) S0), Fr_wr (Fr_tr (Fr_tr fν (show Fr (fun a k => a = 48 ∧ 10 ≤ k ∧ k ≤ 13) ν ν1 by rw [e1]; exact Fr_wr Fr_rfl (by omega))) (Fr_mo f2 (fun _ _ => by omega))) (by omega), ?_⟩
        · rw [eb]
          by_cases hbn : b = n
          · simp (disch := omega) only [hR2.1, nI_leI, show n ≤ b by omega, if_true]
            exact rp_Le_rfl
          · have sb : ¬ srt (t b) = 2 := by
              rcases b3 (by omega) with q | q
              · omega
              · rw [s2] at q; exact q
            simp (disch := omega) only [lt_nI, hR2.1, nI_leI, show ¬ n ≤ b by omega, if_false, ixT, cond_true, nI_clamp, (hR2.2.2 b (by omega)).1, x_isDigit (hb256 b (by omega)), sb, thI_RI, i_1, if_true]
            exact rp_Le_rfl
        · unfold RK tkd tvl
          rw [if_neg hf, if_neg s1, if_pos s2, if_neg hf, if_neg s1, if_pos s2, wr_nk (by decide), wr_nk (by decide), wr_eq, wr_nk (by decide), w10, w11, z2, evI]
          exact ⟨rfl, rfl, rfl, rfl⟩
      · -- another sign
        have s0 : srt (t f) = 0 := by have := srt_le (b := t f); omega
        have hb1 : b = f + 1 := by
          by_cases q : f + 1 < b
          · exact absurd s0 (b2' (f + 1) (by omega) q).1
          · omega
        refine ⟨rp_wr (rp_wr (rp_wr ν 48 10 (nI 3)) 48 13 (nI (t f))) 48 12 (nI (f + 1)), cl_le rfl (rp_Le_tr (rp_Le_tr ?_ (D_Ref_advance_30 _ μ)) S0), Fr_wr (Fr_wr (Fr_wr fν (by omega)) (by omega)) (by omega), ?_⟩
        · simp (disch := omega) only [lt_nI, ← eν, hν.1, eq_false hne, if_false, ixT, cond_true, nI_clamp, vf, x_isLetter tf, s1, thI_RI, i_1, if_true, x_isDigit tf, s2, wr_n2, (h.2.2 f hfn).1, nI_add]
          exact rp_Le_rfl
        · unfold RK tkd tvl
          rw [if_neg hf, if_neg s1, if_neg s2, if_neg hf, if_neg s1, if_neg s2]
          exact ⟨by simp (disch := omega) only [wr_nk, wr_eq], by simp (disch := omega) only [wr_nk]; exact v11, by rw [wr_eq, hb1], by simp (disch := omega) only [wr_nk, wr_eq]⟩
end
