/-! the reference reads a rule -/
def kapp (k : Nat) : Nat := if k = 1 then 0 else k
theorem kapp_le {k : Nat} (h : k ≤ 10) : kapp k ≤ 10 := by unfold kapp; split <;> omega
theorem kapp_inj {k j : Nat} (h1 : 1 ≤ k) (h2 : 1 ≤ j) (h : kapp k = kapp j) : k = j := by
  unfold kapp at h
  split at h <;> split at h <;> omega
section
variable {sc : rp_Sc} {σ μ : rp_Mm} {t : Nat → Nat} {n : Nat} {F B T : Nat → Nat} {s : Nat → Bool}
def RK' (μ : rp_Mm) (t : Nat → Nat) (n : Nat) (F B : Nat → Nat) (p : Nat) : Prop := RK μ t n (F p) (B p)
def TR (μ : rp_Mm) (T : Nat → Nat) : Prop := ∀ k, k < 11 → μ 52 (36 + k) = nI (T k)
theorem TR_f {P : Nat → Nat → Prop} {μ' : rp_Mm} (h : TR μ T) (f : Fr P μ μ') (hp : ∀ k, ¬ P 52 (36 + k)) : TR μ' T := fun k hk => by rw [f _ _ (hp k)]; exact h k hk
theorem TR_w (h : TR μ T) {k v : Nat} : TR (rp_wr μ 52 (36 + k) (nI v)) (setT T k v) := fun x hx => by
  unfold setT
  by_cases e : x = k
  · rw [if_pos e, e, wr_eq]
  · rw [if_neg e, wr_nk (by omega)]; exact h x hx
theorem x_good (h : μ 48 14 = -1) : CL sc 163 [.ref 48] μ = RI (nI 1) μ := by
  refine cl_of (D_Ref_isGood_0 μ) rfl ?_
  rw [h, if_neg (by decide)]
  rfl
theorem x_bad {g : Nat} (hg : g ≤ 300) (h : μ 48 14 = nI g) : CL sc 163 [.ref 48] μ = RI (nI 0) μ := by
  refine cl_of (D_Ref_isGood_0 μ) rfl ?_
  rw [h, if_pos (show (0 : Int32) ≤ nI g from nI_pos' (by omega))]
  rfl
theorem x_wrong (h : μ 48 14 = -1) {g : Nat} (h11 : μ 48 11 = nI g) : CL sc 166 [.ref 48] μ = RV (rp_wr μ 48 14 (nI g)) := by
  refine cl_of (D_Ref_wrong_0 μ) rfl ?_
  rw [h, if_neg (by decide), h11]
theorem x_adv (hR : RT μ t n) (hL : Lx t n F B) {p : Nat} (hp : p ≤ n) (h : RK' μ t n F B p) : ∃ μ', CL sc 160 [.ref 48] μ = RV μ' ∧ Fr (fun a k => a = 48 ∧ 10 ≤ k ∧ k ≤ 13) μ μ' ∧ RK' μ' t n F B (B p) := by
  have l := lx_b hL hp
  exact x_advance hR l.2.1 h.2.2.1 (hL (B p) l.2.1)
theorem tkd_le (t : Nat → Nat) (n f : Nat) : tkd t n f ≤ 3 := by
  unfold tkd
  split
  · omega
  · split
    · omega
    · split <;> omega
theorem Wn_lt {j : Nat} (hj : j < 12) : Wn j < 2 ^ 30 := by
  rw [Wn_v j hj]
  have : ∀ j, j < 12 → ([80155, 8863997, 355278, 243140, 7622660, 119360, 50348, 1758676, 261071320, 247664, 411, 11522] : List Nat).getD j 0 < 2 ^ 30 := by decide +kernel
  exact this j hj
theorem x_wantWord (hR : RT μ t n) (hL : Lx t n F B) {p j : Nat} (hp : p ≤ n) (h : RK' μ t n F B p) (h14 : μ 48 14 = -1) (hj : j < 12) : (wdB t (F p) (B p) j = true ∧ ∃ μ', CL sc 168 [.ref 48, .int (nI (Wn j))] μ = RV μ' ∧ Fr (fun a k => a = 48 ∧ 10 ≤ k ∧ k ≤ 13) μ μ' ∧ RK' μ' t n F B (B p)) ∨ (wdB t (F p) (B p) j = false ∧ CL sc 168 [.ref 48, .int (nI (Wn j))] μ = RV (rp_wr μ 48 14 (nI (F p)))) := by
  have hT := hL p hp
  have tk := tok_word hT hj
  have hb : ∀ i, i < n → t i < 256 := fun i hi => (hR.2.2 i hi).2
  have tl := tvl_lt hT hb
  have dl := tkd_le t n (F p)
  have wl := Wn_lt hj
  cases hw : wdB t (F p) (B p) j with
  | true =>
    obtain ⟨μ', c, f, z⟩ := x_adv (sc := sc) hR hL hp h
    have hk := tk.mpr hw
    refine Or.inl ⟨rfl, μ', cl_of (D_Ref_wantWord_0 _ μ) rfl ?_, f, z⟩
    rw [x_good h14, thI_RI, if_neg (by decide), h.1, h.2.2.2, hk.1, hk.2, if_pos (show nI 1 = 1 from rfl), if_pos rfl, c, thV_RV]
  | false =>
    have T30 : EV sc (168, 0, 0, 30, [.ref 48, .int (nI (Wn j))], [], (rp_L0, μ)) = RV (rp_wr μ 48 14 (nI (F p))) := by
      refine ev_of (D_Ref_wantWord_30 _ μ) ?_
      rw [x_wrong h14 h.2.1, thV_RV]
    refine Or.inr ⟨rfl, cl_of (D_Ref_wantWord_0 _ μ) rfl ?_⟩
    rw [x_good h14, thI_RI, if_neg (by decide), h.1, h.2.2.2]
    by_cases q1 : tkd t n (F p) = 1
    · have q2 : ¬ tvl t n (F p) (B p) = Wn j := fun q2 => by rw [tk.mp ⟨q1, q2⟩] at hw; exact absurd hw (by decide)
      rw [if_pos (show nI (tkd t n (F p)) = 1 by rw [q1]; rfl), if_neg (fun w => q2 ((nI_eq (by omega) (by omega)).mp w)), T30]
    · rw [if_neg (show ¬ nI (tkd t n (F p)) = 1 from fun w => q1 ((nI_eq (b := 1) (by omega) (by decide)).mp w)), T30]
theorem x_wordBad {g : Nat} (hg : g ≤ 300) (h : μ 48 14 = nI g) {x : Int32} : CL sc 168 [.ref 48, .int x] μ = RV μ := by
  refine cl_of (D_Ref_wantWord_0 _ μ) rfl ?_
  rw [x_bad hg h, thI_RI, if_pos (by decide)]
theorem x_numBad {g : Nat} (hg : g ≤ 300) (h : μ 48 14 = nI g) {x y : Int32} : CL sc 167 [.ref 48, .int x, .int y] μ = RI (μ 48 13) μ := by
  refine cl_of (D_Ref_wantNumber_0 _ _ μ) rfl ?_
  rw [x_bad hg h, thI_RI, if_pos (by decide)]
theorem x_wantNumber (hR : RT μ t n) (hL : Lx t n F B) {p lo hi : Nat} (hp : p ≤ n) (h : RK' μ t n F B p) (h14 : μ 48 14 = -1) (hlo : lo < 2 ^ 30) (hhi : hi < 2 ^ 30) : (∃ v, nIn t n (F p) (B p) lo hi = some v ∧ v = tvl t n (F p) (B p) ∧ ∃ μ', CL sc 167 [.ref 48, .int (nI lo), .int (nI hi)] μ = RI (nI v) μ' ∧ Fr (fun a k => a = 48 ∧ 10 ≤ k ∧ k ≤ 13) μ μ' ∧ RK' μ' t n F B (B p)) ∨ (nIn t n (F p) (B p) lo hi = none ∧ CL sc 167 [.ref 48, .int (nI lo), .int (nI hi)] μ = RI (nI (tvl t n (F p) (B p))) (rp_wr μ 48 14 (nI (F p)))) := by
  have hT := hL p hp
  have l := lx_b hL hp
  have hn := hR.2.1
  have hb : ∀ i, i < n → t i < 256 := fun i hi => (hR.2.2 i hi).2
  have tl := tvl_lt hT hb
  have dl := tkd_le t n (F p)
  have e10 := h.1
  have e11 := h.2.1
  have e12 := h.2.2.1
  have e13 := h.2.2.2
  rcases tok_num hT (lo := lo) (hi := hi) with ⟨q1, q2, q3, q4, q5⟩ | ⟨q, q5⟩
  · obtain ⟨μ', c, f, z⟩ := x_adv (sc := sc) hR hL hp h
    refine Or.inl ⟨_, q5, rfl, μ', cl_of (D_Ref_wantNumber_0 _ _ μ) rfl ?_, f, z⟩
    simp (disch := omega) only [lt_nI, x_good h14, thI_RI, i_0, if_false, e10, e11, e12, e13, q1, if_true, pk_sub, nI_ltI, show ¬ 3 < B p - F p by omega, s_in, inB_n, c, thV_RV]
  · have T49 : ∀ x1 x2 x3, EV sc (167, 0, 0, 49, [.ref 48, .int x1, .int x2, .int x3], [], (rp_L0, μ)) = RI x3 (rp_wr μ 48 14 (nI (F p))) := fun x1 x2 x3 => by
      refine ev_of (D_Ref_wantNumber_49 _ _ _ μ) ?_
      rw [x_wrong h14 h.2.1, thV_RV]
    refine Or.inr ⟨q5, cl_of (D_Ref_wantNumber_0 _ _ μ) rfl ?_⟩
    by_cases q1 : tkd t n (F p) = 2
    · by_cases q2 : B p - F p ≤ 3
      · have hin : inB (nI (tvl t n (F p) (B p))) (nI lo) (nI hi) = nI 0 := by
          rcases inB_c (nI (tvl t n (F p) (B p))) (a := lo) (b := hi) (by omega) (by omega) with e | ⟨k, k1, k2, e, -⟩
          · exact e
          · rw [nI_eq (by omega) (by omega)] at e
            exact absurd ⟨q1, q2, by omega, by omega⟩ q
        simp (disch := omega) only [lt_nI, x_good h14, thI_RI, i_0, if_false, e10, e11, e12, e13, q1, if_true, pk_sub, nI_ltI, show ¬ 3 < B p - F p by omega, s_in, hin, T49]
      · simp (disch := omega) only [lt_nI, x_good h14, thI_RI, i_0, if_false, e10, e11, e12, e13, q1, if_true, pk_sub, nI_ltI, show 3 < B p - F p by omega, T49]
    · simp (disch := omega) only [lt_nI, x_good h14, thI_RI, i_0, if_false, e10, e13, nI_eq, q1, Nat.reduceEqDiff, reduceIte, T49]
theorem x_wantBit (hR : RT μ t n) (hL : Lx t n F B) {p k : Nat} (hp : p ≤ n) (h : RK' μ t n F B p) (h14 : μ 48 14 = -1) (hT : TR μ T) (hk : k = 3 ∨ k = 4) (hTk : T k < 2 ^ 14) : (∃ v, nIn t n (F p) (B p) 0 (gr k) = some v ∧ ¬ bt (T k) v = 1 ∧ ∃ μ', CL sc 169 [.ref 48, .int (nI (36 + k)), .int (nI (gr k))] μ = RV μ' ∧ Fr (fun a k => (a = 48 ∧ 10 ≤ k ∧ k ≤ 13) ∨ (a = 52 ∧ 36 ≤ k)) μ μ' ∧ RK' μ' t n F B (B p) ∧ TR μ' (setT T k (T k ||| 2 ^ v))) ∨ ((nIn t n (F p) (B p) 0 (gr k) = none ∨ ∃ v, nIn t n (F p) (B p) 0 (gr k) = some v ∧ bt (T k) v = 1) ∧ CL sc 169 [.ref 48, .int (nI (36 + k)), .int (nI (gr k))] μ = RV (rp_wr μ 48 14 (nI (F p)))) := by
  have hTk' := hL p hp
  have l := lx_b hL hp
  have hn := hR.2.1
  have hb : ∀ i, i < n → t i < 256 := fun i hi => (hR.2.2 i hi).2
  have tl := tvl_lt hTk' hb
  have dl := tkd_le t n (F p)
  have g : gr k ≤ 13 := by rcases hk with rfl | rfl <;> decide
  have e10 := h.1
  have e11 := h.2.1
  have e12 := h.2.2.1
  have e13 := h.2.2.2
  have e51 := hT k (by omega)
  have xw := x_wantNumber (sc := sc) (lo := 0) (hi := gr k) hR hL hp h h14 (by decide) (by omega)
  rcases tok_num hTk' (lo := 0) (hi := gr k) with ⟨q1, q2, q3, q4, q5⟩ | ⟨q, q5⟩
  · obtain ⟨v, ev⟩ : ∃ v, v = tvl t n (F p) (B p) := ⟨_, rfl⟩
    rw [← ev] at q3 q4 q5 e13
    have eb : (nI (T k) >>> (nI v &&& nI 31)) &&& nI 1 = nI (bt (T k) v) := sh_b (by omega) (by omega)
    have eo : nI (T k) ||| (nI 1 <<< (nI v &&& nI 31)) = nI (T k ||| 2 ^ v) := by
      have : 2 ^ v < 2 ^ 14 := two_pow_lt (by omega)
      rw [sh_l (by omega) (by omega), Nat.one_mul, or_n]
    by_cases hbt : bt (T k) v = 1
    · refine Or.inr ⟨Or.inr ⟨v, q5, hbt⟩, cl_le rfl (rp_Le_tr ?_ (D_Ref_wantBit_0 _ _ μ))⟩
      have bad : rp_wr μ 48 14 (nI (F p)) 48 14 = nI (F p) := wr_eq
      simp (disch := omega) only [lt_nI, x_good h14, thI_RI, i_0, if_false, e10, e11, e12, e13, q1, if_true, pk_sub, nI_ltI, show ¬ 3 < B p - F p by omega, s_in, inB_n, ixT, cond_true, nI_clamp, e51, eb, hbt, x_wrong h14 e11, thV_RV]
      refine rp_Le_tr ?_ (D_Ref_wantBit_61 _ _ _)
      rw [x_numBad (by omega) bad, thI_RI, x_bad (by omega) bad, thI_RI, if_pos (by decide)]
      exact rp_Le_rfl
    · rcases xw with ⟨v', hv', ev', μ', c, f, z⟩ | ⟨hv', -⟩
      · rw [q5] at hv'
        cases hv'
        have g14 : μ' 48 14 = -1 := by rw [f _ _ (by omega)]; exact h14
        have g51 : μ' 52 (36 + k) = nI (T k) := by rw [f _ _ (by omega)]; exact e51
        refine Or.inl ⟨v, q5, hbt, rp_wr μ' 52 (36 + k) (nI (T k ||| 2 ^ v)), cl_le rfl (rp_Le_tr ?_ (D_Ref_wantBit_0 _ _ μ)), Fr_wr (Fr_mo f (fun _ _ => by omega)) (by omega), ?_, TR_w (TR_f hT f (fun _ => by omega))⟩
        · simp (disch := omega) only [lt_nI, x_good h14, thI_RI, i_0, if_false, e10, e11, e12, e13, q1, if_true, pk_sub, nI_ltI, show ¬ 3 < B p - F p by omega, s_in, inB_n, ixT, cond_true, nI_clamp, e51, eb, bt_e, hbt]
          refine rp_Le_tr ?_ (D_Ref_wantBit_61 _ _ _)
          simp (disch := omega) only [lt_nI, c, thI_RI, x_good g14, i_0, if_false, ixT, cond_true, nI_clamp, g51, eo]
          exact rp_Le_rfl
        · unfold RK' RK
          simp (disch := omega) only [wr_n2]
          exact z
      · rw [q5] at hv'; cases hv'
  · rcases xw with ⟨v', hv', -⟩ | ⟨-, c⟩
    · rw [q5] at hv'; cases hv'
    · refine Or.inr ⟨Or.inl q5, cl_le rfl (rp_Le_tr ?_ (D_Ref_wantBit_0 _ _ μ))⟩
      have bad : rp_wr μ 48 14 (nI (F p)) 48 14 = nI (F p) := wr_eq
      have T61 : rp_Le (RV (rp_wr μ 48 14 (nI (F p)))) (EV sc (169, 0, 0, 61, [.ref 48, .int (nI (36 + k)), .int (nI (gr k)), rp_U], [], (rp_L0, μ))) := by
        refine rp_Le_tr ?_ (D_Ref_wantBit_61 _ _ _)
        simp only [lt_nI]
        rw [c, thI_RI, x_bad (by omega) bad, thI_RI]
        simp only [i_1, if_true]
        exact rp_Le_rfl
      by_cases q1 : tkd t n (F p) = 2
      · by_cases q2 : B p - F p ≤ 3
        · have hin : inB (nI (tvl t n (F p) (B p))) (nI 0) (nI (gr k)) = nI 0 := by
            rcases inB_c (nI (tvl t n (F p) (B p))) (a := 0) (b := gr k) (by omega) (by omega) with e | ⟨x, k1, k2, e, -⟩
            · exact e
            · rw [nI_eq (by omega) (by omega)] at e
              exact absurd ⟨q1, q2, by omega, by omega⟩ q
          simp (disch := omega) only [lt_nI, x_good h14, thI_RI, i_0, if_false, e10, e11, e12, e13, q1, if_true, pk_sub, nI_ltI, show ¬ 3 < B p - F p by omega, s_in, hin]
          exact T61
        · simp (disch := omega) only [lt_nI, x_good h14, thI_RI, i_0, if_false, e10, e11, e12, q1, if_true, pk_sub, nI_ltI, show 3 < B p - F p by omega]
          exact T61
      · simp (disch := omega) only [lt_nI, x_good h14, thI_RI, i_0, if_false, e10, nI_eq, q1, Nat.reduceEqDiff, reduceIte]
        exact T61
theorem x_kindOf (hR : RT μ t n) (hL : Lx t n F B) {p : Nat} (hp : p ≤ n) (h1 : tkd t n (F p) = 1) : CL sc 165 [.ref 48, .int (nI (tvl t n (F p) (B p)))] μ = RI (match kdn t (F p) (B p) 10 with | none => -1 | some k => nI (kapp k)) μ := by
  have hT := hL p hp
  have hb : ∀ i, i < n → t i < 256 := fun i hi => (hR.2.2 i hi).2
  have tl := tvl_lt hT hb
  refine cl_of (D_Ref_kindOf_0 _ μ) rfl ?_
  rcases kdn_c (t := t) (f := F p) (b := B p) (m := 10) with ⟨q1, q2⟩ | ⟨k, hk, q2, q3, -⟩
  · rw [q1]
    have hj : ∀ j, j < 10 → ∀ w : Nat, w = Wn j → ¬ nI (tvl t n (F p) (B p)) = nI w := fun j hj w hw e => by
      have wl := Wn_lt (show j < 12 by omega)
      rw [hw, nI_eq (by omega) (by omega)] at e
      have := (tok_word hT (show j < 12 by omega)).mp ⟨h1, e⟩
      rw [q2 j hj] at this
      exact absurd this (by decide)
    have v : ∀ j, j < 10 → ([80155, 8863997, 355278, 243140, 7622660, 119360, 50348, 1758676, 261071320, 247664, 411, 11522] : List Nat).getD j 0 = Wn j := fun j hj => (Wn_v j (by omega)).symm
    have e0 := hj 0 (by decide) 80155 (v 0 (by decide))
    have e1 := hj 1 (by decide) 8863997 (v 1 (by decide))
    have e2 := hj 2 (by decide) 355278 (v 2 (by decide))
    have e3 := hj 3 (by decide) 243140 (v 3 (by decide))
    have e4 := hj 4 (by decide) 7622660 (v 4 (by decide))
    have e5 := hj 5 (by decide) 119360 (v 5 (by decide))
    have e6 := hj 6 (by decide) 50348 (v 6 (by decide))
    have e7 := hj 7 (by decide) 1758676 (v 7 (by decide))
    have e8 := hj 8 (by decide) 261071320 (v 8 (by decide))
    have e9 := hj 9 (by decide) 247664 (v 9 (by decide))
    simp only [lt_nI, eq_false e0, eq_false e1, eq_false e2, eq_false e3, eq_false e4, eq_false e5, eq_false e6, eq_false e7, eq_false e8, eq_false e9, if_false]
  · rw [q2]
    have e := ((tok_word hT (show k < 12 by omega)).mpr q3).2
    rw [e, Wn_v k (by omega)]
    rcases lt11 (show 1 ≤ k + 1 by omega) (show k + 1 ≤ 10 by omega) with w | w | w | w | w | w | w | w | w | w <;> (have w' := Nat.succ.inj w; subst w'; rfl)
end
