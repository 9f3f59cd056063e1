/-! prove, check -/
theorem lp_exit {S : Type} {E : Nat → S → Option rp_Rs} (Iv : Nat → S → Prop) (Ex : Option rp_Rs → Prop) : ∀ {n : Nat}, (∀ i s, i < n → Iv i s → (∃ s', Iv (i + 1) s' ∧ rp_Le (E (i + 1) s') (E i s)) ∨ ∃ x, Ex x ∧ rp_Le x (E i s)) → ∀ {s : S}, Iv 0 s → (∃ s', Iv n s' ∧ rp_Le (E n s') (E 0 s)) ∨ ∃ x, Ex x ∧ rp_Le x (E 0 s) := by
  intro n
  induction n with
  | zero => intro _ s h; exact Or.inl ⟨s, h, rp_Le_rfl⟩
  | succ n ih =>
    intro hs s h
    rcases ih (fun i s hi => hs i s (by omega)) h with ⟨s1, h1, l1⟩ | q
    · rcases hs n s1 (by omega) h1 with ⟨s2, h2, l2⟩ | ⟨x, hx, l2⟩
      · exact Or.inl ⟨s2, h2, rp_Le_tr l2 l1⟩
      · exact Or.inr ⟨x, hx, rp_Le_tr l2 l1⟩
    · exact Or.inr q
def okR (m : Nat) (ρ D : Nat → Int32) (i : Nat) : Prop := i < m ∧ ∀ q, q < 3 → ρ (3 * i + q) = D (3 * i + q)
def CW (N : Nat) (D : Nat → Int32) (m : Nat) (ρ : Nat → Int32) (v : Int32) : Prop := (∃ i, i < N ∧ ¬ okR m ρ D i ∧ (∀ j, j < i → okR m ρ D j) ∧ v = nI i) ∨ ((∀ j, j < N → okR m ρ D j) ∧ v = if m ≤ N then -1 else nI N)
theorem CW_u {N m : Nat} {D ρ : Nat → Int32} {v v' : Int32} (h : CW N D m ρ v) (h' : CW N D m ρ v') : v = v' := by
  rcases h with ⟨i, a1, a2, a3, a4⟩ | ⟨a1, a2⟩ <;> rcases h' with ⟨i', b1, b2, b3, b4⟩ | ⟨b1, b2⟩
  · have : i = i' := by
      refine Classical.byContradiction fun q => ?_
      by_cases hlt : i < i'
      · exact a2 (b3 i hlt)
      · exact b2 (a3 i' (by omega))
    rw [a4, b4, this]
  · exact absurd (b1 i a1) a2
  · exact absurd (a1 i' b1) b2
  · rw [a2, b2]
section
variable {sc : rp_Sc} {σ μ r : rp_Mm}
theorem y_isRow {m i l s0 : Nat} {c : Int32} (hz : μ 43 3 = nI m) (hm : m ≤ 200) (hi : i < 2 ^ 20) : (okR m (μ 44) (fun k => row3 l s0 c (k - 3 * i)) i ∧ CL sc 118 [.ref 42, .int (nI i), .int (nI l), .int (nI s0), .int c] μ = RI (nI 1) μ) ∨ (¬ okR m (μ 44) (fun k => row3 l s0 c (k - 3 * i)) i ∧ CL sc 118 [.ref 42, .int (nI i), .int (nI l), .int (nI s0), .int c] μ = RI (nI 0) μ) := by
  have e0 : ∀ q, q < 3 → 3 * i + q - 3 * i = q := fun q _ => by omega
  by_cases h : i < m
  · have g : ∀ q, q < 3 → CL sc 20 [.ref 43, .int (nI i), .int (nI q)] μ = RI (μ 44 (3 * i + q)) μ := fun q hq => s_get TB42 hz hm h hq
    have g0 := g 0 (by decide)
    have g1 := g 1 (by decide)
    have g2 := g 2 (by decide)
    have hh := hsB_t h (show m < 2 ^ 31 by omega)
    by_cases h0 : μ 44 (3 * i + 0) = nI l
    · by_cases h1 : μ 44 (3 * i + 1) = nI s0
      · by_cases h2 : μ 44 (3 * i + 2) = c
        · refine Or.inl ⟨⟨h, fun q hq => ?_⟩, cl_of (D_Proof_isRow_0 _ _ _ _ μ) rfl ?_⟩
          · dsimp only
            rw [e0 q hq]
            have : q = 0 ∨ q = 1 ∨ q = 2 := by omega
            rcases this with rfl | rfl | rfl
            · exact h0
            · exact h1
            · exact h2
          · simp only [lt_nI, h_rw hz, hh, thI_RI, i_0, if_false, g0, g1, g2, eq_true h0, eq_true h1, eq_true h2, if_true]
        · refine Or.inr ⟨fun q => h2 ?_, cl_of (D_Proof_isRow_0 _ _ _ _ μ) rfl ?_⟩
          · have := q.2 2 (by decide)
            dsimp only at this
            rw [e0 2 (by decide)] at this
            exact this
          · simp only [lt_nI, h_rw hz, hh, thI_RI, i_0, if_false, g0, g1, g2, eq_true h0, eq_true h1, eq_false h2, if_true]
      · refine Or.inr ⟨fun q => h1 ?_, cl_of (D_Proof_isRow_0 _ _ _ _ μ) rfl ?_⟩
        · have := q.2 1 (by decide)
          dsimp only at this
          rw [e0 1 (by decide)] at this
          exact this
        · simp only [lt_nI, h_rw hz, hh, thI_RI, i_0, if_false, g0, g1, eq_true h0, eq_false h1, if_true]
    · refine Or.inr ⟨fun q => h0 ?_, cl_of (D_Proof_isRow_0 _ _ _ _ μ) rfl ?_⟩
      · have := q.2 0 (by decide)
        dsimp only at this
        rw [e0 0 (by decide)] at this
        exact this
      · simp only [lt_nI, h_rw hz, hh, thI_RI, i_0, if_false, g0, eq_false h0]
  · refine Or.inr ⟨fun q => h q.1, cl_of (D_Proof_isRow_0 _ _ _ _ μ) rfl ?_⟩
    have hh : hsB (nI i) m = nI 0 := by
      rcases hsB_c (nI i) (n := m) (by omega) with e | ⟨k, hk, e, -⟩
      · exact e
      · rw [nI_eq (by omega) (by omega)] at e; omega
    simp only [lt_nI, h_rw hz, hh, thI_RI, if_true]
theorem y_firstWrong (hB : BI (C σ) r) {m : Nat} (hz : σ 43 3 = nI m) (hm : m ≤ 200) : ∃ v μ, CL sc 117 [.ref 42, .ref 2, .ref 37] σ = RI v μ ∧ Fr (fun a _ => 37 ≤ a ∧ a ≤ 41) σ μ ∧ CW (dsa r 3).1 (dsa r 3).2 m (σ 44) v := by
  have dl := dsa_le (r := r) (l := 3)
  rcases lp_exit (E := fun l μ => EV sc (117, 0, 0, 5, [.ref 42, .ref 2, .ref 37, .int (nI (dsa r l).1), .int (nI l), rp_U], [], (rp_L0, μ))) (fun l μ => Fr (fun a _ => 37 ≤ a ∧ a ≤ 41) σ μ ∧ ∀ j, j < (dsa r l).1 → okR m (σ 44) (dsa r 3).2 j) (fun x => ∃ v μ, x = RI v μ ∧ Fr (fun a _ => 37 ≤ a ∧ a ≤ 41) σ μ ∧ CW (dsa r 3).1 (dsa r 3).2 m (σ 44) v) (n := 3) (fun l μ hl hR => by
    obtain ⟨f, hok⟩ := hR
    have bl := b_lw hB.1 hl
    obtain ⟨μ1, δ, k, c1, f1, P1, g1, K1⟩ := y_laws (sc := sc) hB hl (fun a k => by omega) (fun a k => by omega) f
    have St : rp_Le (EV sc (117, 0, 0, 21, [.ref 42, .ref 2, .ref 37, .int (nI (dsa r l).1), .int (nI l), .int (nI 0)], [], (rp_L0, μ1))) (EV sc (117, 0, 0, 5, [.ref 42, .ref 2, .ref 37, .int (nI (dsa r l).1), .int (nI l), rp_U], [], (rp_L0, μ))) := by
      refine rp_Le_tr ?_ (D_Proof_firstWrong_5 _ _ μ)
      simp (disch := omega) only [lt_nI, nI_leI, show ¬ 3 ≤ l by omega, if_false, c1, thV_RV]
      exact rp_Le_rfl
    rcases lp_exit (E := fun s0 μ => EV sc (117, 0, 0, 21, [.ref 42, .ref 2, .ref 37, .int (nI (dss r l (dsa r l) s0).1), .int (nI l), .int (nI s0)], [], (rp_L0, μ))) (fun s0 μ => Fr (fun a _ => 37 ≤ a ∧ a ≤ 41) σ μ ∧ PL μ μ r (lw r l) (nW r) δ k ∧ RKD μ k (fun i => gd r (lw r l) (nW r) (δ i)) ∧ ∀ j, j < (dss r l (dsa r l) s0).1 → okR m (σ 44) (dsa r 3).2 j) (fun x => ∃ v μ, x = RI v μ ∧ Fr (fun a _ => 37 ≤ a ∧ a ≤ 41) σ μ ∧ CW (dsa r 3).1 (dsa r 3).2 m (σ 44) v) (n := 121) (fun s0 μ hs hR => by
      obtain ⟨f, P, K, hok⟩ := hR
      have eh := y_good (sc := sc) hB hl (show s0 ≤ 120 by omega) P
      have T60 : ∀ x3 μ, rp_Le (EV sc (117, 0, 0, 21, [.ref 42, .ref 2, .ref 37, .int x3, .int (nI l), .int (nI (s0 + 1))], [], (rp_L0, μ))) (EV sc (117, 0, 0, 60, [.ref 42, .ref 2, .ref 37, .int x3, .int (nI l), .int (nI s0)], [], (rp_L0, μ))) := fun x3 μ => by
        refine rp_Le_tr ?_ (D_Proof_firstWrong_60 _ _ _ μ)
        simp only [lt_nI, nI_add]
        exact rp_Le_rfl
      have en : dss r l (dsa r l) (s0 + 1) = dst r l s0 (dss r l (dsa r l) s0) := rfl
      have hle := lePre_all (r := r) hl (show s0 + 1 ≤ 121 by omega)
      rw [en] at hle ⊢
      obtain ⟨st, est⟩ : ∃ st, st = dss r l (dsa r l) s0 := ⟨_, rfl⟩
      rw [← est] at hok hle ⊢
      cases hg : hgB r (lw r l) (nW r) s0 with
      | true =>
        rw [hg] at eh
        rw [dst_t hg] at hle ⊢
        obtain ⟨M, -, ec, -⟩ := y_spend (sc := sc) hB.1 (Nat.le_refl _) (TM1 bl.1).1 (TM1 bl.1).2 P K (show s0 ≤ 120 by omega)
        obtain ⟨ν, eν⟩ : ∃ m, m = rp_wr μ 37 10 (nI M) := ⟨_, rfl⟩
        rw [← eν] at ec
        have fν : Fr (fun a k => a = 37 ∧ k = 10) μ ν := by rw [eν]; exact Fr_wr Fr_rfl ⟨rfl, rfl⟩
        have f' : Fr (fun a _ => 37 ≤ a ∧ a ≤ 41) σ ν := Fr_tr f (Fr_mo fν (fun _ _ => by omega))
        have Pν : PL ν ν r (lw r l) (nW r) δ k := PL_w P (Fr_mo fν (fun _ _ => by omega))
        have Kν : RKD ν k (fun i => gd r (lw r l) (nW r) (δ i)) := RKD_w K (fν _ _ (by omega)) (fun j => fν _ _ (by omega))
        have hn := hle.1
        dsimp only at hn
        have e43 : ν 44 = σ 44 := funext fun k => f' _ _ (by omega)
        have hrow : okR m (σ 44) (fun k => row3 l s0 (cI r (lw r l) (nW r) s0) (k - 3 * st.1)) st.1 ↔ okR m (σ 44) (dsa r 3).2 st.1 := by
          unfold okR
          refine and_congr Iff.rfl ⟨fun h q hq => ?_, fun h q hq => ?_⟩
          · rw [hle.2 (3 * st.1 + q) (by dsimp only; omega)]
            dsimp only
            rw [if_pos ⟨by omega, by omega⟩]
            exact h q hq
          · have := h q hq
            rw [hle.2 (3 * st.1 + q) (by dsimp only; omega)] at this
            dsimp only at this
            rw [if_pos ⟨by omega, by omega⟩] at this
            exact this
        have hrw := y_isRow (sc := sc) (μ := ν) (m := m) (i := st.1) (l := l) (s0 := s0) (c := cI r (lw r l) (nW r) s0) (by rw [f' _ _ (by omega)]; exact hz) hm (by omega)
        rw [e43, hrow] at hrw
        rcases hrw with ⟨h1, er⟩ | ⟨h1, er⟩
        · refine Or.inl ⟨ν, ⟨f', Pν, Kν, fun j hj => ?_⟩, rp_Le_tr ?_ (D_Proof_firstWrong_21 _ _ _ μ)⟩
          · dsimp only at hj
            by_cases q : j = st.1
            · subst q; exact h1
            · exact hok j (by omega)
          · simp (disch := omega) only [lt_nI, nI_ltI, show ¬ 120 < s0 by omega, if_false, eh, thI_RI, b2, cond_true, i_0, ec, er, nI_add]
            exact T60 _ _
        · refine Or.inr ⟨RI (nI st.1) ν, ⟨nI st.1, ν, rfl, f', Or.inl ⟨st.1, by omega, h1, fun j hj => hok j hj, rfl⟩⟩, rp_Le_tr ?_ (D_Proof_firstWrong_21 _ _ _ μ)⟩
          simp (disch := omega) only [lt_nI, nI_ltI, show ¬ 120 < s0 by omega, if_false, eh, thI_RI, b2, cond_true, i_0, ec, er, i_1, if_true]
          exact rp_Le_rfl
      | false =>
        rw [hg] at eh
        rw [dst_f hg]
        refine Or.inl ⟨μ, ⟨f, P, K, hok⟩, rp_Le_tr ?_ (D_Proof_firstWrong_21 _ _ _ μ)⟩
        simp (disch := omega) only [lt_nI, nI_ltI, show ¬ 120 < s0 by omega, if_false, eh, thI_RI, b2, cond_false, i_1, if_true]
        exact T60 _ _) (s := μ1) ⟨f1, P1, K1, hok⟩ with ⟨μ2, ⟨f2, -, -, hok2⟩, L2⟩ | ⟨x, hx, L2⟩
    · refine Or.inl ⟨μ2, ⟨f2, hok2⟩, rp_Le_tr (rp_Le_tr (rp_Le_tr ?_ (D_Proof_firstWrong_21 _ _ _ μ2)) L2) St⟩
      simp (disch := omega) only [lt_nI, nI_ltI, eq_true (show 120 < 121 by decide), if_true, nI_add]
      exact rp_Le_rfl
    · exact Or.inr ⟨x, hx, rp_Le_tr L2 St⟩) (s := σ) ⟨Fr_rfl, fun j hj => absurd hj (by show ¬ j < 0; omega)⟩ with ⟨μ2, ⟨f2, hok2⟩, L2⟩ | ⟨x, ⟨v, μ2, rfl, f2, hcw⟩, L2⟩
  · refine ⟨if m ≤ (dsa r 3).1 then -1 else nI (dsa r 3).1, μ2, cl_le rfl (rp_Le_tr (rp_Le_tr (rp_Le_tr ?_ (D_Proof_firstWrong_5 _ _ μ2)) L2) (D_Proof_firstWrong_0 σ)), f2, Or.inr ⟨hok2, rfl⟩⟩
    rw [if_pos (show (3 : Int32) ≤ nI 3 by decide), s_size TB42, thI_RI, f2 _ _ (by omega), hz]
    simp (disch := omega) only [nI_leI]
    by_cases q : m ≤ (dsa r 3).1
    · simp only [eq_true q, if_true]; exact rp_Le_rfl
    · simp only [eq_false q, if_false]; exact rp_Le_rfl
  · exact ⟨v, μ2, cl_le rfl (rp_Le_tr L2 (D_Proof_firstWrong_0 σ)), f2, hcw⟩
/-! the reference -/
theorem x_someGood (h : RB (R σ)) {l s0 : Nat} (hl : l < 3) (ht : lw (R σ) l 11 = 1) (h0 : s0 ≤ 120) : CL sc 206 [.ref 48, .int (nI l), .int (nI s0)] σ = RI (nI (b2 (hgB (R σ) (lw (R σ) l) (nW (R σ)) s0))) σ := by
  have bn := b_n h
  have bl := b_lw h hl
  have tm := bl.1
  unfold TM at tm
  have hN := bl.2.2.2 ht
  obtain ⟨P, eP⟩ : ∃ P : Nat → Bool, P = fun w => decide (s0 ≤ cwN (R σ) (lw (R σ) l) w ∧ cwN (R σ) (lw (R σ) l) w < s0 + lw (R σ) l 1) := ⟨_, rfl⟩
  have eh : hgB (R σ) (lw (R σ) l) (nW (R σ)) s0 = anyN P (nW (R σ)) := by rw [eP]; rfl
  rw [eh]
  have L := lp (E := fun w => EV sc (206, 0, 0, 5, [.ref 48, .int (nI l), .int (nI s0), .int (nI (b2 (anyN P w))), .int (nI w)], [], (rp_L0, σ))) (n := nW (R σ)) (fun w hw => by
    have cl := cw_le (g := lw (R σ) l) h hw
    have cd := x_countedWish (sc := sc) h hw hl
    have T54 : ∀ x3 (y : Int32), rp_Le (EV sc (206, 0, 0, 5, [.ref 48, .int (nI l), .int (nI s0), .int y, .int (nI (w + 1))], [], (rp_L0, σ))) (EV sc (206, 0, 0, 54, [.ref 48, .int (nI l), .int (nI s0), .int x3, .int (nI w)], [.int y], (rp_L0, σ))) := fun x3 y => by
      refine rp_Le_tr ?_ (D_Ref_isSomeGood_54 _ _ _ _ _ σ)
      simp only [lt_nI, nI_add]
      exact rp_Le_rfl
    have T49 : ∀ x3, rp_Le (EV sc (206, 0, 0, 5, [.ref 48, .int (nI l), .int (nI s0), .int (nI 1), .int (nI (w + 1))], [], (rp_L0, σ))) (EV sc (206, 0, 0, 49, [.ref 48, .int (nI l), .int (nI s0), .int x3, .int (nI w)], [], (rp_L0, σ))) := fun x3 => rp_Le_tr (T54 x3 1) (D_Ref_isSomeGood_49 _ _ _ _ σ)
    refine rp_Le_tr ?_ (D_Ref_isSomeGood_5 _ _ _ _ σ)
    show rp_Le (EV sc (206, 0, 0, 5, [.ref 48, .int (nI l), .int (nI s0), .int (nI (b2 (anyN P w || P w))), .int (nI (w + 1))], [], (rp_L0, σ))) _
    cases ha : anyN P w with
    | true =>
      simp (disch := omega) only [lt_nI, r_nW h, nI_leI, show ¬ nW (R σ) ≤ w by omega, if_false, b2, cond_true, i_0, Bool.true_or]
      exact T49 _
    | false =>
      simp (disch := omega) only [lt_nI, r_nW h, nI_leI, show ¬ nW (R σ) ≤ w by omega, if_false, b2, cond_false, i_1, if_true, Bool.false_or, cd, thI_RI, nI_add, pk_mul, ixT, cond_true, nI_clamp, r_lw h hl, pk_sub, s_in]
      by_cases hp : s0 ≤ cwN (R σ) (lw (R σ) l) w ∧ cwN (R σ) (lw (R σ) l) w < s0 + lw (R σ) l 1
      · have : P w = true := by rw [eP]; simp; exact hp
        rw [this, inB_n hp.1 (by omega) (by omega)]
        simp only [i_0, if_false, cond_true]
        exact T49 _
      · have : P w = false := by rw [eP]; simp; omega
        have hin : inB (nI (cwN (R σ) (lw (R σ) l) w)) (nI s0) (nI (s0 + lw (R σ) l 1 - 1)) = nI 0 := by
          rcases inB_c (nI (cwN (R σ) (lw (R σ) l) w)) (a := s0) (b := s0 + lw (R σ) l 1 - 1) (by omega) (by omega) with e | ⟨k, k1, k2, e, -⟩
          · exact e
          · rw [nI_eq (by omega) (by omega)] at e; omega
        rw [this, hin]
        simp only [i_1, if_true, cond_false]
        exact T54 _ _)
  refine cl_le rfl (rp_Le_tr (rp_Le_tr (rp_Le_tr ?_ (D_Ref_isSomeGood_5 _ _ _ _ σ)) L) (D_Ref_isSomeGood_0 _ _ σ))
  simp (disch := omega) only [r_nW h, nI_leI, Nat.le_refl, if_true]
  cases anyN P (nW (R σ)) with
  | true => exact rp_Le_eq rfl
  | false => exact rp_Le_eq rfl
/-- the reference's due rows -/
def DM (σ μ : rp_Mm) (st : Nat × (Nat → Int32)) : Prop := Fr (fun a k => (58 ≤ a ∧ a ≤ 61) ∨ (a = 48 ∧ 19 ≤ k ∧ k ≤ 23)) σ μ ∧ μ 48 23 = nI st.1 ∧ ∀ k, k < 3 * st.1 → μ 61 k = st.2 k
theorem x_findDue (h : RB (R σ)) : ∃ μ, CL sc 205 [.ref 48] σ = RV μ ∧ DM σ μ (dsa (R σ) 3) := by
  have bn := b_n h
  obtain ⟨r, er⟩ : ∃ r, r = R σ := ⟨_, rfl⟩
  rw [← er]
  have hR : RB r := by rw [er]; exact h
  have rr : ∀ {μ st}, DM σ μ st → R μ = r := fun m => by rw [R_fr m.1 (fun a k ha => by omega), er]
  obtain ⟨μ1, m1, L⟩ := lp_inv (E := fun l μ => EV sc (205, 0, 0, 7, [.ref 48, .int (nI l), rp_U], [], (rp_L0, μ))) (fun l μ => DM σ μ (dsa r l)) (n := 3) (fun l μ hl m => by
    have bl := b_lw hR hl
    have St : rp_Le (EV sc (205, 0, 0, 14, [.ref 48, .int (nI l), .int (nI 0)], [], (rp_L0, μ))) (EV sc (205, 0, 0, 7, [.ref 48, .int (nI l), rp_U], [], (rp_L0, μ))) := by
      refine rp_Le_tr ?_ (D_Ref_findDue_7 _ μ)
      simp (disch := omega) only [lt_nI, nI_leI, show ¬ 3 ≤ l by omega, if_false]
      exact rp_Le_rfl
    have T98 : ∀ x2 μ, rp_Le (EV sc (205, 0, 0, 7, [.ref 48, .int (nI (l + 1)), rp_U], [], (rp_L0, μ))) (EV sc (205, 0, 0, 98, [.ref 48, .int (nI l), .int x2], [], (rp_L0, μ))) := fun x2 μ => by
      refine rp_Le_tr ?_ (D_Ref_findDue_98 _ _ μ)
      simp only [lt_nI, nI_add]
      exact rp_Le_rfl
    by_cases ht : lw r l 11 = 1
    · obtain ⟨μ2, m2, L2⟩ := lp_inv (E := fun s0 μ => EV sc (205, 0, 0, 14, [.ref 48, .int (nI l), .int (nI s0)], [], (rp_L0, μ))) (fun s0 μ => DM σ μ (dss r l (dsa r l) s0)) (n := 121) (fun s0 μ hs m => by
        have rμ := rr m
        have eL := x_hasLaw (sc := sc) (σ := μ) (by rw [rμ]; exact hR) hl
        have eg := x_someGood (sc := sc) (σ := μ) (l := l) (s0 := s0) (by rw [rμ]; exact hR) hl (by rw [rμ]; exact ht) (by omega)
        rw [rμ] at eL eg
        rw [ht] at eL
        have T92 : ∀ μ, rp_Le (EV sc (205, 0, 0, 14, [.ref 48, .int (nI l), .int (nI (s0 + 1))], [], (rp_L0, μ))) (EV sc (205, 0, 0, 92, [.ref 48, .int (nI l), .int (nI s0)], [], (rp_L0, μ))) := fun μ => by
          refine rp_Le_tr ?_ (D_Ref_findDue_92 _ _ μ)
          simp only [lt_nI, nI_add]
          exact rp_Le_rfl
        have en : dss r l (dsa r l) (s0 + 1) = dst r l s0 (dss r l (dsa r l) s0) := rfl
        have hle := lePre_all (r := r) hl (show s0 + 1 ≤ 121 by omega)
        have dl := dsa_le (r := r) (l := 3)
        rw [en] at hle ⊢
        obtain ⟨st, est⟩ : ∃ st, st = dss r l (dsa r l) s0 := ⟨_, rfl⟩
        rw [← est] at m hle ⊢
        cases hg : hgB r (lw r l) (nW r) s0 with
        | true =>
          rw [hg] at eg
          rw [dst_t hg] at hle ⊢
          have hn := hle.1
          dsimp only at hn
          obtain ⟨f, z, v⟩ := m
          obtain ⟨μa, ema⟩ : ∃ x, x = rp_wr (rp_wr μ 61 (3 * st.1) (nI l)) 61 (3 * st.1 + 1) (nI s0) := ⟨_, rfl⟩
          have fa : Fr (fun a k => (58 ≤ a ∧ a ≤ 61) ∨ (a = 48 ∧ 19 ≤ k ∧ k ≤ 23)) σ μa := by rw [ema]; exact Fr_wr (Fr_wr f (by omega)) (by omega)
          have ra : R μa = r := by rw [R_fr fa (fun a k ha => by omega), er]
          obtain ⟨μb, cb, fb⟩ := x_leastOf (sc := sc) (σ := μa) (l := l) (s0 := s0) (by rw [ra]; exact hR) hl (by rw [ra]; exact ht) (by omega)
          rw [ra] at cb
          have zb : μb 48 23 = nI st.1 := by rw [fb _ _ (by omega), ema]; simp (disch := omega) only [wr_n2]; exact z
          refine ⟨rp_wr (rp_wr μb 61 (3 * st.1 + 2) (cI r (lw r l) (nW r) s0)) 48 23 (nI (st.1 + 1)), ⟨Fr_wr (Fr_wr (Fr_tr fa (Fr_mo fb (fun _ _ => by omega))) (by omega)) (by omega), wr_eq, fun k hk => ?_⟩, rp_Le_tr (rp_Le_tr (T92 _) ?_) (D_Ref_findDue_14 _ _ μ)⟩
          · dsimp only at hk ⊢
            rw [wr_n2 (by decide)]
            by_cases q : 3 * st.1 ≤ k
            · rw [if_pos ⟨q, by omega⟩]
              have hq : k = 3 * st.1 ∨ k = 3 * st.1 + 1 ∨ k = 3 * st.1 + 2 := by omega
              rcases hq with rfl | rfl | rfl
              · rw [wr_nk (by omega), fb _ _ (by omega), ema, wr_nk (by omega), wr_eq, Nat.sub_self]; rfl
              · rw [wr_nk (by omega), fb _ _ (by omega), ema, wr_eq, Nat.add_sub_cancel_left]; rfl
              · rw [wr_eq, Nat.add_sub_cancel_left]; rfl
            · rw [if_neg (by omega), wr_nk (by omega), fb _ _ (by omega), ema, wr_nk (by omega), wr_nk (by omega)]
              exact v k (by omega)
          · simp (disch := omega) only [lt_nI, nI_ltI, show ¬ 120 < s0 by omega, if_false, eL, thI_RI, i_0, eg, b2, cond_true, z, pk_mul, nI_add, ixT, nI_clamp, wr_n2, ← ema, cb, zb]
            exact rp_Le_rfl
        | false =>
          rw [hg] at eg
          rw [dst_f hg]
          refine ⟨μ, m, rp_Le_tr (rp_Le_tr (T92 _) ?_) (D_Ref_findDue_14 _ _ μ)⟩
          simp (disch := omega) only [lt_nI, nI_ltI, show ¬ 120 < s0 by omega, if_false, eL, thI_RI, i_0, eg, b2, cond_false, i_1, if_true]
          exact rp_Le_rfl) m
      refine ⟨μ2, m2, rp_Le_tr (rp_Le_tr (rp_Le_tr ?_ (D_Ref_findDue_14 _ _ μ2)) L2) St⟩
      simp (disch := omega) only [lt_nI, nI_ltI, eq_true (show 120 < 121 by decide), if_true]
      exact T98 _ _
    · have hno : ∀ s, dss r l (dsa r l) s = dsa r l := by
        intro s
        induction s with
        | zero => rfl
        | succ s ih =>
          show dst r l s (dss r l (dsa r l) s) = _
          rw [ih]
          exact dst_f (by rw [← Bool.not_eq_true, hgB_iff]; exact hg_no hR hl ht)
      have rμ := rr m
      have eL := x_hasLaw (sc := sc) (σ := μ) (by rw [rμ]; exact hR) hl
      rw [rμ, show lw r l 11 = 0 by omega] at eL
      refine ⟨μ, by show DM σ μ (dss r l (dsa r l) 121); rw [hno]; exact m, rp_Le_tr (rp_Le_tr ?_ (D_Ref_findDue_14 _ _ μ)) St⟩
      simp (disch := omega) only [lt_nI, nI_ltI, eq_false (show ¬ 120 < 0 by decide), if_false, eL, thI_RI, i_1, if_true]
      exact T98 _ _) (s := rp_wr σ 48 23 (nI 0)) ⟨Fr_wr Fr_rfl (by omega), wr_eq, fun k hk => absurd hk (by show ¬ k < 3 * 0; omega)⟩
  refine ⟨μ1, cl_le rfl (rp_Le_tr (rp_Le_tr (rp_Le_tr ?_ (D_Ref_findDue_7 _ μ1)) L) (D_Ref_findDue_0 σ)), m1⟩
  rw [if_pos (show (3 : Int32) ≤ nI 3 by decide)]
  exact rp_Le_rfl
end
