/-! the reference reads a rule, whole -/
section
variable {sc : rp_Sc} {σ μ : rp_Mm} {t : Nat → Nat} {n : Nat} {F B T : Nat → Nat} {s : Nat → Bool}
theorem W10 : nI (Wn 10) = nI 411 := by rw [Wn_v 10 (by decide)]; rfl
theorem W11 : nI (Wn 11) = nI 11522 := by rw [Wn_v 11 (by decide)]; rfl
theorem RK'_f {P : Nat → Nat → Prop} {μ' : rp_Mm} {p : Nat} (h : RK' μ t n F B p) (f : Fr P μ μ') (hp : ∀ k, 10 ≤ k → k ≤ 13 → ¬ P 48 k) : RK' μ' t n F B p := ⟨by rw [f _ _ (hp 10 (by decide) (by decide))]; exact h.1, by rw [f _ _ (hp 11 (by decide) (by decide))]; exact h.2.1, by rw [f _ _ (hp 12 (by decide) (by decide))]; exact h.2.2.1, by rw [f _ _ (hp 13 (by decide) (by decide))]; exact h.2.2.2⟩
theorem x_245bad {g : Nat} {x y : Int32} (hg : g ≤ 300) (h : μ 48 14 = nI g) : rp_Le (RV μ) (EV sc (164, 0, 0, 245, [.ref 48, .int x, .int y], [], (rp_L0, μ))) := by
  refine rp_Le_tr ?_ (D_Ref_wantRule_245 _ _ μ)
  rw [x_bad hg h, thI_RI, if_pos (by decide)]
  exact rp_Le_rfl
/-- how the reference goes on behind the first word -/
theorem x_55t {k : Nat} {ν ν1 : rp_Mm} (hk : k = 2 ∨ k = 5 ∨ k = 6 ∨ k = 7 ∨ k = 8 ∨ k = 9 ∨ k = 10) (eν : ν = rp_wr μ 48 15 ((μ 48 15) ||| (nI 1 <<< (nI (kapp k) &&& nI 31)))) (c1 : CL sc 160 [.ref 48] ν = RV ν1) : rp_Le (thI (CL sc 167 [.ref 48, .int (nI 0), .int (nI (gr k))] ν1) fun r σ => EV sc (164, 0, 0, 245, [.ref 48, .int (nI 36), .int (nI (kapp k))], [], (rp_L0, rp_wr σ 52 (36 + k) r))) (EV sc (164, 0, 0, 55, [.ref 48, .int (nI 36), .int (nI (kapp k))], [], (rp_L0, μ))) := by
  refine rp_Le_tr ?_ (D_Ref_wantRule_55 _ _ μ)
  simp only [lt_nI]
  rw [← eν, c1, thV_RV]
  rcases hk with rfl | rfl | rfl | rfl | rfl | rfl | rfl <;> exact rp_Le_rfl
theorem x_55d {ν ν1 : rp_Mm} (eν : ν = rp_wr μ 48 15 ((μ 48 15) ||| (nI 1 <<< (nI 0 &&& nI 31)))) (c1 : CL sc 160 [.ref 48] ν = RV ν1) : rp_Le (thI (CL sc 167 [.ref 48, .int (nI 1), .int (nI 60)] ν1) fun r3 σ2 => thV (CL sc 168 [.ref 48, .int (nI 411)] (rp_wr σ2 52 36 r3)) fun σ4 => thI (CL sc 167 [.ref 48, .int (σ4 52 36), .int (nI 60)] σ4) fun r6 σ5 => EV sc (164, 0, 0, 245, [.ref 48, .int (nI 36), .int (nI 0)], [], (rp_L0, rp_wr σ5 52 (36 + 1) r6))) (EV sc (164, 0, 0, 55, [.ref 48, .int (nI 36), .int (nI 0)], [], (rp_L0, μ))) := by
  refine rp_Le_tr ?_ (D_Ref_wantRule_55 _ _ μ)
  simp only [lt_nI]
  rw [← eν, c1, thV_RV]
  exact rp_Le_rfl
theorem x_55r {ν ν1 : rp_Mm} (eν : ν = rp_wr μ 48 15 ((μ 48 15) ||| (nI 1 <<< (nI 3 &&& nI 31)))) (c1 : CL sc 160 [.ref 48] ν = RV ν1) : rp_Le (thV (CL sc 169 [.ref 48, .int (nI (36 + 3)), .int (nI 4)] ν1) fun σ11 => EV sc (164, 0, 0, 245, [.ref 48, .int (nI 36), .int (nI 3)], [], (rp_L0, σ11))) (EV sc (164, 0, 0, 55, [.ref 48, .int (nI 36), .int (nI 3)], [], (rp_L0, μ))) := by
  refine rp_Le_tr ?_ (D_Ref_wantRule_55 _ _ μ)
  simp only [lt_nI]
  rw [← eν, c1, thV_RV]
  exact rp_Le_rfl
theorem x_55o {ν ν1 : rp_Mm} (eν : ν = rp_wr μ 48 15 ((μ 48 15) ||| (nI 1 <<< (nI 4 &&& nI 31)))) (c1 : CL sc 160 [.ref 48] ν = RV ν1) : rp_Le (thV (CL sc 169 [.ref 48, .int (nI (36 + 4)), .int (nI 13)] ν1) fun σ12 => thV (CL sc 168 [.ref 48, .int (nI 11522)] σ12) fun σ13 => EV sc (164, 0, 0, 245, [.ref 48, .int (nI 36), .int (nI 4)], [], (rp_L0, σ13))) (EV sc (164, 0, 0, 55, [.ref 48, .int (nI 36), .int (nI 4)], [], (rp_L0, μ))) := by
  refine rp_Le_tr ?_ (D_Ref_wantRule_55 _ _ μ)
  simp only [lt_nI]
  rw [← eν, c1, thV_RV]
  exact rp_Le_rfl
theorem x_body {k q : Nat} {ν ν1 : rp_Mm} (h1 : 1 ≤ k) (hk : k ≤ 10) (eν : ν = rp_wr μ 48 15 ((μ 48 15) ||| (nI 1 <<< (nI (kapp k) &&& nI 31)))) (c1 : CL sc 160 [.ref 48] ν = RV ν1) (hR : RT ν1 t n) (hL : Lx t n F B) (hq : q ≤ n) (h : RK' ν1 t n F B q) (h14 : ν1 48 14 = -1) (hT : TR ν1 T) (hT4 : T 3 < 2 ^ 14 ∧ T 4 < 2 ^ 14) :
    (∃ g, bodyR t n F B k q T = .inl g ∧ g ≤ n ∧ ∃ μ', rp_Le (RV μ') (EV sc (164, 0, 0, 55, [.ref 48, .int (nI 36), .int (nI (kapp k))], [], (rp_L0, μ))) ∧ Fr (fun a k => (a = 48 ∧ 10 ≤ k ∧ k ≤ 14) ∨ (a = 52 ∧ 36 ≤ k)) ν1 μ' ∧ μ' 48 14 = nI g) ∨
    (∃ q' T', bodyR t n F B k q T = .inr (q', T') ∧ q' ≤ n ∧ ∃ μ', rp_Le (EV sc (164, 0, 0, 245, [.ref 48, .int (nI 36), .int (nI (kapp k))], [], (rp_L0, μ'))) (EV sc (164, 0, 0, 55, [.ref 48, .int (nI 36), .int (nI (kapp k))], [], (rp_L0, μ))) ∧ Fr (fun a k => (a = 48 ∧ 10 ≤ k ∧ k ≤ 13) ∨ (a = 52 ∧ 36 ≤ k)) ν1 μ' ∧ RK' μ' t n F B q' ∧ TR μ' T') := by
  have l1 := lx_b hL hq
  have l2 := lx_b hL l1.2.1
  have l3 := lx_b hL l2.2.1
  have hn := hR.2.1
  have fb : ∀ {μ : rp_Mm} {g : Nat}, Fr (fun a k => a = 48 ∧ k = 14) μ (rp_wr μ 48 14 (nI g)) := fun {μ g} => Fr_wr Fr_rfl ⟨rfl, rfl⟩
  by_cases k1 : k = 1
  · subst k1
    have D := x_55d (sc := sc) (μ := μ) (ν := ν) (ν1 := ν1) eν c1
    unfold bodyR
    rw [if_pos rfl]
    rcases x_wantNumber (sc := sc) (lo := 1) (hi := 60) hR hL hq h h14 (by decide) (by decide) with ⟨a, ha, -, μ1, c, f, z⟩ | ⟨ha, c⟩
    · rw [ha]
      dsimp only
      have al : a ≤ 60 := (nIn_s ha).2.2.1
      obtain ⟨μ2, e2⟩ : ∃ m, m = rp_wr μ1 52 36 (nI a) := ⟨_, rfl⟩
      have f2 : Fr (fun a k => a = 52 ∧ k = 36) μ1 μ2 := by rw [e2]; exact Fr_wr Fr_rfl ⟨rfl, rfl⟩
      have hR2 : RT μ2 t n := RT_f (RT_f hR f (by omega) (fun _ => by omega)) f2 (by omega) (fun _ => by omega)
      have h2 : RK' μ2 t n F B (B q) := RK'_f z f2 (fun _ _ _ => by omega)
      have g2 : μ2 48 14 = -1 := by rw [f2 _ _ (by omega), f _ _ (by omega)]; exact h14
      have hT2 : TR μ2 (setT T 0 a) := by rw [e2]; exact TR_w (k := 0) (TR_f hT f (fun _ => by omega))
      have D2 : rp_Le (thV (CL sc 168 [.ref 48, .int (nI (Wn 10))] μ2) fun σ4 => thI (CL sc 167 [.ref 48, .int (σ4 52 36), .int (nI 60)] σ4) fun r6 σ5 => EV sc (164, 0, 0, 245, [.ref 48, .int (nI 36), .int (nI 0)], [], (rp_L0, rp_wr σ5 52 (36 + 1) r6))) (EV sc (164, 0, 0, 55, [.ref 48, .int (nI 36), .int (nI 0)], [], (rp_L0, μ))) := by
        rw [c, thI_RI, ← e2] at D
        rw [W10]
        exact D
      rcases x_wantWord (sc := sc) (j := 10) hR2 hL l1.2.1 h2 g2 (by decide) with ⟨hw, μ3, c3, f3, z3⟩ | ⟨hw, c3⟩
      · rw [if_pos hw]
        rw [c3, thV_RV] at D2
        have e36 : μ3 52 36 = nI a := by rw [f3 _ _ (by omega), e2]; exact wr_eq
        have hR3 := RT_f hR2 f3 (by omega) (fun _ => by omega)
        have g3 : μ3 48 14 = -1 := by rw [f3 _ _ (by omega)]; exact g2
        have f13 : Fr (fun a k => (a = 48 ∧ 10 ≤ k ∧ k ≤ 13) ∨ (a = 52 ∧ 36 ≤ k)) ν1 μ3 := Fr_tr (Fr_mo f (fun _ _ => by omega)) (Fr_tr (Fr_mo f2 (fun _ _ => by omega)) (Fr_mo f3 (fun _ _ => by omega)))
        rw [e36] at D2
        rcases x_wantNumber (sc := sc) (lo := a) (hi := 60) hR3 hL l2.2.1 z3 g3 (by omega) (by decide) with ⟨b, hb, -, μ4, c4, f4, z4⟩ | ⟨hb, c4⟩
        · rw [hb]
          rw [c4, thI_RI] at D2
          have w : Fr (fun a k => a = 52 ∧ 36 ≤ k) μ4 (rp_wr μ4 52 (36 + 1) (nI b)) := Fr_wr Fr_rfl ⟨rfl, by decide⟩
          exact Or.inr ⟨_, _, rfl, l3.2.1, _, D2, Fr_tr f13 (Fr_tr (Fr_mo f4 (fun _ _ => by omega)) (Fr_mo w (fun _ _ => by omega))), RK'_f z4 w (fun _ _ _ => by omega), TR_w (k := 1) (TR_f (TR_f hT2 f3 (fun _ => by omega)) f4 (fun _ => by omega))⟩
        · rw [hb]
          rw [c4, thI_RI] at D2
          refine Or.inl ⟨_, rfl, by omega, _, rp_Le_tr (x_245bad (g := F (B (B q))) (by omega) (by rw [wr_n2 (by decide), wr_eq])) D2, Fr_wr (Fr_wr (Fr_mo f13 (fun _ _ => by omega)) (by omega)) (by omega), by rw [wr_n2 (by decide), wr_eq]⟩
      · rw [if_neg (by rw [hw]; decide)]
        rw [c3, thV_RV] at D2
        have bad : rp_wr μ2 48 14 (nI (F (B q))) 48 14 = nI (F (B q)) := wr_eq
        rw [x_numBad (by omega) bad, thI_RI] at D2
        have f12 : Fr (fun a k => (a = 48 ∧ 10 ≤ k ∧ k ≤ 14) ∨ (a = 52 ∧ 36 ≤ k)) ν1 μ2 := Fr_tr (Fr_mo f (fun _ _ => by omega)) (Fr_mo f2 (fun _ _ => by omega))
        exact Or.inl ⟨_, rfl, by omega, _, rp_Le_tr (x_245bad (g := F (B q)) (by omega) (by rw [wr_n2 (by decide)]; exact bad)) D2, Fr_wr (Fr_wr f12 (by omega)) (by omega), by rw [wr_n2 (by decide)]; exact bad⟩
    · rw [ha]
      rw [c, thI_RI] at D
      have bad : rp_wr (rp_wr ν1 48 14 (nI (F q))) 52 36 (nI (tvl t n (F q) (B q))) 48 14 = nI (F q) := by rw [wr_n2 (by decide), wr_eq]
      rw [x_wordBad (by omega) bad, thV_RV, x_numBad (by omega) bad, thI_RI] at D
      exact Or.inl ⟨_, rfl, by omega, _, rp_Le_tr (x_245bad (g := F q) (by omega) (by rw [wr_n2 (by decide)]; exact bad)) D, Fr_wr (Fr_wr (Fr_wr Fr_rfl (by omega)) (by omega)) (by omega), by rw [wr_n2 (by decide)]; exact bad⟩
  · unfold bodyR
    rw [if_neg k1]
    by_cases k3 : k = 3 ∨ k = 4
    · rw [if_pos k3]
      have hTk : T k < 2 ^ 14 := by rcases k3 with rfl | rfl; exact hT4.1; exact hT4.2
      have xb := x_wantBit (sc := sc) hR hL hq h h14 hT k3 hTk
      by_cases k4 : k = 4
      · subst k4
        have D := x_55o (sc := sc) (μ := μ) (ν := ν) (ν1 := ν1) eν c1
        have c' : ∀ {y}, CL sc 169 [.ref 48, .int (nI (36 + 4)), .int (nI (gr 4))] ν1 = y → CL sc 169 [.ref 48, .int (nI (36 + 4)), .int (nI 13)] ν1 = y := fun e => e
        rcases xb with ⟨v, hv, hb, μ', c, f, z, w⟩ | ⟨hv, c⟩
        · rw [hv]
          dsimp only
          rw [if_neg hb, if_pos rfl]
          rw [c' c, thV_RV] at D
          have hR' := RT_f hR f (by omega) (fun _ => by omega)
          have g' : μ' 48 14 = -1 := by rw [f _ _ (by omega)]; exact h14
          rw [← W11] at D
          rcases x_wantWord (sc := sc) (j := 11) hR' hL l1.2.1 z g' (by decide) with ⟨hw, μ3, c3, f3, z3⟩ | ⟨hw, c3⟩
          · rw [if_pos hw]
            rw [c3, thV_RV] at D
            exact Or.inr ⟨_, _, rfl, l2.2.1, μ3, D, Fr_tr f (Fr_mo f3 (fun _ _ => by omega)), z3, TR_f w f3 (fun _ => by omega)⟩
          · rw [if_neg (by rw [hw]; decide)]
            rw [c3, thV_RV] at D
            exact Or.inl ⟨_, rfl, by omega, _, rp_Le_tr (x_245bad (g := F (B q)) (by omega) wr_eq) D, Fr_wr (Fr_mo f (fun _ _ => by omega)) (by omega), wr_eq⟩
        · rw [c' c, thV_RV, x_wordBad (g := F q) (by omega) wr_eq, thV_RV] at D
          have D' := rp_Le_tr (x_245bad (g := F q) (by omega) wr_eq) D
          rcases hv with hv | ⟨v, hv, hb⟩
          · rw [hv]
            exact Or.inl ⟨_, rfl, by omega, _, D', Fr_wr Fr_rfl (by omega), wr_eq⟩
          · rw [hv]
            dsimp only
            rw [if_pos hb]
            exact Or.inl ⟨_, rfl, by omega, _, D', Fr_wr Fr_rfl (by omega), wr_eq⟩
      · have k33 : k = 3 := Or.resolve_right k3 k4
        subst k33
        have D := x_55r (sc := sc) (μ := μ) (ν := ν) (ν1 := ν1) eν c1
        have c' : ∀ {y}, CL sc 169 [.ref 48, .int (nI (36 + 3)), .int (nI (gr 3))] ν1 = y → CL sc 169 [.ref 48, .int (nI (36 + 3)), .int (nI 4)] ν1 = y := fun e => e
        rcases xb with ⟨v, hv, hb, μ', c, f, z, w⟩ | ⟨hv, c⟩
        · rw [hv]
          dsimp only
          rw [if_neg hb, if_neg k4]
          rw [c' c, thV_RV] at D
          exact Or.inr ⟨_, _, rfl, l1.2.1, μ', D, f, z, w⟩
        · rw [c' c, thV_RV] at D
          have D' := rp_Le_tr (x_245bad (g := F q) (by omega) wr_eq) D
          rcases hv with hv | ⟨v, hv, hb⟩
          · rw [hv]
            exact Or.inl ⟨_, rfl, by omega, _, D', Fr_wr Fr_rfl (by omega), wr_eq⟩
          · rw [hv]
            dsimp only
            rw [if_pos hb]
            exact Or.inl ⟨_, rfl, by omega, _, D', Fr_wr Fr_rfl (by omega), wr_eq⟩
    · rw [if_neg k3]
      have D := x_55t (sc := sc) (μ := μ) (ν := ν) (ν1 := ν1) (k := k) (by omega) eν c1
      have g := gr_le k
      rcases x_wantNumber (sc := sc) (lo := 0) (hi := gr k) hR hL hq h h14 (by decide) (by omega) with ⟨v, hv, -, μ1, c, f, z⟩ | ⟨hv, c⟩
      · rw [hv]
        rw [c, thI_RI] at D
        have w : Fr (fun a k => a = 52 ∧ 36 ≤ k) μ1 (rp_wr μ1 52 (36 + k) (nI v)) := Fr_wr Fr_rfl ⟨rfl, by omega⟩
        exact Or.inr ⟨_, _, rfl, l1.2.1, _, D, Fr_tr (Fr_mo f (fun _ _ => by omega)) (Fr_mo w (fun _ _ => by omega)), RK'_f z w (fun _ _ _ => by omega), TR_w (TR_f hT f (fun _ => by omega))⟩
      · rw [hv]
        rw [c, thI_RI] at D
        exact Or.inl ⟨_, rfl, by omega, _, rp_Le_tr (x_245bad (g := F q) (by omega) (by rw [wr_n2 (by decide), wr_eq])) D, Fr_wr (Fr_wr Fr_rfl (by omega)) (by omega), by rw [wr_n2 (by decide), wr_eq]⟩
def KR (μ : rp_Mm) (t : Nat → Nat) (n : Nat) (F B : Nat → Nat) (st : rp_PS) : Prop := RT μ t n ∧ st.1 ≤ n ∧ RK' μ t n F B st.1 ∧ TR μ st.2.1 ∧ SS (μ 48 15) kapp st.2.2 ∧ μ 48 14 = -1
theorem x_wantRule {st : rp_PS} (hL : Lx t n F B) (hK : KR μ t n F B st) (hT4 : st.2.1 3 < 2 ^ 14 ∧ st.2.1 4 < 2 ^ 14) : (∃ g, ruleR t n F B st = .inl g ∧ g ≤ n ∧ ∃ μ', CL sc 164 [.ref 48] μ = RV μ' ∧ Fr (fun a k => (a = 48 ∧ 10 ≤ k ∧ k ≤ 15) ∨ (a = 52 ∧ 36 ≤ k)) μ μ' ∧ μ' 48 14 = nI g) ∨ (∃ st', ruleR t n F B st = .inr st' ∧ ∃ μ', CL sc 164 [.ref 48] μ = RV μ' ∧ Fr (fun a k => (a = 48 ∧ 10 ≤ k ∧ k ≤ 15) ∨ (a = 52 ∧ 36 ≤ k)) μ μ' ∧ KR μ' t n F B st') := by
  obtain ⟨p, T, s⟩ := st
  obtain ⟨hR, hp, hK1, hTR, hSS, h14⟩ := hK
  dsimp only at hp hK1 hTR hSS hT4
  have l1 := lx_b hL hp
  have hn := hR.2.1
  have dl := tkd_le t n (F p)
  have T50 : ∀ x y, rp_Le (RV (rp_wr μ 48 14 (nI (F p)))) (EV sc (164, 0, 0, 50, [.ref 48, .int x, .int y], [], (rp_L0, μ))) := fun x y => by
    refine rp_Le_tr ?_ (D_Ref_wantRule_50 _ _ μ)
    rw [x_wrong h14 hK1.2.1, thV_RV]
    exact rp_Le_rfl
  unfold ruleR
  dsimp only
  have S0 : rp_Le (EV sc (164, 0, 0, 23, [.ref 48, .int (nI 36), rp_U], [.int (match kdn t (F p) (B p) 10 with | none => -1 | some k => nI (kapp k))], (rp_L0, μ))) (EV sc (164, 0, 0, 0, [.ref 48, rp_U, rp_U], [], (rp_L0, μ))) := by
    refine rp_Le_tr ?_ (D_Ref_wantRule_0 μ)
    by_cases q1 : tkd t n (F p) = 1
    · rw [hK1.1, q1, if_pos (show nI 1 = 1 from rfl), hK1.2.2.2, x_kindOf hR hL hp q1, thI_RI]
      exact rp_Le_rfl
    · have : kdn t (F p) (B p) 10 = none := by
        rcases kdn_c (t := t) (f := F p) (b := B p) (m := 10) with ⟨h1, -⟩ | ⟨k, hk, -, h3, -⟩
        · exact h1
        · exact absurd ((tok_word (hL p hp) (show k < 12 by omega)).mpr h3).1 q1
      rw [this, hK1.1, if_neg (show ¬ nI (tkd t n (F p)) = 1 from fun w => q1 ((nI_eq (b := 1) (by omega) (by decide)).mp w))]
      exact rp_Le_rfl
  rcases kdn_c (t := t) (f := F p) (b := B p) (m := 10) with ⟨q1, -⟩ | ⟨k', hk', q2, -, -⟩
  · rw [q1] at S0 ⊢
    refine Or.inl ⟨_, rfl, by omega, _, cl_le rfl (rp_Le_tr (rp_Le_tr ?_ (D_Ref_wantRule_23 _ _ μ)) S0), Fr_wr Fr_rfl (by omega), wr_eq⟩
    rw [if_pos (by decide)]
    exact T50 _ _
  · obtain ⟨k, ekk⟩ : ∃ k, k = k' + 1 := ⟨_, rfl⟩
    have h1 : 1 ≤ k := by omega
    have hk : k ≤ 10 := by omega
    rw [q2, ← ekk] at S0 ⊢
    dsimp only at S0 ⊢
    have kl := kapp_le hk
    have hk0 : ¬ nI (kapp k) < 0 := nI_pos (by omega)
    have e3 : nI (kapp k) = 3 ↔ k = 3 := by
      rw [show (3 : Int32) = nI 3 from rfl, nI_eq (by omega) (by decide)]
      unfold kapp
      split <;> omega
    have e4 : nI (kapp k) = 4 ↔ k = 4 := by
      rw [show (4 : Int32) = nI 4 from rfl, nI_eq (by omega) (by decide)]
      unfold kapp
      split <;> omega
    obtain ⟨c, c1, c2, c3⟩ := id hSS
    have esn : ((μ 48 15) >>> (nI (kapp k) &&& 31)) &&& 1 = nI (b2 (s k)) := by
      rw [c2]
      have := sh_b (n := c) (k := kapp k) (by omega) (by omega)
      rw [c3 k h1 hk] at this
      exact this
    by_cases hx : s k = true ∧ k ≠ 3 ∧ k ≠ 4
    · rw [if_pos hx]
      refine Or.inl ⟨_, rfl, by omega, _, cl_le rfl (rp_Le_tr (rp_Le_tr ?_ (D_Ref_wantRule_23 _ _ μ)) S0), Fr_wr Fr_rfl (by omega), wr_eq⟩
      rw [if_neg hk0, if_neg (fun w => hx.2.1 (e3.mp w)), if_neg (fun w => hx.2.2 (e4.mp w)), esn, hx.1, if_pos (by decide)]
      exact T50 _ _
    · rw [if_neg hx]
      have S1 : rp_Le (EV sc (164, 0, 0, 55, [.ref 48, .int (nI 36), .int (nI (kapp k))], [], (rp_L0, μ))) (EV sc (164, 0, 0, 0, [.ref 48, rp_U, rp_U], [], (rp_L0, μ))) := by
        refine rp_Le_tr (rp_Le_tr ?_ (D_Ref_wantRule_23 _ _ μ)) S0
        rw [if_neg hk0]
        by_cases k3 : k = 3
        · rw [if_pos (e3.mpr k3)]
          exact rp_Le_rfl
        · rw [if_neg (fun w => k3 (e3.mp w))]
          by_cases k4 : k = 4
          · rw [if_pos (e4.mpr k4)]
            exact rp_Le_rfl
          · rw [if_neg (fun w => k4 (e4.mp w)), esn]
            have : s k = false := by
              rw [← Bool.not_eq_true]
              exact fun w => hx ⟨w, k3, k4⟩
            rw [this, if_neg (by decide)]
            exact rp_Le_rfl
      obtain ⟨ν, eν⟩ : ∃ m, m = rp_wr μ 48 15 ((μ 48 15) ||| (nI 1 <<< (nI (kapp k) &&& nI 31))) := ⟨_, rfl⟩
      have fν : Fr (fun a k => a = 48 ∧ k = 15) μ ν := by rw [eν]; exact Fr_wr Fr_rfl ⟨rfl, rfl⟩
      have hRν := RT_f hR fν (by omega) (fun _ => by omega)
      have hSν : SS (ν 48 15) kapp (fun j => s j || decide (j = k)) := by
        rw [eν, wr_eq]
        exact SS_or (fun k _ h => kapp_le h) (fun k j a _ b _ e => kapp_inj a b e) hSS h1 hk
      obtain ⟨ν1, d1, f1, z1⟩ := x_adv (sc := sc) hRν hL hp (RK'_f hK1 fν (fun _ _ _ => by omega))
      have hR1 := RT_f hRν f1 (by omega) (fun _ => by omega)
      have g1 : ν1 48 14 = -1 := by rw [f1 _ _ (by omega), fν _ _ (by omega)]; exact h14
      have hT1 : TR ν1 T := TR_f (TR_f hTR fν (fun _ => by omega)) f1 (fun _ => by omega)
      have f01 : Fr (fun a k => (a = 48 ∧ 10 ≤ k ∧ k ≤ 15) ∨ (a = 52 ∧ 36 ≤ k)) μ ν1 := Fr_tr (Fr_mo fν (fun _ _ => by omega)) (Fr_mo f1 (fun _ _ => by omega))
      rcases x_body (sc := sc) h1 hk eν d1 hR1 hL l1.2.1 z1 g1 hT1 hT4 with ⟨g, hg, gl, μ', L, f, z⟩ | ⟨q', T', hg, hq', μ', L, f, z, w⟩
      · rw [hg]
        exact Or.inl ⟨g, rfl, gl, μ', cl_le rfl (rp_Le_tr L S1), Fr_tr f01 (Fr_mo f (fun _ _ => by omega)), z⟩
      · rw [hg]
        dsimp only
        have hR2 := RT_f hR1 f (by omega) (fun _ => by omega)
        have g2 : μ' 48 14 = -1 := by rw [f _ _ (by omega)]; exact g1
        have f02 : Fr (fun a k => (a = 48 ∧ 10 ≤ k ∧ k ≤ 15) ∨ (a = 52 ∧ 36 ≤ k)) μ μ' := Fr_tr f01 (Fr_mo f (fun _ _ => by omega))
        have ts := tok_sign (hL q' hq')
        have tl := tvl_lt (hL q' hq') (fun i hi => (hR2.2.2 i hi).2)
        have dl2 := tkd_le t n (F q')
        have lq := lx_b hL hq'
        by_cases h59 : F q' < n ∧ t (F q') = 59
        · rw [if_pos h59]
          have tk := ts.mpr h59
          obtain ⟨μ3, c3', f3, z3⟩ := x_adv (sc := sc) hR2 hL hq' z
          refine Or.inr ⟨_, rfl, μ3, cl_le rfl (rp_Le_tr (rp_Le_tr (rp_Le_tr ?_ (D_Ref_wantRule_245 _ _ μ')) L) S1), Fr_tr f02 (Fr_mo f3 (fun _ _ => by omega)), RT_f hR2 f3 (by omega) (fun _ => by omega), lq.2.1, z3, TR_f w f3 (fun _ => by omega), ?_, by rw [f3 _ _ (by omega)]; exact g2⟩
          · rw [x_good g2, thI_RI, if_neg (by decide), z.1, z.2.2.2, tk.1, tk.2, if_pos (show nI 3 = 3 from rfl), if_pos (show nI 59 = 59 from rfl), c3', thV_RV]
            exact rp_Le_rfl
          · rw [f3 _ _ (by omega), f _ _ (by omega), f1 _ _ (by omega)]
            exact hSν
        · rw [if_neg h59]
          have T276 : ∀ x y, rp_Le (RV (rp_wr μ' 48 14 (nI (F q')))) (EV sc (164, 0, 0, 276, [.ref 48, .int x, .int y], [], (rp_L0, μ'))) := fun x y => by
            refine rp_Le_tr ?_ (D_Ref_wantRule_276 _ _ μ')
            rw [x_wrong g2 z.2.1, thV_RV]
            exact rp_Le_rfl
          refine Or.inl ⟨_, rfl, by omega, _, cl_le rfl (rp_Le_tr (rp_Le_tr (rp_Le_tr ?_ (D_Ref_wantRule_245 _ _ μ')) L) S1), Fr_wr f02 (by omega), wr_eq⟩
          rw [x_good g2, thI_RI, if_neg (by decide), z.1, z.2.2.2]
          by_cases t3 : tkd t n (F q') = 3
          · have t59 : ¬ tvl t n (F q') (B q') = 59 := fun w => h59 (ts.mp ⟨t3, w⟩)
            rw [if_pos (show nI (tkd t n (F q')) = 3 by rw [t3]; rfl), if_neg (show ¬ nI (tvl t n (F q') (B q')) = 59 from fun w => t59 ((nI_eq (b := 59) (by omega) (by decide)).mp w))]
            exact T276 _ _
          · rw [if_neg (show ¬ nI (tkd t n (F q')) = 3 from fun w => t3 ((nI_eq (b := 3) (by omega) (by decide)).mp w))]
            exact T276 _ _
end
