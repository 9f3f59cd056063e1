/-! the class reads the text -/
section
variable {sc : rp_Sc} {σ μ : rp_Mm} {t : Nat → Nat} {n : Nat} {F B T : Nat → Nat} {s : Nat → Bool}
/-- which kinds were there -/
def SS (x : Int32) (κ : Nat → Nat) (s : Nat → Bool) : Prop := ∃ c, c < 2 ^ 11 ∧ x = nI c ∧ ∀ k, 1 ≤ k → k ≤ 10 → bt c (κ k) = b2 (s k)
theorem SS_or {x : Int32} {κ : Nat → Nat} (hκ : ∀ k, 1 ≤ k → k ≤ 10 → κ k ≤ 10) (hi : ∀ k j, 1 ≤ k → k ≤ 10 → 1 ≤ j → j ≤ 10 → κ k = κ j → k = j) (h : SS x κ s) {k : Nat} (h1 : 1 ≤ k) (hk : k ≤ 10) : SS (x ||| (nI 1 <<< (nI (κ k) &&& nI 31))) κ (fun j => s j || decide (j = k)) := by
  obtain ⟨c, c1, rfl, c2⟩ := h
  have kl := hκ k h1 hk
  have : 2 ^ κ k < 2 ^ 11 := two_pow_lt (by omega)
  refine ⟨c ||| 2 ^ κ k, Nat.or_lt_two_pow c1 this, ?_, fun j j1 j2 => ?_⟩
  · rw [sh_l (by omega) (by omega), Nat.one_mul, or_n]
  · rw [bt_or]
    by_cases e : j = k
    · subst e
      rw [if_pos rfl]
      simp [b2]
    · rw [if_neg (fun q => e (hi j k j1 j2 h1 hk q)), c2 j j1 j2]
      simp [e]
theorem SS_0 {κ : Nat → Nat} : SS (nI 0) κ (fun _ => false) := ⟨0, by decide, rfl, fun k _ _ => by unfold bt; rw [Nat.zero_div]; rfl⟩
def KS (μ : rp_Mm) (t : Nat → Nat) (n : Nat) (F B : Nat → Nat) (st : rp_PS) : Prop := CT μ t n ∧ st.1 ≤ n ∧ TC μ F B st.1 ∧ TT μ st.2.1 ∧ SS (μ 32 5) id st.2.2
theorem y_isSeen {k : Nat} (h : SS (μ 32 5) id s) (h1 : 1 ≤ k) (hk : k ≤ 10) : CL sc 44 [.ref 32, .int (nI k)] μ = RI (nI (b2 (s k))) μ := by
  obtain ⟨c, c1, e, c2⟩ := h
  refine cl_of (D_LawText_isSeen_0 _ μ) rfl ?_
  show (if ((μ 32 5) >>> (nI k &&& nI 31)) &&& nI 1 = nI 1 then RI 1 μ else RI 0 μ) = _
  rw [e, sh_b (by omega) (by omega)]
  have := c2 k h1 hk
  cases hs : s k with
  | true =>
    rw [hs] at this
    rw [show bt c k = 1 from this, if_pos rfl]
    rfl
  | false =>
    rw [hs] at this
    rw [show bt c k = 0 from this, if_neg (by decide)]
    rfl
theorem y_mayRepeat {k : Nat} (hk : k ≤ 10) : CL sc 45 [.int (nI k)] μ = RI (nI (if k = 3 ∨ k = 4 then 1 else 0)) μ := by
  refine cl_of (D_LawText_mayRepeat_0 _ μ) rfl ?_
  simp (disch := omega) only [lt_nI, nI_eq]
  by_cases h3 : k = 3
  · have e : k = 3 ∨ k = 4 := Or.inl h3
    rw [if_pos e]
    simp only [eq_true h3, if_true]
  · by_cases h4 : k = 4
    · have e : k = 3 ∨ k = 4 := Or.inr h4
      rw [if_pos e]
      simp only [eq_false h3, eq_true h4, if_true, if_false]
    · have e : ¬ (k = 3 ∨ k = 4) := by omega
      rw [if_neg e]
      simp only [eq_false h3, eq_false h4, if_false]
theorem y_wordOf {k : Nat} (h1 : 1 ≤ k) (hk : k ≤ 10) : CL sc 42 [.int (nI k)] μ = RR (1000 + (k - 1)) μ := by
  refine cl_of (D_LawText_wordOf_0 _ μ) rfl ?_
  rcases lt11 h1 hk with rfl | rfl | rfl | rfl | rfl | rfl | rfl | rfl | rfl | rfl <;> rfl
theorem y_kind (hC : CT μ t n) (hL : Lx t n F B) {p : Nat} (hp : p ≤ n) (h : TC μ F B p) : CL sc 41 [.ref 32] μ = RI (bI (kdn t (F p) (B p) 10)) μ := by
  have ew : ∀ j, j < 10 → (thR (CL sc 42 [.int (nI (j + 1))] μ) fun r2 σ1 => thI (CL sc 43 [.ref 32, .ref r2] σ1) fun r4 σ3 => if r4 = 0 then EV sc (41, 0, 0, 2, [.ref 32, .int (nI (j + 1) + 1)], [], (rp_L0, σ3)) else RI (nI (j + 1)) σ3) = (if nI (b2 (wdB t (F p) (B p) j)) = 0 then EV sc (41, 0, 0, 2, [.ref 32, .int (nI (j + 1 + 1))], [], (rp_L0, μ)) else RI (nI (j + 1)) μ) := fun j hj => by
    rw [y_wordOf (by omega) (by omega), thR_RR, Nat.add_sub_cancel, y_word hC hL hp h (by omega), thI_RI, nI_1]
  have S0 : rp_Le (EV sc (41, 0, 0, 2, [.ref 32, .int (nI (0 + 1))], [], (rp_L0, μ))) (EV sc (41, 0, 0, 0, [.ref 32, rp_U], [], (rp_L0, μ))) := rp_Le_tr (rp_Le_eq rfl) (D_LawText_kindAtHand_0 μ)
  rcases lp_first (E := fun j => EV sc (41, 0, 0, 2, [.ref 32, .int (nI (j + 1))], [], (rp_L0, μ))) (r1 := fun j => RI (nI (j + 1)) μ) (r0 := RI (-1) μ) (P := fun j => wdB t (F p) (B p) j = true) 10 0 10 (by omega)
    (fun j _ hj hp => by
      refine rp_Le_tr ?_ (D_LawText_kindAtHand_2 _ μ)
      rw [if_neg (show ¬ (11 : Int32) ≤ nI (j + 1) from nI_ge (b := 11) (by omega) (by decide)), ew j hj, hp, if_neg (by decide)]
      exact rp_Le_rfl)
    (fun j _ hj hp => by
      have hp : wdB t (F p) (B p) j = false := by rw [← Bool.not_eq_true]; exact hp
      refine rp_Le_tr ?_ (D_LawText_kindAtHand_2 _ μ)
      rw [if_neg (show ¬ (11 : Int32) ≤ nI (j + 1) from nI_ge (b := 11) (by omega) (by decide)), ew j hj, hp, if_pos (by decide)]
      exact rp_Le_rfl)
    (by
      refine rp_Le_tr ?_ (D_LawText_kindAtHand_2 _ μ)
      rw [if_pos (by decide)]
      exact rp_Le_rfl) with ⟨j, -, h1, h2, h3, L⟩ | ⟨h1, L⟩
  · rcases kdn_c (t := t) (f := F p) (b := B p) (m := 10) with ⟨q1, q2⟩ | ⟨k, q1, q2, q3, q4⟩
    · rw [q2 j h1] at h2; exact absurd h2 (by decide)
    · have : k = j := by
        refine Classical.byContradiction fun w => ?_
        by_cases hlt : k < j
        · exact h3 k (by omega) hlt q3
        · have := q4 j (by omega); rw [this] at h2; exact absurd h2 (by decide)
      subst this
      rw [q2]
      exact cl_le rfl (rp_Le_tr L S0)
  · rcases kdn_c (t := t) (f := F p) (b := B p) (m := 10) with ⟨q1, q2⟩ | ⟨k, q1, q2, q3, q4⟩
    · rw [q1]
      exact cl_le rfl (rp_Le_tr L S0)
    · exact absurd q3 (h1 k (by omega) q1)
/-- what follows the first word -/
theorem y_body (hC : CT μ t n) (hL : Lx t n F B) {q k : Nat} (hq : q ≤ n) (h : TC μ F B q) (hT : TT μ T) (hT4 : T 3 < 2 ^ 14 ∧ T 4 < 2 ^ 14) (h1 : 1 ≤ k) (hk : k ≤ 10) {X : Option rp_Rs} (hX : X = if nI k = 1 then thI (CL sc 46 [.ref 32] μ) (fun r3 σ2 => EV sc (40, 0, 0, 75, [.ref 32, .int (nI k), rp_U], [.int r3], (rp_L0, σ2))) else thI (CL sc 45 [.int (nI k)] μ) (fun r5 σ4 => if r5 = 0 then thI (CL sc 52 [.ref 32, .int (nI k)] σ4) (fun r7 σ6 => EV sc (40, 0, 0, 75, [.ref 32, .int (nI k), rp_U], [.int r7], (rp_L0, σ6))) else thI (CL sc 49 [.ref 32, .int (nI k)] σ4) (fun r9 σ8 => EV sc (40, 0, 0, 75, [.ref 32, .int (nI k), rp_U], [.int r9], (rp_L0, σ8))))) :
    (∃ g, bodyR t n F B k q T = .inl g ∧ ∃ μ', rp_Le (RI (nI 0) μ') X ∧ Fr (fun a k => (a = 32 ∧ (k = 2 ∨ k = 3)) ∨ a = 34) μ μ' ∧ μ' 32 2 = nI g) ∨ (∃ q' T', bodyR t n F B k q T = .inr (q', T') ∧ q' ≤ n ∧ ∃ μ', rp_Le (EV sc (40, 0, 0, 96, [.ref 32, .int (nI k), .int (nI 1)], [], (rp_L0, μ'))) X ∧ Fr (fun a k => (a = 32 ∧ (k = 2 ∨ k = 3)) ∨ a = 34) μ μ' ∧ TC μ' F B q' ∧ TT μ' T') := by
  have l1 := lx_b hL hq
  have T75f : ∀ (μ : rp_Mm), rp_Le (RI (nI 0) μ) (EV sc (40, 0, 0, 75, [.ref 32, .int (nI k), rp_U], [.int (nI 0)], (rp_L0, μ))) := fun μ => by
    refine rp_Le_tr ?_ (D_LawText_takeRule_75 _ _ μ)
    rw [if_pos (by decide)]
    exact rp_Le_rfl
  have T75t : k ≠ 4 → ∀ (μ : rp_Mm), rp_Le (EV sc (40, 0, 0, 96, [.ref 32, .int (nI k), .int (nI 1)], [], (rp_L0, μ))) (EV sc (40, 0, 0, 75, [.ref 32, .int (nI k), rp_U], [.int (nI 1)], (rp_L0, μ))) := fun h4 μ => by
    refine rp_Le_tr ?_ (D_LawText_takeRule_75 _ _ μ)
    simp (disch := omega) only [lt_nI, nI_eq, h4, if_false, Nat.reduceEqDiff, reduceIte]
    exact rp_Le_rfl
  subst hX
  by_cases k1 : k = 1
  · subst k1
    rw [if_pos (show nI 1 = 1 from rfl)]
    rcases y_takeDays (sc := sc) hC hL hq h hT with ⟨g, hg, μ', c, f, z⟩ | ⟨q', T', hg, hq', μ', c, f, z, w⟩
    · refine Or.inl ⟨g, hg, μ', ?_, f, z⟩
      rw [c, thI_RI]
      exact T75f μ'
    · refine Or.inr ⟨q', T', hg, hq', μ', ?_, f, z, w⟩
      rw [c, thI_RI]
      exact T75t (by decide) μ'
  · rw [if_neg (show ¬ nI k = 1 from fun w => k1 ((nI_eq (by omega) (by decide)).mp w)), y_mayRepeat hk, thI_RI]
    unfold bodyR
    rw [if_neg k1]
    by_cases k3 : k = 3 ∨ k = 4
    · rw [if_pos k3, if_pos k3, if_neg (by decide)]
      have hTk : T k < 2 ^ 14 := by rcases k3 with rfl | rfl; exact hT4.1; exact hT4.2
      rcases y_takeBit (sc := sc) hC hL hq h hT k3 hTk with ⟨v, hv, hb, μ', c, f, z, w⟩ | ⟨hv, c⟩
      · rw [hv]
        dsimp only
        rw [if_neg hb]
        by_cases k4 : k = 4
        · subst k4
          rw [if_pos rfl]
          have hC1 := CT_f hC f (by omega) (fun _ => by omega)
          rcases y_takeWord (sc := sc) (j := 11) hC1 hL l1.2.1 z (by decide) with ⟨hw, μ2, c2, f2, z2⟩ | ⟨hw, c2⟩
          · rw [if_pos hw]
            refine Or.inr ⟨_, _, rfl, (lx_b hL l1.2.1).2.1, μ2, ?_, Fr_tr f (Fr_mo f2 (fun _ _ => by omega)), z2, TT_f w f2 (fun _ => by omega)⟩
            rw [c, thI_RI]
            refine rp_Le_tr ?_ (D_LawText_takeRule_75 _ _ μ')
            rw [if_neg (by decide), if_pos (by decide)]
            show rp_Le _ (thI (CL sc 48 [.ref 32, .ref (1000 + 11)] μ') _)
            rw [c2, thI_RI, if_neg (by decide)]
            exact rp_Le_rfl
          · rw [if_neg (by rw [hw]; decide)]
            refine Or.inl ⟨_, rfl, μ', ?_, f, z.1⟩
            rw [c, thI_RI]
            refine rp_Le_tr ?_ (D_LawText_takeRule_75 _ _ μ')
            rw [if_neg (by decide), if_pos (by decide)]
            show rp_Le _ (thI (CL sc 48 [.ref 32, .ref (1000 + 11)] μ') _)
            rw [c2, thI_RI, if_pos (by decide)]
            exact rp_Le_rfl
        · rw [if_neg k4]
          refine Or.inr ⟨_, _, rfl, l1.2.1, μ', ?_, f, z, w⟩
          rw [c, thI_RI]
          exact T75t k4 μ'
      · have hin : ∃ g, (match nIn t n (F q) (B q) 0 (gr k) with
            | none => (.inl (F q) : Nat ⊕ (Nat × (Nat → Nat)))
            | some v => if bt (T k) v = 1 then .inl (F q)
              else if k = 4 then (if wdB t (F (B q)) (B (B q)) 11 then .inr (B (B q), setT T k (T k ||| 2 ^ v)) else .inl (F (B q)))
              else .inr (B q, setT T k (T k ||| 2 ^ v))) = .inl g ∧ g = F q := by
          rcases hv with hv | ⟨v, hv, hb⟩
          · rw [hv]; exact ⟨_, rfl, rfl⟩
          · rw [hv]
            dsimp only
            rw [if_pos hb]
            exact ⟨_, rfl, rfl⟩
        obtain ⟨g, hg, e⟩ := hin
        refine Or.inl ⟨g, hg, μ, ?_, Fr_rfl, by rw [e]; exact h.1⟩
        rw [c, thI_RI]
        exact T75f μ
    · rw [if_neg k3, if_neg k3, if_pos (by decide)]
      rcases y_takeTerm (sc := sc) hC hL hq h hT h1 hk with ⟨v, hv, μ', c, f, z, w⟩ | ⟨hv, c⟩
      · rw [hv]
        refine Or.inr ⟨_, _, rfl, l1.2.1, μ', ?_, f, z, w⟩
        rw [c, thI_RI]
        exact T75t (fun e => k3 (Or.inr e)) μ'
      · rw [hv]
        refine Or.inl ⟨_, rfl, μ, ?_, Fr_rfl, h.1⟩
        rw [c, thI_RI]
        exact T75f μ
theorem y_semi (hC : CT μ t n) (hL : Lx t n F B) {q : Nat} (hq : q ≤ n) (h : TC μ F B q) : ((F q < n ∧ t (F q) = 59) ∧ ∃ μ', CL sc 53 [.ref 32] μ = RI (nI 1) μ' ∧ Fr (fun a k => a = 32 ∧ (k = 2 ∨ k = 3)) μ μ' ∧ TC μ' F B (B q)) ∨ (¬ (F q < n ∧ t (F q) = 59) ∧ CL sc 53 [.ref 32] μ = RI (nI 0) μ) := by
  have l1 := lx_b hL hq
  have hn := hC.2.1
  by_cases hf : F q < n
  · have tb := (hC.2.2 (F q) hf).2
    by_cases h59 : t (F q) = 59
    · obtain ⟨μ', c, f, z⟩ := y_adv (sc := sc) hC hL hq h
      refine Or.inl ⟨⟨hf, h59⟩, μ', cl_of (D_LawText_takeSemicolon_0 μ) rfl ?_, f, z⟩
      rw [h.1, y_byteAt hC hf, thI_RI, h59, if_pos (show nI 59 = 59 from rfl), c, thV_RV]
      rfl
    · refine Or.inr ⟨fun w => h59 w.2, cl_of (D_LawText_takeSemicolon_0 μ) rfl ?_⟩
      rw [h.1, y_byteAt hC hf, thI_RI, if_neg (show ¬ nI (t (F q)) = 59 from fun w => h59 ((nI_eq (b := 59) (by omega) (by decide)).mp w))]
      rfl
  · have e : F q = n := by omega
    refine Or.inr ⟨fun w => hf w.1, cl_of (D_LawText_takeSemicolon_0 μ) rfl ?_⟩
    rw [h.1, e, y_byteEnd hC, thI_RI, if_neg (by decide)]
    rfl
theorem y_takeRule {st : rp_PS} (hL : Lx t n F B) (hK : KS μ t n F B st) (hT4 : st.2.1 3 < 2 ^ 14 ∧ st.2.1 4 < 2 ^ 14) : (∃ g, ruleR t n F B st = .inl g ∧ ∃ μ', CL sc 40 [.ref 32] μ = RI (nI 0) μ' ∧ Fr (fun a k => (a = 32 ∧ 2 ≤ k ∧ k ≤ 5) ∨ a = 34) μ μ' ∧ μ' 32 2 = nI g) ∨ (∃ st', ruleR t n F B st = .inr st' ∧ ∃ μ', CL sc 40 [.ref 32] μ = RI (nI 1) μ' ∧ Fr (fun a k => (a = 32 ∧ 2 ≤ k ∧ k ≤ 5) ∨ a = 34) μ μ' ∧ KS μ' t n F B st') := by
  obtain ⟨p, T, s⟩ := st
  obtain ⟨hC, hp, hTC, hTT, hSS⟩ := hK
  dsimp only at hp hTC hTT hSS hT4
  have l1 := lx_b hL hp
  have ek := y_kind (sc := sc) hC hL hp hTC
  unfold ruleR
  dsimp only
  rcases kdn_c (t := t) (f := F p) (b := B p) (m := 10) with ⟨q1, -⟩ | ⟨k', hk', q2, -, -⟩
  · rw [q1] at ek ⊢
    refine Or.inl ⟨_, rfl, μ, cl_of (D_LawText_takeRule_0 μ) rfl ?_, Fr_rfl, hTC.1⟩
    rw [ek, thI_RI, if_pos (show bI none = -1 from rfl)]
    rfl
  · obtain ⟨k, ekk⟩ : ∃ k, k = k' + 1 := ⟨_, rfl⟩
    have h1 : 1 ≤ k := by omega
    have hk : k ≤ 10 := by omega
    rw [q2, ← ekk] at ek ⊢
    dsimp only
    have es := y_isSeen (sc := sc) hSS h1 hk
    by_cases hx : s k = true ∧ k ≠ 3 ∧ k ≠ 4
    · rw [if_pos hx]
      refine Or.inl ⟨_, rfl, μ, cl_of (D_LawText_takeRule_0 μ) rfl ?_, Fr_rfl, hTC.1⟩
      rw [ek, thI_RI, if_neg (bI_n k (by omega))]
      show (thI (CL sc 44 [.ref 32, .int (nI k)] μ) fun r4 σ3 => if r4 = 0 then _ else thI (CL sc 45 [.int (nI k)] σ3) _) = _
      rw [es, thI_RI, hx.1, if_neg (by decide), y_mayRepeat hk, thI_RI, if_neg (show ¬ (k = 3 ∨ k = 4) by omega), if_pos (by decide)]
      rfl
    · rw [if_neg hx]
      have S1 : rp_Le (EV sc (40, 0, 0, 27, [.ref 32, .int (nI k), rp_U], [], (rp_L0, μ))) (EV sc (40, 0, 0, 0, [.ref 32, rp_U, rp_U], [], (rp_L0, μ))) := by
        refine rp_Le_tr ?_ (D_LawText_takeRule_0 μ)
        rw [ek, thI_RI, if_neg (bI_n k (by omega))]
        show rp_Le _ (thI (CL sc 44 [.ref 32, .int (nI k)] μ) fun r4 σ3 => if r4 = 0 then EV sc (40, 0, 0, 27, [.ref 32, .int (nI k), rp_U], [], (rp_L0, σ3)) else thI (CL sc 45 [.int (nI k)] σ3) _)
        rw [es, thI_RI]
        cases hsk : s k with
        | false =>
          rw [if_pos (by decide)]
          exact rp_Le_rfl
        | true =>
          have h34 : k = 3 ∨ k = 4 := by
            refine Classical.byContradiction fun w => hx ⟨hsk, by omega, by omega⟩
          rw [if_neg (by decide), y_mayRepeat hk, thI_RI, if_pos h34, if_neg (by decide)]
          exact rp_Le_rfl
      obtain ⟨ν, eν⟩ : ∃ m, m = rp_wr μ 32 5 ((μ 32 5) ||| (nI 1 <<< (nI k &&& nI 31))) := ⟨_, rfl⟩
      have fν : Fr (fun a k => a = 32 ∧ k = 5) μ ν := by rw [eν]; exact Fr_wr Fr_rfl ⟨rfl, rfl⟩
      have hCν := CT_f hC fν (by omega) (fun _ => by omega)
      have hSν : SS (ν 32 5) id (fun j => s j || decide (j = k)) := by
        rw [eν, wr_eq]
        exact SS_or (κ := id) (fun k _ h => h) (fun k j _ _ _ _ e => e) hSS h1 hk
      obtain ⟨ν1, c1, f1, z1⟩ := y_adv (sc := sc) hCν hL hp ⟨by rw [fν _ _ (by omega)]; exact hTC.1, by rw [fν _ _ (by omega)]; exact hTC.2⟩
      have hC1 := CT_f hCν f1 (by omega) (fun _ => by omega)
      have hT1 : TT ν1 T := TT_f (TT_f hTT fν (fun _ => by omega)) f1 (fun _ => by omega)
      have f01 : Fr (fun a k => (a = 32 ∧ 2 ≤ k ∧ k ≤ 5) ∨ a = 34) μ ν1 := Fr_tr (Fr_mo fν (fun _ _ => by omega)) (Fr_mo f1 (fun _ _ => by omega))
      have S2 : rp_Le (if nI k = 1 then thI (CL sc 46 [.ref 32] ν1) (fun r3 σ2 => EV sc (40, 0, 0, 75, [.ref 32, .int (nI k), rp_U], [.int r3], (rp_L0, σ2))) else thI (CL sc 45 [.int (nI k)] ν1) (fun r5 σ4 => if r5 = 0 then thI (CL sc 52 [.ref 32, .int (nI k)] σ4) (fun r7 σ6 => EV sc (40, 0, 0, 75, [.ref 32, .int (nI k), rp_U], [.int r7], (rp_L0, σ6))) else thI (CL sc 49 [.ref 32, .int (nI k)] σ4) (fun r9 σ8 => EV sc (40, 0, 0, 75, [.ref 32, .int (nI k), rp_U], [.int r9], (rp_L0, σ8))))) (EV sc (40, 0, 0, 27, [.ref 32, .int (nI k), rp_U], [], (rp_L0, μ))) := by
        refine rp_Le_tr ?_ (D_LawText_takeRule_27 _ μ)
        show rp_Le _ (thV (CL sc 37 [.ref 32] (rp_wr μ 32 5 ((μ 32 5) ||| (nI 1 <<< (nI k &&& nI 31))))) _)
        rw [← eν, c1, thV_RV]
        exact rp_Le_rfl
      rcases y_body (sc := sc) hC1 hL l1.2.1 z1 hT1 hT4 h1 hk rfl with ⟨g, hg, μ', c, f, z⟩ | ⟨q', T', hg, hq', μ', c, f, z, w⟩
      · rw [hg]
        exact Or.inl ⟨g, rfl, μ', cl_le rfl (rp_Le_tr (rp_Le_tr c S2) S1), Fr_tr f01 (Fr_mo f (fun _ _ => by omega)), z⟩
      · rw [hg]
        dsimp only
        have hC2 := CT_f hC1 f (by omega) (fun _ => by omega)
        rcases y_semi (sc := sc) hC2 hL hq' z with ⟨h59, μ3, c3, f3, z3⟩ | ⟨h59, c3⟩
        · rw [if_pos h59]
          have f03 : Fr (fun a k => (a = 32 ∧ 2 ≤ k ∧ k ≤ 5) ∨ a = 34) μ μ3 := Fr_tr f01 (Fr_tr (Fr_mo f (fun _ _ => by omega)) (Fr_mo f3 (fun _ _ => by omega)))
          refine Or.inr ⟨_, rfl, μ3, cl_le rfl (rp_Le_tr (rp_Le_tr (rp_Le_tr (rp_Le_tr ?_ (D_LawText_takeRule_96 _ _ μ')) c) S2) S1), f03, CT_f hC2 f3 (by omega) (fun _ => by omega), (lx_b hL hq').2.1, z3, TT_f w f3 (fun _ => by omega), ?_⟩
          · rw [c3, thI_RI, if_pos (by decide)]
            exact rp_Le_rfl
          · rw [f3 _ _ (by omega), f _ _ (by omega), f1 _ _ (by omega)]
            exact hSν
        · rw [if_neg h59]
          refine Or.inl ⟨_, rfl, μ', cl_le rfl (rp_Le_tr (rp_Le_tr (rp_Le_tr (rp_Le_tr ?_ (D_LawText_takeRule_96 _ _ μ')) c) S2) S1), Fr_tr f01 (Fr_mo f (fun _ _ => by omega)), z.1⟩
          rw [c3, thI_RI, if_pos (by decide)]
          exact rp_Le_rfl
end
