/-! the whole text -/
def prs (t : Nat → Nat) (n : Nat) (F B : Nat → Nat) : Nat → Nat → rp_PS → Nat × (Nat ⊕ rp_PS)
  | 0, c, st => (c, .inr st)
  | fu + 1, c, st => if F st.1 < n then (match ruleR t n F B st with
      | .inl f => (c, .inl f)
      | .inr st' => prs t n F B fu (c + 1) st') else (c, .inr st)
def OkP (st : rp_PS) : Prop := TM st.2.1 ∧ (st.2.2 1 = true → 1 ≤ st.2.1 0 ∧ st.2.1 0 ≤ st.2.1 1) ∧ (st.2.2 3 = true ↔ st.2.1 3 ≠ 0)
def T0 : Nat → Nat := fun k => if k = 5 then 24 else if k = 8 then 100 else 0
def outR (t : Nat → Nat) (n : Nat) (F B : Nat → Nat) : Nat ⊕ (Nat × (Nat → Nat)) :=
  match prs t n F B (n + 1) 0 (0, T0, fun _ => false) with
  | (_, .inl g) => .inl g
  | (c, .inr st) => if st.2.2 1 = true ∧ st.2.2 2 = true then .inr (c, if st.2.1 3 = 0 then setT st.2.1 3 31 else st.2.1) else .inl n
theorem TM_0 : TM T0 := by unfold TM T0; decide
theorem TM_set {T : Nat → Nat} {k v : Nat} (h : TM T) (hk : k = 2 ∨ k = 5 ∨ k = 6 ∨ k = 7 ∨ k = 8 ∨ k = 9 ∨ k = 10) (hv : v ≤ gr k) : TM (setT T k v) := by
  unfold TM at h ⊢
  rcases hk with rfl | rfl | rfl | rfl | rfl | rfl | rfl <;> simp [gr] at hv <;> simp [setT] <;> omega
theorem TM_days {T : Nat → Nat} {a b : Nat} (h : TM T) (ha : a ≤ 60) (hb : b ≤ 60) : TM (setT (setT T 0 a) 1 b) := by
  unfold TM at h ⊢
  simp [setT]
  omega
theorem TM_bit {T : Nat → Nat} {k v : Nat} (h : TM T) (hk : k = 3 ∨ k = 4) (hv : v ≤ gr k) : TM (setT T k (T k ||| 2 ^ v)) := by
  unfold TM at h
  rcases hk with rfl | rfl
  · have hv : v ≤ 4 := hv
    have : T 3 ||| 2 ^ v < 2 ^ 5 := Nat.or_lt_two_pow (by omega) (two_pow_lt (by omega))
    unfold TM
    simp [setT]
    omega
  · have hv : v ≤ 13 := hv
    have : T 4 ||| 2 ^ v < 2 ^ 14 := Nat.or_lt_two_pow (by omega) (two_pow_lt (by omega))
    unfold TM
    simp [setT]
    omega
theorem or_ne {c v : Nat} : c ||| 2 ^ v ≠ 0 := fun e => by
  have h := bt_or (c := c) (k := v) (j := v)
  rw [e, if_pos rfl] at h
  unfold bt at h
  rw [Nat.zero_div] at h
  exact absurd h (by decide)
section
variable {t : Nat → Nat} {n : Nat} {F B T : Nat → Nat}
theorem body_ok (hL : Lx t n F B) {k q q' : Nat} {T' : Nat → Nat} (h1 : 1 ≤ k) (hk : k ≤ 10) (hq : q ≤ n) (hT : TM T) (h : bodyR t n F B k q T = .inr (q', T')) : (q ≤ q' ∧ q' ≤ n) ∧ TM T' ∧ (k = 1 → 1 ≤ T' 0 ∧ T' 0 ≤ T' 1) ∧ (k ≠ 1 → T' 0 = T 0 ∧ T' 1 = T 1) ∧ (k = 3 → T' 3 ≠ 0) ∧ (k ≠ 3 → T' 3 = T 3) := by
  have l1 := lx_b hL hq
  have l2 := lx_b hL l1.2.1
  have l3 := lx_b hL l2.2.1
  unfold bodyR at h
  by_cases k1 : k = 1
  · subst k1
    rw [if_pos rfl] at h
    cases ha : nIn t n (F q) (B q) 1 60 with
    | none => rw [ha] at h; cases h
    | some a =>
      rw [ha] at h
      dsimp only at h
      have a1 := nIn_s ha
      split at h
      · cases hb : nIn t n (F (B (B q))) (B (B (B q))) a 60 with
        | none => rw [hb] at h; cases h
        | some b =>
          rw [hb] at h
          have b1 := nIn_s hb
          cases h
          refine ⟨⟨by omega, by omega⟩, TM_days hT (by omega) (by omega), fun _ => ?_, fun w => absurd rfl w, fun w => absurd w (by decide), fun _ => ?_⟩
          · simp [setT]
            omega
          · simp [setT]
      · cases h
  · rw [if_neg k1] at h
    by_cases k3 : k = 3 ∨ k = 4
    · rw [if_pos k3] at h
      cases hv : nIn t n (F q) (B q) 0 (gr k) with
      | none => rw [hv] at h; cases h
      | some v =>
        rw [hv] at h
        dsimp only at h
        have v1 := nIn_s hv
        split at h
        · cases h
        · split at h
          next k4 =>
            split at h
            · cases h
              refine ⟨⟨by omega, by omega⟩, TM_bit hT k3 (by omega), fun w => absurd w k1, fun _ => ?_, fun w => by omega, fun _ => ?_⟩
              · subst k4; simp [setT]
              · subst k4; simp [setT]
            · cases h
          next k4 =>
            cases h
            have k33 : k = 3 := Or.resolve_right k3 k4
            refine ⟨⟨by omega, by omega⟩, TM_bit hT k3 (by omega), fun w => absurd w k1, fun _ => ?_, fun _ => ?_, fun w => absurd k33 w⟩
            · subst k33; simp [setT]
            · subst k33
              unfold setT
              rw [if_pos rfl]
              exact or_ne
    · rw [if_neg k3] at h
      cases hv : nIn t n (F q) (B q) 0 (gr k) with
      | none => rw [hv] at h; cases h
      | some v =>
        rw [hv] at h
        have v1 := nIn_s hv
        cases h
        refine ⟨⟨by omega, by omega⟩, TM_set hT (by omega) (by omega), fun w => absurd w k1, fun _ => ?_, fun w => absurd (Or.inl w) k3, fun w => ?_⟩
        · unfold setT
          rw [if_neg (by omega), if_neg (by omega)]
          exact ⟨rfl, rfl⟩
        · unfold setT
          rw [if_neg (fun e => w e.symm)]
theorem rule_ok (hL : Lx t n F B) {st st' : rp_PS} (hp : st.1 ≤ n) (hO : OkP st) (h : ruleR t n F B st = .inr st') : OkP st' ∧ st.1 < st'.1 ∧ st'.1 ≤ n := by
  obtain ⟨p, T, s⟩ := st
  dsimp only at hp
  have l1 := lx_b hL hp
  unfold ruleR at h
  dsimp only at h
  rcases kdn_c (t := t) (f := F p) (b := B p) (m := 10) with ⟨q1, -⟩ | ⟨k', hk', q2, q3, -⟩
  · rw [q1] at h; cases h
  · obtain ⟨k, ekk⟩ : ∃ k, k = k' + 1 := ⟨_, rfl⟩
    rw [q2, ← ekk] at h
    dsimp only at h
    have wl := wlen_ok k' (by omega)
    have hlt := (wdB_iff.mp q3).1
    split at h
    · cases h
    next hx =>
      cases hb : bodyR t n F B k (B p) T with
      | inl g => rw [hb] at h; cases h
      | inr qT =>
        obtain ⟨q', T'⟩ := qT
        rw [hb] at h
        dsimp only at h
        obtain ⟨b1, b2, b3, b4, b5, b6⟩ := body_ok hL (by omega) (by omega) l1.2.1 hO.1 hb
        split at h
        · cases h
          have lq := lx_b hL b1.2
          refine ⟨⟨b2, fun hs => ?_, ?_⟩, by dsimp only; omega, lq.2.1⟩
          · dsimp only at hs ⊢
            by_cases k1 : k = 1
            · exact b3 k1
            · have e := b4 k1
              rw [e.1, e.2]
              refine hO.2.1 ?_
              have k1' : ¬ 1 = k := fun w => k1 w.symm
              simp [k1'] at hs
              exact hs
          · dsimp only
            by_cases k3 : k = 3
            · subst k3
              simp
              exact b5 rfl
            · rw [b6 k3]
              have k3' : ¬ 3 = k := fun w => k3 w.symm
              have := hO.2.2
              dsimp only at this
              rw [← this]
              simp [k3']
        · cases h
theorem OkP_0 : OkP (0, T0, fun _ => false) := ⟨TM_0, fun h => absurd h (by decide), by constructor <;> intro h <;> exact absurd h (by decide)⟩
theorem OkP_4 {st : rp_PS} (h : OkP st) : st.2.1 3 < 2 ^ 14 ∧ st.2.1 4 < 2 ^ 14 := by
  have := h.1
  unfold TM at this
  omega
end
section
variable {sc : rp_Sc} {σ μ : rp_Mm} {t : Nat → Nat} {n : Nat} {F B : Nat → Nat}
theorem y_parse (hL : Lx t n F B) : ∀ (fu c : Nat) (st : rp_PS) (μ : rp_Mm), n < st.1 + fu → c ≤ st.1 → KS μ t n F B st → OkP st → μ 32 6 = nI c → (∃ g c', prs t n F B fu c st = (c', .inl g) ∧ g ≤ n ∧ ∃ μ', rp_Le (RI (nI g) μ') (EV sc (34, 0, 0, 10, [.ref 32, .int (nI c)], [], (rp_L0, μ))) ∧ Fr (fun a k => (a = 32 ∧ 2 ≤ k ∧ k ≤ 6) ∨ a = 34) μ μ') ∨ (∃ c' st', prs t n F B fu c st = (c', .inr st') ∧ ∃ μ', rp_Le (EV sc (34, 0, 0, 56, [.ref 32, .int (nI c')], [], (rp_L0, μ'))) (EV sc (34, 0, 0, 10, [.ref 32, .int (nI c)], [], (rp_L0, μ))) ∧ Fr (fun a k => (a = 32 ∧ 2 ≤ k ∧ k ≤ 6) ∨ a = 34) μ μ' ∧ KS μ' t n F B st' ∧ OkP st' ∧ μ' 32 6 = nI c') := by
  intro fu
  induction fu with
  | zero => intro c st μ h _ hK; exact absurd hK.2.1 (by omega)
  | succ fu ih =>
    intro c st μ h hc hK hO h6
    have hn := hK.1.2.1
    have l1 := lx_b hL hK.2.1
    have z2 := hK.2.2.1.1
    unfold prs
    by_cases hf : F st.1 < n
    · rw [if_pos hf]
      rcases y_takeRule (sc := sc) hL hK (OkP_4 hO) with ⟨g, hg, μ', c', f, z⟩ | ⟨st', hg, μ', c', f, hK'⟩
      · rw [hg]
        have gl : g ≤ n := by
          -- the fault is a piece's first place
          have key : ∀ q, q ≤ n → F q ≤ n := fun q hq => (lx_b hL hq).2.2.2.1
          have l2 := lx_b hL l1.2.1
          have l3 := lx_b hL l2.2.1
          unfold ruleR at hg
          split at hg
          · cases hg; exact key _ hK.2.1
          next k hkd =>
            split at hg
            · cases hg; exact key _ hK.2.1
            · have kb : 1 ≤ k ∧ k ≤ 10 := by
                rcases kdn_c (t := t) (f := F st.1) (b := B st.1) (m := 10) with ⟨q1, -⟩ | ⟨k', hk', q2, -, -⟩
                · rw [q1] at hkd; cases hkd
                · rw [q2] at hkd; cases hkd; omega
              split at hg
              next g' hb =>
                cases hg
                unfold bodyR at hb
                split at hb
                · split at hb
                  · cases hb; first | exact key _ l1.2.1 | exact key _ l2.2.1 | exact key _ l3.2.1
                  · split at hb
                    · split at hb
                      · cases hb; first | exact key _ l1.2.1 | exact key _ l2.2.1 | exact key _ l3.2.1
                      · cases hb
                    · cases hb; first | exact key _ l1.2.1 | exact key _ l2.2.1 | exact key _ l3.2.1
                · split at hb
                  · split at hb
                    · cases hb; first | exact key _ l1.2.1 | exact key _ l2.2.1 | exact key _ l3.2.1
                    · split at hb
                      · cases hb; first | exact key _ l1.2.1 | exact key _ l2.2.1 | exact key _ l3.2.1
                      · split at hb
                        · split at hb
                          · cases hb
                          · cases hb; first | exact key _ l1.2.1 | exact key _ l2.2.1 | exact key _ l3.2.1
                        · cases hb
                  · split at hb
                    · cases hb; first | exact key _ l1.2.1 | exact key _ l2.2.1 | exact key _ l3.2.1
                    · cases hb
              next qT hb =>
                obtain ⟨q', T'⟩ := qT
                have b := body_ok hL kb.1 kb.2 l1.2.1 hO.1 hb
                split at hg
                · cases hg
                · cases hg; exact key _ b.1.2
        refine Or.inl ⟨g, c, rfl, gl, μ', rp_Le_tr ?_ (D_LawText_firstFault_10 _ μ), Fr_mo f (fun _ _ => by omega)⟩
        simp (disch := omega) only [lt_nI, nI_leI, show ¬ 300 ≤ c by omega, if_false, hK.1.1, z2, show ¬ n ≤ F st.1 by omega, c', thI_RI, i_1, if_true, z]
        exact rp_Le_rfl
      · rw [hg]
        dsimp only
        obtain ⟨hO', hlt, hle⟩ := rule_ok hL hK.2.1 hO hg
        obtain ⟨ν, eν⟩ : ∃ m, m = rp_wr μ' 32 6 (nI (c + 1)) := ⟨_, rfl⟩
        have fν : Fr (fun a k => a = 32 ∧ k = 6) μ' ν := by rw [eν]; exact Fr_wr Fr_rfl ⟨rfl, rfl⟩
        have hKν : KS ν t n F B st' := ⟨CT_f hK'.1 fν (by omega) (fun _ => by omega), hK'.2.1, ⟨by rw [fν _ _ (by omega)]; exact hK'.2.2.1.1, by rw [fν _ _ (by omega)]; exact hK'.2.2.1.2⟩, TT_f hK'.2.2.2.1 fν (fun _ => by omega), by rw [fν _ _ (by omega)]; exact hK'.2.2.2.2⟩
        have e6 : μ' 32 6 = nI c := by rw [f _ _ (by omega)]; exact h6
        have S : rp_Le (EV sc (34, 0, 0, 10, [.ref 32, .int (nI (c + 1))], [], (rp_L0, ν))) (EV sc (34, 0, 0, 10, [.ref 32, .int (nI c)], [], (rp_L0, μ))) := by
          refine rp_Le_tr ?_ (D_LawText_firstFault_10 _ μ)
          simp (disch := omega) only [lt_nI, nI_leI, show ¬ 300 ≤ c by omega, if_false, hK.1.1, z2, show ¬ n ≤ F st.1 by omega, c', thI_RI, i_0, e6, nI_add]
          rw [← eν]
          exact rp_Le_rfl
        have f0 : Fr (fun a k => (a = 32 ∧ 2 ≤ k ∧ k ≤ 6) ∨ a = 34) μ ν := Fr_tr (Fr_mo f (fun _ _ => by omega)) (Fr_mo fν (fun _ _ => by omega))
        rcases ih (c + 1) st' ν (by omega) (by omega) hKν hO' (by rw [eν]; exact wr_eq) with ⟨g, c'', e, gl, μ'', L, f''⟩ | ⟨c'', st'', e, μ'', L, f'', q⟩
        · exact Or.inl ⟨g, c'', e, gl, μ'', rp_Le_tr L S, Fr_tr f0 f''⟩
        · exact Or.inr ⟨c'', st'', e, μ'', rp_Le_tr L S, Fr_tr f0 f'', q⟩
    · rw [if_neg hf]
      refine Or.inr ⟨c, st, rfl, μ, rp_Le_tr ?_ (D_LawText_firstFault_10 _ μ), Fr_rfl, hK, hO, h6⟩
      by_cases h300 : 300 ≤ c
      · simp (disch := omega) only [lt_nI, nI_leI, h300, if_true]
        exact rp_Le_rfl
      · simp (disch := omega) only [lt_nI, nI_leI, h300, if_false, hK.1.1, z2, show n ≤ F st.1 by omega, if_true]
        exact rp_Le_rfl
end
