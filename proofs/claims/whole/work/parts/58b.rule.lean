/-! rules of a law: what is read, and the class's reading -/
theorem bt_tb {n k : Nat} : bt n k = (if n.testBit k then 1 else 0) := by
  unfold bt
  rw [Nat.testBit_eq_decide_div_mod_eq]
  by_cases h : n / 2 ^ k % 2 = 1
  · simp [h]
  · have : n / 2 ^ k % 2 < 2 := Nat.mod_lt _ (by decide)
    have h0 : n / 2 ^ k % 2 = 0 := by omega
    simp [h0]
theorem bt_or {c k j : Nat} : bt (c ||| 2 ^ k) j = if j = k then 1 else bt c j := by
  rw [bt_tb, bt_tb, Nat.testBit_or, Nat.testBit_two_pow]
  by_cases e : j = k
  · subst e; simp
  · have : ¬ k = j := fun q => e q.symm
    simp [e, this]
def kdn (t : Nat → Nat) (f b : Nat) : Nat → Option Nat
  | 0 => none
  | k + 1 => match kdn t f b k with
    | some x => some x
    | none => if wdB t f b k then some (k + 1) else none
theorem kdn_c {t : Nat → Nat} {f b : Nat} : ∀ {m : Nat}, (kdn t f b m = none ∧ ∀ j, j < m → wdB t f b j = false) ∨ ∃ k, k < m ∧ kdn t f b m = some (k + 1) ∧ wdB t f b k = true ∧ ∀ j, j < k → wdB t f b j = false := by
  intro m
  induction m with
  | zero => exact Or.inl ⟨rfl, fun j hj => absurd hj (by omega)⟩
  | succ m ih =>
    rcases ih with ⟨h1, h2⟩ | ⟨k, h1, h2, h3, h4⟩
    · cases hw : wdB t f b m with
      | true =>
        refine Or.inr ⟨m, by omega, ?_, hw, h2⟩
        unfold kdn
        rw [h1]
        dsimp only
        rw [hw]
        rfl
      | false =>
        refine Or.inl ⟨?_, fun j hj => ?_⟩
        · unfold kdn
          rw [h1]
          dsimp only
          rw [hw]
          rfl
        · by_cases e : j = m
          · subst e; exact hw
          · exact h2 j (by omega)
    · refine Or.inr ⟨k, by omega, ?_, h3, h4⟩
      unfold kdn
      rw [h2]
def gr (k : Nat) : Nat := if k = 2 then 999 else if k = 3 then 4 else if k = 4 then 13 else if k = 5 then 23 else if k = 6 then 999 else 100
def setT (T : Nat → Nat) (k v : Nat) : Nat → Nat := fun x => if x = k then v else T x
def bodyR (t : Nat → Nat) (n : Nat) (F B : Nat → Nat) (k q : Nat) (T : Nat → Nat) : Nat ⊕ (Nat × (Nat → Nat)) :=
  if k = 1 then
    match nIn t n (F q) (B q) 1 60 with
    | none => .inl (F q)
    | some a => if wdB t (F (B q)) (B (B q)) 10 then
        (match nIn t n (F (B (B q))) (B (B (B q))) a 60 with
        | none => .inl (F (B (B q)))
        | some b => .inr (B (B (B q)), setT (setT T 0 a) 1 b))
      else .inl (F (B q))
  else if k = 3 ∨ k = 4 then
    match nIn t n (F q) (B q) 0 (gr k) with
    | none => .inl (F q)
    | some v => if bt (T k) v = 1 then .inl (F q)
      else if k = 4 then (if wdB t (F (B q)) (B (B q)) 11 then .inr (B (B q), setT T k (T k ||| 2 ^ v)) else .inl (F (B q)))
      else .inr (B q, setT T k (T k ||| 2 ^ v))
  else
    match nIn t n (F q) (B q) 0 (gr k) with
    | none => .inl (F q)
    | some v => .inr (B q, setT T k v)
abbrev rp_PS : Type := Nat × (Nat → Nat) × (Nat → Bool)
def ruleR (t : Nat → Nat) (n : Nat) (F B : Nat → Nat) (st : rp_PS) : Nat ⊕ rp_PS :=
  match kdn t (F st.1) (B st.1) 10 with
  | none => .inl (F st.1)
  | some k => if st.2.2 k = true ∧ k ≠ 3 ∧ k ≠ 4 then .inl (F st.1)
    else match bodyR t n F B k (B st.1) st.2.1 with
      | .inl f => .inl f
      | .inr qT => if F qT.1 < n ∧ t (F qT.1) = 59 then .inr (B qT.1, qT.2, fun x => st.2.2 x || decide (x = k)) else .inl (F qT.1)
section
variable {sc : rp_Sc} {σ μ : rp_Mm} {t : Nat → Nat} {n : Nat} {F B T : Nat → Nat}
theorem lx_b (hL : Lx t n F B) {p : Nat} (hp : p ≤ n) : F p ≤ B p ∧ B p ≤ n ∧ p ≤ F p ∧ F p ≤ n ∧ (F p < n → F p < B p) := by
  obtain ⟨t1, t2, -, -, t5, t6, t7⟩ := hL p hp
  refine ⟨?_, t5, t1, t2, fun h => (t7 h).1⟩
  by_cases e : F p = n
  · have := t6 e; omega
  · have := (t7 (by omega)).1; omega
/-- the class's piece at hand -/
def TC (μ : rp_Mm) (F B : Nat → Nat) (p : Nat) : Prop := μ 32 2 = nI (F p) ∧ μ 32 3 = nI (B p)
def TT (μ : rp_Mm) (T : Nat → Nat) : Prop := ∀ k, k < 11 → μ 34 k = nI (T k)
theorem TT_f {P : Nat → Nat → Prop} {μ' : rp_Mm} (h : TT μ T) (f : Fr P μ μ') (hp : ∀ k, ¬ P 34 k) : TT μ' T := fun k hk => by rw [f _ _ (hp k)]; exact h k hk
theorem TT_w (h : TT μ T) {k v : Nat} : TT (rp_wr μ 34 k (nI v)) (setT T k v) := fun x hx => by
  unfold setT
  by_cases e : x = k
  · rw [if_pos e, e, wr_eq]
  · rw [if_neg e, wr_nk e]; exact h x hx
theorem y_adv (hC : CT μ t n) (hL : Lx t n F B) {p : Nat} (hp : p ≤ n) (h : TC μ F B p) : ∃ μ', CL sc 37 [.ref 32] μ = RV μ' ∧ Fr (fun a k => a = 32 ∧ (k = 2 ∨ k = 3)) μ μ' ∧ TC μ' F B (B p) := by
  have l := lx_b hL hp
  obtain ⟨μ', c, f, z2, z3⟩ := y_advance (sc := sc) hC l.2.1 h.2 (hL (B p) l.2.1)
  exact ⟨μ', c, f, z2, z3⟩
theorem y_word (hC : CT μ t n) (hL : Lx t n F B) {p j : Nat} (hp : p ≤ n) (h : TC μ F B p) (hj : j < 12) : CL sc 43 [.ref 32, .ref (1000 + j)] μ = RI (nI (b2 (wdB t (F p) (B p) j))) μ := by
  have l := lx_b hL hp
  exact y_isAtHand hC l.1 l.2.1 h.1 h.2 hj
theorem y_takeWord (hC : CT μ t n) (hL : Lx t n F B) {p j : Nat} (hp : p ≤ n) (h : TC μ F B p) (hj : j < 12) : (wdB t (F p) (B p) j = true ∧ ∃ μ', CL sc 48 [.ref 32, .ref (1000 + j)] μ = RI (nI 1) μ' ∧ Fr (fun a k => a = 32 ∧ (k = 2 ∨ k = 3)) μ μ' ∧ TC μ' F B (B p)) ∨ (wdB t (F p) (B p) j = false ∧ CL sc 48 [.ref 32, .ref (1000 + j)] μ = RI (nI 0) μ) := by
  have ew := y_word (sc := sc) hC hL hp h hj
  cases hw : wdB t (F p) (B p) j with
  | true =>
    obtain ⟨μ', c, f, z⟩ := y_adv (sc := sc) hC hL hp h
    rw [hw] at ew
    refine Or.inl ⟨rfl, μ', cl_of (D_LawText_takeWord_0 hj μ) rfl ?_, f, z⟩
    simp only [lt_nI, ew, thI_RI, b2, cond_true, i_0, if_false, c, thV_RV]
  | false =>
    rw [hw] at ew
    refine Or.inr ⟨rfl, cl_of (D_LawText_takeWord_0 hj μ) rfl ?_⟩
    simp only [lt_nI, ew, thI_RI, b2, cond_false, i_1, if_true]
theorem y_num (hC : CT μ t n) (hL : Lx t n F B) {p lo hi : Nat} (hp : p ≤ n) (h : TC μ F B p) (hlo : lo < 2 ^ 31) (hhi : hi < 2 ^ 31) : CL sc 47 [.ref 32, .int (nI lo), .int (nI hi)] μ = RI (bI (nIn t n (F p) (B p) lo hi)) μ := y_number hC (hL p hp) h.1 h.2 hlo hhi
theorem y_setTerm {k : Nat} {x : Int32} (hk : k < 11) : CL sc 36 [.ref 32, .int (nI k), .int x] μ = RV (rp_wr μ 34 k x) := by
  refine cl_of (D_LawText_setTerm_0 _ _ μ) rfl ?_
  simp (disch := omega) only [lt_nI, nI_ltI, nI_leI, show ¬ k < 0 by omega, show ¬ 11 ≤ k by omega, if_false, ixT, cond_true, nI_clamp]
theorem y_term {k : Nat} (hk : k < 11) : CL sc 51 [.ref 32, .int (nI k)] μ = RI (μ 34 k) μ := by
  refine cl_of (D_LawText_term_0 _ μ) rfl ?_
  simp (disch := omega) only [lt_nI, nI_ltI, nI_leI, show ¬ k < 0 by omega, show ¬ 11 ≤ k by omega, if_false, ixT, cond_true, nI_clamp]
theorem lt11 {k : Nat} (h1 : 1 ≤ k) (h : k ≤ 10) : k = 1 ∨ k = 2 ∨ k = 3 ∨ k = 4 ∨ k = 5 ∨ k = 6 ∨ k = 7 ∨ k = 8 ∨ k = 9 ∨ k = 10 := by omega
theorem y_greatest {k : Nat} (h1 : 1 ≤ k) (hk : k ≤ 10) : CL sc 50 [.int (nI k)] μ = RI (nI (gr k)) μ := by
  refine cl_of (D_LawText_greatest_0 _ μ) rfl ?_
  rcases lt11 h1 hk with rfl | rfl | rfl | rfl | rfl | rfl | rfl | rfl | rfl | rfl <;> rfl
theorem gr_le (k : Nat) : gr k ≤ 999 := by unfold gr; repeat' split
                                           all_goals omega
theorem bI_n (v : Nat) (hv : v < 2 ^ 31) : ¬ bI (some v) = -1 := fun q => by
  have h : (0 : Int32) ≤ nI v := nI_pos' hv
  have q' : nI v = -1 := q
  rw [q'] at h
  exact absurd h (by decide)
theorem nIn_lt {f b lo hi v : Nat} (h : nIn t n f b lo hi = some v) (hhi : hi ≤ 999) : v < 2 ^ 20 := by
  have := (nIn_s h).2.2.1
  omega
theorem y_takeTerm (hC : CT μ t n) (hL : Lx t n F B) {q k : Nat} (hq : q ≤ n) (h : TC μ F B q) (hT : TT μ T) (h1 : 1 ≤ k) (hk : k ≤ 10) : (∃ v, nIn t n (F q) (B q) 0 (gr k) = some v ∧ ∃ μ', CL sc 52 [.ref 32, .int (nI k)] μ = RI (nI 1) μ' ∧ Fr (fun a k => (a = 32 ∧ (k = 2 ∨ k = 3)) ∨ a = 34) μ μ' ∧ TC μ' F B (B q) ∧ TT μ' (setT T k v)) ∨ (nIn t n (F q) (B q) 0 (gr k) = none ∧ CL sc 52 [.ref 32, .int (nI k)] μ = RI (nI 0) μ) := by
  have g := gr_le k
  have en := y_num (sc := sc) (lo := 0) (hi := gr k) hC hL hq h (by decide) (by omega)
  cases hn : nIn t n (F q) (B q) 0 (gr k) with
  | none =>
    rw [hn] at en
    refine Or.inr ⟨rfl, cl_of (D_LawText_takeTerm_0 _ μ) rfl ?_⟩
    rw [y_greatest h1 hk, thI_RI]
    show (thI (CL sc 47 [.ref 32, .int (nI 0), .int (nI (gr k))] μ) _) = _
    rw [en, thI_RI, if_pos (show bI none = -1 from rfl)]
    rfl
  | some v =>
    rw [hn] at en
    have vl := nIn_lt hn g
    have f1 : Fr (fun a _ => a = 34) μ (rp_wr μ 34 k (nI v)) := Fr_wr Fr_rfl rfl
    obtain ⟨μ', c, f, z⟩ := y_adv (sc := sc) (μ := rp_wr μ 34 k (nI v)) (CT_f hC f1 (by omega) (fun _ => by omega)) hL hq ⟨by rw [f1 _ _ (by omega)]; exact h.1, by rw [f1 _ _ (by omega)]; exact h.2⟩
    refine Or.inl ⟨v, rfl, μ', cl_of (D_LawText_takeTerm_0 _ μ) rfl ?_, Fr_tr (Fr_mo f1 (fun _ _ => by omega)) (Fr_mo f (fun _ _ => by omega)), z, TT_f (TT_w hT) f (fun _ => by omega)⟩
    rw [y_greatest h1 hk, thI_RI]
    show (thI (CL sc 47 [.ref 32, .int (nI 0), .int (nI (gr k))] μ) _) = _
    rw [en, thI_RI, if_neg (bI_n v (by omega))]
    show (thV (CL sc 36 [.ref 32, .int (nI k), .int (nI v)] μ) _) = _
    rw [y_setTerm (by omega), thV_RV, c, thV_RV]
    rfl
theorem y_takeBit (hC : CT μ t n) (hL : Lx t n F B) {q k : Nat} (hq : q ≤ n) (h : TC μ F B q) (hT : TT μ T) (hk : k = 3 ∨ k = 4) (hTk : T k < 2 ^ 14) : (∃ v, nIn t n (F q) (B q) 0 (gr k) = some v ∧ ¬ bt (T k) v = 1 ∧ ∃ μ', CL sc 49 [.ref 32, .int (nI k)] μ = RI (nI 1) μ' ∧ Fr (fun a k => (a = 32 ∧ (k = 2 ∨ k = 3)) ∨ a = 34) μ μ' ∧ TC μ' F B (B q) ∧ TT μ' (setT T k (T k ||| 2 ^ v))) ∨ ((nIn t n (F q) (B q) 0 (gr k) = none ∨ ∃ v, nIn t n (F q) (B q) 0 (gr k) = some v ∧ bt (T k) v = 1) ∧ CL sc 49 [.ref 32, .int (nI k)] μ = RI (nI 0) μ) := by
  have g : gr k ≤ 13 := by rcases hk with rfl | rfl <;> decide
  have en := y_num (sc := sc) (lo := 0) (hi := gr k) hC hL hq h (by decide) (by omega)
  cases hn : nIn t n (F q) (B q) 0 (gr k) with
  | none =>
    rw [hn] at en
    refine Or.inr ⟨Or.inl rfl, cl_of (D_LawText_takeBit_0 _ μ) rfl ?_⟩
    rw [y_greatest (by omega) (by omega), thI_RI]
    show (thI (CL sc 47 [.ref 32, .int (nI 0), .int (nI (gr k))] μ) _) = _
    rw [en, thI_RI, if_pos (show bI none = -1 from rfl)]
    rfl
  | some v =>
    rw [hn] at en
    have vl : v ≤ 13 := by have := (nIn_s hn).2.2.1; omega
    have et : CL sc 51 [.ref 32, .int (nI k)] μ = RI (nI (T k)) μ := by rw [y_term (by omega), hT k (by omega)]
    have eb : (nI (T k) >>> (nI v &&& nI 31)) &&& nI 1 = nI (bt (T k) v) := sh_b (by omega) (by omega)
    have eo : nI (T k) ||| (nI 1 <<< (nI v &&& nI 31)) = nI (T k ||| 2 ^ v) := by
      have : 2 ^ v < 2 ^ 14 := two_pow_lt (by omega)
      rw [sh_l (by omega) (by omega), Nat.one_mul, or_n]
    by_cases hb : bt (T k) v = 1
    · refine Or.inr ⟨Or.inr ⟨v, rfl, hb⟩, cl_of (D_LawText_takeBit_0 _ μ) rfl ?_⟩
      rw [y_greatest (by omega) (by omega), thI_RI]
      show (thI (CL sc 47 [.ref 32, .int (nI 0), .int (nI (gr k))] μ) _) = _
      rw [en, thI_RI, if_neg (bI_n v (by omega)), et, thI_RI]
      show (if (nI (T k) >>> (nI v &&& nI 31)) &&& nI 1 = nI 1 then _ else _) = _
      rw [eb, hb, if_pos rfl]
      rfl
    · have f1 : Fr (fun a _ => a = 34) μ (rp_wr μ 34 k (nI (T k ||| 2 ^ v))) := Fr_wr Fr_rfl rfl
      obtain ⟨μ', c, f, z⟩ := y_adv (sc := sc) (μ := rp_wr μ 34 k (nI (T k ||| 2 ^ v))) (CT_f hC f1 (by omega) (fun _ => by omega)) hL hq ⟨by rw [f1 _ _ (by omega)]; exact h.1, by rw [f1 _ _ (by omega)]; exact h.2⟩
      refine Or.inl ⟨v, rfl, hb, μ', cl_of (D_LawText_takeBit_0 _ μ) rfl ?_, Fr_tr (Fr_mo f1 (fun _ _ => by omega)) (Fr_mo f (fun _ _ => by omega)), z, TT_f (TT_w hT) f (fun _ => by omega)⟩
      rw [y_greatest (by omega) (by omega), thI_RI]
      show (thI (CL sc 47 [.ref 32, .int (nI 0), .int (nI (gr k))] μ) _) = _
      rw [en, thI_RI, if_neg (bI_n v (by omega)), et, thI_RI]
      show (if (nI (T k) >>> (nI v &&& nI 31)) &&& nI 1 = nI 1 then _ else (thI (CL sc 51 [.ref 32, .int (nI k)] μ) fun r8 σ7 => thV (CL sc 36 [.ref 32, .int (nI k), .int (r8 ||| (nI 1 <<< (nI v &&& nI 31)))] σ7) _)) = _
      rw [eb, if_neg (fun w => hb ((bt_e (by decide)).mp w)), et, thI_RI, eo, y_setTerm (by omega), thV_RV, c, thV_RV]
      rfl
theorem y_takeDays (hC : CT μ t n) (hL : Lx t n F B) {q : Nat} (hq : q ≤ n) (h : TC μ F B q) (hT : TT μ T) : (∃ g, bodyR t n F B 1 q T = .inl g ∧ ∃ μ', CL sc 46 [.ref 32] μ = RI (nI 0) μ' ∧ Fr (fun a k => (a = 32 ∧ (k = 2 ∨ k = 3)) ∨ a = 34) μ μ' ∧ μ' 32 2 = nI g) ∨ (∃ q' T', bodyR t n F B 1 q T = .inr (q', T') ∧ q' ≤ n ∧ ∃ μ', CL sc 46 [.ref 32] μ = RI (nI 1) μ' ∧ Fr (fun a k => (a = 32 ∧ (k = 2 ∨ k = 3)) ∨ a = 34) μ μ' ∧ TC μ' F B q' ∧ TT μ' T') := by
  have l1 := lx_b hL hq
  have l2 := lx_b hL l1.2.1
  have l3 := lx_b hL l2.2.1
  have en := y_num (sc := sc) (lo := 1) (hi := 60) hC hL hq h (by decide) (by decide)
  unfold bodyR
  rw [if_pos rfl]
  cases hn : nIn t n (F q) (B q) 1 60 with
  | none =>
    rw [hn] at en
    refine Or.inl ⟨F q, rfl, μ, cl_of (D_LawText_takeDays_0 μ) rfl ?_, Fr_rfl, h.1⟩
    show (thI (CL sc 47 [.ref 32, .int (nI 1), .int (nI 60)] μ) _) = _
    rw [en, thI_RI, if_pos (show bI none = -1 from rfl)]
    rfl
  | some a =>
    rw [hn] at en
    have al : a ≤ 60 := (nIn_s hn).2.2.1
    obtain ⟨μ1, c1, f1, z1⟩ := y_adv (sc := sc) hC hL hq h
    have hC1 := CT_f hC f1 (by omega) (fun _ => by omega)
    have S : ∀ x, (thI (CL sc 48 [.ref 32, .ref (1000 + 10)] μ1) fun r5 σ4 => if r5 = 0 then RI 0 σ4 else thI (CL sc 47 [.ref 32, .int (nI a), .int 60] σ4) fun r7 σ6 => if r7 = (-1) then RI 0 σ6 else thV (CL sc 37 [.ref 32] σ6) fun σ8 => thV (CL sc 36 [.ref 32, .int 0, .int (nI a)] σ8) fun σ9 => thV (CL sc 36 [.ref 32, .int 1, .int r7] σ9) fun σ10 => RI 1 σ10) = some x → CL sc 46 [.ref 32] μ = some x := fun x hx => by
      refine cl_of (D_LawText_takeDays_0 μ) rfl ?_
      show (thI (CL sc 47 [.ref 32, .int (nI 1), .int (nI 60)] μ) _) = _
      rw [en, thI_RI, if_neg (bI_n a (by omega)), c1, thV_RV]
      exact hx
    rcases y_takeWord (sc := sc) (j := 10) hC1 hL l1.2.1 z1 (by decide) with ⟨hw, μ2, c2, f2, z2⟩ | ⟨hw, c2⟩
    · have hC2 := CT_f hC1 f2 (by omega) (fun _ => by omega)
      have en2 := y_num (sc := sc) (lo := a) (hi := 60) hC2 hL l2.2.1 z2 (by omega) (by decide)
      dsimp only
      rw [if_pos hw]
      cases hn2 : nIn t n (F (B (B q))) (B (B (B q))) a 60 with
      | none =>
        rw [hn2] at en2
        refine Or.inl ⟨F (B (B q)), rfl, μ2, S _ ?_, Fr_tr (Fr_mo f1 (fun _ _ => by omega)) (Fr_mo f2 (fun _ _ => by omega)), z2.1⟩
        rw [c2, thI_RI, if_neg (by decide)]
        show (thI (CL sc 47 [.ref 32, .int (nI a), .int (nI 60)] μ2) _) = _
        rw [en2, thI_RI, if_pos (show bI none = -1 from rfl)]
        rfl
      | some b =>
        rw [hn2] at en2
        have bl : b ≤ 60 := (nIn_s hn2).2.2.1
        obtain ⟨μ3, c3, f3, z3⟩ := y_adv (sc := sc) hC2 hL l2.2.1 z2
        have f13 : Fr (fun a k => a = 32 ∧ (k = 2 ∨ k = 3)) μ μ3 := Fr_tr f1 (Fr_tr f2 f3)
        have w : Fr (fun a _ => a = 34) μ3 (rp_wr (rp_wr μ3 34 0 (nI a)) 34 1 (nI b)) := Fr_wr (Fr_wr Fr_rfl rfl) rfl
        refine Or.inr ⟨B (B (B q)), setT (setT T 0 a) 1 b, rfl, l3.2.1, rp_wr (rp_wr μ3 34 0 (nI a)) 34 1 (nI b), S _ ?_, Fr_tr (Fr_mo f13 (fun _ _ => by omega)) (Fr_mo w (fun _ _ => by omega)), ⟨by rw [w _ _ (by omega)]; exact z3.1, by rw [w _ _ (by omega)]; exact z3.2⟩, TT_w (TT_w (TT_f hT f13 (fun _ => by omega)))⟩
        rw [c2, thI_RI, if_neg (by decide)]
        show (thI (CL sc 47 [.ref 32, .int (nI a), .int (nI 60)] μ2) _) = _
        rw [en2, thI_RI, if_neg (bI_n b (by omega)), c3, thV_RV]
        show (thV (CL sc 36 [.ref 32, .int (nI 0), .int (nI a)] μ3) fun σ9 => thV (CL sc 36 [.ref 32, .int (nI 1), .int (nI b)] σ9) _) = _
        rw [y_setTerm (by decide), thV_RV, y_setTerm (by decide), thV_RV]
        rfl
    · dsimp only
      rw [if_neg (by rw [hw]; decide)]
      refine Or.inl ⟨F (B q), rfl, μ1, S _ ?_, Fr_mo f1 (fun _ _ => by omega), z1.1⟩
      rw [c2, thI_RI, if_pos (by decide)]
      rfl
end
