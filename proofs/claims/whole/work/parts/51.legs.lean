/-! legs: what is told of a pass -/
def incT (T : Nat → Nat) (i : Nat) : Nat → Nat := fun x => if x = i then T x + 1 else T x
def add2 (T : Nat → Nat) (w m : Nat) : Nat → Nat := fun x => if x = 3 then T 3 + m else if x = 4 + w then T x + m else T x
def addm (r : rp_Mm) (bits : Nat) (T : Nat → Nat) : Nat → Nat → Nat
  | 0 => T
  | l + 1 => if bt bits l = 1 then add2 (addm r bits T l) (ln r l 2) (ln r l 3) else addm r bits T l
def legT (r : rp_Mm) (K : Nat → Nat → Nat) (a b : Nat) (T : Nat → Nat) : Nat → Nat :=
  if sn r a 1 = sn r b 1 ∧ sn r a 3 ≠ sn r b 3 then
    (if 536870912 ≤ K (sn r a 3) (sn r b 3) then incT (incT T 0) 1
     else if 3 * (sn r b 2 - sn r a 2) < K (sn r a 3) (sn r b 3) / 16384 then incT (incT T 0) 2
     else addm r (K (sn r a 3) (sn r b 3) % 16384) (incT T 0) (nL r))
  else T
def goT (r : rp_Mm) (K : Nat → Nat → Nat) (o : Nat → Nat) : Nat → Nat → Nat
  | 0 => fun _ => 0
  | i + 1 => legT r K (o i) (o (i + 1)) (goT r K o i)
/-- sound: all miles are those of the railways; none is large -/
def okT (T : Nat → Nat) (c : Nat) : Prop := T 3 = T 4 + T 5 + T 6 + T 7 + T 8 ∧ ∀ x, x < 9 → T x ≤ c
theorem ok_inc {T : Nat → Nat} {c i : Nat} (h : okT T c) (hi : i < 3) : okT (incT T i) (c + 1) := by
  obtain ⟨a, b⟩ := h
  refine ⟨?_, fun x hx => ?_⟩
  · unfold incT
    rw [if_neg (by omega), if_neg (by omega), if_neg (by omega), if_neg (by omega), if_neg (by omega), if_neg (by omega)]
    exact a
  · have := b x hx
    unfold incT
    split <;> omega
theorem ok_add {T : Nat → Nat} {c w m : Nat} (h : okT T c) (hw : w ≤ 4) (hm : m ≤ 300) : okT (add2 T w m) (c + 300) := by
  obtain ⟨a, b⟩ := h
  refine ⟨?_, fun x hx => ?_⟩
  · have : w = 0 ∨ w = 1 ∨ w = 2 ∨ w = 3 ∨ w = 4 := by omega
    rcases this with rfl | rfl | rfl | rfl | rfl <;> simp [add2] <;> omega
  · have := b x hx
    have := b 3 (by decide)
    unfold add2
    split
    · omega
    · split <;> omega
theorem ok_mono {T : Nat → Nat} {c c' : Nat} (q : okT T c) (hc : c ≤ c') : okT T c' := ⟨q.1, fun x hx => Nat.le_trans (q.2 x hx) hc⟩
set_option maxRecDepth 10000 in
theorem ok_addm {r : rp_Mm} (h : RB r) {bits c : Nat} {T : Nat → Nat} (hT : okT T c) : ∀ {l : Nat}, l ≤ nL r → ∀ {d : Nat}, c + 300 * l ≤ d → okT (addm r bits T l) d := by
  intro l
  induction l with
  | zero => intro _ d hd; exact ok_mono hT (by omega)
  | succ l ih =>
    intro hl d hd
    have b := b_ln h (show l < nL r by omega)
    have i := ih (by omega) (d := d - 300) (by omega)
    unfold addm
    split
    · exact ok_mono (ok_add i (by omega) (by omega)) (by omega)
    · exact ok_mono i (by omega)
theorem ok_leg {r : rp_Mm} (h : RB r) {K : Nat → Nat → Nat} {a b c : Nat} {T : Nat → Nat} (hT : okT T c) : okT (legT r K a b T) (c + 4202) := by
  have bn := b_n h
  unfold legT
  split
  · split
    · exact ok_mono (ok_inc (ok_inc hT (by decide)) (by decide)) (by omega)
    · split
      · exact ok_mono (ok_inc (ok_inc hT (by decide)) (by decide)) (by omega)
      · exact ok_addm h (ok_inc hT (by decide)) (Nat.le_refl _) (by omega)
  · exact ok_mono hT (by omega)
theorem ok_go {r : rp_Mm} (h : RB r) {K : Nat → Nat → Nat} {o : Nat → Nat} : ∀ {i : Nat}, okT (goT r K o i) (i * 4202) := by
  intro i
  induction i with
  | zero => exact ⟨rfl, fun x _ => Nat.zero_le _⟩
  | succ i ih =>
    have := ok_leg h (K := K) (a := o i) (b := o (i + 1)) ih
    unfold goT
    exact ok_mono this (by omega)
/-- the class's cells -/
def LM (σ μ : rp_Mm) (T : Nat → Nat) : Prop := Fr (fun a k => (a = 45 ∧ 2 ≤ k) ∨ a = 47) σ μ ∧ μ 45 2 = nI (T 0) ∧ μ 45 3 = nI (T 1) ∧ μ 45 4 = nI (T 2) ∧ ∀ w, w < 5 → μ 47 w = nI (T (4 + w))
theorem LM_0 {σ μ : rp_Mm} {T : Nat → Nat} (h : LM σ μ T) : LM σ (rp_wr μ 45 2 (nI (T 0 + 1))) (incT T 0) := by
  obtain ⟨a, b, c, d, e⟩ := h
  exact ⟨Fr_wr a (Or.inl ⟨rfl, by decide⟩), wr_eq, by rw [wr_nk (by decide)]; exact c, by rw [wr_nk (by decide)]; exact d, fun w hw => by rw [wr_n2 (by decide)]; unfold incT; rw [if_neg (by omega)]; exact e w hw⟩
theorem LM_1 {σ μ : rp_Mm} {T : Nat → Nat} (h : LM σ μ T) : LM σ (rp_wr μ 45 3 (nI (T 1 + 1))) (incT T 1) := by
  obtain ⟨a, b, c, d, e⟩ := h
  exact ⟨Fr_wr a (Or.inl ⟨rfl, by decide⟩), by rw [wr_nk (by decide)]; exact b, wr_eq, by rw [wr_nk (by decide)]; exact d, fun w hw => by rw [wr_n2 (by decide)]; unfold incT; rw [if_neg (by omega)]; exact e w hw⟩
theorem LM_2 {σ μ : rp_Mm} {T : Nat → Nat} (h : LM σ μ T) : LM σ (rp_wr μ 45 4 (nI (T 2 + 1))) (incT T 2) := by
  obtain ⟨a, b, c, d, e⟩ := h
  exact ⟨Fr_wr a (Or.inl ⟨rfl, by decide⟩), by rw [wr_nk (by decide)]; exact b, by rw [wr_nk (by decide)]; exact c, wr_eq, fun w hw => by rw [wr_n2 (by decide)]; unfold incT; rw [if_neg (by omega)]; exact e w hw⟩
theorem LM_a {σ μ : rp_Mm} {T : Nat → Nat} {w m : Nat} (hw : w < 5) (h : LM σ μ T) : LM σ (rp_wr μ 47 w (nI (T (4 + w) + m))) (add2 T w m) := by
  obtain ⟨a, b, c, d, e⟩ := h
  have o : ∀ x, x ≠ 3 → x ≠ 4 + w → add2 T w m x = T x := fun x h1 h2 => by unfold add2; rw [if_neg h1, if_neg h2]
  refine ⟨Fr_wr a (Or.inr rfl), by rw [wr_n2 (by decide), o 0 (by decide) (by omega)]; exact b, by rw [wr_n2 (by decide), o 1 (by decide) (by omega)]; exact c, by rw [wr_n2 (by decide), o 2 (by decide) (by omega)]; exact d, fun x hx => ?_⟩
  by_cases q : x = w
  · subst q
    rw [wr_eq]
    unfold add2
    rw [if_neg (by omega), if_pos rfl]
  · rw [wr_nk q, o _ (by omega) (by omega)]; exact e x hx
section
variable {sc : rp_Sc} {σ μ r : rp_Mm} {K : Nat → Nat → Nat} {T : Nat → Nat}
theorem y_addMiles (hB : BI (C σ) r) {bits : Nat} (hb : bits < 2 ^ 14) (hM : LM σ μ T) : ∃ μ', CL sc 133 [.ref 45, .ref 3, .int (nI bits)] μ = RV μ' ∧ LM σ μ' (addm r bits T (nL r)) := by
  have bn := b_n hB.1
  obtain ⟨μ', m', L⟩ := lp_inv (E := fun l μ => EV sc (133, 0, 0, 2, [.ref 45, .ref 3, .int (nI bits), .int (nI l), rp_U], [], (rp_L0, μ))) (fun l μ => LM σ μ (addm r bits T l)) (n := nL r) (fun l μ hl hR => by
    have hBμ : BI (C μ) r := by rw [C_fr hR.1 (fun a k ha => by omega)]; exact hB
    have b := b_ln hB.1 hl
    have b1 := bt_lt bits l
    have Tt : ∀ x μ, rp_Le (EV sc (133, 0, 0, 2, [.ref 45, .ref 3, .int (nI bits), .int (nI (l + 1)), rp_U], [], (rp_L0, μ))) (EV sc (133, 0, 0, 58, [.ref 45, .ref 3, .int (nI bits), .int (nI l), .int x], [], (rp_L0, μ))) := fun x μ => by
      refine rp_Le_tr ?_ (D_Ledger_addMiles_58 _ _ _ μ)
      simp only [lt_nI, nI_add]
      exact rp_Le_rfl
    unfold addm
    by_cases hq : bt bits l = 1
    · rw [if_pos hq]
      refine ⟨_, LM_a (w := ln r l 2) (m := ln r l 3) (by omega) hR, rp_Le_tr (rp_Le_tr (Tt (nI (ln r l 2)) _) ?_) (D_Ledger_addMiles_2 _ _ μ)⟩
      simp (disch := omega) only [lt_nI, nI_clamp, nI_leI, nI_ltI, nI_eq, ixT, cond_true, z_ln hBμ, thI_RI, show ¬ nL r ≤ l by omega, if_false, g_ln hBμ hl, sh_b, hq, if_true, show ¬ ln r l 2 < 0 by omega, show ¬ 5 ≤ ln r l 2 by omega, hR.2.2.2.2 (ln r l 2) (by omega), nI_add]
      exact rp_Le_rfl
    · rw [if_neg hq]
      refine ⟨μ, hR, rp_Le_tr (rp_Le_tr (Tt (nI (ln r l 2)) _) ?_) (D_Ledger_addMiles_2 _ _ μ)⟩
      simp (disch := omega) only [lt_nI, nI_clamp, nI_leI, nI_ltI, nI_eq, ixT, cond_true, z_ln hBμ, thI_RI, show ¬ nL r ≤ l by omega, if_false, g_ln hBμ hl, sh_b, hq]
      exact rp_Le_rfl) (s := μ) hM
  refine ⟨μ', cl_le rfl (rp_Le_tr (rp_Le_tr ?_ L) (D_Ledger_addMiles_0 _ μ)), m'⟩
  have hBμ : BI (C μ') r := by rw [C_fr m'.1 (fun a k ha => by omega)]; exact hB
  refine rp_Le_tr ?_ (D_Ledger_addMiles_2 _ _ μ')
  simp (disch := omega) only [lt_nI, z_ln hBμ, thI_RI, nI_leI, Nat.le_refl, if_true]
  exact rp_Le_rfl
theorem y_pair (hB : BI (C σ) r) (hK : ∀ a b, a < 10 → b < 10 → σ 36 (10 * a + b) = nI (K a b)) (hK2 : ∀ a b, a < 10 → b < 10 → K a b ≤ 536870912) {a b : Nat} (ha : a < nS r) (hb : b < nS r) (hab : whS r a < whS r b) (hM : LM σ μ T) : ∃ μ', CL sc 132 [.ref 45, .ref 2, .ref 35, .int (nI a), .int (nI b)] μ = RV μ' ∧ LM σ μ' (legT r K a b T) := by
  have bn := b_n hB.1
  have ba := b_sn hB.1 ha
  have bb := b_sn hB.1 hb
  have hBμ : BI (C μ) r := by rw [C_fr hM.1 (fun a k ha => by omega)]; exact hB
  obtain ⟨x, ex⟩ : ∃ x, x = sn r a 3 := ⟨_, rfl⟩
  obtain ⟨y, ey⟩ : ∃ y, y = sn r b 3 := ⟨_, rfl⟩
  have gx : CL sc 20 [.ref 15, .int (nI a), .int (nI 3)] μ = RI (nI x) μ := by rw [ex]; exact g_sn hBμ ha (by decide)
  have gy : CL sc 20 [.ref 15, .int (nI b), .int (nI 3)] μ = RI (nI y) μ := by rw [ey]; exact g_sn hBμ hb (by decide)
  unfold legT
  rw [← ex, ← ey]
  by_cases hc : sn r a 1 = sn r b 1 ∧ x ≠ y
  · rw [if_pos hc]
    obtain ⟨μ1, em⟩ : ∃ m, m = rp_wr μ 45 2 (nI (T 0 + 1)) := ⟨_, rfl⟩
    have m1 : LM σ μ1 (incT T 0) := by rw [em]; exact LM_0 hM
    have hB1 : BI (C μ1) r := by rw [C_fr m1.1 (fun a k ha => by omega)]; exact hB
    have kv : μ1 36 (10 * x + y) = nI (K x y) := by rw [m1.1 _ _ (by omega)]; exact hK x y (by omega) (by omega)
    have kb := hK2 x y (by omega) (by omega)
    have ta := y_timeOf (sc := sc) hB1 ha
    have tb := y_timeOf (sc := sc) hB1 hb
    have et : nI (tmS r b) - nI (tmS r a) = nI (sn r b 2 - sn r a 2) := by
      have h0 := hc.1
      have h1 : tmS r a ≤ tmS r b := by unfold whS at hab; omega
      rw [pk_sub h1]
      unfold tmS
      rw [h0]
      congr 1
      omega
    have e0 : μ 45 2 + 1 = nI (T 0 + 1) := by rw [hM.2.1, nI_1]
    have hne : ¬ nI x = nI y := by rw [nI_eq (by omega) (by omega)]; exact hc.2
    by_cases h1 : 536870912 ≤ K x y
    · rw [if_pos h1]
      refine ⟨_, cl_of (D_Ledger_reckonPair_0 _ _ μ) rfl ?_, LM_1 m1⟩
      have e1 : μ1 45 3 = nI (T 1) := m1.2.2.1
      simp (disch := omega) only [lt_nI, gx, gy, thI_RI, eq_false hne, if_false, g_sn hBμ ha, g_sn hBμ hb, hc.1, if_true, hM.2.1, nI_add, ← em, ta, tb, y_isThere kv, h1, i_1]
      rw [e1, nI_add]
      rfl
    · rw [if_neg h1]
      have hm := y_milesOf (sc := sc) kv (by omega) (show x < 10 by omega) (show y < 10 by omega)
      by_cases h2 : 3 * (sn r b 2 - sn r a 2) < K x y / 16384
      · rw [if_pos h2]
        refine ⟨_, cl_of (D_Ledger_reckonPair_0 _ _ μ) rfl ?_, LM_2 m1⟩
        have e1 : μ1 45 4 = nI (T 2) := m1.2.2.2.1
        simp (disch := omega) only [lt_nI, gx, gy, thI_RI, eq_false hne, if_false, g_sn hBμ ha, g_sn hBμ hb, hc.1, if_true, hM.2.1, nI_add, ← em, ta, tb, y_isThere kv, h1, i_0, hm, et, pk_mul, nI_leI, show ¬ K x y / 16384 ≤ 3 * (sn r b 2 - sn r a 2) by omega]
        rw [e1, nI_add]
        rfl
      · rw [if_neg h2]
        obtain ⟨μ2, c2, m2⟩ := y_addMiles (sc := sc) (bits := K x y % 16384) hB (Nat.mod_lt _ (by decide)) m1
        refine ⟨μ2, cl_of (D_Ledger_reckonPair_0 _ _ μ) rfl ?_, m2⟩
        simp (disch := omega) only [lt_nI, gx, gy, thI_RI, eq_false hne, if_false, g_sn hBμ ha, g_sn hBμ hb, hc.1, if_true, hM.2.1, nI_add, ← em, ta, tb, y_isThere kv, h1, i_0, hm, et, pk_mul, nI_leI, show K x y / 16384 ≤ 3 * (sn r b 2 - sn r a 2) by omega, y_linesOf kv, c2, thV_RV]
  · rw [if_neg hc]
    refine ⟨μ, cl_of (D_Ledger_reckonPair_0 _ _ μ) rfl ?_, hM⟩
    simp (disch := omega) only [lt_nI, gx, gy, thI_RI, nI_eq]
    by_cases h1 : x = y
    · simp only [eq_true h1, if_true]
    · have h2 : ¬ sn r a 1 = sn r b 1 := fun h => hc ⟨h, h1⟩
      simp (disch := omega) only [eq_false h1, if_false, g_sn hBμ ha, g_sn hBμ hb, thI_RI, nI_eq, h2]
theorem y_ledger (hB : BI (C σ) r) (hK : ∀ a b, a < 10 → b < 10 → σ 36 (10 * a + b) = nI (K a b)) (hK2 : ∀ a b, a < 10 → b < 10 → K a b ≤ 536870912) {p k : Nat} (hp : p < nP r) (hk : k ≤ 120) : ∃ μ o n, CL sc 126 [.ref 45, .ref 2, .ref 35, .int (nI p), .int (nI k)] σ = RV μ ∧ SO r p k (nS r) o n ∧ Fr (fun a _ => 45 ≤ a ∧ a ≤ 47) σ μ ∧ LM μ μ (goT r K o (n - 1)) := by
  have bn := b_n hB.1
  obtain ⟨μ0, o, n, c0, m0, hO⟩ := y_sort (sc := sc) hB hp hk
  have hB0 : BI (C μ0) r := by rw [C_fr m0.1 (fun a k ha => by omega)]; exact hB
  have hK0 : ∀ a b, a < 10 → b < 10 → μ0 36 (10 * a + b) = nI (K a b) := fun a b ha hb => by rw [m0.1 _ _ (by omega)]; exact hK a b ha hb
  obtain ⟨μ1, ⟨f1, v1⟩, L1⟩ := lp_inv (E := fun i μ => EV sc (126, 0, 0, 29, [.ref 45, .ref 2, .ref 35, .int (nI p), .int (nI k), .int (nI i)], [], (rp_L0, μ))) (fun i μ => Fr (fun a _ => a = 47) (rp_wr (rp_wr (rp_wr μ0 45 2 (nI 0)) 45 3 (nI 0)) 45 4 (nI 0)) μ ∧ ∀ w, w < i → μ 47 w = nI 0) (n := 5) (fun i μ hi hR => by
    obtain ⟨f, v⟩ := hR
    refine ⟨rp_wr μ 47 i (nI 0), ⟨Fr_wr f rfl, fun w hw => ?_⟩, rp_Le_tr ?_ (D_Ledger_reckon_29 _ _ _ μ)⟩
    · by_cases q : w = i
      · subst q; exact wr_eq
      · rw [wr_nk q]; exact v w (by omega)
    · simp (disch := omega) only [lt_nI, nI_add, pk_mul, nI_clamp, nI_leI, nI_ltI, nI_eq, ixT, cond_true, show ¬ 5 ≤ i by omega, if_false]
      exact rp_Le_rfl) (s := _) ⟨Fr_rfl, fun w hw => absurd hw (by omega)⟩
  have f01 : Fr (fun a k => (a = 45 ∧ 2 ≤ k) ∨ a = 47) μ0 μ1 := Fr_tr (Fr_wr (Fr_wr (Fr_wr Fr_rfl (Or.inl ⟨rfl, by decide⟩)) (Or.inl ⟨rfl, by decide⟩)) (Or.inl ⟨rfl, by decide⟩)) (Fr_mo f1 (fun _ _ => by omega))
  have m1 : LM μ0 μ1 (goT r K o 0) := ⟨f01, by rw [f1 _ _ (by decide), wr_nk (by decide), wr_nk (by decide), wr_eq]; rfl, by rw [f1 _ _ (by decide), wr_nk (by decide), wr_eq]; rfl, by rw [f1 _ _ (by decide), wr_eq]; rfl, fun w hw => by rw [v1 w hw]; rfl⟩
  obtain ⟨μ2, m2, L2⟩ := lp_inv (E := fun i μ => EV sc (126, 0, 0, 56, [.ref 45, .ref 2, .ref 35, .int (nI p), .int (nI k), .int (nI i)], [], (rp_L0, μ))) (fun i μ => LM μ0 μ (goT r K o i)) (n := n - 1) (fun i μ hi hR => by
    have q1 := hO.2.1 i (by omega)
    have q2 := hO.2.1 (i + 1) (by omega)
    obtain ⟨μ', c', m'⟩ := y_pair (sc := sc) hB0 hK0 hK2 q1.1 q2.1 (hO.2.2.1 i (i + 1) (by omega) (by omega)) hR
    have e1 := y_scanAt (sc := sc) (σ := μ) (i := i) (by have := hO.1; omega)
    have e2 := y_scanAt (sc := sc) (σ := μ) (i := i + 1) (by have := hO.1; omega)
    rw [hR.1 _ _ (by omega), m0.2.2 i (by omega)] at e1
    rw [hR.1 _ _ (by omega), m0.2.2 (i + 1) (by omega)] at e2
    have ez : μ 45 1 = nI n := by rw [hR.1 _ _ (by omega)]; exact m0.2.1
    have hn := hO.1
    refine ⟨μ', m', rp_Le_tr ?_ (D_Ledger_reckon_56 _ _ _ μ)⟩
    simp (disch := omega) only [lt_nI, nI_add, ez, nI_leI, show ¬ n ≤ i + 1 by omega, if_false, e1, e2, thI_RI, c', thV_RV]
    exact rp_Le_rfl) (s := μ1) m1
  have hn := hO.1
  refine ⟨μ2, o, n, cl_le rfl (rp_Le_tr ?_ (D_Ledger_reckon_0 _ _ σ)), hO, Fr_tr (Fr_mo m0.1 (fun _ _ => by omega)) (Fr_mo m2.1 (fun _ _ => by omega)), Fr_rfl, m2.2⟩
  rw [c0, thV_RV]
  refine rp_Le_tr (rp_Le_tr (rp_Le_tr ?_ L2) ?_) L1
  · have ez : μ2 45 1 = nI n := by rw [m2.1 _ _ (by omega)]; exact m0.2.1
    refine rp_Le_tr ?_ (D_Ledger_reckon_56 _ _ _ μ2)
    simp (disch := omega) only [lt_nI, nI_add, ez, nI_leI, show n ≤ n - 1 + 1 by omega, if_true]
    exact rp_Le_rfl
  · refine rp_Le_tr ?_ (D_Ledger_reckon_29 _ _ _ μ1)
    simp (disch := omega) only [lt_nI, nI_leI, Nat.le_refl, if_true]
    exact rp_Le_rfl
end
