/-! the best ways: the class's keys -/
theorem or_n (a b : Nat) : nI a ||| nI b = nI (a ||| b) := by
  apply Int32.toBitVec_inj.mp
  rw [Int32.toBitVec_or]
  show BitVec.ofNat 32 a ||| BitVec.ofNat 32 b = BitVec.ofNat 32 (a ||| b)
  apply BitVec.eq_of_getLsbD_eq
  intro i hi
  simp only [BitVec.getLsbD_or, BitVec.getLsbD_ofNat, Nat.testBit_or, hi, decide_true, Bool.true_and]
theorem two_pow_lt {l k : Nat} (h : l < k) : 2 ^ l < 2 ^ k := Nat.pow_lt_pow_right (by decide) h
theorem key_or {m l : Nat} (hl : l < 14) : nI (m * 2 ^ 14) ||| nI (2 ^ l) = nI (16384 * m + 2 ^ l) := by
  rw [or_n, Nat.mul_comm m, ← Nat.two_pow_add_eq_or_of_lt (two_pow_lt hl)]
theorem wl_le {r : rp_Mm} {l : Nat} (h3 : ln r l 3 ≤ 300) (hl : l < 14) : wl r l ≤ 4923392 := by
  have : 2 ^ l ≤ 2 ^ 13 := Nat.pow_le_pow_right (by decide) (by omega)
  unfold wl
  omega
theorem wl_pos {r : rp_Mm} {l : Nat} : 1 ≤ wl r l := by
  have : 0 < 2 ^ l := Nat.pow_pos (by decide)
  unfold wl
  omega
def P0 (r : rp_Mm) (K : Nat → Nat → Nat) : Prop := (∀ a, a < 10 → K a a = 0) ∧ (∀ a b, a < 10 → b < 10 → K a b ≤ 536870912) ∧ (∀ φ : Nat → Nat, (∀ v, v < 10 → φ v ≤ 536870912) → feas r φ → ∀ a b, a < 10 → b < 10 → φ b ≤ φ a + K a b)
def Eg (r : rp_Mm) (K : Nat → Nat → Nat) (n : Nat) : Prop := ∀ l, l < n → K (ln r l 0) (ln r l 1) ≤ wl r l ∧ K (ln r l 1) (ln r l 0) ≤ wl r l
def Tri (K : Nat → Nat → Nat) (k : Nat) : Prop := ∀ a b c, a < 10 → b < 10 → c < 10 → c < k → K a b ≤ K a c + K c b
def fl (K : Nat → Nat → Nat) (k : Nat) : Nat → Nat → Nat := fun a b => min (K a b) (K a k + K k b)
def updK (K : Nat → Nat → Nat) (a b x : Nat) : Nat → Nat → Nat := fun c d => if c = a ∧ d = b then x else K c d
theorem fl_le {K : Nat → Nat → Nat} {k a b : Nat} : fl K k a b ≤ K a b := Nat.min_le_left _ _
theorem fl_P0 {r : rp_Mm} {K : Nat → Nat → Nat} {k : Nat} (hk : k < 10) (h : P0 r K) : P0 r (fl K k) := by
  obtain ⟨h1, h2, h3⟩ := h
  refine ⟨fun a ha => ?_, fun a b ha hb => Nat.le_trans fl_le (h2 a b ha hb), fun φ hφ hf a b ha hb => ?_⟩
  · have := h1 a ha
    have := fl_le (K := K) (k := k) (a := a) (b := a)
    omega
  · have e1 := h3 φ hφ hf a b ha hb
    have e2 := h3 φ hφ hf a k ha hk
    have e3 := h3 φ hφ hf k b hk hb
    unfold fl
    omega
theorem fl_Eg {r : rp_Mm} {K : Nat → Nat → Nat} {k n : Nat} (h : Eg r K n) : Eg r (fl K k) n := fun l hl => ⟨Nat.le_trans fl_le (h l hl).1, Nat.le_trans fl_le (h l hl).2⟩
theorem fl_Tri {r : rp_Mm} {K : Nat → Nat → Nat} {k : Nat} (hk : k < 10) (h : P0 r K) (ht : Tri K k) : Tri (fl K k) (k + 1) := by
  intro a b c ha hb hc hck
  have z := h.1 k hk
  by_cases e : c = k
  · subst e
    unfold fl
    omega
  · have t1 := ht a b c ha hb hc (by omega)
    have t2 := ht k b c hk hb hc (by omega)
    have t3 := ht a k c ha hk hc (by omega)
    unfold fl
    omega
theorem KK_of {r : rp_Mm} {K : Nat → Nat → Nat} (h : P0 r K) (he : Eg r K (nL r)) (ht : Tri K 10) : KK r K := ⟨h.1, h.2.1, he, fun a b c ha hb hc => ht a b c ha hb hc hc, h.2.2⟩
/-- the class's keys -/
def KM (σ μ : rp_Mm) (K : Nat → Nat → Nat) : Prop := Fr (fun a _ => a = 36) σ μ ∧ ∀ a b, a < 10 → b < 10 → μ 36 (10 * a + b) = nI (K a b)
theorem KM_c {σ μ : rp_Mm} {K K' : Nat → Nat → Nat} (h : KM σ μ K) (e : ∀ a b, a < 10 → b < 10 → K a b = K' a b) : KM σ μ K' := ⟨h.1, fun a b ha hb => by rw [h.2 a b ha hb, e a b ha hb]⟩
section
variable {sc : rp_Sc} {σ μ r : rp_Mm} {K : Nat → Nat → Nat}
theorem y_keyOf {a b : Nat} (hv : μ 36 (10 * a + b) = nI (K a b)) (ha : a < 10) (hb : b < 10) : CL sc 23 [.ref 35, .int (nI a), .int (nI b)] μ = RI (nI (K a b)) μ := by
  refine cl_of (D_Ways_keyOf_0 _ _ μ) rfl ?_
  have e : a * 10 + b = 10 * a + b := by omega
  simp (disch := omega) only [lt_nI, nI_add, pk_mul, nI_clamp, nI_leI, nI_ltI, nI_eq, ixT, cond_true, Nat.reduceEqDiff, Nat.reduceLeDiff, reduceIte, s_isStation, inB_n, thI_RI, e, show ¬ 100 ≤ 10 * a + b by omega, hv]
theorem y_isThere {a b : Nat} (hv : μ 36 (10 * a + b) = nI (K a b)) (hk : K a b < 2 ^ 31) (ha : a < 10) (hb : b < 10) : CL sc 22 [.ref 35, .int (nI a), .int (nI b)] μ = RI (nI (if 536870912 ≤ K a b then 0 else 1)) μ := by
  refine cl_of (D_Ways_isThere_0 _ _ μ) rfl ?_
  simp (disch := omega) only [lt_nI, nI_add, pk_mul, nI_clamp, nI_leI, nI_ltI, nI_eq, ixT, cond_true, y_keyOf hv ha hb, thI_RI]
  split <;> rfl
theorem y_better (h : KM σ μ K) {a b x : Nat} (ha : a < 10) (hb : b < 10) (hk : K a b < 2 ^ 31) (hx : x < 2 ^ 31) : ∃ μ', CL sc 21 [.ref 35, .int (nI a), .int (nI b), .int (nI x)] μ = RV μ' ∧ KM σ μ' (updK K a b (min (K a b) x)) := by
  have e : a * 10 + b = 10 * a + b := by omega
  by_cases hc : K a b ≤ x
  · refine ⟨μ, cl_of (D_Ways_better_0 _ _ _ μ) rfl ?_, KM_c h fun c d _ _ => ?_⟩
    · simp (disch := omega) only [lt_nI, nI_add, pk_mul, nI_clamp, nI_leI, nI_ltI, nI_eq, ixT, cond_true, Nat.reduceEqDiff, Nat.reduceLeDiff, reduceIte, s_isStation, inB_n, thI_RI, e, show ¬ 100 ≤ 10 * a + b by omega, h.2 a b ha hb, hc]
    · unfold updK
      split
      next q => rw [q.1, q.2, Nat.min_eq_left hc]
      next => rfl
  · refine ⟨rp_wr μ 36 (10 * a + b) (nI x), cl_of (D_Ways_better_0 _ _ _ μ) rfl ?_, Fr_wr h.1 rfl, fun c d hc2 hd => ?_⟩
    · simp (disch := omega) only [lt_nI, nI_add, pk_mul, nI_clamp, nI_leI, nI_ltI, nI_eq, ixT, cond_true, Nat.reduceEqDiff, Nat.reduceLeDiff, reduceIte, s_isStation, inB_n, thI_RI, e, show ¬ 100 ≤ 10 * a + b by omega, h.2 a b ha hb, hc]
    · unfold updK
      split
      next q => rw [q.1, q.2, wr_eq, Nat.min_eq_right (by omega)]
      next q => rw [wr_nk (by omega)]; exact h.2 c d hc2 hd
theorem y_forget : ∃ μ, CL sc 9 [.ref 35] σ = RV μ ∧ KM σ μ (fun a b => if a = b then 0 else 536870912) := by
  obtain ⟨μ, ⟨f, v⟩, L⟩ := lp_inv (E := fun i μ => EV sc (9, 0, 0, 2, [.ref 35, .int (nI i)], [], (rp_L0, μ))) (fun i μ => Fr (fun a _ => a = 36) σ μ ∧ ∀ k, k < i → μ 36 k = nI (if k / 10 = k % 10 then 0 else 536870912)) (n := 100) (fun i μ hi hR => by
    obtain ⟨f, v⟩ := hR
    refine ⟨rp_wr μ 36 i (nI (if i / 10 = i % 10 then 0 else 536870912)), ⟨Fr_wr f rfl, fun k hk => ?_⟩, rp_Le_tr ?_ (D_Ways_forget_2 _ μ)⟩
    · by_cases e : k = i
      · subst e; exact wr_eq
      · rw [wr_nk e]; exact v k (by omega)
    · have h33 : ∀ y, rp_Le (EV sc (9, 0, 0, 2, [.ref 35, .int (nI (i + 1))], [], (rp_L0, rp_wr μ 36 i (nI y)))) (EV sc (9, 0, 0, 33, [.ref 35, .int (nI i)], [.int (nI y), .int (nI i), .ref 36], (rp_L0, μ))) := fun y => by
        refine rp_Le_tr ?_ (D_Ways_forget_33 _ _ _ μ)
        simp (disch := omega) only [lt_nI, nI_add, pk_mul, nI_clamp, nI_leI, nI_ltI, nI_eq, ixT, cond_true]
        exact rp_Le_rfl
      have e1 : nI i / nI 10 = nI (i / 10) := pk_div (by omega) (by decide) (by decide)
      have e2 : nI i - nI i / nI 10 * nI 10 = nI (i % 10) := pk_rem (by omega) (by decide) (by decide)
      rw [e1] at e2
      simp (disch := omega) only [lt_nI, nI_leI, show ¬ 100 ≤ i by omega, if_false, e1, e2, nI_eq]
      by_cases hd : i / 10 = i % 10
      · simp only [eq_true hd, if_true]; exact h33 0
      · simp only [eq_false hd, if_false]; exact h33 536870912) (s := σ) ⟨Fr_rfl, fun j hj => absurd hj (by omega)⟩
  refine ⟨μ, cl_le rfl (rp_Le_tr (rp_Le_tr ?_ L) (D_Ways_forget_0 σ)), f, fun a b ha hb => ?_⟩
  · refine rp_Le_tr ?_ (D_Ways_forget_2 _ μ)
    simp (disch := omega) only [lt_nI, nI_leI, Nat.le_refl, if_true]
    exact rp_Le_rfl
  · rw [v _ (by omega), show (10 * a + b) / 10 = a by omega, show (10 * a + b) % 10 = b by omega]
/-- one edge -/
theorem upd_P0 (h : P0 r K) {a b x : Nat} (ha : a < 10) (hb : b < 10) (hx : ∀ φ : Nat → Nat, feas r φ → φ b ≤ φ a + x) : P0 r (updK K a b (min (K a b) x)) := by
  obtain ⟨h1, h2, h3⟩ := h
  refine ⟨fun c hc => ?_, fun c d hc hd => ?_, fun φ hφ hf c d hc hd => ?_⟩
  · unfold updK
    have := h1 c hc
    split
    next q =>
      obtain ⟨rfl, rfl⟩ := q
      omega
    next => exact this
  · unfold updK
    split
    next q =>
      obtain ⟨rfl, rfl⟩ := q
      have := h2 c d hc hd
      omega
    next => exact h2 c d hc hd
  · have e := h3 φ hφ hf c d hc hd
    unfold updK
    split
    next q =>
      obtain ⟨rfl, rfl⟩ := q
      have := hx φ hf
      omega
    next => exact e
theorem upd_le {a b x c d : Nat} : updK K a b (min (K a b) x) c d ≤ K c d := by
  unfold updK
  split
  next q =>
    obtain ⟨rfl, rfl⟩ := q
    exact Nat.min_le_left _ _
  next => exact Nat.le_refl _
theorem upd_at {a b x : Nat} : updK K a b (min (K a b) x) a b ≤ x := by
  unfold updK
  rw [if_pos ⟨rfl, rfl⟩]
  exact Nat.min_le_right _ _
/-- one stage of the ways over k -/
theorem y_stage (hz : P0 r K) (h : KM σ μ K) {k : Nat} (hk : k < 10) : ∃ μ', KM σ μ' (fl K k) ∧ rp_Le (EV sc (18, 0, 0, 70, [.ref 35, .ref 3, .int (nI (k + 1)), rp_U, rp_U], [], (rp_L0, μ'))) (EV sc (18, 0, 0, 70, [.ref 35, .ref 3, .int (nI k), rp_U, rp_U], [], (rp_L0, μ))) := by
  obtain ⟨h1, h2, h3⟩ := hz
  have zk := h1 k hk
  have fk1 : ∀ a, fl K k a k = K a k := fun a => by unfold fl; omega
  have fk2 : ∀ b, fl K k k b = K k b := fun b => by unfold fl; omega
  obtain ⟨μ1, m1, L⟩ := lp_inv (E := fun a μ => EV sc (18, 0, 0, 78, [.ref 35, .ref 3, .int (nI k), .int (nI a), rp_U], [], (rp_L0, μ))) (fun a μ => KM σ μ (fun x y => if x < a then fl K k x y else K x y)) (n := 10) (fun a μ ha hR => by
    have b1 := h2 a k ha hk
    have bak : μ 36 (10 * a + k) = nI (K a k) := by rw [hR.2 a k ha hk]; dsimp only; rw [if_neg (by omega)]
    have T0 : rp_Le (EV sc (18, 0, 0, 87, [.ref 35, .ref 3, .int (nI k), .int (nI a), .int (nI 0)], [], (rp_L0, μ))) (EV sc (18, 0, 0, 78, [.ref 35, .ref 3, .int (nI k), .int (nI a), rp_U], [], (rp_L0, μ))) := by
      refine rp_Le_tr ?_ (D_Ways_reckon_78 _ _ μ)
      simp (disch := omega) only [lt_nI, nI_leI, show ¬ 10 ≤ a by omega, if_false]
      exact rp_Le_rfl
    have T1 : ∀ x μ, rp_Le (EV sc (18, 0, 0, 78, [.ref 35, .ref 3, .int (nI k), .int (nI (a + 1)), rp_U], [], (rp_L0, μ))) (EV sc (18, 0, 0, 130, [.ref 35, .ref 3, .int (nI k), .int (nI a), .int x], [], (rp_L0, μ))) := fun x μ => by
      refine rp_Le_tr ?_ (D_Ways_reckon_130 _ _ _ μ)
      simp only [lt_nI, nI_add]
      exact rp_Le_rfl
    by_cases hfar : 536870912 ≤ K a k
    · refine ⟨μ, KM_c hR fun x y hx hy => ?_, rp_Le_tr (rp_Le_tr (rp_Le_tr (T1 (nI 0) _) ?_) (D_Ways_reckon_87 _ _ _ μ)) T0⟩
      · by_cases e : x = a
        · subst e
          rw [if_neg (by omega), if_pos (by omega)]
          have := h2 x y ha hy
          unfold fl
          omega
        · by_cases e2 : x < a
          · rw [if_pos e2, if_pos (by omega)]
          · rw [if_neg e2, if_neg (by omega)]
      · simp (disch := omega) only [lt_nI, nI_leI, Nat.reduceLeDiff, if_false, y_isThere bak (by omega) ha hk, hfar, if_true, thI_RI, i_1]
        exact rp_Le_rfl
    · obtain ⟨μ', m', L'⟩ := lp_inv (E := fun b μ => EV sc (18, 0, 0, 87, [.ref 35, .ref 3, .int (nI k), .int (nI a), .int (nI b)], [], (rp_L0, μ))) (fun b μ => KM σ μ (fun x y => if x < a ∨ (x = a ∧ y < b) then fl K k x y else K x y)) (n := 10) (fun b μ hb hR => by
        have b2 := h2 k b hk hb
        have b3 := h2 a b ha hb
        have vak : μ 36 (10 * a + k) = nI (K a k) := by
          rw [hR.2 a k ha hk]
          dsimp only
          rw [fk1]
          split <;> rfl
        have vkb : μ 36 (10 * k + b) = nI (K k b) := by
          rw [hR.2 k b hk hb]
          dsimp only
          rw [fk2]
          split <;> rfl
        obtain ⟨μ', c', m'⟩ := y_better (sc := sc) hR (a := a) (b := b) (x := K a k + K k b) ha hb (by rw [if_neg (show ¬ (a < a ∨ (a = a ∧ b < b)) by omega)]; omega) (by omega)
        refine ⟨μ', KM_c m' fun x y hx hy => ?_, rp_Le_tr ?_ (D_Ways_reckon_87 _ _ _ μ)⟩
        · unfold updK
          by_cases e : x = a ∧ y = b
          · obtain ⟨rfl, rfl⟩ := e
            dsimp only
            rw [if_pos ⟨rfl, rfl⟩, if_neg (by omega), if_pos (by omega)]
            rfl
          · rw [if_neg e]
            dsimp only
            by_cases e2 : x < a ∨ (x = a ∧ y < b)
            · rw [if_pos e2, if_pos (by omega)]
            · rw [if_neg e2, if_neg (by omega)]
        · simp (disch := omega) only [lt_nI, nI_leI, show ¬ 10 ≤ b by omega, if_false, y_isThere vak (by omega) ha hk, hfar, thI_RI, i_0, y_keyOf vak ha hk, y_keyOf vkb hk hb, nI_add, c', thV_RV]
          exact rp_Le_rfl) (s := μ) (KM_c hR fun x y _ _ => by
            by_cases e2 : x < a
            · rw [if_pos e2, if_pos (by omega)]
            · rw [if_neg e2, if_neg (by omega)])
      refine ⟨μ', KM_c m' fun x y hx hy => ?_, rp_Le_tr (rp_Le_tr (rp_Le_tr (rp_Le_tr (T1 (nI 10) _) ?_) (D_Ways_reckon_87 _ _ _ μ')) L') T0⟩
      · by_cases e2 : x < a ∨ (x = a ∧ y < 10)
        · rw [if_pos e2, if_pos (by omega)]
        · rw [if_neg e2, if_neg (by omega)]
      · simp (disch := omega) only [lt_nI, nI_leI, Nat.le_refl, if_true]
        exact rp_Le_rfl) (s := μ) (KM_c h fun x y _ _ => by rw [if_neg (by omega)])
  refine ⟨μ1, KM_c m1 fun x y hx hy => by rw [if_pos hx], rp_Le_tr (rp_Le_tr (rp_Le_tr ?_ (D_Ways_reckon_78 _ _ μ1)) L) (rp_Le_tr ?_ (D_Ways_reckon_70 _ μ))⟩
  · simp (disch := omega) only [lt_nI, nI_leI, Nat.le_refl, if_true, nI_add]
    exact rp_Le_rfl
  · simp (disch := omega) only [lt_nI, nI_leI, show ¬ 10 ≤ k by omega, if_false]
    exact rp_Le_rfl
theorem y_reckon (hn : σ 3 3 = nI (nL r)) (h14 : nL r ≤ 14) (hv : ∀ l, l < nL r → ∀ q, q < 5 → σ 4 (5 * l + q) = nI (ln r l q)) (hb : ∀ l, l < nL r → ln r l 0 ≤ 9 ∧ ln r l 1 ≤ 9 ∧ ln r l 3 ≤ 300) : ∃ μ K, CL sc 18 [.ref 35, .ref 3] σ = RV μ ∧ KM σ μ K ∧ KK r K := by
  obtain ⟨μ0, c0, m0⟩ := y_forget (sc := sc) (σ := σ)
  have p0 : P0 r (fun a b => if a = b then 0 else 536870912) := by
    refine ⟨fun a _ => if_pos rfl, fun a b _ _ => ?_, fun φ hφ _ a b ha hb => ?_⟩
    · dsimp only
      split <;> omega
    · dsimp only
      have := hφ b hb
      split
      next e => subst e; omega
      next => omega
  have gl : ∀ μ, Fr (fun a _ => a = 36) σ μ → ∀ l q, l < nL r → q < 5 → CL sc 20 [.ref 3, .int (nI l), .int (nI q)] μ = RI (nI (ln r l q)) μ := fun μ f l q hl hq => by
    rw [s_get TB3 ((f _ _ (by omega)).trans hn) h14 hl hq, f _ _ (by omega), hv l hl q hq]
  have zl : ∀ μ, Fr (fun a _ => a = 36) σ μ → CL sc 19 [.ref 3] μ = RI (nI (nL r)) μ := fun μ f => by
    rw [s_size TB3, f _ _ (by omega), hn]
  obtain ⟨μ1, ⟨K1, m1, p1, g1⟩, L1⟩ := lp_inv (E := fun l μ => EV sc (18, 0, 0, 6, [.ref 35, .ref 3, .int (nI l), rp_U, rp_U], [], (rp_L0, μ))) (fun l μ => ∃ K, KM σ μ K ∧ P0 r K ∧ Eg r K l) (n := nL r) (fun l μ hl hR => by
    obtain ⟨K, m, p, g⟩ := hR
    obtain ⟨b0, b1, b3⟩ := hb l hl
    have hw := wl_le (r := r) b3 (show l < 14 by omega)
    have ka : K (ln r l 0) (ln r l 1) ≤ 536870912 := p.2.1 _ _ (by omega) (by omega)
    obtain ⟨μ', c', m'⟩ := y_better (sc := sc) m (a := ln r l 0) (b := ln r l 1) (x := wl r l) (by omega) (by omega) (by omega) (by omega)
    have p' : P0 r (updK K (ln r l 0) (ln r l 1) (min (K (ln r l 0) (ln r l 1)) (wl r l))) := upd_P0 p (by omega) (by omega) (fun φ hf => (hf l hl).1)
    obtain ⟨K', eK⟩ : ∃ K', K' = updK K (ln r l 0) (ln r l 1) (min (K (ln r l 0) (ln r l 1)) (wl r l)) := ⟨_, rfl⟩
    have le' : ∀ c d, K' c d ≤ K c d := fun c d => by rw [eK]; exact upd_le
    have at' : K' (ln r l 0) (ln r l 1) ≤ wl r l := by rw [eK]; exact upd_at
    rw [← eK] at m' p'
    have kb : K' (ln r l 1) (ln r l 0) ≤ 536870912 := p'.2.1 _ _ (by omega) (by omega)
    obtain ⟨μ'', c'', m''⟩ := y_better (sc := sc) m' (a := ln r l 1) (b := ln r l 0) (x := wl r l) (by omega) (by omega) (by omega) (by omega)
    have p'' : P0 r (updK K' (ln r l 1) (ln r l 0) (min (K' (ln r l 1) (ln r l 0)) (wl r l))) := upd_P0 p' (by omega) (by omega) (fun φ hf => (hf l hl).2)
    refine ⟨μ'', ⟨_, m'', p'', fun j hj => ?_⟩, rp_Le_tr ?_ (D_Ways_reckon_6 _ μ)⟩
    · by_cases e : j = l
      · subst e
        exact ⟨Nat.le_trans upd_le at', upd_at⟩
      · obtain ⟨q1, q2⟩ := g j (by omega)
        exact ⟨Nat.le_trans upd_le (Nat.le_trans (le' _ _) q1), Nat.le_trans upd_le (Nat.le_trans (le' _ _) q2)⟩
    · have ek : (nI (ln r l 3) <<< (nI 14 &&& nI 31)) ||| (nI 1 <<< (nI l &&& nI 31)) = nI (wl r l) := by
        have : 2 ^ l < 2 ^ 14 := two_pow_lt (by omega)
        rw [sh_l (by omega) (by decide), sh_l (by omega) (by omega), Nat.one_mul, key_or (by omega)]
        rfl
      simp (disch := omega) only [lt_nI, zl μ m.1, thI_RI, nI_leI, show ¬ nL r ≤ l by omega, if_false, gl μ m.1 l 3 hl (by decide), gl μ m.1 l 0 hl (by decide), gl μ m.1 l 1 hl (by decide), ek, c', thV_RV, gl μ' m'.1 l 0 hl (by decide), gl μ' m'.1 l 1 hl (by decide), c'', nI_add]
      exact rp_Le_rfl) (s := μ0) ⟨_, m0, p0, fun l hl => absurd hl (by omega)⟩
  obtain ⟨μ2, ⟨K2, m2, p2, g2, t2⟩, L2⟩ := lp_inv (E := fun k μ => EV sc (18, 0, 0, 70, [.ref 35, .ref 3, .int (nI k), rp_U, rp_U], [], (rp_L0, μ))) (fun k μ => ∃ K, KM σ μ K ∧ P0 r K ∧ Eg r K (nL r) ∧ Tri K k) (n := 10) (fun k μ hk hR => by
    obtain ⟨K, m, p, g, t⟩ := hR
    obtain ⟨μ', m', L⟩ := y_stage (sc := sc) p m hk
    exact ⟨μ', ⟨_, m', fl_P0 hk p, fl_Eg g, fl_Tri hk p t⟩, L⟩) (s := μ1) ⟨K1, m1, p1, g1, fun a b c _ _ _ h => absurd h (by omega)⟩
  refine ⟨μ2, K2, cl_le rfl (rp_Le_tr ?_ (D_Ways_reckon_0 σ)), m2, KK_of p2 g2 t2⟩
  rw [c0, thV_RV]
  refine rp_Le_tr (rp_Le_tr (rp_Le_tr (rp_Le_tr ?_ (D_Ways_reckon_70 _ μ2)) L2) ?_) L1
  · simp (disch := omega) only [lt_nI, nI_leI, Nat.le_refl, if_true]
    exact rp_Le_rfl
  · refine rp_Le_tr ?_ (D_Ways_reckon_6 _ μ1)
    simp (disch := omega) only [lt_nI, zl μ1 m1.1, thI_RI, nI_leI, Nat.le_refl, if_true]
    exact rp_Le_rfl
end
