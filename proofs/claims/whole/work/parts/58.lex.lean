/-! a law's text: pieces -/
def srt (b : Nat) : Nat := if 97 ≤ b ∧ b ≤ 122 then 1 else if 48 ≤ b ∧ b ≤ 57 then 2 else 0
theorem srt_1 {b : Nat} : srt b = 1 ↔ 97 ≤ b ∧ b ≤ 122 := by unfold srt; split <;> (try split) <;> omega
theorem srt_2 {b : Nat} : srt b = 2 ↔ 48 ≤ b ∧ b ≤ 57 := by unfold srt; split <;> (try split) <;> omega
theorem srt_le {b : Nat} : srt b ≤ 2 := by unfold srt; split <;> (try split) <;> omega
/-- from place p: the piece's first place, and the place behind it -/
def TK (t : Nat → Nat) (n p f b : Nat) : Prop := p ≤ f ∧ f ≤ n ∧ (∀ i, p ≤ i → i < f → t i = 32) ∧ (f < n → t f ≠ 32) ∧ b ≤ n ∧ (f = n → b = n) ∧ (f < n → f < b ∧ (∀ i, f < i → i < b → srt (t f) ≠ 0 ∧ srt (t i) = srt (t f)) ∧ (b < n → srt (t f) = 0 ∨ srt (t b) ≠ srt (t f)))
theorem first_from {P : Nat → Prop} {n : Nat} : ∀ (k p : Nat), p + k = n → ∃ f, p ≤ f ∧ f ≤ n ∧ (∀ i, p ≤ i → i < f → P i) ∧ (f < n → ¬ P f) := by
  intro k
  induction k with
  | zero => intro p h; exact ⟨p, Nat.le_refl _, by omega, fun i h1 h2 => absurd h1 (by omega), fun h => absurd h (by omega)⟩
  | succ k ih =>
    intro p h
    by_cases hp : P p
    · obtain ⟨f, h1, h2, h3, h4⟩ := ih (p + 1) (by omega)
      refine ⟨f, by omega, h2, fun i h5 h6 => ?_, h4⟩
      by_cases e : i = p
      · subst e; exact hp
      · exact h3 i (by omega) h6
    · exact ⟨p, Nat.le_refl _, by omega, fun i h1 h2 => absurd h1 (by omega), fun _ => hp⟩
theorem TK_ex {t : Nat → Nat} {n p : Nat} (h : p ≤ n) : ∃ f b, TK t n p f b := by
  obtain ⟨f, h1, h2, h3, h4⟩ := first_from (P := fun i => t i = 32) (n := n) (n - p) p (by omega)
  by_cases hf : f = n
  · exact ⟨f, n, h1, h2, h3, h4, Nat.le_refl _, fun _ => rfl, fun q => absurd q (by omega)⟩
  · obtain ⟨b, b1, b2, b3, b4⟩ := first_from (P := fun i => srt (t f) ≠ 0 ∧ srt (t i) = srt (t f)) (n := n) (n - (f + 1)) (f + 1) (by omega)
    refine ⟨f, b, h1, h2, h3, h4, b2, fun q => absurd q hf, fun _ => ⟨by omega, fun i q1 q2 => b3 i (by omega) q2, fun q => ?_⟩⟩
    have := b4 q
    by_cases e : srt (t f) = 0
    · exact Or.inl e
    · exact Or.inr fun w => this ⟨e, w⟩
def Lx (t : Nat → Nat) (n : Nat) (F B : Nat → Nat) : Prop := ∀ p, p ≤ n → TK t n p (F p) (B p)
theorem Lx_ex (t : Nat → Nat) (n : Nat) : ∃ F B, Lx t n F B := by
  have h : ∀ p, ∃ q : Nat × Nat, p ≤ n → TK t n p q.1 q.2 := fun p => by
    by_cases hp : p ≤ n
    · obtain ⟨f, b, h⟩ := TK_ex (t := t) hp
      exact ⟨(f, b), fun _ => h⟩
    · exact ⟨(0, 0), fun q => absurd q hp⟩
  obtain ⟨f, hf⟩ := Classical.axiomOfChoice h
  exact ⟨fun p => (f p).1, fun p => (f p).2, hf⟩
/-! words and numbers -/
def hw (t : Nat → Nat) (f : Nat) : Nat → Nat
  | 0 => 0
  | m + 1 => 27 * hw t f m + (t (f + m) - 96)
def dv (t : Nat → Nat) (f : Nat) : Nat → Nat
  | 0 => 0
  | m + 1 => 10 * dv t f m + (t (f + m) - 48)
theorem hw_inj {t t' : Nat → Nat} {f f' : Nat} : ∀ {m m' : Nat}, (∀ i, i < m → 97 ≤ t (f + i) ∧ t (f + i) ≤ 122) → (∀ i, i < m' → 97 ≤ t' (f' + i) ∧ t' (f' + i) ≤ 122) → hw t f m = hw t' f' m' → m = m' ∧ ∀ i, i < m → t (f + i) = t' (f' + i) := by
  intro m
  induction m with
  | zero =>
    intro m' _ h2 h
    cases m' with
    | zero => exact ⟨rfl, fun i hi => absurd hi (by omega)⟩
    | succ m' =>
      have := h2 m' (by omega)
      unfold hw at h
      omega
  | succ m ih =>
    intro m' h1 h2 h
    cases m' with
    | zero =>
      have := h1 m (by omega)
      have h' : 27 * hw t f m + (t (f + m) - 96) = 0 := h
      omega
    | succ m' =>
      have q1 := h1 m (by omega)
      have q2 := h2 m' (by omega)
      have h' : 27 * hw t f m + (t (f + m) - 96) = 27 * hw t' f' m' + (t' (f' + m') - 96) := h
      have e1 : t (f + m) = t' (f' + m') := by omega
      have e2 : hw t f m = hw t' f' m' := by omega
      obtain ⟨a, b⟩ := ih (fun i hi => h1 i (by omega)) (fun i hi => h2 i (by omega)) e2
      subst a
      refine ⟨rfl, fun i hi => ?_⟩
      by_cases e : i = m
      · subst e; exact e1
      · exact b i (by omega)
theorem hw_c {t t' : Nat → Nat} {f f' : Nat} : ∀ {m : Nat}, (∀ i, i < m → t (f + i) = t' (f' + i)) → hw t f m = hw t' f' m := by
  intro m
  induction m with
  | zero => intro _; rfl
  | succ m ih => intro h; unfold hw; rw [ih fun i hi => h i (by omega), h m (by omega)]
theorem hw_lt {t : Nat → Nat} {f : Nat} : ∀ {m : Nat}, (∀ i, i < m → t (f + i) ≤ 122) → hw t f m < 27 ^ m := by
  intro m
  induction m with
  | zero => intro _; show 0 < 1; decide
  | succ m ih =>
    intro h
    have h1 := ih fun i hi => h i (by omega)
    have h2 := h m (by omega)
    unfold hw
    rw [Nat.pow_succ]
    omega
theorem dv_lt {t : Nat → Nat} {f : Nat} : ∀ {m : Nat}, (∀ i, i < m → t (f + i) ≤ 57) → dv t f m < 10 ^ m := by
  intro m
  induction m with
  | zero => intro _; show 0 < 1; decide
  | succ m ih =>
    intro h
    have h1 := ih fun i hi => h i (by omega)
    have h2 := h m (by omega)
    unfold dv
    rw [Nat.pow_succ]
    omega
/-- the words that are known -/
def wlen (j : Nat) : Nat := (rp_tx j).length
def wn (j i : Nat) : Nat := ((rp_tx j).getD i 0).toNatClampNeg
theorem wn_ok : ∀ j, j < 12 → ∀ i, i < wlen j → (rp_tx j).getD i 0 = nI (wn j i) ∧ 97 ≤ wn j i ∧ wn j i ≤ 122 := by decide +kernel
theorem wlen_ok : ∀ j, j < 12 → 2 ≤ wlen j ∧ wlen j ≤ 6 := by decide +kernel
def Wn (j : Nat) : Nat := hw (wn j) 0 (wlen j)
theorem Wn_v : ∀ j, j < 12 → Wn j = ([80155, 8863997, 355278, 243140, 7622660, 119360, 50348, 1758676, 261071320, 247664, 411, 11522] : List Nat).getD j 0 := by decide +kernel
def allN (P : Nat → Bool) : Nat → Bool
  | 0 => true
  | n + 1 => allN P n && P n
theorem allN_iff {P : Nat → Bool} : ∀ {n : Nat}, allN P n = true ↔ ∀ i, i < n → P i = true := by
  intro n
  induction n with
  | zero => exact ⟨fun _ i hi => absurd hi (by omega), fun _ => rfl⟩
  | succ n ih =>
    unfold allN
    rw [Bool.and_eq_true, ih]
    constructor
    · rintro ⟨h1, h2⟩ i hi
      by_cases e : i = n
      · subst e; exact h2
      · exact h1 i (by omega)
    · intro h
      exact ⟨fun i hi => h i (by omega), h n (by omega)⟩
def wdB (t : Nat → Nat) (f b j : Nat) : Bool := decide (b - f = wlen j) && allN (fun i => decide (t (f + i) = wn j i)) (wlen j)
theorem wdB_iff {t : Nat → Nat} {f b j : Nat} : wdB t f b j = true ↔ b - f = wlen j ∧ ∀ i, i < wlen j → t (f + i) = wn j i := by
  unfold wdB
  rw [Bool.and_eq_true, allN_iff]
  simp
def nIn (t : Nat → Nat) (n f b lo hi : Nat) : Option Nat := if f < n ∧ srt (t f) = 2 ∧ b - f ≤ 3 ∧ lo ≤ dv t f (b - f) ∧ dv t f (b - f) ≤ hi then some (dv t f (b - f)) else none
theorem nIn_s {t : Nat → Nat} {n f b lo hi v : Nat} (h : nIn t n f b lo hi = some v) : (f < n ∧ srt (t f) = 2 ∧ b - f ≤ 3) ∧ lo ≤ v ∧ v ≤ hi ∧ v = dv t f (b - f) := by
  unfold nIn at h
  split at h
  next q =>
    cases h
    exact ⟨⟨q.1, q.2.1, q.2.2.1⟩, q.2.2.2.1, q.2.2.2.2, rfl⟩
  next => cases h
/-! the class's pieces -/
def CT (μ : rp_Mm) (t : Nat → Nat) (n : Nat) : Prop := μ 32 1 = nI n ∧ n ≤ 300 ∧ ∀ k, k < n → μ 33 k = nI (t k) ∧ t k < 256
section
variable {sc : rp_Sc} {σ μ : rp_Mm} {t : Nat → Nat} {n : Nat}
theorem CT_f {P : Nat → Nat → Prop} (h : CT σ t n) (f : Fr P σ μ) (h1 : ¬ P 32 1) (h2 : ∀ k, ¬ P 33 k) : CT μ t n := ⟨by rw [f _ _ h1]; exact h.1, h.2.1, fun k hk => by rw [f _ _ (h2 k)]; exact h.2.2 k hk⟩
theorem y_byteAt (h : CT μ t n) {i : Nat} (hi : i < n) : CL sc 38 [.ref 32, .int (nI i)] μ = RI (nI (t i)) μ := by
  have hn := h.2.1
  refine cl_of (D_LawText_byteAt_0 _ μ) rfl ?_
  simp (disch := omega) only [lt_nI, h.1, nI_ltI, nI_leI, show ¬ i < 0 by omega, show ¬ n ≤ i by omega, show ¬ 300 ≤ i by omega, if_false, ixT, cond_true, nI_clamp, (h.2.2 i hi).1]
theorem y_byteEnd (h : CT μ t n) : CL sc 38 [.ref 32, .int (nI n)] μ = RI (-1) μ := by
  have hn := h.2.1
  refine cl_of (D_LawText_byteAt_0 _ μ) rfl ?_
  rw [if_neg (nI_pos (by omega)), h.1, if_pos (nI_le (Nat.le_refl _) (by omega))]
theorem y_sortOf {b : Nat} (hb : b < 256) : CL sc 39 [.int (nI b)] μ = RI (nI (srt b)) μ := by
  refine cl_of (D_LawText_sortOf_0 _ μ) rfl ?_
  simp (disch := omega) only [lt_nI, nI_ltI]
  unfold srt
  by_cases h1 : b < 97
  · have e1 : ¬ (97 ≤ b ∧ b ≤ 122) := by omega
    simp only [eq_true h1, eq_false e1, if_true, if_false]
    by_cases h2 : b < 48
    · have e2 : ¬ (48 ≤ b ∧ b ≤ 57) := by omega
      simp only [eq_true h2, eq_false e2, if_true, if_false]
    · by_cases h3 : 57 < b
      · have e2 : ¬ (48 ≤ b ∧ b ≤ 57) := by omega
        simp only [eq_false h2, eq_true h3, eq_false e2, if_true, if_false]
      · have e2 : 48 ≤ b ∧ b ≤ 57 := by omega
        simp only [eq_false h2, eq_false h3, eq_true e2, if_true, if_false]
  · by_cases h2 : 122 < b
    · have e1 : ¬ (97 ≤ b ∧ b ≤ 122) := by omega
      have e2 : ¬ (48 ≤ b ∧ b ≤ 57) := by omega
      have h3 : ¬ b < 48 := by omega
      have h4 : 57 < b := by omega
      simp only [eq_false h1, eq_true h2, eq_false e1, eq_false e2, eq_false h3, eq_true h4, if_true, if_false]
    · have e1 : 97 ≤ b ∧ b ≤ 122 := by omega
      simp only [eq_false h1, eq_false h2, eq_true e1, if_true, if_false]
theorem y_sortEnd : CL sc 39 [.int (-1)] μ = RI (nI 0) μ := by
  refine cl_of (D_LawText_sortOf_0 _ μ) rfl ?_
  rw [if_pos (by decide), if_pos (by decide)]
  rfl
theorem y_advance (h : CT μ t n) {p f b : Nat} (hp : p ≤ n) (h3 : μ 32 3 = nI p) (hT : TK t n p f b) : ∃ μ', CL sc 37 [.ref 32] μ = RV μ' ∧ Fr (fun a k => a = 32 ∧ (k = 2 ∨ k = 3)) μ μ' ∧ μ' 32 2 = nI f ∧ μ' 32 3 = nI b := by
  have hn := h.2.1
  obtain ⟨t1, t2, t3, t4, t5, t6, t7⟩ := hT
  obtain ⟨μ1, ⟨f1, z1⟩, L1⟩ := lp_inv_from (E := fun i μ => EV sc (37, 0, 0, 8, [.ref 32, rp_U], [], (rp_L0, μ))) (fun i ν => Fr (fun a k => a = 32 ∧ (k = 2 ∨ k = 3)) μ ν ∧ ν 32 2 = nI i) (a := p) (n := f) t1 (fun i ν h1 h2 hR => by
    obtain ⟨fr, z⟩ := hR
    have hc := CT_f h fr (by omega) (fun _ => by omega)
    refine ⟨rp_wr ν 32 2 (nI (i + 1)), ⟨Fr_wr fr (by omega), wr_eq⟩, rp_Le_tr ?_ (D_LawText_advance_8 ν)⟩
    have e32 := t3 i h1 h2
    simp (disch := omega) only [lt_nI, hc.1, z, nI_leI, show ¬ n ≤ i by omega, if_false, y_byteAt hc (show i < n by omega), thI_RI, e32, if_true, nI_add]
    exact rp_Le_rfl) (s := rp_wr μ 32 2 (nI p)) ⟨Fr_wr Fr_rfl (by omega), wr_eq⟩
  have hc1 := CT_f h f1 (by omega) (fun _ => by omega)
  have E1 : rp_Le (EV sc (37, 0, 0, 45, [.ref 32, rp_U], [], (rp_L0, μ1))) (EV sc (37, 0, 0, 8, [.ref 32, rp_U], [], (rp_L0, μ1))) := by
    refine rp_Le_tr ?_ (D_LawText_advance_8 μ1)
    by_cases hf : f = n
    · simp (disch := omega) only [hc1.1, z1, nI_leI, show n ≤ f by omega, if_true]
      exact rp_Le_rfl
    · have h4 := t4 (by omega)
      have h5 := (h.2.2 f (by omega)).2
      simp (disch := omega) only [lt_nI, hc1.1, z1, nI_leI, show ¬ n ≤ f by omega, if_false, y_byteAt hc1 (show f < n by omega), thI_RI, nI_eq, h4]
      exact rp_Le_rfl
  have S0 : rp_Le (EV sc (37, 0, 0, 45, [.ref 32, rp_U], [], (rp_L0, μ1))) (EV sc (37, 0, 0, 0, [.ref 32, rp_U], [], (rp_L0, μ))) := by
    refine rp_Le_tr (rp_Le_tr E1 L1) (rp_Le_tr ?_ (D_LawText_advance_0 μ))
    rw [h3]
    exact rp_Le_rfl
  by_cases hf : f = n
  · have hb := t6 hf
    have em : (if nI n < nI f + 1 then nI n else nI f + 1) = nI n := by
      rw [nI_1, if_pos (nI_lt (by omega) (by omega))]
    refine ⟨rp_wr μ1 32 3 (nI n), cl_le rfl (rp_Le_tr (rp_Le_tr ?_ (D_LawText_advance_45 μ1)) S0), Fr_wr f1 (by omega), by rw [wr_nk (by decide)]; exact z1, by rw [wr_eq, hb]⟩
    have hc2 : CT (rp_wr μ1 32 3 (nI n)) t n := CT_f hc1 (P := fun a k => a = 32 ∧ k = 3) (Fr_wr Fr_rfl ⟨rfl, rfl⟩) (by omega) (fun _ => by omega)
    rw [hc1.1, z1, em, wr_nk (by decide), z1, hf, y_byteEnd hc2, thI_RI, y_sortEnd, thI_RI]
    refine rp_Le_tr ?_ (D_LawText_advance_74 _ _)
    rw [wr_nk (by decide), hc1.1, wr_eq, if_pos (nI_le (Nat.le_refl _) (by omega))]
    exact rp_Le_rfl
  · have hfn : f < n := by omega
    obtain ⟨b1, b2, b3⟩ := t7 hfn
    have em : (if nI n < nI f + 1 then nI n else nI f + 1) = nI (f + 1) := by
      rw [nI_1, if_neg (nI_nlt (by omega) (by omega))]
    have hb256 : ∀ i, i < n → t i < 256 := fun i hi => (h.2.2 i hi).2
    have sl := srt_le (b := t f)
    obtain ⟨μ2, ⟨f2, z2⟩, L2⟩ := lp_inv_from (E := fun i μ => EV sc (37, 0, 0, 74, [.ref 32, .int (nI (srt (t f)))], [], (rp_L0, μ))) (fun i ν => Fr (fun a k => a = 32 ∧ k = 3) μ1 ν ∧ ν 32 3 = nI i) (a := f + 1) (n := b) (by omega) (fun i ν h1 h2 hR => by
      obtain ⟨fr, z⟩ := hR
      have hc := CT_f hc1 fr (by omega) (fun _ => by omega)
      obtain ⟨q1, q2⟩ := b2 i (by omega) h2
      refine ⟨rp_wr ν 32 3 (nI (i + 1)), ⟨Fr_wr fr ⟨rfl, rfl⟩, wr_eq⟩, rp_Le_tr ?_ (D_LawText_advance_74 _ ν)⟩
      simp (disch := omega) only [lt_nI, hc.1, z, nI_leI, show ¬ n ≤ i by omega, if_false, nI_eq, q1, y_byteAt hc (show i < n by omega), thI_RI, y_sortOf (hb256 i (by omega)), q2, if_true, nI_add]
      exact rp_Le_rfl) (s := rp_wr μ1 32 3 (nI (f + 1))) ⟨Fr_wr Fr_rfl ⟨rfl, rfl⟩, wr_eq⟩
    have hc2 := CT_f hc1 f2 (by omega) (fun _ => by omega)
    refine ⟨μ2, cl_le rfl (rp_Le_tr (rp_Le_tr (rp_Le_tr (rp_Le_tr ?_ L2) ?_) (D_LawText_advance_45 μ1)) S0), Fr_tr f1 (Fr_mo f2 (fun _ _ => by omega)), by rw [f2 _ _ (by omega)]; exact z1, z2⟩
    · refine rp_Le_tr ?_ (D_LawText_advance_74 _ μ2)
      by_cases hbn : b = n
      · simp (disch := omega) only [hc2.1, z2, nI_leI, show n ≤ b by omega, if_true]
        exact rp_Le_rfl
      · have sb := srt_le (b := t b)
        rcases b3 (by omega) with q | q
        · simp (disch := omega) only [lt_nI, hc2.1, z2, nI_leI, show ¬ n ≤ b by omega, if_false, q, if_true]
          exact rp_Le_rfl
        · by_cases q0 : srt (t f) = 0
          · simp (disch := omega) only [lt_nI, hc2.1, z2, nI_leI, show ¬ n ≤ b by omega, if_false, q0, if_true]
            exact rp_Le_rfl
          · simp (disch := omega) only [lt_nI, hc2.1, z2, nI_leI, show ¬ n ≤ b by omega, if_false, nI_eq, q0, y_byteAt hc2 (show b < n by omega), thI_RI, y_sortOf (hb256 b (by omega)), q]
            exact rp_Le_rfl
    · have hc3 : CT (rp_wr μ1 32 3 (nI (f + 1))) t n := CT_f hc1 (P := fun a k => a = 32 ∧ k = 3) (Fr_wr Fr_rfl ⟨rfl, rfl⟩) (by omega) (fun _ => by omega)
      rw [hc1.1, z1, em, wr_nk (by decide), z1, y_byteAt hc3 hfn, thI_RI, y_sortOf (hb256 f hfn), thI_RI]
      exact rp_Le_rfl
theorem y_isAtHand (h : CT μ t n) {f b j : Nat} (hf : f ≤ b) (hb : b ≤ n) (z2 : μ 32 2 = nI f) (z3 : μ 32 3 = nI b) (hj : j < 12) : CL sc 43 [.ref 32, .ref (1000 + j)] μ = RI (nI (b2 (wdB t f b j))) μ := by
  have hn := h.2.1
  have wl := wlen_ok j hj
  by_cases hl : b - f = wlen j
  · have S0 : rp_Le (EV sc (43, 0, 0, 20, [.ref 32, .ref (1000 + j), .int (nI 0)], [], (rp_L0, μ))) (EV sc (43, 0, 0, 0, [.ref 32, .ref (1000 + j), rp_U], [], (rp_L0, μ))) := by
      refine rp_Le_tr ?_ (D_LawText_isAtHand_0 hj μ)
      rw [z2, z3, pk_sub hf, hl, if_pos (show nI (wlen j) = Int32.ofNat (rp_tx j).length from rfl)]
      exact rp_Le_rfl
    have hge : ∀ i, i < wlen j → ¬ Int32.ofNat (rp_tx j).length ≤ nI i := fun i hi => nI_ge (b := wlen j) hi (by omega)
    rcases lp_first (E := fun i => EV sc (43, 0, 0, 20, [.ref 32, .ref (1000 + j), .int (nI i)], [], (rp_L0, μ))) (r1 := fun _ => RI (nI 0) μ) (r0 := RI (nI 1) μ) (P := fun i => ¬ t (f + i) = wn j i) (wlen j) 0 (wlen j) (by omega)
      (fun i _ hi hp => by
        have w := wn_ok j hj i hi
        have q := (h.2.2 (f + i) (by omega)).2
        refine rp_Le_tr ?_ (D_LawText_isAtHand_20 hj _ μ)
        rw [if_neg (hge i hi), z2, nI_add, y_byteAt h (show f + i < n by omega), thI_RI, ixT (show i < (rp_tx j).length from hi) (by have : (rp_tx j).length = wlen j := rfl; omega), cond_true, nI_clamp (by omega), w.1, if_neg (by rw [nI_eq (by omega) (by omega)]; exact hp)]
        exact rp_Le_rfl)
      (fun i _ hi hp => by
        have w := wn_ok j hj i hi
        have hp : t (f + i) = wn j i := Classical.byContradiction hp
        refine rp_Le_tr ?_ (D_LawText_isAtHand_20 hj _ μ)
        rw [if_neg (hge i hi), z2, nI_add, y_byteAt h (show f + i < n by omega), thI_RI, ixT (show i < (rp_tx j).length from hi) (by have : (rp_tx j).length = wlen j := rfl; omega), cond_true, nI_clamp (by omega), w.1, hp, if_pos rfl, nI_1]
        exact rp_Le_rfl)
      (by
        refine rp_Le_tr ?_ (D_LawText_isAtHand_20 hj _ μ)
        rw [if_pos (show Int32.ofNat (rp_tx j).length ≤ nI (wlen j) from nI_le (Nat.le_refl _) (by omega))]
        exact rp_Le_rfl) with ⟨i, -, h1, h2, -, L⟩ | ⟨h1, L⟩
    · have : wdB t f b j = false := by rw [← Bool.not_eq_true, wdB_iff]; exact fun q => h2 (q.2 i h1)
      rw [this]
      exact cl_le rfl (rp_Le_tr L S0)
    · have : wdB t f b j = true := wdB_iff.mpr ⟨hl, fun i hi => Classical.byContradiction (h1 i (by omega) hi)⟩
      rw [this]
      exact cl_le rfl (rp_Le_tr L S0)
  · have : wdB t f b j = false := by rw [← Bool.not_eq_true, wdB_iff]; exact fun q => hl q.1
    rw [this]
    refine cl_of (D_LawText_isAtHand_0 hj μ) rfl ?_
    rw [z2, z3, pk_sub hf, if_neg]
    · rfl
    · intro q
      have q' : nI (b - f) = nI (wlen j) := q
      rw [nI_eq (by omega) (by omega)] at q'
      exact hl q'
theorem y_number (h : CT μ t n) {p f b lo hi : Nat} (hT : TK t n p f b) (z2 : μ 32 2 = nI f) (z3 : μ 32 3 = nI b) (hlo : lo < 2 ^ 31) (hhi : hi < 2 ^ 31) : CL sc 47 [.ref 32, .int (nI lo), .int (nI hi)] μ = RI (bI (nIn t n f b lo hi)) μ := by
  have hn := h.2.1
  obtain ⟨t1, t2, t3, t4, t5, t6, t7⟩ := hT
  have hb256 : ∀ i, i < n → t i < 256 := fun i hi => (h.2.2 i hi).2
  unfold nIn
  by_cases hf : f = n
  · rw [if_neg (by omega)]
    refine cl_of (D_LawText_numberAtHand_0 _ _ μ) rfl ?_
    rw [z2, hf, y_byteEnd h, thI_RI, y_sortEnd, thI_RI, if_neg (by decide)]
    rfl
  · have hfn : f < n := by omega
    obtain ⟨b1, b2', b3⟩ := t7 hfn
    have sl := srt_le (b := t f)
    by_cases hs : srt (t f) = 2
    · by_cases h3 : b - f ≤ 3
      · have hd : ∀ i, i < b - f → 48 ≤ t (f + i) ∧ t (f + i) ≤ 57 := fun i hi => by
          by_cases e : i = 0
          · subst e; exact srt_2.mp hs
          · have := (b2' (f + i) (by omega) (by omega)).2
            rw [hs] at this
            exact srt_2.mp this
        have L := lp (E := fun i => EV sc (47, 0, 0, 38, [.ref 32, .int (nI lo), .int (nI hi), .int (nI (dv t f i)), .int (nI (f + i))], [], (rp_L0, μ))) (n := b - f) (fun i hi => by
          have q := hd i hi
          refine rp_Le_tr ?_ (D_LawText_numberAtHand_38 _ _ _ _ μ)
          have es : 10 * dv t f i + t (f + i) - 48 = dv t f (i + 1) := by
            show _ = 10 * dv t f i + (t (f + i) - 48)
            omega
          simp (disch := omega) only [lt_nI, z3, nI_leI, show ¬ b ≤ f + i by omega, if_false, y_byteAt h (show f + i < n by omega), thI_RI, pk_mul, nI_add, pk_sub, es]
          exact rp_Le_rfl)
        have hv := dv_lt (t := t) (f := f) (m := b - f) fun i hi => (hd i hi).2
        have h10 : 10 ^ (b - f) ≤ 10 ^ 3 := Nat.pow_le_pow_right (by decide) h3
        refine cl_le rfl (rp_Le_tr ?_ (D_LawText_numberAtHand_0 _ _ μ))
        simp (disch := omega) only [lt_nI, z2, z3, y_byteAt h hfn, thI_RI, y_sortOf (hb256 f hfn), hs, if_true, pk_sub, nI_leI, h3]
        refine rp_Le_tr (rp_Le_tr ?_ (D_LawText_numberAtHand_38 _ _ _ _ μ)) L
        have ef : f + (b - f) = b := by omega
        simp (disch := omega) only [lt_nI, ef, z3, nI_leI, Nat.le_refl, if_true, s_isWithin, thI_RI]
        by_cases hr : lo ≤ dv t f (b - f) ∧ dv t f (b - f) ≤ hi
        · rw [if_pos ⟨hfn, trivial, trivial, hr⟩, inB_n hr.1 hr.2 hhi]
          simp only [i_0, if_false]
          exact rp_Le_rfl
        · rw [if_neg (fun q => hr q.2.2.2)]
          have : inB (nI (dv t f (b - f))) (nI lo) (nI hi) = nI 0 := by
            rcases inB_c (nI (dv t f (b - f))) (a := lo) (b := hi) hlo hhi with e | ⟨k, k1, k2, e, -⟩
            · exact e
            · rw [nI_eq (by omega) (by omega)] at e
              exact absurd ⟨by omega, by omega⟩ hr
          rw [this]
          simp only [i_1, if_true]
          exact rp_Le_rfl
      · rw [if_neg (fun q => h3 q.2.2.1)]
        refine cl_of (D_LawText_numberAtHand_0 _ _ μ) rfl ?_
        simp (disch := omega) only [lt_nI, z2, z3, y_byteAt h hfn, thI_RI, y_sortOf (hb256 f hfn), hs, if_true, pk_sub, nI_leI, h3, if_false]
        rfl
    · rw [if_neg (fun q => hs q.2.1)]
      refine cl_of (D_LawText_numberAtHand_0 _ _ μ) rfl ?_
      simp (disch := omega) only [lt_nI, z2, y_byteAt h hfn, thI_RI, y_sortOf (hb256 f hfn), nI_eq, hs, if_false]
      rfl
end
