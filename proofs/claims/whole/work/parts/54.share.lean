/-! parts -/
def fS (A S : Nat) (m : Nat → Nat) (r : Nat) : Nat := A * m r / S
def rS (A S : Nat) (m : Nat → Nat) (r : Nat) : Nat := A * m r % S
def leftN (A S : Nat) (m : Nat → Nat) : Nat := A - sumn (fS A S m) 5
def allE : Nat → Bool := fun _ => true
def shN (A S : Nat) (m : Nat → Nat) (w : Nat) : Nat := if S = 0 then (if w = 0 then A else 0) else fS A S m w + (if rk allE (rS A S m) 5 w < leftN A S m then 1 else 0)
def r1 (t : Bool) (n : Nat) : Int32 := if t then -1 else nI n
def r1N (t : Bool) (n : Nat) : Nat := if t then 0 else n + 1
theorem r1_le {t t' : Bool} {n m : Nat} (hn : n < 2 ^ 31) (hm : m < 2 ^ 31) : r1 t n ≤ r1 t' m ↔ r1N t n ≤ r1N t' m := by
  unfold r1 r1N
  cases t with
  | true =>
    cases t' with
    | true => simp
    | false =>
      simp
      have h : (0 : Int32) ≤ nI m := nI_pos' hm
      exact Int32.le_trans (by decide) h
  | false =>
    cases t' with
    | true =>
      simp
      have h : (0 : Int32) ≤ nI n := nI_pos' hn
      exact Int32.lt_of_lt_of_le (by decide) h
    | false => simp; exact nI_leI hn hm
section
variable {A S : Nat} {m : Nat → Nat}
theorem sum_f {i : Nat} : S * sumn (fS A S m) i ≤ A * sumn m i := by
  induction i with
  | zero => exact Nat.le_refl _
  | succ i ih =>
    unfold sumn
    have h := Nat.mul_div_le (A * m i) S
    rw [Nat.mul_add, Nat.mul_add]
    exact Nat.add_le_add ih h
theorem sum_mono {f : Nat → Nat} {i j : Nat} (h : i ≤ j) : sumn f i ≤ sumn f j := by
  induction h with
  | refl => exact Nat.le_refl _
  | step _ ih => exact Nat.le_trans ih (Nat.le_add_right _ _)
theorem sum_fA (hS : 0 < S) (hm : sumn m 5 = S) {i : Nat} (hi : i ≤ 5) : sumn (fS A S m) i ≤ A := by
  have h1 := sum_f (A := A) (S := S) (m := m) (i := i)
  have h2 : sumn m i ≤ S := by rw [← hm]; exact sum_mono hi
  have h3 : S * sumn (fS A S m) i ≤ S * A := by
    rw [Nat.mul_comm S A]
    exact Nat.le_trans h1 (Nat.mul_le_mul_left _ h2)
  exact Nat.le_of_mul_le_mul_left h3 hS
theorem sum_r {i : Nat} : sumn (rS A S m) i + S * sumn (fS A S m) i = A * sumn m i := by
  induction i with
  | zero => rfl
  | succ i ih =>
    unfold sumn
    have h : rS A S m i + S * fS A S m i = A * m i := Nat.mod_add_div (A * m i) S
    rw [Nat.mul_add, Nat.mul_add, ← ih, ← h]
    omega
theorem left_lt (hS : 0 < S) (hm : sumn m 5 = S) : leftN A S m < 5 := by
  have h1 := sum_r (A := A) (S := S) (m := m) (i := 5)
  rw [hm] at h1
  have h2 : sumn (rS A S m) 5 < S * 5 := by
    have : ∀ i, sumn (rS A S m) i ≤ S * i ∧ (0 < i → sumn (rS A S m) i < S * i) := by
      intro i
      induction i with
      | zero => exact ⟨Nat.le_refl _, fun h => absurd h (by omega)⟩
      | succ i ih =>
        have : rS A S m i < S := Nat.mod_lt _ hS
        unfold sumn
        rw [Nat.mul_succ]
        exact ⟨by omega, fun _ => by omega⟩
    exact (this 5).2 (by decide)
  have h3 := sum_fA (A := A) hS hm (Nat.le_refl 5)
  unfold leftN
  have h4 : S * (A - sumn (fS A S m) 5) < S * 5 := by
    rw [Nat.mul_sub, Nat.mul_comm S A]
    omega
  exact Nat.lt_of_mul_lt_mul_left h4
end
theorem okT_s {T : Nat → Nat} {c : Nat} (h : okT T c) : sumn (fun r => T (4 + r)) 5 = T 3 := by
  have := h.1
  show 0 + T 4 + T 5 + T 6 + T 7 + T 8 = T 3
  omega
section
variable {sc : rp_Sc} {σ μ : rp_Mm} {T : Nat → Nat}
theorem y_milesBy (h : LM σ σ T) {w : Nat} (hw : w < 5) : CL sc 138 [.ref 45, .int (nI w)] σ = RI (nI (T (4 + w))) σ := by
  refine cl_of (D_Ledger_milesBy_0 _ σ) rfl ?_
  simp (disch := omega) only [lt_nI, nI_clamp, nI_leI, nI_ltI, nI_eq, ixT, cond_true, show ¬ w < 0 by omega, show ¬ 5 ≤ w by omega, if_false, h.2.2.2.2 w hw]
theorem y_allMiles (h : LM σ σ T) {c : Nat} (ok : okT T c) : CL sc 137 [.ref 45] σ = RI (nI (T 3)) σ := by
  refine cl_le rfl (rp_Le_tr ?_ (D_Ledger_allMiles_0 σ))
  have L := lp (E := fun r => EV sc (137, 0, 0, 4, [.ref 45, .int (nI (sumn (fun r => T (4 + r)) r)), .int (nI r)], [], (rp_L0, σ))) (n := 5) (fun r hr => by
    refine rp_Le_tr ?_ (D_Ledger_allMiles_4 _ _ σ)
    simp (disch := omega) only [lt_nI, nI_leI, show ¬ 5 ≤ r by omega, if_false, y_milesBy h hr, thI_RI, nI_add]
    exact rp_Le_rfl)
  refine rp_Le_tr (rp_Le_tr ?_ (D_Ledger_allMiles_4 _ _ σ)) L
  simp (disch := omega) only [lt_nI, nI_leI, Nat.le_refl, if_true, okT_s ok]
  exact rp_Le_rfl
theorem y_share (h : LM σ σ T) (ok : okT T 163878) {A w : Nat} (hA : A ≤ 999) (hw : w < 5) : CL sc 140 [.ref 45, .int (nI A), .int (nI w)] σ = RI (nI (shN A (T 3) (fun r => T (4 + r)) w)) σ := by
  obtain ⟨S, eS⟩ : ∃ S, S = T 3 := ⟨_, rfl⟩
  obtain ⟨m, em⟩ : ∃ m : Nat → Nat, m = fun r => T (4 + r) := ⟨_, rfl⟩
  have hsum : sumn m 5 = S := by rw [em, eS]; exact okT_s ok
  have hS3 : S ≤ 163878 := by rw [eS]; exact ok.2 3 (by decide)
  have hmr : ∀ r, r < 5 → m r ≤ 163878 := fun r hr => by rw [em]; exact ok.2 (4 + r) (by omega)
  have eM : ∀ r, r < 5 → CL sc 138 [.ref 45, .int (nI r)] σ = RI (nI (m r)) σ := fun r hr => by rw [em]; exact y_milesBy h hr
  have eA := y_allMiles (sc := sc) h ok
  rw [← eS, ← em]
  rw [← eS] at eA
  have hAm : ∀ r, r < 5 → A * m r < 2 ^ 31 := fun r hr => Nat.lt_of_le_of_lt (Nat.mul_le_mul hA (hmr r hr)) (by decide)
  refine cl_le rfl (rp_Le_tr ?_ (D_Ledger_share_0 _ _ σ))
  unfold shN
  by_cases h0 : S = 0
  · rw [if_pos h0]
    simp (disch := omega) only [lt_nI, eA, thI_RI, nI_ltI, h0, Nat.lt_irrefl, if_false, nI_eq]
    by_cases hw0 : w = 0
    · simp only [hw0, if_true]; exact rp_Le_rfl
    · simp only [hw0, if_false]; exact rp_Le_rfl
  · rw [if_neg h0]
    have hS : 0 < S := by omega
    have dv : ∀ r, r < 5 → nI (A * m r) / nI S = nI (fS A S m r) := fun r hr => pk_div (hAm r hr) hS (by omega)
    have rm : ∀ r, r < 5 → nI (A * m r) - nI (fS A S m r) * nI S = nI (rS A S m r) := fun r hr => rem_d (hAm r hr) hS (by omega)
    have rlt : ∀ r, rS A S m r < S := fun r => Nat.mod_lt _ hS
    have flt : ∀ r, r < 5 → fS A S m r < 2 ^ 31 := fun r hr => Nat.lt_of_le_of_lt (Nat.div_le_self _ _) (hAm r hr)
    obtain ⟨P, hP⟩ : ∃ P : Nat → Bool, P = fun a => bet allE (rS A S m) a w := ⟨_, rfl⟩
    have hPi : ∀ a, P a = true ↔ (rS A S m w < rS A S m a ∨ (rS A S m a = rS A S m w ∧ a < w)) := fun a => by
      rw [hP]
      dsimp only
      rw [bet_iff]
      exact ⟨fun q => q.2, fun q => ⟨rfl, q⟩⟩
    have L := lp (E := fun r => EV sc (140, 0, 0, 39, [.ref 45, .int (nI A), .int (nI w), .int (nI S), .int (nI (A - sumn (fS A S m) r)), .int (nI (cnt P r)), .int (nI (rS A S m w)), .int (nI r), rp_U], [], (rp_L0, σ))) (n := 5) (fun r hr => by
      have q1 := sum_fA (A := A) hS hsum (i := r + 1) (by omega)
      have q0 := rlt r
      have qw := rlt w
      have T95 : ∀ x4 x5 x8, rp_Le (EV sc (140, 0, 0, 39, [.ref 45, .int (nI A), .int (nI w), .int (nI S), .int x4, .int x5, .int (nI (rS A S m w)), .int (nI (r + 1)), rp_U], [], (rp_L0, σ))) (EV sc (140, 0, 0, 95, [.ref 45, .int (nI A), .int (nI w), .int (nI S), .int x4, .int x5, .int (nI (rS A S m w)), .int (nI r), .int x8], [], (rp_L0, σ))) := fun x4 x5 x8 => by
        refine rp_Le_tr ?_ (D_Ledger_share_95 _ _ _ _ _ _ _ _ σ)
        simp only [lt_nI, nI_add]
        exact rp_Le_rfl
      have T92 : ∀ x4 x5 x8, rp_Le (EV sc (140, 0, 0, 39, [.ref 45, .int (nI A), .int (nI w), .int (nI S), .int x4, .int (nI (x5 + 1)), .int (nI (rS A S m w)), .int (nI (r + 1)), rp_U], [], (rp_L0, σ))) (EV sc (140, 0, 0, 92, [.ref 45, .int (nI A), .int (nI w), .int (nI S), .int x4, .int (nI x5), .int (nI (rS A S m w)), .int (nI r), .int x8], [], (rp_L0, σ))) := fun x4 x5 x8 => by
        refine rp_Le_tr (rp_Le_tr (T95 x4 _ x8) ?_) (D_Ledger_share_92 _ _ _ _ _ _ _ _ σ)
        simp only [lt_nI, nI_add]
        exact rp_Le_rfl
      have es : nI (A - sumn (fS A S m) r) - nI (fS A S m r) = nI (A - sumn (fS A S m) (r + 1)) := by
        rw [show sumn (fS A S m) (r + 1) = sumn (fS A S m) r + fS A S m r from rfl] at q1 ⊢
        rw [pk_sub (by omega)]
        congr 1
        omega
      refine rp_Le_tr ?_ (D_Ledger_share_39 _ _ _ _ _ _ _ σ)
      simp (disch := omega) only [lt_nI, nI_leI, nI_ltI, nI_eq, show ¬ 5 ≤ r by omega, if_false, eM r hr, thI_RI, h0, pk_mul, dv r hr]
      rw [← pk_mul (fS A S m r) S, rm r hr, es]
      simp (disch := omega) only [nI_leI, nI_ltI, nI_eq]
      show rp_Le (EV sc (140, 0, 0, 39, [.ref 45, .int (nI A), .int (nI w), .int (nI S), .int (nI (A - sumn (fS A S m) (r + 1))), .int (nI (cnt P r + (if P r then 1 else 0))), .int (nI (rS A S m w)), .int (nI (r + 1)), rp_U], [], (rp_L0, σ))) _
      by_cases c1 : rS A S m w < rS A S m r
      · rw [(hPi r).mpr (Or.inl c1)]
        simp only [eq_true c1, if_true]
        exact T92 _ _ _
      · by_cases c2 : rS A S m r = rS A S m w
        · by_cases c3 : w ≤ r
          · have : P r = false := by rw [← Bool.not_eq_true, hPi]; omega
            rw [this]
            simp only [eq_false c1, eq_true c2, eq_true c3, if_true, if_false]
            exact T95 _ _ _
          · rw [(hPi r).mpr (Or.inr ⟨c2, by omega⟩)]
            simp only [eq_false c1, eq_true c2, eq_false c3, if_true, if_false]
            exact T92 _ _ _
        · have : P r = false := by rw [← Bool.not_eq_true, hPi]; omega
          rw [this]
          simp only [eq_false c1, eq_false c2, if_false]
          exact T95 _ _ _)
    have hcP := cnt_le P 5
    have erk : rk allE (rS A S m) 5 w = cnt P 5 := by rw [hP]; rfl
    have hrw := rm w hw
    simp (disch := omega) only [lt_nI, eA, thI_RI, nI_ltI, nI_eq, hS, if_true, eM w hw, h0, if_false, pk_mul, dv w hw]
    rw [← pk_mul (fS A S m w) S, hrw]
    refine rp_Le_tr (rp_Le_tr ?_ (D_Ledger_share_39 _ _ _ _ _ _ _ σ)) L
    have hA5 := sum_fA (A := A) hS hsum (i := 5) (by omega)
    have fw := flt w hw
    simp (disch := omega) only [lt_nI, nI_leI, Nat.le_refl, if_true, eM w hw, thI_RI, nI_eq, h0, if_false, pk_mul, dv w hw, nI_add]
    rw [erk]
    unfold leftN
    by_cases c : A - sumn (fS A S m) 5 ≤ cnt P 5
    · rw [if_neg (by omega)]
      simp only [eq_true c, if_true]
      exact rp_Le_rfl
    · rw [if_pos (by omega)]
      simp only [eq_false c, if_false]
      exact rp_Le_rfl
end
