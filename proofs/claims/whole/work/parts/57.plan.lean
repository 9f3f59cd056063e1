/-! wishes: what a law gains on each day -/
def cwN (r : rp_Mm) (g : Nat → Nat) (w : Nat) : Nat := cdN r (ws r w 0) (ws r w 1) (g 5)
def faN (r : rp_Mm) (w : Nat) : Nat := tr r (ws r w 0) 6
def pyN (r : rp_Mm) (g : Nat → Nat) (w : Nat) : Nat := paysN r (g 6) (g 7) (ws r w 0)
def gaN (r : rp_Mm) (g : Nat → Nat) (w : Nat) : Nat := if leN r (g 3) (g 4) (ws r w 0) = 1 ∧ pyN r g w < faN r w then faN r w - pyN r g w else 0
def goN (r : rp_Mm) (g : Nat → Nat) (w : Nat) : Nat := if leN r (g 3) (g 4) (ws r w 0) = 1 ∧ pyN r g w < faN r w then 1 else 0
def gd (r : rp_Mm) (g : Nat → Nat) (n d : Nat) : Nat := sumn (fun w => if cwN r g w = d then gaN r g w else 0) n
def qd (r : rp_Mm) (g : Nat → Nat) (n d : Nat) : Nat := sumn (fun w => if cwN r g w = d then goN r g w else 0) n
def frN (r : rp_Mm) (n : Nat) : Nat := sumn (faN r) n
theorem gd_s {r : rp_Mm} {g : Nat → Nat} {n d : Nat} : gd r g (n + 1) d = gd r g n d + (if cwN r g n = d then gaN r g n else 0) := rfl
theorem qd_s {r : rp_Mm} {g : Nat → Nat} {n d : Nat} : qd r g (n + 1) d = qd r g n d + (if cwN r g n = d then goN r g n else 0) := rfl
theorem sum_zero {f : Nat → Nat} : ∀ {n : Nat}, (∀ i, i < n → f i = 0) → sumn f n = 0 := by
  intro n
  induction n with
  | zero => intro _; rfl
  | succ n ih => intro h; unfold sumn; rw [ih fun i hi => h i (by omega), h n (by omega)]
theorem gd_0 {r : rp_Mm} {g : Nat → Nat} {n d : Nat} (h : ∀ w, w < n → cwN r g w ≠ d) : gd r g n d = 0 ∧ qd r g n d = 0 := ⟨sum_zero fun i hi => if_neg (h i hi), sum_zero fun i hi => if_neg (h i hi)⟩
section
variable {r : rp_Mm} {g : Nat → Nat}
theorem cw_le (h : RB r) {w : Nat} (hw : w < nW r) : cwN r g w ≤ 121 := by
  have b := b_ws h hw
  have := cdN_le r (ws r w 0) (ws r w 1) (g 5)
  unfold cwN
  omega
theorem fa_le (h : RB r) {w : Nat} (hw : w < nW r) : faN r w ≤ 500 := by
  have b := b_ws h hw
  have := b_tr h b.1
  unfold faN
  omega
theorem ga_le (h : RB r) {w : Nat} (hw : w < nW r) : gaN r g w ≤ 500 := by
  have := fa_le h hw
  unfold gaN
  split <;> omega
theorem go_le {w : Nat} : goN r g w ≤ 1 := by
  unfold goN
  split <;> omega
theorem gd_le (h : RB r) {n d : Nat} (hn : n ≤ nW r) : gd r g n d ≤ n * 500 := sumn_le fun i hi => by
  have := ga_le (g := g) h (show i < nW r by omega)
  split <;> omega
theorem qd_le {n d : Nat} : qd r g n d ≤ n * 1 := sumn_le fun i hi => by
  have := go_le (r := r) (g := g) (w := i)
  split <;> omega
theorem fr_le (h : RB r) {n : Nat} (hn : n ≤ nW r) : frN r n ≤ n * 500 := sumn_le fun i hi => fa_le h (by omega)
end
/-! the class's plan -/
def PA (μ : rp_Mm) (s : Nat) (δ A B : Nat → Nat) : Prop := ∀ i, i < s → μ 38 i = nI (δ i) ∧ μ 39 i = nI (A i) ∧ μ 40 i = nI (B i)
def PL (σ μ r : rp_Mm) (g : Nat → Nat) (n : Nat) (δ : Nat → Nat) (s : Nat) : Prop :=
  Fr (fun a k => (a = 37 ∧ 3 ≤ k ∧ k ≤ 9) ∨ (38 ≤ a ∧ a ≤ 41)) σ μ ∧ (μ 37 3 = nI s ∧ μ 37 6 = nI (g 0) ∧ μ 37 7 = nI (g 1) ∧ μ 37 8 = nI (g 2) ∧ μ 37 9 = nI (frN r n)) ∧ s ≤ n ∧
  PA μ s δ (fun i => gd r g n (δ i)) (fun i => qd r g n (δ i)) ∧ (∀ i j, i < j → j < s → δ i < δ j) ∧ (∀ i, i < s → ∃ w, w < n ∧ cwN r g w = δ i) ∧ ∀ w, w < n → ∃ i, i < s ∧ δ i = cwN r g w
section
variable {sc : rp_Sc} {σ μ r : rp_Mm}
theorem y_dayAt {i : Nat} (hi : i < 10) : CL sc 91 [.ref 37, .int (nI i)] σ = RI (σ 38 i) σ := by
  refine cl_of (D_Plan_dayAt_0 _ σ) rfl ?_
  simp (disch := omega) only [lt_nI, nI_clamp, nI_leI, nI_ltI, nI_eq, ixT, cond_true, show ¬ i < 0 by omega, show ¬ 10 ≤ i by omega, if_false]
theorem y_sparedAt {i : Nat} (hi : i < 10) : CL sc 92 [.ref 37, .int (nI i)] σ = RI (σ 39 i) σ := by
  refine cl_of (D_Plan_sparedAt_0 _ σ) rfl ?_
  simp (disch := omega) only [lt_nI, nI_clamp, nI_leI, nI_ltI, nI_eq, ixT, cond_true, show ¬ i < 0 by omega, show ¬ 10 ≤ i by omega, if_false]
theorem y_goersAt {i : Nat} (hi : i < 10) : CL sc 93 [.ref 37, .int (nI i)] σ = RI (σ 40 i) σ := by
  refine cl_of (D_Plan_goersAt_0 _ σ) rfl ?_
  simp (disch := omega) only [lt_nI, nI_clamp, nI_leI, nI_ltI, nI_eq, ixT, cond_true, show ¬ i < 0 by omega, show ¬ 10 ≤ i by omega, if_false]
theorem y_putP {i : Nat} {a b c : Int32} (hi : i < 10) : CL sc 94 [.ref 37, .int (nI i), .int a, .int b, .int c] σ = RV (rp_wr (rp_wr (rp_wr σ 38 i a) 39 i b) 40 i c) := by
  refine cl_of (D_Plan_put_0 _ _ _ _ σ) rfl ?_
  simp (disch := omega) only [lt_nI, nI_clamp, nI_leI, nI_ltI, nI_eq, ixT, cond_true, show ¬ i < 0 by omega, show ¬ 10 ≤ i by omega, if_false]
/-- the rows from a on move up by one, and d is put at a -/
theorem y_shift {s a d : Nat} {δ A B : Nat → Nat} (hs : s < 10) (ha : a ≤ s) (hz : μ 37 3 = nI s) (hA : PA μ s δ A B) : ∃ μ', rp_Le (RI (nI a) μ') (EV sc (90, 0, 0, 58, [.ref 37, .int (nI d), .int (nI a), .int (nI s)], [], (rp_L0, μ))) ∧ Fr (fun a k => (a = 37 ∧ k = 3) ∨ (38 ≤ a ∧ a ≤ 40)) μ μ' ∧ μ' 37 3 = nI (s + 1) ∧ PA μ' (s + 1) (insO δ a d) (insO A a 0) (insO B a 0) := by
  have LL : ∀ (x : Nat) (ν : rp_Mm), a ≤ x → x ≤ s → Fr (fun a k => (a = 37 ∧ k = 3) ∨ (38 ≤ a ∧ a ≤ 40)) μ ν → ν 37 3 = nI s → (∀ i, i < x → ν 38 i = nI (δ i) ∧ ν 39 i = nI (A i) ∧ ν 40 i = nI (B i)) → (∀ i, x ≤ i → i < s → ν 38 (i + 1) = nI (δ i) ∧ ν 39 (i + 1) = nI (A i) ∧ ν 40 (i + 1) = nI (B i)) → ∃ μ', rp_Le (RI (nI a) μ') (EV sc (90, 0, 0, 58, [.ref 37, .int (nI d), .int (nI a), .int (nI x)], [], (rp_L0, ν))) ∧ Fr (fun a k => (a = 37 ∧ k = 3) ∨ (38 ≤ a ∧ a ≤ 40)) μ μ' ∧ μ' 37 3 = nI (s + 1) ∧ PA μ' (s + 1) (insO δ a d) (insO A a 0) (insO B a 0) := by
    intro x
    induction x with
    | zero =>
      intro ν h1 h2 f z v w
      have e0 : a = 0 := by omega
      have ep := y_putP (sc := sc) (σ := ν) (i := a) (a := nI d) (b := nI 0) (c := nI 0) (by omega)
      refine ⟨rp_wr (rp_wr (rp_wr (rp_wr ν 38 a (nI d)) 39 a (nI 0)) 40 a (nI 0)) 37 3 (nI (s + 1)), rp_Le_tr ?_ (D_Plan_placeOf_58 _ _ _ ν), Fr_wr (Fr_wr (Fr_wr (Fr_wr f (by omega)) (by omega)) (by omega)) (Or.inl ⟨rfl, rfl⟩), wr_eq, fun i hi => ?_⟩
      · simp (disch := omega) only [lt_nI, nI_leI, show 0 ≤ a by omega, if_true, ep, thV_RV, wr_n2, z, nI_add]
        exact rp_Le_rfl
      · unfold insO
        by_cases q : i = a
        · subst q
          simp (disch := omega) only [wr_n2, wr_eq, Nat.lt_irrefl, if_false, if_true]
          exact ⟨trivial, trivial, trivial⟩
        · have := w (i - 1) (by omega) (by omega)
          rw [show i - 1 + 1 = i by omega] at this
          simp (disch := omega) only [wr_n2, wr_nk, show ¬ i < a by omega, q, if_false]
          exact this
    | succ x ih =>
      intro ν h1 h2 f z v w
      by_cases hx : x + 1 ≤ a
      · have e0 : a = x + 1 := by omega
        have ep := y_putP (sc := sc) (σ := ν) (i := a) (a := nI d) (b := nI 0) (c := nI 0) (by omega)
        refine ⟨rp_wr (rp_wr (rp_wr (rp_wr ν 38 a (nI d)) 39 a (nI 0)) 40 a (nI 0)) 37 3 (nI (s + 1)), rp_Le_tr ?_ (D_Plan_placeOf_58 _ _ _ ν), Fr_wr (Fr_wr (Fr_wr (Fr_wr f (by omega)) (by omega)) (by omega)) (Or.inl ⟨rfl, rfl⟩), wr_eq, fun i hi => ?_⟩
        · simp (disch := omega) only [lt_nI, nI_leI, hx, if_true, ep, thV_RV, wr_n2, z, nI_add]
          exact rp_Le_rfl
        · unfold insO
          by_cases q : i = a
          · subst q
            simp (disch := omega) only [wr_n2, wr_eq, Nat.lt_irrefl, if_false, if_true]
            exact ⟨trivial, trivial, trivial⟩
          · by_cases q2 : i < a
            · simp (disch := omega) only [wr_n2, wr_nk, q2, if_true]
              exact v i (by omega)
            · have := w (i - 1) (by omega) (by omega)
              rw [show i - 1 + 1 = i by omega] at this
              simp (disch := omega) only [wr_n2, wr_nk, q2, q, if_false]
              exact this
      · have vx := v x (by omega)
        have ep := y_putP (sc := sc) (σ := ν) (i := x + 1) (a := nI (δ x)) (b := nI (A x)) (c := nI (B x)) (by omega)
        have e1 := y_dayAt (sc := sc) (σ := ν) (i := x) (by omega)
        have e2 := y_sparedAt (sc := sc) (σ := ν) (i := x) (by omega)
        have e3 := y_goersAt (sc := sc) (σ := ν) (i := x) (by omega)
        rw [vx.1] at e1
        rw [vx.2.1] at e2
        rw [vx.2.2] at e3
        obtain ⟨μ', L, q⟩ := ih (rp_wr (rp_wr (rp_wr ν 38 (x + 1) (nI (δ x))) 39 (x + 1) (nI (A x))) 40 (x + 1) (nI (B x))) (by omega) (by omega) (Fr_wr (Fr_wr (Fr_wr f (by omega)) (by omega)) (by omega)) (by simp (disch := omega) only [wr_n2]; exact z) (fun i hi => by simp (disch := omega) only [wr_n2, wr_nk]; exact v i (by omega)) (fun i h3 h4 => by
          by_cases q : i = x
          · subst q
            simp (disch := omega) only [wr_n2, wr_eq]
            exact ⟨trivial, trivial, trivial⟩
          · simp (disch := omega) only [wr_n2, wr_nk]
            exact w i (by omega) h4)
        refine ⟨μ', rp_Le_tr (rp_Le_tr L ?_) (D_Plan_placeOf_58 _ _ _ ν), q⟩
        have em : nI (x + 1) + -1 = nI x := pk_m1 x
        simp (disch := omega) only [nI_leI, hx, if_false, nI_pred, e1, e2, e3, thI_RI, ep, thV_RV, em]
        exact rp_Le_rfl
  exact LL s μ ha (Nat.le_refl _) Fr_rfl hz hA (fun i h1 h2 => absurd h1 (by omega))
theorem y_place {s d : Nat} {δ A B : Nat → Nat} (hs : s < 10) (hd : d ≤ 121) (hδ : ∀ i, i < s → δ i ≤ 121) (hz : μ 37 3 = nI s) (hA : PA μ s δ A B) : ∃ a μ', CL sc 90 [.ref 37, .int (nI d)] μ = RI (nI a) μ' ∧ a ≤ s ∧ (∀ i, i < a → δ i < d) ∧ ((a < s ∧ δ a = d ∧ μ' = μ) ∨ ((a = s ∨ d < δ a) ∧ Fr (fun a k => (a = 37 ∧ k = 3) ∨ (38 ≤ a ∧ a ≤ 40)) μ μ' ∧ μ' 37 3 = nI (s + 1) ∧ PA μ' (s + 1) (insO δ a d) (insO A a 0) (insO B a 0))) := by
  have ed : ∀ i, i < s → CL sc 91 [.ref 37, .int (nI i)] μ = RI (nI (δ i)) μ := fun i hi => by rw [y_dayAt (by omega), (hA i hi).1]
  have T42 : ∀ a, rp_Le (EV sc (90, 0, 0, 58, [.ref 37, .int (nI d), .int (nI a), .int (nI s)], [], (rp_L0, μ))) (EV sc (90, 0, 0, 42, [.ref 37, .int (nI d), .int (nI a), rp_U], [], (rp_L0, μ))) := fun a => by
    refine rp_Le_tr ?_ (D_Plan_placeOf_42 _ _ μ)
    simp (disch := omega) only [lt_nI, hz, nI_ltI, hs, if_true]
    exact rp_Le_rfl
  -- behind the search
  have H : ∀ a, a ≤ s → (∀ i, i < a → δ i < d) → (a < s → d ≤ δ a) → rp_Le (EV sc (90, 0, 0, 25, [.ref 37, .int (nI d), .int (nI a), rp_U], [], (rp_L0, μ))) (EV sc (90, 0, 0, 2, [.ref 37, .int (nI d), .int (nI 0), rp_U], [], (rp_L0, μ))) → ∃ a μ', CL sc 90 [.ref 37, .int (nI d)] μ = RI (nI a) μ' ∧ a ≤ s ∧ (∀ i, i < a → δ i < d) ∧ ((a < s ∧ δ a = d ∧ μ' = μ) ∨ ((a = s ∨ d < δ a) ∧ Fr (fun a k => (a = 37 ∧ k = 3) ∨ (38 ≤ a ∧ a ≤ 40)) μ μ' ∧ μ' 37 3 = nI (s + 1) ∧ PA μ' (s + 1) (insO δ a d) (insO A a 0) (insO B a 0))) := by
    intro a ha h1 h2 L
    by_cases h3 : a < s ∧ δ a = d
    · refine ⟨a, μ, cl_le rfl (rp_Le_tr (rp_Le_tr (rp_Le_tr ?_ (D_Plan_placeOf_25 _ _ μ)) L) (D_Plan_placeOf_0 _ μ)), ha, h1, Or.inl ⟨h3.1, h3.2, rfl⟩⟩
      simp (disch := omega) only [hz, nI_leI, show ¬ s ≤ a by omega, if_false, ed a h3.1, thI_RI, h3.2, if_true]
      exact rp_Le_rfl
    · obtain ⟨μ', L', q1, q2, q3⟩ := y_shift (sc := sc) (d := d) hs ha hz hA
      refine ⟨a, μ', cl_le rfl (rp_Le_tr (rp_Le_tr (rp_Le_tr (rp_Le_tr (rp_Le_tr L' (T42 a)) ?_) (D_Plan_placeOf_25 _ _ μ)) L) (D_Plan_placeOf_0 _ μ)), ha, h1, Or.inr ⟨by omega, q1, q2, q3⟩⟩
      by_cases h4 : a < s
      · have := hδ a h4
        simp (disch := omega) only [hz, nI_leI, show ¬ s ≤ a by omega, if_false, ed a h4, thI_RI, nI_eq, show ¬ δ a = d by omega]
        exact rp_Le_rfl
      · simp (disch := omega) only [hz, nI_leI, show s ≤ a by omega, if_true]
        exact rp_Le_rfl
  rcases lp_first (E := fun i => EV sc (90, 0, 0, 2, [.ref 37, .int (nI d), .int (nI i), rp_U], [], (rp_L0, μ))) (r1 := fun i => EV sc (90, 0, 0, 25, [.ref 37, .int (nI d), .int (nI i), rp_U], [], (rp_L0, μ))) (r0 := EV sc (90, 0, 0, 25, [.ref 37, .int (nI d), .int (nI s), rp_U], [], (rp_L0, μ))) (P := fun i => d ≤ δ i) s 0 s (by omega)
    (fun i _ hi hP => by
      have := hδ i hi
      refine rp_Le_tr ?_ (D_Plan_placeOf_2 _ _ μ)
      simp (disch := omega) only [hz, nI_leI, show ¬ s ≤ i by omega, if_false, ed i hi, thI_RI, hP, if_true]
      exact rp_Le_rfl)
    (fun i _ hi hP => by
      have := hδ i hi
      refine rp_Le_tr ?_ (D_Plan_placeOf_2 _ _ μ)
      simp (disch := omega) only [lt_nI, nI_add, hz, nI_leI, show ¬ s ≤ i by omega, if_false, ed i hi, thI_RI, hP]
      exact rp_Le_rfl)
    (by
      refine rp_Le_tr ?_ (D_Plan_placeOf_2 _ _ μ)
      simp (disch := omega) only [hz, nI_leI, Nat.le_refl, if_true]
      exact rp_Le_rfl) with ⟨j, -, h1, h2, h3, h4⟩ | ⟨h1, h2⟩
  · exact H j (by omega) (fun i hi => Nat.lt_of_not_le (h3 i (by omega) hi)) (fun _ => h2) h4
  · exact H s (Nat.le_refl _) (fun i hi => Nat.lt_of_not_le (h1 i (by omega) hi)) (fun h => absurd h (by omega)) h2
end
