/-! the two sides are made: what they hold at first -/
theorem xi_hp {sc : rp_Sc} {I : Instr} {i : rp_In} {b : Bool} {h : rp_Hp} {st : List Value} {y : rp_Hp × List Value} (hx : rp_heap none I i b h st = some y) : rp_heap sc I i b h st = some y := by
  unfold rp_heap at hx ⊢
  cases I with
  | iaload =>
    dsimp only at hx ⊢
    split at hx
    · cases hx
    · exact hx
    · cases hx
  | arraylength =>
    dsimp only at hx ⊢
    split at hx
    · cases hx
    · exact hx
    · cases hx
  | _ => exact hx
theorem xi_one {sc : rp_Sc} {I : Instr} {n m uc us pc : Nat} {i : rp_In} {ls st : List Value} {h : rp_Hp} {y : rp_St} (hx : rp_one rp_mt rp_cf rp_tx none I n i m uc us pc ls st h = some y) : rp_one rp_mt rp_cf rp_tx sc I n i m uc us pc ls st h = some y := by
  unfold rp_one at hx ⊢
  cases hI : rp_isHeap I with
  | false => rw [hI] at hx; exact hx
  | true =>
    rw [hI] at hx
    dsimp only [cond] at hx ⊢
    cases hq : rp_heap none I i (!i.2.2.2.isEmpty) h st with
    | none => rw [hq] at hx; cases hx
    | some q => rw [xi_hp hq]; rw [hq] at hx; exact hx
theorem xi_front {sc : rp_Sc} {s : rp_As} {y : rp_St} (hx : rp_front rp_mt rp_mi rp_cf rp_tx none s = some y) : rp_front rp_mt rp_mi rp_cf rp_tx sc s = some y := by
  unfold rp_front at hx ⊢
  split at hx
  · cases hx
  · exact xi_one hx
theorem xi_run {sc : rp_Sc} : ∀ n s x, rp_run rp_mt rp_mi rp_cf rp_tx none n s = some x → rp_run rp_mt rp_mi rp_cf rp_tx sc n s = some x := by
  intro n
  induction n with
  | zero => intro s x h; cases h
  | succ n ih =>
    intro s x hx
    have hx : rp_F rp_mt rp_mi rp_cf rp_tx none (rp_run rp_mt rp_mi rp_cf rp_tx none n) s = some x := hx
    show rp_F rp_mt rp_mi rp_cf rp_tx sc (rp_run rp_mt rp_mi rp_cf rp_tx sc n) s = some x
    have hy := rp_F_mono rp_mt rp_mi rp_cf rp_tx none ih s x hx
    unfold rp_F at hy ⊢
    cases hf : rp_front rp_mt rp_mi rp_cf rp_tx none s with
    | none => rw [hf] at hy; cases hy
    | some q =>
      rw [xi_front hf]
      rw [hf] at hy
      exact hy
def xi_c1 : rp_As := (0, 0, 0, 0, rp_en (rp_mt 0).2.2.1 [.ref 1], [], ([.inr (99, []), .inr (7, rp_cf 7)], rp_zr (fun _ _ => 0) 1))
def xi_c2 (S : List rp_Sh) (σ : rp_Mm) : rp_As := (148, 0, 0, 0, rp_en (rp_mt 148).2.2.1 [.ref 48], [], (S ++ [.inr (8, rp_cf 8)], rp_zr σ 48))
def xi_cells (μ : rp_Mm) : Bool :=
  (List.range 7).all (fun k => μ 49 k == 0) && ((List.range 36).all (fun k => μ 52 k == 0 && μ 8 k == 0) && ([3, 5, 9, 11, 13, 15].all (fun a => μ a 3 == 0) && (μ 7 3 == 3 && (μ 2 7 == 0 && (μ 32 1 == 0 && ([9, 25, 30].all (fun k => μ 48 k == 0) && (μ 43 3 == 0 && (μ 1 2 == 0 && (List.range 100).all (fun k => μ 36 k == (if k / 10 = k % 10 then 0 else 536870912))))))))))
def xi_end (o : Option rp_Rs) : Bool := match o with
  | some (none, S, μ) => decide (S = rp_L0) && xi_cells μ
  | _ => false
def xi_mid (o : Option rp_Rs) : Bool := match o with
  | some (none, S, σ) => decide (S = rp_L0.take 48) && xi_end (rp_run rp_mt rp_mi rp_cf rp_tx none 400 (xi_c2 S σ))
  | _ => false
theorem xi_ok : xi_mid (rp_run rp_mt rp_mi rp_cf rp_tx none 4000 xi_c1) = true := by decide +kernel
theorem xi_mem : ∃ σ μ, rp_run rp_mt rp_mi rp_cf rp_tx none 4000 xi_c1 = some (none, rp_L0.take 48, σ) ∧ rp_run rp_mt rp_mi rp_cf rp_tx none 400 (xi_c2 (rp_L0.take 48) σ) = some (none, rp_L0, μ) ∧ xi_cells μ = true := by
  have h := xi_ok
  revert h
  generalize rp_run rp_mt rp_mi rp_cf rp_tx none 4000 xi_c1 = o
  intro h
  unfold xi_mid at h
  split at h
  next S σ =>
    simp only [Bool.and_eq_true, decide_eq_true_eq] at h
    obtain ⟨rfl, h⟩ := h
    revert h
    generalize hb : rp_run rp_mt rp_mi rp_cf rp_tx none 400 (xi_c2 (rp_L0.take 48) σ) = p
    intro h
    unfold xi_end at h
    split at h
    next S' μ =>
      simp only [Bool.and_eq_true, decide_eq_true_eq] at h
      obtain ⟨rfl, h⟩ := h
      exact ⟨σ, μ, rfl, hb, h⟩
    next => cases h
  next => cases h
theorem xi_go {sc : rp_Sc} : ∃ μ, xi_cells μ = true ∧ EV sc (230, 0, 0, 0, [.ref 0, rp_U, rp_U, rp_U], [], ([.inr (99, [])], fun _ _ => 0)) = EV sc (230, 67, 13472, 18, [.ref 0, .ref 1, .ref 48, .int 0], [], (rp_L0, μ)) := by
  obtain ⟨σ, μ, h1, h2, h3⟩ := xi_mem
  refine ⟨μ, h3, ?_⟩
  have e1 : EV sc xi_c1 = some (none, rp_L0.take 48, σ) := rp_Ev_of _ _ _ _ _ (xi_run _ _ _ h1)
  have e2 : EV sc (xi_c2 (rp_L0.take 48) σ) = some (none, rp_L0, μ) := rp_Ev_of _ _ _ _ _ (xi_run _ _ _ h2)
  have f0 : EV sc (230, 0, 0, 0, [.ref 0, rp_U, rp_U, rp_U], [], ([.inr (99, [])], fun _ _ => 0)) = EV sc (230, 1, 8, 3, [.ref 0, rp_U, rp_U, rp_U], [.ref 1], ([.inr (99, []), .inr (7, rp_cf 7)], rp_zr (fun _ _ => 0) 1)) := rp_g rfl rfl
  have f1 : EV sc (230, 1, 8, 3, [.ref 0, rp_U, rp_U, rp_U], [.ref 1], ([.inr (99, []), .inr (7, rp_cf 7)], rp_zr (fun _ _ => 0) 1)) = EV sc (230, 1, 8, 4, [.ref 0, rp_U, rp_U, rp_U], [.ref 1, .ref 1], ([.inr (99, []), .inr (7, rp_cf 7)], rp_zr (fun _ _ => 0) 1)) := rp_g rfl rfl
  have f2 : EV sc (230, 1, 8, 4, [.ref 0, rp_U, rp_U, rp_U], [.ref 1, .ref 1], ([.inr (99, []), .inr (7, rp_cf 7)], rp_zr (fun _ _ => 0) 1)) = rp_then (EV sc xi_c1) (fun r => EV sc (230, 1 + (rp_mt 0).2.2.2.2.2.2.2.1, 8 + (rp_mt 0).2.2.2.2.2.2.2.2, 4 + 3, [.ref 0, rp_U, rp_U, rp_U], r.1.toList ++ [.ref 1], r.2)) := rp_call_ok rfl rfl rfl rfl rfl rfl
  rw [f0, f1, f2, e1, rp_then_some]
  have f3 : EV sc (230, 1 + (rp_mt 0).2.2.2.2.2.2.2.1, 8 + (rp_mt 0).2.2.2.2.2.2.2.2, 4 + 3, [.ref 0, rp_U, rp_U, rp_U], (none : Option Value).toList ++ [.ref 1], (rp_L0.take 48, σ)) = EV sc (230, 47, 9609, 8, [.ref 0, .ref 1, rp_U, rp_U], [], (rp_L0.take 48, σ)) := rp_g rfl rfl
  have f4 : EV sc (230, 47, 9609, 8, [.ref 0, .ref 1, rp_U, rp_U], [], (rp_L0.take 48, σ)) = EV sc (230, 48, 9642, 11, [.ref 0, .ref 1, rp_U, rp_U], [.ref 48], (rp_L0.take 48 ++ [.inr (8, rp_cf 8)], rp_zr σ 48)) := rp_g rfl rfl
  have f5 : EV sc (230, 48, 9642, 11, [.ref 0, .ref 1, rp_U, rp_U], [.ref 48], (rp_L0.take 48 ++ [.inr (8, rp_cf 8)], rp_zr σ 48)) = EV sc (230, 48, 9642, 12, [.ref 0, .ref 1, rp_U, rp_U], [.ref 48, .ref 48], (rp_L0.take 48 ++ [.inr (8, rp_cf 8)], rp_zr σ 48)) := rp_g rfl rfl
  have f6 : EV sc (230, 48, 9642, 12, [.ref 0, .ref 1, rp_U, rp_U], [.ref 48, .ref 48], (rp_L0.take 48 ++ [.inr (8, rp_cf 8)], rp_zr σ 48)) = rp_then (EV sc (xi_c2 (rp_L0.take 48) σ)) (fun r => EV sc (230, 48 + (rp_mt 148).2.2.2.2.2.2.2.1, 9642 + (rp_mt 148).2.2.2.2.2.2.2.2, 12 + 3, [.ref 0, .ref 1, rp_U, rp_U], r.1.toList ++ [.ref 48], r.2)) := rp_call_ok rfl rfl rfl rfl rfl rfl
  rw [f3, f4, f5, f6, e2, rp_then_some]
  have f7 : EV sc (230, 48 + (rp_mt 148).2.2.2.2.2.2.2.1, 9642 + (rp_mt 148).2.2.2.2.2.2.2.2, 12 + 3, [.ref 0, .ref 1, rp_U, rp_U], (none : Option Value).toList ++ [.ref 48], (rp_L0, μ)) = EV sc (230, 67, 13472, 16, [.ref 0, .ref 1, .ref 48, rp_U], [], (rp_L0, μ)) := rp_g rfl rfl
  have f8 : EV sc (230, 67, 13472, 16, [.ref 0, .ref 1, .ref 48, rp_U], [], (rp_L0, μ)) = EV sc (230, 67, 13472, 17, [.ref 0, .ref 1, .ref 48, rp_U], [.int 0], (rp_L0, μ)) := rp_g rfl rfl
  have f9 : EV sc (230, 67, 13472, 17, [.ref 0, .ref 1, .ref 48, rp_U], [.int 0], (rp_L0, μ)) = EV sc (230, 67, 13472, 18, [.ref 0, .ref 1, .ref 48, .int 0], [], (rp_L0, μ)) := rp_g rfl rfl
  rw [f7, f8, f9]
