/-! the small machine with this claim's tables, and a rule for each kind of step -/
abbrev rp_Sc : Type := Option (Nat × (Nat → Int32))
noncomputable abbrev EV (sc : rp_Sc) (s : rp_As) : Option rp_Rs := rp_Ev rp_mt rp_mi rp_cf rp_tx sc s
section
variable {sc : rp_Sc} {m uc us pc n : Nat} {ls st : List Value} {h : rp_Hp} {I : Instr} {i : rp_In}
theorem rp_fr (hl : rp_lk pc (rp_mi m) = some (I, n, i)) : rp_front rp_mt rp_mi rp_cf rp_tx sc (m, uc, us, pc, ls, st, h) = rp_one rp_mt rp_cf rp_tx sc I n i m uc us pc ls st h := by
  show (match rp_lk pc (rp_mi m) with
    | none => none
    | some (I, n, i) => rp_one rp_mt rp_cf rp_tx sc I n i m uc us pc ls st h) = _
  rw [hl]
theorem rp_g {t : rp_As} (hl : rp_lk pc (rp_mi m) = some (I, n, i)) (ho : rp_one rp_mt rp_cf rp_tx sc I n i m uc us pc ls st h = some (.inl t)) : EV sc (m, uc, us, pc, ls, st, h) = EV sc t :=
  rp_Ev_go _ _ _ _ _ ((rp_fr hl).trans ho)
/-- .. and on from there -/
theorem rp_n {t : rp_As} {o : Option rp_Rs} (hl : rp_lk pc (rp_mi m) = some (I, n, i)) (ho : rp_one rp_mt rp_cf rp_tx sc I n i m uc us pc ls st h = some (.inl t)) (k : EV sc t = o) : EV sc (m, uc, us, pc, ls, st, h) = o :=
  (rp_g hl ho).trans k
theorem rp_br {c : Prop} [Decidable c] {a b : Nat} : EV sc (m, uc, us, (if c then a else b), ls, st, h) = if c then EV sc (m, uc, us, a, ls, st, h) else EV sc (m, uc, us, b, ls, st, h) := by
  split <;> rfl
theorem rp_ret1 {r : rp_Rs} (hl : rp_lk pc (rp_mi m) = some (I, n, i)) (ho : rp_one rp_mt rp_cf rp_tx sc I n i m uc us pc ls st h = some (.inr (.inl r))) : EV sc (m, uc, us, pc, ls, st, h) = some r :=
  rp_Ev_ret _ _ _ _ _ ((rp_fr hl).trans ho)
theorem rp_cl {c : rp_As} {k : rp_Rs → rp_As} (hl : rp_lk pc (rp_mi m) = some (I, n, i)) (ho : rp_one rp_mt rp_cf rp_tx sc I n i m uc us pc ls st h = some (.inr (.inr (c, fun r => some (k r))))) : EV sc (m, uc, us, pc, ls, st, h) = rp_then (EV sc c) (fun r => EV sc (k r)) :=
  rp_Ev_call _ _ _ _ _ ((rp_fr hl).trans ho)
/-- a final field -/
theorem rp_gf {o : Option rp_Rs} {x a ci k : Nat} {w : Value} {l : List (Int32 × Nat)} {fs : List (Option Value)} {v : Value} {S : List rp_Sh} {σ : rp_Mm} (hl : rp_lk pc (rp_mi m) = some (.getfield x, n, ci, k, w, l)) (hL : S[a]? = some (.inr (ci, fs))) (hk : fs[k]? = some (some v)) (K : EV sc (m, uc, us, pc + n, ls, v :: st, (S, σ)) = o) : EV sc (m, uc, us, pc, ls, .ref a :: st, (S, σ)) = o := by
  refine rp_n hl ?_ K
  show (rp_heap sc (.getfield x) (ci, k, w, l) (!l.isEmpty) (S, σ) (.ref a :: st)).map _ = _
  simp [rp_heap, rp_field, hL, hk]
/-- a field that changes -/
theorem rp_gm {o : Option rp_Rs} {x a ci k : Nat} {w : Value} {l : List (Int32 × Nat)} {fs : List (Option Value)} {S : List rp_Sh} {σ : rp_Mm} (hl : rp_lk pc (rp_mi m) = some (.getfield x, n, ci, k, w, l)) (hL : S[a]? = some (.inr (ci, fs))) (hk : fs[k]? = some none) (K : EV sc (m, uc, us, pc + n, ls, .int (σ a k) :: st, (S, σ)) = o) : EV sc (m, uc, us, pc, ls, .ref a :: st, (S, σ)) = o := by
  refine rp_n hl ?_ K
  show (rp_heap sc (.getfield x) (ci, k, w, l) (!l.isEmpty) (S, σ) (.ref a :: st)).map _ = _
  simp [rp_heap, rp_field, hL, hk]
theorem rp_pm {o : Option rp_Rs} {x a ci k : Nat} {w : Value} {l : List (Int32 × Nat)} {fs : List (Option Value)} {v : Int32} {S : List rp_Sh} {σ : rp_Mm} (hl : rp_lk pc (rp_mi m) = some (.putfield x, n, ci, k, w, l)) (hL : S[a]? = some (.inr (ci, fs))) (hk : fs[k]? = some none) (hz : rp_zok w v = true) (K : EV sc (m, uc, us, pc + n, ls, st, (S, rp_wr σ a k v)) = o) : EV sc (m, uc, us, pc, ls, .int v :: .ref a :: st, (S, σ)) = o := by
  refine rp_n hl ?_ K
  show (rp_heap sc (.putfield x) (ci, k, w, l) (!l.isEmpty) (S, σ) (.int v :: .ref a :: st)).map _ = _
  simp [rp_heap, hL, hk, hz]
theorem rp_al {o : Option rp_Rs} {a q : Nat} {z : Bool} {S : List rp_Sh} {σ : rp_Mm} (hl : rp_lk pc (rp_mi m) = some (.arraylength, n, i)) (hL : S[a + 1]? = some (.inl (z, q))) (K : EV sc (m, uc, us, pc + n, ls, .int (Int32.ofNat q) :: st, (S, σ)) = o) : EV sc (m, uc, us, pc, ls, .ref (a + 1) :: st, (S, σ)) = o := by
  refine rp_n hl ?_ K
  show (rp_heap sc .arraylength i _ (S, σ) (.ref (a + 1) :: st)).map _ = _
  simp [rp_heap, hL]
/-- an array's element: where the index is none there is no answer -/
theorem rp_ia {a q : Nat} {x : Int32} {S : List rp_Sh} {σ : rp_Mm} (hl : rp_lk pc (rp_mi m) = some (.iaload, n, i)) (hL : S[a + 1]? = some (.inl (false, q))) : EV sc (m, uc, us, pc, ls, .int x :: .ref (a + 1) :: st, (S, σ)) = bif rp_ix x q then EV sc (m, uc, us, pc + n, ls, .int (σ (a + 1) x.toNatClampNeg) :: st, (S, σ)) else none := by
  have hf := rp_fr (sc := sc) (uc := uc) (us := us) (ls := ls) (st := .int x :: .ref (a + 1) :: st) (h := (S, σ)) hl
  have ho : rp_one rp_mt rp_cf rp_tx sc .iaload n i m uc us pc ls (.int x :: .ref (a + 1) :: st) (S, σ) = (bif rp_ix x q then some (.inl (m, uc, us, pc + n, ls, .int (σ (a + 1) x.toNatClampNeg) :: st, (S, σ))) else none) := by
    show (rp_heap sc .iaload i _ (S, σ) (.int x :: .ref (a + 1) :: st)).map _ = _
    cases hx : rp_ix x q <;> simp [rp_heap, hL, hx]
  rw [ho] at hf
  cases hx : rp_ix x q with
  | true => rw [hx] at hf; exact rp_Ev_go _ _ _ _ _ hf
  | false =>
    rw [hx] at hf
    refine rp_Ev_eq _ _ _ _ _ fun y => ⟨fun ⟨k, hk⟩ => ?_, fun hy => by cases hy⟩
    cases k with
    | zero => cases hk
    | succ k =>
      have hk : rp_F rp_mt rp_mi rp_cf rp_tx sc _ _ = some y := hk
      unfold rp_F at hk
      rw [hf] at hk
      cases hk
end
section
variable {sc : rp_Sc} {m uc us pc n : Nat} {ls st : List Value} {h : rp_Hp} {I : Instr} {i : rp_In} {o : Option rp_Rs}
theorem rp_no (hl : rp_lk pc (rp_mi m) = some (I, n, i)) (ho : rp_one rp_mt rp_cf rp_tx sc I n i m uc us pc ls st h = none) : EV sc (m, uc, us, pc, ls, st, h) = none := by
  have hf := (rp_fr (sc := sc) (uc := uc) (us := us) (ls := ls) (st := st) (h := h) hl).trans ho
  refine rp_Ev_eq _ _ _ _ _ fun y => ⟨fun ⟨k, hk⟩ => ?_, fun hy => by cases hy⟩
  cases k with
  | zero => cases hk
  | succ k =>
    have hk : rp_F rp_mt rp_mi rp_cf rp_tx sc _ _ = some y := hk
    unfold rp_F at hk
    rw [hf] at hk
    cases hk
theorem rp_brk {c : Prop} [Decidable c] {a b : Nat} {A B : Option rp_Rs} (ha : EV sc (m, uc, us, a, ls, st, h) = A) (hb : EV sc (m, uc, us, b, ls, st, h) = B) : EV sc (m, uc, us, (if c then a else b), ls, st, h) = if c then A else B := by
  rw [rp_br, ha, hb]
theorem rp_clk {c : rp_As} {k : rp_Rs → rp_As} {X : rp_Rs → Option rp_Rs} (hl : rp_lk pc (rp_mi m) = some (I, n, i)) (ho : rp_one rp_mt rp_cf rp_tx sc I n i m uc us pc ls st h = some (.inr (.inr (c, fun r => some (k r))))) (K : ∀ r, EV sc (k r) = X r) : EV sc (m, uc, us, pc, ls, st, h) = rp_then (EV sc c) X := by
  rw [rp_cl hl ho]
  congr 1
  exact funext K
theorem rp_iak {a q : Nat} {x : Int32} {S : List rp_Sh} {σ : rp_Mm} (hl : rp_lk pc (rp_mi m) = some (.iaload, n, i)) (hL : S[a + 1]? = some (.inl (false, q))) (K : EV sc (m, uc, us, pc + n, ls, .int (σ (a + 1) x.toNatClampNeg) :: st, (S, σ)) = o) : EV sc (m, uc, us, pc, ls, .int x :: .ref (a + 1) :: st, (S, σ)) = bif rp_ix x q then o else none := by
  rw [rp_ia hl hL, K]
theorem rp_bak {a q : Nat} {x : Int32} {S : List rp_Sh} {σ : rp_Mm} (hl : rp_lk pc (rp_mi m) = some (.baload, n, i)) (hL : S[a + 1]? = some (.inl (true, q))) (K : EV sc (m, uc, us, pc + n, ls, .int (σ (a + 1) x.toNatClampNeg) :: st, (S, σ)) = o) : EV sc (m, uc, us, pc, ls, .int x :: .ref (a + 1) :: st, (S, σ)) = bif rp_ix x q then o else none := by
  cases hx : rp_ix x q with
  | true =>
    refine (rp_g hl (t := (m, uc, us, pc + n, ls, .int (σ (a + 1) x.toNatClampNeg) :: st, (S, σ))) ?_).trans K
    show (rp_heap sc .baload i _ (S, σ) (.int x :: .ref (a + 1) :: st)).map _ = _
    simp [rp_heap, hL, hx]
  | false =>
    refine rp_no hl ?_
    show (rp_heap sc .baload i _ (S, σ) (.int x :: .ref (a + 1) :: st)).map _ = _
    simp [rp_heap, hL, hx]
theorem rp_isk {a q : Nat} {x v : Int32} {S : List rp_Sh} {σ : rp_Mm} (hl : rp_lk pc (rp_mi m) = some (.iastore, n, i)) (hL : S[a + 1]? = some (.inl (false, q))) (K : EV sc (m, uc, us, pc + n, ls, st, (S, rp_wr σ (a + 1) x.toNatClampNeg v)) = o) : EV sc (m, uc, us, pc, ls, .int v :: .int x :: .ref (a + 1) :: st, (S, σ)) = bif rp_ix x q then o else none := by
  cases hx : rp_ix x q with
  | true =>
    refine (rp_g hl (t := (m, uc, us, pc + n, ls, st, (S, rp_wr σ (a + 1) x.toNatClampNeg v))) ?_).trans K
    show (rp_heap sc .iastore i _ (S, σ) (.int v :: .int x :: .ref (a + 1) :: st)).map _ = _
    simp [rp_heap, hL, hx]
  | false =>
    refine rp_no hl ?_
    show (rp_heap sc .iastore i _ (S, σ) (.int v :: .int x :: .ref (a + 1) :: st)).map _ = _
    simp [rp_heap, hL, hx]
theorem rp_bsk {a q : Nat} {x v : Int32} {S : List rp_Sh} {σ : rp_Mm} (hl : rp_lk pc (rp_mi m) = some (.bastore, n, i)) (hL : S[a + 1]? = some (.inl (true, q))) (hv : v &&& 1 = v) (K : EV sc (m, uc, us, pc + n, ls, st, (S, rp_wr σ (a + 1) x.toNatClampNeg v)) = o) : EV sc (m, uc, us, pc, ls, .int v :: .int x :: .ref (a + 1) :: st, (S, σ)) = bif rp_ix x q then o else none := by
  cases hx : rp_ix x q with
  | true =>
    refine (rp_g hl (t := (m, uc, us, pc + n, ls, st, (S, rp_wr σ (a + 1) x.toNatClampNeg v))) ?_).trans K
    show (rp_heap sc .bastore i _ (S, σ) (.int v :: .int x :: .ref (a + 1) :: st)).map _ = _
    simp [rp_heap, hL, hx, hv]
  | false =>
    refine rp_no hl ?_
    show (rp_heap sc .bastore i _ (S, σ) (.int v :: .int x :: .ref (a + 1) :: st)).map _ = _
    simp [rp_heap, hL, hx]
/-- the script -/
theorem rp_sck {q : Nat} {xs : Nat → Int32} {x : Int32} (hl : rp_lk pc (rp_mi m) = some (.iaload, n, i)) (K : EV (some (q, xs)) (m, uc, us, pc + n, ls, .int (xs x.toNatClampNeg) :: st, h) = o) : EV (some (q, xs)) (m, uc, us, pc, ls, .int x :: .ref 0 :: st, h) = bif rp_ix x q then o else none := by
  cases hx : rp_ix x q with
  | true =>
    refine (rp_g hl (t := (m, uc, us, pc + n, ls, .int (xs x.toNatClampNeg) :: st, h)) ?_).trans K
    show (rp_heap (some (q, xs)) .iaload i _ h (.int x :: .ref 0 :: st)).map _ = _
    simp [rp_heap, hx]
  | false =>
    refine rp_no hl ?_
    show (rp_heap (some (q, xs)) .iaload i _ h (.int x :: .ref 0 :: st)).map _ = _
    simp [rp_heap, hx]
theorem rp_dvk {x y : Int32} (hl : rp_lk pc (rp_mi m) = some (.idiv, n, i)) (K : EV sc (m, uc, us, pc + n, ls, .int (x / y) :: st, h) = o) : EV sc (m, uc, us, pc, ls, .int y :: .int x :: st, h) = if y = 0 then none else o := by
  split
  next hy => refine rp_no hl ?_; show (rp_pure .idiv n i pc ls (.int y :: .int x :: st)).map _ = _; simp [rp_pure, hy]
  next hy => refine (rp_g hl (t := (m, uc, us, pc + n, ls, .int (x / y) :: st, h)) ?_).trans K; show (rp_pure .idiv n i pc ls (.int y :: .int x :: st)).map _ = _; simp [rp_pure, hy]
theorem rp_rmk {x y : Int32} (hl : rp_lk pc (rp_mi m) = some (.irem, n, i)) (K : EV sc (m, uc, us, pc + n, ls, .int (x - x / y * y) :: st, h) = o) : EV sc (m, uc, us, pc, ls, .int y :: .int x :: st, h) = if y = 0 then none else o := by
  split
  next hy => refine rp_no hl ?_; show (rp_pure .irem n i pc ls (.int y :: .int x :: st)).map _ = _; simp [rp_pure, hy]
  next hy => refine (rp_g hl (t := (m, uc, us, pc + n, ls, .int (x - x / y * y) :: st, h)) ?_).trans K; show (rp_pure .irem n i pc ls (.int y :: .int x :: st)).map _ = _; simp [rp_pure, hy]
end
