/-! the small machine with this claim's tables, and a rule for each kind of step -/
abbrev rp_Sc : Type := Option (Nat × (Nat → Int32))
noncomputable abbrev EV (sc : rp_Sc) (s : rp_As) : Option rp_Rs := rp_Ev rp_mt rp_mi rp_cf rp_tx sc s
section
variable {sc : rp_Sc} {m uc us pc n : Nat} {ls st : List Value} {h : rp_Hp} {I : Instr} {i : rp_In}
theorem rp_fr (hl : rp_lk pc (rp_mi m) = some (I, n, i)) : rp_front rp_mt rp_mi rp_cf rp_tx sc (m, uc, us, pc, ls, st, h) = rp_one rp_mt rp_cf rp_tx sc I n i m uc us pc ls st h := by
  show (match rp_lk pc (rp_mi m) with
    | none => none
    | some (I, n, i) => rp_one rp_mt rp_cf rp_tx sc I n i m uc us pc ls st h) = _
  rw [hl]
theorem rp_g {t : rp_As} (hl : rp_lk pc (rp_mi m) = some (I, n, i)) (ho : rp_one rp_mt rp_cf rp_tx sc I n i m uc us pc ls st h = some (.inl t)) : EV sc (m, uc, us, pc, ls, st, h) = EV sc t :=
  rp_Ev_go _ _ _ _ _ ((rp_fr hl).trans ho)
/-- .. and on from there -/
theorem rp_n {t : rp_As} {o : Option rp_Rs} (hl : rp_lk pc (rp_mi m) = some (I, n, i)) (ho : rp_one rp_mt rp_cf rp_tx sc I n i m uc us pc ls st h = some (.inl t)) (k : EV sc t = o) : EV sc (m, uc, us, pc, ls, st, h) = o :=
  (rp_g hl ho).trans k
theorem rp_br {c : Prop} [Decidable c] {a b : Nat} : EV sc (m, uc, us, (if c then a else b), ls, st, h) = if c then EV sc (m, uc, us, a, ls, st, h) else EV sc (m, uc, us, b, ls, st, h) := by
  split <;> rfl
theorem rp_ret1 {r : rp_Rs} (hl : rp_lk pc (rp_mi m) = some (I, n, i)) (ho : rp_one rp_mt rp_cf rp_tx sc I n i m uc us pc ls st h = some (.inr (.inl r))) : EV sc (m, uc, us, pc, ls, st, h) = some r :=
  rp_Ev_ret _ _ _ _ _ ((rp_fr hl).trans ho)
theorem rp_cl {c : rp_As} {k : rp_Rs → rp_As} (hl : rp_lk pc (rp_mi m) = some (I, n, i)) (ho : rp_one rp_mt rp_cf rp_tx sc I n i m uc us pc ls st h = some (.inr (.inr (c, fun r => some (k r))))) : EV sc (m, uc, us, pc, ls, st, h) = rp_then (EV sc c) (fun r => EV sc (k r)) :=
  rp_Ev_call _ _ _ _ _ ((rp_fr hl).trans ho)
/-- a final field -/
theorem rp_gf {o : Option rp_Rs} {x a ci k : Nat} {w : Value} {l : List (Int32 × Nat)} {fs : List (Option Value)} {v : Value} {S : List rp_Sh} {σ : rp_Mm} (hl : rp_lk pc (rp_mi m) = some (.getfield x, n, ci, k, w, l)) (hL : S[a]? = some (.inr (ci, fs))) (hk : fs[k]? = some (some v)) (K : EV sc (m, uc, us, pc + n, ls, v :: st, (S, σ)) = o) : EV sc (m, uc, us, pc, ls, .ref a :: st, (S, σ)) = o := by
  refine rp_n hl ?_ K
  show (rp_heap sc (.getfield x) (ci, k, w, l) (!l.isEmpty) (S, σ) (.ref a :: st)).map _ = _
  simp [rp_heap, rp_field, hL, hk]
/-- a field that changes -/
theorem rp_gm {o : Option rp_Rs} {x a ci k : Nat} {w : Value} {l : List (Int32 × Nat)} {fs : List (Option Value)} {S : List rp_Sh} {σ : rp_Mm} (hl : rp_lk pc (rp_mi m) = some (.getfield x, n, ci, k, w, l)) (hL : S[a]? = some (.inr (ci, fs))) (hk : fs[k]? = some none) (K : EV sc (m, uc, us, pc + n, ls, .int (σ a k) :: st, (S, σ)) = o) : EV sc (m, uc, us, pc, ls, .ref a :: st, (S, σ)) = o := by
  refine rp_n hl ?_ K
  show (rp_heap sc (.getfield x) (ci, k, w, l) (!l.isEmpty) (S, σ) (.ref a :: st)).map _ = _
  simp [rp_heap, rp_field, hL, hk]
theorem rp_pm {o : Option rp_Rs} {x a ci k : Nat} {w : Value} {fs : List (Option Value)} {v : Int32} {S : List rp_Sh} {σ : rp_Mm} (hl : rp_lk pc (rp_mi m) = some (.putfield x, n, ci, k, w, [])) (hL : S[a]? = some (.inr (ci, fs))) (hk : fs[k]? = some none) (hz : rp_zok w v = true) (K : EV sc (m, uc, us, pc + n, ls, st, (S, rp_wr σ a k v)) = o) : EV sc (m, uc, us, pc, ls, .int v :: .ref a :: st, (S, σ)) = o := by
  refine rp_n hl ?_ K
  show (rp_heap sc (.putfield x) (ci, k, w, []) false (S, σ) (.int v :: .ref a :: st)).map _ = _
  simp [rp_heap, hL, hk, hz]
theorem rp_al {o : Option rp_Rs} {a q : Nat} {z : Bool} {S : List rp_Sh} {σ : rp_Mm} (hl : rp_lk pc (rp_mi m) = some (.arraylength, n, i)) (hL : S[a + 1]? = some (.inl (z, q))) (K : EV sc (m, uc, us, pc + n, ls, .int (Int32.ofNat q) :: st, (S, σ)) = o) : EV sc (m, uc, us, pc, ls, .ref (a + 1) :: st, (S, σ)) = o := by
  refine rp_n hl ?_ K
  show (rp_heap sc .arraylength i _ (S, σ) (.ref (a + 1) :: st)).map _ = _
  simp [rp_heap, hL]
/-- an array's element: where the index is none there is no answer -/
theorem rp_ia {a q : Nat} {x : Int32} {S : List rp_Sh} {σ : rp_Mm} (hl : rp_lk pc (rp_mi m) = some (.iaload, n, i)) (hL : S[a + 1]? = some (.inl (false, q))) : EV sc (m, uc, us, pc, ls, .int x :: .ref (a + 1) :: st, (S, σ)) = bif rp_ix x q then EV sc (m, uc, us, pc + n, ls, .int (σ (a + 1) x.toNatClampNeg) :: st, (S, σ)) else none := by
  have hf := rp_fr (sc := sc) (uc := uc) (us := us) (ls := ls) (st := .int x :: .ref (a + 1) :: st) (h := (S, σ)) hl
  have ho : rp_one rp_mt rp_cf rp_tx sc .iaload n i m uc us pc ls (.int x :: .ref (a + 1) :: st) (S, σ) = (bif rp_ix x q then some (.inl (m, uc, us, pc + n, ls, .int (σ (a + 1) x.toNatClampNeg) :: st, (S, σ))) else none) := by
    show (rp_heap sc .iaload i _ (S, σ) (.int x :: .ref (a + 1) :: st)).map _ = _
    cases hx : rp_ix x q <;> simp [rp_heap, hL, hx]
  rw [ho] at hf
  cases hx : rp_ix x q with
  | true => rw [hx] at hf; exact rp_Ev_go _ _ _ _ _ hf
  | false =>
    rw [hx] at hf
    refine rp_Ev_eq _ _ _ _ _ fun y => ⟨fun ⟨k, hk⟩ => ?_, fun hy => by cases hy⟩
    cases k with
    | zero => cases hk
    | succ k =>
      have hk : rp_F rp_mt rp_mi rp_cf rp_tx sc _ _ = some y := hk
      unfold rp_F at hk
      rw [hf] at hk
      cases hk
end
section
variable {sc : rp_Sc} {m uc us pc n : Nat} {ls st : List Value} {h : rp_Hp} {I : Instr} {i : rp_In} {o : Option rp_Rs}
theorem rp_no (hl : rp_lk pc (rp_mi m) = some (I, n, i)) (ho : rp_one rp_mt rp_cf rp_tx sc I n i m uc us pc ls st h = none) : EV sc (m, uc, us, pc, ls, st, h) = none := by
  have hf := (rp_fr (sc := sc) (uc := uc) (us := us) (ls := ls) (st := st) (h := h) hl).trans ho
  refine rp_Ev_eq _ _ _ _ _ fun y => ⟨fun ⟨k, hk⟩ => ?_, fun hy => by cases hy⟩
  cases k with
  | zero => cases hk
  | succ k =>
    have hk : rp_F rp_mt rp_mi rp_cf rp_tx sc _ _ = some y := hk
    unfold rp_F at hk
    rw [hf] at hk
    cases hk
theorem rp_brk {c : Prop} [Decidable c] {a b : Nat} {A B : Option rp_Rs} (ha : EV sc (m, uc, us, a, ls, st, h) = A) (hb : EV sc (m, uc, us, b, ls, st, h) = B) : EV sc (m, uc, us, (if c then a else b), ls, st, h) = if c then A else B := by
  rw [rp_br, ha, hb]
theorem rp_clk {c : rp_As} {k : rp_Rs → rp_As} {X : rp_Rs → Option rp_Rs} (hl : rp_lk pc (rp_mi m) = some (I, n, i)) (ho : rp_one rp_mt rp_cf rp_tx sc I n i m uc us pc ls st h = some (.inr (.inr (c, fun r => some (k r))))) (K : ∀ r, EV sc (k r) = X r) : EV sc (m, uc, us, pc, ls, st, h) = rp_then (EV sc c) X := by
  rw [rp_cl hl ho]
  congr 1
  exact funext K
theorem rp_iak {a q : Nat} {x : Int32} {S : List rp_Sh} {σ : rp_Mm} (hl : rp_lk pc (rp_mi m) = some (.iaload, n, i)) (hL : S[a + 1]? = some (.inl (false, q))) (K : EV sc (m, uc, us, pc + n, ls, .int (σ (a + 1) x.toNatClampNeg) :: st, (S, σ)) = o) : EV sc (m, uc, us, pc, ls, .int x :: .ref (a + 1) :: st, (S, σ)) = bif rp_ix x q then o else none := by
  rw [rp_ia hl hL, K]
theorem rp_bak {a q : Nat} {x : Int32} {S : List rp_Sh} {σ : rp_Mm} (hl : rp_lk pc (rp_mi m) = some (.baload, n, i)) (hL : S[a + 1]? = some (.inl (true, q))) (K : EV sc (m, uc, us, pc + n, ls, .int (σ (a + 1) x.toNatClampNeg) :: st, (S, σ)) = o) : EV sc (m, uc, us, pc, ls, .int x :: .ref (a + 1) :: st, (S, σ)) = bif rp_ix x q then o else none := by
  cases hx : rp_ix x q with
  | true =>
    refine (rp_g hl (t := (m, uc, us, pc + n, ls, .int (σ (a + 1) x.toNatClampNeg) :: st, (S, σ))) ?_).trans K
    show (rp_heap sc .baload i _ (S, σ) (.int x :: .ref (a + 1) :: st)).map _ = _
    simp [rp_heap, hL, hx]
  | false =>
    refine rp_no hl ?_
    show (rp_heap sc .baload i _ (S, σ) (.int x :: .ref (a + 1) :: st)).map _ = _
    simp [rp_heap, hL, hx]
theorem rp_isk {a q : Nat} {x v : Int32} {S : List rp_Sh} {σ : rp_Mm} (hl : rp_lk pc (rp_mi m) = some (.iastore, n, i)) (hL : S[a + 1]? = some (.inl (false, q))) (K : EV sc (m, uc, us, pc + n, ls, st, (S, rp_wr σ (a + 1) x.toNatClampNeg v)) = o) : EV sc (m, uc, us, pc, ls, .int v :: .int x :: .ref (a + 1) :: st, (S, σ)) = bif rp_ix x q then o else none := by
  cases hx : rp_ix x q with
  | true =>
    refine (rp_g hl (t := (m, uc, us, pc + n, ls, st, (S, rp_wr σ (a + 1) x.toNatClampNeg v))) ?_).trans K
    show (rp_heap sc .iastore i _ (S, σ) (.int v :: .int x :: .ref (a + 1) :: st)).map _ = _
    simp [rp_heap, hL, hx]
  | false =>
    refine rp_no hl ?_
    show (rp_heap sc .iastore i _ (S, σ) (.int v :: .int x :: .ref (a + 1) :: st)).map _ = _
    simp [rp_heap, hL, hx]
theorem rp_bsk {a q : Nat} {x v : Int32} {S : List rp_Sh} {σ : rp_Mm} (hl : rp_lk pc (rp_mi m) = some (.bastore, n, i)) (hL : S[a + 1]? = some (.inl (true, q))) (hv : v &&& 1 = v) (K : EV sc (m, uc, us, pc + n, ls, st, (S, rp_wr σ (a + 1) x.toNatClampNeg v)) = o) : EV sc (m, uc, us, pc, ls, .int v :: .int x :: .ref (a + 1) :: st, (S, σ)) = bif rp_ix x q then o else none := by
  cases hx : rp_ix x q with
  | true =>
    refine (rp_g hl (t := (m, uc, us, pc + n, ls, st, (S, rp_wr σ (a + 1) x.toNatClampNeg v))) ?_).trans K
    show (rp_heap sc .bastore i _ (S, σ) (.int v :: .int x :: .ref (a + 1) :: st)).map _ = _
    simp [rp_heap, hL, hx, hv]
  | false =>
    refine rp_no hl ?_
    show (rp_heap sc .bastore i _ (S, σ) (.int v :: .int x :: .ref (a + 1) :: st)).map _ = _
    simp [rp_heap, hL, hx]
/-- the script -/
theorem rp_sck {q : Nat} {xs : Nat → Int32} {x : Int32} (hl : rp_lk pc (rp_mi m) = some (.iaload, n, i)) (K : EV (some (q, xs)) (m, uc, us, pc + n, ls, .int (xs x.toNatClampNeg) :: st, h) = o) : EV (some (q, xs)) (m, uc, us, pc, ls, .int x :: .ref 0 :: st, h) = bif rp_ix x q then o else none := by
  cases hx : rp_ix x q with
  | true =>
    refine (rp_g hl (t := (m, uc, us, pc + n, ls, .int (xs x.toNatClampNeg) :: st, h)) ?_).trans K
    show (rp_heap (some (q, xs)) .iaload i _ h (.int x :: .ref 0 :: st)).map _ = _
    simp [rp_heap, hx]
  | false =>
    refine rp_no hl ?_
    show (rp_heap (some (q, xs)) .iaload i _ h (.int x :: .ref 0 :: st)).map _ = _
    simp [rp_heap, hx]
theorem rp_dvk {x y : Int32} (hl : rp_lk pc (rp_mi m) = some (.idiv, n, i)) (K : EV sc (m, uc, us, pc + n, ls, .int (x / y) :: st, h) = o) : EV sc (m, uc, us, pc, ls, .int y :: .int x :: st, h) = if y = 0 then none else o := by
  split
  next hy => refine rp_no hl ?_; show (rp_pure .idiv n i pc ls (.int y :: .int x :: st)).map _ = _; simp [rp_pure, hy]
  next hy => refine (rp_g hl (t := (m, uc, us, pc + n, ls, .int (x / y) :: st, h)) ?_).trans K; show (rp_pure .idiv n i pc ls (.int y :: .int x :: st)).map _ = _; simp [rp_pure, hy]
theorem rp_rmk {x y : Int32} (hl : rp_lk pc (rp_mi m) = some (.irem, n, i)) (K : EV sc (m, uc, us, pc + n, ls, .int (x - x / y * y) :: st, h) = o) : EV sc (m, uc, us, pc, ls, .int y :: .int x :: st, h) = if y = 0 then none else o := by
  split
  next hy => refine rp_no hl ?_; show (rp_pure .irem n i pc ls (.int y :: .int x :: st)).map _ = _; simp [rp_pure, hy]
  next hy => refine (rp_g hl (t := (m, uc, us, pc + n, ls, .int (x - x / y * y) :: st, h)) ?_).trans K; show (rp_pure .irem n i pc ls (.int y :: .int x :: st)).map _ = _; simp [rp_pure, hy]
end
def rp_L0 : List rp_Sh := [.inr (99, []),
  .inr (7, [some (.ref 2), some (.ref 17), none, some (.ref 32), some (.ref 35), some (.ref 37), some (.ref 42), some (.ref 45)]),
  .inr (0, [some (.ref 3), some (.ref 5), some (.ref 7), some (.ref 9), some (.ref 11), some (.ref 13), some (.ref 15), none]),
  .inr (5, [some (.ref 4), some (.int 14), some (.int 5), none]),
  .inl (false, 70),
  .inr (5, [some (.ref 6), some (.int 16), some (.int 9), none]),
  .inl (false, 144),
  .inr (5, [some (.ref 8), some (.int 3), some (.int 12), none]),
  .inl (false, 36),
  .inr (5, [some (.ref 10), some (.int 8), some (.int 15), none]),
  .inl (false, 120),
  .inr (5, [some (.ref 12), some (.int 40), some (.int 5), none]),
  .inl (false, 200),
  .inr (5, [some (.ref 14), some (.int 10), some (.int 2), none]),
  .inl (false, 20),
  .inr (5, [some (.ref 16), some (.int 40), some (.int 5), none]),
  .inl (false, 200),
  .inr (0, [some (.ref 18), some (.ref 20), some (.ref 22), some (.ref 24), some (.ref 26), some (.ref 28), some (.ref 30), none]),
  .inr (5, [some (.ref 19), some (.int 14), some (.int 5), none]),
  .inl (false, 70),
  .inr (5, [some (.ref 21), some (.int 16), some (.int 9), none]),
  .inl (false, 144),
  .inr (5, [some (.ref 23), some (.int 3), some (.int 12), none]),
  .inl (false, 36),
  .inr (5, [some (.ref 25), some (.int 8), some (.int 15), none]),
  .inl (false, 120),
  .inr (5, [some (.ref 27), some (.int 40), some (.int 5), none]),
  .inl (false, 200),
  .inr (5, [some (.ref 29), some (.int 10), some (.int 2), none]),
  .inl (false, 20),
  .inr (5, [some (.ref 31), some (.int 40), some (.int 5), none]),
  .inl (false, 200),
  .inr (1, [some (.ref 33), none, none, none, some (.ref 34), none, none]),
  .inl (false, 300),
  .inl (false, 11),
  .inr (6, [some (.ref 36)]),
  .inl (false, 100),
  .inr (3, [some (.ref 38), some (.ref 39), some (.ref 40), none, some (.ref 41), none, none, none, none, none, none, none, none, none]),
  .inl (false, 10),
  .inl (false, 10),
  .inl (false, 10),
  .inl (false, 10),
  .inr (4, [some (.ref 43)]),
  .inr (5, [some (.ref 44), some (.int 200), some (.int 3), none]),
  .inl (false, 600),
  .inr (2, [some (.ref 46), none, none, none, none, some (.ref 47)]),
  .inl (false, 40),
  .inl (false, 5),
  .inr (8, [some (.ref 49), some (.ref 50), some (.ref 51), some (.ref 52), some (.ref 53), some (.ref 54), some (.ref 55), some (.ref 56), some (.ref 57), none, none, none, none, none, none, none, some (.ref 58), some (.ref 59), some (.ref 60), none, none, none, some (.ref 61), none, some (.ref 62), none, some (.ref 63), some (.ref 64), some (.ref 65), some (.ref 66), none, some (.ref 67), none]),
  .inl (false, 7),
  .inl (false, 70),
  .inl (false, 128),
  .inl (false, 48),
  .inl (false, 128),
  .inl (false, 120),
  .inl (false, 20),
  .inl (false, 200),
  .inl (false, 300),
  .inl (false, 122),
  .inl (false, 122),
  .inl (true, 122),
  .inl (false, 1089),
  .inl (false, 600),
  .inl (false, 10),
  .inl (false, 9),
  .inl (false, 5),
  .inl (false, 5),
  .inl (false, 725)]
/-! trees: what a stretch of the small machine comes to -/
def rp_Le (a b : Option rp_Rs) : Prop := ∀ x, a = some x → b = some x
theorem rp_Le_rfl {a : Option rp_Rs} : rp_Le a a := fun _ h => h
theorem rp_Le_eq {a b : Option rp_Rs} (h : b = a) : rp_Le a b := fun _ q => h.trans q
theorem rp_Le_none {b : Option rp_Rs} : rp_Le none b := fun _ h => by cases h
abbrev RI (v : Int32) (σ : rp_Mm) : Option rp_Rs := some (some (.int v), (rp_L0, σ))
abbrev RV (σ : rp_Mm) : Option rp_Rs := some (none, (rp_L0, σ))
abbrev RR (a : Nat) (σ : rp_Mm) : Option rp_Rs := some (some (.ref a), (rp_L0, σ))
/-- a call -/
noncomputable def CL (sc : rp_Sc) (m : Nat) (args : List Value) (σ : rp_Mm) : Option rp_Rs := EV sc (m, 0, 0, 0, rp_en (rp_mt m).2.2.1 args, [], (rp_L0, σ))
noncomputable def thI (o : Option rp_Rs) (k : Int32 → rp_Mm → Option rp_Rs) : Option rp_Rs := match o with
  | some (some (.int v), h) => if h.1 = rp_L0 then k v h.2 else none
  | _ => none
noncomputable def thV (o : Option rp_Rs) (k : rp_Mm → Option rp_Rs) : Option rp_Rs := match o with
  | some (none, h) => if h.1 = rp_L0 then k h.2 else none
  | _ => none
noncomputable def thR (o : Option rp_Rs) (k : Nat → rp_Mm → Option rp_Rs) : Option rp_Rs := match o with
  | some (some (.ref a), h) => if h.1 = rp_L0 then k a h.2 else none
  | _ => none
theorem thI_RI (v : Int32) (σ : rp_Mm) (k : Int32 → rp_Mm → Option rp_Rs) : thI (RI v σ) k = k v σ := by
  show (if rp_L0 = rp_L0 then k v σ else none) = _
  exact if_pos rfl
theorem thV_RV (σ : rp_Mm) (k : rp_Mm → Option rp_Rs) : thV (RV σ) k = k σ := by
  show (if rp_L0 = rp_L0 then k σ else none) = _
  exact if_pos rfl
theorem thR_RR (a : Nat) (σ : rp_Mm) (k : Nat → rp_Mm → Option rp_Rs) : thR (RR a σ) k = k a σ := by
  show (if rp_L0 = rp_L0 then k a σ else none) = _
  exact if_pos rfl
theorem thI_some {o : Option rp_Rs} {k : Int32 → rp_Mm → Option rp_Rs} {x : rp_Rs} (h : thI o k = some x) : ∃ v σ, o = RI v σ ∧ k v σ = some x := by
  unfold thI at h
  split at h
  next v q =>
    split at h
    next e => exact ⟨v, q.2, by show some (some _, q) = some (some _, (rp_L0, q.2)); rw [← e], h⟩
    next => cases h
  next => cases h
theorem thV_some {o : Option rp_Rs} {k : rp_Mm → Option rp_Rs} {x : rp_Rs} (h : thV o k = some x) : ∃ σ, o = RV σ ∧ k σ = some x := by
  unfold thV at h
  split at h
  next q =>
    split at h
    next e => exact ⟨q.2, by show some (none, q) = some (none, (rp_L0, q.2)); rw [← e], h⟩
    next => cases h
  next => cases h
theorem thR_some {o : Option rp_Rs} {k : Nat → rp_Mm → Option rp_Rs} {x : rp_Rs} (h : thR o k = some x) : ∃ v σ, o = RR v σ ∧ k v σ = some x := by
  unfold thR at h
  split at h
  next v q =>
    split at h
    next e => exact ⟨v, q.2, by show some (some _, q) = some (some _, (rp_L0, q.2)); rw [← e], h⟩
    next => cases h
  next => cases h
theorem rp_pos {t : Nat} {k : Nat} {fs : List (Option Value)} (h : rp_L0[t]? = some (.inr (k, fs))) (hk : k ≠ 99) : 0 < t := by
  rcases Nat.eq_zero_or_pos t with rfl | q
  · have e : rp_L0[0]? = some (.inr (99, [])) := rfl
    rw [e] at h
    exact absurd (Prod.mk.inj (Sum.inr.inj (Option.some.inj h))).1.symm hk
  · exact q
theorem rp_rcv {I : Instr} {a k : Nat} {fs : List (Option Value)} {r : List Value} {σ : rp_Mm} (h : rp_L0[a + 1]? = some (.inr (k, fs))) : rp_recv I (rp_L0, σ) k (.ref (a + 1) :: r) = true := by
  unfold rp_recv
  split
  next => rfl
  next => simp [h, Nat.blt]
theorem rp_rct {I : Instr} {t : Nat} {fs : List (Option Value)} {r : List Value} {σ : rp_Mm} (h : rp_L0[t]? = some (.inr (5, fs))) : rp_recv I (rp_L0, σ) 5 (.ref t :: r) = true := by
  obtain ⟨a, rfl⟩ : ∃ a, t = a + 1 := ⟨t - 1, by have := rp_pos h (by decide); omega⟩
  exact rp_rcv h
section
variable {sc : rp_Sc} {m uc us pc n : Nat} {ls st : List Value} {h : rp_Hp} {I : Instr} {i : rp_In} {o A B : Option rp_Rs} {σ : rp_Mm}
theorem rp_ln {t : rp_As} (hl : rp_lk pc (rp_mi m) = some (I, n, i)) (ho : rp_one rp_mt rp_cf rp_tx sc I n i m uc us pc ls st h = some (.inl t)) (K : rp_Le o (EV sc t)) : rp_Le o (EV sc (m, uc, us, pc, ls, st, h)) :=
  fun x hx => (rp_g hl ho).trans (K x hx)
def rp_isP (I : Instr) : Bool := !rp_isHeap I && (!rp_isCall I && (!rp_isRet I && !rp_isMake I))
theorem rp_oneP (hI : rp_isP I = true) {q : Nat × List Value × List Value} (ho : rp_pure I n i pc ls st = some q) : rp_one rp_mt rp_cf rp_tx sc I n i m uc us pc ls st h = some (.inl (m, uc, us, q.1, q.2.1, q.2.2, h)) := by
  unfold rp_isP at hI
  simp only [Bool.and_eq_true, Bool.not_eq_true'] at hI
  unfold rp_one
  rw [hI.1, hI.2.1, hI.2.2.1, hI.2.2.2, ho]
  rfl
/-- a step among numbers and locals -/
theorem rp_lp {q : Nat} {ls' st' : List Value} (hl : rp_lk pc (rp_mi m) = some (I, n, i)) (hI : rp_isP I = true) (ho : rp_pure I n i pc ls st = some (q, ls', st')) (K : rp_Le o (EV sc (m, uc, us, q, ls', st', h))) : rp_Le o (EV sc (m, uc, us, pc, ls, st, h)) := rp_ln hl (rp_oneP hI ho) K
/-- a call of the library -/
theorem rp_lb {q k x : Nat} {w : Value} {l : List (Int32 × Nat)} {st' : List Value} (hl : rp_lk pc (rp_mi m) = some (I, n, x, k, w, l)) (hI : (!rp_isHeap I && (rp_isCall I && Nat.ble 5000 x)) = true) (hr : Nat.ble (rp_cat (st.drop k)) 8 = true) (hq : pc + n = q) (ho : rp_lib rp_tx x st = some st') (K : rp_Le o (EV sc (m, uc, us, q, ls, st', h))) : rp_Le o (EV sc (m, uc, us, pc, ls, st, h)) := by
  subst hq
  simp only [Bool.and_eq_true, Bool.not_eq_true'] at hI
  refine rp_ln hl (t := (m, uc, us, pc + n, ls, st', h)) ?_ K
  unfold rp_one
  rw [hI.1, hI.2.1]
  simp only [cond_true, cond_false]
  rw [hI.2.2, hr, ho]
  rfl
theorem rp_lbr {c : Prop} [Decidable c] {a b : Nat} {ls' st' : List Value} (hl : rp_lk pc (rp_mi m) = some (I, n, i)) (hI : rp_isP I = true) (ho : rp_pure I n i pc ls st = some ((if c then a else b), ls', st')) (ha : rp_Le A (EV sc (m, uc, us, a, ls', st', h))) (hb : rp_Le B (EV sc (m, uc, us, b, ls', st', h))) : rp_Le (if c then A else B) (EV sc (m, uc, us, pc, ls, st, h)) := by
  refine rp_ln hl (rp_oneP hI ho) ?_
  dsimp only
  split
  · exact ha
  · exact hb
theorem rp_lsw {x : Int32} {d : Nat} {q : List (Int32 × Nat)} {ls' st' : List Value} (hl : rp_lk pc (rp_mi m) = some (I, n, i)) (hI : rp_isP I = true) (ho : rp_pure I n i pc ls st = some (rp_sw x d q, ls', st')) (K : rp_Le o (EV sc (m, uc, us, rp_sw x d q, ls', st', h))) : rp_Le o (EV sc (m, uc, us, pc, ls, st, h)) := rp_ln hl (rp_oneP hI ho) K
theorem rp_swc {x k : Int32} {d t : Nat} {r : List (Int32 × Nat)} (ha : rp_Le A (EV sc (m, uc, us, t, ls, st, h))) (hb : rp_Le B (EV sc (m, uc, us, rp_sw x d r, ls, st, h))) : rp_Le (if x = k then A else B) (EV sc (m, uc, us, rp_sw x d ((k, t) :: r), ls, st, h)) := by
  unfold rp_sw
  dsimp only
  split
  · exact ha
  · exact hb
theorem rp_lgf {x a ci k : Nat} {w : Value} {l : List (Int32 × Nat)} {fs : List (Option Value)} {v : Value} {S : List rp_Sh} (hl : rp_lk pc (rp_mi m) = some (.getfield x, n, ci, k, w, l)) (hL : S[a]? = some (.inr (ci, fs))) (hk : fs[k]? = some (some v)) (K : rp_Le o (EV sc (m, uc, us, pc + n, ls, v :: st, (S, σ)))) : rp_Le o (EV sc (m, uc, us, pc, ls, .ref a :: st, (S, σ))) := fun y hy => rp_gf hl hL hk (K y hy)
theorem rp_lgm {x a ci k : Nat} {w : Value} {l : List (Int32 × Nat)} {fs : List (Option Value)} {S : List rp_Sh} (hl : rp_lk pc (rp_mi m) = some (.getfield x, n, ci, k, w, l)) (hL : S[a]? = some (.inr (ci, fs))) (hk : fs[k]? = some none) (K : rp_Le o (EV sc (m, uc, us, pc + n, ls, .int (σ a k) :: st, (S, σ)))) : rp_Le o (EV sc (m, uc, us, pc, ls, .ref a :: st, (S, σ))) := fun y hy => rp_gm hl hL hk (K y hy)
theorem rp_lpm {x a ci k : Nat} {w : Value} {fs : List (Option Value)} {v : Int32} {S : List rp_Sh} (hl : rp_lk pc (rp_mi m) = some (.putfield x, n, ci, k, w, [])) (hL : S[a]? = some (.inr (ci, fs))) (hk : fs[k]? = some none) (hz : rp_zok w v = true) (K : rp_Le o (EV sc (m, uc, us, pc + n, ls, st, (S, rp_wr σ a k v)))) : rp_Le o (EV sc (m, uc, us, pc, ls, .int v :: .ref a :: st, (S, σ))) := fun y hy => rp_pm hl hL hk hz (K y hy)
theorem rp_lal {a q : Nat} {z : Bool} {S : List rp_Sh} (hl : rp_lk pc (rp_mi m) = some (.arraylength, n, i)) (hL : S[a + 1]? = some (.inl (z, q))) (K : rp_Le o (EV sc (m, uc, us, pc + n, ls, .int (Int32.ofNat q) :: st, (S, σ)))) : rp_Le o (EV sc (m, uc, us, pc, ls, .ref (a + 1) :: st, (S, σ))) := fun y hy => rp_al hl hL (K y hy)
theorem rp_Le_bif {c : Bool} {a b : Option rp_Rs} (h : ∀ o, b = o → EV sc (m, uc, us, pc, ls, st, (rp_L0, σ)) = bif c then o else none) (K : rp_Le a b) : rp_Le (bif c then a else none) (EV sc (m, uc, us, pc, ls, st, (rp_L0, σ))) := by
  intro y hy
  cases c with
  | true => exact (h _ rfl).trans (K y hy)
  | false => cases hy
theorem rp_lia {a q : Nat} {x : Int32} (hl : rp_lk pc (rp_mi m) = some (.iaload, n, i)) (hL : rp_L0[a + 1]? = some (.inl (false, q))) (K : rp_Le o (EV sc (m, uc, us, pc + n, ls, .int (σ (a + 1) x.toNatClampNeg) :: st, (rp_L0, σ)))) : rp_Le (bif rp_ix x q then o else none) (EV sc (m, uc, us, pc, ls, .int x :: .ref (a + 1) :: st, (rp_L0, σ))) := rp_Le_bif (fun o ho => rp_iak hl hL ho) K
theorem rp_lba {a q : Nat} {x : Int32} (hl : rp_lk pc (rp_mi m) = some (.baload, n, i)) (hL : rp_L0[a + 1]? = some (.inl (true, q))) (K : rp_Le o (EV sc (m, uc, us, pc + n, ls, .int (σ (a + 1) x.toNatClampNeg) :: st, (rp_L0, σ)))) : rp_Le (bif rp_ix x q then o else none) (EV sc (m, uc, us, pc, ls, .int x :: .ref (a + 1) :: st, (rp_L0, σ))) := rp_Le_bif (fun o ho => rp_bak hl hL ho) K
theorem rp_lis {a q : Nat} {x v : Int32} (hl : rp_lk pc (rp_mi m) = some (.iastore, n, i)) (hL : rp_L0[a + 1]? = some (.inl (false, q))) (K : rp_Le o (EV sc (m, uc, us, pc + n, ls, st, (rp_L0, rp_wr σ (a + 1) x.toNatClampNeg v)))) : rp_Le (bif rp_ix x q then o else none) (EV sc (m, uc, us, pc, ls, .int v :: .int x :: .ref (a + 1) :: st, (rp_L0, σ))) := rp_Le_bif (fun o ho => rp_isk hl hL ho) K
theorem rp_lbs {a q : Nat} {x v : Int32} (hl : rp_lk pc (rp_mi m) = some (.bastore, n, i)) (hL : rp_L0[a + 1]? = some (.inl (true, q))) (hv : v &&& 1 = v) (K : rp_Le o (EV sc (m, uc, us, pc + n, ls, st, (rp_L0, rp_wr σ (a + 1) x.toNatClampNeg v)))) : rp_Le (bif rp_ix x q then o else none) (EV sc (m, uc, us, pc, ls, .int v :: .int x :: .ref (a + 1) :: st, (rp_L0, σ))) := rp_Le_bif (fun o ho => rp_bsk hl hL hv ho) K
theorem rp_lil {a q k : Nat} {x : Int32} (hl : rp_lk pc (rp_mi m) = some (.iaload, n, i)) (hL : rp_L0[a + 1]? = some (.inl (false, q))) (hx : rp_ix x q = true) (hk : x.toNatClampNeg = k) (K : rp_Le o (EV sc (m, uc, us, pc + n, ls, .int (σ (a + 1) k) :: st, (rp_L0, σ)))) : rp_Le o (EV sc (m, uc, us, pc, ls, .int x :: .ref (a + 1) :: st, (rp_L0, σ))) := by
  subst hk
  have := rp_lia (x := x) hl hL K
  rw [hx] at this
  exact this
theorem rp_lsl {a q k : Nat} {x v : Int32} (hl : rp_lk pc (rp_mi m) = some (.iastore, n, i)) (hL : rp_L0[a + 1]? = some (.inl (false, q))) (hx : rp_ix x q = true) (hk : x.toNatClampNeg = k) (K : rp_Le o (EV sc (m, uc, us, pc + n, ls, st, (rp_L0, rp_wr σ (a + 1) k v)))) : rp_Le o (EV sc (m, uc, us, pc, ls, .int v :: .int x :: .ref (a + 1) :: st, (rp_L0, σ))) := by
  subst hk
  have := rp_lis (x := x) hl hL K
  rw [hx] at this
  exact this
theorem rp_lsc {q : Nat} {xs : Nat → Int32} {x : Int32} (hl : rp_lk pc (rp_mi m) = some (.iaload, n, i)) (K : rp_Le o (EV (some (q, xs)) (m, uc, us, pc + n, ls, .int (xs x.toNatClampNeg) :: st, (rp_L0, σ)))) : rp_Le (bif rp_ix x q then o else none) (EV (some (q, xs)) (m, uc, us, pc, ls, .int x :: .ref 0 :: st, (rp_L0, σ))) := rp_Le_bif (fun o ho => rp_sck hl ho) K
theorem rp_ldg {x y : Int32} (hl : rp_lk pc (rp_mi m) = some (.idiv, n, i)) (K : rp_Le o (EV sc (m, uc, us, pc + n, ls, .int (x / y) :: st, h))) : rp_Le (if y = 0 then none else o) (EV sc (m, uc, us, pc, ls, .int y :: .int x :: st, h)) := by
  intro z hz
  rw [rp_dvk hl rfl]
  split
  next hy => rw [if_pos hy] at hz; cases hz
  next hy => rw [if_neg hy] at hz; exact K z hz
theorem rp_lrg {x y : Int32} (hl : rp_lk pc (rp_mi m) = some (.irem, n, i)) (K : rp_Le o (EV sc (m, uc, us, pc + n, ls, .int (x - x / y * y) :: st, h))) : rp_Le (if y = 0 then none else o) (EV sc (m, uc, us, pc, ls, .int y :: .int x :: st, h)) := by
  intro z hz
  rw [rp_rmk hl rfl]
  split
  next hy => rw [if_pos hy] at hz; cases hz
  next hy => rw [if_neg hy] at hz; exact K z hz
theorem rp_ldv {x y : Int32} (hl : rp_lk pc (rp_mi m) = some (.idiv, n, i)) (hy : ¬ y = 0) (K : rp_Le o (EV sc (m, uc, us, pc + n, ls, .int (x / y) :: st, h))) : rp_Le o (EV sc (m, uc, us, pc, ls, .int y :: .int x :: st, h)) := by
  have := rp_ldg (x := x) hl K
  rw [if_neg hy] at this
  exact this
theorem rp_lrm {x y : Int32} (hl : rp_lk pc (rp_mi m) = some (.irem, n, i)) (hy : ¬ y = 0) (K : rp_Le o (EV sc (m, uc, us, pc + n, ls, .int (x - x / y * y) :: st, h))) : rp_Le o (EV sc (m, uc, us, pc, ls, .int y :: .int x :: st, h)) := by
  have := rp_lrg (x := x) hl K
  rw [if_neg hy] at this
  exact this
theorem rp_lle {k : Nat} {w1 : Value} {l1 : List (Int32 × Nat)} (hl : rp_lk pc (rp_mi m) = some (.invokevirtual k, n, 5003, 1, w1, l1)) {w : Nat} (hw : w < 12) (hr : Nat.ble (rp_cat st) 8 = true) (K : rp_Le o (EV sc (m, uc, us, pc + n, ls, .int (Int32.ofNat (rp_tx w).length) :: st, h))) : rp_Le o (EV sc (m, uc, us, pc, ls, .ref (1000 + w) :: st, h)) := by
  refine rp_ln hl (t := (m, uc, us, pc + n, ls, .int (Int32.ofNat (rp_tx w).length) :: st, h)) ?_ K
  show (bif Nat.ble (rp_cat st) 8 then (rp_lib rp_tx 5003 (.ref (1000 + w) :: st)).map _ else none) = _
  rw [hr]
  have h1 : Nat.ble 1000 (1000 + w) = true := Nat.ble_eq_true_of_le (by omega)
  have h2 : Nat.blt (1000 + w) 1012 = true := Nat.ble_eq_true_of_le (by omega)
  simp [rp_lib, h1, h2]
theorem rp_lch {k : Nat} {w1 : Value} {l1 : List (Int32 × Nat)} {x : Int32} (hl : rp_lk pc (rp_mi m) = some (.invokevirtual k, n, 5004, 2, w1, l1)) {w : Nat} (hw : w < 12) (hr : Nat.ble (rp_cat st) 8 = true) (K : rp_Le o (EV sc (m, uc, us, pc + n, ls, .int ((rp_tx w).getD x.toNatClampNeg 0) :: st, h))) : rp_Le (bif rp_ix x (rp_tx w).length then o else none) (EV sc (m, uc, us, pc, ls, .int x :: .ref (1000 + w) :: st, h)) := by
  intro y hy
  cases hx : rp_ix x (rp_tx w).length with
  | false => rw [hx] at hy; cases hy
  | true =>
    rw [hx] at hy
    refine rp_ln hl (t := (m, uc, us, pc + n, ls, .int ((rp_tx w).getD x.toNatClampNeg 0) :: st, h)) ?_ K y hy
    show (bif Nat.ble (rp_cat st) 8 then (rp_lib rp_tx 5004 (.int x :: .ref (1000 + w) :: st)).map _ else none) = _
    rw [hr]
    have h1 : Nat.ble 1000 (1000 + w) = true := Nat.ble_eq_true_of_le (by omega)
    have h2 : Nat.blt (1000 + w) 1012 = true := Nat.ble_eq_true_of_le (by omega)
    simp [rp_lib, h1, h2, hx]
theorem rp_call_ok {c k : Nat} {w : Value} {l : List (Int32 × Nat)} {args st' : List Value} (hl : rp_lk pc (rp_mi m) = some (I, n, c, k, w, l)) (hI : (!rp_isHeap I && (rp_isCall I && !Nat.ble 5000 c)) = true) (hg : rp_cg rp_mt (c, k, w, l) m uc us st = true) (ha : (st.take k).reverse = args) (hd : st.drop k = st') (hr : rp_recv I h (rp_mt c).2.2.2.2.1 args = true) :
    EV sc (m, uc, us, pc, ls, st, h) = rp_then (EV sc (c, 0, 0, 0, rp_en (rp_mt c).2.2.1 args, [], h)) (fun r => EV sc (m, uc + (rp_mt c).2.2.2.2.2.2.2.1, us + (rp_mt c).2.2.2.2.2.2.2.2, pc + 3, ls, r.1.toList ++ st', r.2)) := by
  subst ha
  subst hd
  simp only [Bool.and_eq_true, Bool.not_eq_true'] at hI
  refine rp_cl hl ?_
  unfold rp_one
  rw [hI.1, hI.2.1]
  dsimp only [cond]
  rw [hI.2.2]
  dsimp only [cond]
  unfold rp_call
  rw [hg, hr]
  rfl
theorem rp_lci {c k uc' us' : Nat} {w : Value} {l : List (Int32 × Nat)} {args st' : List Value} {X : Int32 → rp_Mm → Option rp_Rs} (hl : rp_lk pc (rp_mi m) = some (I, n, c, k, w, l)) (hr : rp_recv I (rp_L0, σ) (rp_mt c).2.2.2.2.1 args = true) (hI : (!rp_isHeap I && (rp_isCall I && !Nat.ble 5000 c)) = true) (hg : rp_cg rp_mt (c, k, w, l) m uc us st = true) (ha : (st.take k).reverse = args) (hd : st.drop k = st') (hu : uc + (rp_mt c).2.2.2.2.2.2.2.1 = uc') (hs : us + (rp_mt c).2.2.2.2.2.2.2.2 = us') (K : ∀ v σ', rp_Le (X v σ') (EV sc (m, uc', us', pc + 3, ls, .int v :: st', (rp_L0, σ')))) : rp_Le (thI (CL sc c args σ) X) (EV sc (m, uc, us, pc, ls, st, (rp_L0, σ))) := by
  intro x hx
  obtain ⟨v, σ', h1, h2⟩ := thI_some hx
  rw [rp_call_ok hl hI hg ha hd hr]
  have h1 : EV sc (c, 0, 0, 0, rp_en (rp_mt c).2.2.1 args, [], (rp_L0, σ)) = RI v σ' := h1
  rw [h1, hu, hs]
  exact K v σ' x h2
theorem rp_lcv {c k uc' us' : Nat} {w : Value} {l : List (Int32 × Nat)} {args st' : List Value} {X : rp_Mm → Option rp_Rs} (hl : rp_lk pc (rp_mi m) = some (I, n, c, k, w, l)) (hr : rp_recv I (rp_L0, σ) (rp_mt c).2.2.2.2.1 args = true) (hI : (!rp_isHeap I && (rp_isCall I && !Nat.ble 5000 c)) = true) (hg : rp_cg rp_mt (c, k, w, l) m uc us st = true) (ha : (st.take k).reverse = args) (hd : st.drop k = st') (hu : uc + (rp_mt c).2.2.2.2.2.2.2.1 = uc') (hs : us + (rp_mt c).2.2.2.2.2.2.2.2 = us') (K : ∀ σ', rp_Le (X σ') (EV sc (m, uc', us', pc + 3, ls, st', (rp_L0, σ')))) : rp_Le (thV (CL sc c args σ) X) (EV sc (m, uc, us, pc, ls, st, (rp_L0, σ))) := by
  intro x hx
  obtain ⟨σ', h1, h2⟩ := thV_some hx
  rw [rp_call_ok hl hI hg ha hd hr]
  have h1 : EV sc (c, 0, 0, 0, rp_en (rp_mt c).2.2.1 args, [], (rp_L0, σ)) = RV σ' := h1
  rw [h1, hu, hs]
  exact K σ' x h2
theorem rp_lcr {c k uc' us' : Nat} {w : Value} {l : List (Int32 × Nat)} {args st' : List Value} {X : Nat → rp_Mm → Option rp_Rs} (hl : rp_lk pc (rp_mi m) = some (I, n, c, k, w, l)) (hr : rp_recv I (rp_L0, σ) (rp_mt c).2.2.2.2.1 args = true) (hI : (!rp_isHeap I && (rp_isCall I && !Nat.ble 5000 c)) = true) (hg : rp_cg rp_mt (c, k, w, l) m uc us st = true) (ha : (st.take k).reverse = args) (hd : st.drop k = st') (hu : uc + (rp_mt c).2.2.2.2.2.2.2.1 = uc') (hs : us + (rp_mt c).2.2.2.2.2.2.2.2 = us') (K : ∀ v σ', rp_Le (X v σ') (EV sc (m, uc', us', pc + 3, ls, .ref v :: st', (rp_L0, σ')))) : rp_Le (thR (CL sc c args σ) X) (EV sc (m, uc, us, pc, ls, st, (rp_L0, σ))) := by
  intro x hx
  obtain ⟨v, σ', h1, h2⟩ := thR_some hx
  rw [rp_call_ok hl hI hg ha hd hr]
  have h1 : EV sc (c, 0, 0, 0, rp_en (rp_mt c).2.2.1 args, [], (rp_L0, σ)) = RR v σ' := h1
  rw [h1, hu, hs]
  exact K v σ' x h2
theorem rp_lri {v : Int32} (hl : rp_lk pc (rp_mi m) = some (.ireturn, n, i)) (ht : (rp_mt m).2.2.2.1 = some .int) : rp_Le (RI v σ) (EV sc (m, uc, us, pc, ls, [.int v], (rp_L0, σ))) := by
  refine rp_Le_eq (rp_ret1 hl ?_)
  show (rp_ret (rp_mt m).2.2.2.1 .ireturn [.int v]).map _ = _
  rw [ht]
  rfl
theorem rp_lrz {v : Int32} (hl : rp_lk pc (rp_mi m) = some (.ireturn, n, i)) (ht : (rp_mt m).2.2.2.1 = some .boolean) (hv : v &&& 1 = v) : rp_Le (RI v σ) (EV sc (m, uc, us, pc, ls, [.int v], (rp_L0, σ))) := by
  refine rp_Le_eq (rp_ret1 hl ?_)
  show (rp_ret (rp_mt m).2.2.2.1 .ireturn [.int v]).map _ = _
  rw [ht]
  simp [rp_ret, hv]
theorem rp_lrq {v : Int32} (hl : rp_lk pc (rp_mi m) = some (.ireturn, n, i)) (ht : (rp_mt m).2.2.2.1 = some .boolean) : rp_Le (if v &&& 1 = v then RI v σ else none) (EV sc (m, uc, us, pc, ls, [.int v], (rp_L0, σ))) := by
  split
  next hv => exact rp_lrz hl ht hv
  next => exact rp_Le_none
theorem rp_lra {v : Nat} {c : String} (hl : rp_lk pc (rp_mi m) = some (.areturn, n, i)) (ht : (rp_mt m).2.2.2.1 = some (.object c)) : rp_Le (RR v σ) (EV sc (m, uc, us, pc, ls, [.ref v], (rp_L0, σ))) := by
  refine rp_Le_eq (rp_ret1 hl ?_)
  show (rp_ret (rp_mt m).2.2.2.1 .areturn [.ref v]).map _ = _
  rw [ht]
  rfl
theorem rp_lrv (hl : rp_lk pc (rp_mi m) = some (.return_, n, i)) (ht : (rp_mt m).2.2.2.1 = none) : rp_Le (RV σ) (EV sc (m, uc, us, pc, ls, [], (rp_L0, σ))) := by
  refine rp_Le_eq (rp_ret1 hl ?_)
  show (rp_ret (rp_mt m).2.2.2.1 .return_ []).map _ = _
  rw [ht]
  rfl
end
/-! what no run has looked at may be anything: a local that is unset -/
def rp_ref : List Value → List Value → Prop
  | [], [] => True
  | a :: l, b :: r => (a = b ∨ (a = rp_U ∧ b.category = 1)) ∧ rp_ref l r
  | _, _ => False
theorem rp_ref_len : ∀ {l r : List Value}, rp_ref l r → l.length = r.length := by
  intro l
  induction l with
  | nil => intro r h; cases r with
    | nil => rfl
    | cons b r => exact absurd h (by simp [rp_ref])
  | cons a l ih => intro r h; cases r with
    | nil => exact absurd h (by simp [rp_ref])
    | cons b r => simp [ih h.2]
theorem rp_ref_get : ∀ {l r : List Value}, rp_ref l r → ∀ (i : Nat) (a : Value), l[i]? = some a → ∃ b, r[i]? = some b ∧ (a = b ∨ (a = rp_U ∧ b.category = 1)) := by
  intro l
  induction l with
  | nil => intro r _ i a h; simp at h
  | cons x l ih =>
    intro r h i a hi
    cases r with
    | nil => exact absurd h (by simp [rp_ref])
    | cons b r =>
      cases i with
      | zero => simp at hi; subst hi; exact ⟨b, rfl, h.1⟩
      | succ i => exact ih h.2 i a (by simpa using hi)
theorem rp_ref_at {l r : List Value} (h : rp_ref l r) {i : Nat} {a : Value} (hi : l[i]? = some a) (hu : a ≠ rp_U) : r[i]? = some a := by
  obtain ⟨b, h1, h2 | h2⟩ := rp_ref_get h i a hi
  · rw [h2]; exact h1
  · exact absurd h2.1 hu
theorem rp_ref_set : ∀ {l r : List Value}, rp_ref l r → ∀ (i : Nat) (v : Value), rp_ref (l.set i v) (r.set i v) := by
  intro l
  induction l with
  | nil => intro r h i v; cases r with
    | nil => simpa using h
    | cons b r => exact absurd h (by simp [rp_ref])
  | cons x l ih =>
    intro r h i v
    cases r with
    | nil => exact absurd h (by simp [rp_ref])
    | cons b r =>
      cases i with
      | zero => exact ⟨Or.inl rfl, h.2⟩
      | succ i => exact ⟨h.1, ih h.2 i v⟩
theorem rp_ref_may {l r : List Value} (h : rp_ref l r) {i : Nat} (hm : rp_may l i = true) : rp_may r i = true := by
  unfold rp_may at hm ⊢
  rw [← rp_ref_len h]
  simp only [Bool.and_eq_true] at hm ⊢
  refine ⟨hm.1, ?_⟩
  cases i with
  | zero => rfl
  | succ i =>
    have h2 := hm.2
    dsimp only at h2 ⊢
    cases hl : l[i]? with
    | none =>
      have : r[i]? = none := by
        rw [List.getElem?_eq_none_iff] at hl ⊢
        rw [← rp_ref_len h]; exact hl
      rw [this]; rfl
    | some a =>
      obtain ⟨b, h1, h3 | h3⟩ := rp_ref_get h i a hl
      · rw [h1, ← h3, ← hl]; exact h2
      · rw [h1]
        cases b <;> first | rfl | exact absurd h3.2 (by simp [Value.category])
set_option maxHeartbeats 1000000 in
theorem rp_pure_ref {I : Instr} {n : Nat} {i : rp_In} {pc : Nat} {ls ls' st : List Value} {q : Nat × List Value × List Value} (h : rp_ref ls ls') (hp : rp_pure I n i pc ls st = some q) : ∃ q', rp_pure I n i pc ls' st = some q' ∧ q'.1 = q.1 ∧ q'.2.2 = q.2.2 ∧ rp_ref q.2.1 q'.2.1 := by
  have ld : ∀ {v : Value} {k : Nat}, ls[k]? = some v → v ≠ rp_U → ls'[k]? = some v := fun a b => rp_ref_at h a b
  have dr : ∀ {o : Option (Nat × List Value × List Value)} {f : List Value → Option (Nat × List Value × List Value)}, (∀ l, f l = o.map fun z => (z.1, l, z.2.2)) → f ls = some q → ∃ q', f ls' = some q' ∧ q'.1 = q.1 ∧ q'.2.2 = q.2.2 ∧ rp_ref q.2.1 q'.2.1 := by
    intro o f hf hq
    rw [hf ls] at hq
    cases ho : o with
    | none => rw [ho] at hq; cases hq
    | some z =>
      rw [ho] at hq
      cases hq
      exact ⟨(z.1, ls', z.2.2), by rw [hf, ho]; rfl, rfl, rfl, h⟩
  have sm : ∀ {k : Nat} {v : Value} {r : List Value} {pc' : Nat}, (bif rp_may ls k then some (pc', ls.set k v, r) else none) = some q → ∃ q', (bif rp_may ls' k then some (pc', ls'.set k v, r) else none) = some q' ∧ q'.1 = q.1 ∧ q'.2.2 = q.2.2 ∧ rp_ref q.2.1 q'.2.1 := by
    intro k v r pc' hq
    cases hm : rp_may ls k with
    | false => rw [hm] at hq; cases hq
    | true =>
      rw [hm] at hq
      cases hq
      exact ⟨(pc', ls'.set k v, r), by rw [rp_ref_may h hm]; rfl, rfl, rfl, rp_ref_set h k v⟩
  have bz : ∀ {c : Bool} {pc' : Nat} {r : List Value}, (bif c then some (pc', ls, r) else none) = some q → ∃ q', (bif c then some (pc', ls', r) else none) = some q' ∧ q'.1 = q.1 ∧ q'.2.2 = q.2.2 ∧ rp_ref q.2.1 q'.2.1 := by
    intro c pc' r hq
    cases c with
    | false => cases hq
    | true => cases hq; exact ⟨_, rfl, rfl, rfl, h⟩
  unfold rp_pure at hp ⊢
  split at hp
  all_goals try exact ⟨_, rfl, (Option.some.inj hp) ▸ rfl, (Option.some.inj hp) ▸ rfl, (Option.some.inj hp) ▸ h⟩
  case h_6 =>
    split at hp
    next x hx => rw [ld hx (by simp)]; cases hp; exact ⟨_, rfl, rfl, rfl, h⟩
    next => cases hp
  case h_7 =>
    split at hp
    next x hx => rw [ld hx (by simp)]; cases hp; exact ⟨_, rfl, rfl, rfl, h⟩
    next => cases hp
  case h_8 =>
    split at hp
    next x hx => rw [ld hx (by simp)]; cases hp; exact ⟨_, rfl, rfl, rfl, h⟩
    next => cases hp
  case h_9 =>
    split at hp
    next x hx => rw [ld hx (by simp)]; cases hp; exact ⟨_, rfl, rfl, rfl, h⟩
    next => cases hp
  case h_10 =>
    split at hp
    next x hx => rw [ld hx (by simp)]; cases hp; exact ⟨_, rfl, rfl, rfl, h⟩
    next => cases hp
  case h_11 =>
    split at hp
    next => exact sm hp
    next => cases hp
  case h_12 =>
    split at hp
    next => exact sm hp
    next => cases hp
  case h_13 =>
    split at hp
    next => exact sm hp
    next => cases hp
  case h_14 =>
    split at hp
    next x k hx hk => rw [ld hx (by simp), hk]; exact sm hp
    next => cases hp
  all_goals first
    | (cases hp; done)
    | (split at hp
       all_goals first
         | (cases hp; done)
         | exact bz hp
         | exact ⟨_, rfl, (Option.some.inj hp) ▸ rfl, (Option.some.inj hp) ▸ rfl, (Option.some.inj hp) ▸ h⟩
         | (split at hp
            all_goals first
              | (cases hp; done)
              | (cases hp; simp_all [rp_ref]; done)
              | (cases hp; rename_i hy; exact ⟨_, if_neg hy, rfl, rfl, h⟩)))
theorem rp_make_ref {I : Instr} {k j uc us pc : Nat} {i : rp_In} {ls st : List Value} {h : rp_Hp} {q : rp_St} (ls' : List Value) (hq : rp_make rp_mt rp_cf I k i j uc us pc ls st h = some q) : ∃ t, q = .inl t ∧ t.2.2.2.2.1 = ls ∧ rp_make rp_mt rp_cf I k i j uc us pc ls' st h = some (.inl (t.1, t.2.1, t.2.2.1, t.2.2.2.1, ls', t.2.2.2.2.2.1, t.2.2.2.2.2.2)) := by
  unfold rp_make at hq ⊢
  split at hq
  next =>
    cases hz : (Nat.ble (uc + 1) (rp_mt j).2.2.2.2.2.2.2.1 && (Nat.ble (us + (rp_cf i.1).length) (rp_mt j).2.2.2.2.2.2.2.2 && Nat.blt h.1.length 999)) with
    | false => rw [hz] at hq; cases hq
    | true => rw [hz] at hq; cases hq; exact ⟨_, rfl, rfl, rfl⟩
  next =>
    split at hq
    next x r =>
      cases hz : (rp_ix x 100000 && (Nat.ble (uc + 1) (rp_mt j).2.2.2.2.2.2.2.1 && (Nat.ble (us + x.toNatClampNeg) (rp_mt j).2.2.2.2.2.2.2.2 && Nat.blt h.1.length 999))) with
      | false => rw [hz] at hq; cases hq
      | true =>
        rw [hz] at hq
        simp only [cond_true] at hq ⊢
        split at hq
        next => cases hq; exact ⟨_, rfl, rfl, rfl⟩
        next => cases hq; exact ⟨_, rfl, rfl, rfl⟩
        next => cases hq
    next => cases hq
  next => cases hq
/-- .. and so in every run -/
theorem rp_run_ref {sc : rp_Sc} : ∀ (n : Nat) {m uc us pc : Nat} {ls ls' st : List Value} {h : rp_Hp} {x : rp_Rs}, rp_ref ls ls' → rp_run rp_mt rp_mi rp_cf rp_tx sc n (m, uc, us, pc, ls, st, h) = some x → rp_run rp_mt rp_mi rp_cf rp_tx sc n (m, uc, us, pc, ls', st, h) = some x := by
  intro n
  induction n with
  | zero => intro m uc us pc ls ls' st h x _ hr; cases hr
  | succ n ih =>
    intro m uc us pc ls ls' st h x hf hr0
    have hr : rp_F rp_mt rp_mi rp_cf rp_tx sc (rp_run rp_mt rp_mi rp_cf rp_tx sc n) (m, uc, us, pc, ls, st, h) = some x := hr0
    clear hr0
    show rp_F rp_mt rp_mi rp_cf rp_tx sc (rp_run rp_mt rp_mi rp_cf rp_tx sc n) (m, uc, us, pc, ls', st, h) = some x
    unfold rp_F at hr ⊢
    cases hl : rp_lk pc (rp_mi m) with
    | none =>
      have : rp_front rp_mt rp_mi rp_cf rp_tx sc (m, uc, us, pc, ls, st, h) = none := by
        show (match rp_lk pc (rp_mi m) with
          | none => none
          | some (I, n, i) => rp_one rp_mt rp_cf rp_tx sc I n i m uc us pc ls st h) = _
        rw [hl]
      rw [this] at hr
      cases hr
    | some w =>
      obtain ⟨I, k, i⟩ := w
      rw [rp_fr hl] at hr
      rw [rp_fr hl]
      unfold rp_one at hr ⊢
      cases hh : rp_isHeap I with
      | true =>
        rw [hh] at hr
        simp only [cond_true] at hr ⊢
        cases hq : rp_heap sc I i (!i.2.2.2.isEmpty) h st with
        | none => rw [hq] at hr; cases hr
        | some q => rw [hq] at hr; exact ih hf hr
      | false =>
        rw [hh] at hr
        simp only [cond_false] at hr ⊢
        cases hc : rp_isCall I with
        | true =>
          rw [hc] at hr
          simp only [cond_true] at hr ⊢
          cases h5 : Nat.ble 5000 i.1 with
          | true =>
            rw [h5] at hr
            simp only [cond_true] at hr ⊢
            cases hcat : Nat.ble (rp_cat (st.drop i.2.1)) 8 with
            | false => rw [hcat] at hr; cases hr
            | true =>
              rw [hcat] at hr
              simp only [cond_true] at hr ⊢
              cases hq : rp_lib rp_tx i.1 st with
              | none => rw [hq] at hr; cases hr
              | some q => rw [hq] at hr; exact ih hf hr
          | false =>
            rw [h5] at hr
            simp only [cond_false] at hr ⊢
            unfold rp_call at hr ⊢
            cases hg : (rp_cg rp_mt i m uc us st && rp_recv I h (rp_mt i.1).2.2.2.2.1 (st.take i.2.1).reverse) with
            | false => rw [hg] at hr; cases hr
            | true =>
              rw [hg] at hr
              simp only [cond_true] at hr ⊢
              cases hq : rp_run rp_mt rp_mi rp_cf rp_tx sc n (i.1, 0, 0, 0, rp_en (rp_mt i.1).2.2.1 (st.take i.2.1).reverse, [], h) with
              | none => rw [hq] at hr; cases hr
              | some r => rw [hq] at hr; exact ih hf hr
        | false =>
          rw [hc] at hr
          simp only [cond_false] at hr ⊢
          cases hrt : rp_isRet I with
          | true =>
            rw [hrt] at hr
            simp only [cond_true] at hr ⊢
            exact hr
          | false =>
            rw [hrt] at hr
            simp only [cond_false] at hr ⊢
            cases hmk : rp_isMake I with
            | true =>
              rw [hmk] at hr
              simp only [cond_true] at hr ⊢
              cases hq : rp_make rp_mt rp_cf I k i m uc us pc ls st h with
              | none => rw [hq] at hr; cases hr
              | some q =>
                rw [hq] at hr
                obtain ⟨t, rfl, e1, e2⟩ := rp_make_ref ls' hq
                rw [e2]
                obtain ⟨t1, t2, t3, t4, t5, t6, t7⟩ := t
                have e1 : t5 = ls := e1
                subst e1
                exact ih hf hr
            | false =>
              rw [hmk] at hr
              simp only [cond_false] at hr ⊢
              cases hq : rp_pure I k i pc ls st with
              | none => rw [hq] at hr; cases hr
              | some q =>
                rw [hq] at hr
                obtain ⟨q', e1, e2, e3, e4⟩ := rp_pure_ref hf hq
                rw [e1]
                have hr : rp_run rp_mt rp_mi rp_cf rp_tx sc n (m, uc, us, q.1, q.2.1, q.2.2, h) = some x := hr
                have := ih e4 hr
                show rp_run rp_mt rp_mi rp_cf rp_tx sc n (m, uc, us, q'.1, q'.2.1, q'.2.2, h) = some x
                rw [e2, e3]
                exact this
theorem rp_LeU {sc : rp_Sc} {m uc us pc : Nat} {ls ls' st : List Value} {h : rp_Hp} (hf : rp_ref ls ls') : rp_Le (EV sc (m, uc, us, pc, ls, st, h)) (EV sc (m, uc, us, pc, ls', st, h)) := by
  intro x hx
  obtain ⟨n, hn⟩ := (rp_Ev_iff _ _ _ _ _ _ _).mp hx
  exact rp_Ev_of _ _ _ _ _ (rp_run_ref n hf hn)
