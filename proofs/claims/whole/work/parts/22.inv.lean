/-! what both sides hold: the reference's rows r (0 numbers, 1 lines, 2 trains, 3 laws, 4 passes, 5 rides, 6 wishes, 7 scans), the class's c -/
theorem lt_nI (n : Nat) : (OfNat.ofNat n : Int32) = nI (OfNat.ofNat n) := rfl
theorem ixT {n q : Nat} (h : n < q) (hq : q < 2 ^ 31) : rp_ix (nI n) q = true := by
  unfold rp_ix
  rw [nI_toInt (by omega)]
  simp only [Bool.and_eq_true, decide_eq_true_eq]
  omega
/-- a bit -/
def bt (n k : Nat) : Nat := n / 2 ^ k % 2
theorem bt_lt (n k : Nat) : bt n k < 2 := Nat.mod_lt _ (by decide)
theorem and31 : ∀ k : Nat, k < 32 → nI k &&& nI 31 = nI k := by decide +kernel
theorem smodN : ∀ k : Nat, k < 31 → ((nI k).toBitVec.smod 32).toNat = k := by decide +kernel
theorem sh_r {n k : Nat} (hn : n < 2 ^ 31) (hk : k < 31) : nI n >>> (nI k &&& nI 31) = nI (n / 2 ^ k) := by
  rw [and31 k (by omega)]
  exact pk_shrN hn (nI k) k (smodN k hk)
theorem sh_l {n k : Nat} (hn : n * 2 ^ k < 2 ^ 32) (hk : k < 31) : nI n <<< (nI k &&& nI 31) = nI (n * 2 ^ k) := by
  rw [and31 k (by omega)]
  exact pk_shlN (nI k) k (smodN k hk) hn
theorem and1 {n : Nat} (hn : n < 2 ^ 31) : nI n &&& nI 1 = nI (n % 2) := pk_andN (by omega) 1 rfl
theorem sh_b {n k : Nat} (hn : n < 2 ^ 31) (hk : k < 31) : (nI n >>> (nI k &&& nI 31)) &&& nI 1 = nI (bt n k) := by
  rw [sh_r hn hk]
  exact and1 (Nat.lt_of_le_of_lt (Nat.div_le_self _ _) hn)
theorem bt_e {n k q : Nat} (hq : q < 2 ^ 31) : nI (bt n k) = nI q ↔ bt n k = q := nI_eq (Nat.lt_trans (bt_lt n k) (by decide)) hq
/-- one cell's number -/
def N1 (r : rp_Mm) (a k : Nat) : Nat := (r a k).toNatClampNeg
def nL (r : rp_Mm) : Nat := N1 r 0 0
def nT (r : rp_Mm) : Nat := N1 r 0 1
def nP (r : rp_Mm) : Nat := N1 r 0 2
def nR (r : rp_Mm) : Nat := N1 r 0 3
def nW (r : rp_Mm) : Nat := N1 r 0 4
def nS (r : rp_Mm) : Nat := N1 r 0 5
def nD (r : rp_Mm) : Nat := N1 r 0 6
def ln (r : rp_Mm) (l c : Nat) : Nat := N1 r 1 (5 * l + c)
def tr (r : rp_Mm) (t c : Nat) : Nat := N1 r 2 (8 * t + c)
def lw (r : rp_Mm) (l c : Nat) : Nat := N1 r 3 (12 * l + c)
def ps (r : rp_Mm) (p c : Nat) : Nat := N1 r 4 (16 * p + c)
def rd (r : rp_Mm) (i c : Nat) : Nat := N1 r 5 (3 * i + c)
def ws (r : rp_Mm) (w c : Nat) : Nat := N1 r 6 (2 * w + c)
def sn (r : rp_Mm) (s c : Nat) : Nat := N1 r 7 (5 * s + c)
/-- over midnight -/
def ov (r : rp_Mm) (t : Nat) : Nat := if 1440 ≤ tr r t 3 + tr r t 4 then 1 else 0
def cdN (r : rp_Mm) (t d night : Nat) : Nat := if 1440 ≤ tr r t 3 + tr r t 4 ∧ night * 60 ≤ tr r t 3 then d + 1 else d
def leN (r : rp_Mm) (rails out t : Nat) : Nat := if bt rails (ln r (tr r t 0) 2) = 1 ∧ bt out (tr r t 0) = 0 then 1 else 0
def boatN (r : rp_Mm) (boat t : Nat) : Nat := if ln r (tr r t 0) 4 = 1 then tr r t 6 * boat / 100 else 0
def paysN (r : rp_Mm) (fast boat t : Nat) : Nat := (if tr r t 5 = 1 then fast else 0) + boatN r boat t
def cdR (r : rp_Mm) (i : Nat) : Nat := cdN r (rd r i 1) (rd r i 2) (ps r (rd r i 0) 5)
def payR (r : rp_Mm) (i : Nat) : Nat := paysN r (ps r (rd r i 0) 6) (ps r (rd r i 0) 7) (rd r i 1)
/-- whether one of the first k rides counts day d for pass p -/
def isC (r : rp_Mm) (p d : Nat) : Nat → Bool
  | 0 => false
  | k + 1 => isC r p d k || (decide (rd r k 0 = p) && decide (cdR r k = d))
def cdays (r : rp_Mm) (p : Nat) : Nat := cnt (fun i => decide (rd r i 0 = p) && !isC r p (cdR r i) i) (nR r)
def Ok (r : rp_Mm) (a k : Nat) : Prop := r a k = nI (N1 r a k)
/-- the terms of a law or a pass -/
def TM (g : Nat → Nat) : Prop := g 0 ≤ 60 ∧ g 1 ≤ 60 ∧ g 2 ≤ 999 ∧ g 3 < 32 ∧ g 4 < 16384 ∧ g 5 ≤ 24 ∧ g 6 ≤ 999 ∧ g 7 ≤ 100 ∧ g 8 ≤ 100 ∧ g 9 ≤ 100 ∧ g 10 ≤ 100
def RBn (r : rp_Mm) : Prop := (∀ k, k < 7 → Ok r 0 k) ∧ nL r ≤ 14 ∧ nT r ≤ 16 ∧ nP r ≤ 8 ∧ nR r ≤ 40 ∧ nW r ≤ 10 ∧ nS r ≤ 40 ∧ nD r ≤ 120
def RBl (r : rp_Mm) : Prop := ∀ l, l < nL r → (∀ q, q < 5 → Ok r 1 (5 * l + q)) ∧ ln r l 0 ≤ 9 ∧ ln r l 1 ≤ 9 ∧ ln r l 2 ≤ 4 ∧ 1 ≤ ln r l 3 ∧ ln r l 3 ≤ 300 ∧ ln r l 4 ≤ 1
def RBt (r : rp_Mm) : Prop := ∀ t, t < nT r → (∀ q, q < 8 → Ok r 2 (8 * t + q)) ∧ tr r t 0 < nL r ∧ tr r t 1 ≤ 9 ∧ tr r t 2 ≤ 9 ∧ tr r t 3 ≤ 1439 ∧ tr r t 4 ≤ 900 ∧ tr r t 5 ≤ 1 ∧ tr r t 6 ≤ 500 ∧ tr r t 7 ≤ 9
def RBk (r : rp_Mm) : Prop := ∀ l, l < 3 → (∀ q, q < 12 → Ok r 3 (12 * l + q)) ∧ TM (lw r l) ∧ lw r l 11 ≤ 1 ∧ (lw r l 11 = 0 → lw r l 0 = 0 ∧ lw r l 1 = 0) ∧ (lw r l 11 = 1 → 1 ≤ lw r l 0 ∧ lw r l 0 ≤ lw r l 1)
def RBp (r : rp_Mm) : Prop := ∀ p, p < nP r → (∀ q, q < 15 → Ok r 4 (16 * p + q)) ∧ TM (ps r p) ∧ 1 ≤ ps r p 0 ∧ ps r p 0 ≤ ps r p 1 ∧ ps r p 11 ≤ 2 ∧ ps r p 12 ≤ 120 ∧ ps r p 13 ≤ 1 ∧ ps r p 14 ≤ 999 ∧ cdays r p ≤ ps r p 0
def RBr (r : rp_Mm) : Prop := ∀ i, i < nR r → (∀ q, q < 3 → Ok r 5 (3 * i + q)) ∧ rd r i 0 < nP r ∧ rd r i 1 < nT r ∧ rd r i 2 ≤ 120
def RBw (r : rp_Mm) : Prop := ∀ w, w < nW r → (∀ q, q < 2 → Ok r 6 (2 * w + q)) ∧ ws r w 0 < nT r ∧ ws r w 1 ≤ 120
def RBs (r : rp_Mm) : Prop := ∀ s, s < nS r → (∀ q, q < 5 → Ok r 7 (5 * s + q)) ∧ sn r s 0 < nP r ∧ sn r s 1 ≤ 120 ∧ sn r s 2 ≤ 1439 ∧ sn r s 3 ≤ 9 ∧ sn r s 4 ≤ 120
def RB (r : rp_Mm) : Prop := RBn r ∧ RBl r ∧ RBt r ∧ RBk r ∧ RBp r ∧ RBr r ∧ RBw r ∧ RBs r
/-- what the class's rows are, by the reference's -/
def CBn (c r : rp_Mm) : Prop := c 1 3 = nI (nL r) ∧ c 3 3 = nI (nT r) ∧ c 5 3 = nI 3 ∧ c 7 3 = nI (nP r) ∧ c 9 3 = nI (nR r) ∧ c 11 3 = nI (nW r) ∧ c 13 3 = nI (nS r) ∧ c 0 7 = nI (nD r)
def CBl (c r : rp_Mm) : Prop := ∀ l, l < nL r → ∀ q, q < 5 → c 2 (5 * l + q) = nI (ln r l q)
def CBt (c r : rp_Mm) : Prop := ∀ t, t < nT r → (∀ q, q < 8 → c 4 (9 * t + q) = nI (tr r t q)) ∧ c 4 (9 * t + 8) = nI (ov r t)
def CBk (c r : rp_Mm) : Prop := ∀ l, l < 3 → ∀ q, q < 12 → c 6 (12 * l + q) = nI (lw r l q)
def CBp (c r : rp_Mm) : Prop := ∀ p, p < nP r → (∀ q, q < 11 → c 8 (15 * p + q) = nI (ps r p q)) ∧ c 8 (15 * p + 11) = nI (ps r p 14) ∧ c 8 (15 * p + 12) = nI (ps r p 11) ∧ c 8 (15 * p + 13) = nI (ps r p 12) ∧ c 8 (15 * p + 14) = nI (ps r p 13)
def CBr (c r : rp_Mm) : Prop := ∀ i, i < nR r → (∀ q, q < 3 → c 10 (5 * i + q) = nI (rd r i q)) ∧ c 10 (5 * i + 3) = nI (cdR r i) ∧ c 10 (5 * i + 4) = nI (payR r i)
def CBw (c r : rp_Mm) : Prop := ∀ w, w < nW r → ∀ q, q < 2 → c 12 (2 * w + q) = nI (ws r w q)
def CBs (c r : rp_Mm) : Prop := ∀ s, s < nS r → ∀ q, q < 5 → c 14 (5 * s + q) = nI (sn r s q)
def CB (c r : rp_Mm) : Prop := CBn c r ∧ CBl c r ∧ CBt c r ∧ CBk c r ∧ CBp c r ∧ CBr c r ∧ CBw c r ∧ CBs c r
def lenC (a : Nat) : Nat := match a with
  | 2 => 70
  | 4 => 144
  | 6 => 36
  | 8 => 120
  | 10 => 200
  | 12 => 20
  | 14 => 200
  | _ => 0
def rlC (a k : Nat) : Bool := (a == 0 && k == 7) || (a < 15 && a % 2 == 1 && k == 3) || decide (k < lenC a)
def lenR (a : Nat) : Nat := match a with
  | 0 => 7
  | 1 => 70
  | 2 => 128
  | 3 => 36
  | 4 => 128
  | 5 => 120
  | 6 => 20
  | 7 => 200
  | _ => 0
/-- the rows that are now -/
def C (σ : rp_Mm) : rp_Mm := fun a k => bif rlC a k then σ (2 + a) k else 0
def R (σ : rp_Mm) : rp_Mm := fun a k => if k < lenR a then σ (49 + a) k else 0
/-- the rows that are kept -/
def Ck (σ : rp_Mm) : rp_Mm := fun a k => bif rlC a k then σ (17 + a) k else 0
def offK (a : Nat) : Nat := match a with
  | 0 => 0
  | 1 => 7
  | 2 => 77
  | 3 => 205
  | 4 => 253
  | 5 => 381
  | 6 => 501
  | _ => 521
def Rk (σ : rp_Mm) : rp_Mm := fun a k => if k < lenR a then σ 67 (offK a + k) else 0
theorem R_at {σ : rp_Mm} {a k : Nat} (h : k < lenR a) : R σ a k = σ (49 + a) k := if_pos h
theorem C_at {σ : rp_Mm} {a k : Nat} (h : rlC a k = true) : C σ a k = σ (2 + a) k := by unfold C; rw [h]; rfl
theorem C_ar {σ : rp_Mm} {a k : Nat} (h : k < lenC a) : C σ a k = σ (2 + a) k := C_at (by unfold rlC; simp [h])
/-- all outside of P is as it was -/
def Fr (P : Nat → Nat → Prop) (σ σ' : rp_Mm) : Prop := ∀ a k, ¬ P a k → σ' a k = σ a k
theorem Fr_rfl {P : Nat → Nat → Prop} {σ : rp_Mm} : Fr P σ σ := fun _ _ _ => rfl
theorem Fr_tr {P : Nat → Nat → Prop} {σ σ' σ'' : rp_Mm} (h1 : Fr P σ σ') (h2 : Fr P σ' σ'') : Fr P σ σ'' := fun a k h => (h2 a k h).trans (h1 a k h)
theorem Fr_mo {P Q : Nat → Nat → Prop} {σ σ' : rp_Mm} (h1 : Fr P σ σ') (h : ∀ a k, P a k → Q a k) : Fr Q σ σ' := fun a k hq => h1 a k fun hp => hq (h a k hp)
theorem Fr_wr {P : Nat → Nat → Prop} {σ σ' : rp_Mm} {a k : Nat} {x : Int32} (h : Fr P σ σ') (hp : P a k) : Fr P σ (rp_wr σ' a k x) := by
  intro b j hb
  unfold rp_wr
  split
  next e =>
    split
    next e2 => exact absurd hp (by rw [← e, ← e2]; exact hb)
    next => exact h b j hb
  next => exact h b j hb
theorem R_fr {P : Nat → Nat → Prop} {σ σ' : rp_Mm} (h : Fr P σ σ') (hp : ∀ a k, a < 8 → ¬ P (49 + a) k) : R σ' = R σ := by
  funext a k
  unfold R
  split
  next hk =>
    refine h _ _ (hp a k ?_)
    unfold lenR at hk
    split at hk <;> first | omega | exact absurd hk (by omega)
  next => rfl
theorem C_fr {P : Nat → Nat → Prop} {σ σ' : rp_Mm} (h : Fr P σ σ') (hp : ∀ a k, a < 15 → ¬ P (2 + a) k) : C σ' = C σ := by
  funext a k
  unfold C
  cases hc : rlC a k with
  | false => rfl
  | true =>
    refine h _ _ (hp a k ?_)
    unfold rlC lenC at hc
    simp at hc
    split at hc <;> omega
