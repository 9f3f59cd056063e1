/-! what is kept when other rows change -/
theorem N1_e {r r' : rp_Mm} {a k : Nat} (h : r' a k = r a k) : N1 r' a k = N1 r a k := by unfold N1; rw [h]
theorem N1_n {r : rp_Mm} {a k n : Nat} (h : r a k = nI n) (hn : n < 2 ^ 31) : N1 r a k = n := by unfold N1; rw [h]; exact nI_clamp hn
theorem Ok_e {r r' : rp_Mm} {a k : Nat} (h : r' a k = r a k) (ho : Ok r a k) : Ok r' a k := by unfold Ok at ho ⊢; rw [N1_e h, h]; exact ho
theorem Ok_n {r : rp_Mm} {a k n : Nat} (h : r a k = nI n) (hn : n < 2 ^ 31) : Ok r a k := by unfold Ok; rw [N1_n h hn]; exact h
theorem tr_t {r r' : rp_Mm} (h : r' 2 = r 2) : tr r' = tr r := by funext t c; exact N1_e (by rw [h])
theorem ln_t {r r' : rp_Mm} (h : r' 1 = r 1) : ln r' = ln r := by funext t c; exact N1_e (by rw [h])
theorem lw_t {r r' : rp_Mm} (h : r' 3 = r 3) : lw r' = lw r := by funext t c; exact N1_e (by rw [h])
theorem ps_t {r r' : rp_Mm} (h : r' 4 = r 4) : ps r' = ps r := by funext t c; exact N1_e (by rw [h])
theorem rd_t {r r' : rp_Mm} (h : r' 5 = r 5) : rd r' = rd r := by funext t c; exact N1_e (by rw [h])
theorem ws_t {r r' : rp_Mm} (h : r' 6 = r 6) : ws r' = ws r := by funext t c; exact N1_e (by rw [h])
theorem sn_t {r r' : rp_Mm} (h : r' 7 = r 7) : sn r' = sn r := by funext t c; exact N1_e (by rw [h])
theorem isC_t {r r' : rp_Mm} {p d : Nat} : ∀ {k : Nat}, (∀ i, i < k → rd r' i 0 = rd r i 0 ∧ cdR r' i = cdR r i) → isC r' p d k = isC r p d k := by
  intro k
  induction k with
  | zero => intro _; rfl
  | succ k ih => intro h; unfold isC; rw [ih fun i hi => h i (by omega), (h k (by omega)).1, (h k (by omega)).2]
theorem cdays_t {r r' : rp_Mm} {p : Nat} (hn : nR r' = nR r) (h : ∀ i, i < nR r → rd r' i 0 = rd r i 0 ∧ cdR r' i = cdR r i) : cdays r' p = cdays r p := by
  unfold cdays
  rw [hn]
  refine cnt_congr fun i hi => ?_
  rw [(h i hi).1, (h i hi).2, isC_t fun j hj => h j (by omega)]
theorem RBl_t {r r' : rp_Mm} (hn : nL r' = nL r) (h : r' 1 = r 1) (hb : RBl r) : RBl r' := by
  intro l hl
  rw [hn] at hl
  obtain ⟨a, b⟩ := hb l hl
  refine ⟨fun q hq => Ok_e (by rw [h]) (a q hq), ?_⟩
  rw [ln_t h]
  exact b
theorem RBt_t {r r' : rp_Mm} (hn : nT r' = nT r) (hL : nL r ≤ nL r') (h : r' 2 = r 2) (hb : RBt r) : RBt r' := by
  intro l hl
  rw [hn] at hl
  obtain ⟨a, b⟩ := hb l hl
  refine ⟨fun q hq => Ok_e (by rw [h]) (a q hq), ?_⟩
  rw [tr_t h]
  exact ⟨by omega, b.2⟩
theorem RBk_t {r r' : rp_Mm} (h : r' 3 = r 3) (hb : RBk r) : RBk r' := by
  intro l hl
  obtain ⟨a, b⟩ := hb l hl
  refine ⟨fun q hq => Ok_e (by rw [h]) (a q hq), ?_⟩
  rw [lw_t h]
  exact b
theorem RBp_t {r r' : rp_Mm} (hn : nP r' = nP r) (h : r' 4 = r 4) (hc : ∀ p, cdays r' p = cdays r p) (hb : RBp r) : RBp r' := by
  intro l hl
  rw [hn] at hl
  obtain ⟨a, b⟩ := hb l hl
  refine ⟨fun q hq => Ok_e (by rw [h]) (a q hq), ?_⟩
  rw [ps_t h, hc]
  exact b
theorem RBr_t {r r' : rp_Mm} (hn : nR r' = nR r) (hP : nP r ≤ nP r') (hT : nT r ≤ nT r') (h : r' 5 = r 5) (hb : RBr r) : RBr r' := by
  intro l hl
  rw [hn] at hl
  obtain ⟨a, b⟩ := hb l hl
  refine ⟨fun q hq => Ok_e (by rw [h]) (a q hq), ?_⟩
  rw [rd_t h]
  exact ⟨by omega, by omega, b.2.2⟩
theorem RBw_t {r r' : rp_Mm} (hn : nW r' = nW r) (hT : nT r ≤ nT r') (h : r' 6 = r 6) (hb : RBw r) : RBw r' := by
  intro l hl
  rw [hn] at hl
  obtain ⟨a, b⟩ := hb l hl
  refine ⟨fun q hq => Ok_e (by rw [h]) (a q hq), ?_⟩
  rw [ws_t h]
  exact ⟨by omega, b.2⟩
theorem RBs_t {r r' : rp_Mm} (hn : nS r' = nS r) (hP : nP r ≤ nP r') (h : r' 7 = r 7) (hb : RBs r) : RBs r' := by
  intro l hl
  rw [hn] at hl
  obtain ⟨a, b⟩ := hb l hl
  refine ⟨fun q hq => Ok_e (by rw [h]) (a q hq), ?_⟩
  rw [sn_t h]
  exact ⟨by omega, b.2⟩
theorem CBl_t {c c' r r' : rp_Mm} (hn : nL r' = nL r) (h : r' 1 = r 1) (hc : c' 2 = c 2) (hb : CBl c r) : CBl c' r' := by
  intro l hl q hq
  rw [hn] at hl
  rw [ln_t h, hc]
  exact hb l hl q hq
theorem CBt_t {c c' r r' : rp_Mm} (hn : nT r' = nT r) (h : r' 2 = r 2) (hc : c' 4 = c 4) (hb : CBt c r) : CBt c' r' := by
  intro l hl
  rw [hn] at hl
  have e : ov r' = ov r := by funext t; unfold ov; rw [tr_t h]
  rw [tr_t h, e, hc]
  exact hb l hl
theorem CBk_t {c c' r r' : rp_Mm} (h : r' 3 = r 3) (hc : c' 6 = c 6) (hb : CBk c r) : CBk c' r' := by
  intro l hl q hq
  rw [lw_t h, hc]
  exact hb l hl q hq
theorem CBp_t {c c' r r' : rp_Mm} (hn : nP r' = nP r) (h : r' 4 = r 4) (hc : c' 8 = c 8) (hb : CBp c r) : CBp c' r' := by
  intro l hl
  rw [hn] at hl
  rw [ps_t h, hc]
  exact hb l hl
theorem CBr_t {c c' r r' : rp_Mm} (hn : nR r' = nR r) (h : r' 5 = r 5) (hc : c' 10 = c 10) (hd : ∀ i, i < nR r → cdR r' i = cdR r i ∧ payR r' i = payR r i) (hb : CBr c r) : CBr c' r' := by
  intro l hl
  rw [hn] at hl
  rw [rd_t h, hc, (hd l hl).1, (hd l hl).2]
  exact hb l hl
theorem CBw_t {c c' r r' : rp_Mm} (hn : nW r' = nW r) (h : r' 6 = r 6) (hc : c' 12 = c 12) (hb : CBw c r) : CBw c' r' := by
  intro l hl q hq
  rw [hn] at hl
  rw [ws_t h, hc]
  exact hb l hl q hq
theorem CBs_t {c c' r r' : rp_Mm} (hn : nS r' = nS r) (h : r' 7 = r 7) (hc : c' 14 = c 14) (hb : CBs c r) : CBs c' r' := by
  intro l hl q hq
  rw [hn] at hl
  rw [sn_t h, hc]
  exact hb l hl q hq
/-- a ride's day and price, where lines, trains, passes and rides stay -/
theorem cd_t {r r' : rp_Mm} (h1 : r' 1 = r 1) (h2 : r' 2 = r 2) (h4 : r' 4 = r 4) (h5 : r' 5 = r 5) : cdR r' = cdR r ∧ payR r' = payR r := by
  have a := ln_t h1
  have b := tr_t h2
  have c := ps_t h4
  have d := rd_t h5
  constructor
  · funext i; unfold cdR cdN; rw [b, c, d]
  · funext i; unfold payR paysN boatN; rw [a, b, c, d]
/-- writes and the views -/
theorem R_wr {σ : rp_Mm} {a k : Nat} {x : Int32} (hk : k < lenR a) : R (rp_wr σ (49 + a) k x) = rp_wr (R σ) a k x := by
  funext b j
  unfold R rp_wr
  by_cases e1 : b = a
  · subst e1
    by_cases e2 : j = k
    · subst e2
      simp [hk]
    · simp [e2]
  · have : ¬ 49 + b = 49 + a := by omega
    simp [e1, this]
theorem R_wo {σ : rp_Mm} {a k : Nat} {x : Int32} (ha : a < 49 ∨ 57 ≤ a) : R (rp_wr σ a k x) = R σ := R_fr (P := fun b _ => b = a) (Fr_wr Fr_rfl rfl) (fun b j hb => by omega)
theorem C_wr {σ : rp_Mm} {a k : Nat} {x : Int32} (hk : rlC a k = true) : C (rp_wr σ (2 + a) k x) = rp_wr (C σ) a k x := by
  funext b j
  unfold C rp_wr
  by_cases e1 : b = a
  · subst e1
    by_cases e2 : j = k
    · subst e2
      simp [hk]
    · simp [e2]
  · have : ¬ 2 + b = 2 + a := by omega
    simp [e1, this]
theorem C_wo {σ : rp_Mm} {a k : Nat} {x : Int32} (ha : a < 2 ∨ 17 ≤ a) : C (rp_wr σ a k x) = C σ := C_fr (P := fun b _ => b = a) (Fr_wr Fr_rfl rfl) (fun b j hb => by omega)
theorem rlC_a {a k : Nat} (h : k < lenC a) : rlC a k = true := by unfold rlC; simp [h]
