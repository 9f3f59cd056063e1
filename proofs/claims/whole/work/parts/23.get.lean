/-! one cell of either side -/
section
variable {sc : rp_Sc} {σ r : rp_Mm}
theorem rR {a k n : Nat} (hk : k < lenR a) (h : Ok (R σ) a k) (hn : N1 (R σ) a k = n) : σ (49 + a) k = nI n := by
  rw [← R_at (σ := σ) hk, ← hn]
  exact h
theorem r_nL (h : RB (R σ)) : σ 49 0 = nI (nL (R σ)) := rR (a := 0) (by decide) (h.1.1 0 (by decide)) rfl
theorem r_nT (h : RB (R σ)) : σ 49 1 = nI (nT (R σ)) := rR (a := 0) (by decide) (h.1.1 1 (by decide)) rfl
theorem r_nP (h : RB (R σ)) : σ 49 2 = nI (nP (R σ)) := rR (a := 0) (by decide) (h.1.1 2 (by decide)) rfl
theorem r_nR (h : RB (R σ)) : σ 49 3 = nI (nR (R σ)) := rR (a := 0) (by decide) (h.1.1 3 (by decide)) rfl
theorem r_nW (h : RB (R σ)) : σ 49 4 = nI (nW (R σ)) := rR (a := 0) (by decide) (h.1.1 4 (by decide)) rfl
theorem r_nS (h : RB (R σ)) : σ 49 5 = nI (nS (R σ)) := rR (a := 0) (by decide) (h.1.1 5 (by decide)) rfl
theorem r_nD (h : RB (R σ)) : σ 49 6 = nI (nD (R σ)) := rR (a := 0) (by decide) (h.1.1 6 (by decide)) rfl
theorem b_n {r : rp_Mm} (h : RB r) : nL r ≤ 14 ∧ nT r ≤ 16 ∧ nP r ≤ 8 ∧ nR r ≤ 40 ∧ nW r ≤ 10 ∧ nS r ≤ 40 ∧ nD r ≤ 120 := h.1.2
theorem b_ln {r : rp_Mm} (h : RB r) {l : Nat} (hl : l < nL r) : ln r l 0 ≤ 9 ∧ ln r l 1 ≤ 9 ∧ ln r l 2 ≤ 4 ∧ 1 ≤ ln r l 3 ∧ ln r l 3 ≤ 300 ∧ ln r l 4 ≤ 1 := (h.2.1 l hl).2
theorem b_tr {r : rp_Mm} (h : RB r) {t : Nat} (ht : t < nT r) : tr r t 0 < nL r ∧ tr r t 1 ≤ 9 ∧ tr r t 2 ≤ 9 ∧ tr r t 3 ≤ 1439 ∧ tr r t 4 ≤ 900 ∧ tr r t 5 ≤ 1 ∧ tr r t 6 ≤ 500 ∧ tr r t 7 ≤ 9 := (h.2.2.1 t ht).2
theorem b_lw {r : rp_Mm} (h : RB r) {l : Nat} (hl : l < 3) : TM (lw r l) ∧ lw r l 11 ≤ 1 ∧ (lw r l 11 = 0 → lw r l 0 = 0 ∧ lw r l 1 = 0) ∧ (lw r l 11 = 1 → 1 ≤ lw r l 0 ∧ lw r l 0 ≤ lw r l 1) := (h.2.2.2.1 l hl).2
theorem b_ps {r : rp_Mm} (h : RB r) {p : Nat} (hp : p < nP r) : TM (ps r p) ∧ 1 ≤ ps r p 0 ∧ ps r p 0 ≤ ps r p 1 ∧ ps r p 11 ≤ 2 ∧ ps r p 12 ≤ 120 ∧ ps r p 13 ≤ 1 ∧ ps r p 14 ≤ 999 ∧ cdays r p ≤ ps r p 0 := (h.2.2.2.2.1 p hp).2
theorem b_rd {r : rp_Mm} (h : RB r) {i : Nat} (hi : i < nR r) : rd r i 0 < nP r ∧ rd r i 1 < nT r ∧ rd r i 2 ≤ 120 := (h.2.2.2.2.2.1 i hi).2
theorem b_ws {r : rp_Mm} (h : RB r) {w : Nat} (hw : w < nW r) : ws r w 0 < nT r ∧ ws r w 1 ≤ 120 := (h.2.2.2.2.2.2.1 w hw).2
theorem b_sn {r : rp_Mm} (h : RB r) {s : Nat} (hs : s < nS r) : sn r s 0 < nP r ∧ sn r s 1 ≤ 120 ∧ sn r s 2 ≤ 1439 ∧ sn r s 3 ≤ 9 ∧ sn r s 4 ≤ 120 := (h.2.2.2.2.2.2.2 s hs).2
theorem r_ln (h : RB (R σ)) {l q : Nat} (hl : l < nL (R σ)) (hq : q < 5) : σ 50 (5 * l + q) = nI (ln (R σ) l q) := rR (a := 1) (by have := b_n h; simp only [lenR]; omega) ((h.2.1 l hl).1 q hq) rfl
theorem r_ln0 (h : RB (R σ)) {l : Nat} (hl : l < nL (R σ)) : σ 50 (5 * l) = nI (ln (R σ) l 0) := r_ln (q := 0) h hl (by decide)
theorem r_tr (h : RB (R σ)) {t q : Nat} (ht : t < nT (R σ)) (hq : q < 8) : σ 51 (8 * t + q) = nI (tr (R σ) t q) := rR (a := 2) (by have := b_n h; simp only [lenR]; omega) ((h.2.2.1 t ht).1 q hq) rfl
theorem r_tr0 (h : RB (R σ)) {t : Nat} (ht : t < nT (R σ)) : σ 51 (8 * t) = nI (tr (R σ) t 0) := r_tr (q := 0) h ht (by decide)
theorem r_lw (h : RB (R σ)) {l q : Nat} (hl : l < 3) (hq : q < 12) : σ 52 (12 * l + q) = nI (lw (R σ) l q) := rR (a := 3) (by simp only [lenR]; omega) ((h.2.2.2.1 l hl).1 q hq) rfl
theorem r_ps (h : RB (R σ)) {p q : Nat} (hp : p < nP (R σ)) (hq : q < 15) : σ 53 (16 * p + q) = nI (ps (R σ) p q) := rR (a := 4) (by have := b_n h; simp only [lenR]; omega) ((h.2.2.2.2.1 p hp).1 q hq) rfl
theorem r_rd (h : RB (R σ)) {i q : Nat} (hi : i < nR (R σ)) (hq : q < 3) : σ 54 (3 * i + q) = nI (rd (R σ) i q) := rR (a := 5) (by have := b_n h; simp only [lenR]; omega) ((h.2.2.2.2.2.1 i hi).1 q hq) rfl
theorem r_rd0 (h : RB (R σ)) {i : Nat} (hi : i < nR (R σ)) : σ 54 (3 * i) = nI (rd (R σ) i 0) := r_rd (q := 0) h hi (by decide)
theorem r_ws (h : RB (R σ)) {w q : Nat} (hw : w < nW (R σ)) (hq : q < 2) : σ 55 (2 * w + q) = nI (ws (R σ) w q) := rR (a := 6) (by have := b_n h; simp only [lenR]; omega) ((h.2.2.2.2.2.2.1 w hw).1 q hq) rfl
theorem r_ws0 (h : RB (R σ)) {w : Nat} (hw : w < nW (R σ)) : σ 55 (2 * w) = nI (ws (R σ) w 0) := r_ws (q := 0) h hw (by decide)
theorem r_sn (h : RB (R σ)) {s q : Nat} (hs : s < nS (R σ)) (hq : q < 5) : σ 56 (5 * s + q) = nI (sn (R σ) s q) := rR (a := 7) (by have := b_n h; simp only [lenR]; omega) ((h.2.2.2.2.2.2.2 s hs).1 q hq) rfl
theorem r_sn0 (h : RB (R σ)) {s : Nat} (hs : s < nS (R σ)) : σ 56 (5 * s) = nI (sn (R σ) s 0) := r_sn (q := 0) h hs (by decide)
/-- the class's cells -/
def BI (c r : rp_Mm) : Prop := RB r ∧ CB c r
theorem rC {a k : Nat} {x : Int32} (hk : rlC a k = true) (h : C σ a k = x) : σ (2 + a) k = x := by rw [← C_at (σ := σ) hk]; exact h
theorem rCa {a k : Nat} {x : Int32} (hk : k < lenC a) (h : C σ a k = x) : σ (2 + a) k = x := by rw [← C_ar (σ := σ) hk]; exact h
theorem c_nL (h : BI (C σ) r) : σ 3 3 = nI (nL r) := rC (a := 1) (by decide) h.2.1.1
theorem c_nT (h : BI (C σ) r) : σ 5 3 = nI (nT r) := rC (a := 3) (by decide) h.2.1.2.1
theorem c_nK (h : BI (C σ) r) : σ 7 3 = nI 3 := rC (a := 5) (by decide) h.2.1.2.2.1
theorem c_nP (h : BI (C σ) r) : σ 9 3 = nI (nP r) := rC (a := 7) (by decide) h.2.1.2.2.2.1
theorem c_nR (h : BI (C σ) r) : σ 11 3 = nI (nR r) := rC (a := 9) (by decide) h.2.1.2.2.2.2.1
theorem c_nW (h : BI (C σ) r) : σ 13 3 = nI (nW r) := rC (a := 11) (by decide) h.2.1.2.2.2.2.2.1
theorem c_nS (h : BI (C σ) r) : σ 15 3 = nI (nS r) := rC (a := 13) (by decide) h.2.1.2.2.2.2.2.2.1
theorem c_nD (h : BI (C σ) r) : σ 2 7 = nI (nD r) := rC (a := 0) (by decide) h.2.1.2.2.2.2.2.2.2
/-- lines, trains and passes alone -/
def BJ (c r : rp_Mm) : Prop := RB r ∧ c 1 3 = nI (nL r) ∧ c 3 3 = nI (nT r) ∧ c 7 3 = nI (nP r) ∧ CBl c r ∧ CBt c r ∧ CBp c r
theorem BJ_of {c r : rp_Mm} (h : BI c r) : BJ c r := ⟨h.1, h.2.1.1, h.2.1.2.1, h.2.1.2.2.2.1, h.2.2.1, h.2.2.2.1, h.2.2.2.2.2.1⟩
theorem j_ln (h : BJ (C σ) r) {l q : Nat} (hl : l < nL r) (hq : q < 5) : CL sc 20 [.ref 3, .int (nI l), .int (nI q)] σ = RI (nI (ln r l q)) σ := by
  have b := b_n h.1
  rw [s_get TB3 (rC (a := 1) (by decide) h.2.1) b.1 hl hq]
  exact congrArg (fun z => RI z σ) (rCa (a := 2) (by simp only [lenC]; omega) (h.2.2.2.2.1 l hl q hq))
theorem j_tr (h : BJ (C σ) r) {t q : Nat} (ht : t < nT r) (hq : q < 8) : CL sc 20 [.ref 5, .int (nI t), .int (nI q)] σ = RI (nI (tr r t q)) σ := by
  have b := b_n h.1
  rw [s_get TB5 (rC (a := 3) (by decide) h.2.2.1) b.2.1 ht (by omega)]
  exact congrArg (fun z => RI z σ) (rCa (a := 4) (by simp only [lenC]; omega) ((h.2.2.2.2.2.1 t ht).1 q hq))
theorem j_tr8 (h : BJ (C σ) r) {t : Nat} (ht : t < nT r) : CL sc 20 [.ref 5, .int (nI t), .int (nI 8)] σ = RI (nI (ov r t)) σ := by
  have b := b_n h.1
  rw [s_get TB5 (rC (a := 3) (by decide) h.2.2.1) b.2.1 ht (by omega)]
  exact congrArg (fun z => RI z σ) (rCa (a := 4) (by simp only [lenC]; omega) (h.2.2.2.2.2.1 t ht).2)
theorem j_ps (h : BJ (C σ) r) {p q : Nat} (hp : p < nP r) (hq : q < 11) : CL sc 20 [.ref 9, .int (nI p), .int (nI q)] σ = RI (nI (ps r p q)) σ := by
  have b := b_n h.1
  rw [s_get TB9 (rC (a := 7) (by decide) h.2.2.2.1) b.2.2.1 hp (by omega)]
  exact congrArg (fun z => RI z σ) (rCa (a := 8) (by simp only [lenC]; omega) ((h.2.2.2.2.2.2 p hp).1 q hq))
theorem g_ln (h : BI (C σ) r) {l q : Nat} (hl : l < nL r) (hq : q < 5) : CL sc 20 [.ref 3, .int (nI l), .int (nI q)] σ = RI (nI (ln r l q)) σ := by
  have b := b_n h.1
  rw [s_get TB3 (c_nL h) b.1 hl hq]
  exact congrArg (fun z => RI z σ) (rCa (a := 2) (by simp only [lenC]; omega) (h.2.2.1 l hl q hq))
theorem g_tr (h : BI (C σ) r) {t q : Nat} (ht : t < nT r) (hq : q < 8) : CL sc 20 [.ref 5, .int (nI t), .int (nI q)] σ = RI (nI (tr r t q)) σ := by
  have b := b_n h.1
  rw [s_get TB5 (c_nT h) b.2.1 ht (by omega)]
  exact congrArg (fun z => RI z σ) (rCa (a := 4) (by simp only [lenC]; omega) ((h.2.2.2.1 t ht).1 q hq))
theorem g_tr8 (h : BI (C σ) r) {t : Nat} (ht : t < nT r) : CL sc 20 [.ref 5, .int (nI t), .int (nI 8)] σ = RI (nI (ov r t)) σ := by
  have b := b_n h.1
  rw [s_get TB5 (c_nT h) b.2.1 ht (by omega)]
  exact congrArg (fun z => RI z σ) (rCa (a := 4) (by simp only [lenC]; omega) (h.2.2.2.1 t ht).2)
theorem g_lw (h : BI (C σ) r) {l q : Nat} (hl : l < 3) (hq : q < 12) : CL sc 20 [.ref 7, .int (nI l), .int (nI q)] σ = RI (nI (lw r l q)) σ := by
  rw [s_get TB7 (c_nK h) (by omega) hl hq]
  exact congrArg (fun z => RI z σ) (rCa (a := 6) (by simp only [lenC]; omega) (h.2.2.2.2.1 l hl q hq))
theorem g_ps (h : BI (C σ) r) {p q : Nat} (hp : p < nP r) (hq : q < 11) : CL sc 20 [.ref 9, .int (nI p), .int (nI q)] σ = RI (nI (ps r p q)) σ := by
  have b := b_n h.1
  rw [s_get TB9 (c_nP h) b.2.2.1 hp (by omega)]
  exact congrArg (fun z => RI z σ) (rCa (a := 8) (by simp only [lenC]; omega) ((h.2.2.2.2.2.1 p hp).1 q hq))
theorem g_ps11 (h : BI (C σ) r) {p : Nat} (hp : p < nP r) : CL sc 20 [.ref 9, .int (nI p), .int (nI 11)] σ = RI (nI (ps r p 14)) σ := by
  have b := b_n h.1
  rw [s_get TB9 (c_nP h) b.2.2.1 hp (by omega)]
  exact congrArg (fun z => RI z σ) (rCa (a := 8) (by simp only [lenC]; omega) (h.2.2.2.2.2.1 p hp).2.1)
theorem g_ps12 (h : BI (C σ) r) {p : Nat} (hp : p < nP r) : CL sc 20 [.ref 9, .int (nI p), .int (nI 12)] σ = RI (nI (ps r p 11)) σ := by
  have b := b_n h.1
  rw [s_get TB9 (c_nP h) b.2.2.1 hp (by omega)]
  exact congrArg (fun z => RI z σ) (rCa (a := 8) (by simp only [lenC]; omega) (h.2.2.2.2.2.1 p hp).2.2.1)
theorem g_ps13 (h : BI (C σ) r) {p : Nat} (hp : p < nP r) : CL sc 20 [.ref 9, .int (nI p), .int (nI 13)] σ = RI (nI (ps r p 12)) σ := by
  have b := b_n h.1
  rw [s_get TB9 (c_nP h) b.2.2.1 hp (by omega)]
  exact congrArg (fun z => RI z σ) (rCa (a := 8) (by simp only [lenC]; omega) (h.2.2.2.2.2.1 p hp).2.2.2.1)
theorem g_ps14 (h : BI (C σ) r) {p : Nat} (hp : p < nP r) : CL sc 20 [.ref 9, .int (nI p), .int (nI 14)] σ = RI (nI (ps r p 13)) σ := by
  have b := b_n h.1
  rw [s_get TB9 (c_nP h) b.2.2.1 hp (by omega)]
  exact congrArg (fun z => RI z σ) (rCa (a := 8) (by simp only [lenC]; omega) (h.2.2.2.2.2.1 p hp).2.2.2.2)
theorem g_rd (h : BI (C σ) r) {i q : Nat} (hi : i < nR r) (hq : q < 3) : CL sc 20 [.ref 11, .int (nI i), .int (nI q)] σ = RI (nI (rd r i q)) σ := by
  have b := b_n h.1
  rw [s_get TB11 (c_nR h) b.2.2.2.1 hi (by omega)]
  exact congrArg (fun z => RI z σ) (rCa (a := 10) (by simp only [lenC]; omega) ((h.2.2.2.2.2.2.1 i hi).1 q hq))
theorem g_rd3 (h : BI (C σ) r) {i : Nat} (hi : i < nR r) : CL sc 20 [.ref 11, .int (nI i), .int (nI 3)] σ = RI (nI (cdR r i)) σ := by
  have b := b_n h.1
  rw [s_get TB11 (c_nR h) b.2.2.2.1 hi (by omega)]
  exact congrArg (fun z => RI z σ) (rCa (a := 10) (by simp only [lenC]; omega) (h.2.2.2.2.2.2.1 i hi).2.1)
theorem g_rd4 (h : BI (C σ) r) {i : Nat} (hi : i < nR r) : CL sc 20 [.ref 11, .int (nI i), .int (nI 4)] σ = RI (nI (payR r i)) σ := by
  have b := b_n h.1
  rw [s_get TB11 (c_nR h) b.2.2.2.1 hi (by omega)]
  exact congrArg (fun z => RI z σ) (rCa (a := 10) (by simp only [lenC]; omega) (h.2.2.2.2.2.2.1 i hi).2.2)
theorem g_ws (h : BI (C σ) r) {w q : Nat} (hw : w < nW r) (hq : q < 2) : CL sc 20 [.ref 13, .int (nI w), .int (nI q)] σ = RI (nI (ws r w q)) σ := by
  have b := b_n h.1
  rw [s_get TB13 (c_nW h) b.2.2.2.2.1 hw (by omega)]
  exact congrArg (fun z => RI z σ) (rCa (a := 12) (by simp only [lenC]; omega) (h.2.2.2.2.2.2.2.1 w hw q hq))
theorem g_sn (h : BI (C σ) r) {s q : Nat} (hs : s < nS r) (hq : q < 5) : CL sc 20 [.ref 15, .int (nI s), .int (nI q)] σ = RI (nI (sn r s q)) σ := by
  have b := b_n h.1
  rw [s_get TB15 (c_nS h) b.2.2.2.2.2.1 hs (by omega)]
  exact congrArg (fun z => RI z σ) (rCa (a := 14) (by simp only [lenC]; omega) (h.2.2.2.2.2.2.2.2 s hs q hq))
/-! tests of numbers -/
theorem inB_N {v : Int32} {a b : Nat} (ha : a < 2 ^ 31) (hb : b < 2 ^ 31) : (∃ n, v = nI n ∧ a ≤ n ∧ n ≤ b ∧ inB v (nI a) (nI b) = 1) ∨ (inB v (nI a) (nI b) = 0 ∧ ∀ n, n < 2 ^ 31 → v = nI n → ¬ (a ≤ n ∧ n ≤ b)) := by
  rcases inB_cases v (nI a) (nI b) with ⟨e, h1, h2⟩ | ⟨e, h1⟩
  · have h0 : ¬ v < 0 := by
      intro hv
      have := nI_pos' ha
      have h3 := Int32.lt_of_le_of_lt (Int32.le_trans this h1) hv
      exact Int32.lt_irrefl h3
    obtain ⟨n, hn, rfl⟩ := nI_of2 (nI_toInt hb) h0 h2
    exact Or.inl ⟨n, rfl, (nI_leI ha (by omega)).mp h1, hn, e⟩
  · refine Or.inr ⟨e, fun n hn hv hh => h1 ?_⟩
    subst hv
    exact ⟨nI_le hh.1 hn, nI_le hh.2 hb⟩
end
