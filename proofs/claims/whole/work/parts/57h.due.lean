/-! rows that are due -/
def anyN (P : Nat → Bool) : Nat → Bool
  | 0 => false
  | n + 1 => anyN P n || P n
theorem anyN_iff {P : Nat → Bool} : ∀ {n : Nat}, anyN P n = true ↔ ∃ w, w < n ∧ P w = true := by
  intro n
  induction n with
  | zero => simp [anyN]
  | succ n ih =>
    unfold anyN
    rw [Bool.or_eq_true, ih]
    constructor
    · rintro (⟨w, h1, h2⟩ | h)
      · exact ⟨w, by omega, h2⟩
      · exact ⟨n, by omega, h⟩
    · rintro ⟨w, h1, h2⟩
      by_cases e : w = n
      · subst e; exact Or.inr h2
      · exact Or.inl ⟨w, by omega, h2⟩
def hgB (r : rp_Mm) (g : Nat → Nat) (n s0 : Nat) : Bool := anyN (fun w => decide (s0 ≤ cwN r g w ∧ cwN r g w < s0 + g 1)) n
theorem hgB_iff {r : rp_Mm} {g : Nat → Nat} {n s0 : Nat} : hgB r g n s0 = true ↔ hgP r g n s0 := by
  unfold hgB hgP
  rw [anyN_iff]
  simp
def row3 (l s0 : Nat) (c : Int32) : Nat → Int32 := fun q => match q with
  | 0 => nI l
  | 1 => nI s0
  | _ => c
def dst (r : rp_Mm) (l s0 : Nat) (st : Nat × (Nat → Int32)) : Nat × (Nat → Int32) := if hgB r (lw r l) (nW r) s0 then (st.1 + 1, fun k => if 3 * st.1 ≤ k ∧ k < 3 * st.1 + 3 then row3 l s0 (cI r (lw r l) (nW r) s0) (k - 3 * st.1) else st.2 k) else st
def dss (r : rp_Mm) (l : Nat) (st : Nat × (Nat → Int32)) : Nat → Nat × (Nat → Int32)
  | 0 => st
  | s + 1 => dst r l s (dss r l st s)
def dsa (r : rp_Mm) : Nat → Nat × (Nat → Int32)
  | 0 => (0, fun _ => 0)
  | l + 1 => dss r l (dsa r l) 121
theorem dst_t {r : rp_Mm} {l s0 : Nat} {st : Nat × (Nat → Int32)} (h : hgB r (lw r l) (nW r) s0 = true) : dst r l s0 st = (st.1 + 1, fun k => if 3 * st.1 ≤ k ∧ k < 3 * st.1 + 3 then row3 l s0 (cI r (lw r l) (nW r) s0) (k - 3 * st.1) else st.2 k) := if_pos h
theorem dst_f {r : rp_Mm} {l s0 : Nat} {st : Nat × (Nat → Int32)} (h : hgB r (lw r l) (nW r) s0 = false) : dst r l s0 st = st := if_neg (by rw [h]; decide)
/-- later ones have more rows, and the same first ones -/
def lePre (a b : Nat × (Nat → Int32)) : Prop := a.1 ≤ b.1 ∧ ∀ k, k < 3 * a.1 → b.2 k = a.2 k
theorem lePre_t {a b c : Nat × (Nat → Int32)} (h1 : lePre a b) (h2 : lePre b c) : lePre a c := ⟨Nat.le_trans h1.1 h2.1, fun k hk => by rw [h2.2 k (by have := h1.1; omega), h1.2 k hk]⟩
theorem lePre_r {a : Nat × (Nat → Int32)} : lePre a a := ⟨Nat.le_refl _, fun _ _ => rfl⟩
theorem lePre_dst {r : rp_Mm} {l s0 : Nat} {st : Nat × (Nat → Int32)} : lePre st (dst r l s0 st) := by
  cases h : hgB r (lw r l) (nW r) s0 with
  | false => rw [dst_f h]; exact lePre_r
  | true =>
    rw [dst_t h]
    refine ⟨Nat.le_succ _, fun k hk => ?_⟩
    dsimp only
    rw [if_neg (by omega)]
theorem lePre_dss {r : rp_Mm} {l : Nat} {st : Nat × (Nat → Int32)} {s s' : Nat} (h : s ≤ s') : lePre (dss r l st s) (dss r l st s') := by
  induction h with
  | refl => exact lePre_r
  | step _ ih => exact lePre_t ih lePre_dst
theorem lePre_dsa {r : rp_Mm} {l l' : Nat} (h : l ≤ l') : lePre (dsa r l) (dsa r l') := by
  induction h with
  | refl => exact lePre_r
  | step _ ih => exact lePre_t ih (lePre_dss (s := 0) (by omega))
theorem lePre_all {r : rp_Mm} {l s : Nat} (hl : l < 3) (hs : s ≤ 121) : lePre (dss r l (dsa r l) s) (dsa r 3) := lePre_t (lePre_dss (s' := 121) hs) (lePre_dsa (l := l + 1) hl)
theorem dss_le {r : rp_Mm} {l : Nat} {st : Nat × (Nat → Int32)} : ∀ {s : Nat}, (dss r l st s).1 ≤ st.1 + s := by
  intro s
  induction s with
  | zero => exact Nat.le_refl _
  | succ s ih =>
    show (dst r l s (dss r l st s)).1 ≤ _
    cases h : hgB r (lw r l) (nW r) s with
    | false => rw [dst_f h]; omega
    | true => rw [dst_t h]; dsimp only; omega
theorem dsa_le {r : rp_Mm} : ∀ {l : Nat}, (dsa r l).1 ≤ 121 * l := by
  intro l
  induction l with
  | zero => exact Nat.le_refl _
  | succ l ih =>
    have := dss_le (r := r) (l := l) (st := dsa r l) (s := 121)
    show (dss r l (dsa r l) 121).1 ≤ _
    omega
theorem i32_nat (x : Int32) : ∃ n : Nat, x = nI n := ⟨x.toBitVec.toNat, Int32.toBitVec_inj.mp (by show _ = BitVec.ofNat 32 _; simp)⟩
section
variable {sc : rp_Sc} {σ μ r : rp_Mm}
/-- each law is prepared, and its starts are gone through: what the class's three loops share -/
theorem y_laws (hB : BI (C σ) r) {l : Nat} (hl : l < 3) {Q : Nat → Nat → Prop} (hf : ∀ a k, Q a k → (42 ≤ a ∧ a ≤ 44) ∨ (37 ≤ a ∧ a ≤ 41)) (hq : ∀ a k, (a = 37 ∧ 3 ≤ k ∧ k ≤ 9) ∨ (38 ≤ a ∧ a ≤ 41) → Q a k) (f : Fr Q σ μ) : ∃ μ' δ k, CL sc 88 [.ref 37, .ref 2, .int (nI l)] μ = RV μ' ∧ Fr Q σ μ' ∧ PL μ' μ' r (lw r l) (nW r) δ k ∧ Fr (fun a k => (a = 37 ∧ 3 ≤ k ∧ k ≤ 9) ∨ (38 ≤ a ∧ a ≤ 41)) μ μ' ∧ RKD μ' k (fun i => gd r (lw r l) (nW r) (δ i)) := by
  have hBμ : BI (C μ) r := by rw [C_fr f (fun a k ha q => by have := hf _ _ q; omega)]; exact hB
  obtain ⟨μ1, δ, k, c1, hP, hK⟩ := y_prepare (sc := sc) hBμ (lg_law hBμ hl)
  exact ⟨μ1, δ, k, c1, Fr_tr f (Fr_mo hP.1 hq), PL_self hP, hP.1, hK⟩
theorem y_good (hB : BI (C σ) r) {l s0 k : Nat} {δ : Nat → Nat} (hl : l < 3) (h0 : s0 ≤ 120) (P : PL μ μ r (lw r l) (nW r) δ k) : CL sc 111 [.ref 37, .int (nI s0)] μ = RI (nI (b2 (hgB r (lw r l) (nW r) s0))) μ := by
  have bl := b_lw hB.1 hl
  rcases y_hasGood (sc := sc) hB.1 (TM1 bl.1).1 P h0 with ⟨h, e⟩ | ⟨h, e⟩
  · rw [e, hgB_iff.mpr h]; rfl
  · rw [e, show hgB r (lw r l) (nW r) s0 = false by rw [← Bool.not_eq_true, hgB_iff]; exact h]; rfl
theorem y_due (hB : BI (C σ) r) : ∃ μ, CL sc 110 [.ref 42, .ref 2, .ref 37] σ = RI (nI (dsa r 3).1) μ ∧ Fr (fun a _ => 37 ≤ a ∧ a ≤ 41) σ μ := by
  obtain ⟨μ1, f1, L⟩ := lp_inv (E := fun l μ => EV sc (110, 0, 0, 5, [.ref 42, .ref 2, .ref 37, .int (nI (dsa r l).1), .int (nI l), rp_U], [], (rp_L0, μ))) (fun l μ => Fr (fun a _ => 37 ≤ a ∧ a ≤ 41) σ μ) (n := 3) (fun l μ hl f => by
    obtain ⟨μ1, δ, k, c1, f1, P1, -⟩ := y_laws (sc := sc) hB hl (fun a k => by omega) (fun a k => by omega) f
    obtain ⟨μ2, ⟨f2, -⟩, L2⟩ := lp_inv (E := fun s0 μ => EV sc (110, 0, 0, 21, [.ref 42, .ref 2, .ref 37, .int (nI (dss r l (dsa r l) s0).1), .int (nI l), .int (nI s0)], [], (rp_L0, μ))) (fun s0 μ => Fr (fun a _ => 37 ≤ a ∧ a ≤ 41) σ μ ∧ PL μ μ r (lw r l) (nW r) δ k) (n := 121) (fun s0 μ hs hR => by
      obtain ⟨f, P⟩ := hR
      have eh := y_good (sc := sc) hB hl (show s0 ≤ 120 by omega) P
      have T40 : ∀ x3, rp_Le (EV sc (110, 0, 0, 21, [.ref 42, .ref 2, .ref 37, .int x3, .int (nI l), .int (nI (s0 + 1))], [], (rp_L0, μ))) (EV sc (110, 0, 0, 40, [.ref 42, .ref 2, .ref 37, .int x3, .int (nI l), .int (nI s0)], [], (rp_L0, μ))) := fun x3 => by
        refine rp_Le_tr ?_ (D_Proof_due_40 _ _ _ μ)
        simp only [lt_nI, nI_add]
        exact rp_Le_rfl
      refine ⟨μ, ⟨f, P⟩, rp_Le_tr ?_ (D_Proof_due_21 _ _ _ μ)⟩
      show rp_Le (EV sc (110, 0, 0, 21, [.ref 42, .ref 2, .ref 37, .int (nI (dst r l s0 (dss r l (dsa r l) s0)).1), .int (nI l), .int (nI (s0 + 1))], [], (rp_L0, μ))) _
      cases hg : hgB r (lw r l) (nW r) s0 with
      | true =>
        rw [hg] at eh
        rw [dst_t hg]
        simp (disch := omega) only [lt_nI, nI_ltI, show ¬ 120 < s0 by omega, if_false, eh, thI_RI, b2, cond_true, i_0, nI_add]
        exact T40 _
      | false =>
        rw [hg] at eh
        rw [dst_f hg]
        simp (disch := omega) only [lt_nI, nI_ltI, show ¬ 120 < s0 by omega, if_false, eh, thI_RI, b2, cond_false, i_1, if_true]
        exact T40 _) (s := μ1) ⟨f1, P1⟩
    refine ⟨μ2, f2, rp_Le_tr (rp_Le_tr (rp_Le_tr (rp_Le_tr ?_ (D_Proof_due_21 _ _ _ μ2)) L2) ?_) (D_Proof_due_5 _ _ μ)⟩
    · simp (disch := omega) only [lt_nI, nI_ltI, eq_true (show 120 < 121 by decide), if_true, nI_add]
      exact rp_Le_rfl
    · simp (disch := omega) only [lt_nI, nI_leI, show ¬ 3 ≤ l by omega, if_false, c1, thV_RV]
      exact rp_Le_rfl) (s := σ) Fr_rfl
  refine ⟨μ1, cl_le rfl (rp_Le_tr (rp_Le_tr (rp_Le_tr ?_ (D_Proof_due_5 _ _ μ1)) L) (D_Proof_due_0 σ)), f1⟩
  rw [if_pos (show (3 : Int32) ≤ nI 3 by decide)]
  exact rp_Le_rfl
theorem RowIn_wr {t tc tw n j : Nat} {v : Nat → Nat} {a k : Nat} {x : Int32} (h : RowIn σ μ t tc tw n j v) (h1 : a ≠ t) (h2 : a ≠ tc + 1) : RowIn (rp_wr σ a k x) (rp_wr μ a k x) t tc tw n j v := by
  obtain ⟨f, z, p, q⟩ := h
  refine ⟨fun b l hb => ?_, by rw [wr_n2 (fun e => h1 e.symm)]; exact z, fun w hw => by rw [wr_n2 (fun e => h2 e.symm)]; exact p w hw, fun w hw1 hw2 => by rw [wr_n2 (fun e => h2 e.symm)]; exact q w hw1 hw2⟩
  unfold rp_wr
  rw [f b l hb]
theorem y_write (hB : BI (C σ) r) (h200 : (dsa r 3).1 ≤ 200) : ∃ μ, CL sc 112 [.ref 42, .ref 2, .ref 37] σ = RV μ ∧ Fr (fun a k => (37 ≤ a ∧ a ≤ 41) ∨ (a = 43 ∧ k = 3) ∨ a = 44) σ μ ∧ μ 43 3 = nI (dsa r 3).1 ∧ ∀ k, k < 3 * (dsa r 3).1 → μ 44 k = (dsa r 3).2 k := by
  obtain ⟨μ1, ⟨f1, z1, v1⟩, L⟩ := lp_inv (E := fun l μ => EV sc (112, 0, 0, 9, [.ref 42, .ref 2, .ref 37, .int (nI l), rp_U, rp_U], [], (rp_L0, μ))) (fun l μ => Fr (fun a k => (37 ≤ a ∧ a ≤ 41) ∨ (a = 43 ∧ k = 3) ∨ a = 44) σ μ ∧ μ 43 3 = nI (dsa r l).1 ∧ ∀ k, k < 3 * (dsa r l).1 → μ 44 k = (dsa r l).2 k) (n := 3) (fun l μ hl hR => by
    obtain ⟨f, z, v⟩ := hR
    have bl := b_lw hB.1 hl
    obtain ⟨μ1, δ, k, c1, f1, P1, g1, K1⟩ := y_laws (sc := sc) hB hl (fun a k => by omega) (fun a k => by omega) f
    obtain ⟨μ2, ⟨f2, -, -, z2, v2⟩, L2⟩ := lp_inv (E := fun s0 μ => EV sc (112, 0, 0, 23, [.ref 42, .ref 2, .ref 37, .int (nI l), .int (nI s0), rp_U], [], (rp_L0, μ))) (fun s0 μ => Fr (fun a k => (37 ≤ a ∧ a ≤ 41) ∨ (a = 43 ∧ k = 3) ∨ a = 44) σ μ ∧ PL μ μ r (lw r l) (nW r) δ k ∧ RKD μ k (fun i => gd r (lw r l) (nW r) (δ i)) ∧ μ 43 3 = nI (dss r l (dsa r l) s0).1 ∧ ∀ k, k < 3 * (dss r l (dsa r l) s0).1 → μ 44 k = (dss r l (dsa r l) s0).2 k) (n := 121) (fun s0 μ hs hR => by
      obtain ⟨f, P, K, z, v⟩ := hR
      have eh := y_good (sc := sc) hB hl (show s0 ≤ 120 by omega) P
      have T87 : ∀ μ, rp_Le (EV sc (112, 0, 0, 23, [.ref 42, .ref 2, .ref 37, .int (nI l), .int (nI (s0 + 1)), rp_U], [], (rp_L0, μ))) (EV sc (112, 0, 0, 87, [.ref 42, .ref 2, .ref 37, .int (nI l), .int (nI s0), rp_U], [], (rp_L0, μ))) := fun μ => by
        refine rp_Le_tr ?_ (D_Proof_write_87 _ _ μ)
        simp only [lt_nI, nI_add]
        exact rp_Le_rfl
      have en : dss r l (dsa r l) (s0 + 1) = dst r l s0 (dss r l (dsa r l) s0) := rfl
      have hle := lePre_all (r := r) hl (show s0 + 1 ≤ 121 by omega)
      rw [en] at hle ⊢
      obtain ⟨st, est⟩ : ∃ st, st = dss r l (dsa r l) s0 := ⟨_, rfl⟩
      rw [← est] at z v hle ⊢
      cases hg : hgB r (lw r l) (nW r) s0 with
      | true =>
        rw [hg] at eh
        rw [dst_t hg] at hle ⊢
        have hn : st.1 < 200 := by have := hle.1; dsimp only at this; omega
        obtain ⟨c, ec⟩ := i32_nat (cI r (lw r l) (nW r) s0)
        obtain ⟨μa, ca, ha⟩ := row0 (sc := sc) TB42 (fun q => match q with | 0 => l | 1 => s0 | _ => c) z hn
        obtain ⟨μb, cb, hb⟩ := rowS (sc := sc) TB42 ha hn (show 0 < 3 by decide)
        obtain ⟨μc, cc, hc⟩ := rowS (sc := sc) TB42 hb hn (show 1 < 3 by decide)
        have Pc : PL μc μc r (lw r l) (nW r) δ k := PL_w P (Fr_mo hc.1 (fun _ _ => by omega))
        have Kc : RKD μc k (fun i => gd r (lw r l) (nW r) (δ i)) := RKD_w K (hc.1 _ _ (by omega)) (fun j => hc.1 _ _ (by omega))
        obtain ⟨M, -, ecost, -⟩ := y_spend (sc := sc) hB.1 (Nat.le_refl _) (TM1 bl.1).1 (TM1 bl.1).2 Pc Kc (show s0 ≤ 120 by omega)
        have hc' := RowIn_wr (a := 37) (k := 10) (x := nI M) hc (by decide) (by decide)
        obtain ⟨μd, cd, hd⟩ := rowS (sc := sc) TB42 hc' hn (show 2 < 3 by decide)
        have hd1 : Fr (fun a k => (a = 37 ∧ k = 10) ∨ (a = 43 ∧ k = 3) ∨ (a = 44 ∧ 3 * st.1 ≤ k)) μ μd := Fr_tr (Fr_wr Fr_rfl (Or.inl ⟨rfl, rfl⟩)) (Fr_mo hd.1 (fun _ _ => by omega))
        rw [ec] at ecost ⊢
        refine ⟨μd, ⟨Fr_tr f (Fr_mo hd1 (fun _ _ => by omega)), PL_w P (Fr_mo hd1 (fun _ _ => by omega)), RKD_w K (hd1 _ _ (by omega)) (fun j => hd1 _ _ (by omega)), hd.2.1, fun j hj => ?_⟩, rp_Le_tr (rp_Le_tr (T87 μd) ?_) (D_Proof_write_23 _ _ μ)⟩
        · dsimp only at hj ⊢
          by_cases q : 3 * st.1 ≤ j
          · rw [if_pos ⟨q, by omega⟩]
            have := hd.2.2.1 (j - 3 * st.1) (by omega)
            rw [show 3 * st.1 + (j - 3 * st.1) = j by omega] at this
            rw [this]
            have hq : j - 3 * st.1 = 0 ∨ j - 3 * st.1 = 1 ∨ j - 3 * st.1 = 2 := by omega
            rcases hq with e | e | e <;> rw [e] <;> rfl
          · rw [if_neg (by omega), hd1 _ _ (by omega)]
            exact v j (by omega)
        · have cb' : CL sc 5 [.ref 43, .int (nI st.1), .int (nI 0), .int (nI l)] μa = RV μb := cb
          have cc' : CL sc 5 [.ref 43, .int (nI st.1), .int (nI 1), .int (nI s0)] μb = RV μc := cc
          have cd' : CL sc 5 [.ref 43, .int (nI st.1), .int (nI 2), .int (nI c)] (rp_wr μc 37 10 (nI M)) = RV μd := cd
          simp (disch := omega) only [lt_nI, nI_ltI, show ¬ 120 < s0 by omega, if_false, eh, thI_RI, b2, cond_true, i_0, ca, cb', cc', thV_RV, ecost, cd']
          exact rp_Le_rfl
      | false =>
        rw [hg] at eh
        rw [dst_f hg]
        refine ⟨μ, ⟨f, P, K, z, v⟩, rp_Le_tr (rp_Le_tr (T87 μ) ?_) (D_Proof_write_23 _ _ μ)⟩
        simp (disch := omega) only [lt_nI, nI_ltI, show ¬ 120 < s0 by omega, if_false, eh, thI_RI, b2, cond_false, i_1, if_true]
        exact rp_Le_rfl) (s := μ1) ⟨f1, P1, K1, by rw [g1 _ _ (by omega)]; exact z, fun k hk => by rw [g1 _ _ (by omega)]; exact v k hk⟩
    refine ⟨μ2, ⟨f2, z2, v2⟩, rp_Le_tr (rp_Le_tr (rp_Le_tr (rp_Le_tr ?_ (D_Proof_write_23 _ _ μ2)) L2) ?_) (D_Proof_write_9 _ μ)⟩
    · simp (disch := omega) only [lt_nI, nI_ltI, eq_true (show 120 < 121 by decide), if_true, nI_add]
      exact rp_Le_rfl
    · simp (disch := omega) only [lt_nI, nI_leI, show ¬ 3 ≤ l by omega, if_false, c1, thV_RV]
      exact rp_Le_rfl) (s := rp_wr σ 43 3 (nI 0)) ⟨Fr_wr Fr_rfl (by omega), wr_eq, fun k hk => absurd hk (by show ¬ k < 3 * 0; omega)⟩
  refine ⟨μ1, cl_le rfl (rp_Le_tr ?_ (D_Proof_write_0 σ)), f1, z1, v1⟩
  rw [s_clear TB42, thV_RV]
  refine rp_Le_tr (rp_Le_tr ?_ (D_Proof_write_9 _ μ1)) L
  rw [if_pos (show (3 : Int32) ≤ nI 3 by decide)]
  exact rp_Le_rfl
end
