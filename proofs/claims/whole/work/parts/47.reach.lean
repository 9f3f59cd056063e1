/-! the reference's ways: reach; miles, way -/
theorem cnt_lt {P Q : Nat → Bool} {j : Nat} : ∀ {n : Nat}, (∀ i, i < n → P i = true → Q i = true) → j < n → Q j = true → P j = false → cnt P n < cnt Q n := by
  have mono : ∀ {n : Nat}, (∀ i, i < n → P i = true → Q i = true) → cnt P n ≤ cnt Q n := by
    intro n
    induction n with
    | zero => intro _; exact Nat.le_refl _
    | succ n ih =>
      intro h
      have h1 := ih fun i hi => h i (by omega)
      have h2 := h n (by omega)
      unfold cnt
      cases hp : P n with
      | false => simp; omega
      | true => rw [h2 hp]; simp; omega
  intro n
  induction n with
  | zero => intro _ h; exact absurd h (by omega)
  | succ n ih =>
    intro h hj hq hp
    unfold cnt
    by_cases e : j = n
    · subst e
      have := mono (n := j) fun i hi => h i (by omega)
      rw [hq, hp]
      simp
      omega
    · have h1 := ih (fun i hi => h i (by omega)) (by omega) hq hp
      have h2 := h n (by omega)
      cases hp' : P n with
      | false => simp; omega
      | true => rw [h2 hp']; simp; omega
theorem sumn_upd {F F' : Nat → Nat} {v : Nat} : ∀ {n : Nat}, v < n → (∀ x, x < n → x ≠ v → F' x = F x) → F' v < F v → sumn F' n < sumn F n := by
  intro n
  induction n with
  | zero => intro h; exact absurd h (by omega)
  | succ n ih =>
    intro hv ho hl
    unfold sumn
    by_cases e : v = n
    · subst e
      rw [sumn_congr (f := F') (g := F) fun x hx => ho x (by omega) (by omega)]
      omega
    · have := ih (by omega) (fun x hx => ho x (by omega)) hl
      have := ho n (by omega) (by omega)
      omega
/-- what the reference's row of distances is on the way -/
def DF (r : rp_Mm) (K : Nat → Nat → Nat) (s : Nat) (F : Nat → Nat) : Prop :=
  F s = 0 ∧ (∀ v, v < 10 → F v ≤ 100000000) ∧ (∀ v, v < 10 → F v < 100000000 → K s v ≤ F v) ∧
  (∀ v, v < 10 → v ≠ s → F v < 100000000 → ∃ l u, l < nL r ∧ u < 10 ∧ ((u = ln r l 0 ∧ v = ln r l 1) ∨ (u = ln r l 1 ∧ v = ln r l 0)) ∧ F u + wl r l ≤ F v)
def updF (F : Nat → Nat) (v x : Nat) : Nat → Nat := fun y => if y = v then x else F y
section
variable {r : rp_Mm} {K : Nat → Nat → Nat} {s : Nat} {F : Nat → Nat}
theorem df_up (hK : KK r K) (hs : s < 10) (h : DF r K s F) {u v l : Nat} (hl : l < nL r) (hu : u < 10) (hv : v < 10) (he : (u = ln r l 0 ∧ v = ln r l 1) ∨ (u = ln r l 1 ∧ v = ln r l 0)) (hlt : F u + wl r l < F v) : DF r K s (updF F v (F u + wl r l)) := by
  obtain ⟨a, b, c, d⟩ := h
  have hw := wl_pos (r := r) (l := l)
  have bv := b v hv
  have hvs : v ≠ s := fun e => by rw [e, a] at hlt; omega
  have huv : u ≠ v := fun e => by rw [e] at hlt; omega
  have kuv : K u v ≤ wl r l := by
    obtain ⟨k1, k2⟩ := hK.2.2.1 l hl
    rcases he with ⟨rfl, rfl⟩ | ⟨rfl, rfl⟩
    · exact k1
    · exact k2
  refine ⟨?_, fun x hx => ?_, fun x hx hf => ?_, fun x hx hxs hf => ?_⟩
  · unfold updF; rw [if_neg (fun e => hvs e.symm)]; exact a
  · unfold updF; have := b x hx; split <;> omega
  · unfold updF at hf ⊢
    by_cases e : x = v
    · rw [if_pos e] at hf ⊢
      subst e
      have t := hK.2.2.2.1 s x u hs hx hu
      have := c u hu (by omega)
      omega
    · rw [if_neg e] at hf ⊢
      exact c x hx hf
  · unfold updF at hf ⊢
    by_cases e : x = v
    · rw [if_pos e] at hf
      subst e
      exact ⟨l, u, hl, hu, he, by rw [if_pos rfl, if_neg huv]; omega⟩
    · rw [if_neg e] at hf
      obtain ⟨l', u', h1, h2, h3, h4⟩ := d x hx hxs hf
      refine ⟨l', u', h1, h2, h3, ?_⟩
      rw [if_neg e]
      split
      next q => subst q; omega
      next => exact h4
/-- at the end: each finite one is small -/
theorem df_small (h14 : nL r ≤ 14) (h300 : ∀ l, l < nL r → ln r l 3 ≤ 300) (h : DF r K s F) (hf : feas r F) : ∀ (N v : Nat), v < 10 → F v < N → F v < 100000000 → F v ≤ cnt (fun u => decide (F u < F v)) 10 * 4923392 := by
  intro N
  induction N with
  | zero => intro v _ h; exact absurd h (by omega)
  | succ N ih =>
    intro v hv hN hF
    by_cases e : v = s
    · subst e; rw [h.1]; omega
    · obtain ⟨l, u, h1, h2, h3, h4⟩ := h.2.2.2 v hv e hF
      have hw := wl_pos (r := r) (l := l)
      have hw2 := wl_le (r := r) (h300 l h1) (show l < 14 by omega)
      have hfl : F v ≤ F u + wl r l := by
        obtain ⟨k1, k2⟩ := hf l h1
        rcases h3 with ⟨rfl, rfl⟩ | ⟨rfl, rfl⟩
        · exact k1
        · exact k2
      have i := ih u h2 (by omega) (by omega)
      have c : cnt (fun x => decide (F x < F u)) 10 < cnt (fun x => decide (F x < F v)) 10 := cnt_lt (j := u) (fun i _ q => by
        simp only [decide_eq_true_eq] at q ⊢
        omega) h2 (by simp only [decide_eq_true_eq]; omega) (by simp)
      omega
theorem df_end (hK : KK r K) (h14 : nL r ≤ 14) (hb : ∀ l, l < nL r → ln r l 0 ≤ 9 ∧ ln r l 1 ≤ 9 ∧ ln r l 3 ≤ 300) (hs : s < 10) (h : DF r K s F) (hf : feas r F) {v : Nat} (hv : v < 10) : (F v < 100000000 ∧ F v = K s v) ∨ (F v = 100000000 ∧ K s v = 536870912) := by
  have bv := h.2.1 v hv
  by_cases hF : F v < 100000000
  · have e1 := h.2.2.1 v hv hF
    have e2 := hK.2.2.2.2 F (fun x hx => by have := h.2.1 x hx; omega) hf s v hs hv
    rw [h.1] at e2
    exact Or.inl ⟨hF, by omega⟩
  · have sm : ∀ x, x < 10 → F x < 100000000 → F x ≤ 49233920 := fun x hx hq => by
      have := df_small h14 (fun l hl => (hb l hl).2.2) h hf (F x + 1) x hx (by omega) hq
      have c := cnt_le (fun u => decide (F u < F x)) 10
      omega
    have e := hK.2.2.2.2 (fun x => if F x < 100000000 then F x else 536870912) (fun x hx => by
        split <;> omega) (fun l hl => by
        obtain ⟨k1, k2⟩ := hf l hl
        obtain ⟨b0, b1, b3⟩ := hb l hl
        have hw2 := wl_le (r := r) b3 (show l < 14 by omega)
        have s0 := sm (ln r l 0) (by omega)
        have s1 := sm (ln r l 1) (by omega)
        dsimp only
        constructor
        · split
          · split <;> omega
          · split
            next q => exact absurd q (by have := s0 q; omega)
            next => omega
        · split
          · split <;> omega
          · split
            next q => exact absurd q (by have := s1 q; omega)
            next => omega) s v hs hv
    rw [if_neg hF, h.1, if_pos (by decide)] at e
    have := hK.2.1 s v hs hv
    exact Or.inr ⟨by omega, by omega⟩
end
def FM (σ μ : rp_Mm) (F : Nat → Nat) : Prop := Fr (fun a _ => a = 63) σ μ ∧ ∀ v, v < 10 → μ 63 v = nI (F v)
theorem FM_up {σ μ : rp_Mm} {F : Nat → Nat} (h : FM σ μ F) {v x : Nat} : FM σ (rp_wr μ 63 v (nI x)) (updF F v x) := by
  refine ⟨Fr_wr h.1 rfl, fun y hy => ?_⟩
  unfold updF
  by_cases e : y = v
  · rw [if_pos e, e, wr_eq]
  · rw [if_neg e, wr_nk e]; exact h.2 y hy
section
variable {sc : rp_Sc} {σ μ : rp_Mm} {K : Nat → Nat → Nat}
/-- the lines once through -/
theorem x_sweep (h : RB (R σ)) (hK : KK (R σ) K) {s : Nat} (hs : s < 10) {F : Nat → Nat} (m : FM σ μ F) (d : DF (R σ) K s F) : ∃ μ' b F', FM σ μ' F' ∧ DF (R σ) K s F' ∧ ((b = 0 ∧ feas (R σ) F') ∨ (b = 1 ∧ sumn F' 10 < sumn F 10)) ∧ rp_Le (EV sc (212, 0, 0, 33, [.ref 48, .int (nI s), .int (nI b), rp_U, rp_U, rp_U, rp_U], [], (rp_L0, μ'))) (EV sc (212, 0, 0, 41, [.ref 48, .int (nI s), .int (nI 0), .int (nI 0), rp_U, rp_U, rp_U], [], (rp_L0, μ))) := by
  have bn := b_n h
  obtain ⟨⟨μ', b⟩, ⟨F', m', d', hx⟩, L⟩ := lp_inv (S := rp_Mm × Nat) (E := fun l p => EV sc (212, 0, 0, 41, [.ref 48, .int (nI s), .int (nI p.2), .int (nI l), rp_U, rp_U, rp_U], [], (rp_L0, p.1))) (fun l p => ∃ F', FM σ p.1 F' ∧ DF (R σ) K s F' ∧ ((p.2 = 0 ∧ F' = F ∧ ∀ j, j < l → F (ln (R σ) j 1) ≤ F (ln (R σ) j 0) + wl (R σ) j ∧ F (ln (R σ) j 0) ≤ F (ln (R σ) j 1) + wl (R σ) j) ∨ (p.2 = 1 ∧ sumn F' 10 < sumn F 10))) (n := nL (R σ)) (fun l p hl hR => by
    obtain ⟨μ, b⟩ := p
    obtain ⟨F1, m1, d1, hx⟩ := hR
    dsimp only at m1 hx
    have bl := b_ln h hl
    have hw2 := wl_le (r := R σ) bl.2.2.2.2.1 (show l < 14 by omega)
    have hw1 := wl_pos (r := R σ) (l := l)
    obtain ⟨a, ea⟩ : ∃ a, a = ln (R σ) l 0 := ⟨_, rfl⟩
    obtain ⟨c, ec⟩ : ∃ c, c = ln (R σ) l 1 := ⟨_, rfl⟩
    have v0 : μ 50 (5 * l) = nI a := by rw [m1.1 _ _ (by omega), ea]; exact r_ln0 h hl
    have v1 : μ 50 (5 * l + 1) = nI c := by rw [m1.1 _ _ (by omega), ec]; exact r_ln h hl (by decide)
    have v3 : μ 50 (5 * l + 3) = nI (ln (R σ) l 3) := by rw [m1.1 _ _ (by omega)]; exact r_ln h hl (by decide)
    have vn : μ 49 0 = nI (nL (R σ)) := by rw [m1.1 _ _ (by omega)]; exact r_nL h
    have ew : nI (16384 * ln (R σ) l 3) + (nI 1 <<< (nI l &&& nI 31)) = nI (wl (R σ) l) := by
      have : 2 ^ l < 2 ^ 14 := two_pow_lt (by omega)
      rw [sh_l (by omega) (by omega), Nat.one_mul, nI_add]
      rfl
    -- the second half
    have H2 : ∀ (μ : rp_Mm) (b : Nat) (F1 : Nat → Nat), FM σ μ F1 → DF (R σ) K s F1 → ((b = 0 ∧ F1 = F ∧ (∀ j, j < l → F (ln (R σ) j 1) ≤ F (ln (R σ) j 0) + wl (R σ) j ∧ F (ln (R σ) j 0) ≤ F (ln (R σ) j 1) + wl (R σ) j) ∧ F c ≤ F a + wl (R σ) l) ∨ (b = 1 ∧ sumn F1 10 < sumn F 10)) → ∃ s' : rp_Mm × Nat, (∃ F', FM σ s'.1 F' ∧ DF (R σ) K s F' ∧ ((s'.2 = 0 ∧ F' = F ∧ ∀ j, j < l + 1 → F (ln (R σ) j 1) ≤ F (ln (R σ) j 0) + wl (R σ) j ∧ F (ln (R σ) j 0) ≤ F (ln (R σ) j 1) + wl (R σ) j) ∨ (s'.2 = 1 ∧ sumn F' 10 < sumn F 10))) ∧ rp_Le (EV sc (212, 0, 0, 41, [.ref 48, .int (nI s), .int (nI s'.2), .int (nI (l + 1)), rp_U, rp_U, rp_U], [], (rp_L0, s'.1))) (EV sc (212, 0, 0, 132, [.ref 48, .int (nI s), .int (nI b), .int (nI l), .int (nI a), .int (nI c), .int (nI (wl (R σ) l))], [], (rp_L0, μ))) := by
      intro μ b F1 m1 d1 hx
      have ba := d1.2.1 a (by omega)
      have bc := d1.2.1 c (by omega)
      have T : ∀ (b : Nat) (μ : rp_Mm), rp_Le (EV sc (212, 0, 0, 41, [.ref 48, .int (nI s), .int (nI b), .int (nI (l + 1)), rp_U, rp_U, rp_U], [], (rp_L0, μ))) (EV sc (212, 0, 0, 171, [.ref 48, .int (nI s), .int (nI b), .int (nI l), .int (nI a), .int (nI c), .int (nI (wl (R σ) l))], [], (rp_L0, μ))) := fun b μ => by
        refine rp_Le_tr ?_ (D_Ref_reach_171 _ _ _ _ _ _ μ)
        simp only [lt_nI, nI_add]
        exact rp_Le_rfl
      by_cases hq : F1 a ≤ F1 c + wl (R σ) l
      · refine ⟨(μ, b), ⟨F1, m1, d1, ?_⟩, rp_Le_tr (rp_Le_tr (T b μ) ?_) (D_Ref_reach_132 _ _ _ _ _ _ μ)⟩
        · rcases hx with ⟨hb, hF, hx, hx2⟩ | hx
          · refine Or.inl ⟨hb, hF, fun j hj => ?_⟩
            by_cases e : j = l
            · subst e
              rw [← ea, ← ec]
              rw [hF] at hq
              exact ⟨hx2, hq⟩
            · exact hx j (by omega)
          · exact Or.inr hx
        · simp (disch := omega) only [lt_nI, nI_clamp, nI_leI, nI_ltI, nI_eq, ixT, cond_true, m1.2 a (by omega), m1.2 c (by omega), nI_add, hq, if_true]
          exact rp_Le_rfl
      · refine ⟨(rp_wr μ 63 a (nI (F1 c + wl (R σ) l)), 1), ⟨updF F1 a (F1 c + wl (R σ) l), FM_up m1, df_up hK hs d1 hl (by omega) (by omega) (Or.inr ⟨ec, ea⟩) (by omega), Or.inr ⟨rfl, ?_⟩⟩, rp_Le_tr (rp_Le_tr (T 1 _) ?_) (D_Ref_reach_132 _ _ _ _ _ _ μ)⟩
        · have s1 : sumn (updF F1 a (F1 c + wl (R σ) l)) 10 < sumn F1 10 := sumn_upd (v := a) (by omega) (fun x _ hx => by unfold updF; rw [if_neg hx]) (by unfold updF; rw [if_pos rfl]; omega)
          rcases hx with ⟨-, hF, -, -⟩ | ⟨-, hx⟩
          · rw [← hF]; exact s1
          · omega
        · simp (disch := omega) only [lt_nI, nI_clamp, nI_leI, nI_ltI, nI_eq, ixT, cond_true, m1.2 a (by omega), m1.2 c (by omega), nI_add, hq, if_false]
          exact rp_Le_rfl
    have ba := d1.2.1 a (by omega)
    have bc := d1.2.1 c (by omega)
    by_cases hq : F1 c ≤ F1 a + wl (R σ) l
    · obtain ⟨s', hs', L'⟩ := H2 μ b F1 m1 d1 (by
        rcases hx with ⟨hb, hF, hx⟩ | hx
        · rw [hF] at hq
          exact Or.inl ⟨hb, hF, hx, hq⟩
        · exact Or.inr hx)
      refine ⟨s', hs', rp_Le_tr (rp_Le_tr L' ?_) (D_Ref_reach_41 _ _ _ μ)⟩
      simp (disch := omega) only [lt_nI, nI_clamp, nI_leI, nI_ltI, nI_eq, ixT, cond_true, pk_mul, nI_add, vn, v0, v1, v3, show ¬ nL (R σ) ≤ l by omega, if_false, ew, m1.2 a (by omega), m1.2 c (by omega), hq, if_true]
      exact rp_Le_rfl
    · have s1 : sumn (updF F1 c (F1 a + wl (R σ) l)) 10 < sumn F1 10 := sumn_upd (v := c) (by omega) (fun x _ hx => by unfold updF; rw [if_neg hx]) (by unfold updF; rw [if_pos rfl]; omega)
      obtain ⟨s', hs', L'⟩ := H2 (rp_wr μ 63 c (nI (F1 a + wl (R σ) l))) 1 _ (FM_up m1) (df_up hK hs d1 hl (show a < 10 by omega) (show c < 10 by omega) (Or.inl ⟨ea, ec⟩) (by omega)) (by
        refine Or.inr ⟨rfl, ?_⟩
        rcases hx with ⟨-, hF, -⟩ | ⟨-, hx⟩
        · rw [← hF]; exact s1
        · omega)
      refine ⟨s', hs', rp_Le_tr (rp_Le_tr L' ?_) (D_Ref_reach_41 _ _ _ μ)⟩
      simp (disch := omega) only [lt_nI, nI_clamp, nI_leI, nI_ltI, nI_eq, ixT, cond_true, pk_mul, nI_add, vn, v0, v1, v3, show ¬ nL (R σ) ≤ l by omega, if_false, ew, m1.2 a (by omega), m1.2 c (by omega), hq]
      exact rp_Le_rfl) (s := (μ, 0)) ⟨F, m, d, Or.inl ⟨rfl, rfl, fun j hj => absurd hj (by omega)⟩⟩
  dsimp only at m' hx
  refine ⟨μ', b, F', m', d', ?_, rp_Le_tr (rp_Le_tr ?_ (D_Ref_reach_41 _ _ _ μ')) L⟩
  · rcases hx with ⟨hb, hF, hx⟩ | hx
    · refine Or.inl ⟨hb, ?_⟩
      rw [hF]
      exact hx
    · exact Or.inr hx
  · have vn : μ' 49 0 = nI (nL (R σ)) := by rw [m'.1 _ _ (by omega)]; exact r_nL h
    simp (disch := omega) only [vn, nI_leI, Nat.le_refl, if_true]
    exact rp_Le_rfl
theorem x_reach (h : RB (R σ)) (hK : KK (R σ) K) {s : Nat} (hs : s < 10) : ∃ μ F, CL sc 212 [.ref 48, .int (nI s)] σ = RV μ ∧ FM σ μ F ∧ ∀ v, v < 10 → (F v < 100000000 ∧ F v = K s v) ∨ (F v = 100000000 ∧ K s v = 536870912) := by
  have bn := b_n h
  have LL : ∀ (N : Nat) (F : Nat → Nat) (μ : rp_Mm), sumn F 10 < N → FM σ μ F → DF (R σ) K s F → ∃ μ' F', rp_Le (RV μ') (EV sc (212, 0, 0, 33, [.ref 48, .int (nI s), .int (nI 1), rp_U, rp_U, rp_U, rp_U], [], (rp_L0, μ))) ∧ FM σ μ' F' ∧ DF (R σ) K s F' ∧ feas (R σ) F' := by
    intro N
    induction N with
    | zero => intro F μ h; exact absurd h (by omega)
    | succ N ih =>
      intro F μ hN m d
      have T : rp_Le (EV sc (212, 0, 0, 41, [.ref 48, .int (nI s), .int (nI 0), .int (nI 0), rp_U, rp_U, rp_U], [], (rp_L0, μ))) (EV sc (212, 0, 0, 33, [.ref 48, .int (nI s), .int (nI 1), rp_U, rp_U, rp_U, rp_U], [], (rp_L0, μ))) := by
        refine rp_Le_tr ?_ (D_Ref_reach_33 _ _ μ)
        simp only [lt_nI, i_0, if_false]
        exact rp_Le_rfl
      obtain ⟨μ', b, F', m', d', hx, L⟩ := x_sweep (sc := sc) h hK hs m d
      rcases hx with ⟨rfl, hf⟩ | ⟨rfl, hlt⟩
      · refine ⟨μ', F', rp_Le_tr (rp_Le_tr (rp_Le_tr ?_ (D_Ref_reach_33 _ _ μ')) L) T, m', d', hf⟩
        simp only [lt_nI, i_1, if_true]
        exact rp_Le_rfl
      · obtain ⟨μ'', F'', L'', q⟩ := ih F' μ' (by omega) m' d'
        exact ⟨μ'', F'', rp_Le_tr (rp_Le_tr L'' L) T, q⟩
  obtain ⟨μ0, ⟨f0, v0⟩, L0⟩ := lp_inv (E := fun i μ => EV sc (212, 0, 0, 2, [.ref 48, .int (nI s), .int (nI i), rp_U, rp_U, rp_U, rp_U], [], (rp_L0, μ))) (fun i μ => Fr (fun a _ => a = 63) σ μ ∧ ∀ v, v < i → μ 63 v = nI (if v = s then 0 else 100000000)) (n := 10) (fun i μ hi hR => by
    obtain ⟨f, v⟩ := hR
    refine ⟨rp_wr μ 63 i (nI (if i = s then 0 else 100000000)), ⟨Fr_wr f rfl, fun k hk => ?_⟩, rp_Le_tr ?_ (D_Ref_reach_2 _ _ μ)⟩
    · by_cases e : k = i
      · subst e; exact wr_eq
      · rw [wr_nk e]; exact v k (by omega)
    · have h24 : ∀ y, rp_Le (EV sc (212, 0, 0, 2, [.ref 48, .int (nI s), .int (nI (i + 1)), rp_U, rp_U, rp_U, rp_U], [], (rp_L0, rp_wr μ 63 i (nI y)))) (EV sc (212, 0, 0, 24, [.ref 48, .int (nI s), .int (nI i), rp_U, rp_U, rp_U, rp_U], [.int (nI y), .int (nI i), .ref 63], (rp_L0, μ))) := fun y => by
        refine rp_Le_tr ?_ (D_Ref_reach_24 _ _ _ _ μ)
        simp (disch := omega) only [lt_nI, nI_add, pk_mul, nI_clamp, nI_leI, nI_ltI, nI_eq, ixT, cond_true]
        exact rp_Le_rfl
      simp (disch := omega) only [lt_nI, nI_leI, show ¬ 10 ≤ i by omega, if_false, nI_eq]
      by_cases hd : i = s
      · simp only [eq_true hd, if_true]; exact h24 0
      · simp only [eq_false hd, if_false]; exact h24 100000000) (s := σ) ⟨Fr_rfl, fun j hj => absurd hj (by omega)⟩
  have d0 : DF (R σ) K s (fun v => if v = s then 0 else 100000000) := by
    refine ⟨if_pos rfl, fun v _ => ?_, fun v hv hf => ?_, fun v hv hvs hf => ?_⟩
    · dsimp only
      split <;> omega
    · dsimp only at hf ⊢
      by_cases e : v = s
      · subst e
        rw [hK.1 v hv]
        omega
      · rw [if_neg e] at hf
        omega
    · dsimp only at hf
      rw [if_neg hvs] at hf
      omega
  obtain ⟨μ, F, L, m, d, hf⟩ := LL (sumn (fun v => if v = s then 0 else 100000000) 10 + 1) _ μ0 (by omega) ⟨f0, v0⟩ d0
  refine ⟨μ, F, cl_le rfl (rp_Le_tr (rp_Le_tr (rp_Le_tr L ?_) L0) (D_Ref_reach_0 _ σ)), m, fun v hv => df_end hK bn.1 (fun l hl => by have := b_ln h hl; omega) hs d hf hv⟩
  refine rp_Le_tr ?_ (D_Ref_reach_2 _ _ μ0)
  simp (disch := omega) only [lt_nI, nI_leI, Nat.le_refl, if_true]
  exact rp_Le_rfl
end
