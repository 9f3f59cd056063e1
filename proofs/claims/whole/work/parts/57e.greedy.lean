/-! the best day, again and again -/
theorem sum_add {P Q : Nat → Bool} {f : Nat → Nat} {b : Nat} : ∀ {n : Nat}, b < n → P b = false → Q b = true → (∀ i, i < n → i ≠ b → Q i = P i) → sumn (fun d => if Q d then f d else 0) n = sumn (fun d => if P d then f d else 0) n + f b := by
  intro n
  induction n with
  | zero => intro h; exact absurd h (by omega)
  | succ n ih =>
    intro hb hp hq ho
    show sumn (fun d => if Q d then f d else 0) n + (if Q n then f n else 0) = sumn (fun d => if P d then f d else 0) n + (if P n then f n else 0) + f b
    by_cases e : b = n
    · subst e
      rw [sumn_congr (f := fun d => if Q d then f d else 0) (g := fun d => if P d then f d else 0) (n := b) (fun i hi => by
        show (if Q i then f i else 0) = (if P i then f i else 0)
        rw [ho i (by omega) (by omega)]), hp, hq]
      simp
    · rw [ih (by omega) hp hq fun i hi => ho i (by omega), ho n (by omega) (by omega)]
      omega
section
variable {sc : rp_Sc} {σ μ : rp_Mm}
def TS (σ μ : rp_Mm) (v q : Nat → Nat) (tk : Nat → Bool) : Prop := Fr (fun a k => (58 ≤ a ∧ a ≤ 60) ∨ (a = 48 ∧ 19 ≤ k ∧ k ≤ 21)) σ μ ∧ (∀ d, d < 122 → μ 58 d = nI (v d) ∧ μ 59 d = nI (q d) ∧ μ 60 d = nI (b2 (tk d))) ∧ μ 48 19 = nI (cnt tk 122) ∧ μ 48 20 = nI (sumn (fun d => if tk d then v d else 0) 122) ∧ μ 48 21 = nI (sumn (fun d => if tk d then q d else 0) 122)
theorem TS_c {v q : Nat → Nat} {tk tk' : Nat → Bool} (h : TS σ μ v q tk) (e : ∀ d, d < 122 → tk d = tk' d) : TS σ μ v q tk' := by
  obtain ⟨a, b, c, d, f⟩ := h
  refine ⟨a, fun x hx => by rw [← e x hx]; exact b x hx, by rw [← cnt_congr e]; exact c, ?_, ?_⟩
  · rw [← sumn_congr (f := fun d => if tk d then v d else 0) (g := fun d => if tk' d then v d else 0) (n := 122) (fun i hi => by
      show (if tk i then v i else 0) = (if tk' i then v i else 0)
      rw [e i hi])]
    exact d
  · rw [← sumn_congr (f := fun d => if tk d then q d else 0) (g := fun d => if tk' d then q d else 0) (n := 122) (fun i hi => by
      show (if tk i then q i else 0) = (if tk' i then q i else 0)
      rw [e i hi])]
    exact f
theorem TS_s {v q : Nat → Nat} {tk tk' : Nat → Bool} {b : Nat} (h : TS σ μ v q tk) (hb : b < 122) (h1 : tk b = false) (h2 : tk' b = true) (ho : ∀ i, i < 122 → i ≠ b → tk' i = tk i) : TS σ (rp_wr (rp_wr (rp_wr (rp_wr μ 60 b (nI 1)) 48 19 (nI (cnt tk 122 + 1))) 48 20 (nI (sumn (fun d => if tk d then v d else 0) 122 + v b))) 48 21 (nI (sumn (fun d => if tk d then q d else 0) 122 + q b))) v q tk' := by
  obtain ⟨a, w, c, d, f⟩ := h
  refine ⟨Fr_wr (Fr_wr (Fr_wr (Fr_wr a (by omega)) (by omega)) (by omega)) (by omega), fun x hx => ?_, ?_, ?_, ?_⟩
  · by_cases e : x = b
    · subst e
      simp (disch := omega) only [wr_n2, wr_eq]
      rw [h2]
      exact ⟨(w x hx).1, (w x hx).2.1, rfl⟩
    · simp (disch := omega) only [wr_n2, wr_nk]
      rw [ho x hx e]
      exact w x hx
  · rw [cnt_add hb h1 h2 ho]
    simp (disch := omega) only [wr_nk, wr_eq]
  · rw [sum_add (f := v) hb h1 h2 ho]
    simp (disch := omega) only [wr_nk, wr_eq]
  · rw [sum_add (f := q) hb h1 h2 ho]
    exact wr_eq
theorem x_takes (h : RB (R σ)) {l s0 : Nat} (hl : l < 3) (ht : lw (R σ) l 11 = 1) (h0 : s0 ≤ 120) : ∃ μ, CL sc 198 [.ref 48, .int (nI l), .int (nI s0)] σ = RV μ ∧ TS σ μ (gd (R σ) (lw (R σ) l) (nW (R σ))) (qd (R σ) (lw (R σ) l) (nW (R σ))) (tN (R σ) (lw (R σ) l) (nW (R σ)) s0) := by
  have bn := b_n h
  have bl := b_lw h hl
  have tm := bl.1
  unfold TM at tm
  have hN := bl.2.2.2 ht
  obtain ⟨r, er⟩ : ∃ r, r = R σ := ⟨_, rfl⟩
  obtain ⟨g, eg⟩ : ∃ g, g = lw r l := ⟨_, rfl⟩
  obtain ⟨v, ev⟩ : ∃ v, v = gd r g (nW r) := ⟨_, rfl⟩
  obtain ⟨q, eq⟩ : ∃ q, q = qd r g (nW r) := ⟨_, rfl⟩
  obtain ⟨e, ee⟩ : ∃ e, e = eN r g (nW r) s0 := ⟨_, rfl⟩
  obtain ⟨μ0, m0, L0⟩ := x_gains (sc := sc) h (s0 := s0) hl
  unfold GM at m0
  unfold tN
  rw [← er] at tm hN m0 L0 bn ⊢
  rw [← eg] at tm hN m0 ⊢
  rw [← ev, ← eq, ← ee]
  rw [← ev, ← eq] at m0
  have he : ∀ d, e d = true ↔ (s0 ≤ d ∧ d < s0 + g 1) ∧ 0 < v d := fun d => by rw [ee, ev]; exact eN_iff
  have vb : ∀ d, v d ≤ 5000 := fun d => by
    rw [ev, er]
    have := gd_le (g := g) (d := d) h (Nat.le_refl _)
    rw [← er] at this ⊢
    omega
  have gw : ∀ μ, Fr (fun a k => (58 ≤ a ∧ a ≤ 60) ∨ (a = 48 ∧ 19 ≤ k ∧ k ≤ 21)) σ μ → ∀ k, k < 12 → μ 52 (12 * l + k) = nI (g k) := fun μ f k hk => by
    rw [f _ _ (by omega), eg, er]
    exact r_lw h hl hk
  obtain ⟨X, eX⟩ : ∃ X, X = min (s0 + g 1) 122 := ⟨_, rfl⟩
  -- the loop
  have LL : ∀ (k j : Nat) (μ : rp_Mm), j + k = g 0 → cnt (tkn e v 122 j) 122 = j → TS σ μ v q (tkn e v 122 j) → ∃ μ', rp_Le (RV μ') (EV sc (198, 0, 0, 144, [.ref 48, .int (nI l), .int (nI s0), .int (nI (s0 + g 1 - 1)), .int (nI 1), rp_U, rp_U], [], (rp_L0, μ))) ∧ TS σ μ' v q (tkn e v 122 (g 0)) := by
    intro k
    induction k with
    | zero =>
      intro j μ hj hc m
      have hj : j = g 0 := by omega
      subst hj
      refine ⟨μ, rp_Le_tr ?_ (D_Ref_takes_144 _ _ _ _ μ), m⟩
      have g0 := gw μ m.1 0 (by decide)
      simp (disch := omega) only [lt_nI, nI_add, pk_mul, i_0, if_false, ixT, cond_true, nI_clamp, g0, m.2.2.1, hc, nI_leI, Nat.le_refl, if_true]
      exact rp_Le_rfl
    | succ k ih =>
      intro j μ hj hc m
      have g0 := gw μ m.1 0 (by decide)
      have St : rp_Le (EV sc (198, 0, 0, 173, [.ref 48, .int (nI l), .int (nI s0), .int (nI (s0 + g 1 - 1)), .int (nI 1), .int (bI none), .int (nI s0)], [], (rp_L0, μ))) (EV sc (198, 0, 0, 144, [.ref 48, .int (nI l), .int (nI s0), .int (nI (s0 + g 1 - 1)), .int (nI 1), rp_U, rp_U], [], (rp_L0, μ))) := by
        refine rp_Le_tr ?_ (D_Ref_takes_144 _ _ _ _ μ)
        simp (disch := omega) only [lt_nI, nI_add, pk_mul, i_0, if_false, ixT, cond_true, nI_clamp, g0, m.2.2.1, hc, nI_leI, show ¬ g 0 ≤ j by omega]
        exact rp_Le_rfl
      obtain ⟨ob, hob, L⟩ := lp_inv_from (S := Option Nat) (E := fun d ob => EV sc (198, 0, 0, 173, [.ref 48, .int (nI l), .int (nI s0), .int (nI (s0 + g 1 - 1)), .int (nI 1), .int (bI ob), .int (nI d)], [], (rp_L0, μ))) (fun d ob => match ob with
        | none => ∀ c, s0 ≤ c → c < d → ¬ (0 < v c ∧ tkn e v 122 j c = false)
        | some b => (s0 ≤ b ∧ b < d) ∧ (0 < v b ∧ tkn e v 122 j b = false) ∧ (∀ c, s0 ≤ c → c < d → 0 < v c ∧ tkn e v 122 j c = false → v c ≤ v b) ∧ ∀ c, s0 ≤ c → c < b → 0 < v c ∧ tkn e v 122 j c = false → v c < v b) (a := s0) (n := X) (by omega) (fun d ob hd1 hd hR => by
        obtain ⟨w1, w2, w3⟩ := m.2.1 d (by omega)
        have vd := vb d
        have T235 : ∀ (x5 : Int32) (y : Int32), rp_Le (EV sc (198, 0, 0, 173, [.ref 48, .int (nI l), .int (nI s0), .int (nI (s0 + g 1 - 1)), .int (nI 1), .int y, .int (nI (d + 1))], [], (rp_L0, μ))) (EV sc (198, 0, 0, 235, [.ref 48, .int (nI l), .int (nI s0), .int (nI (s0 + g 1 - 1)), .int (nI 1), .int x5, .int (nI d)], [.int y], (rp_L0, μ))) := fun x5 y => by
          refine rp_Le_tr ?_ (D_Ref_takes_235 _ _ _ _ _ _ _ μ)
          simp only [lt_nI, nI_add]
          exact rp_Le_rfl
        have T233 : ∀ (x5 : Int32), rp_Le (EV sc (198, 0, 0, 173, [.ref 48, .int (nI l), .int (nI s0), .int (nI (s0 + g 1 - 1)), .int (nI 1), .int x5, .int (nI (d + 1))], [], (rp_L0, μ))) (EV sc (198, 0, 0, 233, [.ref 48, .int (nI l), .int (nI s0), .int (nI (s0 + g 1 - 1)), .int (nI 1), .int x5, .int (nI d)], [], (rp_L0, μ))) := fun x5 => rp_Le_tr (T235 x5 x5) (D_Ref_takes_233 _ _ _ _ _ _ μ)
        have T228 : ∀ (x5 : Int32), rp_Le (EV sc (198, 0, 0, 173, [.ref 48, .int (nI l), .int (nI s0), .int (nI (s0 + g 1 - 1)), .int (nI 1), .int (nI d), .int (nI (d + 1))], [], (rp_L0, μ))) (EV sc (198, 0, 0, 228, [.ref 48, .int (nI l), .int (nI s0), .int (nI (s0 + g 1 - 1)), .int (nI 1), .int x5, .int (nI d)], [], (rp_L0, μ))) := fun x5 => rp_Le_tr (T235 x5 (nI d)) (D_Ref_takes_228 _ _ _ _ _ _ μ)
        by_cases hq : 0 < v d ∧ tkn e v 122 j d = false
        · have w3' : μ 60 d = nI 0 := by rw [w3, hq.2]; rfl
          cases ob with
          | none =>
            refine ⟨some d, ⟨⟨hd1, by omega⟩, hq, fun c h1 h2 h3 => ?_, fun c h1 h2 h3 => absurd h3 (hR c h1 h2)⟩, rp_Le_tr ?_ (D_Ref_takes_173 _ _ _ _ _ _ μ)⟩
            · by_cases q : c = d
              · subst q; exact Nat.le_refl _
              · exact absurd h3 (hR c h1 (by omega))
            · simp (disch := omega) only [lt_nI, nI_ltI, nI_leI, nI_eq, show ¬ s0 + g 1 - 1 < d by omega, show ¬ 122 ≤ d by omega, if_false, ixT, cond_true, nI_clamp, w3', w1, if_true, show ¬ v d ≤ 0 by omega]
              rw [if_pos (show bI none < nI 0 by decide)]
              exact T228 _
          | some b =>
            obtain ⟨⟨b1, b2'⟩, b3, b4, b5⟩ := hR
            have vbb := vb b
            have wb := (m.2.1 b (by omega)).1
            have hbn : ¬ bI (some b) < nI 0 := nI_pos (show b < 2 ^ 31 by omega)
            have ebn : bI (some b) = nI b := rfl
            by_cases hlt : v d ≤ v b
            · refine ⟨some b, ⟨⟨b1, by omega⟩, b3, fun c h1 h2 h3 => ?_, b5⟩, rp_Le_tr ?_ (D_Ref_takes_173 _ _ _ _ _ _ μ)⟩
              · by_cases q : c = d
                · subst q; exact hlt
                · exact b4 c h1 (by omega) h3
              · simp (disch := omega) only [lt_nI, nI_ltI, nI_leI, nI_eq, show ¬ s0 + g 1 - 1 < d by omega, show ¬ 122 ≤ d by omega, if_false, ixT, cond_true, nI_clamp, w3', w1, if_true, show ¬ v d ≤ 0 by omega]
                rw [if_neg hbn, ebn]
                simp (disch := omega) only [ixT, cond_true, nI_clamp, wb, nI_leI, hlt, if_true]
                exact T233 _
            · refine ⟨some d, ⟨⟨hd1, by omega⟩, hq, fun c h1 h2 h3 => ?_, fun c h1 h2 h3 => ?_⟩, rp_Le_tr ?_ (D_Ref_takes_173 _ _ _ _ _ _ μ)⟩
              · by_cases q : c = d
                · subst q; exact Nat.le_refl _
                · have := b4 c h1 (by omega) h3; omega
              · have := b4 c h1 h2 h3; omega
              · simp (disch := omega) only [lt_nI, nI_ltI, nI_leI, nI_eq, show ¬ s0 + g 1 - 1 < d by omega, show ¬ 122 ≤ d by omega, if_false, ixT, cond_true, nI_clamp, w3', w1, if_true, show ¬ v d ≤ 0 by omega]
                rw [if_neg hbn, ebn]
                simp (disch := omega) only [ixT, cond_true, nI_clamp, wb, nI_leI, hlt, if_false]
                exact T228 _
        · refine ⟨ob, ?_, rp_Le_tr ?_ (D_Ref_takes_173 _ _ _ _ _ _ μ)⟩
          · cases ob with
            | none =>
              intro c h1 h2
              by_cases q : c = d
              · subst q; exact hq
              · exact hR c h1 (by omega)
            | some b =>
              obtain ⟨⟨b1, b2'⟩, b3, b4, b5⟩ := hR
              refine ⟨⟨b1, by omega⟩, b3, fun c h1 h2 h3 => ?_, b5⟩
              by_cases q : c = d
              · subst q; exact absurd h3 hq
              · exact b4 c h1 (by omega) h3
          · simp (disch := omega) only [lt_nI, nI_ltI, nI_leI, show ¬ s0 + g 1 - 1 < d by omega, show ¬ 122 ≤ d by omega, if_false, ixT, cond_true, nI_clamp, w3, w1]
            cases htk : tkn e v 122 j d with
            | true =>
              simp only [b2, cond_true, i_0, if_false]
              exact T233 _
            | false =>
              have hv : v d ≤ 0 := by
                refine Nat.le_of_not_lt fun q => hq ⟨q, htk⟩
              simp only [b2, cond_false, i_1, if_true, eq_true hv]
              exact T233 _) (s := none) (fun c h1 h2 => absurd h2 (by omega))
      have Ex : rp_Le (EV sc (198, 0, 0, 243, [.ref 48, .int (nI l), .int (nI s0), .int (nI (s0 + g 1 - 1)), .int (nI 1), .int (bI ob), .int (nI X)], [], (rp_L0, μ))) (EV sc (198, 0, 0, 173, [.ref 48, .int (nI l), .int (nI s0), .int (nI (s0 + g 1 - 1)), .int (nI 1), .int (bI ob), .int (nI X)], [], (rp_L0, μ))) := by
        refine rp_Le_tr ?_ (D_Ref_takes_173 _ _ _ _ _ _ μ)
        simp (disch := omega) only [lt_nI, nI_ltI, nI_leI]
        by_cases q : s0 + g 1 - 1 < X
        · simp only [eq_true q, if_true]
          exact rp_Le_rfl
        · have q2 : 122 ≤ X := by omega
          simp only [eq_false q, eq_true q2, if_true, if_false]
          exact rp_Le_rfl
      cases ob with
      | none =>
        refine ⟨μ, rp_Le_tr (rp_Le_tr (rp_Le_tr (rp_Le_tr ?_ (D_Ref_takes_243 _ _ _ _ _ _ μ)) Ex) L) St, TS_c m fun d hd => ?_⟩
        · rw [if_pos (show bI none < 0 by decide)]
          refine rp_Le_tr (rp_Le_tr ?_ (rp_Le_eq rfl)) (D_Ref_takes_253 _ _ _ _ _ _ _ μ)
          rw [if_pos rfl]
          refine rp_Le_tr (rp_Le_tr ?_ (D_Ref_takes_144 _ _ _ _ μ)) (D_Ref_takes_310 _ _ _ _ _ _ μ)
          rw [if_pos rfl]
          exact rp_Le_rfl
        · cases ed : e d with
          | false => unfold tkn; rw [ed]; rfl
          | true =>
            have hd2 := (he d).mp ed
            have : tkn e v 122 j d = true := by
              cases ht : tkn e v 122 j d with
              | true => rfl
              | false => exact absurd ⟨hd2.2, ht⟩ (hob d hd2.1.1 (by omega))
            rw [this]
            have := (tkn_iff.mp this).2
            exact (tkn_iff.mpr ⟨ed, by omega⟩).symm
      | some b =>
        obtain ⟨⟨b1, b2'⟩, b3, b4, b5⟩ := hob
        have hb : b < 122 := by omega
        have eb : e b = true := (he b).mpr ⟨⟨b1, by omega⟩, b3.1⟩
        have hrk : rk e v 122 b = j := tkn_next hc hb eb b3.2 fun c hc2 htc => by
          rw [← Bool.not_eq_true, bet_iff]
          rintro ⟨ec, hx⟩
          have hc3 := (he c).mp ec
          have h4 := b4 c hc3.1.1 (by omega) ⟨hc3.2, htc⟩
          rcases hx with hx | ⟨hx1, hx2⟩
          · omega
          · have := b5 c hc3.1.1 hx2 ⟨hc3.2, htc⟩
            omega
        have m' := TS_s m hb b3.2 (tkn_iff.mpr ⟨eb, by omega⟩ : tkn e v 122 (j + 1) b = true) fun i hi hne => by
          rw [tkn_succ hb eb hrk hi]
          simp [hne]
        obtain ⟨μ', L', mm⟩ := ih (j + 1) _ (by omega) (tkn_cnt hc hb eb hrk) m'
        refine ⟨μ', rp_Le_tr (rp_Le_tr (rp_Le_tr (rp_Le_tr ?_ (D_Ref_takes_243 _ _ _ _ _ _ μ)) Ex) L) St, mm⟩
        have hbn : ¬ bI (some b) < 0 := nI_pos (show b < 2 ^ 31 by omega)
        have ebn : bI (some b) = nI b := rfl
        rw [if_neg hbn]
        refine rp_Le_tr ?_ (D_Ref_takes_253 _ _ _ _ _ _ _ μ)
        rw [if_neg (show ¬ (1 : Int32) = 0 by decide), ebn, ixT hb (by decide), cond_true, cond_true, cond_true, nI_clamp (show b < 2 ^ 31 by omega)]
        refine rp_Le_tr ?_ (D_Ref_takes_310 _ _ _ _ _ _ _)
        obtain ⟨w1, w2, w3⟩ := m.2.1 b hb
        have e19 := m.2.2.1
        have e20 := m.2.2.2.1
        have e21 := m.2.2.2.2
        simp (disch := omega) only [lt_nI, wr_n2, wr_nk, e19, e20, e21, w1, w2, nI_add]
        exact L'
  have f0 := m0.1
  obtain ⟨μ1, em⟩ : ∃ m, m = rp_wr (rp_wr (rp_wr μ0 48 19 (nI 0)) 48 20 (nI 0)) 48 21 (nI 0) := ⟨_, rfl⟩
  have t0 : ∀ d, tkn e v 122 0 d = false := fun d => by rw [← Bool.not_eq_true, tkn_iff]; omega
  have m1 : TS σ μ1 v q (tkn e v 122 0) := by
    have z : ∀ f : Nat → Nat, sumn (fun d => if tkn e v 122 0 d then f d else 0) 122 = 0 := fun f => sum_zero fun i _ => by rw [t0 i]; rfl
    refine ⟨?_, fun d hd => ?_, ?_, ?_, ?_⟩
    · rw [em]; exact Fr_wr (Fr_wr (Fr_wr (Fr_mo f0 (fun _ _ => by omega)) (by omega)) (by omega)) (by omega)
    · rw [t0 d, em]
      simp (disch := omega) only [wr_n2]
      exact m0.2 d hd
    · rw [tkn_0, em]; simp (disch := omega) only [wr_nk, wr_eq]
    · rw [z, em]; simp (disch := omega) only [wr_nk, wr_eq]
    · rw [z, em]; exact wr_eq
  obtain ⟨μ2, L2, m2⟩ := LL (g 0) 0 μ1 (by omega) tkn_0 m1
  refine ⟨μ2, cl_le rfl (rp_Le_tr (rp_Le_tr (rp_Le_tr L2 ?_) (D_Ref_takes_37 _ _ _ μ0)) L0), m2⟩
  have zw : μ0 49 4 = nI (nW r) := by rw [f0 _ _ (by omega), er]; exact r_nW h
  have g1 := gw μ1 m1.1 1 (by decide)
  simp (disch := omega) only [lt_nI, zw, nI_leI, Nat.le_refl, if_true, nI_add, pk_mul, ixT, cond_true, nI_clamp, ← em, g1, pk_sub]
  exact rp_Le_rfl
end
