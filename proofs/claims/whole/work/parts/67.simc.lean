theorem rp_make_inl {I : Instr} {k j uc us pc : Nat} {i : rp_In} {ls st : List Value} {h : rp_Hp} {q : rp_St} (hq : rp_make rp_mt rp_cf I k i j uc us pc ls st h = some q) : ∃ t, q = .inl t := by
  have bf : ∀ {c : Bool} {a : rp_As}, (bif c then some (Sum.inl a : rp_St) else none) = some q → ∃ t, q = .inl t := by
    intro c a h
    cases c with
    | false => cases h
    | true => exact ⟨a, (Option.some.inj h).symm⟩
  unfold rp_make at hq
  split at hq
  next => exact bf hq
  next =>
    split at hq
    next x r =>
      cases hz : (rp_ix x 100000 && (Nat.ble (uc + 1) (rp_mt j).2.2.2.2.2.2.2.1 && (Nat.ble (us + x.toNatClampNeg) (rp_mt j).2.2.2.2.2.2.2.2 && Nat.blt h.1.length 999))) with
      | false => rw [hz] at hq; cases hq
      | true =>
        rw [hz] at hq
        simp only [cond_true] at hq
        split at hq
        all_goals first | exact ⟨_, (Option.some.inj hq).symm⟩ | cases hq
    next => cases hq
  next => cases hq
theorem rp_recv_obj {I : Instr} {h : rp_Hp} {k : Nat} {vs : List Value} (hI : ∀ x, I ≠ .invokestatic x) (hr : rp_recv I h k vs = true) : ∃ (a : Nat) (fs : List (Option Value)) (As : List Value), vs = .ref (a + 1) :: As ∧ h.1[a + 1]? = some (.inr (k, fs)) := by
  unfold rp_recv at hr
  split at hr
  next x => exact absurd rfl (hI x)
  next =>
    split at hr
    next a As =>
      split at hr
      next ci fs hcell =>
        simp only [Bool.and_eq_true, Nat.beq_eq] at hr
        obtain ⟨rfl, rc2⟩ := hr
        have rc2 : 0 < a := Nat.le_of_ble_eq_true rc2
        obtain ⟨a1, rfl⟩ : ∃ a1 : Nat, a = a1 + 1 := ⟨Nat.pred a, (Nat.succ_pred_eq_of_pos rc2).symm⟩
        exact ⟨a1, fs, As, rfl, hcell⟩
      next => cases hr
    next => cases hr
section
variable {l : Launch} {D : va_G} {b base : Nat} {adK adV : Nat → Nat} {cI cZ : ClassId} {sc : rp_Sc}
set_option maxHeartbeats 4000000 in
theorem rp_simC {j : Nat} {p : Program} {e : Env} {R : Room} {s : State} {m : MethodId} {args : Array Value} {below : List Frame} {meth : Method} {c : Code} {H : Heap} {locs : List Loc} {uc us : Nat} {Q : State → Prop} (C : rp_Cx D b base adK adV cI cZ sc j p R s m args meth c) {h h1 : rp_Hp} {r : Option Value} (hH : rp_HR D base (rp_ph b base adK) cI cZ h H) (hS : va_S (fun q => base ≤ q) s.heap H locs)
    {pc n nf : Nat} {I : Instr} {i : rp_In} {st : List Value} {lsr : Array Slot} (hsz : lsr.size = (rp_mt j).2.2.1) (hok : rp_okE j (pc, I, n, i) = true) (hd : decode (rp_mt j).2.1 pc = .ok (I, n)) (hI : rp_isCall I = true) (h5 : Nat.ble 5000 i.1 = false) (hg : rp_cg rp_mt i j uc us st = true) (hrc : rp_recv I h (rp_mt i.1).2.2.2.2.1 (st.take i.2.1).reverse = true)
    (hs : rp_Sim l D b base adK adV cI cZ sc nf) (hrun : rp_run rp_mt rp_mi rp_cf rp_tx sc nf (i.1, 0, 0, 0, rp_en (rp_mt i.1).2.2.1 (st.take i.2.1).reverse, [], h) = some (r, h1))
    (K : ∀ H' locs', rp_HR D base (rp_ph b base adK) cI cZ h1 H' → va_S (fun q => base ≤ q) s.heap H' locs' → W p l e R s m args below meth c H' locs' (uc + (rp_mt i.1).2.2.2.2.2.2.2.1) (us + (rp_mt i.1).2.2.2.2.2.2.2.2) Q (F0 m (pc + 3) lsr ((r.toList ++ st.drop i.2.1).map (rp_vm (rp_ph b base adK))))) : W p l e R s m args below meth c H locs uc us Q (F0 m pc lsr (st.map (rp_vm (rp_ph b base adK)))) := by
  obtain ⟨hx, hb, hml, hown, hts, hmn, ⟨hR1, hR2, hR3, hR4⟩, hEP, hb2, hbs⟩ := C
  simp only [rp_cg, Bool.and_eq_true] at hg
  obtain ⟨g1, g2, g3, g4, g5⟩ := hg
  have g1 := Nat.le_of_ble_eq_true g1
  have g2 := Nat.le_of_ble_eq_true g2
  have g3 := Nat.le_of_ble_eq_true g3
  have g4 := Nat.le_trans (Nat.le_of_ble_eq_true g4) hR3
  have g5 := Nat.le_trans (Nat.le_of_ble_eq_true g5) hR4
  generalize hvs : (st.take i.2.1).reverse = vs at *
  have hlv : vs.length = i.2.1 := by rw [← hvs]; simp; omega
  have hst : st = vs.reverse ++ st.drop i.2.1 := by rw [← hvs, List.reverse_reverse, List.take_append_drop]
  have hstm : st.map (rp_vm (rp_ph b base adK)) = (vs.map (rp_vm (rp_ph b base adK))).reverse ++ (st.drop i.2.1).map (rp_vm (rp_ph b base adK)) := by
    conv => lhs; rw [hst]
    rw [List.map_append, List.map_reverse]
  have hroom : 2 * (F0 m pc lsr (st.map (rp_vm (rp_ph b base adK)))).monitorRoom + (((st.drop i.2.1).map (rp_vm (rp_ph b base adK))).map fun v => v.category).sum ≤ 8 := lv_room (by rw [rp_cat_sum]; exact g3)
  have hbH : base ≤ H.size := by rw [hH.2.2.1]; omega
  have hU : ∀ U : State, U.heap = H → s.WarmedH U.vm → rp_EP D b base adK adV cI cZ sc U ∧ rp_HR D base (rp_ph b base adK) cI cZ h U.heap ∧ base ≤ U.heap.size := fun U hU hW => ⟨hEP.move hb2 hS hU hW, by rw [hU]; exact hH, by rw [hU]; exact hbH⟩
  have fin : ∀ {a : Array Value}, va_Run p l e R s m args below meth c H locs uc us (rp_mt i.1).2.2.2.2.2.2.2.1 (rp_mt i.1).2.2.2.2.2.2.2.2 (F0 m pc lsr (st.map (rp_vm (rp_ph b base adK)))) ((st.drop i.2.1).map (rp_vm (rp_ph b base adK))) (rp_Qc D base (rp_ph b base adK) cI cZ r h1 a) (fun q => base ≤ q) → W p l e R s m args below meth c H locs uc us Q (F0 m pc lsr (st.map (rp_vm (rp_ph b base adK)))) := by
    intro a hrun
    refine rp_runW hrun hS fun H1 locs1 hH1 hS1 => ?_
    have := K H1 locs1 hH1 hS1
    rw [List.map_append] at this
    have e : (Option.map (rp_vm (rp_ph b base adK)) r).toList = r.toList.map (rp_vm (rp_ph b base adK)) := by cases r <;> rfl
    rw [e]
    exact this
  unfold rp_isCall at hI
  split at hI
  next x =>
    simp only [rp_okE, h5, cond_false, Bool.and_eq_true, Nat.beq_eq] at hok
    obtain ⟨rfl, o1, o2, o3⟩ := hok
    obtain ⟨q, hq, q1, q2, q3, q4, q5⟩ := rp_hasC_of o1
    have q4 := Nat.eq_of_beq_eq_true q4
    unfold rp_ctb at q5
    rw [← q4] at q5
    simp only [Bool.and_eq_true, decide_eq_true_eq] at q5
    obtain ⟨w1, w2, w3, w4⟩ := q5
    have hw1 := rp_gt_of _ w1 rfl
    have hw2 := rp_gt_of _ w2 rfl
    have hw3 := rp_gt_of _ w3 rfl
    rw [q1, q2, q3] at hw1
    rw [q3] at hw2 hw3 w4
    have hMF := rp_MFs i.1 w4
    simp only [rp_rok, Bool.and_eq_true] at o2
    have r1 := Nat.le_trans (Nat.le_of_ble_eq_true o2.1) hR1
    have r2 := Nat.le_trans (Nat.le_of_ble_eq_true o2.2) hR2
    have hM := rp_met hs hb2 w4 g2 hrun
    obtain ⟨a1, fs, As, rfl, hcell⟩ := rp_recv_obj (fun _ h => by cases h) hrc
    have hsm : rp_ph b base adK (a1 + 1) = base + a1 := rp_ph_in (Nat.lt_of_lt_of_le (List.getElem?_eq_some_iff.mp hcell).1 hH.2.1)
    have he := rp_wd_at (base := base) (φ := rp_ph b base adK) (cI := cI) (cZ := cZ) hcell
    have hC := rp_CFs _ hMF.2.2.2.2.2
    have hrec := va_recv hEP.1 hH.2.2.2 hC.1 he
    have hn : (As.map (rp_vm (rp_ph b base adK))).length = (rp_mq.getD i.1 (0, 0, 0, 0)).2.2.2 := by
      rw [List.length_map]
      simp only [List.length_cons] at hlv
      omega
    have hstk : (F0 m pc lsr (st.map (rp_vm (rp_ph b base adK)))).stack = (As.map (rp_vm (rp_ph b base adK))).reverse ++ .ref (base + a1) :: (st.drop i.2.1).map (rp_vm (rp_ph b base adK)) := by
      show st.map _ = _
      rw [hstm, List.map_cons, List.reverse_cons, List.append_assoc]
      show _ ++ ([Value.ref (rp_ph b base adK (a1 + 1))] ++ _) = _
      rw [hsm]
      rfl
    refine fin (va_runV (C := (rp_mt i.1).1.cls) (b := base + a1) (As := As.map (rp_vm (rp_ph b base adK))) ⟨hx, hb, hml, hown, hts⟩ hM ⟨callB_of _ hts (rp_ws_good hMF) rfl rfl rfl (hts _ hMF.2.1) (hts _ hw1) hMF.2.2.2.2.1 ⟨r1, r2⟩, hts _ hw2, hts _ hw3⟩ ⟨rp_blind, ?_, ?_⟩ rfl hn hsz hstk hroom hd ⟨g4, g5⟩)
    · rw [hMF.2.2.1]; exact hrec
    · intro U hu hW
      exact ⟨by rw [List.map_cons]; show _ = (Value.ref (rp_ph b base adK (a1 + 1)) :: _).toArray; rw [hsm], hU U hu hW⟩
  next x =>
    simp only [rp_okE, h5, cond_false, Bool.and_eq_true, Nat.beq_eq] at hok
    obtain ⟨rfl, o1, o2, o3⟩ := hok
    obtain ⟨q, hq, q1, q2, q3, q4, q5⟩ := rp_hasC_of o1
    simp only [Bool.or_eq_true, Nat.beq_eq] at q4
    simp only [rp_rok, Bool.and_eq_true] at o2
    have r1 := Nat.le_trans (Nat.le_of_ble_eq_true o2.1) hR1
    have r2 := Nat.le_trans (Nat.le_of_ble_eq_true o2.2) hR2
    have hn : (vs.map (rp_vm (rp_ph b base adK))).length = (rp_mq.getD i.1 (0, 0, 0, 0)).2.2.2 := by rw [List.length_map, hlv, o3]
    rcases q4 with q4 | q4
    · unfold rp_ctb at q5
      rw [q4] at q5
      simp only [Bool.and_eq_true, decide_eq_true_eq] at q5
      obtain ⟨w1, w2, w4⟩ := q5
      have hw1 := rp_gt_of _ w1 rfl
      have hw2 := rp_gt_of _ w2 rfl
      rw [q1, q2, q3] at hw1
      rw [q3] at hw2 w4
      have hMF := rp_MFs i.1 w4
      have hM := rp_met hs hb2 w4 g2 hrun
      exact fin (va_runS (As := vs.map (rp_vm (rp_ph b base adK))) ⟨hx, hb, hml, hown, hts⟩ hM ⟨callB_of _ hts (rp_ws_good hMF) rfl rfl rfl (hts _ hMF.2.1) (hts _ hw1) hMF.2.2.2.2.1 ⟨r1, r2⟩, hts _ hw2⟩ ⟨rp_blind, fun U hu hW => ⟨rfl, hU U hu hW⟩⟩ rfl hn hsz hstm hroom hd ⟨g4, g5⟩)
    · obtain ⟨host, hns⟩ := rp_nsct q hq (Or.inl q4)
      unfold rp_ctb at q5
      rw [q4] at q5
      simp only [Bool.and_eq_true, decide_eq_true_eq] at q5
      obtain ⟨w2, w4⟩ := q5
      have hw2 := rp_gt_of _ w2 rfl
      rw [q3] at hw2 w4
      have hMF := rp_MFs i.1 w4
      have hM := rp_met hs hb2 w4 g2 hrun
      have hnw := hEP.2.2.2.2.2.2.1 _ (List.mem_of_getElem? hns)
      rw [q1, q2, q3] at hnw
      exact fin (va_runSN (As := vs.map (rp_vm (rp_ph b base adK))) ⟨hx, hb, hml, hown, hts⟩ hM ⟨va_cnB _ hts (rp_ws_good hMF) rfl rfl rfl hnw (hts _ hMF.2.1) hMF.2.2.2.2.1 ⟨r1, r2⟩, hts _ hw2, trivial⟩ ⟨rp_blind, fun U hu hW => ⟨rfl, hU U hu hW⟩⟩ rfl hn hsz hstm hroom hd ⟨g4, g5⟩)
  next x =>
    simp only [rp_okE, h5, cond_false, Bool.and_eq_true, Nat.beq_eq] at hok
    obtain ⟨rfl, o1, o2, o3⟩ := hok
    obtain ⟨q, hq, q1, q2, q3, q4, q5⟩ := rp_hasC_of o1
    simp only [Bool.or_eq_true, Nat.beq_eq] at q4
    simp only [rp_rok, Bool.and_eq_true] at o2
    have r1 := Nat.le_trans (Nat.le_of_ble_eq_true o2.1) hR1
    have r2 := Nat.le_trans (Nat.le_of_ble_eq_true o2.2) hR2
    obtain ⟨a0, fs, As, rfl, hcell⟩ := rp_recv_obj (fun _ h => by cases h) hrc
    · have hn : (As.map (rp_vm (rp_ph b base adK))).length = (rp_mq.getD i.1 (0, 0, 0, 0)).2.2.2 := by
        rw [List.length_map]
        simp only [List.length_cons] at hlv
        omega
      have hstk : (F0 m pc lsr (st.map (rp_vm (rp_ph b base adK)))).stack = (As.map (rp_vm (rp_ph b base adK))).reverse ++ .ref (rp_ph b base adK (a0 + 1)) :: (st.drop i.2.1).map (rp_vm (rp_ph b base adK)) := by
        show st.map _ = _
        rw [hstm, List.map_cons, List.reverse_cons, List.append_assoc]
        rfl
      rcases q4 with q4 | q4
      · unfold rp_ctb at q5
        rw [q4] at q5
        simp only [Bool.and_eq_true, decide_eq_true_eq] at q5
        obtain ⟨w1, w2, w3, w5, w4⟩ := q5
        have hw1 := rp_gt_of _ w1 rfl
        have hw2 := rp_gt_of _ w2 rfl
        rw [q1, q2, q3] at hw1
        rw [q3] at hw2 w3 w4 w5
        have hMF := rp_MFs i.1 w4
        have hM := rp_met hs hb2 w4 g2 hrun
        have hcb := callB_of (rm := rp_rm i.1) (own := rp_cn (rp_mt j).2.2.2.2.1) (index := x) (R := R) _ hts (rp_ws_good hMF) rfl rfl rfl (hts _ hMF.2.1) (hts _ hw1) hMF.2.2.2.2.1 ⟨r1, r2⟩
        rw [w5] at hcb
        exact fin (va_runI (b := rp_ph b base adK (a0 + 1)) (As := As.map (rp_vm (rp_ph b base adK))) ⟨hx, hb, hml, hown, hts⟩ hM ⟨hcb, w3, hts _ hw2⟩ ⟨rp_blind, fun U hu hW => ⟨rfl, hU U hu hW⟩⟩ rfl hn hsz hstk hroom hd ⟨g4, g5⟩)
      · obtain ⟨host, hns⟩ := rp_nsct q hq (Or.inr q4)
        unfold rp_ctb at q5
        rw [q4] at q5
        simp only [Bool.and_eq_true, decide_eq_true_eq] at q5
        obtain ⟨w2, w3, w5, w4⟩ := q5
        have hw2 := rp_gt_of _ w2 rfl
        rw [q3] at hw2 w3 w4 w5
        have hMF := rp_MFs i.1 w4
        have hM := rp_met hs hb2 w4 g2 hrun
        have hnw := hEP.2.2.2.2.2.2.1 _ (List.mem_of_getElem? hns)
        rw [q1, q2, q3] at hnw
        have hcb := va_cnB (rm := rp_rm i.1) (own := rp_cn (rp_mt j).2.2.2.2.1) (index := x) (R := R) _ hts (rp_ws_good hMF) rfl rfl rfl hnw (hts _ hMF.2.1) hMF.2.2.2.2.1 ⟨r1, r2⟩
        rw [w5] at hcb
        exact fin (va_runIN (b := rp_ph b base adK (a0 + 1)) (As := As.map (rp_vm (rp_ph b base adK))) ⟨hx, hb, hml, hown, hts⟩ hM ⟨hcb, w3, hts _ hw2⟩ ⟨rp_blind, fun U hu hW => ⟨rfl, hU U hu hW⟩⟩ rfl hn hsz hstk hroom hd ⟨g4, g5⟩)
  next => cases hI
set_option maxHeartbeats 4000000 in
theorem rp_simAll (hoks : ∀ j, j < 231 → rp_okM j = true) : ∀ n, rp_Sim l D b base adK adV cI cZ sc n := by
  intro n
  induction n with
  | zero => intro j uc us pc ls st h x hj hrun; cases hrun
  | succ n ih =>
    intro j uc us pc ls st h x hj hrun0 p e R s m args below meth c H locs lsr Q C hL hH hS huc hus K
    have hrun : rp_F rp_mt rp_mi rp_cf rp_tx sc (rp_run rp_mt rp_mi rp_cf rp_tx sc n) (j, uc, us, pc, ls, st, h) = some x := hrun0
    clear hrun0
    unfold rp_F at hrun
    cases hl : rp_lk pc (rp_mi j) with
    | none =>
      have : rp_front rp_mt rp_mi rp_cf rp_tx sc (j, uc, us, pc, ls, st, h) = none := by
        show (match rp_lk pc (rp_mi j) with
          | none => none
          | some (I, n, i) => rp_one rp_mt rp_cf rp_tx sc I n i j uc us pc ls st h) = _
        rw [hl]
      rw [this] at hrun
      cases hrun
    | some w =>
      obtain ⟨I, k, i⟩ := w
      rw [rp_fr hl] at hrun
      have hE := List.all_eq_true.mp (hoks j hj) _ (rp_lk_mem hl)
      simp only [Bool.and_eq_true] at hE
      obtain ⟨hok, hdec⟩ := hE
      have hd : decode (rp_mt j).2.1 pc = .ok (I, k) := of_decide_eq_true hdec
      have C0 := C
      obtain ⟨hx, hb, hml, hown, hts, hmn, ⟨hR1, hR2, hR3, hR4⟩, hEP, hb2, hbs⟩ := C
      have hstr : ∀ k x, k < 12 → rp_si[k]? = some x → ∃ t, vk_R RX1 x t (rp_ph b base adK (1000 + k)) s := by
        intro k x hk hx
        have h4 := hEP.2.2.2.1 k hk
        rw [List.getD_eq_getElem?_getD, hx] at h4
        have e : rp_ph b base adK (1000 + k) = adK k := by
          unfold rp_ph
          rw [if_neg (by omega), if_neg (by omega), show 1000 + k - 1000 = k by omega]
        rw [e]
        exact ⟨_, h4⟩
      unfold rp_one at hrun
      cases hh : rp_isHeap I with
      | true =>
        rw [hh] at hrun
        simp only [cond_true] at hrun
        cases hq : rp_heap sc I i (!i.2.2.2.isEmpty) h st with
        | none => rw [hq] at hrun; cases hrun
        | some q =>
          rw [hq] at hrun
          exact rp_simH hx hb hown hts hmn hEP.1 hEP.2.1 hEP.2.2.1 hb2 hok hd hq hH hS fun H' locs' hH' hS' => ih j uc us _ ls q.2 q.1 x hj hrun p e R s m args below meth c H' locs' lsr Q C0 hL hH' hS' huc hus K
      | false =>
        rw [hh] at hrun
        simp only [cond_false] at hrun
        cases hc : rp_isCall I with
        | true =>
          rw [hc] at hrun
          simp only [cond_true] at hrun
          cases h5 : Nat.ble 5000 i.1 with
          | true =>
            rw [h5] at hrun
            simp only [cond_true] at hrun
            cases hcat : Nat.ble (rp_cat (st.drop i.2.1)) 8 with
            | false => rw [hcat] at hrun; cases hrun
            | true =>
              rw [hcat] at hrun
              simp only [cond_true] at hrun
              cases hq : rp_lib rp_tx i.1 st with
              | none => rw [hq] at hrun; cases hrun
              | some q =>
                rw [hq] at hrun
                exact rp_simL C0 hS (Nat.le_trans huc hR3) (Nat.le_trans hus hR4) hL.1 hok hd hc h5 hcat hq fun locs' hS' => ih j uc us _ ls q h x hj hrun p e R s m args below meth c H locs' lsr Q C0 hL hH hS' huc hus K
          | false =>
            rw [h5] at hrun
            simp only [cond_false] at hrun
            unfold rp_call at hrun
            cases hg : (rp_cg rp_mt i j uc us st && rp_recv I h (rp_mt i.1).2.2.2.2.1 (st.take i.2.1).reverse) with
            | false => rw [hg] at hrun; cases hrun
            | true =>
              rw [hg] at hrun
              simp only [cond_true] at hrun
              simp only [Bool.and_eq_true] at hg
              cases hr : rp_run rp_mt rp_mi rp_cf rp_tx sc n (i.1, 0, 0, 0, rp_en (rp_mt i.1).2.2.1 (st.take i.2.1).reverse, [], h) with
              | none => rw [hr] at hrun; cases hrun
              | some r =>
                rw [hr] at hrun
                have g4 : uc + (rp_mt i.1).2.2.2.2.2.2.2.1 ≤ (rp_mt j).2.2.2.2.2.2.2.1 ∧ us + (rp_mt i.1).2.2.2.2.2.2.2.2 ≤ (rp_mt j).2.2.2.2.2.2.2.2 := by
                  have hg1 := hg.1
                  simp only [rp_cg, Bool.and_eq_true] at hg1
                  exact ⟨Nat.le_of_ble_eq_true hg1.2.2.2.1, Nat.le_of_ble_eq_true hg1.2.2.2.2⟩
                exact rp_simC C0 hH hS hL.1 hok hd hc h5 hg.1 hg.2 ih hr fun H' locs' hH' hS' => ih j _ _ _ ls _ r.2 x hj hrun p e R s m args below meth c H' locs' lsr Q C0 hL hH' hS' g4.1 g4.2 K
        | false =>
          rw [hc] at hrun
          simp only [cond_false] at hrun
          cases hrt : rp_isRet I with
          | true =>
            rw [hrt] at hrun
            simp only [cond_true] at hrun
            cases hq : rp_ret (rp_mt j).2.2.2.1 I st with
            | none => rw [hq] at hrun; cases hrun
            | some q =>
              rw [hq] at hrun
              cases hrun
              have hk1 : k = 1 := by
                revert hok
                revert hrt
                unfold rp_isRet
                split <;> simp [rp_okE]
              exact W.widen huc hus (K pc lsr H locs st I k i hl hd hk1 hq hH hS)
          | false =>
            rw [hrt] at hrun
            simp only [cond_false] at hrun
            cases hmk : rp_isMake I with
            | true =>
              rw [hmk] at hrun
              simp only [cond_true] at hrun
              cases hq : rp_make rp_mt rp_cf I k i j uc us pc ls st h with
              | none => rw [hq] at hrun; cases hrun
              | some q =>
                rw [hq] at hrun
                have hin : ∃ t, q = .inl t := rp_make_inl hq
                obtain ⟨t, rfl⟩ := hin
                refine rp_simM hx hb hown hts hEP.1 hR3 hR4 hok hd hq hH hS hbs fun H' t1 t2 t3 t4 hH' hS' => ?_
                obtain ⟨tj, tuc, tus, tpc, tls, tst, th⟩ := t
                dsimp only at t1 t2
                subst t1 t2
                exact ih tj tuc tus tpc tls tst th x hj hrun p e R s m args below meth c H' locs lsr Q C0 hL hH' hS' t3 t4 K
            | false =>
              rw [hmk] at hrun
              simp only [cond_false] at hrun
              cases hq : rp_pure I k i pc ls st with
              | none => rw [hq] at hrun; cases hrun
              | some q =>
                rw [hq] at hrun
                obtain ⟨q1, q2, q3⟩ := q
                exact rp_simP hx hb hown hts hstr hok hd hq hL fun lsr' hL' => ih j uc us q1 q2 q3 h x hj hrun p e R s m args below meth c H locs lsr' Q C0 hL' hH hS huc hus K
end
