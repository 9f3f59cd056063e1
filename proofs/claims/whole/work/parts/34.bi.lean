/-! one row changes -/
theorem bi_line {c r c' r' : rp_Mm} (h : BI c r) {m : Nat} (hm : m ≤ 14) (hle : nL r ≤ m) (hr : ∀ a, a < 8 → a ≠ 0 → a ≠ 1 → r' a = r a) (hr0 : ∀ k, k ≠ 0 → r' 0 k = r 0 k) (hrj : r' 0 0 = nI m) (hc : ∀ a, a < 15 → a ≠ 1 → a ≠ 2 → c' a = c a) (hcj : c' 1 3 = nI m) (hcd : ∀ i, i < nR r → cdR r' i = cdR r i ∧ payR r' i = payR r i) (sRBl : RBl r') (sCBl : CBl c' r') : BI c' r' := by
  obtain ⟨⟨a1, a2, a3, a4, a5, a6, a7, a8⟩, ⟨b1, b2, b3, b4, b5, b6, b7, b8⟩⟩ := h
  have eL : nL r' = m := N1_n hrj (by omega)
  have eT : nT r' = nT r := N1_e (hr0 1 (by decide))
  have eP : nP r' = nP r := N1_e (hr0 2 (by decide))
  have eR : nR r' = nR r := N1_e (hr0 3 (by decide))
  have eW : nW r' = nW r := N1_e (hr0 4 (by decide))
  have eS : nS r' = nS r := N1_e (hr0 5 (by decide))
  have eD : nD r' = nD r := N1_e (hr0 6 (by decide))
  have er := rd_t (hr 5 (by decide) (by decide) (by decide))
  refine ⟨⟨⟨Okn a1 0 m hrj (by omega) hr0, ?_⟩, sRBl, RBt_t eT (by omega) (hr 2 (by decide) (by decide) (by decide)) a3, RBk_t (hr 3 (by decide) (by decide) (by decide)) a4, RBp_t eP (hr 4 (by decide) (by decide) (by decide)) (fun p => cdays_t eR fun i hi => ⟨by rw [er], (hcd i hi).1⟩) a5, RBr_t eR (by omega) (by omega) (hr 5 (by decide) (by decide) (by decide)) a6, RBw_t eW (by omega) (hr 6 (by decide) (by decide) (by decide)) a7, RBs_t eS (by omega) (hr 7 (by decide) (by decide) (by decide)) a8⟩, ⟨?_, sCBl, CBt_t eT (hr 2 (by decide) (by decide) (by decide)) (hc 4 (by decide) (by decide) (by decide)) b3, CBk_t (hr 3 (by decide) (by decide) (by decide)) (hc 6 (by decide) (by decide) (by decide)) b4, CBp_t eP (hr 4 (by decide) (by decide) (by decide)) (hc 8 (by decide) (by decide) (by decide)) b5, CBr_t eR (hr 5 (by decide) (by decide) (by decide)) (hc 10 (by decide) (by decide) (by decide)) hcd b6, CBw_t eW (hr 6 (by decide) (by decide) (by decide)) (hc 12 (by decide) (by decide) (by decide)) b7, CBs_t eS (hr 7 (by decide) (by decide) (by decide)) (hc 14 (by decide) (by decide) (by decide)) b8⟩⟩
  · have := a1.2
    rw [eL, eT, eP, eR, eW, eS, eD]
    omega
  · unfold CBn at b1 ⊢
    rw [eL, eT, eP, eR, eW, eS, eD, hc 3 (by decide) (by decide) (by decide), hc 5 (by decide) (by decide) (by decide), hc 7 (by decide) (by decide) (by decide), hc 9 (by decide) (by decide) (by decide), hc 11 (by decide) (by decide) (by decide), hc 13 (by decide) (by decide) (by decide), hc 0 (by decide) (by decide) (by decide)]
    exact ⟨hcj, b1.2.1, b1.2.2.1, b1.2.2.2.1, b1.2.2.2.2.1, b1.2.2.2.2.2.1, b1.2.2.2.2.2.2.1, b1.2.2.2.2.2.2.2⟩
theorem bi_train {c r c' r' : rp_Mm} (h : BI c r) {m : Nat} (hm : m ≤ 16) (hle : nT r ≤ m) (hr : ∀ a, a < 8 → a ≠ 0 → a ≠ 2 → r' a = r a) (hr0 : ∀ k, k ≠ 1 → r' 0 k = r 0 k) (hrj : r' 0 1 = nI m) (hc : ∀ a, a < 15 → a ≠ 3 → a ≠ 4 → c' a = c a) (hcj : c' 3 3 = nI m) (hcd : ∀ i, i < nR r → cdR r' i = cdR r i ∧ payR r' i = payR r i) (sRBt : RBt r') (sCBt : CBt c' r') : BI c' r' := by
  obtain ⟨⟨a1, a2, a3, a4, a5, a6, a7, a8⟩, ⟨b1, b2, b3, b4, b5, b6, b7, b8⟩⟩ := h
  have eL : nL r' = nL r := N1_e (hr0 0 (by decide))
  have eT : nT r' = m := N1_n hrj (by omega)
  have eP : nP r' = nP r := N1_e (hr0 2 (by decide))
  have eR : nR r' = nR r := N1_e (hr0 3 (by decide))
  have eW : nW r' = nW r := N1_e (hr0 4 (by decide))
  have eS : nS r' = nS r := N1_e (hr0 5 (by decide))
  have eD : nD r' = nD r := N1_e (hr0 6 (by decide))
  have er := rd_t (hr 5 (by decide) (by decide) (by decide))
  refine ⟨⟨⟨Okn a1 1 m hrj (by omega) hr0, ?_⟩, RBl_t eL (hr 1 (by decide) (by decide) (by decide)) a2, sRBt, RBk_t (hr 3 (by decide) (by decide) (by decide)) a4, RBp_t eP (hr 4 (by decide) (by decide) (by decide)) (fun p => cdays_t eR fun i hi => ⟨by rw [er], (hcd i hi).1⟩) a5, RBr_t eR (by omega) (by omega) (hr 5 (by decide) (by decide) (by decide)) a6, RBw_t eW (by omega) (hr 6 (by decide) (by decide) (by decide)) a7, RBs_t eS (by omega) (hr 7 (by decide) (by decide) (by decide)) a8⟩, ⟨?_, CBl_t eL (hr 1 (by decide) (by decide) (by decide)) (hc 2 (by decide) (by decide) (by decide)) b2, sCBt, CBk_t (hr 3 (by decide) (by decide) (by decide)) (hc 6 (by decide) (by decide) (by decide)) b4, CBp_t eP (hr 4 (by decide) (by decide) (by decide)) (hc 8 (by decide) (by decide) (by decide)) b5, CBr_t eR (hr 5 (by decide) (by decide) (by decide)) (hc 10 (by decide) (by decide) (by decide)) hcd b6, CBw_t eW (hr 6 (by decide) (by decide) (by decide)) (hc 12 (by decide) (by decide) (by decide)) b7, CBs_t eS (hr 7 (by decide) (by decide) (by decide)) (hc 14 (by decide) (by decide) (by decide)) b8⟩⟩
  · have := a1.2
    rw [eL, eT, eP, eR, eW, eS, eD]
    omega
  · unfold CBn at b1 ⊢
    rw [eL, eT, eP, eR, eW, eS, eD, hc 1 (by decide) (by decide) (by decide), hc 5 (by decide) (by decide) (by decide), hc 7 (by decide) (by decide) (by decide), hc 9 (by decide) (by decide) (by decide), hc 11 (by decide) (by decide) (by decide), hc 13 (by decide) (by decide) (by decide), hc 0 (by decide) (by decide) (by decide)]
    exact ⟨b1.1, hcj, b1.2.2.1, b1.2.2.2.1, b1.2.2.2.2.1, b1.2.2.2.2.2.1, b1.2.2.2.2.2.2.1, b1.2.2.2.2.2.2.2⟩
theorem bi_law {c r c' r' : rp_Mm} (h : BI c r) (hr : ∀ a, a < 8 → a ≠ 3 → r' a = r a) (hc : ∀ a, a < 15 → a ≠ 6 → c' a = c a) (sRBk : RBk r') (sCBk : CBk c' r') : BI c' r' := by
  obtain ⟨⟨a1, a2, a3, a4, a5, a6, a7, a8⟩, ⟨b1, b2, b3, b4, b5, b6, b7, b8⟩⟩ := h
  have h0 := hr 0 (by decide) (by decide)
  have eL : nL r' = nL r := N1_e (by rw [h0])
  have eT : nT r' = nT r := N1_e (by rw [h0])
  have eP : nP r' = nP r := N1_e (by rw [h0])
  have eR : nR r' = nR r := N1_e (by rw [h0])
  have eW : nW r' = nW r := N1_e (by rw [h0])
  have eS : nS r' = nS r := N1_e (by rw [h0])
  have eD : nD r' = nD r := N1_e (by rw [h0])
  have hcd : ∀ i, i < nR r → cdR r' i = cdR r i ∧ payR r' i = payR r i := by
    obtain ⟨cd, cp⟩ := cd_t (hr 1 (by decide) (by decide)) (hr 2 (by decide) (by decide)) (hr 4 (by decide) (by decide)) (hr 5 (by decide) (by decide))
    intro i _
    rw [cd, cp]
    exact ⟨rfl, rfl⟩
  have er := rd_t (hr 5 (by decide) (by decide))
  refine ⟨⟨⟨fun k hk => Ok_e (by rw [h0]) (a1.1 k hk), ?_⟩, RBl_t eL (hr 1 (by decide) (by decide)) a2, RBt_t eT (by omega) (hr 2 (by decide) (by decide)) a3, sRBk, RBp_t eP (hr 4 (by decide) (by decide)) (fun p => cdays_t eR fun i hi => ⟨by rw [er], (hcd i hi).1⟩) a5, RBr_t eR (by omega) (by omega) (hr 5 (by decide) (by decide)) a6, RBw_t eW (by omega) (hr 6 (by decide) (by decide)) a7, RBs_t eS (by omega) (hr 7 (by decide) (by decide)) a8⟩, ⟨?_, CBl_t eL (hr 1 (by decide) (by decide)) (hc 2 (by decide) (by decide)) b2, CBt_t eT (hr 2 (by decide) (by decide)) (hc 4 (by decide) (by decide)) b3, sCBk, CBp_t eP (hr 4 (by decide) (by decide)) (hc 8 (by decide) (by decide)) b5, CBr_t eR (hr 5 (by decide) (by decide)) (hc 10 (by decide) (by decide)) hcd b6, CBw_t eW (hr 6 (by decide) (by decide)) (hc 12 (by decide) (by decide)) b7, CBs_t eS (hr 7 (by decide) (by decide)) (hc 14 (by decide) (by decide)) b8⟩⟩
  · have := a1.2
    rw [eL, eT, eP, eR, eW, eS, eD]
    omega
  · unfold CBn at b1 ⊢
    rw [eL, eT, eP, eR, eW, eS, eD, hc 1 (by decide) (by decide), hc 3 (by decide) (by decide), hc 5 (by decide) (by decide), hc 7 (by decide) (by decide), hc 9 (by decide) (by decide), hc 11 (by decide) (by decide), hc 13 (by decide) (by decide), hc 0 (by decide) (by decide)]
    exact ⟨b1.1, b1.2.1, b1.2.2.1, b1.2.2.2.1, b1.2.2.2.2.1, b1.2.2.2.2.2.1, b1.2.2.2.2.2.2.1, b1.2.2.2.2.2.2.2⟩
theorem bi_pass {c r c' r' : rp_Mm} (h : BI c r) {m : Nat} (hm : m ≤ 8) (hle : nP r ≤ m) (hr : ∀ a, a < 8 → a ≠ 0 → a ≠ 4 → r' a = r a) (hr0 : ∀ k, k ≠ 2 → r' 0 k = r 0 k) (hrj : r' 0 2 = nI m) (hc : ∀ a, a < 15 → a ≠ 7 → a ≠ 8 → c' a = c a) (hcj : c' 7 3 = nI m) (hcd : ∀ i, i < nR r → cdR r' i = cdR r i ∧ payR r' i = payR r i) (sRBp : RBp r') (sCBp : CBp c' r') : BI c' r' := by
  obtain ⟨⟨a1, a2, a3, a4, a5, a6, a7, a8⟩, ⟨b1, b2, b3, b4, b5, b6, b7, b8⟩⟩ := h
  have eL : nL r' = nL r := N1_e (hr0 0 (by decide))
  have eT : nT r' = nT r := N1_e (hr0 1 (by decide))
  have eP : nP r' = m := N1_n hrj (by omega)
  have eR : nR r' = nR r := N1_e (hr0 3 (by decide))
  have eW : nW r' = nW r := N1_e (hr0 4 (by decide))
  have eS : nS r' = nS r := N1_e (hr0 5 (by decide))
  have eD : nD r' = nD r := N1_e (hr0 6 (by decide))
  have er := rd_t (hr 5 (by decide) (by decide) (by decide))
  refine ⟨⟨⟨Okn a1 2 m hrj (by omega) hr0, ?_⟩, RBl_t eL (hr 1 (by decide) (by decide) (by decide)) a2, RBt_t eT (by omega) (hr 2 (by decide) (by decide) (by decide)) a3, RBk_t (hr 3 (by decide) (by decide) (by decide)) a4, sRBp, RBr_t eR (by omega) (by omega) (hr 5 (by decide) (by decide) (by decide)) a6, RBw_t eW (by omega) (hr 6 (by decide) (by decide) (by decide)) a7, RBs_t eS (by omega) (hr 7 (by decide) (by decide) (by decide)) a8⟩, ⟨?_, CBl_t eL (hr 1 (by decide) (by decide) (by decide)) (hc 2 (by decide) (by decide) (by decide)) b2, CBt_t eT (hr 2 (by decide) (by decide) (by decide)) (hc 4 (by decide) (by decide) (by decide)) b3, CBk_t (hr 3 (by decide) (by decide) (by decide)) (hc 6 (by decide) (by decide) (by decide)) b4, sCBp, CBr_t eR (hr 5 (by decide) (by decide) (by decide)) (hc 10 (by decide) (by decide) (by decide)) hcd b6, CBw_t eW (hr 6 (by decide) (by decide) (by decide)) (hc 12 (by decide) (by decide) (by decide)) b7, CBs_t eS (hr 7 (by decide) (by decide) (by decide)) (hc 14 (by decide) (by decide) (by decide)) b8⟩⟩
  · have := a1.2
    rw [eL, eT, eP, eR, eW, eS, eD]
    omega
  · unfold CBn at b1 ⊢
    rw [eL, eT, eP, eR, eW, eS, eD, hc 1 (by decide) (by decide) (by decide), hc 3 (by decide) (by decide) (by decide), hc 5 (by decide) (by decide) (by decide), hc 9 (by decide) (by decide) (by decide), hc 11 (by decide) (by decide) (by decide), hc 13 (by decide) (by decide) (by decide), hc 0 (by decide) (by decide) (by decide)]
    exact ⟨b1.1, b1.2.1, b1.2.2.1, hcj, b1.2.2.2.2.1, b1.2.2.2.2.2.1, b1.2.2.2.2.2.2.1, b1.2.2.2.2.2.2.2⟩
theorem bi_lose {c r c' r' : rp_Mm} (h : BI c r) (hr : ∀ a, a < 8 → a ≠ 4 → r' a = r a) (hc : ∀ a, a < 15 → a ≠ 8 → c' a = c a) (hcd : ∀ i, i < nR r → cdR r' i = cdR r i ∧ payR r' i = payR r i) (sRBp : RBp r') (sCBp : CBp c' r') : BI c' r' := by
  obtain ⟨⟨a1, a2, a3, a4, a5, a6, a7, a8⟩, ⟨b1, b2, b3, b4, b5, b6, b7, b8⟩⟩ := h
  have h0 := hr 0 (by decide) (by decide)
  have eL : nL r' = nL r := N1_e (by rw [h0])
  have eT : nT r' = nT r := N1_e (by rw [h0])
  have eP : nP r' = nP r := N1_e (by rw [h0])
  have eR : nR r' = nR r := N1_e (by rw [h0])
  have eW : nW r' = nW r := N1_e (by rw [h0])
  have eS : nS r' = nS r := N1_e (by rw [h0])
  have eD : nD r' = nD r := N1_e (by rw [h0])
  have er := rd_t (hr 5 (by decide) (by decide))
  refine ⟨⟨⟨fun k hk => Ok_e (by rw [h0]) (a1.1 k hk), ?_⟩, RBl_t eL (hr 1 (by decide) (by decide)) a2, RBt_t eT (by omega) (hr 2 (by decide) (by decide)) a3, RBk_t (hr 3 (by decide) (by decide)) a4, sRBp, RBr_t eR (by omega) (by omega) (hr 5 (by decide) (by decide)) a6, RBw_t eW (by omega) (hr 6 (by decide) (by decide)) a7, RBs_t eS (by omega) (hr 7 (by decide) (by decide)) a8⟩, ⟨?_, CBl_t eL (hr 1 (by decide) (by decide)) (hc 2 (by decide) (by decide)) b2, CBt_t eT (hr 2 (by decide) (by decide)) (hc 4 (by decide) (by decide)) b3, CBk_t (hr 3 (by decide) (by decide)) (hc 6 (by decide) (by decide)) b4, sCBp, CBr_t eR (hr 5 (by decide) (by decide)) (hc 10 (by decide) (by decide)) hcd b6, CBw_t eW (hr 6 (by decide) (by decide)) (hc 12 (by decide) (by decide)) b7, CBs_t eS (hr 7 (by decide) (by decide)) (hc 14 (by decide) (by decide)) b8⟩⟩
  · have := a1.2
    rw [eL, eT, eP, eR, eW, eS, eD]
    omega
  · unfold CBn at b1 ⊢
    rw [eL, eT, eP, eR, eW, eS, eD, hc 1 (by decide) (by decide), hc 3 (by decide) (by decide), hc 5 (by decide) (by decide), hc 7 (by decide) (by decide), hc 9 (by decide) (by decide), hc 11 (by decide) (by decide), hc 13 (by decide) (by decide), hc 0 (by decide) (by decide)]
    exact ⟨b1.1, b1.2.1, b1.2.2.1, b1.2.2.2.1, b1.2.2.2.2.1, b1.2.2.2.2.2.1, b1.2.2.2.2.2.2.1, b1.2.2.2.2.2.2.2⟩
theorem bi_ride {c r c' r' : rp_Mm} (h : BI c r) {m : Nat} (hm : m ≤ 40) (hr : ∀ a, a < 8 → a ≠ 0 → a ≠ 5 → r' a = r a) (hr0 : ∀ k, k ≠ 3 → r' 0 k = r 0 k) (hrj : r' 0 3 = nI m) (hc : ∀ a, a < 15 → a ≠ 9 → a ≠ 10 → c' a = c a) (hcj : c' 9 3 = nI m) (sRBr : RBr r') (sRBp : RBp r') (sCBr : CBr c' r') : BI c' r' := by
  obtain ⟨⟨a1, a2, a3, a4, a5, a6, a7, a8⟩, ⟨b1, b2, b3, b4, b5, b6, b7, b8⟩⟩ := h
  have eL : nL r' = nL r := N1_e (hr0 0 (by decide))
  have eT : nT r' = nT r := N1_e (hr0 1 (by decide))
  have eP : nP r' = nP r := N1_e (hr0 2 (by decide))
  have eR : nR r' = m := N1_n hrj (by omega)
  have eW : nW r' = nW r := N1_e (hr0 4 (by decide))
  have eS : nS r' = nS r := N1_e (hr0 5 (by decide))
  have eD : nD r' = nD r := N1_e (hr0 6 (by decide))
  refine ⟨⟨⟨Okn a1 3 m hrj (by omega) hr0, ?_⟩, RBl_t eL (hr 1 (by decide) (by decide) (by decide)) a2, RBt_t eT (by omega) (hr 2 (by decide) (by decide) (by decide)) a3, RBk_t (hr 3 (by decide) (by decide) (by decide)) a4, sRBp, sRBr, RBw_t eW (by omega) (hr 6 (by decide) (by decide) (by decide)) a7, RBs_t eS (by omega) (hr 7 (by decide) (by decide) (by decide)) a8⟩, ⟨?_, CBl_t eL (hr 1 (by decide) (by decide) (by decide)) (hc 2 (by decide) (by decide) (by decide)) b2, CBt_t eT (hr 2 (by decide) (by decide) (by decide)) (hc 4 (by decide) (by decide) (by decide)) b3, CBk_t (hr 3 (by decide) (by decide) (by decide)) (hc 6 (by decide) (by decide) (by decide)) b4, CBp_t eP (hr 4 (by decide) (by decide) (by decide)) (hc 8 (by decide) (by decide) (by decide)) b5, sCBr, CBw_t eW (hr 6 (by decide) (by decide) (by decide)) (hc 12 (by decide) (by decide) (by decide)) b7, CBs_t eS (hr 7 (by decide) (by decide) (by decide)) (hc 14 (by decide) (by decide) (by decide)) b8⟩⟩
  · have := a1.2
    rw [eL, eT, eP, eR, eW, eS, eD]
    omega
  · unfold CBn at b1 ⊢
    rw [eL, eT, eP, eR, eW, eS, eD, hc 1 (by decide) (by decide) (by decide), hc 3 (by decide) (by decide) (by decide), hc 5 (by decide) (by decide) (by decide), hc 7 (by decide) (by decide) (by decide), hc 11 (by decide) (by decide) (by decide), hc 13 (by decide) (by decide) (by decide), hc 0 (by decide) (by decide) (by decide)]
    exact ⟨b1.1, b1.2.1, b1.2.2.1, b1.2.2.2.1, hcj, b1.2.2.2.2.2.1, b1.2.2.2.2.2.2.1, b1.2.2.2.2.2.2.2⟩
theorem bi_wish {c r c' r' : rp_Mm} (h : BI c r) {m : Nat} (hm : m ≤ 10) (hr : ∀ a, a < 8 → a ≠ 0 → a ≠ 6 → r' a = r a) (hr0 : ∀ k, k ≠ 4 → r' 0 k = r 0 k) (hrj : r' 0 4 = nI m) (hc : ∀ a, a < 15 → a ≠ 11 → a ≠ 12 → c' a = c a) (hcj : c' 11 3 = nI m) (sRBw : RBw r') (sCBw : CBw c' r') : BI c' r' := by
  obtain ⟨⟨a1, a2, a3, a4, a5, a6, a7, a8⟩, ⟨b1, b2, b3, b4, b5, b6, b7, b8⟩⟩ := h
  have eL : nL r' = nL r := N1_e (hr0 0 (by decide))
  have eT : nT r' = nT r := N1_e (hr0 1 (by decide))
  have eP : nP r' = nP r := N1_e (hr0 2 (by decide))
  have eR : nR r' = nR r := N1_e (hr0 3 (by decide))
  have eW : nW r' = m := N1_n hrj (by omega)
  have eS : nS r' = nS r := N1_e (hr0 5 (by decide))
  have eD : nD r' = nD r := N1_e (hr0 6 (by decide))
  have hcd : ∀ i, i < nR r → cdR r' i = cdR r i ∧ payR r' i = payR r i := by
    obtain ⟨cd, cp⟩ := cd_t (hr 1 (by decide) (by decide) (by decide)) (hr 2 (by decide) (by decide) (by decide)) (hr 4 (by decide) (by decide) (by decide)) (hr 5 (by decide) (by decide) (by decide))
    intro i _
    rw [cd, cp]
    exact ⟨rfl, rfl⟩
  have er := rd_t (hr 5 (by decide) (by decide) (by decide))
  refine ⟨⟨⟨Okn a1 4 m hrj (by omega) hr0, ?_⟩, RBl_t eL (hr 1 (by decide) (by decide) (by decide)) a2, RBt_t eT (by omega) (hr 2 (by decide) (by decide) (by decide)) a3, RBk_t (hr 3 (by decide) (by decide) (by decide)) a4, RBp_t eP (hr 4 (by decide) (by decide) (by decide)) (fun p => cdays_t eR fun i hi => ⟨by rw [er], (hcd i hi).1⟩) a5, RBr_t eR (by omega) (by omega) (hr 5 (by decide) (by decide) (by decide)) a6, sRBw, RBs_t eS (by omega) (hr 7 (by decide) (by decide) (by decide)) a8⟩, ⟨?_, CBl_t eL (hr 1 (by decide) (by decide) (by decide)) (hc 2 (by decide) (by decide) (by decide)) b2, CBt_t eT (hr 2 (by decide) (by decide) (by decide)) (hc 4 (by decide) (by decide) (by decide)) b3, CBk_t (hr 3 (by decide) (by decide) (by decide)) (hc 6 (by decide) (by decide) (by decide)) b4, CBp_t eP (hr 4 (by decide) (by decide) (by decide)) (hc 8 (by decide) (by decide) (by decide)) b5, CBr_t eR (hr 5 (by decide) (by decide) (by decide)) (hc 10 (by decide) (by decide) (by decide)) hcd b6, sCBw, CBs_t eS (hr 7 (by decide) (by decide) (by decide)) (hc 14 (by decide) (by decide) (by decide)) b8⟩⟩
  · have := a1.2
    rw [eL, eT, eP, eR, eW, eS, eD]
    omega
  · unfold CBn at b1 ⊢
    rw [eL, eT, eP, eR, eW, eS, eD, hc 1 (by decide) (by decide) (by decide), hc 3 (by decide) (by decide) (by decide), hc 5 (by decide) (by decide) (by decide), hc 7 (by decide) (by decide) (by decide), hc 9 (by decide) (by decide) (by decide), hc 13 (by decide) (by decide) (by decide), hc 0 (by decide) (by decide) (by decide)]
    exact ⟨b1.1, b1.2.1, b1.2.2.1, b1.2.2.2.1, b1.2.2.2.2.1, hcj, b1.2.2.2.2.2.2.1, b1.2.2.2.2.2.2.2⟩
theorem bi_scan {c r c' r' : rp_Mm} (h : BI c r) {m : Nat} (hm : m ≤ 40) (hr : ∀ a, a < 8 → a ≠ 0 → a ≠ 7 → r' a = r a) (hr0 : ∀ k, k ≠ 5 → r' 0 k = r 0 k) (hrj : r' 0 5 = nI m) (hc : ∀ a, a < 15 → a ≠ 13 → a ≠ 14 → c' a = c a) (hcj : c' 13 3 = nI m) (sRBs : RBs r') (sCBs : CBs c' r') : BI c' r' := by
  obtain ⟨⟨a1, a2, a3, a4, a5, a6, a7, a8⟩, ⟨b1, b2, b3, b4, b5, b6, b7, b8⟩⟩ := h
  have eL : nL r' = nL r := N1_e (hr0 0 (by decide))
  have eT : nT r' = nT r := N1_e (hr0 1 (by decide))
  have eP : nP r' = nP r := N1_e (hr0 2 (by decide))
  have eR : nR r' = nR r := N1_e (hr0 3 (by decide))
  have eW : nW r' = nW r := N1_e (hr0 4 (by decide))
  have eS : nS r' = m := N1_n hrj (by omega)
  have eD : nD r' = nD r := N1_e (hr0 6 (by decide))
  have hcd : ∀ i, i < nR r → cdR r' i = cdR r i ∧ payR r' i = payR r i := by
    obtain ⟨cd, cp⟩ := cd_t (hr 1 (by decide) (by decide) (by decide)) (hr 2 (by decide) (by decide) (by decide)) (hr 4 (by decide) (by decide) (by decide)) (hr 5 (by decide) (by decide) (by decide))
    intro i _
    rw [cd, cp]
    exact ⟨rfl, rfl⟩
  have er := rd_t (hr 5 (by decide) (by decide) (by decide))
  refine ⟨⟨⟨Okn a1 5 m hrj (by omega) hr0, ?_⟩, RBl_t eL (hr 1 (by decide) (by decide) (by decide)) a2, RBt_t eT (by omega) (hr 2 (by decide) (by decide) (by decide)) a3, RBk_t (hr 3 (by decide) (by decide) (by decide)) a4, RBp_t eP (hr 4 (by decide) (by decide) (by decide)) (fun p => cdays_t eR fun i hi => ⟨by rw [er], (hcd i hi).1⟩) a5, RBr_t eR (by omega) (by omega) (hr 5 (by decide) (by decide) (by decide)) a6, RBw_t eW (by omega) (hr 6 (by decide) (by decide) (by decide)) a7, sRBs⟩, ⟨?_, CBl_t eL (hr 1 (by decide) (by decide) (by decide)) (hc 2 (by decide) (by decide) (by decide)) b2, CBt_t eT (hr 2 (by decide) (by decide) (by decide)) (hc 4 (by decide) (by decide) (by decide)) b3, CBk_t (hr 3 (by decide) (by decide) (by decide)) (hc 6 (by decide) (by decide) (by decide)) b4, CBp_t eP (hr 4 (by decide) (by decide) (by decide)) (hc 8 (by decide) (by decide) (by decide)) b5, CBr_t eR (hr 5 (by decide) (by decide) (by decide)) (hc 10 (by decide) (by decide) (by decide)) hcd b6, CBw_t eW (hr 6 (by decide) (by decide) (by decide)) (hc 12 (by decide) (by decide) (by decide)) b7, sCBs⟩⟩
  · have := a1.2
    rw [eL, eT, eP, eR, eW, eS, eD]
    omega
  · unfold CBn at b1 ⊢
    rw [eL, eT, eP, eR, eW, eS, eD, hc 1 (by decide) (by decide) (by decide), hc 3 (by decide) (by decide) (by decide), hc 5 (by decide) (by decide) (by decide), hc 7 (by decide) (by decide) (by decide), hc 9 (by decide) (by decide) (by decide), hc 11 (by decide) (by decide) (by decide), hc 0 (by decide) (by decide) (by decide)]
    exact ⟨b1.1, b1.2.1, b1.2.2.1, b1.2.2.2.1, b1.2.2.2.2.1, b1.2.2.2.2.2.1, hcj, b1.2.2.2.2.2.2.2⟩
