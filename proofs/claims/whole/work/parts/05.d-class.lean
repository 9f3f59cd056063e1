-- Table_append
set_option maxRecDepth 20000 in
theorem D_Table_append_0 {sc : rp_Sc} {t tc tq : Nat} {tl tw : Int32} (ht : rp_L0[t]? = some (.inr (5, [some (.ref (tc + 1)), some (.int tl), some (.int tw), none]))) (htc : rp_L0[tc + 1]? = some (.inl (false, tq))) (σ : rp_Mm) : rp_Le (thI (CL sc 4 [.ref t] σ) fun r2 σ1 => if (r2 = 0 : Prop) then EV sc (3, 0, 0, 21, [.ref t, .int 0], [], (rp_L0, rp_wr σ1 t 3 ((σ1 t 3) + (1 : Int32)))) else RI (-1) σ1) (EV sc (3, 0, 0, 0, [.ref t, rp_U], [], (rp_L0, σ))) := by
  refine rp_lp (q := 1) rfl rfl rfl ?_
  refine rp_lci (uc' := 0) (us' := 0) rfl (rp_rct ht) rfl rfl rfl rfl rfl rfl (fun r2 σ1 => ?_)
  refine rp_lbr (a := 9) (b := 7) rfl rfl rfl ?_ ?_
  ·
    refine rp_lp (q := 10) rfl rfl rfl ?_
    refine rp_lp (q := 11) rfl rfl rfl ?_
    refine rp_lgm rfl ht rfl ?_
    refine rp_lp (q := 15) rfl rfl rfl ?_
    refine rp_lp (q := 16) rfl rfl rfl ?_
    refine rp_lpm rfl ht rfl rfl ?_
    refine rp_lp (q := 20) rfl rfl rfl ?_
    refine rp_lp (q := 21) (ls' := [.ref t, .int 0]) rfl rfl rfl ?_
    exact rp_Le_rfl
  ·
    refine rp_lp (q := 8) rfl rfl rfl ?_
    exact rp_lri rfl rfl
set_option maxRecDepth 20000 in
theorem D_Table_append_21 {sc : rp_Sc} {t tc tq : Nat} {tl tw : Int32} (ht : rp_L0[t]? = some (.inr (5, [some (.ref (tc + 1)), some (.int tl), some (.int tw), none]))) (htc : rp_L0[tc + 1]? = some (.inl (false, tq))) (x1 : Int32) (σ : rp_Mm) : rp_Le (if (tw ≤ x1 : Prop) then RI ((σ t 3) - (1 : Int32)) σ else thV (CL sc 5 [.ref t, .int ((σ t 3) - (1 : Int32)), .int x1, .int 0] σ) fun σ1 => EV sc (3, 0, 0, 21, [.ref t, .int (x1 + 1)], [], (rp_L0, σ1))) (EV sc (3, 0, 0, 21, [.ref t, .int x1], [], (rp_L0, σ))) := by
  refine rp_lp (q := 22) rfl rfl rfl ?_
  refine rp_lp (q := 23) rfl rfl rfl ?_
  refine rp_lgf rfl ht rfl ?_
  refine rp_lbr (a := 47) (b := 29) rfl rfl rfl ?_ ?_
  ·
    refine rp_lp (q := 48) rfl rfl rfl ?_
    refine rp_lgm rfl ht rfl ?_
    refine rp_lp (q := 52) rfl rfl rfl ?_
    refine rp_lp (q := 53) rfl rfl rfl ?_
    exact rp_lri rfl rfl
  ·
    refine rp_lp (q := 30) rfl rfl rfl ?_
    refine rp_lp (q := 31) rfl rfl rfl ?_
    refine rp_lgm rfl ht rfl ?_
    refine rp_lp (q := 35) rfl rfl rfl ?_
    refine rp_lp (q := 36) rfl rfl rfl ?_
    refine rp_lp (q := 37) rfl rfl rfl ?_
    refine rp_lp (q := 38) rfl rfl rfl ?_
    refine rp_lcv (uc' := 0) (us' := 0) rfl (rp_rct ht) rfl rfl rfl rfl rfl rfl (fun σ1 => ?_)
    refine rp_lp (q := 44) (ls' := [.ref t, .int (x1 + 1)]) rfl rfl rfl ?_
    refine rp_lp (q := 21) rfl rfl rfl ?_
    exact rp_Le_rfl
-- Table_isFull
set_option maxRecDepth 20000 in
theorem D_Table_isFull_0 {sc : rp_Sc} {t tc tq : Nat} {tl tw : Int32} (ht : rp_L0[t]? = some (.inr (5, [some (.ref (tc + 1)), some (.int tl), some (.int tw), none]))) (htc : rp_L0[tc + 1]? = some (.inl (false, tq))) (σ : rp_Mm) : rp_Le (if ((σ t 3) < tl : Prop) then RI 0 σ else RI 1 σ) (EV sc (4, 0, 0, 0, [.ref t], [], (rp_L0, σ))) := by
  refine rp_lp (q := 1) rfl rfl rfl ?_
  refine rp_lgm rfl ht rfl ?_
  refine rp_lp (q := 5) rfl rfl rfl ?_
  refine rp_lgf rfl ht rfl ?_
  refine rp_lbr (a := 15) (b := 11) rfl rfl rfl ?_ ?_
  ·
    refine rp_lp (q := 16) rfl rfl rfl ?_
    exact rp_lrz rfl rfl (by decide)
  ·
    refine rp_lp (q := 12) rfl rfl rfl ?_
    refine rp_lp (q := 16) rfl rfl rfl ?_
    exact rp_lrz rfl rfl (by decide)
-- Table_set
set_option maxRecDepth 20000 in
theorem D_Table_set_0 {sc : rp_Sc} {t tc tq : Nat} {tl tw : Int32} (ht : rp_L0[t]? = some (.inr (5, [some (.ref (tc + 1)), some (.int tl), some (.int tw), none]))) (htc : rp_L0[tc + 1]? = some (.inl (false, tq))) (a0 : Int32) (a1 : Int32) (a2 : Int32) (σ : rp_Mm) : rp_Le (thI (CL sc 6 [.ref t, .int a0, .int a1] σ) fun r2 σ1 => if (r2 < 0 : Prop) then RV σ1 else if ((Int32.ofNat tq) ≤ r2 : Prop) then RV σ1 else bif rp_ix r2 tq then RV (rp_wr σ1 (tc + 1) r2.toNatClampNeg a2) else none) (EV sc (5, 0, 0, 0, [.ref t, .int a0, .int a1, .int a2, rp_U], [], (rp_L0, σ))) := by
  refine rp_lp (q := 1) rfl rfl rfl ?_
  refine rp_lp (q := 2) rfl rfl rfl ?_
  refine rp_lp (q := 3) rfl rfl rfl ?_
  refine rp_lci (uc' := 0) (us' := 0) rfl (rp_rct ht) rfl rfl rfl rfl rfl rfl (fun r2 σ1 => ?_)
  refine rp_lp (q := 8) (ls' := [.ref t, .int a0, .int a1, .int a2, .int r2]) rfl rfl rfl ?_
  refine rp_lp (q := 10) rfl rfl rfl ?_
  refine rp_lbr (a := 31) (b := 13) rfl rfl rfl ?_ ?_
  ·
    exact rp_lrv rfl rfl
  ·
    refine rp_lp (q := 15) rfl rfl rfl ?_
    refine rp_lp (q := 16) rfl rfl rfl ?_
    refine rp_lgf rfl ht rfl ?_
    refine rp_lal rfl htc ?_
    refine rp_lbr (a := 31) (b := 23) rfl rfl rfl ?_ ?_
    ·
      exact rp_lrv rfl rfl
    ·
      refine rp_lp (q := 24) rfl rfl rfl ?_
      refine rp_lgf rfl ht rfl ?_
      refine rp_lp (q := 29) rfl rfl rfl ?_
      refine rp_lp (q := 30) rfl rfl rfl ?_
      refine rp_lis rfl htc ?_
      exact rp_lrv rfl rfl
-- Table_place
set_option maxRecDepth 20000 in
theorem D_Table_place_0 {sc : rp_Sc} {t tc tq : Nat} {tl tw : Int32} (ht : rp_L0[t]? = some (.inr (5, [some (.ref (tc + 1)), some (.int tl), some (.int tw), none]))) (htc : rp_L0[tc + 1]? = some (.inl (false, tq))) (a0 : Int32) (a1 : Int32) (σ : rp_Mm) : rp_Le (if (a0 < 0 : Prop) then RI (-1) σ else if ((σ t 3) ≤ a0 : Prop) then RI (-1) σ else if (a1 < 0 : Prop) then RI (-1) σ else if (tw ≤ a1 : Prop) then RI (-1) σ else RI ((a0 * tw) + a1) σ) (EV sc (6, 0, 0, 0, [.ref t, .int a0, .int a1], [], (rp_L0, σ))) := by
  refine rp_lp (q := 1) rfl rfl rfl ?_
  refine rp_lbr (a := 35) (b := 4) rfl rfl rfl ?_ ?_
  ·
    refine rp_lp (q := 36) rfl rfl rfl ?_
    exact rp_lri rfl rfl
  ·
    refine rp_lp (q := 5) rfl rfl rfl ?_
    refine rp_lp (q := 6) rfl rfl rfl ?_
    refine rp_lgm rfl ht rfl ?_
    refine rp_lbr (a := 35) (b := 12) rfl rfl rfl ?_ ?_
    ·
      refine rp_lp (q := 36) rfl rfl rfl ?_
      exact rp_lri rfl rfl
    ·
      refine rp_lp (q := 13) rfl rfl rfl ?_
      refine rp_lbr (a := 35) (b := 16) rfl rfl rfl ?_ ?_
      ·
        refine rp_lp (q := 36) rfl rfl rfl ?_
        exact rp_lri rfl rfl
      ·
        refine rp_lp (q := 17) rfl rfl rfl ?_
        refine rp_lp (q := 18) rfl rfl rfl ?_
        refine rp_lgf rfl ht rfl ?_
        refine rp_lbr (a := 35) (b := 24) rfl rfl rfl ?_ ?_
        ·
          refine rp_lp (q := 36) rfl rfl rfl ?_
          exact rp_lri rfl rfl
        ·
          refine rp_lp (q := 25) rfl rfl rfl ?_
          refine rp_lp (q := 26) rfl rfl rfl ?_
          refine rp_lgf rfl ht rfl ?_
          refine rp_lp (q := 30) rfl rfl rfl ?_
          refine rp_lp (q := 31) rfl rfl rfl ?_
          refine rp_lp (q := 32) rfl rfl rfl ?_
          refine rp_lp (q := 36) rfl rfl rfl ?_
          exact rp_lri rfl rfl
-- Ways_forget
set_option maxRecDepth 20000 in
theorem D_Ways_forget_0 {sc : rp_Sc} (σ : rp_Mm) : rp_Le (EV sc (9, 0, 0, 2, [.ref 35, .int 0], [], (rp_L0, σ))) (EV sc (9, 0, 0, 0, [.ref 35, rp_U], [], (rp_L0, σ))) := by
  refine rp_lp (q := 1) rfl rfl rfl ?_
  refine rp_lp (q := 2) (ls' := [.ref 35, .int 0]) rfl rfl rfl ?_
  exact rp_Le_rfl
set_option maxRecDepth 20000 in
theorem D_Ways_forget_2 {sc : rp_Sc} (x1 : Int32) (σ : rp_Mm) : rp_Le (if (100 ≤ x1 : Prop) then RV σ else if ((x1 / (10 : Int32)) = (x1 - x1 / (10 : Int32) * (10 : Int32)) : Prop) then EV sc (9, 0, 0, 33, [.ref 35, .int x1], [.int 0, .int x1, .ref 36], (rp_L0, σ)) else EV sc (9, 0, 0, 33, [.ref 35, .int x1], [.int 536870912, .int x1, .ref 36], (rp_L0, σ))) (EV sc (9, 0, 0, 2, [.ref 35, .int x1], [], (rp_L0, σ))) := by
  refine rp_lp (q := 3) rfl rfl rfl ?_
  refine rp_lp (q := 4) rfl rfl rfl ?_
  refine rp_lgf rfl rfl rfl ?_
  refine rp_lal rfl rfl ?_
  refine rp_lbr (a := 40) (b := 11) rfl rfl rfl ?_ ?_
  ·
    exact rp_lrv rfl rfl
  ·
    refine rp_lp (q := 12) rfl rfl rfl ?_
    refine rp_lgf rfl rfl rfl ?_
    refine rp_lp (q := 16) rfl rfl rfl ?_
    refine rp_lp (q := 17) rfl rfl rfl ?_
    refine rp_lp (q := 19) rfl rfl rfl ?_
    refine rp_ldv rfl (by decide) ?_
    refine rp_lp (q := 21) rfl rfl rfl ?_
    refine rp_lp (q := 23) rfl rfl rfl ?_
    refine rp_lrm rfl (by decide) ?_
    refine rp_lbr (a := 27) (b := 31) rfl rfl rfl ?_ ?_
    ·
      refine rp_lp (q := 28) rfl rfl rfl ?_
      refine rp_lp (q := 33) rfl rfl rfl ?_
      exact rp_Le_rfl
    ·
      refine rp_lp (q := 33) rfl rfl rfl ?_
      exact rp_Le_rfl
set_option maxRecDepth 20000 in
theorem D_Ways_forget_33 {sc : rp_Sc} (x1 : Int32) (y0 : Int32) (y1 : Int32) (σ : rp_Mm) : rp_Le (bif rp_ix y1 100 then EV sc (9, 0, 0, 2, [.ref 35, .int (x1 + 1)], [], (rp_L0, rp_wr σ 36 y1.toNatClampNeg y0)) else none) (EV sc (9, 0, 0, 33, [.ref 35, .int x1], [.int y0, .int y1, .ref 36], (rp_L0, σ))) := by
  refine rp_lis rfl rfl ?_
  refine rp_lp (q := 37) (ls' := [.ref 35, .int (x1 + 1)]) rfl rfl rfl ?_
  refine rp_lp (q := 2) rfl rfl rfl ?_
  exact rp_Le_rfl
-- RailPasses_line
set_option maxRecDepth 20000 in
theorem D_RailPasses_line_0 {sc : rp_Sc} (a0 : Int32) (a1 : Int32) (a2 : Int32) (a3 : Int32) (a4 : Int32) (σ : rp_Mm) : rp_Le (thI (CL sc 14 [.int a0] σ) fun r2 σ1 => if (r2 = 0 : Prop) then RI (-1) σ1 else thI (CL sc 14 [.int a1] σ1) fun r4 σ3 => if (r4 = 0 : Prop) then RI (-1) σ3 else if (a0 = a1 : Prop) then RI (-1) σ3 else thI (CL sc 16 [.int a2] σ3) fun r6 σ5 => if (r6 = 0 : Prop) then RI (-1) σ5 else thI (CL sc 15 [.int a3, .int 1, .int 300] σ5) fun r8 σ7 => if (r8 = 0 : Prop) then RI (-1) σ7 else thI (CL sc 4 [.ref 3] σ7) fun r10 σ9 => if (r10 = 0 : Prop) then thI (CL sc 3 [.ref 3] σ9) fun r12 σ11 => thV (CL sc 5 [.ref 3, .int r12, .int 0, .int a0] σ11) fun σ13 => thV (CL sc 5 [.ref 3, .int r12, .int 1, .int a1] σ13) fun σ14 => thV (CL sc 5 [.ref 3, .int r12, .int 2, .int a2] σ14) fun σ15 => thV (CL sc 5 [.ref 3, .int r12, .int 3, .int a3] σ15) fun σ16 => thI (CL sc 17 [.int a4] σ16) fun r18 σ17 => thV (CL sc 5 [.ref 3, .int r12, .int 4, .int r18] σ17) fun σ19 => thV (CL sc 18 [.ref 35, .ref 3] σ19) fun σ20 => RI r12 σ20 else RI (-2) σ9) (EV sc (13, 0, 0, 0, [.ref 1, .int a0, .int a1, .int a2, .int a3, .int a4, rp_U], [], (rp_L0, σ))) := by
  refine rp_lp (q := 1) rfl rfl rfl ?_
  refine rp_lci (uc' := 0) (us' := 0) rfl rfl rfl rfl rfl rfl rfl rfl (fun r2 σ1 => ?_)
  refine rp_lbr (a := 38) (b := 7) rfl rfl rfl ?_ ?_
  ·
    refine rp_lp (q := 39) rfl rfl rfl ?_
    exact rp_lri rfl rfl
  ·
    refine rp_lp (q := 8) rfl rfl rfl ?_
    refine rp_lci (uc' := 0) (us' := 0) rfl rfl rfl rfl rfl rfl rfl rfl (fun r4 σ3 => ?_)
    refine rp_lbr (a := 38) (b := 14) rfl rfl rfl ?_ ?_
    ·
      refine rp_lp (q := 39) rfl rfl rfl ?_
      exact rp_lri rfl rfl
    ·
      refine rp_lp (q := 15) rfl rfl rfl ?_
      refine rp_lp (q := 16) rfl rfl rfl ?_
      refine rp_lbr (a := 38) (b := 19) rfl rfl rfl ?_ ?_
      ·
        refine rp_lp (q := 39) rfl rfl rfl ?_
        exact rp_lri rfl rfl
      ·
        refine rp_lp (q := 20) rfl rfl rfl ?_
        refine rp_lci (uc' := 0) (us' := 0) rfl rfl rfl rfl rfl rfl rfl rfl (fun r6 σ5 => ?_)
        refine rp_lbr (a := 38) (b := 26) rfl rfl rfl ?_ ?_
        ·
          refine rp_lp (q := 39) rfl rfl rfl ?_
          exact rp_lri rfl rfl
        ·
          refine rp_lp (q := 28) rfl rfl rfl ?_
          refine rp_lp (q := 29) rfl rfl rfl ?_
          refine rp_lp (q := 32) rfl rfl rfl ?_
          refine rp_lci (uc' := 0) (us' := 0) rfl rfl rfl rfl rfl rfl rfl rfl (fun r8 σ7 => ?_)
          refine rp_lbr (a := 38) (b := 40) rfl rfl rfl ?_ ?_
          ·
            refine rp_lp (q := 39) rfl rfl rfl ?_
            exact rp_lri rfl rfl
          ·
            refine rp_lp (q := 41) rfl rfl rfl ?_
            refine rp_lgf rfl rfl rfl ?_
            refine rp_lgf rfl rfl rfl ?_
            refine rp_lci (uc' := 0) (us' := 0) rfl (rp_rcv rfl) rfl rfl rfl rfl rfl rfl (fun r10 σ9 => ?_)
            refine rp_lbr (a := 56) (b := 53) rfl rfl rfl ?_ ?_
            ·
              refine rp_lp (q := 57) rfl rfl rfl ?_
              refine rp_lgf rfl rfl rfl ?_
              refine rp_lgf rfl rfl rfl ?_
              refine rp_lci (uc' := 0) (us' := 0) rfl (rp_rcv rfl) rfl rfl rfl rfl rfl rfl (fun r12 σ11 => ?_)
              refine rp_lp (q := 68) (ls' := [.ref 1, .int a0, .int a1, .int a2, .int a3, .int a4, .int r12]) rfl rfl rfl ?_
              refine rp_lp (q := 69) rfl rfl rfl ?_
              refine rp_lgf rfl rfl rfl ?_
              refine rp_lgf rfl rfl rfl ?_
              refine rp_lp (q := 77) rfl rfl rfl ?_
              refine rp_lp (q := 78) rfl rfl rfl ?_
              refine rp_lp (q := 79) rfl rfl rfl ?_
              refine rp_lcv (uc' := 0) (us' := 0) rfl (rp_rcv rfl) rfl rfl rfl rfl rfl rfl (fun σ13 => ?_)
              refine rp_lp (q := 83) rfl rfl rfl ?_
              refine rp_lgf rfl rfl rfl ?_
              refine rp_lgf rfl rfl rfl ?_
              refine rp_lp (q := 91) rfl rfl rfl ?_
              refine rp_lp (q := 92) rfl rfl rfl ?_
              refine rp_lp (q := 93) rfl rfl rfl ?_
              refine rp_lcv (uc' := 0) (us' := 0) rfl (rp_rcv rfl) rfl rfl rfl rfl rfl rfl (fun σ14 => ?_)
              refine rp_lp (q := 97) rfl rfl rfl ?_
              refine rp_lgf rfl rfl rfl ?_
              refine rp_lgf rfl rfl rfl ?_
              refine rp_lp (q := 105) rfl rfl rfl ?_
              refine rp_lp (q := 106) rfl rfl rfl ?_
              refine rp_lp (q := 107) rfl rfl rfl ?_
              refine rp_lcv (uc' := 0) (us' := 0) rfl (rp_rcv rfl) rfl rfl rfl rfl rfl rfl (fun σ15 => ?_)
              refine rp_lp (q := 111) rfl rfl rfl ?_
              refine rp_lgf rfl rfl rfl ?_
              refine rp_lgf rfl rfl rfl ?_
              refine rp_lp (q := 119) rfl rfl rfl ?_
              refine rp_lp (q := 120) rfl rfl rfl ?_
              refine rp_lp (q := 122) rfl rfl rfl ?_
              refine rp_lcv (uc' := 0) (us' := 0) rfl (rp_rcv rfl) rfl rfl rfl rfl rfl rfl (fun σ16 => ?_)
              refine rp_lp (q := 126) rfl rfl rfl ?_
              refine rp_lgf rfl rfl rfl ?_
              refine rp_lgf rfl rfl rfl ?_
              refine rp_lp (q := 134) rfl rfl rfl ?_
              refine rp_lp (q := 135) rfl rfl rfl ?_
              refine rp_lp (q := 137) rfl rfl rfl ?_
              refine rp_lci (uc' := 0) (us' := 0) rfl rfl rfl rfl rfl rfl rfl rfl (fun r18 σ17 => ?_)
              refine rp_lcv (uc' := 0) (us' := 0) rfl (rp_rcv rfl) rfl rfl rfl rfl rfl rfl (fun σ19 => ?_)
              refine rp_lp (q := 144) rfl rfl rfl ?_
              refine rp_lgf rfl rfl rfl ?_
              refine rp_lp (q := 148) rfl rfl rfl ?_
              refine rp_lgf rfl rfl rfl ?_
              refine rp_lgf rfl rfl rfl ?_
              refine rp_lcv (uc' := 0) (us' := 0) rfl (rp_rcv rfl) rfl rfl rfl rfl rfl rfl (fun σ20 => ?_)
              refine rp_lp (q := 159) rfl rfl rfl ?_
              exact rp_lri rfl rfl
            ·
              refine rp_lp (q := 55) rfl rfl rfl ?_
              exact rp_lri rfl rfl
-- RailPasses_isStation
set_option maxRecDepth 20000 in
theorem D_RailPasses_isStation_0 {sc : rp_Sc} (a0 : Int32) (σ : rp_Mm) : rp_Le (thI (CL sc 15 [.int a0, .int 0, .int 9] σ) fun r2 σ1 => if r2 &&& 1 = r2 then RI r2 σ1 else none) (EV sc (14, 0, 0, 0, [.int a0], [], (rp_L0, σ))) := by
  refine rp_lp (q := 1) rfl rfl rfl ?_
  refine rp_lp (q := 2) rfl rfl rfl ?_
  refine rp_lp (q := 4) rfl rfl rfl ?_
  refine rp_lci (uc' := 0) (us' := 0) rfl rfl rfl rfl rfl rfl rfl rfl (fun r2 σ1 => ?_)
  exact rp_lrq rfl rfl
-- RailPasses_isWithin
set_option maxRecDepth 20000 in
theorem D_RailPasses_isWithin_0 {sc : rp_Sc} (a0 : Int32) (a1 : Int32) (a2 : Int32) (σ : rp_Mm) : rp_Le (if (a0 < a1 : Prop) then RI 0 σ else if (a2 < a0 : Prop) then RI 0 σ else RI 1 σ) (EV sc (15, 0, 0, 0, [.int a0, .int a1, .int a2], [], (rp_L0, σ))) := by
  refine rp_lp (q := 1) rfl rfl rfl ?_
  refine rp_lp (q := 2) rfl rfl rfl ?_
  refine rp_lbr (a := 14) (b := 5) rfl rfl rfl ?_ ?_
  ·
    refine rp_lp (q := 15) rfl rfl rfl ?_
    exact rp_lrz rfl rfl (by decide)
  ·
    refine rp_lp (q := 6) rfl rfl rfl ?_
    refine rp_lp (q := 7) rfl rfl rfl ?_
    refine rp_lbr (a := 14) (b := 10) rfl rfl rfl ?_ ?_
    ·
      refine rp_lp (q := 15) rfl rfl rfl ?_
      exact rp_lrz rfl rfl (by decide)
    ·
      refine rp_lp (q := 11) rfl rfl rfl ?_
      refine rp_lp (q := 15) rfl rfl rfl ?_
      exact rp_lrz rfl rfl (by decide)
-- RailPasses_isRailway
set_option maxRecDepth 20000 in
theorem D_RailPasses_isRailway_0 {sc : rp_Sc} (a0 : Int32) (σ : rp_Mm) : rp_Le (thI (CL sc 15 [.int a0, .int 0, .int 4] σ) fun r2 σ1 => if r2 &&& 1 = r2 then RI r2 σ1 else none) (EV sc (16, 0, 0, 0, [.int a0], [], (rp_L0, σ))) := by
  refine rp_lp (q := 1) rfl rfl rfl ?_
  refine rp_lp (q := 2) rfl rfl rfl ?_
  refine rp_lp (q := 3) rfl rfl rfl ?_
  refine rp_lci (uc' := 0) (us' := 0) rfl rfl rfl rfl rfl rfl rfl rfl (fun r2 σ1 => ?_)
  exact rp_lrq rfl rfl
-- RailPasses_bit
set_option maxRecDepth 20000 in
theorem D_RailPasses_bit_0 {sc : rp_Sc} (a0 : Int32) (σ : rp_Mm) : rp_Le (if (a0 = 0 : Prop) then RI 0 σ else RI 1 σ) (EV sc (17, 0, 0, 0, [.int a0], [], (rp_L0, σ))) := by
  refine rp_lp (q := 1) rfl rfl rfl ?_
  refine rp_lbr (a := 8) (b := 4) rfl rfl rfl ?_ ?_
  ·
    refine rp_lp (q := 9) rfl rfl rfl ?_
    exact rp_lri rfl rfl
  ·
    refine rp_lp (q := 5) rfl rfl rfl ?_
    refine rp_lp (q := 9) rfl rfl rfl ?_
    exact rp_lri rfl rfl
-- Ways_reckon
set_option maxRecDepth 20000 in
theorem D_Ways_reckon_0 {sc : rp_Sc} (σ : rp_Mm) : rp_Le (thV (CL sc 9 [.ref 35] σ) fun σ1 => EV sc (18, 0, 0, 6, [.ref 35, .ref 3, .int 0, rp_U, rp_U], [], (rp_L0, σ1))) (EV sc (18, 0, 0, 0, [.ref 35, .ref 3, rp_U, rp_U, rp_U], [], (rp_L0, σ))) := by
  refine rp_lp (q := 1) rfl rfl rfl ?_
  refine rp_lcv (uc' := 0) (us' := 0) rfl (rp_rcv rfl) rfl rfl rfl rfl rfl rfl (fun σ1 => ?_)
  refine rp_lp (q := 5) rfl rfl rfl ?_
  refine rp_lp (q := 6) (ls' := [.ref 35, .ref 3, .int 0, rp_U, rp_U]) rfl rfl rfl ?_
  exact rp_Le_rfl
set_option maxRecDepth 20000 in
theorem D_Ways_reckon_6 {sc : rp_Sc} (x2 : Int32) (σ : rp_Mm) : rp_Le (thI (CL sc 19 [.ref 3] σ) fun r2 σ1 => if (r2 ≤ x2 : Prop) then EV sc (18, 0, 0, 70, [.ref 35, .ref 3, .int 0, rp_U, rp_U], [], (rp_L0, σ1)) else thI (CL sc 20 [.ref 3, .int x2, .int 3] σ1) fun r4 σ3 => thI (CL sc 20 [.ref 3, .int x2, .int 0] σ3) fun r6 σ5 => thI (CL sc 20 [.ref 3, .int x2, .int 1] σ5) fun r8 σ7 => thV (CL sc 21 [.ref 35, .int r6, .int r8, .int ((r4 <<< ((14 : Int32) &&& 31)) ||| ((1 : Int32) <<< (x2 &&& 31)))] σ7) fun σ9 => thI (CL sc 20 [.ref 3, .int x2, .int 1] σ9) fun r11 σ10 => thI (CL sc 20 [.ref 3, .int x2, .int 0] σ10) fun r13 σ12 => thV (CL sc 21 [.ref 35, .int r11, .int r13, .int ((r4 <<< ((14 : Int32) &&& 31)) ||| ((1 : Int32) <<< (x2 &&& 31)))] σ12) fun σ14 => EV sc (18, 0, 0, 6, [.ref 35, .ref 3, .int (x2 + 1), rp_U, rp_U], [], (rp_L0, σ14))) (EV sc (18, 0, 0, 6, [.ref 35, .ref 3, .int x2, rp_U, rp_U], [], (rp_L0, σ))) := by
  refine rp_lp (q := 7) rfl rfl rfl ?_
  refine rp_lp (q := 8) rfl rfl rfl ?_
  refine rp_lci (uc' := 0) (us' := 0) rfl (rp_rcv rfl) rfl rfl rfl rfl rfl rfl (fun r2 σ1 => ?_)
  refine rp_lbr (a := 68) (b := 14) rfl rfl rfl ?_ ?_
  ·
    refine rp_lp (q := 69) rfl rfl rfl ?_
    refine rp_lp (q := 70) (ls' := [.ref 35, .ref 3, .int 0, rp_U, rp_U]) rfl rfl rfl ?_
    exact rp_Le_rfl
  ·
    refine rp_lp (q := 15) rfl rfl rfl ?_
    refine rp_lp (q := 16) rfl rfl rfl ?_
    refine rp_lp (q := 17) rfl rfl rfl ?_
    refine rp_lci (uc' := 0) (us' := 0) rfl (rp_rcv rfl) rfl rfl rfl rfl rfl rfl (fun r4 σ3 => ?_)
    refine rp_lp (q := 22) rfl rfl rfl ?_
    refine rp_lp (q := 23) rfl rfl rfl ?_
    refine rp_lp (q := 24) rfl rfl rfl ?_
    refine rp_lp (q := 25) rfl rfl rfl ?_
    refine rp_lp (q := 26) rfl rfl rfl ?_
    refine rp_lp (q := 27) rfl rfl rfl ?_
    refine rp_lp (q := 28) (ls' := [.ref 35, .ref 3, .int x2, .int ((r4 <<< ((14 : Int32) &&& 31)) ||| ((1 : Int32) <<< (x2 &&& 31))), rp_U]) rfl rfl rfl ?_
    refine rp_lp (q := 29) rfl rfl rfl ?_
    refine rp_lp (q := 30) rfl rfl rfl ?_
    refine rp_lp (q := 31) rfl rfl rfl ?_
    refine rp_lp (q := 32) rfl rfl rfl ?_
    refine rp_lci (uc' := 0) (us' := 0) rfl (rp_rcv rfl) rfl rfl rfl rfl rfl rfl (fun r6 σ5 => ?_)
    refine rp_lp (q := 36) rfl rfl rfl ?_
    refine rp_lp (q := 37) rfl rfl rfl ?_
    refine rp_lp (q := 38) rfl rfl rfl ?_
    refine rp_lci (uc' := 0) (us' := 0) rfl (rp_rcv rfl) rfl rfl rfl rfl rfl rfl (fun r8 σ7 => ?_)
    refine rp_lp (q := 42) rfl rfl rfl ?_
    refine rp_lcv (uc' := 0) (us' := 0) rfl (rp_rcv rfl) rfl rfl rfl rfl rfl rfl (fun σ9 => ?_)
    refine rp_lp (q := 46) rfl rfl rfl ?_
    refine rp_lp (q := 47) rfl rfl rfl ?_
    refine rp_lp (q := 48) rfl rfl rfl ?_
    refine rp_lp (q := 49) rfl rfl rfl ?_
    refine rp_lci (uc' := 0) (us' := 0) rfl (rp_rcv rfl) rfl rfl rfl rfl rfl rfl (fun r11 σ10 => ?_)
    refine rp_lp (q := 53) rfl rfl rfl ?_
    refine rp_lp (q := 54) rfl rfl rfl ?_
    refine rp_lp (q := 55) rfl rfl rfl ?_
    refine rp_lci (uc' := 0) (us' := 0) rfl (rp_rcv rfl) rfl rfl rfl rfl rfl rfl (fun r13 σ12 => ?_)
    refine rp_lp (q := 59) rfl rfl rfl ?_
    refine rp_lcv (uc' := 0) (us' := 0) rfl (rp_rcv rfl) rfl rfl rfl rfl rfl rfl (fun σ14 => ?_)
    refine rp_lp (q := 65) (ls' := [.ref 35, .ref 3, .int (x2 + 1), .int ((r4 <<< ((14 : Int32) &&& 31)) ||| ((1 : Int32) <<< (x2 &&& 31))), rp_U]) rfl rfl rfl ?_
    refine rp_lp (q := 6) rfl rfl rfl ?_
    exact rp_LeU ⟨Or.inl rfl, Or.inl rfl, Or.inl rfl, Or.inr ⟨rfl, rfl⟩, Or.inl rfl, trivial⟩
set_option maxRecDepth 20000 in
theorem D_Ways_reckon_70 {sc : rp_Sc} (x2 : Int32) (σ : rp_Mm) : rp_Le (if (10 ≤ x2 : Prop) then RV σ else EV sc (18, 0, 0, 78, [.ref 35, .ref 3, .int x2, .int 0, rp_U], [], (rp_L0, σ))) (EV sc (18, 0, 0, 70, [.ref 35, .ref 3, .int x2, rp_U, rp_U], [], (rp_L0, σ))) := by
  refine rp_lp (q := 71) rfl rfl rfl ?_
  refine rp_lp (q := 73) rfl rfl rfl ?_
  refine rp_lbr (a := 142) (b := 76) rfl rfl rfl ?_ ?_
  ·
    exact rp_lrv rfl rfl
  ·
    refine rp_lp (q := 77) rfl rfl rfl ?_
    refine rp_lp (q := 78) (ls' := [.ref 35, .ref 3, .int x2, .int 0, rp_U]) rfl rfl rfl ?_
    exact rp_Le_rfl
set_option maxRecDepth 20000 in
theorem D_Ways_reckon_78 {sc : rp_Sc} (x2 : Int32) (x3 : Int32) (σ : rp_Mm) : rp_Le (if (10 ≤ x3 : Prop) then EV sc (18, 0, 0, 70, [.ref 35, .ref 3, .int (x2 + 1), rp_U, rp_U], [], (rp_L0, σ)) else EV sc (18, 0, 0, 87, [.ref 35, .ref 3, .int x2, .int x3, .int 0], [], (rp_L0, σ))) (EV sc (18, 0, 0, 78, [.ref 35, .ref 3, .int x2, .int x3, rp_U], [], (rp_L0, σ))) := by
  refine rp_lp (q := 79) rfl rfl rfl ?_
  refine rp_lp (q := 81) rfl rfl rfl ?_
  refine rp_lbr (a := 136) (b := 84) rfl rfl rfl ?_ ?_
  ·
    refine rp_lp (q := 139) (ls' := [.ref 35, .ref 3, .int (x2 + 1), .int x3, rp_U]) rfl rfl rfl ?_
    refine rp_lp (q := 70) rfl rfl rfl ?_
    exact rp_LeU ⟨Or.inl rfl, Or.inl rfl, Or.inl rfl, Or.inr ⟨rfl, rfl⟩, Or.inl rfl, trivial⟩
  ·
    refine rp_lp (q := 85) rfl rfl rfl ?_
    refine rp_lp (q := 87) (ls' := [.ref 35, .ref 3, .int x2, .int x3, .int 0]) rfl rfl rfl ?_
    exact rp_Le_rfl
set_option maxRecDepth 20000 in
theorem D_Ways_reckon_87 {sc : rp_Sc} (x2 : Int32) (x3 : Int32) (x4 : Int32) (σ : rp_Mm) : rp_Le (if (10 ≤ x4 : Prop) then EV sc (18, 0, 0, 130, [.ref 35, .ref 3, .int x2, .int x3, .int x4], [], (rp_L0, σ)) else thI (CL sc 22 [.ref 35, .int x3, .int x2] σ) fun r2 σ1 => if (r2 = 0 : Prop) then EV sc (18, 0, 0, 130, [.ref 35, .ref 3, .int x2, .int x3, .int x4], [], (rp_L0, σ1)) else thI (CL sc 23 [.ref 35, .int x3, .int x2] σ1) fun r4 σ3 => thI (CL sc 23 [.ref 35, .int x2, .int x4] σ3) fun r6 σ5 => thV (CL sc 21 [.ref 35, .int x3, .int x4, .int (r4 + r6)] σ5) fun σ7 => EV sc (18, 0, 0, 87, [.ref 35, .ref 3, .int x2, .int x3, .int (x4 + 1)], [], (rp_L0, σ7))) (EV sc (18, 0, 0, 87, [.ref 35, .ref 3, .int x2, .int x3, .int x4], [], (rp_L0, σ))) := by
  refine rp_lp (q := 89) rfl rfl rfl ?_
  refine rp_lp (q := 91) rfl rfl rfl ?_
  refine rp_lbr (a := 130) (b := 94) rfl rfl rfl ?_ ?_
  ·
    exact rp_Le_rfl
  ·
    refine rp_lp (q := 95) rfl rfl rfl ?_
    refine rp_lp (q := 96) rfl rfl rfl ?_
    refine rp_lp (q := 97) rfl rfl rfl ?_
    refine rp_lci (uc' := 0) (us' := 0) rfl (rp_rcv rfl) rfl rfl rfl rfl rfl rfl (fun r2 σ1 => ?_)
    refine rp_lbr (a := 130) (b := 103) rfl rfl rfl ?_ ?_
    ·
      exact rp_Le_rfl
    ·
      refine rp_lp (q := 104) rfl rfl rfl ?_
      refine rp_lp (q := 105) rfl rfl rfl ?_
      refine rp_lp (q := 107) rfl rfl rfl ?_
      refine rp_lp (q := 108) rfl rfl rfl ?_
      refine rp_lp (q := 109) rfl rfl rfl ?_
      refine rp_lp (q := 110) rfl rfl rfl ?_
      refine rp_lci (uc' := 0) (us' := 0) rfl (rp_rcv rfl) rfl rfl rfl rfl rfl rfl (fun r4 σ3 => ?_)
      refine rp_lp (q := 114) rfl rfl rfl ?_
      refine rp_lp (q := 115) rfl rfl rfl ?_
      refine rp_lp (q := 117) rfl rfl rfl ?_
      refine rp_lci (uc' := 0) (us' := 0) rfl (rp_rcv rfl) rfl rfl rfl rfl rfl rfl (fun r6 σ5 => ?_)
      refine rp_lp (q := 121) rfl rfl rfl ?_
      refine rp_lcv (uc' := 0) (us' := 0) rfl (rp_rcv rfl) rfl rfl rfl rfl rfl rfl (fun σ7 => ?_)
      refine rp_lp (q := 127) (ls' := [.ref 35, .ref 3, .int x2, .int x3, .int (x4 + 1)]) rfl rfl rfl ?_
      refine rp_lp (q := 87) rfl rfl rfl ?_
      exact rp_Le_rfl
set_option maxRecDepth 20000 in
theorem D_Ways_reckon_130 {sc : rp_Sc} (x2 : Int32) (x3 : Int32) (x4 : Int32) (σ : rp_Mm) : rp_Le (EV sc (18, 0, 0, 78, [.ref 35, .ref 3, .int x2, .int (x3 + 1), rp_U], [], (rp_L0, σ))) (EV sc (18, 0, 0, 130, [.ref 35, .ref 3, .int x2, .int x3, .int x4], [], (rp_L0, σ))) := by
  refine rp_lp (q := 133) (ls' := [.ref 35, .ref 3, .int x2, .int (x3 + 1), .int x4]) rfl rfl rfl ?_
  refine rp_lp (q := 78) rfl rfl rfl ?_
  exact rp_LeU ⟨Or.inl rfl, Or.inl rfl, Or.inl rfl, Or.inl rfl, Or.inr ⟨rfl, rfl⟩, trivial⟩
-- Table_size
set_option maxRecDepth 20000 in
theorem D_Table_size_0 {sc : rp_Sc} {t tc tq : Nat} {tl tw : Int32} (ht : rp_L0[t]? = some (.inr (5, [some (.ref (tc + 1)), some (.int tl), some (.int tw), none]))) (htc : rp_L0[tc + 1]? = some (.inl (false, tq))) (σ : rp_Mm) : rp_Le (RI (σ t 3) σ) (EV sc (19, 0, 0, 0, [.ref t], [], (rp_L0, σ))) := by
  refine rp_lp (q := 1) rfl rfl rfl ?_
  refine rp_lgm rfl ht rfl ?_
  exact rp_lri rfl rfl
-- Table_get
set_option maxRecDepth 20000 in
theorem D_Table_get_0 {sc : rp_Sc} {t tc tq : Nat} {tl tw : Int32} (ht : rp_L0[t]? = some (.inr (5, [some (.ref (tc + 1)), some (.int tl), some (.int tw), none]))) (htc : rp_L0[tc + 1]? = some (.inl (false, tq))) (a0 : Int32) (a1 : Int32) (σ : rp_Mm) : rp_Le (thI (CL sc 6 [.ref t, .int a0, .int a1] σ) fun r2 σ1 => if (r2 < 0 : Prop) then RI 0 σ1 else if ((Int32.ofNat tq) ≤ r2 : Prop) then RI 0 σ1 else bif rp_ix r2 tq then RI (σ1 (tc + 1) r2.toNatClampNeg) σ1 else none) (EV sc (20, 0, 0, 0, [.ref t, .int a0, .int a1, rp_U], [], (rp_L0, σ))) := by
  refine rp_lp (q := 1) rfl rfl rfl ?_
  refine rp_lp (q := 2) rfl rfl rfl ?_
  refine rp_lp (q := 3) rfl rfl rfl ?_
  refine rp_lci (uc' := 0) (us' := 0) rfl (rp_rct ht) rfl rfl rfl rfl rfl rfl (fun r2 σ1 => ?_)
  refine rp_lp (q := 7) (ls' := [.ref t, .int a0, .int a1, .int r2]) rfl rfl rfl ?_
  refine rp_lp (q := 8) rfl rfl rfl ?_
  refine rp_lbr (a := 29) (b := 11) rfl rfl rfl ?_ ?_
  ·
    refine rp_lp (q := 30) rfl rfl rfl ?_
    exact rp_lri rfl rfl
  ·
    refine rp_lp (q := 12) rfl rfl rfl ?_
    refine rp_lp (q := 13) rfl rfl rfl ?_
    refine rp_lgf rfl ht rfl ?_
    refine rp_lal rfl htc ?_
    refine rp_lbr (a := 29) (b := 20) rfl rfl rfl ?_ ?_
    ·
      refine rp_lp (q := 30) rfl rfl rfl ?_
      exact rp_lri rfl rfl
    ·
      refine rp_lp (q := 21) rfl rfl rfl ?_
      refine rp_lgf rfl ht rfl ?_
      refine rp_lp (q := 25) rfl rfl rfl ?_
      refine rp_lia rfl htc ?_
      refine rp_lp (q := 30) rfl rfl rfl ?_
      exact rp_lri rfl rfl
-- Ways_better
set_option maxRecDepth 20000 in
theorem D_Ways_better_0 {sc : rp_Sc} (a0 : Int32) (a1 : Int32) (a2 : Int32) (σ : rp_Mm) : rp_Le (thI (CL sc 14 [.int a0] σ) fun r2 σ1 => if (r2 = 0 : Prop) then RV σ1 else thI (CL sc 14 [.int a1] σ1) fun r4 σ3 => if (r4 = 0 : Prop) then RV σ3 else if (100 ≤ ((a0 * (10 : Int32)) + a1) : Prop) then RV σ3 else bif rp_ix ((a0 * (10 : Int32)) + a1) 100 then if ((σ3 36 ((a0 * (10 : Int32)) + a1).toNatClampNeg) ≤ a2 : Prop) then RV σ3 else bif rp_ix ((a0 * (10 : Int32)) + a1) 100 then RV (rp_wr σ3 36 ((a0 * (10 : Int32)) + a1).toNatClampNeg a2) else none else none) (EV sc (21, 0, 0, 0, [.ref 35, .int a0, .int a1, .int a2, rp_U], [], (rp_L0, σ))) := by
  refine rp_lp (q := 1) rfl rfl rfl ?_
  refine rp_lp (q := 3) rfl rfl rfl ?_
  refine rp_lp (q := 4) rfl rfl rfl ?_
  refine rp_lp (q := 5) rfl rfl rfl ?_
  refine rp_lp (q := 6) rfl rfl rfl ?_
  refine rp_lp (q := 8) (ls' := [.ref 35, .int a0, .int a1, .int a2, .int ((a0 * (10 : Int32)) + a1)]) rfl rfl rfl ?_
  refine rp_lp (q := 9) rfl rfl rfl ?_
  refine rp_lci (uc' := 0) (us' := 0) rfl rfl rfl rfl rfl rfl rfl rfl (fun r2 σ1 => ?_)
  refine rp_lbr (a := 51) (b := 15) rfl rfl rfl ?_ ?_
  ·
    exact rp_lrv rfl rfl
  ·
    refine rp_lp (q := 16) rfl rfl rfl ?_
    refine rp_lci (uc' := 0) (us' := 0) rfl rfl rfl rfl rfl rfl rfl rfl (fun r4 σ3 => ?_)
    refine rp_lbr (a := 51) (b := 22) rfl rfl rfl ?_ ?_
    ·
      exact rp_lrv rfl rfl
    ·
      refine rp_lp (q := 24) rfl rfl rfl ?_
      refine rp_lp (q := 25) rfl rfl rfl ?_
      refine rp_lgf rfl rfl rfl ?_
      refine rp_lal rfl rfl ?_
      refine rp_lbr (a := 51) (b := 32) rfl rfl rfl ?_ ?_
      ·
        exact rp_lrv rfl rfl
      ·
        refine rp_lp (q := 33) rfl rfl rfl ?_
        refine rp_lp (q := 34) rfl rfl rfl ?_
        refine rp_lgf rfl rfl rfl ?_
        refine rp_lp (q := 39) rfl rfl rfl ?_
        refine rp_lia rfl rfl ?_
        refine rp_lbr (a := 51) (b := 43) rfl rfl rfl ?_ ?_
        ·
          exact rp_lrv rfl rfl
        ·
          refine rp_lp (q := 44) rfl rfl rfl ?_
          refine rp_lgf rfl rfl rfl ?_
          refine rp_lp (q := 49) rfl rfl rfl ?_
          refine rp_lp (q := 50) rfl rfl rfl ?_
          refine rp_lis rfl rfl ?_
          exact rp_lrv rfl rfl
-- Ways_isThere
set_option maxRecDepth 20000 in
theorem D_Ways_isThere_0 {sc : rp_Sc} (a0 : Int32) (a1 : Int32) (σ : rp_Mm) : rp_Le (thI (CL sc 23 [.ref 35, .int a0, .int a1] σ) fun r2 σ1 => if (536870912 ≤ r2 : Prop) then RI 0 σ1 else RI 1 σ1) (EV sc (22, 0, 0, 0, [.ref 35, .int a0, .int a1], [], (rp_L0, σ))) := by
  refine rp_lp (q := 1) rfl rfl rfl ?_
  refine rp_lp (q := 2) rfl rfl rfl ?_
  refine rp_lp (q := 3) rfl rfl rfl ?_
  refine rp_lci (uc' := 0) (us' := 0) rfl (rp_rcv rfl) rfl rfl rfl rfl rfl rfl (fun r2 σ1 => ?_)
  refine rp_lp (q := 8) rfl rfl rfl ?_
  refine rp_lbr (a := 15) (b := 11) rfl rfl rfl ?_ ?_
  ·
    refine rp_lp (q := 16) rfl rfl rfl ?_
    exact rp_lrz rfl rfl (by decide)
  ·
    refine rp_lp (q := 12) rfl rfl rfl ?_
    refine rp_lp (q := 16) rfl rfl rfl ?_
    exact rp_lrz rfl rfl (by decide)
-- Ways_keyOf
set_option maxRecDepth 20000 in
theorem D_Ways_keyOf_0 {sc : rp_Sc} (a0 : Int32) (a1 : Int32) (σ : rp_Mm) : rp_Le (thI (CL sc 14 [.int a0] σ) fun r2 σ1 => if (r2 = 0 : Prop) then RI 536870912 σ1 else thI (CL sc 14 [.int a1] σ1) fun r4 σ3 => if (r4 = 0 : Prop) then RI 536870912 σ3 else if (100 ≤ ((a0 * (10 : Int32)) + a1) : Prop) then RI 536870912 σ3 else bif rp_ix ((a0 * (10 : Int32)) + a1) 100 then RI (σ3 36 ((a0 * (10 : Int32)) + a1).toNatClampNeg) σ3 else none) (EV sc (23, 0, 0, 0, [.ref 35, .int a0, .int a1, rp_U], [], (rp_L0, σ))) := by
  refine rp_lp (q := 1) rfl rfl rfl ?_
  refine rp_lp (q := 3) rfl rfl rfl ?_
  refine rp_lp (q := 4) rfl rfl rfl ?_
  refine rp_lp (q := 5) rfl rfl rfl ?_
  refine rp_lp (q := 6) rfl rfl rfl ?_
  refine rp_lp (q := 7) (ls' := [.ref 35, .int a0, .int a1, .int ((a0 * (10 : Int32)) + a1)]) rfl rfl rfl ?_
  refine rp_lp (q := 8) rfl rfl rfl ?_
  refine rp_lci (uc' := 0) (us' := 0) rfl rfl rfl rfl rfl rfl rfl rfl (fun r2 σ1 => ?_)
  refine rp_lbr (a := 39) (b := 14) rfl rfl rfl ?_ ?_
  ·
    refine rp_lp (q := 41) rfl rfl rfl ?_
    exact rp_lri rfl rfl
  ·
    refine rp_lp (q := 15) rfl rfl rfl ?_
    refine rp_lci (uc' := 0) (us' := 0) rfl rfl rfl rfl rfl rfl rfl rfl (fun r4 σ3 => ?_)
    refine rp_lbr (a := 39) (b := 21) rfl rfl rfl ?_ ?_
    ·
      refine rp_lp (q := 41) rfl rfl rfl ?_
      exact rp_lri rfl rfl
    ·
      refine rp_lp (q := 22) rfl rfl rfl ?_
      refine rp_lp (q := 23) rfl rfl rfl ?_
      refine rp_lgf rfl rfl rfl ?_
      refine rp_lal rfl rfl ?_
      refine rp_lbr (a := 39) (b := 30) rfl rfl rfl ?_ ?_
      ·
        refine rp_lp (q := 41) rfl rfl rfl ?_
        exact rp_lri rfl rfl
      ·
        refine rp_lp (q := 31) rfl rfl rfl ?_
        refine rp_lgf rfl rfl rfl ?_
        refine rp_lp (q := 35) rfl rfl rfl ?_
        refine rp_lia rfl rfl ?_
        refine rp_lp (q := 41) rfl rfl rfl ?_
        exact rp_lri rfl rfl
-- RailPasses_train
set_option maxRecDepth 20000 in
theorem D_RailPasses_train_0 {sc : rp_Sc} (a0 : Int32) (a1 : Int32) (a2 : Int32) (a3 : Int32) (a4 : Int32) (a5 : Int32) (σ : rp_Mm) : rp_Le (thI (CL sc 25 [.ref 3, .int a0] σ) fun r2 σ1 => if (r2 = 0 : Prop) then RI (-1) σ1 else thI (CL sc 26 [.int a2] σ1) fun r4 σ3 => if (r4 = 0 : Prop) then RI (-1) σ3 else thI (CL sc 15 [.int a3, .int 1, .int 900] σ3) fun r6 σ5 => if (r6 = 0 : Prop) then RI (-1) σ5 else thI (CL sc 27 [.int a5] σ5) fun r8 σ7 => if (r8 = 0 : Prop) then RI (-1) σ7 else thI (CL sc 4 [.ref 5] σ7) fun r10 σ9 => if (r10 = 0 : Prop) then thI (CL sc 3 [.ref 5] σ9) fun r12 σ11 => thV (CL sc 5 [.ref 5, .int r12, .int 0, .int a0] σ11) fun σ13 => if (a1 = 0 : Prop) then EV sc (24, 0, 0, 112, [.ref 1, .int a0, .int a1, .int a2, .int a3, .int a4, .int a5, .int r12], [.int 1, .int a0, .ref 3, .int 1, .int r12, .ref 5], (rp_L0, σ13)) else EV sc (24, 0, 0, 112, [.ref 1, .int a0, .int a1, .int a2, .int a3, .int a4, .int a5, .int r12], [.int 0, .int a0, .ref 3, .int 1, .int r12, .ref 5], (rp_L0, σ13)) else RI (-2) σ9) (EV sc (24, 0, 0, 0, [.ref 1, .int a0, .int a1, .int a2, .int a3, .int a4, .int a5, rp_U], [], (rp_L0, σ))) := by
  refine rp_lp (q := 1) rfl rfl rfl ?_
  refine rp_lgf rfl rfl rfl ?_
  refine rp_lgf rfl rfl rfl ?_
  refine rp_lp (q := 8) rfl rfl rfl ?_
  refine rp_lci (uc' := 0) (us' := 0) rfl (rp_rcv rfl) rfl rfl rfl rfl rfl rfl (fun r2 σ1 => ?_)
  refine rp_lbr (a := 41) (b := 14) rfl rfl rfl ?_ ?_
  ·
    refine rp_lp (q := 42) rfl rfl rfl ?_
    exact rp_lri rfl rfl
  ·
    refine rp_lp (q := 15) rfl rfl rfl ?_
    refine rp_lci (uc' := 0) (us' := 0) rfl rfl rfl rfl rfl rfl rfl rfl (fun r4 σ3 => ?_)
    refine rp_lbr (a := 41) (b := 21) rfl rfl rfl ?_ ?_
    ·
      refine rp_lp (q := 42) rfl rfl rfl ?_
      exact rp_lri rfl rfl
    ·
      refine rp_lp (q := 23) rfl rfl rfl ?_
      refine rp_lp (q := 24) rfl rfl rfl ?_
      refine rp_lp (q := 27) rfl rfl rfl ?_
      refine rp_lci (uc' := 0) (us' := 0) rfl rfl rfl rfl rfl rfl rfl rfl (fun r6 σ5 => ?_)
      refine rp_lbr (a := 41) (b := 33) rfl rfl rfl ?_ ?_
      ·
        refine rp_lp (q := 42) rfl rfl rfl ?_
        exact rp_lri rfl rfl
      ·
        refine rp_lp (q := 35) rfl rfl rfl ?_
        refine rp_lci (uc' := 0) (us' := 0) rfl rfl rfl rfl rfl rfl rfl rfl (fun r8 σ7 => ?_)
        refine rp_lbr (a := 41) (b := 43) rfl rfl rfl ?_ ?_
        ·
          refine rp_lp (q := 42) rfl rfl rfl ?_
          exact rp_lri rfl rfl
        ·
          refine rp_lp (q := 44) rfl rfl rfl ?_
          refine rp_lgf rfl rfl rfl ?_
          refine rp_lgf rfl rfl rfl ?_
          refine rp_lci (uc' := 0) (us' := 0) rfl (rp_rcv rfl) rfl rfl rfl rfl rfl rfl (fun r10 σ9 => ?_)
          refine rp_lbr (a := 59) (b := 56) rfl rfl rfl ?_ ?_
          ·
            refine rp_lp (q := 60) rfl rfl rfl ?_
            refine rp_lgf rfl rfl rfl ?_
            refine rp_lgf rfl rfl rfl ?_
            refine rp_lci (uc' := 0) (us' := 0) rfl (rp_rcv rfl) rfl rfl rfl rfl rfl rfl (fun r12 σ11 => ?_)
            refine rp_lp (q := 71) (ls' := [.ref 1, .int a0, .int a1, .int a2, .int a3, .int a4, .int a5, .int r12]) rfl rfl rfl ?_
            refine rp_lp (q := 72) rfl rfl rfl ?_
            refine rp_lgf rfl rfl rfl ?_
            refine rp_lgf rfl rfl rfl ?_
            refine rp_lp (q := 80) rfl rfl rfl ?_
            refine rp_lp (q := 81) rfl rfl rfl ?_
            refine rp_lp (q := 82) rfl rfl rfl ?_
            refine rp_lcv (uc' := 0) (us' := 0) rfl (rp_rcv rfl) rfl rfl rfl rfl rfl rfl (fun σ13 => ?_)
            refine rp_lp (q := 86) rfl rfl rfl ?_
            refine rp_lgf rfl rfl rfl ?_
            refine rp_lgf rfl rfl rfl ?_
            refine rp_lp (q := 94) rfl rfl rfl ?_
            refine rp_lp (q := 95) rfl rfl rfl ?_
            refine rp_lp (q := 96) rfl rfl rfl ?_
            refine rp_lgf rfl rfl rfl ?_
            refine rp_lgf rfl rfl rfl ?_
            refine rp_lp (q := 103) rfl rfl rfl ?_
            refine rp_lp (q := 104) rfl rfl rfl ?_
            refine rp_lbr (a := 111) (b := 107) rfl rfl rfl ?_ ?_
            ·
              refine rp_lp (q := 112) rfl rfl rfl ?_
              exact rp_Le_rfl
            ·
              refine rp_lp (q := 108) rfl rfl rfl ?_
              refine rp_lp (q := 112) rfl rfl rfl ?_
              exact rp_Le_rfl
          ·
            refine rp_lp (q := 58) rfl rfl rfl ?_
            exact rp_lri rfl rfl
set_option maxRecDepth 20000 in
theorem D_RailPasses_train_112 {sc : rp_Sc} (x1 : Int32) (x2 : Int32) (x3 : Int32) (x4 : Int32) (x5 : Int32) (x6 : Int32) (x7 : Int32) (y0 : Int32) (y1 : Int32) (y3 : Int32) (y4 : Int32) (σ : rp_Mm) : rp_Le (thI (CL sc 20 [.ref 3, .int y1, .int y0] σ) fun r2 σ1 => thV (CL sc 5 [.ref 5, .int y4, .int y3, .int r2] σ1) fun σ3 => if (x2 = 0 : Prop) then EV sc (24, 0, 0, 145, [.ref 1, .int x1, .int x2, .int x3, .int x4, .int x5, .int x6, .int x7], [.int 0, .int x1, .ref 3, .int 2, .int x7, .ref 5], (rp_L0, σ3)) else EV sc (24, 0, 0, 145, [.ref 1, .int x1, .int x2, .int x3, .int x4, .int x5, .int x6, .int x7], [.int 1, .int x1, .ref 3, .int 2, .int x7, .ref 5], (rp_L0, σ3))) (EV sc (24, 0, 0, 112, [.ref 1, .int x1, .int x2, .int x3, .int x4, .int x5, .int x6, .int x7], [.int y0, .int y1, .ref 3, .int y3, .int y4, .ref 5], (rp_L0, σ))) := by
  refine rp_lci (uc' := 0) (us' := 0) rfl (rp_rcv rfl) rfl rfl rfl rfl rfl rfl (fun r2 σ1 => ?_)
  refine rp_lcv (uc' := 0) (us' := 0) rfl (rp_rcv rfl) rfl rfl rfl rfl rfl rfl (fun σ3 => ?_)
  refine rp_lp (q := 119) rfl rfl rfl ?_
  refine rp_lgf rfl rfl rfl ?_
  refine rp_lgf rfl rfl rfl ?_
  refine rp_lp (q := 127) rfl rfl rfl ?_
  refine rp_lp (q := 128) rfl rfl rfl ?_
  refine rp_lp (q := 129) rfl rfl rfl ?_
  refine rp_lgf rfl rfl rfl ?_
  refine rp_lgf rfl rfl rfl ?_
  refine rp_lp (q := 136) rfl rfl rfl ?_
  refine rp_lp (q := 137) rfl rfl rfl ?_
  refine rp_lbr (a := 144) (b := 140) rfl rfl rfl ?_ ?_
  ·
    refine rp_lp (q := 145) rfl rfl rfl ?_
    exact rp_Le_rfl
  ·
    refine rp_lp (q := 141) rfl rfl rfl ?_
    refine rp_lp (q := 145) rfl rfl rfl ?_
    exact rp_Le_rfl
set_option maxRecDepth 20000 in
theorem D_RailPasses_train_145 {sc : rp_Sc} (x1 : Int32) (x2 : Int32) (x3 : Int32) (x4 : Int32) (x5 : Int32) (x6 : Int32) (x7 : Int32) (y0 : Int32) (y1 : Int32) (y3 : Int32) (y4 : Int32) (σ : rp_Mm) : rp_Le (thI (CL sc 20 [.ref 3, .int y1, .int y0] σ) fun r2 σ1 => thV (CL sc 5 [.ref 5, .int y4, .int y3, .int r2] σ1) fun σ3 => thV (CL sc 5 [.ref 5, .int x7, .int 3, .int x3] σ3) fun σ4 => thV (CL sc 5 [.ref 5, .int x7, .int 4, .int x4] σ4) fun σ5 => thI (CL sc 17 [.int x5] σ5) fun r7 σ6 => thV (CL sc 5 [.ref 5, .int x7, .int 5, .int r7] σ6) fun σ8 => thV (CL sc 5 [.ref 5, .int x7, .int 6, .int (x6 - x6 / (1000 : Int32) * (1000 : Int32))] σ8) fun σ9 => thV (CL sc 5 [.ref 5, .int x7, .int 7, .int (x6 / (1000 : Int32))] σ9) fun σ10 => if ((x3 + x4) < 1440 : Prop) then EV sc (24, 0, 0, 264, [.ref 1, .int x1, .int x2, .int x3, .int x4, .int x5, .int x6, .int x7], [.int 0, .int 8, .int x7, .ref 5], (rp_L0, σ10)) else EV sc (24, 0, 0, 264, [.ref 1, .int x1, .int x2, .int x3, .int x4, .int x5, .int x6, .int x7], [.int 1, .int 8, .int x7, .ref 5], (rp_L0, σ10))) (EV sc (24, 0, 0, 145, [.ref 1, .int x1, .int x2, .int x3, .int x4, .int x5, .int x6, .int x7], [.int y0, .int y1, .ref 3, .int y3, .int y4, .ref 5], (rp_L0, σ))) := by
  refine rp_lci (uc' := 0) (us' := 0) rfl (rp_rcv rfl) rfl rfl rfl rfl rfl rfl (fun r2 σ1 => ?_)
  refine rp_lcv (uc' := 0) (us' := 0) rfl (rp_rcv rfl) rfl rfl rfl rfl rfl rfl (fun σ3 => ?_)
  refine rp_lp (q := 152) rfl rfl rfl ?_
  refine rp_lgf rfl rfl rfl ?_
  refine rp_lgf rfl rfl rfl ?_
  refine rp_lp (q := 160) rfl rfl rfl ?_
  refine rp_lp (q := 161) rfl rfl rfl ?_
  refine rp_lp (q := 162) rfl rfl rfl ?_
  refine rp_lcv (uc' := 0) (us' := 0) rfl (rp_rcv rfl) rfl rfl rfl rfl rfl rfl (fun σ4 => ?_)
  refine rp_lp (q := 166) rfl rfl rfl ?_
  refine rp_lgf rfl rfl rfl ?_
  refine rp_lgf rfl rfl rfl ?_
  refine rp_lp (q := 174) rfl rfl rfl ?_
  refine rp_lp (q := 175) rfl rfl rfl ?_
  refine rp_lp (q := 177) rfl rfl rfl ?_
  refine rp_lcv (uc' := 0) (us' := 0) rfl (rp_rcv rfl) rfl rfl rfl rfl rfl rfl (fun σ5 => ?_)
  refine rp_lp (q := 181) rfl rfl rfl ?_
  refine rp_lgf rfl rfl rfl ?_
  refine rp_lgf rfl rfl rfl ?_
  refine rp_lp (q := 189) rfl rfl rfl ?_
  refine rp_lp (q := 190) rfl rfl rfl ?_
  refine rp_lp (q := 192) rfl rfl rfl ?_
  refine rp_lci (uc' := 0) (us' := 0) rfl rfl rfl rfl rfl rfl rfl rfl (fun r7 σ6 => ?_)
  refine rp_lcv (uc' := 0) (us' := 0) rfl (rp_rcv rfl) rfl rfl rfl rfl rfl rfl (fun σ8 => ?_)
  refine rp_lp (q := 199) rfl rfl rfl ?_
  refine rp_lgf rfl rfl rfl ?_
  refine rp_lgf rfl rfl rfl ?_
  refine rp_lp (q := 207) rfl rfl rfl ?_
  refine rp_lp (q := 209) rfl rfl rfl ?_
  refine rp_lp (q := 211) rfl rfl rfl ?_
  refine rp_lp (q := 214) rfl rfl rfl ?_
  refine rp_lrm rfl (by decide) ?_
  refine rp_lcv (uc' := 0) (us' := 0) rfl (rp_rcv rfl) rfl rfl rfl rfl rfl rfl (fun σ9 => ?_)
  refine rp_lp (q := 219) rfl rfl rfl ?_
  refine rp_lgf rfl rfl rfl ?_
  refine rp_lgf rfl rfl rfl ?_
  refine rp_lp (q := 227) rfl rfl rfl ?_
  refine rp_lp (q := 229) rfl rfl rfl ?_
  refine rp_lp (q := 231) rfl rfl rfl ?_
  refine rp_lp (q := 234) rfl rfl rfl ?_
  refine rp_ldv rfl (by decide) ?_
  refine rp_lcv (uc' := 0) (us' := 0) rfl (rp_rcv rfl) rfl rfl rfl rfl rfl rfl (fun σ10 => ?_)
  refine rp_lp (q := 239) rfl rfl rfl ?_
  refine rp_lgf rfl rfl rfl ?_
  refine rp_lgf rfl rfl rfl ?_
  refine rp_lp (q := 247) rfl rfl rfl ?_
  refine rp_lp (q := 249) rfl rfl rfl ?_
  refine rp_lp (q := 250) rfl rfl rfl ?_
  refine rp_lp (q := 252) rfl rfl rfl ?_
  refine rp_lp (q := 253) rfl rfl rfl ?_
  refine rp_lp (q := 256) rfl rfl rfl ?_
  refine rp_lbr (a := 263) (b := 259) rfl rfl rfl ?_ ?_
  ·
    refine rp_lp (q := 264) rfl rfl rfl ?_
    exact rp_Le_rfl
  ·
    refine rp_lp (q := 260) rfl rfl rfl ?_
    refine rp_lp (q := 264) rfl rfl rfl ?_
    exact rp_Le_rfl
set_option maxRecDepth 20000 in
theorem D_RailPasses_train_264 {sc : rp_Sc} (x1 : Int32) (x2 : Int32) (x3 : Int32) (x4 : Int32) (x5 : Int32) (x6 : Int32) (x7 : Int32) (y0 : Int32) (y1 : Int32) (y2 : Int32) (σ : rp_Mm) : rp_Le (thI (CL sc 17 [.int y0] σ) fun r2 σ1 => thV (CL sc 5 [.ref 5, .int y2, .int y1, .int r2] σ1) fun σ3 => RI x7 σ3) (EV sc (24, 0, 0, 264, [.ref 1, .int x1, .int x2, .int x3, .int x4, .int x5, .int x6, .int x7], [.int y0, .int y1, .int y2, .ref 5], (rp_L0, σ))) := by
  refine rp_lci (uc' := 0) (us' := 0) rfl rfl rfl rfl rfl rfl rfl rfl (fun r2 σ1 => ?_)
  refine rp_lcv (uc' := 0) (us' := 0) rfl (rp_rcv rfl) rfl rfl rfl rfl rfl rfl (fun σ3 => ?_)
  refine rp_lp (q := 272) rfl rfl rfl ?_
  exact rp_lri rfl rfl
-- Table_has
set_option maxRecDepth 20000 in
theorem D_Table_has_0 {sc : rp_Sc} {t tc tq : Nat} {tl tw : Int32} (ht : rp_L0[t]? = some (.inr (5, [some (.ref (tc + 1)), some (.int tl), some (.int tw), none]))) (htc : rp_L0[tc + 1]? = some (.inl (false, tq))) (a0 : Int32) (σ : rp_Mm) : rp_Le (if (a0 < 0 : Prop) then RI 0 σ else if ((σ t 3) ≤ a0 : Prop) then RI 0 σ else RI 1 σ) (EV sc (25, 0, 0, 0, [.ref t, .int a0], [], (rp_L0, σ))) := by
  refine rp_lp (q := 1) rfl rfl rfl ?_
  refine rp_lbr (a := 16) (b := 4) rfl rfl rfl ?_ ?_
  ·
    refine rp_lp (q := 17) rfl rfl rfl ?_
    exact rp_lrz rfl rfl (by decide)
  ·
    refine rp_lp (q := 5) rfl rfl rfl ?_
    refine rp_lp (q := 6) rfl rfl rfl ?_
    refine rp_lgm rfl ht rfl ?_
    refine rp_lbr (a := 16) (b := 12) rfl rfl rfl ?_ ?_
    ·
      refine rp_lp (q := 17) rfl rfl rfl ?_
      exact rp_lrz rfl rfl (by decide)
    ·
      refine rp_lp (q := 13) rfl rfl rfl ?_
      refine rp_lp (q := 17) rfl rfl rfl ?_
      exact rp_lrz rfl rfl (by decide)
-- RailPasses_isMinute
set_option maxRecDepth 20000 in
theorem D_RailPasses_isMinute_0 {sc : rp_Sc} (a0 : Int32) (σ : rp_Mm) : rp_Le (thI (CL sc 15 [.int a0, .int 0, .int 1439] σ) fun r2 σ1 => if r2 &&& 1 = r2 then RI r2 σ1 else none) (EV sc (26, 0, 0, 0, [.int a0], [], (rp_L0, σ))) := by
  refine rp_lp (q := 1) rfl rfl rfl ?_
  refine rp_lp (q := 2) rfl rfl rfl ?_
  refine rp_lp (q := 5) rfl rfl rfl ?_
  refine rp_lci (uc' := 0) (us' := 0) rfl rfl rfl rfl rfl rfl rfl rfl (fun r2 σ1 => ?_)
  exact rp_lrq rfl rfl
-- RailPasses_isFareWithQuota
set_option maxRecDepth 20000 in
theorem D_RailPasses_isFareWithQuota_0 {sc : rp_Sc} (a0 : Int32) (σ : rp_Mm) : rp_Le (thI (CL sc 15 [.int a0, .int 0, .int 9500] σ) fun r2 σ1 => if (r2 = 0 : Prop) then RI 0 σ1 else if (500 < (a0 - a0 / (1000 : Int32) * (1000 : Int32)) : Prop) then RI 0 σ1 else RI 1 σ1) (EV sc (27, 0, 0, 0, [.int a0], [], (rp_L0, σ))) := by
  refine rp_lp (q := 1) rfl rfl rfl ?_
  refine rp_lp (q := 2) rfl rfl rfl ?_
  refine rp_lp (q := 5) rfl rfl rfl ?_
  refine rp_lci (uc' := 0) (us' := 0) rfl rfl rfl rfl rfl rfl rfl rfl (fun r2 σ1 => ?_)
  refine rp_lbr (a := 26) (b := 11) rfl rfl rfl ?_ ?_
  ·
    refine rp_lp (q := 27) rfl rfl rfl ?_
    exact rp_lrz rfl rfl (by decide)
  ·
    refine rp_lp (q := 12) rfl rfl rfl ?_
    refine rp_lp (q := 15) rfl rfl rfl ?_
    refine rp_lrm rfl (by decide) ?_
    refine rp_lp (q := 19) rfl rfl rfl ?_
    refine rp_lbr (a := 26) (b := 22) rfl rfl rfl ?_ ?_
    ·
      refine rp_lp (q := 27) rfl rfl rfl ?_
      exact rp_lrz rfl rfl (by decide)
    ·
      refine rp_lp (q := 23) rfl rfl rfl ?_
      refine rp_lp (q := 27) rfl rfl rfl ?_
      exact rp_lrz rfl rfl (by decide)
-- RailPasses_of
set_option maxRecDepth 20000 in
theorem D_RailPasses_of_0 {sc : rp_Sc} (a0 : Int32) (a1 : Int32) (σ : rp_Mm) : rp_Le (thI (CL sc 25 [.ref 5, .int a0] σ) fun r2 σ1 => if (r2 = 0 : Prop) then RI (-1) σ1 else thI (CL sc 15 [.int a1, .int 0, .int 8] σ1) fun r4 σ3 => if (r4 = 0 : Prop) then RI (-1) σ3 else thI (CL sc 20 [.ref 5, .int a0, .int a1] σ3) fun r6 σ5 => RI r6 σ5) (EV sc (28, 0, 0, 0, [.ref 1, .int a0, .int a1], [], (rp_L0, σ))) := by
  refine rp_lp (q := 1) rfl rfl rfl ?_
  refine rp_lgf rfl rfl rfl ?_
  refine rp_lgf rfl rfl rfl ?_
  refine rp_lp (q := 8) rfl rfl rfl ?_
  refine rp_lci (uc' := 0) (us' := 0) rfl (rp_rcv rfl) rfl rfl rfl rfl rfl rfl (fun r2 σ1 => ?_)
  refine rp_lbr (a := 24) (b := 14) rfl rfl rfl ?_ ?_
  ·
    refine rp_lp (q := 25) rfl rfl rfl ?_
    exact rp_lri rfl rfl
  ·
    refine rp_lp (q := 15) rfl rfl rfl ?_
    refine rp_lp (q := 16) rfl rfl rfl ?_
    refine rp_lp (q := 18) rfl rfl rfl ?_
    refine rp_lci (uc' := 0) (us' := 0) rfl rfl rfl rfl rfl rfl rfl rfl (fun r4 σ3 => ?_)
    refine rp_lbr (a := 24) (b := 26) rfl rfl rfl ?_ ?_
    ·
      refine rp_lp (q := 25) rfl rfl rfl ?_
      exact rp_lri rfl rfl
    ·
      refine rp_lp (q := 27) rfl rfl rfl ?_
      refine rp_lgf rfl rfl rfl ?_
      refine rp_lgf rfl rfl rfl ?_
      refine rp_lp (q := 34) rfl rfl rfl ?_
      refine rp_lp (q := 35) rfl rfl rfl ?_
      refine rp_lci (uc' := 0) (us' := 0) rfl (rp_rcv rfl) rfl rfl rfl rfl rfl rfl (fun r6 σ5 => ?_)
      exact rp_lri rfl rfl
-- RailPasses_days
set_option maxRecDepth 20000 in
theorem D_RailPasses_days_0 {sc : rp_Sc} (a0 : Int32) (σ : rp_Mm) : rp_Le (thI (CL sc 15 [.int a0, .int 1, .int 20] σ) fun r2 σ1 => if (r2 = 0 : Prop) then RI (-1) σ1 else if (((σ1 2 7) + a0) ≤ 120 : Prop) then RI ((rp_wr σ1 2 7 ((σ1 2 7) + a0)) 2 7) (rp_wr σ1 2 7 ((σ1 2 7) + a0)) else RI (-4) σ1) (EV sc (29, 0, 0, 0, [.ref 1, .int a0], [], (rp_L0, σ))) := by
  refine rp_lp (q := 1) rfl rfl rfl ?_
  refine rp_lp (q := 2) rfl rfl rfl ?_
  refine rp_lp (q := 4) rfl rfl rfl ?_
  refine rp_lci (uc' := 0) (us' := 0) rfl rfl rfl rfl rfl rfl rfl rfl (fun r2 σ1 => ?_)
  refine rp_lbr (a := 10) (b := 12) rfl rfl rfl ?_ ?_
  ·
    refine rp_lp (q := 11) rfl rfl rfl ?_
    exact rp_lri rfl rfl
  ·
    refine rp_lp (q := 13) rfl rfl rfl ?_
    refine rp_lgf rfl rfl rfl ?_
    refine rp_lgm rfl rfl rfl ?_
    refine rp_lp (q := 20) rfl rfl rfl ?_
    refine rp_lp (q := 21) rfl rfl rfl ?_
    refine rp_lp (q := 23) rfl rfl rfl ?_
    refine rp_lbr (a := 29) (b := 26) rfl rfl rfl ?_ ?_
    ·
      refine rp_lp (q := 30) rfl rfl rfl ?_
      refine rp_lgf rfl rfl rfl ?_
      refine rp_lp (q := 34) rfl rfl rfl ?_
      refine rp_lgm rfl rfl rfl ?_
      refine rp_lp (q := 38) rfl rfl rfl ?_
      refine rp_lp (q := 39) rfl rfl rfl ?_
      refine rp_lpm rfl rfl rfl rfl ?_
      refine rp_lp (q := 43) rfl rfl rfl ?_
      refine rp_lgf rfl rfl rfl ?_
      refine rp_lgm rfl rfl rfl ?_
      exact rp_lri rfl rfl
    ·
      refine rp_lp (q := 28) rfl rfl rfl ?_
      exact rp_lri rfl rfl
-- RailPasses_feed
set_option maxRecDepth 20000 in
theorem D_RailPasses_feed_0 {sc : rp_Sc} (a0 : Int64) (a1 : Int32) (σ : rp_Mm) : rp_Le (thI (CL sc 15 [.int a1, .int 1, .int 8] σ) fun r2 σ1 => if (r2 = 0 : Prop) then RI (-1) σ1 else thI (CL sc 31 [.ref 32] σ1) fun r4 σ3 => if ((r4 + a1) ≤ 300 : Prop) then thV (CL sc 32 [.ref 32, .long a0, .int a1] σ3) fun σ5 => thI (CL sc 31 [.ref 32] σ5) fun r7 σ6 => RI r7 σ6 else RI (-2) σ3) (EV sc (30, 0, 0, 0, [.ref 1, .long a0, rp_U, .int a1], [], (rp_L0, σ))) := by
  refine rp_lp (q := 1) rfl rfl rfl ?_
  refine rp_lp (q := 2) rfl rfl rfl ?_
  refine rp_lp (q := 4) rfl rfl rfl ?_
  refine rp_lci (uc' := 0) (us' := 0) rfl rfl rfl rfl rfl rfl rfl rfl (fun r2 σ1 => ?_)
  refine rp_lbr (a := 10) (b := 12) rfl rfl rfl ?_ ?_
  ·
    refine rp_lp (q := 11) rfl rfl rfl ?_
    exact rp_lri rfl rfl
  ·
    refine rp_lp (q := 13) rfl rfl rfl ?_
    refine rp_lgf rfl rfl rfl ?_
    refine rp_lci (uc' := 0) (us' := 0) rfl (rp_rcv rfl) rfl rfl rfl rfl rfl rfl (fun r4 σ3 => ?_)
    refine rp_lp (q := 20) rfl rfl rfl ?_
    refine rp_lp (q := 21) rfl rfl rfl ?_
    refine rp_lp (q := 24) rfl rfl rfl ?_
    refine rp_lbr (a := 30) (b := 27) rfl rfl rfl ?_ ?_
    ·
      refine rp_lp (q := 31) rfl rfl rfl ?_
      refine rp_lgf rfl rfl rfl ?_
      refine rp_lp (q := 35) rfl rfl rfl ?_
      refine rp_lp (q := 36) rfl rfl rfl ?_
      refine rp_lcv (uc' := 0) (us' := 0) rfl (rp_rcv rfl) rfl rfl rfl rfl rfl rfl (fun σ5 => ?_)
      refine rp_lp (q := 40) rfl rfl rfl ?_
      refine rp_lgf rfl rfl rfl ?_
      refine rp_lci (uc' := 0) (us' := 0) rfl (rp_rcv rfl) rfl rfl rfl rfl rfl rfl (fun r7 σ6 => ?_)
      exact rp_lri rfl rfl
    ·
      refine rp_lp (q := 29) rfl rfl rfl ?_
      exact rp_lri rfl rfl
-- LawText_size
set_option maxRecDepth 20000 in
theorem D_LawText_size_0 {sc : rp_Sc} (σ : rp_Mm) : rp_Le (RI (σ 32 1) σ) (EV sc (31, 0, 0, 0, [.ref 32], [], (rp_L0, σ))) := by
  refine rp_lp (q := 1) rfl rfl rfl ?_
  refine rp_lgm rfl rfl rfl ?_
  exact rp_lri rfl rfl
-- LawText_put
set_option maxRecDepth 20000 in
theorem D_LawText_put_0 {sc : rp_Sc} (a0 : Int64) (a1 : Int32) (σ : rp_Mm) : rp_Le (EV sc (32, 0, 0, 3, [.ref 32, .long a0, rp_U, .int a1, .int 0], [], (rp_L0, σ))) (EV sc (32, 0, 0, 0, [.ref 32, .long a0, rp_U, .int a1, rp_U], [], (rp_L0, σ))) := by
  refine rp_lp (q := 1) rfl rfl rfl ?_
  refine rp_lp (q := 3) (ls' := [.ref 32, .long a0, rp_U, .int a1, .int 0]) rfl rfl rfl ?_
  exact rp_Le_rfl
set_option maxRecDepth 20000 in
theorem D_LawText_put_3 {sc : rp_Sc} (x1 : Int64) (x3 : Int32) (x4 : Int32) (σ : rp_Mm) : rp_Le (if (x3 ≤ x4 : Prop) then RV σ else if (300 ≤ (σ 32 1) : Prop) then RV σ else bif rp_ix (σ 32 1) 300 then EV sc (32, 0, 0, 3, [.ref 32, .long x1, rp_U, .int x3, .int (x4 + 1)], [], (rp_L0, rp_wr (rp_wr σ 33 (σ 32 1).toNatClampNeg ((((x1.toUInt64 >>> (((8 : Int32) * x4).toInt64.toUInt64 &&& Int64.toUInt64 63)).toInt64) &&& 255).toInt32)) 32 1 (((rp_wr σ 33 (σ 32 1).toNatClampNeg ((((x1.toUInt64 >>> (((8 : Int32) * x4).toInt64.toUInt64 &&& Int64.toUInt64 63)).toInt64) &&& 255).toInt32)) 32 1) + (1 : Int32)))) else none) (EV sc (32, 0, 0, 3, [.ref 32, .long x1, rp_U, .int x3, .int x4], [], (rp_L0, σ))) := by
  refine rp_lp (q := 5) rfl rfl rfl ?_
  refine rp_lp (q := 6) rfl rfl rfl ?_
  refine rp_lbr (a := 58) (b := 9) rfl rfl rfl ?_ ?_
  ·
    exact rp_lrv rfl rfl
  ·
    refine rp_lp (q := 10) rfl rfl rfl ?_
    refine rp_lgm rfl rfl rfl ?_
    refine rp_lp (q := 14) rfl rfl rfl ?_
    refine rp_lgf rfl rfl rfl ?_
    refine rp_lal rfl rfl ?_
    refine rp_lbr (a := 58) (b := 21) rfl rfl rfl ?_ ?_
    ·
      exact rp_lrv rfl rfl
    ·
      refine rp_lp (q := 22) rfl rfl rfl ?_
      refine rp_lgf rfl rfl rfl ?_
      refine rp_lp (q := 26) rfl rfl rfl ?_
      refine rp_lgm rfl rfl rfl ?_
      refine rp_lp (q := 30) rfl rfl rfl ?_
      refine rp_lp (q := 32) rfl rfl rfl ?_
      refine rp_lp (q := 34) rfl rfl rfl ?_
      refine rp_lp (q := 35) rfl rfl rfl ?_
      refine rp_lp (q := 36) rfl rfl rfl ?_
      refine rp_lp (q := 39) rfl rfl rfl ?_
      refine rp_lp (q := 40) rfl rfl rfl ?_
      refine rp_lp (q := 41) rfl rfl rfl ?_
      refine rp_lis rfl rfl ?_
      refine rp_lp (q := 43) rfl rfl rfl ?_
      refine rp_lp (q := 44) rfl rfl rfl ?_
      refine rp_lgm rfl rfl rfl ?_
      refine rp_lp (q := 48) rfl rfl rfl ?_
      refine rp_lp (q := 49) rfl rfl rfl ?_
      refine rp_lpm rfl rfl rfl rfl ?_
      refine rp_lp (q := 55) (ls' := [.ref 32, .long x1, rp_U, .int x3, .int (x4 + 1)]) rfl rfl rfl ?_
      refine rp_lp (q := 3) rfl rfl rfl ?_
      exact rp_Le_rfl
-- RailPasses_read
set_option maxRecDepth 20000 in
theorem D_RailPasses_read_0 {sc : rp_Sc} (a0 : Int32) (σ : rp_Mm) : rp_Le (thI (CL sc 34 [.ref 32] σ) fun r2 σ1 => thV (CL sc 54 [.ref 32] σ1) fun σ3 => thI (CL sc 55 [.int a0] σ3) fun r5 σ4 => if (r5 = 0 : Prop) then RI (-1) σ4 else if (r2 = (-1) : Prop) then EV sc (33, 0, 0, 36, [.ref 1, .int a0, .int r2, .int 0], [], (rp_L0, σ4)) else RI (((-100) : Int32) - r2) σ4) (EV sc (33, 0, 0, 0, [.ref 1, .int a0, rp_U, rp_U], [], (rp_L0, σ))) := by
  refine rp_lp (q := 1) rfl rfl rfl ?_
  refine rp_lgf rfl rfl rfl ?_
  refine rp_lci (uc' := 0) (us' := 0) rfl (rp_rcv rfl) rfl rfl rfl rfl rfl rfl (fun r2 σ1 => ?_)
  refine rp_lp (q := 8) (ls' := [.ref 1, .int a0, .int r2, rp_U]) rfl rfl rfl ?_
  refine rp_lp (q := 9) rfl rfl rfl ?_
  refine rp_lgf rfl rfl rfl ?_
  refine rp_lcv (uc' := 0) (us' := 0) rfl (rp_rcv rfl) rfl rfl rfl rfl rfl rfl (fun σ3 => ?_)
  refine rp_lp (q := 16) rfl rfl rfl ?_
  refine rp_lci (uc' := 0) (us' := 0) rfl rfl rfl rfl rfl rfl rfl rfl (fun r5 σ4 => ?_)
  refine rp_lbr (a := 22) (b := 24) rfl rfl rfl ?_ ?_
  ·
    refine rp_lp (q := 23) rfl rfl rfl ?_
    exact rp_lri rfl rfl
  ·
    refine rp_lp (q := 25) rfl rfl rfl ?_
    refine rp_lp (q := 26) rfl rfl rfl ?_
    refine rp_lbr (a := 34) (b := 29) rfl rfl rfl ?_ ?_
    ·
      refine rp_lp (q := 35) rfl rfl rfl ?_
      refine rp_lp (q := 36) (ls' := [.ref 1, .int a0, .int r2, .int 0]) rfl rfl rfl ?_
      exact rp_Le_rfl
    ·
      refine rp_lp (q := 31) rfl rfl rfl ?_
      refine rp_lp (q := 32) rfl rfl rfl ?_
      refine rp_lp (q := 33) rfl rfl rfl ?_
      exact rp_lri rfl rfl
set_option maxRecDepth 20000 in
theorem D_RailPasses_read_36 {sc : rp_Sc} (x1 : Int32) (x2 : Int32) (x3 : Int32) (σ : rp_Mm) : rp_Le (if (11 ≤ x3 : Prop) then thV (CL sc 5 [.ref 7, .int x1, .int 11, .int 1] σ) fun σ1 => thI (CL sc 56 [.ref 32] σ1) fun r3 σ2 => RI r3 σ2 else thI (CL sc 51 [.ref 32, .int x3] σ) fun r5 σ4 => thV (CL sc 5 [.ref 7, .int x1, .int x3, .int r5] σ4) fun σ6 => EV sc (33, 0, 0, 36, [.ref 1, .int x1, .int x2, .int (x3 + 1)], [], (rp_L0, σ6))) (EV sc (33, 0, 0, 36, [.ref 1, .int x1, .int x2, .int x3], [], (rp_L0, σ))) := by
  refine rp_lp (q := 37) rfl rfl rfl ?_
  refine rp_lp (q := 39) rfl rfl rfl ?_
  refine rp_lbr (a := 68) (b := 42) rfl rfl rfl ?_ ?_
  ·
    refine rp_lp (q := 69) rfl rfl rfl ?_
    refine rp_lgf rfl rfl rfl ?_
    refine rp_lgf rfl rfl rfl ?_
    refine rp_lp (q := 76) rfl rfl rfl ?_
    refine rp_lp (q := 78) rfl rfl rfl ?_
    refine rp_lp (q := 79) rfl rfl rfl ?_
    refine rp_lcv (uc' := 0) (us' := 0) rfl (rp_rcv rfl) rfl rfl rfl rfl rfl rfl (fun σ1 => ?_)
    refine rp_lp (q := 83) rfl rfl rfl ?_
    refine rp_lgf rfl rfl rfl ?_
    refine rp_lci (uc' := 0) (us' := 0) rfl (rp_rcv rfl) rfl rfl rfl rfl rfl rfl (fun r3 σ2 => ?_)
    exact rp_lri rfl rfl
  ·
    refine rp_lp (q := 43) rfl rfl rfl ?_
    refine rp_lgf rfl rfl rfl ?_
    refine rp_lgf rfl rfl rfl ?_
    refine rp_lp (q := 50) rfl rfl rfl ?_
    refine rp_lp (q := 51) rfl rfl rfl ?_
    refine rp_lp (q := 52) rfl rfl rfl ?_
    refine rp_lgf rfl rfl rfl ?_
    refine rp_lp (q := 56) rfl rfl rfl ?_
    refine rp_lci (uc' := 0) (us' := 0) rfl (rp_rcv rfl) rfl rfl rfl rfl rfl rfl (fun r5 σ4 => ?_)
    refine rp_lcv (uc' := 0) (us' := 0) rfl (rp_rcv rfl) rfl rfl rfl rfl rfl rfl (fun σ6 => ?_)
    refine rp_lp (q := 65) (ls' := [.ref 1, .int x1, .int x2, .int (x3 + 1)]) rfl rfl rfl ?_
    refine rp_lp (q := 36) rfl rfl rfl ?_
    exact rp_Le_rfl
-- LawText_firstFault
set_option maxRecDepth 20000 in
theorem D_LawText_firstFault_0 {sc : rp_Sc} (σ : rp_Mm) : rp_Le (thV (CL sc 35 [.ref 32] σ) fun σ1 => thV (CL sc 37 [.ref 32] σ1) fun σ2 => EV sc (34, 0, 0, 10, [.ref 32, .int 0], [], (rp_L0, σ2))) (EV sc (34, 0, 0, 0, [.ref 32, rp_U], [], (rp_L0, σ))) := by
  refine rp_lp (q := 1) rfl rfl rfl ?_
  refine rp_lcv (uc' := 0) (us' := 0) rfl (rp_rcv rfl) rfl rfl rfl rfl rfl rfl (fun σ1 => ?_)
  refine rp_lp (q := 5) rfl rfl rfl ?_
  refine rp_lcv (uc' := 0) (us' := 0) rfl (rp_rcv rfl) rfl rfl rfl rfl rfl rfl (fun σ2 => ?_)
  refine rp_lp (q := 9) rfl rfl rfl ?_
  refine rp_lp (q := 10) (ls' := [.ref 32, .int 0]) rfl rfl rfl ?_
  exact rp_Le_rfl
set_option maxRecDepth 20000 in
theorem D_LawText_firstFault_10 {sc : rp_Sc} (x1 : Int32) (σ : rp_Mm) : rp_Le (if (300 ≤ x1 : Prop) then EV sc (34, 0, 0, 56, [.ref 32, .int x1], [], (rp_L0, σ)) else if ((σ 32 1) ≤ (σ 32 2) : Prop) then EV sc (34, 0, 0, 56, [.ref 32, .int x1], [], (rp_L0, σ)) else thI (CL sc 40 [.ref 32] σ) fun r2 σ1 => if (r2 = 0 : Prop) then RI (σ1 32 2) σ1 else EV sc (34, 0, 0, 10, [.ref 32, .int (x1 + 1)], [], (rp_L0, rp_wr σ1 32 6 ((σ1 32 6) + (1 : Int32))))) (EV sc (34, 0, 0, 10, [.ref 32, .int x1], [], (rp_L0, σ))) := by
  refine rp_lp (q := 11) rfl rfl rfl ?_
  refine rp_lp (q := 14) rfl rfl rfl ?_
  refine rp_lbr (a := 56) (b := 17) rfl rfl rfl ?_ ?_
  ·
    exact rp_Le_rfl
  ·
    refine rp_lp (q := 18) rfl rfl rfl ?_
    refine rp_lgm rfl rfl rfl ?_
    refine rp_lp (q := 22) rfl rfl rfl ?_
    refine rp_lgm rfl rfl rfl ?_
    refine rp_lbr (a := 56) (b := 28) rfl rfl rfl ?_ ?_
    ·
      exact rp_Le_rfl
    ·
      refine rp_lp (q := 29) rfl rfl rfl ?_
      refine rp_lci (uc' := 0) (us' := 0) rfl (rp_rcv rfl) rfl rfl rfl rfl rfl rfl (fun r2 σ1 => ?_)
      refine rp_lbr (a := 35) (b := 40) rfl rfl rfl ?_ ?_
      ·
        refine rp_lp (q := 36) rfl rfl rfl ?_
        refine rp_lgm rfl rfl rfl ?_
        exact rp_lri rfl rfl
      ·
        refine rp_lp (q := 41) rfl rfl rfl ?_
        refine rp_lp (q := 42) rfl rfl rfl ?_
        refine rp_lgm rfl rfl rfl ?_
        refine rp_lp (q := 46) rfl rfl rfl ?_
        refine rp_lp (q := 47) rfl rfl rfl ?_
        refine rp_lpm rfl rfl rfl rfl ?_
        refine rp_lp (q := 53) (ls' := [.ref 32, .int (x1 + 1)]) rfl rfl rfl ?_
        refine rp_lp (q := 10) rfl rfl rfl ?_
        exact rp_Le_rfl
set_option maxRecDepth 20000 in
theorem D_LawText_firstFault_56 {sc : rp_Sc} (x1 : Int32) (σ : rp_Mm) : rp_Le (thI (CL sc 44 [.ref 32, .int 1] σ) fun r2 σ1 => if (r2 = 0 : Prop) then RI (σ1 32 1) σ1 else thI (CL sc 44 [.ref 32, .int 2] σ1) fun r4 σ3 => if (r4 = 0 : Prop) then RI (σ3 32 1) σ3 else thI (CL sc 44 [.ref 32, .int 3] σ3) fun r6 σ5 => if (r6 = 0 : Prop) then thV (CL sc 36 [.ref 32, .int 3, .int 31] σ5) fun σ7 => RI (-1) σ7 else RI (-1) σ5) (EV sc (34, 0, 0, 56, [.ref 32, .int x1], [], (rp_L0, σ))) := by
  refine rp_lp (q := 57) rfl rfl rfl ?_
  refine rp_lp (q := 58) rfl rfl rfl ?_
  refine rp_lci (uc' := 0) (us' := 0) rfl (rp_rcv rfl) rfl rfl rfl rfl rfl rfl (fun r2 σ1 => ?_)
  refine rp_lbr (a := 72) (b := 64) rfl rfl rfl ?_ ?_
  ·
    refine rp_lp (q := 73) rfl rfl rfl ?_
    refine rp_lgm rfl rfl rfl ?_
    exact rp_lri rfl rfl
  ·
    refine rp_lp (q := 65) rfl rfl rfl ?_
    refine rp_lp (q := 66) rfl rfl rfl ?_
    refine rp_lci (uc' := 0) (us' := 0) rfl (rp_rcv rfl) rfl rfl rfl rfl rfl rfl (fun r4 σ3 => ?_)
    refine rp_lbr (a := 72) (b := 77) rfl rfl rfl ?_ ?_
    ·
      refine rp_lp (q := 73) rfl rfl rfl ?_
      refine rp_lgm rfl rfl rfl ?_
      exact rp_lri rfl rfl
    ·
      refine rp_lp (q := 78) rfl rfl rfl ?_
      refine rp_lp (q := 79) rfl rfl rfl ?_
      refine rp_lci (uc' := 0) (us' := 0) rfl (rp_rcv rfl) rfl rfl rfl rfl rfl rfl (fun r6 σ5 => ?_)
      refine rp_lbr (a := 85) (b := 92) rfl rfl rfl ?_ ?_
      ·
        refine rp_lp (q := 86) rfl rfl rfl ?_
        refine rp_lp (q := 87) rfl rfl rfl ?_
        refine rp_lp (q := 89) rfl rfl rfl ?_
        refine rp_lcv (uc' := 0) (us' := 0) rfl (rp_rcv rfl) rfl rfl rfl rfl rfl rfl (fun σ7 => ?_)
        refine rp_lp (q := 93) rfl rfl rfl ?_
        exact rp_lri rfl rfl
      ·
        refine rp_lp (q := 93) rfl rfl rfl ?_
        exact rp_lri rfl rfl
-- LawText_startOver
set_option maxRecDepth 20000 in
theorem D_LawText_startOver_0 {sc : rp_Sc} (σ : rp_Mm) : rp_Le (EV sc (35, 0, 0, 17, [.ref 32, .int 0], [], (rp_L0, rp_wr (rp_wr (rp_wr σ 32 3 0) 32 6 0) 32 5 0))) (EV sc (35, 0, 0, 0, [.ref 32, rp_U], [], (rp_L0, σ))) := by
  refine rp_lp (q := 1) rfl rfl rfl ?_
  refine rp_lp (q := 2) rfl rfl rfl ?_
  refine rp_lpm rfl rfl rfl rfl ?_
  refine rp_lp (q := 6) rfl rfl rfl ?_
  refine rp_lp (q := 7) rfl rfl rfl ?_
  refine rp_lpm rfl rfl rfl rfl ?_
  refine rp_lp (q := 11) rfl rfl rfl ?_
  refine rp_lp (q := 12) rfl rfl rfl ?_
  refine rp_lpm rfl rfl rfl rfl ?_
  refine rp_lp (q := 16) rfl rfl rfl ?_
  refine rp_lp (q := 17) (ls' := [.ref 32, .int 0]) rfl rfl rfl ?_
  exact rp_Le_rfl
set_option maxRecDepth 20000 in
theorem D_LawText_startOver_17 {sc : rp_Sc} (x1 : Int32) (σ : rp_Mm) : rp_Le (if (11 ≤ x1 : Prop) then thV (CL sc 36 [.ref 32, .int 5, .int 24] σ) fun σ1 => thV (CL sc 36 [.ref 32, .int 8, .int 100] σ1) fun σ2 => RV σ2 else bif rp_ix x1 11 then EV sc (35, 0, 0, 17, [.ref 32, .int (x1 + 1)], [], (rp_L0, rp_wr σ 34 x1.toNatClampNeg 0)) else none) (EV sc (35, 0, 0, 17, [.ref 32, .int x1], [], (rp_L0, σ))) := by
  refine rp_lp (q := 18) rfl rfl rfl ?_
  refine rp_lp (q := 19) rfl rfl rfl ?_
  refine rp_lgf rfl rfl rfl ?_
  refine rp_lal rfl rfl ?_
  refine rp_lbr (a := 39) (b := 26) rfl rfl rfl ?_ ?_
  ·
    refine rp_lp (q := 40) rfl rfl rfl ?_
    refine rp_lp (q := 41) rfl rfl rfl ?_
    refine rp_lp (q := 43) rfl rfl rfl ?_
    refine rp_lcv (uc' := 0) (us' := 0) rfl (rp_rcv rfl) rfl rfl rfl rfl rfl rfl (fun σ1 => ?_)
    refine rp_lp (q := 47) rfl rfl rfl ?_
    refine rp_lp (q := 49) rfl rfl rfl ?_
    refine rp_lp (q := 51) rfl rfl rfl ?_
    refine rp_lcv (uc' := 0) (us' := 0) rfl (rp_rcv rfl) rfl rfl rfl rfl rfl rfl (fun σ2 => ?_)
    exact rp_lrv rfl rfl
  ·
    refine rp_lp (q := 27) rfl rfl rfl ?_
    refine rp_lgf rfl rfl rfl ?_
    refine rp_lp (q := 31) rfl rfl rfl ?_
    refine rp_lp (q := 32) rfl rfl rfl ?_
    refine rp_lis rfl rfl ?_
    refine rp_lp (q := 36) (ls' := [.ref 32, .int (x1 + 1)]) rfl rfl rfl ?_
    refine rp_lp (q := 17) rfl rfl rfl ?_
    exact rp_Le_rfl
-- LawText_setTerm
set_option maxRecDepth 20000 in
theorem D_LawText_setTerm_0 {sc : rp_Sc} (a0 : Int32) (a1 : Int32) (σ : rp_Mm) : rp_Le (if (a0 < 0 : Prop) then RV σ else if (11 ≤ a0 : Prop) then RV σ else bif rp_ix a0 11 then RV (rp_wr σ 34 a0.toNatClampNeg a1) else none) (EV sc (36, 0, 0, 0, [.ref 32, .int a0, .int a1], [], (rp_L0, σ))) := by
  refine rp_lp (q := 1) rfl rfl rfl ?_
  refine rp_lbr (a := 20) (b := 4) rfl rfl rfl ?_ ?_
  ·
    exact rp_lrv rfl rfl
  ·
    refine rp_lp (q := 5) rfl rfl rfl ?_
    refine rp_lp (q := 6) rfl rfl rfl ?_
    refine rp_lgf rfl rfl rfl ?_
    refine rp_lal rfl rfl ?_
    refine rp_lbr (a := 20) (b := 13) rfl rfl rfl ?_ ?_
    ·
      exact rp_lrv rfl rfl
    ·
      refine rp_lp (q := 14) rfl rfl rfl ?_
      refine rp_lgf rfl rfl rfl ?_
      refine rp_lp (q := 18) rfl rfl rfl ?_
      refine rp_lp (q := 19) rfl rfl rfl ?_
      refine rp_lis rfl rfl ?_
      exact rp_lrv rfl rfl
-- LawText_advance
set_option maxRecDepth 20000 in
theorem D_LawText_advance_0 {sc : rp_Sc} (σ : rp_Mm) : rp_Le (EV sc (37, 0, 0, 8, [.ref 32, rp_U], [], (rp_L0, rp_wr σ 32 2 (σ 32 3)))) (EV sc (37, 0, 0, 0, [.ref 32, rp_U], [], (rp_L0, σ))) := by
  refine rp_lp (q := 1) rfl rfl rfl ?_
  refine rp_lp (q := 2) rfl rfl rfl ?_
  refine rp_lgm rfl rfl rfl ?_
  refine rp_lpm rfl rfl rfl rfl ?_
  exact rp_Le_rfl
set_option maxRecDepth 20000 in
theorem D_LawText_advance_8 {sc : rp_Sc} (σ : rp_Mm) : rp_Le (if ((σ 32 1) ≤ (σ 32 2) : Prop) then EV sc (37, 0, 0, 45, [.ref 32, rp_U], [], (rp_L0, σ)) else thI (CL sc 38 [.ref 32, .int (σ 32 2)] σ) fun r2 σ1 => if (r2 = 32 : Prop) then EV sc (37, 0, 0, 8, [.ref 32, rp_U], [], (rp_L0, rp_wr σ1 32 2 ((σ1 32 2) + (1 : Int32)))) else EV sc (37, 0, 0, 45, [.ref 32, rp_U], [], (rp_L0, σ1))) (EV sc (37, 0, 0, 8, [.ref 32, rp_U], [], (rp_L0, σ))) := by
  refine rp_lp (q := 9) rfl rfl rfl ?_
  refine rp_lgm rfl rfl rfl ?_
  refine rp_lp (q := 13) rfl rfl rfl ?_
  refine rp_lgm rfl rfl rfl ?_
  refine rp_lbr (a := 45) (b := 19) rfl rfl rfl ?_ ?_
  ·
    exact rp_Le_rfl
  ·
    refine rp_lp (q := 20) rfl rfl rfl ?_
    refine rp_lp (q := 21) rfl rfl rfl ?_
    refine rp_lgm rfl rfl rfl ?_
    refine rp_lci (uc' := 0) (us' := 0) rfl (rp_rcv rfl) rfl rfl rfl rfl rfl rfl (fun r2 σ1 => ?_)
    refine rp_lp (q := 29) rfl rfl rfl ?_
    refine rp_lbr (a := 32) (b := 45) rfl rfl rfl ?_ ?_
    ·
      refine rp_lp (q := 33) rfl rfl rfl ?_
      refine rp_lp (q := 34) rfl rfl rfl ?_
      refine rp_lgm rfl rfl rfl ?_
      refine rp_lp (q := 38) rfl rfl rfl ?_
      refine rp_lp (q := 39) rfl rfl rfl ?_
      refine rp_lpm rfl rfl rfl rfl ?_
      refine rp_lp (q := 8) rfl rfl rfl ?_
      exact rp_Le_rfl
    ·
      exact rp_Le_rfl
set_option maxRecDepth 20000 in
theorem D_LawText_advance_45 {sc : rp_Sc} (σ : rp_Mm) : rp_Le (thI (CL sc 38 [.ref 32, .int ((rp_wr σ 32 3 (if (σ 32 1) < ((σ 32 2) + (1 : Int32)) then σ 32 1 else (σ 32 2) + (1 : Int32))) 32 2)] (rp_wr σ 32 3 (if (σ 32 1) < ((σ 32 2) + (1 : Int32)) then σ 32 1 else (σ 32 2) + (1 : Int32)))) fun r2 σ1 => thI (CL sc 39 [.int r2] σ1) fun r4 σ3 => EV sc (37, 0, 0, 74, [.ref 32, .int r4], [], (rp_L0, σ3))) (EV sc (37, 0, 0, 45, [.ref 32, rp_U], [], (rp_L0, σ))) := by
  refine rp_lp (q := 46) rfl rfl rfl ?_
  refine rp_lp (q := 47) rfl rfl rfl ?_
  refine rp_lgm rfl rfl rfl ?_
  refine rp_lp (q := 51) rfl rfl rfl ?_
  refine rp_lp (q := 52) rfl rfl rfl ?_
  refine rp_lp (q := 53) rfl rfl rfl ?_
  refine rp_lgm rfl rfl rfl ?_
  refine rp_lb (q := 59) rfl rfl rfl rfl rfl ?_
  refine rp_lpm rfl rfl rfl rfl ?_
  refine rp_lp (q := 63) rfl rfl rfl ?_
  refine rp_lp (q := 64) rfl rfl rfl ?_
  refine rp_lgm rfl rfl rfl ?_
  refine rp_lci (uc' := 0) (us' := 0) rfl (rp_rcv rfl) rfl rfl rfl rfl rfl rfl (fun r2 σ1 => ?_)
  refine rp_lci (uc' := 0) (us' := 0) rfl rfl rfl rfl rfl rfl rfl rfl (fun r4 σ3 => ?_)
  refine rp_lp (q := 74) (ls' := [.ref 32, .int r4]) rfl rfl rfl ?_
  exact rp_Le_rfl
set_option maxRecDepth 20000 in
theorem D_LawText_advance_74 {sc : rp_Sc} (x1 : Int32) (σ : rp_Mm) : rp_Le (if ((σ 32 1) ≤ (σ 32 3) : Prop) then RV σ else if (x1 = 0 : Prop) then RV σ else thI (CL sc 38 [.ref 32, .int (σ 32 3)] σ) fun r2 σ1 => thI (CL sc 39 [.int r2] σ1) fun r4 σ3 => if (r4 = x1 : Prop) then EV sc (37, 0, 0, 74, [.ref 32, .int x1], [], (rp_L0, rp_wr σ3 32 3 ((σ3 32 3) + (1 : Int32)))) else RV σ3) (EV sc (37, 0, 0, 74, [.ref 32, .int x1], [], (rp_L0, σ))) := by
  refine rp_lp (q := 75) rfl rfl rfl ?_
  refine rp_lgm rfl rfl rfl ?_
  refine rp_lp (q := 79) rfl rfl rfl ?_
  refine rp_lgm rfl rfl rfl ?_
  refine rp_lbr (a := 117) (b := 85) rfl rfl rfl ?_ ?_
  ·
    exact rp_lrv rfl rfl
  ·
    refine rp_lp (q := 86) rfl rfl rfl ?_
    refine rp_lbr (a := 117) (b := 89) rfl rfl rfl ?_ ?_
    ·
      exact rp_lrv rfl rfl
    ·
      refine rp_lp (q := 90) rfl rfl rfl ?_
      refine rp_lp (q := 91) rfl rfl rfl ?_
      refine rp_lgm rfl rfl rfl ?_
      refine rp_lci (uc' := 0) (us' := 0) rfl (rp_rcv rfl) rfl rfl rfl rfl rfl rfl (fun r2 σ1 => ?_)
      refine rp_lci (uc' := 0) (us' := 0) rfl rfl rfl rfl rfl rfl rfl rfl (fun r4 σ3 => ?_)
      refine rp_lp (q := 101) rfl rfl rfl ?_
      refine rp_lbr (a := 104) (b := 117) rfl rfl rfl ?_ ?_
      ·
        refine rp_lp (q := 105) rfl rfl rfl ?_
        refine rp_lp (q := 106) rfl rfl rfl ?_
        refine rp_lgm rfl rfl rfl ?_
        refine rp_lp (q := 110) rfl rfl rfl ?_
        refine rp_lp (q := 111) rfl rfl rfl ?_
        refine rp_lpm rfl rfl rfl rfl ?_
        refine rp_lp (q := 74) rfl rfl rfl ?_
        exact rp_Le_rfl
      ·
        exact rp_lrv rfl rfl
-- LawText_byteAt
set_option maxRecDepth 20000 in
theorem D_LawText_byteAt_0 {sc : rp_Sc} (a0 : Int32) (σ : rp_Mm) : rp_Le (if (a0 < 0 : Prop) then RI (-1) σ else if ((σ 32 1) ≤ a0 : Prop) then RI (-1) σ else if (300 ≤ a0 : Prop) then RI (-1) σ else bif rp_ix a0 300 then RI (σ 33 a0.toNatClampNeg) σ else none) (EV sc (38, 0, 0, 0, [.ref 32, .int a0], [], (rp_L0, σ))) := by
  refine rp_lp (q := 1) rfl rfl rfl ?_
  refine rp_lbr (a := 30) (b := 4) rfl rfl rfl ?_ ?_
  ·
    refine rp_lp (q := 31) rfl rfl rfl ?_
    exact rp_lri rfl rfl
  ·
    refine rp_lp (q := 5) rfl rfl rfl ?_
    refine rp_lp (q := 6) rfl rfl rfl ?_
    refine rp_lgm rfl rfl rfl ?_
    refine rp_lbr (a := 30) (b := 12) rfl rfl rfl ?_ ?_
    ·
      refine rp_lp (q := 31) rfl rfl rfl ?_
      exact rp_lri rfl rfl
    ·
      refine rp_lp (q := 13) rfl rfl rfl ?_
      refine rp_lp (q := 14) rfl rfl rfl ?_
      refine rp_lgf rfl rfl rfl ?_
      refine rp_lal rfl rfl ?_
      refine rp_lbr (a := 30) (b := 21) rfl rfl rfl ?_ ?_
      ·
        refine rp_lp (q := 31) rfl rfl rfl ?_
        exact rp_lri rfl rfl
      ·
        refine rp_lp (q := 22) rfl rfl rfl ?_
        refine rp_lgf rfl rfl rfl ?_
        refine rp_lp (q := 26) rfl rfl rfl ?_
        refine rp_lia rfl rfl ?_
        refine rp_lp (q := 31) rfl rfl rfl ?_
        exact rp_lri rfl rfl
-- LawText_sortOf
set_option maxRecDepth 20000 in
theorem D_LawText_sortOf_0 {sc : rp_Sc} (a0 : Int32) (σ : rp_Mm) : rp_Le (if (a0 < 97 : Prop) then if (a0 < 48 : Prop) then RI 0 σ else if (57 < a0 : Prop) then RI 0 σ else RI 2 σ else if (122 < a0 : Prop) then if (a0 < 48 : Prop) then RI 0 σ else if (57 < a0 : Prop) then RI 0 σ else RI 2 σ else RI 1 σ) (EV sc (39, 0, 0, 0, [.int a0], [], (rp_L0, σ))) := by
  refine rp_lp (q := 1) rfl rfl rfl ?_
  refine rp_lp (q := 3) rfl rfl rfl ?_
  refine rp_lbr (a := 14) (b := 6) rfl rfl rfl ?_ ?_
  ·
    refine rp_lp (q := 15) rfl rfl rfl ?_
    refine rp_lp (q := 17) rfl rfl rfl ?_
    refine rp_lbr (a := 30) (b := 20) rfl rfl rfl ?_ ?_
    ·
      refine rp_lp (q := 31) rfl rfl rfl ?_
      exact rp_lri rfl rfl
    ·
      refine rp_lp (q := 21) rfl rfl rfl ?_
      refine rp_lp (q := 23) rfl rfl rfl ?_
      refine rp_lbr (a := 30) (b := 26) rfl rfl rfl ?_ ?_
      ·
        refine rp_lp (q := 31) rfl rfl rfl ?_
        exact rp_lri rfl rfl
      ·
        refine rp_lp (q := 27) rfl rfl rfl ?_
        refine rp_lp (q := 31) rfl rfl rfl ?_
        exact rp_lri rfl rfl
  ·
    refine rp_lp (q := 7) rfl rfl rfl ?_
    refine rp_lp (q := 9) rfl rfl rfl ?_
    refine rp_lbr (a := 14) (b := 12) rfl rfl rfl ?_ ?_
    ·
      refine rp_lp (q := 15) rfl rfl rfl ?_
      refine rp_lp (q := 17) rfl rfl rfl ?_
      refine rp_lbr (a := 30) (b := 20) rfl rfl rfl ?_ ?_
      ·
        refine rp_lp (q := 31) rfl rfl rfl ?_
        exact rp_lri rfl rfl
      ·
        refine rp_lp (q := 21) rfl rfl rfl ?_
        refine rp_lp (q := 23) rfl rfl rfl ?_
        refine rp_lbr (a := 30) (b := 26) rfl rfl rfl ?_ ?_
        ·
          refine rp_lp (q := 31) rfl rfl rfl ?_
          exact rp_lri rfl rfl
        ·
          refine rp_lp (q := 27) rfl rfl rfl ?_
          refine rp_lp (q := 31) rfl rfl rfl ?_
          exact rp_lri rfl rfl
    ·
      refine rp_lp (q := 13) rfl rfl rfl ?_
      exact rp_lri rfl rfl
-- LawText_takeRule
set_option maxRecDepth 20000 in
theorem D_LawText_takeRule_0 {sc : rp_Sc} (σ : rp_Mm) : rp_Le (thI (CL sc 41 [.ref 32] σ) fun r2 σ1 => if (r2 = (-1) : Prop) then RI 0 σ1 else thI (CL sc 44 [.ref 32, .int r2] σ1) fun r4 σ3 => if (r4 = 0 : Prop) then EV sc (40, 0, 0, 27, [.ref 32, .int r2, rp_U], [], (rp_L0, σ3)) else thI (CL sc 45 [.int r2] σ3) fun r6 σ5 => if (r6 = 0 : Prop) then RI 0 σ5 else EV sc (40, 0, 0, 27, [.ref 32, .int r2, rp_U], [], (rp_L0, σ5))) (EV sc (40, 0, 0, 0, [.ref 32, rp_U, rp_U], [], (rp_L0, σ))) := by
  refine rp_lp (q := 1) rfl rfl rfl ?_
  refine rp_lci (uc' := 0) (us' := 0) rfl (rp_rcv rfl) rfl rfl rfl rfl rfl rfl (fun r2 σ1 => ?_)
  refine rp_lp (q := 5) (ls' := [.ref 32, .int r2, rp_U]) rfl rfl rfl ?_
  refine rp_lp (q := 6) rfl rfl rfl ?_
  refine rp_lp (q := 7) rfl rfl rfl ?_
  refine rp_lbr (a := 25) (b := 10) rfl rfl rfl ?_ ?_
  ·
    refine rp_lp (q := 26) rfl rfl rfl ?_
    exact rp_lrz rfl rfl (by decide)
  ·
    refine rp_lp (q := 11) rfl rfl rfl ?_
    refine rp_lp (q := 12) rfl rfl rfl ?_
    refine rp_lci (uc' := 0) (us' := 0) rfl (rp_rcv rfl) rfl rfl rfl rfl rfl rfl (fun r4 σ3 => ?_)
    refine rp_lbr (a := 27) (b := 18) rfl rfl rfl ?_ ?_
    ·
      exact rp_Le_rfl
    ·
      refine rp_lp (q := 19) rfl rfl rfl ?_
      refine rp_lci (uc' := 0) (us' := 0) rfl rfl rfl rfl rfl rfl rfl rfl (fun r6 σ5 => ?_)
      refine rp_lbr (a := 25) (b := 27) rfl rfl rfl ?_ ?_
      ·
        refine rp_lp (q := 26) rfl rfl rfl ?_
        exact rp_lrz rfl rfl (by decide)
      ·
        exact rp_Le_rfl
set_option maxRecDepth 20000 in
theorem D_LawText_takeRule_27 {sc : rp_Sc} (x1 : Int32) (σ : rp_Mm) : rp_Le (thV (CL sc 37 [.ref 32] (rp_wr σ 32 5 ((σ 32 5) ||| ((1 : Int32) <<< (x1 &&& 31))))) fun σ1 => if (x1 = 1 : Prop) then thI (CL sc 46 [.ref 32] σ1) fun r3 σ2 => EV sc (40, 0, 0, 75, [.ref 32, .int x1, rp_U], [.int r3], (rp_L0, σ2)) else thI (CL sc 45 [.int x1] σ1) fun r5 σ4 => if (r5 = 0 : Prop) then thI (CL sc 52 [.ref 32, .int x1] σ4) fun r7 σ6 => EV sc (40, 0, 0, 75, [.ref 32, .int x1, rp_U], [.int r7], (rp_L0, σ6)) else thI (CL sc 49 [.ref 32, .int x1] σ4) fun r9 σ8 => EV sc (40, 0, 0, 75, [.ref 32, .int x1, rp_U], [.int r9], (rp_L0, σ8))) (EV sc (40, 0, 0, 27, [.ref 32, .int x1, rp_U], [], (rp_L0, σ))) := by
  refine rp_lp (q := 28) rfl rfl rfl ?_
  refine rp_lp (q := 29) rfl rfl rfl ?_
  refine rp_lgm rfl rfl rfl ?_
  refine rp_lp (q := 33) rfl rfl rfl ?_
  refine rp_lp (q := 34) rfl rfl rfl ?_
  refine rp_lp (q := 35) rfl rfl rfl ?_
  refine rp_lp (q := 36) rfl rfl rfl ?_
  refine rp_lpm rfl rfl rfl rfl ?_
  refine rp_lp (q := 40) rfl rfl rfl ?_
  refine rp_lcv (uc' := 0) (us' := 0) rfl (rp_rcv rfl) rfl rfl rfl rfl rfl rfl (fun σ1 => ?_)
  refine rp_lp (q := 44) rfl rfl rfl ?_
  refine rp_lp (q := 45) rfl rfl rfl ?_
  refine rp_lbr (a := 48) (b := 55) rfl rfl rfl ?_ ?_
  ·
    refine rp_lp (q := 49) rfl rfl rfl ?_
    refine rp_lci (uc' := 0) (us' := 0) rfl (rp_rcv rfl) rfl rfl rfl rfl rfl rfl (fun r3 σ2 => ?_)
    refine rp_lp (q := 75) rfl rfl rfl ?_
    exact rp_Le_rfl
  ·
    refine rp_lp (q := 56) rfl rfl rfl ?_
    refine rp_lci (uc' := 0) (us' := 0) rfl rfl rfl rfl rfl rfl rfl rfl (fun r5 σ4 => ?_)
    refine rp_lbr (a := 70) (b := 62) rfl rfl rfl ?_ ?_
    ·
      refine rp_lp (q := 71) rfl rfl rfl ?_
      refine rp_lp (q := 72) rfl rfl rfl ?_
      refine rp_lci (uc' := 0) (us' := 0) rfl (rp_rcv rfl) rfl rfl rfl rfl rfl rfl (fun r7 σ6 => ?_)
      exact rp_Le_rfl
    ·
      refine rp_lp (q := 63) rfl rfl rfl ?_
      refine rp_lp (q := 64) rfl rfl rfl ?_
      refine rp_lci (uc' := 0) (us' := 0) rfl (rp_rcv rfl) rfl rfl rfl rfl rfl rfl (fun r9 σ8 => ?_)
      refine rp_lp (q := 75) rfl rfl rfl ?_
      exact rp_Le_rfl
set_option maxRecDepth 20000 in
theorem D_LawText_takeRule_75 {sc : rp_Sc} (x1 : Int32) (y0 : Int32) (σ : rp_Mm) : rp_Le (if (y0 = 0 : Prop) then RI 0 σ else if (x1 = 4 : Prop) then thI (CL sc 48 [.ref 32, .ref 1011] σ) fun r2 σ1 => if (r2 = 0 : Prop) then RI 0 σ1 else EV sc (40, 0, 0, 96, [.ref 32, .int x1, .int y0], [], (rp_L0, σ1)) else EV sc (40, 0, 0, 96, [.ref 32, .int x1, .int y0], [], (rp_L0, σ))) (EV sc (40, 0, 0, 75, [.ref 32, .int x1, rp_U], [.int y0], (rp_L0, σ))) := by
  refine rp_lp (q := 76) (ls' := [.ref 32, .int x1, .int y0]) rfl rfl rfl ?_
  refine rp_lp (q := 77) rfl rfl rfl ?_
  refine rp_lbr (a := 94) (b := 80) rfl rfl rfl ?_ ?_
  ·
    refine rp_lp (q := 95) rfl rfl rfl ?_
    exact rp_lrz rfl rfl (by decide)
  ·
    refine rp_lp (q := 81) rfl rfl rfl ?_
    refine rp_lp (q := 82) rfl rfl rfl ?_
    refine rp_lbr (a := 85) (b := 96) rfl rfl rfl ?_ ?_
    ·
      refine rp_lp (q := 86) rfl rfl rfl ?_
      refine rp_lp (q := 88) rfl rfl rfl ?_
      refine rp_lci (uc' := 0) (us' := 0) rfl (rp_rcv rfl) rfl rfl rfl rfl rfl rfl (fun r2 σ1 => ?_)
      refine rp_lbr (a := 94) (b := 96) rfl rfl rfl ?_ ?_
      ·
        refine rp_lp (q := 95) rfl rfl rfl ?_
        exact rp_lrz rfl rfl (by decide)
      ·
        exact rp_Le_rfl
    ·
      exact rp_Le_rfl
set_option maxRecDepth 20000 in
theorem D_LawText_takeRule_96 {sc : rp_Sc} (x1 : Int32) (x2 : Int32) (σ : rp_Mm) : rp_Le (thI (CL sc 53 [.ref 32] σ) fun r2 σ1 => if r2 &&& 1 = r2 then RI r2 σ1 else none) (EV sc (40, 0, 0, 96, [.ref 32, .int x1, .int x2], [], (rp_L0, σ))) := by
  refine rp_lp (q := 97) rfl rfl rfl ?_
  refine rp_lci (uc' := 0) (us' := 0) rfl (rp_rcv rfl) rfl rfl rfl rfl rfl rfl (fun r2 σ1 => ?_)
  exact rp_lrq rfl rfl
-- LawText_kindAtHand
set_option maxRecDepth 20000 in
theorem D_LawText_kindAtHand_0 {sc : rp_Sc} (σ : rp_Mm) : rp_Le (EV sc (41, 0, 0, 2, [.ref 32, .int 1], [], (rp_L0, σ))) (EV sc (41, 0, 0, 0, [.ref 32, rp_U], [], (rp_L0, σ))) := by
  refine rp_lp (q := 1) rfl rfl rfl ?_
  refine rp_lp (q := 2) (ls' := [.ref 32, .int 1]) rfl rfl rfl ?_
  exact rp_Le_rfl
set_option maxRecDepth 20000 in
theorem D_LawText_kindAtHand_2 {sc : rp_Sc} (x1 : Int32) (σ : rp_Mm) : rp_Le (if (11 ≤ x1 : Prop) then RI (-1) σ else thR (CL sc 42 [.int x1] σ) fun r2 σ1 => thI (CL sc 43 [.ref 32, .ref r2] σ1) fun r4 σ3 => if (r4 = 0 : Prop) then EV sc (41, 0, 0, 2, [.ref 32, .int (x1 + 1)], [], (rp_L0, σ3)) else RI x1 σ3) (EV sc (41, 0, 0, 2, [.ref 32, .int x1], [], (rp_L0, σ))) := by
  refine rp_lp (q := 3) rfl rfl rfl ?_
  refine rp_lp (q := 5) rfl rfl rfl ?_
  refine rp_lbr (a := 27) (b := 8) rfl rfl rfl ?_ ?_
  ·
    refine rp_lp (q := 28) rfl rfl rfl ?_
    exact rp_lri rfl rfl
  ·
    refine rp_lp (q := 9) rfl rfl rfl ?_
    refine rp_lp (q := 10) rfl rfl rfl ?_
    refine rp_lcr (uc' := 0) (us' := 0) rfl rfl rfl rfl rfl rfl rfl rfl (fun r2 σ1 => ?_)
    refine rp_lci (uc' := 0) (us' := 0) rfl (rp_rcv rfl) rfl rfl rfl rfl rfl rfl (fun r4 σ3 => ?_)
    refine rp_lbr (a := 21) (b := 19) rfl rfl rfl ?_ ?_
    ·
      refine rp_lp (q := 24) (ls' := [.ref 32, .int (x1 + 1)]) rfl rfl rfl ?_
      refine rp_lp (q := 2) rfl rfl rfl ?_
      exact rp_Le_rfl
    ·
      refine rp_lp (q := 20) rfl rfl rfl ?_
      exact rp_lri rfl rfl
-- LawText_wordOf
set_option maxRecDepth 20000 in
theorem D_LawText_wordOf_0 {sc : rp_Sc} (a0 : Int32) (σ : rp_Mm) : rp_Le (if a0 = 1 then RR 1000 σ else if a0 = 2 then RR 1001 σ else if a0 = 3 then RR 1002 σ else if a0 = 4 then RR 1003 σ else if a0 = 5 then RR 1004 σ else if a0 = 6 then RR 1005 σ else if a0 = 7 then RR 1006 σ else if a0 = 8 then RR 1007 σ else if a0 = 9 then RR 1008 σ else RR 1009 σ) (EV sc (42, 0, 0, 0, [.int a0], [], (rp_L0, σ))) := by
  refine rp_lp (q := 1) rfl rfl rfl ?_
  refine rp_lsw rfl rfl rfl ?_
  refine rp_swc ?_ ?_
  ·
    refine rp_lp (q := 54) rfl rfl rfl ?_
    exact rp_lra rfl rfl
  ·
    refine rp_swc ?_ ?_
    ·
      refine rp_lp (q := 57) rfl rfl rfl ?_
      exact rp_lra rfl rfl
    ·
      refine rp_swc ?_ ?_
      ·
        refine rp_lp (q := 60) rfl rfl rfl ?_
        exact rp_lra rfl rfl
      ·
        refine rp_swc ?_ ?_
        ·
          refine rp_lp (q := 63) rfl rfl rfl ?_
          exact rp_lra rfl rfl
        ·
          refine rp_swc ?_ ?_
          ·
            refine rp_lp (q := 66) rfl rfl rfl ?_
            exact rp_lra rfl rfl
          ·
            refine rp_swc ?_ ?_
            ·
              refine rp_lp (q := 69) rfl rfl rfl ?_
              exact rp_lra rfl rfl
            ·
              refine rp_swc ?_ ?_
              ·
                refine rp_lp (q := 72) rfl rfl rfl ?_
                exact rp_lra rfl rfl
              ·
                refine rp_swc ?_ ?_
                ·
                  refine rp_lp (q := 75) rfl rfl rfl ?_
                  exact rp_lra rfl rfl
                ·
                  refine rp_swc ?_ ?_
                  ·
                    refine rp_lp (q := 78) rfl rfl rfl ?_
                    exact rp_lra rfl rfl
                  ·
                    refine rp_lp (q := 81) rfl rfl rfl ?_
                    exact rp_lra rfl rfl
-- LawText_isAtHand
set_option maxRecDepth 20000 in
theorem D_LawText_isAtHand_0 {sc : rp_Sc} {a0 : Nat} (ha0 : a0 < 12) (σ : rp_Mm) : rp_Le (if (((σ 32 3) - (σ 32 2)) = (Int32.ofNat (rp_tx a0).length) : Prop) then EV sc (43, 0, 0, 20, [.ref 32, .ref (1000 + a0), .int 0], [], (rp_L0, σ)) else RI 0 σ) (EV sc (43, 0, 0, 0, [.ref 32, .ref (1000 + a0), rp_U], [], (rp_L0, σ))) := by
  refine rp_lp (q := 1) rfl rfl rfl ?_
  refine rp_lgm rfl rfl rfl ?_
  refine rp_lp (q := 5) rfl rfl rfl ?_
  refine rp_lgm rfl rfl rfl ?_
  refine rp_lp (q := 9) rfl rfl rfl ?_
  refine rp_lp (q := 10) rfl rfl rfl ?_
  refine rp_lle rfl ha0 rfl ?_
  refine rp_lbr (a := 18) (b := 16) rfl rfl rfl ?_ ?_
  ·
    refine rp_lp (q := 19) rfl rfl rfl ?_
    refine rp_lp (q := 20) (ls' := [.ref 32, .ref (1000 + a0), .int 0]) rfl rfl rfl ?_
    exact rp_Le_rfl
  ·
    refine rp_lp (q := 17) rfl rfl rfl ?_
    exact rp_lrz rfl rfl (by decide)
set_option maxRecDepth 20000 in
theorem D_LawText_isAtHand_20 {sc : rp_Sc} {a0 : Nat} (ha0 : a0 < 12) (x2 : Int32) (σ : rp_Mm) : rp_Le (if ((Int32.ofNat (rp_tx a0).length) ≤ x2 : Prop) then RI 1 σ else thI (CL sc 38 [.ref 32, .int ((σ 32 2) + x2)] σ) fun r2 σ1 => bif rp_ix x2 (rp_tx a0).length then if (r2 = ((rp_tx a0).getD x2.toNatClampNeg 0) : Prop) then EV sc (43, 0, 0, 20, [.ref 32, .ref (1000 + a0), .int (x2 + 1)], [], (rp_L0, σ1)) else RI 0 σ1 else none) (EV sc (43, 0, 0, 20, [.ref 32, .ref (1000 + a0), .int x2], [], (rp_L0, σ))) := by
  refine rp_lp (q := 21) rfl rfl rfl ?_
  refine rp_lp (q := 22) rfl rfl rfl ?_
  refine rp_lle rfl ha0 rfl ?_
  refine rp_lbr (a := 54) (b := 28) rfl rfl rfl ?_ ?_
  ·
    refine rp_lp (q := 55) rfl rfl rfl ?_
    exact rp_lrz rfl rfl (by decide)
  ·
    refine rp_lp (q := 29) rfl rfl rfl ?_
    refine rp_lp (q := 30) rfl rfl rfl ?_
    refine rp_lgm rfl rfl rfl ?_
    refine rp_lp (q := 34) rfl rfl rfl ?_
    refine rp_lp (q := 35) rfl rfl rfl ?_
    refine rp_lci (uc' := 0) (us' := 0) rfl (rp_rcv rfl) rfl rfl rfl rfl rfl rfl (fun r2 σ1 => ?_)
    refine rp_lp (q := 39) rfl rfl rfl ?_
    refine rp_lp (q := 40) rfl rfl rfl ?_
    refine rp_lch rfl ha0 rfl ?_
    refine rp_lbr (a := 48) (b := 46) rfl rfl rfl ?_ ?_
    ·
      refine rp_lp (q := 51) (ls' := [.ref 32, .ref (1000 + a0), .int (x2 + 1)]) rfl rfl rfl ?_
      refine rp_lp (q := 20) rfl rfl rfl ?_
      exact rp_Le_rfl
    ·
      refine rp_lp (q := 47) rfl rfl rfl ?_
      exact rp_lrz rfl rfl (by decide)
-- LawText_isSeen
set_option maxRecDepth 20000 in
theorem D_LawText_isSeen_0 {sc : rp_Sc} (a0 : Int32) (σ : rp_Mm) : rp_Le (if ((((σ 32 5) >>> (a0 &&& 31)) &&& (1 : Int32)) = 1 : Prop) then RI 1 σ else RI 0 σ) (EV sc (44, 0, 0, 0, [.ref 32, .int a0], [], (rp_L0, σ))) := by
  refine rp_lp (q := 1) rfl rfl rfl ?_
  refine rp_lgm rfl rfl rfl ?_
  refine rp_lp (q := 5) rfl rfl rfl ?_
  refine rp_lp (q := 6) rfl rfl rfl ?_
  refine rp_lp (q := 7) rfl rfl rfl ?_
  refine rp_lp (q := 8) rfl rfl rfl ?_
  refine rp_lp (q := 9) rfl rfl rfl ?_
  refine rp_lbr (a := 12) (b := 16) rfl rfl rfl ?_ ?_
  ·
    refine rp_lp (q := 13) rfl rfl rfl ?_
    refine rp_lp (q := 17) rfl rfl rfl ?_
    exact rp_lrz rfl rfl (by decide)
  ·
    refine rp_lp (q := 17) rfl rfl rfl ?_
    exact rp_lrz rfl rfl (by decide)
-- LawText_mayRepeat
set_option maxRecDepth 20000 in
theorem D_LawText_mayRepeat_0 {sc : rp_Sc} (a0 : Int32) (σ : rp_Mm) : rp_Le (if (a0 = 3 : Prop) then RI 1 σ else if (a0 = 4 : Prop) then RI 1 σ else RI 0 σ) (EV sc (45, 0, 0, 0, [.int a0], [], (rp_L0, σ))) := by
  refine rp_lp (q := 1) rfl rfl rfl ?_
  refine rp_lp (q := 2) rfl rfl rfl ?_
  refine rp_lbr (a := 10) (b := 5) rfl rfl rfl ?_ ?_
  ·
    refine rp_lp (q := 11) rfl rfl rfl ?_
    refine rp_lp (q := 15) rfl rfl rfl ?_
    exact rp_lrz rfl rfl (by decide)
  ·
    refine rp_lp (q := 6) rfl rfl rfl ?_
    refine rp_lp (q := 7) rfl rfl rfl ?_
    refine rp_lbr (a := 10) (b := 14) rfl rfl rfl ?_ ?_
    ·
      refine rp_lp (q := 11) rfl rfl rfl ?_
      refine rp_lp (q := 15) rfl rfl rfl ?_
      exact rp_lrz rfl rfl (by decide)
    ·
      refine rp_lp (q := 15) rfl rfl rfl ?_
      exact rp_lrz rfl rfl (by decide)
-- LawText_takeDays
set_option maxRecDepth 20000 in
theorem D_LawText_takeDays_0 {sc : rp_Sc} (σ : rp_Mm) : rp_Le (thI (CL sc 47 [.ref 32, .int 1, .int 60] σ) fun r2 σ1 => if (r2 = (-1) : Prop) then RI 0 σ1 else thV (CL sc 37 [.ref 32] σ1) fun σ3 => thI (CL sc 48 [.ref 32, .ref 1010] σ3) fun r5 σ4 => if (r5 = 0 : Prop) then RI 0 σ4 else thI (CL sc 47 [.ref 32, .int r2, .int 60] σ4) fun r7 σ6 => if (r7 = (-1) : Prop) then RI 0 σ6 else thV (CL sc 37 [.ref 32] σ6) fun σ8 => thV (CL sc 36 [.ref 32, .int 0, .int r2] σ8) fun σ9 => thV (CL sc 36 [.ref 32, .int 1, .int r7] σ9) fun σ10 => RI 1 σ10) (EV sc (46, 0, 0, 0, [.ref 32, rp_U, rp_U], [], (rp_L0, σ))) := by
  refine rp_lp (q := 1) rfl rfl rfl ?_
  refine rp_lp (q := 2) rfl rfl rfl ?_
  refine rp_lp (q := 4) rfl rfl rfl ?_
  refine rp_lci (uc' := 0) (us' := 0) rfl (rp_rcv rfl) rfl rfl rfl rfl rfl rfl (fun r2 σ1 => ?_)
  refine rp_lp (q := 8) (ls' := [.ref 32, .int r2, rp_U]) rfl rfl rfl ?_
  refine rp_lp (q := 9) rfl rfl rfl ?_
  refine rp_lp (q := 10) rfl rfl rfl ?_
  refine rp_lbr (a := 13) (b := 15) rfl rfl rfl ?_ ?_
  ·
    refine rp_lp (q := 14) rfl rfl rfl ?_
    exact rp_lrz rfl rfl (by decide)
  ·
    refine rp_lp (q := 16) rfl rfl rfl ?_
    refine rp_lcv (uc' := 0) (us' := 0) rfl (rp_rcv rfl) rfl rfl rfl rfl rfl rfl (fun σ3 => ?_)
    refine rp_lp (q := 20) rfl rfl rfl ?_
    refine rp_lp (q := 22) rfl rfl rfl ?_
    refine rp_lci (uc' := 0) (us' := 0) rfl (rp_rcv rfl) rfl rfl rfl rfl rfl rfl (fun r5 σ4 => ?_)
    refine rp_lbr (a := 28) (b := 30) rfl rfl rfl ?_ ?_
    ·
      refine rp_lp (q := 29) rfl rfl rfl ?_
      exact rp_lrz rfl rfl (by decide)
    ·
      refine rp_lp (q := 31) rfl rfl rfl ?_
      refine rp_lp (q := 32) rfl rfl rfl ?_
      refine rp_lp (q := 34) rfl rfl rfl ?_
      refine rp_lci (uc' := 0) (us' := 0) rfl (rp_rcv rfl) rfl rfl rfl rfl rfl rfl (fun r7 σ6 => ?_)
      refine rp_lp (q := 38) (ls' := [.ref 32, .int r2, .int r7]) rfl rfl rfl ?_
      refine rp_lp (q := 39) rfl rfl rfl ?_
      refine rp_lp (q := 40) rfl rfl rfl ?_
      refine rp_lbr (a := 43) (b := 45) rfl rfl rfl ?_ ?_
      ·
        refine rp_lp (q := 44) rfl rfl rfl ?_
        exact rp_lrz rfl rfl (by decide)
      ·
        refine rp_lp (q := 46) rfl rfl rfl ?_
        refine rp_lcv (uc' := 0) (us' := 0) rfl (rp_rcv rfl) rfl rfl rfl rfl rfl rfl (fun σ8 => ?_)
        refine rp_lp (q := 50) rfl rfl rfl ?_
        refine rp_lp (q := 51) rfl rfl rfl ?_
        refine rp_lp (q := 52) rfl rfl rfl ?_
        refine rp_lcv (uc' := 0) (us' := 0) rfl (rp_rcv rfl) rfl rfl rfl rfl rfl rfl (fun σ9 => ?_)
        refine rp_lp (q := 56) rfl rfl rfl ?_
        refine rp_lp (q := 57) rfl rfl rfl ?_
        refine rp_lp (q := 58) rfl rfl rfl ?_
        refine rp_lcv (uc' := 0) (us' := 0) rfl (rp_rcv rfl) rfl rfl rfl rfl rfl rfl (fun σ10 => ?_)
        refine rp_lp (q := 62) rfl rfl rfl ?_
        exact rp_lrz rfl rfl (by decide)
-- LawText_numberAtHand
set_option maxRecDepth 20000 in
theorem D_LawText_numberAtHand_0 {sc : rp_Sc} (a0 : Int32) (a1 : Int32) (σ : rp_Mm) : rp_Le (thI (CL sc 38 [.ref 32, .int (σ 32 2)] σ) fun r2 σ1 => thI (CL sc 39 [.int r2] σ1) fun r4 σ3 => if (r4 = 2 : Prop) then if (((σ3 32 3) - (σ3 32 2)) ≤ 3 : Prop) then EV sc (47, 0, 0, 38, [.ref 32, .int a0, .int a1, .int 0, .int (σ3 32 2)], [], (rp_L0, σ3)) else RI (-1) σ3 else RI (-1) σ3) (EV sc (47, 0, 0, 0, [.ref 32, .int a0, .int a1, rp_U, rp_U], [], (rp_L0, σ))) := by
  refine rp_lp (q := 1) rfl rfl rfl ?_
  refine rp_lp (q := 2) rfl rfl rfl ?_
  refine rp_lgm rfl rfl rfl ?_
  refine rp_lci (uc' := 0) (us' := 0) rfl (rp_rcv rfl) rfl rfl rfl rfl rfl rfl (fun r2 σ1 => ?_)
  refine rp_lci (uc' := 0) (us' := 0) rfl rfl rfl rfl rfl rfl rfl rfl (fun r4 σ3 => ?_)
  refine rp_lp (q := 12) rfl rfl rfl ?_
  refine rp_lbr (a := 15) (b := 28) rfl rfl rfl ?_ ?_
  ·
    refine rp_lp (q := 16) rfl rfl rfl ?_
    refine rp_lgm rfl rfl rfl ?_
    refine rp_lp (q := 20) rfl rfl rfl ?_
    refine rp_lgm rfl rfl rfl ?_
    refine rp_lp (q := 24) rfl rfl rfl ?_
    refine rp_lp (q := 25) rfl rfl rfl ?_
    refine rp_lbr (a := 30) (b := 28) rfl rfl rfl ?_ ?_
    ·
      refine rp_lp (q := 31) rfl rfl rfl ?_
      refine rp_lp (q := 32) (ls' := [.ref 32, .int a0, .int a1, .int 0, rp_U]) rfl rfl rfl ?_
      refine rp_lp (q := 33) rfl rfl rfl ?_
      refine rp_lgm rfl rfl rfl ?_
      refine rp_lp (q := 38) (ls' := [.ref 32, .int a0, .int a1, .int 0, .int (σ3 32 2)]) rfl rfl rfl ?_
      exact rp_Le_rfl
    ·
      refine rp_lp (q := 29) rfl rfl rfl ?_
      exact rp_lri rfl rfl
  ·
    refine rp_lp (q := 29) rfl rfl rfl ?_
    exact rp_lri rfl rfl
set_option maxRecDepth 20000 in
theorem D_LawText_numberAtHand_38 {sc : rp_Sc} (x1 : Int32) (x2 : Int32) (x3 : Int32) (x4 : Int32) (σ : rp_Mm) : rp_Le (if ((σ 32 3) ≤ x4 : Prop) then thI (CL sc 15 [.int x3, .int x1, .int x2] σ) fun r2 σ1 => if (r2 = 0 : Prop) then RI (-1) σ1 else RI x3 σ1 else thI (CL sc 38 [.ref 32, .int x4] σ) fun r4 σ3 => EV sc (47, 0, 0, 38, [.ref 32, .int x1, .int x2, .int ((((10 : Int32) * x3) + r4) - (48 : Int32)), .int (x4 + 1)], [], (rp_L0, σ3))) (EV sc (47, 0, 0, 38, [.ref 32, .int x1, .int x2, .int x3, .int x4], [], (rp_L0, σ))) := by
  refine rp_lp (q := 40) rfl rfl rfl ?_
  refine rp_lp (q := 41) rfl rfl rfl ?_
  refine rp_lgm rfl rfl rfl ?_
  refine rp_lbr (a := 68) (b := 47) rfl rfl rfl ?_ ?_
  ·
    refine rp_lp (q := 69) rfl rfl rfl ?_
    refine rp_lp (q := 70) rfl rfl rfl ?_
    refine rp_lp (q := 71) rfl rfl rfl ?_
    refine rp_lci (uc' := 0) (us' := 0) rfl rfl rfl rfl rfl rfl rfl rfl (fun r2 σ1 => ?_)
    refine rp_lbr (a := 81) (b := 77) rfl rfl rfl ?_ ?_
    ·
      refine rp_lp (q := 82) rfl rfl rfl ?_
      exact rp_lri rfl rfl
    ·
      refine rp_lp (q := 78) rfl rfl rfl ?_
      refine rp_lp (q := 82) rfl rfl rfl ?_
      exact rp_lri rfl rfl
  ·
    refine rp_lp (q := 49) rfl rfl rfl ?_
    refine rp_lp (q := 50) rfl rfl rfl ?_
    refine rp_lp (q := 51) rfl rfl rfl ?_
    refine rp_lp (q := 52) rfl rfl rfl ?_
    refine rp_lp (q := 54) rfl rfl rfl ?_
    refine rp_lci (uc' := 0) (us' := 0) rfl (rp_rcv rfl) rfl rfl rfl rfl rfl rfl (fun r4 σ3 => ?_)
    refine rp_lp (q := 58) rfl rfl rfl ?_
    refine rp_lp (q := 60) rfl rfl rfl ?_
    refine rp_lp (q := 61) rfl rfl rfl ?_
    refine rp_lp (q := 62) (ls' := [.ref 32, .int x1, .int x2, .int ((((10 : Int32) * x3) + r4) - (48 : Int32)), .int x4]) rfl rfl rfl ?_
    refine rp_lp (q := 65) (ls' := [.ref 32, .int x1, .int x2, .int ((((10 : Int32) * x3) + r4) - (48 : Int32)), .int (x4 + 1)]) rfl rfl rfl ?_
    refine rp_lp (q := 38) rfl rfl rfl ?_
    exact rp_Le_rfl
-- LawText_takeWord
set_option maxRecDepth 20000 in
theorem D_LawText_takeWord_0 {sc : rp_Sc} {a0 : Nat} (ha0 : a0 < 12) (σ : rp_Mm) : rp_Le (thI (CL sc 43 [.ref 32, .ref (1000 + a0)] σ) fun r2 σ1 => if (r2 = 0 : Prop) then RI 0 σ1 else thV (CL sc 37 [.ref 32] σ1) fun σ3 => RI 1 σ3) (EV sc (48, 0, 0, 0, [.ref 32, .ref (1000 + a0)], [], (rp_L0, σ))) := by
  refine rp_lp (q := 1) rfl rfl rfl ?_
  refine rp_lp (q := 2) rfl rfl rfl ?_
  refine rp_lci (uc' := 0) (us' := 0) rfl (rp_rcv rfl) rfl rfl rfl rfl rfl rfl (fun r2 σ1 => ?_)
  refine rp_lbr (a := 8) (b := 10) rfl rfl rfl ?_ ?_
  ·
    refine rp_lp (q := 9) rfl rfl rfl ?_
    exact rp_lrz rfl rfl (by decide)
  ·
    refine rp_lp (q := 11) rfl rfl rfl ?_
    refine rp_lcv (uc' := 0) (us' := 0) rfl (rp_rcv rfl) rfl rfl rfl rfl rfl rfl (fun σ3 => ?_)
    refine rp_lp (q := 15) rfl rfl rfl ?_
    exact rp_lrz rfl rfl (by decide)
-- LawText_takeBit
set_option maxRecDepth 20000 in
theorem D_LawText_takeBit_0 {sc : rp_Sc} (a0 : Int32) (σ : rp_Mm) : rp_Le (thI (CL sc 50 [.int a0] σ) fun r2 σ1 => thI (CL sc 47 [.ref 32, .int 0, .int r2] σ1) fun r4 σ3 => if (r4 = (-1) : Prop) then RI 0 σ3 else thI (CL sc 51 [.ref 32, .int a0] σ3) fun r6 σ5 => if (((r6 >>> (r4 &&& 31)) &&& (1 : Int32)) = 1 : Prop) then RI 0 σ5 else thI (CL sc 51 [.ref 32, .int a0] σ5) fun r8 σ7 => thV (CL sc 36 [.ref 32, .int a0, .int (r8 ||| ((1 : Int32) <<< (r4 &&& 31)))] σ7) fun σ9 => thV (CL sc 37 [.ref 32] σ9) fun σ10 => RI 1 σ10) (EV sc (49, 0, 0, 0, [.ref 32, .int a0, rp_U], [], (rp_L0, σ))) := by
  refine rp_lp (q := 1) rfl rfl rfl ?_
  refine rp_lp (q := 2) rfl rfl rfl ?_
  refine rp_lp (q := 3) rfl rfl rfl ?_
  refine rp_lci (uc' := 0) (us' := 0) rfl rfl rfl rfl rfl rfl rfl rfl (fun r2 σ1 => ?_)
  refine rp_lci (uc' := 0) (us' := 0) rfl (rp_rcv rfl) rfl rfl rfl rfl rfl rfl (fun r4 σ3 => ?_)
  refine rp_lp (q := 10) (ls' := [.ref 32, .int a0, .int r4]) rfl rfl rfl ?_
  refine rp_lp (q := 11) rfl rfl rfl ?_
  refine rp_lp (q := 12) rfl rfl rfl ?_
  refine rp_lbr (a := 28) (b := 15) rfl rfl rfl ?_ ?_
  ·
    refine rp_lp (q := 29) rfl rfl rfl ?_
    exact rp_lrz rfl rfl (by decide)
  ·
    refine rp_lp (q := 16) rfl rfl rfl ?_
    refine rp_lp (q := 17) rfl rfl rfl ?_
    refine rp_lci (uc' := 0) (us' := 0) rfl (rp_rcv rfl) rfl rfl rfl rfl rfl rfl (fun r6 σ5 => ?_)
    refine rp_lp (q := 21) rfl rfl rfl ?_
    refine rp_lp (q := 22) rfl rfl rfl ?_
    refine rp_lp (q := 23) rfl rfl rfl ?_
    refine rp_lp (q := 24) rfl rfl rfl ?_
    refine rp_lp (q := 25) rfl rfl rfl ?_
    refine rp_lbr (a := 28) (b := 30) rfl rfl rfl ?_ ?_
    ·
      refine rp_lp (q := 29) rfl rfl rfl ?_
      exact rp_lrz rfl rfl (by decide)
    ·
      refine rp_lp (q := 31) rfl rfl rfl ?_
      refine rp_lp (q := 32) rfl rfl rfl ?_
      refine rp_lp (q := 33) rfl rfl rfl ?_
      refine rp_lp (q := 34) rfl rfl rfl ?_
      refine rp_lci (uc' := 0) (us' := 0) rfl (rp_rcv rfl) rfl rfl rfl rfl rfl rfl (fun r8 σ7 => ?_)
      refine rp_lp (q := 38) rfl rfl rfl ?_
      refine rp_lp (q := 39) rfl rfl rfl ?_
      refine rp_lp (q := 40) rfl rfl rfl ?_
      refine rp_lp (q := 41) rfl rfl rfl ?_
      refine rp_lcv (uc' := 0) (us' := 0) rfl (rp_rcv rfl) rfl rfl rfl rfl rfl rfl (fun σ9 => ?_)
      refine rp_lp (q := 45) rfl rfl rfl ?_
      refine rp_lcv (uc' := 0) (us' := 0) rfl (rp_rcv rfl) rfl rfl rfl rfl rfl rfl (fun σ10 => ?_)
      refine rp_lp (q := 49) rfl rfl rfl ?_
      exact rp_lrz rfl rfl (by decide)
-- LawText_greatest
set_option maxRecDepth 20000 in
theorem D_LawText_greatest_0 {sc : rp_Sc} (a0 : Int32) (σ : rp_Mm) : rp_Le (if a0 = 2 then RI 999 σ else if a0 = 3 then RI 4 σ else if a0 = 4 then RI 13 σ else if a0 = 5 then RI 23 σ else if a0 = 6 then RI 999 σ else RI 100 σ) (EV sc (50, 0, 0, 0, [.int a0], [], (rp_L0, σ))) := by
  refine rp_lp (q := 1) rfl rfl rfl ?_
  refine rp_lsw rfl rfl rfl ?_
  refine rp_swc ?_ ?_
  ·
    refine rp_lp (q := 39) rfl rfl rfl ?_
    exact rp_lri rfl rfl
  ·
    refine rp_swc ?_ ?_
    ·
      refine rp_lp (q := 41) rfl rfl rfl ?_
      exact rp_lri rfl rfl
    ·
      refine rp_swc ?_ ?_
      ·
        refine rp_lp (q := 44) rfl rfl rfl ?_
        exact rp_lri rfl rfl
      ·
        refine rp_swc ?_ ?_
        ·
          refine rp_lp (q := 47) rfl rfl rfl ?_
          exact rp_lri rfl rfl
        ·
          refine rp_swc ?_ ?_
          ·
            refine rp_lp (q := 39) rfl rfl rfl ?_
            exact rp_lri rfl rfl
          ·
            refine rp_lp (q := 50) rfl rfl rfl ?_
            exact rp_lri rfl rfl
-- LawText_term
set_option maxRecDepth 20000 in
theorem D_LawText_term_0 {sc : rp_Sc} (a0 : Int32) (σ : rp_Mm) : rp_Le (if (a0 < 0 : Prop) then RI 0 σ else if (11 ≤ a0 : Prop) then RI 0 σ else bif rp_ix a0 11 then RI (σ 34 a0.toNatClampNeg) σ else none) (EV sc (51, 0, 0, 0, [.ref 32, .int a0], [], (rp_L0, σ))) := by
  refine rp_lp (q := 1) rfl rfl rfl ?_
  refine rp_lbr (a := 22) (b := 4) rfl rfl rfl ?_ ?_
  ·
    refine rp_lp (q := 23) rfl rfl rfl ?_
    exact rp_lri rfl rfl
  ·
    refine rp_lp (q := 5) rfl rfl rfl ?_
    refine rp_lp (q := 6) rfl rfl rfl ?_
    refine rp_lgf rfl rfl rfl ?_
    refine rp_lal rfl rfl ?_
    refine rp_lbr (a := 22) (b := 13) rfl rfl rfl ?_ ?_
    ·
      refine rp_lp (q := 23) rfl rfl rfl ?_
      exact rp_lri rfl rfl
    ·
      refine rp_lp (q := 14) rfl rfl rfl ?_
      refine rp_lgf rfl rfl rfl ?_
      refine rp_lp (q := 18) rfl rfl rfl ?_
      refine rp_lia rfl rfl ?_
      refine rp_lp (q := 23) rfl rfl rfl ?_
      exact rp_lri rfl rfl
-- LawText_takeTerm
set_option maxRecDepth 20000 in
theorem D_LawText_takeTerm_0 {sc : rp_Sc} (a0 : Int32) (σ : rp_Mm) : rp_Le (thI (CL sc 50 [.int a0] σ) fun r2 σ1 => thI (CL sc 47 [.ref 32, .int 0, .int r2] σ1) fun r4 σ3 => if (r4 = (-1) : Prop) then RI 0 σ3 else thV (CL sc 36 [.ref 32, .int a0, .int r4] σ3) fun σ5 => thV (CL sc 37 [.ref 32] σ5) fun σ6 => RI 1 σ6) (EV sc (52, 0, 0, 0, [.ref 32, .int a0, rp_U], [], (rp_L0, σ))) := by
  refine rp_lp (q := 1) rfl rfl rfl ?_
  refine rp_lp (q := 2) rfl rfl rfl ?_
  refine rp_lp (q := 3) rfl rfl rfl ?_
  refine rp_lci (uc' := 0) (us' := 0) rfl rfl rfl rfl rfl rfl rfl rfl (fun r2 σ1 => ?_)
  refine rp_lci (uc' := 0) (us' := 0) rfl (rp_rcv rfl) rfl rfl rfl rfl rfl rfl (fun r4 σ3 => ?_)
  refine rp_lp (q := 10) (ls' := [.ref 32, .int a0, .int r4]) rfl rfl rfl ?_
  refine rp_lp (q := 11) rfl rfl rfl ?_
  refine rp_lp (q := 12) rfl rfl rfl ?_
  refine rp_lbr (a := 15) (b := 17) rfl rfl rfl ?_ ?_
  ·
    refine rp_lp (q := 16) rfl rfl rfl ?_
    exact rp_lrz rfl rfl (by decide)
  ·
    refine rp_lp (q := 18) rfl rfl rfl ?_
    refine rp_lp (q := 19) rfl rfl rfl ?_
    refine rp_lp (q := 20) rfl rfl rfl ?_
    refine rp_lcv (uc' := 0) (us' := 0) rfl (rp_rcv rfl) rfl rfl rfl rfl rfl rfl (fun σ5 => ?_)
    refine rp_lp (q := 24) rfl rfl rfl ?_
    refine rp_lcv (uc' := 0) (us' := 0) rfl (rp_rcv rfl) rfl rfl rfl rfl rfl rfl (fun σ6 => ?_)
    refine rp_lp (q := 28) rfl rfl rfl ?_
    exact rp_lrz rfl rfl (by decide)
-- LawText_takeSemicolon
set_option maxRecDepth 20000 in
theorem D_LawText_takeSemicolon_0 {sc : rp_Sc} (σ : rp_Mm) : rp_Le (thI (CL sc 38 [.ref 32, .int (σ 32 2)] σ) fun r2 σ1 => if (r2 = 59 : Prop) then thV (CL sc 37 [.ref 32] σ1) fun σ3 => RI 1 σ3 else RI 0 σ1) (EV sc (53, 0, 0, 0, [.ref 32], [], (rp_L0, σ))) := by
  refine rp_lp (q := 1) rfl rfl rfl ?_
  refine rp_lp (q := 2) rfl rfl rfl ?_
  refine rp_lgm rfl rfl rfl ?_
  refine rp_lci (uc' := 0) (us' := 0) rfl (rp_rcv rfl) rfl rfl rfl rfl rfl rfl (fun r2 σ1 => ?_)
  refine rp_lp (q := 10) rfl rfl rfl ?_
  refine rp_lbr (a := 15) (b := 13) rfl rfl rfl ?_ ?_
  ·
    refine rp_lp (q := 16) rfl rfl rfl ?_
    refine rp_lcv (uc' := 0) (us' := 0) rfl (rp_rcv rfl) rfl rfl rfl rfl rfl rfl (fun σ3 => ?_)
    refine rp_lp (q := 20) rfl rfl rfl ?_
    exact rp_lrz rfl rfl (by decide)
  ·
    refine rp_lp (q := 14) rfl rfl rfl ?_
    exact rp_lrz rfl rfl (by decide)
-- LawText_empty
set_option maxRecDepth 20000 in
theorem D_LawText_empty_0 {sc : rp_Sc} (σ : rp_Mm) : rp_Le (RV (rp_wr σ 32 1 0)) (EV sc (54, 0, 0, 0, [.ref 32], [], (rp_L0, σ))) := by
  refine rp_lp (q := 1) rfl rfl rfl ?_
  refine rp_lp (q := 2) rfl rfl rfl ?_
  refine rp_lpm rfl rfl rfl rfl ?_
  exact rp_lrv rfl rfl
-- RailPasses_isLaw
set_option maxRecDepth 20000 in
theorem D_RailPasses_isLaw_0 {sc : rp_Sc} (a0 : Int32) (σ : rp_Mm) : rp_Le (thI (CL sc 15 [.int a0, .int 0, .int 2] σ) fun r2 σ1 => if r2 &&& 1 = r2 then RI r2 σ1 else none) (EV sc (55, 0, 0, 0, [.int a0], [], (rp_L0, σ))) := by
  refine rp_lp (q := 1) rfl rfl rfl ?_
  refine rp_lp (q := 2) rfl rfl rfl ?_
  refine rp_lp (q := 3) rfl rfl rfl ?_
  refine rp_lci (uc' := 0) (us' := 0) rfl rfl rfl rfl rfl rfl rfl rfl (fun r2 σ1 => ?_)
  exact rp_lrq rfl rfl
-- LawText_rules
set_option maxRecDepth 20000 in
theorem D_LawText_rules_0 {sc : rp_Sc} (σ : rp_Mm) : rp_Le (RI (σ 32 6) σ) (EV sc (56, 0, 0, 0, [.ref 32], [], (rp_L0, σ))) := by
  refine rp_lp (q := 1) rfl rfl rfl ?_
  refine rp_lgm rfl rfl rfl ?_
  exact rp_lri rfl rfl
-- RailPasses_law
set_option maxRecDepth 20000 in
theorem D_RailPasses_law_0 {sc : rp_Sc} (a0 : Int32) (a1 : Int32) (σ : rp_Mm) : rp_Le (thI (CL sc 55 [.int a0] σ) fun r2 σ1 => if (r2 = 0 : Prop) then RI (-1) σ1 else thI (CL sc 15 [.int a1, .int 0, .int 10] σ1) fun r4 σ3 => if (r4 = 0 : Prop) then RI (-1) σ3 else thI (CL sc 58 [.ref 2, .int a0] σ3) fun r6 σ5 => if (r6 = 0 : Prop) then RI (-3) σ5 else thI (CL sc 20 [.ref 7, .int a0, .int a1] σ5) fun r8 σ7 => RI r8 σ7) (EV sc (57, 0, 0, 0, [.ref 1, .int a0, .int a1], [], (rp_L0, σ))) := by
  refine rp_lp (q := 1) rfl rfl rfl ?_
  refine rp_lci (uc' := 0) (us' := 0) rfl rfl rfl rfl rfl rfl rfl rfl (fun r2 σ1 => ?_)
  refine rp_lbr (a := 17) (b := 7) rfl rfl rfl ?_ ?_
  ·
    refine rp_lp (q := 18) rfl rfl rfl ?_
    exact rp_lri rfl rfl
  ·
    refine rp_lp (q := 8) rfl rfl rfl ?_
    refine rp_lp (q := 9) rfl rfl rfl ?_
    refine rp_lp (q := 11) rfl rfl rfl ?_
    refine rp_lci (uc' := 0) (us' := 0) rfl rfl rfl rfl rfl rfl rfl rfl (fun r4 σ3 => ?_)
    refine rp_lbr (a := 17) (b := 19) rfl rfl rfl ?_ ?_
    ·
      refine rp_lp (q := 18) rfl rfl rfl ?_
      exact rp_lri rfl rfl
    ·
      refine rp_lp (q := 20) rfl rfl rfl ?_
      refine rp_lgf rfl rfl rfl ?_
      refine rp_lp (q := 24) rfl rfl rfl ?_
      refine rp_lci (uc' := 0) (us' := 0) rfl (rp_rcv rfl) rfl rfl rfl rfl rfl rfl (fun r6 σ5 => ?_)
      refine rp_lbr (a := 45) (b := 30) rfl rfl rfl ?_ ?_
      ·
        refine rp_lp (q := 47) rfl rfl rfl ?_
        exact rp_lri rfl rfl
      ·
        refine rp_lp (q := 31) rfl rfl rfl ?_
        refine rp_lgf rfl rfl rfl ?_
        refine rp_lgf rfl rfl rfl ?_
        refine rp_lp (q := 38) rfl rfl rfl ?_
        refine rp_lp (q := 39) rfl rfl rfl ?_
        refine rp_lci (uc' := 0) (us' := 0) rfl (rp_rcv rfl) rfl rfl rfl rfl rfl rfl (fun r8 σ7 => ?_)
        refine rp_lp (q := 47) rfl rfl rfl ?_
        exact rp_lri rfl rfl
-- Book_isLawThere
set_option maxRecDepth 20000 in
theorem D_Book_isLawThere_0 {sc : rp_Sc} (a0 : Int32) (σ : rp_Mm) : rp_Le (thI (CL sc 20 [.ref 7, .int a0, .int 11] σ) fun r2 σ1 => if (r2 = 1 : Prop) then RI 1 σ1 else RI 0 σ1) (EV sc (58, 0, 0, 0, [.ref 2, .int a0], [], (rp_L0, σ))) := by
  refine rp_lp (q := 1) rfl rfl rfl ?_
  refine rp_lgf rfl rfl rfl ?_
  refine rp_lp (q := 5) rfl rfl rfl ?_
  refine rp_lp (q := 7) rfl rfl rfl ?_
  refine rp_lci (uc' := 0) (us' := 0) rfl (rp_rcv rfl) rfl rfl rfl rfl rfl rfl (fun r2 σ1 => ?_)
  refine rp_lp (q := 11) rfl rfl rfl ?_
  refine rp_lbr (a := 14) (b := 18) rfl rfl rfl ?_ ?_
  ·
    refine rp_lp (q := 15) rfl rfl rfl ?_
    refine rp_lp (q := 19) rfl rfl rfl ?_
    exact rp_lrz rfl rfl (by decide)
  ·
    refine rp_lp (q := 19) rfl rfl rfl ?_
    exact rp_lrz rfl rfl (by decide)
-- RailPasses_sell
set_option maxRecDepth 20000 in
theorem D_RailPasses_sell_0 {sc : rp_Sc} (a0 : Int32) (a1 : Int32) (a2 : Int32) (σ : rp_Mm) : rp_Le (thI (CL sc 55 [.int a0] σ) fun r2 σ1 => if (r2 = 0 : Prop) then RI (-1) σ1 else thI (CL sc 60 [.int a1] σ1) fun r4 σ3 => if (r4 = 0 : Prop) then RI (-1) σ3 else thI (CL sc 58 [.ref 2, .int a0] σ3) fun r6 σ5 => if (r6 = 0 : Prop) then RI (-3) σ5 else thI (CL sc 4 [.ref 9] σ5) fun r8 σ7 => if (r8 = 0 : Prop) then thI (CL sc 61 [.ref 2, .int a0, .int a1, .int a2] σ7) fun r10 σ9 => RI r10 σ9 else RI (-2) σ7) (EV sc (59, 0, 0, 0, [.ref 1, .int a0, .int a1, .int a2], [], (rp_L0, σ))) := by
  refine rp_lp (q := 1) rfl rfl rfl ?_
  refine rp_lci (uc' := 0) (us' := 0) rfl rfl rfl rfl rfl rfl rfl rfl (fun r2 σ1 => ?_)
  refine rp_lbr (a := 14) (b := 7) rfl rfl rfl ?_ ?_
  ·
    refine rp_lp (q := 15) rfl rfl rfl ?_
    exact rp_lri rfl rfl
  ·
    refine rp_lp (q := 8) rfl rfl rfl ?_
    refine rp_lci (uc' := 0) (us' := 0) rfl rfl rfl rfl rfl rfl rfl rfl (fun r4 σ3 => ?_)
    refine rp_lbr (a := 14) (b := 16) rfl rfl rfl ?_ ?_
    ·
      refine rp_lp (q := 15) rfl rfl rfl ?_
      exact rp_lri rfl rfl
    ·
      refine rp_lp (q := 17) rfl rfl rfl ?_
      refine rp_lgf rfl rfl rfl ?_
      refine rp_lp (q := 21) rfl rfl rfl ?_
      refine rp_lci (uc' := 0) (us' := 0) rfl (rp_rcv rfl) rfl rfl rfl rfl rfl rfl (fun r6 σ5 => ?_)
      refine rp_lbr (a := 27) (b := 30) rfl rfl rfl ?_ ?_
      ·
        refine rp_lp (q := 29) rfl rfl rfl ?_
        exact rp_lri rfl rfl
      ·
        refine rp_lp (q := 31) rfl rfl rfl ?_
        refine rp_lgf rfl rfl rfl ?_
        refine rp_lgf rfl rfl rfl ?_
        refine rp_lci (uc' := 0) (us' := 0) rfl (rp_rcv rfl) rfl rfl rfl rfl rfl rfl (fun r8 σ7 => ?_)
        refine rp_lbr (a := 46) (b := 43) rfl rfl rfl ?_ ?_
        ·
          refine rp_lp (q := 47) rfl rfl rfl ?_
          refine rp_lgf rfl rfl rfl ?_
          refine rp_lp (q := 51) rfl rfl rfl ?_
          refine rp_lp (q := 52) rfl rfl rfl ?_
          refine rp_lp (q := 53) rfl rfl rfl ?_
          refine rp_lci (uc' := 0) (us' := 0) rfl (rp_rcv rfl) rfl rfl rfl rfl rfl rfl (fun r10 σ9 => ?_)
          exact rp_lri rfl rfl
        ·
          refine rp_lp (q := 45) rfl rfl rfl ?_
          exact rp_lri rfl rfl
-- RailPasses_isDay
set_option maxRecDepth 20000 in
theorem D_RailPasses_isDay_0 {sc : rp_Sc} (a0 : Int32) (σ : rp_Mm) : rp_Le (thI (CL sc 15 [.int a0, .int 0, .int 120] σ) fun r2 σ1 => if r2 &&& 1 = r2 then RI r2 σ1 else none) (EV sc (60, 0, 0, 0, [.int a0], [], (rp_L0, σ))) := by
  refine rp_lp (q := 1) rfl rfl rfl ?_
  refine rp_lp (q := 2) rfl rfl rfl ?_
  refine rp_lp (q := 4) rfl rfl rfl ?_
  refine rp_lci (uc' := 0) (us' := 0) rfl rfl rfl rfl rfl rfl rfl rfl (fun r2 σ1 => ?_)
  exact rp_lrq rfl rfl
-- Book_addPass
set_option maxRecDepth 20000 in
theorem D_Book_addPass_0 {sc : rp_Sc} (a0 : Int32) (a1 : Int32) (a2 : Int32) (σ : rp_Mm) : rp_Le (thI (CL sc 3 [.ref 9] σ) fun r2 σ1 => EV sc (61, 0, 0, 12, [.ref 2, .int a0, .int a1, .int a2, .int r2, .int 0], [], (rp_L0, σ1))) (EV sc (61, 0, 0, 0, [.ref 2, .int a0, .int a1, .int a2, rp_U, rp_U], [], (rp_L0, σ))) := by
  refine rp_lp (q := 1) rfl rfl rfl ?_
  refine rp_lgf rfl rfl rfl ?_
  refine rp_lci (uc' := 0) (us' := 0) rfl (rp_rcv rfl) rfl rfl rfl rfl rfl rfl (fun r2 σ1 => ?_)
  refine rp_lp (q := 9) (ls' := [.ref 2, .int a0, .int a1, .int a2, .int r2, rp_U]) rfl rfl rfl ?_
  refine rp_lp (q := 10) rfl rfl rfl ?_
  refine rp_lp (q := 12) (ls' := [.ref 2, .int a0, .int a1, .int a2, .int r2, .int 0]) rfl rfl rfl ?_
  exact rp_Le_rfl
set_option maxRecDepth 20000 in
theorem D_Book_addPass_12 {sc : rp_Sc} (x1 : Int32) (x2 : Int32) (x3 : Int32) (x4 : Int32) (x5 : Int32) (σ : rp_Mm) : rp_Le (if (11 ≤ x5 : Prop) then thI (CL sc 20 [.ref 7, .int x1, .int 2] σ) fun r2 σ1 => if (x3 = 0 : Prop) then EV sc (61, 0, 0, 89, [.ref 2, .int x1, .int x2, .int x3, .int x4, .int r2], [.int r2, .int 11, .int x4, .ref 9], (rp_L0, σ1)) else thI (CL sc 20 [.ref 7, .int x1, .int 8] σ1) fun r4 σ3 => thI (CL sc 62 [.int r2, .int r4] σ3) fun r6 σ5 => EV sc (61, 0, 0, 89, [.ref 2, .int x1, .int x2, .int x3, .int x4, .int r2], [.int r6, .int 11, .int x4, .ref 9], (rp_L0, σ5)) else thI (CL sc 20 [.ref 7, .int x1, .int x5] σ) fun r8 σ7 => thV (CL sc 5 [.ref 9, .int x4, .int x5, .int r8] σ7) fun σ9 => EV sc (61, 0, 0, 12, [.ref 2, .int x1, .int x2, .int x3, .int x4, .int (x5 + 1)], [], (rp_L0, σ9))) (EV sc (61, 0, 0, 12, [.ref 2, .int x1, .int x2, .int x3, .int x4, .int x5], [], (rp_L0, σ))) := by
  refine rp_lp (q := 14) rfl rfl rfl ?_
  refine rp_lp (q := 16) rfl rfl rfl ?_
  refine rp_lbr (a := 46) (b := 19) rfl rfl rfl ?_ ?_
  ·
    refine rp_lp (q := 47) rfl rfl rfl ?_
    refine rp_lgf rfl rfl rfl ?_
    refine rp_lp (q := 51) rfl rfl rfl ?_
    refine rp_lp (q := 52) rfl rfl rfl ?_
    refine rp_lci (uc' := 0) (us' := 0) rfl (rp_rcv rfl) rfl rfl rfl rfl rfl rfl (fun r2 σ1 => ?_)
    refine rp_lp (q := 57) (ls' := [.ref 2, .int x1, .int x2, .int x3, .int x4, .int r2]) rfl rfl rfl ?_
    refine rp_lp (q := 58) rfl rfl rfl ?_
    refine rp_lgf rfl rfl rfl ?_
    refine rp_lp (q := 63) rfl rfl rfl ?_
    refine rp_lp (q := 65) rfl rfl rfl ?_
    refine rp_lp (q := 66) rfl rfl rfl ?_
    refine rp_lbr (a := 87) (b := 69) rfl rfl rfl ?_ ?_
    ·
      refine rp_lp (q := 89) rfl rfl rfl ?_
      exact rp_Le_rfl
    ·
      refine rp_lp (q := 71) rfl rfl rfl ?_
      refine rp_lp (q := 72) rfl rfl rfl ?_
      refine rp_lgf rfl rfl rfl ?_
      refine rp_lp (q := 76) rfl rfl rfl ?_
      refine rp_lp (q := 78) rfl rfl rfl ?_
      refine rp_lci (uc' := 0) (us' := 0) rfl (rp_rcv rfl) rfl rfl rfl rfl rfl rfl (fun r4 σ3 => ?_)
      refine rp_lci (uc' := 0) (us' := 0) rfl rfl rfl rfl rfl rfl rfl rfl (fun r6 σ5 => ?_)
      refine rp_lp (q := 89) rfl rfl rfl ?_
      exact rp_Le_rfl
  ·
    refine rp_lp (q := 20) rfl rfl rfl ?_
    refine rp_lgf rfl rfl rfl ?_
    refine rp_lp (q := 25) rfl rfl rfl ?_
    refine rp_lp (q := 27) rfl rfl rfl ?_
    refine rp_lp (q := 28) rfl rfl rfl ?_
    refine rp_lgf rfl rfl rfl ?_
    refine rp_lp (q := 32) rfl rfl rfl ?_
    refine rp_lp (q := 34) rfl rfl rfl ?_
    refine rp_lci (uc' := 0) (us' := 0) rfl (rp_rcv rfl) rfl rfl rfl rfl rfl rfl (fun r8 σ7 => ?_)
    refine rp_lcv (uc' := 0) (us' := 0) rfl (rp_rcv rfl) rfl rfl rfl rfl rfl rfl (fun σ9 => ?_)
    refine rp_lp (q := 43) (ls' := [.ref 2, .int x1, .int x2, .int x3, .int x4, .int (x5 + 1)]) rfl rfl rfl ?_
    refine rp_lp (q := 12) rfl rfl rfl ?_
    exact rp_Le_rfl
set_option maxRecDepth 20000 in
theorem D_Book_addPass_89 {sc : rp_Sc} (x1 : Int32) (x2 : Int32) (x3 : Int32) (x4 : Int32) (x5 : Int32) (y0 : Int32) (y1 : Int32) (y2 : Int32) (σ : rp_Mm) : rp_Le (thV (CL sc 5 [.ref 9, .int y2, .int y1, .int y0] σ) fun σ1 => thV (CL sc 5 [.ref 9, .int x4, .int 12, .int x1] σ1) fun σ2 => thV (CL sc 5 [.ref 9, .int x4, .int 13, .int x2] σ2) fun σ3 => RI x4 σ3) (EV sc (61, 0, 0, 89, [.ref 2, .int x1, .int x2, .int x3, .int x4, .int x5], [.int y0, .int y1, .int y2, .ref 9], (rp_L0, σ))) := by
  refine rp_lcv (uc' := 0) (us' := 0) rfl (rp_rcv rfl) rfl rfl rfl rfl rfl rfl (fun σ1 => ?_)
  refine rp_lp (q := 93) rfl rfl rfl ?_
  refine rp_lgf rfl rfl rfl ?_
  refine rp_lp (q := 98) rfl rfl rfl ?_
  refine rp_lp (q := 100) rfl rfl rfl ?_
  refine rp_lp (q := 101) rfl rfl rfl ?_
  refine rp_lcv (uc' := 0) (us' := 0) rfl (rp_rcv rfl) rfl rfl rfl rfl rfl rfl (fun σ2 => ?_)
  refine rp_lp (q := 105) rfl rfl rfl ?_
  refine rp_lgf rfl rfl rfl ?_
  refine rp_lp (q := 110) rfl rfl rfl ?_
  refine rp_lp (q := 112) rfl rfl rfl ?_
  refine rp_lp (q := 113) rfl rfl rfl ?_
  refine rp_lcv (uc' := 0) (us' := 0) rfl (rp_rcv rfl) rfl rfl rfl rfl rfl rfl (fun σ3 => ?_)
  refine rp_lp (q := 118) rfl rfl rfl ?_
  exact rp_lri rfl rfl
-- RailPasses_percents
set_option maxRecDepth 20000 in
theorem D_RailPasses_percents_0 {sc : rp_Sc} (a0 : Int32) (a1 : Int32) (σ : rp_Mm) : rp_Le (RI ((a0 * a1) / (100 : Int32)) σ) (EV sc (62, 0, 0, 0, [.int a0, .int a1], [], (rp_L0, σ))) := by
  refine rp_lp (q := 1) rfl rfl rfl ?_
  refine rp_lp (q := 2) rfl rfl rfl ?_
  refine rp_lp (q := 3) rfl rfl rfl ?_
  refine rp_lp (q := 5) rfl rfl rfl ?_
  refine rp_ldv rfl (by decide) ?_
  exact rp_lri rfl rfl
-- RailPasses_pass
set_option maxRecDepth 20000 in
theorem D_RailPasses_pass_0 {sc : rp_Sc} (a0 : Int32) (a1 : Int32) (σ : rp_Mm) : rp_Le (thI (CL sc 25 [.ref 9, .int a0] σ) fun r2 σ1 => if (r2 = 0 : Prop) then RI (-1) σ1 else if a1 = 0 then thI (CL sc 20 [.ref 9, .int a0, .int 11] σ1) fun r4 σ3 => RI r4 σ3 else if a1 = 1 then thI (CL sc 20 [.ref 9, .int a0, .int 12] σ1) fun r6 σ5 => RI r6 σ5 else if a1 = 2 then thI (CL sc 20 [.ref 9, .int a0, .int 13] σ1) fun r8 σ7 => RI r8 σ7 else if a1 = 3 then thI (CL sc 64 [.ref 2, .int a0] σ1) fun r10 σ9 => RI r10 σ9 else if a1 = 4 then thI (CL sc 66 [.ref 2, .int a0] σ1) fun r12 σ11 => RI r12 σ11 else if a1 = 5 then thI (CL sc 67 [.ref 2, .int a0] σ1) fun r14 σ13 => RI r14 σ13 else if a1 = 6 then thI (CL sc 20 [.ref 9, .int a0, .int 14] σ1) fun r16 σ15 => RI r16 σ15 else if a1 = 7 then thI (CL sc 68 [.ref 2, .int a0] σ1) fun r18 σ17 => RI r18 σ17 else if a1 = 8 then thI (CL sc 70 [.ref 2, .int a0] σ1) fun r20 σ19 => RI r20 σ19 else RI (-1) σ1) (EV sc (63, 0, 0, 0, [.ref 1, .int a0, .int a1], [], (rp_L0, σ))) := by
  refine rp_lp (q := 1) rfl rfl rfl ?_
  refine rp_lgf rfl rfl rfl ?_
  refine rp_lgf rfl rfl rfl ?_
  refine rp_lp (q := 8) rfl rfl rfl ?_
  refine rp_lci (uc' := 0) (us' := 0) rfl (rp_rcv rfl) rfl rfl rfl rfl rfl rfl (fun r2 σ1 => ?_)
  refine rp_lbr (a := 14) (b := 16) rfl rfl rfl ?_ ?_
  ·
    refine rp_lp (q := 15) rfl rfl rfl ?_
    exact rp_lri rfl rfl
  ·
    refine rp_lp (q := 17) rfl rfl rfl ?_
    refine rp_lsw rfl rfl rfl ?_
    refine rp_swc ?_ ?_
    ·
      refine rp_lp (q := 69) rfl rfl rfl ?_
      refine rp_lgf rfl rfl rfl ?_
      refine rp_lgf rfl rfl rfl ?_
      refine rp_lp (q := 76) rfl rfl rfl ?_
      refine rp_lp (q := 78) rfl rfl rfl ?_
      refine rp_lci (uc' := 0) (us' := 0) rfl (rp_rcv rfl) rfl rfl rfl rfl rfl rfl (fun r4 σ3 => ?_)
      exact rp_lri rfl rfl
    ·
      refine rp_swc ?_ ?_
      ·
        refine rp_lp (q := 83) rfl rfl rfl ?_
        refine rp_lgf rfl rfl rfl ?_
        refine rp_lgf rfl rfl rfl ?_
        refine rp_lp (q := 90) rfl rfl rfl ?_
        refine rp_lp (q := 92) rfl rfl rfl ?_
        refine rp_lci (uc' := 0) (us' := 0) rfl (rp_rcv rfl) rfl rfl rfl rfl rfl rfl (fun r6 σ5 => ?_)
        exact rp_lri rfl rfl
      ·
        refine rp_swc ?_ ?_
        ·
          refine rp_lp (q := 97) rfl rfl rfl ?_
          refine rp_lgf rfl rfl rfl ?_
          refine rp_lgf rfl rfl rfl ?_
          refine rp_lp (q := 104) rfl rfl rfl ?_
          refine rp_lp (q := 106) rfl rfl rfl ?_
          refine rp_lci (uc' := 0) (us' := 0) rfl (rp_rcv rfl) rfl rfl rfl rfl rfl rfl (fun r8 σ7 => ?_)
          exact rp_lri rfl rfl
        ·
          refine rp_swc ?_ ?_
          ·
            refine rp_lp (q := 111) rfl rfl rfl ?_
            refine rp_lgf rfl rfl rfl ?_
            refine rp_lp (q := 115) rfl rfl rfl ?_
            refine rp_lci (uc' := 0) (us' := 0) rfl (rp_rcv rfl) rfl rfl rfl rfl rfl rfl (fun r10 σ9 => ?_)
            exact rp_lri rfl rfl
          ·
            refine rp_swc ?_ ?_
            ·
              refine rp_lp (q := 120) rfl rfl rfl ?_
              refine rp_lgf rfl rfl rfl ?_
              refine rp_lp (q := 124) rfl rfl rfl ?_
              refine rp_lci (uc' := 0) (us' := 0) rfl (rp_rcv rfl) rfl rfl rfl rfl rfl rfl (fun r12 σ11 => ?_)
              exact rp_lri rfl rfl
            ·
              refine rp_swc ?_ ?_
              ·
                refine rp_lp (q := 129) rfl rfl rfl ?_
                refine rp_lgf rfl rfl rfl ?_
                refine rp_lp (q := 133) rfl rfl rfl ?_
                refine rp_lci (uc' := 0) (us' := 0) rfl (rp_rcv rfl) rfl rfl rfl rfl rfl rfl (fun r14 σ13 => ?_)
                exact rp_lri rfl rfl
              ·
                refine rp_swc ?_ ?_
                ·
                  refine rp_lp (q := 138) rfl rfl rfl ?_
                  refine rp_lgf rfl rfl rfl ?_
                  refine rp_lgf rfl rfl rfl ?_
                  refine rp_lp (q := 145) rfl rfl rfl ?_
                  refine rp_lp (q := 147) rfl rfl rfl ?_
                  refine rp_lci (uc' := 0) (us' := 0) rfl (rp_rcv rfl) rfl rfl rfl rfl rfl rfl (fun r16 σ15 => ?_)
                  exact rp_lri rfl rfl
                ·
                  refine rp_swc ?_ ?_
                  ·
                    refine rp_lp (q := 152) rfl rfl rfl ?_
                    refine rp_lgf rfl rfl rfl ?_
                    refine rp_lp (q := 156) rfl rfl rfl ?_
                    refine rp_lci (uc' := 0) (us' := 0) rfl (rp_rcv rfl) rfl rfl rfl rfl rfl rfl (fun r18 σ17 => ?_)
                    exact rp_lri rfl rfl
                  ·
                    refine rp_swc ?_ ?_
                    ·
                      refine rp_lp (q := 161) rfl rfl rfl ?_
                      refine rp_lgf rfl rfl rfl ?_
                      refine rp_lp (q := 165) rfl rfl rfl ?_
                      refine rp_lci (uc' := 0) (us' := 0) rfl (rp_rcv rfl) rfl rfl rfl rfl rfl rfl (fun r20 σ19 => ?_)
                      exact rp_lri rfl rfl
                    ·
                      refine rp_lp (q := 170) rfl rfl rfl ?_
                      exact rp_lri rfl rfl
-- Book_countedDays
set_option maxRecDepth 20000 in
theorem D_Book_countedDays_0 {sc : rp_Sc} (a0 : Int32) (σ : rp_Mm) : rp_Le (EV sc (64, 0, 0, 4, [.ref 2, .int a0, .int 0, .int 0], [], (rp_L0, σ))) (EV sc (64, 0, 0, 0, [.ref 2, .int a0, rp_U, rp_U], [], (rp_L0, σ))) := by
  refine rp_lp (q := 1) rfl rfl rfl ?_
  refine rp_lp (q := 2) (ls' := [.ref 2, .int a0, .int 0, rp_U]) rfl rfl rfl ?_
  refine rp_lp (q := 3) rfl rfl rfl ?_
  refine rp_lp (q := 4) (ls' := [.ref 2, .int a0, .int 0, .int 0]) rfl rfl rfl ?_
  exact rp_Le_rfl
set_option maxRecDepth 20000 in
theorem D_Book_countedDays_4 {sc : rp_Sc} (x1 : Int32) (x2 : Int32) (x3 : Int32) (σ : rp_Mm) : rp_Le (thI (CL sc 19 [.ref 11] σ) fun r2 σ1 => if (r2 ≤ x3 : Prop) then RI x2 σ1 else thI (CL sc 20 [.ref 11, .int x3, .int 0] σ1) fun r4 σ3 => if (r4 = x1 : Prop) then thI (CL sc 20 [.ref 11, .int x3, .int 3] σ3) fun r6 σ5 => thI (CL sc 65 [.ref 2, .int x1, .int r6, .int x3] σ5) fun r8 σ7 => if (r8 = 0 : Prop) then EV sc (64, 0, 0, 49, [.ref 2, .int x1, .int (x2 + 1), .int x3], [], (rp_L0, σ7)) else EV sc (64, 0, 0, 49, [.ref 2, .int x1, .int x2, .int x3], [], (rp_L0, σ7)) else EV sc (64, 0, 0, 49, [.ref 2, .int x1, .int x2, .int x3], [], (rp_L0, σ3))) (EV sc (64, 0, 0, 4, [.ref 2, .int x1, .int x2, .int x3], [], (rp_L0, σ))) := by
  refine rp_lp (q := 5) rfl rfl rfl ?_
  refine rp_lp (q := 6) rfl rfl rfl ?_
  refine rp_lgf rfl rfl rfl ?_
  refine rp_lci (uc' := 0) (us' := 0) rfl (rp_rcv rfl) rfl rfl rfl rfl rfl rfl (fun r2 σ1 => ?_)
  refine rp_lbr (a := 55) (b := 15) rfl rfl rfl ?_ ?_
  ·
    refine rp_lp (q := 56) rfl rfl rfl ?_
    exact rp_lri rfl rfl
  ·
    refine rp_lp (q := 16) rfl rfl rfl ?_
    refine rp_lgf rfl rfl rfl ?_
    refine rp_lp (q := 20) rfl rfl rfl ?_
    refine rp_lp (q := 21) rfl rfl rfl ?_
    refine rp_lci (uc' := 0) (us' := 0) rfl (rp_rcv rfl) rfl rfl rfl rfl rfl rfl (fun r4 σ3 => ?_)
    refine rp_lp (q := 25) rfl rfl rfl ?_
    refine rp_lbr (a := 28) (b := 49) rfl rfl rfl ?_ ?_
    ·
      refine rp_lp (q := 29) rfl rfl rfl ?_
      refine rp_lp (q := 30) rfl rfl rfl ?_
      refine rp_lp (q := 31) rfl rfl rfl ?_
      refine rp_lgf rfl rfl rfl ?_
      refine rp_lp (q := 35) rfl rfl rfl ?_
      refine rp_lp (q := 36) rfl rfl rfl ?_
      refine rp_lci (uc' := 0) (us' := 0) rfl (rp_rcv rfl) rfl rfl rfl rfl rfl rfl (fun r6 σ5 => ?_)
      refine rp_lp (q := 40) rfl rfl rfl ?_
      refine rp_lci (uc' := 0) (us' := 0) rfl (rp_rcv rfl) rfl rfl rfl rfl rfl rfl (fun r8 σ7 => ?_)
      refine rp_lbr (a := 46) (b := 49) rfl rfl rfl ?_ ?_
      ·
        refine rp_lp (q := 49) (ls' := [.ref 2, .int x1, .int (x2 + 1), .int x3]) rfl rfl rfl ?_
        exact rp_Le_rfl
      ·
        exact rp_Le_rfl
    ·
      exact rp_Le_rfl
set_option maxRecDepth 20000 in
theorem D_Book_countedDays_49 {sc : rp_Sc} (x1 : Int32) (x2 : Int32) (x3 : Int32) (σ : rp_Mm) : rp_Le (EV sc (64, 0, 0, 4, [.ref 2, .int x1, .int x2, .int (x3 + 1)], [], (rp_L0, σ))) (EV sc (64, 0, 0, 49, [.ref 2, .int x1, .int x2, .int x3], [], (rp_L0, σ))) := by
  refine rp_lp (q := 52) (ls' := [.ref 2, .int x1, .int x2, .int (x3 + 1)]) rfl rfl rfl ?_
  refine rp_lp (q := 4) rfl rfl rfl ?_
  exact rp_Le_rfl
-- Book_isCounted
set_option maxRecDepth 20000 in
theorem D_Book_isCounted_0 {sc : rp_Sc} (a0 : Int32) (a1 : Int32) (a2 : Int32) (σ : rp_Mm) : rp_Le (EV sc (65, 0, 0, 3, [.ref 2, .int a0, .int a1, .int a2, .int 0], [], (rp_L0, σ))) (EV sc (65, 0, 0, 0, [.ref 2, .int a0, .int a1, .int a2, rp_U], [], (rp_L0, σ))) := by
  refine rp_lp (q := 1) rfl rfl rfl ?_
  refine rp_lp (q := 3) (ls' := [.ref 2, .int a0, .int a1, .int a2, .int 0]) rfl rfl rfl ?_
  exact rp_Le_rfl
set_option maxRecDepth 20000 in
theorem D_Book_isCounted_3 {sc : rp_Sc} (x1 : Int32) (x2 : Int32) (x3 : Int32) (x4 : Int32) (σ : rp_Mm) : rp_Le (if (x3 ≤ x4 : Prop) then RI 0 σ else thI (CL sc 19 [.ref 11] σ) fun r2 σ1 => if (r2 ≤ x4 : Prop) then RI 0 σ1 else thI (CL sc 20 [.ref 11, .int x4, .int 0] σ1) fun r4 σ3 => if (r4 = x1 : Prop) then thI (CL sc 20 [.ref 11, .int x4, .int 3] σ3) fun r6 σ5 => if (r6 = x2 : Prop) then RI 1 σ5 else EV sc (65, 0, 0, 51, [.ref 2, .int x1, .int x2, .int x3, .int x4], [], (rp_L0, σ5)) else EV sc (65, 0, 0, 51, [.ref 2, .int x1, .int x2, .int x3, .int x4], [], (rp_L0, σ3))) (EV sc (65, 0, 0, 3, [.ref 2, .int x1, .int x2, .int x3, .int x4], [], (rp_L0, σ))) := by
  refine rp_lp (q := 5) rfl rfl rfl ?_
  refine rp_lp (q := 6) rfl rfl rfl ?_
  refine rp_lbr (a := 57) (b := 9) rfl rfl rfl ?_ ?_
  ·
    refine rp_lp (q := 58) rfl rfl rfl ?_
    exact rp_lrz rfl rfl (by decide)
  ·
    refine rp_lp (q := 11) rfl rfl rfl ?_
    refine rp_lp (q := 12) rfl rfl rfl ?_
    refine rp_lgf rfl rfl rfl ?_
    refine rp_lci (uc' := 0) (us' := 0) rfl (rp_rcv rfl) rfl rfl rfl rfl rfl rfl (fun r2 σ1 => ?_)
    refine rp_lbr (a := 57) (b := 21) rfl rfl rfl ?_ ?_
    ·
      refine rp_lp (q := 58) rfl rfl rfl ?_
      exact rp_lrz rfl rfl (by decide)
    ·
      refine rp_lp (q := 22) rfl rfl rfl ?_
      refine rp_lgf rfl rfl rfl ?_
      refine rp_lp (q := 27) rfl rfl rfl ?_
      refine rp_lp (q := 28) rfl rfl rfl ?_
      refine rp_lci (uc' := 0) (us' := 0) rfl (rp_rcv rfl) rfl rfl rfl rfl rfl rfl (fun r4 σ3 => ?_)
      refine rp_lp (q := 32) rfl rfl rfl ?_
      refine rp_lbr (a := 35) (b := 51) rfl rfl rfl ?_ ?_
      ·
        refine rp_lp (q := 36) rfl rfl rfl ?_
        refine rp_lgf rfl rfl rfl ?_
        refine rp_lp (q := 41) rfl rfl rfl ?_
        refine rp_lp (q := 42) rfl rfl rfl ?_
        refine rp_lci (uc' := 0) (us' := 0) rfl (rp_rcv rfl) rfl rfl rfl rfl rfl rfl (fun r6 σ5 => ?_)
        refine rp_lp (q := 46) rfl rfl rfl ?_
        refine rp_lbr (a := 49) (b := 51) rfl rfl rfl ?_ ?_
        ·
          refine rp_lp (q := 50) rfl rfl rfl ?_
          exact rp_lrz rfl rfl (by decide)
        ·
          exact rp_Le_rfl
      ·
        exact rp_Le_rfl
set_option maxRecDepth 20000 in
theorem D_Book_isCounted_51 {sc : rp_Sc} (x1 : Int32) (x2 : Int32) (x3 : Int32) (x4 : Int32) (σ : rp_Mm) : rp_Le (EV sc (65, 0, 0, 3, [.ref 2, .int x1, .int x2, .int x3, .int (x4 + 1)], [], (rp_L0, σ))) (EV sc (65, 0, 0, 51, [.ref 2, .int x1, .int x2, .int x3, .int x4], [], (rp_L0, σ))) := by
  refine rp_lp (q := 54) (ls' := [.ref 2, .int x1, .int x2, .int x3, .int (x4 + 1)]) rfl rfl rfl ?_
  refine rp_lp (q := 3) rfl rfl rfl ?_
  exact rp_Le_rfl
-- Book_ridesBy
set_option maxRecDepth 20000 in
theorem D_Book_ridesBy_0 {sc : rp_Sc} (a0 : Int32) (σ : rp_Mm) : rp_Le (EV sc (66, 0, 0, 4, [.ref 2, .int a0, .int 0, .int 0], [], (rp_L0, σ))) (EV sc (66, 0, 0, 0, [.ref 2, .int a0, rp_U, rp_U], [], (rp_L0, σ))) := by
  refine rp_lp (q := 1) rfl rfl rfl ?_
  refine rp_lp (q := 2) (ls' := [.ref 2, .int a0, .int 0, rp_U]) rfl rfl rfl ?_
  refine rp_lp (q := 3) rfl rfl rfl ?_
  refine rp_lp (q := 4) (ls' := [.ref 2, .int a0, .int 0, .int 0]) rfl rfl rfl ?_
  exact rp_Le_rfl
set_option maxRecDepth 20000 in
theorem D_Book_ridesBy_4 {sc : rp_Sc} (x1 : Int32) (x2 : Int32) (x3 : Int32) (σ : rp_Mm) : rp_Le (thI (CL sc 19 [.ref 11] σ) fun r2 σ1 => if (r2 ≤ x3 : Prop) then RI x2 σ1 else thI (CL sc 20 [.ref 11, .int x3, .int 0] σ1) fun r4 σ3 => if (r4 = x1 : Prop) then EV sc (66, 0, 0, 31, [.ref 2, .int x1, .int (x2 + 1), .int x3], [], (rp_L0, σ3)) else EV sc (66, 0, 0, 31, [.ref 2, .int x1, .int x2, .int x3], [], (rp_L0, σ3))) (EV sc (66, 0, 0, 4, [.ref 2, .int x1, .int x2, .int x3], [], (rp_L0, σ))) := by
  refine rp_lp (q := 5) rfl rfl rfl ?_
  refine rp_lp (q := 6) rfl rfl rfl ?_
  refine rp_lgf rfl rfl rfl ?_
  refine rp_lci (uc' := 0) (us' := 0) rfl (rp_rcv rfl) rfl rfl rfl rfl rfl rfl (fun r2 σ1 => ?_)
  refine rp_lbr (a := 37) (b := 15) rfl rfl rfl ?_ ?_
  ·
    refine rp_lp (q := 38) rfl rfl rfl ?_
    exact rp_lri rfl rfl
  ·
    refine rp_lp (q := 16) rfl rfl rfl ?_
    refine rp_lgf rfl rfl rfl ?_
    refine rp_lp (q := 20) rfl rfl rfl ?_
    refine rp_lp (q := 21) rfl rfl rfl ?_
    refine rp_lci (uc' := 0) (us' := 0) rfl (rp_rcv rfl) rfl rfl rfl rfl rfl rfl (fun r4 σ3 => ?_)
    refine rp_lp (q := 25) rfl rfl rfl ?_
    refine rp_lbr (a := 28) (b := 31) rfl rfl rfl ?_ ?_
    ·
      refine rp_lp (q := 31) (ls' := [.ref 2, .int x1, .int (x2 + 1), .int x3]) rfl rfl rfl ?_
      exact rp_Le_rfl
    ·
      exact rp_Le_rfl
set_option maxRecDepth 20000 in
theorem D_Book_ridesBy_31 {sc : rp_Sc} (x1 : Int32) (x2 : Int32) (x3 : Int32) (σ : rp_Mm) : rp_Le (EV sc (66, 0, 0, 4, [.ref 2, .int x1, .int x2, .int (x3 + 1)], [], (rp_L0, σ))) (EV sc (66, 0, 0, 31, [.ref 2, .int x1, .int x2, .int x3], [], (rp_L0, σ))) := by
  refine rp_lp (q := 34) (ls' := [.ref 2, .int x1, .int x2, .int (x3 + 1)]) rfl rfl rfl ?_
  refine rp_lp (q := 4) rfl rfl rfl ?_
  exact rp_Le_rfl
-- Book_paidBy
set_option maxRecDepth 20000 in
theorem D_Book_paidBy_0 {sc : rp_Sc} (a0 : Int32) (σ : rp_Mm) : rp_Le (EV sc (67, 0, 0, 4, [.ref 2, .int a0, .int 0, .int 0], [], (rp_L0, σ))) (EV sc (67, 0, 0, 0, [.ref 2, .int a0, rp_U, rp_U], [], (rp_L0, σ))) := by
  refine rp_lp (q := 1) rfl rfl rfl ?_
  refine rp_lp (q := 2) (ls' := [.ref 2, .int a0, .int 0, rp_U]) rfl rfl rfl ?_
  refine rp_lp (q := 3) rfl rfl rfl ?_
  refine rp_lp (q := 4) (ls' := [.ref 2, .int a0, .int 0, .int 0]) rfl rfl rfl ?_
  exact rp_Le_rfl
set_option maxRecDepth 20000 in
theorem D_Book_paidBy_4 {sc : rp_Sc} (x1 : Int32) (x2 : Int32) (x3 : Int32) (σ : rp_Mm) : rp_Le (thI (CL sc 19 [.ref 11] σ) fun r2 σ1 => if (r2 ≤ x3 : Prop) then RI x2 σ1 else thI (CL sc 20 [.ref 11, .int x3, .int 0] σ1) fun r4 σ3 => if (r4 = x1 : Prop) then thI (CL sc 20 [.ref 11, .int x3, .int 4] σ3) fun r6 σ5 => EV sc (67, 0, 0, 40, [.ref 2, .int x1, .int (x2 + r6), .int x3], [], (rp_L0, σ5)) else EV sc (67, 0, 0, 40, [.ref 2, .int x1, .int x2, .int x3], [], (rp_L0, σ3))) (EV sc (67, 0, 0, 4, [.ref 2, .int x1, .int x2, .int x3], [], (rp_L0, σ))) := by
  refine rp_lp (q := 5) rfl rfl rfl ?_
  refine rp_lp (q := 6) rfl rfl rfl ?_
  refine rp_lgf rfl rfl rfl ?_
  refine rp_lci (uc' := 0) (us' := 0) rfl (rp_rcv rfl) rfl rfl rfl rfl rfl rfl (fun r2 σ1 => ?_)
  refine rp_lbr (a := 46) (b := 15) rfl rfl rfl ?_ ?_
  ·
    refine rp_lp (q := 47) rfl rfl rfl ?_
    exact rp_lri rfl rfl
  ·
    refine rp_lp (q := 16) rfl rfl rfl ?_
    refine rp_lgf rfl rfl rfl ?_
    refine rp_lp (q := 20) rfl rfl rfl ?_
    refine rp_lp (q := 21) rfl rfl rfl ?_
    refine rp_lci (uc' := 0) (us' := 0) rfl (rp_rcv rfl) rfl rfl rfl rfl rfl rfl (fun r4 σ3 => ?_)
    refine rp_lp (q := 25) rfl rfl rfl ?_
    refine rp_lbr (a := 28) (b := 40) rfl rfl rfl ?_ ?_
    ·
      refine rp_lp (q := 29) rfl rfl rfl ?_
      refine rp_lp (q := 30) rfl rfl rfl ?_
      refine rp_lgf rfl rfl rfl ?_
      refine rp_lp (q := 34) rfl rfl rfl ?_
      refine rp_lp (q := 35) rfl rfl rfl ?_
      refine rp_lci (uc' := 0) (us' := 0) rfl (rp_rcv rfl) rfl rfl rfl rfl rfl rfl (fun r6 σ5 => ?_)
      refine rp_lp (q := 39) rfl rfl rfl ?_
      refine rp_lp (q := 40) (ls' := [.ref 2, .int x1, .int (x2 + r6), .int x3]) rfl rfl rfl ?_
      exact rp_Le_rfl
    ·
      exact rp_Le_rfl
set_option maxRecDepth 20000 in
theorem D_Book_paidBy_40 {sc : rp_Sc} (x1 : Int32) (x2 : Int32) (x3 : Int32) (σ : rp_Mm) : rp_Le (EV sc (67, 0, 0, 4, [.ref 2, .int x1, .int x2, .int (x3 + 1)], [], (rp_L0, σ))) (EV sc (67, 0, 0, 40, [.ref 2, .int x1, .int x2, .int x3], [], (rp_L0, σ))) := by
  refine rp_lp (q := 43) (ls' := [.ref 2, .int x1, .int x2, .int (x3 + 1)]) rfl rfl rfl ?_
  refine rp_lp (q := 4) rfl rfl rfl ?_
  exact rp_Le_rfl
-- Book_refund
set_option maxRecDepth 20000 in
theorem D_Book_refund_0 {sc : rp_Sc} (a0 : Int32) (σ : rp_Mm) : rp_Le (thI (CL sc 20 [.ref 9, .int a0, .int 0] σ) fun r2 σ1 => if (0 < r2 : Prop) then thI (CL sc 69 [.ref 2, .int a0] σ1) fun r4 σ3 => if (r4 = 0 : Prop) then EV sc (68, 0, 0, 36, [.ref 2, .int a0, .int r2, rp_U], [.int 9, .int a0, .ref 9], (rp_L0, σ3)) else EV sc (68, 0, 0, 36, [.ref 2, .int a0, .int r2, rp_U], [.int 10, .int a0, .ref 9], (rp_L0, σ3)) else RI 0 σ1) (EV sc (68, 0, 0, 0, [.ref 2, .int a0, rp_U, rp_U], [], (rp_L0, σ))) := by
  refine rp_lp (q := 1) rfl rfl rfl ?_
  refine rp_lgf rfl rfl rfl ?_
  refine rp_lp (q := 5) rfl rfl rfl ?_
  refine rp_lp (q := 6) rfl rfl rfl ?_
  refine rp_lci (uc' := 0) (us' := 0) rfl (rp_rcv rfl) rfl rfl rfl rfl rfl rfl (fun r2 σ1 => ?_)
  refine rp_lp (q := 10) (ls' := [.ref 2, .int a0, .int r2, rp_U]) rfl rfl rfl ?_
  refine rp_lp (q := 11) rfl rfl rfl ?_
  refine rp_lbr (a := 16) (b := 14) rfl rfl rfl ?_ ?_
  ·
    refine rp_lp (q := 17) rfl rfl rfl ?_
    refine rp_lgf rfl rfl rfl ?_
    refine rp_lp (q := 21) rfl rfl rfl ?_
    refine rp_lp (q := 22) rfl rfl rfl ?_
    refine rp_lp (q := 23) rfl rfl rfl ?_
    refine rp_lci (uc' := 0) (us' := 0) rfl (rp_rcv rfl) rfl rfl rfl rfl rfl rfl (fun r4 σ3 => ?_)
    refine rp_lbr (a := 34) (b := 29) rfl rfl rfl ?_ ?_
    ·
      refine rp_lp (q := 36) rfl rfl rfl ?_
      exact rp_Le_rfl
    ·
      refine rp_lp (q := 31) rfl rfl rfl ?_
      refine rp_lp (q := 36) rfl rfl rfl ?_
      exact rp_Le_rfl
  ·
    refine rp_lp (q := 15) rfl rfl rfl ?_
    exact rp_lri rfl rfl
set_option maxRecDepth 20000 in
theorem D_Book_refund_36 {sc : rp_Sc} (x1 : Int32) (x2 : Int32) (y0 : Int32) (y1 : Int32) (σ : rp_Mm) : rp_Le (thI (CL sc 20 [.ref 9, .int y1, .int y0] σ) fun r2 σ1 => thI (CL sc 20 [.ref 9, .int x1, .int 11] σ1) fun r4 σ3 => thI (CL sc 64 [.ref 2, .int x1] σ3) fun r6 σ5 => if (100 : Int32) * x2 = 0 then none else RI (((r4 * (x2 - r6)) * r2) / ((100 : Int32) * x2)) σ5) (EV sc (68, 0, 0, 36, [.ref 2, .int x1, .int x2, rp_U], [.int y0, .int y1, .ref 9], (rp_L0, σ))) := by
  refine rp_lci (uc' := 0) (us' := 0) rfl (rp_rcv rfl) rfl rfl rfl rfl rfl rfl (fun r2 σ1 => ?_)
  refine rp_lp (q := 40) (ls' := [.ref 2, .int x1, .int x2, .int r2]) rfl rfl rfl ?_
  refine rp_lp (q := 41) rfl rfl rfl ?_
  refine rp_lgf rfl rfl rfl ?_
  refine rp_lp (q := 45) rfl rfl rfl ?_
  refine rp_lp (q := 47) rfl rfl rfl ?_
  refine rp_lci (uc' := 0) (us' := 0) rfl (rp_rcv rfl) rfl rfl rfl rfl rfl rfl (fun r4 σ3 => ?_)
  refine rp_lp (q := 51) rfl rfl rfl ?_
  refine rp_lp (q := 52) rfl rfl rfl ?_
  refine rp_lp (q := 53) rfl rfl rfl ?_
  refine rp_lci (uc' := 0) (us' := 0) rfl (rp_rcv rfl) rfl rfl rfl rfl rfl rfl (fun r6 σ5 => ?_)
  refine rp_lp (q := 57) rfl rfl rfl ?_
  refine rp_lp (q := 58) rfl rfl rfl ?_
  refine rp_lp (q := 59) rfl rfl rfl ?_
  refine rp_lp (q := 60) rfl rfl rfl ?_
  refine rp_lp (q := 62) rfl rfl rfl ?_
  refine rp_lp (q := 63) rfl rfl rfl ?_
  refine rp_lp (q := 64) rfl rfl rfl ?_
  refine rp_ldg rfl ?_
  exact rp_lri rfl rfl
-- Book_isLost
set_option maxRecDepth 20000 in
theorem D_Book_isLost_0 {sc : rp_Sc} (a0 : Int32) (σ : rp_Mm) : rp_Le (thI (CL sc 20 [.ref 9, .int a0, .int 14] σ) fun r2 σ1 => if (r2 = 1 : Prop) then RI 1 σ1 else RI 0 σ1) (EV sc (69, 0, 0, 0, [.ref 2, .int a0], [], (rp_L0, σ))) := by
  refine rp_lp (q := 1) rfl rfl rfl ?_
  refine rp_lgf rfl rfl rfl ?_
  refine rp_lp (q := 5) rfl rfl rfl ?_
  refine rp_lp (q := 7) rfl rfl rfl ?_
  refine rp_lci (uc' := 0) (us' := 0) rfl (rp_rcv rfl) rfl rfl rfl rfl rfl rfl (fun r2 σ1 => ?_)
  refine rp_lp (q := 11) rfl rfl rfl ?_
  refine rp_lbr (a := 14) (b := 18) rfl rfl rfl ?_ ?_
  ·
    refine rp_lp (q := 15) rfl rfl rfl ?_
    refine rp_lp (q := 19) rfl rfl rfl ?_
    exact rp_lrz rfl rfl (by decide)
  ·
    refine rp_lp (q := 19) rfl rfl rfl ?_
    exact rp_lrz rfl rfl (by decide)
-- Book_lastGoodDay
set_option maxRecDepth 20000 in
theorem D_Book_lastGoodDay_0 {sc : rp_Sc} (a0 : Int32) (σ : rp_Mm) : rp_Le (thI (CL sc 20 [.ref 9, .int a0, .int 13] σ) fun r2 σ1 => thI (CL sc 20 [.ref 9, .int a0, .int 1] σ1) fun r4 σ3 => RI ((r2 + r4) - (1 : Int32)) σ3) (EV sc (70, 0, 0, 0, [.ref 2, .int a0], [], (rp_L0, σ))) := by
  refine rp_lp (q := 1) rfl rfl rfl ?_
  refine rp_lgf rfl rfl rfl ?_
  refine rp_lp (q := 5) rfl rfl rfl ?_
  refine rp_lp (q := 7) rfl rfl rfl ?_
  refine rp_lci (uc' := 0) (us' := 0) rfl (rp_rcv rfl) rfl rfl rfl rfl rfl rfl (fun r2 σ1 => ?_)
  refine rp_lp (q := 11) rfl rfl rfl ?_
  refine rp_lgf rfl rfl rfl ?_
  refine rp_lp (q := 15) rfl rfl rfl ?_
  refine rp_lp (q := 16) rfl rfl rfl ?_
  refine rp_lci (uc' := 0) (us' := 0) rfl (rp_rcv rfl) rfl rfl rfl rfl rfl rfl (fun r4 σ3 => ?_)
  refine rp_lp (q := 20) rfl rfl rfl ?_
  refine rp_lp (q := 21) rfl rfl rfl ?_
  refine rp_lp (q := 22) rfl rfl rfl ?_
  exact rp_lri rfl rfl
-- RailPasses_may
set_option maxRecDepth 20000 in
theorem D_RailPasses_may_0 {sc : rp_Sc} (a0 : Int32) (a1 : Int32) (a2 : Int32) (σ : rp_Mm) : rp_Le (thI (CL sc 25 [.ref 9, .int a0] σ) fun r2 σ1 => if (r2 = 0 : Prop) then RI (-1) σ1 else thI (CL sc 25 [.ref 5, .int a1] σ1) fun r4 σ3 => if (r4 = 0 : Prop) then RI (-1) σ3 else thI (CL sc 60 [.int a2] σ3) fun r6 σ5 => if (r6 = 0 : Prop) then RI (-1) σ5 else thI (CL sc 72 [.ref 2, .int a0, .int a1, .int a2] σ5) fun r8 σ7 => RI r8 σ7) (EV sc (71, 0, 0, 0, [.ref 1, .int a0, .int a1, .int a2], [], (rp_L0, σ))) := by
  refine rp_lp (q := 1) rfl rfl rfl ?_
  refine rp_lgf rfl rfl rfl ?_
  refine rp_lgf rfl rfl rfl ?_
  refine rp_lp (q := 8) rfl rfl rfl ?_
  refine rp_lci (uc' := 0) (us' := 0) rfl (rp_rcv rfl) rfl rfl rfl rfl rfl rfl (fun r2 σ1 => ?_)
  refine rp_lbr (a := 35) (b := 14) rfl rfl rfl ?_ ?_
  ·
    refine rp_lp (q := 36) rfl rfl rfl ?_
    exact rp_lri rfl rfl
  ·
    refine rp_lp (q := 15) rfl rfl rfl ?_
    refine rp_lgf rfl rfl rfl ?_
    refine rp_lgf rfl rfl rfl ?_
    refine rp_lp (q := 22) rfl rfl rfl ?_
    refine rp_lci (uc' := 0) (us' := 0) rfl (rp_rcv rfl) rfl rfl rfl rfl rfl rfl (fun r4 σ3 => ?_)
    refine rp_lbr (a := 35) (b := 28) rfl rfl rfl ?_ ?_
    ·
      refine rp_lp (q := 36) rfl rfl rfl ?_
      exact rp_lri rfl rfl
    ·
      refine rp_lp (q := 29) rfl rfl rfl ?_
      refine rp_lci (uc' := 0) (us' := 0) rfl rfl rfl rfl rfl rfl rfl rfl (fun r6 σ5 => ?_)
      refine rp_lbr (a := 35) (b := 37) rfl rfl rfl ?_ ?_
      ·
        refine rp_lp (q := 36) rfl rfl rfl ?_
        exact rp_lri rfl rfl
      ·
        refine rp_lp (q := 38) rfl rfl rfl ?_
        refine rp_lgf rfl rfl rfl ?_
        refine rp_lp (q := 42) rfl rfl rfl ?_
        refine rp_lp (q := 43) rfl rfl rfl ?_
        refine rp_lp (q := 44) rfl rfl rfl ?_
        refine rp_lci (uc' := 0) (us' := 0) rfl (rp_rcv rfl) rfl rfl rfl rfl rfl rfl (fun r8 σ7 => ?_)
        exact rp_lri rfl rfl
-- Book_bar
set_option maxRecDepth 20000 in
theorem D_Book_bar_0 {sc : rp_Sc} (a0 : Int32) (a1 : Int32) (a2 : Int32) (σ : rp_Mm) : rp_Le (thI (CL sc 73 [.ref 2, .ref 9, .int a0, .int a1, .int a2] σ) fun r2 σ1 => thI (CL sc 74 [.ref 2, .ref 9, .int a0, .int a1] σ1) fun r4 σ3 => if (r4 = 0 : Prop) then RI 1 σ3 else thI (CL sc 20 [.ref 9, .int a0, .int 13] σ3) fun r6 σ5 => if (r2 < r6 : Prop) then RI 2 σ5 else thI (CL sc 70 [.ref 2, .int a0] σ5) fun r8 σ7 => if (r2 ≤ r8 : Prop) then thI (CL sc 69 [.ref 2, .int a0] σ7) fun r10 σ9 => if (r10 = 0 : Prop) then thI (CL sc 19 [.ref 11] σ9) fun r12 σ11 => thI (CL sc 65 [.ref 2, .int a0, .int r2, .int r12] σ11) fun r14 σ13 => if (r14 = 0 : Prop) then thI (CL sc 64 [.ref 2, .int a0] σ13) fun r16 σ15 => thI (CL sc 20 [.ref 9, .int a0, .int 0] σ15) fun r18 σ17 => if (r16 < r18 : Prop) then EV sc (72, 0, 0, 101, [.ref 2, .int a0, .int a1, .int a2, .int r2], [], (rp_L0, σ17)) else RI 4 σ17 else EV sc (72, 0, 0, 101, [.ref 2, .int a0, .int a1, .int a2, .int r2], [], (rp_L0, σ13)) else RI 3 σ9 else RI 2 σ7) (EV sc (72, 0, 0, 0, [.ref 2, .int a0, .int a1, .int a2, rp_U], [], (rp_L0, σ))) := by
  refine rp_lp (q := 1) rfl rfl rfl ?_
  refine rp_lp (q := 2) rfl rfl rfl ?_
  refine rp_lgf rfl rfl rfl ?_
  refine rp_lp (q := 6) rfl rfl rfl ?_
  refine rp_lp (q := 7) rfl rfl rfl ?_
  refine rp_lp (q := 8) rfl rfl rfl ?_
  refine rp_lci (uc' := 0) (us' := 0) rfl (rp_rcv rfl) rfl rfl rfl rfl rfl rfl (fun r2 σ1 => ?_)
  refine rp_lp (q := 13) (ls' := [.ref 2, .int a0, .int a1, .int a2, .int r2]) rfl rfl rfl ?_
  refine rp_lp (q := 14) rfl rfl rfl ?_
  refine rp_lp (q := 15) rfl rfl rfl ?_
  refine rp_lgf rfl rfl rfl ?_
  refine rp_lp (q := 19) rfl rfl rfl ?_
  refine rp_lp (q := 20) rfl rfl rfl ?_
  refine rp_lci (uc' := 0) (us' := 0) rfl (rp_rcv rfl) rfl rfl rfl rfl rfl rfl (fun r4 σ3 => ?_)
  refine rp_lbr (a := 26) (b := 28) rfl rfl rfl ?_ ?_
  ·
    refine rp_lp (q := 27) rfl rfl rfl ?_
    exact rp_lri rfl rfl
  ·
    refine rp_lp (q := 30) rfl rfl rfl ?_
    refine rp_lp (q := 31) rfl rfl rfl ?_
    refine rp_lgf rfl rfl rfl ?_
    refine rp_lp (q := 35) rfl rfl rfl ?_
    refine rp_lp (q := 37) rfl rfl rfl ?_
    refine rp_lci (uc' := 0) (us' := 0) rfl (rp_rcv rfl) rfl rfl rfl rfl rfl rfl (fun r6 σ5 => ?_)
    refine rp_lbr (a := 53) (b := 43) rfl rfl rfl ?_ ?_
    ·
      refine rp_lp (q := 54) rfl rfl rfl ?_
      exact rp_lri rfl rfl
    ·
      refine rp_lp (q := 45) rfl rfl rfl ?_
      refine rp_lp (q := 46) rfl rfl rfl ?_
      refine rp_lp (q := 47) rfl rfl rfl ?_
      refine rp_lci (uc' := 0) (us' := 0) rfl (rp_rcv rfl) rfl rfl rfl rfl rfl rfl (fun r8 σ7 => ?_)
      refine rp_lbr (a := 55) (b := 53) rfl rfl rfl ?_ ?_
      ·
        refine rp_lp (q := 56) rfl rfl rfl ?_
        refine rp_lp (q := 57) rfl rfl rfl ?_
        refine rp_lci (uc' := 0) (us' := 0) rfl (rp_rcv rfl) rfl rfl rfl rfl rfl rfl (fun r10 σ9 => ?_)
        refine rp_lbr (a := 65) (b := 63) rfl rfl rfl ?_ ?_
        ·
          refine rp_lp (q := 66) rfl rfl rfl ?_
          refine rp_lp (q := 67) rfl rfl rfl ?_
          refine rp_lp (q := 69) rfl rfl rfl ?_
          refine rp_lp (q := 70) rfl rfl rfl ?_
          refine rp_lgf rfl rfl rfl ?_
          refine rp_lci (uc' := 0) (us' := 0) rfl (rp_rcv rfl) rfl rfl rfl rfl rfl rfl (fun r12 σ11 => ?_)
          refine rp_lci (uc' := 0) (us' := 0) rfl (rp_rcv rfl) rfl rfl rfl rfl rfl rfl (fun r14 σ13 => ?_)
          refine rp_lbr (a := 82) (b := 101) rfl rfl rfl ?_ ?_
          ·
            refine rp_lp (q := 83) rfl rfl rfl ?_
            refine rp_lp (q := 84) rfl rfl rfl ?_
            refine rp_lci (uc' := 0) (us' := 0) rfl (rp_rcv rfl) rfl rfl rfl rfl rfl rfl (fun r16 σ15 => ?_)
            refine rp_lp (q := 88) rfl rfl rfl ?_
            refine rp_lgf rfl rfl rfl ?_
            refine rp_lp (q := 92) rfl rfl rfl ?_
            refine rp_lp (q := 93) rfl rfl rfl ?_
            refine rp_lci (uc' := 0) (us' := 0) rfl (rp_rcv rfl) rfl rfl rfl rfl rfl rfl (fun r18 σ17 => ?_)
            refine rp_lbr (a := 101) (b := 99) rfl rfl rfl ?_ ?_
            ·
              exact rp_Le_rfl
            ·
              refine rp_lp (q := 100) rfl rfl rfl ?_
              exact rp_lri rfl rfl
          ·
            exact rp_Le_rfl
        ·
          refine rp_lp (q := 64) rfl rfl rfl ?_
          exact rp_lri rfl rfl
      ·
        refine rp_lp (q := 54) rfl rfl rfl ?_
        exact rp_lri rfl rfl
set_option maxRecDepth 20000 in
theorem D_Book_bar_101 {sc : rp_Sc} (x1 : Int32) (x2 : Int32) (x3 : Int32) (x4 : Int32) (σ : rp_Mm) : rp_Le (thI (CL sc 20 [.ref 5, .int x2, .int 5] σ) fun r2 σ1 => if (r2 = 1 : Prop) then thI (CL sc 75 [.ref 2, .int x2, .int x3] σ1) fun r4 σ3 => thI (CL sc 20 [.ref 5, .int x2, .int 7] σ3) fun r6 σ5 => if (r4 < r6 : Prop) then RI 0 σ5 else RI 5 σ5 else RI 0 σ1) (EV sc (72, 0, 0, 101, [.ref 2, .int x1, .int x2, .int x3, .int x4], [], (rp_L0, σ))) := by
  refine rp_lp (q := 102) rfl rfl rfl ?_
  refine rp_lgf rfl rfl rfl ?_
  refine rp_lp (q := 106) rfl rfl rfl ?_
  refine rp_lp (q := 107) rfl rfl rfl ?_
  refine rp_lci (uc' := 0) (us' := 0) rfl (rp_rcv rfl) rfl rfl rfl rfl rfl rfl (fun r2 σ1 => ?_)
  refine rp_lp (q := 111) rfl rfl rfl ?_
  refine rp_lbr (a := 114) (b := 135) rfl rfl rfl ?_ ?_
  ·
    refine rp_lp (q := 115) rfl rfl rfl ?_
    refine rp_lp (q := 116) rfl rfl rfl ?_
    refine rp_lp (q := 117) rfl rfl rfl ?_
    refine rp_lci (uc' := 0) (us' := 0) rfl (rp_rcv rfl) rfl rfl rfl rfl rfl rfl (fun r4 σ3 => ?_)
    refine rp_lp (q := 121) rfl rfl rfl ?_
    refine rp_lgf rfl rfl rfl ?_
    refine rp_lp (q := 125) rfl rfl rfl ?_
    refine rp_lp (q := 127) rfl rfl rfl ?_
    refine rp_lci (uc' := 0) (us' := 0) rfl (rp_rcv rfl) rfl rfl rfl rfl rfl rfl (fun r6 σ5 => ?_)
    refine rp_lbr (a := 135) (b := 133) rfl rfl rfl ?_ ?_
    ·
      refine rp_lp (q := 136) rfl rfl rfl ?_
      exact rp_lri rfl rfl
    ·
      refine rp_lp (q := 134) rfl rfl rfl ?_
      exact rp_lri rfl rfl
  ·
    refine rp_lp (q := 136) rfl rfl rfl ?_
    exact rp_lri rfl rfl
-- Book_countedDay
set_option maxRecDepth 20000 in
theorem D_Book_countedDay_0 {sc : rp_Sc} {a0 a0c a0q : Nat} {a0l a0w : Int32} (ha0 : rp_L0[a0]? = some (.inr (5, [some (.ref (a0c + 1)), some (.int a0l), some (.int a0w), none]))) (ha0c : rp_L0[a0c + 1]? = some (.inl (false, a0q))) (a1 : Int32) (a2 : Int32) (a3 : Int32) (σ : rp_Mm) : rp_Le (thI (CL sc 20 [.ref 5, .int a2, .int 3] σ) fun r2 σ1 => thI (CL sc 20 [.ref a0, .int a1, .int 5] σ1) fun r4 σ3 => if (r2 < (r4 * (60 : Int32)) : Prop) then EV sc (73, 0, 0, 26, [.ref 2, .ref a0, .int a1, .int a2, .int a3, rp_U], [.int 0], (rp_L0, σ3)) else EV sc (73, 0, 0, 26, [.ref 2, .ref a0, .int a1, .int a2, .int a3, rp_U], [.int 1], (rp_L0, σ3))) (EV sc (73, 0, 0, 0, [.ref 2, .ref a0, .int a1, .int a2, .int a3, rp_U], [], (rp_L0, σ))) := by
  refine rp_lp (q := 1) rfl rfl rfl ?_
  refine rp_lgf rfl rfl rfl ?_
  refine rp_lp (q := 5) rfl rfl rfl ?_
  refine rp_lp (q := 6) rfl rfl rfl ?_
  refine rp_lci (uc' := 0) (us' := 0) rfl (rp_rcv rfl) rfl rfl rfl rfl rfl rfl (fun r2 σ1 => ?_)
  refine rp_lp (q := 10) rfl rfl rfl ?_
  refine rp_lp (q := 11) rfl rfl rfl ?_
  refine rp_lp (q := 12) rfl rfl rfl ?_
  refine rp_lci (uc' := 0) (us' := 0) rfl (rp_rct ha0) rfl rfl rfl rfl rfl rfl (fun r4 σ3 => ?_)
  refine rp_lp (q := 17) rfl rfl rfl ?_
  refine rp_lp (q := 18) rfl rfl rfl ?_
  refine rp_lbr (a := 25) (b := 21) rfl rfl rfl ?_ ?_
  ·
    refine rp_lp (q := 26) rfl rfl rfl ?_
    exact rp_Le_rfl
  ·
    refine rp_lp (q := 22) rfl rfl rfl ?_
    refine rp_lp (q := 26) rfl rfl rfl ?_
    exact rp_Le_rfl
set_option maxRecDepth 20000 in
theorem D_Book_countedDay_26 {sc : rp_Sc} {a0 a0c a0q : Nat} {a0l a0w : Int32} (ha0 : rp_L0[a0]? = some (.inr (5, [some (.ref (a0c + 1)), some (.int a0l), some (.int a0w), none]))) (ha0c : rp_L0[a0c + 1]? = some (.inl (false, a0q))) (x2 : Int32) (x3 : Int32) (x4 : Int32) (y0 : Int32) (σ : rp_Mm) : rp_Le (thI (CL sc 20 [.ref 5, .int x3, .int 8] σ) fun r2 σ1 => if (r2 = 1 : Prop) then if (y0 = 0 : Prop) then RI x4 σ1 else RI (x4 + (1 : Int32)) σ1 else RI x4 σ1) (EV sc (73, 0, 0, 26, [.ref 2, .ref a0, .int x2, .int x3, .int x4, rp_U], [.int y0], (rp_L0, σ))) := by
  refine rp_lp (q := 28) (ls' := [.ref 2, .ref a0, .int x2, .int x3, .int x4, .int y0]) rfl rfl rfl ?_
  refine rp_lp (q := 29) rfl rfl rfl ?_
  refine rp_lgf rfl rfl rfl ?_
  refine rp_lp (q := 33) rfl rfl rfl ?_
  refine rp_lp (q := 35) rfl rfl rfl ?_
  refine rp_lci (uc' := 0) (us' := 0) rfl (rp_rcv rfl) rfl rfl rfl rfl rfl rfl (fun r2 σ1 => ?_)
  refine rp_lp (q := 39) rfl rfl rfl ?_
  refine rp_lbr (a := 42) (b := 54) rfl rfl rfl ?_ ?_
  ·
    refine rp_lp (q := 44) rfl rfl rfl ?_
    refine rp_lbr (a := 54) (b := 47) rfl rfl rfl ?_ ?_
    ·
      refine rp_lp (q := 56) rfl rfl rfl ?_
      exact rp_lri rfl rfl
    ·
      refine rp_lp (q := 49) rfl rfl rfl ?_
      refine rp_lp (q := 50) rfl rfl rfl ?_
      refine rp_lp (q := 51) rfl rfl rfl ?_
      refine rp_lp (q := 56) rfl rfl rfl ?_
      exact rp_lri rfl rfl
  ·
    refine rp_lp (q := 56) rfl rfl rfl ?_
    exact rp_lri rfl rfl
-- Book_lets
set_option maxRecDepth 20000 in
theorem D_Book_lets_0 {sc : rp_Sc} {a0 a0c a0q : Nat} {a0l a0w : Int32} (ha0 : rp_L0[a0]? = some (.inr (5, [some (.ref (a0c + 1)), some (.int a0l), some (.int a0w), none]))) (ha0c : rp_L0[a0c + 1]? = some (.inl (false, a0q))) (a1 : Int32) (a2 : Int32) (σ : rp_Mm) : rp_Le (thI (CL sc 20 [.ref 5, .int a2, .int 0] σ) fun r2 σ1 => thI (CL sc 20 [.ref 3, .int r2, .int 2] σ1) fun r4 σ3 => thI (CL sc 20 [.ref a0, .int a1, .int 3] σ3) fun r6 σ5 => if (((r6 >>> (r4 &&& 31)) &&& (1 : Int32)) = 1 : Prop) then EV sc (74, 0, 0, 43, [.ref 2, .ref a0, .int a1, .int a2, .int r2, .int r4, rp_U, rp_U], [.int 1], (rp_L0, σ5)) else EV sc (74, 0, 0, 43, [.ref 2, .ref a0, .int a1, .int a2, .int r2, .int r4, rp_U, rp_U], [.int 0], (rp_L0, σ5))) (EV sc (74, 0, 0, 0, [.ref 2, .ref a0, .int a1, .int a2, rp_U, rp_U, rp_U, rp_U], [], (rp_L0, σ))) := by
  refine rp_lp (q := 1) rfl rfl rfl ?_
  refine rp_lgf rfl rfl rfl ?_
  refine rp_lp (q := 5) rfl rfl rfl ?_
  refine rp_lp (q := 6) rfl rfl rfl ?_
  refine rp_lci (uc' := 0) (us' := 0) rfl (rp_rcv rfl) rfl rfl rfl rfl rfl rfl (fun r2 σ1 => ?_)
  refine rp_lp (q := 11) (ls' := [.ref 2, .ref a0, .int a1, .int a2, .int r2, rp_U, rp_U, rp_U]) rfl rfl rfl ?_
  refine rp_lp (q := 12) rfl rfl rfl ?_
  refine rp_lgf rfl rfl rfl ?_
  refine rp_lp (q := 17) rfl rfl rfl ?_
  refine rp_lp (q := 18) rfl rfl rfl ?_
  refine rp_lci (uc' := 0) (us' := 0) rfl (rp_rcv rfl) rfl rfl rfl rfl rfl rfl (fun r4 σ3 => ?_)
  refine rp_lp (q := 23) (ls' := [.ref 2, .ref a0, .int a1, .int a2, .int r2, .int r4, rp_U, rp_U]) rfl rfl rfl ?_
  refine rp_lp (q := 24) rfl rfl rfl ?_
  refine rp_lp (q := 25) rfl rfl rfl ?_
  refine rp_lp (q := 26) rfl rfl rfl ?_
  refine rp_lci (uc' := 0) (us' := 0) rfl (rp_rct ha0) rfl rfl rfl rfl rfl rfl (fun r6 σ5 => ?_)
  refine rp_lp (q := 31) rfl rfl rfl ?_
  refine rp_lp (q := 32) rfl rfl rfl ?_
  refine rp_lp (q := 33) rfl rfl rfl ?_
  refine rp_lp (q := 34) rfl rfl rfl ?_
  refine rp_lp (q := 35) rfl rfl rfl ?_
  refine rp_lbr (a := 38) (b := 42) rfl rfl rfl ?_ ?_
  ·
    refine rp_lp (q := 39) rfl rfl rfl ?_
    refine rp_lp (q := 43) rfl rfl rfl ?_
    exact rp_Le_rfl
  ·
    refine rp_lp (q := 43) rfl rfl rfl ?_
    exact rp_Le_rfl
set_option maxRecDepth 20000 in
theorem D_Book_lets_43 {sc : rp_Sc} {a0 a0c a0q : Nat} {a0l a0w : Int32} (ha0 : rp_L0[a0]? = some (.inr (5, [some (.ref (a0c + 1)), some (.int a0l), some (.int a0w), none]))) (ha0c : rp_L0[a0c + 1]? = some (.inl (false, a0q))) (x2 : Int32) (x3 : Int32) (x4 : Int32) (x5 : Int32) (y0 : Int32) (σ : rp_Mm) : rp_Le (thI (CL sc 20 [.ref a0, .int x2, .int 4] σ) fun r2 σ1 => if (((r2 >>> (x4 &&& 31)) &&& (1 : Int32)) = 1 : Prop) then if (y0 = 0 : Prop) then RI 0 σ1 else if (1 = 0 : Prop) then RI 1 σ1 else RI 0 σ1 else if (y0 = 0 : Prop) then RI 0 σ1 else if (0 = 0 : Prop) then RI 1 σ1 else RI 0 σ1) (EV sc (74, 0, 0, 43, [.ref 2, .ref a0, .int x2, .int x3, .int x4, .int x5, rp_U, rp_U], [.int y0], (rp_L0, σ))) := by
  refine rp_lp (q := 45) (ls' := [.ref 2, .ref a0, .int x2, .int x3, .int x4, .int x5, .int y0, rp_U]) rfl rfl rfl ?_
  refine rp_lp (q := 46) rfl rfl rfl ?_
  refine rp_lp (q := 47) rfl rfl rfl ?_
  refine rp_lp (q := 48) rfl rfl rfl ?_
  refine rp_lci (uc' := 0) (us' := 0) rfl (rp_rct ha0) rfl rfl rfl rfl rfl rfl (fun r2 σ1 => ?_)
  refine rp_lp (q := 53) rfl rfl rfl ?_
  refine rp_lp (q := 54) rfl rfl rfl ?_
  refine rp_lp (q := 55) rfl rfl rfl ?_
  refine rp_lp (q := 56) rfl rfl rfl ?_
  refine rp_lp (q := 57) rfl rfl rfl ?_
  refine rp_lbr (a := 60) (b := 64) rfl rfl rfl ?_ ?_
  ·
    refine rp_lp (q := 61) rfl rfl rfl ?_
    refine rp_lp (q := 65) rfl rfl rfl ?_
    refine rp_lp (q := 67) (ls' := [.ref 2, .ref a0, .int x2, .int x3, .int x4, .int x5, .int y0, .int 1]) rfl rfl rfl ?_
    refine rp_lp (q := 69) rfl rfl rfl ?_
    refine rp_lbr (a := 81) (b := 72) rfl rfl rfl ?_ ?_
    ·
      refine rp_lp (q := 82) rfl rfl rfl ?_
      exact rp_lrz rfl rfl (by decide)
    ·
      refine rp_lp (q := 74) rfl rfl rfl ?_
      refine rp_lbr (a := 77) (b := 81) rfl rfl rfl ?_ ?_
      ·
        refine rp_lp (q := 78) rfl rfl rfl ?_
        refine rp_lp (q := 82) rfl rfl rfl ?_
        exact rp_lrz rfl rfl (by decide)
      ·
        refine rp_lp (q := 82) rfl rfl rfl ?_
        exact rp_lrz rfl rfl (by decide)
  ·
    refine rp_lp (q := 65) rfl rfl rfl ?_
    refine rp_lp (q := 67) (ls' := [.ref 2, .ref a0, .int x2, .int x3, .int x4, .int x5, .int y0, .int 0]) rfl rfl rfl ?_
    refine rp_lp (q := 69) rfl rfl rfl ?_
    refine rp_lbr (a := 81) (b := 72) rfl rfl rfl ?_ ?_
    ·
      refine rp_lp (q := 82) rfl rfl rfl ?_
      exact rp_lrz rfl rfl (by decide)
    ·
      refine rp_lp (q := 74) rfl rfl rfl ?_
      refine rp_lbr (a := 77) (b := 81) rfl rfl rfl ?_ ?_
      ·
        refine rp_lp (q := 78) rfl rfl rfl ?_
        refine rp_lp (q := 82) rfl rfl rfl ?_
        exact rp_lrz rfl rfl (by decide)
      ·
        refine rp_lp (q := 82) rfl rfl rfl ?_
        exact rp_lrz rfl rfl (by decide)
-- Book_ridesOn
set_option maxRecDepth 20000 in
theorem D_Book_ridesOn_0 {sc : rp_Sc} (a0 : Int32) (a1 : Int32) (σ : rp_Mm) : rp_Le (EV sc (75, 0, 0, 5, [.ref 2, .int a0, .int a1, .int 0, .int 0], [], (rp_L0, σ))) (EV sc (75, 0, 0, 0, [.ref 2, .int a0, .int a1, rp_U, rp_U], [], (rp_L0, σ))) := by
  refine rp_lp (q := 1) rfl rfl rfl ?_
  refine rp_lp (q := 2) (ls' := [.ref 2, .int a0, .int a1, .int 0, rp_U]) rfl rfl rfl ?_
  refine rp_lp (q := 3) rfl rfl rfl ?_
  refine rp_lp (q := 5) (ls' := [.ref 2, .int a0, .int a1, .int 0, .int 0]) rfl rfl rfl ?_
  exact rp_Le_rfl
set_option maxRecDepth 20000 in
theorem D_Book_ridesOn_5 {sc : rp_Sc} (x1 : Int32) (x2 : Int32) (x3 : Int32) (x4 : Int32) (σ : rp_Mm) : rp_Le (thI (CL sc 19 [.ref 11] σ) fun r2 σ1 => if (r2 ≤ x4 : Prop) then RI x3 σ1 else thI (CL sc 20 [.ref 11, .int x4, .int 1] σ1) fun r4 σ3 => if (r4 = x1 : Prop) then thI (CL sc 20 [.ref 11, .int x4, .int 2] σ3) fun r6 σ5 => if (r6 = x2 : Prop) then EV sc (75, 0, 0, 48, [.ref 2, .int x1, .int x2, .int (x3 + 1), .int x4], [], (rp_L0, σ5)) else EV sc (75, 0, 0, 48, [.ref 2, .int x1, .int x2, .int x3, .int x4], [], (rp_L0, σ5)) else EV sc (75, 0, 0, 48, [.ref 2, .int x1, .int x2, .int x3, .int x4], [], (rp_L0, σ3))) (EV sc (75, 0, 0, 5, [.ref 2, .int x1, .int x2, .int x3, .int x4], [], (rp_L0, σ))) := by
  refine rp_lp (q := 7) rfl rfl rfl ?_
  refine rp_lp (q := 8) rfl rfl rfl ?_
  refine rp_lgf rfl rfl rfl ?_
  refine rp_lci (uc' := 0) (us' := 0) rfl (rp_rcv rfl) rfl rfl rfl rfl rfl rfl (fun r2 σ1 => ?_)
  refine rp_lbr (a := 54) (b := 17) rfl rfl rfl ?_ ?_
  ·
    refine rp_lp (q := 55) rfl rfl rfl ?_
    exact rp_lri rfl rfl
  ·
    refine rp_lp (q := 18) rfl rfl rfl ?_
    refine rp_lgf rfl rfl rfl ?_
    refine rp_lp (q := 23) rfl rfl rfl ?_
    refine rp_lp (q := 24) rfl rfl rfl ?_
    refine rp_lci (uc' := 0) (us' := 0) rfl (rp_rcv rfl) rfl rfl rfl rfl rfl rfl (fun r4 σ3 => ?_)
    refine rp_lp (q := 28) rfl rfl rfl ?_
    refine rp_lbr (a := 31) (b := 48) rfl rfl rfl ?_ ?_
    ·
      refine rp_lp (q := 32) rfl rfl rfl ?_
      refine rp_lgf rfl rfl rfl ?_
      refine rp_lp (q := 37) rfl rfl rfl ?_
      refine rp_lp (q := 38) rfl rfl rfl ?_
      refine rp_lci (uc' := 0) (us' := 0) rfl (rp_rcv rfl) rfl rfl rfl rfl rfl rfl (fun r6 σ5 => ?_)
      refine rp_lp (q := 42) rfl rfl rfl ?_
      refine rp_lbr (a := 45) (b := 48) rfl rfl rfl ?_ ?_
      ·
        refine rp_lp (q := 48) (ls' := [.ref 2, .int x1, .int x2, .int (x3 + 1), .int x4]) rfl rfl rfl ?_
        exact rp_Le_rfl
      ·
        exact rp_Le_rfl
    ·
      exact rp_Le_rfl
set_option maxRecDepth 20000 in
theorem D_Book_ridesOn_48 {sc : rp_Sc} (x1 : Int32) (x2 : Int32) (x3 : Int32) (x4 : Int32) (σ : rp_Mm) : rp_Le (EV sc (75, 0, 0, 5, [.ref 2, .int x1, .int x2, .int x3, .int (x4 + 1)], [], (rp_L0, σ))) (EV sc (75, 0, 0, 48, [.ref 2, .int x1, .int x2, .int x3, .int x4], [], (rp_L0, σ))) := by
  refine rp_lp (q := 51) (ls' := [.ref 2, .int x1, .int x2, .int x3, .int (x4 + 1)]) rfl rfl rfl ?_
  refine rp_lp (q := 5) rfl rfl rfl ?_
  exact rp_Le_rfl
-- RailPasses_ride
set_option maxRecDepth 20000 in
theorem D_RailPasses_ride_0 {sc : rp_Sc} (a0 : Int32) (a1 : Int32) (a2 : Int32) (σ : rp_Mm) : rp_Le (thI (CL sc 25 [.ref 9, .int a0] σ) fun r2 σ1 => if (r2 = 0 : Prop) then RI (-1) σ1 else thI (CL sc 25 [.ref 5, .int a1] σ1) fun r4 σ3 => if (r4 = 0 : Prop) then RI (-1) σ3 else thI (CL sc 60 [.int a2] σ3) fun r6 σ5 => if (r6 = 0 : Prop) then RI (-1) σ5 else thI (CL sc 4 [.ref 11] σ5) fun r8 σ7 => if (r8 = 0 : Prop) then thI (CL sc 72 [.ref 2, .int a0, .int a1, .int a2] σ7) fun r10 σ9 => if (r10 = 0 : Prop) then thI (CL sc 77 [.ref 2, .int a0, .int a1, .int a2] σ9) fun r12 σ11 => thI (CL sc 20 [.ref 11, .int r12, .int 4] σ11) fun r14 σ13 => RI r14 σ13 else RI (-4) σ9 else RI (-2) σ7) (EV sc (76, 0, 0, 0, [.ref 1, .int a0, .int a1, .int a2, rp_U], [], (rp_L0, σ))) := by
  refine rp_lp (q := 1) rfl rfl rfl ?_
  refine rp_lgf rfl rfl rfl ?_
  refine rp_lgf rfl rfl rfl ?_
  refine rp_lp (q := 8) rfl rfl rfl ?_
  refine rp_lci (uc' := 0) (us' := 0) rfl (rp_rcv rfl) rfl rfl rfl rfl rfl rfl (fun r2 σ1 => ?_)
  refine rp_lbr (a := 35) (b := 14) rfl rfl rfl ?_ ?_
  ·
    refine rp_lp (q := 36) rfl rfl rfl ?_
    exact rp_lri rfl rfl
  ·
    refine rp_lp (q := 15) rfl rfl rfl ?_
    refine rp_lgf rfl rfl rfl ?_
    refine rp_lgf rfl rfl rfl ?_
    refine rp_lp (q := 22) rfl rfl rfl ?_
    refine rp_lci (uc' := 0) (us' := 0) rfl (rp_rcv rfl) rfl rfl rfl rfl rfl rfl (fun r4 σ3 => ?_)
    refine rp_lbr (a := 35) (b := 28) rfl rfl rfl ?_ ?_
    ·
      refine rp_lp (q := 36) rfl rfl rfl ?_
      exact rp_lri rfl rfl
    ·
      refine rp_lp (q := 29) rfl rfl rfl ?_
      refine rp_lci (uc' := 0) (us' := 0) rfl rfl rfl rfl rfl rfl rfl rfl (fun r6 σ5 => ?_)
      refine rp_lbr (a := 35) (b := 37) rfl rfl rfl ?_ ?_
      ·
        refine rp_lp (q := 36) rfl rfl rfl ?_
        exact rp_lri rfl rfl
      ·
        refine rp_lp (q := 38) rfl rfl rfl ?_
        refine rp_lgf rfl rfl rfl ?_
        refine rp_lgf rfl rfl rfl ?_
        refine rp_lci (uc' := 0) (us' := 0) rfl (rp_rcv rfl) rfl rfl rfl rfl rfl rfl (fun r8 σ7 => ?_)
        refine rp_lbr (a := 53) (b := 50) rfl rfl rfl ?_ ?_
        ·
          refine rp_lp (q := 54) rfl rfl rfl ?_
          refine rp_lgf rfl rfl rfl ?_
          refine rp_lp (q := 58) rfl rfl rfl ?_
          refine rp_lp (q := 59) rfl rfl rfl ?_
          refine rp_lp (q := 60) rfl rfl rfl ?_
          refine rp_lci (uc' := 0) (us' := 0) rfl (rp_rcv rfl) rfl rfl rfl rfl rfl rfl (fun r10 σ9 => ?_)
          refine rp_lbr (a := 69) (b := 66) rfl rfl rfl ?_ ?_
          ·
            refine rp_lp (q := 70) rfl rfl rfl ?_
            refine rp_lgf rfl rfl rfl ?_
            refine rp_lp (q := 74) rfl rfl rfl ?_
            refine rp_lp (q := 75) rfl rfl rfl ?_
            refine rp_lp (q := 76) rfl rfl rfl ?_
            refine rp_lci (uc' := 0) (us' := 0) rfl (rp_rcv rfl) rfl rfl rfl rfl rfl rfl (fun r12 σ11 => ?_)
            refine rp_lp (q := 81) (ls' := [.ref 1, .int a0, .int a1, .int a2, .int r12]) rfl rfl rfl ?_
            refine rp_lp (q := 82) rfl rfl rfl ?_
            refine rp_lgf rfl rfl rfl ?_
            refine rp_lgf rfl rfl rfl ?_
            refine rp_lp (q := 90) rfl rfl rfl ?_
            refine rp_lp (q := 91) rfl rfl rfl ?_
            refine rp_lci (uc' := 0) (us' := 0) rfl (rp_rcv rfl) rfl rfl rfl rfl rfl rfl (fun r14 σ13 => ?_)
            exact rp_lri rfl rfl
          ·
            refine rp_lp (q := 68) rfl rfl rfl ?_
            exact rp_lri rfl rfl
        ·
          refine rp_lp (q := 52) rfl rfl rfl ?_
          exact rp_lri rfl rfl
-- Book_addRide
set_option maxRecDepth 20000 in
theorem D_Book_addRide_0 {sc : rp_Sc} (a0 : Int32) (a1 : Int32) (a2 : Int32) (σ : rp_Mm) : rp_Le (thI (CL sc 3 [.ref 11] σ) fun r2 σ1 => thV (CL sc 5 [.ref 11, .int r2, .int 0, .int a0] σ1) fun σ3 => thV (CL sc 5 [.ref 11, .int r2, .int 1, .int a1] σ3) fun σ4 => thV (CL sc 5 [.ref 11, .int r2, .int 2, .int a2] σ4) fun σ5 => thI (CL sc 73 [.ref 2, .ref 9, .int a0, .int a1, .int a2] σ5) fun r7 σ6 => thV (CL sc 5 [.ref 11, .int r2, .int 3, .int r7] σ6) fun σ8 => thI (CL sc 78 [.ref 2, .ref 9, .int a0, .int a1] σ8) fun r10 σ9 => thV (CL sc 5 [.ref 11, .int r2, .int 4, .int r10] σ9) fun σ11 => RI r2 σ11) (EV sc (77, 0, 0, 0, [.ref 2, .int a0, .int a1, .int a2, rp_U], [], (rp_L0, σ))) := by
  refine rp_lp (q := 1) rfl rfl rfl ?_
  refine rp_lgf rfl rfl rfl ?_
  refine rp_lci (uc' := 0) (us' := 0) rfl (rp_rcv rfl) rfl rfl rfl rfl rfl rfl (fun r2 σ1 => ?_)
  refine rp_lp (q := 9) (ls' := [.ref 2, .int a0, .int a1, .int a2, .int r2]) rfl rfl rfl ?_
  refine rp_lp (q := 10) rfl rfl rfl ?_
  refine rp_lgf rfl rfl rfl ?_
  refine rp_lp (q := 15) rfl rfl rfl ?_
  refine rp_lp (q := 16) rfl rfl rfl ?_
  refine rp_lp (q := 17) rfl rfl rfl ?_
  refine rp_lcv (uc' := 0) (us' := 0) rfl (rp_rcv rfl) rfl rfl rfl rfl rfl rfl (fun σ3 => ?_)
  refine rp_lp (q := 21) rfl rfl rfl ?_
  refine rp_lgf rfl rfl rfl ?_
  refine rp_lp (q := 26) rfl rfl rfl ?_
  refine rp_lp (q := 27) rfl rfl rfl ?_
  refine rp_lp (q := 28) rfl rfl rfl ?_
  refine rp_lcv (uc' := 0) (us' := 0) rfl (rp_rcv rfl) rfl rfl rfl rfl rfl rfl (fun σ4 => ?_)
  refine rp_lp (q := 32) rfl rfl rfl ?_
  refine rp_lgf rfl rfl rfl ?_
  refine rp_lp (q := 37) rfl rfl rfl ?_
  refine rp_lp (q := 38) rfl rfl rfl ?_
  refine rp_lp (q := 39) rfl rfl rfl ?_
  refine rp_lcv (uc' := 0) (us' := 0) rfl (rp_rcv rfl) rfl rfl rfl rfl rfl rfl (fun σ5 => ?_)
  refine rp_lp (q := 43) rfl rfl rfl ?_
  refine rp_lgf rfl rfl rfl ?_
  refine rp_lp (q := 48) rfl rfl rfl ?_
  refine rp_lp (q := 49) rfl rfl rfl ?_
  refine rp_lp (q := 50) rfl rfl rfl ?_
  refine rp_lp (q := 51) rfl rfl rfl ?_
  refine rp_lgf rfl rfl rfl ?_
  refine rp_lp (q := 55) rfl rfl rfl ?_
  refine rp_lp (q := 56) rfl rfl rfl ?_
  refine rp_lp (q := 57) rfl rfl rfl ?_
  refine rp_lci (uc' := 0) (us' := 0) rfl (rp_rcv rfl) rfl rfl rfl rfl rfl rfl (fun r7 σ6 => ?_)
  refine rp_lcv (uc' := 0) (us' := 0) rfl (rp_rcv rfl) rfl rfl rfl rfl rfl rfl (fun σ8 => ?_)
  refine rp_lp (q := 64) rfl rfl rfl ?_
  refine rp_lgf rfl rfl rfl ?_
  refine rp_lp (q := 69) rfl rfl rfl ?_
  refine rp_lp (q := 70) rfl rfl rfl ?_
  refine rp_lp (q := 71) rfl rfl rfl ?_
  refine rp_lp (q := 72) rfl rfl rfl ?_
  refine rp_lgf rfl rfl rfl ?_
  refine rp_lp (q := 76) rfl rfl rfl ?_
  refine rp_lp (q := 77) rfl rfl rfl ?_
  refine rp_lci (uc' := 0) (us' := 0) rfl (rp_rcv rfl) rfl rfl rfl rfl rfl rfl (fun r10 σ9 => ?_)
  refine rp_lcv (uc' := 0) (us' := 0) rfl (rp_rcv rfl) rfl rfl rfl rfl rfl rfl (fun σ11 => ?_)
  refine rp_lp (q := 85) rfl rfl rfl ?_
  exact rp_lri rfl rfl
-- Book_pays
set_option maxRecDepth 20000 in
theorem D_Book_pays_0 {sc : rp_Sc} {a0 a0c a0q : Nat} {a0l a0w : Int32} (ha0 : rp_L0[a0]? = some (.inr (5, [some (.ref (a0c + 1)), some (.int a0l), some (.int a0w), none]))) (ha0c : rp_L0[a0c + 1]? = some (.inl (false, a0q))) (a1 : Int32) (a2 : Int32) (σ : rp_Mm) : rp_Le (thI (CL sc 20 [.ref 5, .int a2, .int 5] σ) fun r2 σ1 => if (r2 = 1 : Prop) then thI (CL sc 20 [.ref a0, .int a1, .int 6] σ1) fun r4 σ3 => EV sc (78, 0, 0, 28, [.ref 2, .ref a0, .int a1, .int a2, .int ((0 : Int32) + r4)], [], (rp_L0, σ3)) else EV sc (78, 0, 0, 28, [.ref 2, .ref a0, .int a1, .int a2, .int 0], [], (rp_L0, σ1))) (EV sc (78, 0, 0, 0, [.ref 2, .ref a0, .int a1, .int a2, rp_U], [], (rp_L0, σ))) := by
  refine rp_lp (q := 1) rfl rfl rfl ?_
  refine rp_lp (q := 3) (ls' := [.ref 2, .ref a0, .int a1, .int a2, .int 0]) rfl rfl rfl ?_
  refine rp_lp (q := 4) rfl rfl rfl ?_
  refine rp_lgf rfl rfl rfl ?_
  refine rp_lp (q := 8) rfl rfl rfl ?_
  refine rp_lp (q := 9) rfl rfl rfl ?_
  refine rp_lci (uc' := 0) (us' := 0) rfl (rp_rcv rfl) rfl rfl rfl rfl rfl rfl (fun r2 σ1 => ?_)
  refine rp_lp (q := 13) rfl rfl rfl ?_
  refine rp_lbr (a := 16) (b := 28) rfl rfl rfl ?_ ?_
  ·
    refine rp_lp (q := 18) rfl rfl rfl ?_
    refine rp_lp (q := 19) rfl rfl rfl ?_
    refine rp_lp (q := 20) rfl rfl rfl ?_
    refine rp_lp (q := 22) rfl rfl rfl ?_
    refine rp_lci (uc' := 0) (us' := 0) rfl (rp_rct ha0) rfl rfl rfl rfl rfl rfl (fun r4 σ3 => ?_)
    refine rp_lp (q := 26) rfl rfl rfl ?_
    refine rp_lp (q := 28) (ls' := [.ref 2, .ref a0, .int a1, .int a2, .int ((0 : Int32) + r4)]) rfl rfl rfl ?_
    exact rp_Le_rfl
  ·
    exact rp_Le_rfl
set_option maxRecDepth 20000 in
theorem D_Book_pays_28 {sc : rp_Sc} {a0 a0c a0q : Nat} {a0l a0w : Int32} (ha0 : rp_L0[a0]? = some (.inr (5, [some (.ref (a0c + 1)), some (.int a0l), some (.int a0w), none]))) (ha0c : rp_L0[a0c + 1]? = some (.inl (false, a0q))) (x2 : Int32) (x3 : Int32) (x4 : Int32) (σ : rp_Mm) : rp_Le (thI (CL sc 20 [.ref 5, .int x3, .int 0] σ) fun r2 σ1 => thI (CL sc 20 [.ref 3, .int r2, .int 4] σ1) fun r4 σ3 => if (r4 = 1 : Prop) then thI (CL sc 20 [.ref 5, .int x3, .int 6] σ3) fun r6 σ5 => thI (CL sc 20 [.ref a0, .int x2, .int 7] σ5) fun r8 σ7 => thI (CL sc 62 [.int r6, .int r8] σ7) fun r10 σ9 => RI (x4 + r10) σ9 else RI x4 σ3) (EV sc (78, 0, 0, 28, [.ref 2, .ref a0, .int x2, .int x3, .int x4], [], (rp_L0, σ))) := by
  refine rp_lp (q := 29) rfl rfl rfl ?_
  refine rp_lgf rfl rfl rfl ?_
  refine rp_lp (q := 33) rfl rfl rfl ?_
  refine rp_lgf rfl rfl rfl ?_
  refine rp_lp (q := 37) rfl rfl rfl ?_
  refine rp_lp (q := 38) rfl rfl rfl ?_
  refine rp_lci (uc' := 0) (us' := 0) rfl (rp_rcv rfl) rfl rfl rfl rfl rfl rfl (fun r2 σ1 => ?_)
  refine rp_lp (q := 42) rfl rfl rfl ?_
  refine rp_lci (uc' := 0) (us' := 0) rfl (rp_rcv rfl) rfl rfl rfl rfl rfl rfl (fun r4 σ3 => ?_)
  refine rp_lp (q := 46) rfl rfl rfl ?_
  refine rp_lbr (a := 49) (b := 74) rfl rfl rfl ?_ ?_
  ·
    refine rp_lp (q := 51) rfl rfl rfl ?_
    refine rp_lp (q := 52) rfl rfl rfl ?_
    refine rp_lgf rfl rfl rfl ?_
    refine rp_lp (q := 56) rfl rfl rfl ?_
    refine rp_lp (q := 58) rfl rfl rfl ?_
    refine rp_lci (uc' := 0) (us' := 0) rfl (rp_rcv rfl) rfl rfl rfl rfl rfl rfl (fun r6 σ5 => ?_)
    refine rp_lp (q := 62) rfl rfl rfl ?_
    refine rp_lp (q := 63) rfl rfl rfl ?_
    refine rp_lp (q := 65) rfl rfl rfl ?_
    refine rp_lci (uc' := 0) (us' := 0) rfl (rp_rct ha0) rfl rfl rfl rfl rfl rfl (fun r8 σ7 => ?_)
    refine rp_lci (uc' := 0) (us' := 0) rfl rfl rfl rfl rfl rfl rfl rfl (fun r10 σ9 => ?_)
    refine rp_lp (q := 72) rfl rfl rfl ?_
    refine rp_lp (q := 74) (ls' := [.ref 2, .ref a0, .int x2, .int x3, .int (x4 + r10)]) rfl rfl rfl ?_
    refine rp_lp (q := 76) rfl rfl rfl ?_
    exact rp_lri rfl rfl
  ·
    refine rp_lp (q := 76) rfl rfl rfl ?_
    exact rp_lri rfl rfl
-- RailPasses_rideOf
set_option maxRecDepth 20000 in
theorem D_RailPasses_rideOf_0 {sc : rp_Sc} (a0 : Int32) (a1 : Int32) (σ : rp_Mm) : rp_Le (thI (CL sc 25 [.ref 11, .int a0] σ) fun r2 σ1 => if (r2 = 0 : Prop) then RI (-1) σ1 else thI (CL sc 15 [.int a1, .int 0, .int 4] σ1) fun r4 σ3 => if (r4 = 0 : Prop) then RI (-1) σ3 else thI (CL sc 20 [.ref 11, .int a0, .int a1] σ3) fun r6 σ5 => RI r6 σ5) (EV sc (79, 0, 0, 0, [.ref 1, .int a0, .int a1], [], (rp_L0, σ))) := by
  refine rp_lp (q := 1) rfl rfl rfl ?_
  refine rp_lgf rfl rfl rfl ?_
  refine rp_lgf rfl rfl rfl ?_
  refine rp_lp (q := 8) rfl rfl rfl ?_
  refine rp_lci (uc' := 0) (us' := 0) rfl (rp_rcv rfl) rfl rfl rfl rfl rfl rfl (fun r2 σ1 => ?_)
  refine rp_lbr (a := 23) (b := 14) rfl rfl rfl ?_ ?_
  ·
    refine rp_lp (q := 24) rfl rfl rfl ?_
    exact rp_lri rfl rfl
  ·
    refine rp_lp (q := 15) rfl rfl rfl ?_
    refine rp_lp (q := 16) rfl rfl rfl ?_
    refine rp_lp (q := 17) rfl rfl rfl ?_
    refine rp_lci (uc' := 0) (us' := 0) rfl rfl rfl rfl rfl rfl rfl rfl (fun r4 σ3 => ?_)
    refine rp_lbr (a := 23) (b := 25) rfl rfl rfl ?_ ?_
    ·
      refine rp_lp (q := 24) rfl rfl rfl ?_
      exact rp_lri rfl rfl
    ·
      refine rp_lp (q := 26) rfl rfl rfl ?_
      refine rp_lgf rfl rfl rfl ?_
      refine rp_lgf rfl rfl rfl ?_
      refine rp_lp (q := 33) rfl rfl rfl ?_
      refine rp_lp (q := 34) rfl rfl rfl ?_
      refine rp_lci (uc' := 0) (us' := 0) rfl (rp_rcv rfl) rfl rfl rfl rfl rfl rfl (fun r6 σ5 => ?_)
      exact rp_lri rfl rfl
-- RailPasses_giveBack
set_option maxRecDepth 20000 in
theorem D_RailPasses_giveBack_0 {sc : rp_Sc} (a0 : Int32) (σ : rp_Mm) : rp_Le (thI (CL sc 25 [.ref 11, .int a0] σ) fun r2 σ1 => if (r2 = 0 : Prop) then RI (-1) σ1 else thV (CL sc 81 [.ref 11, .int a0] σ1) fun σ3 => thI (CL sc 19 [.ref 11] σ3) fun r5 σ4 => RI r5 σ4) (EV sc (80, 0, 0, 0, [.ref 1, .int a0], [], (rp_L0, σ))) := by
  refine rp_lp (q := 1) rfl rfl rfl ?_
  refine rp_lgf rfl rfl rfl ?_
  refine rp_lgf rfl rfl rfl ?_
  refine rp_lp (q := 8) rfl rfl rfl ?_
  refine rp_lci (uc' := 0) (us' := 0) rfl (rp_rcv rfl) rfl rfl rfl rfl rfl rfl (fun r2 σ1 => ?_)
  refine rp_lbr (a := 14) (b := 16) rfl rfl rfl ?_ ?_
  ·
    refine rp_lp (q := 15) rfl rfl rfl ?_
    exact rp_lri rfl rfl
  ·
    refine rp_lp (q := 17) rfl rfl rfl ?_
    refine rp_lgf rfl rfl rfl ?_
    refine rp_lgf rfl rfl rfl ?_
    refine rp_lp (q := 24) rfl rfl rfl ?_
    refine rp_lcv (uc' := 0) (us' := 0) rfl (rp_rcv rfl) rfl rfl rfl rfl rfl rfl (fun σ3 => ?_)
    refine rp_lp (q := 28) rfl rfl rfl ?_
    refine rp_lgf rfl rfl rfl ?_
    refine rp_lgf rfl rfl rfl ?_
    refine rp_lci (uc' := 0) (us' := 0) rfl (rp_rcv rfl) rfl rfl rfl rfl rfl rfl (fun r5 σ4 => ?_)
    exact rp_lri rfl rfl
-- Table_drop
set_option maxRecDepth 20000 in
theorem D_Table_drop_0 {sc : rp_Sc} {t tc tq : Nat} {tl tw : Int32} (ht : rp_L0[t]? = some (.inr (5, [some (.ref (tc + 1)), some (.int tl), some (.int tw), none]))) (htc : rp_L0[tc + 1]? = some (.inl (false, tq))) (a0 : Int32) (σ : rp_Mm) : rp_Le (thI (CL sc 25 [.ref t, .int a0] σ) fun r2 σ1 => if (r2 = 0 : Prop) then RV σ1 else EV sc (81, 0, 0, 11, [.ref t, .int a0, .int a0, rp_U], [], (rp_L0, σ1))) (EV sc (81, 0, 0, 0, [.ref t, .int a0, rp_U, rp_U], [], (rp_L0, σ))) := by
  refine rp_lp (q := 1) rfl rfl rfl ?_
  refine rp_lp (q := 2) rfl rfl rfl ?_
  refine rp_lci (uc' := 0) (us' := 0) rfl (rp_rct ht) rfl rfl rfl rfl rfl rfl (fun r2 σ1 => ?_)
  refine rp_lbr (a := 8) (b := 9) rfl rfl rfl ?_ ?_
  ·
    exact rp_lrv rfl rfl
  ·
    refine rp_lp (q := 10) rfl rfl rfl ?_
    refine rp_lp (q := 11) (ls' := [.ref t, .int a0, .int a0, rp_U]) rfl rfl rfl ?_
    exact rp_Le_rfl
set_option maxRecDepth 20000 in
theorem D_Table_drop_11 {sc : rp_Sc} {t tc tq : Nat} {tl tw : Int32} (ht : rp_L0[t]? = some (.inr (5, [some (.ref (tc + 1)), some (.int tl), some (.int tw), none]))) (htc : rp_L0[tc + 1]? = some (.inl (false, tq))) (x1 : Int32) (x2 : Int32) (σ : rp_Mm) : rp_Le (if ((σ t 3) ≤ (x2 + (1 : Int32)) : Prop) then RV (rp_wr σ t 3 ((σ t 3) - (1 : Int32))) else EV sc (81, 0, 0, 23, [.ref t, .int x1, .int x2, .int 0], [], (rp_L0, σ))) (EV sc (81, 0, 0, 11, [.ref t, .int x1, .int x2, rp_U], [], (rp_L0, σ))) := by
  refine rp_lp (q := 12) rfl rfl rfl ?_
  refine rp_lp (q := 13) rfl rfl rfl ?_
  refine rp_lp (q := 14) rfl rfl rfl ?_
  refine rp_lp (q := 15) rfl rfl rfl ?_
  refine rp_lgm rfl ht rfl ?_
  refine rp_lbr (a := 57) (b := 21) rfl rfl rfl ?_ ?_
  ·
    refine rp_lp (q := 58) rfl rfl rfl ?_
    refine rp_lp (q := 59) rfl rfl rfl ?_
    refine rp_lgm rfl ht rfl ?_
    refine rp_lp (q := 63) rfl rfl rfl ?_
    refine rp_lp (q := 64) rfl rfl rfl ?_
    refine rp_lpm rfl ht rfl rfl ?_
    exact rp_lrv rfl rfl
  ·
    refine rp_lp (q := 22) rfl rfl rfl ?_
    refine rp_lp (q := 23) (ls' := [.ref t, .int x1, .int x2, .int 0]) rfl rfl rfl ?_
    exact rp_Le_rfl
set_option maxRecDepth 20000 in
theorem D_Table_drop_23 {sc : rp_Sc} {t tc tq : Nat} {tl tw : Int32} (ht : rp_L0[t]? = some (.inr (5, [some (.ref (tc + 1)), some (.int tl), some (.int tw), none]))) (htc : rp_L0[tc + 1]? = some (.inl (false, tq))) (x1 : Int32) (x2 : Int32) (x3 : Int32) (σ : rp_Mm) : rp_Le (if (tw ≤ x3 : Prop) then EV sc (81, 0, 0, 11, [.ref t, .int x1, .int (x2 + 1), rp_U], [], (rp_L0, σ)) else thI (CL sc 20 [.ref t, .int (x2 + (1 : Int32)), .int x3] σ) fun r2 σ1 => thV (CL sc 5 [.ref t, .int x2, .int x3, .int r2] σ1) fun σ3 => EV sc (81, 0, 0, 23, [.ref t, .int x1, .int x2, .int (x3 + 1)], [], (rp_L0, σ3))) (EV sc (81, 0, 0, 23, [.ref t, .int x1, .int x2, .int x3], [], (rp_L0, σ))) := by
  refine rp_lp (q := 24) rfl rfl rfl ?_
  refine rp_lp (q := 25) rfl rfl rfl ?_
  refine rp_lgf rfl ht rfl ?_
  refine rp_lbr (a := 51) (b := 31) rfl rfl rfl ?_ ?_
  ·
    refine rp_lp (q := 54) (ls' := [.ref t, .int x1, .int (x2 + 1), .int x3]) rfl rfl rfl ?_
    refine rp_lp (q := 11) rfl rfl rfl ?_
    exact rp_LeU ⟨Or.inl rfl, Or.inl rfl, Or.inl rfl, Or.inr ⟨rfl, rfl⟩, trivial⟩
  ·
    refine rp_lp (q := 32) rfl rfl rfl ?_
    refine rp_lp (q := 33) rfl rfl rfl ?_
    refine rp_lp (q := 34) rfl rfl rfl ?_
    refine rp_lp (q := 35) rfl rfl rfl ?_
    refine rp_lp (q := 36) rfl rfl rfl ?_
    refine rp_lp (q := 37) rfl rfl rfl ?_
    refine rp_lp (q := 38) rfl rfl rfl ?_
    refine rp_lp (q := 39) rfl rfl rfl ?_
    refine rp_lci (uc' := 0) (us' := 0) rfl (rp_rct ht) rfl rfl rfl rfl rfl rfl (fun r2 σ1 => ?_)
    refine rp_lcv (uc' := 0) (us' := 0) rfl (rp_rct ht) rfl rfl rfl rfl rfl rfl (fun σ3 => ?_)
    refine rp_lp (q := 48) (ls' := [.ref t, .int x1, .int x2, .int (x3 + 1)]) rfl rfl rfl ?_
    refine rp_lp (q := 23) rfl rfl rfl ?_
    exact rp_Le_rfl
-- RailPasses_taken
set_option maxRecDepth 20000 in
theorem D_RailPasses_taken_0 {sc : rp_Sc} (a0 : Int32) (a1 : Int32) (σ : rp_Mm) : rp_Le (thI (CL sc 25 [.ref 5, .int a0] σ) fun r2 σ1 => if (r2 = 0 : Prop) then RI (-1) σ1 else thI (CL sc 60 [.int a1] σ1) fun r4 σ3 => if (r4 = 0 : Prop) then RI (-1) σ3 else thI (CL sc 75 [.ref 2, .int a0, .int a1] σ3) fun r6 σ5 => RI r6 σ5) (EV sc (82, 0, 0, 0, [.ref 1, .int a0, .int a1], [], (rp_L0, σ))) := by
  refine rp_lp (q := 1) rfl rfl rfl ?_
  refine rp_lgf rfl rfl rfl ?_
  refine rp_lgf rfl rfl rfl ?_
  refine rp_lp (q := 8) rfl rfl rfl ?_
  refine rp_lci (uc' := 0) (us' := 0) rfl (rp_rcv rfl) rfl rfl rfl rfl rfl rfl (fun r2 σ1 => ?_)
  refine rp_lbr (a := 21) (b := 14) rfl rfl rfl ?_ ?_
  ·
    refine rp_lp (q := 22) rfl rfl rfl ?_
    exact rp_lri rfl rfl
  ·
    refine rp_lp (q := 15) rfl rfl rfl ?_
    refine rp_lci (uc' := 0) (us' := 0) rfl rfl rfl rfl rfl rfl rfl rfl (fun r4 σ3 => ?_)
    refine rp_lbr (a := 21) (b := 23) rfl rfl rfl ?_ ?_
    ·
      refine rp_lp (q := 22) rfl rfl rfl ?_
      exact rp_lri rfl rfl
    ·
      refine rp_lp (q := 24) rfl rfl rfl ?_
      refine rp_lgf rfl rfl rfl ?_
      refine rp_lp (q := 28) rfl rfl rfl ?_
      refine rp_lp (q := 29) rfl rfl rfl ?_
      refine rp_lci (uc' := 0) (us' := 0) rfl (rp_rcv rfl) rfl rfl rfl rfl rfl rfl (fun r6 σ5 => ?_)
      exact rp_lri rfl rfl
-- RailPasses_lose
set_option maxRecDepth 20000 in
theorem D_RailPasses_lose_0 {sc : rp_Sc} (a0 : Int32) (σ : rp_Mm) : rp_Le (thI (CL sc 25 [.ref 9, .int a0] σ) fun r2 σ1 => if (r2 = 0 : Prop) then RI (-1) σ1 else thI (CL sc 69 [.ref 2, .int a0] σ1) fun r4 σ3 => if (r4 = 0 : Prop) then thV (CL sc 5 [.ref 9, .int a0, .int 14, .int 1] σ3) fun σ5 => thI (CL sc 68 [.ref 2, .int a0] σ5) fun r7 σ6 => RI r7 σ6 else RI (-4) σ3) (EV sc (83, 0, 0, 0, [.ref 1, .int a0], [], (rp_L0, σ))) := by
  refine rp_lp (q := 1) rfl rfl rfl ?_
  refine rp_lgf rfl rfl rfl ?_
  refine rp_lgf rfl rfl rfl ?_
  refine rp_lp (q := 8) rfl rfl rfl ?_
  refine rp_lci (uc' := 0) (us' := 0) rfl (rp_rcv rfl) rfl rfl rfl rfl rfl rfl (fun r2 σ1 => ?_)
  refine rp_lbr (a := 14) (b := 16) rfl rfl rfl ?_ ?_
  ·
    refine rp_lp (q := 15) rfl rfl rfl ?_
    exact rp_lri rfl rfl
  ·
    refine rp_lp (q := 17) rfl rfl rfl ?_
    refine rp_lgf rfl rfl rfl ?_
    refine rp_lp (q := 21) rfl rfl rfl ?_
    refine rp_lci (uc' := 0) (us' := 0) rfl (rp_rcv rfl) rfl rfl rfl rfl rfl rfl (fun r4 σ3 => ?_)
    refine rp_lbr (a := 30) (b := 27) rfl rfl rfl ?_ ?_
    ·
      refine rp_lp (q := 31) rfl rfl rfl ?_
      refine rp_lgf rfl rfl rfl ?_
      refine rp_lgf rfl rfl rfl ?_
      refine rp_lp (q := 38) rfl rfl rfl ?_
      refine rp_lp (q := 40) rfl rfl rfl ?_
      refine rp_lp (q := 41) rfl rfl rfl ?_
      refine rp_lcv (uc' := 0) (us' := 0) rfl (rp_rcv rfl) rfl rfl rfl rfl rfl rfl (fun σ5 => ?_)
      refine rp_lp (q := 45) rfl rfl rfl ?_
      refine rp_lgf rfl rfl rfl ?_
      refine rp_lp (q := 49) rfl rfl rfl ?_
      refine rp_lci (uc' := 0) (us' := 0) rfl (rp_rcv rfl) rfl rfl rfl rfl rfl rfl (fun r7 σ6 => ?_)
      exact rp_lri rfl rfl
    ·
      refine rp_lp (q := 29) rfl rfl rfl ?_
      exact rp_lri rfl rfl
-- RailPasses_wish
set_option maxRecDepth 20000 in
theorem D_RailPasses_wish_0 {sc : rp_Sc} (a0 : Int32) (a1 : Int32) (σ : rp_Mm) : rp_Le (thI (CL sc 25 [.ref 5, .int a0] σ) fun r2 σ1 => if (r2 = 0 : Prop) then RI (-1) σ1 else thI (CL sc 60 [.int a1] σ1) fun r4 σ3 => if (r4 = 0 : Prop) then RI (-1) σ3 else thI (CL sc 4 [.ref 13] σ3) fun r6 σ5 => if (r6 = 0 : Prop) then thI (CL sc 3 [.ref 13] σ5) fun r8 σ7 => thV (CL sc 5 [.ref 13, .int r8, .int 0, .int a0] σ7) fun σ9 => thV (CL sc 5 [.ref 13, .int r8, .int 1, .int a1] σ9) fun σ10 => thI (CL sc 19 [.ref 13] σ10) fun r12 σ11 => RI r12 σ11 else RI (-2) σ5) (EV sc (84, 0, 0, 0, [.ref 1, .int a0, .int a1, rp_U], [], (rp_L0, σ))) := by
  refine rp_lp (q := 1) rfl rfl rfl ?_
  refine rp_lgf rfl rfl rfl ?_
  refine rp_lgf rfl rfl rfl ?_
  refine rp_lp (q := 8) rfl rfl rfl ?_
  refine rp_lci (uc' := 0) (us' := 0) rfl (rp_rcv rfl) rfl rfl rfl rfl rfl rfl (fun r2 σ1 => ?_)
  refine rp_lbr (a := 21) (b := 14) rfl rfl rfl ?_ ?_
  ·
    refine rp_lp (q := 22) rfl rfl rfl ?_
    exact rp_lri rfl rfl
  ·
    refine rp_lp (q := 15) rfl rfl rfl ?_
    refine rp_lci (uc' := 0) (us' := 0) rfl rfl rfl rfl rfl rfl rfl rfl (fun r4 σ3 => ?_)
    refine rp_lbr (a := 21) (b := 23) rfl rfl rfl ?_ ?_
    ·
      refine rp_lp (q := 22) rfl rfl rfl ?_
      exact rp_lri rfl rfl
    ·
      refine rp_lp (q := 24) rfl rfl rfl ?_
      refine rp_lgf rfl rfl rfl ?_
      refine rp_lgf rfl rfl rfl ?_
      refine rp_lci (uc' := 0) (us' := 0) rfl (rp_rcv rfl) rfl rfl rfl rfl rfl rfl (fun r6 σ5 => ?_)
      refine rp_lbr (a := 39) (b := 36) rfl rfl rfl ?_ ?_
      ·
        refine rp_lp (q := 40) rfl rfl rfl ?_
        refine rp_lgf rfl rfl rfl ?_
        refine rp_lgf rfl rfl rfl ?_
        refine rp_lci (uc' := 0) (us' := 0) rfl (rp_rcv rfl) rfl rfl rfl rfl rfl rfl (fun r8 σ7 => ?_)
        refine rp_lp (q := 50) (ls' := [.ref 1, .int a0, .int a1, .int r8]) rfl rfl rfl ?_
        refine rp_lp (q := 51) rfl rfl rfl ?_
        refine rp_lgf rfl rfl rfl ?_
        refine rp_lgf rfl rfl rfl ?_
        refine rp_lp (q := 58) rfl rfl rfl ?_
        refine rp_lp (q := 59) rfl rfl rfl ?_
        refine rp_lp (q := 60) rfl rfl rfl ?_
        refine rp_lcv (uc' := 0) (us' := 0) rfl (rp_rcv rfl) rfl rfl rfl rfl rfl rfl (fun σ9 => ?_)
        refine rp_lp (q := 64) rfl rfl rfl ?_
        refine rp_lgf rfl rfl rfl ?_
        refine rp_lgf rfl rfl rfl ?_
        refine rp_lp (q := 71) rfl rfl rfl ?_
        refine rp_lp (q := 72) rfl rfl rfl ?_
        refine rp_lp (q := 73) rfl rfl rfl ?_
        refine rp_lcv (uc' := 0) (us' := 0) rfl (rp_rcv rfl) rfl rfl rfl rfl rfl rfl (fun σ10 => ?_)
        refine rp_lp (q := 77) rfl rfl rfl ?_
        refine rp_lgf rfl rfl rfl ?_
        refine rp_lgf rfl rfl rfl ?_
        refine rp_lci (uc' := 0) (us' := 0) rfl (rp_rcv rfl) rfl rfl rfl rfl rfl rfl (fun r12 σ11 => ?_)
        exact rp_lri rfl rfl
      ·
        refine rp_lp (q := 38) rfl rfl rfl ?_
        exact rp_lri rfl rfl
-- RailPasses_unwish
set_option maxRecDepth 20000 in
theorem D_RailPasses_unwish_0 {sc : rp_Sc} (σ : rp_Mm) : rp_Le (thI (CL sc 19 [.ref 13] σ) fun r2 σ1 => if (r2 = 0 : Prop) then RI (-3) σ1 else thI (CL sc 19 [.ref 13] σ1) fun r4 σ3 => thV (CL sc 81 [.ref 13, .int (r4 - (1 : Int32))] σ3) fun σ5 => thI (CL sc 19 [.ref 13] σ5) fun r7 σ6 => RI r7 σ6) (EV sc (85, 0, 0, 0, [.ref 1], [], (rp_L0, σ))) := by
  refine rp_lp (q := 1) rfl rfl rfl ?_
  refine rp_lgf rfl rfl rfl ?_
  refine rp_lgf rfl rfl rfl ?_
  refine rp_lci (uc' := 0) (us' := 0) rfl (rp_rcv rfl) rfl rfl rfl rfl rfl rfl (fun r2 σ1 => ?_)
  refine rp_lbr (a := 13) (b := 16) rfl rfl rfl ?_ ?_
  ·
    refine rp_lp (q := 15) rfl rfl rfl ?_
    exact rp_lri rfl rfl
  ·
    refine rp_lp (q := 17) rfl rfl rfl ?_
    refine rp_lgf rfl rfl rfl ?_
    refine rp_lgf rfl rfl rfl ?_
    refine rp_lp (q := 24) rfl rfl rfl ?_
    refine rp_lgf rfl rfl rfl ?_
    refine rp_lgf rfl rfl rfl ?_
    refine rp_lci (uc' := 0) (us' := 0) rfl (rp_rcv rfl) rfl rfl rfl rfl rfl rfl (fun r4 σ3 => ?_)
    refine rp_lp (q := 34) rfl rfl rfl ?_
    refine rp_lp (q := 35) rfl rfl rfl ?_
    refine rp_lcv (uc' := 0) (us' := 0) rfl (rp_rcv rfl) rfl rfl rfl rfl rfl rfl (fun σ5 => ?_)
    refine rp_lp (q := 39) rfl rfl rfl ?_
    refine rp_lgf rfl rfl rfl ?_
    refine rp_lgf rfl rfl rfl ?_
    refine rp_lci (uc' := 0) (us' := 0) rfl (rp_rcv rfl) rfl rfl rfl rfl rfl rfl (fun r7 σ6 => ?_)
    exact rp_lri rfl rfl
-- RailPasses_choice
set_option maxRecDepth 20000 in
theorem D_RailPasses_choice_0 {sc : rp_Sc} (a0 : Int32) (σ : rp_Mm) : rp_Le (thI (CL sc 15 [.int a0, .int 0, .int 14] σ) fun r2 σ1 => if (r2 = 0 : Prop) then RI (-1) σ1 else thV (CL sc 87 [.ref 37, .ref 2] σ1) fun σ3 => if a0 = 0 then thI (CL sc 101 [.ref 37] σ3) fun r5 σ4 => RI r5 σ4 else if a0 = 1 then thI (CL sc 102 [.ref 37] σ3) fun r7 σ6 => RI r7 σ6 else if a0 = 2 then thI (CL sc 103 [.ref 37] σ3) fun r9 σ8 => RI r9 σ8 else if a0 = 3 then thI (CL sc 104 [.ref 37] σ3) fun r11 σ10 => RI r11 σ10 else if a0 = 4 then thI (CL sc 105 [.ref 37] σ3) fun r13 σ12 => RI r13 σ12 else thI (CL sc 107 [.ref 37, .int (a0 - (5 : Int32))] σ3) fun r15 σ14 => RI r15 σ14) (EV sc (86, 0, 0, 0, [.ref 1, .int a0], [], (rp_L0, σ))) := by
  refine rp_lp (q := 1) rfl rfl rfl ?_
  refine rp_lp (q := 2) rfl rfl rfl ?_
  refine rp_lp (q := 4) rfl rfl rfl ?_
  refine rp_lci (uc' := 0) (us' := 0) rfl rfl rfl rfl rfl rfl rfl rfl (fun r2 σ1 => ?_)
  refine rp_lbr (a := 10) (b := 12) rfl rfl rfl ?_ ?_
  ·
    refine rp_lp (q := 11) rfl rfl rfl ?_
    exact rp_lri rfl rfl
  ·
    refine rp_lp (q := 13) rfl rfl rfl ?_
    refine rp_lgf rfl rfl rfl ?_
    refine rp_lp (q := 17) rfl rfl rfl ?_
    refine rp_lgf rfl rfl rfl ?_
    refine rp_lcv (uc' := 0) (us' := 0) rfl (rp_rcv rfl) rfl rfl rfl rfl rfl rfl (fun σ3 => ?_)
    refine rp_lp (q := 24) rfl rfl rfl ?_
    refine rp_lsw rfl rfl rfl ?_
    refine rp_swc ?_ ?_
    ·
      refine rp_lp (q := 61) rfl rfl rfl ?_
      refine rp_lgf rfl rfl rfl ?_
      refine rp_lci (uc' := 0) (us' := 0) rfl (rp_rcv rfl) rfl rfl rfl rfl rfl rfl (fun r5 σ4 => ?_)
      exact rp_lri rfl rfl
    ·
      refine rp_swc ?_ ?_
      ·
        refine rp_lp (q := 69) rfl rfl rfl ?_
        refine rp_lgf rfl rfl rfl ?_
        refine rp_lci (uc' := 0) (us' := 0) rfl (rp_rcv rfl) rfl rfl rfl rfl rfl rfl (fun r7 σ6 => ?_)
        exact rp_lri rfl rfl
      ·
        refine rp_swc ?_ ?_
        ·
          refine rp_lp (q := 77) rfl rfl rfl ?_
          refine rp_lgf rfl rfl rfl ?_
          refine rp_lci (uc' := 0) (us' := 0) rfl (rp_rcv rfl) rfl rfl rfl rfl rfl rfl (fun r9 σ8 => ?_)
          exact rp_lri rfl rfl
        ·
          refine rp_swc ?_ ?_
          ·
            refine rp_lp (q := 85) rfl rfl rfl ?_
            refine rp_lgf rfl rfl rfl ?_
            refine rp_lci (uc' := 0) (us' := 0) rfl (rp_rcv rfl) rfl rfl rfl rfl rfl rfl (fun r11 σ10 => ?_)
            exact rp_lri rfl rfl
          ·
            refine rp_swc ?_ ?_
            ·
              refine rp_lp (q := 93) rfl rfl rfl ?_
              refine rp_lgf rfl rfl rfl ?_
              refine rp_lci (uc' := 0) (us' := 0) rfl (rp_rcv rfl) rfl rfl rfl rfl rfl rfl (fun r13 σ12 => ?_)
              exact rp_lri rfl rfl
            ·
              refine rp_lp (q := 101) rfl rfl rfl ?_
              refine rp_lgf rfl rfl rfl ?_
              refine rp_lp (q := 105) rfl rfl rfl ?_
              refine rp_lp (q := 106) rfl rfl rfl ?_
              refine rp_lp (q := 107) rfl rfl rfl ?_
              refine rp_lci (uc' := 0) (us' := 0) rfl (rp_rcv rfl) rfl rfl rfl rfl rfl rfl (fun r15 σ14 => ?_)
              exact rp_lri rfl rfl
-- Plan_choose
set_option maxRecDepth 20000 in
theorem D_Plan_choose_0 {sc : rp_Sc} (σ : rp_Mm) : rp_Le (thV (CL sc 88 [.ref 37, .ref 2, .int (-3)] σ) fun σ1 => EV sc (87, 0, 0, 29, [.ref 37, .ref 2, .int 0, rp_U, rp_U], [], (rp_L0, rp_wr (rp_wr (rp_wr σ1 37 11 (σ1 37 9)) 37 12 (-3)) 37 13 (-3)))) (EV sc (87, 0, 0, 0, [.ref 37, .ref 2, rp_U, rp_U, rp_U], [], (rp_L0, σ))) := by
  refine rp_lp (q := 1) rfl rfl rfl ?_
  refine rp_lp (q := 2) rfl rfl rfl ?_
  refine rp_lp (q := 4) rfl rfl rfl ?_
  refine rp_lcv (uc' := 0) (us' := 0) rfl (rp_rcv rfl) rfl rfl rfl rfl rfl rfl (fun σ1 => ?_)
  refine rp_lp (q := 8) rfl rfl rfl ?_
  refine rp_lp (q := 9) rfl rfl rfl ?_
  refine rp_lgm rfl rfl rfl ?_
  refine rp_lpm rfl rfl rfl rfl ?_
  refine rp_lp (q := 16) rfl rfl rfl ?_
  refine rp_lp (q := 18) rfl rfl rfl ?_
  refine rp_lpm rfl rfl rfl rfl ?_
  refine rp_lp (q := 22) rfl rfl rfl ?_
  refine rp_lp (q := 24) rfl rfl rfl ?_
  refine rp_lpm rfl rfl rfl rfl ?_
  refine rp_lp (q := 28) rfl rfl rfl ?_
  refine rp_lp (q := 29) (ls' := [.ref 37, .ref 2, .int 0, rp_U, rp_U]) rfl rfl rfl ?_
  exact rp_Le_rfl
set_option maxRecDepth 20000 in
theorem D_Plan_choose_29 {sc : rp_Sc} (x2 : Int32) (σ : rp_Mm) : rp_Le (if (3 ≤ x2 : Prop) then thV (CL sc 88 [.ref 37, .ref 2, .int (σ 37 12)] σ) fun σ1 => thI (CL sc 99 [.ref 37, .int (σ1 37 13)] σ1) fun r3 σ2 => RV σ2 else thV (CL sc 88 [.ref 37, .ref 2, .int x2] σ) fun σ4 => EV sc (87, 0, 0, 42, [.ref 37, .ref 2, .int x2, .int 0, rp_U], [], (rp_L0, σ4))) (EV sc (87, 0, 0, 29, [.ref 37, .ref 2, .int x2, rp_U, rp_U], [], (rp_L0, σ))) := by
  refine rp_lp (q := 30) rfl rfl rfl ?_
  refine rp_lp (q := 31) rfl rfl rfl ?_
  refine rp_lbr (a := 92) (b := 34) rfl rfl rfl ?_ ?_
  ·
    refine rp_lp (q := 93) rfl rfl rfl ?_
    refine rp_lp (q := 94) rfl rfl rfl ?_
    refine rp_lp (q := 95) rfl rfl rfl ?_
    refine rp_lgm rfl rfl rfl ?_
    refine rp_lcv (uc' := 0) (us' := 0) rfl (rp_rcv rfl) rfl rfl rfl rfl rfl rfl (fun σ1 => ?_)
    refine rp_lp (q := 102) rfl rfl rfl ?_
    refine rp_lp (q := 103) rfl rfl rfl ?_
    refine rp_lgm rfl rfl rfl ?_
    refine rp_lci (uc' := 0) (us' := 0) rfl (rp_rcv rfl) rfl rfl rfl rfl rfl rfl (fun r3 σ2 => ?_)
    refine rp_lp (q := 110) rfl rfl rfl ?_
    exact rp_lrv rfl rfl
  ·
    refine rp_lp (q := 35) rfl rfl rfl ?_
    refine rp_lp (q := 36) rfl rfl rfl ?_
    refine rp_lp (q := 37) rfl rfl rfl ?_
    refine rp_lcv (uc' := 0) (us' := 0) rfl (rp_rcv rfl) rfl rfl rfl rfl rfl rfl (fun σ4 => ?_)
    refine rp_lp (q := 41) rfl rfl rfl ?_
    refine rp_lp (q := 42) (ls' := [.ref 37, .ref 2, .int x2, .int 0, rp_U]) rfl rfl rfl ?_
    exact rp_Le_rfl
set_option maxRecDepth 20000 in
theorem D_Plan_choose_42 {sc : rp_Sc} (x2 : Int32) (x3 : Int32) (σ : rp_Mm) : rp_Le (if (120 < x3 : Prop) then EV sc (87, 0, 0, 29, [.ref 37, .ref 2, .int (x2 + 1), rp_U, rp_U], [], (rp_L0, σ)) else thI (CL sc 99 [.ref 37, .int x3] σ) fun r2 σ1 => if ((σ1 37 11) ≤ r2 : Prop) then EV sc (87, 0, 0, 80, [.ref 37, .ref 2, .int x2, .int x3, .int r2], [], (rp_L0, σ1)) else EV sc (87, 0, 0, 80, [.ref 37, .ref 2, .int x2, .int x3, .int r2], [], (rp_L0, rp_wr (rp_wr (rp_wr σ1 37 11 r2) 37 12 x2) 37 13 x3))) (EV sc (87, 0, 0, 42, [.ref 37, .ref 2, .int x2, .int x3, rp_U], [], (rp_L0, σ))) := by
  refine rp_lp (q := 43) rfl rfl rfl ?_
  refine rp_lp (q := 45) rfl rfl rfl ?_
  refine rp_lbr (a := 86) (b := 48) rfl rfl rfl ?_ ?_
  ·
    refine rp_lp (q := 89) (ls' := [.ref 37, .ref 2, .int (x2 + 1), .int x3, rp_U]) rfl rfl rfl ?_
    refine rp_lp (q := 29) rfl rfl rfl ?_
    exact rp_LeU ⟨Or.inl rfl, Or.inl rfl, Or.inl rfl, Or.inr ⟨rfl, rfl⟩, Or.inl rfl, trivial⟩
  ·
    refine rp_lp (q := 49) rfl rfl rfl ?_
    refine rp_lp (q := 50) rfl rfl rfl ?_
    refine rp_lci (uc' := 0) (us' := 0) rfl (rp_rcv rfl) rfl rfl rfl rfl rfl rfl (fun r2 σ1 => ?_)
    refine rp_lp (q := 55) (ls' := [.ref 37, .ref 2, .int x2, .int x3, .int r2]) rfl rfl rfl ?_
    refine rp_lp (q := 57) rfl rfl rfl ?_
    refine rp_lp (q := 58) rfl rfl rfl ?_
    refine rp_lgm rfl rfl rfl ?_
    refine rp_lbr (a := 80) (b := 64) rfl rfl rfl ?_ ?_
    ·
      exact rp_Le_rfl
    ·
      refine rp_lp (q := 65) rfl rfl rfl ?_
      refine rp_lp (q := 67) rfl rfl rfl ?_
      refine rp_lpm rfl rfl rfl rfl ?_
      refine rp_lp (q := 71) rfl rfl rfl ?_
      refine rp_lp (q := 72) rfl rfl rfl ?_
      refine rp_lpm rfl rfl rfl rfl ?_
      refine rp_lp (q := 76) rfl rfl rfl ?_
      refine rp_lp (q := 77) rfl rfl rfl ?_
      refine rp_lpm rfl rfl rfl rfl ?_
      exact rp_Le_rfl
set_option maxRecDepth 20000 in
theorem D_Plan_choose_80 {sc : rp_Sc} (x2 : Int32) (x3 : Int32) (x4 : Int32) (σ : rp_Mm) : rp_Le (EV sc (87, 0, 0, 42, [.ref 37, .ref 2, .int x2, .int (x3 + 1), rp_U], [], (rp_L0, σ))) (EV sc (87, 0, 0, 80, [.ref 37, .ref 2, .int x2, .int x3, .int x4], [], (rp_L0, σ))) := by
  refine rp_lp (q := 83) (ls' := [.ref 37, .ref 2, .int x2, .int (x3 + 1), .int x4]) rfl rfl rfl ?_
  refine rp_lp (q := 42) rfl rfl rfl ?_
  exact rp_LeU ⟨Or.inl rfl, Or.inl rfl, Or.inl rfl, Or.inl rfl, Or.inr ⟨rfl, rfl⟩, trivial⟩
-- Plan_prepare
set_option maxRecDepth 20000 in
theorem D_Plan_prepare_0 {sc : rp_Sc} (a1 : Int32) (σ : rp_Mm) : rp_Le (thI (CL sc 20 [.ref 7, .int a1, .int 0] (rp_wr (rp_wr σ 37 3 0) 37 9 0)) fun r2 σ1 => thI (CL sc 20 [.ref 7, .int a1, .int 1] (rp_wr σ1 37 6 r2)) fun r4 σ3 => thI (CL sc 20 [.ref 7, .int a1, .int 2] (rp_wr σ3 37 7 r4)) fun r6 σ5 => EV sc (88, 0, 0, 51, [.ref 37, .ref 2, .int a1, .int 0], [], (rp_L0, rp_wr σ5 37 8 r6))) (EV sc (88, 0, 0, 0, [.ref 37, .ref 2, .int a1, rp_U], [], (rp_L0, σ))) := by
  refine rp_lp (q := 1) rfl rfl rfl ?_
  refine rp_lp (q := 2) rfl rfl rfl ?_
  refine rp_lpm rfl rfl rfl rfl ?_
  refine rp_lp (q := 6) rfl rfl rfl ?_
  refine rp_lp (q := 7) rfl rfl rfl ?_
  refine rp_lpm rfl rfl rfl rfl ?_
  refine rp_lp (q := 11) rfl rfl rfl ?_
  refine rp_lp (q := 12) rfl rfl rfl ?_
  refine rp_lgf rfl rfl rfl ?_
  refine rp_lp (q := 16) rfl rfl rfl ?_
  refine rp_lp (q := 17) rfl rfl rfl ?_
  refine rp_lci (uc' := 0) (us' := 0) rfl (rp_rcv rfl) rfl rfl rfl rfl rfl rfl (fun r2 σ1 => ?_)
  refine rp_lpm rfl rfl rfl rfl ?_
  refine rp_lp (q := 24) rfl rfl rfl ?_
  refine rp_lp (q := 25) rfl rfl rfl ?_
  refine rp_lgf rfl rfl rfl ?_
  refine rp_lp (q := 29) rfl rfl rfl ?_
  refine rp_lp (q := 30) rfl rfl rfl ?_
  refine rp_lci (uc' := 0) (us' := 0) rfl (rp_rcv rfl) rfl rfl rfl rfl rfl rfl (fun r4 σ3 => ?_)
  refine rp_lpm rfl rfl rfl rfl ?_
  refine rp_lp (q := 37) rfl rfl rfl ?_
  refine rp_lp (q := 38) rfl rfl rfl ?_
  refine rp_lgf rfl rfl rfl ?_
  refine rp_lp (q := 42) rfl rfl rfl ?_
  refine rp_lp (q := 43) rfl rfl rfl ?_
  refine rp_lci (uc' := 0) (us' := 0) rfl (rp_rcv rfl) rfl rfl rfl rfl rfl rfl (fun r6 σ5 => ?_)
  refine rp_lpm rfl rfl rfl rfl ?_
  refine rp_lp (q := 50) rfl rfl rfl ?_
  refine rp_lp (q := 51) (ls' := [.ref 37, .ref 2, .int a1, .int 0]) rfl rfl rfl ?_
  exact rp_Le_rfl
set_option maxRecDepth 20000 in
theorem D_Plan_prepare_51 {sc : rp_Sc} (x2 : Int32) (x3 : Int32) (σ : rp_Mm) : rp_Le (thI (CL sc 19 [.ref 13] σ) fun r2 σ1 => if (r2 ≤ x3 : Prop) then thV (CL sc 95 [.ref 37] σ1) fun σ3 => RV σ3 else thI (CL sc 20 [.ref 13, .int x3, .int 0] σ1) fun r5 σ4 => thI (CL sc 20 [.ref 13, .int x3, .int 1] σ4) fun r7 σ6 => thV (CL sc 89 [.ref 37, .ref 2, .int x2, .int r5, .int r7] σ6) fun σ8 => EV sc (88, 0, 0, 51, [.ref 37, .ref 2, .int x2, .int (x3 + 1)], [], (rp_L0, σ8))) (EV sc (88, 0, 0, 51, [.ref 37, .ref 2, .int x2, .int x3], [], (rp_L0, σ))) := by
  refine rp_lp (q := 52) rfl rfl rfl ?_
  refine rp_lp (q := 53) rfl rfl rfl ?_
  refine rp_lgf rfl rfl rfl ?_
  refine rp_lci (uc' := 0) (us' := 0) rfl (rp_rcv rfl) rfl rfl rfl rfl rfl rfl (fun r2 σ1 => ?_)
  refine rp_lbr (a := 92) (b := 62) rfl rfl rfl ?_ ?_
  ·
    refine rp_lp (q := 93) rfl rfl rfl ?_
    refine rp_lcv (uc' := 0) (us' := 0) rfl (rp_rcv rfl) rfl rfl rfl rfl rfl rfl (fun σ3 => ?_)
    exact rp_lrv rfl rfl
  ·
    refine rp_lp (q := 63) rfl rfl rfl ?_
    refine rp_lp (q := 64) rfl rfl rfl ?_
    refine rp_lp (q := 65) rfl rfl rfl ?_
    refine rp_lp (q := 66) rfl rfl rfl ?_
    refine rp_lgf rfl rfl rfl ?_
    refine rp_lp (q := 70) rfl rfl rfl ?_
    refine rp_lp (q := 71) rfl rfl rfl ?_
    refine rp_lci (uc' := 0) (us' := 0) rfl (rp_rcv rfl) rfl rfl rfl rfl rfl rfl (fun r5 σ4 => ?_)
    refine rp_lp (q := 75) rfl rfl rfl ?_
    refine rp_lgf rfl rfl rfl ?_
    refine rp_lp (q := 79) rfl rfl rfl ?_
    refine rp_lp (q := 80) rfl rfl rfl ?_
    refine rp_lci (uc' := 0) (us' := 0) rfl (rp_rcv rfl) rfl rfl rfl rfl rfl rfl (fun r7 σ6 => ?_)
    refine rp_lcv (uc' := 0) (us' := 0) rfl (rp_rcv rfl) rfl rfl rfl rfl rfl rfl (fun σ8 => ?_)
    refine rp_lp (q := 89) (ls' := [.ref 37, .ref 2, .int x2, .int (x3 + 1)]) rfl rfl rfl ?_
    refine rp_lp (q := 51) rfl rfl rfl ?_
    exact rp_Le_rfl
-- Plan_prepareWish
set_option maxRecDepth 20000 in
theorem D_Plan_prepareWish_0 {sc : rp_Sc} (a1 : Int32) (a2 : Int32) (a3 : Int32) (σ : rp_Mm) : rp_Le (thI (CL sc 20 [.ref 5, .int a2, .int 6] σ) fun r2 σ1 => thI (CL sc 78 [.ref 2, .ref 7, .int a1, .int a2] σ1) fun r4 σ3 => thI (CL sc 73 [.ref 2, .ref 7, .int a1, .int a2, .int a3] σ3) fun r6 σ5 => thI (CL sc 90 [.ref 37, .int r6] σ5) fun r8 σ7 => if (r8 < 0 : Prop) then RV (rp_wr σ7 37 9 ((σ7 37 9) + r2)) else if (((rp_wr σ7 37 9 ((σ7 37 9) + r2)) 37 3) ≤ r8 : Prop) then RV (rp_wr σ7 37 9 ((σ7 37 9) + r2)) else if (10 ≤ r8 : Prop) then RV (rp_wr σ7 37 9 ((σ7 37 9) + r2)) else if (10 ≤ r8 : Prop) then RV (rp_wr σ7 37 9 ((σ7 37 9) + r2)) else if (r2 ≤ r4 : Prop) then RV (rp_wr σ7 37 9 ((σ7 37 9) + r2)) else thI (CL sc 74 [.ref 2, .ref 7, .int a1, .int a2] (rp_wr σ7 37 9 ((σ7 37 9) + r2))) fun r10 σ9 => if (r10 = 0 : Prop) then RV σ9 else bif rp_ix r8 10 then bif rp_ix r8 10 then bif rp_ix r8 10 then bif rp_ix r8 10 then RV (rp_wr (rp_wr σ9 39 r8.toNatClampNeg ((σ9 39 r8.toNatClampNeg) + (r2 - r4))) 40 r8.toNatClampNeg (((rp_wr σ9 39 r8.toNatClampNeg ((σ9 39 r8.toNatClampNeg) + (r2 - r4))) 40 r8.toNatClampNeg) + (1 : Int32))) else none else none else none else none) (EV sc (89, 0, 0, 0, [.ref 37, .ref 2, .int a1, .int a2, .int a3, rp_U, rp_U, rp_U], [], (rp_L0, σ))) := by
  refine rp_lp (q := 1) rfl rfl rfl ?_
  refine rp_lgf rfl rfl rfl ?_
  refine rp_lp (q := 5) rfl rfl rfl ?_
  refine rp_lp (q := 7) rfl rfl rfl ?_
  refine rp_lci (uc' := 0) (us' := 0) rfl (rp_rcv rfl) rfl rfl rfl rfl rfl rfl (fun r2 σ1 => ?_)
  refine rp_lp (q := 12) (ls' := [.ref 37, .ref 2, .int a1, .int a2, .int a3, .int r2, rp_U, rp_U]) rfl rfl rfl ?_
  refine rp_lp (q := 13) rfl rfl rfl ?_
  refine rp_lp (q := 14) rfl rfl rfl ?_
  refine rp_lgf rfl rfl rfl ?_
  refine rp_lp (q := 18) rfl rfl rfl ?_
  refine rp_lp (q := 19) rfl rfl rfl ?_
  refine rp_lci (uc' := 0) (us' := 0) rfl (rp_rcv rfl) rfl rfl rfl rfl rfl rfl (fun r4 σ3 => ?_)
  refine rp_lp (q := 24) (ls' := [.ref 37, .ref 2, .int a1, .int a2, .int a3, .int r2, .int r4, rp_U]) rfl rfl rfl ?_
  refine rp_lp (q := 25) rfl rfl rfl ?_
  refine rp_lp (q := 26) rfl rfl rfl ?_
  refine rp_lp (q := 27) rfl rfl rfl ?_
  refine rp_lgf rfl rfl rfl ?_
  refine rp_lp (q := 31) rfl rfl rfl ?_
  refine rp_lp (q := 32) rfl rfl rfl ?_
  refine rp_lp (q := 34) rfl rfl rfl ?_
  refine rp_lci (uc' := 0) (us' := 0) rfl (rp_rcv rfl) rfl rfl rfl rfl rfl rfl (fun r6 σ5 => ?_)
  refine rp_lci (uc' := 0) (us' := 0) rfl (rp_rcv rfl) rfl rfl rfl rfl rfl rfl (fun r8 σ7 => ?_)
  refine rp_lp (q := 42) (ls' := [.ref 37, .ref 2, .int a1, .int a2, .int a3, .int r2, .int r4, .int r8]) rfl rfl rfl ?_
  refine rp_lp (q := 43) rfl rfl rfl ?_
  refine rp_lp (q := 44) rfl rfl rfl ?_
  refine rp_lgm rfl rfl rfl ?_
  refine rp_lp (q := 49) rfl rfl rfl ?_
  refine rp_lp (q := 50) rfl rfl rfl ?_
  refine rp_lpm rfl rfl rfl rfl ?_
  refine rp_lp (q := 55) rfl rfl rfl ?_
  refine rp_lbr (a := 133) (b := 58) rfl rfl rfl ?_ ?_
  ·
    exact rp_lrv rfl rfl
  ·
    refine rp_lp (q := 60) rfl rfl rfl ?_
    refine rp_lp (q := 61) rfl rfl rfl ?_
    refine rp_lgm rfl rfl rfl ?_
    refine rp_lbr (a := 133) (b := 67) rfl rfl rfl ?_ ?_
    ·
      exact rp_lrv rfl rfl
    ·
      refine rp_lp (q := 69) rfl rfl rfl ?_
      refine rp_lp (q := 70) rfl rfl rfl ?_
      refine rp_lgf rfl rfl rfl ?_
      refine rp_lal rfl rfl ?_
      refine rp_lbr (a := 133) (b := 77) rfl rfl rfl ?_ ?_
      ·
        exact rp_lrv rfl rfl
      ·
        refine rp_lp (q := 79) rfl rfl rfl ?_
        refine rp_lp (q := 80) rfl rfl rfl ?_
        refine rp_lgf rfl rfl rfl ?_
        refine rp_lal rfl rfl ?_
        refine rp_lbr (a := 133) (b := 87) rfl rfl rfl ?_ ?_
        ·
          exact rp_lrv rfl rfl
        ·
          refine rp_lp (q := 89) rfl rfl rfl ?_
          refine rp_lp (q := 91) rfl rfl rfl ?_
          refine rp_lbr (a := 133) (b := 94) rfl rfl rfl ?_ ?_
          ·
            exact rp_lrv rfl rfl
          ·
            refine rp_lp (q := 95) rfl rfl rfl ?_
            refine rp_lp (q := 96) rfl rfl rfl ?_
            refine rp_lgf rfl rfl rfl ?_
            refine rp_lp (q := 100) rfl rfl rfl ?_
            refine rp_lp (q := 101) rfl rfl rfl ?_
            refine rp_lci (uc' := 0) (us' := 0) rfl (rp_rcv rfl) rfl rfl rfl rfl rfl rfl (fun r10 σ9 => ?_)
            refine rp_lbr (a := 133) (b := 107) rfl rfl rfl ?_ ?_
            ·
              exact rp_lrv rfl rfl
            ·
              refine rp_lp (q := 108) rfl rfl rfl ?_
              refine rp_lgf rfl rfl rfl ?_
              refine rp_lp (q := 113) rfl rfl rfl ?_
              refine rp_lp (q := 114) rfl rfl rfl ?_
              refine rp_lia rfl rfl ?_
              refine rp_lp (q := 117) rfl rfl rfl ?_
              refine rp_lp (q := 119) rfl rfl rfl ?_
              refine rp_lp (q := 120) rfl rfl rfl ?_
              refine rp_lp (q := 121) rfl rfl rfl ?_
              refine rp_lis rfl rfl ?_
              refine rp_lp (q := 123) rfl rfl rfl ?_
              refine rp_lgf rfl rfl rfl ?_
              refine rp_lp (q := 128) rfl rfl rfl ?_
              refine rp_lp (q := 129) rfl rfl rfl ?_
              refine rp_lia rfl rfl ?_
              refine rp_lp (q := 131) rfl rfl rfl ?_
              refine rp_lp (q := 132) rfl rfl rfl ?_
              refine rp_lis rfl rfl ?_
              exact rp_lrv rfl rfl
-- Plan_placeOf
set_option maxRecDepth 20000 in
theorem D_Plan_placeOf_0 {sc : rp_Sc} (a0 : Int32) (σ : rp_Mm) : rp_Le (EV sc (90, 0, 0, 2, [.ref 37, .int a0, .int 0, rp_U], [], (rp_L0, σ))) (EV sc (90, 0, 0, 0, [.ref 37, .int a0, rp_U, rp_U], [], (rp_L0, σ))) := by
  refine rp_lp (q := 1) rfl rfl rfl ?_
  refine rp_lp (q := 2) (ls' := [.ref 37, .int a0, .int 0, rp_U]) rfl rfl rfl ?_
  exact rp_Le_rfl
set_option maxRecDepth 20000 in
theorem D_Plan_placeOf_2 {sc : rp_Sc} (x1 : Int32) (x2 : Int32) (σ : rp_Mm) : rp_Le (if ((σ 37 3) ≤ x2 : Prop) then EV sc (90, 0, 0, 25, [.ref 37, .int x1, .int x2, rp_U], [], (rp_L0, σ)) else thI (CL sc 91 [.ref 37, .int x2] σ) fun r2 σ1 => if (x1 ≤ r2 : Prop) then EV sc (90, 0, 0, 25, [.ref 37, .int x1, .int x2, rp_U], [], (rp_L0, σ1)) else EV sc (90, 0, 0, 2, [.ref 37, .int x1, .int (x2 + 1), rp_U], [], (rp_L0, σ1))) (EV sc (90, 0, 0, 2, [.ref 37, .int x1, .int x2, rp_U], [], (rp_L0, σ))) := by
  refine rp_lp (q := 3) rfl rfl rfl ?_
  refine rp_lp (q := 4) rfl rfl rfl ?_
  refine rp_lgm rfl rfl rfl ?_
  refine rp_lbr (a := 25) (b := 10) rfl rfl rfl ?_ ?_
  ·
    exact rp_Le_rfl
  ·
    refine rp_lp (q := 11) rfl rfl rfl ?_
    refine rp_lp (q := 12) rfl rfl rfl ?_
    refine rp_lci (uc' := 0) (us' := 0) rfl (rp_rcv rfl) rfl rfl rfl rfl rfl rfl (fun r2 σ1 => ?_)
    refine rp_lp (q := 16) rfl rfl rfl ?_
    refine rp_lbr (a := 25) (b := 19) rfl rfl rfl ?_ ?_
    ·
      exact rp_Le_rfl
    ·
      refine rp_lp (q := 22) (ls' := [.ref 37, .int x1, .int (x2 + 1), rp_U]) rfl rfl rfl ?_
      refine rp_lp (q := 2) rfl rfl rfl ?_
      exact rp_Le_rfl
set_option maxRecDepth 20000 in
theorem D_Plan_placeOf_25 {sc : rp_Sc} (x1 : Int32) (x2 : Int32) (σ : rp_Mm) : rp_Le (if ((σ 37 3) ≤ x2 : Prop) then EV sc (90, 0, 0, 42, [.ref 37, .int x1, .int x2, rp_U], [], (rp_L0, σ)) else thI (CL sc 91 [.ref 37, .int x2] σ) fun r2 σ1 => if (r2 = x1 : Prop) then RI x2 σ1 else EV sc (90, 0, 0, 42, [.ref 37, .int x1, .int x2, rp_U], [], (rp_L0, σ1))) (EV sc (90, 0, 0, 25, [.ref 37, .int x1, .int x2, rp_U], [], (rp_L0, σ))) := by
  refine rp_lp (q := 26) rfl rfl rfl ?_
  refine rp_lp (q := 27) rfl rfl rfl ?_
  refine rp_lgm rfl rfl rfl ?_
  refine rp_lbr (a := 42) (b := 33) rfl rfl rfl ?_ ?_
  ·
    exact rp_Le_rfl
  ·
    refine rp_lp (q := 34) rfl rfl rfl ?_
    refine rp_lp (q := 35) rfl rfl rfl ?_
    refine rp_lci (uc' := 0) (us' := 0) rfl (rp_rcv rfl) rfl rfl rfl rfl rfl rfl (fun r2 σ1 => ?_)
    refine rp_lp (q := 39) rfl rfl rfl ?_
    refine rp_lbr (a := 51) (b := 42) rfl rfl rfl ?_ ?_
    ·
      refine rp_lp (q := 52) rfl rfl rfl ?_
      exact rp_lri rfl rfl
    ·
      exact rp_Le_rfl
set_option maxRecDepth 20000 in
theorem D_Plan_placeOf_42 {sc : rp_Sc} (x1 : Int32) (x2 : Int32) (σ : rp_Mm) : rp_Le (if ((σ 37 3) < 10 : Prop) then EV sc (90, 0, 0, 58, [.ref 37, .int x1, .int x2, .int (σ 37 3)], [], (rp_L0, σ)) else RI x2 σ) (EV sc (90, 0, 0, 42, [.ref 37, .int x1, .int x2, rp_U], [], (rp_L0, σ))) := by
  refine rp_lp (q := 43) rfl rfl rfl ?_
  refine rp_lgm rfl rfl rfl ?_
  refine rp_lp (q := 48) rfl rfl rfl ?_
  refine rp_lbr (a := 53) (b := 51) rfl rfl rfl ?_ ?_
  ·
    refine rp_lp (q := 54) rfl rfl rfl ?_
    refine rp_lgm rfl rfl rfl ?_
    refine rp_lp (q := 58) (ls' := [.ref 37, .int x1, .int x2, .int (σ 37 3)]) rfl rfl rfl ?_
    exact rp_Le_rfl
  ·
    refine rp_lp (q := 52) rfl rfl rfl ?_
    exact rp_lri rfl rfl
set_option maxRecDepth 20000 in
theorem D_Plan_placeOf_58 {sc : rp_Sc} (x1 : Int32) (x2 : Int32) (x3 : Int32) (σ : rp_Mm) : rp_Le (if (x3 ≤ x2 : Prop) then thV (CL sc 94 [.ref 37, .int x2, .int x1, .int 0, .int 0] σ) fun σ1 => RI x2 (rp_wr σ1 37 3 ((σ1 37 3) + (1 : Int32))) else thI (CL sc 91 [.ref 37, .int (x3 - (1 : Int32))] σ) fun r3 σ2 => thI (CL sc 92 [.ref 37, .int (x3 - (1 : Int32))] σ2) fun r5 σ4 => thI (CL sc 93 [.ref 37, .int (x3 - (1 : Int32))] σ4) fun r7 σ6 => thV (CL sc 94 [.ref 37, .int x3, .int r3, .int r5, .int r7] σ6) fun σ8 => EV sc (90, 0, 0, 58, [.ref 37, .int x1, .int x2, .int (x3 + (-1))], [], (rp_L0, σ8))) (EV sc (90, 0, 0, 58, [.ref 37, .int x1, .int x2, .int x3], [], (rp_L0, σ))) := by
  refine rp_lp (q := 59) rfl rfl rfl ?_
  refine rp_lp (q := 60) rfl rfl rfl ?_
  refine rp_lbr (a := 95) (b := 63) rfl rfl rfl ?_ ?_
  ·
    refine rp_lp (q := 96) rfl rfl rfl ?_
    refine rp_lp (q := 97) rfl rfl rfl ?_
    refine rp_lp (q := 98) rfl rfl rfl ?_
    refine rp_lp (q := 99) rfl rfl rfl ?_
    refine rp_lp (q := 100) rfl rfl rfl ?_
    refine rp_lcv (uc' := 0) (us' := 0) rfl (rp_rcv rfl) rfl rfl rfl rfl rfl rfl (fun σ1 => ?_)
    refine rp_lp (q := 104) rfl rfl rfl ?_
    refine rp_lp (q := 105) rfl rfl rfl ?_
    refine rp_lgm rfl rfl rfl ?_
    refine rp_lp (q := 109) rfl rfl rfl ?_
    refine rp_lp (q := 110) rfl rfl rfl ?_
    refine rp_lpm rfl rfl rfl rfl ?_
    refine rp_lp (q := 114) rfl rfl rfl ?_
    exact rp_lri rfl rfl
  ·
    refine rp_lp (q := 64) rfl rfl rfl ?_
    refine rp_lp (q := 65) rfl rfl rfl ?_
    refine rp_lp (q := 66) rfl rfl rfl ?_
    refine rp_lp (q := 67) rfl rfl rfl ?_
    refine rp_lp (q := 68) rfl rfl rfl ?_
    refine rp_lp (q := 69) rfl rfl rfl ?_
    refine rp_lci (uc' := 0) (us' := 0) rfl (rp_rcv rfl) rfl rfl rfl rfl rfl rfl (fun r3 σ2 => ?_)
    refine rp_lp (q := 73) rfl rfl rfl ?_
    refine rp_lp (q := 74) rfl rfl rfl ?_
    refine rp_lp (q := 75) rfl rfl rfl ?_
    refine rp_lp (q := 76) rfl rfl rfl ?_
    refine rp_lci (uc' := 0) (us' := 0) rfl (rp_rcv rfl) rfl rfl rfl rfl rfl rfl (fun r5 σ4 => ?_)
    refine rp_lp (q := 80) rfl rfl rfl ?_
    refine rp_lp (q := 81) rfl rfl rfl ?_
    refine rp_lp (q := 82) rfl rfl rfl ?_
    refine rp_lp (q := 83) rfl rfl rfl ?_
    refine rp_lci (uc' := 0) (us' := 0) rfl (rp_rcv rfl) rfl rfl rfl rfl rfl rfl (fun r7 σ6 => ?_)
    refine rp_lcv (uc' := 0) (us' := 0) rfl (rp_rcv rfl) rfl rfl rfl rfl rfl rfl (fun σ8 => ?_)
    refine rp_lp (q := 92) (ls' := [.ref 37, .int x1, .int x2, .int (x3 + (-1))]) rfl rfl rfl ?_
    refine rp_lp (q := 58) rfl rfl rfl ?_
    exact rp_Le_rfl
-- Plan_dayAt
set_option maxRecDepth 20000 in
theorem D_Plan_dayAt_0 {sc : rp_Sc} (a0 : Int32) (σ : rp_Mm) : rp_Le (if (a0 < 0 : Prop) then RI 0 σ else if (10 ≤ a0 : Prop) then RI 0 σ else bif rp_ix a0 10 then RI (σ 38 a0.toNatClampNeg) σ else none) (EV sc (91, 0, 0, 0, [.ref 37, .int a0], [], (rp_L0, σ))) := by
  refine rp_lp (q := 1) rfl rfl rfl ?_
  refine rp_lbr (a := 22) (b := 4) rfl rfl rfl ?_ ?_
  ·
    refine rp_lp (q := 23) rfl rfl rfl ?_
    exact rp_lri rfl rfl
  ·
    refine rp_lp (q := 5) rfl rfl rfl ?_
    refine rp_lp (q := 6) rfl rfl rfl ?_
    refine rp_lgf rfl rfl rfl ?_
    refine rp_lal rfl rfl ?_
    refine rp_lbr (a := 22) (b := 13) rfl rfl rfl ?_ ?_
    ·
      refine rp_lp (q := 23) rfl rfl rfl ?_
      exact rp_lri rfl rfl
    ·
      refine rp_lp (q := 14) rfl rfl rfl ?_
      refine rp_lgf rfl rfl rfl ?_
      refine rp_lp (q := 18) rfl rfl rfl ?_
      refine rp_lia rfl rfl ?_
      refine rp_lp (q := 23) rfl rfl rfl ?_
      exact rp_lri rfl rfl
-- Plan_sparedAt
set_option maxRecDepth 20000 in
theorem D_Plan_sparedAt_0 {sc : rp_Sc} (a0 : Int32) (σ : rp_Mm) : rp_Le (if (a0 < 0 : Prop) then RI 0 σ else if (10 ≤ a0 : Prop) then RI 0 σ else bif rp_ix a0 10 then RI (σ 39 a0.toNatClampNeg) σ else none) (EV sc (92, 0, 0, 0, [.ref 37, .int a0], [], (rp_L0, σ))) := by
  refine rp_lp (q := 1) rfl rfl rfl ?_
  refine rp_lbr (a := 22) (b := 4) rfl rfl rfl ?_ ?_
  ·
    refine rp_lp (q := 23) rfl rfl rfl ?_
    exact rp_lri rfl rfl
  ·
    refine rp_lp (q := 5) rfl rfl rfl ?_
    refine rp_lp (q := 6) rfl rfl rfl ?_
    refine rp_lgf rfl rfl rfl ?_
    refine rp_lal rfl rfl ?_
    refine rp_lbr (a := 22) (b := 13) rfl rfl rfl ?_ ?_
    ·
      refine rp_lp (q := 23) rfl rfl rfl ?_
      exact rp_lri rfl rfl
    ·
      refine rp_lp (q := 14) rfl rfl rfl ?_
      refine rp_lgf rfl rfl rfl ?_
      refine rp_lp (q := 18) rfl rfl rfl ?_
      refine rp_lia rfl rfl ?_
      refine rp_lp (q := 23) rfl rfl rfl ?_
      exact rp_lri rfl rfl
-- Plan_goersAt
set_option maxRecDepth 20000 in
theorem D_Plan_goersAt_0 {sc : rp_Sc} (a0 : Int32) (σ : rp_Mm) : rp_Le (if (a0 < 0 : Prop) then RI 0 σ else if (10 ≤ a0 : Prop) then RI 0 σ else bif rp_ix a0 10 then RI (σ 40 a0.toNatClampNeg) σ else none) (EV sc (93, 0, 0, 0, [.ref 37, .int a0], [], (rp_L0, σ))) := by
  refine rp_lp (q := 1) rfl rfl rfl ?_
  refine rp_lbr (a := 22) (b := 4) rfl rfl rfl ?_ ?_
  ·
    refine rp_lp (q := 23) rfl rfl rfl ?_
    exact rp_lri rfl rfl
  ·
    refine rp_lp (q := 5) rfl rfl rfl ?_
    refine rp_lp (q := 6) rfl rfl rfl ?_
    refine rp_lgf rfl rfl rfl ?_
    refine rp_lal rfl rfl ?_
    refine rp_lbr (a := 22) (b := 13) rfl rfl rfl ?_ ?_
    ·
      refine rp_lp (q := 23) rfl rfl rfl ?_
      exact rp_lri rfl rfl
    ·
      refine rp_lp (q := 14) rfl rfl rfl ?_
      refine rp_lgf rfl rfl rfl ?_
      refine rp_lp (q := 18) rfl rfl rfl ?_
      refine rp_lia rfl rfl ?_
      refine rp_lp (q := 23) rfl rfl rfl ?_
      exact rp_lri rfl rfl
-- Plan_put
set_option maxRecDepth 20000 in
theorem D_Plan_put_0 {sc : rp_Sc} (a0 : Int32) (a1 : Int32) (a2 : Int32) (a3 : Int32) (σ : rp_Mm) : rp_Le (if (a0 < 0 : Prop) then RV σ else if (10 ≤ a0 : Prop) then RV σ else if (10 ≤ a0 : Prop) then RV σ else if (10 ≤ a0 : Prop) then RV σ else bif rp_ix a0 10 then bif rp_ix a0 10 then bif rp_ix a0 10 then RV (rp_wr (rp_wr (rp_wr σ 38 a0.toNatClampNeg a1) 39 a0.toNatClampNeg a2) 40 a0.toNatClampNeg a3) else none else none else none) (EV sc (94, 0, 0, 0, [.ref 37, .int a0, .int a1, .int a2, .int a3], [], (rp_L0, σ))) := by
  refine rp_lp (q := 1) rfl rfl rfl ?_
  refine rp_lbr (a := 53) (b := 4) rfl rfl rfl ?_ ?_
  ·
    exact rp_lrv rfl rfl
  ·
    refine rp_lp (q := 5) rfl rfl rfl ?_
    refine rp_lp (q := 6) rfl rfl rfl ?_
    refine rp_lgf rfl rfl rfl ?_
    refine rp_lal rfl rfl ?_
    refine rp_lbr (a := 53) (b := 13) rfl rfl rfl ?_ ?_
    ·
      exact rp_lrv rfl rfl
    ·
      refine rp_lp (q := 14) rfl rfl rfl ?_
      refine rp_lp (q := 15) rfl rfl rfl ?_
      refine rp_lgf rfl rfl rfl ?_
      refine rp_lal rfl rfl ?_
      refine rp_lbr (a := 53) (b := 22) rfl rfl rfl ?_ ?_
      ·
        exact rp_lrv rfl rfl
      ·
        refine rp_lp (q := 23) rfl rfl rfl ?_
        refine rp_lp (q := 24) rfl rfl rfl ?_
        refine rp_lgf rfl rfl rfl ?_
        refine rp_lal rfl rfl ?_
        refine rp_lbr (a := 53) (b := 31) rfl rfl rfl ?_ ?_
        ·
          exact rp_lrv rfl rfl
        ·
          refine rp_lp (q := 32) rfl rfl rfl ?_
          refine rp_lgf rfl rfl rfl ?_
          refine rp_lp (q := 36) rfl rfl rfl ?_
          refine rp_lp (q := 37) rfl rfl rfl ?_
          refine rp_lis rfl rfl ?_
          refine rp_lp (q := 39) rfl rfl rfl ?_
          refine rp_lgf rfl rfl rfl ?_
          refine rp_lp (q := 43) rfl rfl rfl ?_
          refine rp_lp (q := 44) rfl rfl rfl ?_
          refine rp_lis rfl rfl ?_
          refine rp_lp (q := 46) rfl rfl rfl ?_
          refine rp_lgf rfl rfl rfl ?_
          refine rp_lp (q := 50) rfl rfl rfl ?_
          refine rp_lp (q := 52) rfl rfl rfl ?_
          refine rp_lis rfl rfl ?_
          exact rp_lrv rfl rfl
-- Plan_rankDays
set_option maxRecDepth 20000 in
theorem D_Plan_rankDays_0 {sc : rp_Sc} (σ : rp_Mm) : rp_Le (EV sc (95, 0, 0, 7, [.ref 37, .int 0], [], (rp_L0, rp_wr σ 37 5 0))) (EV sc (95, 0, 0, 0, [.ref 37, rp_U], [], (rp_L0, σ))) := by
  refine rp_lp (q := 1) rfl rfl rfl ?_
  refine rp_lp (q := 2) rfl rfl rfl ?_
  refine rp_lpm rfl rfl rfl rfl ?_
  refine rp_lp (q := 6) rfl rfl rfl ?_
  refine rp_lp (q := 7) (ls' := [.ref 37, .int 0]) rfl rfl rfl ?_
  exact rp_Le_rfl
set_option maxRecDepth 20000 in
theorem D_Plan_rankDays_7 {sc : rp_Sc} (x1 : Int32) (σ : rp_Mm) : rp_Le (if ((σ 37 3) ≤ x1 : Prop) then RV σ else thI (CL sc 92 [.ref 37, .int x1] σ) fun r2 σ1 => if (r2 ≤ 0 : Prop) then EV sc (95, 0, 0, 28, [.ref 37, .int x1], [], (rp_L0, σ1)) else thV (CL sc 96 [.ref 37, .int x1] σ1) fun σ3 => EV sc (95, 0, 0, 28, [.ref 37, .int x1], [], (rp_L0, σ3))) (EV sc (95, 0, 0, 7, [.ref 37, .int x1], [], (rp_L0, σ))) := by
  refine rp_lp (q := 8) rfl rfl rfl ?_
  refine rp_lp (q := 9) rfl rfl rfl ?_
  refine rp_lgm rfl rfl rfl ?_
  refine rp_lbr (a := 34) (b := 15) rfl rfl rfl ?_ ?_
  ·
    exact rp_lrv rfl rfl
  ·
    refine rp_lp (q := 16) rfl rfl rfl ?_
    refine rp_lp (q := 17) rfl rfl rfl ?_
    refine rp_lci (uc' := 0) (us' := 0) rfl (rp_rcv rfl) rfl rfl rfl rfl rfl rfl (fun r2 σ1 => ?_)
    refine rp_lbr (a := 28) (b := 23) rfl rfl rfl ?_ ?_
    ·
      exact rp_Le_rfl
    ·
      refine rp_lp (q := 24) rfl rfl rfl ?_
      refine rp_lp (q := 25) rfl rfl rfl ?_
      refine rp_lcv (uc' := 0) (us' := 0) rfl (rp_rcv rfl) rfl rfl rfl rfl rfl rfl (fun σ3 => ?_)
      exact rp_Le_rfl
set_option maxRecDepth 20000 in
theorem D_Plan_rankDays_28 {sc : rp_Sc} (x1 : Int32) (σ : rp_Mm) : rp_Le (EV sc (95, 0, 0, 7, [.ref 37, .int (x1 + 1)], [], (rp_L0, σ))) (EV sc (95, 0, 0, 28, [.ref 37, .int x1], [], (rp_L0, σ))) := by
  refine rp_lp (q := 31) (ls' := [.ref 37, .int (x1 + 1)]) rfl rfl rfl ?_
  refine rp_lp (q := 7) rfl rfl rfl ?_
  exact rp_Le_rfl
-- Plan_rankDay
set_option maxRecDepth 20000 in
theorem D_Plan_rankDay_0 {sc : rp_Sc} (a0 : Int32) (σ : rp_Mm) : rp_Le (EV sc (96, 0, 0, 5, [.ref 37, .int a0, .int (σ 37 5)], [], (rp_L0, σ))) (EV sc (96, 0, 0, 0, [.ref 37, .int a0, rp_U], [], (rp_L0, σ))) := by
  refine rp_lp (q := 1) rfl rfl rfl ?_
  refine rp_lgm rfl rfl rfl ?_
  refine rp_lp (q := 5) (ls' := [.ref 37, .int a0, .int (σ 37 5)]) rfl rfl rfl ?_
  exact rp_Le_rfl
set_option maxRecDepth 20000 in
theorem D_Plan_rankDay_5 {sc : rp_Sc} (x1 : Int32) (x2 : Int32) (σ : rp_Mm) : rp_Le (if (x2 ≤ 0 : Prop) then EV sc (96, 0, 0, 46, [.ref 37, .int x1, .int x2], [], (rp_L0, σ)) else thI (CL sc 97 [.ref 37, .int (x2 - (1 : Int32))] σ) fun r2 σ1 => thI (CL sc 92 [.ref 37, .int r2] σ1) fun r4 σ3 => thI (CL sc 92 [.ref 37, .int x1] σ3) fun r6 σ5 => if (r6 ≤ r4 : Prop) then EV sc (96, 0, 0, 46, [.ref 37, .int x1, .int x2], [], (rp_L0, σ5)) else thI (CL sc 97 [.ref 37, .int (x2 - (1 : Int32))] σ5) fun r8 σ7 => thV (CL sc 98 [.ref 37, .int x2, .int r8] σ7) fun σ9 => EV sc (96, 0, 0, 5, [.ref 37, .int x1, .int (x2 + (-1))], [], (rp_L0, σ9))) (EV sc (96, 0, 0, 5, [.ref 37, .int x1, .int x2], [], (rp_L0, σ))) := by
  refine rp_lp (q := 6) rfl rfl rfl ?_
  refine rp_lbr (a := 46) (b := 9) rfl rfl rfl ?_ ?_
  ·
    exact rp_Le_rfl
  ·
    refine rp_lp (q := 10) rfl rfl rfl ?_
    refine rp_lp (q := 11) rfl rfl rfl ?_
    refine rp_lp (q := 12) rfl rfl rfl ?_
    refine rp_lp (q := 13) rfl rfl rfl ?_
    refine rp_lp (q := 14) rfl rfl rfl ?_
    refine rp_lci (uc' := 0) (us' := 0) rfl (rp_rcv rfl) rfl rfl rfl rfl rfl rfl (fun r2 σ1 => ?_)
    refine rp_lci (uc' := 0) (us' := 0) rfl (rp_rcv rfl) rfl rfl rfl rfl rfl rfl (fun r4 σ3 => ?_)
    refine rp_lp (q := 21) rfl rfl rfl ?_
    refine rp_lp (q := 22) rfl rfl rfl ?_
    refine rp_lci (uc' := 0) (us' := 0) rfl (rp_rcv rfl) rfl rfl rfl rfl rfl rfl (fun r6 σ5 => ?_)
    refine rp_lbr (a := 46) (b := 28) rfl rfl rfl ?_ ?_
    ·
      exact rp_Le_rfl
    ·
      refine rp_lp (q := 29) rfl rfl rfl ?_
      refine rp_lp (q := 30) rfl rfl rfl ?_
      refine rp_lp (q := 31) rfl rfl rfl ?_
      refine rp_lp (q := 32) rfl rfl rfl ?_
      refine rp_lp (q := 33) rfl rfl rfl ?_
      refine rp_lp (q := 34) rfl rfl rfl ?_
      refine rp_lci (uc' := 0) (us' := 0) rfl (rp_rcv rfl) rfl rfl rfl rfl rfl rfl (fun r8 σ7 => ?_)
      refine rp_lcv (uc' := 0) (us' := 0) rfl (rp_rcv rfl) rfl rfl rfl rfl rfl rfl (fun σ9 => ?_)
      refine rp_lp (q := 43) (ls' := [.ref 37, .int x1, .int (x2 + (-1))]) rfl rfl rfl ?_
      refine rp_lp (q := 5) rfl rfl rfl ?_
      exact rp_Le_rfl
set_option maxRecDepth 20000 in
theorem D_Plan_rankDay_46 {sc : rp_Sc} (x1 : Int32) (x2 : Int32) (σ : rp_Mm) : rp_Le (thV (CL sc 98 [.ref 37, .int x2, .int x1] σ) fun σ1 => RV (rp_wr σ1 37 5 ((σ1 37 5) + (1 : Int32)))) (EV sc (96, 0, 0, 46, [.ref 37, .int x1, .int x2], [], (rp_L0, σ))) := by
  refine rp_lp (q := 47) rfl rfl rfl ?_
  refine rp_lp (q := 48) rfl rfl rfl ?_
  refine rp_lp (q := 49) rfl rfl rfl ?_
  refine rp_lcv (uc' := 0) (us' := 0) rfl (rp_rcv rfl) rfl rfl rfl rfl rfl rfl (fun σ1 => ?_)
  refine rp_lp (q := 53) rfl rfl rfl ?_
  refine rp_lp (q := 54) rfl rfl rfl ?_
  refine rp_lgm rfl rfl rfl ?_
  refine rp_lp (q := 58) rfl rfl rfl ?_
  refine rp_lp (q := 59) rfl rfl rfl ?_
  refine rp_lpm rfl rfl rfl rfl ?_
  exact rp_lrv rfl rfl
-- Plan_rankedAt
set_option maxRecDepth 20000 in
theorem D_Plan_rankedAt_0 {sc : rp_Sc} (a0 : Int32) (σ : rp_Mm) : rp_Le (if (a0 < 0 : Prop) then RI (-1) σ else if (10 ≤ a0 : Prop) then RI (-1) σ else bif rp_ix a0 10 then RI (σ 41 a0.toNatClampNeg) σ else none) (EV sc (97, 0, 0, 0, [.ref 37, .int a0], [], (rp_L0, σ))) := by
  refine rp_lp (q := 1) rfl rfl rfl ?_
  refine rp_lbr (a := 22) (b := 4) rfl rfl rfl ?_ ?_
  ·
    refine rp_lp (q := 23) rfl rfl rfl ?_
    exact rp_lri rfl rfl
  ·
    refine rp_lp (q := 5) rfl rfl rfl ?_
    refine rp_lp (q := 6) rfl rfl rfl ?_
    refine rp_lgf rfl rfl rfl ?_
    refine rp_lal rfl rfl ?_
    refine rp_lbr (a := 22) (b := 13) rfl rfl rfl ?_ ?_
    ·
      refine rp_lp (q := 23) rfl rfl rfl ?_
      exact rp_lri rfl rfl
    ·
      refine rp_lp (q := 14) rfl rfl rfl ?_
      refine rp_lgf rfl rfl rfl ?_
      refine rp_lp (q := 18) rfl rfl rfl ?_
      refine rp_lia rfl rfl ?_
      refine rp_lp (q := 23) rfl rfl rfl ?_
      exact rp_lri rfl rfl
-- Plan_setRanked
set_option maxRecDepth 20000 in
theorem D_Plan_setRanked_0 {sc : rp_Sc} (a0 : Int32) (a1 : Int32) (σ : rp_Mm) : rp_Le (if (a0 < 0 : Prop) then RV σ else if (10 ≤ a0 : Prop) then RV σ else bif rp_ix a0 10 then RV (rp_wr σ 41 a0.toNatClampNeg a1) else none) (EV sc (98, 0, 0, 0, [.ref 37, .int a0, .int a1], [], (rp_L0, σ))) := by
  refine rp_lp (q := 1) rfl rfl rfl ?_
  refine rp_lbr (a := 20) (b := 4) rfl rfl rfl ?_ ?_
  ·
    exact rp_lrv rfl rfl
  ·
    refine rp_lp (q := 5) rfl rfl rfl ?_
    refine rp_lp (q := 6) rfl rfl rfl ?_
    refine rp_lgf rfl rfl rfl ?_
    refine rp_lal rfl rfl ?_
    refine rp_lbr (a := 20) (b := 13) rfl rfl rfl ?_ ?_
    ·
      exact rp_lrv rfl rfl
    ·
      refine rp_lp (q := 14) rfl rfl rfl ?_
      refine rp_lgf rfl rfl rfl ?_
      refine rp_lp (q := 18) rfl rfl rfl ?_
      refine rp_lp (q := 19) rfl rfl rfl ?_
      refine rp_lis rfl rfl ?_
      exact rp_lrv rfl rfl
-- Plan_spend
set_option maxRecDepth 20000 in
theorem D_Plan_spend_0 {sc : rp_Sc} (a0 : Int32) (σ : rp_Mm) : rp_Le (EV sc (99, 0, 0, 23, [.ref 37, .int a0, .int ((σ 37 8) + (σ 37 9)), .int (σ 37 6), .int 0, rp_U], [], (rp_L0, rp_wr σ 37 10 0))) (EV sc (99, 0, 0, 0, [.ref 37, .int a0, rp_U, rp_U, rp_U, rp_U], [], (rp_L0, σ))) := by
  refine rp_lp (q := 1) rfl rfl rfl ?_
  refine rp_lgm rfl rfl rfl ?_
  refine rp_lp (q := 5) rfl rfl rfl ?_
  refine rp_lgm rfl rfl rfl ?_
  refine rp_lp (q := 9) rfl rfl rfl ?_
  refine rp_lp (q := 10) (ls' := [.ref 37, .int a0, .int ((σ 37 8) + (σ 37 9)), rp_U, rp_U, rp_U]) rfl rfl rfl ?_
  refine rp_lp (q := 11) rfl rfl rfl ?_
  refine rp_lgm rfl rfl rfl ?_
  refine rp_lp (q := 15) (ls' := [.ref 37, .int a0, .int ((σ 37 8) + (σ 37 9)), .int (σ 37 6), rp_U, rp_U]) rfl rfl rfl ?_
  refine rp_lp (q := 16) rfl rfl rfl ?_
  refine rp_lp (q := 17) rfl rfl rfl ?_
  refine rp_lpm rfl rfl rfl rfl ?_
  refine rp_lp (q := 21) rfl rfl rfl ?_
  refine rp_lp (q := 23) (ls' := [.ref 37, .int a0, .int ((σ 37 8) + (σ 37 9)), .int (σ 37 6), .int 0, rp_U]) rfl rfl rfl ?_
  exact rp_Le_rfl
set_option maxRecDepth 20000 in
theorem D_Plan_spend_23 {sc : rp_Sc} (x1 : Int32) (x2 : Int32) (x3 : Int32) (x4 : Int32) (σ : rp_Mm) : rp_Le (if ((σ 37 5) ≤ x4 : Prop) then RI x2 σ else if (x3 ≤ 0 : Prop) then RI x2 σ else thI (CL sc 97 [.ref 37, .int x4] σ) fun r2 σ1 => thI (CL sc 100 [.ref 37, .int r2, .int x1] σ1) fun r4 σ3 => if (r4 = 0 : Prop) then EV sc (99, 0, 0, 79, [.ref 37, .int x1, .int x2, .int x3, .int x4, .int r2], [], (rp_L0, σ3)) else thI (CL sc 92 [.ref 37, .int r2] σ3) fun r6 σ5 => EV sc (99, 0, 0, 79, [.ref 37, .int x1, .int (x2 - r6), .int (x3 + (-1)), .int x4, .int r2], [], (rp_L0, rp_wr σ5 37 10 ((σ5 37 10) ||| ((1 : Int32) <<< (r2 &&& 31)))))) (EV sc (99, 0, 0, 23, [.ref 37, .int x1, .int x2, .int x3, .int x4, rp_U], [], (rp_L0, σ))) := by
  refine rp_lp (q := 25) rfl rfl rfl ?_
  refine rp_lp (q := 26) rfl rfl rfl ?_
  refine rp_lgm rfl rfl rfl ?_
  refine rp_lbr (a := 85) (b := 32) rfl rfl rfl ?_ ?_
  ·
    refine rp_lp (q := 86) rfl rfl rfl ?_
    exact rp_lri rfl rfl
  ·
    refine rp_lp (q := 33) rfl rfl rfl ?_
    refine rp_lbr (a := 85) (b := 36) rfl rfl rfl ?_ ?_
    ·
      refine rp_lp (q := 86) rfl rfl rfl ?_
      exact rp_lri rfl rfl
    ·
      refine rp_lp (q := 37) rfl rfl rfl ?_
      refine rp_lp (q := 39) rfl rfl rfl ?_
      refine rp_lci (uc' := 0) (us' := 0) rfl (rp_rcv rfl) rfl rfl rfl rfl rfl rfl (fun r2 σ1 => ?_)
      refine rp_lp (q := 44) (ls' := [.ref 37, .int x1, .int x2, .int x3, .int x4, .int r2]) rfl rfl rfl ?_
      refine rp_lp (q := 45) rfl rfl rfl ?_
      refine rp_lp (q := 47) rfl rfl rfl ?_
      refine rp_lp (q := 48) rfl rfl rfl ?_
      refine rp_lci (uc' := 0) (us' := 0) rfl (rp_rcv rfl) rfl rfl rfl rfl rfl rfl (fun r4 σ3 => ?_)
      refine rp_lbr (a := 79) (b := 54) rfl rfl rfl ?_ ?_
      ·
        exact rp_Le_rfl
      ·
        refine rp_lp (q := 55) rfl rfl rfl ?_
        refine rp_lp (q := 56) rfl rfl rfl ?_
        refine rp_lp (q := 58) rfl rfl rfl ?_
        refine rp_lci (uc' := 0) (us' := 0) rfl (rp_rcv rfl) rfl rfl rfl rfl rfl rfl (fun r6 σ5 => ?_)
        refine rp_lp (q := 62) rfl rfl rfl ?_
        refine rp_lp (q := 63) (ls' := [.ref 37, .int x1, .int (x2 - r6), .int x3, .int x4, .int r2]) rfl rfl rfl ?_
        refine rp_lp (q := 64) rfl rfl rfl ?_
        refine rp_lp (q := 65) rfl rfl rfl ?_
        refine rp_lgm rfl rfl rfl ?_
        refine rp_lp (q := 69) rfl rfl rfl ?_
        refine rp_lp (q := 71) rfl rfl rfl ?_
        refine rp_lp (q := 72) rfl rfl rfl ?_
        refine rp_lp (q := 73) rfl rfl rfl ?_
        refine rp_lpm rfl rfl rfl rfl ?_
        refine rp_lp (q := 79) (ls' := [.ref 37, .int x1, .int (x2 - r6), .int (x3 + (-1)), .int x4, .int r2]) rfl rfl rfl ?_
        exact rp_Le_rfl
set_option maxRecDepth 20000 in
theorem D_Plan_spend_79 {sc : rp_Sc} (x1 : Int32) (x2 : Int32) (x3 : Int32) (x4 : Int32) (x5 : Int32) (σ : rp_Mm) : rp_Le (EV sc (99, 0, 0, 23, [.ref 37, .int x1, .int x2, .int x3, .int (x4 + 1), rp_U], [], (rp_L0, σ))) (EV sc (99, 0, 0, 79, [.ref 37, .int x1, .int x2, .int x3, .int x4, .int x5], [], (rp_L0, σ))) := by
  refine rp_lp (q := 82) (ls' := [.ref 37, .int x1, .int x2, .int x3, .int (x4 + 1), .int x5]) rfl rfl rfl ?_
  refine rp_lp (q := 23) rfl rfl rfl ?_
  exact rp_LeU ⟨Or.inl rfl, Or.inl rfl, Or.inl rfl, Or.inl rfl, Or.inl rfl, Or.inr ⟨rfl, rfl⟩, trivial⟩
-- Plan_isGood
set_option maxRecDepth 20000 in
theorem D_Plan_isGood_0 {sc : rp_Sc} (a0 : Int32) (a1 : Int32) (σ : rp_Mm) : rp_Le (thI (CL sc 91 [.ref 37, .int a0] σ) fun r2 σ1 => if (r2 < a1 : Prop) then RI 0 σ1 else thI (CL sc 91 [.ref 37, .int a0] σ1) fun r4 σ3 => if ((a1 + (σ3 37 7)) ≤ r4 : Prop) then RI 0 σ3 else RI 1 σ3) (EV sc (100, 0, 0, 0, [.ref 37, .int a0, .int a1], [], (rp_L0, σ))) := by
  refine rp_lp (q := 1) rfl rfl rfl ?_
  refine rp_lp (q := 2) rfl rfl rfl ?_
  refine rp_lci (uc' := 0) (us' := 0) rfl (rp_rcv rfl) rfl rfl rfl rfl rfl rfl (fun r2 σ1 => ?_)
  refine rp_lp (q := 6) rfl rfl rfl ?_
  refine rp_lbr (a := 27) (b := 9) rfl rfl rfl ?_ ?_
  ·
    refine rp_lp (q := 28) rfl rfl rfl ?_
    exact rp_lrz rfl rfl (by decide)
  ·
    refine rp_lp (q := 10) rfl rfl rfl ?_
    refine rp_lp (q := 11) rfl rfl rfl ?_
    refine rp_lci (uc' := 0) (us' := 0) rfl (rp_rcv rfl) rfl rfl rfl rfl rfl rfl (fun r4 σ3 => ?_)
    refine rp_lp (q := 15) rfl rfl rfl ?_
    refine rp_lp (q := 16) rfl rfl rfl ?_
    refine rp_lgm rfl rfl rfl ?_
    refine rp_lp (q := 20) rfl rfl rfl ?_
    refine rp_lbr (a := 27) (b := 23) rfl rfl rfl ?_ ?_
    ·
      refine rp_lp (q := 28) rfl rfl rfl ?_
      exact rp_lrz rfl rfl (by decide)
    ·
      refine rp_lp (q := 24) rfl rfl rfl ?_
      refine rp_lp (q := 28) rfl rfl rfl ?_
      exact rp_lrz rfl rfl (by decide)
-- Plan_chosenCost
set_option maxRecDepth 20000 in
theorem D_Plan_chosenCost_0 {sc : rp_Sc} (σ : rp_Mm) : rp_Le (RI (σ 37 11) σ) (EV sc (101, 0, 0, 0, [.ref 37], [], (rp_L0, σ))) := by
  refine rp_lp (q := 1) rfl rfl rfl ?_
  refine rp_lgm rfl rfl rfl ?_
  exact rp_lri rfl rfl
-- Plan_chosenLaw
set_option maxRecDepth 20000 in
theorem D_Plan_chosenLaw_0 {sc : rp_Sc} (σ : rp_Mm) : rp_Le (RI (σ 37 12) σ) (EV sc (102, 0, 0, 0, [.ref 37], [], (rp_L0, σ))) := by
  refine rp_lp (q := 1) rfl rfl rfl ?_
  refine rp_lgm rfl rfl rfl ?_
  exact rp_lri rfl rfl
-- Plan_chosenStart
set_option maxRecDepth 20000 in
theorem D_Plan_chosenStart_0 {sc : rp_Sc} (σ : rp_Mm) : rp_Le (RI (σ 37 13) σ) (EV sc (103, 0, 0, 0, [.ref 37], [], (rp_L0, σ))) := by
  refine rp_lp (q := 1) rfl rfl rfl ?_
  refine rp_lgm rfl rfl rfl ?_
  exact rp_lri rfl rfl
-- Plan_chosenDays
set_option maxRecDepth 20000 in
theorem D_Plan_chosenDays_0 {sc : rp_Sc} (σ : rp_Mm) : rp_Le (RI (rp_bc (σ 37 10)) σ) (EV sc (104, 0, 0, 0, [.ref 37], [], (rp_L0, σ))) := by
  refine rp_lp (q := 1) rfl rfl rfl ?_
  refine rp_lgm rfl rfl rfl ?_
  refine rp_lb (q := 7) rfl rfl rfl rfl rfl ?_
  exact rp_lri rfl rfl
-- Plan_chosenGoers
set_option maxRecDepth 20000 in
theorem D_Plan_chosenGoers_0 {sc : rp_Sc} (σ : rp_Mm) : rp_Le (EV sc (105, 0, 0, 4, [.ref 37, .int 0, .int 0], [], (rp_L0, σ))) (EV sc (105, 0, 0, 0, [.ref 37, rp_U, rp_U], [], (rp_L0, σ))) := by
  refine rp_lp (q := 1) rfl rfl rfl ?_
  refine rp_lp (q := 2) (ls' := [.ref 37, .int 0, rp_U]) rfl rfl rfl ?_
  refine rp_lp (q := 3) rfl rfl rfl ?_
  refine rp_lp (q := 4) (ls' := [.ref 37, .int 0, .int 0]) rfl rfl rfl ?_
  exact rp_Le_rfl
set_option maxRecDepth 20000 in
theorem D_Plan_chosenGoers_4 {sc : rp_Sc} (x1 : Int32) (x2 : Int32) (σ : rp_Mm) : rp_Le (if ((σ 37 3) ≤ x2 : Prop) then RI x1 σ else thI (CL sc 106 [.ref 37, .int x2] σ) fun r2 σ1 => if (r2 = 0 : Prop) then EV sc (105, 0, 0, 28, [.ref 37, .int x1, .int x2], [], (rp_L0, σ1)) else thI (CL sc 93 [.ref 37, .int x2] σ1) fun r4 σ3 => EV sc (105, 0, 0, 28, [.ref 37, .int (x1 + r4), .int x2], [], (rp_L0, σ3))) (EV sc (105, 0, 0, 4, [.ref 37, .int x1, .int x2], [], (rp_L0, σ))) := by
  refine rp_lp (q := 5) rfl rfl rfl ?_
  refine rp_lp (q := 6) rfl rfl rfl ?_
  refine rp_lgm rfl rfl rfl ?_
  refine rp_lbr (a := 34) (b := 12) rfl rfl rfl ?_ ?_
  ·
    refine rp_lp (q := 35) rfl rfl rfl ?_
    exact rp_lri rfl rfl
  ·
    refine rp_lp (q := 13) rfl rfl rfl ?_
    refine rp_lp (q := 14) rfl rfl rfl ?_
    refine rp_lci (uc' := 0) (us' := 0) rfl (rp_rcv rfl) rfl rfl rfl rfl rfl rfl (fun r2 σ1 => ?_)
    refine rp_lbr (a := 28) (b := 20) rfl rfl rfl ?_ ?_
    ·
      exact rp_Le_rfl
    ·
      refine rp_lp (q := 21) rfl rfl rfl ?_
      refine rp_lp (q := 22) rfl rfl rfl ?_
      refine rp_lp (q := 23) rfl rfl rfl ?_
      refine rp_lci (uc' := 0) (us' := 0) rfl (rp_rcv rfl) rfl rfl rfl rfl rfl rfl (fun r4 σ3 => ?_)
      refine rp_lp (q := 27) rfl rfl rfl ?_
      refine rp_lp (q := 28) (ls' := [.ref 37, .int (x1 + r4), .int x2]) rfl rfl rfl ?_
      exact rp_Le_rfl
set_option maxRecDepth 20000 in
theorem D_Plan_chosenGoers_28 {sc : rp_Sc} (x1 : Int32) (x2 : Int32) (σ : rp_Mm) : rp_Le (EV sc (105, 0, 0, 4, [.ref 37, .int x1, .int (x2 + 1)], [], (rp_L0, σ))) (EV sc (105, 0, 0, 28, [.ref 37, .int x1, .int x2], [], (rp_L0, σ))) := by
  refine rp_lp (q := 31) (ls' := [.ref 37, .int x1, .int (x2 + 1)]) rfl rfl rfl ?_
  refine rp_lp (q := 4) rfl rfl rfl ?_
  exact rp_Le_rfl
-- Plan_isSpent
set_option maxRecDepth 20000 in
theorem D_Plan_isSpent_0 {sc : rp_Sc} (a0 : Int32) (σ : rp_Mm) : rp_Le (if ((((σ 37 10) >>> (a0 &&& 31)) &&& (1 : Int32)) = 1 : Prop) then RI 1 σ else RI 0 σ) (EV sc (106, 0, 0, 0, [.ref 37, .int a0], [], (rp_L0, σ))) := by
  refine rp_lp (q := 1) rfl rfl rfl ?_
  refine rp_lgm rfl rfl rfl ?_
  refine rp_lp (q := 5) rfl rfl rfl ?_
  refine rp_lp (q := 6) rfl rfl rfl ?_
  refine rp_lp (q := 7) rfl rfl rfl ?_
  refine rp_lp (q := 8) rfl rfl rfl ?_
  refine rp_lp (q := 9) rfl rfl rfl ?_
  refine rp_lbr (a := 12) (b := 16) rfl rfl rfl ?_ ?_
  ·
    refine rp_lp (q := 13) rfl rfl rfl ?_
    refine rp_lp (q := 17) rfl rfl rfl ?_
    exact rp_lrz rfl rfl (by decide)
  ·
    refine rp_lp (q := 17) rfl rfl rfl ?_
    exact rp_lrz rfl rfl (by decide)
-- Plan_chosenDay
set_option maxRecDepth 20000 in
theorem D_Plan_chosenDay_0 {sc : rp_Sc} (a0 : Int32) (σ : rp_Mm) : rp_Le (EV sc (107, 0, 0, 4, [.ref 37, .int a0, .int 0, .int 0], [], (rp_L0, σ))) (EV sc (107, 0, 0, 0, [.ref 37, .int a0, rp_U, rp_U], [], (rp_L0, σ))) := by
  refine rp_lp (q := 1) rfl rfl rfl ?_
  refine rp_lp (q := 2) (ls' := [.ref 37, .int a0, .int 0, rp_U]) rfl rfl rfl ?_
  refine rp_lp (q := 3) rfl rfl rfl ?_
  refine rp_lp (q := 4) (ls' := [.ref 37, .int a0, .int 0, .int 0]) rfl rfl rfl ?_
  exact rp_Le_rfl
set_option maxRecDepth 20000 in
theorem D_Plan_chosenDay_4 {sc : rp_Sc} (x1 : Int32) (x2 : Int32) (x3 : Int32) (σ : rp_Mm) : rp_Le (if ((σ 37 3) ≤ x3 : Prop) then RI (-3) σ else thI (CL sc 106 [.ref 37, .int x3] σ) fun r2 σ1 => if (r2 = 0 : Prop) then EV sc (107, 0, 0, 34, [.ref 37, .int x1, .int x2, .int x3], [], (rp_L0, σ1)) else if (x2 = x1 : Prop) then thI (CL sc 91 [.ref 37, .int x3] σ1) fun r4 σ3 => RI r4 σ3 else EV sc (107, 0, 0, 34, [.ref 37, .int x1, .int (x2 + 1), .int x3], [], (rp_L0, σ1))) (EV sc (107, 0, 0, 4, [.ref 37, .int x1, .int x2, .int x3], [], (rp_L0, σ))) := by
  refine rp_lp (q := 5) rfl rfl rfl ?_
  refine rp_lp (q := 6) rfl rfl rfl ?_
  refine rp_lgm rfl rfl rfl ?_
  refine rp_lbr (a := 40) (b := 12) rfl rfl rfl ?_ ?_
  ·
    refine rp_lp (q := 42) rfl rfl rfl ?_
    exact rp_lri rfl rfl
  ·
    refine rp_lp (q := 13) rfl rfl rfl ?_
    refine rp_lp (q := 14) rfl rfl rfl ?_
    refine rp_lci (uc' := 0) (us' := 0) rfl (rp_rcv rfl) rfl rfl rfl rfl rfl rfl (fun r2 σ1 => ?_)
    refine rp_lbr (a := 34) (b := 20) rfl rfl rfl ?_ ?_
    ·
      exact rp_Le_rfl
    ·
      refine rp_lp (q := 21) rfl rfl rfl ?_
      refine rp_lp (q := 22) rfl rfl rfl ?_
      refine rp_lbr (a := 25) (b := 31) rfl rfl rfl ?_ ?_
      ·
        refine rp_lp (q := 26) rfl rfl rfl ?_
        refine rp_lp (q := 27) rfl rfl rfl ?_
        refine rp_lci (uc' := 0) (us' := 0) rfl (rp_rcv rfl) rfl rfl rfl rfl rfl rfl (fun r4 σ3 => ?_)
        exact rp_lri rfl rfl
      ·
        refine rp_lp (q := 34) (ls' := [.ref 37, .int x1, .int (x2 + 1), .int x3]) rfl rfl rfl ?_
        exact rp_Le_rfl
set_option maxRecDepth 20000 in
theorem D_Plan_chosenDay_34 {sc : rp_Sc} (x1 : Int32) (x2 : Int32) (x3 : Int32) (σ : rp_Mm) : rp_Le (EV sc (107, 0, 0, 4, [.ref 37, .int x1, .int x2, .int (x3 + 1)], [], (rp_L0, σ))) (EV sc (107, 0, 0, 34, [.ref 37, .int x1, .int x2, .int x3], [], (rp_L0, σ))) := by
  refine rp_lp (q := 37) (ls' := [.ref 37, .int x1, .int x2, .int (x3 + 1)]) rfl rfl rfl ?_
  refine rp_lp (q := 4) rfl rfl rfl ?_
  exact rp_Le_rfl
-- RailPasses_least
set_option maxRecDepth 20000 in
theorem D_RailPasses_least_0 {sc : rp_Sc} (a0 : Int32) (a1 : Int32) (σ : rp_Mm) : rp_Le (thI (CL sc 55 [.int a0] σ) fun r2 σ1 => if (r2 = 0 : Prop) then RI (-1) σ1 else thI (CL sc 60 [.int a1] σ1) fun r4 σ3 => if (r4 = 0 : Prop) then RI (-1) σ3 else thI (CL sc 58 [.ref 2, .int a0] σ3) fun r6 σ5 => if (r6 = 0 : Prop) then RI (-3) σ5 else thV (CL sc 88 [.ref 37, .ref 2, .int a0] σ5) fun σ7 => thI (CL sc 99 [.ref 37, .int a1] σ7) fun r9 σ8 => RI r9 σ8) (EV sc (108, 0, 0, 0, [.ref 1, .int a0, .int a1], [], (rp_L0, σ))) := by
  refine rp_lp (q := 1) rfl rfl rfl ?_
  refine rp_lci (uc' := 0) (us' := 0) rfl rfl rfl rfl rfl rfl rfl rfl (fun r2 σ1 => ?_)
  refine rp_lbr (a := 14) (b := 7) rfl rfl rfl ?_ ?_
  ·
    refine rp_lp (q := 15) rfl rfl rfl ?_
    exact rp_lri rfl rfl
  ·
    refine rp_lp (q := 8) rfl rfl rfl ?_
    refine rp_lci (uc' := 0) (us' := 0) rfl rfl rfl rfl rfl rfl rfl rfl (fun r4 σ3 => ?_)
    refine rp_lbr (a := 14) (b := 16) rfl rfl rfl ?_ ?_
    ·
      refine rp_lp (q := 15) rfl rfl rfl ?_
      exact rp_lri rfl rfl
    ·
      refine rp_lp (q := 17) rfl rfl rfl ?_
      refine rp_lgf rfl rfl rfl ?_
      refine rp_lp (q := 21) rfl rfl rfl ?_
      refine rp_lci (uc' := 0) (us' := 0) rfl (rp_rcv rfl) rfl rfl rfl rfl rfl rfl (fun r6 σ5 => ?_)
      refine rp_lbr (a := 27) (b := 30) rfl rfl rfl ?_ ?_
      ·
        refine rp_lp (q := 29) rfl rfl rfl ?_
        exact rp_lri rfl rfl
      ·
        refine rp_lp (q := 31) rfl rfl rfl ?_
        refine rp_lgf rfl rfl rfl ?_
        refine rp_lp (q := 35) rfl rfl rfl ?_
        refine rp_lgf rfl rfl rfl ?_
        refine rp_lp (q := 39) rfl rfl rfl ?_
        refine rp_lcv (uc' := 0) (us' := 0) rfl (rp_rcv rfl) rfl rfl rfl rfl rfl rfl (fun σ7 => ?_)
        refine rp_lp (q := 43) rfl rfl rfl ?_
        refine rp_lgf rfl rfl rfl ?_
        refine rp_lp (q := 47) rfl rfl rfl ?_
        refine rp_lci (uc' := 0) (us' := 0) rfl (rp_rcv rfl) rfl rfl rfl rfl rfl rfl (fun r9 σ8 => ?_)
        exact rp_lri rfl rfl
-- RailPasses_prove
set_option maxRecDepth 20000 in
theorem D_RailPasses_prove_0 {sc : rp_Sc} (σ : rp_Mm) : rp_Le (thI (CL sc 110 [.ref 42, .ref 2, .ref 37] σ) fun r2 σ1 => if (r2 ≤ 200 : Prop) then thV (CL sc 112 [.ref 42, .ref 2, .ref 37] σ1) fun σ3 => thI (CL sc 19 [.ref 43] σ3) fun r5 σ4 => RI r5 σ4 else RI (-2) σ1) (EV sc (109, 0, 0, 0, [.ref 1], [], (rp_L0, σ))) := by
  refine rp_lp (q := 1) rfl rfl rfl ?_
  refine rp_lgf rfl rfl rfl ?_
  refine rp_lp (q := 5) rfl rfl rfl ?_
  refine rp_lgf rfl rfl rfl ?_
  refine rp_lp (q := 9) rfl rfl rfl ?_
  refine rp_lgf rfl rfl rfl ?_
  refine rp_lci (uc' := 0) (us' := 0) rfl (rp_rcv rfl) rfl rfl rfl rfl rfl rfl (fun r2 σ1 => ?_)
  refine rp_lp (q := 18) rfl rfl rfl ?_
  refine rp_lbr (a := 24) (b := 21) rfl rfl rfl ?_ ?_
  ·
    refine rp_lp (q := 25) rfl rfl rfl ?_
    refine rp_lgf rfl rfl rfl ?_
    refine rp_lp (q := 29) rfl rfl rfl ?_
    refine rp_lgf rfl rfl rfl ?_
    refine rp_lp (q := 33) rfl rfl rfl ?_
    refine rp_lgf rfl rfl rfl ?_
    refine rp_lcv (uc' := 0) (us' := 0) rfl (rp_rcv rfl) rfl rfl rfl rfl rfl rfl (fun σ3 => ?_)
    refine rp_lp (q := 40) rfl rfl rfl ?_
    refine rp_lgf rfl rfl rfl ?_
    refine rp_lgf rfl rfl rfl ?_
    refine rp_lci (uc' := 0) (us' := 0) rfl (rp_rcv rfl) rfl rfl rfl rfl rfl rfl (fun r5 σ4 => ?_)
    exact rp_lri rfl rfl
  ·
    refine rp_lp (q := 23) rfl rfl rfl ?_
    exact rp_lri rfl rfl
-- Proof_due
set_option maxRecDepth 20000 in
theorem D_Proof_due_0 {sc : rp_Sc} (σ : rp_Mm) : rp_Le (EV sc (110, 0, 0, 5, [.ref 42, .ref 2, .ref 37, .int 0, .int 0, rp_U], [], (rp_L0, σ))) (EV sc (110, 0, 0, 0, [.ref 42, .ref 2, .ref 37, rp_U, rp_U, rp_U], [], (rp_L0, σ))) := by
  refine rp_lp (q := 1) rfl rfl rfl ?_
  refine rp_lp (q := 2) (ls' := [.ref 42, .ref 2, .ref 37, .int 0, rp_U, rp_U]) rfl rfl rfl ?_
  refine rp_lp (q := 3) rfl rfl rfl ?_
  refine rp_lp (q := 5) (ls' := [.ref 42, .ref 2, .ref 37, .int 0, .int 0, rp_U]) rfl rfl rfl ?_
  exact rp_Le_rfl
set_option maxRecDepth 20000 in
theorem D_Proof_due_5 {sc : rp_Sc} (x3 : Int32) (x4 : Int32) (σ : rp_Mm) : rp_Le (if (3 ≤ x4 : Prop) then RI x3 σ else thV (CL sc 88 [.ref 37, .ref 2, .int x4] σ) fun σ1 => EV sc (110, 0, 0, 21, [.ref 42, .ref 2, .ref 37, .int x3, .int x4, .int 0], [], (rp_L0, σ1))) (EV sc (110, 0, 0, 5, [.ref 42, .ref 2, .ref 37, .int x3, .int x4, rp_U], [], (rp_L0, σ))) := by
  refine rp_lp (q := 7) rfl rfl rfl ?_
  refine rp_lp (q := 8) rfl rfl rfl ?_
  refine rp_lbr (a := 52) (b := 11) rfl rfl rfl ?_ ?_
  ·
    refine rp_lp (q := 53) rfl rfl rfl ?_
    exact rp_lri rfl rfl
  ·
    refine rp_lp (q := 12) rfl rfl rfl ?_
    refine rp_lp (q := 13) rfl rfl rfl ?_
    refine rp_lp (q := 15) rfl rfl rfl ?_
    refine rp_lcv (uc' := 0) (us' := 0) rfl (rp_rcv rfl) rfl rfl rfl rfl rfl rfl (fun σ1 => ?_)
    refine rp_lp (q := 19) rfl rfl rfl ?_
    refine rp_lp (q := 21) (ls' := [.ref 42, .ref 2, .ref 37, .int x3, .int x4, .int 0]) rfl rfl rfl ?_
    exact rp_Le_rfl
set_option maxRecDepth 20000 in
theorem D_Proof_due_21 {sc : rp_Sc} (x3 : Int32) (x4 : Int32) (x5 : Int32) (σ : rp_Mm) : rp_Le (if (120 < x5 : Prop) then EV sc (110, 0, 0, 5, [.ref 42, .ref 2, .ref 37, .int x3, .int (x4 + 1), rp_U], [], (rp_L0, σ)) else thI (CL sc 111 [.ref 37, .int x5] σ) fun r2 σ1 => if (r2 = 0 : Prop) then EV sc (110, 0, 0, 40, [.ref 42, .ref 2, .ref 37, .int x3, .int x4, .int x5], [], (rp_L0, σ1)) else EV sc (110, 0, 0, 40, [.ref 42, .ref 2, .ref 37, .int (x3 + 1), .int x4, .int x5], [], (rp_L0, σ1))) (EV sc (110, 0, 0, 21, [.ref 42, .ref 2, .ref 37, .int x3, .int x4, .int x5], [], (rp_L0, σ))) := by
  refine rp_lp (q := 23) rfl rfl rfl ?_
  refine rp_lp (q := 25) rfl rfl rfl ?_
  refine rp_lbr (a := 46) (b := 28) rfl rfl rfl ?_ ?_
  ·
    refine rp_lp (q := 49) (ls' := [.ref 42, .ref 2, .ref 37, .int x3, .int (x4 + 1), .int x5]) rfl rfl rfl ?_
    refine rp_lp (q := 5) rfl rfl rfl ?_
    exact rp_LeU ⟨Or.inl rfl, Or.inl rfl, Or.inl rfl, Or.inl rfl, Or.inl rfl, Or.inr ⟨rfl, rfl⟩, trivial⟩
  ·
    refine rp_lp (q := 29) rfl rfl rfl ?_
    refine rp_lp (q := 31) rfl rfl rfl ?_
    refine rp_lci (uc' := 0) (us' := 0) rfl (rp_rcv rfl) rfl rfl rfl rfl rfl rfl (fun r2 σ1 => ?_)
    refine rp_lbr (a := 40) (b := 37) rfl rfl rfl ?_ ?_
    ·
      exact rp_Le_rfl
    ·
      refine rp_lp (q := 40) (ls' := [.ref 42, .ref 2, .ref 37, .int (x3 + 1), .int x4, .int x5]) rfl rfl rfl ?_
      exact rp_Le_rfl
set_option maxRecDepth 20000 in
theorem D_Proof_due_40 {sc : rp_Sc} (x3 : Int32) (x4 : Int32) (x5 : Int32) (σ : rp_Mm) : rp_Le (EV sc (110, 0, 0, 21, [.ref 42, .ref 2, .ref 37, .int x3, .int x4, .int (x5 + 1)], [], (rp_L0, σ))) (EV sc (110, 0, 0, 40, [.ref 42, .ref 2, .ref 37, .int x3, .int x4, .int x5], [], (rp_L0, σ))) := by
  refine rp_lp (q := 43) (ls' := [.ref 42, .ref 2, .ref 37, .int x3, .int x4, .int (x5 + 1)]) rfl rfl rfl ?_
  refine rp_lp (q := 21) rfl rfl rfl ?_
  exact rp_Le_rfl
-- Plan_hasGoodDay
set_option maxRecDepth 20000 in
theorem D_Plan_hasGoodDay_0 {sc : rp_Sc} (a0 : Int32) (σ : rp_Mm) : rp_Le (EV sc (111, 0, 0, 2, [.ref 37, .int a0, .int 0], [], (rp_L0, σ))) (EV sc (111, 0, 0, 0, [.ref 37, .int a0, rp_U], [], (rp_L0, σ))) := by
  refine rp_lp (q := 1) rfl rfl rfl ?_
  refine rp_lp (q := 2) (ls' := [.ref 37, .int a0, .int 0]) rfl rfl rfl ?_
  exact rp_Le_rfl
set_option maxRecDepth 20000 in
theorem D_Plan_hasGoodDay_2 {sc : rp_Sc} (x1 : Int32) (x2 : Int32) (σ : rp_Mm) : rp_Le (if ((σ 37 3) ≤ x2 : Prop) then RI 0 σ else thI (CL sc 100 [.ref 37, .int x2, .int x1] σ) fun r2 σ1 => if (r2 = 0 : Prop) then EV sc (111, 0, 0, 2, [.ref 37, .int x1, .int (x2 + 1)], [], (rp_L0, σ1)) else RI 1 σ1) (EV sc (111, 0, 0, 2, [.ref 37, .int x1, .int x2], [], (rp_L0, σ))) := by
  refine rp_lp (q := 3) rfl rfl rfl ?_
  refine rp_lp (q := 4) rfl rfl rfl ?_
  refine rp_lgm rfl rfl rfl ?_
  refine rp_lbr (a := 27) (b := 10) rfl rfl rfl ?_ ?_
  ·
    refine rp_lp (q := 28) rfl rfl rfl ?_
    exact rp_lrz rfl rfl (by decide)
  ·
    refine rp_lp (q := 11) rfl rfl rfl ?_
    refine rp_lp (q := 12) rfl rfl rfl ?_
    refine rp_lp (q := 13) rfl rfl rfl ?_
    refine rp_lci (uc' := 0) (us' := 0) rfl (rp_rcv rfl) rfl rfl rfl rfl rfl rfl (fun r2 σ1 => ?_)
    refine rp_lbr (a := 21) (b := 19) rfl rfl rfl ?_ ?_
    ·
      refine rp_lp (q := 24) (ls' := [.ref 37, .int x1, .int (x2 + 1)]) rfl rfl rfl ?_
      refine rp_lp (q := 2) rfl rfl rfl ?_
      exact rp_Le_rfl
    ·
      refine rp_lp (q := 20) rfl rfl rfl ?_
      exact rp_lrz rfl rfl (by decide)
-- Proof_write
set_option maxRecDepth 20000 in
theorem D_Proof_write_0 {sc : rp_Sc} (σ : rp_Mm) : rp_Le (thV (CL sc 113 [.ref 43] σ) fun σ1 => EV sc (112, 0, 0, 9, [.ref 42, .ref 2, .ref 37, .int 0, rp_U, rp_U], [], (rp_L0, σ1))) (EV sc (112, 0, 0, 0, [.ref 42, .ref 2, .ref 37, rp_U, rp_U, rp_U], [], (rp_L0, σ))) := by
  refine rp_lp (q := 1) rfl rfl rfl ?_
  refine rp_lgf rfl rfl rfl ?_
  refine rp_lcv (uc' := 0) (us' := 0) rfl (rp_rcv rfl) rfl rfl rfl rfl rfl rfl (fun σ1 => ?_)
  refine rp_lp (q := 8) rfl rfl rfl ?_
  refine rp_lp (q := 9) (ls' := [.ref 42, .ref 2, .ref 37, .int 0, rp_U, rp_U]) rfl rfl rfl ?_
  exact rp_Le_rfl
set_option maxRecDepth 20000 in
theorem D_Proof_write_9 {sc : rp_Sc} (x3 : Int32) (σ : rp_Mm) : rp_Le (if (3 ≤ x3 : Prop) then RV σ else thV (CL sc 88 [.ref 37, .ref 2, .int x3] σ) fun σ1 => EV sc (112, 0, 0, 23, [.ref 42, .ref 2, .ref 37, .int x3, .int 0, rp_U], [], (rp_L0, σ1))) (EV sc (112, 0, 0, 9, [.ref 42, .ref 2, .ref 37, .int x3, rp_U, rp_U], [], (rp_L0, σ))) := by
  refine rp_lp (q := 10) rfl rfl rfl ?_
  refine rp_lp (q := 11) rfl rfl rfl ?_
  refine rp_lbr (a := 99) (b := 14) rfl rfl rfl ?_ ?_
  ·
    exact rp_lrv rfl rfl
  ·
    refine rp_lp (q := 15) rfl rfl rfl ?_
    refine rp_lp (q := 16) rfl rfl rfl ?_
    refine rp_lp (q := 17) rfl rfl rfl ?_
    refine rp_lcv (uc' := 0) (us' := 0) rfl (rp_rcv rfl) rfl rfl rfl rfl rfl rfl (fun σ1 => ?_)
    refine rp_lp (q := 21) rfl rfl rfl ?_
    refine rp_lp (q := 23) (ls' := [.ref 42, .ref 2, .ref 37, .int x3, .int 0, rp_U]) rfl rfl rfl ?_
    exact rp_Le_rfl
set_option maxRecDepth 20000 in
theorem D_Proof_write_23 {sc : rp_Sc} (x3 : Int32) (x4 : Int32) (σ : rp_Mm) : rp_Le (if (120 < x4 : Prop) then EV sc (112, 0, 0, 9, [.ref 42, .ref 2, .ref 37, .int (x3 + 1), rp_U, rp_U], [], (rp_L0, σ)) else thI (CL sc 111 [.ref 37, .int x4] σ) fun r2 σ1 => if (r2 = 0 : Prop) then EV sc (112, 0, 0, 87, [.ref 42, .ref 2, .ref 37, .int x3, .int x4, rp_U], [], (rp_L0, σ1)) else thI (CL sc 3 [.ref 43] σ1) fun r4 σ3 => thV (CL sc 5 [.ref 43, .int r4, .int 0, .int x3] σ3) fun σ5 => thV (CL sc 5 [.ref 43, .int r4, .int 1, .int x4] σ5) fun σ6 => thI (CL sc 99 [.ref 37, .int x4] σ6) fun r8 σ7 => thV (CL sc 5 [.ref 43, .int r4, .int 2, .int r8] σ7) fun σ9 => EV sc (112, 0, 0, 87, [.ref 42, .ref 2, .ref 37, .int x3, .int x4, rp_U], [], (rp_L0, σ9))) (EV sc (112, 0, 0, 23, [.ref 42, .ref 2, .ref 37, .int x3, .int x4, rp_U], [], (rp_L0, σ))) := by
  refine rp_lp (q := 25) rfl rfl rfl ?_
  refine rp_lp (q := 27) rfl rfl rfl ?_
  refine rp_lbr (a := 93) (b := 30) rfl rfl rfl ?_ ?_
  ·
    refine rp_lp (q := 96) (ls' := [.ref 42, .ref 2, .ref 37, .int (x3 + 1), .int x4, rp_U]) rfl rfl rfl ?_
    refine rp_lp (q := 9) rfl rfl rfl ?_
    exact rp_LeU ⟨Or.inl rfl, Or.inl rfl, Or.inl rfl, Or.inl rfl, Or.inr ⟨rfl, rfl⟩, Or.inl rfl, trivial⟩
  ·
    refine rp_lp (q := 31) rfl rfl rfl ?_
    refine rp_lp (q := 33) rfl rfl rfl ?_
    refine rp_lci (uc' := 0) (us' := 0) rfl (rp_rcv rfl) rfl rfl rfl rfl rfl rfl (fun r2 σ1 => ?_)
    refine rp_lbr (a := 87) (b := 39) rfl rfl rfl ?_ ?_
    ·
      exact rp_Le_rfl
    ·
      refine rp_lp (q := 40) rfl rfl rfl ?_
      refine rp_lgf rfl rfl rfl ?_
      refine rp_lci (uc' := 0) (us' := 0) rfl (rp_rcv rfl) rfl rfl rfl rfl rfl rfl (fun r4 σ3 => ?_)
      refine rp_lp (q := 48) (ls' := [.ref 42, .ref 2, .ref 37, .int x3, .int x4, .int r4]) rfl rfl rfl ?_
      refine rp_lp (q := 49) rfl rfl rfl ?_
      refine rp_lgf rfl rfl rfl ?_
      refine rp_lp (q := 54) rfl rfl rfl ?_
      refine rp_lp (q := 55) rfl rfl rfl ?_
      refine rp_lp (q := 56) rfl rfl rfl ?_
      refine rp_lcv (uc' := 0) (us' := 0) rfl (rp_rcv rfl) rfl rfl rfl rfl rfl rfl (fun σ5 => ?_)
      refine rp_lp (q := 60) rfl rfl rfl ?_
      refine rp_lgf rfl rfl rfl ?_
      refine rp_lp (q := 65) rfl rfl rfl ?_
      refine rp_lp (q := 66) rfl rfl rfl ?_
      refine rp_lp (q := 68) rfl rfl rfl ?_
      refine rp_lcv (uc' := 0) (us' := 0) rfl (rp_rcv rfl) rfl rfl rfl rfl rfl rfl (fun σ6 => ?_)
      refine rp_lp (q := 72) rfl rfl rfl ?_
      refine rp_lgf rfl rfl rfl ?_
      refine rp_lp (q := 77) rfl rfl rfl ?_
      refine rp_lp (q := 78) rfl rfl rfl ?_
      refine rp_lp (q := 79) rfl rfl rfl ?_
      refine rp_lp (q := 81) rfl rfl rfl ?_
      refine rp_lci (uc' := 0) (us' := 0) rfl (rp_rcv rfl) rfl rfl rfl rfl rfl rfl (fun r8 σ7 => ?_)
      refine rp_lcv (uc' := 0) (us' := 0) rfl (rp_rcv rfl) rfl rfl rfl rfl rfl rfl (fun σ9 => ?_)
      exact rp_LeU ⟨Or.inl rfl, Or.inl rfl, Or.inl rfl, Or.inl rfl, Or.inl rfl, Or.inr ⟨rfl, rfl⟩, trivial⟩
set_option maxRecDepth 20000 in
theorem D_Proof_write_87 {sc : rp_Sc} (x3 : Int32) (x4 : Int32) (σ : rp_Mm) : rp_Le (EV sc (112, 0, 0, 23, [.ref 42, .ref 2, .ref 37, .int x3, .int (x4 + 1), rp_U], [], (rp_L0, σ))) (EV sc (112, 0, 0, 87, [.ref 42, .ref 2, .ref 37, .int x3, .int x4, rp_U], [], (rp_L0, σ))) := by
  refine rp_lp (q := 90) (ls' := [.ref 42, .ref 2, .ref 37, .int x3, .int (x4 + 1), rp_U]) rfl rfl rfl ?_
  refine rp_lp (q := 23) rfl rfl rfl ?_
  exact rp_Le_rfl
-- Table_clear
set_option maxRecDepth 20000 in
theorem D_Table_clear_0 {sc : rp_Sc} {t tc tq : Nat} {tl tw : Int32} (ht : rp_L0[t]? = some (.inr (5, [some (.ref (tc + 1)), some (.int tl), some (.int tw), none]))) (htc : rp_L0[tc + 1]? = some (.inl (false, tq))) (σ : rp_Mm) : rp_Le (RV (rp_wr σ t 3 0)) (EV sc (113, 0, 0, 0, [.ref t], [], (rp_L0, σ))) := by
  refine rp_lp (q := 1) rfl rfl rfl ?_
  refine rp_lp (q := 2) rfl rfl rfl ?_
  refine rp_lpm rfl ht rfl rfl ?_
  exact rp_lrv rfl rfl
-- RailPasses_row
set_option maxRecDepth 20000 in
theorem D_RailPasses_row_0 {sc : rp_Sc} (a0 : Int32) (a1 : Int32) (σ : rp_Mm) : rp_Le (thI (CL sc 15 [.int a1, .int 0, .int 2] σ) fun r2 σ1 => if (r2 = 0 : Prop) then RI (-1) σ1 else thI (CL sc 25 [.ref 43, .int a0] σ1) fun r4 σ3 => if (r4 = 0 : Prop) then RI (-3) σ3 else thI (CL sc 20 [.ref 43, .int a0, .int a1] σ3) fun r6 σ5 => RI r6 σ5) (EV sc (114, 0, 0, 0, [.ref 1, .int a0, .int a1], [], (rp_L0, σ))) := by
  refine rp_lp (q := 1) rfl rfl rfl ?_
  refine rp_lp (q := 2) rfl rfl rfl ?_
  refine rp_lp (q := 3) rfl rfl rfl ?_
  refine rp_lci (uc' := 0) (us' := 0) rfl rfl rfl rfl rfl rfl rfl rfl (fun r2 σ1 => ?_)
  refine rp_lbr (a := 9) (b := 11) rfl rfl rfl ?_ ?_
  ·
    refine rp_lp (q := 10) rfl rfl rfl ?_
    exact rp_lri rfl rfl
  ·
    refine rp_lp (q := 12) rfl rfl rfl ?_
    refine rp_lgf rfl rfl rfl ?_
    refine rp_lgf rfl rfl rfl ?_
    refine rp_lp (q := 19) rfl rfl rfl ?_
    refine rp_lci (uc' := 0) (us' := 0) rfl (rp_rcv rfl) rfl rfl rfl rfl rfl rfl (fun r4 σ3 => ?_)
    refine rp_lbr (a := 40) (b := 25) rfl rfl rfl ?_ ?_
    ·
      refine rp_lp (q := 42) rfl rfl rfl ?_
      exact rp_lri rfl rfl
    ·
      refine rp_lp (q := 26) rfl rfl rfl ?_
      refine rp_lgf rfl rfl rfl ?_
      refine rp_lgf rfl rfl rfl ?_
      refine rp_lp (q := 33) rfl rfl rfl ?_
      refine rp_lp (q := 34) rfl rfl rfl ?_
      refine rp_lci (uc' := 0) (us' := 0) rfl (rp_rcv rfl) rfl rfl rfl rfl rfl rfl (fun r6 σ5 => ?_)
      refine rp_lp (q := 42) rfl rfl rfl ?_
      exact rp_lri rfl rfl
-- RailPasses_forge
set_option maxRecDepth 20000 in
theorem D_RailPasses_forge_0 {sc : rp_Sc} (a0 : Int32) (a1 : Int32) (a2 : Int32) (σ : rp_Mm) : rp_Le (thI (CL sc 15 [.int a1, .int 0, .int 2] σ) fun r2 σ1 => if (r2 = 0 : Prop) then RI (-1) σ1 else thI (CL sc 25 [.ref 43, .int a0] σ1) fun r4 σ3 => if (r4 = 0 : Prop) then RI (-3) σ3 else thI (CL sc 20 [.ref 43, .int a0, .int a1] σ3) fun r6 σ5 => thV (CL sc 5 [.ref 43, .int a0, .int a1, .int a2] σ5) fun σ7 => RI r6 σ7) (EV sc (115, 0, 0, 0, [.ref 1, .int a0, .int a1, .int a2, rp_U], [], (rp_L0, σ))) := by
  refine rp_lp (q := 1) rfl rfl rfl ?_
  refine rp_lp (q := 2) rfl rfl rfl ?_
  refine rp_lp (q := 3) rfl rfl rfl ?_
  refine rp_lci (uc' := 0) (us' := 0) rfl rfl rfl rfl rfl rfl rfl rfl (fun r2 σ1 => ?_)
  refine rp_lbr (a := 9) (b := 11) rfl rfl rfl ?_ ?_
  ·
    refine rp_lp (q := 10) rfl rfl rfl ?_
    exact rp_lri rfl rfl
  ·
    refine rp_lp (q := 12) rfl rfl rfl ?_
    refine rp_lgf rfl rfl rfl ?_
    refine rp_lgf rfl rfl rfl ?_
    refine rp_lp (q := 19) rfl rfl rfl ?_
    refine rp_lci (uc' := 0) (us' := 0) rfl (rp_rcv rfl) rfl rfl rfl rfl rfl rfl (fun r4 σ3 => ?_)
    refine rp_lbr (a := 25) (b := 28) rfl rfl rfl ?_ ?_
    ·
      refine rp_lp (q := 27) rfl rfl rfl ?_
      exact rp_lri rfl rfl
    ·
      refine rp_lp (q := 29) rfl rfl rfl ?_
      refine rp_lgf rfl rfl rfl ?_
      refine rp_lgf rfl rfl rfl ?_
      refine rp_lp (q := 36) rfl rfl rfl ?_
      refine rp_lp (q := 37) rfl rfl rfl ?_
      refine rp_lci (uc' := 0) (us' := 0) rfl (rp_rcv rfl) rfl rfl rfl rfl rfl rfl (fun r6 σ5 => ?_)
      refine rp_lp (q := 42) (ls' := [.ref 1, .int a0, .int a1, .int a2, .int r6]) rfl rfl rfl ?_
      refine rp_lp (q := 43) rfl rfl rfl ?_
      refine rp_lgf rfl rfl rfl ?_
      refine rp_lgf rfl rfl rfl ?_
      refine rp_lp (q := 50) rfl rfl rfl ?_
      refine rp_lp (q := 51) rfl rfl rfl ?_
      refine rp_lp (q := 52) rfl rfl rfl ?_
      refine rp_lcv (uc' := 0) (us' := 0) rfl (rp_rcv rfl) rfl rfl rfl rfl rfl rfl (fun σ7 => ?_)
      refine rp_lp (q := 57) rfl rfl rfl ?_
      exact rp_lri rfl rfl
-- RailPasses_check
set_option maxRecDepth 20000 in
theorem D_RailPasses_check_0 {sc : rp_Sc} (σ : rp_Mm) : rp_Le (thI (CL sc 110 [.ref 42, .ref 2, .ref 37] σ) fun r2 σ1 => if (r2 ≤ 200 : Prop) then thI (CL sc 117 [.ref 42, .ref 2, .ref 37] σ1) fun r4 σ3 => RI r4 σ3 else RI (-2) σ1) (EV sc (116, 0, 0, 0, [.ref 1], [], (rp_L0, σ))) := by
  refine rp_lp (q := 1) rfl rfl rfl ?_
  refine rp_lgf rfl rfl rfl ?_
  refine rp_lp (q := 5) rfl rfl rfl ?_
  refine rp_lgf rfl rfl rfl ?_
  refine rp_lp (q := 9) rfl rfl rfl ?_
  refine rp_lgf rfl rfl rfl ?_
  refine rp_lci (uc' := 0) (us' := 0) rfl (rp_rcv rfl) rfl rfl rfl rfl rfl rfl (fun r2 σ1 => ?_)
  refine rp_lp (q := 18) rfl rfl rfl ?_
  refine rp_lbr (a := 24) (b := 21) rfl rfl rfl ?_ ?_
  ·
    refine rp_lp (q := 25) rfl rfl rfl ?_
    refine rp_lgf rfl rfl rfl ?_
    refine rp_lp (q := 29) rfl rfl rfl ?_
    refine rp_lgf rfl rfl rfl ?_
    refine rp_lp (q := 33) rfl rfl rfl ?_
    refine rp_lgf rfl rfl rfl ?_
    refine rp_lci (uc' := 0) (us' := 0) rfl (rp_rcv rfl) rfl rfl rfl rfl rfl rfl (fun r4 σ3 => ?_)
    exact rp_lri rfl rfl
  ·
    refine rp_lp (q := 23) rfl rfl rfl ?_
    exact rp_lri rfl rfl
-- Proof_firstWrong
set_option maxRecDepth 20000 in
theorem D_Proof_firstWrong_0 {sc : rp_Sc} (σ : rp_Mm) : rp_Le (EV sc (117, 0, 0, 5, [.ref 42, .ref 2, .ref 37, .int 0, .int 0, rp_U], [], (rp_L0, σ))) (EV sc (117, 0, 0, 0, [.ref 42, .ref 2, .ref 37, rp_U, rp_U, rp_U], [], (rp_L0, σ))) := by
  refine rp_lp (q := 1) rfl rfl rfl ?_
  refine rp_lp (q := 2) (ls' := [.ref 42, .ref 2, .ref 37, .int 0, rp_U, rp_U]) rfl rfl rfl ?_
  refine rp_lp (q := 3) rfl rfl rfl ?_
  refine rp_lp (q := 5) (ls' := [.ref 42, .ref 2, .ref 37, .int 0, .int 0, rp_U]) rfl rfl rfl ?_
  exact rp_Le_rfl
set_option maxRecDepth 20000 in
theorem D_Proof_firstWrong_5 {sc : rp_Sc} (x3 : Int32) (x4 : Int32) (σ : rp_Mm) : rp_Le (if (3 ≤ x4 : Prop) then thI (CL sc 19 [.ref 43] σ) fun r2 σ1 => if (r2 ≤ x3 : Prop) then RI (-1) σ1 else RI x3 σ1 else thV (CL sc 88 [.ref 37, .ref 2, .int x4] σ) fun σ3 => EV sc (117, 0, 0, 21, [.ref 42, .ref 2, .ref 37, .int x3, .int x4, .int 0], [], (rp_L0, σ3))) (EV sc (117, 0, 0, 5, [.ref 42, .ref 2, .ref 37, .int x3, .int x4, rp_U], [], (rp_L0, σ))) := by
  refine rp_lp (q := 7) rfl rfl rfl ?_
  refine rp_lp (q := 8) rfl rfl rfl ?_
  refine rp_lbr (a := 72) (b := 11) rfl rfl rfl ?_ ?_
  ·
    refine rp_lp (q := 73) rfl rfl rfl ?_
    refine rp_lp (q := 74) rfl rfl rfl ?_
    refine rp_lgf rfl rfl rfl ?_
    refine rp_lci (uc' := 0) (us' := 0) rfl (rp_rcv rfl) rfl rfl rfl rfl rfl rfl (fun r2 σ1 => ?_)
    refine rp_lbr (a := 87) (b := 83) rfl rfl rfl ?_ ?_
    ·
      refine rp_lp (q := 88) rfl rfl rfl ?_
      exact rp_lri rfl rfl
    ·
      refine rp_lp (q := 84) rfl rfl rfl ?_
      refine rp_lp (q := 88) rfl rfl rfl ?_
      exact rp_lri rfl rfl
  ·
    refine rp_lp (q := 12) rfl rfl rfl ?_
    refine rp_lp (q := 13) rfl rfl rfl ?_
    refine rp_lp (q := 15) rfl rfl rfl ?_
    refine rp_lcv (uc' := 0) (us' := 0) rfl (rp_rcv rfl) rfl rfl rfl rfl rfl rfl (fun σ3 => ?_)
    refine rp_lp (q := 19) rfl rfl rfl ?_
    refine rp_lp (q := 21) (ls' := [.ref 42, .ref 2, .ref 37, .int x3, .int x4, .int 0]) rfl rfl rfl ?_
    exact rp_Le_rfl
set_option maxRecDepth 20000 in
theorem D_Proof_firstWrong_21 {sc : rp_Sc} (x3 : Int32) (x4 : Int32) (x5 : Int32) (σ : rp_Mm) : rp_Le (if (120 < x5 : Prop) then EV sc (117, 0, 0, 5, [.ref 42, .ref 2, .ref 37, .int x3, .int (x4 + 1), rp_U], [], (rp_L0, σ)) else thI (CL sc 111 [.ref 37, .int x5] σ) fun r2 σ1 => if (r2 = 0 : Prop) then EV sc (117, 0, 0, 60, [.ref 42, .ref 2, .ref 37, .int x3, .int x4, .int x5], [], (rp_L0, σ1)) else thI (CL sc 99 [.ref 37, .int x5] σ1) fun r4 σ3 => thI (CL sc 118 [.ref 42, .int x3, .int x4, .int x5, .int r4] σ3) fun r6 σ5 => if (r6 = 0 : Prop) then RI x3 σ5 else EV sc (117, 0, 0, 60, [.ref 42, .ref 2, .ref 37, .int (x3 + 1), .int x4, .int x5], [], (rp_L0, σ5))) (EV sc (117, 0, 0, 21, [.ref 42, .ref 2, .ref 37, .int x3, .int x4, .int x5], [], (rp_L0, σ))) := by
  refine rp_lp (q := 23) rfl rfl rfl ?_
  refine rp_lp (q := 25) rfl rfl rfl ?_
  refine rp_lbr (a := 66) (b := 28) rfl rfl rfl ?_ ?_
  ·
    refine rp_lp (q := 69) (ls' := [.ref 42, .ref 2, .ref 37, .int x3, .int (x4 + 1), .int x5]) rfl rfl rfl ?_
    refine rp_lp (q := 5) rfl rfl rfl ?_
    exact rp_LeU ⟨Or.inl rfl, Or.inl rfl, Or.inl rfl, Or.inl rfl, Or.inl rfl, Or.inr ⟨rfl, rfl⟩, trivial⟩
  ·
    refine rp_lp (q := 29) rfl rfl rfl ?_
    refine rp_lp (q := 31) rfl rfl rfl ?_
    refine rp_lci (uc' := 0) (us' := 0) rfl (rp_rcv rfl) rfl rfl rfl rfl rfl rfl (fun r2 σ1 => ?_)
    refine rp_lbr (a := 60) (b := 37) rfl rfl rfl ?_ ?_
    ·
      exact rp_Le_rfl
    ·
      refine rp_lp (q := 38) rfl rfl rfl ?_
      refine rp_lp (q := 39) rfl rfl rfl ?_
      refine rp_lp (q := 41) rfl rfl rfl ?_
      refine rp_lp (q := 43) rfl rfl rfl ?_
      refine rp_lp (q := 44) rfl rfl rfl ?_
      refine rp_lp (q := 46) rfl rfl rfl ?_
      refine rp_lci (uc' := 0) (us' := 0) rfl (rp_rcv rfl) rfl rfl rfl rfl rfl rfl (fun r4 σ3 => ?_)
      refine rp_lci (uc' := 0) (us' := 0) rfl (rp_rcv rfl) rfl rfl rfl rfl rfl rfl (fun r6 σ5 => ?_)
      refine rp_lbr (a := 55) (b := 57) rfl rfl rfl ?_ ?_
      ·
        refine rp_lp (q := 56) rfl rfl rfl ?_
        exact rp_lri rfl rfl
      ·
        refine rp_lp (q := 60) (ls' := [.ref 42, .ref 2, .ref 37, .int (x3 + 1), .int x4, .int x5]) rfl rfl rfl ?_
        exact rp_Le_rfl
set_option maxRecDepth 20000 in
theorem D_Proof_firstWrong_60 {sc : rp_Sc} (x3 : Int32) (x4 : Int32) (x5 : Int32) (σ : rp_Mm) : rp_Le (EV sc (117, 0, 0, 21, [.ref 42, .ref 2, .ref 37, .int x3, .int x4, .int (x5 + 1)], [], (rp_L0, σ))) (EV sc (117, 0, 0, 60, [.ref 42, .ref 2, .ref 37, .int x3, .int x4, .int x5], [], (rp_L0, σ))) := by
  refine rp_lp (q := 63) (ls' := [.ref 42, .ref 2, .ref 37, .int x3, .int x4, .int (x5 + 1)]) rfl rfl rfl ?_
  refine rp_lp (q := 21) rfl rfl rfl ?_
  exact rp_Le_rfl
-- Proof_isRow
set_option maxRecDepth 20000 in
theorem D_Proof_isRow_0 {sc : rp_Sc} (a0 : Int32) (a1 : Int32) (a2 : Int32) (a3 : Int32) (σ : rp_Mm) : rp_Le (thI (CL sc 25 [.ref 43, .int a0] σ) fun r2 σ1 => if (r2 = 0 : Prop) then RI 0 σ1 else thI (CL sc 20 [.ref 43, .int a0, .int 0] σ1) fun r4 σ3 => if (r4 = a1 : Prop) then thI (CL sc 20 [.ref 43, .int a0, .int 1] σ3) fun r6 σ5 => if (r6 = a2 : Prop) then thI (CL sc 20 [.ref 43, .int a0, .int 2] σ5) fun r8 σ7 => if (r8 = a3 : Prop) then RI 1 σ7 else RI 0 σ7 else RI 0 σ5 else RI 0 σ3) (EV sc (118, 0, 0, 0, [.ref 42, .int a0, .int a1, .int a2, .int a3], [], (rp_L0, σ))) := by
  refine rp_lp (q := 1) rfl rfl rfl ?_
  refine rp_lgf rfl rfl rfl ?_
  refine rp_lp (q := 5) rfl rfl rfl ?_
  refine rp_lci (uc' := 0) (us' := 0) rfl (rp_rcv rfl) rfl rfl rfl rfl rfl rfl (fun r2 σ1 => ?_)
  refine rp_lbr (a := 55) (b := 11) rfl rfl rfl ?_ ?_
  ·
    refine rp_lp (q := 56) rfl rfl rfl ?_
    exact rp_lrz rfl rfl (by decide)
  ·
    refine rp_lp (q := 12) rfl rfl rfl ?_
    refine rp_lgf rfl rfl rfl ?_
    refine rp_lp (q := 16) rfl rfl rfl ?_
    refine rp_lp (q := 17) rfl rfl rfl ?_
    refine rp_lci (uc' := 0) (us' := 0) rfl (rp_rcv rfl) rfl rfl rfl rfl rfl rfl (fun r4 σ3 => ?_)
    refine rp_lp (q := 21) rfl rfl rfl ?_
    refine rp_lbr (a := 24) (b := 55) rfl rfl rfl ?_ ?_
    ·
      refine rp_lp (q := 25) rfl rfl rfl ?_
      refine rp_lgf rfl rfl rfl ?_
      refine rp_lp (q := 29) rfl rfl rfl ?_
      refine rp_lp (q := 30) rfl rfl rfl ?_
      refine rp_lci (uc' := 0) (us' := 0) rfl (rp_rcv rfl) rfl rfl rfl rfl rfl rfl (fun r6 σ5 => ?_)
      refine rp_lp (q := 34) rfl rfl rfl ?_
      refine rp_lbr (a := 37) (b := 55) rfl rfl rfl ?_ ?_
      ·
        refine rp_lp (q := 38) rfl rfl rfl ?_
        refine rp_lgf rfl rfl rfl ?_
        refine rp_lp (q := 42) rfl rfl rfl ?_
        refine rp_lp (q := 43) rfl rfl rfl ?_
        refine rp_lci (uc' := 0) (us' := 0) rfl (rp_rcv rfl) rfl rfl rfl rfl rfl rfl (fun r8 σ7 => ?_)
        refine rp_lp (q := 48) rfl rfl rfl ?_
        refine rp_lbr (a := 51) (b := 55) rfl rfl rfl ?_ ?_
        ·
          refine rp_lp (q := 52) rfl rfl rfl ?_
          refine rp_lp (q := 56) rfl rfl rfl ?_
          exact rp_lrz rfl rfl (by decide)
        ·
          refine rp_lp (q := 56) rfl rfl rfl ?_
          exact rp_lrz rfl rfl (by decide)
      ·
        refine rp_lp (q := 56) rfl rfl rfl ?_
        exact rp_lrz rfl rfl (by decide)
    ·
      refine rp_lp (q := 56) rfl rfl rfl ?_
      exact rp_lrz rfl rfl (by decide)
-- RailPasses_scan
set_option maxRecDepth 20000 in
theorem D_RailPasses_scan_0 {sc : rp_Sc} (a0 : Int32) (a1 : Int32) (a2 : Int32) (a3 : Int32) (σ : rp_Mm) : rp_Le (thI (CL sc 25 [.ref 9, .int a0] σ) fun r2 σ1 => if (r2 = 0 : Prop) then RI (-1) σ1 else thI (CL sc 14 [.int a3] σ1) fun r4 σ3 => if (r4 = 0 : Prop) then RI (-1) σ3 else thI (CL sc 120 [.ref 1, .int a1] σ3) fun r6 σ5 => if (r6 = 0 : Prop) then RI (-1) σ5 else thI (CL sc 26 [.int a2] σ5) fun r8 σ7 => if (r8 = 0 : Prop) then RI (-1) σ7 else thI (CL sc 4 [.ref 15] σ7) fun r10 σ9 => if (r10 = 0 : Prop) then thI (CL sc 3 [.ref 15] σ9) fun r12 σ11 => thV (CL sc 5 [.ref 15, .int r12, .int 0, .int a0] σ11) fun σ13 => thV (CL sc 5 [.ref 15, .int r12, .int 1, .int a1] σ13) fun σ14 => thV (CL sc 5 [.ref 15, .int r12, .int 2, .int a2] σ14) fun σ15 => thV (CL sc 5 [.ref 15, .int r12, .int 3, .int a3] σ15) fun σ16 => thV (CL sc 5 [.ref 15, .int r12, .int 4, .int (σ16 2 7)] σ16) fun σ17 => RI r12 σ17 else RI (-2) σ9) (EV sc (119, 0, 0, 0, [.ref 1, .int a0, .int a1, .int a2, .int a3, rp_U], [], (rp_L0, σ))) := by
  refine rp_lp (q := 1) rfl rfl rfl ?_
  refine rp_lgf rfl rfl rfl ?_
  refine rp_lgf rfl rfl rfl ?_
  refine rp_lp (q := 8) rfl rfl rfl ?_
  refine rp_lci (uc' := 0) (us' := 0) rfl (rp_rcv rfl) rfl rfl rfl rfl rfl rfl (fun r2 σ1 => ?_)
  refine rp_lbr (a := 37) (b := 14) rfl rfl rfl ?_ ?_
  ·
    refine rp_lp (q := 38) rfl rfl rfl ?_
    exact rp_lri rfl rfl
  ·
    refine rp_lp (q := 16) rfl rfl rfl ?_
    refine rp_lci (uc' := 0) (us' := 0) rfl rfl rfl rfl rfl rfl rfl rfl (fun r4 σ3 => ?_)
    refine rp_lbr (a := 37) (b := 22) rfl rfl rfl ?_ ?_
    ·
      refine rp_lp (q := 38) rfl rfl rfl ?_
      exact rp_lri rfl rfl
    ·
      refine rp_lp (q := 23) rfl rfl rfl ?_
      refine rp_lp (q := 24) rfl rfl rfl ?_
      refine rp_lci (uc' := 0) (us' := 0) rfl (rp_rcv rfl) rfl rfl rfl rfl rfl rfl (fun r6 σ5 => ?_)
      refine rp_lbr (a := 37) (b := 30) rfl rfl rfl ?_ ?_
      ·
        refine rp_lp (q := 38) rfl rfl rfl ?_
        exact rp_lri rfl rfl
      ·
        refine rp_lp (q := 31) rfl rfl rfl ?_
        refine rp_lci (uc' := 0) (us' := 0) rfl rfl rfl rfl rfl rfl rfl rfl (fun r8 σ7 => ?_)
        refine rp_lbr (a := 37) (b := 39) rfl rfl rfl ?_ ?_
        ·
          refine rp_lp (q := 38) rfl rfl rfl ?_
          exact rp_lri rfl rfl
        ·
          refine rp_lp (q := 40) rfl rfl rfl ?_
          refine rp_lgf rfl rfl rfl ?_
          refine rp_lgf rfl rfl rfl ?_
          refine rp_lci (uc' := 0) (us' := 0) rfl (rp_rcv rfl) rfl rfl rfl rfl rfl rfl (fun r10 σ9 => ?_)
          refine rp_lbr (a := 55) (b := 52) rfl rfl rfl ?_ ?_
          ·
            refine rp_lp (q := 56) rfl rfl rfl ?_
            refine rp_lgf rfl rfl rfl ?_
            refine rp_lgf rfl rfl rfl ?_
            refine rp_lci (uc' := 0) (us' := 0) rfl (rp_rcv rfl) rfl rfl rfl rfl rfl rfl (fun r12 σ11 => ?_)
            refine rp_lp (q := 67) (ls' := [.ref 1, .int a0, .int a1, .int a2, .int a3, .int r12]) rfl rfl rfl ?_
            refine rp_lp (q := 68) rfl rfl rfl ?_
            refine rp_lgf rfl rfl rfl ?_
            refine rp_lgf rfl rfl rfl ?_
            refine rp_lp (q := 76) rfl rfl rfl ?_
            refine rp_lp (q := 77) rfl rfl rfl ?_
            refine rp_lp (q := 78) rfl rfl rfl ?_
            refine rp_lcv (uc' := 0) (us' := 0) rfl (rp_rcv rfl) rfl rfl rfl rfl rfl rfl (fun σ13 => ?_)
            refine rp_lp (q := 82) rfl rfl rfl ?_
            refine rp_lgf rfl rfl rfl ?_
            refine rp_lgf rfl rfl rfl ?_
            refine rp_lp (q := 90) rfl rfl rfl ?_
            refine rp_lp (q := 91) rfl rfl rfl ?_
            refine rp_lp (q := 92) rfl rfl rfl ?_
            refine rp_lcv (uc' := 0) (us' := 0) rfl (rp_rcv rfl) rfl rfl rfl rfl rfl rfl (fun σ14 => ?_)
            refine rp_lp (q := 96) rfl rfl rfl ?_
            refine rp_lgf rfl rfl rfl ?_
            refine rp_lgf rfl rfl rfl ?_
            refine rp_lp (q := 104) rfl rfl rfl ?_
            refine rp_lp (q := 105) rfl rfl rfl ?_
            refine rp_lp (q := 106) rfl rfl rfl ?_
            refine rp_lcv (uc' := 0) (us' := 0) rfl (rp_rcv rfl) rfl rfl rfl rfl rfl rfl (fun σ15 => ?_)
            refine rp_lp (q := 110) rfl rfl rfl ?_
            refine rp_lgf rfl rfl rfl ?_
            refine rp_lgf rfl rfl rfl ?_
            refine rp_lp (q := 118) rfl rfl rfl ?_
            refine rp_lp (q := 119) rfl rfl rfl ?_
            refine rp_lp (q := 121) rfl rfl rfl ?_
            refine rp_lcv (uc' := 0) (us' := 0) rfl (rp_rcv rfl) rfl rfl rfl rfl rfl rfl (fun σ16 => ?_)
            refine rp_lp (q := 125) rfl rfl rfl ?_
            refine rp_lgf rfl rfl rfl ?_
            refine rp_lgf rfl rfl rfl ?_
            refine rp_lp (q := 133) rfl rfl rfl ?_
            refine rp_lp (q := 134) rfl rfl rfl ?_
            refine rp_lp (q := 135) rfl rfl rfl ?_
            refine rp_lgf rfl rfl rfl ?_
            refine rp_lgm rfl rfl rfl ?_
            refine rp_lcv (uc' := 0) (us' := 0) rfl (rp_rcv rfl) rfl rfl rfl rfl rfl rfl (fun σ17 => ?_)
            refine rp_lp (q := 146) rfl rfl rfl ?_
            exact rp_lri rfl rfl
          ·
            refine rp_lp (q := 54) rfl rfl rfl ?_
            exact rp_lri rfl rfl
-- RailPasses_isPast
set_option maxRecDepth 20000 in
theorem D_RailPasses_isPast_0 {sc : rp_Sc} (a0 : Int32) (σ : rp_Mm) : rp_Le (thI (CL sc 15 [.int a0, .int 0, .int (σ 2 7)] σ) fun r2 σ1 => if r2 &&& 1 = r2 then RI r2 σ1 else none) (EV sc (120, 0, 0, 0, [.ref 1, .int a0], [], (rp_L0, σ))) := by
  refine rp_lp (q := 1) rfl rfl rfl ?_
  refine rp_lp (q := 2) rfl rfl rfl ?_
  refine rp_lp (q := 3) rfl rfl rfl ?_
  refine rp_lgf rfl rfl rfl ?_
  refine rp_lgm rfl rfl rfl ?_
  refine rp_lci (uc' := 0) (us' := 0) rfl rfl rfl rfl rfl rfl rfl rfl (fun r2 σ1 => ?_)
  exact rp_lrq rfl rfl
-- RailPasses_miles
set_option maxRecDepth 20000 in
theorem D_RailPasses_miles_0 {sc : rp_Sc} (a0 : Int32) (a1 : Int32) (σ : rp_Mm) : rp_Le (thI (CL sc 14 [.int a0] σ) fun r2 σ1 => if (r2 = 0 : Prop) then RI (-1) σ1 else thI (CL sc 14 [.int a1] σ1) fun r4 σ3 => if (r4 = 0 : Prop) then RI (-1) σ3 else thI (CL sc 22 [.ref 35, .int a0, .int a1] σ3) fun r6 σ5 => if (r6 = 0 : Prop) then RI (-3) σ5 else thI (CL sc 122 [.ref 35, .int a0, .int a1] σ5) fun r8 σ7 => RI r8 σ7) (EV sc (121, 0, 0, 0, [.ref 1, .int a0, .int a1], [], (rp_L0, σ))) := by
  refine rp_lp (q := 1) rfl rfl rfl ?_
  refine rp_lci (uc' := 0) (us' := 0) rfl rfl rfl rfl rfl rfl rfl rfl (fun r2 σ1 => ?_)
  refine rp_lbr (a := 14) (b := 7) rfl rfl rfl ?_ ?_
  ·
    refine rp_lp (q := 15) rfl rfl rfl ?_
    exact rp_lri rfl rfl
  ·
    refine rp_lp (q := 8) rfl rfl rfl ?_
    refine rp_lci (uc' := 0) (us' := 0) rfl rfl rfl rfl rfl rfl rfl rfl (fun r4 σ3 => ?_)
    refine rp_lbr (a := 14) (b := 16) rfl rfl rfl ?_ ?_
    ·
      refine rp_lp (q := 15) rfl rfl rfl ?_
      exact rp_lri rfl rfl
    ·
      refine rp_lp (q := 17) rfl rfl rfl ?_
      refine rp_lgf rfl rfl rfl ?_
      refine rp_lp (q := 21) rfl rfl rfl ?_
      refine rp_lp (q := 22) rfl rfl rfl ?_
      refine rp_lci (uc' := 0) (us' := 0) rfl (rp_rcv rfl) rfl rfl rfl rfl rfl rfl (fun r6 σ5 => ?_)
      refine rp_lbr (a := 40) (b := 28) rfl rfl rfl ?_ ?_
      ·
        refine rp_lp (q := 42) rfl rfl rfl ?_
        exact rp_lri rfl rfl
      ·
        refine rp_lp (q := 29) rfl rfl rfl ?_
        refine rp_lgf rfl rfl rfl ?_
        refine rp_lp (q := 33) rfl rfl rfl ?_
        refine rp_lp (q := 34) rfl rfl rfl ?_
        refine rp_lci (uc' := 0) (us' := 0) rfl (rp_rcv rfl) rfl rfl rfl rfl rfl rfl (fun r8 σ7 => ?_)
        refine rp_lp (q := 42) rfl rfl rfl ?_
        exact rp_lri rfl rfl
-- Ways_milesOf
set_option maxRecDepth 20000 in
theorem D_Ways_milesOf_0 {sc : rp_Sc} (a0 : Int32) (a1 : Int32) (σ : rp_Mm) : rp_Le (thI (CL sc 23 [.ref 35, .int a0, .int a1] σ) fun r2 σ1 => RI (r2 >>> ((14 : Int32) &&& 31)) σ1) (EV sc (122, 0, 0, 0, [.ref 35, .int a0, .int a1], [], (rp_L0, σ))) := by
  refine rp_lp (q := 1) rfl rfl rfl ?_
  refine rp_lp (q := 2) rfl rfl rfl ?_
  refine rp_lp (q := 3) rfl rfl rfl ?_
  refine rp_lci (uc' := 0) (us' := 0) rfl (rp_rcv rfl) rfl rfl rfl rfl rfl rfl (fun r2 σ1 => ?_)
  refine rp_lp (q := 8) rfl rfl rfl ?_
  refine rp_lp (q := 9) rfl rfl rfl ?_
  exact rp_lri rfl rfl
-- RailPasses_way
set_option maxRecDepth 20000 in
theorem D_RailPasses_way_0 {sc : rp_Sc} (a0 : Int32) (a1 : Int32) (σ : rp_Mm) : rp_Le (thI (CL sc 14 [.int a0] σ) fun r2 σ1 => if (r2 = 0 : Prop) then RI (-1) σ1 else thI (CL sc 14 [.int a1] σ1) fun r4 σ3 => if (r4 = 0 : Prop) then RI (-1) σ3 else thI (CL sc 22 [.ref 35, .int a0, .int a1] σ3) fun r6 σ5 => if (r6 = 0 : Prop) then RI (-3) σ5 else thI (CL sc 124 [.ref 35, .int a0, .int a1] σ5) fun r8 σ7 => RI r8 σ7) (EV sc (123, 0, 0, 0, [.ref 1, .int a0, .int a1], [], (rp_L0, σ))) := by
  refine rp_lp (q := 1) rfl rfl rfl ?_
  refine rp_lci (uc' := 0) (us' := 0) rfl rfl rfl rfl rfl rfl rfl rfl (fun r2 σ1 => ?_)
  refine rp_lbr (a := 14) (b := 7) rfl rfl rfl ?_ ?_
  ·
    refine rp_lp (q := 15) rfl rfl rfl ?_
    exact rp_lri rfl rfl
  ·
    refine rp_lp (q := 8) rfl rfl rfl ?_
    refine rp_lci (uc' := 0) (us' := 0) rfl rfl rfl rfl rfl rfl rfl rfl (fun r4 σ3 => ?_)
    refine rp_lbr (a := 14) (b := 16) rfl rfl rfl ?_ ?_
    ·
      refine rp_lp (q := 15) rfl rfl rfl ?_
      exact rp_lri rfl rfl
    ·
      refine rp_lp (q := 17) rfl rfl rfl ?_
      refine rp_lgf rfl rfl rfl ?_
      refine rp_lp (q := 21) rfl rfl rfl ?_
      refine rp_lp (q := 22) rfl rfl rfl ?_
      refine rp_lci (uc' := 0) (us' := 0) rfl (rp_rcv rfl) rfl rfl rfl rfl rfl rfl (fun r6 σ5 => ?_)
      refine rp_lbr (a := 40) (b := 28) rfl rfl rfl ?_ ?_
      ·
        refine rp_lp (q := 42) rfl rfl rfl ?_
        exact rp_lri rfl rfl
      ·
        refine rp_lp (q := 29) rfl rfl rfl ?_
        refine rp_lgf rfl rfl rfl ?_
        refine rp_lp (q := 33) rfl rfl rfl ?_
        refine rp_lp (q := 34) rfl rfl rfl ?_
        refine rp_lci (uc' := 0) (us' := 0) rfl (rp_rcv rfl) rfl rfl rfl rfl rfl rfl (fun r8 σ7 => ?_)
        refine rp_lp (q := 42) rfl rfl rfl ?_
        exact rp_lri rfl rfl
-- Ways_linesOf
set_option maxRecDepth 20000 in
theorem D_Ways_linesOf_0 {sc : rp_Sc} (a0 : Int32) (a1 : Int32) (σ : rp_Mm) : rp_Le (thI (CL sc 23 [.ref 35, .int a0, .int a1] σ) fun r2 σ1 => RI (r2 &&& (16383 : Int32)) σ1) (EV sc (124, 0, 0, 0, [.ref 35, .int a0, .int a1], [], (rp_L0, σ))) := by
  refine rp_lp (q := 1) rfl rfl rfl ?_
  refine rp_lp (q := 2) rfl rfl rfl ?_
  refine rp_lp (q := 3) rfl rfl rfl ?_
  refine rp_lci (uc' := 0) (us' := 0) rfl (rp_rcv rfl) rfl rfl rfl rfl rfl rfl (fun r2 σ1 => ?_)
  refine rp_lp (q := 9) rfl rfl rfl ?_
  refine rp_lp (q := 10) rfl rfl rfl ?_
  exact rp_lri rfl rfl
-- RailPasses_ridden
set_option maxRecDepth 20000 in
theorem D_RailPasses_ridden_0 {sc : rp_Sc} (a0 : Int32) (a1 : Int32) (a2 : Int32) (σ : rp_Mm) : rp_Le (thI (CL sc 25 [.ref 9, .int a0] σ) fun r2 σ1 => if (r2 = 0 : Prop) then RI (-1) σ1 else thI (CL sc 15 [.int a2, .int 0, .int 8] σ1) fun r4 σ3 => if (r4 = 0 : Prop) then RI (-1) σ3 else thI (CL sc 120 [.ref 1, .int a1] σ3) fun r6 σ5 => if (r6 = 0 : Prop) then RI (-1) σ5 else thV (CL sc 126 [.ref 45, .ref 2, .ref 35, .int a0, .int a1] σ5) fun σ7 => if a2 = 0 then thI (CL sc 134 [.ref 45] σ7) fun r9 σ8 => RI r9 σ8 else if a2 = 1 then thI (CL sc 135 [.ref 45] σ7) fun r11 σ10 => RI r11 σ10 else if a2 = 2 then thI (CL sc 136 [.ref 45] σ7) fun r13 σ12 => RI r13 σ12 else if a2 = 3 then thI (CL sc 137 [.ref 45] σ7) fun r15 σ14 => RI r15 σ14 else thI (CL sc 138 [.ref 45, .int (a2 - (4 : Int32))] σ7) fun r17 σ16 => RI r17 σ16) (EV sc (125, 0, 0, 0, [.ref 1, .int a0, .int a1, .int a2], [], (rp_L0, σ))) := by
  refine rp_lp (q := 1) rfl rfl rfl ?_
  refine rp_lgf rfl rfl rfl ?_
  refine rp_lgf rfl rfl rfl ?_
  refine rp_lp (q := 8) rfl rfl rfl ?_
  refine rp_lci (uc' := 0) (us' := 0) rfl (rp_rcv rfl) rfl rfl rfl rfl rfl rfl (fun r2 σ1 => ?_)
  refine rp_lbr (a := 32) (b := 14) rfl rfl rfl ?_ ?_
  ·
    refine rp_lp (q := 33) rfl rfl rfl ?_
    exact rp_lri rfl rfl
  ·
    refine rp_lp (q := 15) rfl rfl rfl ?_
    refine rp_lp (q := 16) rfl rfl rfl ?_
    refine rp_lp (q := 18) rfl rfl rfl ?_
    refine rp_lci (uc' := 0) (us' := 0) rfl rfl rfl rfl rfl rfl rfl rfl (fun r4 σ3 => ?_)
    refine rp_lbr (a := 32) (b := 24) rfl rfl rfl ?_ ?_
    ·
      refine rp_lp (q := 33) rfl rfl rfl ?_
      exact rp_lri rfl rfl
    ·
      refine rp_lp (q := 25) rfl rfl rfl ?_
      refine rp_lp (q := 26) rfl rfl rfl ?_
      refine rp_lci (uc' := 0) (us' := 0) rfl (rp_rcv rfl) rfl rfl rfl rfl rfl rfl (fun r6 σ5 => ?_)
      refine rp_lbr (a := 32) (b := 34) rfl rfl rfl ?_ ?_
      ·
        refine rp_lp (q := 33) rfl rfl rfl ?_
        exact rp_lri rfl rfl
      ·
        refine rp_lp (q := 35) rfl rfl rfl ?_
        refine rp_lgf rfl rfl rfl ?_
        refine rp_lp (q := 39) rfl rfl rfl ?_
        refine rp_lgf rfl rfl rfl ?_
        refine rp_lp (q := 43) rfl rfl rfl ?_
        refine rp_lgf rfl rfl rfl ?_
        refine rp_lp (q := 47) rfl rfl rfl ?_
        refine rp_lp (q := 48) rfl rfl rfl ?_
        refine rp_lcv (uc' := 0) (us' := 0) rfl (rp_rcv rfl) rfl rfl rfl rfl rfl rfl (fun σ7 => ?_)
        refine rp_lp (q := 52) rfl rfl rfl ?_
        refine rp_lsw rfl rfl rfl ?_
        refine rp_swc ?_ ?_
        ·
          refine rp_lp (q := 85) rfl rfl rfl ?_
          refine rp_lgf rfl rfl rfl ?_
          refine rp_lci (uc' := 0) (us' := 0) rfl (rp_rcv rfl) rfl rfl rfl rfl rfl rfl (fun r9 σ8 => ?_)
          exact rp_lri rfl rfl
        ·
          refine rp_swc ?_ ?_
          ·
            refine rp_lp (q := 93) rfl rfl rfl ?_
            refine rp_lgf rfl rfl rfl ?_
            refine rp_lci (uc' := 0) (us' := 0) rfl (rp_rcv rfl) rfl rfl rfl rfl rfl rfl (fun r11 σ10 => ?_)
            exact rp_lri rfl rfl
          ·
            refine rp_swc ?_ ?_
            ·
              refine rp_lp (q := 101) rfl rfl rfl ?_
              refine rp_lgf rfl rfl rfl ?_
              refine rp_lci (uc' := 0) (us' := 0) rfl (rp_rcv rfl) rfl rfl rfl rfl rfl rfl (fun r13 σ12 => ?_)
              exact rp_lri rfl rfl
            ·
              refine rp_swc ?_ ?_
              ·
                refine rp_lp (q := 109) rfl rfl rfl ?_
                refine rp_lgf rfl rfl rfl ?_
                refine rp_lci (uc' := 0) (us' := 0) rfl (rp_rcv rfl) rfl rfl rfl rfl rfl rfl (fun r15 σ14 => ?_)
                exact rp_lri rfl rfl
              ·
                refine rp_lp (q := 117) rfl rfl rfl ?_
                refine rp_lgf rfl rfl rfl ?_
                refine rp_lp (q := 121) rfl rfl rfl ?_
                refine rp_lp (q := 122) rfl rfl rfl ?_
                refine rp_lp (q := 123) rfl rfl rfl ?_
                refine rp_lci (uc' := 0) (us' := 0) rfl (rp_rcv rfl) rfl rfl rfl rfl rfl rfl (fun r17 σ16 => ?_)
                exact rp_lri rfl rfl
-- Ledger_reckon
set_option maxRecDepth 20000 in
theorem D_Ledger_reckon_0 {sc : rp_Sc} (a2 : Int32) (a3 : Int32) (σ : rp_Mm) : rp_Le (thV (CL sc 127 [.ref 45, .ref 15, .int a2, .int a3] σ) fun σ1 => EV sc (126, 0, 0, 29, [.ref 45, .ref 2, .ref 35, .int a2, .int a3, .int 0], [], (rp_L0, rp_wr (rp_wr (rp_wr σ1 45 2 0) 45 3 0) 45 4 0))) (EV sc (126, 0, 0, 0, [.ref 45, .ref 2, .ref 35, .int a2, .int a3, rp_U], [], (rp_L0, σ))) := by
  refine rp_lp (q := 1) rfl rfl rfl ?_
  refine rp_lp (q := 2) rfl rfl rfl ?_
  refine rp_lgf rfl rfl rfl ?_
  refine rp_lp (q := 6) rfl rfl rfl ?_
  refine rp_lp (q := 8) rfl rfl rfl ?_
  refine rp_lcv (uc' := 0) (us' := 0) rfl (rp_rcv rfl) rfl rfl rfl rfl rfl rfl (fun σ1 => ?_)
  refine rp_lp (q := 12) rfl rfl rfl ?_
  refine rp_lp (q := 13) rfl rfl rfl ?_
  refine rp_lpm rfl rfl rfl rfl ?_
  refine rp_lp (q := 17) rfl rfl rfl ?_
  refine rp_lp (q := 18) rfl rfl rfl ?_
  refine rp_lpm rfl rfl rfl rfl ?_
  refine rp_lp (q := 22) rfl rfl rfl ?_
  refine rp_lp (q := 23) rfl rfl rfl ?_
  refine rp_lpm rfl rfl rfl rfl ?_
  refine rp_lp (q := 27) rfl rfl rfl ?_
  refine rp_lp (q := 29) (ls' := [.ref 45, .ref 2, .ref 35, .int a2, .int a3, .int 0]) rfl rfl rfl ?_
  exact rp_Le_rfl
set_option maxRecDepth 20000 in
theorem D_Ledger_reckon_29 {sc : rp_Sc} (x3 : Int32) (x4 : Int32) (x5 : Int32) (σ : rp_Mm) : rp_Le (if (5 ≤ x5 : Prop) then EV sc (126, 0, 0, 56, [.ref 45, .ref 2, .ref 35, .int x3, .int x4, .int 0], [], (rp_L0, σ)) else bif rp_ix x5 5 then EV sc (126, 0, 0, 29, [.ref 45, .ref 2, .ref 35, .int x3, .int x4, .int (x5 + 1)], [], (rp_L0, rp_wr σ 47 x5.toNatClampNeg 0)) else none) (EV sc (126, 0, 0, 29, [.ref 45, .ref 2, .ref 35, .int x3, .int x4, .int x5], [], (rp_L0, σ))) := by
  refine rp_lp (q := 31) rfl rfl rfl ?_
  refine rp_lp (q := 32) rfl rfl rfl ?_
  refine rp_lgf rfl rfl rfl ?_
  refine rp_lal rfl rfl ?_
  refine rp_lbr (a := 53) (b := 39) rfl rfl rfl ?_ ?_
  ·
    refine rp_lp (q := 54) rfl rfl rfl ?_
    refine rp_lp (q := 56) (ls' := [.ref 45, .ref 2, .ref 35, .int x3, .int x4, .int 0]) rfl rfl rfl ?_
    exact rp_Le_rfl
  ·
    refine rp_lp (q := 40) rfl rfl rfl ?_
    refine rp_lgf rfl rfl rfl ?_
    refine rp_lp (q := 45) rfl rfl rfl ?_
    refine rp_lp (q := 46) rfl rfl rfl ?_
    refine rp_lis rfl rfl ?_
    refine rp_lp (q := 50) (ls' := [.ref 45, .ref 2, .ref 35, .int x3, .int x4, .int (x5 + 1)]) rfl rfl rfl ?_
    refine rp_lp (q := 29) rfl rfl rfl ?_
    exact rp_Le_rfl
set_option maxRecDepth 20000 in
theorem D_Ledger_reckon_56 {sc : rp_Sc} (x3 : Int32) (x4 : Int32) (x5 : Int32) (σ : rp_Mm) : rp_Le (if ((σ 45 1) ≤ (x5 + (1 : Int32)) : Prop) then RV σ else thI (CL sc 129 [.ref 45, .int x5] σ) fun r2 σ1 => thI (CL sc 129 [.ref 45, .int (x5 + (1 : Int32))] σ1) fun r4 σ3 => thV (CL sc 132 [.ref 45, .ref 2, .ref 35, .int r2, .int r4] σ3) fun σ5 => EV sc (126, 0, 0, 56, [.ref 45, .ref 2, .ref 35, .int x3, .int x4, .int (x5 + 1)], [], (rp_L0, σ5))) (EV sc (126, 0, 0, 56, [.ref 45, .ref 2, .ref 35, .int x3, .int x4, .int x5], [], (rp_L0, σ))) := by
  refine rp_lp (q := 58) rfl rfl rfl ?_
  refine rp_lp (q := 59) rfl rfl rfl ?_
  refine rp_lp (q := 60) rfl rfl rfl ?_
  refine rp_lp (q := 61) rfl rfl rfl ?_
  refine rp_lgm rfl rfl rfl ?_
  refine rp_lbr (a := 93) (b := 67) rfl rfl rfl ?_ ?_
  ·
    exact rp_lrv rfl rfl
  ·
    refine rp_lp (q := 68) rfl rfl rfl ?_
    refine rp_lp (q := 69) rfl rfl rfl ?_
    refine rp_lp (q := 70) rfl rfl rfl ?_
    refine rp_lp (q := 71) rfl rfl rfl ?_
    refine rp_lp (q := 73) rfl rfl rfl ?_
    refine rp_lci (uc' := 0) (us' := 0) rfl (rp_rcv rfl) rfl rfl rfl rfl rfl rfl (fun r2 σ1 => ?_)
    refine rp_lp (q := 77) rfl rfl rfl ?_
    refine rp_lp (q := 79) rfl rfl rfl ?_
    refine rp_lp (q := 80) rfl rfl rfl ?_
    refine rp_lp (q := 81) rfl rfl rfl ?_
    refine rp_lci (uc' := 0) (us' := 0) rfl (rp_rcv rfl) rfl rfl rfl rfl rfl rfl (fun r4 σ3 => ?_)
    refine rp_lcv (uc' := 0) (us' := 0) rfl (rp_rcv rfl) rfl rfl rfl rfl rfl rfl (fun σ5 => ?_)
    refine rp_lp (q := 90) (ls' := [.ref 45, .ref 2, .ref 35, .int x3, .int x4, .int (x5 + 1)]) rfl rfl rfl ?_
    refine rp_lp (q := 56) rfl rfl rfl ?_
    exact rp_Le_rfl
-- Ledger_sortScans
set_option maxRecDepth 20000 in
theorem D_Ledger_sortScans_0 {sc : rp_Sc} (a1 : Int32) (a2 : Int32) (σ : rp_Mm) : rp_Le (EV sc (127, 0, 0, 8, [.ref 45, .ref 15, .int a1, .int a2, .int 0], [], (rp_L0, rp_wr σ 45 1 0))) (EV sc (127, 0, 0, 0, [.ref 45, .ref 15, .int a1, .int a2, rp_U], [], (rp_L0, σ))) := by
  refine rp_lp (q := 1) rfl rfl rfl ?_
  refine rp_lp (q := 2) rfl rfl rfl ?_
  refine rp_lpm rfl rfl rfl rfl ?_
  refine rp_lp (q := 6) rfl rfl rfl ?_
  refine rp_lp (q := 8) (ls' := [.ref 45, .ref 15, .int a1, .int a2, .int 0]) rfl rfl rfl ?_
  exact rp_Le_rfl
set_option maxRecDepth 20000 in
theorem D_Ledger_sortScans_8 {sc : rp_Sc} (x2 : Int32) (x3 : Int32) (x4 : Int32) (σ : rp_Mm) : rp_Le (thI (CL sc 19 [.ref 15] σ) fun r2 σ1 => if (r2 ≤ x4 : Prop) then RV σ1 else thI (CL sc 20 [.ref 15, .int x4, .int 0] σ1) fun r4 σ3 => if (r4 = x2 : Prop) then thI (CL sc 20 [.ref 15, .int x4, .int 4] σ3) fun r6 σ5 => if (x3 < r6 : Prop) then EV sc (127, 0, 0, 46, [.ref 45, .ref 15, .int x2, .int x3, .int x4], [], (rp_L0, σ5)) else thV (CL sc 128 [.ref 45, .ref 15, .int x4] σ5) fun σ7 => EV sc (127, 0, 0, 46, [.ref 45, .ref 15, .int x2, .int x3, .int x4], [], (rp_L0, σ7)) else EV sc (127, 0, 0, 46, [.ref 45, .ref 15, .int x2, .int x3, .int x4], [], (rp_L0, σ3))) (EV sc (127, 0, 0, 8, [.ref 45, .ref 15, .int x2, .int x3, .int x4], [], (rp_L0, σ))) := by
  refine rp_lp (q := 10) rfl rfl rfl ?_
  refine rp_lp (q := 11) rfl rfl rfl ?_
  refine rp_lci (uc' := 0) (us' := 0) rfl (rp_rcv rfl) rfl rfl rfl rfl rfl rfl (fun r2 σ1 => ?_)
  refine rp_lbr (a := 52) (b := 17) rfl rfl rfl ?_ ?_
  ·
    exact rp_lrv rfl rfl
  ·
    refine rp_lp (q := 18) rfl rfl rfl ?_
    refine rp_lp (q := 20) rfl rfl rfl ?_
    refine rp_lp (q := 21) rfl rfl rfl ?_
    refine rp_lci (uc' := 0) (us' := 0) rfl (rp_rcv rfl) rfl rfl rfl rfl rfl rfl (fun r4 σ3 => ?_)
    refine rp_lp (q := 25) rfl rfl rfl ?_
    refine rp_lbr (a := 28) (b := 46) rfl rfl rfl ?_ ?_
    ·
      refine rp_lp (q := 29) rfl rfl rfl ?_
      refine rp_lp (q := 31) rfl rfl rfl ?_
      refine rp_lp (q := 32) rfl rfl rfl ?_
      refine rp_lci (uc' := 0) (us' := 0) rfl (rp_rcv rfl) rfl rfl rfl rfl rfl rfl (fun r6 σ5 => ?_)
      refine rp_lp (q := 36) rfl rfl rfl ?_
      refine rp_lbr (a := 46) (b := 39) rfl rfl rfl ?_ ?_
      ·
        exact rp_Le_rfl
      ·
        refine rp_lp (q := 40) rfl rfl rfl ?_
        refine rp_lp (q := 41) rfl rfl rfl ?_
        refine rp_lp (q := 43) rfl rfl rfl ?_
        refine rp_lcv (uc' := 0) (us' := 0) rfl (rp_rcv rfl) rfl rfl rfl rfl rfl rfl (fun σ7 => ?_)
        exact rp_Le_rfl
    ·
      exact rp_Le_rfl
set_option maxRecDepth 20000 in
theorem D_Ledger_sortScans_46 {sc : rp_Sc} (x2 : Int32) (x3 : Int32) (x4 : Int32) (σ : rp_Mm) : rp_Le (EV sc (127, 0, 0, 8, [.ref 45, .ref 15, .int x2, .int x3, .int (x4 + 1)], [], (rp_L0, σ))) (EV sc (127, 0, 0, 46, [.ref 45, .ref 15, .int x2, .int x3, .int x4], [], (rp_L0, σ))) := by
  refine rp_lp (q := 49) (ls' := [.ref 45, .ref 15, .int x2, .int x3, .int (x4 + 1)]) rfl rfl rfl ?_
  refine rp_lp (q := 8) rfl rfl rfl ?_
  exact rp_Le_rfl
-- Ledger_insert
set_option maxRecDepth 20000 in
theorem D_Ledger_insert_0 {sc : rp_Sc} (a1 : Int32) (σ : rp_Mm) : rp_Le (EV sc (128, 0, 0, 5, [.ref 45, .ref 15, .int a1, .int (σ 45 1)], [], (rp_L0, σ))) (EV sc (128, 0, 0, 0, [.ref 45, .ref 15, .int a1, rp_U], [], (rp_L0, σ))) := by
  refine rp_lp (q := 1) rfl rfl rfl ?_
  refine rp_lgm rfl rfl rfl ?_
  refine rp_lp (q := 5) (ls' := [.ref 45, .ref 15, .int a1, .int (σ 45 1)]) rfl rfl rfl ?_
  exact rp_Le_rfl
set_option maxRecDepth 20000 in
theorem D_Ledger_insert_5 {sc : rp_Sc} (x2 : Int32) (x3 : Int32) (σ : rp_Mm) : rp_Le (if (x3 ≤ 0 : Prop) then EV sc (128, 0, 0, 46, [.ref 45, .ref 15, .int x2, .int x3], [], (rp_L0, σ)) else thI (CL sc 129 [.ref 45, .int (x3 - (1 : Int32))] σ) fun r2 σ1 => thI (CL sc 130 [.ref 15, .int r2] σ1) fun r4 σ3 => thI (CL sc 130 [.ref 15, .int x2] σ3) fun r6 σ5 => if (r4 ≤ r6 : Prop) then EV sc (128, 0, 0, 46, [.ref 45, .ref 15, .int x2, .int x3], [], (rp_L0, σ5)) else thI (CL sc 129 [.ref 45, .int (x3 - (1 : Int32))] σ5) fun r8 σ7 => thV (CL sc 131 [.ref 45, .int x3, .int r8] σ7) fun σ9 => EV sc (128, 0, 0, 5, [.ref 45, .ref 15, .int x2, .int (x3 + (-1))], [], (rp_L0, σ9))) (EV sc (128, 0, 0, 5, [.ref 45, .ref 15, .int x2, .int x3], [], (rp_L0, σ))) := by
  refine rp_lp (q := 6) rfl rfl rfl ?_
  refine rp_lbr (a := 46) (b := 9) rfl rfl rfl ?_ ?_
  ·
    exact rp_Le_rfl
  ·
    refine rp_lp (q := 10) rfl rfl rfl ?_
    refine rp_lp (q := 11) rfl rfl rfl ?_
    refine rp_lp (q := 12) rfl rfl rfl ?_
    refine rp_lp (q := 13) rfl rfl rfl ?_
    refine rp_lp (q := 14) rfl rfl rfl ?_
    refine rp_lci (uc' := 0) (us' := 0) rfl (rp_rcv rfl) rfl rfl rfl rfl rfl rfl (fun r2 σ1 => ?_)
    refine rp_lci (uc' := 0) (us' := 0) rfl rfl rfl rfl rfl rfl rfl rfl (fun r4 σ3 => ?_)
    refine rp_lp (q := 21) rfl rfl rfl ?_
    refine rp_lp (q := 22) rfl rfl rfl ?_
    refine rp_lci (uc' := 0) (us' := 0) rfl rfl rfl rfl rfl rfl rfl rfl (fun r6 σ5 => ?_)
    refine rp_lbr (a := 46) (b := 28) rfl rfl rfl ?_ ?_
    ·
      exact rp_Le_rfl
    ·
      refine rp_lp (q := 29) rfl rfl rfl ?_
      refine rp_lp (q := 30) rfl rfl rfl ?_
      refine rp_lp (q := 31) rfl rfl rfl ?_
      refine rp_lp (q := 32) rfl rfl rfl ?_
      refine rp_lp (q := 33) rfl rfl rfl ?_
      refine rp_lp (q := 34) rfl rfl rfl ?_
      refine rp_lci (uc' := 0) (us' := 0) rfl (rp_rcv rfl) rfl rfl rfl rfl rfl rfl (fun r8 σ7 => ?_)
      refine rp_lcv (uc' := 0) (us' := 0) rfl (rp_rcv rfl) rfl rfl rfl rfl rfl rfl (fun σ9 => ?_)
      refine rp_lp (q := 43) (ls' := [.ref 45, .ref 15, .int x2, .int (x3 + (-1))]) rfl rfl rfl ?_
      refine rp_lp (q := 5) rfl rfl rfl ?_
      exact rp_Le_rfl
set_option maxRecDepth 20000 in
theorem D_Ledger_insert_46 {sc : rp_Sc} (x2 : Int32) (x3 : Int32) (σ : rp_Mm) : rp_Le (thV (CL sc 131 [.ref 45, .int x3, .int x2] σ) fun σ1 => RV (rp_wr σ1 45 1 ((σ1 45 1) + (1 : Int32)))) (EV sc (128, 0, 0, 46, [.ref 45, .ref 15, .int x2, .int x3], [], (rp_L0, σ))) := by
  refine rp_lp (q := 47) rfl rfl rfl ?_
  refine rp_lp (q := 48) rfl rfl rfl ?_
  refine rp_lp (q := 49) rfl rfl rfl ?_
  refine rp_lcv (uc' := 0) (us' := 0) rfl (rp_rcv rfl) rfl rfl rfl rfl rfl rfl (fun σ1 => ?_)
  refine rp_lp (q := 53) rfl rfl rfl ?_
  refine rp_lp (q := 54) rfl rfl rfl ?_
  refine rp_lgm rfl rfl rfl ?_
  refine rp_lp (q := 58) rfl rfl rfl ?_
  refine rp_lp (q := 59) rfl rfl rfl ?_
  refine rp_lpm rfl rfl rfl rfl ?_
  exact rp_lrv rfl rfl
-- Ledger_scanAt
set_option maxRecDepth 20000 in
theorem D_Ledger_scanAt_0 {sc : rp_Sc} (a0 : Int32) (σ : rp_Mm) : rp_Le (if (a0 < 0 : Prop) then RI (-1) σ else if (40 ≤ a0 : Prop) then RI (-1) σ else bif rp_ix a0 40 then RI (σ 46 a0.toNatClampNeg) σ else none) (EV sc (129, 0, 0, 0, [.ref 45, .int a0], [], (rp_L0, σ))) := by
  refine rp_lp (q := 1) rfl rfl rfl ?_
  refine rp_lbr (a := 22) (b := 4) rfl rfl rfl ?_ ?_
  ·
    refine rp_lp (q := 23) rfl rfl rfl ?_
    exact rp_lri rfl rfl
  ·
    refine rp_lp (q := 5) rfl rfl rfl ?_
    refine rp_lp (q := 6) rfl rfl rfl ?_
    refine rp_lgf rfl rfl rfl ?_
    refine rp_lal rfl rfl ?_
    refine rp_lbr (a := 22) (b := 13) rfl rfl rfl ?_ ?_
    ·
      refine rp_lp (q := 23) rfl rfl rfl ?_
      exact rp_lri rfl rfl
    ·
      refine rp_lp (q := 14) rfl rfl rfl ?_
      refine rp_lgf rfl rfl rfl ?_
      refine rp_lp (q := 18) rfl rfl rfl ?_
      refine rp_lia rfl rfl ?_
      refine rp_lp (q := 23) rfl rfl rfl ?_
      exact rp_lri rfl rfl
-- Ledger_timeOf
set_option maxRecDepth 20000 in
theorem D_Ledger_timeOf_0 {sc : rp_Sc} (a1 : Int32) (σ : rp_Mm) : rp_Le (thI (CL sc 20 [.ref 15, .int a1, .int 1] σ) fun r2 σ1 => thI (CL sc 20 [.ref 15, .int a1, .int 2] σ1) fun r4 σ3 => RI ((r2 * (1440 : Int32)) + r4) σ3) (EV sc (130, 0, 0, 0, [.ref 15, .int a1], [], (rp_L0, σ))) := by
  refine rp_lp (q := 1) rfl rfl rfl ?_
  refine rp_lp (q := 2) rfl rfl rfl ?_
  refine rp_lp (q := 3) rfl rfl rfl ?_
  refine rp_lci (uc' := 0) (us' := 0) rfl (rp_rcv rfl) rfl rfl rfl rfl rfl rfl (fun r2 σ1 => ?_)
  refine rp_lp (q := 9) rfl rfl rfl ?_
  refine rp_lp (q := 10) rfl rfl rfl ?_
  refine rp_lp (q := 11) rfl rfl rfl ?_
  refine rp_lp (q := 12) rfl rfl rfl ?_
  refine rp_lp (q := 13) rfl rfl rfl ?_
  refine rp_lci (uc' := 0) (us' := 0) rfl (rp_rcv rfl) rfl rfl rfl rfl rfl rfl (fun r4 σ3 => ?_)
  refine rp_lp (q := 17) rfl rfl rfl ?_
  exact rp_lri rfl rfl
-- Ledger_setScan
set_option maxRecDepth 20000 in
theorem D_Ledger_setScan_0 {sc : rp_Sc} (a0 : Int32) (a1 : Int32) (σ : rp_Mm) : rp_Le (if (a0 < 0 : Prop) then RV σ else if (40 ≤ a0 : Prop) then RV σ else bif rp_ix a0 40 then RV (rp_wr σ 46 a0.toNatClampNeg a1) else none) (EV sc (131, 0, 0, 0, [.ref 45, .int a0, .int a1], [], (rp_L0, σ))) := by
  refine rp_lp (q := 1) rfl rfl rfl ?_
  refine rp_lbr (a := 20) (b := 4) rfl rfl rfl ?_ ?_
  ·
    exact rp_lrv rfl rfl
  ·
    refine rp_lp (q := 5) rfl rfl rfl ?_
    refine rp_lp (q := 6) rfl rfl rfl ?_
    refine rp_lgf rfl rfl rfl ?_
    refine rp_lal rfl rfl ?_
    refine rp_lbr (a := 20) (b := 13) rfl rfl rfl ?_ ?_
    ·
      exact rp_lrv rfl rfl
    ·
      refine rp_lp (q := 14) rfl rfl rfl ?_
      refine rp_lgf rfl rfl rfl ?_
      refine rp_lp (q := 18) rfl rfl rfl ?_
      refine rp_lp (q := 19) rfl rfl rfl ?_
      refine rp_lis rfl rfl ?_
      exact rp_lrv rfl rfl
-- Ledger_reckonPair
set_option maxRecDepth 20000 in
theorem D_Ledger_reckonPair_0 {sc : rp_Sc} (a2 : Int32) (a3 : Int32) (σ : rp_Mm) : rp_Le (thI (CL sc 20 [.ref 15, .int a2, .int 3] σ) fun r2 σ1 => thI (CL sc 20 [.ref 15, .int a3, .int 3] σ1) fun r4 σ3 => if (r2 = r4 : Prop) then RV σ3 else thI (CL sc 20 [.ref 15, .int a2, .int 1] σ3) fun r6 σ5 => thI (CL sc 20 [.ref 15, .int a3, .int 1] σ5) fun r8 σ7 => if (r6 = r8 : Prop) then thI (CL sc 130 [.ref 15, .int a3] (rp_wr σ7 45 2 ((σ7 45 2) + (1 : Int32)))) fun r10 σ9 => thI (CL sc 130 [.ref 15, .int a2] σ9) fun r12 σ11 => thI (CL sc 22 [.ref 35, .int r2, .int r4] σ11) fun r14 σ13 => if (r14 = 0 : Prop) then RV (rp_wr σ13 45 3 ((σ13 45 3) + (1 : Int32))) else thI (CL sc 122 [.ref 35, .int r2, .int r4] σ13) fun r16 σ15 => if (r16 ≤ ((3 : Int32) * (r10 - r12)) : Prop) then thI (CL sc 124 [.ref 35, .int r2, .int r4] σ15) fun r18 σ17 => thV (CL sc 133 [.ref 45, .ref 3, .int r18] σ17) fun σ19 => RV σ19 else RV (rp_wr σ15 45 4 ((σ15 45 4) + (1 : Int32))) else RV σ7) (EV sc (132, 0, 0, 0, [.ref 45, .ref 2, .ref 35, .int a2, .int a3, rp_U, rp_U, rp_U], [], (rp_L0, σ))) := by
  refine rp_lp (q := 1) rfl rfl rfl ?_
  refine rp_lgf rfl rfl rfl ?_
  refine rp_lp (q := 5) rfl rfl rfl ?_
  refine rp_lp (q := 6) rfl rfl rfl ?_
  refine rp_lci (uc' := 0) (us' := 0) rfl (rp_rcv rfl) rfl rfl rfl rfl rfl rfl (fun r2 σ1 => ?_)
  refine rp_lp (q := 11) (ls' := [.ref 45, .ref 2, .ref 35, .int a2, .int a3, .int r2, rp_U, rp_U]) rfl rfl rfl ?_
  refine rp_lp (q := 12) rfl rfl rfl ?_
  refine rp_lgf rfl rfl rfl ?_
  refine rp_lp (q := 17) rfl rfl rfl ?_
  refine rp_lp (q := 18) rfl rfl rfl ?_
  refine rp_lci (uc' := 0) (us' := 0) rfl (rp_rcv rfl) rfl rfl rfl rfl rfl rfl (fun r4 σ3 => ?_)
  refine rp_lp (q := 23) (ls' := [.ref 45, .ref 2, .ref 35, .int a2, .int a3, .int r2, .int r4, rp_U]) rfl rfl rfl ?_
  refine rp_lp (q := 25) rfl rfl rfl ?_
  refine rp_lp (q := 27) rfl rfl rfl ?_
  refine rp_lbr (a := 52) (b := 30) rfl rfl rfl ?_ ?_
  ·
    exact rp_lrv rfl rfl
  ·
    refine rp_lp (q := 31) rfl rfl rfl ?_
    refine rp_lgf rfl rfl rfl ?_
    refine rp_lp (q := 35) rfl rfl rfl ?_
    refine rp_lp (q := 36) rfl rfl rfl ?_
    refine rp_lci (uc' := 0) (us' := 0) rfl (rp_rcv rfl) rfl rfl rfl rfl rfl rfl (fun r6 σ5 => ?_)
    refine rp_lp (q := 40) rfl rfl rfl ?_
    refine rp_lgf rfl rfl rfl ?_
    refine rp_lp (q := 45) rfl rfl rfl ?_
    refine rp_lp (q := 46) rfl rfl rfl ?_
    refine rp_lci (uc' := 0) (us' := 0) rfl (rp_rcv rfl) rfl rfl rfl rfl rfl rfl (fun r8 σ7 => ?_)
    refine rp_lbr (a := 53) (b := 52) rfl rfl rfl ?_ ?_
    ·
      refine rp_lp (q := 54) rfl rfl rfl ?_
      refine rp_lp (q := 55) rfl rfl rfl ?_
      refine rp_lgm rfl rfl rfl ?_
      refine rp_lp (q := 59) rfl rfl rfl ?_
      refine rp_lp (q := 60) rfl rfl rfl ?_
      refine rp_lpm rfl rfl rfl rfl ?_
      refine rp_lp (q := 64) rfl rfl rfl ?_
      refine rp_lgf rfl rfl rfl ?_
      refine rp_lp (q := 69) rfl rfl rfl ?_
      refine rp_lci (uc' := 0) (us' := 0) rfl rfl rfl rfl rfl rfl rfl rfl (fun r10 σ9 => ?_)
      refine rp_lp (q := 73) rfl rfl rfl ?_
      refine rp_lgf rfl rfl rfl ?_
      refine rp_lp (q := 77) rfl rfl rfl ?_
      refine rp_lci (uc' := 0) (us' := 0) rfl rfl rfl rfl rfl rfl rfl rfl (fun r12 σ11 => ?_)
      refine rp_lp (q := 81) rfl rfl rfl ?_
      refine rp_lp (q := 83) (ls' := [.ref 45, .ref 2, .ref 35, .int a2, .int a3, .int r2, .int r4, .int (r10 - r12)]) rfl rfl rfl ?_
      refine rp_lp (q := 84) rfl rfl rfl ?_
      refine rp_lp (q := 86) rfl rfl rfl ?_
      refine rp_lp (q := 88) rfl rfl rfl ?_
      refine rp_lci (uc' := 0) (us' := 0) rfl (rp_rcv rfl) rfl rfl rfl rfl rfl rfl (fun r14 σ13 => ?_)
      refine rp_lbr (a := 94) (b := 107) rfl rfl rfl ?_ ?_
      ·
        refine rp_lp (q := 95) rfl rfl rfl ?_
        refine rp_lp (q := 96) rfl rfl rfl ?_
        refine rp_lgm rfl rfl rfl ?_
        refine rp_lp (q := 100) rfl rfl rfl ?_
        refine rp_lp (q := 101) rfl rfl rfl ?_
        refine rp_lpm rfl rfl rfl rfl ?_
        refine rp_lp (q := 151) rfl rfl rfl ?_
        exact rp_lrv rfl rfl
      ·
        refine rp_lp (q := 108) rfl rfl rfl ?_
        refine rp_lp (q := 110) rfl rfl rfl ?_
        refine rp_lp (q := 112) rfl rfl rfl ?_
        refine rp_lci (uc' := 0) (us' := 0) rfl (rp_rcv rfl) rfl rfl rfl rfl rfl rfl (fun r16 σ15 => ?_)
        refine rp_lp (q := 116) rfl rfl rfl ?_
        refine rp_lp (q := 118) rfl rfl rfl ?_
        refine rp_lp (q := 119) rfl rfl rfl ?_
        refine rp_lbr (a := 135) (b := 122) rfl rfl rfl ?_ ?_
        ·
          refine rp_lp (q := 136) rfl rfl rfl ?_
          refine rp_lp (q := 137) rfl rfl rfl ?_
          refine rp_lgf rfl rfl rfl ?_
          refine rp_lp (q := 141) rfl rfl rfl ?_
          refine rp_lp (q := 143) rfl rfl rfl ?_
          refine rp_lp (q := 145) rfl rfl rfl ?_
          refine rp_lci (uc' := 0) (us' := 0) rfl (rp_rcv rfl) rfl rfl rfl rfl rfl rfl (fun r18 σ17 => ?_)
          refine rp_lcv (uc' := 0) (us' := 0) rfl (rp_rcv rfl) rfl rfl rfl rfl rfl rfl (fun σ19 => ?_)
          exact rp_lrv rfl rfl
        ·
          refine rp_lp (q := 123) rfl rfl rfl ?_
          refine rp_lp (q := 124) rfl rfl rfl ?_
          refine rp_lgm rfl rfl rfl ?_
          refine rp_lp (q := 128) rfl rfl rfl ?_
          refine rp_lp (q := 129) rfl rfl rfl ?_
          refine rp_lpm rfl rfl rfl rfl ?_
          refine rp_lp (q := 151) rfl rfl rfl ?_
          exact rp_lrv rfl rfl
    ·
      exact rp_lrv rfl rfl
-- Ledger_addMiles
set_option maxRecDepth 20000 in
theorem D_Ledger_addMiles_0 {sc : rp_Sc} (a1 : Int32) (σ : rp_Mm) : rp_Le (EV sc (133, 0, 0, 2, [.ref 45, .ref 3, .int a1, .int 0, rp_U], [], (rp_L0, σ))) (EV sc (133, 0, 0, 0, [.ref 45, .ref 3, .int a1, rp_U, rp_U], [], (rp_L0, σ))) := by
  refine rp_lp (q := 1) rfl rfl rfl ?_
  refine rp_lp (q := 2) (ls' := [.ref 45, .ref 3, .int a1, .int 0, rp_U]) rfl rfl rfl ?_
  exact rp_Le_rfl
set_option maxRecDepth 20000 in
theorem D_Ledger_addMiles_2 {sc : rp_Sc} (x2 : Int32) (x3 : Int32) (σ : rp_Mm) : rp_Le (thI (CL sc 19 [.ref 3] σ) fun r2 σ1 => if (r2 ≤ x3 : Prop) then RV σ1 else thI (CL sc 20 [.ref 3, .int x3, .int 2] σ1) fun r4 σ3 => if (((x2 >>> (x3 &&& 31)) &&& (1 : Int32)) = 1 : Prop) then if (r4 < 0 : Prop) then EV sc (133, 0, 0, 58, [.ref 45, .ref 3, .int x2, .int x3, .int r4], [], (rp_L0, σ3)) else if (5 ≤ r4 : Prop) then EV sc (133, 0, 0, 58, [.ref 45, .ref 3, .int x2, .int x3, .int r4], [], (rp_L0, σ3)) else bif rp_ix r4 5 then thI (CL sc 20 [.ref 3, .int x3, .int 3] σ3) fun r6 σ5 => bif rp_ix r4 5 then EV sc (133, 0, 0, 58, [.ref 45, .ref 3, .int x2, .int x3, .int r4], [], (rp_L0, rp_wr σ5 47 r4.toNatClampNeg ((σ3 47 r4.toNatClampNeg) + r6))) else none else none else EV sc (133, 0, 0, 58, [.ref 45, .ref 3, .int x2, .int x3, .int r4], [], (rp_L0, σ3))) (EV sc (133, 0, 0, 2, [.ref 45, .ref 3, .int x2, .int x3, rp_U], [], (rp_L0, σ))) := by
  refine rp_lp (q := 3) rfl rfl rfl ?_
  refine rp_lp (q := 4) rfl rfl rfl ?_
  refine rp_lci (uc' := 0) (us' := 0) rfl (rp_rcv rfl) rfl rfl rfl rfl rfl rfl (fun r2 σ1 => ?_)
  refine rp_lbr (a := 64) (b := 10) rfl rfl rfl ?_ ?_
  ·
    exact rp_lrv rfl rfl
  ·
    refine rp_lp (q := 11) rfl rfl rfl ?_
    refine rp_lp (q := 12) rfl rfl rfl ?_
    refine rp_lp (q := 13) rfl rfl rfl ?_
    refine rp_lci (uc' := 0) (us' := 0) rfl (rp_rcv rfl) rfl rfl rfl rfl rfl rfl (fun r4 σ3 => ?_)
    refine rp_lp (q := 18) (ls' := [.ref 45, .ref 3, .int x2, .int x3, .int r4]) rfl rfl rfl ?_
    refine rp_lp (q := 19) rfl rfl rfl ?_
    refine rp_lp (q := 20) rfl rfl rfl ?_
    refine rp_lp (q := 21) rfl rfl rfl ?_
    refine rp_lp (q := 22) rfl rfl rfl ?_
    refine rp_lp (q := 23) rfl rfl rfl ?_
    refine rp_lp (q := 24) rfl rfl rfl ?_
    refine rp_lbr (a := 27) (b := 58) rfl rfl rfl ?_ ?_
    ·
      refine rp_lp (q := 29) rfl rfl rfl ?_
      refine rp_lbr (a := 58) (b := 32) rfl rfl rfl ?_ ?_
      ·
        exact rp_Le_rfl
      ·
        refine rp_lp (q := 34) rfl rfl rfl ?_
        refine rp_lp (q := 35) rfl rfl rfl ?_
        refine rp_lgf rfl rfl rfl ?_
        refine rp_lal rfl rfl ?_
        refine rp_lbr (a := 58) (b := 42) rfl rfl rfl ?_ ?_
        ·
          exact rp_Le_rfl
        ·
          refine rp_lp (q := 43) rfl rfl rfl ?_
          refine rp_lgf rfl rfl rfl ?_
          refine rp_lp (q := 48) rfl rfl rfl ?_
          refine rp_lp (q := 49) rfl rfl rfl ?_
          refine rp_lia rfl rfl ?_
          refine rp_lp (q := 51) rfl rfl rfl ?_
          refine rp_lp (q := 52) rfl rfl rfl ?_
          refine rp_lp (q := 53) rfl rfl rfl ?_
          refine rp_lci (uc' := 0) (us' := 0) rfl (rp_rcv rfl) rfl rfl rfl rfl rfl rfl (fun r6 σ5 => ?_)
          refine rp_lp (q := 57) rfl rfl rfl ?_
          refine rp_lis rfl rfl ?_
          exact rp_Le_rfl
    ·
      exact rp_Le_rfl
set_option maxRecDepth 20000 in
theorem D_Ledger_addMiles_58 {sc : rp_Sc} (x2 : Int32) (x3 : Int32) (x4 : Int32) (σ : rp_Mm) : rp_Le (EV sc (133, 0, 0, 2, [.ref 45, .ref 3, .int x2, .int (x3 + 1), rp_U], [], (rp_L0, σ))) (EV sc (133, 0, 0, 58, [.ref 45, .ref 3, .int x2, .int x3, .int x4], [], (rp_L0, σ))) := by
  refine rp_lp (q := 61) (ls' := [.ref 45, .ref 3, .int x2, .int (x3 + 1), .int x4]) rfl rfl rfl ?_
  refine rp_lp (q := 2) rfl rfl rfl ?_
  exact rp_LeU ⟨Or.inl rfl, Or.inl rfl, Or.inl rfl, Or.inl rfl, Or.inr ⟨rfl, rfl⟩, trivial⟩
-- Ledger_legs
set_option maxRecDepth 20000 in
theorem D_Ledger_legs_0 {sc : rp_Sc} (σ : rp_Mm) : rp_Le (RI (σ 45 2) σ) (EV sc (134, 0, 0, 0, [.ref 45], [], (rp_L0, σ))) := by
  refine rp_lp (q := 1) rfl rfl rfl ?_
  refine rp_lgm rfl rfl rfl ?_
  exact rp_lri rfl rfl
-- Ledger_wayless
set_option maxRecDepth 20000 in
theorem D_Ledger_wayless_0 {sc : rp_Sc} (σ : rp_Mm) : rp_Le (RI (σ 45 3) σ) (EV sc (135, 0, 0, 0, [.ref 45], [], (rp_L0, σ))) := by
  refine rp_lp (q := 1) rfl rfl rfl ?_
  refine rp_lgm rfl rfl rfl ?_
  exact rp_lri rfl rfl
-- Ledger_doubted
set_option maxRecDepth 20000 in
theorem D_Ledger_doubted_0 {sc : rp_Sc} (σ : rp_Mm) : rp_Le (RI (σ 45 4) σ) (EV sc (136, 0, 0, 0, [.ref 45], [], (rp_L0, σ))) := by
  refine rp_lp (q := 1) rfl rfl rfl ?_
  refine rp_lgm rfl rfl rfl ?_
  exact rp_lri rfl rfl
-- Ledger_allMiles
set_option maxRecDepth 20000 in
theorem D_Ledger_allMiles_0 {sc : rp_Sc} (σ : rp_Mm) : rp_Le (EV sc (137, 0, 0, 4, [.ref 45, .int 0, .int 0], [], (rp_L0, σ))) (EV sc (137, 0, 0, 0, [.ref 45, rp_U, rp_U], [], (rp_L0, σ))) := by
  refine rp_lp (q := 1) rfl rfl rfl ?_
  refine rp_lp (q := 2) (ls' := [.ref 45, .int 0, rp_U]) rfl rfl rfl ?_
  refine rp_lp (q := 3) rfl rfl rfl ?_
  refine rp_lp (q := 4) (ls' := [.ref 45, .int 0, .int 0]) rfl rfl rfl ?_
  exact rp_Le_rfl
set_option maxRecDepth 20000 in
theorem D_Ledger_allMiles_4 {sc : rp_Sc} (x1 : Int32) (x2 : Int32) (σ : rp_Mm) : rp_Le (if (5 ≤ x2 : Prop) then RI x1 σ else thI (CL sc 138 [.ref 45, .int x2] σ) fun r2 σ1 => EV sc (137, 0, 0, 4, [.ref 45, .int (x1 + r2), .int (x2 + 1)], [], (rp_L0, σ1))) (EV sc (137, 0, 0, 4, [.ref 45, .int x1, .int x2], [], (rp_L0, σ))) := by
  refine rp_lp (q := 5) rfl rfl rfl ?_
  refine rp_lp (q := 6) rfl rfl rfl ?_
  refine rp_lbr (a := 23) (b := 9) rfl rfl rfl ?_ ?_
  ·
    refine rp_lp (q := 24) rfl rfl rfl ?_
    exact rp_lri rfl rfl
  ·
    refine rp_lp (q := 10) rfl rfl rfl ?_
    refine rp_lp (q := 11) rfl rfl rfl ?_
    refine rp_lp (q := 12) rfl rfl rfl ?_
    refine rp_lci (uc' := 0) (us' := 0) rfl (rp_rcv rfl) rfl rfl rfl rfl rfl rfl (fun r2 σ1 => ?_)
    refine rp_lp (q := 16) rfl rfl rfl ?_
    refine rp_lp (q := 17) (ls' := [.ref 45, .int (x1 + r2), .int x2]) rfl rfl rfl ?_
    refine rp_lp (q := 20) (ls' := [.ref 45, .int (x1 + r2), .int (x2 + 1)]) rfl rfl rfl ?_
    refine rp_lp (q := 4) rfl rfl rfl ?_
    exact rp_Le_rfl
-- Ledger_milesBy
set_option maxRecDepth 20000 in
theorem D_Ledger_milesBy_0 {sc : rp_Sc} (a0 : Int32) (σ : rp_Mm) : rp_Le (if (a0 < 0 : Prop) then RI 0 σ else if (5 ≤ a0 : Prop) then RI 0 σ else bif rp_ix a0 5 then RI (σ 47 a0.toNatClampNeg) σ else none) (EV sc (138, 0, 0, 0, [.ref 45, .int a0], [], (rp_L0, σ))) := by
  refine rp_lp (q := 1) rfl rfl rfl ?_
  refine rp_lbr (a := 22) (b := 4) rfl rfl rfl ?_ ?_
  ·
    refine rp_lp (q := 23) rfl rfl rfl ?_
    exact rp_lri rfl rfl
  ·
    refine rp_lp (q := 5) rfl rfl rfl ?_
    refine rp_lp (q := 6) rfl rfl rfl ?_
    refine rp_lgf rfl rfl rfl ?_
    refine rp_lal rfl rfl ?_
    refine rp_lbr (a := 22) (b := 13) rfl rfl rfl ?_ ?_
    ·
      refine rp_lp (q := 23) rfl rfl rfl ?_
      exact rp_lri rfl rfl
    ·
      refine rp_lp (q := 14) rfl rfl rfl ?_
      refine rp_lgf rfl rfl rfl ?_
      refine rp_lp (q := 18) rfl rfl rfl ?_
      refine rp_lia rfl rfl ?_
      refine rp_lp (q := 23) rfl rfl rfl ?_
      exact rp_lri rfl rfl
-- RailPasses_part
set_option maxRecDepth 20000 in
theorem D_RailPasses_part_0 {sc : rp_Sc} (a0 : Int32) (a1 : Int32) (a2 : Int32) (σ : rp_Mm) : rp_Le (thI (CL sc 25 [.ref 9, .int a0] σ) fun r2 σ1 => if (r2 = 0 : Prop) then RI (-1) σ1 else thI (CL sc 16 [.int a1] σ1) fun r4 σ3 => if (r4 = 0 : Prop) then RI (-1) σ3 else thI (CL sc 120 [.ref 1, .int a2] σ3) fun r6 σ5 => if (r6 = 0 : Prop) then RI (-1) σ5 else thV (CL sc 126 [.ref 45, .ref 2, .ref 35, .int a0, .int a2] σ5) fun σ7 => thI (CL sc 20 [.ref 9, .int a0, .int 11] σ7) fun r9 σ8 => thI (CL sc 140 [.ref 45, .int r9, .int a1] σ8) fun r11 σ10 => RI r11 σ10) (EV sc (139, 0, 0, 0, [.ref 1, .int a0, .int a1, .int a2], [], (rp_L0, σ))) := by
  refine rp_lp (q := 1) rfl rfl rfl ?_
  refine rp_lgf rfl rfl rfl ?_
  refine rp_lgf rfl rfl rfl ?_
  refine rp_lp (q := 8) rfl rfl rfl ?_
  refine rp_lci (uc' := 0) (us' := 0) rfl (rp_rcv rfl) rfl rfl rfl rfl rfl rfl (fun r2 σ1 => ?_)
  refine rp_lbr (a := 29) (b := 14) rfl rfl rfl ?_ ?_
  ·
    refine rp_lp (q := 30) rfl rfl rfl ?_
    exact rp_lri rfl rfl
  ·
    refine rp_lp (q := 15) rfl rfl rfl ?_
    refine rp_lci (uc' := 0) (us' := 0) rfl rfl rfl rfl rfl rfl rfl rfl (fun r4 σ3 => ?_)
    refine rp_lbr (a := 29) (b := 21) rfl rfl rfl ?_ ?_
    ·
      refine rp_lp (q := 30) rfl rfl rfl ?_
      exact rp_lri rfl rfl
    ·
      refine rp_lp (q := 22) rfl rfl rfl ?_
      refine rp_lp (q := 23) rfl rfl rfl ?_
      refine rp_lci (uc' := 0) (us' := 0) rfl (rp_rcv rfl) rfl rfl rfl rfl rfl rfl (fun r6 σ5 => ?_)
      refine rp_lbr (a := 29) (b := 31) rfl rfl rfl ?_ ?_
      ·
        refine rp_lp (q := 30) rfl rfl rfl ?_
        exact rp_lri rfl rfl
      ·
        refine rp_lp (q := 32) rfl rfl rfl ?_
        refine rp_lgf rfl rfl rfl ?_
        refine rp_lp (q := 36) rfl rfl rfl ?_
        refine rp_lgf rfl rfl rfl ?_
        refine rp_lp (q := 40) rfl rfl rfl ?_
        refine rp_lgf rfl rfl rfl ?_
        refine rp_lp (q := 44) rfl rfl rfl ?_
        refine rp_lp (q := 45) rfl rfl rfl ?_
        refine rp_lcv (uc' := 0) (us' := 0) rfl (rp_rcv rfl) rfl rfl rfl rfl rfl rfl (fun σ7 => ?_)
        refine rp_lp (q := 49) rfl rfl rfl ?_
        refine rp_lgf rfl rfl rfl ?_
        refine rp_lp (q := 53) rfl rfl rfl ?_
        refine rp_lgf rfl rfl rfl ?_
        refine rp_lgf rfl rfl rfl ?_
        refine rp_lp (q := 60) rfl rfl rfl ?_
        refine rp_lp (q := 62) rfl rfl rfl ?_
        refine rp_lci (uc' := 0) (us' := 0) rfl (rp_rcv rfl) rfl rfl rfl rfl rfl rfl (fun r9 σ8 => ?_)
        refine rp_lp (q := 66) rfl rfl rfl ?_
        refine rp_lci (uc' := 0) (us' := 0) rfl (rp_rcv rfl) rfl rfl rfl rfl rfl rfl (fun r11 σ10 => ?_)
        exact rp_lri rfl rfl
-- Ledger_share
set_option maxRecDepth 20000 in
theorem D_Ledger_share_0 {sc : rp_Sc} (a0 : Int32) (a1 : Int32) (σ : rp_Mm) : rp_Le (thI (CL sc 137 [.ref 45] σ) fun r2 σ1 => if (0 < r2 : Prop) then thI (CL sc 138 [.ref 45, .int a1] σ1) fun r4 σ3 => if r2 = 0 then none else EV sc (140, 0, 0, 39, [.ref 45, .int a0, .int a1, .int r2, .int a0, .int 0, .int ((a0 * r4) - (a0 * r4) / r2 * r2), .int 0, rp_U], [], (rp_L0, σ3)) else if (a1 = 0 : Prop) then RI a0 σ1 else RI 0 σ1) (EV sc (140, 0, 0, 0, [.ref 45, .int a0, .int a1, rp_U, rp_U, rp_U, rp_U, rp_U, rp_U], [], (rp_L0, σ))) := by
  refine rp_lp (q := 1) rfl rfl rfl ?_
  refine rp_lci (uc' := 0) (us' := 0) rfl (rp_rcv rfl) rfl rfl rfl rfl rfl rfl (fun r2 σ1 => ?_)
  refine rp_lp (q := 5) (ls' := [.ref 45, .int a0, .int a1, .int r2, rp_U, rp_U, rp_U, rp_U, rp_U]) rfl rfl rfl ?_
  refine rp_lp (q := 6) rfl rfl rfl ?_
  refine rp_lbr (a := 19) (b := 9) rfl rfl rfl ?_ ?_
  ·
    refine rp_lp (q := 20) rfl rfl rfl ?_
    refine rp_lp (q := 22) (ls' := [.ref 45, .int a0, .int a1, .int r2, .int a0, rp_U, rp_U, rp_U, rp_U]) rfl rfl rfl ?_
    refine rp_lp (q := 23) rfl rfl rfl ?_
    refine rp_lp (q := 25) (ls' := [.ref 45, .int a0, .int a1, .int r2, .int a0, .int 0, rp_U, rp_U, rp_U]) rfl rfl rfl ?_
    refine rp_lp (q := 26) rfl rfl rfl ?_
    refine rp_lp (q := 27) rfl rfl rfl ?_
    refine rp_lp (q := 28) rfl rfl rfl ?_
    refine rp_lci (uc' := 0) (us' := 0) rfl (rp_rcv rfl) rfl rfl rfl rfl rfl rfl (fun r4 σ3 => ?_)
    refine rp_lp (q := 32) rfl rfl rfl ?_
    refine rp_lp (q := 33) rfl rfl rfl ?_
    refine rp_lrg rfl ?_
    refine rp_lp (q := 36) (ls' := [.ref 45, .int a0, .int a1, .int r2, .int a0, .int 0, .int ((a0 * r4) - (a0 * r4) / r2 * r2), rp_U, rp_U]) rfl rfl rfl ?_
    refine rp_lp (q := 37) rfl rfl rfl ?_
    refine rp_lp (q := 39) (ls' := [.ref 45, .int a0, .int a1, .int r2, .int a0, .int 0, .int ((a0 * r4) - (a0 * r4) / r2 * r2), .int 0, rp_U]) rfl rfl rfl ?_
    exact rp_Le_rfl
  ·
    refine rp_lp (q := 10) rfl rfl rfl ?_
    refine rp_lbr (a := 13) (b := 17) rfl rfl rfl ?_ ?_
    ·
      refine rp_lp (q := 14) rfl rfl rfl ?_
      refine rp_lp (q := 18) rfl rfl rfl ?_
      exact rp_lri rfl rfl
    ·
      refine rp_lp (q := 18) rfl rfl rfl ?_
      exact rp_lri rfl rfl
set_option maxRecDepth 20000 in
theorem D_Ledger_share_39 {sc : rp_Sc} (x1 : Int32) (x2 : Int32) (x3 : Int32) (x4 : Int32) (x5 : Int32) (x6 : Int32) (x7 : Int32) (σ : rp_Mm) : rp_Le (if (5 ≤ x7 : Prop) then thI (CL sc 138 [.ref 45, .int x2] σ) fun r2 σ1 => if x3 = 0 then none else if (x4 ≤ x5 : Prop) then RI (((x1 * r2) / x3) + (0 : Int32)) σ1 else RI (((x1 * r2) / x3) + (1 : Int32)) σ1 else thI (CL sc 138 [.ref 45, .int x7] σ) fun r4 σ3 => if x3 = 0 then none else thI (CL sc 138 [.ref 45, .int x7] σ3) fun r6 σ5 => if x3 = 0 then none else if (x6 < ((x1 * r6) - (x1 * r6) / x3 * x3) : Prop) then EV sc (140, 0, 0, 92, [.ref 45, .int x1, .int x2, .int x3, .int (x4 - ((x1 * r4) / x3)), .int x5, .int x6, .int x7, .int ((x1 * r6) - (x1 * r6) / x3 * x3)], [], (rp_L0, σ5)) else if (((x1 * r6) - (x1 * r6) / x3 * x3) = x6 : Prop) then if (x2 ≤ x7 : Prop) then EV sc (140, 0, 0, 95, [.ref 45, .int x1, .int x2, .int x3, .int (x4 - ((x1 * r4) / x3)), .int x5, .int x6, .int x7, .int ((x1 * r6) - (x1 * r6) / x3 * x3)], [], (rp_L0, σ5)) else EV sc (140, 0, 0, 92, [.ref 45, .int x1, .int x2, .int x3, .int (x4 - ((x1 * r4) / x3)), .int x5, .int x6, .int x7, .int ((x1 * r6) - (x1 * r6) / x3 * x3)], [], (rp_L0, σ5)) else EV sc (140, 0, 0, 95, [.ref 45, .int x1, .int x2, .int x3, .int (x4 - ((x1 * r4) / x3)), .int x5, .int x6, .int x7, .int ((x1 * r6) - (x1 * r6) / x3 * x3)], [], (rp_L0, σ5))) (EV sc (140, 0, 0, 39, [.ref 45, .int x1, .int x2, .int x3, .int x4, .int x5, .int x6, .int x7, rp_U], [], (rp_L0, σ))) := by
  refine rp_lp (q := 41) rfl rfl rfl ?_
  refine rp_lp (q := 42) rfl rfl rfl ?_
  refine rp_lbr (a := 101) (b := 45) rfl rfl rfl ?_ ?_
  ·
    refine rp_lp (q := 102) rfl rfl rfl ?_
    refine rp_lp (q := 103) rfl rfl rfl ?_
    refine rp_lp (q := 104) rfl rfl rfl ?_
    refine rp_lci (uc' := 0) (us' := 0) rfl (rp_rcv rfl) rfl rfl rfl rfl rfl rfl (fun r2 σ1 => ?_)
    refine rp_lp (q := 108) rfl rfl rfl ?_
    refine rp_lp (q := 109) rfl rfl rfl ?_
    refine rp_ldg rfl ?_
    refine rp_lp (q := 112) rfl rfl rfl ?_
    refine rp_lp (q := 114) rfl rfl rfl ?_
    refine rp_lbr (a := 121) (b := 117) rfl rfl rfl ?_ ?_
    ·
      refine rp_lp (q := 122) rfl rfl rfl ?_
      refine rp_lp (q := 123) rfl rfl rfl ?_
      exact rp_lri rfl rfl
    ·
      refine rp_lp (q := 118) rfl rfl rfl ?_
      refine rp_lp (q := 122) rfl rfl rfl ?_
      refine rp_lp (q := 123) rfl rfl rfl ?_
      exact rp_lri rfl rfl
  ·
    refine rp_lp (q := 47) rfl rfl rfl ?_
    refine rp_lp (q := 48) rfl rfl rfl ?_
    refine rp_lp (q := 49) rfl rfl rfl ?_
    refine rp_lp (q := 51) rfl rfl rfl ?_
    refine rp_lci (uc' := 0) (us' := 0) rfl (rp_rcv rfl) rfl rfl rfl rfl rfl rfl (fun r4 σ3 => ?_)
    refine rp_lp (q := 55) rfl rfl rfl ?_
    refine rp_lp (q := 56) rfl rfl rfl ?_
    refine rp_ldg rfl ?_
    refine rp_lp (q := 58) rfl rfl rfl ?_
    refine rp_lp (q := 60) (ls' := [.ref 45, .int x1, .int x2, .int x3, .int (x4 - ((x1 * r4) / x3)), .int x5, .int x6, .int x7, rp_U]) rfl rfl rfl ?_
    refine rp_lp (q := 61) rfl rfl rfl ?_
    refine rp_lp (q := 62) rfl rfl rfl ?_
    refine rp_lp (q := 64) rfl rfl rfl ?_
    refine rp_lci (uc' := 0) (us' := 0) rfl (rp_rcv rfl) rfl rfl rfl rfl rfl rfl (fun r6 σ5 => ?_)
    refine rp_lp (q := 68) rfl rfl rfl ?_
    refine rp_lp (q := 69) rfl rfl rfl ?_
    refine rp_lrg rfl ?_
    refine rp_lp (q := 72) (ls' := [.ref 45, .int x1, .int x2, .int x3, .int (x4 - ((x1 * r4) / x3)), .int x5, .int x6, .int x7, .int ((x1 * r6) - (x1 * r6) / x3 * x3)]) rfl rfl rfl ?_
    refine rp_lp (q := 74) rfl rfl rfl ?_
    refine rp_lp (q := 76) rfl rfl rfl ?_
    refine rp_lbr (a := 92) (b := 79) rfl rfl rfl ?_ ?_
    ·
      exact rp_Le_rfl
    ·
      refine rp_lp (q := 81) rfl rfl rfl ?_
      refine rp_lp (q := 83) rfl rfl rfl ?_
      refine rp_lbr (a := 86) (b := 95) rfl rfl rfl ?_ ?_
      ·
        refine rp_lp (q := 88) rfl rfl rfl ?_
        refine rp_lp (q := 89) rfl rfl rfl ?_
        refine rp_lbr (a := 95) (b := 92) rfl rfl rfl ?_ ?_
        ·
          exact rp_Le_rfl
        ·
          exact rp_Le_rfl
      ·
        exact rp_Le_rfl
set_option maxRecDepth 20000 in
theorem D_Ledger_share_92 {sc : rp_Sc} (x1 : Int32) (x2 : Int32) (x3 : Int32) (x4 : Int32) (x5 : Int32) (x6 : Int32) (x7 : Int32) (x8 : Int32) (σ : rp_Mm) : rp_Le (EV sc (140, 0, 0, 95, [.ref 45, .int x1, .int x2, .int x3, .int x4, .int (x5 + 1), .int x6, .int x7, .int x8], [], (rp_L0, σ))) (EV sc (140, 0, 0, 92, [.ref 45, .int x1, .int x2, .int x3, .int x4, .int x5, .int x6, .int x7, .int x8], [], (rp_L0, σ))) := by
  refine rp_lp (q := 95) (ls' := [.ref 45, .int x1, .int x2, .int x3, .int x4, .int (x5 + 1), .int x6, .int x7, .int x8]) rfl rfl rfl ?_
  exact rp_Le_rfl
set_option maxRecDepth 20000 in
theorem D_Ledger_share_95 {sc : rp_Sc} (x1 : Int32) (x2 : Int32) (x3 : Int32) (x4 : Int32) (x5 : Int32) (x6 : Int32) (x7 : Int32) (x8 : Int32) (σ : rp_Mm) : rp_Le (EV sc (140, 0, 0, 39, [.ref 45, .int x1, .int x2, .int x3, .int x4, .int x5, .int x6, .int (x7 + 1), rp_U], [], (rp_L0, σ))) (EV sc (140, 0, 0, 95, [.ref 45, .int x1, .int x2, .int x3, .int x4, .int x5, .int x6, .int x7, .int x8], [], (rp_L0, σ))) := by
  refine rp_lp (q := 98) (ls' := [.ref 45, .int x1, .int x2, .int x3, .int x4, .int x5, .int x6, .int (x7 + 1), .int x8]) rfl rfl rfl ?_
  refine rp_lp (q := 39) rfl rfl rfl ?_
  exact rp_LeU ⟨Or.inl rfl, Or.inl rfl, Or.inl rfl, Or.inl rfl, Or.inl rfl, Or.inl rfl, Or.inl rfl, Or.inl rfl, Or.inr ⟨rfl, rfl⟩, trivial⟩
-- RailPasses_account
set_option maxRecDepth 20000 in
theorem D_RailPasses_account_0 {sc : rp_Sc} (a0 : Int32) (a1 : Int32) (σ : rp_Mm) : rp_Le (thI (CL sc 16 [.int a0] σ) fun r2 σ1 => if (r2 = 0 : Prop) then RI (-1) σ1 else thI (CL sc 120 [.ref 1, .int a1] σ1) fun r4 σ3 => if (r4 = 0 : Prop) then RI (-1) σ3 else EV sc (141, 0, 0, 22, [.ref 1, .int a0, .int a1, .int 0, .int 0], [], (rp_L0, σ3))) (EV sc (141, 0, 0, 0, [.ref 1, .int a0, .int a1, rp_U, rp_U], [], (rp_L0, σ))) := by
  refine rp_lp (q := 1) rfl rfl rfl ?_
  refine rp_lci (uc' := 0) (us' := 0) rfl rfl rfl rfl rfl rfl rfl rfl (fun r2 σ1 => ?_)
  refine rp_lbr (a := 15) (b := 7) rfl rfl rfl ?_ ?_
  ·
    refine rp_lp (q := 16) rfl rfl rfl ?_
    exact rp_lri rfl rfl
  ·
    refine rp_lp (q := 8) rfl rfl rfl ?_
    refine rp_lp (q := 9) rfl rfl rfl ?_
    refine rp_lci (uc' := 0) (us' := 0) rfl (rp_rcv rfl) rfl rfl rfl rfl rfl rfl (fun r4 σ3 => ?_)
    refine rp_lbr (a := 15) (b := 17) rfl rfl rfl ?_ ?_
    ·
      refine rp_lp (q := 16) rfl rfl rfl ?_
      exact rp_lri rfl rfl
    ·
      refine rp_lp (q := 18) rfl rfl rfl ?_
      refine rp_lp (q := 19) (ls' := [.ref 1, .int a0, .int a1, .int 0, rp_U]) rfl rfl rfl ?_
      refine rp_lp (q := 20) rfl rfl rfl ?_
      refine rp_lp (q := 22) (ls' := [.ref 1, .int a0, .int a1, .int 0, .int 0]) rfl rfl rfl ?_
      exact rp_Le_rfl
set_option maxRecDepth 20000 in
theorem D_RailPasses_account_22 {sc : rp_Sc} (x1 : Int32) (x2 : Int32) (x3 : Int32) (x4 : Int32) (σ : rp_Mm) : rp_Le (thI (CL sc 19 [.ref 9] σ) fun r2 σ1 => if (r2 ≤ x4 : Prop) then RI x3 σ1 else thV (CL sc 126 [.ref 45, .ref 2, .ref 35, .int x4, .int x2] σ1) fun σ3 => thI (CL sc 20 [.ref 9, .int x4, .int 11] σ3) fun r5 σ4 => thI (CL sc 140 [.ref 45, .int r5, .int x1] σ4) fun r7 σ6 => thI (CL sc 69 [.ref 2, .int x4] σ6) fun r9 σ8 => if (r9 = 0 : Prop) then EV sc (141, 0, 0, 112, [.ref 1, .int x1, .int x2, .int (x3 + r7), .int x4], [], (rp_L0, σ8)) else thI (CL sc 68 [.ref 2, .int x4] σ8) fun r11 σ10 => thI (CL sc 140 [.ref 45, .int r11, .int x1] σ10) fun r13 σ12 => EV sc (141, 0, 0, 112, [.ref 1, .int x1, .int x2, .int ((x3 + r7) - r13), .int x4], [], (rp_L0, σ12))) (EV sc (141, 0, 0, 22, [.ref 1, .int x1, .int x2, .int x3, .int x4], [], (rp_L0, σ))) := by
  refine rp_lp (q := 24) rfl rfl rfl ?_
  refine rp_lp (q := 25) rfl rfl rfl ?_
  refine rp_lgf rfl rfl rfl ?_
  refine rp_lgf rfl rfl rfl ?_
  refine rp_lci (uc' := 0) (us' := 0) rfl (rp_rcv rfl) rfl rfl rfl rfl rfl rfl (fun r2 σ1 => ?_)
  refine rp_lbr (a := 118) (b := 37) rfl rfl rfl ?_ ?_
  ·
    refine rp_lp (q := 119) rfl rfl rfl ?_
    exact rp_lri rfl rfl
  ·
    refine rp_lp (q := 38) rfl rfl rfl ?_
    refine rp_lgf rfl rfl rfl ?_
    refine rp_lp (q := 42) rfl rfl rfl ?_
    refine rp_lgf rfl rfl rfl ?_
    refine rp_lp (q := 46) rfl rfl rfl ?_
    refine rp_lgf rfl rfl rfl ?_
    refine rp_lp (q := 51) rfl rfl rfl ?_
    refine rp_lp (q := 52) rfl rfl rfl ?_
    refine rp_lcv (uc' := 0) (us' := 0) rfl (rp_rcv rfl) rfl rfl rfl rfl rfl rfl (fun σ3 => ?_)
    refine rp_lp (q := 56) rfl rfl rfl ?_
    refine rp_lp (q := 57) rfl rfl rfl ?_
    refine rp_lgf rfl rfl rfl ?_
    refine rp_lp (q := 61) rfl rfl rfl ?_
    refine rp_lgf rfl rfl rfl ?_
    refine rp_lgf rfl rfl rfl ?_
    refine rp_lp (q := 69) rfl rfl rfl ?_
    refine rp_lp (q := 71) rfl rfl rfl ?_
    refine rp_lci (uc' := 0) (us' := 0) rfl (rp_rcv rfl) rfl rfl rfl rfl rfl rfl (fun r5 σ4 => ?_)
    refine rp_lp (q := 75) rfl rfl rfl ?_
    refine rp_lci (uc' := 0) (us' := 0) rfl (rp_rcv rfl) rfl rfl rfl rfl rfl rfl (fun r7 σ6 => ?_)
    refine rp_lp (q := 79) rfl rfl rfl ?_
    refine rp_lp (q := 80) (ls' := [.ref 1, .int x1, .int x2, .int (x3 + r7), .int x4]) rfl rfl rfl ?_
    refine rp_lp (q := 81) rfl rfl rfl ?_
    refine rp_lgf rfl rfl rfl ?_
    refine rp_lp (q := 86) rfl rfl rfl ?_
    refine rp_lci (uc' := 0) (us' := 0) rfl (rp_rcv rfl) rfl rfl rfl rfl rfl rfl (fun r9 σ8 => ?_)
    refine rp_lbr (a := 112) (b := 92) rfl rfl rfl ?_ ?_
    ·
      exact rp_Le_rfl
    ·
      refine rp_lp (q := 93) rfl rfl rfl ?_
      refine rp_lp (q := 94) rfl rfl rfl ?_
      refine rp_lgf rfl rfl rfl ?_
      refine rp_lp (q := 98) rfl rfl rfl ?_
      refine rp_lgf rfl rfl rfl ?_
      refine rp_lp (q := 103) rfl rfl rfl ?_
      refine rp_lci (uc' := 0) (us' := 0) rfl (rp_rcv rfl) rfl rfl rfl rfl rfl rfl (fun r11 σ10 => ?_)
      refine rp_lp (q := 107) rfl rfl rfl ?_
      refine rp_lci (uc' := 0) (us' := 0) rfl (rp_rcv rfl) rfl rfl rfl rfl rfl rfl (fun r13 σ12 => ?_)
      refine rp_lp (q := 111) rfl rfl rfl ?_
      refine rp_lp (q := 112) (ls' := [.ref 1, .int x1, .int x2, .int ((x3 + r7) - r13), .int x4]) rfl rfl rfl ?_
      exact rp_Le_rfl
set_option maxRecDepth 20000 in
theorem D_RailPasses_account_112 {sc : rp_Sc} (x1 : Int32) (x2 : Int32) (x3 : Int32) (x4 : Int32) (σ : rp_Mm) : rp_Le (EV sc (141, 0, 0, 22, [.ref 1, .int x1, .int x2, .int x3, .int (x4 + 1)], [], (rp_L0, σ))) (EV sc (141, 0, 0, 112, [.ref 1, .int x1, .int x2, .int x3, .int x4], [], (rp_L0, σ))) := by
  refine rp_lp (q := 115) (ls' := [.ref 1, .int x1, .int x2, .int x3, .int (x4 + 1)]) rfl rfl rfl ?_
  refine rp_lp (q := 22) rfl rfl rfl ?_
  exact rp_Le_rfl
-- RailPasses_many
set_option maxRecDepth 20000 in
theorem D_RailPasses_many_0 {sc : rp_Sc} (a0 : Int32) (σ : rp_Mm) : rp_Le (if a0 = 0 then thI (CL sc 19 [.ref 3] σ) fun r2 σ1 => RI r2 σ1 else if a0 = 1 then thI (CL sc 19 [.ref 5] σ) fun r4 σ3 => RI r4 σ3 else if a0 = 2 then thI (CL sc 143 [.ref 2] σ) fun r6 σ5 => RI r6 σ5 else if a0 = 3 then thI (CL sc 19 [.ref 9] σ) fun r8 σ7 => RI r8 σ7 else if a0 = 4 then thI (CL sc 19 [.ref 11] σ) fun r10 σ9 => RI r10 σ9 else if a0 = 5 then thI (CL sc 19 [.ref 13] σ) fun r12 σ11 => RI r12 σ11 else if a0 = 6 then thI (CL sc 19 [.ref 43] σ) fun r14 σ13 => RI r14 σ13 else if a0 = 7 then thI (CL sc 19 [.ref 15] σ) fun r16 σ15 => RI r16 σ15 else if a0 = 8 then thI (CL sc 31 [.ref 32] σ) fun r18 σ17 => RI r18 σ17 else if a0 = 9 then RI (σ 2 7) σ else RI (-1) σ) (EV sc (142, 0, 0, 0, [.ref 1, .int a0], [], (rp_L0, σ))) := by
  refine rp_lp (q := 1) rfl rfl rfl ?_
  refine rp_lsw rfl rfl rfl ?_
  refine rp_swc ?_ ?_
  ·
    refine rp_lp (q := 57) rfl rfl rfl ?_
    refine rp_lgf rfl rfl rfl ?_
    refine rp_lgf rfl rfl rfl ?_
    refine rp_lci (uc' := 0) (us' := 0) rfl (rp_rcv rfl) rfl rfl rfl rfl rfl rfl (fun r2 σ1 => ?_)
    exact rp_lri rfl rfl
  ·
    refine rp_swc ?_ ?_
    ·
      refine rp_lp (q := 68) rfl rfl rfl ?_
      refine rp_lgf rfl rfl rfl ?_
      refine rp_lgf rfl rfl rfl ?_
      refine rp_lci (uc' := 0) (us' := 0) rfl (rp_rcv rfl) rfl rfl rfl rfl rfl rfl (fun r4 σ3 => ?_)
      exact rp_lri rfl rfl
    ·
      refine rp_swc ?_ ?_
      ·
        refine rp_lp (q := 79) rfl rfl rfl ?_
        refine rp_lgf rfl rfl rfl ?_
        refine rp_lci (uc' := 0) (us' := 0) rfl (rp_rcv rfl) rfl rfl rfl rfl rfl rfl (fun r6 σ5 => ?_)
        exact rp_lri rfl rfl
      ·
        refine rp_swc ?_ ?_
        ·
          refine rp_lp (q := 87) rfl rfl rfl ?_
          refine rp_lgf rfl rfl rfl ?_
          refine rp_lgf rfl rfl rfl ?_
          refine rp_lci (uc' := 0) (us' := 0) rfl (rp_rcv rfl) rfl rfl rfl rfl rfl rfl (fun r8 σ7 => ?_)
          exact rp_lri rfl rfl
        ·
          refine rp_swc ?_ ?_
          ·
            refine rp_lp (q := 98) rfl rfl rfl ?_
            refine rp_lgf rfl rfl rfl ?_
            refine rp_lgf rfl rfl rfl ?_
            refine rp_lci (uc' := 0) (us' := 0) rfl (rp_rcv rfl) rfl rfl rfl rfl rfl rfl (fun r10 σ9 => ?_)
            exact rp_lri rfl rfl
          ·
            refine rp_swc ?_ ?_
            ·
              refine rp_lp (q := 109) rfl rfl rfl ?_
              refine rp_lgf rfl rfl rfl ?_
              refine rp_lgf rfl rfl rfl ?_
              refine rp_lci (uc' := 0) (us' := 0) rfl (rp_rcv rfl) rfl rfl rfl rfl rfl rfl (fun r12 σ11 => ?_)
              exact rp_lri rfl rfl
            ·
              refine rp_swc ?_ ?_
              ·
                refine rp_lp (q := 120) rfl rfl rfl ?_
                refine rp_lgf rfl rfl rfl ?_
                refine rp_lgf rfl rfl rfl ?_
                refine rp_lci (uc' := 0) (us' := 0) rfl (rp_rcv rfl) rfl rfl rfl rfl rfl rfl (fun r14 σ13 => ?_)
                exact rp_lri rfl rfl
              ·
                refine rp_swc ?_ ?_
                ·
                  refine rp_lp (q := 131) rfl rfl rfl ?_
                  refine rp_lgf rfl rfl rfl ?_
                  refine rp_lgf rfl rfl rfl ?_
                  refine rp_lci (uc' := 0) (us' := 0) rfl (rp_rcv rfl) rfl rfl rfl rfl rfl rfl (fun r16 σ15 => ?_)
                  exact rp_lri rfl rfl
                ·
                  refine rp_swc ?_ ?_
                  ·
                    refine rp_lp (q := 142) rfl rfl rfl ?_
                    refine rp_lgf rfl rfl rfl ?_
                    refine rp_lci (uc' := 0) (us' := 0) rfl (rp_rcv rfl) rfl rfl rfl rfl rfl rfl (fun r18 σ17 => ?_)
                    exact rp_lri rfl rfl
                  ·
                    refine rp_swc ?_ ?_
                    ·
                      refine rp_lp (q := 150) rfl rfl rfl ?_
                      refine rp_lgf rfl rfl rfl ?_
                      refine rp_lgm rfl rfl rfl ?_
                      exact rp_lri rfl rfl
                    ·
                      refine rp_lp (q := 158) rfl rfl rfl ?_
                      exact rp_lri rfl rfl
-- Book_lawsThere
set_option maxRecDepth 20000 in
theorem D_Book_lawsThere_0 {sc : rp_Sc} (σ : rp_Mm) : rp_Le (EV sc (143, 0, 0, 4, [.ref 2, .int 0, .int 0], [], (rp_L0, σ))) (EV sc (143, 0, 0, 0, [.ref 2, rp_U, rp_U], [], (rp_L0, σ))) := by
  refine rp_lp (q := 1) rfl rfl rfl ?_
  refine rp_lp (q := 2) (ls' := [.ref 2, .int 0, rp_U]) rfl rfl rfl ?_
  refine rp_lp (q := 3) rfl rfl rfl ?_
  refine rp_lp (q := 4) (ls' := [.ref 2, .int 0, .int 0]) rfl rfl rfl ?_
  exact rp_Le_rfl
set_option maxRecDepth 20000 in
theorem D_Book_lawsThere_4 {sc : rp_Sc} (x1 : Int32) (x2 : Int32) (σ : rp_Mm) : rp_Le (if (3 ≤ x2 : Prop) then RI x1 σ else thI (CL sc 20 [.ref 7, .int x2, .int 11] σ) fun r2 σ1 => EV sc (143, 0, 0, 4, [.ref 2, .int (x1 + r2), .int (x2 + 1)], [], (rp_L0, σ1))) (EV sc (143, 0, 0, 4, [.ref 2, .int x1, .int x2], [], (rp_L0, σ))) := by
  refine rp_lp (q := 5) rfl rfl rfl ?_
  refine rp_lp (q := 6) rfl rfl rfl ?_
  refine rp_lbr (a := 28) (b := 9) rfl rfl rfl ?_ ?_
  ·
    refine rp_lp (q := 29) rfl rfl rfl ?_
    exact rp_lri rfl rfl
  ·
    refine rp_lp (q := 10) rfl rfl rfl ?_
    refine rp_lp (q := 11) rfl rfl rfl ?_
    refine rp_lgf rfl rfl rfl ?_
    refine rp_lp (q := 15) rfl rfl rfl ?_
    refine rp_lp (q := 17) rfl rfl rfl ?_
    refine rp_lci (uc' := 0) (us' := 0) rfl (rp_rcv rfl) rfl rfl rfl rfl rfl rfl (fun r2 σ1 => ?_)
    refine rp_lp (q := 21) rfl rfl rfl ?_
    refine rp_lp (q := 22) (ls' := [.ref 2, .int (x1 + r2), .int x2]) rfl rfl rfl ?_
    refine rp_lp (q := 25) (ls' := [.ref 2, .int (x1 + r2), .int (x2 + 1)]) rfl rfl rfl ?_
    refine rp_lp (q := 4) rfl rfl rfl ?_
    exact rp_Le_rfl
-- RailPasses_keep
set_option maxRecDepth 20000 in
theorem D_RailPasses_keep_0 {sc : rp_Sc} (σ : rp_Mm) : rp_Le (thV (CL sc 145 [.ref 17, .ref 2] σ) fun σ1 => RI 1 (rp_wr σ1 1 2 1)) (EV sc (144, 0, 0, 0, [.ref 1], [], (rp_L0, σ))) := by
  refine rp_lp (q := 1) rfl rfl rfl ?_
  refine rp_lgf rfl rfl rfl ?_
  refine rp_lp (q := 5) rfl rfl rfl ?_
  refine rp_lgf rfl rfl rfl ?_
  refine rp_lcv (uc' := 0) (us' := 0) rfl (rp_rcv rfl) rfl rfl rfl rfl rfl rfl (fun σ1 => ?_)
  refine rp_lp (q := 12) rfl rfl rfl ?_
  refine rp_lp (q := 13) rfl rfl rfl ?_
  refine rp_lpm rfl rfl rfl (by decide) ?_
  refine rp_lp (q := 17) rfl rfl rfl ?_
  exact rp_lri rfl rfl
-- Book_copyFrom
set_option maxRecDepth 20000 in
theorem D_Book_copyFrom17_0 {sc : rp_Sc} (σ : rp_Mm) : rp_Le (thV (CL sc 146 [.ref 18, .ref 3] σ) fun σ1 => thV (CL sc 146 [.ref 20, .ref 5] σ1) fun σ2 => thV (CL sc 146 [.ref 22, .ref 7] σ2) fun σ3 => thV (CL sc 146 [.ref 24, .ref 9] σ3) fun σ4 => thV (CL sc 146 [.ref 26, .ref 11] σ4) fun σ5 => thV (CL sc 146 [.ref 28, .ref 13] σ5) fun σ6 => thV (CL sc 146 [.ref 30, .ref 15] σ6) fun σ7 => RV (rp_wr σ7 17 7 (σ7 2 7))) (EV sc (145, 0, 0, 0, [.ref 17, .ref 2], [], (rp_L0, σ))) := by
  refine rp_lp (q := 1) rfl rfl rfl ?_
  refine rp_lgf rfl rfl rfl ?_
  refine rp_lp (q := 5) rfl rfl rfl ?_
  refine rp_lgf rfl rfl rfl ?_
  refine rp_lcv (uc' := 0) (us' := 0) rfl (rp_rcv rfl) rfl rfl rfl rfl rfl rfl (fun σ1 => ?_)
  refine rp_lp (q := 12) rfl rfl rfl ?_
  refine rp_lgf rfl rfl rfl ?_
  refine rp_lp (q := 16) rfl rfl rfl ?_
  refine rp_lgf rfl rfl rfl ?_
  refine rp_lcv (uc' := 0) (us' := 0) rfl (rp_rcv rfl) rfl rfl rfl rfl rfl rfl (fun σ2 => ?_)
  refine rp_lp (q := 23) rfl rfl rfl ?_
  refine rp_lgf rfl rfl rfl ?_
  refine rp_lp (q := 27) rfl rfl rfl ?_
  refine rp_lgf rfl rfl rfl ?_
  refine rp_lcv (uc' := 0) (us' := 0) rfl (rp_rcv rfl) rfl rfl rfl rfl rfl rfl (fun σ3 => ?_)
  refine rp_lp (q := 34) rfl rfl rfl ?_
  refine rp_lgf rfl rfl rfl ?_
  refine rp_lp (q := 38) rfl rfl rfl ?_
  refine rp_lgf rfl rfl rfl ?_
  refine rp_lcv (uc' := 0) (us' := 0) rfl (rp_rcv rfl) rfl rfl rfl rfl rfl rfl (fun σ4 => ?_)
  refine rp_lp (q := 45) rfl rfl rfl ?_
  refine rp_lgf rfl rfl rfl ?_
  refine rp_lp (q := 49) rfl rfl rfl ?_
  refine rp_lgf rfl rfl rfl ?_
  refine rp_lcv (uc' := 0) (us' := 0) rfl (rp_rcv rfl) rfl rfl rfl rfl rfl rfl (fun σ5 => ?_)
  refine rp_lp (q := 56) rfl rfl rfl ?_
  refine rp_lgf rfl rfl rfl ?_
  refine rp_lp (q := 60) rfl rfl rfl ?_
  refine rp_lgf rfl rfl rfl ?_
  refine rp_lcv (uc' := 0) (us' := 0) rfl (rp_rcv rfl) rfl rfl rfl rfl rfl rfl (fun σ6 => ?_)
  refine rp_lp (q := 67) rfl rfl rfl ?_
  refine rp_lgf rfl rfl rfl ?_
  refine rp_lp (q := 71) rfl rfl rfl ?_
  refine rp_lgf rfl rfl rfl ?_
  refine rp_lcv (uc' := 0) (us' := 0) rfl (rp_rcv rfl) rfl rfl rfl rfl rfl rfl (fun σ7 => ?_)
  refine rp_lp (q := 78) rfl rfl rfl ?_
  refine rp_lp (q := 79) rfl rfl rfl ?_
  refine rp_lgm rfl rfl rfl ?_
  refine rp_lpm rfl rfl rfl rfl ?_
  exact rp_lrv rfl rfl
set_option maxRecDepth 20000 in
theorem D_Book_copyFrom2_0 {sc : rp_Sc} (σ : rp_Mm) : rp_Le (thV (CL sc 146 [.ref 3, .ref 18] σ) fun σ1 => thV (CL sc 146 [.ref 5, .ref 20] σ1) fun σ2 => thV (CL sc 146 [.ref 7, .ref 22] σ2) fun σ3 => thV (CL sc 146 [.ref 9, .ref 24] σ3) fun σ4 => thV (CL sc 146 [.ref 11, .ref 26] σ4) fun σ5 => thV (CL sc 146 [.ref 13, .ref 28] σ5) fun σ6 => thV (CL sc 146 [.ref 15, .ref 30] σ6) fun σ7 => RV (rp_wr σ7 2 7 (σ7 17 7))) (EV sc (145, 0, 0, 0, [.ref 2, .ref 17], [], (rp_L0, σ))) := by
  refine rp_lp (q := 1) rfl rfl rfl ?_
  refine rp_lgf rfl rfl rfl ?_
  refine rp_lp (q := 5) rfl rfl rfl ?_
  refine rp_lgf rfl rfl rfl ?_
  refine rp_lcv (uc' := 0) (us' := 0) rfl (rp_rcv rfl) rfl rfl rfl rfl rfl rfl (fun σ1 => ?_)
  refine rp_lp (q := 12) rfl rfl rfl ?_
  refine rp_lgf rfl rfl rfl ?_
  refine rp_lp (q := 16) rfl rfl rfl ?_
  refine rp_lgf rfl rfl rfl ?_
  refine rp_lcv (uc' := 0) (us' := 0) rfl (rp_rcv rfl) rfl rfl rfl rfl rfl rfl (fun σ2 => ?_)
  refine rp_lp (q := 23) rfl rfl rfl ?_
  refine rp_lgf rfl rfl rfl ?_
  refine rp_lp (q := 27) rfl rfl rfl ?_
  refine rp_lgf rfl rfl rfl ?_
  refine rp_lcv (uc' := 0) (us' := 0) rfl (rp_rcv rfl) rfl rfl rfl rfl rfl rfl (fun σ3 => ?_)
  refine rp_lp (q := 34) rfl rfl rfl ?_
  refine rp_lgf rfl rfl rfl ?_
  refine rp_lp (q := 38) rfl rfl rfl ?_
  refine rp_lgf rfl rfl rfl ?_
  refine rp_lcv (uc' := 0) (us' := 0) rfl (rp_rcv rfl) rfl rfl rfl rfl rfl rfl (fun σ4 => ?_)
  refine rp_lp (q := 45) rfl rfl rfl ?_
  refine rp_lgf rfl rfl rfl ?_
  refine rp_lp (q := 49) rfl rfl rfl ?_
  refine rp_lgf rfl rfl rfl ?_
  refine rp_lcv (uc' := 0) (us' := 0) rfl (rp_rcv rfl) rfl rfl rfl rfl rfl rfl (fun σ5 => ?_)
  refine rp_lp (q := 56) rfl rfl rfl ?_
  refine rp_lgf rfl rfl rfl ?_
  refine rp_lp (q := 60) rfl rfl rfl ?_
  refine rp_lgf rfl rfl rfl ?_
  refine rp_lcv (uc' := 0) (us' := 0) rfl (rp_rcv rfl) rfl rfl rfl rfl rfl rfl (fun σ6 => ?_)
  refine rp_lp (q := 67) rfl rfl rfl ?_
  refine rp_lgf rfl rfl rfl ?_
  refine rp_lp (q := 71) rfl rfl rfl ?_
  refine rp_lgf rfl rfl rfl ?_
  refine rp_lcv (uc' := 0) (us' := 0) rfl (rp_rcv rfl) rfl rfl rfl rfl rfl rfl (fun σ7 => ?_)
  refine rp_lp (q := 78) rfl rfl rfl ?_
  refine rp_lp (q := 79) rfl rfl rfl ?_
  refine rp_lgm rfl rfl rfl ?_
  refine rp_lpm rfl rfl rfl rfl ?_
  exact rp_lrv rfl rfl
-- Table_copyFrom
set_option maxRecDepth 20000 in
theorem D_Table_copyFrom_0 {sc : rp_Sc} {t tc tq : Nat} {tl tw : Int32} (ht : rp_L0[t]? = some (.inr (5, [some (.ref (tc + 1)), some (.int tl), some (.int tw), none]))) (htc : rp_L0[tc + 1]? = some (.inl (false, tq))) {a0 a0c a0q : Nat} {a0l a0w : Int32} (ha0 : rp_L0[a0]? = some (.inr (5, [some (.ref (a0c + 1)), some (.int a0l), some (.int a0w), none]))) (ha0c : rp_L0[a0c + 1]? = some (.inl (false, a0q))) (σ : rp_Mm) : rp_Le (EV sc (146, 0, 0, 17, [.ref t, .ref a0, .int 0], [], (rp_L0, rp_wr σ t 3 (if tl < (σ a0 3) then tl else σ a0 3)))) (EV sc (146, 0, 0, 0, [.ref t, .ref a0, rp_U], [], (rp_L0, σ))) := by
  refine rp_lp (q := 1) rfl rfl rfl ?_
  refine rp_lp (q := 2) rfl rfl rfl ?_
  refine rp_lgm rfl ha0 rfl ?_
  refine rp_lp (q := 6) rfl rfl rfl ?_
  refine rp_lgf rfl ht rfl ?_
  refine rp_lb (q := 12) rfl rfl rfl rfl rfl ?_
  refine rp_lpm rfl ht rfl rfl ?_
  refine rp_lp (q := 16) rfl rfl rfl ?_
  refine rp_lp (q := 17) (ls' := [.ref t, .ref a0, .int 0]) rfl rfl rfl ?_
  exact rp_Le_rfl
set_option maxRecDepth 20000 in
theorem D_Table_copyFrom_17 {sc : rp_Sc} {t tc tq : Nat} {tl tw : Int32} (ht : rp_L0[t]? = some (.inr (5, [some (.ref (tc + 1)), some (.int tl), some (.int tw), none]))) (htc : rp_L0[tc + 1]? = some (.inl (false, tq))) {a0 a0c a0q : Nat} {a0l a0w : Int32} (ha0 : rp_L0[a0]? = some (.inr (5, [some (.ref (a0c + 1)), some (.int a0l), some (.int a0w), none]))) (ha0c : rp_L0[a0c + 1]? = some (.inl (false, a0q))) (x2 : Int32) (σ : rp_Mm) : rp_Le (if ((Int32.ofNat tq) ≤ x2 : Prop) then RV σ else if ((Int32.ofNat a0q) ≤ x2 : Prop) then RV σ else bif rp_ix x2 a0q then bif rp_ix x2 tq then EV sc (146, 0, 0, 17, [.ref t, .ref a0, .int (x2 + 1)], [], (rp_L0, rp_wr σ (tc + 1) x2.toNatClampNeg (σ (a0c + 1) x2.toNatClampNeg))) else none else none) (EV sc (146, 0, 0, 17, [.ref t, .ref a0, .int x2], [], (rp_L0, σ))) := by
  refine rp_lp (q := 18) rfl rfl rfl ?_
  refine rp_lp (q := 19) rfl rfl rfl ?_
  refine rp_lgf rfl ht rfl ?_
  refine rp_lal rfl htc ?_
  refine rp_lbr (a := 53) (b := 26) rfl rfl rfl ?_ ?_
  ·
    exact rp_lrv rfl rfl
  ·
    refine rp_lp (q := 27) rfl rfl rfl ?_
    refine rp_lp (q := 28) rfl rfl rfl ?_
    refine rp_lgf rfl ha0 rfl ?_
    refine rp_lal rfl ha0c ?_
    refine rp_lbr (a := 53) (b := 35) rfl rfl rfl ?_ ?_
    ·
      exact rp_lrv rfl rfl
    ·
      refine rp_lp (q := 36) rfl rfl rfl ?_
      refine rp_lgf rfl ht rfl ?_
      refine rp_lp (q := 40) rfl rfl rfl ?_
      refine rp_lp (q := 41) rfl rfl rfl ?_
      refine rp_lgf rfl ha0 rfl ?_
      refine rp_lp (q := 45) rfl rfl rfl ?_
      refine rp_lia rfl ha0c ?_
      refine rp_lis rfl htc ?_
      refine rp_lp (q := 50) (ls' := [.ref t, .ref a0, .int (x2 + 1)]) rfl rfl rfl ?_
      refine rp_lp (q := 17) rfl rfl rfl ?_
      exact rp_Le_rfl
-- RailPasses_back
set_option maxRecDepth 20000 in
theorem D_RailPasses_back_0 {sc : rp_Sc} (σ : rp_Mm) : rp_Le (if ((σ 1 2) = 0 : Prop) then RI (-3) σ else thV (CL sc 145 [.ref 2, .ref 17] σ) fun σ1 => thV (CL sc 18 [.ref 35, .ref 3] σ1) fun σ2 => RI 1 σ2) (EV sc (147, 0, 0, 0, [.ref 1], [], (rp_L0, σ))) := by
  refine rp_lp (q := 1) rfl rfl rfl ?_
  refine rp_lgm rfl rfl rfl ?_
  refine rp_lbr (a := 7) (b := 10) rfl rfl rfl ?_ ?_
  ·
    refine rp_lp (q := 9) rfl rfl rfl ?_
    exact rp_lri rfl rfl
  ·
    refine rp_lp (q := 11) rfl rfl rfl ?_
    refine rp_lgf rfl rfl rfl ?_
    refine rp_lp (q := 15) rfl rfl rfl ?_
    refine rp_lgf rfl rfl rfl ?_
    refine rp_lcv (uc' := 0) (us' := 0) rfl (rp_rcv rfl) rfl rfl rfl rfl rfl rfl (fun σ1 => ?_)
    refine rp_lp (q := 22) rfl rfl rfl ?_
    refine rp_lgf rfl rfl rfl ?_
    refine rp_lp (q := 26) rfl rfl rfl ?_
    refine rp_lgf rfl rfl rfl ?_
    refine rp_lgf rfl rfl rfl ?_
    refine rp_lcv (uc' := 0) (us' := 0) rfl (rp_rcv rfl) rfl rfl rfl rfl rfl rfl (fun σ2 => ?_)
    refine rp_lp (q := 36) rfl rfl rfl ?_
    exact rp_lri rfl rfl
