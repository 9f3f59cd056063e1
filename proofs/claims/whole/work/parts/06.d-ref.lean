-- Ref_line
set_option maxRecDepth 20000 in
theorem D_Ref_line_0 {sc : rp_Sc} (a0 : Int32) (a1 : Int32) (a2 : Int32) (a3 : Int32) (a4 : Int32) (σ : rp_Mm) : rp_Le (thI (CL sc 150 [.int a0] σ) fun r2 σ1 => if (r2 = 0 : Prop) then RI (-1) σ1 else thI (CL sc 150 [.int a1] σ1) fun r4 σ3 => if (r4 = 0 : Prop) then RI (-1) σ3 else if (a0 = a1 : Prop) then RI (-1) σ3 else thI (CL sc 151 [.int a2, .int 0, .int 4] σ3) fun r6 σ5 => if (r6 = 0 : Prop) then RI (-1) σ5 else thI (CL sc 151 [.int a3, .int 1, .int 300] σ5) fun r8 σ7 => if (r8 = 0 : Prop) then RI (-1) σ7 else if ((σ7 49 0) = 14 : Prop) then RI (-2) σ7 else bif rp_ix ((5 : Int32) * (σ7 49 0)) 70 then bif rp_ix (((5 : Int32) * (σ7 49 0)) + (1 : Int32)) 70 then bif rp_ix (((5 : Int32) * (σ7 49 0)) + (2 : Int32)) 70 then bif rp_ix (((5 : Int32) * (σ7 49 0)) + (3 : Int32)) 70 then if (a4 = 0 : Prop) then EV sc (149, 0, 0, 123, [.ref 48, .int a0, .int a1, .int a2, .int a3, .int a4, .int ((5 : Int32) * (σ7 49 0))], [.int 0, .int (((5 : Int32) * (σ7 49 0)) + (4 : Int32)), .ref 50], (rp_L0, rp_wr (rp_wr (rp_wr (rp_wr σ7 50 ((5 : Int32) * (σ7 49 0)).toNatClampNeg a0) 50 (((5 : Int32) * (σ7 49 0)) + (1 : Int32)).toNatClampNeg a1) 50 (((5 : Int32) * (σ7 49 0)) + (2 : Int32)).toNatClampNeg a2) 50 (((5 : Int32) * (σ7 49 0)) + (3 : Int32)).toNatClampNeg a3)) else EV sc (149, 0, 0, 123, [.ref 48, .int a0, .int a1, .int a2, .int a3, .int a4, .int ((5 : Int32) * (σ7 49 0))], [.int 1, .int (((5 : Int32) * (σ7 49 0)) + (4 : Int32)), .ref 50], (rp_L0, rp_wr (rp_wr (rp_wr (rp_wr σ7 50 ((5 : Int32) * (σ7 49 0)).toNatClampNeg a0) 50 (((5 : Int32) * (σ7 49 0)) + (1 : Int32)).toNatClampNeg a1) 50 (((5 : Int32) * (σ7 49 0)) + (2 : Int32)).toNatClampNeg a2) 50 (((5 : Int32) * (σ7 49 0)) + (3 : Int32)).toNatClampNeg a3)) else none else none else none else none) (EV sc (149, 0, 0, 0, [.ref 48, .int a0, .int a1, .int a2, .int a3, .int a4, rp_U], [], (rp_L0, σ))) := by
  refine rp_lp (q := 1) rfl rfl rfl ?_
  refine rp_lci (uc' := 0) (us' := 0) rfl rfl rfl rfl rfl rfl rfl rfl (fun r2 σ1 => ?_)
  refine rp_lbr (a := 40) (b := 7) rfl rfl rfl ?_ ?_
  ·
    refine rp_lp (q := 41) rfl rfl rfl ?_
    exact rp_lri rfl rfl
  ·
    refine rp_lp (q := 8) rfl rfl rfl ?_
    refine rp_lci (uc' := 0) (us' := 0) rfl rfl rfl rfl rfl rfl rfl rfl (fun r4 σ3 => ?_)
    refine rp_lbr (a := 40) (b := 14) rfl rfl rfl ?_ ?_
    ·
      refine rp_lp (q := 41) rfl rfl rfl ?_
      exact rp_lri rfl rfl
    ·
      refine rp_lp (q := 15) rfl rfl rfl ?_
      refine rp_lp (q := 16) rfl rfl rfl ?_
      refine rp_lbr (a := 40) (b := 19) rfl rfl rfl ?_ ?_
      ·
        refine rp_lp (q := 41) rfl rfl rfl ?_
        exact rp_lri rfl rfl
      ·
        refine rp_lp (q := 20) rfl rfl rfl ?_
        refine rp_lp (q := 21) rfl rfl rfl ?_
        refine rp_lp (q := 22) rfl rfl rfl ?_
        refine rp_lci (uc' := 0) (us' := 0) rfl rfl rfl rfl rfl rfl rfl rfl (fun r6 σ5 => ?_)
        refine rp_lbr (a := 40) (b := 28) rfl rfl rfl ?_ ?_
        ·
          refine rp_lp (q := 41) rfl rfl rfl ?_
          exact rp_lri rfl rfl
        ·
          refine rp_lp (q := 30) rfl rfl rfl ?_
          refine rp_lp (q := 31) rfl rfl rfl ?_
          refine rp_lp (q := 34) rfl rfl rfl ?_
          refine rp_lci (uc' := 0) (us' := 0) rfl rfl rfl rfl rfl rfl rfl rfl (fun r8 σ7 => ?_)
          refine rp_lbr (a := 40) (b := 42) rfl rfl rfl ?_ ?_
          ·
            refine rp_lp (q := 41) rfl rfl rfl ?_
            exact rp_lri rfl rfl
          ·
            refine rp_lp (q := 43) rfl rfl rfl ?_
            refine rp_lgf rfl rfl rfl ?_
            refine rp_lp (q := 47) rfl rfl rfl ?_
            refine rp_lil rfl rfl (by decide +kernel) (k := 0) (by decide +kernel) ?_
            refine rp_lp (q := 50) rfl rfl rfl ?_
            refine rp_lbr (a := 53) (b := 56) rfl rfl rfl ?_ ?_
            ·
              refine rp_lp (q := 55) rfl rfl rfl ?_
              exact rp_lri rfl rfl
            ·
              refine rp_lp (q := 57) rfl rfl rfl ?_
              refine rp_lp (q := 58) rfl rfl rfl ?_
              refine rp_lgf rfl rfl rfl ?_
              refine rp_lp (q := 62) rfl rfl rfl ?_
              refine rp_lil rfl rfl (by decide +kernel) (k := 0) (by decide +kernel) ?_
              refine rp_lp (q := 64) rfl rfl rfl ?_
              refine rp_lp (q := 66) (ls' := [.ref 48, .int a0, .int a1, .int a2, .int a3, .int a4, .int ((5 : Int32) * (σ7 49 0))]) rfl rfl rfl ?_
              refine rp_lp (q := 67) rfl rfl rfl ?_
              refine rp_lgf rfl rfl rfl ?_
              refine rp_lp (q := 72) rfl rfl rfl ?_
              refine rp_lp (q := 73) rfl rfl rfl ?_
              refine rp_lis rfl rfl ?_
              refine rp_lp (q := 75) rfl rfl rfl ?_
              refine rp_lgf rfl rfl rfl ?_
              refine rp_lp (q := 80) rfl rfl rfl ?_
              refine rp_lp (q := 81) rfl rfl rfl ?_
              refine rp_lp (q := 82) rfl rfl rfl ?_
              refine rp_lp (q := 83) rfl rfl rfl ?_
              refine rp_lis rfl rfl ?_
              refine rp_lp (q := 85) rfl rfl rfl ?_
              refine rp_lgf rfl rfl rfl ?_
              refine rp_lp (q := 90) rfl rfl rfl ?_
              refine rp_lp (q := 91) rfl rfl rfl ?_
              refine rp_lp (q := 92) rfl rfl rfl ?_
              refine rp_lp (q := 93) rfl rfl rfl ?_
              refine rp_lis rfl rfl ?_
              refine rp_lp (q := 95) rfl rfl rfl ?_
              refine rp_lgf rfl rfl rfl ?_
              refine rp_lp (q := 100) rfl rfl rfl ?_
              refine rp_lp (q := 101) rfl rfl rfl ?_
              refine rp_lp (q := 102) rfl rfl rfl ?_
              refine rp_lp (q := 104) rfl rfl rfl ?_
              refine rp_lis rfl rfl ?_
              refine rp_lp (q := 106) rfl rfl rfl ?_
              refine rp_lgf rfl rfl rfl ?_
              refine rp_lp (q := 111) rfl rfl rfl ?_
              refine rp_lp (q := 112) rfl rfl rfl ?_
              refine rp_lp (q := 113) rfl rfl rfl ?_
              refine rp_lp (q := 115) rfl rfl rfl ?_
              refine rp_lbr (a := 122) (b := 118) rfl rfl rfl ?_ ?_
              ·
                refine rp_lp (q := 123) rfl rfl rfl ?_
                exact rp_Le_rfl
              ·
                refine rp_lp (q := 119) rfl rfl rfl ?_
                refine rp_lp (q := 123) rfl rfl rfl ?_
                exact rp_Le_rfl
set_option maxRecDepth 20000 in
theorem D_Ref_line_123 {sc : rp_Sc} (x1 : Int32) (x2 : Int32) (x3 : Int32) (x4 : Int32) (x5 : Int32) (x6 : Int32) (y0 : Int32) (y1 : Int32) (σ : rp_Mm) : rp_Le (bif rp_ix y1 70 then RI (((rp_wr (rp_wr σ 50 y1.toNatClampNeg y0) 49 0 (((rp_wr σ 50 y1.toNatClampNeg y0) 49 0) + (1 : Int32))) 49 0) - (1 : Int32)) (rp_wr (rp_wr σ 50 y1.toNatClampNeg y0) 49 0 (((rp_wr σ 50 y1.toNatClampNeg y0) 49 0) + (1 : Int32))) else none) (EV sc (149, 0, 0, 123, [.ref 48, .int x1, .int x2, .int x3, .int x4, .int x5, .int x6], [.int y0, .int y1, .ref 50], (rp_L0, σ))) := by
  refine rp_lis rfl rfl ?_
  refine rp_lp (q := 125) rfl rfl rfl ?_
  refine rp_lgf rfl rfl rfl ?_
  refine rp_lp (q := 129) rfl rfl rfl ?_
  refine rp_lp (q := 130) rfl rfl rfl ?_
  refine rp_lil rfl rfl (by decide +kernel) (k := 0) (by decide +kernel) ?_
  refine rp_lp (q := 132) rfl rfl rfl ?_
  refine rp_lp (q := 133) rfl rfl rfl ?_
  refine rp_lsl rfl rfl (by decide +kernel) (k := 0) (by decide +kernel) ?_
  refine rp_lp (q := 135) rfl rfl rfl ?_
  refine rp_lgf rfl rfl rfl ?_
  refine rp_lp (q := 139) rfl rfl rfl ?_
  refine rp_lil rfl rfl (by decide +kernel) (k := 0) (by decide +kernel) ?_
  refine rp_lp (q := 141) rfl rfl rfl ?_
  refine rp_lp (q := 142) rfl rfl rfl ?_
  exact rp_lri rfl rfl
-- Ref_isStation
set_option maxRecDepth 20000 in
theorem D_Ref_isStation_0 {sc : rp_Sc} (a0 : Int32) (σ : rp_Mm) : rp_Le (thI (CL sc 151 [.int a0, .int 0, .int 9] σ) fun r2 σ1 => if r2 &&& 1 = r2 then RI r2 σ1 else none) (EV sc (150, 0, 0, 0, [.int a0], [], (rp_L0, σ))) := by
  refine rp_lp (q := 1) rfl rfl rfl ?_
  refine rp_lp (q := 2) rfl rfl rfl ?_
  refine rp_lp (q := 4) rfl rfl rfl ?_
  refine rp_lci (uc' := 0) (us' := 0) rfl rfl rfl rfl rfl rfl rfl rfl (fun r2 σ1 => ?_)
  exact rp_lrq rfl rfl
-- Ref_in
set_option maxRecDepth 20000 in
theorem D_Ref_in_0 {sc : rp_Sc} (a0 : Int32) (a1 : Int32) (a2 : Int32) (σ : rp_Mm) : rp_Le (if (a0 < a1 : Prop) then RI 0 σ else if (a2 < a0 : Prop) then RI 0 σ else RI 1 σ) (EV sc (151, 0, 0, 0, [.int a0, .int a1, .int a2], [], (rp_L0, σ))) := by
  refine rp_lp (q := 1) rfl rfl rfl ?_
  refine rp_lp (q := 2) rfl rfl rfl ?_
  refine rp_lbr (a := 14) (b := 5) rfl rfl rfl ?_ ?_
  ·
    refine rp_lp (q := 15) rfl rfl rfl ?_
    exact rp_lrz rfl rfl (by decide)
  ·
    refine rp_lp (q := 6) rfl rfl rfl ?_
    refine rp_lp (q := 7) rfl rfl rfl ?_
    refine rp_lbr (a := 14) (b := 10) rfl rfl rfl ?_ ?_
    ·
      refine rp_lp (q := 15) rfl rfl rfl ?_
      exact rp_lrz rfl rfl (by decide)
    ·
      refine rp_lp (q := 11) rfl rfl rfl ?_
      refine rp_lp (q := 15) rfl rfl rfl ?_
      exact rp_lrz rfl rfl (by decide)
-- Ref_train
set_option maxRecDepth 20000 in
theorem D_Ref_train_0 {sc : rp_Sc} (a0 : Int32) (a1 : Int32) (a2 : Int32) (a3 : Int32) (a4 : Int32) (a5 : Int32) (σ : rp_Mm) : rp_Le (thI (CL sc 151 [.int a0, .int 0, .int ((σ 49 0) - (1 : Int32))] σ) fun r2 σ1 => if (r2 = 0 : Prop) then EV sc (152, 0, 0, 43, [.ref 48, .int a0, .int a1, .int a2, .int a3, .int a4, .int a5, rp_U, rp_U], [], (rp_L0, σ1)) else thI (CL sc 151 [.int a2, .int 0, .int 1439] σ1) fun r4 σ3 => if (r4 = 0 : Prop) then EV sc (152, 0, 0, 43, [.ref 48, .int a0, .int a1, .int a2, .int a3, .int a4, .int a5, rp_U, rp_U], [], (rp_L0, σ3)) else thI (CL sc 151 [.int a3, .int 1, .int 900] σ3) fun r6 σ5 => if (r6 = 0 : Prop) then EV sc (152, 0, 0, 43, [.ref 48, .int a0, .int a1, .int a2, .int a3, .int a4, .int a5, rp_U, rp_U], [], (rp_L0, σ5)) else EV sc (152, 0, 0, 44, [.ref 48, .int a0, .int a1, .int a2, .int a3, .int a4, .int a5, rp_U, rp_U], [.int 1], (rp_L0, σ5))) (EV sc (152, 0, 0, 0, [.ref 48, .int a0, .int a1, .int a2, .int a3, .int a4, .int a5, rp_U, rp_U], [], (rp_L0, σ))) := by
  refine rp_lp (q := 1) rfl rfl rfl ?_
  refine rp_lp (q := 2) rfl rfl rfl ?_
  refine rp_lp (q := 3) rfl rfl rfl ?_
  refine rp_lgf rfl rfl rfl ?_
  refine rp_lp (q := 7) rfl rfl rfl ?_
  refine rp_lil rfl rfl (by decide +kernel) (k := 0) (by decide +kernel) ?_
  refine rp_lp (q := 9) rfl rfl rfl ?_
  refine rp_lp (q := 10) rfl rfl rfl ?_
  refine rp_lci (uc' := 0) (us' := 0) rfl rfl rfl rfl rfl rfl rfl rfl (fun r2 σ1 => ?_)
  refine rp_lbr (a := 43) (b := 16) rfl rfl rfl ?_ ?_
  ·
    exact rp_Le_rfl
  ·
    refine rp_lp (q := 17) rfl rfl rfl ?_
    refine rp_lp (q := 18) rfl rfl rfl ?_
    refine rp_lp (q := 21) rfl rfl rfl ?_
    refine rp_lci (uc' := 0) (us' := 0) rfl rfl rfl rfl rfl rfl rfl rfl (fun r4 σ3 => ?_)
    refine rp_lbr (a := 43) (b := 27) rfl rfl rfl ?_ ?_
    ·
      exact rp_Le_rfl
    ·
      refine rp_lp (q := 29) rfl rfl rfl ?_
      refine rp_lp (q := 30) rfl rfl rfl ?_
      refine rp_lp (q := 33) rfl rfl rfl ?_
      refine rp_lci (uc' := 0) (us' := 0) rfl rfl rfl rfl rfl rfl rfl rfl (fun r6 σ5 => ?_)
      refine rp_lbr (a := 43) (b := 39) rfl rfl rfl ?_ ?_
      ·
        exact rp_Le_rfl
      ·
        refine rp_lp (q := 40) rfl rfl rfl ?_
        refine rp_lp (q := 44) rfl rfl rfl ?_
        exact rp_Le_rfl
set_option maxRecDepth 20000 in
theorem D_Ref_train_43 {sc : rp_Sc} (x1 : Int32) (x2 : Int32) (x3 : Int32) (x4 : Int32) (x5 : Int32) (x6 : Int32) (σ : rp_Mm) : rp_Le (EV sc (152, 0, 0, 44, [.ref 48, .int x1, .int x2, .int x3, .int x4, .int x5, .int x6, rp_U, rp_U], [.int 0], (rp_L0, σ))) (EV sc (152, 0, 0, 43, [.ref 48, .int x1, .int x2, .int x3, .int x4, .int x5, .int x6, rp_U, rp_U], [], (rp_L0, σ))) := by
  refine rp_lp (q := 44) rfl rfl rfl ?_
  exact rp_Le_rfl
set_option maxRecDepth 20000 in
theorem D_Ref_train_44 {sc : rp_Sc} (x1 : Int32) (x2 : Int32) (x3 : Int32) (x4 : Int32) (x5 : Int32) (x6 : Int32) (y0 : Int32) (σ : rp_Mm) : rp_Le (if (y0 = 0 : Prop) then RI (-1) σ else thI (CL sc 151 [.int x6, .int 0, .int 9999] σ) fun r2 σ1 => if (r2 = 0 : Prop) then RI (-1) σ1 else if ((x6 - x6 / (1000 : Int32) * (1000 : Int32)) ≤ 500 : Prop) then if ((σ1 49 1) = 16 : Prop) then RI (-2) σ1 else bif rp_ix ((8 : Int32) * (σ1 49 1)) 128 then if (x2 = 0 : Prop) then EV sc (152, 0, 0, 134, [.ref 48, .int x1, .int x2, .int x3, .int x4, .int x5, .int x6, .int y0, .int ((8 : Int32) * (σ1 49 1))], [.int 1, .int ((5 : Int32) * x1), .ref 50, .int (((8 : Int32) * (σ1 49 1)) + (1 : Int32)), .ref 51], (rp_L0, rp_wr σ1 51 ((8 : Int32) * (σ1 49 1)).toNatClampNeg x1)) else EV sc (152, 0, 0, 134, [.ref 48, .int x1, .int x2, .int x3, .int x4, .int x5, .int x6, .int y0, .int ((8 : Int32) * (σ1 49 1))], [.int 0, .int ((5 : Int32) * x1), .ref 50, .int (((8 : Int32) * (σ1 49 1)) + (1 : Int32)), .ref 51], (rp_L0, rp_wr σ1 51 ((8 : Int32) * (σ1 49 1)).toNatClampNeg x1)) else none else RI (-1) σ1) (EV sc (152, 0, 0, 44, [.ref 48, .int x1, .int x2, .int x3, .int x4, .int x5, .int x6, rp_U, rp_U], [.int y0], (rp_L0, σ))) := by
  refine rp_lp (q := 46) (ls' := [.ref 48, .int x1, .int x2, .int x3, .int x4, .int x5, .int x6, .int y0, rp_U]) rfl rfl rfl ?_
  refine rp_lp (q := 48) rfl rfl rfl ?_
  refine rp_lbr (a := 75) (b := 51) rfl rfl rfl ?_ ?_
  ·
    refine rp_lp (q := 76) rfl rfl rfl ?_
    exact rp_lri rfl rfl
  ·
    refine rp_lp (q := 53) rfl rfl rfl ?_
    refine rp_lp (q := 54) rfl rfl rfl ?_
    refine rp_lp (q := 57) rfl rfl rfl ?_
    refine rp_lci (uc' := 0) (us' := 0) rfl rfl rfl rfl rfl rfl rfl rfl (fun r2 σ1 => ?_)
    refine rp_lbr (a := 75) (b := 63) rfl rfl rfl ?_ ?_
    ·
      refine rp_lp (q := 76) rfl rfl rfl ?_
      exact rp_lri rfl rfl
    ·
      refine rp_lp (q := 65) rfl rfl rfl ?_
      refine rp_lp (q := 68) rfl rfl rfl ?_
      refine rp_lrm rfl (by decide) ?_
      refine rp_lp (q := 72) rfl rfl rfl ?_
      refine rp_lbr (a := 77) (b := 75) rfl rfl rfl ?_ ?_
      ·
        refine rp_lp (q := 78) rfl rfl rfl ?_
        refine rp_lgf rfl rfl rfl ?_
        refine rp_lp (q := 82) rfl rfl rfl ?_
        refine rp_lil rfl rfl (by decide +kernel) (k := 1) (by decide +kernel) ?_
        refine rp_lp (q := 85) rfl rfl rfl ?_
        refine rp_lbr (a := 88) (b := 91) rfl rfl rfl ?_ ?_
        ·
          refine rp_lp (q := 90) rfl rfl rfl ?_
          exact rp_lri rfl rfl
        ·
          refine rp_lp (q := 93) rfl rfl rfl ?_
          refine rp_lp (q := 94) rfl rfl rfl ?_
          refine rp_lgf rfl rfl rfl ?_
          refine rp_lp (q := 98) rfl rfl rfl ?_
          refine rp_lil rfl rfl (by decide +kernel) (k := 1) (by decide +kernel) ?_
          refine rp_lp (q := 100) rfl rfl rfl ?_
          refine rp_lp (q := 102) (ls' := [.ref 48, .int x1, .int x2, .int x3, .int x4, .int x5, .int x6, .int y0, .int ((8 : Int32) * (σ1 49 1))]) rfl rfl rfl ?_
          refine rp_lp (q := 103) rfl rfl rfl ?_
          refine rp_lgf rfl rfl rfl ?_
          refine rp_lp (q := 108) rfl rfl rfl ?_
          refine rp_lp (q := 109) rfl rfl rfl ?_
          refine rp_lis rfl rfl ?_
          refine rp_lp (q := 111) rfl rfl rfl ?_
          refine rp_lgf rfl rfl rfl ?_
          refine rp_lp (q := 116) rfl rfl rfl ?_
          refine rp_lp (q := 117) rfl rfl rfl ?_
          refine rp_lp (q := 118) rfl rfl rfl ?_
          refine rp_lp (q := 119) rfl rfl rfl ?_
          refine rp_lgf rfl rfl rfl ?_
          refine rp_lp (q := 123) rfl rfl rfl ?_
          refine rp_lp (q := 124) rfl rfl rfl ?_
          refine rp_lp (q := 125) rfl rfl rfl ?_
          refine rp_lp (q := 126) rfl rfl rfl ?_
          refine rp_lbr (a := 133) (b := 129) rfl rfl rfl ?_ ?_
          ·
            refine rp_lp (q := 134) rfl rfl rfl ?_
            exact rp_Le_rfl
          ·
            refine rp_lp (q := 130) rfl rfl rfl ?_
            refine rp_lp (q := 134) rfl rfl rfl ?_
            exact rp_Le_rfl
      ·
        refine rp_lp (q := 76) rfl rfl rfl ?_
        exact rp_lri rfl rfl
set_option maxRecDepth 20000 in
theorem D_Ref_train_134 {sc : rp_Sc} (x1 : Int32) (x2 : Int32) (x3 : Int32) (x4 : Int32) (x5 : Int32) (x6 : Int32) (x7 : Int32) (x8 : Int32) (y0 : Int32) (y1 : Int32) (y3 : Int32) (σ : rp_Mm) : rp_Le (bif rp_ix (y1 + y0) 70 then bif rp_ix y3 128 then if (x2 = 0 : Prop) then EV sc (152, 0, 0, 161, [.ref 48, .int x1, .int x2, .int x3, .int x4, .int x5, .int x6, .int x7, .int x8], [.int 0, .int ((5 : Int32) * x1), .ref 50, .int (x8 + (2 : Int32)), .ref 51], (rp_L0, rp_wr σ 51 y3.toNatClampNeg (σ 50 (y1 + y0).toNatClampNeg))) else EV sc (152, 0, 0, 161, [.ref 48, .int x1, .int x2, .int x3, .int x4, .int x5, .int x6, .int x7, .int x8], [.int 1, .int ((5 : Int32) * x1), .ref 50, .int (x8 + (2 : Int32)), .ref 51], (rp_L0, rp_wr σ 51 y3.toNatClampNeg (σ 50 (y1 + y0).toNatClampNeg))) else none else none) (EV sc (152, 0, 0, 134, [.ref 48, .int x1, .int x2, .int x3, .int x4, .int x5, .int x6, .int x7, .int x8], [.int y0, .int y1, .ref 50, .int y3, .ref 51], (rp_L0, σ))) := by
  refine rp_lp (q := 135) rfl rfl rfl ?_
  refine rp_lia rfl rfl ?_
  refine rp_lis rfl rfl ?_
  refine rp_lp (q := 138) rfl rfl rfl ?_
  refine rp_lgf rfl rfl rfl ?_
  refine rp_lp (q := 143) rfl rfl rfl ?_
  refine rp_lp (q := 144) rfl rfl rfl ?_
  refine rp_lp (q := 145) rfl rfl rfl ?_
  refine rp_lp (q := 146) rfl rfl rfl ?_
  refine rp_lgf rfl rfl rfl ?_
  refine rp_lp (q := 150) rfl rfl rfl ?_
  refine rp_lp (q := 151) rfl rfl rfl ?_
  refine rp_lp (q := 152) rfl rfl rfl ?_
  refine rp_lp (q := 153) rfl rfl rfl ?_
  refine rp_lbr (a := 160) (b := 156) rfl rfl rfl ?_ ?_
  ·
    refine rp_lp (q := 161) rfl rfl rfl ?_
    exact rp_Le_rfl
  ·
    refine rp_lp (q := 157) rfl rfl rfl ?_
    refine rp_lp (q := 161) rfl rfl rfl ?_
    exact rp_Le_rfl
set_option maxRecDepth 20000 in
theorem D_Ref_train_161 {sc : rp_Sc} (x1 : Int32) (x2 : Int32) (x3 : Int32) (x4 : Int32) (x5 : Int32) (x6 : Int32) (x7 : Int32) (x8 : Int32) (y0 : Int32) (y1 : Int32) (y3 : Int32) (σ : rp_Mm) : rp_Le (bif rp_ix (y1 + y0) 70 then bif rp_ix y3 128 then bif rp_ix (x8 + (3 : Int32)) 128 then bif rp_ix (x8 + (4 : Int32)) 128 then if (x5 = 0 : Prop) then EV sc (152, 0, 0, 203, [.ref 48, .int x1, .int x2, .int x3, .int x4, .int x5, .int x6, .int x7, .int x8], [.int 0, .int (x8 + (5 : Int32)), .ref 51], (rp_L0, rp_wr (rp_wr (rp_wr σ 51 y3.toNatClampNeg (σ 50 (y1 + y0).toNatClampNeg)) 51 (x8 + (3 : Int32)).toNatClampNeg x3) 51 (x8 + (4 : Int32)).toNatClampNeg x4)) else EV sc (152, 0, 0, 203, [.ref 48, .int x1, .int x2, .int x3, .int x4, .int x5, .int x6, .int x7, .int x8], [.int 1, .int (x8 + (5 : Int32)), .ref 51], (rp_L0, rp_wr (rp_wr (rp_wr σ 51 y3.toNatClampNeg (σ 50 (y1 + y0).toNatClampNeg)) 51 (x8 + (3 : Int32)).toNatClampNeg x3) 51 (x8 + (4 : Int32)).toNatClampNeg x4)) else none else none else none else none) (EV sc (152, 0, 0, 161, [.ref 48, .int x1, .int x2, .int x3, .int x4, .int x5, .int x6, .int x7, .int x8], [.int y0, .int y1, .ref 50, .int y3, .ref 51], (rp_L0, σ))) := by
  refine rp_lp (q := 162) rfl rfl rfl ?_
  refine rp_lia rfl rfl ?_
  refine rp_lis rfl rfl ?_
  refine rp_lp (q := 165) rfl rfl rfl ?_
  refine rp_lgf rfl rfl rfl ?_
  refine rp_lp (q := 170) rfl rfl rfl ?_
  refine rp_lp (q := 171) rfl rfl rfl ?_
  refine rp_lp (q := 172) rfl rfl rfl ?_
  refine rp_lp (q := 173) rfl rfl rfl ?_
  refine rp_lis rfl rfl ?_
  refine rp_lp (q := 175) rfl rfl rfl ?_
  refine rp_lgf rfl rfl rfl ?_
  refine rp_lp (q := 180) rfl rfl rfl ?_
  refine rp_lp (q := 181) rfl rfl rfl ?_
  refine rp_lp (q := 182) rfl rfl rfl ?_
  refine rp_lp (q := 184) rfl rfl rfl ?_
  refine rp_lis rfl rfl ?_
  refine rp_lp (q := 186) rfl rfl rfl ?_
  refine rp_lgf rfl rfl rfl ?_
  refine rp_lp (q := 191) rfl rfl rfl ?_
  refine rp_lp (q := 192) rfl rfl rfl ?_
  refine rp_lp (q := 193) rfl rfl rfl ?_
  refine rp_lp (q := 195) rfl rfl rfl ?_
  refine rp_lbr (a := 202) (b := 198) rfl rfl rfl ?_ ?_
  ·
    refine rp_lp (q := 203) rfl rfl rfl ?_
    exact rp_Le_rfl
  ·
    refine rp_lp (q := 199) rfl rfl rfl ?_
    refine rp_lp (q := 203) rfl rfl rfl ?_
    exact rp_Le_rfl
set_option maxRecDepth 20000 in
theorem D_Ref_train_203 {sc : rp_Sc} (x1 : Int32) (x2 : Int32) (x3 : Int32) (x4 : Int32) (x5 : Int32) (x6 : Int32) (x7 : Int32) (x8 : Int32) (y0 : Int32) (y1 : Int32) (σ : rp_Mm) : rp_Le (bif rp_ix y1 128 then bif rp_ix (x8 + (6 : Int32)) 128 then bif rp_ix (x8 + (7 : Int32)) 128 then RI (((rp_wr (rp_wr (rp_wr (rp_wr σ 51 y1.toNatClampNeg y0) 51 (x8 + (6 : Int32)).toNatClampNeg (x6 - x6 / (1000 : Int32) * (1000 : Int32))) 51 (x8 + (7 : Int32)).toNatClampNeg (x6 / (1000 : Int32))) 49 1 (((rp_wr (rp_wr (rp_wr σ 51 y1.toNatClampNeg y0) 51 (x8 + (6 : Int32)).toNatClampNeg (x6 - x6 / (1000 : Int32) * (1000 : Int32))) 51 (x8 + (7 : Int32)).toNatClampNeg (x6 / (1000 : Int32))) 49 1) + (1 : Int32))) 49 1) - (1 : Int32)) (rp_wr (rp_wr (rp_wr (rp_wr σ 51 y1.toNatClampNeg y0) 51 (x8 + (6 : Int32)).toNatClampNeg (x6 - x6 / (1000 : Int32) * (1000 : Int32))) 51 (x8 + (7 : Int32)).toNatClampNeg (x6 / (1000 : Int32))) 49 1 (((rp_wr (rp_wr (rp_wr σ 51 y1.toNatClampNeg y0) 51 (x8 + (6 : Int32)).toNatClampNeg (x6 - x6 / (1000 : Int32) * (1000 : Int32))) 51 (x8 + (7 : Int32)).toNatClampNeg (x6 / (1000 : Int32))) 49 1) + (1 : Int32))) else none else none else none) (EV sc (152, 0, 0, 203, [.ref 48, .int x1, .int x2, .int x3, .int x4, .int x5, .int x6, .int x7, .int x8], [.int y0, .int y1, .ref 51], (rp_L0, σ))) := by
  refine rp_lis rfl rfl ?_
  refine rp_lp (q := 205) rfl rfl rfl ?_
  refine rp_lgf rfl rfl rfl ?_
  refine rp_lp (q := 210) rfl rfl rfl ?_
  refine rp_lp (q := 212) rfl rfl rfl ?_
  refine rp_lp (q := 213) rfl rfl rfl ?_
  refine rp_lp (q := 215) rfl rfl rfl ?_
  refine rp_lp (q := 218) rfl rfl rfl ?_
  refine rp_lrm rfl (by decide) ?_
  refine rp_lis rfl rfl ?_
  refine rp_lp (q := 221) rfl rfl rfl ?_
  refine rp_lgf rfl rfl rfl ?_
  refine rp_lp (q := 226) rfl rfl rfl ?_
  refine rp_lp (q := 228) rfl rfl rfl ?_
  refine rp_lp (q := 229) rfl rfl rfl ?_
  refine rp_lp (q := 231) rfl rfl rfl ?_
  refine rp_lp (q := 234) rfl rfl rfl ?_
  refine rp_ldv rfl (by decide) ?_
  refine rp_lis rfl rfl ?_
  refine rp_lp (q := 237) rfl rfl rfl ?_
  refine rp_lgf rfl rfl rfl ?_
  refine rp_lp (q := 241) rfl rfl rfl ?_
  refine rp_lp (q := 242) rfl rfl rfl ?_
  refine rp_lil rfl rfl (by decide +kernel) (k := 1) (by decide +kernel) ?_
  refine rp_lp (q := 244) rfl rfl rfl ?_
  refine rp_lp (q := 245) rfl rfl rfl ?_
  refine rp_lsl rfl rfl (by decide +kernel) (k := 1) (by decide +kernel) ?_
  refine rp_lp (q := 247) rfl rfl rfl ?_
  refine rp_lgf rfl rfl rfl ?_
  refine rp_lp (q := 251) rfl rfl rfl ?_
  refine rp_lil rfl rfl (by decide +kernel) (k := 1) (by decide +kernel) ?_
  refine rp_lp (q := 253) rfl rfl rfl ?_
  refine rp_lp (q := 254) rfl rfl rfl ?_
  exact rp_lri rfl rfl
-- Ref_of
set_option maxRecDepth 20000 in
theorem D_Ref_of_0 {sc : rp_Sc} (a0 : Int32) (a1 : Int32) (σ : rp_Mm) : rp_Le (thI (CL sc 154 [.ref 48, .int a0] σ) fun r2 σ1 => if (r2 = 0 : Prop) then RI (-1) σ1 else thI (CL sc 151 [.int a1, .int 0, .int 8] σ1) fun r4 σ3 => if (r4 = 0 : Prop) then RI (-1) σ3 else if (a1 = 8 : Prop) then thI (CL sc 155 [.ref 48, .int a0] σ3) fun r6 σ5 => if (r6 = 0 : Prop) then RI 0 σ5 else RI 1 σ5 else bif rp_ix (((8 : Int32) * a0) + a1) 128 then RI (σ3 51 (((8 : Int32) * a0) + a1).toNatClampNeg) σ3 else none) (EV sc (153, 0, 0, 0, [.ref 48, .int a0, .int a1], [], (rp_L0, σ))) := by
  refine rp_lp (q := 1) rfl rfl rfl ?_
  refine rp_lp (q := 2) rfl rfl rfl ?_
  refine rp_lci (uc' := 0) (us' := 0) rfl (rp_rcv rfl) rfl rfl rfl rfl rfl rfl (fun r2 σ1 => ?_)
  refine rp_lbr (a := 18) (b := 8) rfl rfl rfl ?_ ?_
  ·
    refine rp_lp (q := 19) rfl rfl rfl ?_
    exact rp_lri rfl rfl
  ·
    refine rp_lp (q := 9) rfl rfl rfl ?_
    refine rp_lp (q := 10) rfl rfl rfl ?_
    refine rp_lp (q := 12) rfl rfl rfl ?_
    refine rp_lci (uc' := 0) (us' := 0) rfl rfl rfl rfl rfl rfl rfl rfl (fun r4 σ3 => ?_)
    refine rp_lbr (a := 18) (b := 20) rfl rfl rfl ?_ ?_
    ·
      refine rp_lp (q := 19) rfl rfl rfl ?_
      exact rp_lri rfl rfl
    ·
      refine rp_lp (q := 21) rfl rfl rfl ?_
      refine rp_lp (q := 23) rfl rfl rfl ?_
      refine rp_lbr (a := 26) (b := 42) rfl rfl rfl ?_ ?_
      ·
        refine rp_lp (q := 27) rfl rfl rfl ?_
        refine rp_lp (q := 28) rfl rfl rfl ?_
        refine rp_lci (uc' := 0) (us' := 0) rfl (rp_rcv rfl) rfl rfl rfl rfl rfl rfl (fun r6 σ5 => ?_)
        refine rp_lbr (a := 38) (b := 34) rfl rfl rfl ?_ ?_
        ·
          refine rp_lp (q := 39) rfl rfl rfl ?_
          refine rp_lp (q := 53) rfl rfl rfl ?_
          exact rp_lri rfl rfl
        ·
          refine rp_lp (q := 35) rfl rfl rfl ?_
          refine rp_lp (q := 53) rfl rfl rfl ?_
          exact rp_lri rfl rfl
      ·
        refine rp_lp (q := 43) rfl rfl rfl ?_
        refine rp_lgf rfl rfl rfl ?_
        refine rp_lp (q := 48) rfl rfl rfl ?_
        refine rp_lp (q := 49) rfl rfl rfl ?_
        refine rp_lp (q := 50) rfl rfl rfl ?_
        refine rp_lp (q := 51) rfl rfl rfl ?_
        refine rp_lp (q := 52) rfl rfl rfl ?_
        refine rp_lia rfl rfl ?_
        exact rp_lri rfl rfl
-- Ref_isTrain
set_option maxRecDepth 20000 in
theorem D_Ref_isTrain_0 {sc : rp_Sc} (a0 : Int32) (σ : rp_Mm) : rp_Le (thI (CL sc 151 [.int a0, .int 0, .int ((σ 49 1) - (1 : Int32))] σ) fun r2 σ1 => if r2 &&& 1 = r2 then RI r2 σ1 else none) (EV sc (154, 0, 0, 0, [.ref 48, .int a0], [], (rp_L0, σ))) := by
  refine rp_lp (q := 1) rfl rfl rfl ?_
  refine rp_lp (q := 2) rfl rfl rfl ?_
  refine rp_lp (q := 3) rfl rfl rfl ?_
  refine rp_lgf rfl rfl rfl ?_
  refine rp_lp (q := 7) rfl rfl rfl ?_
  refine rp_lil rfl rfl (by decide +kernel) (k := 1) (by decide +kernel) ?_
  refine rp_lp (q := 9) rfl rfl rfl ?_
  refine rp_lp (q := 10) rfl rfl rfl ?_
  refine rp_lci (uc' := 0) (us' := 0) rfl rfl rfl rfl rfl rfl rfl rfl (fun r2 σ1 => ?_)
  exact rp_lrq rfl rfl
-- Ref_isOver
set_option maxRecDepth 20000 in
theorem D_Ref_isOver_0 {sc : rp_Sc} (a0 : Int32) (σ : rp_Mm) : rp_Le (bif rp_ix (((8 : Int32) * a0) + (3 : Int32)) 128 then bif rp_ix (((8 : Int32) * a0) + (4 : Int32)) 128 then if (((σ 51 (((8 : Int32) * a0) + (3 : Int32)).toNatClampNeg) + (σ 51 (((8 : Int32) * a0) + (4 : Int32)).toNatClampNeg)) < 1440 : Prop) then RI 0 σ else RI 1 σ else none else none) (EV sc (155, 0, 0, 0, [.ref 48, .int a0], [], (rp_L0, σ))) := by
  refine rp_lp (q := 1) rfl rfl rfl ?_
  refine rp_lgf rfl rfl rfl ?_
  refine rp_lp (q := 6) rfl rfl rfl ?_
  refine rp_lp (q := 7) rfl rfl rfl ?_
  refine rp_lp (q := 8) rfl rfl rfl ?_
  refine rp_lp (q := 9) rfl rfl rfl ?_
  refine rp_lp (q := 10) rfl rfl rfl ?_
  refine rp_lia rfl rfl ?_
  refine rp_lp (q := 12) rfl rfl rfl ?_
  refine rp_lgf rfl rfl rfl ?_
  refine rp_lp (q := 17) rfl rfl rfl ?_
  refine rp_lp (q := 18) rfl rfl rfl ?_
  refine rp_lp (q := 19) rfl rfl rfl ?_
  refine rp_lp (q := 20) rfl rfl rfl ?_
  refine rp_lp (q := 21) rfl rfl rfl ?_
  refine rp_lia rfl rfl ?_
  refine rp_lp (q := 23) rfl rfl rfl ?_
  refine rp_lp (q := 26) rfl rfl rfl ?_
  refine rp_lbr (a := 33) (b := 29) rfl rfl rfl ?_ ?_
  ·
    refine rp_lp (q := 34) rfl rfl rfl ?_
    exact rp_lrz rfl rfl (by decide)
  ·
    refine rp_lp (q := 30) rfl rfl rfl ?_
    refine rp_lp (q := 34) rfl rfl rfl ?_
    exact rp_lrz rfl rfl (by decide)
-- Ref_days
set_option maxRecDepth 20000 in
theorem D_Ref_days_0 {sc : rp_Sc} (a0 : Int32) (σ : rp_Mm) : rp_Le (thI (CL sc 151 [.int a0, .int 1, .int 20] σ) fun r2 σ1 => if (r2 = 0 : Prop) then RI (-1) σ1 else if (((σ1 49 6) + a0) ≤ 120 : Prop) then RI ((rp_wr σ1 49 6 ((σ1 49 6) + a0)) 49 6) (rp_wr σ1 49 6 ((σ1 49 6) + a0)) else RI (-4) σ1) (EV sc (156, 0, 0, 0, [.ref 48, .int a0], [], (rp_L0, σ))) := by
  refine rp_lp (q := 1) rfl rfl rfl ?_
  refine rp_lp (q := 2) rfl rfl rfl ?_
  refine rp_lp (q := 4) rfl rfl rfl ?_
  refine rp_lci (uc' := 0) (us' := 0) rfl rfl rfl rfl rfl rfl rfl rfl (fun r2 σ1 => ?_)
  refine rp_lbr (a := 10) (b := 12) rfl rfl rfl ?_ ?_
  ·
    refine rp_lp (q := 11) rfl rfl rfl ?_
    exact rp_lri rfl rfl
  ·
    refine rp_lp (q := 13) rfl rfl rfl ?_
    refine rp_lgf rfl rfl rfl ?_
    refine rp_lp (q := 18) rfl rfl rfl ?_
    refine rp_lil rfl rfl (by decide +kernel) (k := 6) (by decide +kernel) ?_
    refine rp_lp (q := 20) rfl rfl rfl ?_
    refine rp_lp (q := 21) rfl rfl rfl ?_
    refine rp_lp (q := 23) rfl rfl rfl ?_
    refine rp_lbr (a := 29) (b := 26) rfl rfl rfl ?_ ?_
    ·
      refine rp_lp (q := 30) rfl rfl rfl ?_
      refine rp_lgf rfl rfl rfl ?_
      refine rp_lp (q := 35) rfl rfl rfl ?_
      refine rp_lp (q := 36) rfl rfl rfl ?_
      refine rp_lil rfl rfl (by decide +kernel) (k := 6) (by decide +kernel) ?_
      refine rp_lp (q := 38) rfl rfl rfl ?_
      refine rp_lp (q := 39) rfl rfl rfl ?_
      refine rp_lsl rfl rfl (by decide +kernel) (k := 6) (by decide +kernel) ?_
      refine rp_lp (q := 41) rfl rfl rfl ?_
      refine rp_lgf rfl rfl rfl ?_
      refine rp_lp (q := 46) rfl rfl rfl ?_
      refine rp_lil rfl rfl (by decide +kernel) (k := 6) (by decide +kernel) ?_
      exact rp_lri rfl rfl
    ·
      refine rp_lp (q := 28) rfl rfl rfl ?_
      exact rp_lri rfl rfl
-- Ref_feed
set_option maxRecDepth 20000 in
theorem D_Ref_feed_0 {sc : rp_Sc} (a0 : Int64) (a1 : Int32) (σ : rp_Mm) : rp_Le (thI (CL sc 151 [.int a1, .int 1, .int 8] σ) fun r2 σ1 => if (r2 = 0 : Prop) then RI (-1) σ1 else if (((σ1 48 9) + a1) ≤ 300 : Prop) then EV sc (157, 0, 0, 30, [.ref 48, .long a0, rp_U, .int a1, .int 0], [], (rp_L0, σ1)) else RI (-2) σ1) (EV sc (157, 0, 0, 0, [.ref 48, .long a0, rp_U, .int a1, rp_U], [], (rp_L0, σ))) := by
  refine rp_lp (q := 1) rfl rfl rfl ?_
  refine rp_lp (q := 2) rfl rfl rfl ?_
  refine rp_lp (q := 4) rfl rfl rfl ?_
  refine rp_lci (uc' := 0) (us' := 0) rfl rfl rfl rfl rfl rfl rfl rfl (fun r2 σ1 => ?_)
  refine rp_lbr (a := 10) (b := 12) rfl rfl rfl ?_ ?_
  ·
    refine rp_lp (q := 11) rfl rfl rfl ?_
    exact rp_lri rfl rfl
  ·
    refine rp_lp (q := 13) rfl rfl rfl ?_
    refine rp_lgm rfl rfl rfl ?_
    refine rp_lp (q := 17) rfl rfl rfl ?_
    refine rp_lp (q := 18) rfl rfl rfl ?_
    refine rp_lp (q := 21) rfl rfl rfl ?_
    refine rp_lbr (a := 27) (b := 24) rfl rfl rfl ?_ ?_
    ·
      refine rp_lp (q := 28) rfl rfl rfl ?_
      refine rp_lp (q := 30) (ls' := [.ref 48, .long a0, rp_U, .int a1, .int 0]) rfl rfl rfl ?_
      exact rp_Le_rfl
    ·
      refine rp_lp (q := 26) rfl rfl rfl ?_
      exact rp_lri rfl rfl
set_option maxRecDepth 20000 in
theorem D_Ref_feed_30 {sc : rp_Sc} (x1 : Int64) (x3 : Int32) (x4 : Int32) (σ : rp_Mm) : rp_Le (if (x3 ≤ x4 : Prop) then RI (σ 48 9) σ else bif rp_ix (σ 48 9) 300 then EV sc (157, 0, 0, 30, [.ref 48, .long x1, rp_U, .int x3, .int (x4 + 1)], [], (rp_L0, rp_wr (rp_wr σ 57 (σ 48 9).toNatClampNeg ((((x1.toUInt64 >>> (((8 : Int32) * x4).toInt64.toUInt64 &&& Int64.toUInt64 63)).toInt64) &&& 255).toInt32)) 48 9 (((rp_wr σ 57 (σ 48 9).toNatClampNeg ((((x1.toUInt64 >>> (((8 : Int32) * x4).toInt64.toUInt64 &&& Int64.toUInt64 63)).toInt64) &&& 255).toInt32)) 48 9) + (1 : Int32)))) else none) (EV sc (157, 0, 0, 30, [.ref 48, .long x1, rp_U, .int x3, .int x4], [], (rp_L0, σ))) := by
  refine rp_lp (q := 32) rfl rfl rfl ?_
  refine rp_lp (q := 33) rfl rfl rfl ?_
  refine rp_lbr (a := 73) (b := 36) rfl rfl rfl ?_ ?_
  ·
    refine rp_lp (q := 74) rfl rfl rfl ?_
    refine rp_lgm rfl rfl rfl ?_
    exact rp_lri rfl rfl
  ·
    refine rp_lp (q := 37) rfl rfl rfl ?_
    refine rp_lgf rfl rfl rfl ?_
    refine rp_lp (q := 41) rfl rfl rfl ?_
    refine rp_lgm rfl rfl rfl ?_
    refine rp_lp (q := 45) rfl rfl rfl ?_
    refine rp_lp (q := 47) rfl rfl rfl ?_
    refine rp_lp (q := 49) rfl rfl rfl ?_
    refine rp_lp (q := 50) rfl rfl rfl ?_
    refine rp_lp (q := 51) rfl rfl rfl ?_
    refine rp_lp (q := 54) rfl rfl rfl ?_
    refine rp_lp (q := 55) rfl rfl rfl ?_
    refine rp_lp (q := 56) rfl rfl rfl ?_
    refine rp_lis rfl rfl ?_
    refine rp_lp (q := 58) rfl rfl rfl ?_
    refine rp_lp (q := 59) rfl rfl rfl ?_
    refine rp_lgm rfl rfl rfl ?_
    refine rp_lp (q := 63) rfl rfl rfl ?_
    refine rp_lp (q := 64) rfl rfl rfl ?_
    refine rp_lpm rfl rfl rfl rfl ?_
    refine rp_lp (q := 70) (ls' := [.ref 48, .long x1, rp_U, .int x3, .int (x4 + 1)]) rfl rfl rfl ?_
    refine rp_lp (q := 30) rfl rfl rfl ?_
    exact rp_Le_rfl
-- Ref_read
set_option maxRecDepth 20000 in
theorem D_Ref_read_0 {sc : rp_Sc} (a0 : Int32) (σ : rp_Mm) : rp_Le (thI (CL sc 159 [.int a0] σ) fun r2 σ1 => if (r2 = 0 : Prop) then RI (-1) (rp_wr σ1 48 9 0) else EV sc (158, 0, 0, 19, [.ref 48, .int a0, .int 36, .int 0, rp_U], [], (rp_L0, σ1))) (EV sc (158, 0, 0, 0, [.ref 48, .int a0, rp_U, rp_U, rp_U], [], (rp_L0, σ))) := by
  refine rp_lp (q := 1) rfl rfl rfl ?_
  refine rp_lci (uc' := 0) (us' := 0) rfl rfl rfl rfl rfl rfl rfl rfl (fun r2 σ1 => ?_)
  refine rp_lbr (a := 7) (b := 14) rfl rfl rfl ?_ ?_
  ·
    refine rp_lp (q := 8) rfl rfl rfl ?_
    refine rp_lp (q := 9) rfl rfl rfl ?_
    refine rp_lpm rfl rfl rfl rfl ?_
    refine rp_lp (q := 13) rfl rfl rfl ?_
    exact rp_lri rfl rfl
  ·
    refine rp_lp (q := 16) rfl rfl rfl ?_
    refine rp_lp (q := 17) (ls' := [.ref 48, .int a0, .int 36, rp_U, rp_U]) rfl rfl rfl ?_
    refine rp_lp (q := 18) rfl rfl rfl ?_
    refine rp_lp (q := 19) (ls' := [.ref 48, .int a0, .int 36, .int 0, rp_U]) rfl rfl rfl ?_
    exact rp_Le_rfl
set_option maxRecDepth 20000 in
theorem D_Ref_read_19 {sc : rp_Sc} (x1 : Int32) (x2 : Int32) (x3 : Int32) (σ : rp_Mm) : rp_Le (if (12 ≤ x3 : Prop) then thV (CL sc 160 [.ref 48] (rp_wr (rp_wr (rp_wr σ 48 14 (-1)) 48 15 0) 48 12 0)) fun σ1 => EV sc (158, 0, 0, 82, [.ref 48, .int x1, .int x2, .int 0, rp_U], [], (rp_L0, σ1)) else if (x3 = 5 : Prop) then EV sc (158, 0, 0, 54, [.ref 48, .int x1, .int x2, .int x3, rp_U], [.int 24, .int (x2 + x3), .ref 52], (rp_L0, σ)) else if (x3 = 8 : Prop) then EV sc (158, 0, 0, 54, [.ref 48, .int x1, .int x2, .int x3, rp_U], [.int 100, .int (x2 + x3), .ref 52], (rp_L0, σ)) else EV sc (158, 0, 0, 54, [.ref 48, .int x1, .int x2, .int x3, rp_U], [.int 0, .int (x2 + x3), .ref 52], (rp_L0, σ))) (EV sc (158, 0, 0, 19, [.ref 48, .int x1, .int x2, .int x3, rp_U], [], (rp_L0, σ))) := by
  refine rp_lp (q := 20) rfl rfl rfl ?_
  refine rp_lp (q := 22) rfl rfl rfl ?_
  refine rp_lbr (a := 61) (b := 25) rfl rfl rfl ?_ ?_
  ·
    refine rp_lp (q := 62) rfl rfl rfl ?_
    refine rp_lp (q := 63) rfl rfl rfl ?_
    refine rp_lpm rfl rfl rfl rfl ?_
    refine rp_lp (q := 67) rfl rfl rfl ?_
    refine rp_lp (q := 68) rfl rfl rfl ?_
    refine rp_lpm rfl rfl rfl rfl ?_
    refine rp_lp (q := 72) rfl rfl rfl ?_
    refine rp_lp (q := 73) rfl rfl rfl ?_
    refine rp_lpm rfl rfl rfl rfl ?_
    refine rp_lp (q := 77) rfl rfl rfl ?_
    refine rp_lcv (uc' := 0) (us' := 0) rfl (rp_rcv rfl) rfl rfl rfl rfl rfl rfl (fun σ1 => ?_)
    refine rp_lp (q := 81) rfl rfl rfl ?_
    refine rp_lp (q := 82) (ls' := [.ref 48, .int x1, .int x2, .int 0, rp_U]) rfl rfl rfl ?_
    exact rp_Le_rfl
  ·
    refine rp_lp (q := 26) rfl rfl rfl ?_
    refine rp_lgf rfl rfl rfl ?_
    refine rp_lp (q := 30) rfl rfl rfl ?_
    refine rp_lp (q := 31) rfl rfl rfl ?_
    refine rp_lp (q := 32) rfl rfl rfl ?_
    refine rp_lp (q := 33) rfl rfl rfl ?_
    refine rp_lp (q := 34) rfl rfl rfl ?_
    refine rp_lbr (a := 37) (b := 42) rfl rfl rfl ?_ ?_
    ·
      refine rp_lp (q := 39) rfl rfl rfl ?_
      refine rp_lp (q := 54) rfl rfl rfl ?_
      exact rp_Le_rfl
    ·
      refine rp_lp (q := 43) rfl rfl rfl ?_
      refine rp_lp (q := 45) rfl rfl rfl ?_
      refine rp_lbr (a := 48) (b := 53) rfl rfl rfl ?_ ?_
      ·
        refine rp_lp (q := 50) rfl rfl rfl ?_
        refine rp_lp (q := 54) rfl rfl rfl ?_
        exact rp_Le_rfl
      ·
        refine rp_lp (q := 54) rfl rfl rfl ?_
        exact rp_Le_rfl
set_option maxRecDepth 20000 in
theorem D_Ref_read_82 {sc : rp_Sc} (x1 : Int32) (x2 : Int32) (x3 : Int32) (σ : rp_Mm) : rp_Le (if ((σ 48 10) = 0 : Prop) then EV sc (158, 0, 0, 106, [.ref 48, .int x1, .int x2, .int x3, rp_U], [], (rp_L0, σ)) else thI (CL sc 163 [.ref 48] σ) fun r2 σ1 => if (r2 = 0 : Prop) then EV sc (158, 0, 0, 106, [.ref 48, .int x1, .int x2, .int x3, rp_U], [], (rp_L0, σ1)) else thV (CL sc 164 [.ref 48] σ1) fun σ3 => EV sc (158, 0, 0, 82, [.ref 48, .int x1, .int x2, .int (x3 + 1), rp_U], [], (rp_L0, σ3))) (EV sc (158, 0, 0, 82, [.ref 48, .int x1, .int x2, .int x3, rp_U], [], (rp_L0, σ))) := by
  refine rp_lp (q := 83) rfl rfl rfl ?_
  refine rp_lgm rfl rfl rfl ?_
  refine rp_lbr (a := 106) (b := 89) rfl rfl rfl ?_ ?_
  ·
    exact rp_Le_rfl
  ·
    refine rp_lp (q := 90) rfl rfl rfl ?_
    refine rp_lci (uc' := 0) (us' := 0) rfl (rp_rcv rfl) rfl rfl rfl rfl rfl rfl (fun r2 σ1 => ?_)
    refine rp_lbr (a := 106) (b := 96) rfl rfl rfl ?_ ?_
    ·
      exact rp_Le_rfl
    ·
      refine rp_lp (q := 97) rfl rfl rfl ?_
      refine rp_lcv (uc' := 0) (us' := 0) rfl (rp_rcv rfl) rfl rfl rfl rfl rfl rfl (fun σ3 => ?_)
      refine rp_lp (q := 103) (ls' := [.ref 48, .int x1, .int x2, .int (x3 + 1), rp_U]) rfl rfl rfl ?_
      refine rp_lp (q := 82) rfl rfl rfl ?_
      exact rp_Le_rfl
set_option maxRecDepth 20000 in
theorem D_Ref_read_54 {sc : rp_Sc} (x1 : Int32) (x2 : Int32) (x3 : Int32) (y0 : Int32) (y1 : Int32) (σ : rp_Mm) : rp_Le (bif rp_ix y1 48 then EV sc (158, 0, 0, 19, [.ref 48, .int x1, .int x2, .int (x3 + 1), rp_U], [], (rp_L0, rp_wr σ 52 y1.toNatClampNeg y0)) else none) (EV sc (158, 0, 0, 54, [.ref 48, .int x1, .int x2, .int x3, rp_U], [.int y0, .int y1, .ref 52], (rp_L0, σ))) := by
  refine rp_lis rfl rfl ?_
  refine rp_lp (q := 58) (ls' := [.ref 48, .int x1, .int x2, .int (x3 + 1), rp_U]) rfl rfl rfl ?_
  refine rp_lp (q := 19) rfl rfl rfl ?_
  exact rp_Le_rfl
set_option maxRecDepth 20000 in
theorem D_Ref_read_106 {sc : rp_Sc} (x1 : Int32) (x2 : Int32) (x3 : Int32) (σ : rp_Mm) : rp_Le (thI (CL sc 163 [.ref 48] σ) fun r2 σ1 => if (r2 = 0 : Prop) then EV sc (158, 0, 0, 141, [.ref 48, .int x1, .int x2, .int x3, rp_U], [], (rp_L0, σ1)) else if (((σ1 48 15) &&& (1 : Int32)) = 0 : Prop) then EV sc (158, 0, 0, 133, [.ref 48, .int x1, .int x2, .int x3, rp_U], [], (rp_L0, σ1)) else if ((((σ1 48 15) >>> ((2 : Int32) &&& 31)) &&& (1 : Int32)) = 0 : Prop) then EV sc (158, 0, 0, 133, [.ref 48, .int x1, .int x2, .int x3, rp_U], [], (rp_L0, σ1)) else EV sc (158, 0, 0, 141, [.ref 48, .int x1, .int x2, .int x3, rp_U], [], (rp_L0, σ1))) (EV sc (158, 0, 0, 106, [.ref 48, .int x1, .int x2, .int x3, rp_U], [], (rp_L0, σ))) := by
  refine rp_lp (q := 107) rfl rfl rfl ?_
  refine rp_lci (uc' := 0) (us' := 0) rfl (rp_rcv rfl) rfl rfl rfl rfl rfl rfl (fun r2 σ1 => ?_)
  refine rp_lbr (a := 141) (b := 113) rfl rfl rfl ?_ ?_
  ·
    exact rp_Le_rfl
  ·
    refine rp_lp (q := 114) rfl rfl rfl ?_
    refine rp_lgm rfl rfl rfl ?_
    refine rp_lp (q := 118) rfl rfl rfl ?_
    refine rp_lp (q := 119) rfl rfl rfl ?_
    refine rp_lbr (a := 133) (b := 122) rfl rfl rfl ?_ ?_
    ·
      exact rp_Le_rfl
    ·
      refine rp_lp (q := 123) rfl rfl rfl ?_
      refine rp_lgm rfl rfl rfl ?_
      refine rp_lp (q := 127) rfl rfl rfl ?_
      refine rp_lp (q := 128) rfl rfl rfl ?_
      refine rp_lp (q := 129) rfl rfl rfl ?_
      refine rp_lp (q := 130) rfl rfl rfl ?_
      refine rp_lbr (a := 133) (b := 141) rfl rfl rfl ?_ ?_
      ·
        exact rp_Le_rfl
      ·
        exact rp_Le_rfl
set_option maxRecDepth 20000 in
theorem D_Ref_read_141 {sc : rp_Sc} (x1 : Int32) (x2 : Int32) (x3 : Int32) (σ : rp_Mm) : rp_Le (thI (CL sc 163 [.ref 48] (rp_wr σ 48 9 0)) fun r2 σ1 => if (r2 = 0 : Prop) then RI (((-100) : Int32) - (σ1 48 14)) σ1 else bif rp_ix (x2 + (3 : Int32)) 48 then if ((σ1 52 (x2 + (3 : Int32)).toNatClampNeg) = 0 : Prop) then EV sc (158, 0, 0, 192, [.ref 48, .int x1, .int x2, .int x3, rp_U], [.int 31, .int (x2 + (3 : Int32)), .ref 52], (rp_L0, σ1)) else bif rp_ix (x2 + (3 : Int32)) 48 then EV sc (158, 0, 0, 192, [.ref 48, .int x1, .int x2, .int x3, rp_U], [.int (σ1 52 (x2 + (3 : Int32)).toNatClampNeg), .int (x2 + (3 : Int32)), .ref 52], (rp_L0, σ1)) else none else none) (EV sc (158, 0, 0, 141, [.ref 48, .int x1, .int x2, .int x3, rp_U], [], (rp_L0, σ))) := by
  refine rp_lp (q := 142) rfl rfl rfl ?_
  refine rp_lp (q := 143) rfl rfl rfl ?_
  refine rp_lpm rfl rfl rfl rfl ?_
  refine rp_lp (q := 147) rfl rfl rfl ?_
  refine rp_lci (uc' := 0) (us' := 0) rfl (rp_rcv rfl) rfl rfl rfl rfl rfl rfl (fun r2 σ1 => ?_)
  refine rp_lbr (a := 153) (b := 161) rfl rfl rfl ?_ ?_
  ·
    refine rp_lp (q := 155) rfl rfl rfl ?_
    refine rp_lp (q := 156) rfl rfl rfl ?_
    refine rp_lgm rfl rfl rfl ?_
    refine rp_lp (q := 160) rfl rfl rfl ?_
    exact rp_lri rfl rfl
  ·
    refine rp_lp (q := 162) rfl rfl rfl ?_
    refine rp_lgf rfl rfl rfl ?_
    refine rp_lp (q := 166) rfl rfl rfl ?_
    refine rp_lp (q := 167) rfl rfl rfl ?_
    refine rp_lp (q := 168) rfl rfl rfl ?_
    refine rp_lp (q := 169) rfl rfl rfl ?_
    refine rp_lgf rfl rfl rfl ?_
    refine rp_lp (q := 173) rfl rfl rfl ?_
    refine rp_lp (q := 174) rfl rfl rfl ?_
    refine rp_lp (q := 175) rfl rfl rfl ?_
    refine rp_lia rfl rfl ?_
    refine rp_lbr (a := 179) (b := 184) rfl rfl rfl ?_ ?_
    ·
      refine rp_lp (q := 181) rfl rfl rfl ?_
      refine rp_lp (q := 192) rfl rfl rfl ?_
      exact rp_Le_rfl
    ·
      refine rp_lp (q := 185) rfl rfl rfl ?_
      refine rp_lgf rfl rfl rfl ?_
      refine rp_lp (q := 189) rfl rfl rfl ?_
      refine rp_lp (q := 190) rfl rfl rfl ?_
      refine rp_lp (q := 191) rfl rfl rfl ?_
      refine rp_lia rfl rfl ?_
      exact rp_Le_rfl
set_option maxRecDepth 20000 in
theorem D_Ref_read_133 {sc : rp_Sc} (x1 : Int32) (x2 : Int32) (x3 : Int32) (σ : rp_Mm) : rp_Le (EV sc (158, 0, 0, 141, [.ref 48, .int x1, .int x2, .int x3, rp_U], [], (rp_L0, rp_wr σ 48 14 (σ 48 9)))) (EV sc (158, 0, 0, 133, [.ref 48, .int x1, .int x2, .int x3, rp_U], [], (rp_L0, σ))) := by
  refine rp_lp (q := 134) rfl rfl rfl ?_
  refine rp_lp (q := 135) rfl rfl rfl ?_
  refine rp_lgm rfl rfl rfl ?_
  refine rp_lpm rfl rfl rfl rfl ?_
  exact rp_Le_rfl
set_option maxRecDepth 20000 in
theorem D_Ref_read_192 {sc : rp_Sc} (x1 : Int32) (x2 : Int32) (x3 : Int32) (y0 : Int32) (y1 : Int32) (σ : rp_Mm) : rp_Le (bif rp_ix y1 48 then bif rp_ix (x2 + (11 : Int32)) 48 then EV sc (158, 0, 0, 206, [.ref 48, .int x1, .int x2, .int x3, .int 0], [], (rp_L0, rp_wr (rp_wr σ 52 y1.toNatClampNeg y0) 52 (x2 + (11 : Int32)).toNatClampNeg 1)) else none else none) (EV sc (158, 0, 0, 192, [.ref 48, .int x1, .int x2, .int x3, rp_U], [.int y0, .int y1, .ref 52], (rp_L0, σ))) := by
  refine rp_lis rfl rfl ?_
  refine rp_lp (q := 194) rfl rfl rfl ?_
  refine rp_lgf rfl rfl rfl ?_
  refine rp_lp (q := 198) rfl rfl rfl ?_
  refine rp_lp (q := 200) rfl rfl rfl ?_
  refine rp_lp (q := 201) rfl rfl rfl ?_
  refine rp_lp (q := 202) rfl rfl rfl ?_
  refine rp_lis rfl rfl ?_
  refine rp_lp (q := 204) rfl rfl rfl ?_
  refine rp_lp (q := 206) (ls' := [.ref 48, .int x1, .int x2, .int x3, .int 0]) rfl rfl rfl ?_
  exact rp_Le_rfl
set_option maxRecDepth 20000 in
theorem D_Ref_read_206 {sc : rp_Sc} (x1 : Int32) (x2 : Int32) (x3 : Int32) (x4 : Int32) (σ : rp_Mm) : rp_Le (if (12 ≤ x4 : Prop) then RI x3 σ else bif rp_ix (x2 + x4) 48 then bif rp_ix (((12 : Int32) * x1) + x4) 48 then EV sc (158, 0, 0, 206, [.ref 48, .int x1, .int x2, .int x3, .int (x4 + 1)], [], (rp_L0, rp_wr σ 52 (((12 : Int32) * x1) + x4).toNatClampNeg (σ 52 (x2 + x4).toNatClampNeg))) else none else none) (EV sc (158, 0, 0, 206, [.ref 48, .int x1, .int x2, .int x3, .int x4], [], (rp_L0, σ))) := by
  refine rp_lp (q := 208) rfl rfl rfl ?_
  refine rp_lp (q := 210) rfl rfl rfl ?_
  refine rp_lbr (a := 240) (b := 213) rfl rfl rfl ?_ ?_
  ·
    refine rp_lp (q := 241) rfl rfl rfl ?_
    exact rp_lri rfl rfl
  ·
    refine rp_lp (q := 214) rfl rfl rfl ?_
    refine rp_lgf rfl rfl rfl ?_
    refine rp_lp (q := 219) rfl rfl rfl ?_
    refine rp_lp (q := 220) rfl rfl rfl ?_
    refine rp_lp (q := 221) rfl rfl rfl ?_
    refine rp_lp (q := 223) rfl rfl rfl ?_
    refine rp_lp (q := 224) rfl rfl rfl ?_
    refine rp_lp (q := 225) rfl rfl rfl ?_
    refine rp_lgf rfl rfl rfl ?_
    refine rp_lp (q := 229) rfl rfl rfl ?_
    refine rp_lp (q := 231) rfl rfl rfl ?_
    refine rp_lp (q := 232) rfl rfl rfl ?_
    refine rp_lia rfl rfl ?_
    refine rp_lis rfl rfl ?_
    refine rp_lp (q := 237) (ls' := [.ref 48, .int x1, .int x2, .int x3, .int (x4 + 1)]) rfl rfl rfl ?_
    refine rp_lp (q := 206) rfl rfl rfl ?_
    exact rp_Le_rfl
-- Ref_isLaw
set_option maxRecDepth 20000 in
theorem D_Ref_isLaw_0 {sc : rp_Sc} (a0 : Int32) (σ : rp_Mm) : rp_Le (thI (CL sc 151 [.int a0, .int 0, .int 2] σ) fun r2 σ1 => if r2 &&& 1 = r2 then RI r2 σ1 else none) (EV sc (159, 0, 0, 0, [.int a0], [], (rp_L0, σ))) := by
  refine rp_lp (q := 1) rfl rfl rfl ?_
  refine rp_lp (q := 2) rfl rfl rfl ?_
  refine rp_lp (q := 3) rfl rfl rfl ?_
  refine rp_lci (uc' := 0) (us' := 0) rfl rfl rfl rfl rfl rfl rfl rfl (fun r2 σ1 => ?_)
  exact rp_lrq rfl rfl
-- Ref_advance
set_option maxRecDepth 20000 in
theorem D_Ref_advance_0 {sc : rp_Sc} (σ : rp_Mm) : rp_Le (EV sc (160, 0, 0, 5, [.ref 48, .int (σ 48 12)], [], (rp_L0, σ))) (EV sc (160, 0, 0, 0, [.ref 48, rp_U], [], (rp_L0, σ))) := by
  refine rp_lp (q := 1) rfl rfl rfl ?_
  refine rp_lgm rfl rfl rfl ?_
  refine rp_lp (q := 5) (ls' := [.ref 48, .int (σ 48 12)]) rfl rfl rfl ?_
  exact rp_Le_rfl
set_option maxRecDepth 20000 in
theorem D_Ref_advance_5 {sc : rp_Sc} (x1 : Int32) (σ : rp_Mm) : rp_Le (if ((σ 48 9) ≤ x1 : Prop) then EV sc (160, 0, 0, 30, [.ref 48, .int x1], [], (rp_L0, σ)) else bif rp_ix x1 300 then if ((σ 57 x1.toNatClampNeg) = 32 : Prop) then EV sc (160, 0, 0, 5, [.ref 48, .int (x1 + 1)], [], (rp_L0, σ)) else EV sc (160, 0, 0, 30, [.ref 48, .int x1], [], (rp_L0, σ)) else none) (EV sc (160, 0, 0, 5, [.ref 48, .int x1], [], (rp_L0, σ))) := by
  refine rp_lp (q := 6) rfl rfl rfl ?_
  refine rp_lp (q := 7) rfl rfl rfl ?_
  refine rp_lgm rfl rfl rfl ?_
  refine rp_lbr (a := 30) (b := 13) rfl rfl rfl ?_ ?_
  ·
    exact rp_Le_rfl
  ·
    refine rp_lp (q := 14) rfl rfl rfl ?_
    refine rp_lgf rfl rfl rfl ?_
    refine rp_lp (q := 18) rfl rfl rfl ?_
    refine rp_lia rfl rfl ?_
    refine rp_lp (q := 21) rfl rfl rfl ?_
    refine rp_lbr (a := 24) (b := 30) rfl rfl rfl ?_ ?_
    ·
      refine rp_lp (q := 27) (ls' := [.ref 48, .int (x1 + 1)]) rfl rfl rfl ?_
      refine rp_lp (q := 5) rfl rfl rfl ?_
      exact rp_Le_rfl
    ·
      exact rp_Le_rfl
set_option maxRecDepth 20000 in
theorem D_Ref_advance_30 {sc : rp_Sc} (x1 : Int32) (σ : rp_Mm) : rp_Le (if (x1 = ((rp_wr (rp_wr σ 48 11 x1) 48 13 0) 48 9) : Prop) then RV (rp_wr (rp_wr (rp_wr (rp_wr σ 48 11 x1) 48 13 0) 48 10 0) 48 12 x1) else bif rp_ix x1 300 then thI (CL sc 161 [.int ((rp_wr (rp_wr σ 48 11 x1) 48 13 0) 57 x1.toNatClampNeg)] (rp_wr (rp_wr σ 48 11 x1) 48 13 0)) fun r2 σ1 => if (r2 = 0 : Prop) then bif rp_ix x1 300 then thI (CL sc 162 [.int (σ1 57 x1.toNatClampNeg)] σ1) fun r4 σ3 => if (r4 = 0 : Prop) then bif rp_ix x1 300 then RV (rp_wr (rp_wr (rp_wr σ3 48 10 3) 48 13 ((rp_wr σ3 48 10 3) 57 x1.toNatClampNeg)) 48 12 (x1 + 1)) else none else EV sc (160, 0, 0, 178, [.ref 48, .int x1], [], (rp_L0, rp_wr σ3 48 10 2)) else none else EV sc (160, 0, 0, 73, [.ref 48, .int x1], [], (rp_L0, rp_wr σ1 48 10 1)) else none) (EV sc (160, 0, 0, 30, [.ref 48, .int x1], [], (rp_L0, σ))) := by
  refine rp_lp (q := 31) rfl rfl rfl ?_
  refine rp_lp (q := 32) rfl rfl rfl ?_
  refine rp_lpm rfl rfl rfl rfl ?_
  refine rp_lp (q := 36) rfl rfl rfl ?_
  refine rp_lp (q := 37) rfl rfl rfl ?_
  refine rp_lpm rfl rfl rfl rfl ?_
  refine rp_lp (q := 41) rfl rfl rfl ?_
  refine rp_lp (q := 42) rfl rfl rfl ?_
  refine rp_lgm rfl rfl rfl ?_
  refine rp_lbr (a := 48) (b := 56) rfl rfl rfl ?_ ?_
  ·
    refine rp_lp (q := 49) rfl rfl rfl ?_
    refine rp_lp (q := 50) rfl rfl rfl ?_
    refine rp_lpm rfl rfl rfl rfl ?_
    refine rp_lp (q := 260) rfl rfl rfl ?_
    refine rp_lp (q := 261) rfl rfl rfl ?_
    refine rp_lp (q := 262) rfl rfl rfl ?_
    refine rp_lpm rfl rfl rfl rfl ?_
    exact rp_lrv rfl rfl
  ·
    refine rp_lp (q := 57) rfl rfl rfl ?_
    refine rp_lgf rfl rfl rfl ?_
    refine rp_lp (q := 61) rfl rfl rfl ?_
    refine rp_lia rfl rfl ?_
    refine rp_lci (uc' := 0) (us' := 0) rfl rfl rfl rfl rfl rfl rfl rfl (fun r2 σ1 => ?_)
    refine rp_lbr (a := 161) (b := 68) rfl rfl rfl ?_ ?_
    ·
      refine rp_lp (q := 162) rfl rfl rfl ?_
      refine rp_lgf rfl rfl rfl ?_
      refine rp_lp (q := 166) rfl rfl rfl ?_
      refine rp_lia rfl rfl ?_
      refine rp_lci (uc' := 0) (us' := 0) rfl rfl rfl rfl rfl rfl rfl rfl (fun r4 σ3 => ?_)
      refine rp_lbr (a := 242) (b := 173) rfl rfl rfl ?_ ?_
      ·
        refine rp_lp (q := 243) rfl rfl rfl ?_
        refine rp_lp (q := 244) rfl rfl rfl ?_
        refine rp_lpm rfl rfl rfl rfl ?_
        refine rp_lp (q := 248) rfl rfl rfl ?_
        refine rp_lp (q := 249) rfl rfl rfl ?_
        refine rp_lgf rfl rfl rfl ?_
        refine rp_lp (q := 253) rfl rfl rfl ?_
        refine rp_lia rfl rfl ?_
        refine rp_lpm rfl rfl rfl rfl ?_
        refine rp_lp (q := 260) (ls' := [.ref 48, .int (x1 + 1)]) rfl rfl rfl ?_
        refine rp_lp (q := 261) rfl rfl rfl ?_
        refine rp_lp (q := 262) rfl rfl rfl ?_
        refine rp_lpm rfl rfl rfl rfl ?_
        exact rp_lrv rfl rfl
      ·
        refine rp_lp (q := 174) rfl rfl rfl ?_
        refine rp_lp (q := 175) rfl rfl rfl ?_
        refine rp_lpm rfl rfl rfl rfl ?_
        exact rp_Le_rfl
    ·
      refine rp_lp (q := 69) rfl rfl rfl ?_
      refine rp_lp (q := 70) rfl rfl rfl ?_
      refine rp_lpm rfl rfl rfl rfl ?_
      exact rp_Le_rfl
set_option maxRecDepth 20000 in
theorem D_Ref_advance_178 {sc : rp_Sc} (x1 : Int32) (σ : rp_Mm) : rp_Le (if ((σ 48 9) ≤ x1 : Prop) then RV (rp_wr σ 48 12 x1) else bif rp_ix x1 300 then thI (CL sc 162 [.int (σ 57 x1.toNatClampNeg)] σ) fun r2 σ1 => if (r2 = 0 : Prop) then RV (rp_wr σ1 48 12 x1) else if (3 ≤ (x1 - (σ1 48 11)) : Prop) then EV sc (160, 0, 0, 233, [.ref 48, .int x1], [.int (σ1 48 13), .ref 48], (rp_L0, σ1)) else bif rp_ix x1 300 then EV sc (160, 0, 0, 233, [.ref 48, .int x1], [.int ((((10 : Int32) * (σ1 48 13)) + (σ1 57 x1.toNatClampNeg)) - (48 : Int32)), .ref 48], (rp_L0, σ1)) else none else none) (EV sc (160, 0, 0, 178, [.ref 48, .int x1], [], (rp_L0, σ))) := by
  refine rp_lp (q := 179) rfl rfl rfl ?_
  refine rp_lp (q := 180) rfl rfl rfl ?_
  refine rp_lgm rfl rfl rfl ?_
  refine rp_lbr (a := 260) (b := 186) rfl rfl rfl ?_ ?_
  ·
    refine rp_lp (q := 261) rfl rfl rfl ?_
    refine rp_lp (q := 262) rfl rfl rfl ?_
    refine rp_lpm rfl rfl rfl rfl ?_
    exact rp_lrv rfl rfl
  ·
    refine rp_lp (q := 187) rfl rfl rfl ?_
    refine rp_lgf rfl rfl rfl ?_
    refine rp_lp (q := 191) rfl rfl rfl ?_
    refine rp_lia rfl rfl ?_
    refine rp_lci (uc' := 0) (us' := 0) rfl rfl rfl rfl rfl rfl rfl rfl (fun r2 σ1 => ?_)
    refine rp_lbr (a := 260) (b := 198) rfl rfl rfl ?_ ?_
    ·
      refine rp_lp (q := 261) rfl rfl rfl ?_
      refine rp_lp (q := 262) rfl rfl rfl ?_
      refine rp_lpm rfl rfl rfl rfl ?_
      exact rp_lrv rfl rfl
    ·
      refine rp_lp (q := 199) rfl rfl rfl ?_
      refine rp_lp (q := 200) rfl rfl rfl ?_
      refine rp_lp (q := 201) rfl rfl rfl ?_
      refine rp_lgm rfl rfl rfl ?_
      refine rp_lp (q := 205) rfl rfl rfl ?_
      refine rp_lp (q := 206) rfl rfl rfl ?_
      refine rp_lbr (a := 229) (b := 209) rfl rfl rfl ?_ ?_
      ·
        refine rp_lp (q := 230) rfl rfl rfl ?_
        refine rp_lgm rfl rfl rfl ?_
        exact rp_Le_rfl
      ·
        refine rp_lp (q := 211) rfl rfl rfl ?_
        refine rp_lp (q := 212) rfl rfl rfl ?_
        refine rp_lgm rfl rfl rfl ?_
        refine rp_lp (q := 216) rfl rfl rfl ?_
        refine rp_lp (q := 217) rfl rfl rfl ?_
        refine rp_lgf rfl rfl rfl ?_
        refine rp_lp (q := 221) rfl rfl rfl ?_
        refine rp_lia rfl rfl ?_
        refine rp_lp (q := 223) rfl rfl rfl ?_
        refine rp_lp (q := 225) rfl rfl rfl ?_
        refine rp_lp (q := 226) rfl rfl rfl ?_
        refine rp_lp (q := 233) rfl rfl rfl ?_
        exact rp_Le_rfl
set_option maxRecDepth 20000 in
theorem D_Ref_advance_73 {sc : rp_Sc} (x1 : Int32) (σ : rp_Mm) : rp_Le (if ((σ 48 9) ≤ x1 : Prop) then EV sc (160, 0, 0, 135, [.ref 48, .int x1], [], (rp_L0, σ)) else bif rp_ix x1 300 then thI (CL sc 161 [.int (σ 57 x1.toNatClampNeg)] σ) fun r2 σ1 => if (r2 = 0 : Prop) then EV sc (160, 0, 0, 135, [.ref 48, .int x1], [], (rp_L0, σ1)) else if (6 ≤ (x1 - (σ1 48 11)) : Prop) then EV sc (160, 0, 0, 126, [.ref 48, .int x1], [.int 0, .ref 48], (rp_L0, σ1)) else bif rp_ix x1 300 then EV sc (160, 0, 0, 126, [.ref 48, .int x1], [.int ((((27 : Int32) * (σ1 48 13)) + (σ1 57 x1.toNatClampNeg)) - (96 : Int32)), .ref 48], (rp_L0, σ1)) else none else none) (EV sc (160, 0, 0, 73, [.ref 48, .int x1], [], (rp_L0, σ))) := by
  refine rp_lp (q := 74) rfl rfl rfl ?_
  refine rp_lp (q := 75) rfl rfl rfl ?_
  refine rp_lgm rfl rfl rfl ?_
  refine rp_lbr (a := 135) (b := 81) rfl rfl rfl ?_ ?_
  ·
    exact rp_Le_rfl
  ·
    refine rp_lp (q := 82) rfl rfl rfl ?_
    refine rp_lgf rfl rfl rfl ?_
    refine rp_lp (q := 86) rfl rfl rfl ?_
    refine rp_lia rfl rfl ?_
    refine rp_lci (uc' := 0) (us' := 0) rfl rfl rfl rfl rfl rfl rfl rfl (fun r2 σ1 => ?_)
    refine rp_lbr (a := 135) (b := 93) rfl rfl rfl ?_ ?_
    ·
      exact rp_Le_rfl
    ·
      refine rp_lp (q := 94) rfl rfl rfl ?_
      refine rp_lp (q := 95) rfl rfl rfl ?_
      refine rp_lp (q := 96) rfl rfl rfl ?_
      refine rp_lgm rfl rfl rfl ?_
      refine rp_lp (q := 100) rfl rfl rfl ?_
      refine rp_lp (q := 102) rfl rfl rfl ?_
      refine rp_lbr (a := 125) (b := 105) rfl rfl rfl ?_ ?_
      ·
        refine rp_lp (q := 126) rfl rfl rfl ?_
        exact rp_Le_rfl
      ·
        refine rp_lp (q := 107) rfl rfl rfl ?_
        refine rp_lp (q := 108) rfl rfl rfl ?_
        refine rp_lgm rfl rfl rfl ?_
        refine rp_lp (q := 112) rfl rfl rfl ?_
        refine rp_lp (q := 113) rfl rfl rfl ?_
        refine rp_lgf rfl rfl rfl ?_
        refine rp_lp (q := 117) rfl rfl rfl ?_
        refine rp_lia rfl rfl ?_
        refine rp_lp (q := 119) rfl rfl rfl ?_
        refine rp_lp (q := 121) rfl rfl rfl ?_
        refine rp_lp (q := 122) rfl rfl rfl ?_
        refine rp_lp (q := 126) rfl rfl rfl ?_
        exact rp_Le_rfl
set_option maxRecDepth 20000 in
theorem D_Ref_advance_233 {sc : rp_Sc} (x1 : Int32) (y0 : Int32) (σ : rp_Mm) : rp_Le (EV sc (160, 0, 0, 178, [.ref 48, .int (x1 + 1)], [], (rp_L0, rp_wr σ 48 13 y0))) (EV sc (160, 0, 0, 233, [.ref 48, .int x1], [.int y0, .ref 48], (rp_L0, σ))) := by
  refine rp_lpm rfl rfl rfl rfl ?_
  refine rp_lp (q := 239) (ls' := [.ref 48, .int (x1 + 1)]) rfl rfl rfl ?_
  refine rp_lp (q := 178) rfl rfl rfl ?_
  exact rp_Le_rfl
set_option maxRecDepth 20000 in
theorem D_Ref_advance_135 {sc : rp_Sc} (x1 : Int32) (σ : rp_Mm) : rp_Le (if ((x1 - (σ 48 11)) ≤ 6 : Prop) then RV (rp_wr (rp_wr σ 48 13 (σ 48 13)) 48 12 x1) else RV (rp_wr (rp_wr σ 48 13 0) 48 12 x1)) (EV sc (160, 0, 0, 135, [.ref 48, .int x1], [], (rp_L0, σ))) := by
  refine rp_lp (q := 136) rfl rfl rfl ?_
  refine rp_lp (q := 137) rfl rfl rfl ?_
  refine rp_lp (q := 138) rfl rfl rfl ?_
  refine rp_lgm rfl rfl rfl ?_
  refine rp_lp (q := 142) rfl rfl rfl ?_
  refine rp_lp (q := 144) rfl rfl rfl ?_
  refine rp_lbr (a := 151) (b := 147) rfl rfl rfl ?_ ?_
  ·
    refine rp_lp (q := 152) rfl rfl rfl ?_
    refine rp_lgm rfl rfl rfl ?_
    refine rp_lpm rfl rfl rfl rfl ?_
    refine rp_lp (q := 260) rfl rfl rfl ?_
    refine rp_lp (q := 261) rfl rfl rfl ?_
    refine rp_lp (q := 262) rfl rfl rfl ?_
    refine rp_lpm rfl rfl rfl rfl ?_
    exact rp_lrv rfl rfl
  ·
    refine rp_lp (q := 148) rfl rfl rfl ?_
    refine rp_lp (q := 155) rfl rfl rfl ?_
    refine rp_lpm rfl rfl rfl rfl ?_
    refine rp_lp (q := 260) rfl rfl rfl ?_
    refine rp_lp (q := 261) rfl rfl rfl ?_
    refine rp_lp (q := 262) rfl rfl rfl ?_
    refine rp_lpm rfl rfl rfl rfl ?_
    exact rp_lrv rfl rfl
set_option maxRecDepth 20000 in
theorem D_Ref_advance_126 {sc : rp_Sc} (x1 : Int32) (y0 : Int32) (σ : rp_Mm) : rp_Le (EV sc (160, 0, 0, 73, [.ref 48, .int (x1 + 1)], [], (rp_L0, rp_wr σ 48 13 y0))) (EV sc (160, 0, 0, 126, [.ref 48, .int x1], [.int y0, .ref 48], (rp_L0, σ))) := by
  refine rp_lpm rfl rfl rfl rfl ?_
  refine rp_lp (q := 132) (ls' := [.ref 48, .int (x1 + 1)]) rfl rfl rfl ?_
  refine rp_lp (q := 73) rfl rfl rfl ?_
  exact rp_Le_rfl
-- Ref_isLetter
set_option maxRecDepth 20000 in
theorem D_Ref_isLetter_0 {sc : rp_Sc} (a0 : Int32) (σ : rp_Mm) : rp_Le (if (a0 < 97 : Prop) then RI 0 σ else if (122 < a0 : Prop) then RI 0 σ else RI 1 σ) (EV sc (161, 0, 0, 0, [.int a0], [], (rp_L0, σ))) := by
  refine rp_lp (q := 1) rfl rfl rfl ?_
  refine rp_lp (q := 3) rfl rfl rfl ?_
  refine rp_lbr (a := 16) (b := 6) rfl rfl rfl ?_ ?_
  ·
    refine rp_lp (q := 17) rfl rfl rfl ?_
    exact rp_lrz rfl rfl (by decide)
  ·
    refine rp_lp (q := 7) rfl rfl rfl ?_
    refine rp_lp (q := 9) rfl rfl rfl ?_
    refine rp_lbr (a := 16) (b := 12) rfl rfl rfl ?_ ?_
    ·
      refine rp_lp (q := 17) rfl rfl rfl ?_
      exact rp_lrz rfl rfl (by decide)
    ·
      refine rp_lp (q := 13) rfl rfl rfl ?_
      refine rp_lp (q := 17) rfl rfl rfl ?_
      exact rp_lrz rfl rfl (by decide)
-- Ref_isDigit
set_option maxRecDepth 20000 in
theorem D_Ref_isDigit_0 {sc : rp_Sc} (a0 : Int32) (σ : rp_Mm) : rp_Le (if (a0 < 48 : Prop) then RI 0 σ else if (57 < a0 : Prop) then RI 0 σ else RI 1 σ) (EV sc (162, 0, 0, 0, [.int a0], [], (rp_L0, σ))) := by
  refine rp_lp (q := 1) rfl rfl rfl ?_
  refine rp_lp (q := 3) rfl rfl rfl ?_
  refine rp_lbr (a := 16) (b := 6) rfl rfl rfl ?_ ?_
  ·
    refine rp_lp (q := 17) rfl rfl rfl ?_
    exact rp_lrz rfl rfl (by decide)
  ·
    refine rp_lp (q := 7) rfl rfl rfl ?_
    refine rp_lp (q := 9) rfl rfl rfl ?_
    refine rp_lbr (a := 16) (b := 12) rfl rfl rfl ?_ ?_
    ·
      refine rp_lp (q := 17) rfl rfl rfl ?_
      exact rp_lrz rfl rfl (by decide)
    ·
      refine rp_lp (q := 13) rfl rfl rfl ?_
      refine rp_lp (q := 17) rfl rfl rfl ?_
      exact rp_lrz rfl rfl (by decide)
-- Ref_isGood
set_option maxRecDepth 20000 in
theorem D_Ref_isGood_0 {sc : rp_Sc} (σ : rp_Mm) : rp_Le (if (0 ≤ (σ 48 14) : Prop) then RI 0 σ else RI 1 σ) (EV sc (163, 0, 0, 0, [.ref 48], [], (rp_L0, σ))) := by
  refine rp_lp (q := 1) rfl rfl rfl ?_
  refine rp_lgm rfl rfl rfl ?_
  refine rp_lbr (a := 11) (b := 7) rfl rfl rfl ?_ ?_
  ·
    refine rp_lp (q := 12) rfl rfl rfl ?_
    exact rp_lrz rfl rfl (by decide)
  ·
    refine rp_lp (q := 8) rfl rfl rfl ?_
    refine rp_lp (q := 12) rfl rfl rfl ?_
    exact rp_lrz rfl rfl (by decide)
-- Ref_wantRule
set_option maxRecDepth 20000 in
theorem D_Ref_wantRule_0 {sc : rp_Sc} (σ : rp_Mm) : rp_Le (if ((σ 48 10) = 1 : Prop) then thI (CL sc 165 [.ref 48, .int (σ 48 13)] σ) fun r2 σ1 => EV sc (164, 0, 0, 23, [.ref 48, .int 36, rp_U], [.int r2], (rp_L0, σ1)) else EV sc (164, 0, 0, 23, [.ref 48, .int 36, rp_U], [.int (-1)], (rp_L0, σ))) (EV sc (164, 0, 0, 0, [.ref 48, rp_U, rp_U], [], (rp_L0, σ))) := by
  refine rp_lp (q := 2) rfl rfl rfl ?_
  refine rp_lp (q := 3) (ls' := [.ref 48, .int 36, rp_U]) rfl rfl rfl ?_
  refine rp_lp (q := 4) rfl rfl rfl ?_
  refine rp_lgm rfl rfl rfl ?_
  refine rp_lp (q := 8) rfl rfl rfl ?_
  refine rp_lbr (a := 11) (b := 22) rfl rfl rfl ?_ ?_
  ·
    refine rp_lp (q := 12) rfl rfl rfl ?_
    refine rp_lp (q := 13) rfl rfl rfl ?_
    refine rp_lgm rfl rfl rfl ?_
    refine rp_lci (uc' := 0) (us' := 0) rfl (rp_rcv rfl) rfl rfl rfl rfl rfl rfl (fun r2 σ1 => ?_)
    refine rp_lp (q := 23) rfl rfl rfl ?_
    exact rp_Le_rfl
  ·
    refine rp_lp (q := 23) rfl rfl rfl ?_
    exact rp_Le_rfl
set_option maxRecDepth 20000 in
theorem D_Ref_wantRule_23 {sc : rp_Sc} (x1 : Int32) (y0 : Int32) (σ : rp_Mm) : rp_Le (if (y0 < 0 : Prop) then EV sc (164, 0, 0, 50, [.ref 48, .int x1, .int y0], [], (rp_L0, σ)) else if (y0 = 3 : Prop) then EV sc (164, 0, 0, 55, [.ref 48, .int x1, .int y0], [], (rp_L0, σ)) else if (y0 = 4 : Prop) then EV sc (164, 0, 0, 55, [.ref 48, .int x1, .int y0], [], (rp_L0, σ)) else if ((((σ 48 15) >>> (y0 &&& 31)) &&& (1 : Int32)) = 1 : Prop) then EV sc (164, 0, 0, 50, [.ref 48, .int x1, .int y0], [], (rp_L0, σ)) else EV sc (164, 0, 0, 55, [.ref 48, .int x1, .int y0], [], (rp_L0, σ))) (EV sc (164, 0, 0, 23, [.ref 48, .int x1, rp_U], [.int y0], (rp_L0, σ))) := by
  refine rp_lp (q := 24) (ls' := [.ref 48, .int x1, .int y0]) rfl rfl rfl ?_
  refine rp_lp (q := 25) rfl rfl rfl ?_
  refine rp_lbr (a := 50) (b := 28) rfl rfl rfl ?_ ?_
  ·
    exact rp_Le_rfl
  ·
    refine rp_lp (q := 29) rfl rfl rfl ?_
    refine rp_lp (q := 30) rfl rfl rfl ?_
    refine rp_lbr (a := 55) (b := 33) rfl rfl rfl ?_ ?_
    ·
      exact rp_Le_rfl
    ·
      refine rp_lp (q := 34) rfl rfl rfl ?_
      refine rp_lp (q := 35) rfl rfl rfl ?_
      refine rp_lbr (a := 55) (b := 38) rfl rfl rfl ?_ ?_
      ·
        exact rp_Le_rfl
      ·
        refine rp_lp (q := 39) rfl rfl rfl ?_
        refine rp_lgm rfl rfl rfl ?_
        refine rp_lp (q := 43) rfl rfl rfl ?_
        refine rp_lp (q := 44) rfl rfl rfl ?_
        refine rp_lp (q := 45) rfl rfl rfl ?_
        refine rp_lp (q := 46) rfl rfl rfl ?_
        refine rp_lp (q := 47) rfl rfl rfl ?_
        refine rp_lbr (a := 50) (b := 55) rfl rfl rfl ?_ ?_
        ·
          exact rp_Le_rfl
        ·
          exact rp_Le_rfl
set_option maxRecDepth 20000 in
theorem D_Ref_wantRule_50 {sc : rp_Sc} (x1 : Int32) (x2 : Int32) (σ : rp_Mm) : rp_Le (thV (CL sc 166 [.ref 48] σ) fun σ1 => RV σ1) (EV sc (164, 0, 0, 50, [.ref 48, .int x1, .int x2], [], (rp_L0, σ))) := by
  refine rp_lp (q := 51) rfl rfl rfl ?_
  refine rp_lcv (uc' := 0) (us' := 0) rfl (rp_rcv rfl) rfl rfl rfl rfl rfl rfl (fun σ1 => ?_)
  exact rp_lrv rfl rfl
set_option maxRecDepth 20000 in
theorem D_Ref_wantRule_55 {sc : rp_Sc} (x1 : Int32) (x2 : Int32) (σ : rp_Mm) : rp_Le (thV (CL sc 160 [.ref 48] (rp_wr σ 48 15 ((σ 48 15) ||| ((1 : Int32) <<< (x2 &&& 31))))) fun σ1 => if x2 = 0 then thI (CL sc 167 [.ref 48, .int 1, .int 60] σ1) fun r3 σ2 => bif rp_ix (x1 + (0 : Int32)) 48 then thV (CL sc 168 [.ref 48, .int 411] (rp_wr σ2 52 (x1 + (0 : Int32)).toNatClampNeg r3)) fun σ4 => bif rp_ix (x1 + (0 : Int32)) 48 then thI (CL sc 167 [.ref 48, .int (σ4 52 (x1 + (0 : Int32)).toNatClampNeg), .int 60] σ4) fun r6 σ5 => bif rp_ix (x1 + (1 : Int32)) 48 then EV sc (164, 0, 0, 245, [.ref 48, .int x1, .int x2], [], (rp_L0, rp_wr σ5 52 (x1 + (1 : Int32)).toNatClampNeg r6)) else none else none else none else if x2 = 1 then thI (CL sc 167 [.ref 48, .int 0, .int 100] σ1) fun r8 σ7 => bif rp_ix (x1 + x2) 48 then EV sc (164, 0, 0, 245, [.ref 48, .int x1, .int x2], [], (rp_L0, rp_wr σ7 52 (x1 + x2).toNatClampNeg r8)) else none else if x2 = 2 then thI (CL sc 167 [.ref 48, .int 0, .int 999] σ1) fun r10 σ9 => bif rp_ix (x1 + x2) 48 then EV sc (164, 0, 0, 245, [.ref 48, .int x1, .int x2], [], (rp_L0, rp_wr σ9 52 (x1 + x2).toNatClampNeg r10)) else none else if x2 = 3 then thV (CL sc 169 [.ref 48, .int (x1 + (3 : Int32)), .int 4] σ1) fun σ11 => EV sc (164, 0, 0, 245, [.ref 48, .int x1, .int x2], [], (rp_L0, σ11)) else if x2 = 4 then thV (CL sc 169 [.ref 48, .int (x1 + (4 : Int32)), .int 13] σ1) fun σ12 => thV (CL sc 168 [.ref 48, .int 11522] σ12) fun σ13 => EV sc (164, 0, 0, 245, [.ref 48, .int x1, .int x2], [], (rp_L0, σ13)) else if x2 = 5 then thI (CL sc 167 [.ref 48, .int 0, .int 23] σ1) fun r15 σ14 => bif rp_ix (x1 + (5 : Int32)) 48 then EV sc (164, 0, 0, 245, [.ref 48, .int x1, .int x2], [], (rp_L0, rp_wr σ14 52 (x1 + (5 : Int32)).toNatClampNeg r15)) else none else if x2 = 6 then thI (CL sc 167 [.ref 48, .int 0, .int 999] σ1) fun r17 σ16 => bif rp_ix (x1 + x2) 48 then EV sc (164, 0, 0, 245, [.ref 48, .int x1, .int x2], [], (rp_L0, rp_wr σ16 52 (x1 + x2).toNatClampNeg r17)) else none else thI (CL sc 167 [.ref 48, .int 0, .int 100] σ1) fun r19 σ18 => bif rp_ix (x1 + x2) 48 then EV sc (164, 0, 0, 245, [.ref 48, .int x1, .int x2], [], (rp_L0, rp_wr σ18 52 (x1 + x2).toNatClampNeg r19)) else none) (EV sc (164, 0, 0, 55, [.ref 48, .int x1, .int x2], [], (rp_L0, σ))) := by
  refine rp_lp (q := 56) rfl rfl rfl ?_
  refine rp_lp (q := 57) rfl rfl rfl ?_
  refine rp_lgm rfl rfl rfl ?_
  refine rp_lp (q := 61) rfl rfl rfl ?_
  refine rp_lp (q := 62) rfl rfl rfl ?_
  refine rp_lp (q := 63) rfl rfl rfl ?_
  refine rp_lp (q := 64) rfl rfl rfl ?_
  refine rp_lpm rfl rfl rfl rfl ?_
  refine rp_lp (q := 68) rfl rfl rfl ?_
  refine rp_lcv (uc' := 0) (us' := 0) rfl (rp_rcv rfl) rfl rfl rfl rfl rfl rfl (fun σ1 => ?_)
  refine rp_lp (q := 72) rfl rfl rfl ?_
  refine rp_lsw rfl rfl rfl ?_
  refine rp_swc ?_ ?_
  ·
    refine rp_lp (q := 117) rfl rfl rfl ?_
    refine rp_lgf rfl rfl rfl ?_
    refine rp_lp (q := 121) rfl rfl rfl ?_
    refine rp_lp (q := 122) rfl rfl rfl ?_
    refine rp_lp (q := 123) rfl rfl rfl ?_
    refine rp_lp (q := 124) rfl rfl rfl ?_
    refine rp_lp (q := 125) rfl rfl rfl ?_
    refine rp_lp (q := 127) rfl rfl rfl ?_
    refine rp_lci (uc' := 0) (us' := 0) rfl (rp_rcv rfl) rfl rfl rfl rfl rfl rfl (fun r3 σ2 => ?_)
    refine rp_lis rfl rfl ?_
    refine rp_lp (q := 132) rfl rfl rfl ?_
    refine rp_lp (q := 135) rfl rfl rfl ?_
    refine rp_lcv (uc' := 0) (us' := 0) rfl (rp_rcv rfl) rfl rfl rfl rfl rfl rfl (fun σ4 => ?_)
    refine rp_lp (q := 139) rfl rfl rfl ?_
    refine rp_lgf rfl rfl rfl ?_
    refine rp_lp (q := 143) rfl rfl rfl ?_
    refine rp_lp (q := 144) rfl rfl rfl ?_
    refine rp_lp (q := 145) rfl rfl rfl ?_
    refine rp_lp (q := 146) rfl rfl rfl ?_
    refine rp_lp (q := 147) rfl rfl rfl ?_
    refine rp_lgf rfl rfl rfl ?_
    refine rp_lp (q := 151) rfl rfl rfl ?_
    refine rp_lp (q := 152) rfl rfl rfl ?_
    refine rp_lp (q := 153) rfl rfl rfl ?_
    refine rp_lia rfl rfl ?_
    refine rp_lp (q := 156) rfl rfl rfl ?_
    refine rp_lci (uc' := 0) (us' := 0) rfl (rp_rcv rfl) rfl rfl rfl rfl rfl rfl (fun r6 σ5 => ?_)
    refine rp_lis rfl rfl ?_
    refine rp_lp (q := 245) rfl rfl rfl ?_
    exact rp_Le_rfl
  ·
    refine rp_swc ?_ ?_
    ·
      refine rp_lp (q := 231) rfl rfl rfl ?_
      refine rp_lgf rfl rfl rfl ?_
      refine rp_lp (q := 235) rfl rfl rfl ?_
      refine rp_lp (q := 236) rfl rfl rfl ?_
      refine rp_lp (q := 237) rfl rfl rfl ?_
      refine rp_lp (q := 238) rfl rfl rfl ?_
      refine rp_lp (q := 239) rfl rfl rfl ?_
      refine rp_lp (q := 241) rfl rfl rfl ?_
      refine rp_lci (uc' := 0) (us' := 0) rfl (rp_rcv rfl) rfl rfl rfl rfl rfl rfl (fun r8 σ7 => ?_)
      refine rp_lis rfl rfl ?_
      exact rp_Le_rfl
    ·
      refine rp_swc ?_ ?_
      ·
        refine rp_lp (q := 212) rfl rfl rfl ?_
        refine rp_lgf rfl rfl rfl ?_
        refine rp_lp (q := 216) rfl rfl rfl ?_
        refine rp_lp (q := 217) rfl rfl rfl ?_
        refine rp_lp (q := 218) rfl rfl rfl ?_
        refine rp_lp (q := 219) rfl rfl rfl ?_
        refine rp_lp (q := 220) rfl rfl rfl ?_
        refine rp_lp (q := 223) rfl rfl rfl ?_
        refine rp_lci (uc' := 0) (us' := 0) rfl (rp_rcv rfl) rfl rfl rfl rfl rfl rfl (fun r10 σ9 => ?_)
        refine rp_lis rfl rfl ?_
        refine rp_lp (q := 245) rfl rfl rfl ?_
        exact rp_Le_rfl
      ·
        refine rp_swc ?_ ?_
        ·
          refine rp_lp (q := 164) rfl rfl rfl ?_
          refine rp_lp (q := 165) rfl rfl rfl ?_
          refine rp_lp (q := 166) rfl rfl rfl ?_
          refine rp_lp (q := 167) rfl rfl rfl ?_
          refine rp_lp (q := 168) rfl rfl rfl ?_
          refine rp_lcv (uc' := 0) (us' := 0) rfl (rp_rcv rfl) rfl rfl rfl rfl rfl rfl (fun σ11 => ?_)
          refine rp_lp (q := 245) rfl rfl rfl ?_
          exact rp_Le_rfl
        ·
          refine rp_swc ?_ ?_
          ·
            refine rp_lp (q := 175) rfl rfl rfl ?_
            refine rp_lp (q := 176) rfl rfl rfl ?_
            refine rp_lp (q := 177) rfl rfl rfl ?_
            refine rp_lp (q := 178) rfl rfl rfl ?_
            refine rp_lp (q := 180) rfl rfl rfl ?_
            refine rp_lcv (uc' := 0) (us' := 0) rfl (rp_rcv rfl) rfl rfl rfl rfl rfl rfl (fun σ12 => ?_)
            refine rp_lp (q := 184) rfl rfl rfl ?_
            refine rp_lp (q := 187) rfl rfl rfl ?_
            refine rp_lcv (uc' := 0) (us' := 0) rfl (rp_rcv rfl) rfl rfl rfl rfl rfl rfl (fun σ13 => ?_)
            refine rp_lp (q := 245) rfl rfl rfl ?_
            exact rp_Le_rfl
          ·
            refine rp_swc ?_ ?_
            ·
              refine rp_lp (q := 194) rfl rfl rfl ?_
              refine rp_lgf rfl rfl rfl ?_
              refine rp_lp (q := 198) rfl rfl rfl ?_
              refine rp_lp (q := 199) rfl rfl rfl ?_
              refine rp_lp (q := 200) rfl rfl rfl ?_
              refine rp_lp (q := 201) rfl rfl rfl ?_
              refine rp_lp (q := 202) rfl rfl rfl ?_
              refine rp_lp (q := 204) rfl rfl rfl ?_
              refine rp_lci (uc' := 0) (us' := 0) rfl (rp_rcv rfl) rfl rfl rfl rfl rfl rfl (fun r15 σ14 => ?_)
              refine rp_lis rfl rfl ?_
              refine rp_lp (q := 245) rfl rfl rfl ?_
              exact rp_Le_rfl
            ·
              refine rp_swc ?_ ?_
              ·
                refine rp_lp (q := 212) rfl rfl rfl ?_
                refine rp_lgf rfl rfl rfl ?_
                refine rp_lp (q := 216) rfl rfl rfl ?_
                refine rp_lp (q := 217) rfl rfl rfl ?_
                refine rp_lp (q := 218) rfl rfl rfl ?_
                refine rp_lp (q := 219) rfl rfl rfl ?_
                refine rp_lp (q := 220) rfl rfl rfl ?_
                refine rp_lp (q := 223) rfl rfl rfl ?_
                refine rp_lci (uc' := 0) (us' := 0) rfl (rp_rcv rfl) rfl rfl rfl rfl rfl rfl (fun r17 σ16 => ?_)
                refine rp_lis rfl rfl ?_
                refine rp_lp (q := 245) rfl rfl rfl ?_
                exact rp_Le_rfl
              ·
                refine rp_lp (q := 231) rfl rfl rfl ?_
                refine rp_lgf rfl rfl rfl ?_
                refine rp_lp (q := 235) rfl rfl rfl ?_
                refine rp_lp (q := 236) rfl rfl rfl ?_
                refine rp_lp (q := 237) rfl rfl rfl ?_
                refine rp_lp (q := 238) rfl rfl rfl ?_
                refine rp_lp (q := 239) rfl rfl rfl ?_
                refine rp_lp (q := 241) rfl rfl rfl ?_
                refine rp_lci (uc' := 0) (us' := 0) rfl (rp_rcv rfl) rfl rfl rfl rfl rfl rfl (fun r19 σ18 => ?_)
                refine rp_lis rfl rfl ?_
                exact rp_Le_rfl
set_option maxRecDepth 20000 in
theorem D_Ref_wantRule_245 {sc : rp_Sc} (x1 : Int32) (x2 : Int32) (σ : rp_Mm) : rp_Le (thI (CL sc 163 [.ref 48] σ) fun r2 σ1 => if (r2 = 0 : Prop) then RV σ1 else if ((σ1 48 10) = 3 : Prop) then if ((σ1 48 13) = 59 : Prop) then thV (CL sc 160 [.ref 48] σ1) fun σ3 => RV σ3 else EV sc (164, 0, 0, 276, [.ref 48, .int x1, .int x2], [], (rp_L0, σ1)) else EV sc (164, 0, 0, 276, [.ref 48, .int x1, .int x2], [], (rp_L0, σ1))) (EV sc (164, 0, 0, 245, [.ref 48, .int x1, .int x2], [], (rp_L0, σ))) := by
  refine rp_lp (q := 246) rfl rfl rfl ?_
  refine rp_lci (uc' := 0) (us' := 0) rfl (rp_rcv rfl) rfl rfl rfl rfl rfl rfl (fun r2 σ1 => ?_)
  refine rp_lbr (a := 280) (b := 252) rfl rfl rfl ?_ ?_
  ·
    exact rp_lrv rfl rfl
  ·
    refine rp_lp (q := 253) rfl rfl rfl ?_
    refine rp_lgm rfl rfl rfl ?_
    refine rp_lp (q := 257) rfl rfl rfl ?_
    refine rp_lbr (a := 260) (b := 276) rfl rfl rfl ?_ ?_
    ·
      refine rp_lp (q := 261) rfl rfl rfl ?_
      refine rp_lgm rfl rfl rfl ?_
      refine rp_lp (q := 266) rfl rfl rfl ?_
      refine rp_lbr (a := 269) (b := 276) rfl rfl rfl ?_ ?_
      ·
        refine rp_lp (q := 270) rfl rfl rfl ?_
        refine rp_lcv (uc' := 0) (us' := 0) rfl (rp_rcv rfl) rfl rfl rfl rfl rfl rfl (fun σ3 => ?_)
        refine rp_lp (q := 280) rfl rfl rfl ?_
        exact rp_lrv rfl rfl
      ·
        exact rp_Le_rfl
    ·
      exact rp_Le_rfl
set_option maxRecDepth 20000 in
theorem D_Ref_wantRule_276 {sc : rp_Sc} (x1 : Int32) (x2 : Int32) (σ : rp_Mm) : rp_Le (thV (CL sc 166 [.ref 48] σ) fun σ1 => RV σ1) (EV sc (164, 0, 0, 276, [.ref 48, .int x1, .int x2], [], (rp_L0, σ))) := by
  refine rp_lp (q := 277) rfl rfl rfl ?_
  refine rp_lcv (uc' := 0) (us' := 0) rfl (rp_rcv rfl) rfl rfl rfl rfl rfl rfl (fun σ1 => ?_)
  exact rp_lrv rfl rfl
-- Ref_kindOf
set_option maxRecDepth 20000 in
theorem D_Ref_kindOf_0 {sc : rp_Sc} (a0 : Int32) (σ : rp_Mm) : rp_Le (if a0 = 50348 then RI 7 σ else if a0 = 80155 then RI 0 σ else if a0 = 119360 then RI 6 σ else if a0 = 243140 then RI 4 σ else if a0 = 247664 then RI 10 σ else if a0 = 355278 then RI 3 σ else if a0 = 1758676 then RI 8 σ else if a0 = 7622660 then RI 5 σ else if a0 = 8863997 then RI 2 σ else if a0 = 261071320 then RI 9 σ else RI (-1) σ) (EV sc (165, 0, 0, 0, [.ref 48, .int a0], [], (rp_L0, σ))) := by
  refine rp_lp (q := 1) rfl rfl rfl ?_
  refine rp_lsw rfl rfl rfl ?_
  refine rp_swc ?_ ?_
  ·
    refine rp_lp (q := 107) rfl rfl rfl ?_
    exact rp_lri rfl rfl
  ·
    refine rp_swc ?_ ?_
    ·
      refine rp_lp (q := 93) rfl rfl rfl ?_
      exact rp_lri rfl rfl
    ·
      refine rp_swc ?_ ?_
      ·
        refine rp_lp (q := 104) rfl rfl rfl ?_
        exact rp_lri rfl rfl
      ·
        refine rp_swc ?_ ?_
        ·
          refine rp_lp (q := 99) rfl rfl rfl ?_
          exact rp_lri rfl rfl
        ·
          refine rp_swc ?_ ?_
          ·
            refine rp_lp (q := 116) rfl rfl rfl ?_
            exact rp_lri rfl rfl
          ·
            refine rp_swc ?_ ?_
            ·
              refine rp_lp (q := 97) rfl rfl rfl ?_
              exact rp_lri rfl rfl
            ·
              refine rp_swc ?_ ?_
              ·
                refine rp_lp (q := 110) rfl rfl rfl ?_
                exact rp_lri rfl rfl
              ·
                refine rp_swc ?_ ?_
                ·
                  refine rp_lp (q := 101) rfl rfl rfl ?_
                  exact rp_lri rfl rfl
                ·
                  refine rp_swc ?_ ?_
                  ·
                    refine rp_lp (q := 95) rfl rfl rfl ?_
                    exact rp_lri rfl rfl
                  ·
                    refine rp_swc ?_ ?_
                    ·
                      refine rp_lp (q := 113) rfl rfl rfl ?_
                      exact rp_lri rfl rfl
                    ·
                      refine rp_lp (q := 118) rfl rfl rfl ?_
                      exact rp_lri rfl rfl
-- Ref_wrong
set_option maxRecDepth 20000 in
theorem D_Ref_wrong_0 {sc : rp_Sc} (σ : rp_Mm) : rp_Le (if (0 ≤ (σ 48 14) : Prop) then RV (rp_wr σ 48 14 (σ 48 14)) else RV (rp_wr σ 48 14 (σ 48 11))) (EV sc (166, 0, 0, 0, [.ref 48], [], (rp_L0, σ))) := by
  refine rp_lp (q := 1) rfl rfl rfl ?_
  refine rp_lp (q := 2) rfl rfl rfl ?_
  refine rp_lgm rfl rfl rfl ?_
  refine rp_lbr (a := 15) (b := 8) rfl rfl rfl ?_ ?_
  ·
    refine rp_lp (q := 16) rfl rfl rfl ?_
    refine rp_lgm rfl rfl rfl ?_
    refine rp_lpm rfl rfl rfl rfl ?_
    exact rp_lrv rfl rfl
  ·
    refine rp_lp (q := 9) rfl rfl rfl ?_
    refine rp_lgm rfl rfl rfl ?_
    refine rp_lp (q := 19) rfl rfl rfl ?_
    refine rp_lpm rfl rfl rfl rfl ?_
    exact rp_lrv rfl rfl
-- Ref_wantNumber
set_option maxRecDepth 20000 in
theorem D_Ref_wantNumber_0 {sc : rp_Sc} (a0 : Int32) (a1 : Int32) (σ : rp_Mm) : rp_Le (thI (CL sc 163 [.ref 48] σ) fun r2 σ1 => if (r2 = 0 : Prop) then RI (σ 48 13) σ1 else if ((σ1 48 10) = 2 : Prop) then if (3 < ((σ1 48 12) - (σ1 48 11)) : Prop) then EV sc (167, 0, 0, 49, [.ref 48, .int a0, .int a1, .int (σ 48 13)], [], (rp_L0, σ1)) else thI (CL sc 151 [.int (σ 48 13), .int a0, .int a1] σ1) fun r4 σ3 => if (r4 = 0 : Prop) then EV sc (167, 0, 0, 49, [.ref 48, .int a0, .int a1, .int (σ 48 13)], [], (rp_L0, σ3)) else thV (CL sc 160 [.ref 48] σ3) fun σ5 => RI (σ 48 13) σ5 else EV sc (167, 0, 0, 49, [.ref 48, .int a0, .int a1, .int (σ 48 13)], [], (rp_L0, σ1))) (EV sc (167, 0, 0, 0, [.ref 48, .int a0, .int a1, rp_U], [], (rp_L0, σ))) := by
  refine rp_lp (q := 1) rfl rfl rfl ?_
  refine rp_lgm rfl rfl rfl ?_
  refine rp_lp (q := 5) (ls' := [.ref 48, .int a0, .int a1, .int (σ 48 13)]) rfl rfl rfl ?_
  refine rp_lp (q := 6) rfl rfl rfl ?_
  refine rp_lci (uc' := 0) (us' := 0) rfl (rp_rcv rfl) rfl rfl rfl rfl rfl rfl (fun r2 σ1 => ?_)
  refine rp_lbr (a := 53) (b := 12) rfl rfl rfl ?_ ?_
  ·
    refine rp_lp (q := 54) rfl rfl rfl ?_
    exact rp_lri rfl rfl
  ·
    refine rp_lp (q := 13) rfl rfl rfl ?_
    refine rp_lgm rfl rfl rfl ?_
    refine rp_lp (q := 17) rfl rfl rfl ?_
    refine rp_lbr (a := 20) (b := 49) rfl rfl rfl ?_ ?_
    ·
      refine rp_lp (q := 21) rfl rfl rfl ?_
      refine rp_lgm rfl rfl rfl ?_
      refine rp_lp (q := 25) rfl rfl rfl ?_
      refine rp_lgm rfl rfl rfl ?_
      refine rp_lp (q := 29) rfl rfl rfl ?_
      refine rp_lp (q := 30) rfl rfl rfl ?_
      refine rp_lbr (a := 49) (b := 33) rfl rfl rfl ?_ ?_
      ·
        exact rp_Le_rfl
      ·
        refine rp_lp (q := 34) rfl rfl rfl ?_
        refine rp_lp (q := 35) rfl rfl rfl ?_
        refine rp_lp (q := 36) rfl rfl rfl ?_
        refine rp_lci (uc' := 0) (us' := 0) rfl rfl rfl rfl rfl rfl rfl rfl (fun r4 σ3 => ?_)
        refine rp_lbr (a := 49) (b := 42) rfl rfl rfl ?_ ?_
        ·
          exact rp_Le_rfl
        ·
          refine rp_lp (q := 43) rfl rfl rfl ?_
          refine rp_lcv (uc' := 0) (us' := 0) rfl (rp_rcv rfl) rfl rfl rfl rfl rfl rfl (fun σ5 => ?_)
          refine rp_lp (q := 53) rfl rfl rfl ?_
          refine rp_lp (q := 54) rfl rfl rfl ?_
          exact rp_lri rfl rfl
    ·
      exact rp_Le_rfl
set_option maxRecDepth 20000 in
theorem D_Ref_wantNumber_49 {sc : rp_Sc} (x1 : Int32) (x2 : Int32) (x3 : Int32) (σ : rp_Mm) : rp_Le (thV (CL sc 166 [.ref 48] σ) fun σ1 => RI x3 σ1) (EV sc (167, 0, 0, 49, [.ref 48, .int x1, .int x2, .int x3], [], (rp_L0, σ))) := by
  refine rp_lp (q := 50) rfl rfl rfl ?_
  refine rp_lcv (uc' := 0) (us' := 0) rfl (rp_rcv rfl) rfl rfl rfl rfl rfl rfl (fun σ1 => ?_)
  refine rp_lp (q := 54) rfl rfl rfl ?_
  exact rp_lri rfl rfl
-- Ref_wantWord
set_option maxRecDepth 20000 in
theorem D_Ref_wantWord_0 {sc : rp_Sc} (a0 : Int32) (σ : rp_Mm) : rp_Le (thI (CL sc 163 [.ref 48] σ) fun r2 σ1 => if (r2 = 0 : Prop) then RV σ1 else if ((σ1 48 10) = 1 : Prop) then if ((σ1 48 13) = a0 : Prop) then thV (CL sc 160 [.ref 48] σ1) fun σ3 => RV σ3 else EV sc (168, 0, 0, 30, [.ref 48, .int a0], [], (rp_L0, σ1)) else EV sc (168, 0, 0, 30, [.ref 48, .int a0], [], (rp_L0, σ1))) (EV sc (168, 0, 0, 0, [.ref 48, .int a0], [], (rp_L0, σ))) := by
  refine rp_lp (q := 1) rfl rfl rfl ?_
  refine rp_lci (uc' := 0) (us' := 0) rfl (rp_rcv rfl) rfl rfl rfl rfl rfl rfl (fun r2 σ1 => ?_)
  refine rp_lbr (a := 34) (b := 7) rfl rfl rfl ?_ ?_
  ·
    exact rp_lrv rfl rfl
  ·
    refine rp_lp (q := 8) rfl rfl rfl ?_
    refine rp_lgm rfl rfl rfl ?_
    refine rp_lp (q := 12) rfl rfl rfl ?_
    refine rp_lbr (a := 15) (b := 30) rfl rfl rfl ?_ ?_
    ·
      refine rp_lp (q := 16) rfl rfl rfl ?_
      refine rp_lgm rfl rfl rfl ?_
      refine rp_lp (q := 20) rfl rfl rfl ?_
      refine rp_lbr (a := 23) (b := 30) rfl rfl rfl ?_ ?_
      ·
        refine rp_lp (q := 24) rfl rfl rfl ?_
        refine rp_lcv (uc' := 0) (us' := 0) rfl (rp_rcv rfl) rfl rfl rfl rfl rfl rfl (fun σ3 => ?_)
        refine rp_lp (q := 34) rfl rfl rfl ?_
        exact rp_lrv rfl rfl
      ·
        exact rp_Le_rfl
    ·
      exact rp_Le_rfl
set_option maxRecDepth 20000 in
theorem D_Ref_wantWord_30 {sc : rp_Sc} (x1 : Int32) (σ : rp_Mm) : rp_Le (thV (CL sc 166 [.ref 48] σ) fun σ1 => RV σ1) (EV sc (168, 0, 0, 30, [.ref 48, .int x1], [], (rp_L0, σ))) := by
  refine rp_lp (q := 31) rfl rfl rfl ?_
  refine rp_lcv (uc' := 0) (us' := 0) rfl (rp_rcv rfl) rfl rfl rfl rfl rfl rfl (fun σ1 => ?_)
  exact rp_lrv rfl rfl
-- Ref_wantBit
set_option maxRecDepth 20000 in
theorem D_Ref_wantBit_0 {sc : rp_Sc} (a0 : Int32) (a1 : Int32) (σ : rp_Mm) : rp_Le (thI (CL sc 163 [.ref 48] σ) fun r2 σ1 => if (r2 = 0 : Prop) then EV sc (169, 0, 0, 61, [.ref 48, .int a0, .int a1, rp_U], [], (rp_L0, σ1)) else if ((σ1 48 10) = 2 : Prop) then if (3 < ((σ1 48 12) - (σ1 48 11)) : Prop) then EV sc (169, 0, 0, 61, [.ref 48, .int a0, .int a1, rp_U], [], (rp_L0, σ1)) else thI (CL sc 151 [.int (σ1 48 13), .int 0, .int a1] σ1) fun r4 σ3 => if (r4 = 0 : Prop) then EV sc (169, 0, 0, 61, [.ref 48, .int a0, .int a1, rp_U], [], (rp_L0, σ3)) else bif rp_ix a0 48 then if ((((σ3 52 a0.toNatClampNeg) >>> ((σ3 48 13) &&& 31)) &&& (1 : Int32)) = 1 : Prop) then thV (CL sc 166 [.ref 48] σ3) fun σ5 => EV sc (169, 0, 0, 61, [.ref 48, .int a0, .int a1, rp_U], [], (rp_L0, σ5)) else EV sc (169, 0, 0, 61, [.ref 48, .int a0, .int a1, rp_U], [], (rp_L0, σ3)) else none else EV sc (169, 0, 0, 61, [.ref 48, .int a0, .int a1, rp_U], [], (rp_L0, σ1))) (EV sc (169, 0, 0, 0, [.ref 48, .int a0, .int a1, rp_U], [], (rp_L0, σ))) := by
  refine rp_lp (q := 1) rfl rfl rfl ?_
  refine rp_lci (uc' := 0) (us' := 0) rfl (rp_rcv rfl) rfl rfl rfl rfl rfl rfl (fun r2 σ1 => ?_)
  refine rp_lbr (a := 61) (b := 7) rfl rfl rfl ?_ ?_
  ·
    exact rp_Le_rfl
  ·
    refine rp_lp (q := 8) rfl rfl rfl ?_
    refine rp_lgm rfl rfl rfl ?_
    refine rp_lp (q := 12) rfl rfl rfl ?_
    refine rp_lbr (a := 15) (b := 61) rfl rfl rfl ?_ ?_
    ·
      refine rp_lp (q := 16) rfl rfl rfl ?_
      refine rp_lgm rfl rfl rfl ?_
      refine rp_lp (q := 20) rfl rfl rfl ?_
      refine rp_lgm rfl rfl rfl ?_
      refine rp_lp (q := 24) rfl rfl rfl ?_
      refine rp_lp (q := 25) rfl rfl rfl ?_
      refine rp_lbr (a := 61) (b := 28) rfl rfl rfl ?_ ?_
      ·
        exact rp_Le_rfl
      ·
        refine rp_lp (q := 29) rfl rfl rfl ?_
        refine rp_lgm rfl rfl rfl ?_
        refine rp_lp (q := 33) rfl rfl rfl ?_
        refine rp_lp (q := 34) rfl rfl rfl ?_
        refine rp_lci (uc' := 0) (us' := 0) rfl rfl rfl rfl rfl rfl rfl rfl (fun r4 σ3 => ?_)
        refine rp_lbr (a := 61) (b := 40) rfl rfl rfl ?_ ?_
        ·
          exact rp_Le_rfl
        ·
          refine rp_lp (q := 41) rfl rfl rfl ?_
          refine rp_lgf rfl rfl rfl ?_
          refine rp_lp (q := 45) rfl rfl rfl ?_
          refine rp_lia rfl rfl ?_
          refine rp_lp (q := 47) rfl rfl rfl ?_
          refine rp_lgm rfl rfl rfl ?_
          refine rp_lp (q := 51) rfl rfl rfl ?_
          refine rp_lp (q := 52) rfl rfl rfl ?_
          refine rp_lp (q := 53) rfl rfl rfl ?_
          refine rp_lp (q := 54) rfl rfl rfl ?_
          refine rp_lbr (a := 57) (b := 61) rfl rfl rfl ?_ ?_
          ·
            refine rp_lp (q := 58) rfl rfl rfl ?_
            refine rp_lcv (uc' := 0) (us' := 0) rfl (rp_rcv rfl) rfl rfl rfl rfl rfl rfl (fun σ5 => ?_)
            exact rp_Le_rfl
          ·
            exact rp_Le_rfl
    ·
      exact rp_Le_rfl
set_option maxRecDepth 20000 in
theorem D_Ref_wantBit_61 {sc : rp_Sc} (x1 : Int32) (x2 : Int32) (σ : rp_Mm) : rp_Le (thI (CL sc 167 [.ref 48, .int 0, .int x2] σ) fun r2 σ1 => thI (CL sc 163 [.ref 48] σ1) fun r4 σ3 => if (r4 = 0 : Prop) then RV σ3 else bif rp_ix x1 48 then bif rp_ix x1 48 then RV (rp_wr σ3 52 x1.toNatClampNeg ((σ3 52 x1.toNatClampNeg) ||| ((1 : Int32) <<< (r2 &&& 31)))) else none else none) (EV sc (169, 0, 0, 61, [.ref 48, .int x1, .int x2, rp_U], [], (rp_L0, σ))) := by
  refine rp_lp (q := 62) rfl rfl rfl ?_
  refine rp_lp (q := 63) rfl rfl rfl ?_
  refine rp_lp (q := 64) rfl rfl rfl ?_
  refine rp_lci (uc' := 0) (us' := 0) rfl (rp_rcv rfl) rfl rfl rfl rfl rfl rfl (fun r2 σ1 => ?_)
  refine rp_lp (q := 68) (ls' := [.ref 48, .int x1, .int x2, .int r2]) rfl rfl rfl ?_
  refine rp_lp (q := 69) rfl rfl rfl ?_
  refine rp_lci (uc' := 0) (us' := 0) rfl (rp_rcv rfl) rfl rfl rfl rfl rfl rfl (fun r4 σ3 => ?_)
  refine rp_lbr (a := 87) (b := 75) rfl rfl rfl ?_ ?_
  ·
    exact rp_lrv rfl rfl
  ·
    refine rp_lp (q := 76) rfl rfl rfl ?_
    refine rp_lgf rfl rfl rfl ?_
    refine rp_lp (q := 80) rfl rfl rfl ?_
    refine rp_lp (q := 81) rfl rfl rfl ?_
    refine rp_lia rfl rfl ?_
    refine rp_lp (q := 83) rfl rfl rfl ?_
    refine rp_lp (q := 84) rfl rfl rfl ?_
    refine rp_lp (q := 85) rfl rfl rfl ?_
    refine rp_lp (q := 86) rfl rfl rfl ?_
    refine rp_lis rfl rfl ?_
    exact rp_lrv rfl rfl
-- Ref_law
set_option maxRecDepth 20000 in
theorem D_Ref_law_0 {sc : rp_Sc} (a0 : Int32) (a1 : Int32) (σ : rp_Mm) : rp_Le (thI (CL sc 159 [.int a0] σ) fun r2 σ1 => if (r2 = 0 : Prop) then RI (-1) σ1 else thI (CL sc 151 [.int a1, .int 0, .int 10] σ1) fun r4 σ3 => if (r4 = 0 : Prop) then RI (-1) σ3 else thI (CL sc 171 [.ref 48, .int a0] σ3) fun r6 σ5 => if (r6 = 0 : Prop) then RI (-3) σ5 else bif rp_ix (((12 : Int32) * a0) + a1) 48 then RI (σ5 52 (((12 : Int32) * a0) + a1).toNatClampNeg) σ5 else none) (EV sc (170, 0, 0, 0, [.ref 48, .int a0, .int a1], [], (rp_L0, σ))) := by
  refine rp_lp (q := 1) rfl rfl rfl ?_
  refine rp_lci (uc' := 0) (us' := 0) rfl rfl rfl rfl rfl rfl rfl rfl (fun r2 σ1 => ?_)
  refine rp_lbr (a := 17) (b := 7) rfl rfl rfl ?_ ?_
  ·
    refine rp_lp (q := 18) rfl rfl rfl ?_
    exact rp_lri rfl rfl
  ·
    refine rp_lp (q := 8) rfl rfl rfl ?_
    refine rp_lp (q := 9) rfl rfl rfl ?_
    refine rp_lp (q := 11) rfl rfl rfl ?_
    refine rp_lci (uc' := 0) (us' := 0) rfl rfl rfl rfl rfl rfl rfl rfl (fun r4 σ3 => ?_)
    refine rp_lbr (a := 17) (b := 19) rfl rfl rfl ?_ ?_
    ·
      refine rp_lp (q := 18) rfl rfl rfl ?_
      exact rp_lri rfl rfl
    ·
      refine rp_lp (q := 20) rfl rfl rfl ?_
      refine rp_lp (q := 21) rfl rfl rfl ?_
      refine rp_lci (uc' := 0) (us' := 0) rfl (rp_rcv rfl) rfl rfl rfl rfl rfl rfl (fun r6 σ5 => ?_)
      refine rp_lbr (a := 41) (b := 27) rfl rfl rfl ?_ ?_
      ·
        refine rp_lp (q := 43) rfl rfl rfl ?_
        exact rp_lri rfl rfl
      ·
        refine rp_lp (q := 28) rfl rfl rfl ?_
        refine rp_lgf rfl rfl rfl ?_
        refine rp_lp (q := 33) rfl rfl rfl ?_
        refine rp_lp (q := 34) rfl rfl rfl ?_
        refine rp_lp (q := 35) rfl rfl rfl ?_
        refine rp_lp (q := 36) rfl rfl rfl ?_
        refine rp_lp (q := 37) rfl rfl rfl ?_
        refine rp_lia rfl rfl ?_
        refine rp_lp (q := 43) rfl rfl rfl ?_
        exact rp_lri rfl rfl
-- Ref_hasLaw
set_option maxRecDepth 20000 in
theorem D_Ref_hasLaw_0 {sc : rp_Sc} (a0 : Int32) (σ : rp_Mm) : rp_Le (bif rp_ix (((12 : Int32) * a0) + (11 : Int32)) 48 then if ((σ 52 (((12 : Int32) * a0) + (11 : Int32)).toNatClampNeg) = 1 : Prop) then RI 1 σ else RI 0 σ else none) (EV sc (171, 0, 0, 0, [.ref 48, .int a0], [], (rp_L0, σ))) := by
  refine rp_lp (q := 1) rfl rfl rfl ?_
  refine rp_lgf rfl rfl rfl ?_
  refine rp_lp (q := 6) rfl rfl rfl ?_
  refine rp_lp (q := 7) rfl rfl rfl ?_
  refine rp_lp (q := 8) rfl rfl rfl ?_
  refine rp_lp (q := 10) rfl rfl rfl ?_
  refine rp_lp (q := 11) rfl rfl rfl ?_
  refine rp_lia rfl rfl ?_
  refine rp_lp (q := 13) rfl rfl rfl ?_
  refine rp_lbr (a := 16) (b := 20) rfl rfl rfl ?_ ?_
  ·
    refine rp_lp (q := 17) rfl rfl rfl ?_
    refine rp_lp (q := 21) rfl rfl rfl ?_
    exact rp_lrz rfl rfl (by decide)
  ·
    refine rp_lp (q := 21) rfl rfl rfl ?_
    exact rp_lrz rfl rfl (by decide)
-- Ref_sell
set_option maxRecDepth 20000 in
theorem D_Ref_sell_0 {sc : rp_Sc} (a0 : Int32) (a1 : Int32) (a2 : Int32) (σ : rp_Mm) : rp_Le (thI (CL sc 159 [.int a0] σ) fun r2 σ1 => if (r2 = 0 : Prop) then RI (-1) σ1 else thI (CL sc 173 [.int a1] σ1) fun r4 σ3 => if (r4 = 0 : Prop) then RI (-1) σ3 else thI (CL sc 171 [.ref 48, .int a0] σ3) fun r6 σ5 => if (r6 = 0 : Prop) then RI (-3) σ5 else if ((σ5 49 2) = 8 : Prop) then RI (-2) σ5 else EV sc (172, 0, 0, 55, [.ref 48, .int a0, .int a1, .int a2, .int ((16 : Int32) * (σ5 49 2)), .int 0], [], (rp_L0, σ5))) (EV sc (172, 0, 0, 0, [.ref 48, .int a0, .int a1, .int a2, rp_U, rp_U], [], (rp_L0, σ))) := by
  refine rp_lp (q := 1) rfl rfl rfl ?_
  refine rp_lci (uc' := 0) (us' := 0) rfl rfl rfl rfl rfl rfl rfl rfl (fun r2 σ1 => ?_)
  refine rp_lbr (a := 14) (b := 7) rfl rfl rfl ?_ ?_
  ·
    refine rp_lp (q := 15) rfl rfl rfl ?_
    exact rp_lri rfl rfl
  ·
    refine rp_lp (q := 8) rfl rfl rfl ?_
    refine rp_lci (uc' := 0) (us' := 0) rfl rfl rfl rfl rfl rfl rfl rfl (fun r4 σ3 => ?_)
    refine rp_lbr (a := 14) (b := 16) rfl rfl rfl ?_ ?_
    ·
      refine rp_lp (q := 15) rfl rfl rfl ?_
      exact rp_lri rfl rfl
    ·
      refine rp_lp (q := 17) rfl rfl rfl ?_
      refine rp_lp (q := 18) rfl rfl rfl ?_
      refine rp_lci (uc' := 0) (us' := 0) rfl (rp_rcv rfl) rfl rfl rfl rfl rfl rfl (fun r6 σ5 => ?_)
      refine rp_lbr (a := 24) (b := 27) rfl rfl rfl ?_ ?_
      ·
        refine rp_lp (q := 26) rfl rfl rfl ?_
        exact rp_lri rfl rfl
      ·
        refine rp_lp (q := 28) rfl rfl rfl ?_
        refine rp_lgf rfl rfl rfl ?_
        refine rp_lp (q := 32) rfl rfl rfl ?_
        refine rp_lil rfl rfl (by decide +kernel) (k := 2) (by decide +kernel) ?_
        refine rp_lp (q := 35) rfl rfl rfl ?_
        refine rp_lbr (a := 38) (b := 41) rfl rfl rfl ?_ ?_
        ·
          refine rp_lp (q := 40) rfl rfl rfl ?_
          exact rp_lri rfl rfl
        ·
          refine rp_lp (q := 43) rfl rfl rfl ?_
          refine rp_lp (q := 44) rfl rfl rfl ?_
          refine rp_lgf rfl rfl rfl ?_
          refine rp_lp (q := 48) rfl rfl rfl ?_
          refine rp_lil rfl rfl (by decide +kernel) (k := 2) (by decide +kernel) ?_
          refine rp_lp (q := 50) rfl rfl rfl ?_
          refine rp_lp (q := 52) (ls' := [.ref 48, .int a0, .int a1, .int a2, .int ((16 : Int32) * (σ5 49 2)), rp_U]) rfl rfl rfl ?_
          refine rp_lp (q := 53) rfl rfl rfl ?_
          refine rp_lp (q := 55) (ls' := [.ref 48, .int a0, .int a1, .int a2, .int ((16 : Int32) * (σ5 49 2)), .int 0]) rfl rfl rfl ?_
          exact rp_Le_rfl
set_option maxRecDepth 20000 in
theorem D_Ref_sell_55 {sc : rp_Sc} (x1 : Int32) (x2 : Int32) (x3 : Int32) (x4 : Int32) (x5 : Int32) (σ : rp_Mm) : rp_Le (if (11 ≤ x5 : Prop) then bif rp_ix (x4 + (11 : Int32)) 128 then bif rp_ix (x4 + (12 : Int32)) 128 then bif rp_ix (x4 + (13 : Int32)) 128 then if (x3 = 0 : Prop) then bif rp_ix (x4 + (2 : Int32)) 128 then EV sc (172, 0, 0, 171, [.ref 48, .int x1, .int x2, .int x3, .int x4, .int x5], [.int ((rp_wr (rp_wr (rp_wr σ 53 (x4 + (11 : Int32)).toNatClampNeg x1) 53 (x4 + (12 : Int32)).toNatClampNeg x2) 53 (x4 + (13 : Int32)).toNatClampNeg 0) 53 (x4 + (2 : Int32)).toNatClampNeg), .int (x4 + (14 : Int32)), .ref 53], (rp_L0, rp_wr (rp_wr (rp_wr σ 53 (x4 + (11 : Int32)).toNatClampNeg x1) 53 (x4 + (12 : Int32)).toNatClampNeg x2) 53 (x4 + (13 : Int32)).toNatClampNeg 0)) else none else bif rp_ix (x4 + (2 : Int32)) 128 then bif rp_ix (x4 + (8 : Int32)) 128 then EV sc (172, 0, 0, 171, [.ref 48, .int x1, .int x2, .int x3, .int x4, .int x5], [.int ((((rp_wr (rp_wr (rp_wr σ 53 (x4 + (11 : Int32)).toNatClampNeg x1) 53 (x4 + (12 : Int32)).toNatClampNeg x2) 53 (x4 + (13 : Int32)).toNatClampNeg 0) 53 (x4 + (2 : Int32)).toNatClampNeg) * ((rp_wr (rp_wr (rp_wr σ 53 (x4 + (11 : Int32)).toNatClampNeg x1) 53 (x4 + (12 : Int32)).toNatClampNeg x2) 53 (x4 + (13 : Int32)).toNatClampNeg 0) 53 (x4 + (8 : Int32)).toNatClampNeg)) / (100 : Int32)), .int (x4 + (14 : Int32)), .ref 53], (rp_L0, rp_wr (rp_wr (rp_wr σ 53 (x4 + (11 : Int32)).toNatClampNeg x1) 53 (x4 + (12 : Int32)).toNatClampNeg x2) 53 (x4 + (13 : Int32)).toNatClampNeg 0)) else none else none else none else none else none else bif rp_ix (((12 : Int32) * x1) + x5) 48 then bif rp_ix (x4 + x5) 128 then EV sc (172, 0, 0, 55, [.ref 48, .int x1, .int x2, .int x3, .int x4, .int (x5 + 1)], [], (rp_L0, rp_wr σ 53 (x4 + x5).toNatClampNeg (σ 52 (((12 : Int32) * x1) + x5).toNatClampNeg))) else none else none) (EV sc (172, 0, 0, 55, [.ref 48, .int x1, .int x2, .int x3, .int x4, .int x5], [], (rp_L0, σ))) := by
  refine rp_lp (q := 57) rfl rfl rfl ?_
  refine rp_lp (q := 59) rfl rfl rfl ?_
  refine rp_lbr (a := 90) (b := 62) rfl rfl rfl ?_ ?_
  ·
    refine rp_lp (q := 91) rfl rfl rfl ?_
    refine rp_lgf rfl rfl rfl ?_
    refine rp_lp (q := 96) rfl rfl rfl ?_
    refine rp_lp (q := 98) rfl rfl rfl ?_
    refine rp_lp (q := 99) rfl rfl rfl ?_
    refine rp_lp (q := 100) rfl rfl rfl ?_
    refine rp_lis rfl rfl ?_
    refine rp_lp (q := 102) rfl rfl rfl ?_
    refine rp_lgf rfl rfl rfl ?_
    refine rp_lp (q := 107) rfl rfl rfl ?_
    refine rp_lp (q := 109) rfl rfl rfl ?_
    refine rp_lp (q := 110) rfl rfl rfl ?_
    refine rp_lp (q := 111) rfl rfl rfl ?_
    refine rp_lis rfl rfl ?_
    refine rp_lp (q := 113) rfl rfl rfl ?_
    refine rp_lgf rfl rfl rfl ?_
    refine rp_lp (q := 118) rfl rfl rfl ?_
    refine rp_lp (q := 120) rfl rfl rfl ?_
    refine rp_lp (q := 121) rfl rfl rfl ?_
    refine rp_lp (q := 122) rfl rfl rfl ?_
    refine rp_lis rfl rfl ?_
    refine rp_lp (q := 124) rfl rfl rfl ?_
    refine rp_lgf rfl rfl rfl ?_
    refine rp_lp (q := 129) rfl rfl rfl ?_
    refine rp_lp (q := 131) rfl rfl rfl ?_
    refine rp_lp (q := 132) rfl rfl rfl ?_
    refine rp_lp (q := 133) rfl rfl rfl ?_
    refine rp_lbr (a := 162) (b := 136) rfl rfl rfl ?_ ?_
    ·
      refine rp_lp (q := 163) rfl rfl rfl ?_
      refine rp_lgf rfl rfl rfl ?_
      refine rp_lp (q := 168) rfl rfl rfl ?_
      refine rp_lp (q := 169) rfl rfl rfl ?_
      refine rp_lp (q := 170) rfl rfl rfl ?_
      refine rp_lia rfl rfl ?_
      exact rp_Le_rfl
    ·
      refine rp_lp (q := 137) rfl rfl rfl ?_
      refine rp_lgf rfl rfl rfl ?_
      refine rp_lp (q := 142) rfl rfl rfl ?_
      refine rp_lp (q := 143) rfl rfl rfl ?_
      refine rp_lp (q := 144) rfl rfl rfl ?_
      refine rp_lia rfl rfl ?_
      refine rp_lp (q := 146) rfl rfl rfl ?_
      refine rp_lgf rfl rfl rfl ?_
      refine rp_lp (q := 151) rfl rfl rfl ?_
      refine rp_lp (q := 153) rfl rfl rfl ?_
      refine rp_lp (q := 154) rfl rfl rfl ?_
      refine rp_lia rfl rfl ?_
      refine rp_lp (q := 156) rfl rfl rfl ?_
      refine rp_lp (q := 158) rfl rfl rfl ?_
      refine rp_ldv rfl (by decide) ?_
      refine rp_lp (q := 171) rfl rfl rfl ?_
      exact rp_Le_rfl
  ·
    refine rp_lp (q := 63) rfl rfl rfl ?_
    refine rp_lgf rfl rfl rfl ?_
    refine rp_lp (q := 68) rfl rfl rfl ?_
    refine rp_lp (q := 70) rfl rfl rfl ?_
    refine rp_lp (q := 71) rfl rfl rfl ?_
    refine rp_lp (q := 72) rfl rfl rfl ?_
    refine rp_lgf rfl rfl rfl ?_
    refine rp_lp (q := 77) rfl rfl rfl ?_
    refine rp_lp (q := 78) rfl rfl rfl ?_
    refine rp_lp (q := 79) rfl rfl rfl ?_
    refine rp_lp (q := 81) rfl rfl rfl ?_
    refine rp_lp (q := 82) rfl rfl rfl ?_
    refine rp_lia rfl rfl ?_
    refine rp_lis rfl rfl ?_
    refine rp_lp (q := 87) (ls' := [.ref 48, .int x1, .int x2, .int x3, .int x4, .int (x5 + 1)]) rfl rfl rfl ?_
    refine rp_lp (q := 55) rfl rfl rfl ?_
    exact rp_Le_rfl
set_option maxRecDepth 20000 in
theorem D_Ref_sell_171 {sc : rp_Sc} (x1 : Int32) (x2 : Int32) (x3 : Int32) (x4 : Int32) (x5 : Int32) (y0 : Int32) (y1 : Int32) (σ : rp_Mm) : rp_Le (bif rp_ix y1 128 then RI (((rp_wr (rp_wr σ 53 y1.toNatClampNeg y0) 49 2 (((rp_wr σ 53 y1.toNatClampNeg y0) 49 2) + (1 : Int32))) 49 2) - (1 : Int32)) (rp_wr (rp_wr σ 53 y1.toNatClampNeg y0) 49 2 (((rp_wr σ 53 y1.toNatClampNeg y0) 49 2) + (1 : Int32))) else none) (EV sc (172, 0, 0, 171, [.ref 48, .int x1, .int x2, .int x3, .int x4, .int x5], [.int y0, .int y1, .ref 53], (rp_L0, σ))) := by
  refine rp_lis rfl rfl ?_
  refine rp_lp (q := 173) rfl rfl rfl ?_
  refine rp_lgf rfl rfl rfl ?_
  refine rp_lp (q := 177) rfl rfl rfl ?_
  refine rp_lp (q := 178) rfl rfl rfl ?_
  refine rp_lil rfl rfl (by decide +kernel) (k := 2) (by decide +kernel) ?_
  refine rp_lp (q := 180) rfl rfl rfl ?_
  refine rp_lp (q := 181) rfl rfl rfl ?_
  refine rp_lsl rfl rfl (by decide +kernel) (k := 2) (by decide +kernel) ?_
  refine rp_lp (q := 183) rfl rfl rfl ?_
  refine rp_lgf rfl rfl rfl ?_
  refine rp_lp (q := 187) rfl rfl rfl ?_
  refine rp_lil rfl rfl (by decide +kernel) (k := 2) (by decide +kernel) ?_
  refine rp_lp (q := 189) rfl rfl rfl ?_
  refine rp_lp (q := 190) rfl rfl rfl ?_
  exact rp_lri rfl rfl
-- Ref_isDay
set_option maxRecDepth 20000 in
theorem D_Ref_isDay_0 {sc : rp_Sc} (a0 : Int32) (σ : rp_Mm) : rp_Le (thI (CL sc 151 [.int a0, .int 0, .int 120] σ) fun r2 σ1 => if r2 &&& 1 = r2 then RI r2 σ1 else none) (EV sc (173, 0, 0, 0, [.int a0], [], (rp_L0, σ))) := by
  refine rp_lp (q := 1) rfl rfl rfl ?_
  refine rp_lp (q := 2) rfl rfl rfl ?_
  refine rp_lp (q := 4) rfl rfl rfl ?_
  refine rp_lci (uc' := 0) (us' := 0) rfl rfl rfl rfl rfl rfl rfl rfl (fun r2 σ1 => ?_)
  exact rp_lrq rfl rfl
-- Ref_may
set_option maxRecDepth 20000 in
theorem D_Ref_may_0 {sc : rp_Sc} (a0 : Int32) (a1 : Int32) (a2 : Int32) (σ : rp_Mm) : rp_Le (thI (CL sc 175 [.ref 48, .int a0, .int a1, .int a2] σ) fun r2 σ1 => if (r2 = 0 : Prop) then RI (-1) σ1 else thI (CL sc 177 [.ref 48, .int a0, .int a1, .int a2] σ1) fun r4 σ3 => RI r4 σ3) (EV sc (174, 0, 0, 0, [.ref 48, .int a0, .int a1, .int a2], [], (rp_L0, σ))) := by
  refine rp_lp (q := 1) rfl rfl rfl ?_
  refine rp_lp (q := 2) rfl rfl rfl ?_
  refine rp_lp (q := 3) rfl rfl rfl ?_
  refine rp_lp (q := 4) rfl rfl rfl ?_
  refine rp_lci (uc' := 0) (us' := 0) rfl (rp_rcv rfl) rfl rfl rfl rfl rfl rfl (fun r2 σ1 => ?_)
  refine rp_lbr (a := 20) (b := 10) rfl rfl rfl ?_ ?_
  ·
    refine rp_lp (q := 21) rfl rfl rfl ?_
    exact rp_lri rfl rfl
  ·
    refine rp_lp (q := 11) rfl rfl rfl ?_
    refine rp_lp (q := 12) rfl rfl rfl ?_
    refine rp_lp (q := 13) rfl rfl rfl ?_
    refine rp_lp (q := 14) rfl rfl rfl ?_
    refine rp_lci (uc' := 0) (us' := 0) rfl (rp_rcv rfl) rfl rfl rfl rfl rfl rfl (fun r4 σ3 => ?_)
    refine rp_lp (q := 21) rfl rfl rfl ?_
    exact rp_lri rfl rfl
-- Ref_isAsked
set_option maxRecDepth 20000 in
theorem D_Ref_isAsked_0 {sc : rp_Sc} (a0 : Int32) (a1 : Int32) (a2 : Int32) (σ : rp_Mm) : rp_Le (thI (CL sc 176 [.ref 48, .int a0] σ) fun r2 σ1 => if (r2 = 0 : Prop) then RI 0 σ1 else thI (CL sc 154 [.ref 48, .int a1] σ1) fun r4 σ3 => if (r4 = 0 : Prop) then RI 0 σ3 else thI (CL sc 173 [.int a2] σ3) fun r6 σ5 => if (r6 = 0 : Prop) then RI 0 σ5 else RI 1 σ5) (EV sc (175, 0, 0, 0, [.ref 48, .int a0, .int a1, .int a2], [], (rp_L0, σ))) := by
  refine rp_lp (q := 1) rfl rfl rfl ?_
  refine rp_lp (q := 2) rfl rfl rfl ?_
  refine rp_lci (uc' := 0) (us' := 0) rfl (rp_rcv rfl) rfl rfl rfl rfl rfl rfl (fun r2 σ1 => ?_)
  refine rp_lbr (a := 27) (b := 8) rfl rfl rfl ?_ ?_
  ·
    refine rp_lp (q := 28) rfl rfl rfl ?_
    exact rp_lrz rfl rfl (by decide)
  ·
    refine rp_lp (q := 9) rfl rfl rfl ?_
    refine rp_lp (q := 10) rfl rfl rfl ?_
    refine rp_lci (uc' := 0) (us' := 0) rfl (rp_rcv rfl) rfl rfl rfl rfl rfl rfl (fun r4 σ3 => ?_)
    refine rp_lbr (a := 27) (b := 16) rfl rfl rfl ?_ ?_
    ·
      refine rp_lp (q := 28) rfl rfl rfl ?_
      exact rp_lrz rfl rfl (by decide)
    ·
      refine rp_lp (q := 17) rfl rfl rfl ?_
      refine rp_lci (uc' := 0) (us' := 0) rfl rfl rfl rfl rfl rfl rfl rfl (fun r6 σ5 => ?_)
      refine rp_lbr (a := 27) (b := 23) rfl rfl rfl ?_ ?_
      ·
        refine rp_lp (q := 28) rfl rfl rfl ?_
        exact rp_lrz rfl rfl (by decide)
      ·
        refine rp_lp (q := 24) rfl rfl rfl ?_
        refine rp_lp (q := 28) rfl rfl rfl ?_
        exact rp_lrz rfl rfl (by decide)
-- Ref_isPass
set_option maxRecDepth 20000 in
theorem D_Ref_isPass_0 {sc : rp_Sc} (a0 : Int32) (σ : rp_Mm) : rp_Le (thI (CL sc 151 [.int a0, .int 0, .int ((σ 49 2) - (1 : Int32))] σ) fun r2 σ1 => if r2 &&& 1 = r2 then RI r2 σ1 else none) (EV sc (176, 0, 0, 0, [.ref 48, .int a0], [], (rp_L0, σ))) := by
  refine rp_lp (q := 1) rfl rfl rfl ?_
  refine rp_lp (q := 2) rfl rfl rfl ?_
  refine rp_lp (q := 3) rfl rfl rfl ?_
  refine rp_lgf rfl rfl rfl ?_
  refine rp_lp (q := 7) rfl rfl rfl ?_
  refine rp_lil rfl rfl (by decide +kernel) (k := 2) (by decide +kernel) ?_
  refine rp_lp (q := 9) rfl rfl rfl ?_
  refine rp_lp (q := 10) rfl rfl rfl ?_
  refine rp_lci (uc' := 0) (us' := 0) rfl rfl rfl rfl rfl rfl rfl rfl (fun r2 σ1 => ?_)
  exact rp_lrq rfl rfl
-- Ref_bar
set_option maxRecDepth 20000 in
theorem D_Ref_bar_0 {sc : rp_Sc} (a0 : Int32) (a1 : Int32) (a2 : Int32) (σ : rp_Mm) : rp_Le (thI (CL sc 178 [.ref 48, .ref 53, .int ((16 : Int32) * a0), .int a1] σ) fun r2 σ1 => if (r2 = 0 : Prop) then RI 1 σ1 else bif rp_ix (((16 : Int32) * a0) + (5 : Int32)) 128 then thI (CL sc 180 [.ref 48, .int a1, .int a2, .int (σ1 53 (((16 : Int32) * a0) + (5 : Int32)).toNatClampNeg)] σ1) fun r4 σ3 => bif rp_ix (((16 : Int32) * a0) + (12 : Int32)) 128 then bif rp_ix (((16 : Int32) * a0) + (12 : Int32)) 128 then bif rp_ix (((16 : Int32) * a0) + (1 : Int32)) 128 then thI (CL sc 151 [.int r4, .int (σ3 53 (((16 : Int32) * a0) + (12 : Int32)).toNatClampNeg), .int (((σ3 53 (((16 : Int32) * a0) + (12 : Int32)).toNatClampNeg) + (σ3 53 (((16 : Int32) * a0) + (1 : Int32)).toNatClampNeg)) - (1 : Int32))] σ3) fun r6 σ5 => if (r6 = 0 : Prop) then RI 2 σ5 else bif rp_ix (((16 : Int32) * a0) + (13 : Int32)) 128 then if ((σ5 53 (((16 : Int32) * a0) + (13 : Int32)).toNatClampNeg) = 1 : Prop) then RI 3 σ5 else thI (CL sc 181 [.ref 48, .int a0, .int r4, .int (σ5 49 3)] σ5) fun r8 σ7 => if (r8 = 0 : Prop) then thI (CL sc 183 [.ref 48, .int a0] σ7) fun r10 σ9 => bif rp_ix (((16 : Int32) * a0) + (0 : Int32)) 128 then if (r10 = (σ9 53 (((16 : Int32) * a0) + (0 : Int32)).toNatClampNeg) : Prop) then RI 4 σ9 else EV sc (177, 0, 0, 132, [.ref 48, .int a0, .int a1, .int a2, .int ((16 : Int32) * a0), .int r4], [], (rp_L0, σ9)) else none else EV sc (177, 0, 0, 132, [.ref 48, .int a0, .int a1, .int a2, .int ((16 : Int32) * a0), .int r4], [], (rp_L0, σ7)) else none else none else none else none else none) (EV sc (177, 0, 0, 0, [.ref 48, .int a0, .int a1, .int a2, rp_U, rp_U], [], (rp_L0, σ))) := by
  refine rp_lp (q := 2) rfl rfl rfl ?_
  refine rp_lp (q := 3) rfl rfl rfl ?_
  refine rp_lp (q := 4) rfl rfl rfl ?_
  refine rp_lp (q := 6) (ls' := [.ref 48, .int a0, .int a1, .int a2, .int ((16 : Int32) * a0), rp_U]) rfl rfl rfl ?_
  refine rp_lp (q := 7) rfl rfl rfl ?_
  refine rp_lp (q := 8) rfl rfl rfl ?_
  refine rp_lgf rfl rfl rfl ?_
  refine rp_lp (q := 13) rfl rfl rfl ?_
  refine rp_lp (q := 14) rfl rfl rfl ?_
  refine rp_lci (uc' := 0) (us' := 0) rfl (rp_rcv rfl) rfl rfl rfl rfl rfl rfl (fun r2 σ1 => ?_)
  refine rp_lbr (a := 20) (b := 22) rfl rfl rfl ?_ ?_
  ·
    refine rp_lp (q := 21) rfl rfl rfl ?_
    exact rp_lri rfl rfl
  ·
    refine rp_lp (q := 23) rfl rfl rfl ?_
    refine rp_lp (q := 24) rfl rfl rfl ?_
    refine rp_lp (q := 25) rfl rfl rfl ?_
    refine rp_lp (q := 26) rfl rfl rfl ?_
    refine rp_lgf rfl rfl rfl ?_
    refine rp_lp (q := 31) rfl rfl rfl ?_
    refine rp_lp (q := 32) rfl rfl rfl ?_
    refine rp_lp (q := 33) rfl rfl rfl ?_
    refine rp_lia rfl rfl ?_
    refine rp_lci (uc' := 0) (us' := 0) rfl (rp_rcv rfl) rfl rfl rfl rfl rfl rfl (fun r4 σ3 => ?_)
    refine rp_lp (q := 39) (ls' := [.ref 48, .int a0, .int a1, .int a2, .int ((16 : Int32) * a0), .int r4]) rfl rfl rfl ?_
    refine rp_lp (q := 41) rfl rfl rfl ?_
    refine rp_lp (q := 42) rfl rfl rfl ?_
    refine rp_lgf rfl rfl rfl ?_
    refine rp_lp (q := 47) rfl rfl rfl ?_
    refine rp_lp (q := 49) rfl rfl rfl ?_
    refine rp_lp (q := 50) rfl rfl rfl ?_
    refine rp_lia rfl rfl ?_
    refine rp_lp (q := 52) rfl rfl rfl ?_
    refine rp_lgf rfl rfl rfl ?_
    refine rp_lp (q := 57) rfl rfl rfl ?_
    refine rp_lp (q := 59) rfl rfl rfl ?_
    refine rp_lp (q := 60) rfl rfl rfl ?_
    refine rp_lia rfl rfl ?_
    refine rp_lp (q := 62) rfl rfl rfl ?_
    refine rp_lgf rfl rfl rfl ?_
    refine rp_lp (q := 67) rfl rfl rfl ?_
    refine rp_lp (q := 68) rfl rfl rfl ?_
    refine rp_lp (q := 69) rfl rfl rfl ?_
    refine rp_lia rfl rfl ?_
    refine rp_lp (q := 71) rfl rfl rfl ?_
    refine rp_lp (q := 72) rfl rfl rfl ?_
    refine rp_lp (q := 73) rfl rfl rfl ?_
    refine rp_lci (uc' := 0) (us' := 0) rfl rfl rfl rfl rfl rfl rfl rfl (fun r6 σ5 => ?_)
    refine rp_lbr (a := 79) (b := 81) rfl rfl rfl ?_ ?_
    ·
      refine rp_lp (q := 80) rfl rfl rfl ?_
      exact rp_lri rfl rfl
    ·
      refine rp_lp (q := 82) rfl rfl rfl ?_
      refine rp_lgf rfl rfl rfl ?_
      refine rp_lp (q := 87) rfl rfl rfl ?_
      refine rp_lp (q := 89) rfl rfl rfl ?_
      refine rp_lp (q := 90) rfl rfl rfl ?_
      refine rp_lia rfl rfl ?_
      refine rp_lp (q := 92) rfl rfl rfl ?_
      refine rp_lbr (a := 95) (b := 97) rfl rfl rfl ?_ ?_
      ·
        refine rp_lp (q := 96) rfl rfl rfl ?_
        exact rp_lri rfl rfl
      ·
        refine rp_lp (q := 98) rfl rfl rfl ?_
        refine rp_lp (q := 99) rfl rfl rfl ?_
        refine rp_lp (q := 101) rfl rfl rfl ?_
        refine rp_lp (q := 102) rfl rfl rfl ?_
        refine rp_lgf rfl rfl rfl ?_
        refine rp_lp (q := 106) rfl rfl rfl ?_
        refine rp_lil rfl rfl (by decide +kernel) (k := 3) (by decide +kernel) ?_
        refine rp_lci (uc' := 0) (us' := 0) rfl (rp_rcv rfl) rfl rfl rfl rfl rfl rfl (fun r8 σ7 => ?_)
        refine rp_lbr (a := 113) (b := 132) rfl rfl rfl ?_ ?_
        ·
          refine rp_lp (q := 114) rfl rfl rfl ?_
          refine rp_lp (q := 115) rfl rfl rfl ?_
          refine rp_lci (uc' := 0) (us' := 0) rfl (rp_rcv rfl) rfl rfl rfl rfl rfl rfl (fun r10 σ9 => ?_)
          refine rp_lp (q := 119) rfl rfl rfl ?_
          refine rp_lgf rfl rfl rfl ?_
          refine rp_lp (q := 124) rfl rfl rfl ?_
          refine rp_lp (q := 125) rfl rfl rfl ?_
          refine rp_lp (q := 126) rfl rfl rfl ?_
          refine rp_lia rfl rfl ?_
          refine rp_lbr (a := 130) (b := 132) rfl rfl rfl ?_ ?_
          ·
            refine rp_lp (q := 131) rfl rfl rfl ?_
            exact rp_lri rfl rfl
          ·
            exact rp_Le_rfl
        ·
          exact rp_Le_rfl
set_option maxRecDepth 20000 in
theorem D_Ref_bar_132 {sc : rp_Sc} (x1 : Int32) (x2 : Int32) (x3 : Int32) (x4 : Int32) (x5 : Int32) (σ : rp_Mm) : rp_Le (bif rp_ix (((8 : Int32) * x2) + (5 : Int32)) 128 then if ((σ 51 (((8 : Int32) * x2) + (5 : Int32)).toNatClampNeg) = 1 : Prop) then thI (CL sc 184 [.ref 48, .int x2, .int x3] σ) fun r2 σ1 => bif rp_ix (((8 : Int32) * x2) + (7 : Int32)) 128 then if (r2 < (σ1 51 (((8 : Int32) * x2) + (7 : Int32)).toNatClampNeg) : Prop) then RI 0 σ1 else RI 5 σ1 else none else RI 0 σ else none) (EV sc (177, 0, 0, 132, [.ref 48, .int x1, .int x2, .int x3, .int x4, .int x5], [], (rp_L0, σ))) := by
  refine rp_lp (q := 133) rfl rfl rfl ?_
  refine rp_lgf rfl rfl rfl ?_
  refine rp_lp (q := 138) rfl rfl rfl ?_
  refine rp_lp (q := 139) rfl rfl rfl ?_
  refine rp_lp (q := 140) rfl rfl rfl ?_
  refine rp_lp (q := 141) rfl rfl rfl ?_
  refine rp_lp (q := 142) rfl rfl rfl ?_
  refine rp_lia rfl rfl ?_
  refine rp_lp (q := 144) rfl rfl rfl ?_
  refine rp_lbr (a := 147) (b := 172) rfl rfl rfl ?_ ?_
  ·
    refine rp_lp (q := 148) rfl rfl rfl ?_
    refine rp_lp (q := 149) rfl rfl rfl ?_
    refine rp_lp (q := 150) rfl rfl rfl ?_
    refine rp_lci (uc' := 0) (us' := 0) rfl (rp_rcv rfl) rfl rfl rfl rfl rfl rfl (fun r2 σ1 => ?_)
    refine rp_lp (q := 154) rfl rfl rfl ?_
    refine rp_lgf rfl rfl rfl ?_
    refine rp_lp (q := 159) rfl rfl rfl ?_
    refine rp_lp (q := 160) rfl rfl rfl ?_
    refine rp_lp (q := 161) rfl rfl rfl ?_
    refine rp_lp (q := 163) rfl rfl rfl ?_
    refine rp_lp (q := 164) rfl rfl rfl ?_
    refine rp_lia rfl rfl ?_
    refine rp_lbr (a := 172) (b := 168) rfl rfl rfl ?_ ?_
    ·
      refine rp_lp (q := 173) rfl rfl rfl ?_
      exact rp_lri rfl rfl
    ·
      refine rp_lp (q := 169) rfl rfl rfl ?_
      refine rp_lp (q := 173) rfl rfl rfl ?_
      exact rp_lri rfl rfl
  ·
    refine rp_lp (q := 173) rfl rfl rfl ?_
    exact rp_lri rfl rfl
-- Ref_letsTrain
set_option maxRecDepth 20000 in
theorem D_Ref_letsTrain_0 {sc : rp_Sc} {a0 a0q : Nat} (ha0 : rp_L0[a0 + 1]? = some (.inl (false, a0q))) (a1 : Int32) (a2 : Int32) (σ : rp_Mm) : rp_Le (bif rp_ix ((8 : Int32) * a2) 128 then bif rp_ix (((5 : Int32) * (σ 51 ((8 : Int32) * a2).toNatClampNeg)) + (2 : Int32)) 70 then thI (CL sc 179 [.ref (a0 + 1), .int a1, .int (σ 51 ((8 : Int32) * a2).toNatClampNeg), .int (σ 50 (((5 : Int32) * (σ 51 ((8 : Int32) * a2).toNatClampNeg)) + (2 : Int32)).toNatClampNeg)] σ) fun r2 σ1 => if r2 &&& 1 = r2 then RI r2 σ1 else none else none else none) (EV sc (178, 0, 0, 0, [.ref 48, .ref (a0 + 1), .int a1, .int a2, rp_U], [], (rp_L0, σ))) := by
  refine rp_lp (q := 1) rfl rfl rfl ?_
  refine rp_lgf rfl rfl rfl ?_
  refine rp_lp (q := 6) rfl rfl rfl ?_
  refine rp_lp (q := 7) rfl rfl rfl ?_
  refine rp_lp (q := 8) rfl rfl rfl ?_
  refine rp_lia rfl rfl ?_
  refine rp_lp (q := 11) (ls' := [.ref 48, .ref (a0 + 1), .int a1, .int a2, .int (σ 51 ((8 : Int32) * a2).toNatClampNeg)]) rfl rfl rfl ?_
  refine rp_lp (q := 12) rfl rfl rfl ?_
  refine rp_lp (q := 13) rfl rfl rfl ?_
  refine rp_lp (q := 15) rfl rfl rfl ?_
  refine rp_lp (q := 16) rfl rfl rfl ?_
  refine rp_lgf rfl rfl rfl ?_
  refine rp_lp (q := 20) rfl rfl rfl ?_
  refine rp_lp (q := 22) rfl rfl rfl ?_
  refine rp_lp (q := 23) rfl rfl rfl ?_
  refine rp_lp (q := 24) rfl rfl rfl ?_
  refine rp_lp (q := 25) rfl rfl rfl ?_
  refine rp_lia rfl rfl ?_
  refine rp_lci (uc' := 0) (us' := 0) rfl rfl rfl rfl rfl rfl rfl rfl (fun r2 σ1 => ?_)
  exact rp_lrq rfl rfl
-- Ref_lets
set_option maxRecDepth 20000 in
theorem D_Ref_lets_0 {sc : rp_Sc} {a0 a0q : Nat} (ha0 : rp_L0[a0 + 1]? = some (.inl (false, a0q))) (a1 : Int32) (a2 : Int32) (a3 : Int32) (σ : rp_Mm) : rp_Le (bif rp_ix (a1 + (3 : Int32)) a0q then if ((((σ (a0 + 1) (a1 + (3 : Int32)).toNatClampNeg) >>> (a3 &&& 31)) &&& (1 : Int32)) = 1 : Prop) then bif rp_ix (a1 + (4 : Int32)) a0q then if ((((σ (a0 + 1) (a1 + (4 : Int32)).toNatClampNeg) >>> (a2 &&& 31)) &&& (1 : Int32)) = 0 : Prop) then RI 1 σ else RI 0 σ else none else RI 0 σ else none) (EV sc (179, 0, 0, 0, [.ref (a0 + 1), .int a1, .int a2, .int a3], [], (rp_L0, σ))) := by
  refine rp_lp (q := 1) rfl rfl rfl ?_
  refine rp_lp (q := 2) rfl rfl rfl ?_
  refine rp_lp (q := 3) rfl rfl rfl ?_
  refine rp_lp (q := 4) rfl rfl rfl ?_
  refine rp_lia rfl ha0 ?_
  refine rp_lp (q := 6) rfl rfl rfl ?_
  refine rp_lp (q := 7) rfl rfl rfl ?_
  refine rp_lp (q := 8) rfl rfl rfl ?_
  refine rp_lp (q := 9) rfl rfl rfl ?_
  refine rp_lp (q := 10) rfl rfl rfl ?_
  refine rp_lbr (a := 13) (b := 29) rfl rfl rfl ?_ ?_
  ·
    refine rp_lp (q := 14) rfl rfl rfl ?_
    refine rp_lp (q := 15) rfl rfl rfl ?_
    refine rp_lp (q := 16) rfl rfl rfl ?_
    refine rp_lp (q := 17) rfl rfl rfl ?_
    refine rp_lia rfl ha0 ?_
    refine rp_lp (q := 19) rfl rfl rfl ?_
    refine rp_lp (q := 20) rfl rfl rfl ?_
    refine rp_lp (q := 21) rfl rfl rfl ?_
    refine rp_lp (q := 22) rfl rfl rfl ?_
    refine rp_lbr (a := 25) (b := 29) rfl rfl rfl ?_ ?_
    ·
      refine rp_lp (q := 26) rfl rfl rfl ?_
      refine rp_lp (q := 30) rfl rfl rfl ?_
      exact rp_lrz rfl rfl (by decide)
    ·
      refine rp_lp (q := 30) rfl rfl rfl ?_
      exact rp_lrz rfl rfl (by decide)
  ·
    refine rp_lp (q := 30) rfl rfl rfl ?_
    exact rp_lrz rfl rfl (by decide)
-- Ref_counted
set_option maxRecDepth 20000 in
theorem D_Ref_counted_0 {sc : rp_Sc} (a0 : Int32) (a1 : Int32) (a2 : Int32) (σ : rp_Mm) : rp_Le (thI (CL sc 155 [.ref 48, .int a0] σ) fun r2 σ1 => if (r2 = 0 : Prop) then RI a1 σ1 else bif rp_ix (((8 : Int32) * a0) + (3 : Int32)) 128 then if ((σ1 51 (((8 : Int32) * a0) + (3 : Int32)).toNatClampNeg) < ((60 : Int32) * a2) : Prop) then RI a1 σ1 else RI (a1 + (1 : Int32)) σ1 else none) (EV sc (180, 0, 0, 0, [.ref 48, .int a0, .int a1, .int a2], [], (rp_L0, σ))) := by
  refine rp_lp (q := 1) rfl rfl rfl ?_
  refine rp_lp (q := 2) rfl rfl rfl ?_
  refine rp_lci (uc' := 0) (us' := 0) rfl (rp_rcv rfl) rfl rfl rfl rfl rfl rfl (fun r2 σ1 => ?_)
  refine rp_lbr (a := 32) (b := 8) rfl rfl rfl ?_ ?_
  ·
    refine rp_lp (q := 33) rfl rfl rfl ?_
    exact rp_lri rfl rfl
  ·
    refine rp_lp (q := 9) rfl rfl rfl ?_
    refine rp_lgf rfl rfl rfl ?_
    refine rp_lp (q := 14) rfl rfl rfl ?_
    refine rp_lp (q := 15) rfl rfl rfl ?_
    refine rp_lp (q := 16) rfl rfl rfl ?_
    refine rp_lp (q := 17) rfl rfl rfl ?_
    refine rp_lp (q := 18) rfl rfl rfl ?_
    refine rp_lia rfl rfl ?_
    refine rp_lp (q := 21) rfl rfl rfl ?_
    refine rp_lp (q := 22) rfl rfl rfl ?_
    refine rp_lp (q := 23) rfl rfl rfl ?_
    refine rp_lbr (a := 32) (b := 26) rfl rfl rfl ?_ ?_
    ·
      refine rp_lp (q := 33) rfl rfl rfl ?_
      exact rp_lri rfl rfl
    ·
      refine rp_lp (q := 27) rfl rfl rfl ?_
      refine rp_lp (q := 28) rfl rfl rfl ?_
      refine rp_lp (q := 29) rfl rfl rfl ?_
      refine rp_lp (q := 33) rfl rfl rfl ?_
      exact rp_lri rfl rfl
-- Ref_isCounted
set_option maxRecDepth 20000 in
theorem D_Ref_isCounted_0 {sc : rp_Sc} (a0 : Int32) (a1 : Int32) (a2 : Int32) (σ : rp_Mm) : rp_Le (EV sc (181, 0, 0, 6, [.ref 48, .int a0, .int a1, .int a2, .int 0, .int 0], [], (rp_L0, σ))) (EV sc (181, 0, 0, 0, [.ref 48, .int a0, .int a1, .int a2, rp_U, rp_U], [], (rp_L0, σ))) := by
  refine rp_lp (q := 1) rfl rfl rfl ?_
  refine rp_lp (q := 3) (ls' := [.ref 48, .int a0, .int a1, .int a2, .int 0, rp_U]) rfl rfl rfl ?_
  refine rp_lp (q := 4) rfl rfl rfl ?_
  refine rp_lp (q := 6) (ls' := [.ref 48, .int a0, .int a1, .int a2, .int 0, .int 0]) rfl rfl rfl ?_
  exact rp_Le_rfl
set_option maxRecDepth 20000 in
theorem D_Ref_isCounted_6 {sc : rp_Sc} (x1 : Int32) (x2 : Int32) (x3 : Int32) (x4 : Int32) (x5 : Int32) (σ : rp_Mm) : rp_Le (if (x3 ≤ x5 : Prop) then if x4 &&& 1 = x4 then RI x4 σ else none else if (x4 = 0 : Prop) then bif rp_ix ((3 : Int32) * x5) 120 then if ((σ 54 ((3 : Int32) * x5).toNatClampNeg) = x1 : Prop) then thI (CL sc 182 [.ref 48, .int x5] σ) fun r2 σ1 => if (r2 = x2 : Prop) then EV sc (181, 0, 0, 40, [.ref 48, .int x1, .int x2, .int x3, .int x4, .int x5], [], (rp_L0, σ1)) else EV sc (181, 0, 0, 44, [.ref 48, .int x1, .int x2, .int x3, .int x4, .int x5], [], (rp_L0, σ1)) else EV sc (181, 0, 0, 44, [.ref 48, .int x1, .int x2, .int x3, .int x4, .int x5], [], (rp_L0, σ)) else none else EV sc (181, 0, 0, 40, [.ref 48, .int x1, .int x2, .int x3, .int x4, .int x5], [], (rp_L0, σ))) (EV sc (181, 0, 0, 6, [.ref 48, .int x1, .int x2, .int x3, .int x4, .int x5], [], (rp_L0, σ))) := by
  refine rp_lp (q := 8) rfl rfl rfl ?_
  refine rp_lp (q := 9) rfl rfl rfl ?_
  refine rp_lbr (a := 53) (b := 12) rfl rfl rfl ?_ ?_
  ·
    refine rp_lp (q := 55) rfl rfl rfl ?_
    exact rp_lrq rfl rfl
  ·
    refine rp_lp (q := 14) rfl rfl rfl ?_
    refine rp_lbr (a := 17) (b := 40) rfl rfl rfl ?_ ?_
    ·
      refine rp_lp (q := 18) rfl rfl rfl ?_
      refine rp_lgf rfl rfl rfl ?_
      refine rp_lp (q := 22) rfl rfl rfl ?_
      refine rp_lp (q := 24) rfl rfl rfl ?_
      refine rp_lp (q := 25) rfl rfl rfl ?_
      refine rp_lia rfl rfl ?_
      refine rp_lp (q := 27) rfl rfl rfl ?_
      refine rp_lbr (a := 30) (b := 44) rfl rfl rfl ?_ ?_
      ·
        refine rp_lp (q := 31) rfl rfl rfl ?_
        refine rp_lp (q := 33) rfl rfl rfl ?_
        refine rp_lci (uc' := 0) (us' := 0) rfl (rp_rcv rfl) rfl rfl rfl rfl rfl rfl (fun r2 σ1 => ?_)
        refine rp_lp (q := 37) rfl rfl rfl ?_
        refine rp_lbr (a := 40) (b := 44) rfl rfl rfl ?_ ?_
        ·
          exact rp_Le_rfl
        ·
          exact rp_Le_rfl
      ·
        exact rp_Le_rfl
    ·
      exact rp_Le_rfl
set_option maxRecDepth 20000 in
theorem D_Ref_isCounted_40 {sc : rp_Sc} (x1 : Int32) (x2 : Int32) (x3 : Int32) (x4 : Int32) (x5 : Int32) (σ : rp_Mm) : rp_Le (EV sc (181, 0, 0, 45, [.ref 48, .int x1, .int x2, .int x3, .int x4, .int x5], [.int 1], (rp_L0, σ))) (EV sc (181, 0, 0, 40, [.ref 48, .int x1, .int x2, .int x3, .int x4, .int x5], [], (rp_L0, σ))) := by
  refine rp_lp (q := 41) rfl rfl rfl ?_
  refine rp_lp (q := 45) rfl rfl rfl ?_
  exact rp_Le_rfl
set_option maxRecDepth 20000 in
theorem D_Ref_isCounted_44 {sc : rp_Sc} (x1 : Int32) (x2 : Int32) (x3 : Int32) (x4 : Int32) (x5 : Int32) (σ : rp_Mm) : rp_Le (EV sc (181, 0, 0, 45, [.ref 48, .int x1, .int x2, .int x3, .int x4, .int x5], [.int 0], (rp_L0, σ))) (EV sc (181, 0, 0, 44, [.ref 48, .int x1, .int x2, .int x3, .int x4, .int x5], [], (rp_L0, σ))) := by
  refine rp_lp (q := 45) rfl rfl rfl ?_
  exact rp_Le_rfl
set_option maxRecDepth 20000 in
theorem D_Ref_isCounted_45 {sc : rp_Sc} (x1 : Int32) (x2 : Int32) (x3 : Int32) (x4 : Int32) (x5 : Int32) (y0 : Int32) (σ : rp_Mm) : rp_Le (EV sc (181, 0, 0, 6, [.ref 48, .int x1, .int x2, .int x3, .int y0, .int (x5 + 1)], [], (rp_L0, σ))) (EV sc (181, 0, 0, 45, [.ref 48, .int x1, .int x2, .int x3, .int x4, .int x5], [.int y0], (rp_L0, σ))) := by
  refine rp_lp (q := 47) (ls' := [.ref 48, .int x1, .int x2, .int x3, .int y0, .int x5]) rfl rfl rfl ?_
  refine rp_lp (q := 50) (ls' := [.ref 48, .int x1, .int x2, .int x3, .int y0, .int (x5 + 1)]) rfl rfl rfl ?_
  refine rp_lp (q := 6) rfl rfl rfl ?_
  exact rp_Le_rfl
-- Ref_countedOf
set_option maxRecDepth 20000 in
theorem D_Ref_countedOf_0 {sc : rp_Sc} (a0 : Int32) (σ : rp_Mm) : rp_Le (bif rp_ix ((3 : Int32) * a0) 120 then bif rp_ix (((3 : Int32) * a0) + (1 : Int32)) 120 then bif rp_ix (((3 : Int32) * a0) + (2 : Int32)) 120 then bif rp_ix (((16 : Int32) * (σ 54 ((3 : Int32) * a0).toNatClampNeg)) + (5 : Int32)) 128 then thI (CL sc 180 [.ref 48, .int (σ 54 (((3 : Int32) * a0) + (1 : Int32)).toNatClampNeg), .int (σ 54 (((3 : Int32) * a0) + (2 : Int32)).toNatClampNeg), .int (σ 53 (((16 : Int32) * (σ 54 ((3 : Int32) * a0).toNatClampNeg)) + (5 : Int32)).toNatClampNeg)] σ) fun r2 σ1 => RI r2 σ1 else none else none else none else none) (EV sc (182, 0, 0, 0, [.ref 48, .int a0, rp_U], [], (rp_L0, σ))) := by
  refine rp_lp (q := 1) rfl rfl rfl ?_
  refine rp_lgf rfl rfl rfl ?_
  refine rp_lp (q := 5) rfl rfl rfl ?_
  refine rp_lp (q := 6) rfl rfl rfl ?_
  refine rp_lp (q := 7) rfl rfl rfl ?_
  refine rp_lia rfl rfl ?_
  refine rp_lp (q := 9) (ls' := [.ref 48, .int a0, .int (σ 54 ((3 : Int32) * a0).toNatClampNeg)]) rfl rfl rfl ?_
  refine rp_lp (q := 10) rfl rfl rfl ?_
  refine rp_lp (q := 11) rfl rfl rfl ?_
  refine rp_lgf rfl rfl rfl ?_
  refine rp_lp (q := 15) rfl rfl rfl ?_
  refine rp_lp (q := 16) rfl rfl rfl ?_
  refine rp_lp (q := 17) rfl rfl rfl ?_
  refine rp_lp (q := 18) rfl rfl rfl ?_
  refine rp_lp (q := 19) rfl rfl rfl ?_
  refine rp_lia rfl rfl ?_
  refine rp_lp (q := 21) rfl rfl rfl ?_
  refine rp_lgf rfl rfl rfl ?_
  refine rp_lp (q := 25) rfl rfl rfl ?_
  refine rp_lp (q := 26) rfl rfl rfl ?_
  refine rp_lp (q := 27) rfl rfl rfl ?_
  refine rp_lp (q := 28) rfl rfl rfl ?_
  refine rp_lp (q := 29) rfl rfl rfl ?_
  refine rp_lia rfl rfl ?_
  refine rp_lp (q := 31) rfl rfl rfl ?_
  refine rp_lgf rfl rfl rfl ?_
  refine rp_lp (q := 36) rfl rfl rfl ?_
  refine rp_lp (q := 37) rfl rfl rfl ?_
  refine rp_lp (q := 38) rfl rfl rfl ?_
  refine rp_lp (q := 39) rfl rfl rfl ?_
  refine rp_lp (q := 40) rfl rfl rfl ?_
  refine rp_lia rfl rfl ?_
  refine rp_lci (uc' := 0) (us' := 0) rfl (rp_rcv rfl) rfl rfl rfl rfl rfl rfl (fun r2 σ1 => ?_)
  exact rp_lri rfl rfl
-- Ref_countedDays
set_option maxRecDepth 20000 in
theorem D_Ref_countedDays_0 {sc : rp_Sc} (a0 : Int32) (σ : rp_Mm) : rp_Le (EV sc (183, 0, 0, 4, [.ref 48, .int a0, .int 0, .int 0], [], (rp_L0, σ))) (EV sc (183, 0, 0, 0, [.ref 48, .int a0, rp_U, rp_U], [], (rp_L0, σ))) := by
  refine rp_lp (q := 1) rfl rfl rfl ?_
  refine rp_lp (q := 2) (ls' := [.ref 48, .int a0, .int 0, rp_U]) rfl rfl rfl ?_
  refine rp_lp (q := 3) rfl rfl rfl ?_
  refine rp_lp (q := 4) (ls' := [.ref 48, .int a0, .int 0, .int 0]) rfl rfl rfl ?_
  exact rp_Le_rfl
set_option maxRecDepth 20000 in
theorem D_Ref_countedDays_4 {sc : rp_Sc} (x1 : Int32) (x2 : Int32) (x3 : Int32) (σ : rp_Mm) : rp_Le (if ((σ 49 3) ≤ x3 : Prop) then RI x2 σ else bif rp_ix ((3 : Int32) * x3) 120 then if ((σ 54 ((3 : Int32) * x3).toNatClampNeg) = x1 : Prop) then thI (CL sc 182 [.ref 48, .int x3] σ) fun r2 σ1 => thI (CL sc 181 [.ref 48, .int x1, .int r2, .int x3] σ1) fun r4 σ3 => if (r4 = 0 : Prop) then EV sc (183, 0, 0, 46, [.ref 48, .int x1, .int x2, .int x3], [.int 1, .int x2], (rp_L0, σ3)) else EV sc (183, 0, 0, 45, [.ref 48, .int x1, .int x2, .int x3], [.int x2], (rp_L0, σ3)) else EV sc (183, 0, 0, 45, [.ref 48, .int x1, .int x2, .int x3], [.int x2], (rp_L0, σ)) else none) (EV sc (183, 0, 0, 4, [.ref 48, .int x1, .int x2, .int x3], [], (rp_L0, σ))) := by
  refine rp_lp (q := 5) rfl rfl rfl ?_
  refine rp_lp (q := 6) rfl rfl rfl ?_
  refine rp_lgf rfl rfl rfl ?_
  refine rp_lp (q := 10) rfl rfl rfl ?_
  refine rp_lil rfl rfl (by decide +kernel) (k := 3) (by decide +kernel) ?_
  refine rp_lbr (a := 54) (b := 14) rfl rfl rfl ?_ ?_
  ·
    refine rp_lp (q := 55) rfl rfl rfl ?_
    exact rp_lri rfl rfl
  ·
    refine rp_lp (q := 15) rfl rfl rfl ?_
    refine rp_lp (q := 16) rfl rfl rfl ?_
    refine rp_lgf rfl rfl rfl ?_
    refine rp_lp (q := 20) rfl rfl rfl ?_
    refine rp_lp (q := 21) rfl rfl rfl ?_
    refine rp_lp (q := 22) rfl rfl rfl ?_
    refine rp_lia rfl rfl ?_
    refine rp_lp (q := 24) rfl rfl rfl ?_
    refine rp_lbr (a := 27) (b := 45) rfl rfl rfl ?_ ?_
    ·
      refine rp_lp (q := 28) rfl rfl rfl ?_
      refine rp_lp (q := 29) rfl rfl rfl ?_
      refine rp_lp (q := 30) rfl rfl rfl ?_
      refine rp_lp (q := 31) rfl rfl rfl ?_
      refine rp_lci (uc' := 0) (us' := 0) rfl (rp_rcv rfl) rfl rfl rfl rfl rfl rfl (fun r2 σ1 => ?_)
      refine rp_lp (q := 35) rfl rfl rfl ?_
      refine rp_lci (uc' := 0) (us' := 0) rfl (rp_rcv rfl) rfl rfl rfl rfl rfl rfl (fun r4 σ3 => ?_)
      refine rp_lbr (a := 41) (b := 45) rfl rfl rfl ?_ ?_
      ·
        refine rp_lp (q := 42) rfl rfl rfl ?_
        refine rp_lp (q := 46) rfl rfl rfl ?_
        exact rp_Le_rfl
      ·
        exact rp_Le_rfl
    ·
      exact rp_Le_rfl
set_option maxRecDepth 20000 in
theorem D_Ref_countedDays_46 {sc : rp_Sc} (x1 : Int32) (x2 : Int32) (x3 : Int32) (y0 : Int32) (y1 : Int32) (σ : rp_Mm) : rp_Le (EV sc (183, 0, 0, 4, [.ref 48, .int x1, .int (y1 + y0), .int (x3 + 1)], [], (rp_L0, σ))) (EV sc (183, 0, 0, 46, [.ref 48, .int x1, .int x2, .int x3], [.int y0, .int y1], (rp_L0, σ))) := by
  refine rp_lp (q := 47) rfl rfl rfl ?_
  refine rp_lp (q := 48) (ls' := [.ref 48, .int x1, .int (y1 + y0), .int x3]) rfl rfl rfl ?_
  refine rp_lp (q := 51) (ls' := [.ref 48, .int x1, .int (y1 + y0), .int (x3 + 1)]) rfl rfl rfl ?_
  refine rp_lp (q := 4) rfl rfl rfl ?_
  exact rp_Le_rfl
set_option maxRecDepth 20000 in
theorem D_Ref_countedDays_45 {sc : rp_Sc} (x1 : Int32) (x2 : Int32) (x3 : Int32) (y0 : Int32) (σ : rp_Mm) : rp_Le (EV sc (183, 0, 0, 46, [.ref 48, .int x1, .int x2, .int x3], [.int 0, .int y0], (rp_L0, σ))) (EV sc (183, 0, 0, 45, [.ref 48, .int x1, .int x2, .int x3], [.int y0], (rp_L0, σ))) := by
  refine rp_lp (q := 46) rfl rfl rfl ?_
  exact rp_Le_rfl
-- Ref_takenOn
set_option maxRecDepth 20000 in
theorem D_Ref_takenOn_0 {sc : rp_Sc} (a0 : Int32) (a1 : Int32) (σ : rp_Mm) : rp_Le (EV sc (184, 0, 0, 5, [.ref 48, .int a0, .int a1, .int 0, .int 0], [], (rp_L0, σ))) (EV sc (184, 0, 0, 0, [.ref 48, .int a0, .int a1, rp_U, rp_U], [], (rp_L0, σ))) := by
  refine rp_lp (q := 1) rfl rfl rfl ?_
  refine rp_lp (q := 2) (ls' := [.ref 48, .int a0, .int a1, .int 0, rp_U]) rfl rfl rfl ?_
  refine rp_lp (q := 3) rfl rfl rfl ?_
  refine rp_lp (q := 5) (ls' := [.ref 48, .int a0, .int a1, .int 0, .int 0]) rfl rfl rfl ?_
  exact rp_Le_rfl
set_option maxRecDepth 20000 in
theorem D_Ref_takenOn_5 {sc : rp_Sc} (x1 : Int32) (x2 : Int32) (x3 : Int32) (x4 : Int32) (σ : rp_Mm) : rp_Le (if ((σ 49 3) ≤ x4 : Prop) then RI x3 σ else bif rp_ix (((3 : Int32) * x4) + (1 : Int32)) 120 then if ((σ 54 (((3 : Int32) * x4) + (1 : Int32)).toNatClampNeg) = x1 : Prop) then bif rp_ix (((3 : Int32) * x4) + (2 : Int32)) 120 then if ((σ 54 (((3 : Int32) * x4) + (2 : Int32)).toNatClampNeg) = x2 : Prop) then EV sc (184, 0, 0, 52, [.ref 48, .int x1, .int x2, .int x3, .int x4], [.int 1, .int x3], (rp_L0, σ)) else EV sc (184, 0, 0, 51, [.ref 48, .int x1, .int x2, .int x3, .int x4], [.int x3], (rp_L0, σ)) else none else EV sc (184, 0, 0, 51, [.ref 48, .int x1, .int x2, .int x3, .int x4], [.int x3], (rp_L0, σ)) else none) (EV sc (184, 0, 0, 5, [.ref 48, .int x1, .int x2, .int x3, .int x4], [], (rp_L0, σ))) := by
  refine rp_lp (q := 7) rfl rfl rfl ?_
  refine rp_lp (q := 8) rfl rfl rfl ?_
  refine rp_lgf rfl rfl rfl ?_
  refine rp_lp (q := 12) rfl rfl rfl ?_
  refine rp_lil rfl rfl (by decide +kernel) (k := 3) (by decide +kernel) ?_
  refine rp_lbr (a := 60) (b := 16) rfl rfl rfl ?_ ?_
  ·
    refine rp_lp (q := 61) rfl rfl rfl ?_
    exact rp_lri rfl rfl
  ·
    refine rp_lp (q := 17) rfl rfl rfl ?_
    refine rp_lp (q := 18) rfl rfl rfl ?_
    refine rp_lgf rfl rfl rfl ?_
    refine rp_lp (q := 22) rfl rfl rfl ?_
    refine rp_lp (q := 24) rfl rfl rfl ?_
    refine rp_lp (q := 25) rfl rfl rfl ?_
    refine rp_lp (q := 26) rfl rfl rfl ?_
    refine rp_lp (q := 27) rfl rfl rfl ?_
    refine rp_lia rfl rfl ?_
    refine rp_lp (q := 29) rfl rfl rfl ?_
    refine rp_lbr (a := 32) (b := 51) rfl rfl rfl ?_ ?_
    ·
      refine rp_lp (q := 33) rfl rfl rfl ?_
      refine rp_lgf rfl rfl rfl ?_
      refine rp_lp (q := 37) rfl rfl rfl ?_
      refine rp_lp (q := 39) rfl rfl rfl ?_
      refine rp_lp (q := 40) rfl rfl rfl ?_
      refine rp_lp (q := 41) rfl rfl rfl ?_
      refine rp_lp (q := 42) rfl rfl rfl ?_
      refine rp_lia rfl rfl ?_
      refine rp_lp (q := 44) rfl rfl rfl ?_
      refine rp_lbr (a := 47) (b := 51) rfl rfl rfl ?_ ?_
      ·
        refine rp_lp (q := 48) rfl rfl rfl ?_
        refine rp_lp (q := 52) rfl rfl rfl ?_
        exact rp_Le_rfl
      ·
        exact rp_Le_rfl
    ·
      exact rp_Le_rfl
set_option maxRecDepth 20000 in
theorem D_Ref_takenOn_52 {sc : rp_Sc} (x1 : Int32) (x2 : Int32) (x3 : Int32) (x4 : Int32) (y0 : Int32) (y1 : Int32) (σ : rp_Mm) : rp_Le (EV sc (184, 0, 0, 5, [.ref 48, .int x1, .int x2, .int (y1 + y0), .int (x4 + 1)], [], (rp_L0, σ))) (EV sc (184, 0, 0, 52, [.ref 48, .int x1, .int x2, .int x3, .int x4], [.int y0, .int y1], (rp_L0, σ))) := by
  refine rp_lp (q := 53) rfl rfl rfl ?_
  refine rp_lp (q := 54) (ls' := [.ref 48, .int x1, .int x2, .int (y1 + y0), .int x4]) rfl rfl rfl ?_
  refine rp_lp (q := 57) (ls' := [.ref 48, .int x1, .int x2, .int (y1 + y0), .int (x4 + 1)]) rfl rfl rfl ?_
  refine rp_lp (q := 5) rfl rfl rfl ?_
  exact rp_Le_rfl
set_option maxRecDepth 20000 in
theorem D_Ref_takenOn_51 {sc : rp_Sc} (x1 : Int32) (x2 : Int32) (x3 : Int32) (x4 : Int32) (y0 : Int32) (σ : rp_Mm) : rp_Le (EV sc (184, 0, 0, 52, [.ref 48, .int x1, .int x2, .int x3, .int x4], [.int 0, .int y0], (rp_L0, σ))) (EV sc (184, 0, 0, 51, [.ref 48, .int x1, .int x2, .int x3, .int x4], [.int y0], (rp_L0, σ))) := by
  refine rp_lp (q := 52) rfl rfl rfl ?_
  exact rp_Le_rfl
-- Ref_ride
set_option maxRecDepth 20000 in
theorem D_Ref_ride_0 {sc : rp_Sc} (a0 : Int32) (a1 : Int32) (a2 : Int32) (σ : rp_Mm) : rp_Le (thI (CL sc 175 [.ref 48, .int a0, .int a1, .int a2] σ) fun r2 σ1 => if (r2 = 0 : Prop) then RI (-1) σ1 else if ((σ1 49 3) = 40 : Prop) then RI (-2) σ1 else thI (CL sc 177 [.ref 48, .int a0, .int a1, .int a2] σ1) fun r4 σ3 => if (r4 = 0 : Prop) then bif rp_ix ((3 : Int32) * (σ3 49 3)) 120 then bif rp_ix (((3 : Int32) * (σ3 49 3)) + (1 : Int32)) 120 then bif rp_ix (((3 : Int32) * (σ3 49 3)) + (2 : Int32)) 120 then thI (CL sc 186 [.ref 48, .ref 53, .int ((16 : Int32) * a0), .int a1] (rp_wr (rp_wr (rp_wr (rp_wr σ3 54 ((3 : Int32) * (σ3 49 3)).toNatClampNeg a0) 54 (((3 : Int32) * (σ3 49 3)) + (1 : Int32)).toNatClampNeg a1) 54 (((3 : Int32) * (σ3 49 3)) + (2 : Int32)).toNatClampNeg a2) 49 3 (((rp_wr (rp_wr (rp_wr σ3 54 ((3 : Int32) * (σ3 49 3)).toNatClampNeg a0) 54 (((3 : Int32) * (σ3 49 3)) + (1 : Int32)).toNatClampNeg a1) 54 (((3 : Int32) * (σ3 49 3)) + (2 : Int32)).toNatClampNeg a2) 49 3) + (1 : Int32)))) fun r6 σ5 => RI r6 σ5 else none else none else none else RI (-4) σ3) (EV sc (185, 0, 0, 0, [.ref 48, .int a0, .int a1, .int a2, rp_U], [], (rp_L0, σ))) := by
  refine rp_lp (q := 1) rfl rfl rfl ?_
  refine rp_lp (q := 2) rfl rfl rfl ?_
  refine rp_lp (q := 3) rfl rfl rfl ?_
  refine rp_lp (q := 4) rfl rfl rfl ?_
  refine rp_lci (uc' := 0) (us' := 0) rfl (rp_rcv rfl) rfl rfl rfl rfl rfl rfl (fun r2 σ1 => ?_)
  refine rp_lbr (a := 10) (b := 12) rfl rfl rfl ?_ ?_
  ·
    refine rp_lp (q := 11) rfl rfl rfl ?_
    exact rp_lri rfl rfl
  ·
    refine rp_lp (q := 13) rfl rfl rfl ?_
    refine rp_lgf rfl rfl rfl ?_
    refine rp_lp (q := 17) rfl rfl rfl ?_
    refine rp_lil rfl rfl (by decide +kernel) (k := 3) (by decide +kernel) ?_
    refine rp_lp (q := 20) rfl rfl rfl ?_
    refine rp_lbr (a := 23) (b := 26) rfl rfl rfl ?_ ?_
    ·
      refine rp_lp (q := 25) rfl rfl rfl ?_
      exact rp_lri rfl rfl
    ·
      refine rp_lp (q := 27) rfl rfl rfl ?_
      refine rp_lp (q := 28) rfl rfl rfl ?_
      refine rp_lp (q := 29) rfl rfl rfl ?_
      refine rp_lp (q := 30) rfl rfl rfl ?_
      refine rp_lci (uc' := 0) (us' := 0) rfl (rp_rcv rfl) rfl rfl rfl rfl rfl rfl (fun r4 σ3 => ?_)
      refine rp_lbr (a := 39) (b := 36) rfl rfl rfl ?_ ?_
      ·
        refine rp_lp (q := 40) rfl rfl rfl ?_
        refine rp_lp (q := 41) rfl rfl rfl ?_
        refine rp_lgf rfl rfl rfl ?_
        refine rp_lp (q := 45) rfl rfl rfl ?_
        refine rp_lil rfl rfl (by decide +kernel) (k := 3) (by decide +kernel) ?_
        refine rp_lp (q := 47) rfl rfl rfl ?_
        refine rp_lp (q := 49) (ls' := [.ref 48, .int a0, .int a1, .int a2, .int ((3 : Int32) * (σ3 49 3))]) rfl rfl rfl ?_
        refine rp_lp (q := 50) rfl rfl rfl ?_
        refine rp_lgf rfl rfl rfl ?_
        refine rp_lp (q := 55) rfl rfl rfl ?_
        refine rp_lp (q := 56) rfl rfl rfl ?_
        refine rp_lis rfl rfl ?_
        refine rp_lp (q := 58) rfl rfl rfl ?_
        refine rp_lgf rfl rfl rfl ?_
        refine rp_lp (q := 63) rfl rfl rfl ?_
        refine rp_lp (q := 64) rfl rfl rfl ?_
        refine rp_lp (q := 65) rfl rfl rfl ?_
        refine rp_lp (q := 66) rfl rfl rfl ?_
        refine rp_lis rfl rfl ?_
        refine rp_lp (q := 68) rfl rfl rfl ?_
        refine rp_lgf rfl rfl rfl ?_
        refine rp_lp (q := 73) rfl rfl rfl ?_
        refine rp_lp (q := 74) rfl rfl rfl ?_
        refine rp_lp (q := 75) rfl rfl rfl ?_
        refine rp_lp (q := 76) rfl rfl rfl ?_
        refine rp_lis rfl rfl ?_
        refine rp_lp (q := 78) rfl rfl rfl ?_
        refine rp_lgf rfl rfl rfl ?_
        refine rp_lp (q := 82) rfl rfl rfl ?_
        refine rp_lp (q := 83) rfl rfl rfl ?_
        refine rp_lil rfl rfl (by decide +kernel) (k := 3) (by decide +kernel) ?_
        refine rp_lp (q := 85) rfl rfl rfl ?_
        refine rp_lp (q := 86) rfl rfl rfl ?_
        refine rp_lsl rfl rfl (by decide +kernel) (k := 3) (by decide +kernel) ?_
        refine rp_lp (q := 88) rfl rfl rfl ?_
        refine rp_lp (q := 89) rfl rfl rfl ?_
        refine rp_lgf rfl rfl rfl ?_
        refine rp_lp (q := 94) rfl rfl rfl ?_
        refine rp_lp (q := 95) rfl rfl rfl ?_
        refine rp_lp (q := 96) rfl rfl rfl ?_
        refine rp_lp (q := 97) rfl rfl rfl ?_
        refine rp_lci (uc' := 0) (us' := 0) rfl (rp_rcv rfl) rfl rfl rfl rfl rfl rfl (fun r6 σ5 => ?_)
        exact rp_lri rfl rfl
      ·
        refine rp_lp (q := 38) rfl rfl rfl ?_
        exact rp_lri rfl rfl
-- Ref_pays
set_option maxRecDepth 20000 in
theorem D_Ref_pays_0 {sc : rp_Sc} {a0 a0q : Nat} (ha0 : rp_L0[a0 + 1]? = some (.inl (false, a0q))) (a1 : Int32) (a2 : Int32) (σ : rp_Mm) : rp_Le (bif rp_ix (((8 : Int32) * a2) + (5 : Int32)) 128 then bif rp_ix (a1 + (6 : Int32)) a0q then bif rp_ix ((8 : Int32) * a2) 128 then bif rp_ix (((5 : Int32) * (σ 51 ((8 : Int32) * a2).toNatClampNeg)) + (4 : Int32)) 70 then bif rp_ix (((8 : Int32) * a2) + (6 : Int32)) 128 then bif rp_ix (a1 + (7 : Int32)) a0q then RI (((σ 51 (((8 : Int32) * a2) + (5 : Int32)).toNatClampNeg) * (σ (a0 + 1) (a1 + (6 : Int32)).toNatClampNeg)) + ((((σ 50 (((5 : Int32) * (σ 51 ((8 : Int32) * a2).toNatClampNeg)) + (4 : Int32)).toNatClampNeg) * (σ 51 (((8 : Int32) * a2) + (6 : Int32)).toNatClampNeg)) * (σ (a0 + 1) (a1 + (7 : Int32)).toNatClampNeg)) / (100 : Int32))) σ else none else none else none else none else none else none) (EV sc (186, 0, 0, 0, [.ref 48, .ref (a0 + 1), .int a1, .int a2, rp_U, rp_U], [], (rp_L0, σ))) := by
  refine rp_lp (q := 1) rfl rfl rfl ?_
  refine rp_lgf rfl rfl rfl ?_
  refine rp_lp (q := 6) rfl rfl rfl ?_
  refine rp_lp (q := 7) rfl rfl rfl ?_
  refine rp_lp (q := 8) rfl rfl rfl ?_
  refine rp_lp (q := 9) rfl rfl rfl ?_
  refine rp_lp (q := 10) rfl rfl rfl ?_
  refine rp_lia rfl rfl ?_
  refine rp_lp (q := 12) rfl rfl rfl ?_
  refine rp_lp (q := 13) rfl rfl rfl ?_
  refine rp_lp (q := 15) rfl rfl rfl ?_
  refine rp_lp (q := 16) rfl rfl rfl ?_
  refine rp_lia rfl ha0 ?_
  refine rp_lp (q := 18) rfl rfl rfl ?_
  refine rp_lp (q := 20) (ls' := [.ref 48, .ref (a0 + 1), .int a1, .int a2, .int ((σ 51 (((8 : Int32) * a2) + (5 : Int32)).toNatClampNeg) * (σ (a0 + 1) (a1 + (6 : Int32)).toNatClampNeg)), rp_U]) rfl rfl rfl ?_
  refine rp_lp (q := 21) rfl rfl rfl ?_
  refine rp_lgf rfl rfl rfl ?_
  refine rp_lp (q := 25) rfl rfl rfl ?_
  refine rp_lp (q := 26) rfl rfl rfl ?_
  refine rp_lgf rfl rfl rfl ?_
  refine rp_lp (q := 31) rfl rfl rfl ?_
  refine rp_lp (q := 32) rfl rfl rfl ?_
  refine rp_lp (q := 33) rfl rfl rfl ?_
  refine rp_lia rfl rfl ?_
  refine rp_lp (q := 35) rfl rfl rfl ?_
  refine rp_lp (q := 36) rfl rfl rfl ?_
  refine rp_lp (q := 37) rfl rfl rfl ?_
  refine rp_lia rfl rfl ?_
  refine rp_lp (q := 39) rfl rfl rfl ?_
  refine rp_lgf rfl rfl rfl ?_
  refine rp_lp (q := 44) rfl rfl rfl ?_
  refine rp_lp (q := 45) rfl rfl rfl ?_
  refine rp_lp (q := 46) rfl rfl rfl ?_
  refine rp_lp (q := 48) rfl rfl rfl ?_
  refine rp_lp (q := 49) rfl rfl rfl ?_
  refine rp_lia rfl rfl ?_
  refine rp_lp (q := 51) rfl rfl rfl ?_
  refine rp_lp (q := 52) rfl rfl rfl ?_
  refine rp_lp (q := 53) rfl rfl rfl ?_
  refine rp_lp (q := 55) rfl rfl rfl ?_
  refine rp_lp (q := 56) rfl rfl rfl ?_
  refine rp_lia rfl ha0 ?_
  refine rp_lp (q := 58) rfl rfl rfl ?_
  refine rp_lp (q := 60) rfl rfl rfl ?_
  refine rp_ldv rfl (by decide) ?_
  refine rp_lp (q := 63) (ls' := [.ref 48, .ref (a0 + 1), .int a1, .int a2, .int ((σ 51 (((8 : Int32) * a2) + (5 : Int32)).toNatClampNeg) * (σ (a0 + 1) (a1 + (6 : Int32)).toNatClampNeg)), .int ((((σ 50 (((5 : Int32) * (σ 51 ((8 : Int32) * a2).toNatClampNeg)) + (4 : Int32)).toNatClampNeg) * (σ 51 (((8 : Int32) * a2) + (6 : Int32)).toNatClampNeg)) * (σ (a0 + 1) (a1 + (7 : Int32)).toNatClampNeg)) / (100 : Int32))]) rfl rfl rfl ?_
  refine rp_lp (q := 65) rfl rfl rfl ?_
  refine rp_lp (q := 67) rfl rfl rfl ?_
  refine rp_lp (q := 68) rfl rfl rfl ?_
  exact rp_lri rfl rfl
-- Ref_rideOf
set_option maxRecDepth 20000 in
theorem D_Ref_rideOf_0 {sc : rp_Sc} (a0 : Int32) (a1 : Int32) (σ : rp_Mm) : rp_Le (thI (CL sc 151 [.int a0, .int 0, .int ((σ 49 3) - (1 : Int32))] σ) fun r2 σ1 => if (r2 = 0 : Prop) then RI (-1) σ1 else thI (CL sc 151 [.int a1, .int 0, .int 4] σ1) fun r4 σ3 => if (r4 = 0 : Prop) then RI (-1) σ3 else if (a1 = 3 : Prop) then thI (CL sc 182 [.ref 48, .int a0] σ3) fun r6 σ5 => RI r6 σ5 else if (a1 = 4 : Prop) then thI (CL sc 188 [.ref 48, .int a0] σ3) fun r8 σ7 => RI r8 σ7 else bif rp_ix (((3 : Int32) * a0) + a1) 120 then RI (σ3 54 (((3 : Int32) * a0) + a1).toNatClampNeg) σ3 else none) (EV sc (187, 0, 0, 0, [.ref 48, .int a0, .int a1], [], (rp_L0, σ))) := by
  refine rp_lp (q := 1) rfl rfl rfl ?_
  refine rp_lp (q := 2) rfl rfl rfl ?_
  refine rp_lp (q := 3) rfl rfl rfl ?_
  refine rp_lgf rfl rfl rfl ?_
  refine rp_lp (q := 7) rfl rfl rfl ?_
  refine rp_lil rfl rfl (by decide +kernel) (k := 3) (by decide +kernel) ?_
  refine rp_lp (q := 9) rfl rfl rfl ?_
  refine rp_lp (q := 10) rfl rfl rfl ?_
  refine rp_lci (uc' := 0) (us' := 0) rfl rfl rfl rfl rfl rfl rfl rfl (fun r2 σ1 => ?_)
  refine rp_lbr (a := 25) (b := 16) rfl rfl rfl ?_ ?_
  ·
    refine rp_lp (q := 26) rfl rfl rfl ?_
    exact rp_lri rfl rfl
  ·
    refine rp_lp (q := 17) rfl rfl rfl ?_
    refine rp_lp (q := 18) rfl rfl rfl ?_
    refine rp_lp (q := 19) rfl rfl rfl ?_
    refine rp_lci (uc' := 0) (us' := 0) rfl rfl rfl rfl rfl rfl rfl rfl (fun r4 σ3 => ?_)
    refine rp_lbr (a := 25) (b := 27) rfl rfl rfl ?_ ?_
    ·
      refine rp_lp (q := 26) rfl rfl rfl ?_
      exact rp_lri rfl rfl
    ·
      refine rp_lp (q := 28) rfl rfl rfl ?_
      refine rp_lp (q := 29) rfl rfl rfl ?_
      refine rp_lbr (a := 32) (b := 40) rfl rfl rfl ?_ ?_
      ·
        refine rp_lp (q := 33) rfl rfl rfl ?_
        refine rp_lp (q := 34) rfl rfl rfl ?_
        refine rp_lci (uc' := 0) (us' := 0) rfl (rp_rcv rfl) rfl rfl rfl rfl rfl rfl (fun r6 σ5 => ?_)
        refine rp_lp (q := 63) rfl rfl rfl ?_
        exact rp_lri rfl rfl
      ·
        refine rp_lp (q := 41) rfl rfl rfl ?_
        refine rp_lp (q := 42) rfl rfl rfl ?_
        refine rp_lbr (a := 45) (b := 53) rfl rfl rfl ?_ ?_
        ·
          refine rp_lp (q := 46) rfl rfl rfl ?_
          refine rp_lp (q := 47) rfl rfl rfl ?_
          refine rp_lci (uc' := 0) (us' := 0) rfl (rp_rcv rfl) rfl rfl rfl rfl rfl rfl (fun r8 σ7 => ?_)
          refine rp_lp (q := 63) rfl rfl rfl ?_
          exact rp_lri rfl rfl
        ·
          refine rp_lp (q := 54) rfl rfl rfl ?_
          refine rp_lgf rfl rfl rfl ?_
          refine rp_lp (q := 58) rfl rfl rfl ?_
          refine rp_lp (q := 59) rfl rfl rfl ?_
          refine rp_lp (q := 60) rfl rfl rfl ?_
          refine rp_lp (q := 61) rfl rfl rfl ?_
          refine rp_lp (q := 62) rfl rfl rfl ?_
          refine rp_lia rfl rfl ?_
          exact rp_lri rfl rfl
-- Ref_paysOf
set_option maxRecDepth 20000 in
theorem D_Ref_paysOf_0 {sc : rp_Sc} (a0 : Int32) (σ : rp_Mm) : rp_Le (bif rp_ix ((3 : Int32) * a0) 120 then bif rp_ix (((3 : Int32) * a0) + (1 : Int32)) 120 then thI (CL sc 186 [.ref 48, .ref 53, .int ((16 : Int32) * (σ 54 ((3 : Int32) * a0).toNatClampNeg)), .int (σ 54 (((3 : Int32) * a0) + (1 : Int32)).toNatClampNeg)] σ) fun r2 σ1 => RI r2 σ1 else none else none) (EV sc (188, 0, 0, 0, [.ref 48, .int a0], [], (rp_L0, σ))) := by
  refine rp_lp (q := 1) rfl rfl rfl ?_
  refine rp_lp (q := 2) rfl rfl rfl ?_
  refine rp_lgf rfl rfl rfl ?_
  refine rp_lp (q := 7) rfl rfl rfl ?_
  refine rp_lp (q := 8) rfl rfl rfl ?_
  refine rp_lgf rfl rfl rfl ?_
  refine rp_lp (q := 12) rfl rfl rfl ?_
  refine rp_lp (q := 13) rfl rfl rfl ?_
  refine rp_lp (q := 14) rfl rfl rfl ?_
  refine rp_lia rfl rfl ?_
  refine rp_lp (q := 16) rfl rfl rfl ?_
  refine rp_lp (q := 17) rfl rfl rfl ?_
  refine rp_lgf rfl rfl rfl ?_
  refine rp_lp (q := 21) rfl rfl rfl ?_
  refine rp_lp (q := 22) rfl rfl rfl ?_
  refine rp_lp (q := 23) rfl rfl rfl ?_
  refine rp_lp (q := 24) rfl rfl rfl ?_
  refine rp_lp (q := 25) rfl rfl rfl ?_
  refine rp_lia rfl rfl ?_
  refine rp_lci (uc' := 0) (us' := 0) rfl (rp_rcv rfl) rfl rfl rfl rfl rfl rfl (fun r2 σ1 => ?_)
  exact rp_lri rfl rfl
-- Ref_giveBack
set_option maxRecDepth 20000 in
theorem D_Ref_giveBack_0 {sc : rp_Sc} (a0 : Int32) (σ : rp_Mm) : rp_Le (thI (CL sc 151 [.int a0, .int 0, .int ((σ 49 3) - (1 : Int32))] σ) fun r2 σ1 => if (r2 = 0 : Prop) then RI (-1) σ1 else EV sc (189, 0, 0, 32, [.ref 48, .int a0, .int ((3 : Int32) * a0)], [], (rp_L0, rp_wr σ1 49 3 ((σ1 49 3) - (1 : Int32))))) (EV sc (189, 0, 0, 0, [.ref 48, .int a0, rp_U], [], (rp_L0, σ))) := by
  refine rp_lp (q := 1) rfl rfl rfl ?_
  refine rp_lp (q := 2) rfl rfl rfl ?_
  refine rp_lp (q := 3) rfl rfl rfl ?_
  refine rp_lgf rfl rfl rfl ?_
  refine rp_lp (q := 7) rfl rfl rfl ?_
  refine rp_lil rfl rfl (by decide +kernel) (k := 3) (by decide +kernel) ?_
  refine rp_lp (q := 9) rfl rfl rfl ?_
  refine rp_lp (q := 10) rfl rfl rfl ?_
  refine rp_lci (uc' := 0) (us' := 0) rfl rfl rfl rfl rfl rfl rfl rfl (fun r2 σ1 => ?_)
  refine rp_lbr (a := 16) (b := 18) rfl rfl rfl ?_ ?_
  ·
    refine rp_lp (q := 17) rfl rfl rfl ?_
    exact rp_lri rfl rfl
  ·
    refine rp_lp (q := 19) rfl rfl rfl ?_
    refine rp_lgf rfl rfl rfl ?_
    refine rp_lp (q := 23) rfl rfl rfl ?_
    refine rp_lp (q := 24) rfl rfl rfl ?_
    refine rp_lil rfl rfl (by decide +kernel) (k := 3) (by decide +kernel) ?_
    refine rp_lp (q := 26) rfl rfl rfl ?_
    refine rp_lp (q := 27) rfl rfl rfl ?_
    refine rp_lsl rfl rfl (by decide +kernel) (k := 3) (by decide +kernel) ?_
    refine rp_lp (q := 29) rfl rfl rfl ?_
    refine rp_lp (q := 30) rfl rfl rfl ?_
    refine rp_lp (q := 31) rfl rfl rfl ?_
    refine rp_lp (q := 32) (ls' := [.ref 48, .int a0, .int ((3 : Int32) * a0)]) rfl rfl rfl ?_
    exact rp_Le_rfl
set_option maxRecDepth 20000 in
theorem D_Ref_giveBack_32 {sc : rp_Sc} (x1 : Int32) (x2 : Int32) (σ : rp_Mm) : rp_Le (if (((3 : Int32) * (σ 49 3)) ≤ x2 : Prop) then RI (σ 49 3) σ else bif rp_ix (x2 + (3 : Int32)) 120 then bif rp_ix x2 120 then EV sc (189, 0, 0, 32, [.ref 48, .int x1, .int (x2 + 1)], [], (rp_L0, rp_wr σ 54 x2.toNatClampNeg (σ 54 (x2 + (3 : Int32)).toNatClampNeg))) else none else none) (EV sc (189, 0, 0, 32, [.ref 48, .int x1, .int x2], [], (rp_L0, σ))) := by
  refine rp_lp (q := 33) rfl rfl rfl ?_
  refine rp_lp (q := 34) rfl rfl rfl ?_
  refine rp_lp (q := 35) rfl rfl rfl ?_
  refine rp_lgf rfl rfl rfl ?_
  refine rp_lp (q := 39) rfl rfl rfl ?_
  refine rp_lil rfl rfl (by decide +kernel) (k := 3) (by decide +kernel) ?_
  refine rp_lp (q := 41) rfl rfl rfl ?_
  refine rp_lbr (a := 64) (b := 44) rfl rfl rfl ?_ ?_
  ·
    refine rp_lp (q := 65) rfl rfl rfl ?_
    refine rp_lgf rfl rfl rfl ?_
    refine rp_lp (q := 69) rfl rfl rfl ?_
    refine rp_lil rfl rfl (by decide +kernel) (k := 3) (by decide +kernel) ?_
    exact rp_lri rfl rfl
  ·
    refine rp_lp (q := 45) rfl rfl rfl ?_
    refine rp_lgf rfl rfl rfl ?_
    refine rp_lp (q := 49) rfl rfl rfl ?_
    refine rp_lp (q := 50) rfl rfl rfl ?_
    refine rp_lgf rfl rfl rfl ?_
    refine rp_lp (q := 54) rfl rfl rfl ?_
    refine rp_lp (q := 55) rfl rfl rfl ?_
    refine rp_lp (q := 56) rfl rfl rfl ?_
    refine rp_lia rfl rfl ?_
    refine rp_lis rfl rfl ?_
    refine rp_lp (q := 61) (ls' := [.ref 48, .int x1, .int (x2 + 1)]) rfl rfl rfl ?_
    refine rp_lp (q := 32) rfl rfl rfl ?_
    exact rp_Le_rfl
-- Ref_taken
set_option maxRecDepth 20000 in
theorem D_Ref_taken_0 {sc : rp_Sc} (a0 : Int32) (a1 : Int32) (σ : rp_Mm) : rp_Le (thI (CL sc 154 [.ref 48, .int a0] σ) fun r2 σ1 => if (r2 = 0 : Prop) then RI (-1) σ1 else thI (CL sc 173 [.int a1] σ1) fun r4 σ3 => if (r4 = 0 : Prop) then RI (-1) σ3 else thI (CL sc 184 [.ref 48, .int a0, .int a1] σ3) fun r6 σ5 => RI r6 σ5) (EV sc (190, 0, 0, 0, [.ref 48, .int a0, .int a1], [], (rp_L0, σ))) := by
  refine rp_lp (q := 1) rfl rfl rfl ?_
  refine rp_lp (q := 2) rfl rfl rfl ?_
  refine rp_lci (uc' := 0) (us' := 0) rfl (rp_rcv rfl) rfl rfl rfl rfl rfl rfl (fun r2 σ1 => ?_)
  refine rp_lbr (a := 24) (b := 8) rfl rfl rfl ?_ ?_
  ·
    refine rp_lp (q := 25) rfl rfl rfl ?_
    exact rp_lri rfl rfl
  ·
    refine rp_lp (q := 9) rfl rfl rfl ?_
    refine rp_lci (uc' := 0) (us' := 0) rfl rfl rfl rfl rfl rfl rfl rfl (fun r4 σ3 => ?_)
    refine rp_lbr (a := 24) (b := 15) rfl rfl rfl ?_ ?_
    ·
      refine rp_lp (q := 25) rfl rfl rfl ?_
      exact rp_lri rfl rfl
    ·
      refine rp_lp (q := 16) rfl rfl rfl ?_
      refine rp_lp (q := 17) rfl rfl rfl ?_
      refine rp_lp (q := 18) rfl rfl rfl ?_
      refine rp_lci (uc' := 0) (us' := 0) rfl (rp_rcv rfl) rfl rfl rfl rfl rfl rfl (fun r6 σ5 => ?_)
      refine rp_lp (q := 25) rfl rfl rfl ?_
      exact rp_lri rfl rfl
-- Ref_pass
set_option maxRecDepth 20000 in
theorem D_Ref_pass_0 {sc : rp_Sc} (a0 : Int32) (a1 : Int32) (σ : rp_Mm) : rp_Le (thI (CL sc 176 [.ref 48, .int a0] σ) fun r2 σ1 => if (r2 = 0 : Prop) then RI (-1) σ1 else thI (CL sc 151 [.int a1, .int 0, .int 8] σ1) fun r4 σ3 => if (r4 = 0 : Prop) then RI (-1) σ3 else if a1 = 0 then bif rp_ix (((16 : Int32) * a0) + (14 : Int32)) 128 then RI (σ3 53 (((16 : Int32) * a0) + (14 : Int32)).toNatClampNeg) σ3 else none else if a1 = 1 then bif rp_ix (((16 : Int32) * a0) + (11 : Int32)) 128 then RI (σ3 53 (((16 : Int32) * a0) + (11 : Int32)).toNatClampNeg) σ3 else none else if a1 = 2 then bif rp_ix (((16 : Int32) * a0) + (12 : Int32)) 128 then RI (σ3 53 (((16 : Int32) * a0) + (12 : Int32)).toNatClampNeg) σ3 else none else if a1 = 3 then thI (CL sc 183 [.ref 48, .int a0] σ3) fun r6 σ5 => RI r6 σ5 else if a1 = 4 then EV sc (191, 0, 0, 115, [.ref 48, .int a0, .int a1, .int ((16 : Int32) * a0), .int 0, .int 0], [], (rp_L0, σ3)) else if a1 = 5 then EV sc (191, 0, 0, 161, [.ref 48, .int a0, .int a1, .int ((16 : Int32) * a0), .int 0, .int 0], [], (rp_L0, σ3)) else if a1 = 6 then bif rp_ix (((16 : Int32) * a0) + (13 : Int32)) 128 then RI (σ3 53 (((16 : Int32) * a0) + (13 : Int32)).toNatClampNeg) σ3 else none else if a1 = 7 then thI (CL sc 192 [.ref 48, .int a0] σ3) fun r8 σ7 => RI r8 σ7 else bif rp_ix (((16 : Int32) * a0) + (12 : Int32)) 128 then bif rp_ix (((16 : Int32) * a0) + (1 : Int32)) 128 then RI (((σ3 53 (((16 : Int32) * a0) + (12 : Int32)).toNatClampNeg) + (σ3 53 (((16 : Int32) * a0) + (1 : Int32)).toNatClampNeg)) - (1 : Int32)) σ3 else none else none) (EV sc (191, 0, 0, 0, [.ref 48, .int a0, .int a1, rp_U, rp_U, rp_U], [], (rp_L0, σ))) := by
  refine rp_lp (q := 1) rfl rfl rfl ?_
  refine rp_lp (q := 2) rfl rfl rfl ?_
  refine rp_lci (uc' := 0) (us' := 0) rfl (rp_rcv rfl) rfl rfl rfl rfl rfl rfl (fun r2 σ1 => ?_)
  refine rp_lbr (a := 18) (b := 8) rfl rfl rfl ?_ ?_
  ·
    refine rp_lp (q := 19) rfl rfl rfl ?_
    exact rp_lri rfl rfl
  ·
    refine rp_lp (q := 9) rfl rfl rfl ?_
    refine rp_lp (q := 10) rfl rfl rfl ?_
    refine rp_lp (q := 12) rfl rfl rfl ?_
    refine rp_lci (uc' := 0) (us' := 0) rfl rfl rfl rfl rfl rfl rfl rfl (fun r4 σ3 => ?_)
    refine rp_lbr (a := 18) (b := 20) rfl rfl rfl ?_ ?_
    ·
      refine rp_lp (q := 19) rfl rfl rfl ?_
      exact rp_lri rfl rfl
    ·
      refine rp_lp (q := 22) rfl rfl rfl ?_
      refine rp_lp (q := 23) rfl rfl rfl ?_
      refine rp_lp (q := 24) rfl rfl rfl ?_
      refine rp_lp (q := 25) (ls' := [.ref 48, .int a0, .int a1, .int ((16 : Int32) * a0), rp_U, rp_U]) rfl rfl rfl ?_
      refine rp_lp (q := 26) rfl rfl rfl ?_
      refine rp_lp (q := 28) (ls' := [.ref 48, .int a0, .int a1, .int ((16 : Int32) * a0), .int 0, rp_U]) rfl rfl rfl ?_
      refine rp_lp (q := 29) rfl rfl rfl ?_
      refine rp_lsw rfl rfl rfl ?_
      refine rp_swc ?_ ?_
      ·
        refine rp_lp (q := 77) rfl rfl rfl ?_
        refine rp_lgf rfl rfl rfl ?_
        refine rp_lp (q := 81) rfl rfl rfl ?_
        refine rp_lp (q := 83) rfl rfl rfl ?_
        refine rp_lp (q := 84) rfl rfl rfl ?_
        refine rp_lia rfl rfl ?_
        exact rp_lri rfl rfl
      ·
        refine rp_swc ?_ ?_
        ·
          refine rp_lp (q := 87) rfl rfl rfl ?_
          refine rp_lgf rfl rfl rfl ?_
          refine rp_lp (q := 91) rfl rfl rfl ?_
          refine rp_lp (q := 93) rfl rfl rfl ?_
          refine rp_lp (q := 94) rfl rfl rfl ?_
          refine rp_lia rfl rfl ?_
          exact rp_lri rfl rfl
        ·
          refine rp_swc ?_ ?_
          ·
            refine rp_lp (q := 97) rfl rfl rfl ?_
            refine rp_lgf rfl rfl rfl ?_
            refine rp_lp (q := 101) rfl rfl rfl ?_
            refine rp_lp (q := 103) rfl rfl rfl ?_
            refine rp_lp (q := 104) rfl rfl rfl ?_
            refine rp_lia rfl rfl ?_
            exact rp_lri rfl rfl
          ·
            refine rp_swc ?_ ?_
            ·
              refine rp_lp (q := 107) rfl rfl rfl ?_
              refine rp_lp (q := 108) rfl rfl rfl ?_
              refine rp_lci (uc' := 0) (us' := 0) rfl (rp_rcv rfl) rfl rfl rfl rfl rfl rfl (fun r6 σ5 => ?_)
              exact rp_lri rfl rfl
            ·
              refine rp_swc ?_ ?_
              ·
                refine rp_lp (q := 113) rfl rfl rfl ?_
                refine rp_lp (q := 115) (ls' := [.ref 48, .int a0, .int a1, .int ((16 : Int32) * a0), .int 0, .int 0]) rfl rfl rfl ?_
                exact rp_Le_rfl
              ·
                refine rp_swc ?_ ?_
                ·
                  refine rp_lp (q := 159) rfl rfl rfl ?_
                  refine rp_lp (q := 161) (ls' := [.ref 48, .int a0, .int a1, .int ((16 : Int32) * a0), .int 0, .int 0]) rfl rfl rfl ?_
                  exact rp_Le_rfl
                ·
                  refine rp_swc ?_ ?_
                  ·
                    refine rp_lp (q := 210) rfl rfl rfl ?_
                    refine rp_lgf rfl rfl rfl ?_
                    refine rp_lp (q := 214) rfl rfl rfl ?_
                    refine rp_lp (q := 216) rfl rfl rfl ?_
                    refine rp_lp (q := 217) rfl rfl rfl ?_
                    refine rp_lia rfl rfl ?_
                    exact rp_lri rfl rfl
                  ·
                    refine rp_swc ?_ ?_
                    ·
                      refine rp_lp (q := 220) rfl rfl rfl ?_
                      refine rp_lp (q := 221) rfl rfl rfl ?_
                      refine rp_lci (uc' := 0) (us' := 0) rfl (rp_rcv rfl) rfl rfl rfl rfl rfl rfl (fun r8 σ7 => ?_)
                      exact rp_lri rfl rfl
                    ·
                      refine rp_lp (q := 226) rfl rfl rfl ?_
                      refine rp_lgf rfl rfl rfl ?_
                      refine rp_lp (q := 230) rfl rfl rfl ?_
                      refine rp_lp (q := 232) rfl rfl rfl ?_
                      refine rp_lp (q := 233) rfl rfl rfl ?_
                      refine rp_lia rfl rfl ?_
                      refine rp_lp (q := 235) rfl rfl rfl ?_
                      refine rp_lgf rfl rfl rfl ?_
                      refine rp_lp (q := 239) rfl rfl rfl ?_
                      refine rp_lp (q := 240) rfl rfl rfl ?_
                      refine rp_lp (q := 241) rfl rfl rfl ?_
                      refine rp_lia rfl rfl ?_
                      refine rp_lp (q := 243) rfl rfl rfl ?_
                      refine rp_lp (q := 244) rfl rfl rfl ?_
                      refine rp_lp (q := 245) rfl rfl rfl ?_
                      exact rp_lri rfl rfl
set_option maxRecDepth 20000 in
theorem D_Ref_pass_115 {sc : rp_Sc} (x1 : Int32) (x2 : Int32) (x3 : Int32) (x4 : Int32) (x5 : Int32) (σ : rp_Mm) : rp_Le (if ((σ 49 3) ≤ x5 : Prop) then RI x4 σ else bif rp_ix ((3 : Int32) * x5) 120 then if ((σ 54 ((3 : Int32) * x5).toNatClampNeg) = x1 : Prop) then EV sc (191, 0, 0, 146, [.ref 48, .int x1, .int x2, .int x3, .int x4, .int x5], [.int 1, .int x4], (rp_L0, σ)) else EV sc (191, 0, 0, 146, [.ref 48, .int x1, .int x2, .int x3, .int x4, .int x5], [.int 0, .int x4], (rp_L0, σ)) else none) (EV sc (191, 0, 0, 115, [.ref 48, .int x1, .int x2, .int x3, .int x4, .int x5], [], (rp_L0, σ))) := by
  refine rp_lp (q := 117) rfl rfl rfl ?_
  refine rp_lp (q := 118) rfl rfl rfl ?_
  refine rp_lgf rfl rfl rfl ?_
  refine rp_lp (q := 122) rfl rfl rfl ?_
  refine rp_lil rfl rfl (by decide +kernel) (k := 3) (by decide +kernel) ?_
  refine rp_lbr (a := 155) (b := 126) rfl rfl rfl ?_ ?_
  ·
    refine rp_lp (q := 157) rfl rfl rfl ?_
    exact rp_lri rfl rfl
  ·
    refine rp_lp (q := 128) rfl rfl rfl ?_
    refine rp_lp (q := 129) rfl rfl rfl ?_
    refine rp_lgf rfl rfl rfl ?_
    refine rp_lp (q := 133) rfl rfl rfl ?_
    refine rp_lp (q := 135) rfl rfl rfl ?_
    refine rp_lp (q := 136) rfl rfl rfl ?_
    refine rp_lia rfl rfl ?_
    refine rp_lp (q := 138) rfl rfl rfl ?_
    refine rp_lbr (a := 141) (b := 145) rfl rfl rfl ?_ ?_
    ·
      refine rp_lp (q := 142) rfl rfl rfl ?_
      refine rp_lp (q := 146) rfl rfl rfl ?_
      exact rp_Le_rfl
    ·
      refine rp_lp (q := 146) rfl rfl rfl ?_
      exact rp_Le_rfl
set_option maxRecDepth 20000 in
theorem D_Ref_pass_161 {sc : rp_Sc} (x1 : Int32) (x2 : Int32) (x3 : Int32) (x4 : Int32) (x5 : Int32) (σ : rp_Mm) : rp_Le (if ((σ 49 3) ≤ x5 : Prop) then RI x4 σ else bif rp_ix ((3 : Int32) * x5) 120 then if ((σ 54 ((3 : Int32) * x5).toNatClampNeg) = x1 : Prop) then thI (CL sc 188 [.ref 48, .int x5] σ) fun r2 σ1 => EV sc (191, 0, 0, 197, [.ref 48, .int x1, .int x2, .int x3, .int x4, .int x5], [.int r2, .int x4], (rp_L0, σ1)) else EV sc (191, 0, 0, 197, [.ref 48, .int x1, .int x2, .int x3, .int x4, .int x5], [.int 0, .int x4], (rp_L0, σ)) else none) (EV sc (191, 0, 0, 161, [.ref 48, .int x1, .int x2, .int x3, .int x4, .int x5], [], (rp_L0, σ))) := by
  refine rp_lp (q := 163) rfl rfl rfl ?_
  refine rp_lp (q := 164) rfl rfl rfl ?_
  refine rp_lgf rfl rfl rfl ?_
  refine rp_lp (q := 168) rfl rfl rfl ?_
  refine rp_lil rfl rfl (by decide +kernel) (k := 3) (by decide +kernel) ?_
  refine rp_lbr (a := 206) (b := 172) rfl rfl rfl ?_ ?_
  ·
    refine rp_lp (q := 208) rfl rfl rfl ?_
    exact rp_lri rfl rfl
  ·
    refine rp_lp (q := 174) rfl rfl rfl ?_
    refine rp_lp (q := 175) rfl rfl rfl ?_
    refine rp_lgf rfl rfl rfl ?_
    refine rp_lp (q := 179) rfl rfl rfl ?_
    refine rp_lp (q := 181) rfl rfl rfl ?_
    refine rp_lp (q := 182) rfl rfl rfl ?_
    refine rp_lia rfl rfl ?_
    refine rp_lp (q := 184) rfl rfl rfl ?_
    refine rp_lbr (a := 187) (b := 196) rfl rfl rfl ?_ ?_
    ·
      refine rp_lp (q := 188) rfl rfl rfl ?_
      refine rp_lp (q := 190) rfl rfl rfl ?_
      refine rp_lci (uc' := 0) (us' := 0) rfl (rp_rcv rfl) rfl rfl rfl rfl rfl rfl (fun r2 σ1 => ?_)
      refine rp_lp (q := 197) rfl rfl rfl ?_
      exact rp_Le_rfl
    ·
      refine rp_lp (q := 197) rfl rfl rfl ?_
      exact rp_Le_rfl
set_option maxRecDepth 20000 in
theorem D_Ref_pass_146 {sc : rp_Sc} (x1 : Int32) (x2 : Int32) (x3 : Int32) (x4 : Int32) (x5 : Int32) (y0 : Int32) (y1 : Int32) (σ : rp_Mm) : rp_Le (EV sc (191, 0, 0, 115, [.ref 48, .int x1, .int x2, .int x3, .int (y1 + y0), .int (x5 + 1)], [], (rp_L0, σ))) (EV sc (191, 0, 0, 146, [.ref 48, .int x1, .int x2, .int x3, .int x4, .int x5], [.int y0, .int y1], (rp_L0, σ))) := by
  refine rp_lp (q := 147) rfl rfl rfl ?_
  refine rp_lp (q := 149) (ls' := [.ref 48, .int x1, .int x2, .int x3, .int (y1 + y0), .int x5]) rfl rfl rfl ?_
  refine rp_lp (q := 152) (ls' := [.ref 48, .int x1, .int x2, .int x3, .int (y1 + y0), .int (x5 + 1)]) rfl rfl rfl ?_
  refine rp_lp (q := 115) rfl rfl rfl ?_
  exact rp_Le_rfl
set_option maxRecDepth 20000 in
theorem D_Ref_pass_197 {sc : rp_Sc} (x1 : Int32) (x2 : Int32) (x3 : Int32) (x4 : Int32) (x5 : Int32) (y0 : Int32) (y1 : Int32) (σ : rp_Mm) : rp_Le (EV sc (191, 0, 0, 161, [.ref 48, .int x1, .int x2, .int x3, .int (y1 + y0), .int (x5 + 1)], [], (rp_L0, σ))) (EV sc (191, 0, 0, 197, [.ref 48, .int x1, .int x2, .int x3, .int x4, .int x5], [.int y0, .int y1], (rp_L0, σ))) := by
  refine rp_lp (q := 198) rfl rfl rfl ?_
  refine rp_lp (q := 200) (ls' := [.ref 48, .int x1, .int x2, .int x3, .int (y1 + y0), .int x5]) rfl rfl rfl ?_
  refine rp_lp (q := 203) (ls' := [.ref 48, .int x1, .int x2, .int x3, .int (y1 + y0), .int (x5 + 1)]) rfl rfl rfl ?_
  refine rp_lp (q := 161) rfl rfl rfl ?_
  exact rp_Le_rfl
-- Ref_refundOf
set_option maxRecDepth 20000 in
theorem D_Ref_refundOf_0 {sc : rp_Sc} (a0 : Int32) (σ : rp_Mm) : rp_Le (bif rp_ix (((16 : Int32) * a0) + (13 : Int32)) 128 then if ((σ 53 (((16 : Int32) * a0) + (13 : Int32)).toNatClampNeg) = 1 : Prop) then bif rp_ix (((16 : Int32) * a0) + (10 : Int32)) 128 then EV sc (192, 0, 0, 39, [.ref 48, .int a0, .int ((16 : Int32) * a0), rp_U, rp_U], [.int (σ 53 (((16 : Int32) * a0) + (10 : Int32)).toNatClampNeg)], (rp_L0, σ)) else none else bif rp_ix (((16 : Int32) * a0) + (9 : Int32)) 128 then EV sc (192, 0, 0, 39, [.ref 48, .int a0, .int ((16 : Int32) * a0), rp_U, rp_U], [.int (σ 53 (((16 : Int32) * a0) + (9 : Int32)).toNatClampNeg)], (rp_L0, σ)) else none else none) (EV sc (192, 0, 0, 0, [.ref 48, .int a0, rp_U, rp_U, rp_U], [], (rp_L0, σ))) := by
  refine rp_lp (q := 2) rfl rfl rfl ?_
  refine rp_lp (q := 3) rfl rfl rfl ?_
  refine rp_lp (q := 4) rfl rfl rfl ?_
  refine rp_lp (q := 5) (ls' := [.ref 48, .int a0, .int ((16 : Int32) * a0), rp_U, rp_U]) rfl rfl rfl ?_
  refine rp_lp (q := 6) rfl rfl rfl ?_
  refine rp_lgf rfl rfl rfl ?_
  refine rp_lp (q := 10) rfl rfl rfl ?_
  refine rp_lp (q := 12) rfl rfl rfl ?_
  refine rp_lp (q := 13) rfl rfl rfl ?_
  refine rp_lia rfl rfl ?_
  refine rp_lp (q := 15) rfl rfl rfl ?_
  refine rp_lbr (a := 18) (b := 30) rfl rfl rfl ?_ ?_
  ·
    refine rp_lp (q := 19) rfl rfl rfl ?_
    refine rp_lgf rfl rfl rfl ?_
    refine rp_lp (q := 23) rfl rfl rfl ?_
    refine rp_lp (q := 25) rfl rfl rfl ?_
    refine rp_lp (q := 26) rfl rfl rfl ?_
    refine rp_lia rfl rfl ?_
    refine rp_lp (q := 39) rfl rfl rfl ?_
    exact rp_Le_rfl
  ·
    refine rp_lp (q := 31) rfl rfl rfl ?_
    refine rp_lgf rfl rfl rfl ?_
    refine rp_lp (q := 35) rfl rfl rfl ?_
    refine rp_lp (q := 37) rfl rfl rfl ?_
    refine rp_lp (q := 38) rfl rfl rfl ?_
    refine rp_lia rfl rfl ?_
    exact rp_Le_rfl
set_option maxRecDepth 20000 in
theorem D_Ref_refundOf_39 {sc : rp_Sc} (x1 : Int32) (x2 : Int32) (y0 : Int32) (σ : rp_Mm) : rp_Le (bif rp_ix (x2 + (0 : Int32)) 128 then bif rp_ix (x2 + (14 : Int32)) 128 then thI (CL sc 183 [.ref 48, .int x1] σ) fun r2 σ1 => if (100 : Int32) * (σ 53 (x2 + (0 : Int32)).toNatClampNeg) = 0 then none else RI ((((σ 53 (x2 + (14 : Int32)).toNatClampNeg) * ((σ 53 (x2 + (0 : Int32)).toNatClampNeg) - r2)) * y0) / ((100 : Int32) * (σ 53 (x2 + (0 : Int32)).toNatClampNeg))) σ1 else none else none) (EV sc (192, 0, 0, 39, [.ref 48, .int x1, .int x2, rp_U, rp_U], [.int y0], (rp_L0, σ))) := by
  refine rp_lp (q := 40) (ls' := [.ref 48, .int x1, .int x2, .int y0, rp_U]) rfl rfl rfl ?_
  refine rp_lp (q := 41) rfl rfl rfl ?_
  refine rp_lgf rfl rfl rfl ?_
  refine rp_lp (q := 45) rfl rfl rfl ?_
  refine rp_lp (q := 46) rfl rfl rfl ?_
  refine rp_lp (q := 47) rfl rfl rfl ?_
  refine rp_lia rfl rfl ?_
  refine rp_lp (q := 50) (ls' := [.ref 48, .int x1, .int x2, .int y0, .int (σ 53 (x2 + (0 : Int32)).toNatClampNeg)]) rfl rfl rfl ?_
  refine rp_lp (q := 51) rfl rfl rfl ?_
  refine rp_lgf rfl rfl rfl ?_
  refine rp_lp (q := 55) rfl rfl rfl ?_
  refine rp_lp (q := 57) rfl rfl rfl ?_
  refine rp_lp (q := 58) rfl rfl rfl ?_
  refine rp_lia rfl rfl ?_
  refine rp_lp (q := 61) rfl rfl rfl ?_
  refine rp_lp (q := 62) rfl rfl rfl ?_
  refine rp_lp (q := 63) rfl rfl rfl ?_
  refine rp_lci (uc' := 0) (us' := 0) rfl (rp_rcv rfl) rfl rfl rfl rfl rfl rfl (fun r2 σ1 => ?_)
  refine rp_lp (q := 67) rfl rfl rfl ?_
  refine rp_lp (q := 68) rfl rfl rfl ?_
  refine rp_lp (q := 69) rfl rfl rfl ?_
  refine rp_lp (q := 70) rfl rfl rfl ?_
  refine rp_lp (q := 72) rfl rfl rfl ?_
  refine rp_lp (q := 74) rfl rfl rfl ?_
  refine rp_lp (q := 75) rfl rfl rfl ?_
  refine rp_ldg rfl ?_
  exact rp_lri rfl rfl
-- Ref_lose
set_option maxRecDepth 20000 in
theorem D_Ref_lose_0 {sc : rp_Sc} (a0 : Int32) (σ : rp_Mm) : rp_Le (thI (CL sc 176 [.ref 48, .int a0] σ) fun r2 σ1 => if (r2 = 0 : Prop) then RI (-1) σ1 else bif rp_ix (((16 : Int32) * a0) + (13 : Int32)) 128 then if ((σ1 53 (((16 : Int32) * a0) + (13 : Int32)).toNatClampNeg) = 1 : Prop) then RI (-4) σ1 else bif rp_ix (((16 : Int32) * a0) + (13 : Int32)) 128 then thI (CL sc 192 [.ref 48, .int a0] (rp_wr σ1 53 (((16 : Int32) * a0) + (13 : Int32)).toNatClampNeg 1)) fun r4 σ3 => RI r4 σ3 else none else none) (EV sc (193, 0, 0, 0, [.ref 48, .int a0], [], (rp_L0, σ))) := by
  refine rp_lp (q := 1) rfl rfl rfl ?_
  refine rp_lp (q := 2) rfl rfl rfl ?_
  refine rp_lci (uc' := 0) (us' := 0) rfl (rp_rcv rfl) rfl rfl rfl rfl rfl rfl (fun r2 σ1 => ?_)
  refine rp_lbr (a := 8) (b := 10) rfl rfl rfl ?_ ?_
  ·
    refine rp_lp (q := 9) rfl rfl rfl ?_
    exact rp_lri rfl rfl
  ·
    refine rp_lp (q := 11) rfl rfl rfl ?_
    refine rp_lgf rfl rfl rfl ?_
    refine rp_lp (q := 16) rfl rfl rfl ?_
    refine rp_lp (q := 17) rfl rfl rfl ?_
    refine rp_lp (q := 18) rfl rfl rfl ?_
    refine rp_lp (q := 20) rfl rfl rfl ?_
    refine rp_lp (q := 21) rfl rfl rfl ?_
    refine rp_lia rfl rfl ?_
    refine rp_lp (q := 23) rfl rfl rfl ?_
    refine rp_lbr (a := 26) (b := 29) rfl rfl rfl ?_ ?_
    ·
      refine rp_lp (q := 28) rfl rfl rfl ?_
      exact rp_lri rfl rfl
    ·
      refine rp_lp (q := 30) rfl rfl rfl ?_
      refine rp_lgf rfl rfl rfl ?_
      refine rp_lp (q := 35) rfl rfl rfl ?_
      refine rp_lp (q := 36) rfl rfl rfl ?_
      refine rp_lp (q := 37) rfl rfl rfl ?_
      refine rp_lp (q := 39) rfl rfl rfl ?_
      refine rp_lp (q := 40) rfl rfl rfl ?_
      refine rp_lp (q := 41) rfl rfl rfl ?_
      refine rp_lis rfl rfl ?_
      refine rp_lp (q := 43) rfl rfl rfl ?_
      refine rp_lp (q := 44) rfl rfl rfl ?_
      refine rp_lci (uc' := 0) (us' := 0) rfl (rp_rcv rfl) rfl rfl rfl rfl rfl rfl (fun r4 σ3 => ?_)
      exact rp_lri rfl rfl
-- Ref_wish
set_option maxRecDepth 20000 in
theorem D_Ref_wish_0 {sc : rp_Sc} (a0 : Int32) (a1 : Int32) (σ : rp_Mm) : rp_Le (thI (CL sc 154 [.ref 48, .int a0] σ) fun r2 σ1 => if (r2 = 0 : Prop) then RI (-1) σ1 else thI (CL sc 173 [.int a1] σ1) fun r4 σ3 => if (r4 = 0 : Prop) then RI (-1) σ3 else if ((σ3 49 4) = 10 : Prop) then RI (-2) σ3 else bif rp_ix ((2 : Int32) * (σ3 49 4)) 20 then bif rp_ix (((2 : Int32) * ((rp_wr σ3 55 ((2 : Int32) * (σ3 49 4)).toNatClampNeg a0) 49 4)) + (1 : Int32)) 20 then RI ((rp_wr (rp_wr (rp_wr σ3 55 ((2 : Int32) * (σ3 49 4)).toNatClampNeg a0) 55 (((2 : Int32) * ((rp_wr σ3 55 ((2 : Int32) * (σ3 49 4)).toNatClampNeg a0) 49 4)) + (1 : Int32)).toNatClampNeg a1) 49 4 (((rp_wr (rp_wr σ3 55 ((2 : Int32) * (σ3 49 4)).toNatClampNeg a0) 55 (((2 : Int32) * ((rp_wr σ3 55 ((2 : Int32) * (σ3 49 4)).toNatClampNeg a0) 49 4)) + (1 : Int32)).toNatClampNeg a1) 49 4) + (1 : Int32))) 49 4) (rp_wr (rp_wr (rp_wr σ3 55 ((2 : Int32) * (σ3 49 4)).toNatClampNeg a0) 55 (((2 : Int32) * ((rp_wr σ3 55 ((2 : Int32) * (σ3 49 4)).toNatClampNeg a0) 49 4)) + (1 : Int32)).toNatClampNeg a1) 49 4 (((rp_wr (rp_wr σ3 55 ((2 : Int32) * (σ3 49 4)).toNatClampNeg a0) 55 (((2 : Int32) * ((rp_wr σ3 55 ((2 : Int32) * (σ3 49 4)).toNatClampNeg a0) 49 4)) + (1 : Int32)).toNatClampNeg a1) 49 4) + (1 : Int32))) else none else none) (EV sc (194, 0, 0, 0, [.ref 48, .int a0, .int a1], [], (rp_L0, σ))) := by
  refine rp_lp (q := 1) rfl rfl rfl ?_
  refine rp_lp (q := 2) rfl rfl rfl ?_
  refine rp_lci (uc' := 0) (us' := 0) rfl (rp_rcv rfl) rfl rfl rfl rfl rfl rfl (fun r2 σ1 => ?_)
  refine rp_lbr (a := 15) (b := 8) rfl rfl rfl ?_ ?_
  ·
    refine rp_lp (q := 16) rfl rfl rfl ?_
    exact rp_lri rfl rfl
  ·
    refine rp_lp (q := 9) rfl rfl rfl ?_
    refine rp_lci (uc' := 0) (us' := 0) rfl rfl rfl rfl rfl rfl rfl rfl (fun r4 σ3 => ?_)
    refine rp_lbr (a := 15) (b := 17) rfl rfl rfl ?_ ?_
    ·
      refine rp_lp (q := 16) rfl rfl rfl ?_
      exact rp_lri rfl rfl
    ·
      refine rp_lp (q := 18) rfl rfl rfl ?_
      refine rp_lgf rfl rfl rfl ?_
      refine rp_lp (q := 22) rfl rfl rfl ?_
      refine rp_lil rfl rfl (by decide +kernel) (k := 4) (by decide +kernel) ?_
      refine rp_lp (q := 25) rfl rfl rfl ?_
      refine rp_lbr (a := 28) (b := 31) rfl rfl rfl ?_ ?_
      ·
        refine rp_lp (q := 30) rfl rfl rfl ?_
        exact rp_lri rfl rfl
      ·
        refine rp_lp (q := 32) rfl rfl rfl ?_
        refine rp_lgf rfl rfl rfl ?_
        refine rp_lp (q := 36) rfl rfl rfl ?_
        refine rp_lp (q := 37) rfl rfl rfl ?_
        refine rp_lgf rfl rfl rfl ?_
        refine rp_lp (q := 41) rfl rfl rfl ?_
        refine rp_lil rfl rfl (by decide +kernel) (k := 4) (by decide +kernel) ?_
        refine rp_lp (q := 43) rfl rfl rfl ?_
        refine rp_lp (q := 44) rfl rfl rfl ?_
        refine rp_lis rfl rfl ?_
        refine rp_lp (q := 46) rfl rfl rfl ?_
        refine rp_lgf rfl rfl rfl ?_
        refine rp_lp (q := 50) rfl rfl rfl ?_
        refine rp_lp (q := 51) rfl rfl rfl ?_
        refine rp_lgf rfl rfl rfl ?_
        refine rp_lp (q := 55) rfl rfl rfl ?_
        refine rp_lil rfl rfl (by decide +kernel) (k := 4) (by decide +kernel) ?_
        refine rp_lp (q := 57) rfl rfl rfl ?_
        refine rp_lp (q := 58) rfl rfl rfl ?_
        refine rp_lp (q := 59) rfl rfl rfl ?_
        refine rp_lp (q := 60) rfl rfl rfl ?_
        refine rp_lis rfl rfl ?_
        refine rp_lp (q := 62) rfl rfl rfl ?_
        refine rp_lgf rfl rfl rfl ?_
        refine rp_lp (q := 66) rfl rfl rfl ?_
        refine rp_lp (q := 67) rfl rfl rfl ?_
        refine rp_lil rfl rfl (by decide +kernel) (k := 4) (by decide +kernel) ?_
        refine rp_lp (q := 69) rfl rfl rfl ?_
        refine rp_lp (q := 70) rfl rfl rfl ?_
        refine rp_lsl rfl rfl (by decide +kernel) (k := 4) (by decide +kernel) ?_
        refine rp_lp (q := 72) rfl rfl rfl ?_
        refine rp_lgf rfl rfl rfl ?_
        refine rp_lp (q := 76) rfl rfl rfl ?_
        refine rp_lil rfl rfl (by decide +kernel) (k := 4) (by decide +kernel) ?_
        exact rp_lri rfl rfl
-- Ref_unwish
set_option maxRecDepth 20000 in
theorem D_Ref_unwish_0 {sc : rp_Sc} (σ : rp_Mm) : rp_Le (if ((σ 49 4) = 0 : Prop) then RI (-3) σ else RI ((rp_wr σ 49 4 ((σ 49 4) - (1 : Int32))) 49 4) (rp_wr σ 49 4 ((σ 49 4) - (1 : Int32)))) (EV sc (195, 0, 0, 0, [.ref 48], [], (rp_L0, σ))) := by
  refine rp_lp (q := 1) rfl rfl rfl ?_
  refine rp_lgf rfl rfl rfl ?_
  refine rp_lp (q := 5) rfl rfl rfl ?_
  refine rp_lil rfl rfl (by decide +kernel) (k := 4) (by decide +kernel) ?_
  refine rp_lbr (a := 9) (b := 12) rfl rfl rfl ?_ ?_
  ·
    refine rp_lp (q := 11) rfl rfl rfl ?_
    exact rp_lri rfl rfl
  ·
    refine rp_lp (q := 13) rfl rfl rfl ?_
    refine rp_lgf rfl rfl rfl ?_
    refine rp_lp (q := 17) rfl rfl rfl ?_
    refine rp_lp (q := 18) rfl rfl rfl ?_
    refine rp_lil rfl rfl (by decide +kernel) (k := 4) (by decide +kernel) ?_
    refine rp_lp (q := 20) rfl rfl rfl ?_
    refine rp_lp (q := 21) rfl rfl rfl ?_
    refine rp_lsl rfl rfl (by decide +kernel) (k := 4) (by decide +kernel) ?_
    refine rp_lp (q := 23) rfl rfl rfl ?_
    refine rp_lgf rfl rfl rfl ?_
    refine rp_lp (q := 27) rfl rfl rfl ?_
    refine rp_lil rfl rfl (by decide +kernel) (k := 4) (by decide +kernel) ?_
    exact rp_lri rfl rfl
-- Ref_least
set_option maxRecDepth 20000 in
theorem D_Ref_least_0 {sc : rp_Sc} (a0 : Int32) (a1 : Int32) (σ : rp_Mm) : rp_Le (thI (CL sc 159 [.int a0] σ) fun r2 σ1 => if (r2 = 0 : Prop) then RI (-1) σ1 else thI (CL sc 173 [.int a1] σ1) fun r4 σ3 => if (r4 = 0 : Prop) then RI (-1) σ3 else thI (CL sc 171 [.ref 48, .int a0] σ3) fun r6 σ5 => if (r6 = 0 : Prop) then RI (-3) σ5 else thI (CL sc 197 [.ref 48, .int a0, .int a1] σ5) fun r8 σ7 => RI r8 σ7) (EV sc (196, 0, 0, 0, [.ref 48, .int a0, .int a1], [], (rp_L0, σ))) := by
  refine rp_lp (q := 1) rfl rfl rfl ?_
  refine rp_lci (uc' := 0) (us' := 0) rfl rfl rfl rfl rfl rfl rfl rfl (fun r2 σ1 => ?_)
  refine rp_lbr (a := 14) (b := 7) rfl rfl rfl ?_ ?_
  ·
    refine rp_lp (q := 15) rfl rfl rfl ?_
    exact rp_lri rfl rfl
  ·
    refine rp_lp (q := 8) rfl rfl rfl ?_
    refine rp_lci (uc' := 0) (us' := 0) rfl rfl rfl rfl rfl rfl rfl rfl (fun r4 σ3 => ?_)
    refine rp_lbr (a := 14) (b := 16) rfl rfl rfl ?_ ?_
    ·
      refine rp_lp (q := 15) rfl rfl rfl ?_
      exact rp_lri rfl rfl
    ·
      refine rp_lp (q := 17) rfl rfl rfl ?_
      refine rp_lp (q := 18) rfl rfl rfl ?_
      refine rp_lci (uc' := 0) (us' := 0) rfl (rp_rcv rfl) rfl rfl rfl rfl rfl rfl (fun r6 σ5 => ?_)
      refine rp_lbr (a := 33) (b := 24) rfl rfl rfl ?_ ?_
      ·
        refine rp_lp (q := 35) rfl rfl rfl ?_
        exact rp_lri rfl rfl
      ·
        refine rp_lp (q := 25) rfl rfl rfl ?_
        refine rp_lp (q := 26) rfl rfl rfl ?_
        refine rp_lp (q := 27) rfl rfl rfl ?_
        refine rp_lci (uc' := 0) (us' := 0) rfl (rp_rcv rfl) rfl rfl rfl rfl rfl rfl (fun r8 σ7 => ?_)
        refine rp_lp (q := 35) rfl rfl rfl ?_
        exact rp_lri rfl rfl
-- Ref_leastOf
set_option maxRecDepth 20000 in
theorem D_Ref_leastOf_0 {sc : rp_Sc} (a0 : Int32) (a1 : Int32) (σ : rp_Mm) : rp_Le (thV (CL sc 198 [.ref 48, .int a0, .int a1] σ) fun σ1 => bif rp_ix (((12 : Int32) * a0) + (2 : Int32)) 48 then thI (CL sc 201 [.ref 48] σ1) fun r3 σ2 => RI (((σ1 52 (((12 : Int32) * a0) + (2 : Int32)).toNatClampNeg) + r3) - (σ2 48 20)) σ2 else none) (EV sc (197, 0, 0, 0, [.ref 48, .int a0, .int a1], [], (rp_L0, σ))) := by
  refine rp_lp (q := 1) rfl rfl rfl ?_
  refine rp_lp (q := 2) rfl rfl rfl ?_
  refine rp_lp (q := 3) rfl rfl rfl ?_
  refine rp_lcv (uc' := 0) (us' := 0) rfl (rp_rcv rfl) rfl rfl rfl rfl rfl rfl (fun σ1 => ?_)
  refine rp_lp (q := 7) rfl rfl rfl ?_
  refine rp_lgf rfl rfl rfl ?_
  refine rp_lp (q := 12) rfl rfl rfl ?_
  refine rp_lp (q := 13) rfl rfl rfl ?_
  refine rp_lp (q := 14) rfl rfl rfl ?_
  refine rp_lp (q := 15) rfl rfl rfl ?_
  refine rp_lp (q := 16) rfl rfl rfl ?_
  refine rp_lia rfl rfl ?_
  refine rp_lp (q := 18) rfl rfl rfl ?_
  refine rp_lci (uc' := 0) (us' := 0) rfl (rp_rcv rfl) rfl rfl rfl rfl rfl rfl (fun r3 σ2 => ?_)
  refine rp_lp (q := 22) rfl rfl rfl ?_
  refine rp_lp (q := 23) rfl rfl rfl ?_
  refine rp_lgm rfl rfl rfl ?_
  refine rp_lp (q := 27) rfl rfl rfl ?_
  exact rp_lri rfl rfl
-- Ref_takes
set_option maxRecDepth 20000 in
theorem D_Ref_takes_0 {sc : rp_Sc} (a0 : Int32) (a1 : Int32) (σ : rp_Mm) : rp_Le (EV sc (198, 0, 0, 2, [.ref 48, .int a0, .int a1, .int 0, rp_U, rp_U, rp_U], [], (rp_L0, σ))) (EV sc (198, 0, 0, 0, [.ref 48, .int a0, .int a1, rp_U, rp_U, rp_U, rp_U], [], (rp_L0, σ))) := by
  refine rp_lp (q := 1) rfl rfl rfl ?_
  refine rp_lp (q := 2) (ls' := [.ref 48, .int a0, .int a1, .int 0, rp_U, rp_U, rp_U]) rfl rfl rfl ?_
  exact rp_Le_rfl
set_option maxRecDepth 20000 in
theorem D_Ref_takes_2 {sc : rp_Sc} (x1 : Int32) (x2 : Int32) (x3 : Int32) (σ : rp_Mm) : rp_Le (if (122 ≤ x3 : Prop) then EV sc (198, 0, 0, 37, [.ref 48, .int x1, .int x2, .int 0, rp_U, rp_U, rp_U], [], (rp_L0, σ)) else bif rp_ix x3 122 then bif rp_ix x3 122 then bif rp_ix x3 122 then EV sc (198, 0, 0, 2, [.ref 48, .int x1, .int x2, .int (x3 + 1), rp_U, rp_U, rp_U], [], (rp_L0, rp_wr (rp_wr (rp_wr σ 58 x3.toNatClampNeg 0) 59 x3.toNatClampNeg 0) 60 x3.toNatClampNeg 0)) else none else none else none) (EV sc (198, 0, 0, 2, [.ref 48, .int x1, .int x2, .int x3, rp_U, rp_U, rp_U], [], (rp_L0, σ))) := by
  refine rp_lp (q := 3) rfl rfl rfl ?_
  refine rp_lp (q := 5) rfl rfl rfl ?_
  refine rp_lbr (a := 35) (b := 8) rfl rfl rfl ?_ ?_
  ·
    refine rp_lp (q := 36) rfl rfl rfl ?_
    refine rp_lp (q := 37) (ls' := [.ref 48, .int x1, .int x2, .int 0, rp_U, rp_U, rp_U]) rfl rfl rfl ?_
    exact rp_Le_rfl
  ·
    refine rp_lp (q := 9) rfl rfl rfl ?_
    refine rp_lgf rfl rfl rfl ?_
    refine rp_lp (q := 13) rfl rfl rfl ?_
    refine rp_lp (q := 14) rfl rfl rfl ?_
    refine rp_lis rfl rfl ?_
    refine rp_lp (q := 16) rfl rfl rfl ?_
    refine rp_lgf rfl rfl rfl ?_
    refine rp_lp (q := 20) rfl rfl rfl ?_
    refine rp_lp (q := 21) rfl rfl rfl ?_
    refine rp_lis rfl rfl ?_
    refine rp_lp (q := 23) rfl rfl rfl ?_
    refine rp_lgf rfl rfl rfl ?_
    refine rp_lp (q := 27) rfl rfl rfl ?_
    refine rp_lp (q := 28) rfl rfl rfl ?_
    refine rp_lbs rfl rfl (by decide) ?_
    refine rp_lp (q := 32) (ls' := [.ref 48, .int x1, .int x2, .int (x3 + 1), rp_U, rp_U, rp_U]) rfl rfl rfl ?_
    refine rp_lp (q := 2) rfl rfl rfl ?_
    exact rp_Le_rfl
set_option maxRecDepth 20000 in
theorem D_Ref_takes_37 {sc : rp_Sc} (x1 : Int32) (x2 : Int32) (x3 : Int32) (σ : rp_Mm) : rp_Le (if ((σ 49 4) ≤ x3 : Prop) then bif rp_ix (((12 : Int32) * x1) + (1 : Int32)) 48 then EV sc (198, 0, 0, 144, [.ref 48, .int x1, .int x2, .int ((x2 + ((rp_wr (rp_wr (rp_wr σ 48 19 0) 48 20 0) 48 21 0) 52 (((12 : Int32) * x1) + (1 : Int32)).toNatClampNeg)) - (1 : Int32)), .int 1, rp_U, rp_U], [], (rp_L0, rp_wr (rp_wr (rp_wr σ 48 19 0) 48 20 0) 48 21 0)) else none else thI (CL sc 199 [.ref 48, .int x3, .int x1] σ) fun r2 σ1 => thI (CL sc 200 [.ref 48, .int x3, .int x1] σ1) fun r4 σ3 => bif rp_ix r4 122 then if (r2 ≤ 0 : Prop) then EV sc (198, 0, 0, 82, [.ref 48, .int x1, .int x2, .int x3, .int r2, .int r4, rp_U], [.int 0, .int (σ3 58 r4.toNatClampNeg), .int r4, .ref 58], (rp_L0, σ3)) else EV sc (198, 0, 0, 82, [.ref 48, .int x1, .int x2, .int x3, .int r2, .int r4, rp_U], [.int r2, .int (σ3 58 r4.toNatClampNeg), .int r4, .ref 58], (rp_L0, σ3)) else none) (EV sc (198, 0, 0, 37, [.ref 48, .int x1, .int x2, .int x3, rp_U, rp_U, rp_U], [], (rp_L0, σ))) := by
  refine rp_lp (q := 38) rfl rfl rfl ?_
  refine rp_lp (q := 39) rfl rfl rfl ?_
  refine rp_lgf rfl rfl rfl ?_
  refine rp_lp (q := 43) rfl rfl rfl ?_
  refine rp_lil rfl rfl (by decide +kernel) (k := 4) (by decide +kernel) ?_
  refine rp_lbr (a := 110) (b := 47) rfl rfl rfl ?_ ?_
  ·
    refine rp_lp (q := 111) rfl rfl rfl ?_
    refine rp_lp (q := 112) rfl rfl rfl ?_
    refine rp_lpm rfl rfl rfl rfl ?_
    refine rp_lp (q := 116) rfl rfl rfl ?_
    refine rp_lp (q := 117) rfl rfl rfl ?_
    refine rp_lpm rfl rfl rfl rfl ?_
    refine rp_lp (q := 121) rfl rfl rfl ?_
    refine rp_lp (q := 122) rfl rfl rfl ?_
    refine rp_lpm rfl rfl rfl rfl ?_
    refine rp_lp (q := 126) rfl rfl rfl ?_
    refine rp_lp (q := 127) rfl rfl rfl ?_
    refine rp_lgf rfl rfl rfl ?_
    refine rp_lp (q := 132) rfl rfl rfl ?_
    refine rp_lp (q := 133) rfl rfl rfl ?_
    refine rp_lp (q := 134) rfl rfl rfl ?_
    refine rp_lp (q := 135) rfl rfl rfl ?_
    refine rp_lp (q := 136) rfl rfl rfl ?_
    refine rp_lia rfl rfl ?_
    refine rp_lp (q := 138) rfl rfl rfl ?_
    refine rp_lp (q := 139) rfl rfl rfl ?_
    refine rp_lp (q := 140) rfl rfl rfl ?_
    refine rp_lp (q := 141) (ls' := [.ref 48, .int x1, .int x2, .int ((x2 + ((rp_wr (rp_wr (rp_wr σ 48 19 0) 48 20 0) 48 21 0) 52 (((12 : Int32) * x1) + (1 : Int32)).toNatClampNeg)) - (1 : Int32)), rp_U, rp_U, rp_U]) rfl rfl rfl ?_
    refine rp_lp (q := 142) rfl rfl rfl ?_
    refine rp_lp (q := 144) (ls' := [.ref 48, .int x1, .int x2, .int ((x2 + ((rp_wr (rp_wr (rp_wr σ 48 19 0) 48 20 0) 48 21 0) 52 (((12 : Int32) * x1) + (1 : Int32)).toNatClampNeg)) - (1 : Int32)), .int 1, rp_U, rp_U]) rfl rfl rfl ?_
    exact rp_Le_rfl
  ·
    refine rp_lp (q := 48) rfl rfl rfl ?_
    refine rp_lp (q := 49) rfl rfl rfl ?_
    refine rp_lp (q := 50) rfl rfl rfl ?_
    refine rp_lci (uc' := 0) (us' := 0) rfl (rp_rcv rfl) rfl rfl rfl rfl rfl rfl (fun r2 σ1 => ?_)
    refine rp_lp (q := 55) (ls' := [.ref 48, .int x1, .int x2, .int x3, .int r2, rp_U, rp_U]) rfl rfl rfl ?_
    refine rp_lp (q := 56) rfl rfl rfl ?_
    refine rp_lp (q := 57) rfl rfl rfl ?_
    refine rp_lp (q := 58) rfl rfl rfl ?_
    refine rp_lci (uc' := 0) (us' := 0) rfl (rp_rcv rfl) rfl rfl rfl rfl rfl rfl (fun r4 σ3 => ?_)
    refine rp_lp (q := 63) (ls' := [.ref 48, .int x1, .int x2, .int x3, .int r2, .int r4, rp_U]) rfl rfl rfl ?_
    refine rp_lp (q := 64) rfl rfl rfl ?_
    refine rp_lgf rfl rfl rfl ?_
    refine rp_lp (q := 69) rfl rfl rfl ?_
    refine rp_lp (q := 70) rfl rfl rfl ?_
    refine rp_lia rfl rfl ?_
    refine rp_lp (q := 73) rfl rfl rfl ?_
    refine rp_lbr (a := 81) (b := 76) rfl rfl rfl ?_ ?_
    ·
      refine rp_lp (q := 82) rfl rfl rfl ?_
      exact rp_Le_rfl
    ·
      refine rp_lp (q := 78) rfl rfl rfl ?_
      refine rp_lp (q := 82) rfl rfl rfl ?_
      exact rp_Le_rfl
set_option maxRecDepth 20000 in
theorem D_Ref_takes_144 {sc : rp_Sc} (x1 : Int32) (x2 : Int32) (x3 : Int32) (x4 : Int32) (σ : rp_Mm) : rp_Le (if (x4 = 0 : Prop) then RV σ else bif rp_ix (((12 : Int32) * x1) + (0 : Int32)) 48 then if ((σ 52 (((12 : Int32) * x1) + (0 : Int32)).toNatClampNeg) ≤ (σ 48 19) : Prop) then RV σ else EV sc (198, 0, 0, 173, [.ref 48, .int x1, .int x2, .int x3, .int x4, .int (-1), .int x2], [], (rp_L0, σ)) else none) (EV sc (198, 0, 0, 144, [.ref 48, .int x1, .int x2, .int x3, .int x4, rp_U, rp_U], [], (rp_L0, σ))) := by
  refine rp_lp (q := 146) rfl rfl rfl ?_
  refine rp_lbr (a := 313) (b := 149) rfl rfl rfl ?_ ?_
  ·
    exact rp_lrv rfl rfl
  ·
    refine rp_lp (q := 150) rfl rfl rfl ?_
    refine rp_lgm rfl rfl rfl ?_
    refine rp_lp (q := 154) rfl rfl rfl ?_
    refine rp_lgf rfl rfl rfl ?_
    refine rp_lp (q := 159) rfl rfl rfl ?_
    refine rp_lp (q := 160) rfl rfl rfl ?_
    refine rp_lp (q := 161) rfl rfl rfl ?_
    refine rp_lp (q := 162) rfl rfl rfl ?_
    refine rp_lp (q := 163) rfl rfl rfl ?_
    refine rp_lia rfl rfl ?_
    refine rp_lbr (a := 313) (b := 167) rfl rfl rfl ?_ ?_
    ·
      exact rp_lrv rfl rfl
    ·
      refine rp_lp (q := 168) rfl rfl rfl ?_
      refine rp_lp (q := 170) (ls' := [.ref 48, .int x1, .int x2, .int x3, .int x4, .int (-1), rp_U]) rfl rfl rfl ?_
      refine rp_lp (q := 171) rfl rfl rfl ?_
      refine rp_lp (q := 173) (ls' := [.ref 48, .int x1, .int x2, .int x3, .int x4, .int (-1), .int x2]) rfl rfl rfl ?_
      exact rp_Le_rfl
set_option maxRecDepth 20000 in
theorem D_Ref_takes_82 {sc : rp_Sc} (x1 : Int32) (x2 : Int32) (x3 : Int32) (x4 : Int32) (x5 : Int32) (y0 : Int32) (y1 : Int32) (y2 : Int32) (σ : rp_Mm) : rp_Le (bif rp_ix y2 122 then bif rp_ix x5 122 then if (x4 ≤ 0 : Prop) then EV sc (198, 0, 0, 102, [.ref 48, .int x1, .int x2, .int x3, .int x4, .int x5, rp_U], [.int 0, .int ((rp_wr σ 58 y2.toNatClampNeg (y1 + y0)) 59 x5.toNatClampNeg), .int x5, .ref 59], (rp_L0, rp_wr σ 58 y2.toNatClampNeg (y1 + y0))) else EV sc (198, 0, 0, 102, [.ref 48, .int x1, .int x2, .int x3, .int x4, .int x5, rp_U], [.int 1, .int ((rp_wr σ 58 y2.toNatClampNeg (y1 + y0)) 59 x5.toNatClampNeg), .int x5, .ref 59], (rp_L0, rp_wr σ 58 y2.toNatClampNeg (y1 + y0))) else none else none) (EV sc (198, 0, 0, 82, [.ref 48, .int x1, .int x2, .int x3, .int x4, .int x5, rp_U], [.int y0, .int y1, .int y2, .ref 58], (rp_L0, σ))) := by
  refine rp_lp (q := 83) rfl rfl rfl ?_
  refine rp_lis rfl rfl ?_
  refine rp_lp (q := 85) rfl rfl rfl ?_
  refine rp_lgf rfl rfl rfl ?_
  refine rp_lp (q := 90) rfl rfl rfl ?_
  refine rp_lp (q := 91) rfl rfl rfl ?_
  refine rp_lia rfl rfl ?_
  refine rp_lp (q := 94) rfl rfl rfl ?_
  refine rp_lbr (a := 101) (b := 97) rfl rfl rfl ?_ ?_
  ·
    refine rp_lp (q := 102) rfl rfl rfl ?_
    exact rp_Le_rfl
  ·
    refine rp_lp (q := 98) rfl rfl rfl ?_
    refine rp_lp (q := 102) rfl rfl rfl ?_
    exact rp_Le_rfl
set_option maxRecDepth 20000 in
theorem D_Ref_takes_173 {sc : rp_Sc} (x1 : Int32) (x2 : Int32) (x3 : Int32) (x4 : Int32) (x5 : Int32) (x6 : Int32) (σ : rp_Mm) : rp_Le (if (x3 < x6 : Prop) then EV sc (198, 0, 0, 243, [.ref 48, .int x1, .int x2, .int x3, .int x4, .int x5, .int x6], [], (rp_L0, σ)) else if (122 ≤ x6 : Prop) then EV sc (198, 0, 0, 243, [.ref 48, .int x1, .int x2, .int x3, .int x4, .int x5, .int x6], [], (rp_L0, σ)) else bif rp_ix x6 122 then if ((σ 60 x6.toNatClampNeg) = 0 : Prop) then bif rp_ix x6 122 then if ((σ 58 x6.toNatClampNeg) ≤ 0 : Prop) then EV sc (198, 0, 0, 233, [.ref 48, .int x1, .int x2, .int x3, .int x4, .int x5, .int x6], [], (rp_L0, σ)) else if (x5 < 0 : Prop) then EV sc (198, 0, 0, 228, [.ref 48, .int x1, .int x2, .int x3, .int x4, .int x5, .int x6], [], (rp_L0, σ)) else bif rp_ix x6 122 then bif rp_ix x5 122 then if ((σ 58 x6.toNatClampNeg) ≤ (σ 58 x5.toNatClampNeg) : Prop) then EV sc (198, 0, 0, 233, [.ref 48, .int x1, .int x2, .int x3, .int x4, .int x5, .int x6], [], (rp_L0, σ)) else EV sc (198, 0, 0, 228, [.ref 48, .int x1, .int x2, .int x3, .int x4, .int x5, .int x6], [], (rp_L0, σ)) else none else none else none else EV sc (198, 0, 0, 233, [.ref 48, .int x1, .int x2, .int x3, .int x4, .int x5, .int x6], [], (rp_L0, σ)) else none) (EV sc (198, 0, 0, 173, [.ref 48, .int x1, .int x2, .int x3, .int x4, .int x5, .int x6], [], (rp_L0, σ))) := by
  refine rp_lp (q := 175) rfl rfl rfl ?_
  refine rp_lp (q := 176) rfl rfl rfl ?_
  refine rp_lbr (a := 243) (b := 179) rfl rfl rfl ?_ ?_
  ·
    exact rp_Le_rfl
  ·
    refine rp_lp (q := 181) rfl rfl rfl ?_
    refine rp_lp (q := 183) rfl rfl rfl ?_
    refine rp_lbr (a := 243) (b := 186) rfl rfl rfl ?_ ?_
    ·
      exact rp_Le_rfl
    ·
      refine rp_lp (q := 187) rfl rfl rfl ?_
      refine rp_lgf rfl rfl rfl ?_
      refine rp_lp (q := 192) rfl rfl rfl ?_
      refine rp_lba rfl rfl ?_
      refine rp_lbr (a := 196) (b := 233) rfl rfl rfl ?_ ?_
      ·
        refine rp_lp (q := 197) rfl rfl rfl ?_
        refine rp_lgf rfl rfl rfl ?_
        refine rp_lp (q := 202) rfl rfl rfl ?_
        refine rp_lia rfl rfl ?_
        refine rp_lbr (a := 233) (b := 206) rfl rfl rfl ?_ ?_
        ·
          exact rp_Le_rfl
        ·
          refine rp_lp (q := 208) rfl rfl rfl ?_
          refine rp_lbr (a := 228) (b := 211) rfl rfl rfl ?_ ?_
          ·
            exact rp_Le_rfl
          ·
            refine rp_lp (q := 212) rfl rfl rfl ?_
            refine rp_lgf rfl rfl rfl ?_
            refine rp_lp (q := 217) rfl rfl rfl ?_
            refine rp_lia rfl rfl ?_
            refine rp_lp (q := 219) rfl rfl rfl ?_
            refine rp_lgf rfl rfl rfl ?_
            refine rp_lp (q := 224) rfl rfl rfl ?_
            refine rp_lia rfl rfl ?_
            refine rp_lbr (a := 233) (b := 228) rfl rfl rfl ?_ ?_
            ·
              exact rp_Le_rfl
            ·
              exact rp_Le_rfl
      ·
        exact rp_Le_rfl
set_option maxRecDepth 20000 in
theorem D_Ref_takes_102 {sc : rp_Sc} (x1 : Int32) (x2 : Int32) (x3 : Int32) (x4 : Int32) (x5 : Int32) (y0 : Int32) (y1 : Int32) (y2 : Int32) (σ : rp_Mm) : rp_Le (bif rp_ix y2 122 then EV sc (198, 0, 0, 37, [.ref 48, .int x1, .int x2, .int (x3 + 1), rp_U, rp_U, rp_U], [], (rp_L0, rp_wr σ 59 y2.toNatClampNeg (y1 + y0))) else none) (EV sc (198, 0, 0, 102, [.ref 48, .int x1, .int x2, .int x3, .int x4, .int x5, rp_U], [.int y0, .int y1, .int y2, .ref 59], (rp_L0, σ))) := by
  refine rp_lp (q := 103) rfl rfl rfl ?_
  refine rp_lis rfl rfl ?_
  refine rp_lp (q := 107) (ls' := [.ref 48, .int x1, .int x2, .int (x3 + 1), .int x4, .int x5, rp_U]) rfl rfl rfl ?_
  refine rp_lp (q := 37) rfl rfl rfl ?_
  exact rp_LeU ⟨Or.inl rfl, Or.inl rfl, Or.inl rfl, Or.inl rfl, Or.inr ⟨rfl, rfl⟩, Or.inr ⟨rfl, rfl⟩, Or.inl rfl, trivial⟩
set_option maxRecDepth 20000 in
theorem D_Ref_takes_243 {sc : rp_Sc} (x1 : Int32) (x2 : Int32) (x3 : Int32) (x4 : Int32) (x5 : Int32) (x6 : Int32) (σ : rp_Mm) : rp_Le (if (x5 < 0 : Prop) then EV sc (198, 0, 0, 253, [.ref 48, .int x1, .int x2, .int x3, .int x4, .int x5, .int x6], [.int 0], (rp_L0, σ)) else EV sc (198, 0, 0, 253, [.ref 48, .int x1, .int x2, .int x3, .int x4, .int x5, .int x6], [.int 1], (rp_L0, σ))) (EV sc (198, 0, 0, 243, [.ref 48, .int x1, .int x2, .int x3, .int x4, .int x5, .int x6], [], (rp_L0, σ))) := by
  refine rp_lp (q := 245) rfl rfl rfl ?_
  refine rp_lbr (a := 252) (b := 248) rfl rfl rfl ?_ ?_
  ·
    refine rp_lp (q := 253) rfl rfl rfl ?_
    exact rp_Le_rfl
  ·
    refine rp_lp (q := 249) rfl rfl rfl ?_
    refine rp_lp (q := 253) rfl rfl rfl ?_
    exact rp_Le_rfl
set_option maxRecDepth 20000 in
theorem D_Ref_takes_233 {sc : rp_Sc} (x1 : Int32) (x2 : Int32) (x3 : Int32) (x4 : Int32) (x5 : Int32) (x6 : Int32) (σ : rp_Mm) : rp_Le (EV sc (198, 0, 0, 235, [.ref 48, .int x1, .int x2, .int x3, .int x4, .int x5, .int x6], [.int x5], (rp_L0, σ))) (EV sc (198, 0, 0, 233, [.ref 48, .int x1, .int x2, .int x3, .int x4, .int x5, .int x6], [], (rp_L0, σ))) := by
  refine rp_lp (q := 235) rfl rfl rfl ?_
  exact rp_Le_rfl
set_option maxRecDepth 20000 in
theorem D_Ref_takes_228 {sc : rp_Sc} (x1 : Int32) (x2 : Int32) (x3 : Int32) (x4 : Int32) (x5 : Int32) (x6 : Int32) (σ : rp_Mm) : rp_Le (EV sc (198, 0, 0, 235, [.ref 48, .int x1, .int x2, .int x3, .int x4, .int x5, .int x6], [.int x6], (rp_L0, σ))) (EV sc (198, 0, 0, 228, [.ref 48, .int x1, .int x2, .int x3, .int x4, .int x5, .int x6], [], (rp_L0, σ))) := by
  refine rp_lp (q := 230) rfl rfl rfl ?_
  refine rp_lp (q := 235) rfl rfl rfl ?_
  exact rp_Le_rfl
set_option maxRecDepth 20000 in
theorem D_Ref_takes_253 {sc : rp_Sc} (x1 : Int32) (x2 : Int32) (x3 : Int32) (x4 : Int32) (x5 : Int32) (x6 : Int32) (y0 : Int32) (σ : rp_Mm) : rp_Le (if (y0 = 0 : Prop) then EV sc (198, 0, 0, 310, [.ref 48, .int x1, .int x2, .int x3, .int y0, .int x5, .int x6], [], (rp_L0, σ)) else bif rp_ix x5 122 then bif rp_ix x5 122 then bif rp_ix x5 122 then EV sc (198, 0, 0, 310, [.ref 48, .int x1, .int x2, .int x3, .int y0, .int x5, .int x6], [], (rp_L0, rp_wr (rp_wr (rp_wr (rp_wr σ 60 x5.toNatClampNeg 1) 48 19 (((rp_wr σ 60 x5.toNatClampNeg 1) 48 19) + (1 : Int32))) 48 20 (((rp_wr (rp_wr σ 60 x5.toNatClampNeg 1) 48 19 (((rp_wr σ 60 x5.toNatClampNeg 1) 48 19) + (1 : Int32))) 48 20) + ((rp_wr (rp_wr σ 60 x5.toNatClampNeg 1) 48 19 (((rp_wr σ 60 x5.toNatClampNeg 1) 48 19) + (1 : Int32))) 58 x5.toNatClampNeg))) 48 21 (((rp_wr (rp_wr (rp_wr σ 60 x5.toNatClampNeg 1) 48 19 (((rp_wr σ 60 x5.toNatClampNeg 1) 48 19) + (1 : Int32))) 48 20 (((rp_wr (rp_wr σ 60 x5.toNatClampNeg 1) 48 19 (((rp_wr σ 60 x5.toNatClampNeg 1) 48 19) + (1 : Int32))) 48 20) + ((rp_wr (rp_wr σ 60 x5.toNatClampNeg 1) 48 19 (((rp_wr σ 60 x5.toNatClampNeg 1) 48 19) + (1 : Int32))) 58 x5.toNatClampNeg))) 48 21) + ((rp_wr (rp_wr (rp_wr σ 60 x5.toNatClampNeg 1) 48 19 (((rp_wr σ 60 x5.toNatClampNeg 1) 48 19) + (1 : Int32))) 48 20 (((rp_wr (rp_wr σ 60 x5.toNatClampNeg 1) 48 19 (((rp_wr σ 60 x5.toNatClampNeg 1) 48 19) + (1 : Int32))) 48 20) + ((rp_wr (rp_wr σ 60 x5.toNatClampNeg 1) 48 19 (((rp_wr σ 60 x5.toNatClampNeg 1) 48 19) + (1 : Int32))) 58 x5.toNatClampNeg))) 59 x5.toNatClampNeg)))) else none else none else none) (EV sc (198, 0, 0, 253, [.ref 48, .int x1, .int x2, .int x3, .int x4, .int x5, .int x6], [.int y0], (rp_L0, σ))) := by
  refine rp_lp (q := 255) (ls' := [.ref 48, .int x1, .int x2, .int x3, .int y0, .int x5, .int x6]) rfl rfl rfl ?_
  refine rp_lp (q := 257) rfl rfl rfl ?_
  refine rp_lbr (a := 310) (b := 260) rfl rfl rfl ?_ ?_
  ·
    exact rp_Le_rfl
  ·
    refine rp_lp (q := 261) rfl rfl rfl ?_
    refine rp_lgf rfl rfl rfl ?_
    refine rp_lp (q := 266) rfl rfl rfl ?_
    refine rp_lp (q := 267) rfl rfl rfl ?_
    refine rp_lbs rfl rfl (by decide) ?_
    refine rp_lp (q := 269) rfl rfl rfl ?_
    refine rp_lp (q := 270) rfl rfl rfl ?_
    refine rp_lgm rfl rfl rfl ?_
    refine rp_lp (q := 274) rfl rfl rfl ?_
    refine rp_lp (q := 275) rfl rfl rfl ?_
    refine rp_lpm rfl rfl rfl rfl ?_
    refine rp_lp (q := 279) rfl rfl rfl ?_
    refine rp_lp (q := 280) rfl rfl rfl ?_
    refine rp_lgm rfl rfl rfl ?_
    refine rp_lp (q := 284) rfl rfl rfl ?_
    refine rp_lgf rfl rfl rfl ?_
    refine rp_lp (q := 289) rfl rfl rfl ?_
    refine rp_lia rfl rfl ?_
    refine rp_lp (q := 291) rfl rfl rfl ?_
    refine rp_lpm rfl rfl rfl rfl ?_
    refine rp_lp (q := 295) rfl rfl rfl ?_
    refine rp_lp (q := 296) rfl rfl rfl ?_
    refine rp_lgm rfl rfl rfl ?_
    refine rp_lp (q := 300) rfl rfl rfl ?_
    refine rp_lgf rfl rfl rfl ?_
    refine rp_lp (q := 305) rfl rfl rfl ?_
    refine rp_lia rfl rfl ?_
    refine rp_lp (q := 307) rfl rfl rfl ?_
    refine rp_lpm rfl rfl rfl rfl ?_
    exact rp_Le_rfl
set_option maxRecDepth 20000 in
theorem D_Ref_takes_235 {sc : rp_Sc} (x1 : Int32) (x2 : Int32) (x3 : Int32) (x4 : Int32) (x5 : Int32) (x6 : Int32) (y0 : Int32) (σ : rp_Mm) : rp_Le (EV sc (198, 0, 0, 173, [.ref 48, .int x1, .int x2, .int x3, .int x4, .int y0, .int (x6 + 1)], [], (rp_L0, σ))) (EV sc (198, 0, 0, 235, [.ref 48, .int x1, .int x2, .int x3, .int x4, .int x5, .int x6], [.int y0], (rp_L0, σ))) := by
  refine rp_lp (q := 237) (ls' := [.ref 48, .int x1, .int x2, .int x3, .int x4, .int y0, .int x6]) rfl rfl rfl ?_
  refine rp_lp (q := 240) (ls' := [.ref 48, .int x1, .int x2, .int x3, .int x4, .int y0, .int (x6 + 1)]) rfl rfl rfl ?_
  refine rp_lp (q := 173) rfl rfl rfl ?_
  exact rp_Le_rfl
set_option maxRecDepth 20000 in
theorem D_Ref_takes_310 {sc : rp_Sc} (x1 : Int32) (x2 : Int32) (x3 : Int32) (x4 : Int32) (x5 : Int32) (x6 : Int32) (σ : rp_Mm) : rp_Le (EV sc (198, 0, 0, 144, [.ref 48, .int x1, .int x2, .int x3, .int x4, rp_U, rp_U], [], (rp_L0, σ))) (EV sc (198, 0, 0, 310, [.ref 48, .int x1, .int x2, .int x3, .int x4, .int x5, .int x6], [], (rp_L0, σ))) := by
  refine rp_lp (q := 144) rfl rfl rfl ?_
  exact rp_LeU ⟨Or.inl rfl, Or.inl rfl, Or.inl rfl, Or.inl rfl, Or.inl rfl, Or.inr ⟨rfl, rfl⟩, Or.inr ⟨rfl, rfl⟩, trivial⟩
-- Ref_gainOf
set_option maxRecDepth 20000 in
theorem D_Ref_gainOf_0 {sc : rp_Sc} (a0 : Int32) (a1 : Int32) (σ : rp_Mm) : rp_Le (bif rp_ix ((2 : Int32) * a0) 20 then thI (CL sc 178 [.ref 48, .ref 52, .int ((12 : Int32) * a1), .int (σ 55 ((2 : Int32) * a0).toNatClampNeg)] σ) fun r2 σ1 => if (r2 = 0 : Prop) then RI 0 σ1 else bif rp_ix (((8 : Int32) * (σ 55 ((2 : Int32) * a0).toNatClampNeg)) + (6 : Int32)) 128 then thI (CL sc 186 [.ref 48, .ref 52, .int ((12 : Int32) * a1), .int (σ 55 ((2 : Int32) * a0).toNatClampNeg)] σ1) fun r4 σ3 => RI ((σ1 51 (((8 : Int32) * (σ 55 ((2 : Int32) * a0).toNatClampNeg)) + (6 : Int32)).toNatClampNeg) - r4) σ3 else none else none) (EV sc (199, 0, 0, 0, [.ref 48, .int a0, .int a1, rp_U], [], (rp_L0, σ))) := by
  refine rp_lp (q := 1) rfl rfl rfl ?_
  refine rp_lgf rfl rfl rfl ?_
  refine rp_lp (q := 5) rfl rfl rfl ?_
  refine rp_lp (q := 6) rfl rfl rfl ?_
  refine rp_lp (q := 7) rfl rfl rfl ?_
  refine rp_lia rfl rfl ?_
  refine rp_lp (q := 9) (ls' := [.ref 48, .int a0, .int a1, .int (σ 55 ((2 : Int32) * a0).toNatClampNeg)]) rfl rfl rfl ?_
  refine rp_lp (q := 10) rfl rfl rfl ?_
  refine rp_lp (q := 11) rfl rfl rfl ?_
  refine rp_lgf rfl rfl rfl ?_
  refine rp_lp (q := 16) rfl rfl rfl ?_
  refine rp_lp (q := 17) rfl rfl rfl ?_
  refine rp_lp (q := 18) rfl rfl rfl ?_
  refine rp_lp (q := 19) rfl rfl rfl ?_
  refine rp_lci (uc' := 0) (us' := 0) rfl (rp_rcv rfl) rfl rfl rfl rfl rfl rfl (fun r2 σ1 => ?_)
  refine rp_lbr (a := 54) (b := 25) rfl rfl rfl ?_ ?_
  ·
    refine rp_lp (q := 55) rfl rfl rfl ?_
    exact rp_lri rfl rfl
  ·
    refine rp_lp (q := 26) rfl rfl rfl ?_
    refine rp_lgf rfl rfl rfl ?_
    refine rp_lp (q := 31) rfl rfl rfl ?_
    refine rp_lp (q := 32) rfl rfl rfl ?_
    refine rp_lp (q := 33) rfl rfl rfl ?_
    refine rp_lp (q := 35) rfl rfl rfl ?_
    refine rp_lp (q := 36) rfl rfl rfl ?_
    refine rp_lia rfl rfl ?_
    refine rp_lp (q := 38) rfl rfl rfl ?_
    refine rp_lp (q := 39) rfl rfl rfl ?_
    refine rp_lgf rfl rfl rfl ?_
    refine rp_lp (q := 44) rfl rfl rfl ?_
    refine rp_lp (q := 45) rfl rfl rfl ?_
    refine rp_lp (q := 46) rfl rfl rfl ?_
    refine rp_lp (q := 47) rfl rfl rfl ?_
    refine rp_lci (uc' := 0) (us' := 0) rfl (rp_rcv rfl) rfl rfl rfl rfl rfl rfl (fun r4 σ3 => ?_)
    refine rp_lp (q := 51) rfl rfl rfl ?_
    refine rp_lp (q := 55) rfl rfl rfl ?_
    exact rp_lri rfl rfl
-- Ref_countedWish
set_option maxRecDepth 20000 in
theorem D_Ref_countedWish_0 {sc : rp_Sc} (a0 : Int32) (a1 : Int32) (σ : rp_Mm) : rp_Le (bif rp_ix ((2 : Int32) * a0) 20 then bif rp_ix (((2 : Int32) * a0) + (1 : Int32)) 20 then bif rp_ix (((12 : Int32) * a1) + (5 : Int32)) 48 then thI (CL sc 180 [.ref 48, .int (σ 55 ((2 : Int32) * a0).toNatClampNeg), .int (σ 55 (((2 : Int32) * a0) + (1 : Int32)).toNatClampNeg), .int (σ 52 (((12 : Int32) * a1) + (5 : Int32)).toNatClampNeg)] σ) fun r2 σ1 => RI r2 σ1 else none else none else none) (EV sc (200, 0, 0, 0, [.ref 48, .int a0, .int a1], [], (rp_L0, σ))) := by
  refine rp_lp (q := 1) rfl rfl rfl ?_
  refine rp_lp (q := 2) rfl rfl rfl ?_
  refine rp_lgf rfl rfl rfl ?_
  refine rp_lp (q := 6) rfl rfl rfl ?_
  refine rp_lp (q := 7) rfl rfl rfl ?_
  refine rp_lp (q := 8) rfl rfl rfl ?_
  refine rp_lia rfl rfl ?_
  refine rp_lp (q := 10) rfl rfl rfl ?_
  refine rp_lgf rfl rfl rfl ?_
  refine rp_lp (q := 14) rfl rfl rfl ?_
  refine rp_lp (q := 15) rfl rfl rfl ?_
  refine rp_lp (q := 16) rfl rfl rfl ?_
  refine rp_lp (q := 17) rfl rfl rfl ?_
  refine rp_lp (q := 18) rfl rfl rfl ?_
  refine rp_lia rfl rfl ?_
  refine rp_lp (q := 20) rfl rfl rfl ?_
  refine rp_lgf rfl rfl rfl ?_
  refine rp_lp (q := 25) rfl rfl rfl ?_
  refine rp_lp (q := 26) rfl rfl rfl ?_
  refine rp_lp (q := 27) rfl rfl rfl ?_
  refine rp_lp (q := 28) rfl rfl rfl ?_
  refine rp_lp (q := 29) rfl rfl rfl ?_
  refine rp_lia rfl rfl ?_
  refine rp_lci (uc' := 0) (us' := 0) rfl (rp_rcv rfl) rfl rfl rfl rfl rfl rfl (fun r2 σ1 => ?_)
  exact rp_lri rfl rfl
-- Ref_fares
set_option maxRecDepth 20000 in
theorem D_Ref_fares_0 {sc : rp_Sc} (σ : rp_Mm) : rp_Le (EV sc (201, 0, 0, 4, [.ref 48, .int 0, .int 0], [], (rp_L0, σ))) (EV sc (201, 0, 0, 0, [.ref 48, rp_U, rp_U], [], (rp_L0, σ))) := by
  refine rp_lp (q := 1) rfl rfl rfl ?_
  refine rp_lp (q := 2) (ls' := [.ref 48, .int 0, rp_U]) rfl rfl rfl ?_
  refine rp_lp (q := 3) rfl rfl rfl ?_
  refine rp_lp (q := 4) (ls' := [.ref 48, .int 0, .int 0]) rfl rfl rfl ?_
  exact rp_Le_rfl
set_option maxRecDepth 20000 in
theorem D_Ref_fares_4 {sc : rp_Sc} (x1 : Int32) (x2 : Int32) (σ : rp_Mm) : rp_Le (if ((σ 49 4) ≤ x2 : Prop) then RI x1 σ else bif rp_ix ((2 : Int32) * x2) 20 then bif rp_ix (((8 : Int32) * (σ 55 ((2 : Int32) * x2).toNatClampNeg)) + (6 : Int32)) 128 then EV sc (201, 0, 0, 4, [.ref 48, .int (x1 + (σ 51 (((8 : Int32) * (σ 55 ((2 : Int32) * x2).toNatClampNeg)) + (6 : Int32)).toNatClampNeg)), .int (x2 + 1)], [], (rp_L0, σ)) else none else none) (EV sc (201, 0, 0, 4, [.ref 48, .int x1, .int x2], [], (rp_L0, σ))) := by
  refine rp_lp (q := 5) rfl rfl rfl ?_
  refine rp_lp (q := 6) rfl rfl rfl ?_
  refine rp_lgf rfl rfl rfl ?_
  refine rp_lp (q := 10) rfl rfl rfl ?_
  refine rp_lil rfl rfl (by decide +kernel) (k := 4) (by decide +kernel) ?_
  refine rp_lbr (a := 42) (b := 14) rfl rfl rfl ?_ ?_
  ·
    refine rp_lp (q := 43) rfl rfl rfl ?_
    exact rp_lri rfl rfl
  ·
    refine rp_lp (q := 15) rfl rfl rfl ?_
    refine rp_lp (q := 16) rfl rfl rfl ?_
    refine rp_lgf rfl rfl rfl ?_
    refine rp_lp (q := 21) rfl rfl rfl ?_
    refine rp_lp (q := 22) rfl rfl rfl ?_
    refine rp_lgf rfl rfl rfl ?_
    refine rp_lp (q := 26) rfl rfl rfl ?_
    refine rp_lp (q := 27) rfl rfl rfl ?_
    refine rp_lp (q := 28) rfl rfl rfl ?_
    refine rp_lia rfl rfl ?_
    refine rp_lp (q := 30) rfl rfl rfl ?_
    refine rp_lp (q := 32) rfl rfl rfl ?_
    refine rp_lp (q := 33) rfl rfl rfl ?_
    refine rp_lia rfl rfl ?_
    refine rp_lp (q := 35) rfl rfl rfl ?_
    refine rp_lp (q := 36) (ls' := [.ref 48, .int (x1 + (σ 51 (((8 : Int32) * (σ 55 ((2 : Int32) * x2).toNatClampNeg)) + (6 : Int32)).toNatClampNeg)), .int x2]) rfl rfl rfl ?_
    refine rp_lp (q := 39) (ls' := [.ref 48, .int (x1 + (σ 51 (((8 : Int32) * (σ 55 ((2 : Int32) * x2).toNatClampNeg)) + (6 : Int32)).toNatClampNeg)), .int (x2 + 1)]) rfl rfl rfl ?_
    refine rp_lp (q := 4) rfl rfl rfl ?_
    exact rp_Le_rfl
-- Ref_choice
set_option maxRecDepth 20000 in
theorem D_Ref_choice_0 {sc : rp_Sc} (a0 : Int32) (σ : rp_Mm) : rp_Le (thI (CL sc 151 [.int a0, .int 0, .int 14] σ) fun r2 σ1 => if (r2 = 0 : Prop) then RI (-1) σ1 else thI (CL sc 201 [.ref 48] σ1) fun r4 σ3 => EV sc (202, 0, 0, 25, [.ref 48, .int a0, .int r4, .int (-1), .int (-1), .int 0, rp_U, rp_U], [], (rp_L0, σ3))) (EV sc (202, 0, 0, 0, [.ref 48, .int a0, rp_U, rp_U, rp_U, rp_U, rp_U, rp_U], [], (rp_L0, σ))) := by
  refine rp_lp (q := 1) rfl rfl rfl ?_
  refine rp_lp (q := 2) rfl rfl rfl ?_
  refine rp_lp (q := 4) rfl rfl rfl ?_
  refine rp_lci (uc' := 0) (us' := 0) rfl rfl rfl rfl rfl rfl rfl rfl (fun r2 σ1 => ?_)
  refine rp_lbr (a := 10) (b := 12) rfl rfl rfl ?_ ?_
  ·
    refine rp_lp (q := 11) rfl rfl rfl ?_
    exact rp_lri rfl rfl
  ·
    refine rp_lp (q := 13) rfl rfl rfl ?_
    refine rp_lci (uc' := 0) (us' := 0) rfl (rp_rcv rfl) rfl rfl rfl rfl rfl rfl (fun r4 σ3 => ?_)
    refine rp_lp (q := 17) (ls' := [.ref 48, .int a0, .int r4, rp_U, rp_U, rp_U, rp_U, rp_U]) rfl rfl rfl ?_
    refine rp_lp (q := 18) rfl rfl rfl ?_
    refine rp_lp (q := 19) (ls' := [.ref 48, .int a0, .int r4, .int (-1), rp_U, rp_U, rp_U, rp_U]) rfl rfl rfl ?_
    refine rp_lp (q := 20) rfl rfl rfl ?_
    refine rp_lp (q := 22) (ls' := [.ref 48, .int a0, .int r4, .int (-1), .int (-1), rp_U, rp_U, rp_U]) rfl rfl rfl ?_
    refine rp_lp (q := 23) rfl rfl rfl ?_
    refine rp_lp (q := 25) (ls' := [.ref 48, .int a0, .int r4, .int (-1), .int (-1), .int 0, rp_U, rp_U]) rfl rfl rfl ?_
    exact rp_Le_rfl
set_option maxRecDepth 20000 in
theorem D_Ref_choice_25 {sc : rp_Sc} (x1 : Int32) (x2 : Int32) (x3 : Int32) (x4 : Int32) (x5 : Int32) (σ : rp_Mm) : rp_Le (if (3 ≤ x5 : Prop) then if (x1 = 0 : Prop) then RI x2 σ else if (0 ≤ x3 : Prop) then thV (CL sc 198 [.ref 48, .int x3, .int x4] σ) fun σ1 => if x1 = 1 then RI x3 σ1 else if x1 = 2 then RI x4 σ1 else if x1 = 3 then RI (σ1 48 19) σ1 else if x1 = 4 then RI (σ1 48 21) σ1 else thI (CL sc 203 [.ref 48, .int (x1 - (5 : Int32))] σ1) fun r3 σ2 => RI r3 σ2 else if (x1 = 3 : Prop) then RI 0 σ else if (x1 = 4 : Prop) then RI 0 σ else RI (-3) σ else EV sc (202, 0, 0, 34, [.ref 48, .int x1, .int x2, .int x3, .int x4, .int x5, .int 0, rp_U], [], (rp_L0, σ))) (EV sc (202, 0, 0, 25, [.ref 48, .int x1, .int x2, .int x3, .int x4, .int x5, rp_U, rp_U], [], (rp_L0, σ))) := by
  refine rp_lp (q := 27) rfl rfl rfl ?_
  refine rp_lp (q := 28) rfl rfl rfl ?_
  refine rp_lbr (a := 88) (b := 31) rfl rfl rfl ?_ ?_
  ·
    refine rp_lp (q := 89) rfl rfl rfl ?_
    refine rp_lbr (a := 92) (b := 94) rfl rfl rfl ?_ ?_
    ·
      refine rp_lp (q := 93) rfl rfl rfl ?_
      exact rp_lri rfl rfl
    ·
      refine rp_lp (q := 95) rfl rfl rfl ?_
      refine rp_lbr (a := 115) (b := 98) rfl rfl rfl ?_ ?_
      ·
        refine rp_lp (q := 116) rfl rfl rfl ?_
        refine rp_lp (q := 117) rfl rfl rfl ?_
        refine rp_lp (q := 119) rfl rfl rfl ?_
        refine rp_lcv (uc' := 0) (us' := 0) rfl (rp_rcv rfl) rfl rfl rfl rfl rfl rfl (fun σ1 => ?_)
        refine rp_lp (q := 123) rfl rfl rfl ?_
        refine rp_lsw rfl rfl rfl ?_
        refine rp_swc ?_ ?_
        ·
          refine rp_lp (q := 153) rfl rfl rfl ?_
          exact rp_lri rfl rfl
        ·
          refine rp_swc ?_ ?_
          ·
            refine rp_lp (q := 156) rfl rfl rfl ?_
            exact rp_lri rfl rfl
          ·
            refine rp_swc ?_ ?_
            ·
              refine rp_lp (q := 158) rfl rfl rfl ?_
              refine rp_lgm rfl rfl rfl ?_
              exact rp_lri rfl rfl
            ·
              refine rp_swc ?_ ?_
              ·
                refine rp_lp (q := 163) rfl rfl rfl ?_
                refine rp_lgm rfl rfl rfl ?_
                exact rp_lri rfl rfl
              ·
                refine rp_lp (q := 168) rfl rfl rfl ?_
                refine rp_lp (q := 169) rfl rfl rfl ?_
                refine rp_lp (q := 170) rfl rfl rfl ?_
                refine rp_lp (q := 171) rfl rfl rfl ?_
                refine rp_lci (uc' := 0) (us' := 0) rfl (rp_rcv rfl) rfl rfl rfl rfl rfl rfl (fun r3 σ2 => ?_)
                exact rp_lri rfl rfl
      ·
        refine rp_lp (q := 99) rfl rfl rfl ?_
        refine rp_lp (q := 100) rfl rfl rfl ?_
        refine rp_lbr (a := 108) (b := 103) rfl rfl rfl ?_ ?_
        ·
          refine rp_lp (q := 109) rfl rfl rfl ?_
          refine rp_lp (q := 114) rfl rfl rfl ?_
          exact rp_lri rfl rfl
        ·
          refine rp_lp (q := 104) rfl rfl rfl ?_
          refine rp_lp (q := 105) rfl rfl rfl ?_
          refine rp_lbr (a := 108) (b := 112) rfl rfl rfl ?_ ?_
          ·
            refine rp_lp (q := 109) rfl rfl rfl ?_
            refine rp_lp (q := 114) rfl rfl rfl ?_
            exact rp_lri rfl rfl
          ·
            refine rp_lp (q := 114) rfl rfl rfl ?_
            exact rp_lri rfl rfl
  ·
    refine rp_lp (q := 32) rfl rfl rfl ?_
    refine rp_lp (q := 34) (ls' := [.ref 48, .int x1, .int x2, .int x3, .int x4, .int x5, .int 0, rp_U]) rfl rfl rfl ?_
    exact rp_Le_rfl
set_option maxRecDepth 20000 in
theorem D_Ref_choice_34 {sc : rp_Sc} (x1 : Int32) (x2 : Int32) (x3 : Int32) (x4 : Int32) (x5 : Int32) (x6 : Int32) (σ : rp_Mm) : rp_Le (if (120 < x6 : Prop) then EV sc (202, 0, 0, 82, [.ref 48, .int x1, .int x2, .int x3, .int x4, .int x5, .int x6, rp_U], [], (rp_L0, σ)) else thI (CL sc 171 [.ref 48, .int x5] σ) fun r2 σ1 => if (r2 = 0 : Prop) then EV sc (202, 0, 0, 82, [.ref 48, .int x1, .int x2, .int x3, .int x4, .int x5, .int x6, rp_U], [], (rp_L0, σ1)) else thI (CL sc 197 [.ref 48, .int x5, .int x6] σ1) fun r4 σ3 => if (x2 ≤ r4 : Prop) then EV sc (202, 0, 0, 76, [.ref 48, .int x1, .int x2, .int x3, .int x4, .int x5, .int x6, .int r4], [], (rp_L0, σ3)) else EV sc (202, 0, 0, 76, [.ref 48, .int x1, .int r4, .int x5, .int x6, .int x5, .int x6, .int r4], [], (rp_L0, σ3))) (EV sc (202, 0, 0, 34, [.ref 48, .int x1, .int x2, .int x3, .int x4, .int x5, .int x6, rp_U], [], (rp_L0, σ))) := by
  refine rp_lp (q := 36) rfl rfl rfl ?_
  refine rp_lp (q := 38) rfl rfl rfl ?_
  refine rp_lbr (a := 82) (b := 41) rfl rfl rfl ?_ ?_
  ·
    exact rp_Le_rfl
  ·
    refine rp_lp (q := 42) rfl rfl rfl ?_
    refine rp_lp (q := 44) rfl rfl rfl ?_
    refine rp_lci (uc' := 0) (us' := 0) rfl (rp_rcv rfl) rfl rfl rfl rfl rfl rfl (fun r2 σ1 => ?_)
    refine rp_lbr (a := 82) (b := 50) rfl rfl rfl ?_ ?_
    ·
      exact rp_Le_rfl
    ·
      refine rp_lp (q := 51) rfl rfl rfl ?_
      refine rp_lp (q := 53) rfl rfl rfl ?_
      refine rp_lp (q := 55) rfl rfl rfl ?_
      refine rp_lci (uc' := 0) (us' := 0) rfl (rp_rcv rfl) rfl rfl rfl rfl rfl rfl (fun r4 σ3 => ?_)
      refine rp_lp (q := 60) (ls' := [.ref 48, .int x1, .int x2, .int x3, .int x4, .int x5, .int x6, .int r4]) rfl rfl rfl ?_
      refine rp_lp (q := 62) rfl rfl rfl ?_
      refine rp_lp (q := 63) rfl rfl rfl ?_
      refine rp_lbr (a := 76) (b := 66) rfl rfl rfl ?_ ?_
      ·
        exact rp_Le_rfl
      ·
        refine rp_lp (q := 68) rfl rfl rfl ?_
        refine rp_lp (q := 69) (ls' := [.ref 48, .int x1, .int r4, .int x3, .int x4, .int x5, .int x6, .int r4]) rfl rfl rfl ?_
        refine rp_lp (q := 71) rfl rfl rfl ?_
        refine rp_lp (q := 72) (ls' := [.ref 48, .int x1, .int r4, .int x5, .int x4, .int x5, .int x6, .int r4]) rfl rfl rfl ?_
        refine rp_lp (q := 74) rfl rfl rfl ?_
        refine rp_lp (q := 76) (ls' := [.ref 48, .int x1, .int r4, .int x5, .int x6, .int x5, .int x6, .int r4]) rfl rfl rfl ?_
        exact rp_Le_rfl
set_option maxRecDepth 20000 in
theorem D_Ref_choice_82 {sc : rp_Sc} (x1 : Int32) (x2 : Int32) (x3 : Int32) (x4 : Int32) (x5 : Int32) (x6 : Int32) (σ : rp_Mm) : rp_Le (EV sc (202, 0, 0, 25, [.ref 48, .int x1, .int x2, .int x3, .int x4, .int (x5 + 1), rp_U, rp_U], [], (rp_L0, σ))) (EV sc (202, 0, 0, 82, [.ref 48, .int x1, .int x2, .int x3, .int x4, .int x5, .int x6, rp_U], [], (rp_L0, σ))) := by
  refine rp_lp (q := 85) (ls' := [.ref 48, .int x1, .int x2, .int x3, .int x4, .int (x5 + 1), .int x6, rp_U]) rfl rfl rfl ?_
  refine rp_lp (q := 25) rfl rfl rfl ?_
  exact rp_LeU ⟨Or.inl rfl, Or.inl rfl, Or.inl rfl, Or.inl rfl, Or.inl rfl, Or.inl rfl, Or.inr ⟨rfl, rfl⟩, Or.inl rfl, trivial⟩
set_option maxRecDepth 20000 in
theorem D_Ref_choice_76 {sc : rp_Sc} (x1 : Int32) (x2 : Int32) (x3 : Int32) (x4 : Int32) (x5 : Int32) (x6 : Int32) (x7 : Int32) (σ : rp_Mm) : rp_Le (EV sc (202, 0, 0, 34, [.ref 48, .int x1, .int x2, .int x3, .int x4, .int x5, .int (x6 + 1), rp_U], [], (rp_L0, σ))) (EV sc (202, 0, 0, 76, [.ref 48, .int x1, .int x2, .int x3, .int x4, .int x5, .int x6, .int x7], [], (rp_L0, σ))) := by
  refine rp_lp (q := 79) (ls' := [.ref 48, .int x1, .int x2, .int x3, .int x4, .int x5, .int (x6 + 1), .int x7]) rfl rfl rfl ?_
  refine rp_lp (q := 34) rfl rfl rfl ?_
  exact rp_LeU ⟨Or.inl rfl, Or.inl rfl, Or.inl rfl, Or.inl rfl, Or.inl rfl, Or.inl rfl, Or.inl rfl, Or.inr ⟨rfl, rfl⟩, trivial⟩
-- Ref_takenAt
set_option maxRecDepth 20000 in
theorem D_Ref_takenAt_0 {sc : rp_Sc} (a0 : Int32) (σ : rp_Mm) : rp_Le (EV sc (203, 0, 0, 4, [.ref 48, .int a0, .int a0, .int 0], [], (rp_L0, σ))) (EV sc (203, 0, 0, 0, [.ref 48, .int a0, rp_U, rp_U], [], (rp_L0, σ))) := by
  refine rp_lp (q := 1) rfl rfl rfl ?_
  refine rp_lp (q := 2) (ls' := [.ref 48, .int a0, .int a0, rp_U]) rfl rfl rfl ?_
  refine rp_lp (q := 3) rfl rfl rfl ?_
  refine rp_lp (q := 4) (ls' := [.ref 48, .int a0, .int a0, .int 0]) rfl rfl rfl ?_
  exact rp_Le_rfl
set_option maxRecDepth 20000 in
theorem D_Ref_takenAt_4 {sc : rp_Sc} (x1 : Int32) (x2 : Int32) (x3 : Int32) (σ : rp_Mm) : rp_Le (if (122 ≤ x3 : Prop) then RI (-3) σ else bif rp_ix x3 122 then if ((σ 60 x3.toNatClampNeg) = 0 : Prop) then EV sc (203, 0, 0, 28, [.ref 48, .int x1, .int x2, .int x3], [], (rp_L0, σ)) else if (x2 = 0 : Prop) then RI x3 σ else EV sc (203, 0, 0, 28, [.ref 48, .int x1, .int (x2 + (-1)), .int x3], [], (rp_L0, σ)) else none) (EV sc (203, 0, 0, 4, [.ref 48, .int x1, .int x2, .int x3], [], (rp_L0, σ))) := by
  refine rp_lp (q := 5) rfl rfl rfl ?_
  refine rp_lp (q := 7) rfl rfl rfl ?_
  refine rp_lbr (a := 34) (b := 10) rfl rfl rfl ?_ ?_
  ·
    refine rp_lp (q := 36) rfl rfl rfl ?_
    exact rp_lri rfl rfl
  ·
    refine rp_lp (q := 11) rfl rfl rfl ?_
    refine rp_lgf rfl rfl rfl ?_
    refine rp_lp (q := 15) rfl rfl rfl ?_
    refine rp_lba rfl rfl ?_
    refine rp_lbr (a := 28) (b := 19) rfl rfl rfl ?_ ?_
    ·
      exact rp_Le_rfl
    ·
      refine rp_lp (q := 20) rfl rfl rfl ?_
      refine rp_lbr (a := 23) (b := 25) rfl rfl rfl ?_ ?_
      ·
        refine rp_lp (q := 24) rfl rfl rfl ?_
        exact rp_lri rfl rfl
      ·
        refine rp_lp (q := 28) (ls' := [.ref 48, .int x1, .int (x2 + (-1)), .int x3]) rfl rfl rfl ?_
        exact rp_Le_rfl
set_option maxRecDepth 20000 in
theorem D_Ref_takenAt_28 {sc : rp_Sc} (x1 : Int32) (x2 : Int32) (x3 : Int32) (σ : rp_Mm) : rp_Le (EV sc (203, 0, 0, 4, [.ref 48, .int x1, .int x2, .int (x3 + 1)], [], (rp_L0, σ))) (EV sc (203, 0, 0, 28, [.ref 48, .int x1, .int x2, .int x3], [], (rp_L0, σ))) := by
  refine rp_lp (q := 31) (ls' := [.ref 48, .int x1, .int x2, .int (x3 + 1)]) rfl rfl rfl ?_
  refine rp_lp (q := 4) rfl rfl rfl ?_
  exact rp_Le_rfl
-- Ref_prove
set_option maxRecDepth 20000 in
theorem D_Ref_prove_0 {sc : rp_Sc} (σ : rp_Mm) : rp_Le (thV (CL sc 205 [.ref 48] σ) fun σ1 => if ((σ1 48 23) ≤ 200 : Prop) then EV sc (204, 0, 0, 27, [.ref 48, .int 0], [], (rp_L0, rp_wr σ1 48 25 (σ1 48 23))) else RI (-2) σ1) (EV sc (204, 0, 0, 0, [.ref 48, rp_U], [], (rp_L0, σ))) := by
  refine rp_lp (q := 1) rfl rfl rfl ?_
  refine rp_lcv (uc' := 0) (us' := 0) rfl (rp_rcv rfl) rfl rfl rfl rfl rfl rfl (fun σ1 => ?_)
  refine rp_lp (q := 5) rfl rfl rfl ?_
  refine rp_lgm rfl rfl rfl ?_
  refine rp_lp (q := 11) rfl rfl rfl ?_
  refine rp_lbr (a := 17) (b := 14) rfl rfl rfl ?_ ?_
  ·
    refine rp_lp (q := 18) rfl rfl rfl ?_
    refine rp_lp (q := 19) rfl rfl rfl ?_
    refine rp_lgm rfl rfl rfl ?_
    refine rp_lpm rfl rfl rfl rfl ?_
    refine rp_lp (q := 26) rfl rfl rfl ?_
    refine rp_lp (q := 27) (ls' := [.ref 48, .int 0]) rfl rfl rfl ?_
    exact rp_Le_rfl
  ·
    refine rp_lp (q := 16) rfl rfl rfl ?_
    exact rp_lri rfl rfl
set_option maxRecDepth 20000 in
theorem D_Ref_prove_27 {sc : rp_Sc} (x1 : Int32) (σ : rp_Mm) : rp_Le (if (((3 : Int32) * (σ 48 23)) ≤ x1 : Prop) then RI (σ 48 25) σ else bif rp_ix x1 1089 then bif rp_ix x1 600 then EV sc (204, 0, 0, 27, [.ref 48, .int (x1 + 1)], [], (rp_L0, rp_wr σ 62 x1.toNatClampNeg (σ 61 x1.toNatClampNeg))) else none else none) (EV sc (204, 0, 0, 27, [.ref 48, .int x1], [], (rp_L0, σ))) := by
  refine rp_lp (q := 28) rfl rfl rfl ?_
  refine rp_lp (q := 29) rfl rfl rfl ?_
  refine rp_lp (q := 30) rfl rfl rfl ?_
  refine rp_lgm rfl rfl rfl ?_
  refine rp_lp (q := 34) rfl rfl rfl ?_
  refine rp_lbr (a := 55) (b := 37) rfl rfl rfl ?_ ?_
  ·
    refine rp_lp (q := 56) rfl rfl rfl ?_
    refine rp_lgm rfl rfl rfl ?_
    exact rp_lri rfl rfl
  ·
    refine rp_lp (q := 38) rfl rfl rfl ?_
    refine rp_lgf rfl rfl rfl ?_
    refine rp_lp (q := 42) rfl rfl rfl ?_
    refine rp_lp (q := 43) rfl rfl rfl ?_
    refine rp_lgf rfl rfl rfl ?_
    refine rp_lp (q := 47) rfl rfl rfl ?_
    refine rp_lia rfl rfl ?_
    refine rp_lis rfl rfl ?_
    refine rp_lp (q := 52) (ls' := [.ref 48, .int (x1 + 1)]) rfl rfl rfl ?_
    refine rp_lp (q := 27) rfl rfl rfl ?_
    exact rp_Le_rfl
-- Ref_findDue
set_option maxRecDepth 20000 in
theorem D_Ref_findDue_0 {sc : rp_Sc} (σ : rp_Mm) : rp_Le (EV sc (205, 0, 0, 7, [.ref 48, .int 0, rp_U], [], (rp_L0, rp_wr σ 48 23 0))) (EV sc (205, 0, 0, 0, [.ref 48, rp_U, rp_U], [], (rp_L0, σ))) := by
  refine rp_lp (q := 1) rfl rfl rfl ?_
  refine rp_lp (q := 2) rfl rfl rfl ?_
  refine rp_lpm rfl rfl rfl rfl ?_
  refine rp_lp (q := 6) rfl rfl rfl ?_
  refine rp_lp (q := 7) (ls' := [.ref 48, .int 0, rp_U]) rfl rfl rfl ?_
  exact rp_Le_rfl
set_option maxRecDepth 20000 in
theorem D_Ref_findDue_7 {sc : rp_Sc} (x1 : Int32) (σ : rp_Mm) : rp_Le (if (3 ≤ x1 : Prop) then RV σ else EV sc (205, 0, 0, 14, [.ref 48, .int x1, .int 0], [], (rp_L0, σ))) (EV sc (205, 0, 0, 7, [.ref 48, .int x1, rp_U], [], (rp_L0, σ))) := by
  refine rp_lp (q := 8) rfl rfl rfl ?_
  refine rp_lp (q := 9) rfl rfl rfl ?_
  refine rp_lbr (a := 104) (b := 12) rfl rfl rfl ?_ ?_
  ·
    exact rp_lrv rfl rfl
  ·
    refine rp_lp (q := 13) rfl rfl rfl ?_
    refine rp_lp (q := 14) (ls' := [.ref 48, .int x1, .int 0]) rfl rfl rfl ?_
    exact rp_Le_rfl
set_option maxRecDepth 20000 in
theorem D_Ref_findDue_14 {sc : rp_Sc} (x1 : Int32) (x2 : Int32) (σ : rp_Mm) : rp_Le (if (120 < x2 : Prop) then EV sc (205, 0, 0, 98, [.ref 48, .int x1, .int x2], [], (rp_L0, σ)) else thI (CL sc 171 [.ref 48, .int x1] σ) fun r2 σ1 => if (r2 = 0 : Prop) then EV sc (205, 0, 0, 98, [.ref 48, .int x1, .int x2], [], (rp_L0, σ1)) else thI (CL sc 206 [.ref 48, .int x1, .int x2] σ1) fun r4 σ3 => if (r4 = 0 : Prop) then EV sc (205, 0, 0, 92, [.ref 48, .int x1, .int x2], [], (rp_L0, σ3)) else bif rp_ix ((3 : Int32) * (σ3 48 23)) 1089 then bif rp_ix (((3 : Int32) * ((rp_wr σ3 61 ((3 : Int32) * (σ3 48 23)).toNatClampNeg x1) 48 23)) + (1 : Int32)) 1089 then thI (CL sc 197 [.ref 48, .int x1, .int x2] (rp_wr (rp_wr σ3 61 ((3 : Int32) * (σ3 48 23)).toNatClampNeg x1) 61 (((3 : Int32) * ((rp_wr σ3 61 ((3 : Int32) * (σ3 48 23)).toNatClampNeg x1) 48 23)) + (1 : Int32)).toNatClampNeg x2)) fun r6 σ5 => bif rp_ix (((3 : Int32) * ((rp_wr (rp_wr σ3 61 ((3 : Int32) * (σ3 48 23)).toNatClampNeg x1) 61 (((3 : Int32) * ((rp_wr σ3 61 ((3 : Int32) * (σ3 48 23)).toNatClampNeg x1) 48 23)) + (1 : Int32)).toNatClampNeg x2) 48 23)) + (2 : Int32)) 1089 then EV sc (205, 0, 0, 92, [.ref 48, .int x1, .int x2], [], (rp_L0, rp_wr (rp_wr σ5 61 (((3 : Int32) * ((rp_wr (rp_wr σ3 61 ((3 : Int32) * (σ3 48 23)).toNatClampNeg x1) 61 (((3 : Int32) * ((rp_wr σ3 61 ((3 : Int32) * (σ3 48 23)).toNatClampNeg x1) 48 23)) + (1 : Int32)).toNatClampNeg x2) 48 23)) + (2 : Int32)).toNatClampNeg r6) 48 23 (((rp_wr σ5 61 (((3 : Int32) * ((rp_wr (rp_wr σ3 61 ((3 : Int32) * (σ3 48 23)).toNatClampNeg x1) 61 (((3 : Int32) * ((rp_wr σ3 61 ((3 : Int32) * (σ3 48 23)).toNatClampNeg x1) 48 23)) + (1 : Int32)).toNatClampNeg x2) 48 23)) + (2 : Int32)).toNatClampNeg r6) 48 23) + (1 : Int32)))) else none else none else none) (EV sc (205, 0, 0, 14, [.ref 48, .int x1, .int x2], [], (rp_L0, σ))) := by
  refine rp_lp (q := 15) rfl rfl rfl ?_
  refine rp_lp (q := 17) rfl rfl rfl ?_
  refine rp_lbr (a := 98) (b := 20) rfl rfl rfl ?_ ?_
  ·
    exact rp_Le_rfl
  ·
    refine rp_lp (q := 21) rfl rfl rfl ?_
    refine rp_lp (q := 22) rfl rfl rfl ?_
    refine rp_lci (uc' := 0) (us' := 0) rfl (rp_rcv rfl) rfl rfl rfl rfl rfl rfl (fun r2 σ1 => ?_)
    refine rp_lbr (a := 98) (b := 28) rfl rfl rfl ?_ ?_
    ·
      exact rp_Le_rfl
    ·
      refine rp_lp (q := 29) rfl rfl rfl ?_
      refine rp_lp (q := 30) rfl rfl rfl ?_
      refine rp_lp (q := 31) rfl rfl rfl ?_
      refine rp_lci (uc' := 0) (us' := 0) rfl (rp_rcv rfl) rfl rfl rfl rfl rfl rfl (fun r4 σ3 => ?_)
      refine rp_lbr (a := 92) (b := 37) rfl rfl rfl ?_ ?_
      ·
        exact rp_Le_rfl
      ·
        refine rp_lp (q := 38) rfl rfl rfl ?_
        refine rp_lgf rfl rfl rfl ?_
        refine rp_lp (q := 42) rfl rfl rfl ?_
        refine rp_lp (q := 43) rfl rfl rfl ?_
        refine rp_lgm rfl rfl rfl ?_
        refine rp_lp (q := 47) rfl rfl rfl ?_
        refine rp_lp (q := 48) rfl rfl rfl ?_
        refine rp_lis rfl rfl ?_
        refine rp_lp (q := 50) rfl rfl rfl ?_
        refine rp_lgf rfl rfl rfl ?_
        refine rp_lp (q := 54) rfl rfl rfl ?_
        refine rp_lp (q := 55) rfl rfl rfl ?_
        refine rp_lgm rfl rfl rfl ?_
        refine rp_lp (q := 59) rfl rfl rfl ?_
        refine rp_lp (q := 60) rfl rfl rfl ?_
        refine rp_lp (q := 61) rfl rfl rfl ?_
        refine rp_lp (q := 62) rfl rfl rfl ?_
        refine rp_lis rfl rfl ?_
        refine rp_lp (q := 64) rfl rfl rfl ?_
        refine rp_lgf rfl rfl rfl ?_
        refine rp_lp (q := 68) rfl rfl rfl ?_
        refine rp_lp (q := 69) rfl rfl rfl ?_
        refine rp_lgm rfl rfl rfl ?_
        refine rp_lp (q := 73) rfl rfl rfl ?_
        refine rp_lp (q := 74) rfl rfl rfl ?_
        refine rp_lp (q := 75) rfl rfl rfl ?_
        refine rp_lp (q := 76) rfl rfl rfl ?_
        refine rp_lp (q := 77) rfl rfl rfl ?_
        refine rp_lp (q := 78) rfl rfl rfl ?_
        refine rp_lci (uc' := 0) (us' := 0) rfl (rp_rcv rfl) rfl rfl rfl rfl rfl rfl (fun r6 σ5 => ?_)
        refine rp_lis rfl rfl ?_
        refine rp_lp (q := 83) rfl rfl rfl ?_
        refine rp_lp (q := 84) rfl rfl rfl ?_
        refine rp_lgm rfl rfl rfl ?_
        refine rp_lp (q := 88) rfl rfl rfl ?_
        refine rp_lp (q := 89) rfl rfl rfl ?_
        refine rp_lpm rfl rfl rfl rfl ?_
        exact rp_Le_rfl
set_option maxRecDepth 20000 in
theorem D_Ref_findDue_98 {sc : rp_Sc} (x1 : Int32) (x2 : Int32) (σ : rp_Mm) : rp_Le (EV sc (205, 0, 0, 7, [.ref 48, .int (x1 + 1), rp_U], [], (rp_L0, σ))) (EV sc (205, 0, 0, 98, [.ref 48, .int x1, .int x2], [], (rp_L0, σ))) := by
  refine rp_lp (q := 101) (ls' := [.ref 48, .int (x1 + 1), .int x2]) rfl rfl rfl ?_
  refine rp_lp (q := 7) rfl rfl rfl ?_
  exact rp_LeU ⟨Or.inl rfl, Or.inl rfl, Or.inr ⟨rfl, rfl⟩, trivial⟩
set_option maxRecDepth 20000 in
theorem D_Ref_findDue_92 {sc : rp_Sc} (x1 : Int32) (x2 : Int32) (σ : rp_Mm) : rp_Le (EV sc (205, 0, 0, 14, [.ref 48, .int x1, .int (x2 + 1)], [], (rp_L0, σ))) (EV sc (205, 0, 0, 92, [.ref 48, .int x1, .int x2], [], (rp_L0, σ))) := by
  refine rp_lp (q := 95) (ls' := [.ref 48, .int x1, .int (x2 + 1)]) rfl rfl rfl ?_
  refine rp_lp (q := 14) rfl rfl rfl ?_
  exact rp_Le_rfl
-- Ref_isSomeGood
set_option maxRecDepth 20000 in
theorem D_Ref_isSomeGood_0 {sc : rp_Sc} (a0 : Int32) (a1 : Int32) (σ : rp_Mm) : rp_Le (EV sc (206, 0, 0, 5, [.ref 48, .int a0, .int a1, .int 0, .int 0], [], (rp_L0, σ))) (EV sc (206, 0, 0, 0, [.ref 48, .int a0, .int a1, rp_U, rp_U], [], (rp_L0, σ))) := by
  refine rp_lp (q := 1) rfl rfl rfl ?_
  refine rp_lp (q := 2) (ls' := [.ref 48, .int a0, .int a1, .int 0, rp_U]) rfl rfl rfl ?_
  refine rp_lp (q := 3) rfl rfl rfl ?_
  refine rp_lp (q := 5) (ls' := [.ref 48, .int a0, .int a1, .int 0, .int 0]) rfl rfl rfl ?_
  exact rp_Le_rfl
set_option maxRecDepth 20000 in
theorem D_Ref_isSomeGood_5 {sc : rp_Sc} (x1 : Int32) (x2 : Int32) (x3 : Int32) (x4 : Int32) (σ : rp_Mm) : rp_Le (if ((σ 49 4) ≤ x4 : Prop) then if x3 &&& 1 = x3 then RI x3 σ else none else if (x3 = 0 : Prop) then thI (CL sc 200 [.ref 48, .int x4, .int x1] σ) fun r2 σ1 => bif rp_ix (((12 : Int32) * x1) + (1 : Int32)) 48 then thI (CL sc 151 [.int r2, .int x2, .int ((x2 + (σ1 52 (((12 : Int32) * x1) + (1 : Int32)).toNatClampNeg)) - (1 : Int32))] σ1) fun r4 σ3 => if (r4 = 0 : Prop) then EV sc (206, 0, 0, 54, [.ref 48, .int x1, .int x2, .int x3, .int x4], [.int 0], (rp_L0, σ3)) else EV sc (206, 0, 0, 49, [.ref 48, .int x1, .int x2, .int x3, .int x4], [], (rp_L0, σ3)) else none else EV sc (206, 0, 0, 49, [.ref 48, .int x1, .int x2, .int x3, .int x4], [], (rp_L0, σ))) (EV sc (206, 0, 0, 5, [.ref 48, .int x1, .int x2, .int x3, .int x4], [], (rp_L0, σ))) := by
  refine rp_lp (q := 7) rfl rfl rfl ?_
  refine rp_lp (q := 8) rfl rfl rfl ?_
  refine rp_lgf rfl rfl rfl ?_
  refine rp_lp (q := 12) rfl rfl rfl ?_
  refine rp_lil rfl rfl (by decide +kernel) (k := 4) (by decide +kernel) ?_
  refine rp_lbr (a := 61) (b := 16) rfl rfl rfl ?_ ?_
  ·
    refine rp_lp (q := 62) rfl rfl rfl ?_
    exact rp_lrq rfl rfl
  ·
    refine rp_lp (q := 17) rfl rfl rfl ?_
    refine rp_lbr (a := 20) (b := 49) rfl rfl rfl ?_ ?_
    ·
      refine rp_lp (q := 21) rfl rfl rfl ?_
      refine rp_lp (q := 23) rfl rfl rfl ?_
      refine rp_lp (q := 24) rfl rfl rfl ?_
      refine rp_lci (uc' := 0) (us' := 0) rfl (rp_rcv rfl) rfl rfl rfl rfl rfl rfl (fun r2 σ1 => ?_)
      refine rp_lp (q := 28) rfl rfl rfl ?_
      refine rp_lp (q := 29) rfl rfl rfl ?_
      refine rp_lp (q := 30) rfl rfl rfl ?_
      refine rp_lgf rfl rfl rfl ?_
      refine rp_lp (q := 35) rfl rfl rfl ?_
      refine rp_lp (q := 36) rfl rfl rfl ?_
      refine rp_lp (q := 37) rfl rfl rfl ?_
      refine rp_lp (q := 38) rfl rfl rfl ?_
      refine rp_lp (q := 39) rfl rfl rfl ?_
      refine rp_lia rfl rfl ?_
      refine rp_lp (q := 41) rfl rfl rfl ?_
      refine rp_lp (q := 42) rfl rfl rfl ?_
      refine rp_lp (q := 43) rfl rfl rfl ?_
      refine rp_lci (uc' := 0) (us' := 0) rfl rfl rfl rfl rfl rfl rfl rfl (fun r4 σ3 => ?_)
      refine rp_lbr (a := 53) (b := 49) rfl rfl rfl ?_ ?_
      ·
        refine rp_lp (q := 54) rfl rfl rfl ?_
        exact rp_Le_rfl
      ·
        exact rp_Le_rfl
    ·
      exact rp_Le_rfl
set_option maxRecDepth 20000 in
theorem D_Ref_isSomeGood_54 {sc : rp_Sc} (x1 : Int32) (x2 : Int32) (x3 : Int32) (x4 : Int32) (y0 : Int32) (σ : rp_Mm) : rp_Le (EV sc (206, 0, 0, 5, [.ref 48, .int x1, .int x2, .int y0, .int (x4 + 1)], [], (rp_L0, σ))) (EV sc (206, 0, 0, 54, [.ref 48, .int x1, .int x2, .int x3, .int x4], [.int y0], (rp_L0, σ))) := by
  refine rp_lp (q := 55) (ls' := [.ref 48, .int x1, .int x2, .int y0, .int x4]) rfl rfl rfl ?_
  refine rp_lp (q := 58) (ls' := [.ref 48, .int x1, .int x2, .int y0, .int (x4 + 1)]) rfl rfl rfl ?_
  refine rp_lp (q := 5) rfl rfl rfl ?_
  exact rp_Le_rfl
set_option maxRecDepth 20000 in
theorem D_Ref_isSomeGood_49 {sc : rp_Sc} (x1 : Int32) (x2 : Int32) (x3 : Int32) (x4 : Int32) (σ : rp_Mm) : rp_Le (EV sc (206, 0, 0, 54, [.ref 48, .int x1, .int x2, .int x3, .int x4], [.int 1], (rp_L0, σ))) (EV sc (206, 0, 0, 49, [.ref 48, .int x1, .int x2, .int x3, .int x4], [], (rp_L0, σ))) := by
  refine rp_lp (q := 50) rfl rfl rfl ?_
  refine rp_lp (q := 54) rfl rfl rfl ?_
  exact rp_Le_rfl
-- Ref_row
set_option maxRecDepth 20000 in
theorem D_Ref_row_0 {sc : rp_Sc} (a0 : Int32) (a1 : Int32) (σ : rp_Mm) : rp_Le (thI (CL sc 151 [.int a1, .int 0, .int 2] σ) fun r2 σ1 => if (r2 = 0 : Prop) then RI (-1) σ1 else thI (CL sc 151 [.int a0, .int 0, .int ((σ1 48 25) - (1 : Int32))] σ1) fun r4 σ3 => if (r4 = 0 : Prop) then RI (-3) σ3 else bif rp_ix (((3 : Int32) * a0) + a1) 600 then RI (σ3 62 (((3 : Int32) * a0) + a1).toNatClampNeg) σ3 else none) (EV sc (207, 0, 0, 0, [.ref 48, .int a0, .int a1], [], (rp_L0, σ))) := by
  refine rp_lp (q := 1) rfl rfl rfl ?_
  refine rp_lp (q := 2) rfl rfl rfl ?_
  refine rp_lp (q := 3) rfl rfl rfl ?_
  refine rp_lci (uc' := 0) (us' := 0) rfl rfl rfl rfl rfl rfl rfl rfl (fun r2 σ1 => ?_)
  refine rp_lbr (a := 9) (b := 11) rfl rfl rfl ?_ ?_
  ·
    refine rp_lp (q := 10) rfl rfl rfl ?_
    exact rp_lri rfl rfl
  ·
    refine rp_lp (q := 12) rfl rfl rfl ?_
    refine rp_lp (q := 13) rfl rfl rfl ?_
    refine rp_lp (q := 14) rfl rfl rfl ?_
    refine rp_lgm rfl rfl rfl ?_
    refine rp_lp (q := 18) rfl rfl rfl ?_
    refine rp_lp (q := 19) rfl rfl rfl ?_
    refine rp_lci (uc' := 0) (us' := 0) rfl rfl rfl rfl rfl rfl rfl rfl (fun r4 σ3 => ?_)
    refine rp_lbr (a := 38) (b := 25) rfl rfl rfl ?_ ?_
    ·
      refine rp_lp (q := 40) rfl rfl rfl ?_
      exact rp_lri rfl rfl
    ·
      refine rp_lp (q := 26) rfl rfl rfl ?_
      refine rp_lgf rfl rfl rfl ?_
      refine rp_lp (q := 30) rfl rfl rfl ?_
      refine rp_lp (q := 31) rfl rfl rfl ?_
      refine rp_lp (q := 32) rfl rfl rfl ?_
      refine rp_lp (q := 33) rfl rfl rfl ?_
      refine rp_lp (q := 34) rfl rfl rfl ?_
      refine rp_lia rfl rfl ?_
      refine rp_lp (q := 40) rfl rfl rfl ?_
      exact rp_lri rfl rfl
-- Ref_forge
set_option maxRecDepth 20000 in
theorem D_Ref_forge_0 {sc : rp_Sc} (a0 : Int32) (a1 : Int32) (a2 : Int32) (σ : rp_Mm) : rp_Le (thI (CL sc 151 [.int a1, .int 0, .int 2] σ) fun r2 σ1 => if (r2 = 0 : Prop) then RI (-1) σ1 else thI (CL sc 151 [.int a0, .int 0, .int ((σ1 48 25) - (1 : Int32))] σ1) fun r4 σ3 => if (r4 = 0 : Prop) then RI (-3) σ3 else bif rp_ix (((3 : Int32) * a0) + a1) 600 then bif rp_ix (((3 : Int32) * a0) + a1) 600 then RI (σ3 62 (((3 : Int32) * a0) + a1).toNatClampNeg) (rp_wr σ3 62 (((3 : Int32) * a0) + a1).toNatClampNeg a2) else none else none) (EV sc (208, 0, 0, 0, [.ref 48, .int a0, .int a1, .int a2, rp_U], [], (rp_L0, σ))) := by
  refine rp_lp (q := 1) rfl rfl rfl ?_
  refine rp_lp (q := 2) rfl rfl rfl ?_
  refine rp_lp (q := 3) rfl rfl rfl ?_
  refine rp_lci (uc' := 0) (us' := 0) rfl rfl rfl rfl rfl rfl rfl rfl (fun r2 σ1 => ?_)
  refine rp_lbr (a := 9) (b := 11) rfl rfl rfl ?_ ?_
  ·
    refine rp_lp (q := 10) rfl rfl rfl ?_
    exact rp_lri rfl rfl
  ·
    refine rp_lp (q := 12) rfl rfl rfl ?_
    refine rp_lp (q := 13) rfl rfl rfl ?_
    refine rp_lp (q := 14) rfl rfl rfl ?_
    refine rp_lgm rfl rfl rfl ?_
    refine rp_lp (q := 18) rfl rfl rfl ?_
    refine rp_lp (q := 19) rfl rfl rfl ?_
    refine rp_lci (uc' := 0) (us' := 0) rfl rfl rfl rfl rfl rfl rfl rfl (fun r4 σ3 => ?_)
    refine rp_lbr (a := 25) (b := 28) rfl rfl rfl ?_ ?_
    ·
      refine rp_lp (q := 27) rfl rfl rfl ?_
      exact rp_lri rfl rfl
    ·
      refine rp_lp (q := 29) rfl rfl rfl ?_
      refine rp_lgf rfl rfl rfl ?_
      refine rp_lp (q := 33) rfl rfl rfl ?_
      refine rp_lp (q := 34) rfl rfl rfl ?_
      refine rp_lp (q := 35) rfl rfl rfl ?_
      refine rp_lp (q := 36) rfl rfl rfl ?_
      refine rp_lp (q := 37) rfl rfl rfl ?_
      refine rp_lia rfl rfl ?_
      refine rp_lp (q := 40) (ls' := [.ref 48, .int a0, .int a1, .int a2, .int (σ3 62 (((3 : Int32) * a0) + a1).toNatClampNeg)]) rfl rfl rfl ?_
      refine rp_lp (q := 41) rfl rfl rfl ?_
      refine rp_lgf rfl rfl rfl ?_
      refine rp_lp (q := 45) rfl rfl rfl ?_
      refine rp_lp (q := 46) rfl rfl rfl ?_
      refine rp_lp (q := 47) rfl rfl rfl ?_
      refine rp_lp (q := 48) rfl rfl rfl ?_
      refine rp_lp (q := 49) rfl rfl rfl ?_
      refine rp_lp (q := 50) rfl rfl rfl ?_
      refine rp_lis rfl rfl ?_
      refine rp_lp (q := 53) rfl rfl rfl ?_
      exact rp_lri rfl rfl
-- Ref_check
set_option maxRecDepth 20000 in
theorem D_Ref_check_0 {sc : rp_Sc} (σ : rp_Mm) : rp_Le (thV (CL sc 205 [.ref 48] σ) fun σ1 => if ((σ1 48 23) ≤ 200 : Prop) then EV sc (209, 0, 0, 19, [.ref 48, .int 0], [], (rp_L0, σ1)) else RI (-2) σ1) (EV sc (209, 0, 0, 0, [.ref 48, rp_U], [], (rp_L0, σ))) := by
  refine rp_lp (q := 1) rfl rfl rfl ?_
  refine rp_lcv (uc' := 0) (us' := 0) rfl (rp_rcv rfl) rfl rfl rfl rfl rfl rfl (fun σ1 => ?_)
  refine rp_lp (q := 5) rfl rfl rfl ?_
  refine rp_lgm rfl rfl rfl ?_
  refine rp_lp (q := 11) rfl rfl rfl ?_
  refine rp_lbr (a := 17) (b := 14) rfl rfl rfl ?_ ?_
  ·
    refine rp_lp (q := 18) rfl rfl rfl ?_
    refine rp_lp (q := 19) (ls' := [.ref 48, .int 0]) rfl rfl rfl ?_
    exact rp_Le_rfl
  ·
    refine rp_lp (q := 16) rfl rfl rfl ?_
    exact rp_lri rfl rfl
set_option maxRecDepth 20000 in
theorem D_Ref_check_19 {sc : rp_Sc} (x1 : Int32) (σ : rp_Mm) : rp_Le (if (((3 : Int32) * (σ 48 25)) ≤ x1 : Prop) then if ((σ 48 23) ≤ (σ 48 25) : Prop) then RI (-1) σ else RI (σ 48 25) σ else if (((3 : Int32) * (σ 48 23)) ≤ x1 : Prop) then RI (x1 / (3 : Int32)) σ else bif rp_ix x1 600 then bif rp_ix x1 1089 then if ((σ 62 x1.toNatClampNeg) = (σ 61 x1.toNatClampNeg) : Prop) then EV sc (209, 0, 0, 19, [.ref 48, .int (x1 + 1)], [], (rp_L0, σ)) else RI (x1 / (3 : Int32)) σ else none else none) (EV sc (209, 0, 0, 19, [.ref 48, .int x1], [], (rp_L0, σ))) := by
  refine rp_lp (q := 20) rfl rfl rfl ?_
  refine rp_lp (q := 21) rfl rfl rfl ?_
  refine rp_lp (q := 22) rfl rfl rfl ?_
  refine rp_lgm rfl rfl rfl ?_
  refine rp_lp (q := 26) rfl rfl rfl ?_
  refine rp_lbr (a := 64) (b := 29) rfl rfl rfl ?_ ?_
  ·
    refine rp_lp (q := 65) rfl rfl rfl ?_
    refine rp_lgm rfl rfl rfl ?_
    refine rp_lp (q := 69) rfl rfl rfl ?_
    refine rp_lgm rfl rfl rfl ?_
    refine rp_lbr (a := 82) (b := 75) rfl rfl rfl ?_ ?_
    ·
      refine rp_lp (q := 83) rfl rfl rfl ?_
      exact rp_lri rfl rfl
    ·
      refine rp_lp (q := 76) rfl rfl rfl ?_
      refine rp_lgm rfl rfl rfl ?_
      refine rp_lp (q := 83) rfl rfl rfl ?_
      exact rp_lri rfl rfl
  ·
    refine rp_lp (q := 30) rfl rfl rfl ?_
    refine rp_lp (q := 31) rfl rfl rfl ?_
    refine rp_lp (q := 32) rfl rfl rfl ?_
    refine rp_lgm rfl rfl rfl ?_
    refine rp_lp (q := 36) rfl rfl rfl ?_
    refine rp_lbr (a := 54) (b := 39) rfl rfl rfl ?_ ?_
    ·
      refine rp_lp (q := 55) rfl rfl rfl ?_
      refine rp_lp (q := 56) rfl rfl rfl ?_
      refine rp_ldv rfl (by decide) ?_
      exact rp_lri rfl rfl
    ·
      refine rp_lp (q := 40) rfl rfl rfl ?_
      refine rp_lgf rfl rfl rfl ?_
      refine rp_lp (q := 44) rfl rfl rfl ?_
      refine rp_lia rfl rfl ?_
      refine rp_lp (q := 46) rfl rfl rfl ?_
      refine rp_lgf rfl rfl rfl ?_
      refine rp_lp (q := 50) rfl rfl rfl ?_
      refine rp_lia rfl rfl ?_
      refine rp_lbr (a := 58) (b := 54) rfl rfl rfl ?_ ?_
      ·
        refine rp_lp (q := 61) (ls' := [.ref 48, .int (x1 + 1)]) rfl rfl rfl ?_
        refine rp_lp (q := 19) rfl rfl rfl ?_
        exact rp_Le_rfl
      ·
        refine rp_lp (q := 55) rfl rfl rfl ?_
        refine rp_lp (q := 56) rfl rfl rfl ?_
        refine rp_ldv rfl (by decide) ?_
        exact rp_lri rfl rfl
-- Ref_miles
set_option maxRecDepth 20000 in
theorem D_Ref_miles_0 {sc : rp_Sc} (a0 : Int32) (a1 : Int32) (σ : rp_Mm) : rp_Le (thI (CL sc 211 [.ref 48, .int a0, .int a1, .int 0] σ) fun r2 σ1 => RI r2 σ1) (EV sc (210, 0, 0, 0, [.ref 48, .int a0, .int a1], [], (rp_L0, σ))) := by
  refine rp_lp (q := 1) rfl rfl rfl ?_
  refine rp_lp (q := 2) rfl rfl rfl ?_
  refine rp_lp (q := 3) rfl rfl rfl ?_
  refine rp_lp (q := 4) rfl rfl rfl ?_
  refine rp_lci (uc' := 0) (us' := 0) rfl (rp_rcv rfl) rfl rfl rfl rfl rfl rfl (fun r2 σ1 => ?_)
  exact rp_lri rfl rfl
-- Ref_wayTo
set_option maxRecDepth 20000 in
theorem D_Ref_wayTo_0 {sc : rp_Sc} (a0 : Int32) (a1 : Int32) (a2 : Int32) (σ : rp_Mm) : rp_Le (thI (CL sc 150 [.int a0] σ) fun r2 σ1 => if (r2 = 0 : Prop) then RI (-1) σ1 else thI (CL sc 150 [.int a1] σ1) fun r4 σ3 => if (r4 = 0 : Prop) then RI (-1) σ3 else thV (CL sc 212 [.ref 48, .int a0] σ3) fun σ5 => bif rp_ix a1 10 then if ((σ5 63 a1.toNatClampNeg) < 100000000 : Prop) then if (a2 = 0 : Prop) then bif rp_ix a1 10 then RI ((σ5 63 a1.toNatClampNeg) / (16384 : Int32)) σ5 else none else bif rp_ix a1 10 then RI ((σ5 63 a1.toNatClampNeg) - (σ5 63 a1.toNatClampNeg) / (16384 : Int32) * (16384 : Int32)) σ5 else none else RI (-3) σ5 else none) (EV sc (211, 0, 0, 0, [.ref 48, .int a0, .int a1, .int a2], [], (rp_L0, σ))) := by
  refine rp_lp (q := 1) rfl rfl rfl ?_
  refine rp_lci (uc' := 0) (us' := 0) rfl rfl rfl rfl rfl rfl rfl rfl (fun r2 σ1 => ?_)
  refine rp_lbr (a := 14) (b := 7) rfl rfl rfl ?_ ?_
  ·
    refine rp_lp (q := 15) rfl rfl rfl ?_
    exact rp_lri rfl rfl
  ·
    refine rp_lp (q := 8) rfl rfl rfl ?_
    refine rp_lci (uc' := 0) (us' := 0) rfl rfl rfl rfl rfl rfl rfl rfl (fun r4 σ3 => ?_)
    refine rp_lbr (a := 14) (b := 16) rfl rfl rfl ?_ ?_
    ·
      refine rp_lp (q := 15) rfl rfl rfl ?_
      exact rp_lri rfl rfl
    ·
      refine rp_lp (q := 17) rfl rfl rfl ?_
      refine rp_lp (q := 18) rfl rfl rfl ?_
      refine rp_lcv (uc' := 0) (us' := 0) rfl (rp_rcv rfl) rfl rfl rfl rfl rfl rfl (fun σ5 => ?_)
      refine rp_lp (q := 22) rfl rfl rfl ?_
      refine rp_lgf rfl rfl rfl ?_
      refine rp_lp (q := 26) rfl rfl rfl ?_
      refine rp_lia rfl rfl ?_
      refine rp_lp (q := 29) rfl rfl rfl ?_
      refine rp_lbr (a := 35) (b := 32) rfl rfl rfl ?_ ?_
      ·
        refine rp_lp (q := 36) rfl rfl rfl ?_
        refine rp_lbr (a := 52) (b := 39) rfl rfl rfl ?_ ?_
        ·
          refine rp_lp (q := 53) rfl rfl rfl ?_
          refine rp_lgf rfl rfl rfl ?_
          refine rp_lp (q := 57) rfl rfl rfl ?_
          refine rp_lia rfl rfl ?_
          refine rp_lp (q := 61) rfl rfl rfl ?_
          refine rp_ldv rfl (by decide) ?_
          exact rp_lri rfl rfl
        ·
          refine rp_lp (q := 40) rfl rfl rfl ?_
          refine rp_lgf rfl rfl rfl ?_
          refine rp_lp (q := 44) rfl rfl rfl ?_
          refine rp_lia rfl rfl ?_
          refine rp_lp (q := 48) rfl rfl rfl ?_
          refine rp_lrm rfl (by decide) ?_
          refine rp_lp (q := 62) rfl rfl rfl ?_
          exact rp_lri rfl rfl
      ·
        refine rp_lp (q := 34) rfl rfl rfl ?_
        exact rp_lri rfl rfl
-- Ref_reach
set_option maxRecDepth 20000 in
theorem D_Ref_reach_0 {sc : rp_Sc} (a0 : Int32) (σ : rp_Mm) : rp_Le (EV sc (212, 0, 0, 2, [.ref 48, .int a0, .int 0, rp_U, rp_U, rp_U, rp_U], [], (rp_L0, σ))) (EV sc (212, 0, 0, 0, [.ref 48, .int a0, rp_U, rp_U, rp_U, rp_U, rp_U], [], (rp_L0, σ))) := by
  refine rp_lp (q := 1) rfl rfl rfl ?_
  refine rp_lp (q := 2) (ls' := [.ref 48, .int a0, .int 0, rp_U, rp_U, rp_U, rp_U]) rfl rfl rfl ?_
  exact rp_Le_rfl
set_option maxRecDepth 20000 in
theorem D_Ref_reach_2 {sc : rp_Sc} (x1 : Int32) (x2 : Int32) (σ : rp_Mm) : rp_Le (if (10 ≤ x2 : Prop) then EV sc (212, 0, 0, 33, [.ref 48, .int x1, .int 1, rp_U, rp_U, rp_U, rp_U], [], (rp_L0, σ)) else if (x2 = x1 : Prop) then EV sc (212, 0, 0, 24, [.ref 48, .int x1, .int x2, rp_U, rp_U, rp_U, rp_U], [.int 0, .int x2, .ref 63], (rp_L0, σ)) else EV sc (212, 0, 0, 24, [.ref 48, .int x1, .int x2, rp_U, rp_U, rp_U, rp_U], [.int 100000000, .int x2, .ref 63], (rp_L0, σ))) (EV sc (212, 0, 0, 2, [.ref 48, .int x1, .int x2, rp_U, rp_U, rp_U, rp_U], [], (rp_L0, σ))) := by
  refine rp_lp (q := 3) rfl rfl rfl ?_
  refine rp_lp (q := 5) rfl rfl rfl ?_
  refine rp_lbr (a := 31) (b := 8) rfl rfl rfl ?_ ?_
  ·
    refine rp_lp (q := 32) rfl rfl rfl ?_
    refine rp_lp (q := 33) (ls' := [.ref 48, .int x1, .int 1, rp_U, rp_U, rp_U, rp_U]) rfl rfl rfl ?_
    exact rp_Le_rfl
  ·
    refine rp_lp (q := 9) rfl rfl rfl ?_
    refine rp_lgf rfl rfl rfl ?_
    refine rp_lp (q := 13) rfl rfl rfl ?_
    refine rp_lp (q := 14) rfl rfl rfl ?_
    refine rp_lp (q := 15) rfl rfl rfl ?_
    refine rp_lbr (a := 18) (b := 22) rfl rfl rfl ?_ ?_
    ·
      refine rp_lp (q := 19) rfl rfl rfl ?_
      refine rp_lp (q := 24) rfl rfl rfl ?_
      exact rp_Le_rfl
    ·
      refine rp_lp (q := 24) rfl rfl rfl ?_
      exact rp_Le_rfl
set_option maxRecDepth 20000 in
theorem D_Ref_reach_33 {sc : rp_Sc} (x1 : Int32) (x2 : Int32) (σ : rp_Mm) : rp_Le (if (x2 = 0 : Prop) then RV σ else EV sc (212, 0, 0, 41, [.ref 48, .int x1, .int 0, .int 0, rp_U, rp_U, rp_U], [], (rp_L0, σ))) (EV sc (212, 0, 0, 33, [.ref 48, .int x1, .int x2, rp_U, rp_U, rp_U, rp_U], [], (rp_L0, σ))) := by
  refine rp_lp (q := 34) rfl rfl rfl ?_
  refine rp_lbr (a := 180) (b := 37) rfl rfl rfl ?_ ?_
  ·
    exact rp_lrv rfl rfl
  ·
    refine rp_lp (q := 38) rfl rfl rfl ?_
    refine rp_lp (q := 39) (ls' := [.ref 48, .int x1, .int 0, rp_U, rp_U, rp_U, rp_U]) rfl rfl rfl ?_
    refine rp_lp (q := 40) rfl rfl rfl ?_
    refine rp_lp (q := 41) (ls' := [.ref 48, .int x1, .int 0, .int 0, rp_U, rp_U, rp_U]) rfl rfl rfl ?_
    exact rp_Le_rfl
set_option maxRecDepth 20000 in
theorem D_Ref_reach_24 {sc : rp_Sc} (x1 : Int32) (x2 : Int32) (y0 : Int32) (y1 : Int32) (σ : rp_Mm) : rp_Le (bif rp_ix y1 10 then EV sc (212, 0, 0, 2, [.ref 48, .int x1, .int (x2 + 1), rp_U, rp_U, rp_U, rp_U], [], (rp_L0, rp_wr σ 63 y1.toNatClampNeg y0)) else none) (EV sc (212, 0, 0, 24, [.ref 48, .int x1, .int x2, rp_U, rp_U, rp_U, rp_U], [.int y0, .int y1, .ref 63], (rp_L0, σ))) := by
  refine rp_lis rfl rfl ?_
  refine rp_lp (q := 28) (ls' := [.ref 48, .int x1, .int (x2 + 1), rp_U, rp_U, rp_U, rp_U]) rfl rfl rfl ?_
  refine rp_lp (q := 2) rfl rfl rfl ?_
  exact rp_Le_rfl
set_option maxRecDepth 20000 in
theorem D_Ref_reach_41 {sc : rp_Sc} (x1 : Int32) (x2 : Int32) (x3 : Int32) (σ : rp_Mm) : rp_Le (if ((σ 49 0) ≤ x3 : Prop) then EV sc (212, 0, 0, 33, [.ref 48, .int x1, .int x2, rp_U, rp_U, rp_U, rp_U], [], (rp_L0, σ)) else bif rp_ix ((5 : Int32) * x3) 70 then bif rp_ix (((5 : Int32) * x3) + (1 : Int32)) 70 then bif rp_ix (((5 : Int32) * x3) + (3 : Int32)) 70 then bif rp_ix (σ 50 ((5 : Int32) * x3).toNatClampNeg) 10 then bif rp_ix (σ 50 (((5 : Int32) * x3) + (1 : Int32)).toNatClampNeg) 10 then if ((σ 63 (σ 50 (((5 : Int32) * x3) + (1 : Int32)).toNatClampNeg).toNatClampNeg) ≤ ((σ 63 (σ 50 ((5 : Int32) * x3).toNatClampNeg).toNatClampNeg) + (((16384 : Int32) * (σ 50 (((5 : Int32) * x3) + (3 : Int32)).toNatClampNeg)) + ((1 : Int32) <<< (x3 &&& 31)))) : Prop) then EV sc (212, 0, 0, 132, [.ref 48, .int x1, .int x2, .int x3, .int (σ 50 ((5 : Int32) * x3).toNatClampNeg), .int (σ 50 (((5 : Int32) * x3) + (1 : Int32)).toNatClampNeg), .int (((16384 : Int32) * (σ 50 (((5 : Int32) * x3) + (3 : Int32)).toNatClampNeg)) + ((1 : Int32) <<< (x3 &&& 31)))], [], (rp_L0, σ)) else bif rp_ix (σ 50 ((5 : Int32) * x3).toNatClampNeg) 10 then bif rp_ix (σ 50 (((5 : Int32) * x3) + (1 : Int32)).toNatClampNeg) 10 then EV sc (212, 0, 0, 132, [.ref 48, .int x1, .int 1, .int x3, .int (σ 50 ((5 : Int32) * x3).toNatClampNeg), .int (σ 50 (((5 : Int32) * x3) + (1 : Int32)).toNatClampNeg), .int (((16384 : Int32) * (σ 50 (((5 : Int32) * x3) + (3 : Int32)).toNatClampNeg)) + ((1 : Int32) <<< (x3 &&& 31)))], [], (rp_L0, rp_wr σ 63 (σ 50 (((5 : Int32) * x3) + (1 : Int32)).toNatClampNeg).toNatClampNeg ((σ 63 (σ 50 ((5 : Int32) * x3).toNatClampNeg).toNatClampNeg) + (((16384 : Int32) * (σ 50 (((5 : Int32) * x3) + (3 : Int32)).toNatClampNeg)) + ((1 : Int32) <<< (x3 &&& 31)))))) else none else none else none else none else none else none else none) (EV sc (212, 0, 0, 41, [.ref 48, .int x1, .int x2, .int x3, rp_U, rp_U, rp_U], [], (rp_L0, σ))) := by
  refine rp_lp (q := 42) rfl rfl rfl ?_
  refine rp_lp (q := 43) rfl rfl rfl ?_
  refine rp_lgf rfl rfl rfl ?_
  refine rp_lp (q := 47) rfl rfl rfl ?_
  refine rp_lil rfl rfl (by decide +kernel) (k := 0) (by decide +kernel) ?_
  refine rp_lbr (a := 177) (b := 51) rfl rfl rfl ?_ ?_
  ·
    refine rp_lp (q := 33) rfl rfl rfl ?_
    exact rp_LeU ⟨Or.inl rfl, Or.inl rfl, Or.inl rfl, Or.inr ⟨rfl, rfl⟩, Or.inl rfl, Or.inl rfl, Or.inl rfl, trivial⟩
  ·
    refine rp_lp (q := 52) rfl rfl rfl ?_
    refine rp_lgf rfl rfl rfl ?_
    refine rp_lp (q := 56) rfl rfl rfl ?_
    refine rp_lp (q := 57) rfl rfl rfl ?_
    refine rp_lp (q := 58) rfl rfl rfl ?_
    refine rp_lia rfl rfl ?_
    refine rp_lp (q := 61) (ls' := [.ref 48, .int x1, .int x2, .int x3, .int (σ 50 ((5 : Int32) * x3).toNatClampNeg), rp_U, rp_U]) rfl rfl rfl ?_
    refine rp_lp (q := 62) rfl rfl rfl ?_
    refine rp_lgf rfl rfl rfl ?_
    refine rp_lp (q := 66) rfl rfl rfl ?_
    refine rp_lp (q := 67) rfl rfl rfl ?_
    refine rp_lp (q := 68) rfl rfl rfl ?_
    refine rp_lp (q := 69) rfl rfl rfl ?_
    refine rp_lp (q := 70) rfl rfl rfl ?_
    refine rp_lia rfl rfl ?_
    refine rp_lp (q := 73) (ls' := [.ref 48, .int x1, .int x2, .int x3, .int (σ 50 ((5 : Int32) * x3).toNatClampNeg), .int (σ 50 (((5 : Int32) * x3) + (1 : Int32)).toNatClampNeg), rp_U]) rfl rfl rfl ?_
    refine rp_lp (q := 76) rfl rfl rfl ?_
    refine rp_lp (q := 77) rfl rfl rfl ?_
    refine rp_lgf rfl rfl rfl ?_
    refine rp_lp (q := 81) rfl rfl rfl ?_
    refine rp_lp (q := 82) rfl rfl rfl ?_
    refine rp_lp (q := 83) rfl rfl rfl ?_
    refine rp_lp (q := 84) rfl rfl rfl ?_
    refine rp_lp (q := 85) rfl rfl rfl ?_
    refine rp_lia rfl rfl ?_
    refine rp_lp (q := 87) rfl rfl rfl ?_
    refine rp_lp (q := 88) rfl rfl rfl ?_
    refine rp_lp (q := 89) rfl rfl rfl ?_
    refine rp_lp (q := 90) rfl rfl rfl ?_
    refine rp_lp (q := 91) rfl rfl rfl ?_
    refine rp_lp (q := 93) (ls' := [.ref 48, .int x1, .int x2, .int x3, .int (σ 50 ((5 : Int32) * x3).toNatClampNeg), .int (σ 50 (((5 : Int32) * x3) + (1 : Int32)).toNatClampNeg), .int (((16384 : Int32) * (σ 50 (((5 : Int32) * x3) + (3 : Int32)).toNatClampNeg)) + ((1 : Int32) <<< (x3 &&& 31)))]) rfl rfl rfl ?_
    refine rp_lp (q := 94) rfl rfl rfl ?_
    refine rp_lgf rfl rfl rfl ?_
    refine rp_lp (q := 99) rfl rfl rfl ?_
    refine rp_lia rfl rfl ?_
    refine rp_lp (q := 102) rfl rfl rfl ?_
    refine rp_lp (q := 103) rfl rfl rfl ?_
    refine rp_lp (q := 104) rfl rfl rfl ?_
    refine rp_lgf rfl rfl rfl ?_
    refine rp_lp (q := 109) rfl rfl rfl ?_
    refine rp_lia rfl rfl ?_
    refine rp_lbr (a := 132) (b := 113) rfl rfl rfl ?_ ?_
    ·
      exact rp_Le_rfl
    ·
      refine rp_lp (q := 114) rfl rfl rfl ?_
      refine rp_lgf rfl rfl rfl ?_
      refine rp_lp (q := 119) rfl rfl rfl ?_
      refine rp_lp (q := 120) rfl rfl rfl ?_
      refine rp_lgf rfl rfl rfl ?_
      refine rp_lp (q := 125) rfl rfl rfl ?_
      refine rp_lia rfl rfl ?_
      refine rp_lp (q := 128) rfl rfl rfl ?_
      refine rp_lp (q := 129) rfl rfl rfl ?_
      refine rp_lis rfl rfl ?_
      refine rp_lp (q := 131) rfl rfl rfl ?_
      refine rp_lp (q := 132) (ls' := [.ref 48, .int x1, .int 1, .int x3, .int (σ 50 ((5 : Int32) * x3).toNatClampNeg), .int (σ 50 (((5 : Int32) * x3) + (1 : Int32)).toNatClampNeg), .int (((16384 : Int32) * (σ 50 (((5 : Int32) * x3) + (3 : Int32)).toNatClampNeg)) + ((1 : Int32) <<< (x3 &&& 31)))]) rfl rfl rfl ?_
      exact rp_Le_rfl
set_option maxRecDepth 20000 in
theorem D_Ref_reach_132 {sc : rp_Sc} (x1 : Int32) (x2 : Int32) (x3 : Int32) (x4 : Int32) (x5 : Int32) (x6 : Int32) (σ : rp_Mm) : rp_Le (bif rp_ix x5 10 then bif rp_ix x4 10 then if ((σ 63 x4.toNatClampNeg) ≤ ((σ 63 x5.toNatClampNeg) + x6) : Prop) then EV sc (212, 0, 0, 171, [.ref 48, .int x1, .int x2, .int x3, .int x4, .int x5, .int x6], [], (rp_L0, σ)) else bif rp_ix x5 10 then bif rp_ix x4 10 then EV sc (212, 0, 0, 171, [.ref 48, .int x1, .int 1, .int x3, .int x4, .int x5, .int x6], [], (rp_L0, rp_wr σ 63 x4.toNatClampNeg ((σ 63 x5.toNatClampNeg) + x6))) else none else none else none else none) (EV sc (212, 0, 0, 132, [.ref 48, .int x1, .int x2, .int x3, .int x4, .int x5, .int x6], [], (rp_L0, σ))) := by
  refine rp_lp (q := 133) rfl rfl rfl ?_
  refine rp_lgf rfl rfl rfl ?_
  refine rp_lp (q := 138) rfl rfl rfl ?_
  refine rp_lia rfl rfl ?_
  refine rp_lp (q := 141) rfl rfl rfl ?_
  refine rp_lp (q := 142) rfl rfl rfl ?_
  refine rp_lp (q := 143) rfl rfl rfl ?_
  refine rp_lgf rfl rfl rfl ?_
  refine rp_lp (q := 148) rfl rfl rfl ?_
  refine rp_lia rfl rfl ?_
  refine rp_lbr (a := 171) (b := 152) rfl rfl rfl ?_ ?_
  ·
    exact rp_Le_rfl
  ·
    refine rp_lp (q := 153) rfl rfl rfl ?_
    refine rp_lgf rfl rfl rfl ?_
    refine rp_lp (q := 158) rfl rfl rfl ?_
    refine rp_lp (q := 159) rfl rfl rfl ?_
    refine rp_lgf rfl rfl rfl ?_
    refine rp_lp (q := 164) rfl rfl rfl ?_
    refine rp_lia rfl rfl ?_
    refine rp_lp (q := 167) rfl rfl rfl ?_
    refine rp_lp (q := 168) rfl rfl rfl ?_
    refine rp_lis rfl rfl ?_
    refine rp_lp (q := 170) rfl rfl rfl ?_
    refine rp_lp (q := 171) (ls' := [.ref 48, .int x1, .int 1, .int x3, .int x4, .int x5, .int x6]) rfl rfl rfl ?_
    exact rp_Le_rfl
set_option maxRecDepth 20000 in
theorem D_Ref_reach_171 {sc : rp_Sc} (x1 : Int32) (x2 : Int32) (x3 : Int32) (x4 : Int32) (x5 : Int32) (x6 : Int32) (σ : rp_Mm) : rp_Le (EV sc (212, 0, 0, 41, [.ref 48, .int x1, .int x2, .int (x3 + 1), rp_U, rp_U, rp_U], [], (rp_L0, σ))) (EV sc (212, 0, 0, 171, [.ref 48, .int x1, .int x2, .int x3, .int x4, .int x5, .int x6], [], (rp_L0, σ))) := by
  refine rp_lp (q := 174) (ls' := [.ref 48, .int x1, .int x2, .int (x3 + 1), .int x4, .int x5, .int x6]) rfl rfl rfl ?_
  refine rp_lp (q := 41) rfl rfl rfl ?_
  exact rp_LeU ⟨Or.inl rfl, Or.inl rfl, Or.inl rfl, Or.inl rfl, Or.inr ⟨rfl, rfl⟩, Or.inr ⟨rfl, rfl⟩, Or.inr ⟨rfl, rfl⟩, trivial⟩
-- Ref_way
set_option maxRecDepth 20000 in
theorem D_Ref_way_0 {sc : rp_Sc} (a0 : Int32) (a1 : Int32) (σ : rp_Mm) : rp_Le (thI (CL sc 211 [.ref 48, .int a0, .int a1, .int 1] σ) fun r2 σ1 => RI r2 σ1) (EV sc (213, 0, 0, 0, [.ref 48, .int a0, .int a1], [], (rp_L0, σ))) := by
  refine rp_lp (q := 1) rfl rfl rfl ?_
  refine rp_lp (q := 2) rfl rfl rfl ?_
  refine rp_lp (q := 3) rfl rfl rfl ?_
  refine rp_lp (q := 4) rfl rfl rfl ?_
  refine rp_lci (uc' := 0) (us' := 0) rfl (rp_rcv rfl) rfl rfl rfl rfl rfl rfl (fun r2 σ1 => ?_)
  exact rp_lri rfl rfl
-- Ref_scan
set_option maxRecDepth 20000 in
theorem D_Ref_scan_0 {sc : rp_Sc} (a0 : Int32) (a1 : Int32) (a2 : Int32) (a3 : Int32) (σ : rp_Mm) : rp_Le (thI (CL sc 176 [.ref 48, .int a0] σ) fun r2 σ1 => if (r2 = 0 : Prop) then RI (-1) σ1 else thI (CL sc 150 [.int a3] σ1) fun r4 σ3 => if (r4 = 0 : Prop) then RI (-1) σ3 else thI (CL sc 151 [.int a1, .int 0, .int (σ3 49 6)] σ3) fun r6 σ5 => if (r6 = 0 : Prop) then RI (-1) σ5 else thI (CL sc 151 [.int a2, .int 0, .int 1439] σ5) fun r8 σ7 => if (r8 = 0 : Prop) then RI (-1) σ7 else if ((σ7 49 5) = 40 : Prop) then RI (-2) σ7 else bif rp_ix ((5 : Int32) * (σ7 49 5)) 200 then bif rp_ix (((5 : Int32) * (σ7 49 5)) + (1 : Int32)) 200 then bif rp_ix (((5 : Int32) * (σ7 49 5)) + (2 : Int32)) 200 then bif rp_ix (((5 : Int32) * (σ7 49 5)) + (3 : Int32)) 200 then bif rp_ix (((5 : Int32) * (σ7 49 5)) + (4 : Int32)) 200 then RI (((rp_wr (rp_wr (rp_wr (rp_wr (rp_wr (rp_wr σ7 56 ((5 : Int32) * (σ7 49 5)).toNatClampNeg a0) 56 (((5 : Int32) * (σ7 49 5)) + (1 : Int32)).toNatClampNeg a1) 56 (((5 : Int32) * (σ7 49 5)) + (2 : Int32)).toNatClampNeg a2) 56 (((5 : Int32) * (σ7 49 5)) + (3 : Int32)).toNatClampNeg a3) 56 (((5 : Int32) * (σ7 49 5)) + (4 : Int32)).toNatClampNeg ((rp_wr (rp_wr (rp_wr (rp_wr σ7 56 ((5 : Int32) * (σ7 49 5)).toNatClampNeg a0) 56 (((5 : Int32) * (σ7 49 5)) + (1 : Int32)).toNatClampNeg a1) 56 (((5 : Int32) * (σ7 49 5)) + (2 : Int32)).toNatClampNeg a2) 56 (((5 : Int32) * (σ7 49 5)) + (3 : Int32)).toNatClampNeg a3) 49 6)) 49 5 (((rp_wr (rp_wr (rp_wr (rp_wr (rp_wr σ7 56 ((5 : Int32) * (σ7 49 5)).toNatClampNeg a0) 56 (((5 : Int32) * (σ7 49 5)) + (1 : Int32)).toNatClampNeg a1) 56 (((5 : Int32) * (σ7 49 5)) + (2 : Int32)).toNatClampNeg a2) 56 (((5 : Int32) * (σ7 49 5)) + (3 : Int32)).toNatClampNeg a3) 56 (((5 : Int32) * (σ7 49 5)) + (4 : Int32)).toNatClampNeg ((rp_wr (rp_wr (rp_wr (rp_wr σ7 56 ((5 : Int32) * (σ7 49 5)).toNatClampNeg a0) 56 (((5 : Int32) * (σ7 49 5)) + (1 : Int32)).toNatClampNeg a1) 56 (((5 : Int32) * (σ7 49 5)) + (2 : Int32)).toNatClampNeg a2) 56 (((5 : Int32) * (σ7 49 5)) + (3 : Int32)).toNatClampNeg a3) 49 6)) 49 5) + (1 : Int32))) 49 5) - (1 : Int32)) (rp_wr (rp_wr (rp_wr (rp_wr (rp_wr (rp_wr σ7 56 ((5 : Int32) * (σ7 49 5)).toNatClampNeg a0) 56 (((5 : Int32) * (σ7 49 5)) + (1 : Int32)).toNatClampNeg a1) 56 (((5 : Int32) * (σ7 49 5)) + (2 : Int32)).toNatClampNeg a2) 56 (((5 : Int32) * (σ7 49 5)) + (3 : Int32)).toNatClampNeg a3) 56 (((5 : Int32) * (σ7 49 5)) + (4 : Int32)).toNatClampNeg ((rp_wr (rp_wr (rp_wr (rp_wr σ7 56 ((5 : Int32) * (σ7 49 5)).toNatClampNeg a0) 56 (((5 : Int32) * (σ7 49 5)) + (1 : Int32)).toNatClampNeg a1) 56 (((5 : Int32) * (σ7 49 5)) + (2 : Int32)).toNatClampNeg a2) 56 (((5 : Int32) * (σ7 49 5)) + (3 : Int32)).toNatClampNeg a3) 49 6)) 49 5 (((rp_wr (rp_wr (rp_wr (rp_wr (rp_wr σ7 56 ((5 : Int32) * (σ7 49 5)).toNatClampNeg a0) 56 (((5 : Int32) * (σ7 49 5)) + (1 : Int32)).toNatClampNeg a1) 56 (((5 : Int32) * (σ7 49 5)) + (2 : Int32)).toNatClampNeg a2) 56 (((5 : Int32) * (σ7 49 5)) + (3 : Int32)).toNatClampNeg a3) 56 (((5 : Int32) * (σ7 49 5)) + (4 : Int32)).toNatClampNeg ((rp_wr (rp_wr (rp_wr (rp_wr σ7 56 ((5 : Int32) * (σ7 49 5)).toNatClampNeg a0) 56 (((5 : Int32) * (σ7 49 5)) + (1 : Int32)).toNatClampNeg a1) 56 (((5 : Int32) * (σ7 49 5)) + (2 : Int32)).toNatClampNeg a2) 56 (((5 : Int32) * (σ7 49 5)) + (3 : Int32)).toNatClampNeg a3) 49 6)) 49 5) + (1 : Int32))) else none else none else none else none else none) (EV sc (214, 0, 0, 0, [.ref 48, .int a0, .int a1, .int a2, .int a3, rp_U], [], (rp_L0, σ))) := by
  refine rp_lp (q := 1) rfl rfl rfl ?_
  refine rp_lp (q := 2) rfl rfl rfl ?_
  refine rp_lci (uc' := 0) (us' := 0) rfl (rp_rcv rfl) rfl rfl rfl rfl rfl rfl (fun r2 σ1 => ?_)
  refine rp_lbr (a := 42) (b := 8) rfl rfl rfl ?_ ?_
  ·
    refine rp_lp (q := 43) rfl rfl rfl ?_
    exact rp_lri rfl rfl
  ·
    refine rp_lp (q := 10) rfl rfl rfl ?_
    refine rp_lci (uc' := 0) (us' := 0) rfl rfl rfl rfl rfl rfl rfl rfl (fun r4 σ3 => ?_)
    refine rp_lbr (a := 42) (b := 16) rfl rfl rfl ?_ ?_
    ·
      refine rp_lp (q := 43) rfl rfl rfl ?_
      exact rp_lri rfl rfl
    ·
      refine rp_lp (q := 17) rfl rfl rfl ?_
      refine rp_lp (q := 18) rfl rfl rfl ?_
      refine rp_lp (q := 19) rfl rfl rfl ?_
      refine rp_lgf rfl rfl rfl ?_
      refine rp_lp (q := 24) rfl rfl rfl ?_
      refine rp_lil rfl rfl (by decide +kernel) (k := 6) (by decide +kernel) ?_
      refine rp_lci (uc' := 0) (us' := 0) rfl rfl rfl rfl rfl rfl rfl rfl (fun r6 σ5 => ?_)
      refine rp_lbr (a := 42) (b := 31) rfl rfl rfl ?_ ?_
      ·
        refine rp_lp (q := 43) rfl rfl rfl ?_
        exact rp_lri rfl rfl
      ·
        refine rp_lp (q := 32) rfl rfl rfl ?_
        refine rp_lp (q := 33) rfl rfl rfl ?_
        refine rp_lp (q := 36) rfl rfl rfl ?_
        refine rp_lci (uc' := 0) (us' := 0) rfl rfl rfl rfl rfl rfl rfl rfl (fun r8 σ7 => ?_)
        refine rp_lbr (a := 42) (b := 44) rfl rfl rfl ?_ ?_
        ·
          refine rp_lp (q := 43) rfl rfl rfl ?_
          exact rp_lri rfl rfl
        ·
          refine rp_lp (q := 45) rfl rfl rfl ?_
          refine rp_lgf rfl rfl rfl ?_
          refine rp_lp (q := 49) rfl rfl rfl ?_
          refine rp_lil rfl rfl (by decide +kernel) (k := 5) (by decide +kernel) ?_
          refine rp_lp (q := 52) rfl rfl rfl ?_
          refine rp_lbr (a := 55) (b := 58) rfl rfl rfl ?_ ?_
          ·
            refine rp_lp (q := 57) rfl rfl rfl ?_
            exact rp_lri rfl rfl
          ·
            refine rp_lp (q := 59) rfl rfl rfl ?_
            refine rp_lp (q := 60) rfl rfl rfl ?_
            refine rp_lgf rfl rfl rfl ?_
            refine rp_lp (q := 64) rfl rfl rfl ?_
            refine rp_lil rfl rfl (by decide +kernel) (k := 5) (by decide +kernel) ?_
            refine rp_lp (q := 66) rfl rfl rfl ?_
            refine rp_lp (q := 68) (ls' := [.ref 48, .int a0, .int a1, .int a2, .int a3, .int ((5 : Int32) * (σ7 49 5))]) rfl rfl rfl ?_
            refine rp_lp (q := 69) rfl rfl rfl ?_
            refine rp_lgf rfl rfl rfl ?_
            refine rp_lp (q := 74) rfl rfl rfl ?_
            refine rp_lp (q := 75) rfl rfl rfl ?_
            refine rp_lis rfl rfl ?_
            refine rp_lp (q := 77) rfl rfl rfl ?_
            refine rp_lgf rfl rfl rfl ?_
            refine rp_lp (q := 82) rfl rfl rfl ?_
            refine rp_lp (q := 83) rfl rfl rfl ?_
            refine rp_lp (q := 84) rfl rfl rfl ?_
            refine rp_lp (q := 85) rfl rfl rfl ?_
            refine rp_lis rfl rfl ?_
            refine rp_lp (q := 87) rfl rfl rfl ?_
            refine rp_lgf rfl rfl rfl ?_
            refine rp_lp (q := 92) rfl rfl rfl ?_
            refine rp_lp (q := 93) rfl rfl rfl ?_
            refine rp_lp (q := 94) rfl rfl rfl ?_
            refine rp_lp (q := 95) rfl rfl rfl ?_
            refine rp_lis rfl rfl ?_
            refine rp_lp (q := 97) rfl rfl rfl ?_
            refine rp_lgf rfl rfl rfl ?_
            refine rp_lp (q := 102) rfl rfl rfl ?_
            refine rp_lp (q := 103) rfl rfl rfl ?_
            refine rp_lp (q := 104) rfl rfl rfl ?_
            refine rp_lp (q := 106) rfl rfl rfl ?_
            refine rp_lis rfl rfl ?_
            refine rp_lp (q := 108) rfl rfl rfl ?_
            refine rp_lgf rfl rfl rfl ?_
            refine rp_lp (q := 113) rfl rfl rfl ?_
            refine rp_lp (q := 114) rfl rfl rfl ?_
            refine rp_lp (q := 115) rfl rfl rfl ?_
            refine rp_lp (q := 116) rfl rfl rfl ?_
            refine rp_lgf rfl rfl rfl ?_
            refine rp_lp (q := 121) rfl rfl rfl ?_
            refine rp_lil rfl rfl (by decide +kernel) (k := 6) (by decide +kernel) ?_
            refine rp_lis rfl rfl ?_
            refine rp_lp (q := 124) rfl rfl rfl ?_
            refine rp_lgf rfl rfl rfl ?_
            refine rp_lp (q := 128) rfl rfl rfl ?_
            refine rp_lp (q := 129) rfl rfl rfl ?_
            refine rp_lil rfl rfl (by decide +kernel) (k := 5) (by decide +kernel) ?_
            refine rp_lp (q := 131) rfl rfl rfl ?_
            refine rp_lp (q := 132) rfl rfl rfl ?_
            refine rp_lsl rfl rfl (by decide +kernel) (k := 5) (by decide +kernel) ?_
            refine rp_lp (q := 134) rfl rfl rfl ?_
            refine rp_lgf rfl rfl rfl ?_
            refine rp_lp (q := 138) rfl rfl rfl ?_
            refine rp_lil rfl rfl (by decide +kernel) (k := 5) (by decide +kernel) ?_
            refine rp_lp (q := 140) rfl rfl rfl ?_
            refine rp_lp (q := 141) rfl rfl rfl ?_
            exact rp_lri rfl rfl
-- Ref_ridden
set_option maxRecDepth 20000 in
theorem D_Ref_ridden_0 {sc : rp_Sc} (a0 : Int32) (a1 : Int32) (a2 : Int32) (σ : rp_Mm) : rp_Le (thI (CL sc 176 [.ref 48, .int a0] σ) fun r2 σ1 => if (r2 = 0 : Prop) then RI (-1) σ1 else thI (CL sc 151 [.int a2, .int 0, .int 8] σ1) fun r4 σ3 => if (r4 = 0 : Prop) then RI (-1) σ3 else thI (CL sc 216 [.ref 48, .int a1] σ3) fun r6 σ5 => if (r6 = 0 : Prop) then RI (-1) σ5 else thV (CL sc 217 [.ref 48, .int a0, .int a1] σ5) fun σ7 => bif rp_ix a2 9 then RI (σ7 64 a2.toNatClampNeg) σ7 else none) (EV sc (215, 0, 0, 0, [.ref 48, .int a0, .int a1, .int a2], [], (rp_L0, σ))) := by
  refine rp_lp (q := 1) rfl rfl rfl ?_
  refine rp_lp (q := 2) rfl rfl rfl ?_
  refine rp_lci (uc' := 0) (us' := 0) rfl (rp_rcv rfl) rfl rfl rfl rfl rfl rfl (fun r2 σ1 => ?_)
  refine rp_lbr (a := 26) (b := 8) rfl rfl rfl ?_ ?_
  ·
    refine rp_lp (q := 27) rfl rfl rfl ?_
    exact rp_lri rfl rfl
  ·
    refine rp_lp (q := 9) rfl rfl rfl ?_
    refine rp_lp (q := 10) rfl rfl rfl ?_
    refine rp_lp (q := 12) rfl rfl rfl ?_
    refine rp_lci (uc' := 0) (us' := 0) rfl rfl rfl rfl rfl rfl rfl rfl (fun r4 σ3 => ?_)
    refine rp_lbr (a := 26) (b := 18) rfl rfl rfl ?_ ?_
    ·
      refine rp_lp (q := 27) rfl rfl rfl ?_
      exact rp_lri rfl rfl
    ·
      refine rp_lp (q := 19) rfl rfl rfl ?_
      refine rp_lp (q := 20) rfl rfl rfl ?_
      refine rp_lci (uc' := 0) (us' := 0) rfl (rp_rcv rfl) rfl rfl rfl rfl rfl rfl (fun r6 σ5 => ?_)
      refine rp_lbr (a := 26) (b := 28) rfl rfl rfl ?_ ?_
      ·
        refine rp_lp (q := 27) rfl rfl rfl ?_
        exact rp_lri rfl rfl
      ·
        refine rp_lp (q := 29) rfl rfl rfl ?_
        refine rp_lp (q := 30) rfl rfl rfl ?_
        refine rp_lp (q := 31) rfl rfl rfl ?_
        refine rp_lcv (uc' := 0) (us' := 0) rfl (rp_rcv rfl) rfl rfl rfl rfl rfl rfl (fun σ7 => ?_)
        refine rp_lp (q := 35) rfl rfl rfl ?_
        refine rp_lgf rfl rfl rfl ?_
        refine rp_lp (q := 39) rfl rfl rfl ?_
        refine rp_lia rfl rfl ?_
        exact rp_lri rfl rfl
-- Ref_isKnown
set_option maxRecDepth 20000 in
theorem D_Ref_isKnown_0 {sc : rp_Sc} (a0 : Int32) (σ : rp_Mm) : rp_Le (thI (CL sc 151 [.int a0, .int 0, .int (σ 49 6)] σ) fun r2 σ1 => if r2 &&& 1 = r2 then RI r2 σ1 else none) (EV sc (216, 0, 0, 0, [.ref 48, .int a0], [], (rp_L0, σ))) := by
  refine rp_lp (q := 1) rfl rfl rfl ?_
  refine rp_lp (q := 2) rfl rfl rfl ?_
  refine rp_lp (q := 3) rfl rfl rfl ?_
  refine rp_lgf rfl rfl rfl ?_
  refine rp_lp (q := 8) rfl rfl rfl ?_
  refine rp_lil rfl rfl (by decide +kernel) (k := 6) (by decide +kernel) ?_
  refine rp_lci (uc' := 0) (us' := 0) rfl rfl rfl rfl rfl rfl rfl rfl (fun r2 σ1 => ?_)
  exact rp_lrq rfl rfl
-- Ref_goThrough
set_option maxRecDepth 20000 in
theorem D_Ref_goThrough_0 {sc : rp_Sc} (a0 : Int32) (a1 : Int32) (σ : rp_Mm) : rp_Le (EV sc (217, 0, 0, 2, [.ref 48, .int a0, .int a1, .int 0, rp_U], [], (rp_L0, σ))) (EV sc (217, 0, 0, 0, [.ref 48, .int a0, .int a1, rp_U, rp_U], [], (rp_L0, σ))) := by
  refine rp_lp (q := 1) rfl rfl rfl ?_
  refine rp_lp (q := 2) (ls' := [.ref 48, .int a0, .int a1, .int 0, rp_U]) rfl rfl rfl ?_
  exact rp_Le_rfl
set_option maxRecDepth 20000 in
theorem D_Ref_goThrough_2 {sc : rp_Sc} (x1 : Int32) (x2 : Int32) (x3 : Int32) (σ : rp_Mm) : rp_Le (if (9 ≤ x3 : Prop) then thI (CL sc 218 [.ref 48, .int x1, .int (-1), .int x2] σ) fun r2 σ1 => EV sc (217, 0, 0, 29, [.ref 48, .int x1, .int x2, .int r2, rp_U], [], (rp_L0, σ1)) else bif rp_ix x3 9 then EV sc (217, 0, 0, 2, [.ref 48, .int x1, .int x2, .int (x3 + 1), rp_U], [], (rp_L0, rp_wr σ 64 x3.toNatClampNeg 0)) else none) (EV sc (217, 0, 0, 2, [.ref 48, .int x1, .int x2, .int x3, rp_U], [], (rp_L0, σ))) := by
  refine rp_lp (q := 3) rfl rfl rfl ?_
  refine rp_lp (q := 5) rfl rfl rfl ?_
  refine rp_lbr (a := 21) (b := 8) rfl rfl rfl ?_ ?_
  ·
    refine rp_lp (q := 22) rfl rfl rfl ?_
    refine rp_lp (q := 23) rfl rfl rfl ?_
    refine rp_lp (q := 24) rfl rfl rfl ?_
    refine rp_lp (q := 25) rfl rfl rfl ?_
    refine rp_lci (uc' := 0) (us' := 0) rfl (rp_rcv rfl) rfl rfl rfl rfl rfl rfl (fun r2 σ1 => ?_)
    refine rp_lp (q := 29) (ls' := [.ref 48, .int x1, .int x2, .int r2, rp_U]) rfl rfl rfl ?_
    exact rp_Le_rfl
  ·
    refine rp_lp (q := 9) rfl rfl rfl ?_
    refine rp_lgf rfl rfl rfl ?_
    refine rp_lp (q := 13) rfl rfl rfl ?_
    refine rp_lp (q := 14) rfl rfl rfl ?_
    refine rp_lis rfl rfl ?_
    refine rp_lp (q := 18) (ls' := [.ref 48, .int x1, .int x2, .int (x3 + 1), rp_U]) rfl rfl rfl ?_
    refine rp_lp (q := 2) rfl rfl rfl ?_
    exact rp_Le_rfl
set_option maxRecDepth 20000 in
theorem D_Ref_goThrough_29 {sc : rp_Sc} (x1 : Int32) (x2 : Int32) (x3 : Int32) (σ : rp_Mm) : rp_Le (if (x3 < 0 : Prop) then RV σ else thI (CL sc 219 [.ref 48, .int x3] σ) fun r2 σ1 => thI (CL sc 218 [.ref 48, .int x1, .int r2, .int x2] σ1) fun r4 σ3 => if (r4 < 0 : Prop) then EV sc (217, 0, 0, 106, [.ref 48, .int x1, .int x2, .int x3, .int r4], [], (rp_L0, σ3)) else bif rp_ix (((5 : Int32) * x3) + (1 : Int32)) 200 then bif rp_ix (((5 : Int32) * r4) + (1 : Int32)) 200 then if ((σ3 56 (((5 : Int32) * x3) + (1 : Int32)).toNatClampNeg) = (σ3 56 (((5 : Int32) * r4) + (1 : Int32)).toNatClampNeg) : Prop) then bif rp_ix (((5 : Int32) * x3) + (3 : Int32)) 200 then bif rp_ix (((5 : Int32) * r4) + (3 : Int32)) 200 then if ((σ3 56 (((5 : Int32) * x3) + (3 : Int32)).toNatClampNeg) = (σ3 56 (((5 : Int32) * r4) + (3 : Int32)).toNatClampNeg) : Prop) then EV sc (217, 0, 0, 106, [.ref 48, .int x1, .int x2, .int x3, .int r4], [], (rp_L0, σ3)) else thV (CL sc 220 [.ref 48, .int x3, .int r4] σ3) fun σ5 => EV sc (217, 0, 0, 106, [.ref 48, .int x1, .int x2, .int x3, .int r4], [], (rp_L0, σ5)) else none else none else EV sc (217, 0, 0, 106, [.ref 48, .int x1, .int x2, .int x3, .int r4], [], (rp_L0, σ3)) else none else none) (EV sc (217, 0, 0, 29, [.ref 48, .int x1, .int x2, .int x3, rp_U], [], (rp_L0, σ))) := by
  refine rp_lp (q := 30) rfl rfl rfl ?_
  refine rp_lbr (a := 112) (b := 33) rfl rfl rfl ?_ ?_
  ·
    exact rp_lrv rfl rfl
  ·
    refine rp_lp (q := 34) rfl rfl rfl ?_
    refine rp_lp (q := 35) rfl rfl rfl ?_
    refine rp_lp (q := 36) rfl rfl rfl ?_
    refine rp_lp (q := 37) rfl rfl rfl ?_
    refine rp_lci (uc' := 0) (us' := 0) rfl (rp_rcv rfl) rfl rfl rfl rfl rfl rfl (fun r2 σ1 => ?_)
    refine rp_lp (q := 41) rfl rfl rfl ?_
    refine rp_lci (uc' := 0) (us' := 0) rfl (rp_rcv rfl) rfl rfl rfl rfl rfl rfl (fun r4 σ3 => ?_)
    refine rp_lp (q := 46) (ls' := [.ref 48, .int x1, .int x2, .int x3, .int r4]) rfl rfl rfl ?_
    refine rp_lp (q := 48) rfl rfl rfl ?_
    refine rp_lbr (a := 106) (b := 51) rfl rfl rfl ?_ ?_
    ·
      exact rp_Le_rfl
    ·
      refine rp_lp (q := 52) rfl rfl rfl ?_
      refine rp_lgf rfl rfl rfl ?_
      refine rp_lp (q := 56) rfl rfl rfl ?_
      refine rp_lp (q := 57) rfl rfl rfl ?_
      refine rp_lp (q := 58) rfl rfl rfl ?_
      refine rp_lp (q := 59) rfl rfl rfl ?_
      refine rp_lp (q := 60) rfl rfl rfl ?_
      refine rp_lia rfl rfl ?_
      refine rp_lp (q := 62) rfl rfl rfl ?_
      refine rp_lgf rfl rfl rfl ?_
      refine rp_lp (q := 66) rfl rfl rfl ?_
      refine rp_lp (q := 68) rfl rfl rfl ?_
      refine rp_lp (q := 69) rfl rfl rfl ?_
      refine rp_lp (q := 70) rfl rfl rfl ?_
      refine rp_lp (q := 71) rfl rfl rfl ?_
      refine rp_lia rfl rfl ?_
      refine rp_lbr (a := 75) (b := 106) rfl rfl rfl ?_ ?_
      ·
        refine rp_lp (q := 76) rfl rfl rfl ?_
        refine rp_lgf rfl rfl rfl ?_
        refine rp_lp (q := 80) rfl rfl rfl ?_
        refine rp_lp (q := 81) rfl rfl rfl ?_
        refine rp_lp (q := 82) rfl rfl rfl ?_
        refine rp_lp (q := 83) rfl rfl rfl ?_
        refine rp_lp (q := 84) rfl rfl rfl ?_
        refine rp_lia rfl rfl ?_
        refine rp_lp (q := 86) rfl rfl rfl ?_
        refine rp_lgf rfl rfl rfl ?_
        refine rp_lp (q := 90) rfl rfl rfl ?_
        refine rp_lp (q := 92) rfl rfl rfl ?_
        refine rp_lp (q := 93) rfl rfl rfl ?_
        refine rp_lp (q := 94) rfl rfl rfl ?_
        refine rp_lp (q := 95) rfl rfl rfl ?_
        refine rp_lia rfl rfl ?_
        refine rp_lbr (a := 106) (b := 99) rfl rfl rfl ?_ ?_
        ·
          exact rp_Le_rfl
        ·
          refine rp_lp (q := 100) rfl rfl rfl ?_
          refine rp_lp (q := 101) rfl rfl rfl ?_
          refine rp_lp (q := 103) rfl rfl rfl ?_
          refine rp_lcv (uc' := 0) (us' := 0) rfl (rp_rcv rfl) rfl rfl rfl rfl rfl rfl (fun σ5 => ?_)
          exact rp_Le_rfl
      ·
        exact rp_Le_rfl
set_option maxRecDepth 20000 in
theorem D_Ref_goThrough_106 {sc : rp_Sc} (x1 : Int32) (x2 : Int32) (x3 : Int32) (x4 : Int32) (σ : rp_Mm) : rp_Le (EV sc (217, 0, 0, 29, [.ref 48, .int x1, .int x2, .int x4, rp_U], [], (rp_L0, σ))) (EV sc (217, 0, 0, 106, [.ref 48, .int x1, .int x2, .int x3, .int x4], [], (rp_L0, σ))) := by
  refine rp_lp (q := 108) rfl rfl rfl ?_
  refine rp_lp (q := 109) (ls' := [.ref 48, .int x1, .int x2, .int x4, .int x4]) rfl rfl rfl ?_
  refine rp_lp (q := 29) rfl rfl rfl ?_
  exact rp_LeU ⟨Or.inl rfl, Or.inl rfl, Or.inl rfl, Or.inl rfl, Or.inr ⟨rfl, rfl⟩, trivial⟩
-- Ref_nextScan
set_option maxRecDepth 20000 in
theorem D_Ref_nextScan_0 {sc : rp_Sc} (a0 : Int32) (a1 : Int32) (a2 : Int32) (σ : rp_Mm) : rp_Le (EV sc (218, 0, 0, 6, [.ref 48, .int a0, .int a1, .int a2, .int (-1), .int 0, rp_U], [], (rp_L0, σ))) (EV sc (218, 0, 0, 0, [.ref 48, .int a0, .int a1, .int a2, rp_U, rp_U, rp_U], [], (rp_L0, σ))) := by
  refine rp_lp (q := 1) rfl rfl rfl ?_
  refine rp_lp (q := 3) (ls' := [.ref 48, .int a0, .int a1, .int a2, .int (-1), rp_U, rp_U]) rfl rfl rfl ?_
  refine rp_lp (q := 4) rfl rfl rfl ?_
  refine rp_lp (q := 6) (ls' := [.ref 48, .int a0, .int a1, .int a2, .int (-1), .int 0, rp_U]) rfl rfl rfl ?_
  exact rp_Le_rfl
set_option maxRecDepth 20000 in
theorem D_Ref_nextScan_6 {sc : rp_Sc} (x1 : Int32) (x2 : Int32) (x3 : Int32) (x4 : Int32) (x5 : Int32) (σ : rp_Mm) : rp_Le (if ((σ 49 5) ≤ x5 : Prop) then RI x4 σ else bif rp_ix ((5 : Int32) * x5) 200 then if ((σ 56 ((5 : Int32) * x5).toNatClampNeg) = x1 : Prop) then bif rp_ix (((5 : Int32) * x5) + (4 : Int32)) 200 then if (x3 < (σ 56 (((5 : Int32) * x5) + (4 : Int32)).toNatClampNeg) : Prop) then EV sc (218, 0, 0, 59, [.ref 48, .int x1, .int x2, .int x3, .int x4, .int x5, rp_U], [], (rp_L0, σ)) else thI (CL sc 219 [.ref 48, .int x5] σ) fun r2 σ1 => if (r2 ≤ x2 : Prop) then EV sc (218, 0, 0, 59, [.ref 48, .int x1, .int x2, .int x3, .int x4, .int x5, rp_U], [], (rp_L0, σ1)) else EV sc (218, 0, 0, 60, [.ref 48, .int x1, .int x2, .int x3, .int x4, .int x5, rp_U], [.int 1], (rp_L0, σ1)) else none else EV sc (218, 0, 0, 59, [.ref 48, .int x1, .int x2, .int x3, .int x4, .int x5, rp_U], [], (rp_L0, σ)) else none) (EV sc (218, 0, 0, 6, [.ref 48, .int x1, .int x2, .int x3, .int x4, .int x5, rp_U], [], (rp_L0, σ))) := by
  refine rp_lp (q := 8) rfl rfl rfl ?_
  refine rp_lp (q := 9) rfl rfl rfl ?_
  refine rp_lgf rfl rfl rfl ?_
  refine rp_lp (q := 13) rfl rfl rfl ?_
  refine rp_lil rfl rfl (by decide +kernel) (k := 5) (by decide +kernel) ?_
  refine rp_lbr (a := 102) (b := 17) rfl rfl rfl ?_ ?_
  ·
    refine rp_lp (q := 104) rfl rfl rfl ?_
    exact rp_lri rfl rfl
  ·
    refine rp_lp (q := 18) rfl rfl rfl ?_
    refine rp_lgf rfl rfl rfl ?_
    refine rp_lp (q := 22) rfl rfl rfl ?_
    refine rp_lp (q := 24) rfl rfl rfl ?_
    refine rp_lp (q := 25) rfl rfl rfl ?_
    refine rp_lia rfl rfl ?_
    refine rp_lp (q := 27) rfl rfl rfl ?_
    refine rp_lbr (a := 30) (b := 59) rfl rfl rfl ?_ ?_
    ·
      refine rp_lp (q := 31) rfl rfl rfl ?_
      refine rp_lgf rfl rfl rfl ?_
      refine rp_lp (q := 35) rfl rfl rfl ?_
      refine rp_lp (q := 37) rfl rfl rfl ?_
      refine rp_lp (q := 38) rfl rfl rfl ?_
      refine rp_lp (q := 39) rfl rfl rfl ?_
      refine rp_lp (q := 40) rfl rfl rfl ?_
      refine rp_lia rfl rfl ?_
      refine rp_lp (q := 42) rfl rfl rfl ?_
      refine rp_lbr (a := 59) (b := 45) rfl rfl rfl ?_ ?_
      ·
        exact rp_Le_rfl
      ·
        refine rp_lp (q := 46) rfl rfl rfl ?_
        refine rp_lp (q := 48) rfl rfl rfl ?_
        refine rp_lci (uc' := 0) (us' := 0) rfl (rp_rcv rfl) rfl rfl rfl rfl rfl rfl (fun r2 σ1 => ?_)
        refine rp_lp (q := 52) rfl rfl rfl ?_
        refine rp_lbr (a := 59) (b := 55) rfl rfl rfl ?_ ?_
        ·
          exact rp_Le_rfl
        ·
          refine rp_lp (q := 56) rfl rfl rfl ?_
          refine rp_lp (q := 60) rfl rfl rfl ?_
          exact rp_Le_rfl
    ·
      exact rp_Le_rfl
set_option maxRecDepth 20000 in
theorem D_Ref_nextScan_59 {sc : rp_Sc} (x1 : Int32) (x2 : Int32) (x3 : Int32) (x4 : Int32) (x5 : Int32) (σ : rp_Mm) : rp_Le (EV sc (218, 0, 0, 60, [.ref 48, .int x1, .int x2, .int x3, .int x4, .int x5, rp_U], [.int 0], (rp_L0, σ))) (EV sc (218, 0, 0, 59, [.ref 48, .int x1, .int x2, .int x3, .int x4, .int x5, rp_U], [], (rp_L0, σ))) := by
  refine rp_lp (q := 60) rfl rfl rfl ?_
  exact rp_Le_rfl
set_option maxRecDepth 20000 in
theorem D_Ref_nextScan_60 {sc : rp_Sc} (x1 : Int32) (x2 : Int32) (x3 : Int32) (x4 : Int32) (x5 : Int32) (y0 : Int32) (σ : rp_Mm) : rp_Le (if (y0 = 0 : Prop) then EV sc (218, 0, 0, 92, [.ref 48, .int x1, .int x2, .int x3, .int x4, .int x5, .int y0], [], (rp_L0, σ)) else if (x4 < 0 : Prop) then EV sc (218, 0, 0, 87, [.ref 48, .int x1, .int x2, .int x3, .int x4, .int x5, .int y0], [], (rp_L0, σ)) else thI (CL sc 219 [.ref 48, .int x5] σ) fun r2 σ1 => thI (CL sc 219 [.ref 48, .int x4] σ1) fun r4 σ3 => if (r4 ≤ r2 : Prop) then EV sc (218, 0, 0, 92, [.ref 48, .int x1, .int x2, .int x3, .int x4, .int x5, .int y0], [], (rp_L0, σ3)) else EV sc (218, 0, 0, 87, [.ref 48, .int x1, .int x2, .int x3, .int x4, .int x5, .int y0], [], (rp_L0, σ3))) (EV sc (218, 0, 0, 60, [.ref 48, .int x1, .int x2, .int x3, .int x4, .int x5, rp_U], [.int y0], (rp_L0, σ))) := by
  refine rp_lp (q := 62) (ls' := [.ref 48, .int x1, .int x2, .int x3, .int x4, .int x5, .int y0]) rfl rfl rfl ?_
  refine rp_lp (q := 64) rfl rfl rfl ?_
  refine rp_lbr (a := 92) (b := 67) rfl rfl rfl ?_ ?_
  ·
    exact rp_Le_rfl
  ·
    refine rp_lp (q := 69) rfl rfl rfl ?_
    refine rp_lbr (a := 87) (b := 72) rfl rfl rfl ?_ ?_
    ·
      exact rp_Le_rfl
    ·
      refine rp_lp (q := 73) rfl rfl rfl ?_
      refine rp_lp (q := 75) rfl rfl rfl ?_
      refine rp_lci (uc' := 0) (us' := 0) rfl (rp_rcv rfl) rfl rfl rfl rfl rfl rfl (fun r2 σ1 => ?_)
      refine rp_lp (q := 79) rfl rfl rfl ?_
      refine rp_lp (q := 81) rfl rfl rfl ?_
      refine rp_lci (uc' := 0) (us' := 0) rfl (rp_rcv rfl) rfl rfl rfl rfl rfl rfl (fun r4 σ3 => ?_)
      refine rp_lbr (a := 92) (b := 87) rfl rfl rfl ?_ ?_
      ·
        exact rp_Le_rfl
      ·
        exact rp_Le_rfl
set_option maxRecDepth 20000 in
theorem D_Ref_nextScan_92 {sc : rp_Sc} (x1 : Int32) (x2 : Int32) (x3 : Int32) (x4 : Int32) (x5 : Int32) (x6 : Int32) (σ : rp_Mm) : rp_Le (EV sc (218, 0, 0, 94, [.ref 48, .int x1, .int x2, .int x3, .int x4, .int x5, .int x6], [.int x4], (rp_L0, σ))) (EV sc (218, 0, 0, 92, [.ref 48, .int x1, .int x2, .int x3, .int x4, .int x5, .int x6], [], (rp_L0, σ))) := by
  refine rp_lp (q := 94) rfl rfl rfl ?_
  exact rp_Le_rfl
set_option maxRecDepth 20000 in
theorem D_Ref_nextScan_87 {sc : rp_Sc} (x1 : Int32) (x2 : Int32) (x3 : Int32) (x4 : Int32) (x5 : Int32) (x6 : Int32) (σ : rp_Mm) : rp_Le (EV sc (218, 0, 0, 94, [.ref 48, .int x1, .int x2, .int x3, .int x4, .int x5, .int x6], [.int x5], (rp_L0, σ))) (EV sc (218, 0, 0, 87, [.ref 48, .int x1, .int x2, .int x3, .int x4, .int x5, .int x6], [], (rp_L0, σ))) := by
  refine rp_lp (q := 89) rfl rfl rfl ?_
  refine rp_lp (q := 94) rfl rfl rfl ?_
  exact rp_Le_rfl
set_option maxRecDepth 20000 in
theorem D_Ref_nextScan_94 {sc : rp_Sc} (x1 : Int32) (x2 : Int32) (x3 : Int32) (x4 : Int32) (x5 : Int32) (x6 : Int32) (y0 : Int32) (σ : rp_Mm) : rp_Le (EV sc (218, 0, 0, 6, [.ref 48, .int x1, .int x2, .int x3, .int y0, .int (x5 + 1), rp_U], [], (rp_L0, σ))) (EV sc (218, 0, 0, 94, [.ref 48, .int x1, .int x2, .int x3, .int x4, .int x5, .int x6], [.int y0], (rp_L0, σ))) := by
  refine rp_lp (q := 96) (ls' := [.ref 48, .int x1, .int x2, .int x3, .int y0, .int x5, .int x6]) rfl rfl rfl ?_
  refine rp_lp (q := 99) (ls' := [.ref 48, .int x1, .int x2, .int x3, .int y0, .int (x5 + 1), .int x6]) rfl rfl rfl ?_
  refine rp_lp (q := 6) rfl rfl rfl ?_
  exact rp_LeU ⟨Or.inl rfl, Or.inl rfl, Or.inl rfl, Or.inl rfl, Or.inl rfl, Or.inl rfl, Or.inr ⟨rfl, rfl⟩, trivial⟩
-- Ref_whenOf
set_option maxRecDepth 20000 in
theorem D_Ref_whenOf_0 {sc : rp_Sc} (a0 : Int32) (σ : rp_Mm) : rp_Le (bif rp_ix (((5 : Int32) * a0) + (1 : Int32)) 200 then bif rp_ix (((5 : Int32) * a0) + (2 : Int32)) 200 then RI (((((σ 56 (((5 : Int32) * a0) + (1 : Int32)).toNatClampNeg) * (1440 : Int32)) + (σ 56 (((5 : Int32) * a0) + (2 : Int32)).toNatClampNeg)) * (40 : Int32)) + a0) σ else none else none) (EV sc (219, 0, 0, 0, [.ref 48, .int a0], [], (rp_L0, σ))) := by
  refine rp_lp (q := 1) rfl rfl rfl ?_
  refine rp_lgf rfl rfl rfl ?_
  refine rp_lp (q := 5) rfl rfl rfl ?_
  refine rp_lp (q := 6) rfl rfl rfl ?_
  refine rp_lp (q := 7) rfl rfl rfl ?_
  refine rp_lp (q := 8) rfl rfl rfl ?_
  refine rp_lp (q := 9) rfl rfl rfl ?_
  refine rp_lia rfl rfl ?_
  refine rp_lp (q := 13) rfl rfl rfl ?_
  refine rp_lp (q := 14) rfl rfl rfl ?_
  refine rp_lp (q := 15) rfl rfl rfl ?_
  refine rp_lgf rfl rfl rfl ?_
  refine rp_lp (q := 19) rfl rfl rfl ?_
  refine rp_lp (q := 20) rfl rfl rfl ?_
  refine rp_lp (q := 21) rfl rfl rfl ?_
  refine rp_lp (q := 22) rfl rfl rfl ?_
  refine rp_lp (q := 23) rfl rfl rfl ?_
  refine rp_lia rfl rfl ?_
  refine rp_lp (q := 25) rfl rfl rfl ?_
  refine rp_lp (q := 27) rfl rfl rfl ?_
  refine rp_lp (q := 28) rfl rfl rfl ?_
  refine rp_lp (q := 29) rfl rfl rfl ?_
  refine rp_lp (q := 30) rfl rfl rfl ?_
  exact rp_lri rfl rfl
-- Ref_addLeg
set_option maxRecDepth 20000 in
theorem D_Ref_addLeg_0 {sc : rp_Sc} (a0 : Int32) (a1 : Int32) (σ : rp_Mm) : rp_Le (bif rp_ix (((5 : Int32) * a0) + (3 : Int32)) 200 then thV (CL sc 212 [.ref 48, .int ((rp_wr σ 64 0 ((σ 64 0) + (1 : Int32))) 56 (((5 : Int32) * a0) + (3 : Int32)).toNatClampNeg)] (rp_wr σ 64 0 ((σ 64 0) + (1 : Int32)))) fun σ1 => bif rp_ix (((5 : Int32) * a1) + (3 : Int32)) 200 then bif rp_ix (σ1 56 (((5 : Int32) * a1) + (3 : Int32)).toNatClampNeg) 10 then if ((σ1 63 (σ1 56 (((5 : Int32) * a1) + (3 : Int32)).toNatClampNeg).toNatClampNeg) < 100000000 : Prop) then bif rp_ix (((5 : Int32) * a1) + (2 : Int32)) 200 then bif rp_ix (((5 : Int32) * a0) + (2 : Int32)) 200 then if (((σ1 63 (σ1 56 (((5 : Int32) * a1) + (3 : Int32)).toNatClampNeg).toNatClampNeg) / (16384 : Int32)) ≤ ((3 : Int32) * ((σ1 56 (((5 : Int32) * a1) + (2 : Int32)).toNatClampNeg) - (σ1 56 (((5 : Int32) * a0) + (2 : Int32)).toNatClampNeg))) : Prop) then EV sc (220, 0, 0, 102, [.ref 48, .int a0, .int a1, .int (σ1 63 (σ1 56 (((5 : Int32) * a1) + (3 : Int32)).toNatClampNeg).toNatClampNeg), .int 0], [], (rp_L0, σ1)) else RV (rp_wr σ1 64 2 ((σ1 64 2) + (1 : Int32))) else none else none else RV (rp_wr σ1 64 1 ((σ1 64 1) + (1 : Int32))) else none else none else none) (EV sc (220, 0, 0, 0, [.ref 48, .int a0, .int a1, rp_U, rp_U], [], (rp_L0, σ))) := by
  refine rp_lp (q := 1) rfl rfl rfl ?_
  refine rp_lgf rfl rfl rfl ?_
  refine rp_lp (q := 5) rfl rfl rfl ?_
  refine rp_lp (q := 6) rfl rfl rfl ?_
  refine rp_lil rfl rfl (by decide +kernel) (k := 0) (by decide +kernel) ?_
  refine rp_lp (q := 8) rfl rfl rfl ?_
  refine rp_lp (q := 9) rfl rfl rfl ?_
  refine rp_lsl rfl rfl (by decide +kernel) (k := 0) (by decide +kernel) ?_
  refine rp_lp (q := 11) rfl rfl rfl ?_
  refine rp_lp (q := 12) rfl rfl rfl ?_
  refine rp_lgf rfl rfl rfl ?_
  refine rp_lp (q := 16) rfl rfl rfl ?_
  refine rp_lp (q := 17) rfl rfl rfl ?_
  refine rp_lp (q := 18) rfl rfl rfl ?_
  refine rp_lp (q := 19) rfl rfl rfl ?_
  refine rp_lp (q := 20) rfl rfl rfl ?_
  refine rp_lia rfl rfl ?_
  refine rp_lcv (uc' := 0) (us' := 0) rfl (rp_rcv rfl) rfl rfl rfl rfl rfl rfl (fun σ1 => ?_)
  refine rp_lp (q := 25) rfl rfl rfl ?_
  refine rp_lgf rfl rfl rfl ?_
  refine rp_lp (q := 29) rfl rfl rfl ?_
  refine rp_lgf rfl rfl rfl ?_
  refine rp_lp (q := 33) rfl rfl rfl ?_
  refine rp_lp (q := 34) rfl rfl rfl ?_
  refine rp_lp (q := 35) rfl rfl rfl ?_
  refine rp_lp (q := 36) rfl rfl rfl ?_
  refine rp_lp (q := 37) rfl rfl rfl ?_
  refine rp_lia rfl rfl ?_
  refine rp_lia rfl rfl ?_
  refine rp_lp (q := 40) (ls' := [.ref 48, .int a0, .int a1, .int (σ1 63 (σ1 56 (((5 : Int32) * a1) + (3 : Int32)).toNatClampNeg).toNatClampNeg), rp_U]) rfl rfl rfl ?_
  refine rp_lp (q := 41) rfl rfl rfl ?_
  refine rp_lp (q := 43) rfl rfl rfl ?_
  refine rp_lbr (a := 57) (b := 46) rfl rfl rfl ?_ ?_
  ·
    refine rp_lp (q := 58) rfl rfl rfl ?_
    refine rp_lp (q := 61) rfl rfl rfl ?_
    refine rp_ldv rfl (by decide) ?_
    refine rp_lp (q := 63) rfl rfl rfl ?_
    refine rp_lp (q := 64) rfl rfl rfl ?_
    refine rp_lgf rfl rfl rfl ?_
    refine rp_lp (q := 68) rfl rfl rfl ?_
    refine rp_lp (q := 69) rfl rfl rfl ?_
    refine rp_lp (q := 70) rfl rfl rfl ?_
    refine rp_lp (q := 71) rfl rfl rfl ?_
    refine rp_lp (q := 72) rfl rfl rfl ?_
    refine rp_lia rfl rfl ?_
    refine rp_lp (q := 74) rfl rfl rfl ?_
    refine rp_lgf rfl rfl rfl ?_
    refine rp_lp (q := 78) rfl rfl rfl ?_
    refine rp_lp (q := 79) rfl rfl rfl ?_
    refine rp_lp (q := 80) rfl rfl rfl ?_
    refine rp_lp (q := 81) rfl rfl rfl ?_
    refine rp_lp (q := 82) rfl rfl rfl ?_
    refine rp_lia rfl rfl ?_
    refine rp_lp (q := 84) rfl rfl rfl ?_
    refine rp_lp (q := 85) rfl rfl rfl ?_
    refine rp_lbr (a := 99) (b := 88) rfl rfl rfl ?_ ?_
    ·
      refine rp_lp (q := 100) rfl rfl rfl ?_
      refine rp_lp (q := 102) (ls' := [.ref 48, .int a0, .int a1, .int (σ1 63 (σ1 56 (((5 : Int32) * a1) + (3 : Int32)).toNatClampNeg).toNatClampNeg), .int 0]) rfl rfl rfl ?_
      exact rp_Le_rfl
    ·
      refine rp_lp (q := 89) rfl rfl rfl ?_
      refine rp_lgf rfl rfl rfl ?_
      refine rp_lp (q := 93) rfl rfl rfl ?_
      refine rp_lp (q := 94) rfl rfl rfl ?_
      refine rp_lil rfl rfl (by decide +kernel) (k := 2) (by decide +kernel) ?_
      refine rp_lp (q := 96) rfl rfl rfl ?_
      refine rp_lp (q := 97) rfl rfl rfl ?_
      refine rp_lsl rfl rfl (by decide +kernel) (k := 2) (by decide +kernel) ?_
      exact rp_lrv rfl rfl
  ·
    refine rp_lp (q := 47) rfl rfl rfl ?_
    refine rp_lgf rfl rfl rfl ?_
    refine rp_lp (q := 51) rfl rfl rfl ?_
    refine rp_lp (q := 52) rfl rfl rfl ?_
    refine rp_lil rfl rfl (by decide +kernel) (k := 1) (by decide +kernel) ?_
    refine rp_lp (q := 54) rfl rfl rfl ?_
    refine rp_lp (q := 55) rfl rfl rfl ?_
    refine rp_lsl rfl rfl (by decide +kernel) (k := 1) (by decide +kernel) ?_
    exact rp_lrv rfl rfl
set_option maxRecDepth 20000 in
theorem D_Ref_addLeg_102 {sc : rp_Sc} (x1 : Int32) (x2 : Int32) (x3 : Int32) (x4 : Int32) (σ : rp_Mm) : rp_Le (if ((σ 49 0) ≤ x4 : Prop) then RV σ else if ((((x3 - x3 / (16384 : Int32) * (16384 : Int32)) >>> (x4 &&& 31)) &&& (1 : Int32)) = 1 : Prop) then bif rp_ix (((5 : Int32) * x4) + (3 : Int32)) 70 then bif rp_ix (((5 : Int32) * x4) + (2 : Int32)) 70 then bif rp_ix ((4 : Int32) + ((rp_wr σ 64 3 ((σ 64 3) + (σ 50 (((5 : Int32) * x4) + (3 : Int32)).toNatClampNeg))) 50 (((5 : Int32) * x4) + (2 : Int32)).toNatClampNeg)) 9 then bif rp_ix (((5 : Int32) * x4) + (3 : Int32)) 70 then bif rp_ix ((4 : Int32) + ((rp_wr σ 64 3 ((σ 64 3) + (σ 50 (((5 : Int32) * x4) + (3 : Int32)).toNatClampNeg))) 50 (((5 : Int32) * x4) + (2 : Int32)).toNatClampNeg)) 9 then EV sc (220, 0, 0, 179, [.ref 48, .int x1, .int x2, .int x3, .int x4], [], (rp_L0, rp_wr (rp_wr σ 64 3 ((σ 64 3) + (σ 50 (((5 : Int32) * x4) + (3 : Int32)).toNatClampNeg))) 64 ((4 : Int32) + ((rp_wr σ 64 3 ((σ 64 3) + (σ 50 (((5 : Int32) * x4) + (3 : Int32)).toNatClampNeg))) 50 (((5 : Int32) * x4) + (2 : Int32)).toNatClampNeg)).toNatClampNeg (((rp_wr σ 64 3 ((σ 64 3) + (σ 50 (((5 : Int32) * x4) + (3 : Int32)).toNatClampNeg))) 64 ((4 : Int32) + ((rp_wr σ 64 3 ((σ 64 3) + (σ 50 (((5 : Int32) * x4) + (3 : Int32)).toNatClampNeg))) 50 (((5 : Int32) * x4) + (2 : Int32)).toNatClampNeg)).toNatClampNeg) + ((rp_wr σ 64 3 ((σ 64 3) + (σ 50 (((5 : Int32) * x4) + (3 : Int32)).toNatClampNeg))) 50 (((5 : Int32) * x4) + (3 : Int32)).toNatClampNeg)))) else none else none else none else none else none else EV sc (220, 0, 0, 179, [.ref 48, .int x1, .int x2, .int x3, .int x4], [], (rp_L0, σ))) (EV sc (220, 0, 0, 102, [.ref 48, .int x1, .int x2, .int x3, .int x4], [], (rp_L0, σ))) := by
  refine rp_lp (q := 104) rfl rfl rfl ?_
  refine rp_lp (q := 105) rfl rfl rfl ?_
  refine rp_lgf rfl rfl rfl ?_
  refine rp_lp (q := 109) rfl rfl rfl ?_
  refine rp_lil rfl rfl (by decide +kernel) (k := 0) (by decide +kernel) ?_
  refine rp_lbr (a := 185) (b := 113) rfl rfl rfl ?_ ?_
  ·
    exact rp_lrv rfl rfl
  ·
    refine rp_lp (q := 114) rfl rfl rfl ?_
    refine rp_lp (q := 117) rfl rfl rfl ?_
    refine rp_lrm rfl (by decide) ?_
    refine rp_lp (q := 120) rfl rfl rfl ?_
    refine rp_lp (q := 121) rfl rfl rfl ?_
    refine rp_lp (q := 122) rfl rfl rfl ?_
    refine rp_lp (q := 123) rfl rfl rfl ?_
    refine rp_lp (q := 124) rfl rfl rfl ?_
    refine rp_lbr (a := 127) (b := 179) rfl rfl rfl ?_ ?_
    ·
      refine rp_lp (q := 128) rfl rfl rfl ?_
      refine rp_lgf rfl rfl rfl ?_
      refine rp_lp (q := 132) rfl rfl rfl ?_
      refine rp_lp (q := 133) rfl rfl rfl ?_
      refine rp_lil rfl rfl (by decide +kernel) (k := 3) (by decide +kernel) ?_
      refine rp_lp (q := 135) rfl rfl rfl ?_
      refine rp_lgf rfl rfl rfl ?_
      refine rp_lp (q := 139) rfl rfl rfl ?_
      refine rp_lp (q := 141) rfl rfl rfl ?_
      refine rp_lp (q := 142) rfl rfl rfl ?_
      refine rp_lp (q := 143) rfl rfl rfl ?_
      refine rp_lp (q := 144) rfl rfl rfl ?_
      refine rp_lia rfl rfl ?_
      refine rp_lp (q := 146) rfl rfl rfl ?_
      refine rp_lsl rfl rfl (by decide +kernel) (k := 3) (by decide +kernel) ?_
      refine rp_lp (q := 148) rfl rfl rfl ?_
      refine rp_lgf rfl rfl rfl ?_
      refine rp_lp (q := 152) rfl rfl rfl ?_
      refine rp_lp (q := 153) rfl rfl rfl ?_
      refine rp_lgf rfl rfl rfl ?_
      refine rp_lp (q := 157) rfl rfl rfl ?_
      refine rp_lp (q := 159) rfl rfl rfl ?_
      refine rp_lp (q := 160) rfl rfl rfl ?_
      refine rp_lp (q := 161) rfl rfl rfl ?_
      refine rp_lp (q := 162) rfl rfl rfl ?_
      refine rp_lia rfl rfl ?_
      refine rp_lp (q := 164) rfl rfl rfl ?_
      refine rp_lp (q := 165) rfl rfl rfl ?_
      refine rp_lia rfl rfl ?_
      refine rp_lp (q := 167) rfl rfl rfl ?_
      refine rp_lgf rfl rfl rfl ?_
      refine rp_lp (q := 171) rfl rfl rfl ?_
      refine rp_lp (q := 173) rfl rfl rfl ?_
      refine rp_lp (q := 174) rfl rfl rfl ?_
      refine rp_lp (q := 175) rfl rfl rfl ?_
      refine rp_lp (q := 176) rfl rfl rfl ?_
      refine rp_lia rfl rfl ?_
      refine rp_lp (q := 178) rfl rfl rfl ?_
      refine rp_lis rfl rfl ?_
      exact rp_Le_rfl
    ·
      exact rp_Le_rfl
set_option maxRecDepth 20000 in
theorem D_Ref_addLeg_179 {sc : rp_Sc} (x1 : Int32) (x2 : Int32) (x3 : Int32) (x4 : Int32) (σ : rp_Mm) : rp_Le (EV sc (220, 0, 0, 102, [.ref 48, .int x1, .int x2, .int x3, .int (x4 + 1)], [], (rp_L0, σ))) (EV sc (220, 0, 0, 179, [.ref 48, .int x1, .int x2, .int x3, .int x4], [], (rp_L0, σ))) := by
  refine rp_lp (q := 182) (ls' := [.ref 48, .int x1, .int x2, .int x3, .int (x4 + 1)]) rfl rfl rfl ?_
  refine rp_lp (q := 102) rfl rfl rfl ?_
  exact rp_Le_rfl
-- Ref_part
set_option maxRecDepth 20000 in
theorem D_Ref_part_0 {sc : rp_Sc} (a0 : Int32) (a1 : Int32) (a2 : Int32) (σ : rp_Mm) : rp_Le (thI (CL sc 176 [.ref 48, .int a0] σ) fun r2 σ1 => if (r2 = 0 : Prop) then RI (-1) σ1 else thI (CL sc 151 [.int a1, .int 0, .int 4] σ1) fun r4 σ3 => if (r4 = 0 : Prop) then RI (-1) σ3 else thI (CL sc 216 [.ref 48, .int a2] σ3) fun r6 σ5 => if (r6 = 0 : Prop) then RI (-1) σ5 else bif rp_ix (((16 : Int32) * a0) + (14 : Int32)) 128 then thI (CL sc 222 [.ref 48, .int a0, .int a1, .int a2, .int (σ5 53 (((16 : Int32) * a0) + (14 : Int32)).toNatClampNeg)] σ5) fun r8 σ7 => RI r8 σ7 else none) (EV sc (221, 0, 0, 0, [.ref 48, .int a0, .int a1, .int a2], [], (rp_L0, σ))) := by
  refine rp_lp (q := 1) rfl rfl rfl ?_
  refine rp_lp (q := 2) rfl rfl rfl ?_
  refine rp_lci (uc' := 0) (us' := 0) rfl (rp_rcv rfl) rfl rfl rfl rfl rfl rfl (fun r2 σ1 => ?_)
  refine rp_lbr (a := 47) (b := 8) rfl rfl rfl ?_ ?_
  ·
    refine rp_lp (q := 48) rfl rfl rfl ?_
    exact rp_lri rfl rfl
  ·
    refine rp_lp (q := 9) rfl rfl rfl ?_
    refine rp_lp (q := 10) rfl rfl rfl ?_
    refine rp_lp (q := 11) rfl rfl rfl ?_
    refine rp_lci (uc' := 0) (us' := 0) rfl rfl rfl rfl rfl rfl rfl rfl (fun r4 σ3 => ?_)
    refine rp_lbr (a := 47) (b := 17) rfl rfl rfl ?_ ?_
    ·
      refine rp_lp (q := 48) rfl rfl rfl ?_
      exact rp_lri rfl rfl
    ·
      refine rp_lp (q := 18) rfl rfl rfl ?_
      refine rp_lp (q := 19) rfl rfl rfl ?_
      refine rp_lci (uc' := 0) (us' := 0) rfl (rp_rcv rfl) rfl rfl rfl rfl rfl rfl (fun r6 σ5 => ?_)
      refine rp_lbr (a := 47) (b := 25) rfl rfl rfl ?_ ?_
      ·
        refine rp_lp (q := 48) rfl rfl rfl ?_
        exact rp_lri rfl rfl
      ·
        refine rp_lp (q := 26) rfl rfl rfl ?_
        refine rp_lp (q := 27) rfl rfl rfl ?_
        refine rp_lp (q := 28) rfl rfl rfl ?_
        refine rp_lp (q := 29) rfl rfl rfl ?_
        refine rp_lp (q := 30) rfl rfl rfl ?_
        refine rp_lgf rfl rfl rfl ?_
        refine rp_lp (q := 35) rfl rfl rfl ?_
        refine rp_lp (q := 36) rfl rfl rfl ?_
        refine rp_lp (q := 37) rfl rfl rfl ?_
        refine rp_lp (q := 39) rfl rfl rfl ?_
        refine rp_lp (q := 40) rfl rfl rfl ?_
        refine rp_lia rfl rfl ?_
        refine rp_lci (uc' := 0) (us' := 0) rfl (rp_rcv rfl) rfl rfl rfl rfl rfl rfl (fun r8 σ7 => ?_)
        refine rp_lp (q := 48) rfl rfl rfl ?_
        exact rp_lri rfl rfl
-- Ref_partOf
set_option maxRecDepth 20000 in
theorem D_Ref_partOf_0 {sc : rp_Sc} (a0 : Int32) (a1 : Int32) (a2 : Int32) (a3 : Int32) (σ : rp_Mm) : rp_Le (thV (CL sc 217 [.ref 48, .int a0, .int a2] σ) fun σ1 => thV (CL sc 223 [.ref 48, .int a3] σ1) fun σ2 => bif rp_ix a1 5 then RI (σ2 66 a1.toNatClampNeg) σ2 else none) (EV sc (222, 0, 0, 0, [.ref 48, .int a0, .int a1, .int a2, .int a3], [], (rp_L0, σ))) := by
  refine rp_lp (q := 1) rfl rfl rfl ?_
  refine rp_lp (q := 2) rfl rfl rfl ?_
  refine rp_lp (q := 3) rfl rfl rfl ?_
  refine rp_lcv (uc' := 0) (us' := 0) rfl (rp_rcv rfl) rfl rfl rfl rfl rfl rfl (fun σ1 => ?_)
  refine rp_lp (q := 7) rfl rfl rfl ?_
  refine rp_lp (q := 9) rfl rfl rfl ?_
  refine rp_lcv (uc' := 0) (us' := 0) rfl (rp_rcv rfl) rfl rfl rfl rfl rfl rfl (fun σ2 => ?_)
  refine rp_lp (q := 13) rfl rfl rfl ?_
  refine rp_lgf rfl rfl rfl ?_
  refine rp_lp (q := 17) rfl rfl rfl ?_
  refine rp_lia rfl rfl ?_
  exact rp_lri rfl rfl
-- Ref_divide
set_option maxRecDepth 20000 in
theorem D_Ref_divide_0 {sc : rp_Sc} (a0 : Int32) (σ : rp_Mm) : rp_Le (EV sc (223, 0, 0, 4, [.ref 48, .int a0, .int a0, .int 0, rp_U], [], (rp_L0, σ))) (EV sc (223, 0, 0, 0, [.ref 48, .int a0, rp_U, rp_U, rp_U], [], (rp_L0, σ))) := by
  refine rp_lp (q := 1) rfl rfl rfl ?_
  refine rp_lp (q := 2) (ls' := [.ref 48, .int a0, .int a0, rp_U, rp_U]) rfl rfl rfl ?_
  refine rp_lp (q := 3) rfl rfl rfl ?_
  refine rp_lp (q := 4) (ls' := [.ref 48, .int a0, .int a0, .int 0, rp_U]) rfl rfl rfl ?_
  exact rp_Le_rfl
set_option maxRecDepth 20000 in
theorem D_Ref_divide_4 {sc : rp_Sc} (x1 : Int32) (x2 : Int32) (x3 : Int32) (σ : rp_Mm) : rp_Le (if (5 ≤ x3 : Prop) then if ((σ 64 3) = 0 : Prop) then RV (rp_wr σ 66 0 x1) else EV sc (223, 0, 0, 113, [.ref 48, .int x1, .int x2, .int x3, rp_U], [], (rp_L0, σ)) else if ((σ 64 3) = 0 : Prop) then EV sc (223, 0, 0, 44, [.ref 48, .int x1, .int x2, .int x3, rp_U], [.int 0, .int x3, .ref 66], (rp_L0, σ)) else bif rp_ix ((4 : Int32) + x3) 9 then if σ 64 3 = 0 then none else EV sc (223, 0, 0, 44, [.ref 48, .int x1, .int x2, .int x3, rp_U], [.int ((x1 * (σ 64 ((4 : Int32) + x3).toNatClampNeg)) / (σ 64 3)), .int x3, .ref 66], (rp_L0, σ)) else none) (EV sc (223, 0, 0, 4, [.ref 48, .int x1, .int x2, .int x3, rp_U], [], (rp_L0, σ))) := by
  refine rp_lp (q := 5) rfl rfl rfl ?_
  refine rp_lp (q := 6) rfl rfl rfl ?_
  refine rp_lbr (a := 96) (b := 9) rfl rfl rfl ?_ ?_
  ·
    refine rp_lp (q := 97) rfl rfl rfl ?_
    refine rp_lgf rfl rfl rfl ?_
    refine rp_lp (q := 101) rfl rfl rfl ?_
    refine rp_lil rfl rfl (by decide +kernel) (k := 3) (by decide +kernel) ?_
    refine rp_lbr (a := 105) (b := 113) rfl rfl rfl ?_ ?_
    ·
      refine rp_lp (q := 106) rfl rfl rfl ?_
      refine rp_lgf rfl rfl rfl ?_
      refine rp_lp (q := 110) rfl rfl rfl ?_
      refine rp_lp (q := 111) rfl rfl rfl ?_
      refine rp_lsl rfl rfl (by decide +kernel) (k := 0) (by decide +kernel) ?_
      exact rp_lrv rfl rfl
    ·
      exact rp_Le_rfl
  ·
    refine rp_lp (q := 10) rfl rfl rfl ?_
    refine rp_lgf rfl rfl rfl ?_
    refine rp_lp (q := 14) rfl rfl rfl ?_
    refine rp_lp (q := 15) rfl rfl rfl ?_
    refine rp_lgf rfl rfl rfl ?_
    refine rp_lp (q := 19) rfl rfl rfl ?_
    refine rp_lil rfl rfl (by decide +kernel) (k := 3) (by decide +kernel) ?_
    refine rp_lbr (a := 23) (b := 27) rfl rfl rfl ?_ ?_
    ·
      refine rp_lp (q := 24) rfl rfl rfl ?_
      refine rp_lp (q := 44) rfl rfl rfl ?_
      exact rp_Le_rfl
    ·
      refine rp_lp (q := 28) rfl rfl rfl ?_
      refine rp_lp (q := 29) rfl rfl rfl ?_
      refine rp_lgf rfl rfl rfl ?_
      refine rp_lp (q := 33) rfl rfl rfl ?_
      refine rp_lp (q := 34) rfl rfl rfl ?_
      refine rp_lp (q := 35) rfl rfl rfl ?_
      refine rp_lia rfl rfl ?_
      refine rp_lp (q := 37) rfl rfl rfl ?_
      refine rp_lp (q := 38) rfl rfl rfl ?_
      refine rp_lgf rfl rfl rfl ?_
      refine rp_lp (q := 42) rfl rfl rfl ?_
      refine rp_lil rfl rfl (by decide +kernel) (k := 3) (by decide +kernel) ?_
      refine rp_ldg rfl ?_
      exact rp_Le_rfl
set_option maxRecDepth 20000 in
theorem D_Ref_divide_113 {sc : rp_Sc} (x1 : Int32) (x2 : Int32) (x3 : Int32) (σ : rp_Mm) : rp_Le (if (x2 ≤ 0 : Prop) then RV σ else EV sc (223, 0, 0, 122, [.ref 48, .int x1, .int x2, .int 0, .int 1], [], (rp_L0, σ))) (EV sc (223, 0, 0, 113, [.ref 48, .int x1, .int x2, .int x3, rp_U], [], (rp_L0, σ))) := by
  refine rp_lp (q := 114) rfl rfl rfl ?_
  refine rp_lbr (a := 180) (b := 117) rfl rfl rfl ?_ ?_
  ·
    exact rp_lrv rfl rfl
  ·
    refine rp_lp (q := 118) rfl rfl rfl ?_
    refine rp_lp (q := 119) (ls' := [.ref 48, .int x1, .int x2, .int 0, rp_U]) rfl rfl rfl ?_
    refine rp_lp (q := 120) rfl rfl rfl ?_
    refine rp_lp (q := 122) (ls' := [.ref 48, .int x1, .int x2, .int 0, .int 1]) rfl rfl rfl ?_
    exact rp_Le_rfl
set_option maxRecDepth 20000 in
theorem D_Ref_divide_44 {sc : rp_Sc} (x1 : Int32) (x2 : Int32) (x3 : Int32) (y0 : Int32) (y1 : Int32) (σ : rp_Mm) : rp_Le (bif rp_ix y1 5 then if (((rp_wr σ 66 y1.toNatClampNeg y0) 64 3) = 0 : Prop) then EV sc (223, 0, 0, 80, [.ref 48, .int x1, .int x2, .int x3, rp_U], [.int 0, .int x3, .ref 65], (rp_L0, rp_wr σ 66 y1.toNatClampNeg y0)) else bif rp_ix ((4 : Int32) + x3) 9 then if (rp_wr σ 66 y1.toNatClampNeg y0) 64 3 = 0 then none else EV sc (223, 0, 0, 80, [.ref 48, .int x1, .int x2, .int x3, rp_U], [.int ((x1 * ((rp_wr σ 66 y1.toNatClampNeg y0) 64 ((4 : Int32) + x3).toNatClampNeg)) - (x1 * ((rp_wr σ 66 y1.toNatClampNeg y0) 64 ((4 : Int32) + x3).toNatClampNeg)) / ((rp_wr σ 66 y1.toNatClampNeg y0) 64 3) * ((rp_wr σ 66 y1.toNatClampNeg y0) 64 3)), .int x3, .ref 65], (rp_L0, rp_wr σ 66 y1.toNatClampNeg y0)) else none else none) (EV sc (223, 0, 0, 44, [.ref 48, .int x1, .int x2, .int x3, rp_U], [.int y0, .int y1, .ref 66], (rp_L0, σ))) := by
  refine rp_lis rfl rfl ?_
  refine rp_lp (q := 46) rfl rfl rfl ?_
  refine rp_lgf rfl rfl rfl ?_
  refine rp_lp (q := 50) rfl rfl rfl ?_
  refine rp_lp (q := 51) rfl rfl rfl ?_
  refine rp_lgf rfl rfl rfl ?_
  refine rp_lp (q := 55) rfl rfl rfl ?_
  refine rp_lil rfl rfl (by decide +kernel) (k := 3) (by decide +kernel) ?_
  refine rp_lbr (a := 59) (b := 63) rfl rfl rfl ?_ ?_
  ·
    refine rp_lp (q := 60) rfl rfl rfl ?_
    refine rp_lp (q := 80) rfl rfl rfl ?_
    exact rp_Le_rfl
  ·
    refine rp_lp (q := 64) rfl rfl rfl ?_
    refine rp_lp (q := 65) rfl rfl rfl ?_
    refine rp_lgf rfl rfl rfl ?_
    refine rp_lp (q := 69) rfl rfl rfl ?_
    refine rp_lp (q := 70) rfl rfl rfl ?_
    refine rp_lp (q := 71) rfl rfl rfl ?_
    refine rp_lia rfl rfl ?_
    refine rp_lp (q := 73) rfl rfl rfl ?_
    refine rp_lp (q := 74) rfl rfl rfl ?_
    refine rp_lgf rfl rfl rfl ?_
    refine rp_lp (q := 78) rfl rfl rfl ?_
    refine rp_lil rfl rfl (by decide +kernel) (k := 3) (by decide +kernel) ?_
    refine rp_lrg rfl ?_
    exact rp_Le_rfl
set_option maxRecDepth 20000 in
theorem D_Ref_divide_122 {sc : rp_Sc} (x1 : Int32) (x2 : Int32) (x3 : Int32) (x4 : Int32) (σ : rp_Mm) : rp_Le (if (5 ≤ x4 : Prop) then bif rp_ix x3 5 then bif rp_ix x3 5 then bif rp_ix x3 5 then EV sc (223, 0, 0, 113, [.ref 48, .int x1, .int (x2 + (-1)), .int x3, rp_U], [], (rp_L0, rp_wr (rp_wr σ 66 x3.toNatClampNeg ((σ 66 x3.toNatClampNeg) + (1 : Int32))) 65 x3.toNatClampNeg (-1))) else none else none else none else bif rp_ix x4 5 then bif rp_ix x3 5 then if ((σ 65 x4.toNatClampNeg) ≤ (σ 65 x3.toNatClampNeg) : Prop) then EV sc (223, 0, 0, 150, [.ref 48, .int x1, .int x2, .int x3, .int x4], [.int x3], (rp_L0, σ)) else EV sc (223, 0, 0, 150, [.ref 48, .int x1, .int x2, .int x3, .int x4], [.int x4], (rp_L0, σ)) else none else none) (EV sc (223, 0, 0, 122, [.ref 48, .int x1, .int x2, .int x3, .int x4], [], (rp_L0, σ))) := by
  refine rp_lp (q := 124) rfl rfl rfl ?_
  refine rp_lp (q := 125) rfl rfl rfl ?_
  refine rp_lbr (a := 157) (b := 128) rfl rfl rfl ?_ ?_
  ·
    refine rp_lp (q := 158) rfl rfl rfl ?_
    refine rp_lgf rfl rfl rfl ?_
    refine rp_lp (q := 162) rfl rfl rfl ?_
    refine rp_lp (q := 163) rfl rfl rfl ?_
    refine rp_lia rfl rfl ?_
    refine rp_lp (q := 165) rfl rfl rfl ?_
    refine rp_lp (q := 166) rfl rfl rfl ?_
    refine rp_lis rfl rfl ?_
    refine rp_lp (q := 168) rfl rfl rfl ?_
    refine rp_lgf rfl rfl rfl ?_
    refine rp_lp (q := 172) rfl rfl rfl ?_
    refine rp_lp (q := 173) rfl rfl rfl ?_
    refine rp_lis rfl rfl ?_
    refine rp_lp (q := 177) (ls' := [.ref 48, .int x1, .int (x2 + (-1)), .int x3, .int x4]) rfl rfl rfl ?_
    refine rp_lp (q := 113) rfl rfl rfl ?_
    exact rp_LeU ⟨Or.inl rfl, Or.inl rfl, Or.inl rfl, Or.inl rfl, Or.inr ⟨rfl, rfl⟩, trivial⟩
  ·
    refine rp_lp (q := 129) rfl rfl rfl ?_
    refine rp_lgf rfl rfl rfl ?_
    refine rp_lp (q := 134) rfl rfl rfl ?_
    refine rp_lia rfl rfl ?_
    refine rp_lp (q := 136) rfl rfl rfl ?_
    refine rp_lgf rfl rfl rfl ?_
    refine rp_lp (q := 140) rfl rfl rfl ?_
    refine rp_lia rfl rfl ?_
    refine rp_lbr (a := 149) (b := 144) rfl rfl rfl ?_ ?_
    ·
      refine rp_lp (q := 150) rfl rfl rfl ?_
      exact rp_Le_rfl
    ·
      refine rp_lp (q := 146) rfl rfl rfl ?_
      refine rp_lp (q := 150) rfl rfl rfl ?_
      exact rp_Le_rfl
set_option maxRecDepth 20000 in
theorem D_Ref_divide_80 {sc : rp_Sc} (x1 : Int32) (x2 : Int32) (x3 : Int32) (y0 : Int32) (y1 : Int32) (σ : rp_Mm) : rp_Le (bif rp_ix y1 5 then bif rp_ix x3 5 then EV sc (223, 0, 0, 4, [.ref 48, .int x1, .int (x2 - ((rp_wr σ 65 y1.toNatClampNeg y0) 66 x3.toNatClampNeg)), .int (x3 + 1), rp_U], [], (rp_L0, rp_wr σ 65 y1.toNatClampNeg y0)) else none else none) (EV sc (223, 0, 0, 80, [.ref 48, .int x1, .int x2, .int x3, rp_U], [.int y0, .int y1, .ref 65], (rp_L0, σ))) := by
  refine rp_lis rfl rfl ?_
  refine rp_lp (q := 82) rfl rfl rfl ?_
  refine rp_lp (q := 83) rfl rfl rfl ?_
  refine rp_lgf rfl rfl rfl ?_
  refine rp_lp (q := 87) rfl rfl rfl ?_
  refine rp_lia rfl rfl ?_
  refine rp_lp (q := 89) rfl rfl rfl ?_
  refine rp_lp (q := 90) (ls' := [.ref 48, .int x1, .int (x2 - ((rp_wr σ 65 y1.toNatClampNeg y0) 66 x3.toNatClampNeg)), .int x3, rp_U]) rfl rfl rfl ?_
  refine rp_lp (q := 93) (ls' := [.ref 48, .int x1, .int (x2 - ((rp_wr σ 65 y1.toNatClampNeg y0) 66 x3.toNatClampNeg)), .int (x3 + 1), rp_U]) rfl rfl rfl ?_
  refine rp_lp (q := 4) rfl rfl rfl ?_
  exact rp_Le_rfl
set_option maxRecDepth 20000 in
theorem D_Ref_divide_150 {sc : rp_Sc} (x1 : Int32) (x2 : Int32) (x3 : Int32) (x4 : Int32) (y0 : Int32) (σ : rp_Mm) : rp_Le (EV sc (223, 0, 0, 122, [.ref 48, .int x1, .int x2, .int y0, .int (x4 + 1)], [], (rp_L0, σ))) (EV sc (223, 0, 0, 150, [.ref 48, .int x1, .int x2, .int x3, .int x4], [.int y0], (rp_L0, σ))) := by
  refine rp_lp (q := 151) (ls' := [.ref 48, .int x1, .int x2, .int y0, .int x4]) rfl rfl rfl ?_
  refine rp_lp (q := 154) (ls' := [.ref 48, .int x1, .int x2, .int y0, .int (x4 + 1)]) rfl rfl rfl ?_
  refine rp_lp (q := 122) rfl rfl rfl ?_
  exact rp_Le_rfl
-- Ref_account
set_option maxRecDepth 20000 in
theorem D_Ref_account_0 {sc : rp_Sc} (a0 : Int32) (a1 : Int32) (σ : rp_Mm) : rp_Le (thI (CL sc 151 [.int a0, .int 0, .int 4] σ) fun r2 σ1 => if (r2 = 0 : Prop) then RI (-1) σ1 else thI (CL sc 216 [.ref 48, .int a1] σ1) fun r4 σ3 => if (r4 = 0 : Prop) then RI (-1) σ3 else EV sc (224, 0, 0, 24, [.ref 48, .int a0, .int a1, .int 0, .int 0], [], (rp_L0, σ3))) (EV sc (224, 0, 0, 0, [.ref 48, .int a0, .int a1, rp_U, rp_U], [], (rp_L0, σ))) := by
  refine rp_lp (q := 1) rfl rfl rfl ?_
  refine rp_lp (q := 2) rfl rfl rfl ?_
  refine rp_lp (q := 3) rfl rfl rfl ?_
  refine rp_lci (uc' := 0) (us' := 0) rfl rfl rfl rfl rfl rfl rfl rfl (fun r2 σ1 => ?_)
  refine rp_lbr (a := 17) (b := 9) rfl rfl rfl ?_ ?_
  ·
    refine rp_lp (q := 18) rfl rfl rfl ?_
    exact rp_lri rfl rfl
  ·
    refine rp_lp (q := 10) rfl rfl rfl ?_
    refine rp_lp (q := 11) rfl rfl rfl ?_
    refine rp_lci (uc' := 0) (us' := 0) rfl (rp_rcv rfl) rfl rfl rfl rfl rfl rfl (fun r4 σ3 => ?_)
    refine rp_lbr (a := 17) (b := 19) rfl rfl rfl ?_ ?_
    ·
      refine rp_lp (q := 18) rfl rfl rfl ?_
      exact rp_lri rfl rfl
    ·
      refine rp_lp (q := 20) rfl rfl rfl ?_
      refine rp_lp (q := 21) (ls' := [.ref 48, .int a0, .int a1, .int 0, rp_U]) rfl rfl rfl ?_
      refine rp_lp (q := 22) rfl rfl rfl ?_
      refine rp_lp (q := 24) (ls' := [.ref 48, .int a0, .int a1, .int 0, .int 0]) rfl rfl rfl ?_
      exact rp_Le_rfl
set_option maxRecDepth 20000 in
theorem D_Ref_account_24 {sc : rp_Sc} (x1 : Int32) (x2 : Int32) (x3 : Int32) (x4 : Int32) (σ : rp_Mm) : rp_Le (if ((σ 49 2) ≤ x4 : Prop) then RI x3 σ else bif rp_ix (((16 : Int32) * x4) + (14 : Int32)) 128 then thI (CL sc 222 [.ref 48, .int x4, .int x1, .int x2, .int (σ 53 (((16 : Int32) * x4) + (14 : Int32)).toNatClampNeg)] σ) fun r2 σ1 => bif rp_ix (((16 : Int32) * x4) + (13 : Int32)) 128 then if ((σ1 53 (((16 : Int32) * x4) + (13 : Int32)).toNatClampNeg) = 1 : Prop) then thI (CL sc 192 [.ref 48, .int x4] σ1) fun r4 σ3 => thI (CL sc 222 [.ref 48, .int x4, .int x1, .int x2, .int r4] σ3) fun r6 σ5 => EV sc (224, 0, 0, 95, [.ref 48, .int x1, .int x2, .int (x3 + r2), .int x4], [.int r6, .int (x3 + r2)], (rp_L0, σ5)) else EV sc (224, 0, 0, 95, [.ref 48, .int x1, .int x2, .int (x3 + r2), .int x4], [.int 0, .int (x3 + r2)], (rp_L0, σ1)) else none else none) (EV sc (224, 0, 0, 24, [.ref 48, .int x1, .int x2, .int x3, .int x4], [], (rp_L0, σ))) := by
  refine rp_lp (q := 26) rfl rfl rfl ?_
  refine rp_lp (q := 27) rfl rfl rfl ?_
  refine rp_lgf rfl rfl rfl ?_
  refine rp_lp (q := 31) rfl rfl rfl ?_
  refine rp_lil rfl rfl (by decide +kernel) (k := 2) (by decide +kernel) ?_
  refine rp_lbr (a := 103) (b := 35) rfl rfl rfl ?_ ?_
  ·
    refine rp_lp (q := 104) rfl rfl rfl ?_
    exact rp_lri rfl rfl
  ·
    refine rp_lp (q := 36) rfl rfl rfl ?_
    refine rp_lp (q := 37) rfl rfl rfl ?_
    refine rp_lp (q := 39) rfl rfl rfl ?_
    refine rp_lp (q := 40) rfl rfl rfl ?_
    refine rp_lp (q := 41) rfl rfl rfl ?_
    refine rp_lp (q := 42) rfl rfl rfl ?_
    refine rp_lgf rfl rfl rfl ?_
    refine rp_lp (q := 47) rfl rfl rfl ?_
    refine rp_lp (q := 49) rfl rfl rfl ?_
    refine rp_lp (q := 50) rfl rfl rfl ?_
    refine rp_lp (q := 52) rfl rfl rfl ?_
    refine rp_lp (q := 53) rfl rfl rfl ?_
    refine rp_lia rfl rfl ?_
    refine rp_lci (uc' := 0) (us' := 0) rfl (rp_rcv rfl) rfl rfl rfl rfl rfl rfl (fun r2 σ1 => ?_)
    refine rp_lp (q := 58) rfl rfl rfl ?_
    refine rp_lp (q := 59) (ls' := [.ref 48, .int x1, .int x2, .int (x3 + r2), .int x4]) rfl rfl rfl ?_
    refine rp_lp (q := 60) rfl rfl rfl ?_
    refine rp_lp (q := 61) rfl rfl rfl ?_
    refine rp_lgf rfl rfl rfl ?_
    refine rp_lp (q := 66) rfl rfl rfl ?_
    refine rp_lp (q := 68) rfl rfl rfl ?_
    refine rp_lp (q := 69) rfl rfl rfl ?_
    refine rp_lp (q := 71) rfl rfl rfl ?_
    refine rp_lp (q := 72) rfl rfl rfl ?_
    refine rp_lia rfl rfl ?_
    refine rp_lp (q := 74) rfl rfl rfl ?_
    refine rp_lbr (a := 77) (b := 94) rfl rfl rfl ?_ ?_
    ·
      refine rp_lp (q := 78) rfl rfl rfl ?_
      refine rp_lp (q := 80) rfl rfl rfl ?_
      refine rp_lp (q := 81) rfl rfl rfl ?_
      refine rp_lp (q := 82) rfl rfl rfl ?_
      refine rp_lp (q := 83) rfl rfl rfl ?_
      refine rp_lp (q := 85) rfl rfl rfl ?_
      refine rp_lci (uc' := 0) (us' := 0) rfl (rp_rcv rfl) rfl rfl rfl rfl rfl rfl (fun r4 σ3 => ?_)
      refine rp_lci (uc' := 0) (us' := 0) rfl (rp_rcv rfl) rfl rfl rfl rfl rfl rfl (fun r6 σ5 => ?_)
      refine rp_lp (q := 95) rfl rfl rfl ?_
      exact rp_Le_rfl
    ·
      refine rp_lp (q := 95) rfl rfl rfl ?_
      exact rp_Le_rfl
set_option maxRecDepth 20000 in
theorem D_Ref_account_95 {sc : rp_Sc} (x1 : Int32) (x2 : Int32) (x3 : Int32) (x4 : Int32) (y0 : Int32) (y1 : Int32) (σ : rp_Mm) : rp_Le (EV sc (224, 0, 0, 24, [.ref 48, .int x1, .int x2, .int (y1 - y0), .int (x4 + 1)], [], (rp_L0, σ))) (EV sc (224, 0, 0, 95, [.ref 48, .int x1, .int x2, .int x3, .int x4], [.int y0, .int y1], (rp_L0, σ))) := by
  refine rp_lp (q := 96) rfl rfl rfl ?_
  refine rp_lp (q := 97) (ls' := [.ref 48, .int x1, .int x2, .int (y1 - y0), .int x4]) rfl rfl rfl ?_
  refine rp_lp (q := 100) (ls' := [.ref 48, .int x1, .int x2, .int (y1 - y0), .int (x4 + 1)]) rfl rfl rfl ?_
  refine rp_lp (q := 24) rfl rfl rfl ?_
  exact rp_Le_rfl
-- Ref_many
set_option maxRecDepth 20000 in
theorem D_Ref_many_0 {sc : rp_Sc} (a0 : Int32) (σ : rp_Mm) : rp_Le (if a0 = 0 then bif rp_ix a0 7 then RI (σ 49 a0.toNatClampNeg) σ else none else if a0 = 1 then bif rp_ix a0 7 then RI (σ 49 a0.toNatClampNeg) σ else none else if a0 = 2 then EV sc (225, 0, 0, 65, [.ref 48, .int a0, .int 0, .int 0], [], (rp_L0, σ)) else if a0 = 3 then bif rp_ix (a0 - (1 : Int32)) 7 then RI (σ 49 (a0 - (1 : Int32)).toNatClampNeg) σ else none else if a0 = 4 then bif rp_ix (a0 - (1 : Int32)) 7 then RI (σ 49 (a0 - (1 : Int32)).toNatClampNeg) σ else none else if a0 = 5 then bif rp_ix (a0 - (1 : Int32)) 7 then RI (σ 49 (a0 - (1 : Int32)).toNatClampNeg) σ else none else if a0 = 6 then RI (σ 48 25) σ else if a0 = 7 then RI (σ 49 5) σ else if a0 = 8 then RI (σ 48 9) σ else if a0 = 9 then RI (σ 49 6) σ else RI (-1) σ) (EV sc (225, 0, 0, 0, [.ref 48, .int a0, rp_U, rp_U], [], (rp_L0, σ))) := by
  refine rp_lp (q := 1) rfl rfl rfl ?_
  refine rp_lp (q := 2) (ls' := [.ref 48, .int a0, .int 0, rp_U]) rfl rfl rfl ?_
  refine rp_lp (q := 3) rfl rfl rfl ?_
  refine rp_lsw rfl rfl rfl ?_
  refine rp_swc ?_ ?_
  ·
    refine rp_lp (q := 57) rfl rfl rfl ?_
    refine rp_lgf rfl rfl rfl ?_
    refine rp_lp (q := 61) rfl rfl rfl ?_
    refine rp_lia rfl rfl ?_
    exact rp_lri rfl rfl
  ·
    refine rp_swc ?_ ?_
    ·
      refine rp_lp (q := 57) rfl rfl rfl ?_
      refine rp_lgf rfl rfl rfl ?_
      refine rp_lp (q := 61) rfl rfl rfl ?_
      refine rp_lia rfl rfl ?_
      exact rp_lri rfl rfl
    ·
      refine rp_swc ?_ ?_
      ·
        refine rp_lp (q := 64) rfl rfl rfl ?_
        refine rp_lp (q := 65) (ls' := [.ref 48, .int a0, .int 0, .int 0]) rfl rfl rfl ?_
        exact rp_Le_rfl
      ·
        refine rp_swc ?_ ?_
        ·
          refine rp_lp (q := 95) rfl rfl rfl ?_
          refine rp_lgf rfl rfl rfl ?_
          refine rp_lp (q := 99) rfl rfl rfl ?_
          refine rp_lp (q := 100) rfl rfl rfl ?_
          refine rp_lp (q := 101) rfl rfl rfl ?_
          refine rp_lia rfl rfl ?_
          exact rp_lri rfl rfl
        ·
          refine rp_swc ?_ ?_
          ·
            refine rp_lp (q := 95) rfl rfl rfl ?_
            refine rp_lgf rfl rfl rfl ?_
            refine rp_lp (q := 99) rfl rfl rfl ?_
            refine rp_lp (q := 100) rfl rfl rfl ?_
            refine rp_lp (q := 101) rfl rfl rfl ?_
            refine rp_lia rfl rfl ?_
            exact rp_lri rfl rfl
          ·
            refine rp_swc ?_ ?_
            ·
              refine rp_lp (q := 95) rfl rfl rfl ?_
              refine rp_lgf rfl rfl rfl ?_
              refine rp_lp (q := 99) rfl rfl rfl ?_
              refine rp_lp (q := 100) rfl rfl rfl ?_
              refine rp_lp (q := 101) rfl rfl rfl ?_
              refine rp_lia rfl rfl ?_
              exact rp_lri rfl rfl
            ·
              refine rp_swc ?_ ?_
              ·
                refine rp_lp (q := 104) rfl rfl rfl ?_
                refine rp_lgm rfl rfl rfl ?_
                exact rp_lri rfl rfl
              ·
                refine rp_swc ?_ ?_
                ·
                  refine rp_lp (q := 109) rfl rfl rfl ?_
                  refine rp_lgf rfl rfl rfl ?_
                  refine rp_lp (q := 113) rfl rfl rfl ?_
                  refine rp_lil rfl rfl (by decide +kernel) (k := 5) (by decide +kernel) ?_
                  exact rp_lri rfl rfl
                ·
                  refine rp_swc ?_ ?_
                  ·
                    refine rp_lp (q := 116) rfl rfl rfl ?_
                    refine rp_lgm rfl rfl rfl ?_
                    exact rp_lri rfl rfl
                  ·
                    refine rp_swc ?_ ?_
                    ·
                      refine rp_lp (q := 121) rfl rfl rfl ?_
                      refine rp_lgf rfl rfl rfl ?_
                      refine rp_lp (q := 126) rfl rfl rfl ?_
                      refine rp_lil rfl rfl (by decide +kernel) (k := 6) (by decide +kernel) ?_
                      exact rp_lri rfl rfl
                    ·
                      refine rp_lp (q := 129) rfl rfl rfl ?_
                      exact rp_lri rfl rfl
set_option maxRecDepth 20000 in
theorem D_Ref_many_65 {sc : rp_Sc} (x1 : Int32) (x2 : Int32) (x3 : Int32) (σ : rp_Mm) : rp_Le (if (3 ≤ x3 : Prop) then RI x2 σ else thI (CL sc 171 [.ref 48, .int x3] σ) fun r2 σ1 => if (r2 = 0 : Prop) then EV sc (225, 0, 0, 84, [.ref 48, .int x1, .int x2, .int x3], [.int 0, .int x2], (rp_L0, σ1)) else EV sc (225, 0, 0, 84, [.ref 48, .int x1, .int x2, .int x3], [.int 1, .int x2], (rp_L0, σ1))) (EV sc (225, 0, 0, 65, [.ref 48, .int x1, .int x2, .int x3], [], (rp_L0, σ))) := by
  refine rp_lp (q := 66) rfl rfl rfl ?_
  refine rp_lp (q := 67) rfl rfl rfl ?_
  refine rp_lbr (a := 92) (b := 70) rfl rfl rfl ?_ ?_
  ·
    refine rp_lp (q := 93) rfl rfl rfl ?_
    exact rp_lri rfl rfl
  ·
    refine rp_lp (q := 71) rfl rfl rfl ?_
    refine rp_lp (q := 72) rfl rfl rfl ?_
    refine rp_lp (q := 73) rfl rfl rfl ?_
    refine rp_lci (uc' := 0) (us' := 0) rfl (rp_rcv rfl) rfl rfl rfl rfl rfl rfl (fun r2 σ1 => ?_)
    refine rp_lbr (a := 83) (b := 79) rfl rfl rfl ?_ ?_
    ·
      refine rp_lp (q := 84) rfl rfl rfl ?_
      exact rp_Le_rfl
    ·
      refine rp_lp (q := 80) rfl rfl rfl ?_
      refine rp_lp (q := 84) rfl rfl rfl ?_
      exact rp_Le_rfl
set_option maxRecDepth 20000 in
theorem D_Ref_many_84 {sc : rp_Sc} (x1 : Int32) (x2 : Int32) (x3 : Int32) (y0 : Int32) (y1 : Int32) (σ : rp_Mm) : rp_Le (EV sc (225, 0, 0, 65, [.ref 48, .int x1, .int (y1 + y0), .int (x3 + 1)], [], (rp_L0, σ))) (EV sc (225, 0, 0, 84, [.ref 48, .int x1, .int x2, .int x3], [.int y0, .int y1], (rp_L0, σ))) := by
  refine rp_lp (q := 85) rfl rfl rfl ?_
  refine rp_lp (q := 86) (ls' := [.ref 48, .int x1, .int (y1 + y0), .int x3]) rfl rfl rfl ?_
  refine rp_lp (q := 89) (ls' := [.ref 48, .int x1, .int (y1 + y0), .int (x3 + 1)]) rfl rfl rfl ?_
  refine rp_lp (q := 65) rfl rfl rfl ?_
  exact rp_Le_rfl
-- Ref_keep
set_option maxRecDepth 20000 in
theorem D_Ref_keep_0 {sc : rp_Sc} (σ : rp_Mm) : rp_Le (thV (CL sc 227 [.ref 48, .int 1] σ) fun σ1 => RI 1 (rp_wr σ1 48 30 1)) (EV sc (226, 0, 0, 0, [.ref 48], [], (rp_L0, σ))) := by
  refine rp_lp (q := 1) rfl rfl rfl ?_
  refine rp_lp (q := 2) rfl rfl rfl ?_
  refine rp_lcv (uc' := 0) (us' := 0) rfl (rp_rcv rfl) rfl rfl rfl rfl rfl rfl (fun σ1 => ?_)
  refine rp_lp (q := 6) rfl rfl rfl ?_
  refine rp_lp (q := 7) rfl rfl rfl ?_
  refine rp_lpm rfl rfl rfl (by decide) ?_
  refine rp_lp (q := 11) rfl rfl rfl ?_
  exact rp_lri rfl rfl
-- Ref_moveAll
set_option maxRecDepth 20000 in
theorem D_Ref_moveAll_0 {sc : rp_Sc} (a0 : Int32) (σ : rp_Mm) : rp_Le (thV (CL sc 228 [.ref 48, .ref 49, .int 7, .int a0] (rp_wr σ 48 32 0)) fun σ1 => thV (CL sc 228 [.ref 48, .ref 50, .int 70, .int a0] σ1) fun σ2 => thV (CL sc 228 [.ref 48, .ref 51, .int 128, .int a0] σ2) fun σ3 => thV (CL sc 228 [.ref 48, .ref 52, .int 48, .int a0] σ3) fun σ4 => thV (CL sc 228 [.ref 48, .ref 53, .int 128, .int a0] σ4) fun σ5 => thV (CL sc 228 [.ref 48, .ref 54, .int 120, .int a0] σ5) fun σ6 => thV (CL sc 228 [.ref 48, .ref 55, .int 20, .int a0] σ6) fun σ7 => thV (CL sc 228 [.ref 48, .ref 56, .int 200, .int a0] σ7) fun σ8 => RV σ8) (EV sc (227, 0, 0, 0, [.ref 48, .int a0], [], (rp_L0, σ))) := by
  refine rp_lp (q := 1) rfl rfl rfl ?_
  refine rp_lp (q := 2) rfl rfl rfl ?_
  refine rp_lpm rfl rfl rfl rfl ?_
  refine rp_lp (q := 6) rfl rfl rfl ?_
  refine rp_lp (q := 7) rfl rfl rfl ?_
  refine rp_lgf rfl rfl rfl ?_
  refine rp_lp (q := 12) rfl rfl rfl ?_
  refine rp_lp (q := 13) rfl rfl rfl ?_
  refine rp_lcv (uc' := 0) (us' := 0) rfl (rp_rcv rfl) rfl rfl rfl rfl rfl rfl (fun σ1 => ?_)
  refine rp_lp (q := 17) rfl rfl rfl ?_
  refine rp_lp (q := 18) rfl rfl rfl ?_
  refine rp_lgf rfl rfl rfl ?_
  refine rp_lp (q := 23) rfl rfl rfl ?_
  refine rp_lp (q := 24) rfl rfl rfl ?_
  refine rp_lcv (uc' := 0) (us' := 0) rfl (rp_rcv rfl) rfl rfl rfl rfl rfl rfl (fun σ2 => ?_)
  refine rp_lp (q := 28) rfl rfl rfl ?_
  refine rp_lp (q := 29) rfl rfl rfl ?_
  refine rp_lgf rfl rfl rfl ?_
  refine rp_lp (q := 35) rfl rfl rfl ?_
  refine rp_lp (q := 36) rfl rfl rfl ?_
  refine rp_lcv (uc' := 0) (us' := 0) rfl (rp_rcv rfl) rfl rfl rfl rfl rfl rfl (fun σ3 => ?_)
  refine rp_lp (q := 40) rfl rfl rfl ?_
  refine rp_lp (q := 41) rfl rfl rfl ?_
  refine rp_lgf rfl rfl rfl ?_
  refine rp_lp (q := 46) rfl rfl rfl ?_
  refine rp_lp (q := 47) rfl rfl rfl ?_
  refine rp_lcv (uc' := 0) (us' := 0) rfl (rp_rcv rfl) rfl rfl rfl rfl rfl rfl (fun σ4 => ?_)
  refine rp_lp (q := 51) rfl rfl rfl ?_
  refine rp_lp (q := 52) rfl rfl rfl ?_
  refine rp_lgf rfl rfl rfl ?_
  refine rp_lp (q := 58) rfl rfl rfl ?_
  refine rp_lp (q := 59) rfl rfl rfl ?_
  refine rp_lcv (uc' := 0) (us' := 0) rfl (rp_rcv rfl) rfl rfl rfl rfl rfl rfl (fun σ5 => ?_)
  refine rp_lp (q := 63) rfl rfl rfl ?_
  refine rp_lp (q := 64) rfl rfl rfl ?_
  refine rp_lgf rfl rfl rfl ?_
  refine rp_lp (q := 69) rfl rfl rfl ?_
  refine rp_lp (q := 70) rfl rfl rfl ?_
  refine rp_lcv (uc' := 0) (us' := 0) rfl (rp_rcv rfl) rfl rfl rfl rfl rfl rfl (fun σ6 => ?_)
  refine rp_lp (q := 74) rfl rfl rfl ?_
  refine rp_lp (q := 75) rfl rfl rfl ?_
  refine rp_lgf rfl rfl rfl ?_
  refine rp_lp (q := 80) rfl rfl rfl ?_
  refine rp_lp (q := 81) rfl rfl rfl ?_
  refine rp_lcv (uc' := 0) (us' := 0) rfl (rp_rcv rfl) rfl rfl rfl rfl rfl rfl (fun σ7 => ?_)
  refine rp_lp (q := 85) rfl rfl rfl ?_
  refine rp_lp (q := 86) rfl rfl rfl ?_
  refine rp_lgf rfl rfl rfl ?_
  refine rp_lp (q := 92) rfl rfl rfl ?_
  refine rp_lp (q := 93) rfl rfl rfl ?_
  refine rp_lcv (uc' := 0) (us' := 0) rfl (rp_rcv rfl) rfl rfl rfl rfl rfl rfl (fun σ8 => ?_)
  exact rp_lrv rfl rfl
-- Ref_move
set_option maxRecDepth 20000 in
theorem D_Ref_move_0 {sc : rp_Sc} {a0 a0q : Nat} (ha0 : rp_L0[a0 + 1]? = some (.inl (false, a0q))) (a1 : Int32) (a2 : Int32) (σ : rp_Mm) : rp_Le (EV sc (228, 0, 0, 3, [.ref 48, .ref (a0 + 1), .int a1, .int a2, .int 0], [], (rp_L0, σ))) (EV sc (228, 0, 0, 0, [.ref 48, .ref (a0 + 1), .int a1, .int a2, rp_U], [], (rp_L0, σ))) := by
  refine rp_lp (q := 1) rfl rfl rfl ?_
  refine rp_lp (q := 3) (ls' := [.ref 48, .ref (a0 + 1), .int a1, .int a2, .int 0]) rfl rfl rfl ?_
  exact rp_Le_rfl
set_option maxRecDepth 20000 in
theorem D_Ref_move_3 {sc : rp_Sc} {a0 a0q : Nat} (ha0 : rp_L0[a0 + 1]? = some (.inl (false, a0q))) (x2 : Int32) (x3 : Int32) (x4 : Int32) (σ : rp_Mm) : rp_Le (if (x2 ≤ x4 : Prop) then RV σ else if (x3 = 0 : Prop) then bif rp_ix (σ 48 32) 725 then bif rp_ix x4 a0q then EV sc (228, 0, 0, 42, [.ref 48, .ref (a0 + 1), .int x2, .int x3, .int x4], [], (rp_L0, rp_wr σ (a0 + 1) x4.toNatClampNeg (σ 67 (σ 48 32).toNatClampNeg))) else none else none else bif rp_ix x4 a0q then bif rp_ix (σ 48 32) 725 then EV sc (228, 0, 0, 42, [.ref 48, .ref (a0 + 1), .int x2, .int x3, .int x4], [], (rp_L0, rp_wr σ 67 (σ 48 32).toNatClampNeg (σ (a0 + 1) x4.toNatClampNeg))) else none else none) (EV sc (228, 0, 0, 3, [.ref 48, .ref (a0 + 1), .int x2, .int x3, .int x4], [], (rp_L0, σ))) := by
  refine rp_lp (q := 5) rfl rfl rfl ?_
  refine rp_lp (q := 6) rfl rfl rfl ?_
  refine rp_lbr (a := 58) (b := 9) rfl rfl rfl ?_ ?_
  ·
    exact rp_lrv rfl rfl
  ·
    refine rp_lp (q := 10) rfl rfl rfl ?_
    refine rp_lbr (a := 29) (b := 13) rfl rfl rfl ?_ ?_
    ·
      refine rp_lp (q := 30) rfl rfl rfl ?_
      refine rp_lp (q := 32) rfl rfl rfl ?_
      refine rp_lp (q := 33) rfl rfl rfl ?_
      refine rp_lgf rfl rfl rfl ?_
      refine rp_lp (q := 37) rfl rfl rfl ?_
      refine rp_lgm rfl rfl rfl ?_
      refine rp_lia rfl rfl ?_
      refine rp_lis rfl ha0 ?_
      exact rp_Le_rfl
    ·
      refine rp_lp (q := 14) rfl rfl rfl ?_
      refine rp_lgf rfl rfl rfl ?_
      refine rp_lp (q := 18) rfl rfl rfl ?_
      refine rp_lgm rfl rfl rfl ?_
      refine rp_lp (q := 22) rfl rfl rfl ?_
      refine rp_lp (q := 24) rfl rfl rfl ?_
      refine rp_lia rfl ha0 ?_
      refine rp_lis rfl rfl ?_
      refine rp_lp (q := 42) rfl rfl rfl ?_
      exact rp_Le_rfl
set_option maxRecDepth 20000 in
theorem D_Ref_move_42 {sc : rp_Sc} {a0 a0q : Nat} (ha0 : rp_L0[a0 + 1]? = some (.inl (false, a0q))) (x2 : Int32) (x3 : Int32) (x4 : Int32) (σ : rp_Mm) : rp_Le (EV sc (228, 0, 0, 3, [.ref 48, .ref (a0 + 1), .int x2, .int x3, .int (x4 + 1)], [], (rp_L0, rp_wr σ 48 32 ((σ 48 32) + (1 : Int32))))) (EV sc (228, 0, 0, 42, [.ref 48, .ref (a0 + 1), .int x2, .int x3, .int x4], [], (rp_L0, σ))) := by
  refine rp_lp (q := 43) rfl rfl rfl ?_
  refine rp_lp (q := 44) rfl rfl rfl ?_
  refine rp_lgm rfl rfl rfl ?_
  refine rp_lp (q := 48) rfl rfl rfl ?_
  refine rp_lp (q := 49) rfl rfl rfl ?_
  refine rp_lpm rfl rfl rfl rfl ?_
  refine rp_lp (q := 55) (ls' := [.ref 48, .ref (a0 + 1), .int x2, .int x3, .int (x4 + 1)]) rfl rfl rfl ?_
  refine rp_lp (q := 3) rfl rfl rfl ?_
  exact rp_Le_rfl
-- Ref_back
set_option maxRecDepth 20000 in
theorem D_Ref_back_0 {sc : rp_Sc} (σ : rp_Mm) : rp_Le (if ((σ 48 30) = 0 : Prop) then RI (-3) σ else thV (CL sc 227 [.ref 48, .int 0] σ) fun σ1 => RI 1 σ1) (EV sc (229, 0, 0, 0, [.ref 48], [], (rp_L0, σ))) := by
  refine rp_lp (q := 1) rfl rfl rfl ?_
  refine rp_lgm rfl rfl rfl ?_
  refine rp_lbr (a := 7) (b := 10) rfl rfl rfl ?_ ?_
  ·
    refine rp_lp (q := 9) rfl rfl rfl ?_
    exact rp_lri rfl rfl
  ·
    refine rp_lp (q := 11) rfl rfl rfl ?_
    refine rp_lp (q := 12) rfl rfl rfl ?_
    refine rp_lcv (uc' := 0) (us' := 0) rfl (rp_rcv rfl) rfl rfl rfl rfl rfl rfl (fun σ1 => ?_)
    refine rp_lp (q := 16) rfl rfl rfl ?_
    exact rp_lri rfl rfl
