/-! the law's loop -/
section
variable {m uc us pc n : Nat} {ls st : List Value} {i : rp_In} {o : Option rp_Rs} {h : rp_Hp}
theorem rp_lsn {q : Nat} {xs : Nat → Int32} (hl : rp_lk pc (rp_mi m) = some (.arraylength, n, i)) (K : rp_Le o (EV (some (q, xs)) (m, uc, us, pc + n, ls, .int (Int32.ofNat q) :: st, h))) : rp_Le o (EV (some (q, xs)) (m, uc, us, pc, ls, .ref 0 :: st, h)) := by
  refine rp_ln hl (t := (m, uc, us, pc + n, ls, .int (Int32.ofNat q) :: st, h)) ?_ K
  rfl
end
set_option maxRecDepth 20000 in
theorem D_Law_law_18 {q : Nat} {xs : Nat → Int32} (x3 : Int32) (σ : rp_Mm) : rp_Le (if (((Int32.ofNat q) - (7 : Int32)) < x3 : Prop) then RI 1 σ else bif rp_ix x3 q then if ((xs x3.toNatClampNeg) &&& (31 : Int32)) = 0 then EV (some (q, xs)) (230, 67, 13472, 176, [.ref 0, .ref 1, .ref 48, .int x3], [], (rp_L0, σ)) else if ((xs x3.toNatClampNeg) &&& (31 : Int32)) = 1 then EV (some (q, xs)) (230, 67, 13472, 255, [.ref 0, .ref 1, .ref 48, .int x3], [], (rp_L0, σ)) else if ((xs x3.toNatClampNeg) &&& (31 : Int32)) = 2 then EV (some (q, xs)) (230, 67, 13472, 362, [.ref 0, .ref 1, .ref 48, .int x3], [], (rp_L0, σ)) else if ((xs x3.toNatClampNeg) &&& (31 : Int32)) = 3 then EV (some (q, xs)) (230, 67, 13472, 395, [.ref 0, .ref 1, .ref 48, .int x3], [], (rp_L0, σ)) else if ((xs x3.toNatClampNeg) &&& (31 : Int32)) = 4 then EV (some (q, xs)) (230, 67, 13472, 418, [.ref 0, .ref 1, .ref 48, .int x3], [], (rp_L0, σ)) else if ((xs x3.toNatClampNeg) &&& (31 : Int32)) = 5 then EV (some (q, xs)) (230, 67, 13472, 481, [.ref 0, .ref 1, .ref 48, .int x3], [], (rp_L0, σ)) else if ((xs x3.toNatClampNeg) &&& (31 : Int32)) = 6 then EV (some (q, xs)) (230, 67, 13472, 504, [.ref 0, .ref 1, .ref 48, .int x3], [], (rp_L0, σ)) else if ((xs x3.toNatClampNeg) &&& (31 : Int32)) = 7 then EV (some (q, xs)) (230, 67, 13472, 537, [.ref 0, .ref 1, .ref 48, .int x3], [], (rp_L0, σ)) else if ((xs x3.toNatClampNeg) &&& (31 : Int32)) = 8 then EV (some (q, xs)) (230, 67, 13472, 596, [.ref 0, .ref 1, .ref 48, .int x3], [], (rp_L0, σ)) else if ((xs x3.toNatClampNeg) &&& (31 : Int32)) = 9 then EV (some (q, xs)) (230, 67, 13472, 629, [.ref 0, .ref 1, .ref 48, .int x3], [], (rp_L0, σ)) else if ((xs x3.toNatClampNeg) &&& (31 : Int32)) = 10 then EV (some (q, xs)) (230, 67, 13472, 672, [.ref 0, .ref 1, .ref 48, .int x3], [], (rp_L0, σ)) else if ((xs x3.toNatClampNeg) &&& (31 : Int32)) = 11 then EV (some (q, xs)) (230, 67, 13472, 715, [.ref 0, .ref 1, .ref 48, .int x3], [], (rp_L0, σ)) else if ((xs x3.toNatClampNeg) &&& (31 : Int32)) = 12 then EV (some (q, xs)) (230, 67, 13472, 748, [.ref 0, .ref 1, .ref 48, .int x3], [], (rp_L0, σ)) else if ((xs x3.toNatClampNeg) &&& (31 : Int32)) = 13 then EV (some (q, xs)) (230, 67, 13472, 771, [.ref 0, .ref 1, .ref 48, .int x3], [], (rp_L0, σ)) else if ((xs x3.toNatClampNeg) &&& (31 : Int32)) = 14 then EV (some (q, xs)) (230, 67, 13472, 804, [.ref 0, .ref 1, .ref 48, .int x3], [], (rp_L0, σ)) else if ((xs x3.toNatClampNeg) &&& (31 : Int32)) = 15 then EV (some (q, xs)) (230, 67, 13472, 827, [.ref 0, .ref 1, .ref 48, .int x3], [], (rp_L0, σ)) else if ((xs x3.toNatClampNeg) &&& (31 : Int32)) = 16 then EV (some (q, xs)) (230, 67, 13472, 860, [.ref 0, .ref 1, .ref 48, .int x3], [], (rp_L0, σ)) else if ((xs x3.toNatClampNeg) &&& (31 : Int32)) = 17 then EV (some (q, xs)) (230, 67, 13472, 873, [.ref 0, .ref 1, .ref 48, .int x3], [], (rp_L0, σ)) else if ((xs x3.toNatClampNeg) &&& (31 : Int32)) = 18 then EV (some (q, xs)) (230, 67, 13472, 896, [.ref 0, .ref 1, .ref 48, .int x3], [], (rp_L0, σ)) else if ((xs x3.toNatClampNeg) &&& (31 : Int32)) = 19 then EV (some (q, xs)) (230, 67, 13472, 929, [.ref 0, .ref 1, .ref 48, .int x3], [], (rp_L0, σ)) else if ((xs x3.toNatClampNeg) &&& (31 : Int32)) = 20 then EV (some (q, xs)) (230, 67, 13472, 942, [.ref 0, .ref 1, .ref 48, .int x3], [], (rp_L0, σ)) else if ((xs x3.toNatClampNeg) &&& (31 : Int32)) = 21 then EV (some (q, xs)) (230, 67, 13472, 975, [.ref 0, .ref 1, .ref 48, .int x3], [], (rp_L0, σ)) else if ((xs x3.toNatClampNeg) &&& (31 : Int32)) = 22 then EV (some (q, xs)) (230, 67, 13472, 1018, [.ref 0, .ref 1, .ref 48, .int x3], [], (rp_L0, σ)) else if ((xs x3.toNatClampNeg) &&& (31 : Int32)) = 23 then EV (some (q, xs)) (230, 67, 13472, 1031, [.ref 0, .ref 1, .ref 48, .int x3], [], (rp_L0, σ)) else if ((xs x3.toNatClampNeg) &&& (31 : Int32)) = 24 then EV (some (q, xs)) (230, 67, 13472, 1084, [.ref 0, .ref 1, .ref 48, .int x3], [], (rp_L0, σ)) else if ((xs x3.toNatClampNeg) &&& (31 : Int32)) = 25 then EV (some (q, xs)) (230, 67, 13472, 1117, [.ref 0, .ref 1, .ref 48, .int x3], [], (rp_L0, σ)) else if ((xs x3.toNatClampNeg) &&& (31 : Int32)) = 26 then EV (some (q, xs)) (230, 67, 13472, 1150, [.ref 0, .ref 1, .ref 48, .int x3], [], (rp_L0, σ)) else if ((xs x3.toNatClampNeg) &&& (31 : Int32)) = 27 then EV (some (q, xs)) (230, 67, 13472, 1193, [.ref 0, .ref 1, .ref 48, .int x3], [], (rp_L0, σ)) else if ((xs x3.toNatClampNeg) &&& (31 : Int32)) = 28 then EV (some (q, xs)) (230, 67, 13472, 1236, [.ref 0, .ref 1, .ref 48, .int x3], [], (rp_L0, σ)) else if ((xs x3.toNatClampNeg) &&& (31 : Int32)) = 29 then EV (some (q, xs)) (230, 67, 13472, 1269, [.ref 0, .ref 1, .ref 48, .int x3], [], (rp_L0, σ)) else if ((xs x3.toNatClampNeg) &&& (31 : Int32)) = 30 then EV (some (q, xs)) (230, 67, 13472, 1292, [.ref 0, .ref 1, .ref 48, .int x3], [], (rp_L0, σ)) else if ((xs x3.toNatClampNeg) &&& (31 : Int32)) = 31 then EV (some (q, xs)) (230, 67, 13472, 1305, [.ref 0, .ref 1, .ref 48, .int x3], [], (rp_L0, σ)) else EV (some (q, xs)) (230, 67, 13472, 1318, [.ref 0, .ref 1, .ref 48, .int x3], [], (rp_L0, σ)) else none) (EV (some (q, xs)) (230, 67, 13472, 18, [.ref 0, .ref 1, .ref 48, .int x3], [], (rp_L0, σ))) := by
  refine rp_lp (q := 19) rfl rfl rfl ?_
  refine rp_lp (q := 20) rfl rfl rfl ?_
  refine rp_lsn rfl ?_
  refine rp_lp (q := 23) rfl rfl rfl ?_
  refine rp_lp (q := 24) rfl rfl rfl ?_
  refine rp_lbr (a := 1324) (b := 27) rfl rfl rfl ?_ ?_
  ·
    refine rp_lp (q := 1325) rfl rfl rfl ?_
    exact rp_lrz rfl rfl (by decide)
  ·
    refine rp_lp (q := 28) rfl rfl rfl ?_
    refine rp_lp (q := 29) rfl rfl rfl ?_
    refine rp_lsc rfl ?_
    refine rp_lp (q := 32) rfl rfl rfl ?_
    refine rp_lp (q := 33) rfl rfl rfl ?_
    refine rp_lsw rfl rfl rfl ?_
    refine rp_swc ?_ ?_
    ·
      exact rp_Le_rfl
    ·
      refine rp_swc ?_ ?_
      ·
        exact rp_Le_rfl
      ·
        refine rp_swc ?_ ?_
        ·
          exact rp_Le_rfl
        ·
          refine rp_swc ?_ ?_
          ·
            exact rp_Le_rfl
          ·
            refine rp_swc ?_ ?_
            ·
              exact rp_Le_rfl
            ·
              refine rp_swc ?_ ?_
              ·
                exact rp_Le_rfl
              ·
                refine rp_swc ?_ ?_
                ·
                  exact rp_Le_rfl
                ·
                  refine rp_swc ?_ ?_
                  ·
                    exact rp_Le_rfl
                  ·
                    refine rp_swc ?_ ?_
                    ·
                      exact rp_Le_rfl
                    ·
                      refine rp_swc ?_ ?_
                      ·
                        exact rp_Le_rfl
                      ·
                        refine rp_swc ?_ ?_
                        ·
                          exact rp_Le_rfl
                        ·
                          refine rp_swc ?_ ?_
                          ·
                            exact rp_Le_rfl
                          ·
                            refine rp_swc ?_ ?_
                            ·
                              exact rp_Le_rfl
                            ·
                              refine rp_swc ?_ ?_
                              ·
                                exact rp_Le_rfl
                              ·
                                refine rp_swc ?_ ?_
                                ·
                                  exact rp_Le_rfl
                                ·
                                  refine rp_swc ?_ ?_
                                  ·
                                    exact rp_Le_rfl
                                  ·
                                    refine rp_swc ?_ ?_
                                    ·
                                      exact rp_Le_rfl
                                    ·
                                      refine rp_swc ?_ ?_
                                      ·
                                        exact rp_Le_rfl
                                      ·
                                        refine rp_swc ?_ ?_
                                        ·
                                          exact rp_Le_rfl
                                        ·
                                          refine rp_swc ?_ ?_
                                          ·
                                            exact rp_Le_rfl
                                          ·
                                            refine rp_swc ?_ ?_
                                            ·
                                              exact rp_Le_rfl
                                            ·
                                              refine rp_swc ?_ ?_
                                              ·
                                                exact rp_Le_rfl
                                              ·
                                                refine rp_swc ?_ ?_
                                                ·
                                                  exact rp_Le_rfl
                                                ·
                                                  refine rp_swc ?_ ?_
                                                  ·
                                                    exact rp_Le_rfl
                                                  ·
                                                    refine rp_swc ?_ ?_
                                                    ·
                                                      exact rp_Le_rfl
                                                    ·
                                                      refine rp_swc ?_ ?_
                                                      ·
                                                        exact rp_Le_rfl
                                                      ·
                                                        refine rp_swc ?_ ?_
                                                        ·
                                                          exact rp_Le_rfl
                                                        ·
                                                          refine rp_swc ?_ ?_
                                                          ·
                                                            exact rp_Le_rfl
                                                          ·
                                                            refine rp_swc ?_ ?_
                                                            ·
                                                              exact rp_Le_rfl
                                                            ·
                                                              refine rp_swc ?_ ?_
                                                              ·
                                                                exact rp_Le_rfl
                                                              ·
                                                                refine rp_swc ?_ ?_
                                                                ·
                                                                  exact rp_Le_rfl
                                                                ·
                                                                  refine rp_swc ?_ ?_
                                                                  ·
                                                                    exact rp_Le_rfl
                                                                  ·
                                                                    exact rp_Le_rfl
set_option maxRecDepth 20000 in
theorem D_Law_law_176 {q : Nat} {xs : Nat → Int32} (x3 : Int32) (σ : rp_Mm) : rp_Le (bif rp_ix (x3 + (1 : Int32)) q then bif rp_ix (x3 + (2 : Int32)) q then bif rp_ix (x3 + (3 : Int32)) q then bif rp_ix (x3 + (4 : Int32)) q then bif rp_ix (x3 + (5 : Int32)) q then if ((xs (x3 + (5 : Int32)).toNatClampNeg) = 0 : Prop) then EV (some (q, xs)) (230, 67, 13472, 210, [.ref 0, .ref 1, .ref 48, .int x3], [.int 0, .int (xs (x3 + (4 : Int32)).toNatClampNeg), .int (xs (x3 + (3 : Int32)).toNatClampNeg), .int (xs (x3 + (2 : Int32)).toNatClampNeg), .int (xs (x3 + (1 : Int32)).toNatClampNeg), .ref 1], (rp_L0, σ)) else EV (some (q, xs)) (230, 67, 13472, 210, [.ref 0, .ref 1, .ref 48, .int x3], [.int 1, .int (xs (x3 + (4 : Int32)).toNatClampNeg), .int (xs (x3 + (3 : Int32)).toNatClampNeg), .int (xs (x3 + (2 : Int32)).toNatClampNeg), .int (xs (x3 + (1 : Int32)).toNatClampNeg), .ref 1], (rp_L0, σ)) else none else none else none else none else none) (EV (some (q, xs)) (230, 67, 13472, 176, [.ref 0, .ref 1, .ref 48, .int x3], [], (rp_L0, σ))) := by
  refine rp_lp (q := 177) rfl rfl rfl ?_
  refine rp_lp (q := 178) rfl rfl rfl ?_
  refine rp_lp (q := 179) rfl rfl rfl ?_
  refine rp_lp (q := 180) rfl rfl rfl ?_
  refine rp_lp (q := 181) rfl rfl rfl ?_
  refine rp_lsc rfl ?_
  refine rp_lp (q := 183) rfl rfl rfl ?_
  refine rp_lp (q := 184) rfl rfl rfl ?_
  refine rp_lp (q := 185) rfl rfl rfl ?_
  refine rp_lp (q := 186) rfl rfl rfl ?_
  refine rp_lsc rfl ?_
  refine rp_lp (q := 188) rfl rfl rfl ?_
  refine rp_lp (q := 189) rfl rfl rfl ?_
  refine rp_lp (q := 190) rfl rfl rfl ?_
  refine rp_lp (q := 191) rfl rfl rfl ?_
  refine rp_lsc rfl ?_
  refine rp_lp (q := 193) rfl rfl rfl ?_
  refine rp_lp (q := 194) rfl rfl rfl ?_
  refine rp_lp (q := 195) rfl rfl rfl ?_
  refine rp_lp (q := 196) rfl rfl rfl ?_
  refine rp_lsc rfl ?_
  refine rp_lp (q := 198) rfl rfl rfl ?_
  refine rp_lp (q := 199) rfl rfl rfl ?_
  refine rp_lp (q := 200) rfl rfl rfl ?_
  refine rp_lp (q := 201) rfl rfl rfl ?_
  refine rp_lsc rfl ?_
  refine rp_lbr (a := 209) (b := 205) rfl rfl rfl ?_ ?_
  ·
    refine rp_lp (q := 210) rfl rfl rfl ?_
    exact rp_Le_rfl
  ·
    refine rp_lp (q := 206) rfl rfl rfl ?_
    refine rp_lp (q := 210) rfl rfl rfl ?_
    exact rp_Le_rfl
set_option maxRecDepth 20000 in
theorem D_Law_law_255 {q : Nat} {xs : Nat → Int32} (x3 : Int32) (σ : rp_Mm) : rp_Le (bif rp_ix (x3 + (1 : Int32)) q then bif rp_ix (x3 + (2 : Int32)) q then if ((xs (x3 + (2 : Int32)).toNatClampNeg) = 0 : Prop) then EV (some (q, xs)) (230, 67, 13472, 274, [.ref 0, .ref 1, .ref 48, .int x3], [.int 0, .int (xs (x3 + (1 : Int32)).toNatClampNeg), .ref 1], (rp_L0, σ)) else EV (some (q, xs)) (230, 67, 13472, 274, [.ref 0, .ref 1, .ref 48, .int x3], [.int 1, .int (xs (x3 + (1 : Int32)).toNatClampNeg), .ref 1], (rp_L0, σ)) else none else none) (EV (some (q, xs)) (230, 67, 13472, 255, [.ref 0, .ref 1, .ref 48, .int x3], [], (rp_L0, σ))) := by
  refine rp_lp (q := 256) rfl rfl rfl ?_
  refine rp_lp (q := 257) rfl rfl rfl ?_
  refine rp_lp (q := 258) rfl rfl rfl ?_
  refine rp_lp (q := 259) rfl rfl rfl ?_
  refine rp_lp (q := 260) rfl rfl rfl ?_
  refine rp_lsc rfl ?_
  refine rp_lp (q := 262) rfl rfl rfl ?_
  refine rp_lp (q := 263) rfl rfl rfl ?_
  refine rp_lp (q := 264) rfl rfl rfl ?_
  refine rp_lp (q := 265) rfl rfl rfl ?_
  refine rp_lsc rfl ?_
  refine rp_lbr (a := 273) (b := 269) rfl rfl rfl ?_ ?_
  ·
    refine rp_lp (q := 274) rfl rfl rfl ?_
    exact rp_Le_rfl
  ·
    refine rp_lp (q := 270) rfl rfl rfl ?_
    refine rp_lp (q := 274) rfl rfl rfl ?_
    exact rp_Le_rfl
set_option maxRecDepth 20000 in
theorem D_Law_law_362 {q : Nat} {xs : Nat → Int32} (x3 : Int32) (σ : rp_Mm) : rp_Le (bif rp_ix (x3 + (1 : Int32)) q then bif rp_ix (x3 + (2 : Int32)) q then thI (CL (some (q, xs)) 28 [.ref 1, .int (xs (x3 + (1 : Int32)).toNatClampNeg), .int (xs (x3 + (2 : Int32)).toNatClampNeg)] σ) fun r2 σ1 => bif rp_ix (x3 + (1 : Int32)) q then bif rp_ix (x3 + (2 : Int32)) q then thI (CL (some (q, xs)) 153 [.ref 48, .int (xs (x3 + (1 : Int32)).toNatClampNeg), .int (xs (x3 + (2 : Int32)).toNatClampNeg)] σ1) fun r4 σ3 => if (r2 = r4 : Prop) then EV (some (q, xs)) (230, 67, 13472, 1318, [.ref 0, .ref 1, .ref 48, .int x3], [], (rp_L0, σ3)) else RI 0 σ3 else none else none else none else none) (EV (some (q, xs)) (230, 67, 13472, 362, [.ref 0, .ref 1, .ref 48, .int x3], [], (rp_L0, σ))) := by
  refine rp_lp (q := 363) rfl rfl rfl ?_
  refine rp_lp (q := 364) rfl rfl rfl ?_
  refine rp_lp (q := 365) rfl rfl rfl ?_
  refine rp_lp (q := 366) rfl rfl rfl ?_
  refine rp_lp (q := 367) rfl rfl rfl ?_
  refine rp_lsc rfl ?_
  refine rp_lp (q := 369) rfl rfl rfl ?_
  refine rp_lp (q := 370) rfl rfl rfl ?_
  refine rp_lp (q := 371) rfl rfl rfl ?_
  refine rp_lp (q := 372) rfl rfl rfl ?_
  refine rp_lsc rfl ?_
  refine rp_lci (uc' := 67) (us' := 13472) rfl (rp_rcv rfl) rfl rfl rfl rfl rfl rfl (fun r2 σ1 => ?_)
  refine rp_lp (q := 377) rfl rfl rfl ?_
  refine rp_lp (q := 378) rfl rfl rfl ?_
  refine rp_lp (q := 379) rfl rfl rfl ?_
  refine rp_lp (q := 380) rfl rfl rfl ?_
  refine rp_lp (q := 381) rfl rfl rfl ?_
  refine rp_lsc rfl ?_
  refine rp_lp (q := 383) rfl rfl rfl ?_
  refine rp_lp (q := 384) rfl rfl rfl ?_
  refine rp_lp (q := 385) rfl rfl rfl ?_
  refine rp_lp (q := 386) rfl rfl rfl ?_
  refine rp_lsc rfl ?_
  refine rp_lci (uc' := 67) (us' := 13472) rfl (rp_rcv rfl) rfl rfl rfl rfl rfl rfl (fun r4 σ3 => ?_)
  refine rp_lbr (a := 1318) (b := 393) rfl rfl rfl ?_ ?_
  ·
    exact rp_Le_rfl
  ·
    refine rp_lp (q := 394) rfl rfl rfl ?_
    exact rp_lrz rfl rfl (by decide)
set_option maxRecDepth 20000 in
theorem D_Law_law_395 {q : Nat} {xs : Nat → Int32} (x3 : Int32) (σ : rp_Mm) : rp_Le (bif rp_ix (x3 + (1 : Int32)) q then thI (CL (some (q, xs)) 29 [.ref 1, .int (xs (x3 + (1 : Int32)).toNatClampNeg)] σ) fun r2 σ1 => bif rp_ix (x3 + (1 : Int32)) q then thI (CL (some (q, xs)) 156 [.ref 48, .int (xs (x3 + (1 : Int32)).toNatClampNeg)] σ1) fun r4 σ3 => if (r2 = r4 : Prop) then EV (some (q, xs)) (230, 67, 13472, 1318, [.ref 0, .ref 1, .ref 48, .int x3], [], (rp_L0, σ3)) else RI 0 σ3 else none else none) (EV (some (q, xs)) (230, 67, 13472, 395, [.ref 0, .ref 1, .ref 48, .int x3], [], (rp_L0, σ))) := by
  refine rp_lp (q := 396) rfl rfl rfl ?_
  refine rp_lp (q := 397) rfl rfl rfl ?_
  refine rp_lp (q := 398) rfl rfl rfl ?_
  refine rp_lp (q := 399) rfl rfl rfl ?_
  refine rp_lp (q := 400) rfl rfl rfl ?_
  refine rp_lsc rfl ?_
  refine rp_lci (uc' := 67) (us' := 13472) rfl (rp_rcv rfl) rfl rfl rfl rfl rfl rfl (fun r2 σ1 => ?_)
  refine rp_lp (q := 405) rfl rfl rfl ?_
  refine rp_lp (q := 406) rfl rfl rfl ?_
  refine rp_lp (q := 407) rfl rfl rfl ?_
  refine rp_lp (q := 408) rfl rfl rfl ?_
  refine rp_lp (q := 409) rfl rfl rfl ?_
  refine rp_lsc rfl ?_
  refine rp_lci (uc' := 67) (us' := 13472) rfl (rp_rcv rfl) rfl rfl rfl rfl rfl rfl (fun r4 σ3 => ?_)
  refine rp_lbr (a := 1318) (b := 416) rfl rfl rfl ?_ ?_
  ·
    exact rp_Le_rfl
  ·
    refine rp_lp (q := 417) rfl rfl rfl ?_
    exact rp_lrz rfl rfl (by decide)
set_option maxRecDepth 20000 in
theorem D_Law_law_418 {q : Nat} {xs : Nat → Int32} (x3 : Int32) (σ : rp_Mm) : rp_Le (bif rp_ix (x3 + (1 : Int32)) q then bif rp_ix (x3 + (2 : Int32)) q then bif rp_ix (x3 + (3 : Int32)) q then thI (CL (some (q, xs)) 30 [.ref 1, .long ((((xs (x3 + (1 : Int32)).toNatClampNeg).toInt64) <<< ((32 : Int32).toInt64 &&& 63)) ||| (((xs (x3 + (2 : Int32)).toNatClampNeg).toInt64) &&& 4294967295)), .int (xs (x3 + (3 : Int32)).toNatClampNeg)] σ) fun r2 σ1 => bif rp_ix (x3 + (1 : Int32)) q then bif rp_ix (x3 + (2 : Int32)) q then bif rp_ix (x3 + (3 : Int32)) q then thI (CL (some (q, xs)) 157 [.ref 48, .long ((((xs (x3 + (1 : Int32)).toNatClampNeg).toInt64) <<< ((32 : Int32).toInt64 &&& 63)) ||| (((xs (x3 + (2 : Int32)).toNatClampNeg).toInt64) &&& 4294967295)), .int (xs (x3 + (3 : Int32)).toNatClampNeg)] σ1) fun r4 σ3 => if (r2 = r4 : Prop) then EV (some (q, xs)) (230, 67, 13472, 1318, [.ref 0, .ref 1, .ref 48, .int x3], [], (rp_L0, σ3)) else RI 0 σ3 else none else none else none else none else none else none) (EV (some (q, xs)) (230, 67, 13472, 418, [.ref 0, .ref 1, .ref 48, .int x3], [], (rp_L0, σ))) := by
  refine rp_lp (q := 419) rfl rfl rfl ?_
  refine rp_lp (q := 420) rfl rfl rfl ?_
  refine rp_lp (q := 421) rfl rfl rfl ?_
  refine rp_lp (q := 422) rfl rfl rfl ?_
  refine rp_lp (q := 423) rfl rfl rfl ?_
  refine rp_lsc rfl ?_
  refine rp_lp (q := 425) rfl rfl rfl ?_
  refine rp_lp (q := 427) rfl rfl rfl ?_
  refine rp_lp (q := 428) rfl rfl rfl ?_
  refine rp_lp (q := 429) rfl rfl rfl ?_
  refine rp_lp (q := 430) rfl rfl rfl ?_
  refine rp_lp (q := 431) rfl rfl rfl ?_
  refine rp_lp (q := 432) rfl rfl rfl ?_
  refine rp_lsc rfl ?_
  refine rp_lp (q := 434) rfl rfl rfl ?_
  refine rp_lp (q := 437) rfl rfl rfl ?_
  refine rp_lp (q := 438) rfl rfl rfl ?_
  refine rp_lp (q := 439) rfl rfl rfl ?_
  refine rp_lp (q := 440) rfl rfl rfl ?_
  refine rp_lp (q := 441) rfl rfl rfl ?_
  refine rp_lp (q := 442) rfl rfl rfl ?_
  refine rp_lp (q := 443) rfl rfl rfl ?_
  refine rp_lsc rfl ?_
  refine rp_lci (uc' := 67) (us' := 13472) rfl (rp_rcv rfl) rfl rfl rfl rfl rfl rfl (fun r2 σ1 => ?_)
  refine rp_lp (q := 448) rfl rfl rfl ?_
  refine rp_lp (q := 449) rfl rfl rfl ?_
  refine rp_lp (q := 450) rfl rfl rfl ?_
  refine rp_lp (q := 451) rfl rfl rfl ?_
  refine rp_lp (q := 452) rfl rfl rfl ?_
  refine rp_lsc rfl ?_
  refine rp_lp (q := 454) rfl rfl rfl ?_
  refine rp_lp (q := 456) rfl rfl rfl ?_
  refine rp_lp (q := 457) rfl rfl rfl ?_
  refine rp_lp (q := 458) rfl rfl rfl ?_
  refine rp_lp (q := 459) rfl rfl rfl ?_
  refine rp_lp (q := 460) rfl rfl rfl ?_
  refine rp_lp (q := 461) rfl rfl rfl ?_
  refine rp_lsc rfl ?_
  refine rp_lp (q := 463) rfl rfl rfl ?_
  refine rp_lp (q := 466) rfl rfl rfl ?_
  refine rp_lp (q := 467) rfl rfl rfl ?_
  refine rp_lp (q := 468) rfl rfl rfl ?_
  refine rp_lp (q := 469) rfl rfl rfl ?_
  refine rp_lp (q := 470) rfl rfl rfl ?_
  refine rp_lp (q := 471) rfl rfl rfl ?_
  refine rp_lp (q := 472) rfl rfl rfl ?_
  refine rp_lsc rfl ?_
  refine rp_lci (uc' := 67) (us' := 13472) rfl (rp_rcv rfl) rfl rfl rfl rfl rfl rfl (fun r4 σ3 => ?_)
  refine rp_lbr (a := 1318) (b := 479) rfl rfl rfl ?_ ?_
  ·
    exact rp_Le_rfl
  ·
    refine rp_lp (q := 480) rfl rfl rfl ?_
    exact rp_lrz rfl rfl (by decide)
set_option maxRecDepth 20000 in
theorem D_Law_law_481 {q : Nat} {xs : Nat → Int32} (x3 : Int32) (σ : rp_Mm) : rp_Le (bif rp_ix (x3 + (1 : Int32)) q then thI (CL (some (q, xs)) 33 [.ref 1, .int (xs (x3 + (1 : Int32)).toNatClampNeg)] σ) fun r2 σ1 => bif rp_ix (x3 + (1 : Int32)) q then thI (CL (some (q, xs)) 158 [.ref 48, .int (xs (x3 + (1 : Int32)).toNatClampNeg)] σ1) fun r4 σ3 => if (r2 = r4 : Prop) then EV (some (q, xs)) (230, 67, 13472, 1318, [.ref 0, .ref 1, .ref 48, .int x3], [], (rp_L0, σ3)) else RI 0 σ3 else none else none) (EV (some (q, xs)) (230, 67, 13472, 481, [.ref 0, .ref 1, .ref 48, .int x3], [], (rp_L0, σ))) := by
  refine rp_lp (q := 482) rfl rfl rfl ?_
  refine rp_lp (q := 483) rfl rfl rfl ?_
  refine rp_lp (q := 484) rfl rfl rfl ?_
  refine rp_lp (q := 485) rfl rfl rfl ?_
  refine rp_lp (q := 486) rfl rfl rfl ?_
  refine rp_lsc rfl ?_
  refine rp_lci (uc' := 67) (us' := 13472) rfl (rp_rcv rfl) rfl rfl rfl rfl rfl rfl (fun r2 σ1 => ?_)
  refine rp_lp (q := 491) rfl rfl rfl ?_
  refine rp_lp (q := 492) rfl rfl rfl ?_
  refine rp_lp (q := 493) rfl rfl rfl ?_
  refine rp_lp (q := 494) rfl rfl rfl ?_
  refine rp_lp (q := 495) rfl rfl rfl ?_
  refine rp_lsc rfl ?_
  refine rp_lci (uc' := 67) (us' := 13472) rfl (rp_rcv rfl) rfl rfl rfl rfl rfl rfl (fun r4 σ3 => ?_)
  refine rp_lbr (a := 1318) (b := 502) rfl rfl rfl ?_ ?_
  ·
    exact rp_Le_rfl
  ·
    refine rp_lp (q := 503) rfl rfl rfl ?_
    exact rp_lrz rfl rfl (by decide)
set_option maxRecDepth 20000 in
theorem D_Law_law_504 {q : Nat} {xs : Nat → Int32} (x3 : Int32) (σ : rp_Mm) : rp_Le (bif rp_ix (x3 + (1 : Int32)) q then bif rp_ix (x3 + (2 : Int32)) q then thI (CL (some (q, xs)) 57 [.ref 1, .int (xs (x3 + (1 : Int32)).toNatClampNeg), .int (xs (x3 + (2 : Int32)).toNatClampNeg)] σ) fun r2 σ1 => bif rp_ix (x3 + (1 : Int32)) q then bif rp_ix (x3 + (2 : Int32)) q then thI (CL (some (q, xs)) 170 [.ref 48, .int (xs (x3 + (1 : Int32)).toNatClampNeg), .int (xs (x3 + (2 : Int32)).toNatClampNeg)] σ1) fun r4 σ3 => if (r2 = r4 : Prop) then EV (some (q, xs)) (230, 67, 13472, 1318, [.ref 0, .ref 1, .ref 48, .int x3], [], (rp_L0, σ3)) else RI 0 σ3 else none else none else none else none) (EV (some (q, xs)) (230, 67, 13472, 504, [.ref 0, .ref 1, .ref 48, .int x3], [], (rp_L0, σ))) := by
  refine rp_lp (q := 505) rfl rfl rfl ?_
  refine rp_lp (q := 506) rfl rfl rfl ?_
  refine rp_lp (q := 507) rfl rfl rfl ?_
  refine rp_lp (q := 508) rfl rfl rfl ?_
  refine rp_lp (q := 509) rfl rfl rfl ?_
  refine rp_lsc rfl ?_
  refine rp_lp (q := 511) rfl rfl rfl ?_
  refine rp_lp (q := 512) rfl rfl rfl ?_
  refine rp_lp (q := 513) rfl rfl rfl ?_
  refine rp_lp (q := 514) rfl rfl rfl ?_
  refine rp_lsc rfl ?_
  refine rp_lci (uc' := 67) (us' := 13472) rfl (rp_rcv rfl) rfl rfl rfl rfl rfl rfl (fun r2 σ1 => ?_)
  refine rp_lp (q := 519) rfl rfl rfl ?_
  refine rp_lp (q := 520) rfl rfl rfl ?_
  refine rp_lp (q := 521) rfl rfl rfl ?_
  refine rp_lp (q := 522) rfl rfl rfl ?_
  refine rp_lp (q := 523) rfl rfl rfl ?_
  refine rp_lsc rfl ?_
  refine rp_lp (q := 525) rfl rfl rfl ?_
  refine rp_lp (q := 526) rfl rfl rfl ?_
  refine rp_lp (q := 527) rfl rfl rfl ?_
  refine rp_lp (q := 528) rfl rfl rfl ?_
  refine rp_lsc rfl ?_
  refine rp_lci (uc' := 67) (us' := 13472) rfl (rp_rcv rfl) rfl rfl rfl rfl rfl rfl (fun r4 σ3 => ?_)
  refine rp_lbr (a := 1318) (b := 535) rfl rfl rfl ?_ ?_
  ·
    exact rp_Le_rfl
  ·
    refine rp_lp (q := 536) rfl rfl rfl ?_
    exact rp_lrz rfl rfl (by decide)
set_option maxRecDepth 20000 in
theorem D_Law_law_537 {q : Nat} {xs : Nat → Int32} (x3 : Int32) (σ : rp_Mm) : rp_Le (bif rp_ix (x3 + (1 : Int32)) q then bif rp_ix (x3 + (2 : Int32)) q then bif rp_ix (x3 + (3 : Int32)) q then if ((xs (x3 + (3 : Int32)).toNatClampNeg) = 0 : Prop) then EV (some (q, xs)) (230, 67, 13472, 561, [.ref 0, .ref 1, .ref 48, .int x3], [.int 0, .int (xs (x3 + (2 : Int32)).toNatClampNeg), .int (xs (x3 + (1 : Int32)).toNatClampNeg), .ref 1], (rp_L0, σ)) else EV (some (q, xs)) (230, 67, 13472, 561, [.ref 0, .ref 1, .ref 48, .int x3], [.int 1, .int (xs (x3 + (2 : Int32)).toNatClampNeg), .int (xs (x3 + (1 : Int32)).toNatClampNeg), .ref 1], (rp_L0, σ)) else none else none else none) (EV (some (q, xs)) (230, 67, 13472, 537, [.ref 0, .ref 1, .ref 48, .int x3], [], (rp_L0, σ))) := by
  refine rp_lp (q := 538) rfl rfl rfl ?_
  refine rp_lp (q := 539) rfl rfl rfl ?_
  refine rp_lp (q := 540) rfl rfl rfl ?_
  refine rp_lp (q := 541) rfl rfl rfl ?_
  refine rp_lp (q := 542) rfl rfl rfl ?_
  refine rp_lsc rfl ?_
  refine rp_lp (q := 544) rfl rfl rfl ?_
  refine rp_lp (q := 545) rfl rfl rfl ?_
  refine rp_lp (q := 546) rfl rfl rfl ?_
  refine rp_lp (q := 547) rfl rfl rfl ?_
  refine rp_lsc rfl ?_
  refine rp_lp (q := 549) rfl rfl rfl ?_
  refine rp_lp (q := 550) rfl rfl rfl ?_
  refine rp_lp (q := 551) rfl rfl rfl ?_
  refine rp_lp (q := 552) rfl rfl rfl ?_
  refine rp_lsc rfl ?_
  refine rp_lbr (a := 560) (b := 556) rfl rfl rfl ?_ ?_
  ·
    refine rp_lp (q := 561) rfl rfl rfl ?_
    exact rp_Le_rfl
  ·
    refine rp_lp (q := 557) rfl rfl rfl ?_
    refine rp_lp (q := 561) rfl rfl rfl ?_
    exact rp_Le_rfl
set_option maxRecDepth 20000 in
theorem D_Law_law_596 {q : Nat} {xs : Nat → Int32} (x3 : Int32) (σ : rp_Mm) : rp_Le (bif rp_ix (x3 + (1 : Int32)) q then bif rp_ix (x3 + (2 : Int32)) q then thI (CL (some (q, xs)) 63 [.ref 1, .int (xs (x3 + (1 : Int32)).toNatClampNeg), .int (xs (x3 + (2 : Int32)).toNatClampNeg)] σ) fun r2 σ1 => bif rp_ix (x3 + (1 : Int32)) q then bif rp_ix (x3 + (2 : Int32)) q then thI (CL (some (q, xs)) 191 [.ref 48, .int (xs (x3 + (1 : Int32)).toNatClampNeg), .int (xs (x3 + (2 : Int32)).toNatClampNeg)] σ1) fun r4 σ3 => if (r2 = r4 : Prop) then EV (some (q, xs)) (230, 67, 13472, 1318, [.ref 0, .ref 1, .ref 48, .int x3], [], (rp_L0, σ3)) else RI 0 σ3 else none else none else none else none) (EV (some (q, xs)) (230, 67, 13472, 596, [.ref 0, .ref 1, .ref 48, .int x3], [], (rp_L0, σ))) := by
  refine rp_lp (q := 597) rfl rfl rfl ?_
  refine rp_lp (q := 598) rfl rfl rfl ?_
  refine rp_lp (q := 599) rfl rfl rfl ?_
  refine rp_lp (q := 600) rfl rfl rfl ?_
  refine rp_lp (q := 601) rfl rfl rfl ?_
  refine rp_lsc rfl ?_
  refine rp_lp (q := 603) rfl rfl rfl ?_
  refine rp_lp (q := 604) rfl rfl rfl ?_
  refine rp_lp (q := 605) rfl rfl rfl ?_
  refine rp_lp (q := 606) rfl rfl rfl ?_
  refine rp_lsc rfl ?_
  refine rp_lci (uc' := 67) (us' := 13472) rfl (rp_rcv rfl) rfl rfl rfl rfl rfl rfl (fun r2 σ1 => ?_)
  refine rp_lp (q := 611) rfl rfl rfl ?_
  refine rp_lp (q := 612) rfl rfl rfl ?_
  refine rp_lp (q := 613) rfl rfl rfl ?_
  refine rp_lp (q := 614) rfl rfl rfl ?_
  refine rp_lp (q := 615) rfl rfl rfl ?_
  refine rp_lsc rfl ?_
  refine rp_lp (q := 617) rfl rfl rfl ?_
  refine rp_lp (q := 618) rfl rfl rfl ?_
  refine rp_lp (q := 619) rfl rfl rfl ?_
  refine rp_lp (q := 620) rfl rfl rfl ?_
  refine rp_lsc rfl ?_
  refine rp_lci (uc' := 67) (us' := 13472) rfl (rp_rcv rfl) rfl rfl rfl rfl rfl rfl (fun r4 σ3 => ?_)
  refine rp_lbr (a := 1318) (b := 627) rfl rfl rfl ?_ ?_
  ·
    exact rp_Le_rfl
  ·
    refine rp_lp (q := 628) rfl rfl rfl ?_
    exact rp_lrz rfl rfl (by decide)
set_option maxRecDepth 20000 in
theorem D_Law_law_629 {q : Nat} {xs : Nat → Int32} (x3 : Int32) (σ : rp_Mm) : rp_Le (bif rp_ix (x3 + (1 : Int32)) q then bif rp_ix (x3 + (2 : Int32)) q then bif rp_ix (x3 + (3 : Int32)) q then thI (CL (some (q, xs)) 71 [.ref 1, .int (xs (x3 + (1 : Int32)).toNatClampNeg), .int (xs (x3 + (2 : Int32)).toNatClampNeg), .int (xs (x3 + (3 : Int32)).toNatClampNeg)] σ) fun r2 σ1 => bif rp_ix (x3 + (1 : Int32)) q then bif rp_ix (x3 + (2 : Int32)) q then bif rp_ix (x3 + (3 : Int32)) q then thI (CL (some (q, xs)) 174 [.ref 48, .int (xs (x3 + (1 : Int32)).toNatClampNeg), .int (xs (x3 + (2 : Int32)).toNatClampNeg), .int (xs (x3 + (3 : Int32)).toNatClampNeg)] σ1) fun r4 σ3 => if (r2 = r4 : Prop) then EV (some (q, xs)) (230, 67, 13472, 1318, [.ref 0, .ref 1, .ref 48, .int x3], [], (rp_L0, σ3)) else RI 0 σ3 else none else none else none else none else none else none) (EV (some (q, xs)) (230, 67, 13472, 629, [.ref 0, .ref 1, .ref 48, .int x3], [], (rp_L0, σ))) := by
  refine rp_lp (q := 630) rfl rfl rfl ?_
  refine rp_lp (q := 631) rfl rfl rfl ?_
  refine rp_lp (q := 632) rfl rfl rfl ?_
  refine rp_lp (q := 633) rfl rfl rfl ?_
  refine rp_lp (q := 634) rfl rfl rfl ?_
  refine rp_lsc rfl ?_
  refine rp_lp (q := 636) rfl rfl rfl ?_
  refine rp_lp (q := 637) rfl rfl rfl ?_
  refine rp_lp (q := 638) rfl rfl rfl ?_
  refine rp_lp (q := 639) rfl rfl rfl ?_
  refine rp_lsc rfl ?_
  refine rp_lp (q := 641) rfl rfl rfl ?_
  refine rp_lp (q := 642) rfl rfl rfl ?_
  refine rp_lp (q := 643) rfl rfl rfl ?_
  refine rp_lp (q := 644) rfl rfl rfl ?_
  refine rp_lsc rfl ?_
  refine rp_lci (uc' := 67) (us' := 13472) rfl (rp_rcv rfl) rfl rfl rfl rfl rfl rfl (fun r2 σ1 => ?_)
  refine rp_lp (q := 649) rfl rfl rfl ?_
  refine rp_lp (q := 650) rfl rfl rfl ?_
  refine rp_lp (q := 651) rfl rfl rfl ?_
  refine rp_lp (q := 652) rfl rfl rfl ?_
  refine rp_lp (q := 653) rfl rfl rfl ?_
  refine rp_lsc rfl ?_
  refine rp_lp (q := 655) rfl rfl rfl ?_
  refine rp_lp (q := 656) rfl rfl rfl ?_
  refine rp_lp (q := 657) rfl rfl rfl ?_
  refine rp_lp (q := 658) rfl rfl rfl ?_
  refine rp_lsc rfl ?_
  refine rp_lp (q := 660) rfl rfl rfl ?_
  refine rp_lp (q := 661) rfl rfl rfl ?_
  refine rp_lp (q := 662) rfl rfl rfl ?_
  refine rp_lp (q := 663) rfl rfl rfl ?_
  refine rp_lsc rfl ?_
  refine rp_lci (uc' := 67) (us' := 13472) rfl (rp_rcv rfl) rfl rfl rfl rfl rfl rfl (fun r4 σ3 => ?_)
  refine rp_lbr (a := 1318) (b := 670) rfl rfl rfl ?_ ?_
  ·
    exact rp_Le_rfl
  ·
    refine rp_lp (q := 671) rfl rfl rfl ?_
    exact rp_lrz rfl rfl (by decide)
set_option maxRecDepth 20000 in
theorem D_Law_law_672 {q : Nat} {xs : Nat → Int32} (x3 : Int32) (σ : rp_Mm) : rp_Le (bif rp_ix (x3 + (1 : Int32)) q then bif rp_ix (x3 + (2 : Int32)) q then bif rp_ix (x3 + (3 : Int32)) q then thI (CL (some (q, xs)) 76 [.ref 1, .int (xs (x3 + (1 : Int32)).toNatClampNeg), .int (xs (x3 + (2 : Int32)).toNatClampNeg), .int (xs (x3 + (3 : Int32)).toNatClampNeg)] σ) fun r2 σ1 => bif rp_ix (x3 + (1 : Int32)) q then bif rp_ix (x3 + (2 : Int32)) q then bif rp_ix (x3 + (3 : Int32)) q then thI (CL (some (q, xs)) 185 [.ref 48, .int (xs (x3 + (1 : Int32)).toNatClampNeg), .int (xs (x3 + (2 : Int32)).toNatClampNeg), .int (xs (x3 + (3 : Int32)).toNatClampNeg)] σ1) fun r4 σ3 => if (r2 = r4 : Prop) then EV (some (q, xs)) (230, 67, 13472, 1318, [.ref 0, .ref 1, .ref 48, .int x3], [], (rp_L0, σ3)) else RI 0 σ3 else none else none else none else none else none else none) (EV (some (q, xs)) (230, 67, 13472, 672, [.ref 0, .ref 1, .ref 48, .int x3], [], (rp_L0, σ))) := by
  refine rp_lp (q := 673) rfl rfl rfl ?_
  refine rp_lp (q := 674) rfl rfl rfl ?_
  refine rp_lp (q := 675) rfl rfl rfl ?_
  refine rp_lp (q := 676) rfl rfl rfl ?_
  refine rp_lp (q := 677) rfl rfl rfl ?_
  refine rp_lsc rfl ?_
  refine rp_lp (q := 679) rfl rfl rfl ?_
  refine rp_lp (q := 680) rfl rfl rfl ?_
  refine rp_lp (q := 681) rfl rfl rfl ?_
  refine rp_lp (q := 682) rfl rfl rfl ?_
  refine rp_lsc rfl ?_
  refine rp_lp (q := 684) rfl rfl rfl ?_
  refine rp_lp (q := 685) rfl rfl rfl ?_
  refine rp_lp (q := 686) rfl rfl rfl ?_
  refine rp_lp (q := 687) rfl rfl rfl ?_
  refine rp_lsc rfl ?_
  refine rp_lci (uc' := 67) (us' := 13472) rfl (rp_rcv rfl) rfl rfl rfl rfl rfl rfl (fun r2 σ1 => ?_)
  refine rp_lp (q := 692) rfl rfl rfl ?_
  refine rp_lp (q := 693) rfl rfl rfl ?_
  refine rp_lp (q := 694) rfl rfl rfl ?_
  refine rp_lp (q := 695) rfl rfl rfl ?_
  refine rp_lp (q := 696) rfl rfl rfl ?_
  refine rp_lsc rfl ?_
  refine rp_lp (q := 698) rfl rfl rfl ?_
  refine rp_lp (q := 699) rfl rfl rfl ?_
  refine rp_lp (q := 700) rfl rfl rfl ?_
  refine rp_lp (q := 701) rfl rfl rfl ?_
  refine rp_lsc rfl ?_
  refine rp_lp (q := 703) rfl rfl rfl ?_
  refine rp_lp (q := 704) rfl rfl rfl ?_
  refine rp_lp (q := 705) rfl rfl rfl ?_
  refine rp_lp (q := 706) rfl rfl rfl ?_
  refine rp_lsc rfl ?_
  refine rp_lci (uc' := 67) (us' := 13472) rfl (rp_rcv rfl) rfl rfl rfl rfl rfl rfl (fun r4 σ3 => ?_)
  refine rp_lbr (a := 1318) (b := 713) rfl rfl rfl ?_ ?_
  ·
    exact rp_Le_rfl
  ·
    refine rp_lp (q := 714) rfl rfl rfl ?_
    exact rp_lrz rfl rfl (by decide)
set_option maxRecDepth 20000 in
theorem D_Law_law_715 {q : Nat} {xs : Nat → Int32} (x3 : Int32) (σ : rp_Mm) : rp_Le (bif rp_ix (x3 + (1 : Int32)) q then bif rp_ix (x3 + (2 : Int32)) q then thI (CL (some (q, xs)) 79 [.ref 1, .int (xs (x3 + (1 : Int32)).toNatClampNeg), .int (xs (x3 + (2 : Int32)).toNatClampNeg)] σ) fun r2 σ1 => bif rp_ix (x3 + (1 : Int32)) q then bif rp_ix (x3 + (2 : Int32)) q then thI (CL (some (q, xs)) 187 [.ref 48, .int (xs (x3 + (1 : Int32)).toNatClampNeg), .int (xs (x3 + (2 : Int32)).toNatClampNeg)] σ1) fun r4 σ3 => if (r2 = r4 : Prop) then EV (some (q, xs)) (230, 67, 13472, 1318, [.ref 0, .ref 1, .ref 48, .int x3], [], (rp_L0, σ3)) else RI 0 σ3 else none else none else none else none) (EV (some (q, xs)) (230, 67, 13472, 715, [.ref 0, .ref 1, .ref 48, .int x3], [], (rp_L0, σ))) := by
  refine rp_lp (q := 716) rfl rfl rfl ?_
  refine rp_lp (q := 717) rfl rfl rfl ?_
  refine rp_lp (q := 718) rfl rfl rfl ?_
  refine rp_lp (q := 719) rfl rfl rfl ?_
  refine rp_lp (q := 720) rfl rfl rfl ?_
  refine rp_lsc rfl ?_
  refine rp_lp (q := 722) rfl rfl rfl ?_
  refine rp_lp (q := 723) rfl rfl rfl ?_
  refine rp_lp (q := 724) rfl rfl rfl ?_
  refine rp_lp (q := 725) rfl rfl rfl ?_
  refine rp_lsc rfl ?_
  refine rp_lci (uc' := 67) (us' := 13472) rfl (rp_rcv rfl) rfl rfl rfl rfl rfl rfl (fun r2 σ1 => ?_)
  refine rp_lp (q := 730) rfl rfl rfl ?_
  refine rp_lp (q := 731) rfl rfl rfl ?_
  refine rp_lp (q := 732) rfl rfl rfl ?_
  refine rp_lp (q := 733) rfl rfl rfl ?_
  refine rp_lp (q := 734) rfl rfl rfl ?_
  refine rp_lsc rfl ?_
  refine rp_lp (q := 736) rfl rfl rfl ?_
  refine rp_lp (q := 737) rfl rfl rfl ?_
  refine rp_lp (q := 738) rfl rfl rfl ?_
  refine rp_lp (q := 739) rfl rfl rfl ?_
  refine rp_lsc rfl ?_
  refine rp_lci (uc' := 67) (us' := 13472) rfl (rp_rcv rfl) rfl rfl rfl rfl rfl rfl (fun r4 σ3 => ?_)
  refine rp_lbr (a := 1318) (b := 746) rfl rfl rfl ?_ ?_
  ·
    exact rp_Le_rfl
  ·
    refine rp_lp (q := 747) rfl rfl rfl ?_
    exact rp_lrz rfl rfl (by decide)
set_option maxRecDepth 20000 in
theorem D_Law_law_748 {q : Nat} {xs : Nat → Int32} (x3 : Int32) (σ : rp_Mm) : rp_Le (bif rp_ix (x3 + (1 : Int32)) q then thI (CL (some (q, xs)) 80 [.ref 1, .int (xs (x3 + (1 : Int32)).toNatClampNeg)] σ) fun r2 σ1 => bif rp_ix (x3 + (1 : Int32)) q then thI (CL (some (q, xs)) 189 [.ref 48, .int (xs (x3 + (1 : Int32)).toNatClampNeg)] σ1) fun r4 σ3 => if (r2 = r4 : Prop) then EV (some (q, xs)) (230, 67, 13472, 1318, [.ref 0, .ref 1, .ref 48, .int x3], [], (rp_L0, σ3)) else RI 0 σ3 else none else none) (EV (some (q, xs)) (230, 67, 13472, 748, [.ref 0, .ref 1, .ref 48, .int x3], [], (rp_L0, σ))) := by
  refine rp_lp (q := 749) rfl rfl rfl ?_
  refine rp_lp (q := 750) rfl rfl rfl ?_
  refine rp_lp (q := 751) rfl rfl rfl ?_
  refine rp_lp (q := 752) rfl rfl rfl ?_
  refine rp_lp (q := 753) rfl rfl rfl ?_
  refine rp_lsc rfl ?_
  refine rp_lci (uc' := 67) (us' := 13472) rfl (rp_rcv rfl) rfl rfl rfl rfl rfl rfl (fun r2 σ1 => ?_)
  refine rp_lp (q := 758) rfl rfl rfl ?_
  refine rp_lp (q := 759) rfl rfl rfl ?_
  refine rp_lp (q := 760) rfl rfl rfl ?_
  refine rp_lp (q := 761) rfl rfl rfl ?_
  refine rp_lp (q := 762) rfl rfl rfl ?_
  refine rp_lsc rfl ?_
  refine rp_lci (uc' := 67) (us' := 13472) rfl (rp_rcv rfl) rfl rfl rfl rfl rfl rfl (fun r4 σ3 => ?_)
  refine rp_lbr (a := 1318) (b := 769) rfl rfl rfl ?_ ?_
  ·
    exact rp_Le_rfl
  ·
    refine rp_lp (q := 770) rfl rfl rfl ?_
    exact rp_lrz rfl rfl (by decide)
set_option maxRecDepth 20000 in
theorem D_Law_law_771 {q : Nat} {xs : Nat → Int32} (x3 : Int32) (σ : rp_Mm) : rp_Le (bif rp_ix (x3 + (1 : Int32)) q then bif rp_ix (x3 + (2 : Int32)) q then thI (CL (some (q, xs)) 82 [.ref 1, .int (xs (x3 + (1 : Int32)).toNatClampNeg), .int (xs (x3 + (2 : Int32)).toNatClampNeg)] σ) fun r2 σ1 => bif rp_ix (x3 + (1 : Int32)) q then bif rp_ix (x3 + (2 : Int32)) q then thI (CL (some (q, xs)) 190 [.ref 48, .int (xs (x3 + (1 : Int32)).toNatClampNeg), .int (xs (x3 + (2 : Int32)).toNatClampNeg)] σ1) fun r4 σ3 => if (r2 = r4 : Prop) then EV (some (q, xs)) (230, 67, 13472, 1318, [.ref 0, .ref 1, .ref 48, .int x3], [], (rp_L0, σ3)) else RI 0 σ3 else none else none else none else none) (EV (some (q, xs)) (230, 67, 13472, 771, [.ref 0, .ref 1, .ref 48, .int x3], [], (rp_L0, σ))) := by
  refine rp_lp (q := 772) rfl rfl rfl ?_
  refine rp_lp (q := 773) rfl rfl rfl ?_
  refine rp_lp (q := 774) rfl rfl rfl ?_
  refine rp_lp (q := 775) rfl rfl rfl ?_
  refine rp_lp (q := 776) rfl rfl rfl ?_
  refine rp_lsc rfl ?_
  refine rp_lp (q := 778) rfl rfl rfl ?_
  refine rp_lp (q := 779) rfl rfl rfl ?_
  refine rp_lp (q := 780) rfl rfl rfl ?_
  refine rp_lp (q := 781) rfl rfl rfl ?_
  refine rp_lsc rfl ?_
  refine rp_lci (uc' := 67) (us' := 13472) rfl (rp_rcv rfl) rfl rfl rfl rfl rfl rfl (fun r2 σ1 => ?_)
  refine rp_lp (q := 786) rfl rfl rfl ?_
  refine rp_lp (q := 787) rfl rfl rfl ?_
  refine rp_lp (q := 788) rfl rfl rfl ?_
  refine rp_lp (q := 789) rfl rfl rfl ?_
  refine rp_lp (q := 790) rfl rfl rfl ?_
  refine rp_lsc rfl ?_
  refine rp_lp (q := 792) rfl rfl rfl ?_
  refine rp_lp (q := 793) rfl rfl rfl ?_
  refine rp_lp (q := 794) rfl rfl rfl ?_
  refine rp_lp (q := 795) rfl rfl rfl ?_
  refine rp_lsc rfl ?_
  refine rp_lci (uc' := 67) (us' := 13472) rfl (rp_rcv rfl) rfl rfl rfl rfl rfl rfl (fun r4 σ3 => ?_)
  refine rp_lbr (a := 1318) (b := 802) rfl rfl rfl ?_ ?_
  ·
    exact rp_Le_rfl
  ·
    refine rp_lp (q := 803) rfl rfl rfl ?_
    exact rp_lrz rfl rfl (by decide)
set_option maxRecDepth 20000 in
theorem D_Law_law_804 {q : Nat} {xs : Nat → Int32} (x3 : Int32) (σ : rp_Mm) : rp_Le (bif rp_ix (x3 + (1 : Int32)) q then thI (CL (some (q, xs)) 83 [.ref 1, .int (xs (x3 + (1 : Int32)).toNatClampNeg)] σ) fun r2 σ1 => bif rp_ix (x3 + (1 : Int32)) q then thI (CL (some (q, xs)) 193 [.ref 48, .int (xs (x3 + (1 : Int32)).toNatClampNeg)] σ1) fun r4 σ3 => if (r2 = r4 : Prop) then EV (some (q, xs)) (230, 67, 13472, 1318, [.ref 0, .ref 1, .ref 48, .int x3], [], (rp_L0, σ3)) else RI 0 σ3 else none else none) (EV (some (q, xs)) (230, 67, 13472, 804, [.ref 0, .ref 1, .ref 48, .int x3], [], (rp_L0, σ))) := by
  refine rp_lp (q := 805) rfl rfl rfl ?_
  refine rp_lp (q := 806) rfl rfl rfl ?_
  refine rp_lp (q := 807) rfl rfl rfl ?_
  refine rp_lp (q := 808) rfl rfl rfl ?_
  refine rp_lp (q := 809) rfl rfl rfl ?_
  refine rp_lsc rfl ?_
  refine rp_lci (uc' := 67) (us' := 13472) rfl (rp_rcv rfl) rfl rfl rfl rfl rfl rfl (fun r2 σ1 => ?_)
  refine rp_lp (q := 814) rfl rfl rfl ?_
  refine rp_lp (q := 815) rfl rfl rfl ?_
  refine rp_lp (q := 816) rfl rfl rfl ?_
  refine rp_lp (q := 817) rfl rfl rfl ?_
  refine rp_lp (q := 818) rfl rfl rfl ?_
  refine rp_lsc rfl ?_
  refine rp_lci (uc' := 67) (us' := 13472) rfl (rp_rcv rfl) rfl rfl rfl rfl rfl rfl (fun r4 σ3 => ?_)
  refine rp_lbr (a := 1318) (b := 825) rfl rfl rfl ?_ ?_
  ·
    exact rp_Le_rfl
  ·
    refine rp_lp (q := 826) rfl rfl rfl ?_
    exact rp_lrz rfl rfl (by decide)
set_option maxRecDepth 20000 in
theorem D_Law_law_827 {q : Nat} {xs : Nat → Int32} (x3 : Int32) (σ : rp_Mm) : rp_Le (bif rp_ix (x3 + (1 : Int32)) q then bif rp_ix (x3 + (2 : Int32)) q then thI (CL (some (q, xs)) 84 [.ref 1, .int (xs (x3 + (1 : Int32)).toNatClampNeg), .int (xs (x3 + (2 : Int32)).toNatClampNeg)] σ) fun r2 σ1 => bif rp_ix (x3 + (1 : Int32)) q then bif rp_ix (x3 + (2 : Int32)) q then thI (CL (some (q, xs)) 194 [.ref 48, .int (xs (x3 + (1 : Int32)).toNatClampNeg), .int (xs (x3 + (2 : Int32)).toNatClampNeg)] σ1) fun r4 σ3 => if (r2 = r4 : Prop) then EV (some (q, xs)) (230, 67, 13472, 1318, [.ref 0, .ref 1, .ref 48, .int x3], [], (rp_L0, σ3)) else RI 0 σ3 else none else none else none else none) (EV (some (q, xs)) (230, 67, 13472, 827, [.ref 0, .ref 1, .ref 48, .int x3], [], (rp_L0, σ))) := by
  refine rp_lp (q := 828) rfl rfl rfl ?_
  refine rp_lp (q := 829) rfl rfl rfl ?_
  refine rp_lp (q := 830) rfl rfl rfl ?_
  refine rp_lp (q := 831) rfl rfl rfl ?_
  refine rp_lp (q := 832) rfl rfl rfl ?_
  refine rp_lsc rfl ?_
  refine rp_lp (q := 834) rfl rfl rfl ?_
  refine rp_lp (q := 835) rfl rfl rfl ?_
  refine rp_lp (q := 836) rfl rfl rfl ?_
  refine rp_lp (q := 837) rfl rfl rfl ?_
  refine rp_lsc rfl ?_
  refine rp_lci (uc' := 67) (us' := 13472) rfl (rp_rcv rfl) rfl rfl rfl rfl rfl rfl (fun r2 σ1 => ?_)
  refine rp_lp (q := 842) rfl rfl rfl ?_
  refine rp_lp (q := 843) rfl rfl rfl ?_
  refine rp_lp (q := 844) rfl rfl rfl ?_
  refine rp_lp (q := 845) rfl rfl rfl ?_
  refine rp_lp (q := 846) rfl rfl rfl ?_
  refine rp_lsc rfl ?_
  refine rp_lp (q := 848) rfl rfl rfl ?_
  refine rp_lp (q := 849) rfl rfl rfl ?_
  refine rp_lp (q := 850) rfl rfl rfl ?_
  refine rp_lp (q := 851) rfl rfl rfl ?_
  refine rp_lsc rfl ?_
  refine rp_lci (uc' := 67) (us' := 13472) rfl (rp_rcv rfl) rfl rfl rfl rfl rfl rfl (fun r4 σ3 => ?_)
  refine rp_lbr (a := 1318) (b := 858) rfl rfl rfl ?_ ?_
  ·
    exact rp_Le_rfl
  ·
    refine rp_lp (q := 859) rfl rfl rfl ?_
    exact rp_lrz rfl rfl (by decide)
set_option maxRecDepth 20000 in
theorem D_Law_law_860 {q : Nat} {xs : Nat → Int32} (x3 : Int32) (σ : rp_Mm) : rp_Le (thI (CL (some (q, xs)) 85 [.ref 1] σ) fun r2 σ1 => thI (CL (some (q, xs)) 195 [.ref 48] σ1) fun r4 σ3 => if (r2 = r4 : Prop) then EV (some (q, xs)) (230, 67, 13472, 1318, [.ref 0, .ref 1, .ref 48, .int x3], [], (rp_L0, σ3)) else RI 0 σ3) (EV (some (q, xs)) (230, 67, 13472, 860, [.ref 0, .ref 1, .ref 48, .int x3], [], (rp_L0, σ))) := by
  refine rp_lp (q := 861) rfl rfl rfl ?_
  refine rp_lci (uc' := 67) (us' := 13472) rfl (rp_rcv rfl) rfl rfl rfl rfl rfl rfl (fun r2 σ1 => ?_)
  refine rp_lp (q := 865) rfl rfl rfl ?_
  refine rp_lci (uc' := 67) (us' := 13472) rfl (rp_rcv rfl) rfl rfl rfl rfl rfl rfl (fun r4 σ3 => ?_)
  refine rp_lbr (a := 1318) (b := 871) rfl rfl rfl ?_ ?_
  ·
    exact rp_Le_rfl
  ·
    refine rp_lp (q := 872) rfl rfl rfl ?_
    exact rp_lrz rfl rfl (by decide)
set_option maxRecDepth 20000 in
theorem D_Law_law_873 {q : Nat} {xs : Nat → Int32} (x3 : Int32) (σ : rp_Mm) : rp_Le (bif rp_ix (x3 + (1 : Int32)) q then thI (CL (some (q, xs)) 86 [.ref 1, .int (xs (x3 + (1 : Int32)).toNatClampNeg)] σ) fun r2 σ1 => bif rp_ix (x3 + (1 : Int32)) q then thI (CL (some (q, xs)) 202 [.ref 48, .int (xs (x3 + (1 : Int32)).toNatClampNeg)] σ1) fun r4 σ3 => if (r2 = r4 : Prop) then EV (some (q, xs)) (230, 67, 13472, 1318, [.ref 0, .ref 1, .ref 48, .int x3], [], (rp_L0, σ3)) else RI 0 σ3 else none else none) (EV (some (q, xs)) (230, 67, 13472, 873, [.ref 0, .ref 1, .ref 48, .int x3], [], (rp_L0, σ))) := by
  refine rp_lp (q := 874) rfl rfl rfl ?_
  refine rp_lp (q := 875) rfl rfl rfl ?_
  refine rp_lp (q := 876) rfl rfl rfl ?_
  refine rp_lp (q := 877) rfl rfl rfl ?_
  refine rp_lp (q := 878) rfl rfl rfl ?_
  refine rp_lsc rfl ?_
  refine rp_lci (uc' := 67) (us' := 13472) rfl (rp_rcv rfl) rfl rfl rfl rfl rfl rfl (fun r2 σ1 => ?_)
  refine rp_lp (q := 883) rfl rfl rfl ?_
  refine rp_lp (q := 884) rfl rfl rfl ?_
  refine rp_lp (q := 885) rfl rfl rfl ?_
  refine rp_lp (q := 886) rfl rfl rfl ?_
  refine rp_lp (q := 887) rfl rfl rfl ?_
  refine rp_lsc rfl ?_
  refine rp_lci (uc' := 67) (us' := 13472) rfl (rp_rcv rfl) rfl rfl rfl rfl rfl rfl (fun r4 σ3 => ?_)
  refine rp_lbr (a := 1318) (b := 894) rfl rfl rfl ?_ ?_
  ·
    exact rp_Le_rfl
  ·
    refine rp_lp (q := 895) rfl rfl rfl ?_
    exact rp_lrz rfl rfl (by decide)
set_option maxRecDepth 20000 in
theorem D_Law_law_896 {q : Nat} {xs : Nat → Int32} (x3 : Int32) (σ : rp_Mm) : rp_Le (bif rp_ix (x3 + (1 : Int32)) q then bif rp_ix (x3 + (2 : Int32)) q then thI (CL (some (q, xs)) 108 [.ref 1, .int (xs (x3 + (1 : Int32)).toNatClampNeg), .int (xs (x3 + (2 : Int32)).toNatClampNeg)] σ) fun r2 σ1 => bif rp_ix (x3 + (1 : Int32)) q then bif rp_ix (x3 + (2 : Int32)) q then thI (CL (some (q, xs)) 196 [.ref 48, .int (xs (x3 + (1 : Int32)).toNatClampNeg), .int (xs (x3 + (2 : Int32)).toNatClampNeg)] σ1) fun r4 σ3 => if (r2 = r4 : Prop) then EV (some (q, xs)) (230, 67, 13472, 1318, [.ref 0, .ref 1, .ref 48, .int x3], [], (rp_L0, σ3)) else RI 0 σ3 else none else none else none else none) (EV (some (q, xs)) (230, 67, 13472, 896, [.ref 0, .ref 1, .ref 48, .int x3], [], (rp_L0, σ))) := by
  refine rp_lp (q := 897) rfl rfl rfl ?_
  refine rp_lp (q := 898) rfl rfl rfl ?_
  refine rp_lp (q := 899) rfl rfl rfl ?_
  refine rp_lp (q := 900) rfl rfl rfl ?_
  refine rp_lp (q := 901) rfl rfl rfl ?_
  refine rp_lsc rfl ?_
  refine rp_lp (q := 903) rfl rfl rfl ?_
  refine rp_lp (q := 904) rfl rfl rfl ?_
  refine rp_lp (q := 905) rfl rfl rfl ?_
  refine rp_lp (q := 906) rfl rfl rfl ?_
  refine rp_lsc rfl ?_
  refine rp_lci (uc' := 67) (us' := 13472) rfl (rp_rcv rfl) rfl rfl rfl rfl rfl rfl (fun r2 σ1 => ?_)
  refine rp_lp (q := 911) rfl rfl rfl ?_
  refine rp_lp (q := 912) rfl rfl rfl ?_
  refine rp_lp (q := 913) rfl rfl rfl ?_
  refine rp_lp (q := 914) rfl rfl rfl ?_
  refine rp_lp (q := 915) rfl rfl rfl ?_
  refine rp_lsc rfl ?_
  refine rp_lp (q := 917) rfl rfl rfl ?_
  refine rp_lp (q := 918) rfl rfl rfl ?_
  refine rp_lp (q := 919) rfl rfl rfl ?_
  refine rp_lp (q := 920) rfl rfl rfl ?_
  refine rp_lsc rfl ?_
  refine rp_lci (uc' := 67) (us' := 13472) rfl (rp_rcv rfl) rfl rfl rfl rfl rfl rfl (fun r4 σ3 => ?_)
  refine rp_lbr (a := 1318) (b := 927) rfl rfl rfl ?_ ?_
  ·
    exact rp_Le_rfl
  ·
    refine rp_lp (q := 928) rfl rfl rfl ?_
    exact rp_lrz rfl rfl (by decide)
set_option maxRecDepth 20000 in
theorem D_Law_law_929 {q : Nat} {xs : Nat → Int32} (x3 : Int32) (σ : rp_Mm) : rp_Le (thI (CL (some (q, xs)) 109 [.ref 1] σ) fun r2 σ1 => thI (CL (some (q, xs)) 204 [.ref 48] σ1) fun r4 σ3 => if (r2 = r4 : Prop) then EV (some (q, xs)) (230, 67, 13472, 1318, [.ref 0, .ref 1, .ref 48, .int x3], [], (rp_L0, σ3)) else RI 0 σ3) (EV (some (q, xs)) (230, 67, 13472, 929, [.ref 0, .ref 1, .ref 48, .int x3], [], (rp_L0, σ))) := by
  refine rp_lp (q := 930) rfl rfl rfl ?_
  refine rp_lci (uc' := 67) (us' := 13472) rfl (rp_rcv rfl) rfl rfl rfl rfl rfl rfl (fun r2 σ1 => ?_)
  refine rp_lp (q := 934) rfl rfl rfl ?_
  refine rp_lci (uc' := 67) (us' := 13472) rfl (rp_rcv rfl) rfl rfl rfl rfl rfl rfl (fun r4 σ3 => ?_)
  refine rp_lbr (a := 1318) (b := 940) rfl rfl rfl ?_ ?_
  ·
    exact rp_Le_rfl
  ·
    refine rp_lp (q := 941) rfl rfl rfl ?_
    exact rp_lrz rfl rfl (by decide)
set_option maxRecDepth 20000 in
theorem D_Law_law_942 {q : Nat} {xs : Nat → Int32} (x3 : Int32) (σ : rp_Mm) : rp_Le (bif rp_ix (x3 + (1 : Int32)) q then bif rp_ix (x3 + (2 : Int32)) q then thI (CL (some (q, xs)) 114 [.ref 1, .int (xs (x3 + (1 : Int32)).toNatClampNeg), .int (xs (x3 + (2 : Int32)).toNatClampNeg)] σ) fun r2 σ1 => bif rp_ix (x3 + (1 : Int32)) q then bif rp_ix (x3 + (2 : Int32)) q then thI (CL (some (q, xs)) 207 [.ref 48, .int (xs (x3 + (1 : Int32)).toNatClampNeg), .int (xs (x3 + (2 : Int32)).toNatClampNeg)] σ1) fun r4 σ3 => if (r2 = r4 : Prop) then EV (some (q, xs)) (230, 67, 13472, 1318, [.ref 0, .ref 1, .ref 48, .int x3], [], (rp_L0, σ3)) else RI 0 σ3 else none else none else none else none) (EV (some (q, xs)) (230, 67, 13472, 942, [.ref 0, .ref 1, .ref 48, .int x3], [], (rp_L0, σ))) := by
  refine rp_lp (q := 943) rfl rfl rfl ?_
  refine rp_lp (q := 944) rfl rfl rfl ?_
  refine rp_lp (q := 945) rfl rfl rfl ?_
  refine rp_lp (q := 946) rfl rfl rfl ?_
  refine rp_lp (q := 947) rfl rfl rfl ?_
  refine rp_lsc rfl ?_
  refine rp_lp (q := 949) rfl rfl rfl ?_
  refine rp_lp (q := 950) rfl rfl rfl ?_
  refine rp_lp (q := 951) rfl rfl rfl ?_
  refine rp_lp (q := 952) rfl rfl rfl ?_
  refine rp_lsc rfl ?_
  refine rp_lci (uc' := 67) (us' := 13472) rfl (rp_rcv rfl) rfl rfl rfl rfl rfl rfl (fun r2 σ1 => ?_)
  refine rp_lp (q := 957) rfl rfl rfl ?_
  refine rp_lp (q := 958) rfl rfl rfl ?_
  refine rp_lp (q := 959) rfl rfl rfl ?_
  refine rp_lp (q := 960) rfl rfl rfl ?_
  refine rp_lp (q := 961) rfl rfl rfl ?_
  refine rp_lsc rfl ?_
  refine rp_lp (q := 963) rfl rfl rfl ?_
  refine rp_lp (q := 964) rfl rfl rfl ?_
  refine rp_lp (q := 965) rfl rfl rfl ?_
  refine rp_lp (q := 966) rfl rfl rfl ?_
  refine rp_lsc rfl ?_
  refine rp_lci (uc' := 67) (us' := 13472) rfl (rp_rcv rfl) rfl rfl rfl rfl rfl rfl (fun r4 σ3 => ?_)
  refine rp_lbr (a := 1318) (b := 973) rfl rfl rfl ?_ ?_
  ·
    exact rp_Le_rfl
  ·
    refine rp_lp (q := 974) rfl rfl rfl ?_
    exact rp_lrz rfl rfl (by decide)
set_option maxRecDepth 20000 in
theorem D_Law_law_975 {q : Nat} {xs : Nat → Int32} (x3 : Int32) (σ : rp_Mm) : rp_Le (bif rp_ix (x3 + (1 : Int32)) q then bif rp_ix (x3 + (2 : Int32)) q then bif rp_ix (x3 + (3 : Int32)) q then thI (CL (some (q, xs)) 115 [.ref 1, .int (xs (x3 + (1 : Int32)).toNatClampNeg), .int (xs (x3 + (2 : Int32)).toNatClampNeg), .int (xs (x3 + (3 : Int32)).toNatClampNeg)] σ) fun r2 σ1 => bif rp_ix (x3 + (1 : Int32)) q then bif rp_ix (x3 + (2 : Int32)) q then bif rp_ix (x3 + (3 : Int32)) q then thI (CL (some (q, xs)) 208 [.ref 48, .int (xs (x3 + (1 : Int32)).toNatClampNeg), .int (xs (x3 + (2 : Int32)).toNatClampNeg), .int (xs (x3 + (3 : Int32)).toNatClampNeg)] σ1) fun r4 σ3 => if (r2 = r4 : Prop) then EV (some (q, xs)) (230, 67, 13472, 1318, [.ref 0, .ref 1, .ref 48, .int x3], [], (rp_L0, σ3)) else RI 0 σ3 else none else none else none else none else none else none) (EV (some (q, xs)) (230, 67, 13472, 975, [.ref 0, .ref 1, .ref 48, .int x3], [], (rp_L0, σ))) := by
  refine rp_lp (q := 976) rfl rfl rfl ?_
  refine rp_lp (q := 977) rfl rfl rfl ?_
  refine rp_lp (q := 978) rfl rfl rfl ?_
  refine rp_lp (q := 979) rfl rfl rfl ?_
  refine rp_lp (q := 980) rfl rfl rfl ?_
  refine rp_lsc rfl ?_
  refine rp_lp (q := 982) rfl rfl rfl ?_
  refine rp_lp (q := 983) rfl rfl rfl ?_
  refine rp_lp (q := 984) rfl rfl rfl ?_
  refine rp_lp (q := 985) rfl rfl rfl ?_
  refine rp_lsc rfl ?_
  refine rp_lp (q := 987) rfl rfl rfl ?_
  refine rp_lp (q := 988) rfl rfl rfl ?_
  refine rp_lp (q := 989) rfl rfl rfl ?_
  refine rp_lp (q := 990) rfl rfl rfl ?_
  refine rp_lsc rfl ?_
  refine rp_lci (uc' := 67) (us' := 13472) rfl (rp_rcv rfl) rfl rfl rfl rfl rfl rfl (fun r2 σ1 => ?_)
  refine rp_lp (q := 995) rfl rfl rfl ?_
  refine rp_lp (q := 996) rfl rfl rfl ?_
  refine rp_lp (q := 997) rfl rfl rfl ?_
  refine rp_lp (q := 998) rfl rfl rfl ?_
  refine rp_lp (q := 999) rfl rfl rfl ?_
  refine rp_lsc rfl ?_
  refine rp_lp (q := 1001) rfl rfl rfl ?_
  refine rp_lp (q := 1002) rfl rfl rfl ?_
  refine rp_lp (q := 1003) rfl rfl rfl ?_
  refine rp_lp (q := 1004) rfl rfl rfl ?_
  refine rp_lsc rfl ?_
  refine rp_lp (q := 1006) rfl rfl rfl ?_
  refine rp_lp (q := 1007) rfl rfl rfl ?_
  refine rp_lp (q := 1008) rfl rfl rfl ?_
  refine rp_lp (q := 1009) rfl rfl rfl ?_
  refine rp_lsc rfl ?_
  refine rp_lci (uc' := 67) (us' := 13472) rfl (rp_rcv rfl) rfl rfl rfl rfl rfl rfl (fun r4 σ3 => ?_)
  refine rp_lbr (a := 1318) (b := 1016) rfl rfl rfl ?_ ?_
  ·
    exact rp_Le_rfl
  ·
    refine rp_lp (q := 1017) rfl rfl rfl ?_
    exact rp_lrz rfl rfl (by decide)
set_option maxRecDepth 20000 in
theorem D_Law_law_1018 {q : Nat} {xs : Nat → Int32} (x3 : Int32) (σ : rp_Mm) : rp_Le (thI (CL (some (q, xs)) 116 [.ref 1] σ) fun r2 σ1 => thI (CL (some (q, xs)) 209 [.ref 48] σ1) fun r4 σ3 => if (r2 = r4 : Prop) then EV (some (q, xs)) (230, 67, 13472, 1318, [.ref 0, .ref 1, .ref 48, .int x3], [], (rp_L0, σ3)) else RI 0 σ3) (EV (some (q, xs)) (230, 67, 13472, 1018, [.ref 0, .ref 1, .ref 48, .int x3], [], (rp_L0, σ))) := by
  refine rp_lp (q := 1019) rfl rfl rfl ?_
  refine rp_lci (uc' := 67) (us' := 13472) rfl (rp_rcv rfl) rfl rfl rfl rfl rfl rfl (fun r2 σ1 => ?_)
  refine rp_lp (q := 1023) rfl rfl rfl ?_
  refine rp_lci (uc' := 67) (us' := 13472) rfl (rp_rcv rfl) rfl rfl rfl rfl rfl rfl (fun r4 σ3 => ?_)
  refine rp_lbr (a := 1318) (b := 1029) rfl rfl rfl ?_ ?_
  ·
    exact rp_Le_rfl
  ·
    refine rp_lp (q := 1030) rfl rfl rfl ?_
    exact rp_lrz rfl rfl (by decide)
set_option maxRecDepth 20000 in
theorem D_Law_law_1031 {q : Nat} {xs : Nat → Int32} (x3 : Int32) (σ : rp_Mm) : rp_Le (bif rp_ix (x3 + (1 : Int32)) q then bif rp_ix (x3 + (2 : Int32)) q then bif rp_ix (x3 + (3 : Int32)) q then bif rp_ix (x3 + (4 : Int32)) q then thI (CL (some (q, xs)) 119 [.ref 1, .int (xs (x3 + (1 : Int32)).toNatClampNeg), .int (xs (x3 + (2 : Int32)).toNatClampNeg), .int (xs (x3 + (3 : Int32)).toNatClampNeg), .int (xs (x3 + (4 : Int32)).toNatClampNeg)] σ) fun r2 σ1 => bif rp_ix (x3 + (1 : Int32)) q then bif rp_ix (x3 + (2 : Int32)) q then bif rp_ix (x3 + (3 : Int32)) q then bif rp_ix (x3 + (4 : Int32)) q then thI (CL (some (q, xs)) 214 [.ref 48, .int (xs (x3 + (1 : Int32)).toNatClampNeg), .int (xs (x3 + (2 : Int32)).toNatClampNeg), .int (xs (x3 + (3 : Int32)).toNatClampNeg), .int (xs (x3 + (4 : Int32)).toNatClampNeg)] σ1) fun r4 σ3 => if (r2 = r4 : Prop) then EV (some (q, xs)) (230, 67, 13472, 1318, [.ref 0, .ref 1, .ref 48, .int x3], [], (rp_L0, σ3)) else RI 0 σ3 else none else none else none else none else none else none else none else none) (EV (some (q, xs)) (230, 67, 13472, 1031, [.ref 0, .ref 1, .ref 48, .int x3], [], (rp_L0, σ))) := by
  refine rp_lp (q := 1032) rfl rfl rfl ?_
  refine rp_lp (q := 1033) rfl rfl rfl ?_
  refine rp_lp (q := 1034) rfl rfl rfl ?_
  refine rp_lp (q := 1035) rfl rfl rfl ?_
  refine rp_lp (q := 1036) rfl rfl rfl ?_
  refine rp_lsc rfl ?_
  refine rp_lp (q := 1038) rfl rfl rfl ?_
  refine rp_lp (q := 1039) rfl rfl rfl ?_
  refine rp_lp (q := 1040) rfl rfl rfl ?_
  refine rp_lp (q := 1041) rfl rfl rfl ?_
  refine rp_lsc rfl ?_
  refine rp_lp (q := 1043) rfl rfl rfl ?_
  refine rp_lp (q := 1044) rfl rfl rfl ?_
  refine rp_lp (q := 1045) rfl rfl rfl ?_
  refine rp_lp (q := 1046) rfl rfl rfl ?_
  refine rp_lsc rfl ?_
  refine rp_lp (q := 1048) rfl rfl rfl ?_
  refine rp_lp (q := 1049) rfl rfl rfl ?_
  refine rp_lp (q := 1050) rfl rfl rfl ?_
  refine rp_lp (q := 1051) rfl rfl rfl ?_
  refine rp_lsc rfl ?_
  refine rp_lci (uc' := 67) (us' := 13472) rfl (rp_rcv rfl) rfl rfl rfl rfl rfl rfl (fun r2 σ1 => ?_)
  refine rp_lp (q := 1056) rfl rfl rfl ?_
  refine rp_lp (q := 1057) rfl rfl rfl ?_
  refine rp_lp (q := 1058) rfl rfl rfl ?_
  refine rp_lp (q := 1059) rfl rfl rfl ?_
  refine rp_lp (q := 1060) rfl rfl rfl ?_
  refine rp_lsc rfl ?_
  refine rp_lp (q := 1062) rfl rfl rfl ?_
  refine rp_lp (q := 1063) rfl rfl rfl ?_
  refine rp_lp (q := 1064) rfl rfl rfl ?_
  refine rp_lp (q := 1065) rfl rfl rfl ?_
  refine rp_lsc rfl ?_
  refine rp_lp (q := 1067) rfl rfl rfl ?_
  refine rp_lp (q := 1068) rfl rfl rfl ?_
  refine rp_lp (q := 1069) rfl rfl rfl ?_
  refine rp_lp (q := 1070) rfl rfl rfl ?_
  refine rp_lsc rfl ?_
  refine rp_lp (q := 1072) rfl rfl rfl ?_
  refine rp_lp (q := 1073) rfl rfl rfl ?_
  refine rp_lp (q := 1074) rfl rfl rfl ?_
  refine rp_lp (q := 1075) rfl rfl rfl ?_
  refine rp_lsc rfl ?_
  refine rp_lci (uc' := 67) (us' := 13472) rfl (rp_rcv rfl) rfl rfl rfl rfl rfl rfl (fun r4 σ3 => ?_)
  refine rp_lbr (a := 1318) (b := 1082) rfl rfl rfl ?_ ?_
  ·
    exact rp_Le_rfl
  ·
    refine rp_lp (q := 1083) rfl rfl rfl ?_
    exact rp_lrz rfl rfl (by decide)
set_option maxRecDepth 20000 in
theorem D_Law_law_1084 {q : Nat} {xs : Nat → Int32} (x3 : Int32) (σ : rp_Mm) : rp_Le (bif rp_ix (x3 + (1 : Int32)) q then bif rp_ix (x3 + (2 : Int32)) q then thI (CL (some (q, xs)) 121 [.ref 1, .int (xs (x3 + (1 : Int32)).toNatClampNeg), .int (xs (x3 + (2 : Int32)).toNatClampNeg)] σ) fun r2 σ1 => bif rp_ix (x3 + (1 : Int32)) q then bif rp_ix (x3 + (2 : Int32)) q then thI (CL (some (q, xs)) 210 [.ref 48, .int (xs (x3 + (1 : Int32)).toNatClampNeg), .int (xs (x3 + (2 : Int32)).toNatClampNeg)] σ1) fun r4 σ3 => if (r2 = r4 : Prop) then EV (some (q, xs)) (230, 67, 13472, 1318, [.ref 0, .ref 1, .ref 48, .int x3], [], (rp_L0, σ3)) else RI 0 σ3 else none else none else none else none) (EV (some (q, xs)) (230, 67, 13472, 1084, [.ref 0, .ref 1, .ref 48, .int x3], [], (rp_L0, σ))) := by
  refine rp_lp (q := 1085) rfl rfl rfl ?_
  refine rp_lp (q := 1086) rfl rfl rfl ?_
  refine rp_lp (q := 1087) rfl rfl rfl ?_
  refine rp_lp (q := 1088) rfl rfl rfl ?_
  refine rp_lp (q := 1089) rfl rfl rfl ?_
  refine rp_lsc rfl ?_
  refine rp_lp (q := 1091) rfl rfl rfl ?_
  refine rp_lp (q := 1092) rfl rfl rfl ?_
  refine rp_lp (q := 1093) rfl rfl rfl ?_
  refine rp_lp (q := 1094) rfl rfl rfl ?_
  refine rp_lsc rfl ?_
  refine rp_lci (uc' := 67) (us' := 13472) rfl (rp_rcv rfl) rfl rfl rfl rfl rfl rfl (fun r2 σ1 => ?_)
  refine rp_lp (q := 1099) rfl rfl rfl ?_
  refine rp_lp (q := 1100) rfl rfl rfl ?_
  refine rp_lp (q := 1101) rfl rfl rfl ?_
  refine rp_lp (q := 1102) rfl rfl rfl ?_
  refine rp_lp (q := 1103) rfl rfl rfl ?_
  refine rp_lsc rfl ?_
  refine rp_lp (q := 1105) rfl rfl rfl ?_
  refine rp_lp (q := 1106) rfl rfl rfl ?_
  refine rp_lp (q := 1107) rfl rfl rfl ?_
  refine rp_lp (q := 1108) rfl rfl rfl ?_
  refine rp_lsc rfl ?_
  refine rp_lci (uc' := 67) (us' := 13472) rfl (rp_rcv rfl) rfl rfl rfl rfl rfl rfl (fun r4 σ3 => ?_)
  refine rp_lbr (a := 1318) (b := 1115) rfl rfl rfl ?_ ?_
  ·
    exact rp_Le_rfl
  ·
    refine rp_lp (q := 1116) rfl rfl rfl ?_
    exact rp_lrz rfl rfl (by decide)
set_option maxRecDepth 20000 in
theorem D_Law_law_1117 {q : Nat} {xs : Nat → Int32} (x3 : Int32) (σ : rp_Mm) : rp_Le (bif rp_ix (x3 + (1 : Int32)) q then bif rp_ix (x3 + (2 : Int32)) q then thI (CL (some (q, xs)) 123 [.ref 1, .int (xs (x3 + (1 : Int32)).toNatClampNeg), .int (xs (x3 + (2 : Int32)).toNatClampNeg)] σ) fun r2 σ1 => bif rp_ix (x3 + (1 : Int32)) q then bif rp_ix (x3 + (2 : Int32)) q then thI (CL (some (q, xs)) 213 [.ref 48, .int (xs (x3 + (1 : Int32)).toNatClampNeg), .int (xs (x3 + (2 : Int32)).toNatClampNeg)] σ1) fun r4 σ3 => if (r2 = r4 : Prop) then EV (some (q, xs)) (230, 67, 13472, 1318, [.ref 0, .ref 1, .ref 48, .int x3], [], (rp_L0, σ3)) else RI 0 σ3 else none else none else none else none) (EV (some (q, xs)) (230, 67, 13472, 1117, [.ref 0, .ref 1, .ref 48, .int x3], [], (rp_L0, σ))) := by
  refine rp_lp (q := 1118) rfl rfl rfl ?_
  refine rp_lp (q := 1119) rfl rfl rfl ?_
  refine rp_lp (q := 1120) rfl rfl rfl ?_
  refine rp_lp (q := 1121) rfl rfl rfl ?_
  refine rp_lp (q := 1122) rfl rfl rfl ?_
  refine rp_lsc rfl ?_
  refine rp_lp (q := 1124) rfl rfl rfl ?_
  refine rp_lp (q := 1125) rfl rfl rfl ?_
  refine rp_lp (q := 1126) rfl rfl rfl ?_
  refine rp_lp (q := 1127) rfl rfl rfl ?_
  refine rp_lsc rfl ?_
  refine rp_lci (uc' := 67) (us' := 13472) rfl (rp_rcv rfl) rfl rfl rfl rfl rfl rfl (fun r2 σ1 => ?_)
  refine rp_lp (q := 1132) rfl rfl rfl ?_
  refine rp_lp (q := 1133) rfl rfl rfl ?_
  refine rp_lp (q := 1134) rfl rfl rfl ?_
  refine rp_lp (q := 1135) rfl rfl rfl ?_
  refine rp_lp (q := 1136) rfl rfl rfl ?_
  refine rp_lsc rfl ?_
  refine rp_lp (q := 1138) rfl rfl rfl ?_
  refine rp_lp (q := 1139) rfl rfl rfl ?_
  refine rp_lp (q := 1140) rfl rfl rfl ?_
  refine rp_lp (q := 1141) rfl rfl rfl ?_
  refine rp_lsc rfl ?_
  refine rp_lci (uc' := 67) (us' := 13472) rfl (rp_rcv rfl) rfl rfl rfl rfl rfl rfl (fun r4 σ3 => ?_)
  refine rp_lbr (a := 1318) (b := 1148) rfl rfl rfl ?_ ?_
  ·
    exact rp_Le_rfl
  ·
    refine rp_lp (q := 1149) rfl rfl rfl ?_
    exact rp_lrz rfl rfl (by decide)
set_option maxRecDepth 20000 in
theorem D_Law_law_1150 {q : Nat} {xs : Nat → Int32} (x3 : Int32) (σ : rp_Mm) : rp_Le (bif rp_ix (x3 + (1 : Int32)) q then bif rp_ix (x3 + (2 : Int32)) q then bif rp_ix (x3 + (3 : Int32)) q then thI (CL (some (q, xs)) 125 [.ref 1, .int (xs (x3 + (1 : Int32)).toNatClampNeg), .int (xs (x3 + (2 : Int32)).toNatClampNeg), .int (xs (x3 + (3 : Int32)).toNatClampNeg)] σ) fun r2 σ1 => bif rp_ix (x3 + (1 : Int32)) q then bif rp_ix (x3 + (2 : Int32)) q then bif rp_ix (x3 + (3 : Int32)) q then thI (CL (some (q, xs)) 215 [.ref 48, .int (xs (x3 + (1 : Int32)).toNatClampNeg), .int (xs (x3 + (2 : Int32)).toNatClampNeg), .int (xs (x3 + (3 : Int32)).toNatClampNeg)] σ1) fun r4 σ3 => if (r2 = r4 : Prop) then EV (some (q, xs)) (230, 67, 13472, 1318, [.ref 0, .ref 1, .ref 48, .int x3], [], (rp_L0, σ3)) else RI 0 σ3 else none else none else none else none else none else none) (EV (some (q, xs)) (230, 67, 13472, 1150, [.ref 0, .ref 1, .ref 48, .int x3], [], (rp_L0, σ))) := by
  refine rp_lp (q := 1151) rfl rfl rfl ?_
  refine rp_lp (q := 1152) rfl rfl rfl ?_
  refine rp_lp (q := 1153) rfl rfl rfl ?_
  refine rp_lp (q := 1154) rfl rfl rfl ?_
  refine rp_lp (q := 1155) rfl rfl rfl ?_
  refine rp_lsc rfl ?_
  refine rp_lp (q := 1157) rfl rfl rfl ?_
  refine rp_lp (q := 1158) rfl rfl rfl ?_
  refine rp_lp (q := 1159) rfl rfl rfl ?_
  refine rp_lp (q := 1160) rfl rfl rfl ?_
  refine rp_lsc rfl ?_
  refine rp_lp (q := 1162) rfl rfl rfl ?_
  refine rp_lp (q := 1163) rfl rfl rfl ?_
  refine rp_lp (q := 1164) rfl rfl rfl ?_
  refine rp_lp (q := 1165) rfl rfl rfl ?_
  refine rp_lsc rfl ?_
  refine rp_lci (uc' := 67) (us' := 13472) rfl (rp_rcv rfl) rfl rfl rfl rfl rfl rfl (fun r2 σ1 => ?_)
  refine rp_lp (q := 1170) rfl rfl rfl ?_
  refine rp_lp (q := 1171) rfl rfl rfl ?_
  refine rp_lp (q := 1172) rfl rfl rfl ?_
  refine rp_lp (q := 1173) rfl rfl rfl ?_
  refine rp_lp (q := 1174) rfl rfl rfl ?_
  refine rp_lsc rfl ?_
  refine rp_lp (q := 1176) rfl rfl rfl ?_
  refine rp_lp (q := 1177) rfl rfl rfl ?_
  refine rp_lp (q := 1178) rfl rfl rfl ?_
  refine rp_lp (q := 1179) rfl rfl rfl ?_
  refine rp_lsc rfl ?_
  refine rp_lp (q := 1181) rfl rfl rfl ?_
  refine rp_lp (q := 1182) rfl rfl rfl ?_
  refine rp_lp (q := 1183) rfl rfl rfl ?_
  refine rp_lp (q := 1184) rfl rfl rfl ?_
  refine rp_lsc rfl ?_
  refine rp_lci (uc' := 67) (us' := 13472) rfl (rp_rcv rfl) rfl rfl rfl rfl rfl rfl (fun r4 σ3 => ?_)
  refine rp_lbr (a := 1318) (b := 1191) rfl rfl rfl ?_ ?_
  ·
    exact rp_Le_rfl
  ·
    refine rp_lp (q := 1192) rfl rfl rfl ?_
    exact rp_lrz rfl rfl (by decide)
set_option maxRecDepth 20000 in
theorem D_Law_law_1193 {q : Nat} {xs : Nat → Int32} (x3 : Int32) (σ : rp_Mm) : rp_Le (bif rp_ix (x3 + (1 : Int32)) q then bif rp_ix (x3 + (2 : Int32)) q then bif rp_ix (x3 + (3 : Int32)) q then thI (CL (some (q, xs)) 139 [.ref 1, .int (xs (x3 + (1 : Int32)).toNatClampNeg), .int (xs (x3 + (2 : Int32)).toNatClampNeg), .int (xs (x3 + (3 : Int32)).toNatClampNeg)] σ) fun r2 σ1 => bif rp_ix (x3 + (1 : Int32)) q then bif rp_ix (x3 + (2 : Int32)) q then bif rp_ix (x3 + (3 : Int32)) q then thI (CL (some (q, xs)) 221 [.ref 48, .int (xs (x3 + (1 : Int32)).toNatClampNeg), .int (xs (x3 + (2 : Int32)).toNatClampNeg), .int (xs (x3 + (3 : Int32)).toNatClampNeg)] σ1) fun r4 σ3 => if (r2 = r4 : Prop) then EV (some (q, xs)) (230, 67, 13472, 1318, [.ref 0, .ref 1, .ref 48, .int x3], [], (rp_L0, σ3)) else RI 0 σ3 else none else none else none else none else none else none) (EV (some (q, xs)) (230, 67, 13472, 1193, [.ref 0, .ref 1, .ref 48, .int x3], [], (rp_L0, σ))) := by
  refine rp_lp (q := 1194) rfl rfl rfl ?_
  refine rp_lp (q := 1195) rfl rfl rfl ?_
  refine rp_lp (q := 1196) rfl rfl rfl ?_
  refine rp_lp (q := 1197) rfl rfl rfl ?_
  refine rp_lp (q := 1198) rfl rfl rfl ?_
  refine rp_lsc rfl ?_
  refine rp_lp (q := 1200) rfl rfl rfl ?_
  refine rp_lp (q := 1201) rfl rfl rfl ?_
  refine rp_lp (q := 1202) rfl rfl rfl ?_
  refine rp_lp (q := 1203) rfl rfl rfl ?_
  refine rp_lsc rfl ?_
  refine rp_lp (q := 1205) rfl rfl rfl ?_
  refine rp_lp (q := 1206) rfl rfl rfl ?_
  refine rp_lp (q := 1207) rfl rfl rfl ?_
  refine rp_lp (q := 1208) rfl rfl rfl ?_
  refine rp_lsc rfl ?_
  refine rp_lci (uc' := 67) (us' := 13472) rfl (rp_rcv rfl) rfl rfl rfl rfl rfl rfl (fun r2 σ1 => ?_)
  refine rp_lp (q := 1213) rfl rfl rfl ?_
  refine rp_lp (q := 1214) rfl rfl rfl ?_
  refine rp_lp (q := 1215) rfl rfl rfl ?_
  refine rp_lp (q := 1216) rfl rfl rfl ?_
  refine rp_lp (q := 1217) rfl rfl rfl ?_
  refine rp_lsc rfl ?_
  refine rp_lp (q := 1219) rfl rfl rfl ?_
  refine rp_lp (q := 1220) rfl rfl rfl ?_
  refine rp_lp (q := 1221) rfl rfl rfl ?_
  refine rp_lp (q := 1222) rfl rfl rfl ?_
  refine rp_lsc rfl ?_
  refine rp_lp (q := 1224) rfl rfl rfl ?_
  refine rp_lp (q := 1225) rfl rfl rfl ?_
  refine rp_lp (q := 1226) rfl rfl rfl ?_
  refine rp_lp (q := 1227) rfl rfl rfl ?_
  refine rp_lsc rfl ?_
  refine rp_lci (uc' := 67) (us' := 13472) rfl (rp_rcv rfl) rfl rfl rfl rfl rfl rfl (fun r4 σ3 => ?_)
  refine rp_lbr (a := 1318) (b := 1234) rfl rfl rfl ?_ ?_
  ·
    exact rp_Le_rfl
  ·
    refine rp_lp (q := 1235) rfl rfl rfl ?_
    exact rp_lrz rfl rfl (by decide)
set_option maxRecDepth 20000 in
theorem D_Law_law_1236 {q : Nat} {xs : Nat → Int32} (x3 : Int32) (σ : rp_Mm) : rp_Le (bif rp_ix (x3 + (1 : Int32)) q then bif rp_ix (x3 + (2 : Int32)) q then thI (CL (some (q, xs)) 141 [.ref 1, .int (xs (x3 + (1 : Int32)).toNatClampNeg), .int (xs (x3 + (2 : Int32)).toNatClampNeg)] σ) fun r2 σ1 => bif rp_ix (x3 + (1 : Int32)) q then bif rp_ix (x3 + (2 : Int32)) q then thI (CL (some (q, xs)) 224 [.ref 48, .int (xs (x3 + (1 : Int32)).toNatClampNeg), .int (xs (x3 + (2 : Int32)).toNatClampNeg)] σ1) fun r4 σ3 => if (r2 = r4 : Prop) then EV (some (q, xs)) (230, 67, 13472, 1318, [.ref 0, .ref 1, .ref 48, .int x3], [], (rp_L0, σ3)) else RI 0 σ3 else none else none else none else none) (EV (some (q, xs)) (230, 67, 13472, 1236, [.ref 0, .ref 1, .ref 48, .int x3], [], (rp_L0, σ))) := by
  refine rp_lp (q := 1237) rfl rfl rfl ?_
  refine rp_lp (q := 1238) rfl rfl rfl ?_
  refine rp_lp (q := 1239) rfl rfl rfl ?_
  refine rp_lp (q := 1240) rfl rfl rfl ?_
  refine rp_lp (q := 1241) rfl rfl rfl ?_
  refine rp_lsc rfl ?_
  refine rp_lp (q := 1243) rfl rfl rfl ?_
  refine rp_lp (q := 1244) rfl rfl rfl ?_
  refine rp_lp (q := 1245) rfl rfl rfl ?_
  refine rp_lp (q := 1246) rfl rfl rfl ?_
  refine rp_lsc rfl ?_
  refine rp_lci (uc' := 67) (us' := 13472) rfl (rp_rcv rfl) rfl rfl rfl rfl rfl rfl (fun r2 σ1 => ?_)
  refine rp_lp (q := 1251) rfl rfl rfl ?_
  refine rp_lp (q := 1252) rfl rfl rfl ?_
  refine rp_lp (q := 1253) rfl rfl rfl ?_
  refine rp_lp (q := 1254) rfl rfl rfl ?_
  refine rp_lp (q := 1255) rfl rfl rfl ?_
  refine rp_lsc rfl ?_
  refine rp_lp (q := 1257) rfl rfl rfl ?_
  refine rp_lp (q := 1258) rfl rfl rfl ?_
  refine rp_lp (q := 1259) rfl rfl rfl ?_
  refine rp_lp (q := 1260) rfl rfl rfl ?_
  refine rp_lsc rfl ?_
  refine rp_lci (uc' := 67) (us' := 13472) rfl (rp_rcv rfl) rfl rfl rfl rfl rfl rfl (fun r4 σ3 => ?_)
  refine rp_lbr (a := 1318) (b := 1267) rfl rfl rfl ?_ ?_
  ·
    exact rp_Le_rfl
  ·
    refine rp_lp (q := 1268) rfl rfl rfl ?_
    exact rp_lrz rfl rfl (by decide)
set_option maxRecDepth 20000 in
theorem D_Law_law_1269 {q : Nat} {xs : Nat → Int32} (x3 : Int32) (σ : rp_Mm) : rp_Le (bif rp_ix (x3 + (1 : Int32)) q then thI (CL (some (q, xs)) 142 [.ref 1, .int (xs (x3 + (1 : Int32)).toNatClampNeg)] σ) fun r2 σ1 => bif rp_ix (x3 + (1 : Int32)) q then thI (CL (some (q, xs)) 225 [.ref 48, .int (xs (x3 + (1 : Int32)).toNatClampNeg)] σ1) fun r4 σ3 => if (r2 = r4 : Prop) then EV (some (q, xs)) (230, 67, 13472, 1318, [.ref 0, .ref 1, .ref 48, .int x3], [], (rp_L0, σ3)) else RI 0 σ3 else none else none) (EV (some (q, xs)) (230, 67, 13472, 1269, [.ref 0, .ref 1, .ref 48, .int x3], [], (rp_L0, σ))) := by
  refine rp_lp (q := 1270) rfl rfl rfl ?_
  refine rp_lp (q := 1271) rfl rfl rfl ?_
  refine rp_lp (q := 1272) rfl rfl rfl ?_
  refine rp_lp (q := 1273) rfl rfl rfl ?_
  refine rp_lp (q := 1274) rfl rfl rfl ?_
  refine rp_lsc rfl ?_
  refine rp_lci (uc' := 67) (us' := 13472) rfl (rp_rcv rfl) rfl rfl rfl rfl rfl rfl (fun r2 σ1 => ?_)
  refine rp_lp (q := 1279) rfl rfl rfl ?_
  refine rp_lp (q := 1280) rfl rfl rfl ?_
  refine rp_lp (q := 1281) rfl rfl rfl ?_
  refine rp_lp (q := 1282) rfl rfl rfl ?_
  refine rp_lp (q := 1283) rfl rfl rfl ?_
  refine rp_lsc rfl ?_
  refine rp_lci (uc' := 67) (us' := 13472) rfl (rp_rcv rfl) rfl rfl rfl rfl rfl rfl (fun r4 σ3 => ?_)
  refine rp_lbr (a := 1318) (b := 1290) rfl rfl rfl ?_ ?_
  ·
    exact rp_Le_rfl
  ·
    refine rp_lp (q := 1291) rfl rfl rfl ?_
    exact rp_lrz rfl rfl (by decide)
set_option maxRecDepth 20000 in
theorem D_Law_law_1292 {q : Nat} {xs : Nat → Int32} (x3 : Int32) (σ : rp_Mm) : rp_Le (thI (CL (some (q, xs)) 144 [.ref 1] σ) fun r2 σ1 => thI (CL (some (q, xs)) 226 [.ref 48] σ1) fun r4 σ3 => if (r2 = r4 : Prop) then EV (some (q, xs)) (230, 67, 13472, 1318, [.ref 0, .ref 1, .ref 48, .int x3], [], (rp_L0, σ3)) else RI 0 σ3) (EV (some (q, xs)) (230, 67, 13472, 1292, [.ref 0, .ref 1, .ref 48, .int x3], [], (rp_L0, σ))) := by
  refine rp_lp (q := 1293) rfl rfl rfl ?_
  refine rp_lci (uc' := 67) (us' := 13472) rfl (rp_rcv rfl) rfl rfl rfl rfl rfl rfl (fun r2 σ1 => ?_)
  refine rp_lp (q := 1297) rfl rfl rfl ?_
  refine rp_lci (uc' := 67) (us' := 13472) rfl (rp_rcv rfl) rfl rfl rfl rfl rfl rfl (fun r4 σ3 => ?_)
  refine rp_lbr (a := 1318) (b := 1303) rfl rfl rfl ?_ ?_
  ·
    exact rp_Le_rfl
  ·
    refine rp_lp (q := 1304) rfl rfl rfl ?_
    exact rp_lrz rfl rfl (by decide)
set_option maxRecDepth 20000 in
theorem D_Law_law_1305 {q : Nat} {xs : Nat → Int32} (x3 : Int32) (σ : rp_Mm) : rp_Le (thI (CL (some (q, xs)) 147 [.ref 1] σ) fun r2 σ1 => thI (CL (some (q, xs)) 229 [.ref 48] σ1) fun r4 σ3 => if (r2 = r4 : Prop) then EV (some (q, xs)) (230, 67, 13472, 1318, [.ref 0, .ref 1, .ref 48, .int x3], [], (rp_L0, σ3)) else RI 0 σ3) (EV (some (q, xs)) (230, 67, 13472, 1305, [.ref 0, .ref 1, .ref 48, .int x3], [], (rp_L0, σ))) := by
  refine rp_lp (q := 1306) rfl rfl rfl ?_
  refine rp_lci (uc' := 67) (us' := 13472) rfl (rp_rcv rfl) rfl rfl rfl rfl rfl rfl (fun r2 σ1 => ?_)
  refine rp_lp (q := 1310) rfl rfl rfl ?_
  refine rp_lci (uc' := 67) (us' := 13472) rfl (rp_rcv rfl) rfl rfl rfl rfl rfl rfl (fun r4 σ3 => ?_)
  refine rp_lbr (a := 1318) (b := 1316) rfl rfl rfl ?_ ?_
  ·
    exact rp_Le_rfl
  ·
    refine rp_lp (q := 1317) rfl rfl rfl ?_
    exact rp_lrz rfl rfl (by decide)
set_option maxRecDepth 20000 in
theorem D_Law_law_1318 {q : Nat} {xs : Nat → Int32} (x3 : Int32) (σ : rp_Mm) : rp_Le (EV (some (q, xs)) (230, 67, 13472, 18, [.ref 0, .ref 1, .ref 48, .int (x3 + 7)], [], (rp_L0, σ))) (EV (some (q, xs)) (230, 67, 13472, 1318, [.ref 0, .ref 1, .ref 48, .int x3], [], (rp_L0, σ))) := by
  refine rp_lp (q := 1321) (ls' := [.ref 0, .ref 1, .ref 48, .int (x3 + 7)]) rfl rfl rfl ?_
  refine rp_lp (q := 18) rfl rfl rfl ?_
  exact rp_Le_rfl
set_option maxRecDepth 20000 in
theorem D_Law_law_210 {q : Nat} {xs : Nat → Int32} (x3 : Int32) (y0 : Int32) (y1 : Int32) (y2 : Int32) (y3 : Int32) (y4 : Int32) (σ : rp_Mm) : rp_Le (thI (CL (some (q, xs)) 13 [.ref 1, .int y4, .int y3, .int y2, .int y1, .int y0] σ) fun r2 σ1 => bif rp_ix (x3 + (1 : Int32)) q then bif rp_ix (x3 + (2 : Int32)) q then bif rp_ix (x3 + (3 : Int32)) q then bif rp_ix (x3 + (4 : Int32)) q then bif rp_ix (x3 + (5 : Int32)) q then if ((xs (x3 + (5 : Int32)).toNatClampNeg) = 0 : Prop) then EV (some (q, xs)) (230, 67, 13472, 247, [.ref 0, .ref 1, .ref 48, .int x3], [.int 0, .int (xs (x3 + (4 : Int32)).toNatClampNeg), .int (xs (x3 + (3 : Int32)).toNatClampNeg), .int (xs (x3 + (2 : Int32)).toNatClampNeg), .int (xs (x3 + (1 : Int32)).toNatClampNeg), .ref 48, .int r2], (rp_L0, σ1)) else EV (some (q, xs)) (230, 67, 13472, 247, [.ref 0, .ref 1, .ref 48, .int x3], [.int 1, .int (xs (x3 + (4 : Int32)).toNatClampNeg), .int (xs (x3 + (3 : Int32)).toNatClampNeg), .int (xs (x3 + (2 : Int32)).toNatClampNeg), .int (xs (x3 + (1 : Int32)).toNatClampNeg), .ref 48, .int r2], (rp_L0, σ1)) else none else none else none else none else none) (EV (some (q, xs)) (230, 67, 13472, 210, [.ref 0, .ref 1, .ref 48, .int x3], [.int y0, .int y1, .int y2, .int y3, .int y4, .ref 1], (rp_L0, σ))) := by
  refine rp_lci (uc' := 67) (us' := 13472) rfl (rp_rcv rfl) rfl rfl rfl rfl rfl rfl (fun r2 σ1 => ?_)
  refine rp_lp (q := 214) rfl rfl rfl ?_
  refine rp_lp (q := 215) rfl rfl rfl ?_
  refine rp_lp (q := 216) rfl rfl rfl ?_
  refine rp_lp (q := 217) rfl rfl rfl ?_
  refine rp_lp (q := 218) rfl rfl rfl ?_
  refine rp_lsc rfl ?_
  refine rp_lp (q := 220) rfl rfl rfl ?_
  refine rp_lp (q := 221) rfl rfl rfl ?_
  refine rp_lp (q := 222) rfl rfl rfl ?_
  refine rp_lp (q := 223) rfl rfl rfl ?_
  refine rp_lsc rfl ?_
  refine rp_lp (q := 225) rfl rfl rfl ?_
  refine rp_lp (q := 226) rfl rfl rfl ?_
  refine rp_lp (q := 227) rfl rfl rfl ?_
  refine rp_lp (q := 228) rfl rfl rfl ?_
  refine rp_lsc rfl ?_
  refine rp_lp (q := 230) rfl rfl rfl ?_
  refine rp_lp (q := 231) rfl rfl rfl ?_
  refine rp_lp (q := 232) rfl rfl rfl ?_
  refine rp_lp (q := 233) rfl rfl rfl ?_
  refine rp_lsc rfl ?_
  refine rp_lp (q := 235) rfl rfl rfl ?_
  refine rp_lp (q := 236) rfl rfl rfl ?_
  refine rp_lp (q := 237) rfl rfl rfl ?_
  refine rp_lp (q := 238) rfl rfl rfl ?_
  refine rp_lsc rfl ?_
  refine rp_lbr (a := 246) (b := 242) rfl rfl rfl ?_ ?_
  ·
    refine rp_lp (q := 247) rfl rfl rfl ?_
    exact rp_Le_rfl
  ·
    refine rp_lp (q := 243) rfl rfl rfl ?_
    refine rp_lp (q := 247) rfl rfl rfl ?_
    exact rp_Le_rfl
set_option maxRecDepth 20000 in
theorem D_Law_law_274 {q : Nat} {xs : Nat → Int32} (x3 : Int32) (y0 : Int32) (y1 : Int32) (σ : rp_Mm) : rp_Le (bif rp_ix (x3 + (3 : Int32)) q then bif rp_ix (x3 + (4 : Int32)) q then bif rp_ix (x3 + (5 : Int32)) q then if ((xs (x3 + (5 : Int32)).toNatClampNeg) = 0 : Prop) then EV (some (q, xs)) (230, 67, 13472, 297, [.ref 0, .ref 1, .ref 48, .int x3], [.int 0, .int (xs (x3 + (4 : Int32)).toNatClampNeg), .int (xs (x3 + (3 : Int32)).toNatClampNeg), .int y0, .int y1, .ref 1], (rp_L0, σ)) else EV (some (q, xs)) (230, 67, 13472, 297, [.ref 0, .ref 1, .ref 48, .int x3], [.int 1, .int (xs (x3 + (4 : Int32)).toNatClampNeg), .int (xs (x3 + (3 : Int32)).toNatClampNeg), .int y0, .int y1, .ref 1], (rp_L0, σ)) else none else none else none) (EV (some (q, xs)) (230, 67, 13472, 274, [.ref 0, .ref 1, .ref 48, .int x3], [.int y0, .int y1, .ref 1], (rp_L0, σ))) := by
  refine rp_lp (q := 275) rfl rfl rfl ?_
  refine rp_lp (q := 276) rfl rfl rfl ?_
  refine rp_lp (q := 277) rfl rfl rfl ?_
  refine rp_lp (q := 278) rfl rfl rfl ?_
  refine rp_lsc rfl ?_
  refine rp_lp (q := 280) rfl rfl rfl ?_
  refine rp_lp (q := 281) rfl rfl rfl ?_
  refine rp_lp (q := 282) rfl rfl rfl ?_
  refine rp_lp (q := 283) rfl rfl rfl ?_
  refine rp_lsc rfl ?_
  refine rp_lp (q := 285) rfl rfl rfl ?_
  refine rp_lp (q := 286) rfl rfl rfl ?_
  refine rp_lp (q := 287) rfl rfl rfl ?_
  refine rp_lp (q := 288) rfl rfl rfl ?_
  refine rp_lsc rfl ?_
  refine rp_lbr (a := 296) (b := 292) rfl rfl rfl ?_ ?_
  ·
    refine rp_lp (q := 297) rfl rfl rfl ?_
    exact rp_Le_rfl
  ·
    refine rp_lp (q := 293) rfl rfl rfl ?_
    refine rp_lp (q := 297) rfl rfl rfl ?_
    exact rp_Le_rfl
set_option maxRecDepth 20000 in
theorem D_Law_law_561 {q : Nat} {xs : Nat → Int32} (x3 : Int32) (y0 : Int32) (y1 : Int32) (y2 : Int32) (σ : rp_Mm) : rp_Le (thI (CL (some (q, xs)) 59 [.ref 1, .int y2, .int y1, .int y0] σ) fun r2 σ1 => bif rp_ix (x3 + (1 : Int32)) q then bif rp_ix (x3 + (2 : Int32)) q then bif rp_ix (x3 + (3 : Int32)) q then if ((xs (x3 + (3 : Int32)).toNatClampNeg) = 0 : Prop) then EV (some (q, xs)) (230, 67, 13472, 588, [.ref 0, .ref 1, .ref 48, .int x3], [.int 0, .int (xs (x3 + (2 : Int32)).toNatClampNeg), .int (xs (x3 + (1 : Int32)).toNatClampNeg), .ref 48, .int r2], (rp_L0, σ1)) else EV (some (q, xs)) (230, 67, 13472, 588, [.ref 0, .ref 1, .ref 48, .int x3], [.int 1, .int (xs (x3 + (2 : Int32)).toNatClampNeg), .int (xs (x3 + (1 : Int32)).toNatClampNeg), .ref 48, .int r2], (rp_L0, σ1)) else none else none else none) (EV (some (q, xs)) (230, 67, 13472, 561, [.ref 0, .ref 1, .ref 48, .int x3], [.int y0, .int y1, .int y2, .ref 1], (rp_L0, σ))) := by
  refine rp_lci (uc' := 67) (us' := 13472) rfl (rp_rcv rfl) rfl rfl rfl rfl rfl rfl (fun r2 σ1 => ?_)
  refine rp_lp (q := 565) rfl rfl rfl ?_
  refine rp_lp (q := 566) rfl rfl rfl ?_
  refine rp_lp (q := 567) rfl rfl rfl ?_
  refine rp_lp (q := 568) rfl rfl rfl ?_
  refine rp_lp (q := 569) rfl rfl rfl ?_
  refine rp_lsc rfl ?_
  refine rp_lp (q := 571) rfl rfl rfl ?_
  refine rp_lp (q := 572) rfl rfl rfl ?_
  refine rp_lp (q := 573) rfl rfl rfl ?_
  refine rp_lp (q := 574) rfl rfl rfl ?_
  refine rp_lsc rfl ?_
  refine rp_lp (q := 576) rfl rfl rfl ?_
  refine rp_lp (q := 577) rfl rfl rfl ?_
  refine rp_lp (q := 578) rfl rfl rfl ?_
  refine rp_lp (q := 579) rfl rfl rfl ?_
  refine rp_lsc rfl ?_
  refine rp_lbr (a := 587) (b := 583) rfl rfl rfl ?_ ?_
  ·
    refine rp_lp (q := 588) rfl rfl rfl ?_
    exact rp_Le_rfl
  ·
    refine rp_lp (q := 584) rfl rfl rfl ?_
    refine rp_lp (q := 588) rfl rfl rfl ?_
    exact rp_Le_rfl
set_option maxRecDepth 20000 in
theorem D_Law_law_247 {q : Nat} {xs : Nat → Int32} (x3 : Int32) (y0 : Int32) (y1 : Int32) (y2 : Int32) (y3 : Int32) (y4 : Int32) (y6 : Int32) (σ : rp_Mm) : rp_Le (thI (CL (some (q, xs)) 149 [.ref 48, .int y4, .int y3, .int y2, .int y1, .int y0] σ) fun r2 σ1 => if (y6 = r2 : Prop) then EV (some (q, xs)) (230, 67, 13472, 1318, [.ref 0, .ref 1, .ref 48, .int x3], [], (rp_L0, σ1)) else RI 0 σ1) (EV (some (q, xs)) (230, 67, 13472, 247, [.ref 0, .ref 1, .ref 48, .int x3], [.int y0, .int y1, .int y2, .int y3, .int y4, .ref 48, .int y6], (rp_L0, σ))) := by
  refine rp_lci (uc' := 67) (us' := 13472) rfl (rp_rcv rfl) rfl rfl rfl rfl rfl rfl (fun r2 σ1 => ?_)
  refine rp_lbr (a := 1318) (b := 253) rfl rfl rfl ?_ ?_
  ·
    exact rp_Le_rfl
  ·
    refine rp_lp (q := 254) rfl rfl rfl ?_
    exact rp_lrz rfl rfl (by decide)
set_option maxRecDepth 20000 in
theorem D_Law_law_297 {q : Nat} {xs : Nat → Int32} (x3 : Int32) (y0 : Int32) (y1 : Int32) (y2 : Int32) (y3 : Int32) (y4 : Int32) (σ : rp_Mm) : rp_Le (bif rp_ix (x3 + (6 : Int32)) q then thI (CL (some (q, xs)) 24 [.ref 1, .int y4, .int y3, .int y2, .int y1, .int y0, .int (xs (x3 + (6 : Int32)).toNatClampNeg)] σ) fun r2 σ1 => bif rp_ix (x3 + (1 : Int32)) q then bif rp_ix (x3 + (2 : Int32)) q then if ((xs (x3 + (2 : Int32)).toNatClampNeg) = 0 : Prop) then EV (some (q, xs)) (230, 67, 13472, 325, [.ref 0, .ref 1, .ref 48, .int x3], [.int 0, .int (xs (x3 + (1 : Int32)).toNatClampNeg), .ref 48, .int r2], (rp_L0, σ1)) else EV (some (q, xs)) (230, 67, 13472, 325, [.ref 0, .ref 1, .ref 48, .int x3], [.int 1, .int (xs (x3 + (1 : Int32)).toNatClampNeg), .ref 48, .int r2], (rp_L0, σ1)) else none else none else none) (EV (some (q, xs)) (230, 67, 13472, 297, [.ref 0, .ref 1, .ref 48, .int x3], [.int y0, .int y1, .int y2, .int y3, .int y4, .ref 1], (rp_L0, σ))) := by
  refine rp_lp (q := 298) rfl rfl rfl ?_
  refine rp_lp (q := 299) rfl rfl rfl ?_
  refine rp_lp (q := 301) rfl rfl rfl ?_
  refine rp_lp (q := 302) rfl rfl rfl ?_
  refine rp_lsc rfl ?_
  refine rp_lci (uc' := 67) (us' := 13472) rfl (rp_rcv rfl) rfl rfl rfl rfl rfl rfl (fun r2 σ1 => ?_)
  refine rp_lp (q := 307) rfl rfl rfl ?_
  refine rp_lp (q := 308) rfl rfl rfl ?_
  refine rp_lp (q := 309) rfl rfl rfl ?_
  refine rp_lp (q := 310) rfl rfl rfl ?_
  refine rp_lp (q := 311) rfl rfl rfl ?_
  refine rp_lsc rfl ?_
  refine rp_lp (q := 313) rfl rfl rfl ?_
  refine rp_lp (q := 314) rfl rfl rfl ?_
  refine rp_lp (q := 315) rfl rfl rfl ?_
  refine rp_lp (q := 316) rfl rfl rfl ?_
  refine rp_lsc rfl ?_
  refine rp_lbr (a := 324) (b := 320) rfl rfl rfl ?_ ?_
  ·
    refine rp_lp (q := 325) rfl rfl rfl ?_
    exact rp_Le_rfl
  ·
    refine rp_lp (q := 321) rfl rfl rfl ?_
    refine rp_lp (q := 325) rfl rfl rfl ?_
    exact rp_Le_rfl
set_option maxRecDepth 20000 in
theorem D_Law_law_588 {q : Nat} {xs : Nat → Int32} (x3 : Int32) (y0 : Int32) (y1 : Int32) (y2 : Int32) (y4 : Int32) (σ : rp_Mm) : rp_Le (thI (CL (some (q, xs)) 172 [.ref 48, .int y2, .int y1, .int y0] σ) fun r2 σ1 => if (y4 = r2 : Prop) then EV (some (q, xs)) (230, 67, 13472, 1318, [.ref 0, .ref 1, .ref 48, .int x3], [], (rp_L0, σ1)) else RI 0 σ1) (EV (some (q, xs)) (230, 67, 13472, 588, [.ref 0, .ref 1, .ref 48, .int x3], [.int y0, .int y1, .int y2, .ref 48, .int y4], (rp_L0, σ))) := by
  refine rp_lci (uc' := 67) (us' := 13472) rfl (rp_rcv rfl) rfl rfl rfl rfl rfl rfl (fun r2 σ1 => ?_)
  refine rp_lbr (a := 1318) (b := 594) rfl rfl rfl ?_ ?_
  ·
    exact rp_Le_rfl
  ·
    refine rp_lp (q := 595) rfl rfl rfl ?_
    exact rp_lrz rfl rfl (by decide)
set_option maxRecDepth 20000 in
theorem D_Law_law_325 {q : Nat} {xs : Nat → Int32} (x3 : Int32) (y0 : Int32) (y1 : Int32) (y3 : Int32) (σ : rp_Mm) : rp_Le (bif rp_ix (x3 + (3 : Int32)) q then bif rp_ix (x3 + (4 : Int32)) q then bif rp_ix (x3 + (5 : Int32)) q then if ((xs (x3 + (5 : Int32)).toNatClampNeg) = 0 : Prop) then EV (some (q, xs)) (230, 67, 13472, 348, [.ref 0, .ref 1, .ref 48, .int x3], [.int 0, .int (xs (x3 + (4 : Int32)).toNatClampNeg), .int (xs (x3 + (3 : Int32)).toNatClampNeg), .int y0, .int y1, .ref 48, .int y3], (rp_L0, σ)) else EV (some (q, xs)) (230, 67, 13472, 348, [.ref 0, .ref 1, .ref 48, .int x3], [.int 1, .int (xs (x3 + (4 : Int32)).toNatClampNeg), .int (xs (x3 + (3 : Int32)).toNatClampNeg), .int y0, .int y1, .ref 48, .int y3], (rp_L0, σ)) else none else none else none) (EV (some (q, xs)) (230, 67, 13472, 325, [.ref 0, .ref 1, .ref 48, .int x3], [.int y0, .int y1, .ref 48, .int y3], (rp_L0, σ))) := by
  refine rp_lp (q := 326) rfl rfl rfl ?_
  refine rp_lp (q := 327) rfl rfl rfl ?_
  refine rp_lp (q := 328) rfl rfl rfl ?_
  refine rp_lp (q := 329) rfl rfl rfl ?_
  refine rp_lsc rfl ?_
  refine rp_lp (q := 331) rfl rfl rfl ?_
  refine rp_lp (q := 332) rfl rfl rfl ?_
  refine rp_lp (q := 333) rfl rfl rfl ?_
  refine rp_lp (q := 334) rfl rfl rfl ?_
  refine rp_lsc rfl ?_
  refine rp_lp (q := 336) rfl rfl rfl ?_
  refine rp_lp (q := 337) rfl rfl rfl ?_
  refine rp_lp (q := 338) rfl rfl rfl ?_
  refine rp_lp (q := 339) rfl rfl rfl ?_
  refine rp_lsc rfl ?_
  refine rp_lbr (a := 347) (b := 343) rfl rfl rfl ?_ ?_
  ·
    refine rp_lp (q := 348) rfl rfl rfl ?_
    exact rp_Le_rfl
  ·
    refine rp_lp (q := 344) rfl rfl rfl ?_
    refine rp_lp (q := 348) rfl rfl rfl ?_
    exact rp_Le_rfl
set_option maxRecDepth 20000 in
theorem D_Law_law_348 {q : Nat} {xs : Nat → Int32} (x3 : Int32) (y0 : Int32) (y1 : Int32) (y2 : Int32) (y3 : Int32) (y4 : Int32) (y6 : Int32) (σ : rp_Mm) : rp_Le (bif rp_ix (x3 + (6 : Int32)) q then thI (CL (some (q, xs)) 152 [.ref 48, .int y4, .int y3, .int y2, .int y1, .int y0, .int (xs (x3 + (6 : Int32)).toNatClampNeg)] σ) fun r2 σ1 => if (y6 = r2 : Prop) then EV (some (q, xs)) (230, 67, 13472, 1318, [.ref 0, .ref 1, .ref 48, .int x3], [], (rp_L0, σ1)) else RI 0 σ1 else none) (EV (some (q, xs)) (230, 67, 13472, 348, [.ref 0, .ref 1, .ref 48, .int x3], [.int y0, .int y1, .int y2, .int y3, .int y4, .ref 48, .int y6], (rp_L0, σ))) := by
  refine rp_lp (q := 349) rfl rfl rfl ?_
  refine rp_lp (q := 350) rfl rfl rfl ?_
  refine rp_lp (q := 352) rfl rfl rfl ?_
  refine rp_lp (q := 353) rfl rfl rfl ?_
  refine rp_lsc rfl ?_
  refine rp_lci (uc' := 67) (us' := 13472) rfl (rp_rcv rfl) rfl rfl rfl rfl rfl rfl (fun r2 σ1 => ?_)
  refine rp_lbr (a := 1318) (b := 360) rfl rfl rfl ?_ ?_
  ·
    exact rp_Le_rfl
  ·
    refine rp_lp (q := 361) rfl rfl rfl ?_
    exact rp_lrz rfl rfl (by decide)
