/-! THE CLAIM OUT OF ONE WALK OF THE LAW'S BODY. Your part is whole_start (and what it stands on); all else here is the same for every law, but numbers. -/
def R_law : String := "RailPassesLaw"
def lw_P (b : Addr) (xs : List Int32) (args : Array Value) (s : State) : Prop := args = #[.ref b] ∧ s.IntsAt b xs ∧ xs.length ≤ 3584 ∧ (Jvm.Cond.and given_1 narrow_1).before args s = true
def lw_Q (_ : Array Value) (s : State) (o : Outcome) (t : State) : Prop := o = .returned (some (.int 1)) ∧ Framed s o t [] 600000 7302250
def lw_Z (below : List Frame) (a : Array Value) (s : State) : State → Prop := fun t => ∃ o, t.status = .running ∧ Ended t below o ∧ lw_Q a s o t
/-- the law's own end, with 1 on the stack, nothing written that was there before, its room as the claim has it -/
theorem lw_ret {p : Program} {l : Launch} {e : Env} {s : State} {m : MethodId} {below : List Frame} {meth : Method} {c : Code} {b : Nat} (hx : p.tables.exec = Jvm.exec) (hb : c.code = code) (hr : meth.sig.returnType = ret) (hlocks : meth.locks = false) {pc : Nat} {H : Heap} {ls : Array Slot} (hdg : decode code pc = .ok (.ireturn, 1)) : W p l e room_1 s m #[Value.ref b] below meth c H [] 600000 7302250 (lw_Z below #[Value.ref b] s) (F0 m pc ls [.int 1]) := by
  intro T hT X
  obtain ⟨fs, hret, hrun, hended, hW, hframe⟩ := X.leave (v := some (.int 1)) (hlocks := hlocks) (fun h => by rw [hr] at h; cases h)
  have hmeth' : T.vm.method? m = some meth := X.method'
  refine ⟨T.setFrames fs, ?_, .returned (some (.int 1)), hrun, hended, rfl, ⟨_, rfl⟩, hW, hframe⟩
  jvm_step X.here [X.here.top, hx, hb, hdg, hmeth', hr, ret, narrow_b1]
  (try refine ⟨rfl, ?_⟩); (try refine ⟨rfl, ?_⟩)
  first | (intro acts; rw [hret _ acts rfl rfl rfl]) | rw [hret _ _ rfl rfl rfl]
  exact Steps.refl _
/-- what holds at the law's entry: the machine, the code, the tables' words (any of lw_tbl by 'hts w (by decide +kernel)'), the script of L ints xs at the cell b, what the Statement gives of the start (any of its parts by flat_of_before) -/
def lw_At (p : Program) (s : State) (m : MethodId) (meth : Method) (c : Code) (b L : Nat) (xs : Nat → Int32) : Prop :=
  p.tables.exec = Jvm.exec ∧ c.code = code ∧ meth.sig.returnType = ret ∧ c.maxLocals = 4 ∧ s.vm.findClass R_law = some m.cls ∧ (∀ w ∈ lw_tbl, w.before #[Value.ref b] s = true) ∧ va_X b L xs s s.heap ∧ b < s.heap.size ∧ meth.locks = false ∧ (Jvm.Cond.and given_1 narrow_1).before #[Value.ref b] s = true
theorem rp_strs_ref : ∀ k, k < 12 → lw_tbl[([464, 465, 466, 467, 468, 469, 470, 471, 472, 473, 542, 562] : List Nat).getD k 0]? = some (.stringRef RX1 (rp_si.getD k 0) (rp_sn.getD k "")) := by decide +kernel
abbrev rp_tm (k : Nat) : Term := .string RX1 (rp_si.getD k 0)
theorem rp_fl1 : ∀ k, k < 12 → Cond.exactly (rp_tm k) "java/lang/String" ∈ flatC (Jvm.Cond.and given_1 narrow_1) := by decide +kernel
theorem rp_fl2 : ∀ k, k < 12 → Cond.eq (.field (rp_tm k) "java/lang/String" "coder" "B") (.int 0) ∈ flatC (Jvm.Cond.and given_1 narrow_1) := by decide +kernel
theorem rp_fl3 : ∀ k, k < 12 → Cond.arrayOf (.field (rp_tm k) "java/lang/String" "value" "[B") .byte ∈ flatC (Jvm.Cond.and given_1 narrow_1) := by decide +kernel
theorem rp_fl4 : ∀ k, k < 12 → Cond.eq (.length (.field (rp_tm k) "java/lang/String" "value" "[B")) (.int (Int32.ofNat (rp_sl.getD k 0))) ∈ flatC (Jvm.Cond.and given_1 narrow_1) := by decide +kernel
theorem rp_fl5 : ∀ k, k < 12 → ∀ j, j < rp_sl.getD k 0 → Cond.eq (.elem (.field (rp_tm k) "java/lang/String" "value" "[B") (.int (Int32.ofNat j))) (.int ((rp_txl.getD k []).getD j 0)) ∈ flatC (Jvm.Cond.and given_1 narrow_1) := by decide +kernel
theorem rp_fl6 : ∀ i, i < 12 → ∀ j, j < 12 → i ≠ j → Cond.not (Cond.eq (rp_tm i) (rp_tm j)) ∈ flatC (Jvm.Cond.and given_1 narrow_1) ∨ Cond.not (Cond.eq (rp_tm j) (rp_tm i)) ∈ flatC (Jvm.Cond.and given_1 narrow_1) := by decide +kernel
set_option maxHeartbeats 4000000 in
set_option maxRecDepth 100000 in
/-- THE LAW, from its entry: the small machine's run is the real one's -/
theorem whole_start {p : Program} {e : Env} {s : State} {m : MethodId} {below : List Frame} {meth : Method} {c : Code} (l : Launch) {b L : Nat} {xs : Nat → Int32} (hL : L ≤ 3584) (C0 : lw_At p s m meth c b L xs) : W p l e room_1 s m #[Value.ref b] below meth c s.heap [] 0 0 (lw_Z below #[Value.ref b] s) (entryFrame m ([Value.ref b] : List Value).toArray 4) := by
  obtain ⟨hx, hb, hr, hml, hown, hts, hX, hbl, hlocks, hgv⟩ := C0
  have htg : ∀ w ∈ rp_gt, w.before #[Value.ref b] s = true := fun w hw => hts w (rp_gt_in hw)
  have hfl := flat_of_before _ hgv
  have hA : ∀ a : Nat, a < s.heap.size → ¬ (fun q : Nat => s.heap.size ≤ q) a := fun a ha => Nat.not_le.mpr ha
  obtain ⟨adK, adV, hVS, hev⟩ := vk_Sof (args := #[Value.ref b]) (N := 12) (tm := rp_tm) (len := rp_sl) (byt := rp_txl) (A := fun q => s.heap.size ≤ q) (by decide +kernel) (fun i hi => hfl _ (rp_fl1 i hi)) (fun i hi => hfl _ (rp_fl2 i hi)) (fun i hi => hfl _ (rp_fl3 i hi)) (fun i hi => hfl _ (rp_fl4 i hi)) (fun i hi j hj => hfl _ (rp_fl5 i hi j hj)) (fun i j hi hj hne => (rp_fl6 i hi j hj hne).imp (hfl _) (hfl _)) hA
  have hKn : ∀ ci : Nat, ∃ q : ClassId × (Nat → Nat), ci < 9 → u_Kn s (rp_cn ci) (rp_TT ci) (rp_NN ci) q.1 q.2 := by
    intro ci
    by_cases h : ci < 9
    · obtain ⟨_, c2, _, _, _, c6, _⟩ := rp_CFs ci h
      obtain ⟨cC, iS, hk⟩ := u_known (C := rp_cn ci) (T := rp_TT ci) (N := rp_NN ci) (n := rp_NN ci) htg c2 (htg _ c6)
      exact ⟨(cC, iS), fun _ => hk⟩
    · exact ⟨(0, fun _ => 0), fun q => absurd q h⟩
  obtain ⟨f, hf⟩ := Classical.axiomOfChoice hKn
  obtain ⟨cI, kI, pI, i1, i2, i3⟩ := Cond.arrayClass_spec (htg _ rp_arrI)
  obtain ⟨cZ, kZ, pZ, z1, z2, z3⟩ := Cond.arrayClass_spec (htg _ rp_arrZ)
  have hK : va_K (fun k => (f k).1, fun k => (f k).2) rp_cls [(cI, .int), (cZ, .boolean)] s := by
    refine ⟨fun ci q hq => ?_, fun k q hq => ?_⟩
    · have hlt : ci < 9 := (List.getElem?_eq_some_iff.mp hq).1
      have e := (rp_CFs ci hlt).1
      rw [e] at hq
      cases hq
      exact hf ci hlt
    · match k, hq with
      | 0, hq => cases hq; exact ⟨fun n z => ⟨fun k h => (by cases h), kI, i2, pI, i3⟩, i1⟩
      | 1, hq => cases hq; exact ⟨fun n z => ⟨fun k h => (by cases h), kZ, z2, pZ, z3⟩, z1⟩
      | k + 2, hq => simp at hq
  have hE : rp_EP (fun k => (f k).1, fun k => (f k).2) b s.heap.size adK adV cI cZ (some (L, xs)) s := by
    refine ⟨hK, fun q ys e => ?_, hbl, fun k hk => vk_R.of (A := #[Value.ref b]) (hts _ (List.mem_of_getElem? (rp_strs_ref k hk))) (hev k hk), hVS, va_Zof (hts _ (List.mem_of_getElem? (i := 487) (by decide +kernel))) (htg _ (rp_jin 92 (by decide +kernel) rfl)) (va_eqt (hfl _ (by decide +kernel))) hA, fun q hq => va_Nw.of rfl (hts _ (rp_ns_ok q hq)), va_Zqof (hts _ (List.mem_of_getElem? (i := 503) (by decide +kernel))) (htg _ (rp_jin 94 (by decide +kernel) rfl)) (hfl _ (by decide +kernel)) hA⟩
    cases e
    exact hX
  obtain ⟨n, x, hrun, hx1⟩ := rp_AM L xs hL
  rw [lg_entry_eq]
  refine rp_simAll rp_oks n 230 0 0 0 _ [] _ x (by decide) hrun p e room_1 s m _ below meth c s.heap [] _ _ ⟨hx, hb, hml, hown, htg, fun h => absurd h (by decide +kernel), ⟨Nat.le_refl _, Nat.le_refl _, Nat.le_refl _, Nat.le_refl _⟩, hE, hbl, Nat.le_refl _⟩ (rp_RL_entry (rp_ph b s.heap.size adK) [.ref 0] (n := 4) (by decide)) ⟨rfl, by decide, rfl, fun k q h => by simp [rp_wd] at h⟩ va_S.rf (Nat.zero_le _) (Nat.zero_le _) ?_
  intro pc' lsr' H' locs' st' I n' i' hl hd hn1 hret hH' hS'
  subst hn1
  rw [hx1] at hret
  unfold rp_ret at hret
  split at hret
  next =>
    split at hret
    next v =>
      replace hret : (bif decide (v &&& 1 = v) then some (some (Value.int v)) else none) = some (some (Value.int 1)) := hret
      cases hz : decide (v &&& 1 = v) with
      | false => rw [hz] at hret; cases hret
      | true =>
        rw [hz] at hret
        cases hret
        exact va_forget (fun q hq => hS'.2.2 q hq) (lw_ret hx hb hr hlocks hd)
    next => cases hret
  next =>
    split at hret
    next => cases hret
    next => cases hret
  next =>
    split at hret
    next => cases hret
    next => cases hret
  next => cases hret
