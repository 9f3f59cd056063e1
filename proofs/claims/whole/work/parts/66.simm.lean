theorem rp_lk_mem {pc : Nat} {q : Instr × Nat × rp_In} : ∀ {l : List rp_En}, rp_lk pc l = some q → (pc, q) ∈ l := by
  intro l
  induction l with
  | nil => intro h; cases h
  | cons e r ih =>
    intro h
    unfold rp_lk at h
    cases hb : Nat.beq e.1 pc with
    | true =>
      rw [hb] at h
      have hb := Nat.eq_of_beq_eq_true hb
      cases h
      rw [← hb]
      exact List.mem_cons_self
    | false =>
      rw [hb] at h
      exact List.mem_cons_of_mem _ (ih h)
def rp_ws (j : Nat) : List Cond := Cond.code (rp_mt j).1 (rp_mt j).2.1 (rp_mt j).2.2.1 (rp_mt j).2.2.2.1 :: rp_gt
def rp_rm (j : Nat) : Room := { frames := (rp_mt j).2.2.2.2.2.1, cells := (rp_mt j).2.2.2.2.2.2.2.1, slots := (rp_mt j).2.2.2.2.2.2.2.2, locals := (rp_mt j).2.2.2.2.2.2.1 }
theorem rp_ws_good {j : Nat} (h : rp_MF j) : GoodIn rp_gt (rp_ws j) := fun w hw => (List.mem_cons.mp hw).elim (fun e => e ▸ rp_gt_good _ h.1) (rp_gt_good w)
def rp_Cx (D : va_G) (b base : Nat) (adK adV : Nat → Nat) (cI cZ : ClassId) (sc : rp_Sc) (j : Nat) (p : Program) (R : Room) (s : State) (m : MethodId) (args : Array Value) (meth : Method) (c : Code) : Prop :=
  p.tables.exec = Jvm.exec ∧ c.code = (rp_mt j).2.1 ∧ c.maxLocals = (rp_mt j).2.2.1 ∧ s.vm.findClass (rp_cn (rp_mt j).2.2.2.2.1) = some m.cls ∧ (∀ w ∈ rp_gt, w.before args s = true) ∧ ((rp_mt j).1.name = "<init>" → meth.name = "<init>") ∧ ((rp_mt j).2.2.2.2.2.1 ≤ R.frames ∧ (rp_mt j).2.2.2.2.2.2.1 ≤ R.locals ∧ (rp_mt j).2.2.2.2.2.2.2.1 ≤ R.cells ∧ (rp_mt j).2.2.2.2.2.2.2.2 ≤ R.slots) ∧ rp_EP D b base adK adV cI cZ sc s ∧ b < base ∧ base ≤ s.heap.size
/-- from a state of the small machine that comes to x in n steps, the real one comes to a return with x -/
def rp_Sim (l : Launch) (D : va_G) (b base : Nat) (adK adV : Nat → Nat) (cI cZ : ClassId) (sc : rp_Sc) (n : Nat) : Prop :=
  ∀ (j uc us pc : Nat) (ls st : List Value) (h : rp_Hp) (x : rp_Rs), j < 231 → rp_run rp_mt rp_mi rp_cf rp_tx sc n (j, uc, us, pc, ls, st, h) = some x →
    ∀ (p : Program) (e : Env) (R : Room) (s : State) (m : MethodId) (args : Array Value) (below : List Frame) (meth : Method) (c : Code) (H : Heap) (locs : List Loc) (lsr : Array Slot) (Q : State → Prop), rp_Cx D b base adK adV cI cZ sc j p R s m args meth c → rp_RL (rp_ph b base adK) (rp_mt j).2.2.1 ls lsr → rp_HR D base (rp_ph b base adK) cI cZ h H → va_S (fun q => base ≤ q) s.heap H locs → uc ≤ (rp_mt j).2.2.2.2.2.2.2.1 → us ≤ (rp_mt j).2.2.2.2.2.2.2.2 →
      (∀ (pc' : Nat) (lsr' : Array Slot) (H' : Heap) (locs' : List Loc) (st' : List Value) (I : Instr) (n' : Nat) (i' : rp_In), rp_lk pc' (rp_mi j) = some (I, n', i') → decode (rp_mt j).2.1 pc' = .ok (I, n') → n' = 1 → rp_ret (rp_mt j).2.2.2.1 I st' = some x.1 → rp_HR D base (rp_ph b base adK) cI cZ x.2 H' → va_S (fun q => base ≤ q) s.heap H' locs' → W p l e R s m args below meth c H' locs' (rp_mt j).2.2.2.2.2.2.2.1 (rp_mt j).2.2.2.2.2.2.2.2 Q (F0 m pc' lsr' (st'.map (rp_vm (rp_ph b base adK))))) →
      W p l e R s m args below meth c H locs uc us Q (F0 m pc lsr (st.map (rp_vm (rp_ph b base adK))))
section
variable {l : Launch} {D : va_G} {b base : Nat} {adK adV : Nat → Nat} {cI cZ : ClassId} {sc : rp_Sc}
set_option maxHeartbeats 4000000 in
theorem rp_met {n : Nat} (hs : rp_Sim l D b base adK adV cI cZ sc n) (hb2 : b < base) {k : Nat} {vs : List Value} {h : rp_Hp} {x : rp_Rs} (hk : k < 230) (hlen : (rp_ex vs).length ≤ (rp_mt k).2.2.1) (hrun : rp_run rp_mt rp_mi rp_cf rp_tx sc n (k, 0, 0, 0, rp_en (rp_mt k).2.2.1 vs, [], h) = some x) :
    Met l (rp_mt k).1 (rp_ws k) (rp_rm k) (va_Pc (vs.map (rp_vm (rp_ph b base adK))) (fun U => rp_EP D b base adK adV cI cZ sc U ∧ rp_HR D base (rp_ph b base adK) cI cZ h U.heap ∧ base ≤ U.heap.size)) (rp_Qc D base (rp_ph b base adK) cI cZ x.1 x.2) (rp_mt k).2.2.2.2.2.2.2.1 (rp_mt k).2.2.2.2.2.2.2.2 (fun q => base ≤ q) := by
  have hMF := rp_MFs k hk
  refine Met.ofW (cc := (rp_mt k).2.1) (maxL := (rp_mt k).2.2.1) (ret := (rp_mt k).2.2.2.1) hMF.2.2.2.1 rfl ?_
  intro p e s m args below meth c s₁ B hml hv
  obtain ⟨rfl, hEP, hHR, hbs⟩ := hv
  have hx := B.exec
  have hb := B.bytes
  have hr := B.returns
  have hts0 := atoms_spec (ws := rp_ws k) B.pre
  have hts : ∀ w ∈ rp_gt, w.before _ s = true := fun w hw => hts0 w (List.mem_cons_of_mem _ hw)
  have hown : s.vm.findClass (rp_mt k).1.cls = some m.cls := findClass_of_methodNamed B.named
  have hlocks := B.notSynchronized
  have hin : meth.name = (rp_mt k).1.name := (name_of_methodNamed B.named B.method).1
  rw [hMF.2.2.1] at hown
  rw [lg_entry_eq]
  refine hs k 0 0 0 _ [] h x (by omega) hrun p e _ s m _ below meth c s.heap [] _ _ ⟨hx, hb, hml, hown, hts, fun e => hin.trans e, ⟨Nat.le_refl _, Nat.le_refl _, Nat.le_refl _, Nat.le_refl _⟩, hEP, hb2, hbs⟩ (rp_RL_entry _ vs hlen) hHR va_S.rf (Nat.zero_le _) (Nat.zero_le _) ?_
  intro pc' lsr' H' locs' st' I n' i' hl hd hn1 hret hH' hS'
  subst hn1
  unfold rp_ret at hret
  split at hret
  next =>
    split at hret
    next v =>
      split at hret
      next ht =>
        rw [ht] at hr
        have hx1 := Option.some.inj hret
        exact W.iret (v := v) hx hb hr (fun t ht hW => ⟨by rw [← hx1]; rfl, by rw [ht]; exact hH', hS'.F ht⟩) hS'.2.2 hd
      next ht =>
        rw [ht] at hr
        cases hz : decide (v &&& 1 = v) with
        | false => rw [hz] at hret; cases hret
        | true =>
          rw [hz] at hret
          have hx1 := Option.some.inj hret
          have hnar : narrow .boolean (.int v) = .int v := by rcases rp_and1 (of_decide_eq_true hz) with rfl | rfl <;> decide
          exact W.zret (v := v) hx hb hr hnar (fun t ht hW => ⟨by rw [← hx1]; rfl, by rw [ht]; exact hH', hS'.F ht⟩) hS'.2.2 hd
      next => cases hret
    next => cases hret
  next =>
    split at hret
    next a =>
      split at hret
      next cn ht =>
        rw [ht] at hr
        have hx1 := Option.some.inj hret
        exact W.aret (v := .ref (rp_ph b base adK a)) hx hb hr (Or.inl ⟨cn, rfl⟩) (Or.inr ⟨_, rfl⟩) (fun t ht hW => ⟨by rw [← hx1]; rfl, by rw [ht]; exact hH', hS'.F ht⟩) hS'.2.2 hd
      next => cases hret
    next => cases hret
  next =>
    split at hret
    next =>
      split at hret
      next ht =>
        rw [ht] at hr
        have hx1 := Option.some.inj hret
        exact W.vret hx hb hr (fun t ht hW => ⟨by rw [← hx1]; rfl, by rw [ht]; exact hH', hS'.F ht⟩) hS'.2.2 hd
      next => cases hret
    next => cases hret
  next => cases hret
theorem rp_blind {vs : List Value} {h : rp_Hp} : FrameBlind (va_Pc vs (fun U => rp_EP D b base adK adV cI cZ sc U ∧ rp_HR D base (rp_ph b base adK) cI cZ h U.heap ∧ base ≤ U.heap.size)) := fun a U g mk q => ⟨q.1, q.2.1.blind g mk a, q.2.2.1, q.2.2.2⟩
theorem rp_libc0 : Cond.instanceMethod objectInit ∈ rp_gt ∧ Cond.code objectInit ⟨#[0xb1]⟩ 1 none ∈ rp_gt := ⟨rp_gt_of 103 (by decide +kernel) rfl, rp_gt_of 104 (by decide +kernel) rfl⟩
theorem rp_libc1 : Cond.static Lib.Math.max.name ∈ rp_gt ∧ Cond.initialized "java/lang/Math" ∈ rp_gt ∧ Cond.code Lib.Math.max.name Lib.Math.max.code 2 (some .int) ∈ rp_gt := ⟨rp_gt_of 118 (by decide +kernel) rfl, rp_gt_of 85 (by decide +kernel) rfl, rp_gt_of 119 (by decide +kernel) rfl⟩
theorem rp_libc2 : Cond.static Lib.Math.min.name ∈ rp_gt ∧ Cond.code Lib.Math.min.name Lib.Math.min.code 2 (some .int) ∈ rp_gt := ⟨rp_gt_of 448 (by decide +kernel) rfl, rp_gt_of 449 (by decide +kernel) rfl⟩
theorem rp_hasC_of {a b c : Nat} {ks : Nat → Bool} (h : rp_hasC a b c ks = true) : ∃ q ∈ rp_ct, q.1 = a ∧ q.2.1 = b ∧ q.2.2.1 = c ∧ ks q.2.2.2.1 = true ∧ rp_ctb q = true := by
  obtain ⟨q, hq, h2⟩ := List.any_eq_true.mp h
  simp only [Bool.and_eq_true, Nat.beq_eq] at h2
  exact ⟨q, hq, h2.1, h2.2.1, h2.2.2.1, h2.2.2.2, List.all_eq_true.mp rp_ct_ok q hq⟩
set_option maxHeartbeats 4000000 in
theorem rp_simL {j : Nat} {p : Program} {e : Env} {R : Room} {s : State} {m : MethodId} {args : Array Value} {below : List Frame} {meth : Method} {c : Code} {H : Heap} {locs : List Loc} {cells slots : Nat} {Q : State → Prop} (C : rp_Cx D b base adK adV cI cZ sc j p R s m args meth c) (hS : va_S (fun q => base ≤ q) s.heap H locs) (hc : cells ≤ R.cells) (hs : slots ≤ R.slots)
    {pc n : Nat} {I : Instr} {i : rp_In} {st st' : List Value} {lsr : Array Slot} (hsz : lsr.size = (rp_mt j).2.2.1) (hok : rp_okE j (pc, I, n, i) = true) (hd : decode (rp_mt j).2.1 pc = .ok (I, n)) (hI : rp_isCall I = true) (h5 : Nat.ble 5000 i.1 = true) (hcat : Nat.ble (rp_cat (st.drop i.2.1)) 8 = true) (hp : rp_lib rp_tx i.1 st = some st')
    (K : ∀ locs', va_S (fun q => base ≤ q) s.heap H locs' → W p l e R s m args below meth c H locs' cells slots Q (F0 m (pc + n) lsr (st'.map (rp_vm (rp_ph b base adK))))) : W p l e R s m args below meth c H locs cells slots Q (F0 m pc lsr (st.map (rp_vm (rp_ph b base adK)))) := by
  obtain ⟨hx, hb, hml, hown, hts, hmn, ⟨hR1, hR2, hR3, hR4⟩, hEP, hb2, hbs⟩ := C
  have hml2 : c.maxLocals = lsr.size := hml.trans hsz.symm
  have hph : ∀ k, rp_ph b base adK (1000 + k) = adK k := fun k => by
    unfold rp_ph
    rw [if_neg (by omega), if_neg (by omega), show 1000 + k - 1000 = k by omega]
  unfold rp_isCall at hI
  split at hI
  next x =>
    simp only [rp_okE, h5, cond_true, Bool.and_eq_true, Nat.beq_eq, Bool.or_eq_true] at hok
    obtain ⟨rfl, h1, h2, h3, h4⟩ := hok
    obtain ⟨q, hq, q1, q2, q3, q4, q5⟩ := rp_hasC_of h1
    have q4 := Nat.eq_of_beq_eq_true q4
    unfold rp_ctb at q5
    rw [← q4] at q5
    simp only [Bool.and_eq_true, decide_eq_true_eq] at q5
    obtain ⟨w1, w2, w3⟩ := q5
    have hw := rp_gt_of _ w1 rfl
    rw [q1, q2, q3] at hw
    rw [q3] at w3
    simp only [rp_lok, Bool.and_eq_true] at h3
    have r1 := Nat.le_trans (Nat.le_of_ble_eq_true h3.1) hR1
    have r2 := Nat.le_trans (Nat.le_of_ble_eq_true h3.2) hR2
    have hi : i.1 = 5003 ∨ i.1 = 5004 := h2
    rcases hi with hi | hi
    · rw [hi] at hp hw h4
      replace hp : (match (generalizing := false) st with
        | .ref a :: r => bif Nat.ble 1000 a && Nat.blt a 1012 then some (.int (Int32.ofNat (rp_tx (a - 1000)).length) :: r) else none
        | _ => none) = some st' := hp
      split at hp
      next a r =>
        rw [h4] at hcat
        cases hg : (Nat.ble 1000 a && Nat.blt a 1012) with
        | false => rw [hg] at hp; cases hp
        | true =>
          rw [hg] at hp
          simp only [Bool.and_eq_true] at hg
          obtain ⟨k, rfl⟩ : ∃ k : Nat, a = 1000 + k := Nat.exists_eq_add_of_le (Nat.le_of_ble_eq_true hg.1)
          have hk2 : 1000 + k < 1012 := Nat.le_of_ble_eq_true hg.2
          have e1 : 1000 + k - 1000 = k := by omega
          cases hp
          show W p l e R s m args below meth c H locs cells slots Q (F0 m pc lsr (.ref (rp_ph b base adK (1000 + k)) :: List.map (rp_vm (rp_ph b base adK)) _))
          rw [hph]
          refine rp_strlen hx hb hml2 hown hts hw hEP hb2 hS r1 r2 hc hs (k := k) (by omega) (by rw [rp_cat_sum]; exact Nat.le_of_ble_eq_true hcat) hd (fun locs' hS' => ?_)
          have := K locs' hS'
          rw [List.map_cons, e1] at this
          exact this
      next => cases hp
    · rw [hi] at hp hw h4
      replace hp : (match (generalizing := false) st with
        | .int x :: .ref a :: r => bif Nat.ble 1000 a && Nat.blt a 1012 && rp_ix x (rp_tx (a - 1000)).length then some (.int ((rp_tx (a - 1000)).getD x.toNatClampNeg 0) :: r) else none
        | _ => none) = some st' := hp
      split at hp
      next y a r =>
        rw [h4] at hcat
        cases hg : (Nat.ble 1000 a && Nat.blt a 1012 && rp_ix y (rp_tx (a - 1000)).length) with
        | false => rw [hg] at hp; cases hp
        | true =>
          rw [hg] at hp
          simp only [Bool.and_eq_true] at hg
          obtain ⟨k, rfl⟩ : ∃ k : Nat, a = 1000 + k := Nat.exists_eq_add_of_le (Nat.le_of_ble_eq_true hg.1.1)
          have hk2 : 1000 + k < 1012 := Nat.le_of_ble_eq_true hg.1.2
          have e1 : 1000 + k - 1000 = k := by omega
          have hg2 : rp_ix y (rp_tx k).length = true := by have := hg.2; rw [e1] at this; exact this
          cases hp
          show W p l e R s m args below meth c H locs cells slots Q (F0 m pc lsr (.int y :: .ref (rp_ph b base adK (1000 + k)) :: List.map (rp_vm (rp_ph b base adK)) _))
          rw [hph]
          refine rp_strchar hx hb hml2 hown hts hw hEP hb2 hS r1 r2 hc hs (k := k) (by omega) hg2 (by rw [rp_cat_sum]; exact Nat.le_of_ble_eq_true hcat) hd (fun locs' hS' => ?_)
          have := K locs' hS'
          rw [List.map_cons, e1] at this
          exact this
      next => cases hp
  next x =>
    simp only [rp_okE, h5, cond_true, Bool.and_eq_true, Nat.beq_eq, Bool.or_eq_true] at hok
    obtain ⟨rfl, h1, hoo⟩ := hok
    obtain ⟨q, hq, q1, q2, q3, q4, q5⟩ := rp_hasC_of h1
    have q4 := Nat.eq_of_beq_eq_true q4
    unfold rp_ctb at q5
    rw [← q4] at q5
    simp only [Bool.and_eq_true, decide_eq_true_eq] at q5
    obtain ⟨w1, w2, w3⟩ := q5
    have hw := rp_gt_of _ w1 rfl
    rw [q1, q2, q3] at hw
    rcases hoo with ⟨h2, h3, h4⟩ | ⟨h2, h3, h4⟩
    · simp only [rp_lok, Bool.and_eq_true] at h3
      have r1 := Nat.le_trans (Nat.le_of_ble_eq_true h3.1) hR1
      have r2 := Nat.le_trans (Nat.le_of_ble_eq_true h3.2) hR2
      rw [h4] at hcat
      rcases h2 with hi | hi
      · rw [hi] at hp hw
        replace hp : (match (generalizing := false) st with
          | .int y :: .int x :: r => some (.int (if x < y then y else x) :: r)
          | _ => none) = some st' := hp
        split at hp
        next y z r =>
          cases hp
          have hcat := Nat.le_of_ble_eq_true hcat
          exact va_mmax hx hb hml2 hown (hts _ hw) (hts _ rp_libc1.1) (hts _ rp_libc1.2.1) (hts _ rp_libc1.2.2) r1 (by rw [rp_cat_sum]; exact Nat.le_trans (Nat.add_le_add_right hcat 13) r2) hc hs hd (K locs hS)
        next => cases hp
      · rw [hi] at hp hw
        replace hp : (match (generalizing := false) st with
          | .int y :: .int x :: r => some (.int (if y < x then y else x) :: r)
          | _ => none) = some st' := hp
        split at hp
        next y z r =>
          cases hp
          have hcat := Nat.le_of_ble_eq_true hcat
          exact va_mmin hx hb hml2 hown (hts _ hw) (hts _ rp_libc2.1) (hts _ rp_libc1.2.1) (hts _ rp_libc2.2) r1 (by rw [rp_cat_sum]; exact Nat.le_trans (Nat.add_le_add_right hcat 13) r2) hc hs hd (K locs hS)
        next => cases hp
    · simp only [rp_lok, Bool.and_eq_true] at h3
      have r1 := Nat.le_trans (Nat.le_of_ble_eq_true h3.1) hR1
      have r2 := Nat.le_trans (Nat.le_of_ble_eq_true h3.2) hR2
      rw [h4] at hcat
      rw [h2] at hp hw
      replace hp : (match (generalizing := false) st with
        | .int x :: r => some (.int (rp_bc x) :: r)
        | _ => none) = some st' := hp
      split at hp
      next z r =>
        cases hp
        have hcat := Nat.le_of_ble_eq_true hcat
        exact rp_bcall hx hb hml2 hown hts hw hEP hb2 hS r1 r2 hc hs (by rw [rp_cat_sum]; exact hcat) hd (fun locs' hS' => K locs' hS')
      next => cases hp
  next x =>
    simp only [rp_okE, h5, cond_true, Bool.and_eq_true, Nat.beq_eq] at hok
    obtain ⟨rfl, h1, hi, h3, h4⟩ := hok
    obtain ⟨q, hq, q1, q2, q3, q4, q5⟩ := rp_hasC_of h1
    have q4 := Nat.eq_of_beq_eq_true q4
    unfold rp_ctb at q5
    rw [← q4] at q5
    simp only [Bool.and_eq_true, decide_eq_true_eq] at q5
    obtain ⟨w1, w2, w3⟩ := q5
    have hw := rp_gt_of _ w1 rfl
    rw [q1, q2, q3] at hw
    simp only [rp_lok, Bool.and_eq_true] at h3
    have r1 := Nat.le_trans (Nat.le_of_ble_eq_true h3.1) hR1
    have r2 := Nat.le_trans (Nat.le_of_ble_eq_true h3.2) hR2
    rw [h4] at hcat
    rw [hi] at hp hw
    replace hp : (match (generalizing := false) st with
      | .ref _ :: r => some r
      | _ => none) = some st' := hp
    split at hp
    next a r =>
      cases hp
      have hcat := Nat.le_of_ble_eq_true hcat
      refine W.objInit hx hb hown (hts _ hw) (hts _ rp_libc0.1) (hts _ rp_libc0.2) rfl hml2.symm rfl hd r1 (by show 2 * 0 + _ + 12 ≤ _; rw [rp_cat_sum]; have : rp_cat st' ≤ 8 := hcat; omega) (K locs hS)
    next => cases hp
  next => cases hI
end
