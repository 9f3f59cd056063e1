/-! THE SMALL MACHINE IS THE REAL ONE'S: cells, values, locals as the real machine has them -/
def rp_ph (b base : Nat) (adK : Nat → Nat) (i : Nat) : Nat := if i = 0 then b else if i < 1000 then base + (i - 1) else adK (i - 1000)
def rp_vm (φ : Nat → Nat) : Value → Value
  | .ref a => .ref (φ a)
  | v => v
theorem rp_vm_int (φ : Nat → Nat) (x : Int32) : rp_vm φ (.int x) = .int x := rfl
theorem rp_vm_cat (φ : Nat → Nat) (v : Value) : (rp_vm φ v).category = v.category := by cases v <;> rfl
def rp_fv (φ : Nat → Nat) (f : Nat → Int32) (fs : List (Option Value)) : List Value := fs.mapIdx fun k x => match x with
  | some v => rp_vm φ v
  | none => .int (f k)
def rp_tE (φ : Nat → Nat) (cI cZ : ClassId) (sh : rp_Sh) (f : Nat → Int32) : va_E := match sh with
  | .inl (z, n) => .inl ((bif z then cZ else cI), n, .inl f)
  | .inr (c, fs) => .inr (c, rp_fv φ f fs)
def rp_wd (base : Nat) (φ : Nat → Nat) (cI cZ : ClassId) (h : rp_Hp) : va_W := h.1.tail.mapIdx fun i sh => (base + i, rp_tE φ cI cZ sh (h.2 (i + 1)))
theorem rp_wd_get (base : Nat) (φ : Nat → Nat) (cI cZ : ClassId) (h : rp_Hp) (i : Nat) : (rp_wd base φ cI cZ h)[i]? = (h.1[i + 1]?).map fun sh => (base + i, rp_tE φ cI cZ sh (h.2 (i + 1))) := by
  simp [rp_wd, List.getElem?_mapIdx, List.getElem?_tail]
theorem rp_wd_at {base : Nat} {φ : Nat → Nat} {cI cZ : ClassId} {h : rp_Hp} {i : Nat} {sh : rp_Sh} (hs : h.1[i + 1]? = some sh) : (rp_wd base φ cI cZ h)[i]? = some (base + i, rp_tE φ cI cZ sh (h.2 (i + 1))) := by
  rw [rp_wd_get, hs]; rfl
theorem rp_wd_D (base : Nat) (φ : Nat → Nat) (cI cZ : ClassId) (h : rp_Hp) : va_D (fun q => base ≤ q) (rp_wd base φ cI cZ h) := by
  refine ⟨fun i j p q hi hj e => ?_, fun k q hk => ?_⟩
  · rw [rp_wd_get] at hi hj
    simp only [Option.map_eq_some_iff] at hi hj
    obtain ⟨_, _, rfl⟩ := hi
    obtain ⟨_, _, rfl⟩ := hj
    have e : base + i = base + j := e
    omega
  · rw [rp_wd_get] at hk
    simp only [Option.map_eq_some_iff] at hk
    obtain ⟨_, _, rfl⟩ := hk
    exact Nat.le_add_right _ _
def rp_HR (D : va_G) (base : Nat) (φ : Nat → Nat) (cI cZ : ClassId) (h : rp_Hp) (H : Heap) : Prop :=
  h.1[0]? = some (.inr (99, [])) ∧ h.1.length ≤ 1000 ∧ H.size = base + (h.1.length - 1) ∧ va_P D rp_cls (rp_wd base φ cI cZ h) H
/-- the locals -/
def rp_RL (φ : Nat → Nat) (n : Nat) (ls : List Value) (lsr : Array Slot) : Prop := lsr.size = n ∧ lv_wf lsr ∧ ls.length = n ∧ ∀ (i : Nat) (v : Value), ls[i]? = some v → v ≠ rp_U → lsr[i]? = some (.val (rp_vm φ v))
theorem rp_RL.at {φ : Nat → Nat} {n : Nat} {ls : List Value} {lsr : Array Slot} (h : rp_RL φ n ls lsr) {i : Nat} {v : Value} (hi : ls[i]? = some v) (hv : v ≠ rp_U) : lsr[i]? = some (.val (rp_vm φ v)) := h.2.2.2 i v hi hv
/-- all that is held, as a list -/
def rp_lp_all (φ : Nat → Nat) (ls : List Value) : List (Nat × Value) := (List.range ls.length).filterMap fun i => match ls[i]? with
  | some v => if v = rp_U then none else some (i, rp_vm φ v)
  | none => none
theorem rp_lp_mem {φ : Nat → Nat} {ls : List Value} {q : Nat × Value} : q ∈ rp_lp_all φ ls ↔ ∃ v, ls[q.1]? = some v ∧ v ≠ rp_U ∧ q.2 = rp_vm φ v := by
  unfold rp_lp_all
  rw [List.mem_filterMap]
  constructor
  · rintro ⟨i, hi, he⟩
    cases hv : ls[i]? with
    | none => rw [hv] at he; cases he
    | some v =>
      rw [hv] at he
      dsimp only at he
      split at he
      next => cases he
      next hu => cases he; exact ⟨v, hv, hu, rfl⟩
  · rintro ⟨v, hv, hu, he⟩
    refine ⟨q.1, List.mem_range.mpr (List.getElem?_eq_some_iff.mp hv).1, ?_⟩
    rw [hv]
    dsimp only
    rw [if_neg hu, ← he]
theorem rp_RL.has {φ : Nat → Nat} {n : Nat} {ls : List Value} {lsr : Array Slot} (h : rp_RL φ n ls lsr) : lv_has lsr n (rp_lp_all φ ls) := by
  refine ⟨h.1, h.2.1, fun q hq => ?_⟩
  obtain ⟨v, hv, hu, he⟩ := rp_lp_mem.mp hq
  rw [he]
  exact h.at hv hu
/-- behind a store of one word -/
theorem rp_RL.set {φ : Nat → Nat} {n : Nat} {ls : List Value} {lsr' : Array Slot} {i : Nat} {v : Value} (hn : ls.length = n) (hm : rp_may ls i = true) (h : lv_has lsr' n ((i, rp_vm φ v) :: (rp_lp_all φ ls).filter (fun q => !(q.1 == i) && !(q.1 + 1 == i && q.2.category == 2)))) : rp_RL φ n (ls.set i v) lsr' := by
  refine ⟨h.1, h.2.1, by simpa using hn, fun j w hj hu => ?_⟩
  by_cases hji : j = i
  · subst hji
    have hlt : j < ls.length := by
      unfold rp_may at hm
      simp only [Bool.and_eq_true] at hm
      exact Nat.le_of_ble_eq_true hm.1
    rw [List.getElem?_set_self hlt] at hj
    cases hj
    exact h.2.2 _ List.mem_cons_self
  · rw [List.getElem?_set_ne (Ne.symm hji)] at hj
    refine h.2.2 (j, rp_vm φ w) (List.mem_cons_of_mem _ (List.mem_filter.mpr ⟨rp_lp_mem.mpr ⟨w, hj, hu, rfl⟩, ?_⟩))
    simp only [Bool.and_eq_true, Bool.not_eq_true', beq_eq_false_iff_ne, ne_eq]
    refine ⟨hji, ?_⟩
    cases hq : (j + 1 == i) with
    | false => rfl
    | true =>
      have e : j + 1 = i := by simpa using hq
      subst e
      simp only [Bool.true_and, rp_vm_cat]
      unfold rp_may at hm
      simp only [Bool.and_eq_true, Bool.not_eq_true'] at hm
      rw [hj] at hm
      cases w with
      | long x => exact absurd hm.2 (by simp [rp_long])
      | double x => exact absurd hm.2 (by simp [rp_long])
      | _ => rfl
theorem rp_tso_out {pc d : Nat} {x : Int32} : ∀ {offs : List Int} {lo : Int} {l : List (Int32 × Nat)}, rp_tso pc lo offs l = true → (x.toInt < lo ∨ lo + (offs.length : Int) ≤ x.toInt) → rp_sw x d l = d := by
  intro offs
  induction offs with
  | nil =>
    intro lo l h _
    cases l with
    | nil => rfl
    | cons q l => exact absurd h (by simp [rp_tso])
  | cons o offs ih =>
    intro lo l h hx
    cases l with
    | nil => exact absurd h (by simp [rp_tso])
    | cons q l =>
      simp only [rp_tso, Bool.and_eq_true, decide_eq_true_eq] at h
      obtain ⟨h1, h2, h3⟩ := h
      have hne : ¬ x = q.1 := by
        intro e
        rw [e, h1] at hx
        simp only [List.length_cons] at hx
        omega
      show (if x = q.1 then q.2 else rp_sw x d l) = d
      rw [if_neg hne]
      refine ih h3 ?_
      simp only [List.length_cons] at hx
      have hne2 : x.toInt ≠ lo := fun e => hne (Int32.toInt_inj.mp (by rw [h1]; exact e))
      omega
theorem rp_tso_in {pc d : Nat} {x : Int32} : ∀ {offs : List Int} {lo : Int} {l : List (Int32 × Nat)}, rp_tso pc lo offs l = true → lo ≤ x.toInt → x.toInt < lo + (offs.length : Int) → ∃ off, offs[(x.toInt - lo).toNat]? = some off ∧ (pc : Int) + off = (rp_sw x d l : Int) := by
  intro offs
  induction offs with
  | nil => intro lo l h h1 h2; simp at h2; omega
  | cons o offs ih =>
    intro lo l h hx1 hx2
    cases l with
    | nil => exact absurd h (by simp [rp_tso])
    | cons q l =>
      simp only [rp_tso, Bool.and_eq_true, decide_eq_true_eq] at h
      obtain ⟨h1, h2, h3⟩ := h
      by_cases e : x = q.1
      · refine ⟨o, ?_, ?_⟩
        · have : x.toInt - lo = 0 := by rw [e, h1]; omega
          rw [this]; rfl
        · show (pc : Int) + o = ((if x = q.1 then q.2 else rp_sw x d l : Nat) : Int)
          rw [if_pos e]; exact h2
      · have hne2 : x.toInt ≠ lo := fun e2 => e (Int32.toInt_inj.mp (by rw [h1]; exact e2))
        obtain ⟨off, g1, g2⟩ := ih h3 (by omega) (by simp only [List.length_cons] at hx2; omega)
        refine ⟨off, ?_, ?_⟩
        · have : (x.toInt - lo).toNat = (x.toInt - (lo + 1)).toNat + 1 := by omega
          rw [this, List.getElem?_cons_succ]; exact g1
        · show (pc : Int) + off = ((if x = q.1 then q.2 else rp_sw x d l : Nat) : Int)
          rw [if_neg e]; exact g2
theorem rp_lso_off {pc d : Nat} {dflt : Int} {x : Int32} (hd : (pc : Int) + dflt = (d : Int)) : ∀ {ps : List (Int × Int)} {l : List (Int32 × Nat)}, rp_lso pc ps l = true → (pc : Int) + Op.lookupswitch.offset ps dflt x.toInt = (rp_sw x d l : Int) := by
  intro ps
  induction ps with
  | nil =>
    intro l h
    cases l with
    | nil => exact hd
    | cons q l => exact absurd h (by simp [rp_lso])
  | cons o ps ih =>
    intro l h
    cases l with
    | nil => exact absurd h (by simp [rp_lso])
    | cons q l =>
      simp only [rp_lso, Bool.and_eq_true, decide_eq_true_eq] at h
      obtain ⟨h1, h2, h3⟩ := h
      obtain ⟨o1, o2⟩ := o
      rw [Op.lookupswitch.offset_cons]
      show _ = ((if x = q.1 then q.2 else rp_sw x d l : Nat) : Int)
      by_cases e : x = q.1
      · rw [if_pos e, if_pos (by rw [e]; exact h1.symm)]; exact h2
      · rw [if_neg e, if_neg (fun e2 => e (Int32.toInt_inj.mp (by rw [h1]; exact e2.symm)))]; exact ih h3
section
variable {p : Program} {l : Launch} {e : Env} {R : Room} {s : State} {m : MethodId} {args : Array Value} {below : List Frame} {meth : Method} {c : Code} {H : Heap} {locs : List Loc} {cells slots : Nat} {Q : State → Prop}
variable {φ : Nat → Nat} {j : Nat}
set_option maxHeartbeats 4000000 in
theorem rp_simP (hx : p.tables.exec = Jvm.exec) (hb : c.code = (rp_mt j).2.1) (hown : s.vm.findClass (rp_cn (rp_mt j).2.2.2.2.1) = some m.cls) (hts : ∀ w ∈ rp_gt, w.before args s = true) (hstr : ∀ k x, k < 12 → rp_si[k]? = some x → ∃ t, vk_R RX1 x t (φ (1000 + k)) s)
    {pc n q N : Nat} {I : Instr} {i : rp_In} {ls st ls' st' : List Value} {lsr : Array Slot} (hok : rp_okE j (pc, I, n, i) = true) (hd : decode (rp_mt j).2.1 pc = .ok (I, n)) (hp : rp_pure I n i pc ls st = some (q, ls', st')) (hL : rp_RL φ N ls lsr)
    (K : ∀ lsr', rp_RL φ N ls' lsr' → W p l e R s m args below meth c H locs cells slots Q (F0 m q lsr' (st'.map (rp_vm φ)))) : W p l e R s m args below meth c H locs cells slots Q (F0 m pc lsr (st.map (rp_vm φ))) := by
  have nU : ∀ {v : Value}, (∀ k, v ≠ .retAddr k) → v ≠ rp_U := fun h => h 0
  unfold rp_pure at hp
  split at hp
  next k =>
    simp only [rp_okE, Bool.and_eq_true, decide_eq_true_eq, Nat.beq_eq] at hok
    obtain ⟨rfl, hv⟩ := hok
    cases hp
    refine lv_iconst (v := Int32.ofInt k) hx hb hd rfl ?_
    simpa [hv, rp_vm] using K lsr hL
  next k =>
    simp only [rp_okE, Bool.and_eq_true, decide_eq_true_eq, Nat.beq_eq] at hok
    obtain ⟨rfl, hv⟩ := hok
    cases hp
    refine lv_bipush (v := (Int8.ofInt k).toInt32) hx hb hd rfl ?_
    simpa [hv, rp_vm] using K lsr hL
  next k =>
    simp only [rp_okE, Bool.and_eq_true, decide_eq_true_eq, Nat.beq_eq] at hok
    obtain ⟨rfl, hv⟩ := hok
    cases hp
    refine lv_sipush (v := (Int16.ofInt k).toInt32) hx hb hd rfl ?_
    simpa [hv, rp_vm] using K lsr hL
  next x =>
    simp only [rp_okE, Bool.and_eq_true, Nat.beq_eq] at hok
    obtain ⟨rfl, hv⟩ := hok
    cases hp
    split at hv
    next v hv1 =>
      obtain ⟨z, hz, hz2⟩ := List.any_eq_true.mp hv
      simp only [Bool.and_eq_true, Nat.beq_eq, decide_eq_true_eq] at hz2
      have hw := rp_gt_of _ (rp_kti_ok z hz) rfl
      rw [hz2.1, hz2.2.1, hz2.2.2] at hw
      refine lv_ldc hx hb hown (hts _ hw) hd ?_
      simpa [hv1, rp_vm] using K lsr hL
    next a hv1 =>
      simp only [Bool.and_eq_true, Nat.beq_eq, decide_eq_true_eq] at hv
      obtain ⟨h1, h2, h3, h4⟩ := hv
      have h2 := Nat.le_of_ble_eq_true h2
      have h3 : a < 1012 := Nat.le_of_ble_eq_true h3
      obtain ⟨k, rfl⟩ : ∃ k : Nat, a = 1000 + k := Nat.exists_eq_add_of_le h2
      have h3 : 1000 + k < 1012 := h3
      have h4 : rp_si[1000 + k - 1000]? = some x := h4
      rw [show 1000 + k - 1000 = k by omega] at h4
      obtain ⟨t, ht⟩ := hstr k x (by omega) h4
      rw [h1] at hown
      refine va_ldcS hx hb hown ht hd ?_
      simpa [hv1, rp_vm] using K lsr hL
    next => cases hv
  next x =>
    simp only [rp_okE, Bool.and_eq_true, Nat.beq_eq] at hok
    obtain ⟨rfl, hv⟩ := hok
    cases hp
    split at hv
    next v hv1 =>
      obtain ⟨z, hz, hz2⟩ := List.any_eq_true.mp hv
      simp only [Bool.and_eq_true, Nat.beq_eq, decide_eq_true_eq] at hz2
      have hw := rp_gt_of _ (rp_ktl_ok z hz) rfl
      rw [hz2.1, hz2.2.1, hz2.2.2] at hw
      refine lv_ldc2 hx hb hown (hts _ hw) hd ?_
      simpa [hv1, rp_vm] using K lsr hL
    next => cases hv
  next k =>
    simp only [rp_okE, Bool.and_eq_true, Nat.beq_eq] at hok
    obtain ⟨rfl, hv⟩ := hok
    split at hp
    next x hx1 =>
      cases hp
      exact lv_iload_n hx hb hd hv.symm (hL.at hx1 (nU fun _ => by simp)) (K lsr hL)
    next => cases hp
  next k =>
    simp only [rp_okE, Bool.and_eq_true, Nat.beq_eq] at hok
    obtain ⟨rfl, hv⟩ := hok
    split at hp
    next x hx1 =>
      cases hp
      rw [hv] at hx1
      exact lv_iload hx hb hd (hL.at hx1 (nU fun _ => by simp)) (K lsr hL)
    next => cases hp
  next k =>
    simp only [rp_okE, Bool.and_eq_true, Nat.beq_eq] at hok
    obtain ⟨rfl, hv⟩ := hok
    split at hp
    next x hx1 =>
      cases hp
      exact lv_lload_n hx hb hd hv.symm (hL.at hx1 (nU fun _ => by simp)) (K lsr hL)
    next => cases hp
  next k =>
    simp only [rp_okE, Bool.and_eq_true, Nat.beq_eq] at hok
    obtain ⟨rfl, hv⟩ := hok
    split at hp
    next x hx1 =>
      cases hp
      exact lv_aload_n hx hb hd hv.symm (hL.at hx1 (nU fun _ => by simp)) (K lsr hL)
    next => cases hp
  next k =>
    simp only [rp_okE, Bool.and_eq_true, Nat.beq_eq] at hok
    obtain ⟨rfl, hv⟩ := hok
    split at hp
    next x hx1 =>
      cases hp
      rw [hv] at hx1
      exact lv_aload hx hb hd (hL.at hx1 (nU fun _ => by simp)) (K lsr hL)
    next => cases hp
  next k =>
    simp only [rp_okE, Bool.and_eq_true, Nat.beq_eq] at hok
    obtain ⟨rfl, hv⟩ := hok
    split at hp
    next x r =>
      cases hm : rp_may ls i.1 with
      | false => rw [hm] at hp; cases hp
      | true =>
        rw [hm] at hp
        cases hp
        have hlt : i.1 < N := by
          rw [← hL.2.2.1]
          unfold rp_may at hm
          simp only [Bool.and_eq_true] at hm
          exact Nat.le_of_ble_eq_true hm.1
        exact lv_istore_n hx hb hd hv.symm hL.has hlt rfl (fun ls2 h2 => K ls2 (rp_RL.set (v := .int x) hL.2.2.1 hm h2))
    next => cases hp
  next k =>
    simp only [rp_okE, Bool.and_eq_true, Nat.beq_eq] at hok
    obtain ⟨rfl, hv⟩ := hok
    split at hp
    next x r =>
      cases hm : rp_may ls i.1 with
      | false => rw [hm] at hp; cases hp
      | true =>
        rw [hm] at hp
        cases hp
        have hlt : i.1 < N := by
          rw [← hL.2.2.1]
          unfold rp_may at hm
          simp only [Bool.and_eq_true] at hm
          exact Nat.le_of_ble_eq_true hm.1
        rw [← hv] at hd
        exact lv_istore hx hb hd hL.has hlt rfl (fun ls2 h2 => K ls2 (rp_RL.set (v := .int x) hL.2.2.1 hm h2))
    next => cases hp
  next k =>
    simp only [rp_okE, Bool.and_eq_true, Nat.beq_eq] at hok
    obtain ⟨rfl, hv⟩ := hok
    split at hp
    next x r =>
      cases hm : rp_may ls i.1 with
      | false => rw [hm] at hp; cases hp
      | true =>
        rw [hm] at hp
        cases hp
        have hlt : i.1 < N := by
          rw [← hL.2.2.1]
          unfold rp_may at hm
          simp only [Bool.and_eq_true] at hm
          exact Nat.le_of_ble_eq_true hm.1
        exact lv_astore_n hx hb hd hv.symm hL.has hlt rfl (fun ls2 h2 => K ls2 (rp_RL.set (v := .ref x) hL.2.2.1 hm h2))
    next => cases hp
  next k cst =>
    simp only [rp_okE, Bool.and_eq_true, Nat.beq_eq, decide_eq_true_eq] at hok
    obtain ⟨rfl, hv, hv2⟩ := hok
    split at hp
    next x k2 hx1 hk2 =>
      cases hm : rp_may ls i.1 with
      | false => rw [hm] at hp; cases hp
      | true =>
        rw [hm] at hp
        cases hp
        have hlt : i.1 < N := by
          rw [← hL.2.2.1]
          unfold rp_may at hm
          simp only [Bool.and_eq_true] at hm
          exact Nat.le_of_ble_eq_true hm.1
        rw [hk2] at hv2
        cases hv2
        rw [← hv] at hd
        obtain ⟨kk, hkk⟩ := List.getElem?_of_mem (rp_lp_mem (φ := φ) (q := (i.1, .int x)).mpr ⟨.int x, hx1, nU fun _ => by simp, rfl⟩)
        exact lv_iinc (k := kk) (v := x + Int32.ofInt cst) hx hb hd hL.has hkk rfl hlt rfl (fun ls2 h2 => K ls2 (rp_RL.set (v := .int (x + Int32.ofInt cst)) hL.2.2.1 hm h2))
    next => cases hp
  next =>
    simp only [rp_okE, Nat.beq_eq] at hok
    subst hok
    split at hp
    next => cases hp; exact lv_iadd hx hb hd (K lsr hL)
    next => cases hp
  next =>
    simp only [rp_okE, Nat.beq_eq] at hok
    subst hok
    split at hp
    next => cases hp; exact lv_isub hx hb hd (K lsr hL)
    next => cases hp
  next =>
    simp only [rp_okE, Nat.beq_eq] at hok
    subst hok
    split at hp
    next => cases hp; exact lv_imul hx hb hd (K lsr hL)
    next => cases hp
  next =>
    simp only [rp_okE, Nat.beq_eq] at hok
    subst hok
    split at hp
    next => cases hp; exact lv_iand hx hb hd (K lsr hL)
    next => cases hp
  next =>
    simp only [rp_okE, Nat.beq_eq] at hok
    subst hok
    split at hp
    next => cases hp; exact lv_ior hx hb hd (K lsr hL)
    next => cases hp
  next =>
    simp only [rp_okE, Nat.beq_eq] at hok
    subst hok
    split at hp
    next => cases hp; exact lv_ishl hx hb hd (K lsr hL)
    next => cases hp
  next =>
    simp only [rp_okE, Nat.beq_eq] at hok
    subst hok
    split at hp
    next => cases hp; exact lv_ishr hx hb hd (K lsr hL)
    next => cases hp
  next =>
    simp only [rp_okE, Nat.beq_eq] at hok
    subst hok
    split at hp
    next =>
      split at hp
      next => cases hp
      next hy => cases hp; exact lv_idiv hx hb hd hy (K lsr hL)
    next => cases hp
  next =>
    simp only [rp_okE, Nat.beq_eq] at hok
    subst hok
    split at hp
    next =>
      split at hp
      next => cases hp
      next hy => cases hp; exact lv_irem hx hb hd hy (K lsr hL)
    next => cases hp
  next =>
    simp only [rp_okE, Nat.beq_eq] at hok
    subst hok
    split at hp
    next => cases hp; exact lv_i2l hx hb hd rfl (K lsr hL)
    next => cases hp
  next =>
    simp only [rp_okE, Nat.beq_eq] at hok
    subst hok
    split at hp
    next => cases hp; exact lv_l2i hx hb hd rfl (K lsr hL)
    next => cases hp
  next =>
    simp only [rp_okE, Nat.beq_eq] at hok
    subst hok
    split at hp
    next => cases hp; exact lv_land hx hb hd (K lsr hL)
    next => cases hp
  next =>
    simp only [rp_okE, Nat.beq_eq] at hok
    subst hok
    split at hp
    next => cases hp; exact lv_lor hx hb hd (K lsr hL)
    next => cases hp
  next =>
    simp only [rp_okE, Nat.beq_eq] at hok
    subst hok
    split at hp
    next => cases hp; exact lv_lshl hx hb hd rfl (K lsr hL)
    next => cases hp
  next =>
    simp only [rp_okE, Nat.beq_eq] at hok
    subst hok
    split at hp
    next => cases hp; exact lv_lushr hx hb hd rfl (K lsr hL)
    next => cases hp
  next =>
    simp only [rp_okE, Nat.beq_eq] at hok
    subst hok
    split at hp
    next v r =>
      cases hm : Nat.beq v.category 1 with
      | false => rw [hm] at hp; cases hp
      | true =>
        rw [hm] at hp
        cases hp
        exact lv_dup hx hb hd (by rw [rp_vm_cat]; exact Nat.eq_of_beq_eq_true hm) (K lsr hL)
    next => cases hp
  next =>
    simp only [rp_okE, Nat.beq_eq] at hok
    subst hok
    split at hp
    next v w r =>
      cases hm : (Nat.beq v.category 1 && Nat.beq w.category 1) with
      | false => rw [hm] at hp; cases hp
      | true =>
        rw [hm] at hp
        cases hp
        simp only [Bool.and_eq_true] at hm
        exact lv_dup2_11 hx hb hd (by rw [rp_vm_cat]; exact Nat.eq_of_beq_eq_true hm.1) (by rw [rp_vm_cat]; exact Nat.eq_of_beq_eq_true hm.2) (K lsr hL)
    next => cases hp
  next =>
    simp only [rp_okE, Nat.beq_eq] at hok
    subst hok
    split at hp
    next v r =>
      cases hm : Nat.beq v.category 1 with
      | false => rw [hm] at hp; cases hp
      | true =>
        rw [hm] at hp
        cases hp
        exact lv_pop hx hb hd (by rw [rp_vm_cat]; exact Nat.eq_of_beq_eq_true hm) (K lsr hL)
    next => cases hp
  next cd off =>
    simp only [rp_okE, Bool.and_eq_true, Nat.beq_eq, decide_eq_true_eq] at hok
    obtain ⟨rfl, ht⟩ := hok
    split at hp
    next x r =>
      cases hp
      have k1 := K lsr hL
      cases cd with
      | eq => exact lv_if_eq hx hb hd ht (fun h => by simpa [rp_cond, h] using k1) (fun h => by simpa [rp_cond, h] using k1)
      | ne => exact lv_if_ne hx hb hd ht (fun h => by simpa [rp_cond, h] using k1) (fun h => by simpa [rp_cond, h] using k1)
      | lt => exact lv_if_lt hx hb hd ht (fun h => by rw [rp_cond, if_pos h] at k1; exact k1) (fun h => by rw [rp_cond, if_neg h] at k1; exact k1)
      | ge => exact lv_if_ge hx hb hd ht (fun h => by rw [rp_cond, if_pos h] at k1; exact k1) (fun h => by rw [rp_cond, if_neg h] at k1; exact k1)
      | gt => exact lv_if_gt hx hb hd ht (fun h => by rw [rp_cond, if_pos h] at k1; exact k1) (fun h => by rw [rp_cond, if_neg h] at k1; exact k1)
      | le => exact lv_if_le hx hb hd ht (fun h => by rw [rp_cond, if_pos h] at k1; exact k1) (fun h => by rw [rp_cond, if_neg h] at k1; exact k1)
    next => cases hp
  next cd off =>
    simp only [rp_okE, Bool.and_eq_true, Nat.beq_eq, decide_eq_true_eq] at hok
    obtain ⟨rfl, ht⟩ := hok
    split at hp
    next y x r =>
      cases hp
      have k1 := K lsr hL
      cases cd with
      | eq => exact lv_icmp_eq hx hb hd ht (fun h => by rw [rp_cond, if_pos h] at k1; exact k1) (fun h => by rw [rp_cond, if_neg h] at k1; exact k1)
      | ne => exact lv_icmp_ne hx hb hd ht (fun h => by rw [rp_cond, if_neg h] at k1; exact k1) (fun h => by rw [rp_cond, if_pos h] at k1; exact k1)
      | lt => exact lv_icmp_lt hx hb hd ht (fun h => by rw [rp_cond, if_pos h] at k1; exact k1) (fun h => by rw [rp_cond, if_neg h] at k1; exact k1)
      | ge => exact lv_icmp_ge hx hb hd ht (fun h => by rw [rp_cond, if_pos h] at k1; exact k1) (fun h => by rw [rp_cond, if_neg h] at k1; exact k1)
      | gt => exact lv_icmp_gt hx hb hd ht (fun h => by rw [rp_cond, if_pos h] at k1; exact k1) (fun h => by rw [rp_cond, if_neg h] at k1; exact k1)
      | le => exact lv_icmp_le hx hb hd ht (fun h => by rw [rp_cond, if_pos h] at k1; exact k1) (fun h => by rw [rp_cond, if_neg h] at k1; exact k1)
    next => cases hp
  next off =>
    simp only [rp_okE, Bool.and_eq_true, Nat.beq_eq, decide_eq_true_eq] at hok
    obtain ⟨rfl, ht⟩ := hok
    cases hp
    exact lv_goto hx hb hd ht (K lsr hL)
  next dflt lo hi offs =>
    simp only [rp_okE, Bool.and_eq_true, decide_eq_true_eq] at hok
    obtain ⟨ht, hsz, hts2⟩ := hok
    split at hp
    next x r =>
      cases hp
      have k1 := K lsr hL
      have hsz2 : (offs.toList.length : Int) = hi + 1 - lo := by rw [Array.length_toList]; omega
      by_cases ho : x.toInt < lo ∨ hi < x.toInt
      · rw [rp_tso_out hts2 (by omega)] at k1
        exact lv_tableOut hx hb hd ho ht k1
      · obtain ⟨off, g1, g2⟩ := rp_tso_in (d := i.1) (x := x) hts2 (by omega) (by omega)
        exact lv_tableIn hx hb hd (by omega) (by omega) (by rw [← Array.getElem?_toList]; exact g1) g2 k1
    next => cases hp
  next dflt ps =>
    simp only [rp_okE, Bool.and_eq_true, decide_eq_true_eq] at hok
    obtain ⟨ht, hso, hts2⟩ := hok
    split at hp
    next x r =>
      cases hp
      exact lv_lookup hx hb hd hso rfl (rp_lso_off ht hts2) (K lsr hL)
    next => cases hp
  next => cases hp
end
