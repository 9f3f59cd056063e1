/-! what holds at every entry: the classes, the script, the texts -/
def rp_sl : List Nat := [4, 5, 4, 4, 5, 4, 4, 5, 6, 4, 2, 3]
def rp_EP (D : va_G) (b base : Nat) (adK adV : Nat → Nat) (cI cZ : ClassId) (sc : rp_Sc) (U : State) : Prop :=
  va_K D rp_cls [(cI, .int), (cZ, .boolean)] U ∧ (∀ q xs, sc = some (q, xs) → va_X b q xs U U.heap) ∧ b < U.heap.size ∧ (∀ k, k < 12 → vk_R RX1 (rp_si.getD k 0) (rp_sn.getD k "") (adK k) U) ∧ vk_S 12 rp_sl rp_txl adK adV (fun q => base ≤ q) U U.heap ∧ va_Z "java/lang/String" "COMPACT_STRINGS" "Z" (.int 1) (fun q => base ≤ q) U U.heap ∧ (∀ q ∈ rp_ns, va_Nw (.methodLinkNest (rp_cn q.1) q.2.1 (rp_mt q.2.2.1).1 q.2.2.2) U) ∧ va_Zq "jdk/internal/util/Preconditions" "SIOOBE_FORMATTER" "Ljava/util/function/BiFunction;" (fun q => base ≤ q) U U.heap
theorem rp_EP.blind {D : va_G} {b base : Nat} {adK adV : Nat → Nat} {cI cZ : ClassId} {sc : rp_Sc} {U : State} (h : rp_EP D b base adK adV cI cZ sc U) (g : JFrame) (mk : MethodId) (a : Array Value) : rp_EP D b base adK adV cI cZ sc (U.calling g mk a) := by
  obtain ⟨h1, h2, h3, h4, h5, h6, h7, h8⟩ := h
  have al : U.vm.Alike (U.calling g mk a).vm := Vm.Alike.refl U.vm
  exact ⟨va_K.moved al h1, fun q xs e => va_X.moved al (h2 q xs e), h3, fun k hk => vk_R.same rfl (h4 k hk), vk_S.moved al h5, va_Z.moved al h6, fun q hq => va_Nw.same rfl rfl (h7 q hq), va_Zq.moved al h8⟩
theorem rp_EP.move {D : va_G} {b base : Nat} {adK adV : Nat → Nat} {cI cZ : ClassId} {sc : rp_Sc} {s U : State} {H : Heap} {locs : List Loc} (h : rp_EP D b base adK adV cI cZ sc s) (hb : b < base) (hS : va_S (fun q => base ≤ q) s.heap H locs) (hU : U.heap = H) (hW : s.WarmedH U.vm) : rp_EP D b base adK adV cI cZ sc U := by
  obtain ⟨h1, h2, h3, h4, h5, h6, h7, h8⟩ := h
  have al := hW.alike
  subst hU
  have hq : ∀ a : Nat, a < s.heap.size → ¬ base ≤ a → U.heap[a]? = s.heap[a]? := fun a ha hn => hS.2.1 a ha hn
  refine ⟨va_K.moved al h1, fun q xs e => (va_X.moved al (h2 q xs e)).kept (hq b h3 (by omega)), Nat.lt_of_lt_of_le h3 hS.1, fun k hk => vk_R.warm hW (h4 k hk), (vk_S.moved al h5).kept hq, (va_Z.moved al h6).kept hq, fun q hz => va_Nw.warmM hW (h7 q hz), (va_Zq.moved al h8).kept hq⟩
/-- the locals at a method's entry -/
theorem rp_ex_sl (φ : Nat → Nat) : ∀ (vs : List Value), (rp_ex vs).length = (lg_sl (vs.map (rp_vm φ))).length ∧ ∀ (i : Nat) (v : Value), (rp_ex vs)[i]? = some v → v ≠ rp_U → (lg_sl (vs.map (rp_vm φ)))[i]? = some (.val (rp_vm φ v)) := by
  intro vs
  induction vs with
  | nil => exact ⟨rfl, fun i v h => by simp [rp_ex] at h⟩
  | cons w vs ih =>
    have two : w.category = 2 → rp_ex (w :: vs) = w :: rp_U :: rp_ex vs ∧ lg_sl ((w :: vs).map (rp_vm φ)) = .val (rp_vm φ w) :: .second :: lg_sl (vs.map (rp_vm φ)) := by
      intro hc
      refine ⟨?_, ?_⟩
      · cases w <;> first | rfl | exact absurd hc (by simp [Value.category])
      · have : (rp_vm φ w).category = 2 := by rw [rp_vm_cat]; exact hc
        simp [lg_sl, this]
    have one : w.category = 1 → rp_ex (w :: vs) = w :: rp_ex vs ∧ lg_sl ((w :: vs).map (rp_vm φ)) = .val (rp_vm φ w) :: lg_sl (vs.map (rp_vm φ)) := by
      intro hc
      refine ⟨?_, ?_⟩
      · cases w <;> first | rfl | exact absurd hc (by simp [Value.category])
      · have : (rp_vm φ w).category = 1 := by rw [rp_vm_cat]; exact hc
        simp [lg_sl, this]
    rcases lv_cat w with hc | hc
    · obtain ⟨e1, e2⟩ := one hc
      rw [e1, e2]
      refine ⟨by simp [ih.1], fun i v h hu => ?_⟩
      cases i with
      | zero => simp at h; subst h; rfl
      | succ i => simp only [List.getElem?_cons_succ] at h ⊢; exact ih.2 i v h hu
    · obtain ⟨e1, e2⟩ := two hc
      rw [e1, e2]
      refine ⟨by simp [ih.1], fun i v h hu => ?_⟩
      match i, h with
      | 0, h => simp at h; subst h; rfl
      | 1, h => simp at h; exact absurd h.symm hu
      | i + 2, h => simp only [List.getElem?_cons_succ] at h ⊢; exact ih.2 i v h hu
theorem rp_RL_entry (φ : Nat → Nat) (vs : List Value) {n : Nat} (hn : (rp_ex vs).length ≤ n) : rp_RL φ n (rp_en n vs) ((lg_sl (vs.map (rp_vm φ)) ++ List.replicate (n - (lg_sl (vs.map (rp_vm φ))).length) Slot.unset).toArray) := by
  obtain ⟨hl, hv⟩ := rp_ex_sl φ vs
  have he := lv_entry (vs.map (rp_vm φ)) (n := n) (by rw [← hl]; exact hn)
  refine ⟨he.1, he.2.1, by simp [rp_en]; omega, fun i v hi hu => ?_⟩
  unfold rp_en at hi
  by_cases h : i < (rp_ex vs).length
  · rw [List.getElem?_append_left h] at hi
    rw [List.getElem?_toArray, List.getElem?_append_left (by rw [← hl]; exact h)]
    exact hv i v hi hu
  · rw [List.getElem?_append_right (by omega)] at hi
    have := List.eq_of_mem_replicate (List.mem_of_getElem? hi)
    exact absurd this hu
theorem rp_cat_sum (φ : Nat → Nat) : ∀ (vs : List Value), ((vs.map (rp_vm φ)).map fun v => v.category).sum = rp_cat vs := by
  intro vs
  induction vs with
  | nil => rfl
  | cons v vs ih => simp only [List.map_cons, List.sum_cons, rp_vm_cat, ih]; rfl
section
variable {p : Program} {l : Launch} {e : Env} {R : Room} {s : State} {m : MethodId} {args : Array Value} {below : List Frame} {meth : Method} {c : Code} {H : Heap} {locs : List Loc} {cells slots : Nat} {Q : State → Prop}
variable {D : va_G} {b base : Nat} {adK adV : Nat → Nat} {cI cZ : ClassId} {j : Nat} {sc : rp_Sc}
def rp_Qc (D : va_G) (base : Nat) (φ : Nat → Nat) (cI cZ : ClassId) (r : Option Value) (h' : rp_Hp) : Array Value → State → Outcome → State → Prop := fun _ st o t => o = .returned (r.map (rp_vm φ)) ∧ rp_HR D base φ cI cZ h' t.heap ∧ va_F (fun q => base ≤ q) st t
theorem rp_runW {mc ms pc : Nat} {lsr : Array Slot} {st0 rest : List Value} {a : Array Value} {φ : Nat → Nat} {r : Option Value} {h' : rp_Hp} (hr : va_Run p l e R s m args below meth c H locs cells slots mc ms (F0 m pc lsr st0) rest (rp_Qc D base φ cI cZ r h' a) (fun q => base ≤ q)) (hS : va_S (fun q => base ≤ q) s.heap H locs)
    (kk : ∀ (H1 : Heap) (locs1 : List Loc), rp_HR D base φ cI cZ h' H1 → va_S (fun q => base ≤ q) s.heap H1 locs1 → W p l e R s m args below meth c H1 locs1 (cells + mc) (slots + ms) Q (F0 m (pc + 3) lsr ((r.map (rp_vm φ)).toList ++ rest))) : W p l e R s m args below meth c H locs cells slots Q (F0 m pc lsr st0) := by
  intro T hT X
  obtain ⟨v, st₀, t, T', L, h0, X', hL, e1, e2, ⟨hv, hh, hz, hk⟩, st⟩ := hr T hT X
  cases hv
  rw [h0] at hz hk
  obtain ⟨t2, a1, b1⟩ := kk T'.heap (locs ++ L) (by rw [e1]; exact hh) ⟨Nat.le_trans hS.1 (by rw [e1]; exact hz), fun q h1 h2 => by rw [e1, hk q (Nat.lt_of_lt_of_le h1 hS.1) h2]; exact hS.2.1 q h1 h2, fun q hq => by
    rcases List.mem_append.mp hq with h1 | h1
    · exact hS.2.2 q h1
    · exact hL q h1⟩ T' rfl X'
  exact ⟨t2, st t2 a1, b1⟩
theorem rp_arrI : Cond.arrayClass .int ∈ rp_gt := rp_gt_of 133 (by decide +kernel) rfl
theorem rp_arrZ : Cond.arrayClass .boolean ∈ rp_gt := rp_gt_of 1086 (by decide +kernel) rfl
theorem rp_wd_push {base : Nat} {φ : Nat → Nat} {cI cZ : ClassId} {L : List rp_Sh} {σ : rp_Mm} {sh : rp_Sh} (hl : 0 < L.length) : rp_wd base φ cI cZ (L ++ [sh], rp_zr σ L.length) = rp_wd base φ cI cZ (L, σ) ++ [(base + (L.length - 1), rp_tE φ cI cZ sh (fun _ => 0))] := by
  apply List.ext_getElem?
  intro i
  have hlw : (rp_wd base φ cI cZ (L, σ)).length = L.length - 1 := by simp [rp_wd]
  rw [rp_wd_get]
  by_cases h : i < L.length - 1
  · rw [List.getElem?_append_left (show i + 1 < L.length by omega), List.getElem?_append_left (show i < (rp_wd base φ cI cZ (L, σ)).length by rw [hlw]; exact h), rp_wd_get]
    dsimp only
    have : rp_zr σ L.length (i + 1) = σ (i + 1) := by funext q; simp [rp_zr, show ¬ i + 1 = L.length by omega]
    rw [this]
  · rw [List.getElem?_append_right (show L.length ≤ i + 1 by omega), List.getElem?_append_right (show (rp_wd base φ cI cZ (L, σ)).length ≤ i by rw [hlw]; omega), hlw]
    dsimp only
    by_cases h2 : i = L.length - 1
    · subst h2
      have e : L.length - 1 + 1 = L.length := by omega
      rw [e, Nat.sub_self, Nat.sub_self]
      have : rp_zr σ L.length L.length = fun _ => 0 := by funext q; simp [rp_zr]
      simp [this]
    · rw [List.getElem?_eq_none (by simp; omega), List.getElem?_eq_none (by simp; omega)]
      rfl
set_option maxHeartbeats 4000000 in
theorem rp_simM (hx : p.tables.exec = Jvm.exec) (hb : c.code = (rp_mt j).2.1) (hown : s.vm.findClass (rp_cn (rp_mt j).2.2.2.2.1) = some m.cls) (hts : ∀ w ∈ rp_gt, w.before args s = true) (hK : va_K D rp_cls [(cI, .int), (cZ, .boolean)] s) (hRc : (rp_mt j).2.2.2.2.2.2.2.1 ≤ R.cells) (hRs : (rp_mt j).2.2.2.2.2.2.2.2 ≤ R.slots)
    {pc n uc us : Nat} {I : Instr} {i : rp_In} {ls st : List Value} {h : rp_Hp} {t : rp_As} {lsr : Array Slot} (hok : rp_okE j (pc, I, n, i) = true) (hd : decode (rp_mt j).2.1 pc = .ok (I, n)) (hp : rp_make rp_mt rp_cf I n i j uc us pc ls st h = some (.inl t)) (hH : rp_HR D base (rp_ph b base adK) cI cZ h H) (hS : va_S (fun q => base ≤ q) s.heap H locs) (hbs : base ≤ s.heap.size)
    (K : ∀ H', t.1 = j → t.2.2.2.2.1 = ls → t.2.1 ≤ (rp_mt j).2.2.2.2.2.2.2.1 → t.2.2.1 ≤ (rp_mt j).2.2.2.2.2.2.2.2 → rp_HR D base (rp_ph b base adK) cI cZ t.2.2.2.2.2.2 H' → va_S (fun q => base ≤ q) s.heap H' locs → W p l e R s m args below meth c H' locs t.2.1 t.2.2.1 Q (F0 m t.2.2.2.1 lsr (t.2.2.2.2.2.1.map (rp_vm (rp_ph b base adK))))) : W p l e R s m args below meth c H locs uc us Q (F0 m pc lsr (st.map (rp_vm (rp_ph b base adK)))) := by
  obtain ⟨h0, h1, h2, hP⟩ := hH
  have hl0 : 0 < h.1.length := (List.getElem?_eq_some_iff.mp h0).1
  unfold rp_make at hp
  split at hp
  next x =>
    simp only [rp_okE, Bool.and_eq_true, Nat.beq_eq] at hok
    obtain ⟨rfl, hv⟩ := hok
    obtain ⟨z, hz, hz2⟩ := List.any_eq_true.mp hv
    simp only [Bool.and_eq_true, Nat.beq_eq] at hz2
    obtain ⟨hz3, hz4⟩ := rp_nt_ok z hz
    have hw := rp_gt_of _ hz3 rfl
    rw [hz2.1, hz2.2.1, hz2.2.2] at hw
    rw [hz2.2.2] at hz4
    obtain ⟨c1, c2, c3, c4, c5, c6, c7, c8, c9, c10⟩ := rp_CFs i.1 hz4
    cases hg : (Nat.ble (uc + 1) (rp_mt j).2.2.2.2.2.2.2.1 && (Nat.ble (us + (rp_cf i.1).length) (rp_mt j).2.2.2.2.2.2.2.2 && Nat.blt h.1.length 999)) with
    | false => rw [hg] at hp; cases hp
    | true =>
      rw [hg] at hp
      cases hp
      simp only [Bool.and_eq_true] at hg
      have g1 := Nat.le_of_ble_eq_true hg.1
      have g2 := Nat.le_of_ble_eq_true hg.2.1
      have g3 : h.1.length < 999 := Nat.le_of_ble_eq_true hg.2.2
      rw [c5] at g2
      have hKn := hK.1 i.1 _ c1
      refine W.newcK hx hb hown (hts _ hw) (hts _ c6) (hts _ c7) rfl hd (Nat.le_trans g1 hRc) (Nat.le_trans g2 hRs) hKn.2.1 h2 fun H1 kC hkC e1 z1 o1 => ?_
      have kp : ∀ (k : Nat) (x : Nat × va_E), (rp_wd base (rp_ph b base adK) cI cZ h)[k]? = some x → H1[x.1]? = H[x.1]? := fun k x hx => o1 x.1 (by have := (hP k x hx).lt; omega)
      have hq : rp_ph b base adK h.1.length = base + (h.1.length - 1) := by
        obtain ⟨q, hq⟩ : ∃ q, h.1.length = q + 1 := ⟨h.1.length - 1, by omega⟩
        rw [hq]
        exact rp_ph_in (by omega)
      have fin := K H1 rfl rfl g1 (by show us + (rp_cf i.1).length ≤ _; rw [c5]; exact g2) ⟨by show (h.1 ++ _)[0]? = _; rw [List.getElem?_append_left hl0]; exact h0, by show (h.1 ++ [_]).length ≤ 1000; simp; omega, by show H1.size = base + ((h.1 ++ [_]).length - 1); rw [z1]; simp; omega, ?_⟩ ⟨Nat.le_trans hS.1 (by omega), fun q a1 a2 => (o1 q (by have := hS.1; omega)).trans (hS.2.1 q a1 a2), hS.2.2⟩
      · show W p l e R s m args below meth c H1 locs (uc + 1) (us + rp_NN i.1) Q (F0 m (pc + 3) lsr (.ref (base + (h.1.length - 1)) :: st.map (rp_vm (rp_ph b base adK))))
        have fin : W p l e R s m args below meth c H1 locs (uc + 1) (us + (rp_cf i.1).length) Q (F0 m (pc + 3) lsr (.ref (rp_ph b base adK h.1.length) :: st.map (rp_vm (rp_ph b base adK)))) := fin
        rw [hq, c5] at fin
        exact fin
      · show va_P D rp_cls (rp_wd base (rp_ph b base adK) cI cZ (h.1 ++ [_], rp_zr h.2 h.1.length)) H1
        rw [rp_wd_push hl0]
        refine (hP.kept kp).app (fun k x hx => ?_)
        have hz : k < 1 := (List.getElem?_eq_some_iff.mp hx).1
        rw [show k = 0 by omega] at hx
        cases hx
        refine ⟨_, c1, (u_born (rp_ty i.1) hts c2 hKn hkC e1 c3).to fun k hk => ?_⟩
        rw [c9 k hk]
        unfold vp_V
        rw [List.getD_eq_getElem?_getD, rp_fv_get]
        have hkl : k < (rp_cf i.1).length := by rw [c5]; exact hk
        have hc10 := c10 k hk
        rw [List.getElem?_eq_getElem hkl] at hc10 ⊢
        cases hcv : (rp_cf i.1)[k] with
        | none => rfl
        | some v =>
          cases v with
          | ref a => rw [hcv] at hc10; exact absurd rfl (hc10 a)
          | _ => rfl
  next ty =>
    simp only [rp_okE, Nat.beq_eq] at hok
    subst hok
    split at hp
    next x r =>
      cases hg : (rp_ix x 100000 && (Nat.ble (uc + 1) (rp_mt j).2.2.2.2.2.2.2.1 && (Nat.ble (us + x.toNatClampNeg) (rp_mt j).2.2.2.2.2.2.2.2 && Nat.blt h.1.length 999))) with
      | false => rw [hg] at hp; cases hp
      | true =>
        rw [hg] at hp
        simp only [Bool.and_eq_true] at hg
        have g0 := vp_in_iff.mp (rp_ix_in hg.1)
        have g1 := Nat.le_of_ble_eq_true hg.2.1
        have g2 := Nat.le_of_ble_eq_true hg.2.2.1
        have g3 : h.1.length < 999 := Nat.le_of_ble_eq_true hg.2.2.2
        have gn : ¬ x < 0 := by rw [Int32.lt_iff_toInt_lt, Int32.toInt_zero]; omega
        have gb : x.toNatClampNeg < 100000 := by show x.toInt.toNat < 100000; omega
        have hq : rp_ph b base adK h.1.length = base + (h.1.length - 1) := by
          obtain ⟨q, hq⟩ : ∃ q, h.1.length = q + 1 := ⟨h.1.length - 1, by omega⟩
          rw [hq]
          exact rp_ph_in (by omega)
        have common : ∀ (z : Bool) (cA : ClassId) (H1 : Heap), (bif z then cZ else cI) = cA → H1[base + (h.1.length - 1)]? = some (arrV cA x.toNatClampNeg (fun _ => .int 0)) → H1.size = base + (h.1.length - 1) + 1 → (∀ q, q < base + (h.1.length - 1) → H1[q]? = H[q]?) → t = (j, uc + 1, us + x.toNatClampNeg, pc + 2, ls, .ref h.1.length :: r, (h.1 ++ [.inl (z, x.toNatClampNeg)], rp_zr h.2 h.1.length)) → W p l e R s m args below meth c H1 locs (uc + 1) (us + x.toNatClampNeg) Q (F0 m (pc + 2) lsr (.ref (base + (h.1.length - 1)) :: r.map (rp_vm (rp_ph b base adK)))) := by
          intro z cA H1 ec e1 z1 o1 et
          have kp : ∀ (k : Nat) (x : Nat × va_E), (rp_wd base (rp_ph b base adK) cI cZ h)[k]? = some x → H1[x.1]? = H[x.1]? := fun k x hx => o1 x.1 (by have := (hP k x hx).lt; omega)
          subst et
          have fin := K H1 rfl rfl g1 g2 ⟨by show (h.1 ++ _)[0]? = _; rw [List.getElem?_append_left hl0]; exact h0, by show (h.1 ++ [_]).length ≤ 1000; simp; omega, by show H1.size = base + ((h.1 ++ [_]).length - 1); rw [z1]; simp; omega, ?_⟩ ⟨Nat.le_trans hS.1 (by omega), fun q a1 a2 => (o1 q (by have := hS.1; omega)).trans (hS.2.1 q a1 a2), hS.2.2⟩
          · have fin : W p l e R s m args below meth c H1 locs (uc + 1) (us + x.toNatClampNeg) Q (F0 m (pc + 2) lsr (.ref (rp_ph b base adK h.1.length) :: r.map (rp_vm (rp_ph b base adK)))) := fin
            rw [hq] at fin
            exact fin
          · show va_P D rp_cls (rp_wd base (rp_ph b base adK) cI cZ (h.1 ++ [_], rp_zr h.2 h.1.length)) H1
            rw [rp_wd_push hl0]
            refine (hP.kept kp).app (fun k y hy => ?_)
            have hz : k < 1 := (List.getElem?_eq_some_iff.mp hy).1
            rw [show k = 0 by omega] at hy
            cases hy
            show H1[_]? = some (vp_cell (bif z then cZ else cI) (x.toNatClampNeg, .inl (fun _ => 0)))
            rw [ec, vp_cell_i]
            exact e1
        split at hp
        next =>
          refine va_newaK hx hb (atype := .int) (hts _ rp_arrI) rfl hd rfl gn rfl (by show x.toNatClampNeg * 4 ≤ _; omega) (Nat.le_trans g1 hRc) (Nat.le_trans g2 hRs) h2 fun H1 cA e1 z1 o1 hAr hNm => ?_
          have hc : cI = cA := Option.some.inj ((hK.2 0 _ rfl).2.symm.trans hNm)
          exact common false cA H1 hc e1 z1 o1 (by cases hp; rfl)
        next =>
          refine va_newaK hx hb (atype := .boolean) (hts _ rp_arrZ) rfl hd rfl gn rfl (by show x.toNatClampNeg * 1 ≤ _; omega) (Nat.le_trans g1 hRc) (Nat.le_trans g2 hRs) h2 fun H1 cA e1 z1 o1 hAr hNm => ?_
          have hc : cZ = cA := Option.some.inj ((hK.2 1 _ rfl).2.symm.trans hNm)
          exact common true cA H1 hc e1 z1 o1 (by cases hp; rfl)
        next => cases hp
    next => cases hp
  next => cases hp
end
