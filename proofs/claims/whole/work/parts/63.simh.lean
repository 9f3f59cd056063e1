theorem rp_and1 {x : Int32} (h : x &&& 1 = x) : x = 0 ∨ x = 1 := by
  obtain ⟨j, hj, e⟩ := pk_andE x (m := 1) 1 (by decide)
  rw [h] at e
  have : j = 0 ∨ j = 1 := by omega
  rcases this with rfl | rfl
  · exact Or.inl e
  · exact Or.inr e
theorem rp_ix_in {x : Int32} {n : Nat} (h : rp_ix x n = true) : vp_in x n := by
  unfold rp_ix at h
  simp only [Bool.and_eq_true, decide_eq_true_eq] at h
  exact vp_in_iff.mpr h
theorem rp_fv_get (φ : Nat → Nat) (f : Nat → Int32) (fs : List (Option Value)) (k : Nat) : (rp_fv φ f fs)[k]? = (fs[k]?).map fun x => match x with
  | some v => rp_vm φ v
  | none => .int (f k) := by
  unfold rp_fv
  refine (List.getElem?_mapIdx ..).trans ?_
  cases fs[k]? with
  | none => rfl
  | some x => cases x <;> rfl
theorem rp_fv_len (φ : Nat → Nat) (f : Nat → Int32) (fs : List (Option Value)) : (rp_fv φ f fs).length = fs.length := by simp [rp_fv]
theorem rp_wd_setF {base : Nat} {φ : Nat → Nat} {cI cZ : ClassId} {L : List rp_Sh} {σ : rp_Mm} {a c k : Nat} {fs : List (Option Value)} {v : Value} (hs : L[a + 1]? = some (.inr (c, fs))) (hk : k < fs.length) :
    rp_wd base φ cI cZ (L.set (a + 1) (.inr (c, fs.set k (some v))), σ) = (rp_wd base φ cI cZ (L, σ)).set a (base + a, .inr (c, (rp_fv φ (σ (a + 1)) fs).set k (rp_vm φ v))) := by
  apply List.ext_getElem?
  intro i
  have hlt : a + 1 < L.length := (List.getElem?_eq_some_iff.mp hs).1
  have hlw : (rp_wd base φ cI cZ (L, σ)).length = L.length - 1 := by simp [rp_wd]
  rw [rp_wd_get, List.getElem?_set, List.getElem?_set, rp_wd_get]
  by_cases h : a = i
  · subst h
    simp only [if_true, hlt, hlw, show a < L.length - 1 by omega, Option.map_some]
    congr 2
    show Sum.inr (c, rp_fv φ (σ (a + 1)) (fs.set k (some v))) = _
    congr 2
    apply List.ext_getElem?
    intro q
    rw [rp_fv_get, List.getElem?_set, List.getElem?_set, rp_fv_get, rp_fv_len]
    by_cases hq : k = q
    · subst hq; simp [hk]
    · simp [hq]
  · simp only [if_neg h, if_neg (show ¬ a + 1 = i + 1 by omega)]
theorem rp_wr_ne {σ : rp_Mm} {a b k : Nat} {x : Int32} (h : b ≠ a) : rp_wr σ a k x b = σ b := by
  funext j
  simp [rp_wr, h]
theorem rp_wr_eq {σ : rp_Mm} {a k : Nat} {x : Int32} : rp_wr σ a k x a = upd (σ a) k x := by
  funext j
  simp [rp_wr, upd]
theorem rp_wd_setM {base : Nat} {φ : Nat → Nat} {cI cZ : ClassId} {L : List rp_Sh} {σ : rp_Mm} {a c k : Nat} {fs : List (Option Value)} {x : Int32} (hs : L[a + 1]? = some (.inr (c, fs))) (hk : fs[k]? = some none) :
    rp_wd base φ cI cZ (L, rp_wr σ (a + 1) k x) = (rp_wd base φ cI cZ (L, σ)).set a (base + a, .inr (c, (rp_fv φ (σ (a + 1)) fs).set k (.int x))) := by
  apply List.ext_getElem?
  intro i
  have hlt : a + 1 < L.length := (List.getElem?_eq_some_iff.mp hs).1
  have hkl : k < fs.length := (List.getElem?_eq_some_iff.mp hk).1
  have hlw : (rp_wd base φ cI cZ (L, σ)).length = L.length - 1 := by simp [rp_wd]
  rw [rp_wd_get, List.getElem?_set, rp_wd_get]
  by_cases h : a = i
  · subst h
    simp only [if_true, hlw, show a < L.length - 1 by omega, hs, Option.map_some]
    congr 2
    show Sum.inr (c, rp_fv φ (rp_wr σ (a + 1) k x (a + 1)) fs) = _
    congr 2
    rw [rp_wr_eq]
    apply List.ext_getElem?
    intro q
    rw [rp_fv_get, List.getElem?_set, rp_fv_get, rp_fv_len]
    by_cases hq : k = q
    · subst hq; rw [if_pos rfl, if_pos hkl, hk]; simp [upd]
    · simp only [if_neg hq]
      cases fs[q]? with
      | none => rfl
      | some y => cases y with
        | some v => rfl
        | none => simp [upd, Ne.symm hq]
  · simp only [if_neg h]
    rw [rp_wr_ne (by omega)]
theorem rp_wd_setA {base : Nat} {φ : Nat → Nat} {cI cZ : ClassId} {L : List rp_Sh} {σ : rp_Mm} {a n k : Nat} {z : Bool} {x : Int32} (hs : L[a + 1]? = some (.inl (z, n))) :
    rp_wd base φ cI cZ (L, rp_wr σ (a + 1) k x) = (rp_wd base φ cI cZ (L, σ)).set a (base + a, .inl ((bif z then cZ else cI), n, .inl (upd (σ (a + 1)) k x))) := by
  apply List.ext_getElem?
  intro i
  have hlt : a + 1 < L.length := (List.getElem?_eq_some_iff.mp hs).1
  have hlw : (rp_wd base φ cI cZ (L, σ)).length = L.length - 1 := by simp [rp_wd]
  rw [rp_wd_get, List.getElem?_set, rp_wd_get]
  by_cases h : a = i
  · subst h
    simp only [if_true, hlw, show a < L.length - 1 by omega, hs, Option.map_some]
    congr 2
    show Sum.inl ((bif z then cZ else cI), n, Sum.inl (rp_wr σ (a + 1) k x (a + 1))) = _
    rw [rp_wr_eq]
  · simp only [if_neg h]
    rw [rp_wr_ne (by omega)]
theorem rp_ph_in {b base : Nat} {adK : Nat → Nat} {a : Nat} (h : a + 1 < 1000) : rp_ph b base adK (a + 1) = base + a := by
  simp [rp_ph, h]
theorem rp_ph_0 {b base : Nat} {adK : Nat → Nat} : rp_ph b base adK 0 = b := rfl
section
variable {p : Program} {l : Launch} {e : Env} {R : Room} {s : State} {m : MethodId} {args : Array Value} {below : List Frame} {meth : Method} {c : Code} {H : Heap} {locs : List Loc} {cells slots : Nat} {Q : State → Prop}
variable {cc : ByteArray} {pc : Nat} {ls : Array Slot} {rest : List Value} {D : va_G} {A : Nat → Prop} {a : Nat} {tys : List (ClassId × FieldType)} {ws : va_W} {H0 : Heap}
/-- a field is written; the heap is as large as before -/
theorem rp_put (hx : p.tables.exec = Jvm.exec) (hb : c.code = cc) (hts : ∀ w ∈ rp_gt, w.before args s = true) {own : String} {ci index k q0 : Nat} {fs : List Value} (hC : rp_CF ci) (hown : s.vm.findClass own = some m.cls) (hK : va_K D rp_cls tys s) (hP : va_P D rp_cls ws H) (hD : va_D A ws) (hS0 : va_S A H0 H locs) (he : ws[q0]? = some (a, .inr (ci, fs))) (hk : k < rp_NN ci) (hlink : Cond.fieldLink own index (rp_cn ci) (rp_TT ci k).2.1 (rp_TT ci k).2.2.1 ∈ rp_gt)
    (hfin : (rp_TT ci k).2.2.2 = false ∨ ((rp_TT ci k).2.2.2 = true ∧ meth.name = "<init>" ∧ rp_cn ci = own)) {v : Value} (hn : narrow (rp_ty ci k) v = v) (hfit : fits (rp_ty ci k) v = true) (hl : k < fs.length) (hdg : decode cc pc = .ok (.putfield index, 3))
    (kk : ∀ (H1 : Heap) (locs1 : List Loc), H1.size = H.size → va_P D rp_cls (ws.set q0 (a, .inr (ci, fs.set k v))) H1 → va_S A H0 H1 locs1 → W p l e R s m args below meth c H1 locs1 cells slots Q (F0 m (pc + 3) ls rest)) : W p l e R s m args below meth c H locs cells slots Q (F0 m pc ls (v :: .ref a :: rest)) := by
  obtain ⟨hc, hin, hty, hnm, -, -, -, hself, -⟩ := hC
  have hap := va_apart (own := own) hts hin (rp_ty ci) hty hnm hK hc
  obtain ⟨r, h1, cell, q1, q2, q3, q4⟩ := hP q0 _ he
  have hr : r = (rp_cn ci, rp_TT ci, rp_NN ci) := Option.some.inj (h1.symm.trans hc)
  subst hr
  obtain ⟨hS, hfc, kC, hkC, hkind⟩ := hK.1 ci _ hc
  obtain ⟨cf, kf, fi, f, hi, hsl⟩ := hS k hk
  have hlay := hts _ (hin _ (u_in_lay hk))
  have hst := (u_facts hfc hkC (u_lays hts hin hk) hi).1
  have hi2 : s.fieldFound? (rp_cn ci) (rp_TT ci k).2.1 (rp_TT ci k).2.2.1 = some (cf, kf, fi, f) := by rw [← hself k hk]; exact hi
  have fin : ∀ H' : Heap, H'[a]? = some (cell.setSlot f.slot v) → H'.size = H.size → (∀ q, q ≠ a → H'[q]? = H[q]?) → W p l e R s m args below meth c H' (locs ++ [⟨a, f.slot⟩]) cells slots Q (F0 m (pc + 3) ls rest) := by
    intro H' e1 e2 e3
    rw [hsl] at e1 ⊢
    exact kk H' _ e2 (hP.set hD he ⟨_, hc, t_OB.to (V := updV (vp_V fs) k v) ⟨_, e1, q2, q3, t_set q4 hap hk v⟩ (fun j _ => vp_updV_set hl v j)⟩ e3) (hS0.put e2 e3 (hD.2 q0 _ he))
  unfold u_lay at hlay
  rcases hfin with hfin | ⟨hfin, hin2, hdecl⟩
  · rw [if_neg (by rw [hfin]; decide)] at hlay
    have h6 := u_store hfc hkC hkind hlay hi (hty k hk) hn hfit
    exact W.putK hx hb (f := f) ⟨hown, hts _ hlink, ⟨_, _, _, hi2⟩, hst⟩ (by rw [q2]; exact h6) q1 q3 (by rw [hsl]; exact k2_hasslot (q4 k hk)) rfl rfl hdg fin
  · rw [if_pos hfin] at hlay
    have hcf : m.cls = cf := by
      obtain ⟨_, _, c', _, _, _, -, -, hf', -, -, -, hown2, -⟩ := Cond.laysFinal_spec hlay
      have e1 : c' = cf := by have := hi.symm.trans hf'; simp at this; exact this.1.symm
      rw [hself k hk, hdecl] at hown2
      rw [← e1]; exact Option.some.inj (hown.symm.trans hown2)
    have h6 := u_fits hfc hkC hkind (Or.inr hlay) hi (hty k hk) hn hfit
    exact W.putFinK hx hb hown (hts _ hlink) hi2 hst hcf hin2 (by rw [q2]; exact h6) q1 q3 (by rw [hsl]; exact k2_hasslot (q4 k hk)) rfl rfl hdg fin
/-- an int array's element is written; the heap is as large as before -/
theorem rp_ast (hx : p.tables.exec = Jvm.exec) (hb : c.code = cc) (hK : va_K D rp_cls tys s) (hP : va_P D rp_cls ws H) (hD : va_D A ws) (hS : va_S A H0 H locs) {q0 t0 : Nat} {cA : ClassId} {n : Nat} {f : Nat → Int32} (ha : ws[q0]? = some (a, .inl (cA, n, .inl f))) (ht : tys[t0]? = some (cA, .int)) {i x : Int32} (hin : vp_in i n) (hdg : decode cc pc = .ok (.iastore, 1))
    (kk : ∀ (H1 : Heap) (locs1 : List Loc), H1.size = H.size → va_P D rp_cls (ws.set q0 (a, .inl (cA, n, .inl (upd f i.toNatClampNeg x)))) H1 → va_S A H0 H1 locs1 → W p l e R s m args below meth c H1 locs1 cells slots Q (F0 m (pc + 1) ls rest)) : W p l e R s m args below meth c H locs cells slots Q (F0 m pc ls (.int x :: .int i :: .ref a :: rest)) := by
  refine W.iast hx hb (hP q0 _ ha) ((hK.2 t0 _ ht).1 n (fun j => .int (f j))) (fun q => by cases q) (by show ¬ (i < 0 ∨ (arrV _ _ _).slots.size ≤ _); rw [arrV_size]; exact hin) rfl rfl hdg fun H1 e z oq => ?_
  refine kk H1 _ z (hP.set hD ha ?_ oq) (hS.put z oq (hD.2 q0 _ ha))
  show H1[a]? = some (vp_cell _ _)
  rw [e, vp_cell_i, vp_cell_i, arrV_store]
  congr 2
  funext q
  by_cases hq : q = i.toNatClampNeg
  · subst hq; simp [updV, upd]
  · simp [updV, upd, hq]
theorem rp_zst (hx : p.tables.exec = Jvm.exec) (hb : c.code = cc) (hK : va_K D rp_cls tys s) (hP : va_P D rp_cls ws H) (hD : va_D A ws) (hS : va_S A H0 H locs) {q0 t0 : Nat} {cA : ClassId} {n : Nat} {f : Nat → Int32} (ha : ws[q0]? = some (a, .inl (cA, n, .inl f))) (ht : tys[t0]? = some (cA, .boolean)) {i x : Int32} (hz : x &&& 1 = x) (hin : vp_in i n) (hdg : decode cc pc = .ok (.bastore, 1))
    (kk : ∀ (H1 : Heap) (locs1 : List Loc), H1.size = H.size → va_P D rp_cls (ws.set q0 (a, .inl (cA, n, .inl (upd f i.toNatClampNeg x)))) H1 → va_S A H0 H1 locs1 → W p l e R s m args below meth c H1 locs1 cells slots Q (F0 m (pc + 1) ls rest)) : W p l e R s m args below meth c H locs cells slots Q (F0 m pc ls (.int x :: .int i :: .ref a :: rest)) := by
  refine W.zast hx hb (hP q0 _ ha) ((hK.2 t0 _ ht).1 n (fun j => .int (f j))) (fun q => by cases q) (by show ¬ (i < 0 ∨ (arrV _ _ _).slots.size ≤ _); rw [arrV_size]; exact hin) rfl rfl hdg fun H1 e z oq => ?_
  refine kk H1 _ z (hP.set hD ha ?_ oq) (hS.put z oq (hD.2 q0 _ ha))
  show H1[a]? = some (vp_cell _ _)
  rw [e, vp_cell_i, vp_cell_i, arrV_store]
  congr 2
  funext q
  by_cases hq : q = i.toNatClampNeg
  · subst hq
    have : narrow .boolean (.int x) = .int x := by rcases rp_and1 hz with rfl | rfl <;> decide
    simp [updV, upd, this]
  · simp [updV, upd, hq]
end
section
variable {p : Program} {l : Launch} {e : Env} {R : Room} {s : State} {m : MethodId} {args : Array Value} {below : List Frame} {meth : Method} {c : Code} {H : Heap} {locs : List Loc} {cells slots : Nat} {Q : State → Prop}
variable {D : va_G} {b base : Nat} {adK : Nat → Nat} {cI cZ : ClassId} {j : Nat} {sc : rp_Sc}
set_option maxHeartbeats 4000000 in
theorem rp_simH (hx : p.tables.exec = Jvm.exec) (hb : c.code = (rp_mt j).2.1) (hown : s.vm.findClass (rp_cn (rp_mt j).2.2.2.2.1) = some m.cls) (hts : ∀ w ∈ rp_gt, w.before args s = true) (hmn : (rp_mt j).1.name = "<init>" → meth.name = "<init>") (hK : va_K D rp_cls [(cI, .int), (cZ, .boolean)] s) (hsc : ∀ q xs, sc = some (q, xs) → va_X b q xs s s.heap) (hb1 : b < s.heap.size) (hb2 : b < base)
    {pc n : Nat} {I : Instr} {i : rp_In} {st st' : List Value} {h h' : rp_Hp} {lsr : Array Slot} (hok : rp_okE j (pc, I, n, i) = true) (hd : decode (rp_mt j).2.1 pc = .ok (I, n)) (hp : rp_heap sc I i (!i.2.2.2.isEmpty) h st = some (h', st')) (hH : rp_HR D base (rp_ph b base adK) cI cZ h H) (hS : va_S (fun q => base ≤ q) s.heap H locs)
    (K : ∀ H' locs', rp_HR D base (rp_ph b base adK) cI cZ h' H' → va_S (fun q => base ≤ q) s.heap H' locs' → W p l e R s m args below meth c H' locs' cells slots Q (F0 m (pc + n) lsr (st'.map (rp_vm (rp_ph b base adK))))) : W p l e R s m args below meth c H locs cells slots Q (F0 m pc lsr (st.map (rp_vm (rp_ph b base adK)))) := by
  obtain ⟨h0, h1, h2, hP⟩ := hH
  have hD := rp_wd_D base (rp_ph b base adK) cI cZ h
  have small : ∀ {a : Nat} {sh : rp_Sh}, h.1[a + 1]? = some sh → rp_ph b base adK (a + 1) = base + a := fun hs => rp_ph_in (Nat.lt_of_lt_of_le (List.getElem?_eq_some_iff.mp hs).1 h1)
  unfold rp_heap at hp
  split at hp
  next x =>
    simp only [rp_okE, Bool.and_eq_true, Nat.beq_eq] at hok
    obtain ⟨rfl, hv⟩ := hok
    obtain ⟨z, hz, hz2⟩ := List.any_eq_true.mp hv
    simp only [Bool.and_eq_true, Nat.beq_eq] at hz2
    obtain ⟨hz3, hz4, hz5⟩ := rp_ft_ok z hz
    have hw := rp_gt_of _ hz3 rfl
    rw [hz2.1, hz2.2.1, hz2.2.2.1, hz2.2.2.2] at hw
    rw [hz2.2.2.1] at hz4
    rw [hz2.2.2.1, hz2.2.2.2] at hz5
    have hC := rp_CFs i.1 hz4
    split at hp
    next a r =>
      split at hp
      next v hv =>
        cases hp
        unfold rp_field at hv
        split at hv
        next c1 fs hs =>
          cases hc1 : Nat.beq c1 i.1 with
          | false => rw [hc1] at hv; cases hv
          | true =>
            rw [hc1] at hv
            have hc1 := Nat.eq_of_beq_eq_true hc1
            subst hc1
            have hv : (match fs[i.2.1]? with
              | some (some v) => some v
              | some none => some (.int (h.2 a i.2.1))
              | none => none) = some v := hv
            have ha : a ≠ 0 := by
              rintro rfl
              rw [h0] at hs
              have e := (Prod.mk.inj (Sum.inr.inj (Option.some.inj hs))).2
              subst e
              cases hv
            obtain ⟨a1, rfl⟩ : ∃ a1 : Nat, a = a1 + 1 := ⟨Nat.pred a, (Nat.succ_pred_eq_of_pos (Nat.pos_of_ne_zero ha)).symm⟩
            have he := rp_wd_at (base := base) (φ := rp_ph b base adK) (cI := cI) (cZ := cZ) hs
            show W p l e R s m args below meth c H locs cells slots Q (F0 m pc lsr (.ref (rp_ph b base adK (a1 + 1)) :: List.map (rp_vm (rp_ph b base adK)) _))
            rw [small hs]
            refine va_get (C := rp_cn i.1) (T := rp_TT i.1) (N := rp_NN i.1) (ref := rp_cn i.1) (v := rp_vm (rp_ph b base adK) v) hx hb hts hC.2.1 hown hK hP a1 he hC.1 i.2.1 hz5 (hts _ hw) ?_ ?_ hd ?_
            · intro y hy
              rw [hC.2.2.2.2.2.2.2.1 _ hz5] at hy
              exact hy
            · rw [rp_fv_get]
              cases hf : fs[i.2.1]? with
              | none => rw [hf] at hv; cases hv
              | some y =>
                rw [hf] at hv
                cases y with
                | some w => cases hv; rfl
                | none => cases hv; rfl
            · exact K H locs ⟨h0, h1, h2, hP⟩ hS
        next => cases hv
      next => cases hp
    next => cases hp
  next x =>
    simp only [rp_okE, Bool.and_eq_true, Nat.beq_eq] at hok
    obtain ⟨rfl, hv, hpo⟩ := hok
    obtain ⟨z, hz, hz2⟩ := List.any_eq_true.mp hv
    simp only [Bool.and_eq_true, Nat.beq_eq] at hz2
    obtain ⟨hz3, hz4, hz5⟩ := rp_ft_ok z hz
    have hw := rp_gt_of _ hz3 rfl
    rw [hz2.1, hz2.2.1, hz2.2.2.1, hz2.2.2.2] at hw
    rw [hz2.2.2.1] at hz4
    rw [hz2.2.2.1, hz2.2.2.2] at hz5
    have hC := rp_CFs i.1 hz4
    split at hp
    next v a r =>
      split at hp
      next c1 fs hs =>
        cases hc1 : Nat.beq c1 i.1 with
        | false => rw [hc1] at hp; cases hp
        | true =>
          rw [hc1] at hp
          have hc1 := Nat.eq_of_beq_eq_true hc1
          subst hc1
          simp only [cond_true] at hp
          unfold rp_putok at hpo
          cases hem : i.2.2.2.isEmpty with
          | false =>
            rw [hem] at hp hpo
            simp only [Bool.not_false, cond_true] at hp
            simp only [cond_false] at hpo
            simp only [Bool.and_eq_true, decide_eq_true_eq, Nat.beq_eq] at hpo
            obtain ⟨p1, p2, p3, p4⟩ := hpo
            split at hp
            next w hf =>
              cases hfit : rp_fit i.2.2.1 v with
              | false => rw [hfit] at hp; cases hp
              | true =>
                rw [hfit] at hp
                cases hp
                have ha : a ≠ 0 := by
                  rintro rfl
                  rw [h0] at hs
                  have e := (Prod.mk.inj (Sum.inr.inj (Option.some.inj hs))).2
                  subst e
                  cases hf
                obtain ⟨a1, rfl⟩ : ∃ a1 : Nat, a = a1 + 1 := ⟨Nat.pred a, (Nat.succ_pred_eq_of_pos (Nat.pos_of_ne_zero ha)).symm⟩
                have he := rp_wd_at (base := base) (φ := rp_ph b base adK) (cI := cI) (cZ := cZ) hs
                have hkl : i.2.1 < fs.length := (List.getElem?_eq_some_iff.mp hf).1
                show W p l e R s m args below meth c H locs cells slots Q (F0 m pc lsr (rp_vm (rp_ph b base adK) v :: .ref (rp_ph b base adK (a1 + 1)) :: List.map (rp_vm (rp_ph b base adK)) _))
                rw [small hs]
                have hnf : narrow (rp_ty i.1 i.2.1) (rp_vm (rp_ph b base adK) v) = rp_vm (rp_ph b base adK) v ∧ fits (rp_ty i.1 i.2.1) (rp_vm (rp_ph b base adK) v) = true := by
                  revert p4 hfit
                  cases rp_ty i.1 i.2.1 <;> cases i.2.2.1 <;> cases v <;> simp [rp_fit, rp_vm, narrow, fits]
                refine rp_put hx hb hts hC hown hK hP hD hS he hz5 hw (Or.inr ⟨p1, hmn p2, by rw [p3]⟩) hnf.1 hnf.2 (by rw [rp_fv_len]; exact hkl) hd fun H1 locs1 z1 hP1 hS1 => ?_
                refine K H1 locs1 ⟨?_, ?_, ?_, ?_⟩ hS1
                · rw [List.getElem?_set_ne (by omega)]; exact h0
                · simpa using h1
                · rw [z1, h2]; simp
                · have := rp_wd_setF (base := base) (φ := rp_ph b base adK) (cI := cI) (cZ := cZ) (σ := h.2) (v := v) hs hkl
                  rw [this]; exact hP1
            next => cases hp
          | true =>
            rw [hem] at hp hpo
            simp only [Bool.not_true, cond_false] at hp
            simp only [cond_true] at hpo
            simp only [Bool.and_eq_true, Bool.not_eq_true'] at hpo
            obtain ⟨p1, p4⟩ := hpo
            split at hp
            next hf =>
              split at hp
              next x1 =>
                cases hzk : rp_zok i.2.2.1 x1 with
                | false => rw [hzk] at hp; cases hp
                | true =>
                  rw [hzk] at hp
                  cases hp
                  have ha : a ≠ 0 := by
                    rintro rfl
                    rw [h0] at hs
                    have e := (Prod.mk.inj (Sum.inr.inj (Option.some.inj hs))).2
                    subst e
                    cases hf
                  obtain ⟨a1, rfl⟩ : ∃ a1 : Nat, a = a1 + 1 := ⟨Nat.pred a, (Nat.succ_pred_eq_of_pos (Nat.pos_of_ne_zero ha)).symm⟩
                  have he := rp_wd_at (base := base) (φ := rp_ph b base adK) (cI := cI) (cZ := cZ) hs
                  have hkl : i.2.1 < fs.length := (List.getElem?_eq_some_iff.mp hf).1
                  show W p l e R s m args below meth c H locs cells slots Q (F0 m pc lsr (.int x1 :: .ref (rp_ph b base adK (a1 + 1)) :: List.map (rp_vm (rp_ph b base adK)) _))
                  rw [small hs]
                  have hnf : narrow (rp_ty i.1 i.2.1) (.int x1) = .int x1 ∧ fits (rp_ty i.1 i.2.1) (.int x1) = true := by
                    revert p4 hzk
                    cases rp_ty i.1 i.2.1 <;> cases i.2.2.1 <;> simp [rp_zok, narrow, fits]
                    intro hz
                    rcases rp_and1 hz with rfl | rfl <;> decide
                  refine rp_put hx hb hts hC hown hK hP hD hS he hz5 hw (Or.inl p1) hnf.1 hnf.2 (by rw [rp_fv_len]; exact hkl) hd fun H1 locs1 z1 hP1 hS1 => ?_
                  refine K H1 locs1 ⟨h0, h1, ?_, ?_⟩ hS1
                  · rw [z1, h2]
                  · have := rp_wd_setM (base := base) (φ := rp_ph b base adK) (cI := cI) (cZ := cZ) (σ := h.2) (x := x1) hs hf
                    rw [this]; exact hP1
              next => cases hp
            next => cases hp
      next => cases hp
    next => cases hp
  next =>
    simp only [rp_okE, Nat.beq_eq] at hok
    subst hok
    split at hp
    next x r =>
      cases hq : sc with
      | none => rw [hq] at hp; cases hp
      | some q =>
        rw [hq] at hp
        dsimp only at hp
        cases hix : rp_ix x q.1 with
        | false => rw [hix] at hp; cases hp
        | true =>
          rw [hix] at hp
          cases hp
          exact va_sld hx hb (hsc q.1 q.2 hq) hb1 (by show ¬ base ≤ b; omega) hS (rp_ix_in hix) hd (K H locs ⟨h0, h1, h2, hP⟩ hS)
    next x a r =>
      split at hp
      next k hs =>
        cases hix : rp_ix x k with
        | false => rw [hix] at hp; cases hp
        | true =>
          rw [hix] at hp
          cases hp
          have he := rp_wd_at (base := base) (φ := rp_ph b base adK) (cI := cI) (cZ := cZ) hs
          show W p l e R s m args below meth c H locs cells slots Q (F0 m pc lsr (.int x :: .ref (rp_ph b base adK (a + 1)) :: List.map (rp_vm (rp_ph b base adK)) _))
          rw [small hs]
          exact va_iald hx hb hK hP a 0 he rfl (rp_ix_in hix) hd (K H locs ⟨h0, h1, h2, hP⟩ hS)
      next => cases hp
    next => cases hp
  next =>
    simp only [rp_okE, Nat.beq_eq] at hok
    subst hok
    split at hp
    next x a r =>
      split at hp
      next k hs =>
        cases hix : rp_ix x k with
        | false => rw [hix] at hp; cases hp
        | true =>
          rw [hix] at hp
          cases hp
          have he := rp_wd_at (base := base) (φ := rp_ph b base adK) (cI := cI) (cZ := cZ) hs
          show W p l e R s m args below meth c H locs cells slots Q (F0 m pc lsr (.int x :: .ref (rp_ph b base adK (a + 1)) :: List.map (rp_vm (rp_ph b base adK)) _))
          rw [small hs]
          exact va_zald hx hb hK hP a 1 he rfl (rp_ix_in hix) hd (K H locs ⟨h0, h1, h2, hP⟩ hS)
      next => cases hp
    next => cases hp
  next =>
    simp only [rp_okE, Nat.beq_eq] at hok
    subst hok
    split at hp
    next v x a r =>
      split at hp
      next k hs =>
        cases hix : rp_ix x k with
        | false => rw [hix] at hp; cases hp
        | true =>
          rw [hix] at hp
          cases hp
          have he := rp_wd_at (base := base) (φ := rp_ph b base adK) (cI := cI) (cZ := cZ) hs
          show W p l e R s m args below meth c H locs cells slots Q (F0 m pc lsr (.int _ :: .int _ :: .ref (rp_ph b base adK (_ + 1)) :: List.map (rp_vm (rp_ph b base adK)) _))
          rw [small hs]
          refine rp_ast (t0 := 0) hx hb hK hP hD hS he rfl (rp_ix_in hix) hd fun H1 locs1 z1 hP1 hS1 => ?_
          refine K H1 locs1 ⟨h0, h1, ?_, ?_⟩ hS1
          · rw [z1, h2]
          · have := rp_wd_setA (base := base) (φ := rp_ph b base adK) (cI := cI) (cZ := cZ) (σ := h.2) (k := x.toNatClampNeg) (x := v) hs
            rw [this]; exact hP1
      next => cases hp
    next => cases hp
  next =>
    simp only [rp_okE, Nat.beq_eq] at hok
    subst hok
    split at hp
    next v x a r =>
      split at hp
      next k hs =>
        cases hix : (rp_ix x k && decide (v &&& 1 = v)) with
        | false => rw [hix] at hp; cases hp
        | true =>
          rw [hix] at hp
          cases hp
          simp only [Bool.and_eq_true, decide_eq_true_eq] at hix
          have he := rp_wd_at (base := base) (φ := rp_ph b base adK) (cI := cI) (cZ := cZ) hs
          show W p l e R s m args below meth c H locs cells slots Q (F0 m pc lsr (.int _ :: .int _ :: .ref (rp_ph b base adK (_ + 1)) :: List.map (rp_vm (rp_ph b base adK)) _))
          rw [small hs]
          refine rp_zst (t0 := 1) hx hb hK hP hD hS he rfl hix.2 (rp_ix_in hix.1) hd fun H1 locs1 z1 hP1 hS1 => ?_
          refine K H1 locs1 ⟨h0, h1, ?_, ?_⟩ hS1
          · rw [z1, h2]
          · have := rp_wd_setA (base := base) (φ := rp_ph b base adK) (cI := cI) (cZ := cZ) (σ := h.2) (k := x.toNatClampNeg) (x := v) hs
            rw [this]; exact hP1
      next => cases hp
    next => cases hp
  next =>
    simp only [rp_okE, Nat.beq_eq] at hok
    subst hok
    split at hp
    next r =>
      cases hq : sc with
      | none => rw [hq] at hp; cases hp
      | some q =>
        rw [hq] at hp
        cases hp
        exact va_slen hx hb (hsc q.1 q.2 hq) hb1 (by show ¬ base ≤ b; omega) hS hd (K H locs ⟨h0, h1, h2, hP⟩ hS)
    next a r =>
      split at hp
      next z k hs =>
        cases hp
        have he := rp_wd_at (base := base) (φ := rp_ph b base adK) (cI := cI) (cZ := cZ) hs
        show W p l e R s m args below meth c H locs cells slots Q (F0 m pc lsr (.ref (rp_ph b base adK (a + 1)) :: List.map (rp_vm (rp_ph b base adK)) _))
        rw [small hs]
        cases z with
        | false => exact va_alen (t0 := 0) (ty := .int) hx hb hK hP a he rfl rfl hd (K H locs ⟨h0, h1, h2, hP⟩ hS)
        | true => exact va_alen (t0 := 1) (ty := .boolean) hx hb hK hP a he rfl rfl hd (K H locs ⟨h0, h1, h2, hP⟩ hS)
      next => cases hp
    next => cases hp
  next => cases hp
end
