/-! a text's length and its signs, by the JDK's own code -/
def rp_Qj (v : Option Value) : Array Value → State → Outcome → State → Prop := fun _ st o t => o = .returned v ∧ t.heap = st.heap
def rp_jw (y : MethodName) (cc : ByteArray) (maxL : Nat) (ret : Option FieldType) : List Cond := Cond.code y cc maxL ret :: rp_gt
def rp_jr (f w : Nat) : Room := { frames := f, cells := 0, slots := 0, locals := w }
def rp_jy1 : MethodName := ⟨"java/lang/String", "length", "()I"⟩
def rp_jy2 : MethodName := ⟨"java/lang/String", "coder", "()B"⟩
def rp_jy3 : MethodName := ⟨"java/lang/String", "charAt", "(I)C"⟩
def rp_jy4 : MethodName := ⟨"java/lang/String", "isLatin1", "()Z"⟩
def rp_jy5 : MethodName := ⟨"java/lang/StringLatin1", "charAt", "([BI)C"⟩
def rp_jy6 : MethodName := ⟨"java/lang/String", "checkIndex", "(II)V"⟩
def rp_jy7 : MethodName := ⟨"jdk/internal/util/Preconditions", "checkIndex", "(IILjava/util/function/BiFunction;)I"⟩
set_option maxRecDepth 20000 in
theorem rp_jc1 : Cond.code rp_jy1 prog_13_method_54_code 1 (some .int) ∈ rp_gt := rp_gt_of 481 rfl rfl
set_option maxRecDepth 20000 in
theorem rp_jc2 : Cond.code rp_jy2 prog_13_method_152_code 1 (some .byte) ∈ rp_gt := rp_gt_of 485 rfl rfl
set_option maxRecDepth 20000 in
theorem rp_jc3 : Cond.code rp_jy3 prog_13_method_56_code 2 (some .char) ∈ rp_gt := rp_gt_of 491 rfl rfl
set_option maxRecDepth 20000 in
theorem rp_jc4 : Cond.code rp_jy4 prog_13_method_154_code 1 (some .boolean) ∈ rp_gt := rp_gt_of 495 rfl rfl
set_option maxRecDepth 20000 in
theorem rp_jc5 : Cond.code rp_jy5 prog_14_method_2_code 2 (some .char) ∈ rp_gt := rp_gt_of 498 rfl rfl
set_option maxRecDepth 20000 in
theorem rp_jc6 : Cond.code rp_jy6 prog_13_method_155_code 2 none ∈ rp_gt := rp_gt_of 501 rfl rfl
set_option maxRecDepth 20000 in
theorem rp_jc7 : Cond.code rp_jy7 prog_16_method_11_code 3 (some .int) ∈ rp_gt := rp_gt_of 506 rfl rfl
def rp_jy8 : MethodName := ⟨"java/lang/Integer", "bitCount", "(I)I"⟩
set_option maxRecDepth 20000 in
theorem rp_jc8 : Cond.code rp_jy8 prog_11_method_49_code 1 (some .int) ∈ rp_gt := rp_gt_of 787 rfl rfl
theorem rp_jin {w : Cond} (i : Nat) (h : lw_tbl[i]? = some w) (hg : goodWord w = true) : w ∈ rp_gt := rp_gt_of i h hg
theorem rp_jws {y : MethodName} {cc : ByteArray} {maxL : Nat} {ret : Option FieldType} (h : Cond.code y cc maxL ret ∈ rp_gt) : GoodIn rp_gt (rp_jw y cc maxL ret) := fun w hw => (List.mem_cons.mp hw).elim (fun e => e ▸ rp_gt_good _ h) (rp_gt_good w)
section
variable {l : Launch} {D : va_G} {b base : Nat} {adK adV : Nat → Nat} {cI cZ : ClassId} {sc : rp_Sc}
def rp_JP (D : va_G) (b base : Nat) (adK adV : Nat → Nat) (cI cZ : ClassId) (sc : rp_Sc) (vs : List Value) : Array Value → State → Prop := va_Pc vs (fun U => rp_EP D b base adK adV cI cZ sc U ∧ b < base)
theorem rp_jblind {vs : List Value} : FrameBlind (rp_JP D b base adK adV cI cZ sc vs) := fun a U g mk q => ⟨q.1, q.2.1.blind g mk a, q.2.2⟩
theorem rp_jmet {y : MethodName} {cc : ByteArray} {maxL f w : Nat} {ret : Option FieldType} {vs : List Value} {v : Option Value} (hpl : plainName y.cls = true) (hlen : (lg_sl vs).length ≤ maxL)
    (body : ∀ (p : Program) (e : Env) (s : State) (m : MethodId) (below : List Frame) (meth : Method) (c : Code) (ls : Array Slot), p.tables.exec = Jvm.exec → c.code = cc → meth.sig.returnType = ret → meth.locks = false → c.maxLocals = maxL → s.vm.findClass y.cls = some m.cls → (∀ w ∈ rp_gt, w.before vs.toArray s = true) → rp_EP D b base adK adV cI cZ sc s → b < base → lv_has ls maxL (lv_args 0 vs) →
      W p l e (rp_jr f w) s m vs.toArray below meth c s.heap [] 0 0 (MQ below (rp_Qj v) vs.toArray s 0 0 (fun q => base ≤ q)) (F0 m 0 ls [])) : Met l y (rp_jw y cc maxL ret) (rp_jr f w) (rp_JP D b base adK adV cI cZ sc vs) (rp_Qj v) 0 0 (fun q => base ≤ q) := by
  refine Met.ofW (cc := cc) (maxL := maxL) (ret := ret) hpl rfl ?_
  intro p e s m args below meth c s₁ B hml hv
  obtain ⟨rfl, hEP, hb2⟩ := hv
  have hts0 := atoms_spec (ws := rp_jw y cc maxL ret) B.pre
  rw [lg_entry_eq]
  exact body p e s m below meth c _ B.exec B.bytes B.returns B.notSynchronized hml (findClass_of_methodNamed B.named) (fun w hw => hts0 w (List.mem_cons_of_mem _ hw)) hEP hb2 (lv_entry vs hlen)
variable {p : Program} {e : Env} {R : Room} {s : State} {m : MethodId} {args : Array Value} {below : List Frame} {meth : Method} {c : Code} {H : Heap} {locs : List Loc} {cells slots : Nat} {Q : State → Prop}
theorem rp_jrun {pc : Nat} {lsr : Array Slot} {st0 rest : List Value} {a : Array Value} {v : Option Value} (hr : va_Run p l e R s m args below meth c H locs cells slots 0 0 (F0 m pc lsr st0) rest (rp_Qj v a) (fun q => base ≤ q)) (hS : va_S (fun q => base ≤ q) s.heap H locs)
    (kk : ∀ (locs1 : List Loc), va_S (fun q => base ≤ q) s.heap H locs1 → W p l e R s m args below meth c H locs1 cells slots Q (F0 m (pc + 3) lsr (v.toList ++ rest))) : W p l e R s m args below meth c H locs cells slots Q (F0 m pc lsr st0) := by
  intro T hT X
  obtain ⟨v2, st₀, t, T', L, h0, X', hL, e1, e2, ⟨hv, hh⟩, st⟩ := hr T hT X
  cases hv
  have hTH : T'.heap = H := by rw [e1, hh, h0]
  obtain ⟨t2, a1, b1⟩ := kk (locs ++ L) ⟨hS.1, hS.2.1, fun q hq => by
    rcases List.mem_append.mp hq with h1 | h1
    · exact hS.2.2 q h1
    · exact hL q h1⟩ T' hTH X'
  exact ⟨t2, st t2 a1, b1⟩
/-- a virtual call on a text -/
theorem rp_jcallV {cc by1 : ByteArray} {own : String} {x pc k maxL f w n : Nat} {y : MethodName} {ret : Option FieldType} {As rest : List Value} {v : Option Value} {lsr : Array Slot} (hx : p.tables.exec = Jvm.exec) (hb : c.code = cc) (hml : c.maxLocals = lsr.size) (hown : s.vm.findClass own = some m.cls) (hts : ∀ w ∈ rp_gt, w.before args s = true) (hM : Met l y (rp_jw y by1 maxL ret) (rp_jr f w) (rp_JP D b base adK adV cI cZ sc (.ref (adK k) :: As)) (rp_Qj v) 0 0 (fun q => base ≤ q)) (hcode : Cond.code y by1 maxL ret ∈ rp_gt) (hlink : Cond.methodLink own x y ∈ rp_gt) (hinst : Cond.instanceMethod y ∈ rp_gt) (hsel : Cond.selects "java/lang/String" y y ∈ rp_gt) (hyc : y.cls = "java/lang/String") (hyd : (parseMethodDescriptor y.desc).map (fun d => d.parameters.length) = some n) (hn : As.length = n) (hE : rp_EP D b base adK adV cI cZ sc s) (hb2 : b < base) (hS : va_S (fun q => base ≤ q) s.heap H locs) (hk : k < 12) (hf : f + 1 ≤ R.frames) (hw : 8 + (maxL + 11) + w ≤ R.locals) (hc : cells ≤ R.cells) (hs : slots ≤ R.slots) (hr : (rest.map fun v => v.category).sum ≤ 8) (hd : decode cc pc = .ok (.invokevirtual x, 3))
    (K : ∀ locs', va_S (fun q => base ≤ q) s.heap H locs' → W p l e R s m args below meth c H locs' cells slots Q (F0 m (pc + 3) lsr (v.toList ++ rest))) : W p l e R s m args below meth c H locs cells slots Q (F0 m pc lsr (As.reverse ++ .ref (adK k) :: rest)) := by
  have hini : Cond.initialized y.cls ∈ rp_gt := by rw [hyc]; exact rp_gt_of 92 (by decide +kernel) rfl
  refine rp_jrun (va_runV (C := "java/lang/String") (b := adK k) (As := As) ⟨hx, hb, hml, hown, hts⟩ hM ⟨callB_of n hts (rp_jws hcode) rfl rfl rfl (hts _ hini) (hts _ hlink) ⟨by rw [hyc]; decide, by rw [hyc]; decide, hyd⟩ ⟨hf, hw⟩, hts _ hinst, hts _ hsel⟩ ⟨rp_jblind, vk_recv hE.2.2.2.2.1 hk hS, fun U hu hW => ⟨rfl, hE.move hb2 hS hu hW, hb2⟩⟩ rfl hn rfl rfl (lv_room hr) hd ⟨hc, hs⟩) hS K
theorem rp_jcallS {cc by1 : ByteArray} {own : String} {x pc maxL f w n : Nat} {y : MethodName} {ret : Option FieldType} {As rest : List Value} {v : Option Value} {lsr : Array Slot} (hx : p.tables.exec = Jvm.exec) (hb : c.code = cc) (hml : c.maxLocals = lsr.size) (hown : s.vm.findClass own = some m.cls) (hts : ∀ w ∈ rp_gt, w.before args s = true) (hM : Met l y (rp_jw y by1 maxL ret) (rp_jr f w) (rp_JP D b base adK adV cI cZ sc As) (rp_Qj v) 0 0 (fun q => base ≤ q)) (hcode : Cond.code y by1 maxL ret ∈ rp_gt) (hlink : Cond.methodLink own x y ∈ rp_gt) (hstat : Cond.static y ∈ rp_gt) (hini : Cond.initialized y.cls ∈ rp_gt) (hy : y.cls ≠ "java/lang/invoke/MethodHandle" ∧ y.cls ≠ "java/lang/invoke/VarHandle" ∧ (parseMethodDescriptor y.desc).map (fun d => d.parameters.length) = some n) (hn : As.length = n) (hE : rp_EP D b base adK adV cI cZ sc s) (hb2 : b < base) (hS : va_S (fun q => base ≤ q) s.heap H locs) (hf : f + 1 ≤ R.frames) (hw : 8 + (maxL + 11) + w ≤ R.locals) (hc : cells ≤ R.cells) (hs : slots ≤ R.slots) (hr : (rest.map fun v => v.category).sum ≤ 8) (hd : decode cc pc = .ok (.invokestatic x, 3))
    (K : ∀ locs', va_S (fun q => base ≤ q) s.heap H locs' → W p l e R s m args below meth c H locs' cells slots Q (F0 m (pc + 3) lsr (v.toList ++ rest))) : W p l e R s m args below meth c H locs cells slots Q (F0 m pc lsr (As.reverse ++ rest)) :=
  rp_jrun (va_runS (As := As) ⟨hx, hb, hml, hown, hts⟩ hM ⟨callB_of n hts (rp_jws hcode) rfl rfl rfl (hts _ hini) (hts _ hlink) hy ⟨hf, hw⟩, hts _ hstat⟩ ⟨rp_jblind, fun U hu hW => ⟨rfl, hE.move hb2 hS hu hW, hb2⟩⟩ rfl hn rfl rfl (lv_room hr) hd ⟨hc, hs⟩) hS K
end
section
variable {l : Launch} {D : va_G} {b base : Nat} {adK adV : Nat → Nat} {cI cZ : ClassId} {sc : rp_Sc}
theorem rp_j2 {k : Nat} (hk : k < 12) : Met l rp_jy2 (rp_jw rp_jy2 prog_13_method_152_code 1 (some .byte)) (rp_jr 0 0) (rp_JP D b base adK adV cI cZ sc [.ref (adK k)]) (rp_Qj (some (.int 0))) 0 0 (fun q => base ≤ q) := by
  refine rp_jmet (by decide) (by simp [lg_sl, Value.category]) ?_
  intro p e s m below meth c ls hx hb hr hlocks hml hown hts hE hb2 hl
  have hS : va_S (fun q => base ≤ q) s.heap s.heap [] := va_S.rf
  refine va_gets hx hb hE.2.2.2.2.2.1 hS hown (hts _ (rp_jin 486 (by decide +kernel) rfl)) (fun _ h => h) (show decode prog_13_method_152_code 0 = .ok (.getstatic 38, 3) by decide +kernel) ?_
  refine lv_if_eq (tgt := 13) hx hb (show decode prog_13_method_152_code 3 = .ok (.ifCond .eq 10, 3) by decide +kernel) (by decide) (fun h => absurd h (by decide)) (fun _ => ?_)
  refine lv_aload_n hx hb (show decode prog_13_method_152_code 6 = .ok (.aload_n 0, 1) by decide +kernel) rfl (lv_at hl 0 rfl) ?_
  refine vk_getf hx hb (hE.2.2.2.2.1.1 k hk).2.1 hS hown (hts _ (rp_jin 1408 (by decide +kernel) rfl)) (fun _ h => h) (show decode prog_13_method_152_code 7 = .ok (.getfield 15, 3) by decide +kernel) ?_
  refine lv_goto (tgt := 14) hx hb (show decode prog_13_method_152_code 10 = .ok (.goto 4, 3) by decide +kernel) (by decide) ?_
  exact W.zret (v := 0) hx hb hr (by decide) (fun t ht hW => ⟨rfl, ht⟩) hS.2.2 (show decode prog_13_method_152_code 14 = .ok (.ireturn, 1) by decide +kernel)
theorem rp_j4 {k : Nat} (hk : k < 12) : Met l rp_jy4 (rp_jw rp_jy4 prog_13_method_154_code 1 (some .boolean)) (rp_jr 0 0) (rp_JP D b base adK adV cI cZ sc [.ref (adK k)]) (rp_Qj (some (.int 1))) 0 0 (fun q => base ≤ q) := by
  refine rp_jmet (by decide) (by simp [lg_sl, Value.category]) ?_
  intro p e s m below meth c ls hx hb hr hlocks hml hown hts hE hb2 hl
  have hS : va_S (fun q => base ≤ q) s.heap s.heap [] := va_S.rf
  refine va_gets hx hb hE.2.2.2.2.2.1 hS hown (hts _ (rp_jin 486 (by decide +kernel) rfl)) (fun _ h => h) (show decode prog_13_method_154_code 0 = .ok (.getstatic 38, 3) by decide +kernel) ?_
  refine lv_if_eq (tgt := 17) hx hb (show decode prog_13_method_154_code 3 = .ok (.ifCond .eq 14, 3) by decide +kernel) (by decide) (fun h => absurd h (by decide)) (fun _ => ?_)
  refine lv_aload_n hx hb (show decode prog_13_method_154_code 6 = .ok (.aload_n 0, 1) by decide +kernel) rfl (lv_at hl 0 rfl) ?_
  refine vk_getf hx hb (hE.2.2.2.2.1.1 k hk).2.1 hS hown (hts _ (rp_jin 1408 (by decide +kernel) rfl)) (fun _ h => h) (show decode prog_13_method_154_code 7 = .ok (.getfield 15, 3) by decide +kernel) ?_
  refine lv_if_ne (tgt := 17) hx hb (show decode prog_13_method_154_code 10 = .ok (.ifCond .ne 7, 3) by decide +kernel) (by decide) (fun h => absurd rfl h) (fun _ => ?_)
  refine lv_iconst (v := 1) hx hb (show decode prog_13_method_154_code 13 = .ok (.iconst 1, 1) by decide +kernel) (by decide) ?_
  refine lv_goto (tgt := 18) hx hb (show decode prog_13_method_154_code 14 = .ok (.goto 4, 3) by decide +kernel) (by decide) ?_
  exact W.zret (v := 1) hx hb hr (by decide) (fun t ht hW => ⟨rfl, ht⟩) hS.2.2 (show decode prog_13_method_154_code 18 = .ok (.ireturn, 1) by decide +kernel)
theorem rp_j7 {y n : Int32} {z : Value} (hz : z = .null ∨ ∃ t, z = .ref t) (h1 : ¬ y < 0) (h2 : y < n) : Met l rp_jy7 (rp_jw rp_jy7 prog_16_method_11_code 3 (some .int)) (rp_jr 0 0) (rp_JP D b base adK adV cI cZ sc [.int y, .int n, z]) (rp_Qj (some (.int y))) 0 0 (fun q => base ≤ q) := by
  have hc : z.category = 1 := by rcases hz with rfl | ⟨t, rfl⟩ <;> rfl
  refine rp_jmet (by decide) (by rcases hz with rfl | ⟨t, rfl⟩ <;> simp [lg_sl, Value.category]) ?_
  intro p e s m below meth c ls hx hb hr hlocks hml hown hts hE hb2 hl
  have hS : va_S (fun q => base ≤ q) s.heap s.heap [] := va_S.rf
  refine lv_iload_n hx hb (show decode prog_16_method_11_code 0 = .ok (.iload_n 0, 1) by decide +kernel) rfl (lv_at hl 0 rfl) ?_
  refine lv_if_lt (tgt := 9) hx hb (show decode prog_16_method_11_code 1 = .ok (.ifCond .lt 8, 3) by decide +kernel) (by decide) (fun h => absurd h h1) (fun _ => ?_)
  refine lv_iload_n hx hb (show decode prog_16_method_11_code 4 = .ok (.iload_n 0, 1) by decide +kernel) rfl (lv_at hl 0 rfl) ?_
  refine lv_iload_n hx hb (show decode prog_16_method_11_code 5 = .ok (.iload_n 1, 1) by decide +kernel) rfl (lv_at hl 1 rfl) ?_
  refine lv_icmp_lt (tgt := 16) hx hb (show decode prog_16_method_11_code 6 = .ok (.if_icmp .lt 10, 3) by decide +kernel) (by decide) (fun _ => ?_) (fun h => absurd h2 h)
  refine lv_iload_n hx hb (show decode prog_16_method_11_code 16 = .ok (.iload_n 0, 1) by decide +kernel) rfl (lv_at hl 0 rfl) ?_
  exact W.iret (v := y) hx hb hr (fun t ht hW => ⟨rfl, ht⟩) hS.2.2 (show decode prog_16_method_11_code 17 = .ok (.ireturn, 1) by decide +kernel)
set_option maxHeartbeats 1000000 in
theorem rp_j6 {y n : Int32} (h1 : ¬ y < 0) (h2 : y < n) : Met l rp_jy6 (rp_jw rp_jy6 prog_13_method_155_code 2 none) (rp_jr 1 22) (rp_JP D b base adK adV cI cZ sc [.int y, .int n]) (rp_Qj none) 0 0 (fun q => base ≤ q) := by
  refine rp_jmet (by decide) (by simp [lg_sl, Value.category]) ?_
  intro p e s m below meth c ls hx hb hr hlocks hml hown hts hE hb2 hl
  have hS : va_S (fun q => base ≤ q) s.heap s.heap [] := va_S.rf
  refine lv_iload_n hx hb (show decode prog_13_method_155_code 0 = .ok (.iload_n 0, 1) by decide +kernel) rfl (lv_at hl 0 rfl) ?_
  refine lv_iload_n hx hb (show decode prog_13_method_155_code 1 = .ok (.iload_n 1, 1) by decide +kernel) rfl (lv_at hl 1 rfl) ?_
  have go : ∀ z : Value, (z = .null ∨ ∃ t, z = .ref t) → W p l e (rp_jr 1 22) s m ([Value.int y, Value.int n] : List Value).toArray below meth c s.heap [] 0 0 (MQ below (rp_Qj none) ([Value.int y, Value.int n] : List Value).toArray s 0 0 (fun q => base ≤ q)) (F0 m (2 + 3) ls (z :: .int n :: .int y :: [])) := by
    intro z hz
    refine rp_jcallS (As := [.int y, .int n, z]) (rest := []) hx hb (hml.trans hl.1.symm) hown hts (rp_j7 hz h1 h2) rp_jc7 (rp_jin 504 (by decide +kernel) rfl) (rp_jin 505 (by decide +kernel) rfl) (rp_jin 94 (by decide +kernel) rfl) (n := 3) ⟨by decide, by decide, by decide +kernel⟩ rfl hE hb2 hS (Nat.le_refl _) (Nat.le_refl _) (Nat.le_refl _) (Nat.le_refl _) (by decide) (show decode prog_13_method_155_code 5 = .ok (.invokestatic 1059, 3) by decide +kernel) (fun locs' hS' => ?_)
    refine lv_pop hx hb (show decode prog_13_method_155_code 8 = .ok (.pop, 1) by decide +kernel) rfl ?_
    exact W.vret hx hb hr (fun t ht hW => ⟨rfl, ht⟩) hS'.2.2 (show decode prog_13_method_155_code 9 = .ok (.return_, 1) by decide +kernel)
  rcases hE.2.2.2.2.2.2.2 with hZ | ⟨t, hZ⟩
  · exact va_gets hx hb hZ hS hown (hts _ (rp_jin 502 (by decide +kernel) rfl)) (fun _ h => h) (show decode prog_13_method_155_code 2 = .ok (.getstatic 1053, 3) by decide +kernel) (go _ (Or.inl rfl))
  · exact va_gets hx hb hZ hS hown (hts _ (rp_jin 502 (by decide +kernel) rfl)) (fun _ h => h) (show decode prog_13_method_155_code 2 = .ok (.getstatic 1053, 3) by decide +kernel) (go _ (Or.inr ⟨t, rfl⟩))
/-- the texts' bytes -/
theorem rp_txs : ∀ k, k < 12 → rp_sl.getD k 0 = (rp_tx k).length ∧ (rp_txl.getD k []) = rp_tx k ∧ (rp_tx k).length < 2 ^ 31 ∧ ∀ j, j < (rp_tx k).length → ((((rp_tx k).getD j 0) &&& 255).toUInt32 % 65536).toInt32 = (rp_tx k).getD j 0 ∧ narrow .char (.int ((rp_tx k).getD j 0)) = .int ((rp_tx k).getD j 0) := by decide +kernel
set_option maxHeartbeats 1000000 in
theorem rp_j5 {k : Nat} (hk : k < 12) {y : Int32} (hy : rp_ix y (rp_tx k).length = true) : Met l rp_jy5 (rp_jw rp_jy5 prog_14_method_2_code 2 (some .char)) (rp_jr 2 43) (rp_JP D b base adK adV cI cZ sc [.ref (adV k), .int y]) (rp_Qj (some (.int ((rp_tx k).getD y.toNatClampNeg 0)))) 0 0 (fun q => base ≤ q) := by
  obtain ⟨t1, t2, t3, t4⟩ := rp_txs k hk
  have hin := rp_ix_in hy
  have hin2 := vp_in_iff.mp hin
  obtain ⟨j, hj, ej⟩ := vp_in_of hin t3
  refine rp_jmet (by decide) (by simp [lg_sl, Value.category]) ?_
  intro p e s m below meth c ls hx hb hr hlocks hml hown hts hE hb2 hl
  have hS : va_S (fun q => base ≤ q) s.heap s.heap [] := va_S.rf
  have hT := (hE.2.2.2.2.1.1 k hk).2.2.2
  rw [t1, t2] at hT
  refine lv_iload_n hx hb (show decode prog_14_method_2_code 0 = .ok (.iload_n 1, 1) by decide +kernel) rfl (lv_at hl 1 rfl) ?_
  refine lv_aload_n hx hb (show decode prog_14_method_2_code 1 = .ok (.aload_n 0, 1) by decide +kernel) rfl (lv_at hl 0 rfl) ?_
  refine va_tlen hx hb hT hS rfl (show decode prog_14_method_2_code 2 = .ok (.arraylength, 1) by decide +kernel) ?_
  have g1 : ¬ y < 0 := by rw [Int32.lt_iff_toInt_lt, Int32.toInt_zero]; omega
  have g2 : y < Int32.ofNat (rp_tx k).length := by rw [ej]; exact nI_lt hj t3
  refine rp_jcallS (As := [.int y, .int (Int32.ofNat (rp_tx k).length)]) (rest := []) hx hb (hml.trans hl.1.symm) hown hts (rp_j6 g1 g2) rp_jc6 (rp_jin 499 (by decide +kernel) rfl) (rp_jin 500 (by decide +kernel) rfl) (rp_jin 92 (by decide +kernel) rfl) (n := 2) ⟨by decide, by decide, by decide +kernel⟩ rfl hE hb2 hS (Nat.le_refl _) (Nat.le_refl _) (Nat.le_refl _) (Nat.le_refl _) (by decide) (show decode prog_14_method_2_code 3 = .ok (.invokestatic 9, 3) by decide +kernel) (fun locs' hS' => ?_)
  refine lv_aload_n hx hb (show decode prog_14_method_2_code 6 = .ok (.aload_n 0, 1) by decide +kernel) rfl (lv_at hl 0 rfl) ?_
  refine lv_iload_n hx hb (show decode prog_14_method_2_code 7 = .ok (.iload_n 1, 1) by decide +kernel) rfl (lv_at hl 1 rfl) ?_
  refine va_tb hx hb hT hS' hin rfl (show decode prog_14_method_2_code 8 = .ok (.baload, 1) by decide +kernel) ?_
  refine lv_sipush (v := 255) hx hb (show decode prog_14_method_2_code 9 = .ok (.sipush 255, 3) by decide +kernel) (by decide) ?_
  refine lv_iand hx hb (show decode prog_14_method_2_code 12 = .ok (.iand, 1) by decide +kernel) ?_
  have hcl : y.toNatClampNeg = j := by rw [ej]; exact nI_clamp (by omega)
  refine lv_i2c (v := (rp_tx k).getD y.toNatClampNeg 0) hx hb (show decode prog_14_method_2_code 13 = .ok (.i2c, 1) by decide +kernel) (by rw [hcl]; exact (t4 j hj).1) ?_
  exact W.zret (v := (rp_tx k).getD y.toNatClampNeg 0) hx hb hr (by rw [hcl]; exact (t4 j hj).2) (fun t ht hW => ⟨rfl, ht⟩) hS'.2.2 (show decode prog_14_method_2_code 14 = .ok (.ireturn, 1) by decide +kernel)
set_option maxHeartbeats 1000000 in
theorem rp_j3 {k : Nat} (hk : k < 12) {y : Int32} (hy : rp_ix y (rp_tx k).length = true) : Met l rp_jy3 (rp_jw rp_jy3 prog_13_method_56_code 2 (some .char)) (rp_jr 3 64) (rp_JP D b base adK adV cI cZ sc [.ref (adK k), .int y]) (rp_Qj (some (.int ((rp_tx k).getD y.toNatClampNeg 0)))) 0 0 (fun q => base ≤ q) := by
  obtain ⟨t1, t2, t3, t4⟩ := rp_txs k hk
  have hin := rp_ix_in hy
  obtain ⟨j, hj, ej⟩ := vp_in_of hin t3
  have hcl : y.toNatClampNeg = j := by rw [ej]; exact nI_clamp (by omega)
  refine rp_jmet (by decide) (by simp [lg_sl, Value.category]) ?_
  intro p e s m below meth c ls hx hb hr hlocks hml hown hts hE hb2 hl
  have hS : va_S (fun q => base ≤ q) s.heap s.heap [] := va_S.rf
  refine lv_aload_n hx hb (show decode prog_13_method_56_code 0 = .ok (.aload_n 0, 1) by decide +kernel) rfl (lv_at hl 0 rfl) ?_
  refine rp_jcallV (As := []) (rest := []) hx hb (hml.trans hl.1.symm) hown hts (rp_j4 hk) rp_jc4 (rp_jin 492 (by decide +kernel) rfl) (rp_jin 493 (by decide +kernel) rfl) (rp_jin 494 (by decide +kernel) rfl) rfl (n := 0) (by decide +kernel) rfl hE hb2 hS hk (by decide) (by decide) (Nat.le_refl _) (Nat.le_refl _) (by decide) (show decode prog_13_method_56_code 1 = .ok (.invokevirtual 492, 3) by decide +kernel) (fun locs' hS' => ?_)
  refine lv_if_eq (tgt := 16) hx hb (show decode prog_13_method_56_code 4 = .ok (.ifCond .eq 12, 3) by decide +kernel) (by decide) (fun h => absurd h (by decide)) (fun _ => ?_)
  refine lv_aload_n hx hb (show decode prog_13_method_56_code 7 = .ok (.aload_n 0, 1) by decide +kernel) rfl (lv_at hl 0 rfl) ?_
  refine vk_getf hx hb (hE.2.2.2.2.1.1 k hk).2.2.1 hS' hown (hts _ (rp_jin 1407 (by decide +kernel) rfl)) (fun _ h => h) (show decode prog_13_method_56_code 8 = .ok (.getfield 9, 3) by decide +kernel) ?_
  refine lv_iload_n hx hb (show decode prog_13_method_56_code 11 = .ok (.iload_n 1, 1) by decide +kernel) rfl (lv_at hl 1 rfl) ?_
  refine rp_jcallS (As := [.ref (adV k), .int y]) (rest := []) hx hb (hml.trans hl.1.symm) hown hts (rp_j5 hk hy) rp_jc5 (rp_jin 496 (by decide +kernel) rfl) (rp_jin 497 (by decide +kernel) rfl) (rp_jin 93 (by decide +kernel) rfl) (n := 2) ⟨by decide, by decide, by decide +kernel⟩ rfl hE hb2 hS' (by decide) (by decide) (Nat.le_refl _) (Nat.le_refl _) (by decide) (show decode prog_13_method_56_code 12 = .ok (.invokestatic 495, 3) by decide +kernel) (fun locs2 hS2 => ?_)
  exact W.zret (v := (rp_tx k).getD y.toNatClampNeg 0) hx hb hr (by rw [hcl]; exact (t4 j hj).2) (fun t ht hW => ⟨rfl, ht⟩) hS2.2.2 (show decode prog_13_method_56_code 15 = .ok (.ireturn, 1) by decide +kernel)
set_option maxHeartbeats 1000000 in
theorem rp_j1 {k : Nat} (hk : k < 12) : Met l rp_jy1 (rp_jw rp_jy1 prog_13_method_54_code 1 (some .int)) (rp_jr 1 20) (rp_JP D b base adK adV cI cZ sc [.ref (adK k)]) (rp_Qj (some (.int (Int32.ofNat (rp_tx k).length)))) 0 0 (fun q => base ≤ q) := by
  obtain ⟨t1, t2, t3, t4⟩ := rp_txs k hk
  refine rp_jmet (by decide) (by simp [lg_sl, Value.category]) ?_
  intro p e s m below meth c ls hx hb hr hlocks hml hown hts hE hb2 hl
  have hS : va_S (fun q => base ≤ q) s.heap s.heap [] := va_S.rf
  have hT := (hE.2.2.2.2.1.1 k hk).2.2.2
  rw [t1] at hT
  refine lv_aload_n hx hb (show decode prog_13_method_54_code 0 = .ok (.aload_n 0, 1) by decide +kernel) rfl (lv_at hl 0 rfl) ?_
  refine vk_getf hx hb (hE.2.2.2.2.1.1 k hk).2.2.1 hS hown (hts _ (rp_jin 1407 (by decide +kernel) rfl)) (fun _ h => h) (show decode prog_13_method_54_code 1 = .ok (.getfield 9, 3) by decide +kernel) ?_
  refine va_tlen hx hb hT hS rfl (show decode prog_13_method_54_code 4 = .ok (.arraylength, 1) by decide +kernel) ?_
  refine lv_aload_n hx hb (show decode prog_13_method_54_code 5 = .ok (.aload_n 0, 1) by decide +kernel) rfl (lv_at hl 0 rfl) ?_
  refine rp_jcallV (As := []) hx hb (hml.trans hl.1.symm) hown hts (rp_j2 hk) rp_jc2 (rp_jin 482 (by decide +kernel) rfl) (rp_jin 483 (by decide +kernel) rfl) (rp_jin 484 (by decide +kernel) rfl) rfl (n := 0) (by decide +kernel) rfl hE hb2 hS hk (by decide) (by decide) (Nat.le_refl _) (Nat.le_refl _) (by show 1 + 0 ≤ 8; decide) (show decode prog_13_method_54_code 6 = .ok (.invokevirtual 335, 3) by decide +kernel) (fun locs' hS' => ?_)
  refine lv_ishr hx hb (show decode prog_13_method_54_code 9 = .ok (.ishr, 1) by decide +kernel) ?_
  have e0 : Int32.ofNat (rp_tx k).length >>> ((0 : Int32) &&& 31) = Int32.ofNat (rp_tx k).length := by
    have := pk_shrN (n := (rp_tx k).length) t3 ((0 : Int32) &&& 31) 0 (by decide)
    rw [Nat.pow_zero, Nat.div_one] at this
    exact this
  rw [e0]
  exact W.iret hx hb hr (fun t ht hW => ⟨rfl, ht⟩) hS'.2.2 (show decode prog_13_method_54_code 10 = .ok (.ireturn, 1) by decide +kernel)
set_option maxHeartbeats 1000000 in
theorem rp_jb {y : Int32} : Met l rp_jy8 (rp_jw rp_jy8 prog_11_method_49_code 1 (some .int)) (rp_jr 0 0) (rp_JP D b base adK adV cI cZ sc [.int y]) (rp_Qj (some (.int (rp_bc y)))) 0 0 (fun q => base ≤ q) := by
  refine rp_jmet (by decide) (by simp [lg_sl, Value.category]) ?_
  intro p e s m below meth c ls hx hb hr hlocks hml hown hts hE hb2 hl
  have hS : va_S (fun q => base ≤ q) s.heap s.heap [] := va_S.rf
  refine lv_iload_n hx hb (show decode prog_11_method_49_code 0 = .ok (.iload_n 0, 1) by decide +kernel) rfl (lv_at hl 0 rfl) ?_
  refine lv_iload_n hx hb (show decode prog_11_method_49_code 1 = .ok (.iload_n 0, 1) by decide +kernel) rfl (lv_at hl 0 rfl) ?_
  refine lv_iconst (v := 1) hx hb (show decode prog_11_method_49_code 2 = .ok (.iconst 1, 1) by decide +kernel) (by decide) ?_
  refine lv_iushr (v := rp_us (y) 1) hx hb (show decode prog_11_method_49_code 3 = .ok (.iushr, 1) by decide +kernel) rfl ?_
  refine lv_ldcw (v := 1431655765) hx hb hown (hts _ (rp_jin 788 (by decide +kernel) rfl)) (show decode prog_11_method_49_code 4 = .ok (.ldc_w 265, 3) by decide +kernel) ?_
  refine lv_iand hx hb (show decode prog_11_method_49_code 7 = .ok (.iand, 1) by decide +kernel) ?_
  refine lv_isub hx hb (show decode prog_11_method_49_code 8 = .ok (.isub, 1) by decide +kernel) ?_
  refine lv_istore_n (x := rp_b1 y) (lv' := [(0, .int (rp_b1 y))]) hx hb (show decode prog_11_method_49_code 9 = .ok (.istore_n 0, 1) by decide +kernel) rfl hl (by decide) rfl (fun ls1 h1 => ?_)
  refine lv_iload_n hx hb (show decode prog_11_method_49_code 10 = .ok (.iload_n 0, 1) by decide +kernel) rfl (lv_at h1 0 rfl) ?_
  refine lv_ldcw (v := 858993459) hx hb hown (hts _ (rp_jin 789 (by decide +kernel) rfl)) (show decode prog_11_method_49_code 11 = .ok (.ldc_w 266, 3) by decide +kernel) ?_
  refine lv_iand hx hb (show decode prog_11_method_49_code 14 = .ok (.iand, 1) by decide +kernel) ?_
  refine lv_iload_n hx hb (show decode prog_11_method_49_code 15 = .ok (.iload_n 0, 1) by decide +kernel) rfl (lv_at h1 0 rfl) ?_
  refine lv_iconst (v := 2) hx hb (show decode prog_11_method_49_code 16 = .ok (.iconst 2, 1) by decide +kernel) (by decide) ?_
  refine lv_iushr (v := rp_us (rp_b1 y) 2) hx hb (show decode prog_11_method_49_code 17 = .ok (.iushr, 1) by decide +kernel) rfl ?_
  refine lv_ldcw (v := 858993459) hx hb hown (hts _ (rp_jin 789 (by decide +kernel) rfl)) (show decode prog_11_method_49_code 18 = .ok (.ldc_w 266, 3) by decide +kernel) ?_
  refine lv_iand hx hb (show decode prog_11_method_49_code 21 = .ok (.iand, 1) by decide +kernel) ?_
  refine lv_iadd hx hb (show decode prog_11_method_49_code 22 = .ok (.iadd, 1) by decide +kernel) ?_
  refine lv_istore_n (x := rp_b2 (rp_b1 y)) (lv' := [(0, .int (rp_b2 (rp_b1 y)))]) hx hb (show decode prog_11_method_49_code 23 = .ok (.istore_n 0, 1) by decide +kernel) rfl h1 (by decide) rfl (fun ls2 h2 => ?_)
  refine lv_iload_n hx hb (show decode prog_11_method_49_code 24 = .ok (.iload_n 0, 1) by decide +kernel) rfl (lv_at h2 0 rfl) ?_
  refine lv_iload_n hx hb (show decode prog_11_method_49_code 25 = .ok (.iload_n 0, 1) by decide +kernel) rfl (lv_at h2 0 rfl) ?_
  refine lv_iconst (v := 4) hx hb (show decode prog_11_method_49_code 26 = .ok (.iconst 4, 1) by decide +kernel) (by decide) ?_
  refine lv_iushr (v := rp_us (rp_b2 (rp_b1 y)) 4) hx hb (show decode prog_11_method_49_code 27 = .ok (.iushr, 1) by decide +kernel) rfl ?_
  refine lv_iadd hx hb (show decode prog_11_method_49_code 28 = .ok (.iadd, 1) by decide +kernel) ?_
  refine lv_ldcw (v := 252645135) hx hb hown (hts _ (rp_jin 790 (by decide +kernel) rfl)) (show decode prog_11_method_49_code 29 = .ok (.ldc_w 267, 3) by decide +kernel) ?_
  refine lv_iand hx hb (show decode prog_11_method_49_code 32 = .ok (.iand, 1) by decide +kernel) ?_
  refine lv_istore_n (x := rp_b3 (rp_b2 (rp_b1 y))) (lv' := [(0, .int (rp_b3 (rp_b2 (rp_b1 y))))]) hx hb (show decode prog_11_method_49_code 33 = .ok (.istore_n 0, 1) by decide +kernel) rfl h2 (by decide) rfl (fun ls3 h3 => ?_)
  refine lv_iload_n hx hb (show decode prog_11_method_49_code 34 = .ok (.iload_n 0, 1) by decide +kernel) rfl (lv_at h3 0 rfl) ?_
  refine lv_iload_n hx hb (show decode prog_11_method_49_code 35 = .ok (.iload_n 0, 1) by decide +kernel) rfl (lv_at h3 0 rfl) ?_
  refine lv_bipush (v := 8) hx hb (show decode prog_11_method_49_code 36 = .ok (.bipush 8, 2) by decide +kernel) (by decide) ?_
  refine lv_iushr (v := rp_us (rp_b3 (rp_b2 (rp_b1 y))) 8) hx hb (show decode prog_11_method_49_code 38 = .ok (.iushr, 1) by decide +kernel) rfl ?_
  refine lv_iadd hx hb (show decode prog_11_method_49_code 39 = .ok (.iadd, 1) by decide +kernel) ?_
  refine lv_istore_n (x := rp_b4 (rp_b3 (rp_b2 (rp_b1 y)))) (lv' := [(0, .int (rp_b4 (rp_b3 (rp_b2 (rp_b1 y)))))]) hx hb (show decode prog_11_method_49_code 40 = .ok (.istore_n 0, 1) by decide +kernel) rfl h3 (by decide) rfl (fun ls4 h4 => ?_)
  refine lv_iload_n hx hb (show decode prog_11_method_49_code 41 = .ok (.iload_n 0, 1) by decide +kernel) rfl (lv_at h4 0 rfl) ?_
  refine lv_iload_n hx hb (show decode prog_11_method_49_code 42 = .ok (.iload_n 0, 1) by decide +kernel) rfl (lv_at h4 0 rfl) ?_
  refine lv_bipush (v := 16) hx hb (show decode prog_11_method_49_code 43 = .ok (.bipush 16, 2) by decide +kernel) (by decide) ?_
  refine lv_iushr (v := rp_us (rp_b4 (rp_b3 (rp_b2 (rp_b1 y)))) 16) hx hb (show decode prog_11_method_49_code 45 = .ok (.iushr, 1) by decide +kernel) rfl ?_
  refine lv_iadd hx hb (show decode prog_11_method_49_code 46 = .ok (.iadd, 1) by decide +kernel) ?_
  refine lv_istore_n (x := rp_b5 (rp_b4 (rp_b3 (rp_b2 (rp_b1 y))))) (lv' := [(0, .int (rp_b5 (rp_b4 (rp_b3 (rp_b2 (rp_b1 y))))))]) hx hb (show decode prog_11_method_49_code 47 = .ok (.istore_n 0, 1) by decide +kernel) rfl h4 (by decide) rfl (fun ls5 h5 => ?_)
  refine lv_iload_n hx hb (show decode prog_11_method_49_code 48 = .ok (.iload_n 0, 1) by decide +kernel) rfl (lv_at h5 0 rfl) ?_
  refine lv_bipush (v := 63) hx hb (show decode prog_11_method_49_code 49 = .ok (.bipush 63, 2) by decide +kernel) (by decide) ?_
  refine lv_iand hx hb (show decode prog_11_method_49_code 51 = .ok (.iand, 1) by decide +kernel) ?_
  exact W.iret (v := rp_bc y) hx hb hr (fun t ht hW => ⟨rfl, ht⟩) hS.2.2 (show decode prog_11_method_49_code 52 = .ok (.ireturn, 1) by decide +kernel)
variable {p : Program} {e : Env} {R : Room} {s : State} {m : MethodId} {args : Array Value} {below : List Frame} {meth : Method} {c : Code} {H : Heap} {locs : List Loc} {cells slots : Nat} {Q : State → Prop} {cc : ByteArray} {own : String} {x pc : Nat} {lsr : Array Slot} {rest : List Value}
theorem rp_strlen (hx : p.tables.exec = Jvm.exec) (hb : c.code = cc) (hml : c.maxLocals = lsr.size) (hown : s.vm.findClass own = some m.cls) (hts : ∀ w ∈ rp_gt, w.before args s = true) (hlink : Cond.methodLink own x ⟨"java/lang/String", "length", "()I"⟩ ∈ rp_gt) (hE : rp_EP D b base adK adV cI cZ sc s) (hb2 : b < base) (hS : va_S (fun q => base ≤ q) s.heap H locs) (hf : 4 ≤ R.frames) (hw : 85 ≤ R.locals) (hc : cells ≤ R.cells) (hs : slots ≤ R.slots) {k : Nat} (hk : k < 12) (hr : (rest.map fun v => v.category).sum ≤ 8) (hd : decode cc pc = .ok (.invokevirtual x, 3))
    (K : ∀ locs', va_S (fun q => base ≤ q) s.heap H locs' → W p l e R s m args below meth c H locs' cells slots Q (F0 m (pc + 3) lsr (.int (Int32.ofNat (rp_tx k).length) :: rest))) : W p l e R s m args below meth c H locs cells slots Q (F0 m pc lsr (.ref (adK k) :: rest)) :=
  rp_jcallV (As := []) hx hb hml hown hts (rp_j1 hk) rp_jc1 hlink (rp_jin 479 (by decide +kernel) rfl) (rp_jin 480 (by decide +kernel) rfl) rfl (n := 0) (by decide +kernel) rfl hE hb2 hS hk (by omega) (by omega) hc hs hr hd K
theorem rp_strchar (hx : p.tables.exec = Jvm.exec) (hb : c.code = cc) (hml : c.maxLocals = lsr.size) (hown : s.vm.findClass own = some m.cls) (hts : ∀ w ∈ rp_gt, w.before args s = true) (hlink : Cond.methodLink own x ⟨"java/lang/String", "charAt", "(I)C"⟩ ∈ rp_gt) (hE : rp_EP D b base adK adV cI cZ sc s) (hb2 : b < base) (hS : va_S (fun q => base ≤ q) s.heap H locs) (hf : 4 ≤ R.frames) (hw : 85 ≤ R.locals) (hc : cells ≤ R.cells) (hs : slots ≤ R.slots) {k : Nat} (hk : k < 12) {y : Int32} (hy : rp_ix y (rp_tx k).length = true) (hr : (rest.map fun v => v.category).sum ≤ 8) (hd : decode cc pc = .ok (.invokevirtual x, 3))
    (K : ∀ locs', va_S (fun q => base ≤ q) s.heap H locs' → W p l e R s m args below meth c H locs' cells slots Q (F0 m (pc + 3) lsr (.int ((rp_tx k).getD y.toNatClampNeg 0) :: rest))) : W p l e R s m args below meth c H locs cells slots Q (F0 m pc lsr (.int y :: .ref (adK k) :: rest)) :=
  rp_jcallV (As := [.int y]) hx hb hml hown hts (rp_j3 hk hy) rp_jc3 hlink (rp_jin 489 (by decide +kernel) rfl) (rp_jin 490 (by decide +kernel) rfl) rfl (n := 1) (by decide +kernel) rfl hE hb2 hS hk (by omega) (by omega) hc hs hr hd K
theorem rp_bcall (hx : p.tables.exec = Jvm.exec) (hb : c.code = cc) (hml : c.maxLocals = lsr.size) (hown : s.vm.findClass own = some m.cls) (hts : ∀ w ∈ rp_gt, w.before args s = true) (hlink : Cond.methodLink own x rp_jy8 ∈ rp_gt) (hE : rp_EP D b base adK adV cI cZ sc s) (hb2 : b < base) (hS : va_S (fun q => base ≤ q) s.heap H locs) (hf : 1 ≤ R.frames) (hw : 20 ≤ R.locals) (hc : cells ≤ R.cells) (hs : slots ≤ R.slots) {y : Int32} (hr : (rest.map fun v => v.category).sum ≤ 8) (hd : decode cc pc = .ok (.invokestatic x, 3))
    (K : ∀ locs', va_S (fun q => base ≤ q) s.heap H locs' → W p l e R s m args below meth c H locs' cells slots Q (F0 m (pc + 3) lsr (.int (rp_bc y) :: rest))) : W p l e R s m args below meth c H locs cells slots Q (F0 m pc lsr (.int y :: rest)) :=
  rp_jcallS (As := [.int y]) hx hb hml hown hts rp_jb rp_jc8 hlink (rp_jin 786 (by decide +kernel) rfl) (rp_jin 96 (by decide +kernel) rfl) (n := 1) ⟨by decide, by decide, by decide +kernel⟩ rfl hE hb2 hS (by omega) (by omega) hc hs hr hd K
end
