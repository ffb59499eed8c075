theorem zt0 {w : Cond} (h : w ∈ k2_sels lw_privs) : w ∈ lw_tbl := List.mem_append_left _ h
theorem zt1 {w : Cond} (h : w ∈ tables_1_1) : w ∈ lw_tbl := List.mem_append_right _ (List.mem_append_left _ h)
theorem zt2 {w : Cond} (h : w ∈ tables_1_2) : w ∈ lw_tbl := List.mem_append_right _ (List.mem_append_right _ (List.mem_append_left _ h))
theorem zt3 {w : Cond} (h : w ∈ tables_1_3) : w ∈ lw_tbl := List.mem_append_right _ (List.mem_append_right _ (List.mem_append_right _ (List.mem_append_left _ h)))
theorem zt4 {w : Cond} (h : w ∈ tables_1_4) : w ∈ lw_tbl := List.mem_append_right _ (List.mem_append_right _ (List.mem_append_right _ (List.mem_append_right _ (List.mem_append_left _ h))))
theorem zt5 {w : Cond} (h : w ∈ tables_1_5) : w ∈ lw_tbl := List.mem_append_right _ (List.mem_append_right _ (List.mem_append_right _ (List.mem_append_right _ (List.mem_append_right _ (List.mem_append_left _ h)))))
theorem zt6 {w : Cond} (h : w ∈ tables_1_6) : w ∈ lw_tbl := List.mem_append_right _ (List.mem_append_right _ (List.mem_append_right _ (List.mem_append_right _ (List.mem_append_right _ (List.mem_append_right _ (List.mem_append_left _ h))))))
theorem zt7 {w : Cond} (h : w ∈ tables_1_7) : w ∈ lw_tbl := List.mem_append_right _ (List.mem_append_right _ (List.mem_append_right _ (List.mem_append_right _ (List.mem_append_right _ (List.mem_append_right _ (List.mem_append_right _ (h)))))))
theorem zwp {l : List Cond} (ps : List Nat) (hp : l = ps.filterMap (fun i => lw_tbl[i]?)) (g : l.all goodWord = true) : ∀ w ∈ l, w ∈ zW := fun w hw => by
  refine zw ?_ (List.all_eq_true.mp g w hw)
  rw [hp] at hw
  obtain ⟨i, -, hi⟩ := List.mem_filterMap.mp hw
  exact List.mem_of_getElem? hi
section ZD
variable {p : Program} {l : Launch} {e : Env} {R : Room} {s : State} {m : MethodId} {args : Array Value} {below : List Frame} {meth : Method} {c : Code} {H : Heap} {locs : List Loc} {cells slots : Nat} {Q : State → Prop}
variable {cc : ByteArray} {nL : Nat} {ret : Option FieldType} {own : String} {κ : zG} {A : Nat → Prop} {S : Type} {w : zG → S → va_W} {σ : S} {pc : Nat} {ls : Array Slot} {rest : List Value}
/-! ===== a contract out of its body ===== -/
theorem zbody {y : MethodName} {rm : Room} {cc : ByteArray} {maxL : Nat} {ret : Option FieldType} {av : List Value} {Qz : (Nat → Prop) → Array Value → State → Outcome → State → Prop} (hy : plainName y.cls = true) (hlen : (lg_sl av).length ≤ maxL)
    (body : ∀ (p : Program) (e : Env) (s : State) (m : MethodId) (below : List Frame) (meth : Method) (c : Code) (A : Nat → Prop), zC cc maxL ret y.cls κ A p s m av.toArray meth c → zH w κ A s σ s.heap [] → ∀ ls : Array Slot, lv_has ls maxL (lv_args 0 av) → W p l e rm s m av.toArray below meth c s.heap [] 0 0 (MQ below (Qz A) av.toArray s 0 0 A) (F0 m 0 ls [])) :
    ∀ sz : Nat, Met l y (Cond.code y cc maxL ret :: zW) rm (zPre w κ av sz σ) (Qz (va_A (w κ σ) sz)) 0 0 (va_A (w κ σ) sz) := by
  intro sz
  refine Met.ofW (cc := cc) (maxL := maxL) (ret := ret) hy rfl ?_
  intro p e s m args below meth c s₁ B hml hv
  obtain ⟨rfl, hsz, hP, hK, hD0⟩ := hv
  have hts0 := atoms_spec (ws := Cond.code y cc maxL ret :: zW) B.pre
  have hts : ∀ w ∈ zW, w.before av.toArray s = true := fun w hw => hts0 w (List.mem_cons_of_mem _ hw)
  have hown : s.vm.findClass y.cls = some m.cls := findClass_of_methodNamed B.named
  subst hsz
  have hD := hD0.self (sz := s.heap.size)
  generalize hAe : va_A (w κ σ) s.heap.size = A at hD ⊢
  have hA : ∀ q : Nat, s.heap.size ≤ q → A q := fun q h => by rw [← hAe]; exact Or.inr h
  have hl := lv_entry av (n := maxL) hlen
  rw [lg_entry_eq]
  exact body p e s m below meth c A ⟨⟨B.exec, B.bytes, hml, hown, hts⟩, B.returns, B.notSynchronized, hA, hK⟩ ⟨hP, hD, va_S.rf⟩ _ hl
theorem zMi_of {y : MethodName} {rm : Room} {cc : ByteArray} {maxL : Nat} {ret : Option FieldType} {av : List Value} {r : Int32} {σ' : S} (hy : plainName y.cls = true) (hlen : (lg_sl av).length ≤ maxL)
    (body : ∀ (p : Program) (e : Env) (s : State) (m : MethodId) (below : List Frame) (meth : Method) (c : Code) (A : Nat → Prop), zC cc maxL ret y.cls κ A p s m av.toArray meth c → zH w κ A s σ s.heap [] → ∀ ls : Array Slot, lv_has ls maxL (lv_args 0 av) → W p l e rm s m av.toArray below meth c s.heap [] 0 0 (MQ below (zQi w κ A r σ') av.toArray s 0 0 A) (F0 m 0 ls [])) : zMi l y (Cond.code y cc maxL ret) rm w κ av σ r σ' :=
  zbody (Qz := fun A => zQi w κ A r σ') hy hlen body
theorem zMl_of {y : MethodName} {rm : Room} {cc : ByteArray} {maxL : Nat} {ret : Option FieldType} {av : List Value} {r : Int64} {σ' : S} (hy : plainName y.cls = true) (hlen : (lg_sl av).length ≤ maxL)
    (body : ∀ (p : Program) (e : Env) (s : State) (m : MethodId) (below : List Frame) (meth : Method) (c : Code) (A : Nat → Prop), zC cc maxL ret y.cls κ A p s m av.toArray meth c → zH w κ A s σ s.heap [] → ∀ ls : Array Slot, lv_has ls maxL (lv_args 0 av) → W p l e rm s m av.toArray below meth c s.heap [] 0 0 (MQ below (zQl w κ A r σ') av.toArray s 0 0 A) (F0 m 0 ls [])) : zMl l y (Cond.code y cc maxL ret) rm w κ av σ r σ' :=
  zbody (Qz := fun A => zQl w κ A r σ') hy hlen body
theorem zMv_of {y : MethodName} {rm : Room} {cc : ByteArray} {maxL : Nat} {ret : Option FieldType} {av : List Value} {σ' : S} (hy : plainName y.cls = true) (hlen : (lg_sl av).length ≤ maxL)
    (body : ∀ (p : Program) (e : Env) (s : State) (m : MethodId) (below : List Frame) (meth : Method) (c : Code) (A : Nat → Prop), zC cc maxL ret y.cls κ A p s m av.toArray meth c → zH w κ A s σ s.heap [] → ∀ ls : Array Slot, lv_has ls maxL (lv_args 0 av) → W p l e rm s m av.toArray below meth c s.heap [] 0 0 (MQ below (zQv w κ A σ') av.toArray s 0 0 A) (F0 m 0 ls [])) : zMv l y (Cond.code y cc maxL ret) rm w κ av σ σ' :=
  zbody (Qz := fun A => zQv w κ A σ') hy hlen body
/-! ===== calls over the same world ===== -/
theorem zpreV (C : zC cc nL ret own κ A p s m args meth c) (h : zH w κ A s σ H locs) {ci b : Nat} {fs As : List Value} {C' : String} {T : u_T} {N : Nat} (q0 : Nat) (he : (w κ σ)[q0]? = some (b, .inr (ci, fs))) (hc : vwCl[ci]? = some (C', T, N)) : PreV s H C' b (zPre w κ (.ref b :: As) H.size σ) As :=
  ⟨zPre_blind, va_recv C.hK h.1 hc he, fun U hU hW => ⟨rfl, by rw [hU], by rw [hU]; exact h.1, zK.warm hW C.2.2.2.2, h.2.1.weaken (fun _ _ _ _ => trivial)⟩⟩
variable {y : MethodName} {rm : Room} {bytes : ByteArray} {maxL index n ci b N : Nat} {ret' : Option FieldType} {C' : String} {T : u_T} {fs As st : List Value} {lv : List (Nat × Value)} {σ' : S}
theorem z_callVi {r : Int32} (C : zC cc nL ret own κ A p s m args meth c) (h : zH w κ A s σ H locs) (hM : zMi l y (Cond.code y bytes maxL ret') rm w κ (.ref b :: As) σ r σ') (hG : GoodIn zW (wsV own index C' y (Cond.code y bytes maxL ret' :: zW))) (hrc : rm.cells = 0 ∧ rm.slots = 0)
    (hd : y.cls = C' ∧ y.cls ≠ "java/lang/invoke/MethodHandle" ∧ y.cls ≠ "java/lang/invoke/VarHandle" ∧ (parseMethodDescriptor y.desc).map (fun d => d.parameters.length) = some n) (hR : rm.frames + 1 ≤ R.frames ∧ 8 + (maxL + 11) + rm.locals ≤ R.locals) (q0 : Nat) (he : (w κ σ)[q0]? = some (b, .inr (ci, fs))) (hc : vwCl[ci]? = some (C', T, N)) (hl : lv_has ls nL lv) (hn : As.length = n) (hst : st = As.reverse ++ .ref b :: rest) (hroom : (rest.map fun v => v.category).sum ≤ 8) (hdg : decode cc pc = .ok (.invokevirtual index, 3)) (hcs : cells ≤ R.cells ∧ slots ≤ R.slots)
    (kk : ∀ (H1 : Heap) (locs1 : List Loc), zH w κ A s σ' H1 locs1 → W p l e R s m args below meth c H1 locs1 cells slots Q (F0 m (pc + 3) ls (.int r :: rest))) : W p l e R s m args below meth c H locs cells slots Q (F0 m pc ls st) :=
  va_calli (va_runV (As := As) (rest := rest) C.1 (hM H.size) (cwV n C.ts hG rfl hrc.1 hrc.2 hd hR) (zpreV C h q0 he hc) rfl hn hl.1 hst (lv_room hroom) hdg hcs) h.2.2 (fun q _ hq => zfree C h q hq) (zfree C h)
    (fun r' u t H1 locs1 ht _ hw hB _ _ hS => by
      obtain ⟨e1, e2⟩ := hw
      subst e1; subst e2; subst ht
      exact kk t.heap locs1 ⟨hB.1, hB.2.weaken (fun _ _ _ hq => zfree C h _ hq), hS⟩)
theorem z_callVl {r : Int64} (C : zC cc nL ret own κ A p s m args meth c) (h : zH w κ A s σ H locs) (hM : zMl l y (Cond.code y bytes maxL ret') rm w κ (.ref b :: As) σ r σ') (hG : GoodIn zW (wsV own index C' y (Cond.code y bytes maxL ret' :: zW))) (hrc : rm.cells = 0 ∧ rm.slots = 0)
    (hd : y.cls = C' ∧ y.cls ≠ "java/lang/invoke/MethodHandle" ∧ y.cls ≠ "java/lang/invoke/VarHandle" ∧ (parseMethodDescriptor y.desc).map (fun d => d.parameters.length) = some n) (hR : rm.frames + 1 ≤ R.frames ∧ 8 + (maxL + 11) + rm.locals ≤ R.locals) (q0 : Nat) (he : (w κ σ)[q0]? = some (b, .inr (ci, fs))) (hc : vwCl[ci]? = some (C', T, N)) (hl : lv_has ls nL lv) (hn : As.length = n) (hst : st = As.reverse ++ .ref b :: rest) (hroom : (rest.map fun v => v.category).sum ≤ 8) (hdg : decode cc pc = .ok (.invokevirtual index, 3)) (hcs : cells ≤ R.cells ∧ slots ≤ R.slots)
    (kk : ∀ (H1 : Heap) (locs1 : List Loc), zH w κ A s σ' H1 locs1 → W p l e R s m args below meth c H1 locs1 cells slots Q (F0 m (pc + 3) ls (.long r :: rest))) : W p l e R s m args below meth c H locs cells slots Q (F0 m pc ls st) :=
  va_calll (va_runV (As := As) (rest := rest) C.1 (hM H.size) (cwV n C.ts hG rfl hrc.1 hrc.2 hd hR) (zpreV C h q0 he hc) rfl hn hl.1 hst (lv_room hroom) hdg hcs) h.2.2 (fun q _ hq => zfree C h q hq) (zfree C h)
    (fun r' u t H1 locs1 ht _ hw hB _ _ hS => by
      obtain ⟨e1, e2⟩ := hw
      subst e1; subst e2; subst ht
      exact kk t.heap locs1 ⟨hB.1, hB.2.weaken (fun _ _ _ hq => zfree C h _ hq), hS⟩)
theorem z_callVv (C : zC cc nL ret own κ A p s m args meth c) (h : zH w κ A s σ H locs) (hM : zMv l y (Cond.code y bytes maxL ret') rm w κ (.ref b :: As) σ σ') (hG : GoodIn zW (wsV own index C' y (Cond.code y bytes maxL ret' :: zW))) (hrc : rm.cells = 0 ∧ rm.slots = 0)
    (hd : y.cls = C' ∧ y.cls ≠ "java/lang/invoke/MethodHandle" ∧ y.cls ≠ "java/lang/invoke/VarHandle" ∧ (parseMethodDescriptor y.desc).map (fun d => d.parameters.length) = some n) (hR : rm.frames + 1 ≤ R.frames ∧ 8 + (maxL + 11) + rm.locals ≤ R.locals) (q0 : Nat) (he : (w κ σ)[q0]? = some (b, .inr (ci, fs))) (hc : vwCl[ci]? = some (C', T, N)) (hl : lv_has ls nL lv) (hn : As.length = n) (hst : st = As.reverse ++ .ref b :: rest) (hroom : (rest.map fun v => v.category).sum ≤ 8) (hdg : decode cc pc = .ok (.invokevirtual index, 3)) (hcs : cells ≤ R.cells ∧ slots ≤ R.slots)
    (kk : ∀ (H1 : Heap) (locs1 : List Loc), zH w κ A s σ' H1 locs1 → W p l e R s m args below meth c H1 locs1 cells slots Q (F0 m (pc + 3) ls rest)) : W p l e R s m args below meth c H locs cells slots Q (F0 m pc ls st) :=
  va_callv (va_runV (As := As) (rest := rest) C.1 (hM H.size) (cwV n C.ts hG rfl hrc.1 hrc.2 hd hR) (zpreV C h q0 he hc) rfl hn hl.1 hst (lv_room hroom) hdg hcs) h.2.2 (fun q _ hq => zfree C h q hq) (zfree C h)
    (fun u t H1 locs1 ht _ hw hB _ _ hS => by
      subst hw; subst ht
      exact kk t.heap locs1 ⟨hB.1, hB.2.weaken (fun _ _ _ hq => zfree C h _ hq), hS⟩)
/-! ===== static calls: numbers alone ===== -/
def w0 : zG → zS → va_W := fun _ _ => []
theorem zpreS (C : zC cc nL ret own κ A p s m args meth c) {τ : zS} : PreS s H (zPre w0 κ As H.size τ) As :=
  ⟨zPre_blind, fun U hU hW => ⟨rfl, by rw [hU], fun k q hk => by simp [w0] at hk, zK.warm hW C.2.2.2.2, ⟨fun i j x y hx => by simp [w0] at hx, fun k q hk => by simp [w0] at hk⟩⟩⟩
theorem zkept (C : zC cc nL ret own κ A p s m args meth c) (h : zH w κ A s σ H locs) {H1 : Heap} {locs1 : List Loc} {τ : zS} (hk : ∀ q : Nat, q < H.size → ¬ va_A (w0 κ τ) H.size q → H1[q]? = H[q]?) (hS : va_S A s.heap H1 locs1) : zH w κ A s σ H1 locs1 := by
  refine ⟨h.1.kept (fun k q hq => hk q.1 (h.1 k q hq).lt (fun z => ?_)), h.2.1, hS⟩
  rcases z with ⟨k2, e0, hk2⟩ | hz
  · simp [w0] at hk2
  · have := (h.1 k q hq).lt
    omega
theorem z_callSi {r : Int32} {τ τ' : zS} (C : zC cc nL ret own κ A p s m args meth c) (h : zH w κ A s σ H locs) (hM : zMi l y (Cond.code y bytes maxL ret') rm w0 κ As τ r τ') (hG : GoodIn zW (wsS own index y (Cond.code y bytes maxL ret' :: zW))) (hrc : rm.cells = 0 ∧ rm.slots = 0)
    (hd : y.cls = own ∧ y.cls ≠ "java/lang/invoke/MethodHandle" ∧ y.cls ≠ "java/lang/invoke/VarHandle" ∧ (parseMethodDescriptor y.desc).map (fun d => d.parameters.length) = some n) (hR : rm.frames + 1 ≤ R.frames ∧ 8 + (maxL + 11) + rm.locals ≤ R.locals) (hl : lv_has ls nL lv) (hn : As.length = n) (hst : st = As.reverse ++ rest) (hroom : (rest.map fun v => v.category).sum ≤ 8) (hdg : decode cc pc = .ok (.invokestatic index, 3)) (hcs : cells ≤ R.cells ∧ slots ≤ R.slots)
    (kk : ∀ (H1 : Heap) (locs1 : List Loc), zH w κ A s σ H1 locs1 → W p l e R s m args below meth c H1 locs1 cells slots Q (F0 m (pc + 3) ls (.int r :: rest))) : W p l e R s m args below meth c H locs cells slots Q (F0 m pc ls st) := by
  have hF : ∀ q, va_A (w0 κ τ) H.size q → A q := fun q hq => by
    rcases hq with ⟨k2, e0, hk2⟩ | hz
    · simp [w0] at hk2
    · exact C.hA q (Nat.le_trans h.2.2.1 hz)
  refine va_calli (va_runS (As := As) (rest := rest) C.1 (hM H.size) (cwS n C.ts hG rfl hrc.1 hrc.2 hd hR) (zpreS C) rfl hn hl.1 hst (lv_room hroom) hdg hcs) h.2.2 (fun q _ hq => hF q hq) hF
    (fun r' u t H1 locs1 ht _ hw _ _ hk hS => ?_)
  obtain ⟨e1, -⟩ := hw
  subst e1
  exact kk H1 locs1 (zkept C h hk hS)
theorem z_mmax (C : zC cc nL ret own κ A p s m args meth c) (hl : lv_has ls nL lv) (hlink : Cond.methodLink own index Lib.Math.max.name ∈ zW) (hstat : Cond.static Lib.Math.max.name ∈ zW) (hini : Cond.initialized "java/lang/Math" ∈ zW) (hcode : Cond.code Lib.Math.max.name Lib.Math.max.code 2 (some .int) ∈ zW)
    (hR : 1 ≤ R.frames ∧ (rest.map fun v => v.category).sum + 13 ≤ R.locals) (hcs : cells ≤ R.cells ∧ slots ≤ R.slots) {x y : Int32} (hdg : decode cc pc = .ok (.invokestatic index, 3))
    (kk : W p l e R s m args below meth c H locs cells slots Q (F0 m (pc + 3) ls (.int (if x < y then y else x) :: rest))) : W p l e R s m args below meth c H locs cells slots Q (F0 m pc ls (.int y :: .int x :: rest)) :=
  va_mmax C.ex C.by (C.ml.trans hl.1.symm) C.ow (C.ts _ hlink) (C.ts _ hstat) (C.ts _ hini) (C.ts _ hcode) hR.1 hR.2 hcs.1 hcs.2 hdg kk
theorem z_mmin (C : zC cc nL ret own κ A p s m args meth c) (hl : lv_has ls nL lv) (hlink : Cond.methodLink own index Lib.Math.min.name ∈ zW) (hstat : Cond.static Lib.Math.min.name ∈ zW) (hini : Cond.initialized "java/lang/Math" ∈ zW) (hcode : Cond.code Lib.Math.min.name Lib.Math.min.code 2 (some .int) ∈ zW)
    (hR : 1 ≤ R.frames ∧ (rest.map fun v => v.category).sum + 13 ≤ R.locals) (hcs : cells ≤ R.cells ∧ slots ≤ R.slots) {x y : Int32} (hdg : decode cc pc = .ok (.invokestatic index, 3))
    (kk : W p l e R s m args below meth c H locs cells slots Q (F0 m (pc + 3) ls (.int (if y < x then y else x) :: rest))) : W p l e R s m args below meth c H locs cells slots Q (F0 m pc ls (.int y :: .int x :: rest)) :=
  va_mmin C.ex C.by (C.ml.trans hl.1.symm) C.ow (C.ts _ hlink) (C.ts _ hstat) (C.ts _ hini) (C.ts _ hcode) hR.1 hR.2 hcs.1 hcs.2 hdg kk
end ZD
