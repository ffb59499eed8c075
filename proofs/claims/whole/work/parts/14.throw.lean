/-! ===== methods that throw: rows over the class' world ===== -/
def zEx : List String := ["java/lang/IllegalArgumentException", "java/lang/IllegalStateException", "java/lang/IndexOutOfBoundsException", "java/lang/UnsupportedOperationException"]
def zEy : List String := ["java/lang/RuntimeException", "java/lang/Exception", "java/lang/Throwable"]
def zEn : List String := ["java/lang/RuntimeException", "java/lang/Exception"]
def zStr : List (Nat × String) := [(106, "a record has 1 to 4 numbers"), (123, "a record is there"), (135, "no such column"), (142, "the column is a key already"), (144, "a run is there"), (150, "no such mode"), (168, "no such span or number of records"), (174, "no such way"), (214, "there are 3 to 6 tapes"), (263, "no such block"), (265, "no such record or column"), (315, "nothing of this number is counted"), (318, "no such number of writes"), (323, "it is not down"), (328, "it is down"), (330, "a fan is 2 to 8"), (332, "no such run"), (336, "the disk is full")]
/-- the premises of a throw that stay over a call -/
def zE (U : State) : Prop := (∀ X ∈ zEx, va_Nw (.castable X X) U) ∧ (∀ Y ∈ zEy, va_Nw (.declares (Bundle.initS Y)) U) ∧ (∀ q ∈ zStr, ∃ sa : Nat, vk_R RX9 q.1 q.2 sa U)
def zZ (A : Nat → Prop) (U : State) (H : Heap) : Prop := vx_Zq Bundle.tN "UNASSIGNED_STACK" Bundle.steD A U H ∧ vx_Zq Bundle.tN "SUPPRESSED_SENTINEL" Bundle.listD A U H
theorem zE.warm {s U : State} (hW : s.WarmedH U.vm) (h : zE s) : zE U := ⟨fun X hX => va_Nw.warmC hW (h.1 X hX), fun Y hY => va_Nw.warmD hW (h.2.1 Y hY), fun q hq => (h.2.2 q hq).elim (fun sa hs => ⟨sa, vk_R.warm hW hs⟩)⟩
theorem zE.same {u U : State} (e : u.vm = U.vm) (h : zE u) : zE U := ⟨fun X hX => va_Nw.same rfl e (h.1 X hX), fun Y hY => va_Nw.same rfl e (h.2.1 Y hY), fun q hq => (h.2.2 q hq).elim (fun sa hs => ⟨sa, vk_R.same e.symm hs⟩)⟩
theorem zZ.moved {A : Nat → Prop} {u U : State} {H : Heap} (hvm : u.vm.Alike U.vm) (h : zZ A u H) : zZ A U H := ⟨vx_Zq.moved hvm h.1, vx_Zq.moved hvm h.2⟩
theorem zZ.kept {A : Nat → Prop} {U : State} {H H1 : Heap} (h : zZ A U H) (hq : ∀ a : Nat, a < H.size → ¬ A a → H1[a]? = H[a]?) : zZ A U H1 := ⟨vx_Zq.kept h.1 hq, vx_Zq.kept h.2 hq⟩
theorem zZ.narrow {A B : Nat → Prop} {U : State} {H : Heap} (h : zZ A U H) (hAB : ∀ q, B q → A q) : zZ B U H := ⟨vx_Zq.narrow h.1 hAB, vx_Zq.narrow h.2 hAB⟩
def zPreX {S : Type} (w : zG → S → va_W) (κ : zG) (av : List Value) (sz : Nat) (σ : S) : Array Value → State → Prop := va_Pc av (fun U => U.heap.size = sz ∧ va_P κ.1 vwCl (w κ σ) U.heap ∧ zK κ U ∧ va_D (fun _ => True) (w κ σ) ∧ zE U ∧ zZ (va_A (w κ σ) sz) U U.heap)
theorem zPreX_blind {S : Type} {w : zG → S → va_W} {κ : zG} {av : List Value} {sz : Nat} {σ : S} : FrameBlind (zPreX w κ av sz σ) := fun a U g mk q => by
  obtain ⟨q0, q1, qP, qK, qD, qE, qZ⟩ := q
  exact ⟨q0, q1, qP, ⟨va_K.moved (u := U) (U := U.calling g mk a) (Vm.Alike.refl U.vm) qK.1, zN.same (u := U) (U := U.calling g mk a) rfl qK.2⟩, qD, zE.same (u := U) (U := U.calling g mk a) rfl qE, zZ.moved (u := U) (U := U.calling g mk a) (Vm.Alike.refl U.vm) qZ⟩
def zQti {S : Type} (w : zG → S → va_W) (κ : zG) (A : Nat → Prop) (o : String ⊕ Int32) (σ' : S) : Array Value → State → Outcome → State → Prop := va_Qi (fun (r' : Int32) (u : S) => o = .inr r' ∧ u = σ') (zAt w κ A) A
def zQtl {S : Type} (w : zG → S → va_W) (κ : zG) (A : Nat → Prop) (o : String ⊕ Int64) (σ' : S) : Array Value → State → Outcome → State → Prop := va_Ql (fun (r' : Int64) (u : S) => o = .inr r' ∧ u = σ') (zAt w κ A) A
def zQtv {S : Type} (w : zG → S → va_W) (κ : zG) (A : Nat → Prop) (o : String ⊕ Unit) (σ' : S) : Array Value → State → Outcome → State → Prop := va_Qv (fun (u : S) => o = .inr () ∧ u = σ') (zAt w κ A) A
def zXc {S : Type} {α : Type} (w : zG → S → va_W) (κ : zG) (A : Nat → Prop) (o : String ⊕ α) (σ' : S) : String → State → State → Prop := vx_X (fun u : String × S => o = .inl u.1 ∧ u.2 = σ') (fun E u t => E = u.1 ∧ zAt w κ A u.2 t) A
def zTi {S : Type} (l : Launch) (y : MethodName) (cw : Cond) (rm : Room) (w : zG → S → va_W) (κ : zG) (av : List Value) (σ : S) (mc : Nat) (o : String ⊕ Int32) (σ' : S) : Prop := ∀ sz : Nat, vx_Met l y (cw :: zW) rm (zPreX w κ av sz σ) (zQti w κ (va_A (w κ σ) sz) o σ') (zXc w κ (va_A (w κ σ) sz) o σ') mc (6 * mc) (va_A (w κ σ) sz)
def zTl {S : Type} (l : Launch) (y : MethodName) (cw : Cond) (rm : Room) (w : zG → S → va_W) (κ : zG) (av : List Value) (σ : S) (mc : Nat) (o : String ⊕ Int64) (σ' : S) : Prop := ∀ sz : Nat, vx_Met l y (cw :: zW) rm (zPreX w κ av sz σ) (zQtl w κ (va_A (w κ σ) sz) o σ') (zXc w κ (va_A (w κ σ) sz) o σ') mc (6 * mc) (va_A (w κ σ) sz)
def zTv {S : Type} (l : Launch) (y : MethodName) (cw : Cond) (rm : Room) (w : zG → S → va_W) (κ : zG) (av : List Value) (σ : S) (mc : Nat) (o : String ⊕ Unit) (σ' : S) : Prop := ∀ sz : Nat, vx_Met l y (cw :: zW) rm (zPreX w κ av sz σ) (zQtv w κ (va_A (w κ σ) sz) o σ') (zXc w κ (va_A (w κ σ) sz) o σ') mc (6 * mc) (va_A (w κ σ) sz)
def zCX (cc : ByteArray) (nL : Nat) (ret : Option FieldType) (own : String) (κ : zG) (A : Nat → Prop) (p : Program) (l : Launch) (s : State) (m : MethodId) (args : Array Value) (meth : Method) (c : Code) : Prop :=
  zC cc nL ret own κ A p s m args meth c ∧ l.stackTraces = false ∧ zE s ∧ zZ A s s.heap ∧ ∀ x ∈ c.exceptionTable.toList, False
section ZX
variable {p : Program} {l : Launch} {e : Env} {R : Room} {s : State} {m : MethodId} {args : Array Value} {below : List Frame} {meth : Method} {c : Code} {H : Heap} {locs : List Loc} {cells slots : Nat} {Q : State → Prop}
variable {cc : ByteArray} {nL : Nat} {ret : Option FieldType} {own : String} {κ : zG} {A : Nat → Prop} {S : Type} {w : zG → S → va_W} {σ σ' : S} {pc : Nat} {ls : Array Slot} {rest : List Value} {lv : List (Nat × Value)}
theorem zbodyX {y : MethodName} {rm : Room} {cc : ByteArray} {maxL mc ms : Nat} {ret : Option FieldType} {av : List Value} {Qz : (Nat → Prop) → Array Value → State → Outcome → State → Prop} {Xz : (Nat → Prop) → String → State → State → Prop} (hy : plainName y.cls = true) (hlen : (lg_sl av).length ≤ maxL) (hl9 : l.stackTraces = false)
    (body : ∀ (p : Program) (e : Env) (s : State) (m : MethodId) (below : List Frame) (meth : Method) (c : Code) (A : Nat → Prop), zCX cc maxL ret y.cls κ A p l s m av.toArray meth c → zH w κ A s σ s.heap [] → ∀ ls : Array Slot, lv_has ls maxL (lv_args 0 av) → W p l e rm s m av.toArray below meth c s.heap [] 0 0 (vx_MQ below (Qz A) (Xz A) av.toArray s mc ms A) (F0 m 0 ls [])) :
    ∀ sz : Nat, vx_Met l y (Cond.code y cc maxL ret :: zW) rm (zPreX w κ av sz σ) (Qz (va_A (w κ σ) sz)) (Xz (va_A (w κ σ) sz)) mc ms (va_A (w κ σ) sz) := by
  intro sz
  refine vx_ofW (cc := cc) (maxL := maxL) (ret := ret) hy rfl ?_
  intro p e s m args below meth c s₁ B hml htab hv
  obtain ⟨rfl, hsz, hP, hK, hD0, hE, hZ⟩ := hv
  have hts0 := atoms_spec (ws := Cond.code y cc maxL ret :: zW) B.pre
  have hts : ∀ w ∈ zW, w.before av.toArray s = true := fun w hw => hts0 w (List.mem_cons_of_mem _ hw)
  have hown : s.vm.findClass y.cls = some m.cls := findClass_of_methodNamed B.named
  subst hsz
  have hD := hD0.self (sz := s.heap.size)
  generalize hAe : va_A (w κ σ) s.heap.size = A at hD hZ ⊢
  have hA : ∀ q : Nat, s.heap.size ≤ q → A q := fun q h => by rw [← hAe]; exact Or.inr h
  have hl := lv_entry av (n := maxL) hlen
  rw [lg_entry_eq]
  exact body p e s m below meth c A ⟨⟨⟨B.exec, B.bytes, hml, hown, hts⟩, B.returns, B.notSynchronized, hA, hK⟩, hl9, hE, hZ, htab⟩ ⟨hP, hD, va_S.rf⟩ _ hl
theorem zZnow (C : zCX cc nL ret own κ A p l s m args meth c) (h : zH w κ A s σ H locs) : zZ A s H := C.2.2.2.1.kept h.2.2.2.1
/-! ===== ends ===== -/
theorem z_tiret {XC : String → State → State → Prop} {r : Int32} {mc k : Nat} (C : zCX cc nL (some .int) own κ A p l s m args meth c) (h : zH w κ A s σ' H locs) (hk : k ≤ mc) (hdg : decode cc pc = .ok (.ireturn, 1)) : W p l e R s m args below meth c H locs k (6 * k) (vx_MQ below (zQti w κ A (.inr r) σ') XC args s mc (6 * mc) A) (F0 m pc ls [.int r]) :=
  vx_ret (W.widen (k := mc) (n := 6 * mc) hk (Nat.mul_le_mul_left 6 hk) (W.iret (v := r) C.1.ex C.1.by C.1.2.1 (fun t ht _ => ⟨⟨r, σ', rfl, ⟨rfl, rfl⟩, by rw [ht]; exact h.1, h.2.1⟩, h.2.2.F ht⟩) h.2.2.2.2 hdg C.1.2.2.1))
theorem z_tlret {XC : String → State → State → Prop} {r : Int64} {mc k : Nat} (C : zCX cc nL (some .long) own κ A p l s m args meth c) (h : zH w κ A s σ' H locs) (hk : k ≤ mc) (hdg : decode cc pc = .ok (.lreturn, 1)) : W p l e R s m args below meth c H locs k (6 * k) (vx_MQ below (zQtl w κ A (.inr r) σ') XC args s mc (6 * mc) A) (F0 m pc ls [.long r]) :=
  vx_ret (W.widen (k := mc) (n := 6 * mc) hk (Nat.mul_le_mul_left 6 hk) (W.lret (v := r) C.1.ex C.1.by C.1.2.1 (fun t ht _ => ⟨⟨r, σ', rfl, ⟨rfl, rfl⟩, by rw [ht]; exact h.1, h.2.1⟩, h.2.2.F ht⟩) h.2.2.2.2 hdg C.1.2.2.1))
theorem z_tvret {XC : String → State → State → Prop} {mc k : Nat} (C : zCX cc nL none own κ A p l s m args meth c) (h : zH w κ A s σ' H locs) (hk : k ≤ mc) (hdg : decode cc pc = .ok (.return_, 1)) : W p l e R s m args below meth c H locs k (6 * k) (vx_MQ below (zQtv w κ A (.inr ()) σ') XC args s mc (6 * mc) A) (F0 m pc ls []) :=
  vx_ret (W.widen (k := mc) (n := 6 * mc) hk (Nat.mul_le_mul_left 6 hk) (W.vret C.1.ex C.1.by C.1.2.1 (fun t ht _ => ⟨⟨σ', rfl, ⟨rfl, rfl⟩, by rw [ht]; exact h.1, h.2.1⟩, h.2.2.F ht⟩) h.2.2.2.2 hdg C.1.2.2.1))
/-- what a throw leaves behind -/
theorem zthrown {α : Type} {cls : String} (C : zCX cc nL ret own κ A p l s m args meth c) (h : zH w κ A s σ' H locs) {t : State} (h1 : H.size ≤ t.heap.size) (h2 : ∀ q : Nat, q < H.size → t.heap[q]? = H[q]?) : zXc w κ A (.inl cls : String ⊕ α) σ' cls s t :=
  ⟨(cls, σ'), ⟨rfl, rfl⟩, ⟨rfl, h.1.kept (fun k q hq => h2 q.1 (h.1 k q hq).lt), h.2.1⟩, Nat.le_trans h.2.2.1 h1, fun q hq hn => by rw [h2 q (Nat.lt_of_lt_of_le hq h.2.2.1)]; exact h.2.2.2.1 q hq hn⟩
theorem z_throwS {α : Type} {Qc : Array Value → State → Outcome → State → Prop} {cls text : String} {ik is ic mc k : Nat} (C : zCX cc nL ret RX9 κ A p l s m args meth c) (h : zH w κ A s σ' H locs) (hcls : Bundle.fit cls = true) (hk : Cond.classLink RX9 ik cls ∈ zW) (hini : Cond.initialized cls ∈ zW) (hstr : (is, text) ∈ zStr) (hX : cls ∈ zEx)
    (hgw : ∀ x ∈ (vx_atS RX9 ic cls zEn).filter goodWord, x ∈ zW) (hbw : ∀ x ∈ (vx_atS RX9 ic cls zEn).filter (fun w => !goodWord w), x ∈ Cond.castable cls cls :: zEy.map (fun Y => Cond.declares (Bundle.initS Y))) (hot : ∀ x ∈ vx_atS RX9 ic cls zEn, vx_ot x = true)
    (hl : lv_has ls nL lv) (d0 : decode cc pc = .ok (.new ik, 3)) (d3 : decode cc (pc + 3) = .ok (.dup, 1)) (d4 : decode cc (pc + 4) = .ok (.ldc is, 2)) (d6 : decode cc (pc + 6) = .ok (.invokespecial ic, 3)) (d9 : decode cc (pc + 9) = .ok (.athrow, 1))
    (hR : 5 < R.frames ∧ (rest.map fun v => v.category).sum + 82 ≤ R.locals ∧ k + 1 ≤ R.cells ∧ 6 * k + 6 ≤ R.slots) (hkm : k + 1 ≤ mc) : W p l e R s m args below meth c H locs k (6 * k) (vx_MQ below Qc (zXc w κ A (.inl cls : String ⊕ α) σ') args s mc (6 * mc) A) (F0 m pc ls rest) := by
  obtain ⟨sa, hsa⟩ := C.2.2.1.2.2 _ hstr
  refine vx_throwS (names := zEn) (A := A) C.1.ex C.1.by C.2.1 C.1.ow hcls (by decide) (C.1.ts _ hk) (C.1.ts _ hini) hsa (vx_hat (fun x hx => C.1.ts x (hgw x hx)) hbw ?_) ?_ C.2.2.2.1.1 C.2.2.2.1.2 h.2.2 (hl.1.trans C.1.ml.symm) d0 d3 d4 d6 d9 (fun x hx => (C.2.2.2.2 x hx).elim) hR.1 hR.2.1 hR.2.2.1 hR.2.2.2 C.1.2.2.1 (fun t _ h1 h2 => zthrown C h h1 h2) h.2.2.2.2 hkm (by omega)
  · intro x hx
    rcases List.mem_cons.mp hx with rfl | hx
    · exact va_Nw.use rfl (C.2.2.1.1 _ hX)
    · obtain ⟨Y, hY, rfl⟩ := List.mem_map.mp hx
      exact va_Nw.use rfl (C.2.2.1.2.1 _ hY)
  · intro x hx
    rcases List.mem_cons.mp hx with rfl | hx
    · rfl
    rcases List.mem_cons.mp hx with rfl | hx
    · rfl
    · exact hot x hx
theorem z_throwSW {α : Type} {Qc : Array Value → State → Outcome → State → Prop} {cls text : String} {ik is ic mc k : Nat} (C : zCX cc nL ret RX9 κ A p l s m args meth c) (h : zH w κ A s σ' H locs) (hcls : Bundle.fit cls = true) (hk : Cond.classLink RX9 ik cls ∈ zW) (hini : Cond.initialized cls ∈ zW) (hstr : (is, text) ∈ zStr) (hX : cls ∈ zEx)
    (hgw : ∀ x ∈ (vx_atS RX9 ic cls zEn).filter goodWord, x ∈ zW) (hbw : ∀ x ∈ (vx_atS RX9 ic cls zEn).filter (fun w => !goodWord w), x ∈ Cond.castable cls cls :: zEy.map (fun Y => Cond.declares (Bundle.initS Y))) (hot : ∀ x ∈ vx_atS RX9 ic cls zEn, vx_ot x = true)
    (hl : lv_has ls nL lv) (d0 : decode cc pc = .ok (.new ik, 3)) (d3 : decode cc (pc + 3) = .ok (.dup, 1)) (d4 : decode cc (pc + 4) = .ok (.ldc_w is, 3)) (d7 : decode cc (pc + 7) = .ok (.invokespecial ic, 3)) (d10 : decode cc (pc + 10) = .ok (.athrow, 1))
    (hR : 5 < R.frames ∧ (rest.map fun v => v.category).sum + 82 ≤ R.locals ∧ k + 1 ≤ R.cells ∧ 6 * k + 6 ≤ R.slots) (hkm : k + 1 ≤ mc) : W p l e R s m args below meth c H locs k (6 * k) (vx_MQ below Qc (zXc w κ A (.inl cls : String ⊕ α) σ') args s mc (6 * mc) A) (F0 m pc ls rest) := by
  obtain ⟨sa, hsa⟩ := C.2.2.1.2.2 _ hstr
  refine vx_throwSW (names := zEn) (A := A) C.1.ex C.1.by C.2.1 C.1.ow hcls (by decide) (C.1.ts _ hk) (C.1.ts _ hini) hsa (vx_hat (fun x hx => C.1.ts x (hgw x hx)) hbw ?_) ?_ C.2.2.2.1.1 C.2.2.2.1.2 h.2.2 (hl.1.trans C.1.ml.symm) d0 d3 d4 d7 d10 (fun x hx => (C.2.2.2.2 x hx).elim) hR.1 hR.2.1 hR.2.2.1 hR.2.2.2 C.1.2.2.1 (fun t _ h1 h2 => zthrown C h h1 h2) h.2.2.2.2 hkm (by omega)
  · intro x hx
    rcases List.mem_cons.mp hx with rfl | hx
    · exact va_Nw.use rfl (C.2.2.1.1 _ hX)
    · obtain ⟨Y, hY, rfl⟩ := List.mem_map.mp hx
      exact va_Nw.use rfl (C.2.2.1.2.1 _ hY)
  · intro x hx
    rcases List.mem_cons.mp hx with rfl | hx
    · rfl
    rcases List.mem_cons.mp hx with rfl | hx
    · rfl
    · exact hot x hx
theorem zpreX (C : zCX cc nL ret own κ A p l s m args meth c) (h : zH w κ A s σ H locs) {ci b : Nat} {fs As : List Value} {C' : String} {T : u_T} {N : Nat} (q0 : Nat) (he : (w κ σ)[q0]? = some (b, .inr (ci, fs))) (hc : vwCl[ci]? = some (C', T, N)) : PreV s H C' b (zPreX w κ (.ref b :: As) H.size σ) As :=
  ⟨zPreX_blind, va_recv C.1.hK h.1 hc he, fun U hU hW => ⟨rfl, by rw [hU], by rw [hU]; exact h.1, zK.warm hW C.1.2.2.2.2, h.2.1.weaken (fun _ _ _ _ => trivial), zE.warm hW C.2.2.1, by rw [hU]; exact ((zZnow C h).narrow (zfree C.1 h)).moved hW.alike⟩⟩
theorem z_callTi_x {β : Type} {Qc : Array Value → State → Outcome → State → Prop} {E : String} {mc : Nat} {y : MethodName} {rm : Room} {bytes : ByteArray} {maxL index n ci b N mc' k : Nat} {ret' : Option FieldType} {C' : String} {T : u_T} {fs As st : List Value} (C : zCX cc nL ret own κ A p l s m args meth c) (h : zH w κ A s σ H locs) (hM : zTi l y (Cond.code y bytes maxL ret') rm w κ (.ref b :: As) σ mc' (.inl E) σ') (hG : GoodIn zW (wsV own index C' y (Cond.code y bytes maxL ret' :: zW))) (hrc : rm.cells = mc' ∧ rm.slots = 6 * mc') (hd : y.cls = C' ∧ y.cls ≠ "java/lang/invoke/MethodHandle" ∧ y.cls ≠ "java/lang/invoke/VarHandle" ∧ (parseMethodDescriptor y.desc).map (fun d => d.parameters.length) = some n) (hR : rm.frames + 1 ≤ R.frames ∧ 8 + (maxL + 11) + rm.locals ≤ R.locals) (q0 : Nat) (he : (w κ σ)[q0]? = some (b, .inr (ci, fs))) (hc : vwCl[ci]? = some (C', T, N)) (hl : lv_has ls nL lv) (hn : As.length = n) (hst : st = As.reverse ++ .ref b :: rest) (hroom : (rest.map fun v => v.category).sum ≤ 8) (hdg : decode cc pc = .ok (.invokevirtual index, 3)) (hcs : k + mc' ≤ R.cells ∧ 6 * k + 6 * mc' ≤ R.slots) (hkm : k + mc' ≤ mc) : W p l e R s m args below meth c H locs k (6 * k) (vx_MQ below Qc (zXc w κ A (.inl E : String ⊕ β) σ') args s mc (6 * mc) A) (F0 m pc ls st) :=
  vx_calli (vx_runV (As := As) (rest := rest) C.1.1 (hM H.size) (cwV n C.1.ts hG rfl hrc.1 hrc.2 hd hR) (zpreX C h q0 he hc) rfl hn hl.1 hst (lv_room hroom) hdg hcs) h.2.2 (fun q _ hq => zfree C.1 h q hq) (zfree C.1 h) (fun q _ hq => zfree C.1 h q hq)
    (fun E' ce q9 u t H1 locs1 ht _ hp hB hz hk hS hce hcv hcl => by
      obtain ⟨e1, e2⟩ := hp
      obtain ⟨e3, hA1⟩ := hB
      cases e1
      subst e2; subst ht; subst e3
      exact vx_out (fun x hx => (C.2.2.2.2 x hx).elim) C.1.2.2.1 hce hcv hcl (fun t2 ht2 _ => ⟨(u.1, u.2), ⟨rfl, rfl⟩, ⟨rfl, by rw [ht2]; exact hA1.1, hA1.2.weaken (fun _ _ _ hq => zfree C.1 h _ hq)⟩, hS.F ht2⟩) hS.2.2 hkm (by omega))
    (fun r' u t H1 locs1 _ _ hp _ _ _ _ => by cases hp.1)
theorem z_callTi {r : Int32} {y : MethodName} {rm : Room} {bytes : ByteArray} {maxL index n ci b N mc' k : Nat} {ret' : Option FieldType} {C' : String} {T : u_T} {fs As st : List Value} (C : zCX cc nL ret own κ A p l s m args meth c) (h : zH w κ A s σ H locs) (hM : zTi l y (Cond.code y bytes maxL ret') rm w κ (.ref b :: As) σ mc' (.inr r) σ') (hG : GoodIn zW (wsV own index C' y (Cond.code y bytes maxL ret' :: zW))) (hrc : rm.cells = mc' ∧ rm.slots = 6 * mc') (hd : y.cls = C' ∧ y.cls ≠ "java/lang/invoke/MethodHandle" ∧ y.cls ≠ "java/lang/invoke/VarHandle" ∧ (parseMethodDescriptor y.desc).map (fun d => d.parameters.length) = some n) (hR : rm.frames + 1 ≤ R.frames ∧ 8 + (maxL + 11) + rm.locals ≤ R.locals) (q0 : Nat) (he : (w κ σ)[q0]? = some (b, .inr (ci, fs))) (hc : vwCl[ci]? = some (C', T, N)) (hl : lv_has ls nL lv) (hn : As.length = n) (hst : st = As.reverse ++ .ref b :: rest) (hroom : (rest.map fun v => v.category).sum ≤ 8) (hdg : decode cc pc = .ok (.invokevirtual index, 3)) (hcs : k + mc' ≤ R.cells ∧ 6 * k + 6 * mc' ≤ R.slots)
    (kk : ∀ (H1 : Heap) (locs1 : List Loc), zH w κ A s σ' H1 locs1 → W p l e R s m args below meth c H1 locs1 (k + mc') (6 * k + 6 * mc') Q (F0 m (pc + 3) ls (.int r :: rest))) : W p l e R s m args below meth c H locs k (6 * k) Q (F0 m pc ls st) :=
  vx_calli (vx_runV (As := As) (rest := rest) C.1.1 (hM H.size) (cwV n C.1.ts hG rfl hrc.1 hrc.2 hd hR) (zpreX C h q0 he hc) rfl hn hl.1 hst (lv_room hroom) hdg hcs) h.2.2 (fun q _ hq => zfree C.1 h q hq) (zfree C.1 h) (fun q _ hq => zfree C.1 h q hq)
    (fun E' ce q9 u t H1 locs1 _ _ hp _ _ _ _ _ _ _ => by cases hp.1)
    (fun r' u t H1 locs1 ht _ hp hB _ _ hS => by
      obtain ⟨e1, e2⟩ := hp
      cases e1
      subst e2; subst ht
      exact kk t.heap locs1 ⟨hB.1, hB.2.weaken (fun _ _ _ hq => zfree C.1 h _ hq), hS⟩)
theorem z_callTv_x {β : Type} {Qc : Array Value → State → Outcome → State → Prop} {E : String} {mc : Nat} {y : MethodName} {rm : Room} {bytes : ByteArray} {maxL index n ci b N mc' k : Nat} {ret' : Option FieldType} {C' : String} {T : u_T} {fs As st : List Value} (C : zCX cc nL ret own κ A p l s m args meth c) (h : zH w κ A s σ H locs) (hM : zTv l y (Cond.code y bytes maxL ret') rm w κ (.ref b :: As) σ mc' (.inl E) σ') (hG : GoodIn zW (wsV own index C' y (Cond.code y bytes maxL ret' :: zW))) (hrc : rm.cells = mc' ∧ rm.slots = 6 * mc') (hd : y.cls = C' ∧ y.cls ≠ "java/lang/invoke/MethodHandle" ∧ y.cls ≠ "java/lang/invoke/VarHandle" ∧ (parseMethodDescriptor y.desc).map (fun d => d.parameters.length) = some n) (hR : rm.frames + 1 ≤ R.frames ∧ 8 + (maxL + 11) + rm.locals ≤ R.locals) (q0 : Nat) (he : (w κ σ)[q0]? = some (b, .inr (ci, fs))) (hc : vwCl[ci]? = some (C', T, N)) (hl : lv_has ls nL lv) (hn : As.length = n) (hst : st = As.reverse ++ .ref b :: rest) (hroom : (rest.map fun v => v.category).sum ≤ 8) (hdg : decode cc pc = .ok (.invokevirtual index, 3)) (hcs : k + mc' ≤ R.cells ∧ 6 * k + 6 * mc' ≤ R.slots) (hkm : k + mc' ≤ mc) : W p l e R s m args below meth c H locs k (6 * k) (vx_MQ below Qc (zXc w κ A (.inl E : String ⊕ β) σ') args s mc (6 * mc) A) (F0 m pc ls st) :=
  vx_callv (vx_runV (As := As) (rest := rest) C.1.1 (hM H.size) (cwV n C.1.ts hG rfl hrc.1 hrc.2 hd hR) (zpreX C h q0 he hc) rfl hn hl.1 hst (lv_room hroom) hdg hcs) h.2.2 (fun q _ hq => zfree C.1 h q hq) (zfree C.1 h) (fun q _ hq => zfree C.1 h q hq)
    (fun E' ce q9 u t H1 locs1 ht _ hp hB hz hk hS hce hcv hcl => by
      obtain ⟨e1, e2⟩ := hp
      obtain ⟨e3, hA1⟩ := hB
      cases e1
      subst e2; subst ht; subst e3
      exact vx_out (fun x hx => (C.2.2.2.2 x hx).elim) C.1.2.2.1 hce hcv hcl (fun t2 ht2 _ => ⟨(u.1, u.2), ⟨rfl, rfl⟩, ⟨rfl, by rw [ht2]; exact hA1.1, hA1.2.weaken (fun _ _ _ hq => zfree C.1 h _ hq)⟩, hS.F ht2⟩) hS.2.2 hkm (by omega))
    (fun u t H1 locs1 _ _ hp _ _ _ _ => by cases hp.1)
theorem z_callTv {y : MethodName} {rm : Room} {bytes : ByteArray} {maxL index n ci b N mc' k : Nat} {ret' : Option FieldType} {C' : String} {T : u_T} {fs As st : List Value} (C : zCX cc nL ret own κ A p l s m args meth c) (h : zH w κ A s σ H locs) (hM : zTv l y (Cond.code y bytes maxL ret') rm w κ (.ref b :: As) σ mc' (.inr ()) σ') (hG : GoodIn zW (wsV own index C' y (Cond.code y bytes maxL ret' :: zW))) (hrc : rm.cells = mc' ∧ rm.slots = 6 * mc') (hd : y.cls = C' ∧ y.cls ≠ "java/lang/invoke/MethodHandle" ∧ y.cls ≠ "java/lang/invoke/VarHandle" ∧ (parseMethodDescriptor y.desc).map (fun d => d.parameters.length) = some n) (hR : rm.frames + 1 ≤ R.frames ∧ 8 + (maxL + 11) + rm.locals ≤ R.locals) (q0 : Nat) (he : (w κ σ)[q0]? = some (b, .inr (ci, fs))) (hc : vwCl[ci]? = some (C', T, N)) (hl : lv_has ls nL lv) (hn : As.length = n) (hst : st = As.reverse ++ .ref b :: rest) (hroom : (rest.map fun v => v.category).sum ≤ 8) (hdg : decode cc pc = .ok (.invokevirtual index, 3)) (hcs : k + mc' ≤ R.cells ∧ 6 * k + 6 * mc' ≤ R.slots)
    (kk : ∀ (H1 : Heap) (locs1 : List Loc), zH w κ A s σ' H1 locs1 → W p l e R s m args below meth c H1 locs1 (k + mc') (6 * k + 6 * mc') Q (F0 m (pc + 3) ls rest)) : W p l e R s m args below meth c H locs k (6 * k) Q (F0 m pc ls st) :=
  vx_callv (vx_runV (As := As) (rest := rest) C.1.1 (hM H.size) (cwV n C.1.ts hG rfl hrc.1 hrc.2 hd hR) (zpreX C h q0 he hc) rfl hn hl.1 hst (lv_room hroom) hdg hcs) h.2.2 (fun q _ hq => zfree C.1 h q hq) (zfree C.1 h) (fun q _ hq => zfree C.1 h q hq)
    (fun E' ce q9 u t H1 locs1 _ _ hp _ _ _ _ _ _ _ => by cases hp.1)
    (fun u t H1 locs1 ht _ hp hB _ _ hS => by
      obtain ⟨e1, e2⟩ := hp
      cases e1
      subst e2; subst ht
      exact kk t.heap locs1 ⟨hB.1, hB.2.weaken (fun _ _ _ hq => zfree C.1 h _ hq), hS⟩)
end ZX
