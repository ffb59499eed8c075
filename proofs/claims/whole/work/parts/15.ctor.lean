/-! ===== constructors: the world is the list of cells itself, and grows ===== -/
def zid : zG → va_W → va_W := fun _ x => x
def zNv (l : Launch) (y : MethodName) (cw : Cond) (rm : Room) (κ : zG) (av : List Value) (wc : va_W) {U : Type} (w1 : U → va_W) (mc ms : Nat) : Prop := ∀ sz : Nat, Met l y (cw :: zW) rm (zPre zid κ av sz wc) (va_Qv (fun _ : U => True) (fun u t => va_P κ.1 vwCl (w1 u) t.heap ∧ va_D (va_A wc sz) (w1 u)) (va_A wc sz)) mc ms (va_A wc sz)
theorem zmx0 {N : Nat} (h : N < 2 ^ 31) : (if (0 : Int32) < nI N then nI N else 0) = nI N := by
  by_cases h0 : N = 0
  · subst h0
    rw [nI_0]
    simp
  · rw [if_pos]
    have := nI_lt (a := 0) (b := N) (by omega) h
    rwa [nI_0] at this
section ZK
variable {p : Program} {l : Launch} {e : Env} {R : Room} {s : State} {m : MethodId} {args : Array Value} {below : List Frame} {meth : Method} {c : Code} {H : Heap} {locs : List Loc} {cells slots : Nat} {Q : State → Prop}
variable {cc : ByteArray} {nL : Nat} {ret : Option FieldType} {own : String} {κ : zG} {A : Nat → Prop} {ws : va_W} {pc : Nat} {ls : Array Slot} {rest : List Value} {lv : List (Nat × Value)}
theorem z_topi {x y : Int32} (h : x = y) (k : W p l e R s m args below meth c H locs cells slots Q (F0 m pc ls (.int y :: rest))) : W p l e R s m args below meth c H locs cells slots Q (F0 m pc ls (.int x :: rest)) := h ▸ k
theorem zNv_of {y : MethodName} {rm : Room} {cc : ByteArray} {maxL mc ms : Nat} {av : List Value} {wc : va_W} {U : Type} {w1 : U → va_W} (hy : plainName y.cls = true) (hyn : y.name = "<init>") (hlen : (lg_sl av).length ≤ maxL)
    (body : ∀ (p : Program) (e : Env) (s : State) (m : MethodId) (below : List Frame) (meth : Method) (c : Code) (A : Nat → Prop), zC cc maxL none y.cls κ A p s m av.toArray meth c → meth.name = "<init>" → zH zid κ A s wc s.heap [] → ∀ ls : Array Slot, lv_has ls maxL (lv_args 0 av) → W p l e rm s m av.toArray below meth c s.heap [] 0 0 (MQ below (va_Qv (fun _ : U => True) (fun u t => va_P κ.1 vwCl (w1 u) t.heap ∧ va_D A (w1 u)) A) av.toArray s mc ms A) (F0 m 0 ls [])) :
    zNv l y (Cond.code y cc maxL none) rm κ av wc w1 mc ms := by
  intro sz
  refine Met.ofW (cc := cc) (maxL := maxL) (ret := none) hy rfl ?_
  intro p e s m args below meth c s₁ B hml hv
  obtain ⟨rfl, hsz, hP, hK, hD0⟩ := hv
  have hts0 := atoms_spec (ws := Cond.code y cc maxL none :: zW) B.pre
  have hts : ∀ w ∈ zW, w.before av.toArray s = true := fun w hw => hts0 w (List.mem_cons_of_mem _ hw)
  have hown : s.vm.findClass y.cls = some m.cls := findClass_of_methodNamed B.named
  have hin : meth.name = "<init>" := (name_of_methodNamed B.named B.method).1.trans hyn
  subst hsz
  have hD := hD0.self (sz := s.heap.size)
  have hAe : ∃ A, va_A (zid κ wc) s.heap.size = A := ⟨_, rfl⟩
  obtain ⟨A, hAe⟩ := hAe
  have hAe2 : va_A wc s.heap.size = A := hAe
  rw [hAe] at hD
  rw [hAe2]
  have hA : ∀ q : Nat, s.heap.size ≤ q → A q := fun q h => by rw [← hAe]; exact Or.inr h
  have hl := lv_entry av (n := maxL) hlen
  rw [lg_entry_eq]
  exact body p e s m below meth c A ⟨⟨B.exec, B.bytes, hml, hown, hts⟩, B.returns, B.notSynchronized, hA, hK⟩ hin ⟨hP, hD, va_S.rf⟩ _ hl
theorem z_cret {U : Type} {w1 : U → va_W} (u : U) (C : zC cc nL none own κ A p s m args meth c) (h : zH zid κ A s (w1 u) H locs) (hdg : decode cc pc = .ok (.return_, 1)) : W p l e R s m args below meth c H locs cells slots (MQ below (va_Qv (fun _ : U => True) (fun u t => va_P κ.1 vwCl (w1 u) t.heap ∧ va_D A (w1 u)) A) args s cells slots A) (F0 m pc ls []) :=
  W.vret C.ex C.by C.2.1 (fun t ht _ => ⟨⟨u, rfl, trivial, by rw [ht]; exact h.1, h.2.1⟩, h.2.2.F ht⟩) h.2.2.2.2 hdg C.2.2.1
theorem z_objInit {a idx : Nat} (C : zC cc nL ret own κ A p s m args meth c) (hl : lv_has ls nL lv) (hlink : Cond.methodLink own idx Lib.objectInit ∈ zW) (hinst : Cond.instanceMethod Lib.objectInit ∈ zW) (hcode : Cond.code Lib.objectInit ⟨#[0xb1]⟩ 1 none ∈ zW) (hdg : decode cc pc = .ok (.invokespecial idx, 3)) (hR : 1 ≤ R.frames ∧ (rest.map fun v => v.category).sum + 12 ≤ R.locals)
    (kk : W p l e R s m args below meth c H locs cells slots Q (F0 m (pc + 3) ls rest)) : W p l e R s m args below meth c H locs cells slots Q (F0 m pc ls (.ref a :: rest)) :=
  W.objInit C.ex C.by C.ow (C.ts _ hlink) (C.ts _ hinst) (C.ts _ hcode) rfl (by rw [C.ml]; exact hl.1) rfl hdg hR.1 (by show 2 * 0 + _ + 12 ≤ _; have := hR.2; omega) kk
theorem z_new {Cn : String} {T : u_T} {N ci index : Nat} {fs : List Value} (C : zC cc nL ret own κ A p s m args meth c) (h : zH zid κ A s ws H locs) (hin : ∀ x ∈ u_ws Cn T N, x ∈ zW) {ty : Nat → FieldType} (hty : ∀ k, k < N → parseFieldDescriptor (T k).2.2.1 = some (ty k)) (hcl : Cond.classLink own index Cn ∈ zW) (hinst : Cond.instantiable Cn N ∈ zW) (hini : Cond.initialized Cn ∈ zW) (hc : vwCl[ci]? = some (Cn, T, N)) (hfs : ∀ j, j < N → defaultValue (ty j) = vp_V fs j) (hcells : cells + 1 ≤ R.cells) (hslots : slots + N ≤ R.slots) (hdg : decode cc pc = .ok (.new index, 3))
    (kk : ∀ (q : Nat) (H1 : Heap), zH zid κ A s (ws ++ [(q, .inr (ci, fs))]) H1 locs → W p l e R s m args below meth c H1 locs (cells + 1) (slots + N) Q (F0 m (pc + 3) ls (.ref q :: rest))) : W p l e R s m args below meth c H locs cells slots Q (F0 m pc ls rest) :=
  va_new (c0 := c) C.ex C.by C.ts hin ty hty C.ow (C.ts _ hcl) (C.ts _ hinst) (C.ts _ hini) C.hK h.1 h.2.1 h.2.2 C.hA hc hfs hcells hslots hdg (fun q H1 hP hD hS => kk q H1 ⟨hP, hD, hS⟩)
theorem z_newa {atype : ArrayType} {ty : FieldType} {t0 : Nat} {n : Int32} {N' : Nat} {a0 : vp_A} (C : zC cc nL ret own κ A p s m args meth c) (h : zH zid κ A s ws H locs) (harr : Cond.arrayClass (newarray.typeOf atype) ∈ zW) (hty : newarray.typeOf atype = ty) (ht : (zt κ)[t0]? = some (κ.2.2.1 t0, ty)) (hra : ∀ c, va_RA s c ty → s.vm.findClass ("[" ++ ty.toString) = some c) (ha : ∀ cA : ClassId, vp_cell cA a0 = arrV cA N' (fun _ => defaultValue ty)) (hn : n = nI N') (hN : N' ≤ 20000) (hb8 : componentBytes ty ≤ 8) (hcells : cells + 1 ≤ R.cells) (hslots : slots + N' ≤ R.slots) (hdg : decode cc pc = .ok (.newarray atype, 2))
    (kk : ∀ (q : Nat) (H1 : Heap), zH zid κ A s (ws ++ [(q, .inl (κ.2.2.1 t0, a0))]) H1 locs → W p l e R s m args below meth c H1 locs (cells + 1) (slots + N') Q (F0 m (pc + 2) ls (.ref q :: rest))) : W p l e R s m args below meth c H locs cells slots Q (F0 m pc ls (.int n :: rest)) := by
  subst hn
  refine va_newa C.ex C.by (C.ts _ harr) hty C.hK h.1 h.2.1 h.2.2 C.hA ha (nI_pos (by omega)) (nI_clamp (by omega)) (Nat.le_trans (Nat.mul_le_mul hN hb8) (by decide)) hcells hslots hdg (fun q cA H1 hK hP hD hS => ?_)
  have e1 := hra _ (hK.2 (zt κ).length (cA, ty) (by simp)).2
  have e2 := hra _ (C.hK.2 t0 _ ht).2
  have e3 : cA = κ.2.2.1 t0 := Option.some.inj (e1.symm.trans e2)
  subst e3
  exact kk q H1 ⟨hP, hD, hS⟩
theorem z_newq {index : Nat} {n : Int32} {N' : Nat} (C : zC cc nL ret own κ A p s m args meth c) (h : zH zid κ A s ws H locs) (hcl : Cond.classLink own index RX6 ∈ zW) (hn : n = nI N') (hN : N' ≤ 20000) (hcells : cells + 1 ≤ R.cells) (hslots : slots + N' ≤ R.slots) (hdg : decode cc pc = .ok (.anewarray index, 3))
    (kk : ∀ (q : Nat) (H1 : Heap), zH zid κ A s (ws ++ [(q, .inl (κ.2.2.1 3, N', .inr (.inr (.inr (.inr (fun _ => none))))))]) H1 locs → W p l e R s m args below meth c H1 locs (cells + 1) (slots + N') Q (F0 m (pc + 3) ls (.ref q :: rest))) : W p l e R s m args below meth c H locs cells slots Q (F0 m pc ls (.int n :: rest)) := by
  subst hn
  refine va_newq C.ex C.by C.ow (C.ts _ hcl) C.hN.2.2 C.hK h.1 h.2.1 h.2.2 C.hA (nI_pos (by omega)) (nI_clamp (by omega)) (by omega) hcells hslots hdg (fun q cA H1 hK hP hD hS => ?_)
  obtain ⟨k1, c1, -, -, -, e1⟩ := (hK.2 (zt κ).length (cA, .object RX6) (by simp)).2
  obtain ⟨k2, c2, -, -, -, e2⟩ := (C.hK.2 3 (κ.2.2.1 3, .object RX6) rfl).2
  have e3 : cA = κ.2.2.1 3 := Option.some.inj (e1.symm.trans e2)
  subst e3
  exact kk q H1 ⟨hP, hD, hS⟩
theorem z_aastN {a v n9 : Nat} {vs : List Value} {g : Nat → Option Nat} (C : zC cc nL ret own κ A p s m args meth c) (h : zH zid κ A s ws H locs) (q0 qk : Nat) (he : ws[q0]? = some (a, .inl (κ.2.2.1 3, n9, .inr (.inr (.inr (.inr g)))))) (hv : ws[qk]? = some (v, .inr (6, vs))) {i : Int32} (hin : vp_in i n9) (ws' : va_W) (hset : ws.set q0 (a, .inl (κ.2.2.1 3, n9, .inr (.inr (.inr (.inr (va_up g i.toNatClampNeg (some v))))))) = ws') (hdg : decode cc pc = .ok (.aastore, 1))
    (kk : ∀ (H1 : Heap) (locs1 : List Loc), zH zid κ A s ws' H1 locs1 → W p l e R s m args below meth c H1 locs1 cells slots Q (F0 m (pc + 1) ls rest)) : W p l e R s m args below meth c H locs cells slots Q (F0 m pc ls (.ref v :: .int i :: .ref a :: rest)) :=
  va_astq (r := (RX6, TX6, 2)) C.ex C.by C.hK h.1 h.2.1 h.2.2 q0 3 qk 6 he rfl hv rfl hin hdg (fun H1 locs1 hP hD hS => kk H1 locs1 ⟨hset ▸ hP, hset ▸ hD, hS⟩)
theorem z_putF {Cn : String} {T : u_T} {N ci index a : Nat} {fs : List Value} {v : Value} (C : zC cc nL ret own κ A p s m args meth c) (hnm2 : meth.name = "<init>") (h : zH zid κ A s ws H locs) (hin : ∀ x ∈ u_ws Cn T N, x ∈ zW) {ty0 : Nat → FieldType} (hty : ∀ k, k < N → parseFieldDescriptor (T k).2.2.1 = some (ty0 k)) (hnm : ∀ a, a < N → ∀ b, b < N → a ≠ b → (T a).2.1 ≠ (T b).2.1) (q0 : Nat) (he : ws[q0]? = some (a, .inr (ci, fs))) (hc : vwCl[ci]? = some (Cn, T, N)) (k : Nat) (hk : k < N) (hlink : Cond.fieldLink own index (T k).1 (T k).2.1 (T k).2.2.1 ∈ zW) (hfin : (T k).2.2.2 = true) (hdecl : (T k).1 = own) (hn : narrow (ty0 k) v = v) (hfit : fits (ty0 k) v = true) (hl : k < fs.length) (ws' : va_W) (hset : ws.set q0 (a, .inr (ci, fs.set k v)) = ws') (hdg : decode cc pc = .ok (.putfield index, 3))
    (kk : ∀ (H1 : Heap) (locs1 : List Loc), zH zid κ A s ws' H1 locs1 → W p l e R s m args below meth c H1 locs1 cells slots Q (F0 m (pc + 3) ls rest)) : W p l e R s m args below meth c H locs cells slots Q (F0 m pc ls (v :: .ref a :: rest)) :=
  va_putF C.ex C.by C.ts hin ty0 hty hnm C.ow C.hK h.1 h.2.1 h.2.2 q0 he hc k hk (C.ts _ hlink) (fun _ h9 => h9) hfin hnm2 hdecl (hty k hk) hn hfit hl hdg (fun H1 locs1 hP hD hS => kk H1 locs1 ⟨hset ▸ hP, hset ▸ hD, hS⟩)
theorem z_callI {y : MethodName} {rm : Room} {bytes : ByteArray} {maxL index n b mc ms : Nat} {As st : List Value} {wc wr : va_W} {U : Type} {w1 : U → va_W} (C : zC cc nL ret own κ A p s m args meth c) (h : zH zid κ A s ws H locs) (hM : zNv l y (Cond.code y bytes maxL none) rm κ (.ref b :: As) wc w1 mc ms) (hl1 : Cond.methodLink own index y ∈ zW) (hl2 : Cond.instanceMethod y ∈ zW) (hl3 : Cond.initialized y.cls ∈ zW) (hl4 : Cond.code y bytes maxL none ∈ zW) (hrc : rm.cells = mc ∧ rm.slots = ms) (hyn : y.name = "<init>")
    (hd : y.cls ≠ "java/lang/invoke/MethodHandle" ∧ y.cls ≠ "java/lang/invoke/VarHandle" ∧ (parseMethodDescriptor y.desc).map (fun d => d.parameters.length) = some n) (hR : rm.frames + 1 ≤ R.frames ∧ 8 + (maxL + 11) + rm.locals ≤ R.locals) (isC isR : List Nat) (hP9 : isC.filterMap (fun i => ws[i]?) = wc) (hC : isC.map (fun i => ws[i]?) = wc.map some) (hRr : isR.map (fun i => ws[i]?) = wr.map some) (hnC : va_nd isC = true) (hnR : va_nd isR = true) (hdis : ∀ i ∈ isR, i ∉ isC)
    (hl : lv_has ls nL lv) (hn : As.length = n) (hst : st = As.reverse ++ .ref b :: rest) (hroom : (rest.map fun v => v.category).sum ≤ 8) (hdg : decode cc pc = .ok (.invokespecial index, 3)) (hcs : cells + mc ≤ R.cells ∧ slots + ms ≤ R.slots)
    (kk : ∀ (u : U) (H1 : Heap) (locs1 : List Loc), zH zid κ A s (wr ++ w1 u) H1 locs1 → W p l e R s m args below meth c H1 locs1 (cells + mc) (slots + ms) Q (F0 m (pc + 3) ls rest)) : W p l e R s m args below meth c H locs cells slots Q (F0 m pc ls st) := by
  have hF := va_free (wc := wc) h.2.1 h.2.2 C.hA isC hC
  refine va_callv (va_runI (As := As) (rest := rest) C.1 (hM H.size) (cwI n C.ts (zgood hl4) rfl hrc.1 hrc.2 (C.ts _ hl3) (C.ts _ hl1) (C.ts _ hl2) hyn hd hR) ⟨zPre_blind, fun U hU hW => ⟨rfl, by rw [hU], by rw [hU]; exact h.1.sub isC hP9, zK.warm hW C.2.2.2.2, (h.2.1.sub (ws' := wc) isC hnC hC).weaken (fun _ _ _ _ => trivial)⟩⟩ rfl hn hl.1 hst (lv_room hroom) hdg hcs) h.2.2 (fun q _ hq => hF q hq) hF
    (fun u t H1 locs1 ht _ _ hB _ hk hS => ?_)
  subst ht
  obtain ⟨hP1, hD1⟩ := va_join (wr := wr) h.1 h.2.1 isC isR hC hRr hnR hdis hk hF hB.1 hB.2
  exact kk u t.heap locs1 ⟨hP1, hD1, hS⟩
end ZK
