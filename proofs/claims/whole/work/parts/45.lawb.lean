/-! ===== the law's wrappers: the class' world, and the row 'out' behind it ===== -/
def w2 (κ : zG) (x : zS × (Nat → Int64)) : va_W := wC κ x.1 ++ [(κ.2.1 60, .inl (κ.2.2.1 1, 1, .inr (.inl x.2)))]
theorem w2_at52 (κ : zG) (x : zS × (Nat → Int64)) : (w2 κ x)[52]? = some (κ.2.1 60, .inl (κ.2.2.1 1, 1, .inr (.inl x.2))) := rfl
theorem w2_s52 (κ : zG) (x : zS × (Nat → Int64)) (f : Nat → Int64) : (w2 κ x).set 52 (κ.2.1 60, .inl (κ.2.2.1 1, 1, .inr (.inl f))) = w2 κ (x.1, f) := rfl
theorem w2_at0 (κ : zG) (x : zS × (Nat → Int64)) : (w2 κ x)[0]? = some (κ.2.1 0, .inr (9, wC_f0 κ x.1)) := rfl
/-- a callee over the first cells: the others stay -/
theorem z_appP {D : va_G} {cl : List vw_C} {w1 w1' wr : va_W} {H H1 : Heap} {A : Nat → Prop} (hP : va_P D cl (w1 ++ wr) H) (hD : va_D A (w1 ++ wr)) (hk : ∀ q : Nat, q < H.size → ¬ va_A w1 H.size q → H1[q]? = H[q]?) (hF : ∀ q, va_A w1 H.size q → A q) (hP1 : va_P D cl w1' H1) (hD1 : va_D (va_A w1 H.size) w1') : va_P D cl (w1' ++ wr) H1 ∧ va_D A (w1' ++ wr) := by
  have hr : ∀ (k : Nat) (q : Nat × va_E), wr[k]? = some q → (w1 ++ wr)[w1.length + k]? = some q := fun k q hq => by rw [List.getElem?_append_right (by omega), Nat.add_sub_cancel_left]; exact hq
  have ap : ∀ (k : Nat) (q : Nat × va_E), wr[k]? = some q → q.1 < H.size ∧ ¬ va_A w1 H.size q.1 := by
    intro k q hq
    have hl := (hP _ q (hr k q hq)).lt
    refine ⟨hl, fun z => ?_⟩
    rcases z with ⟨k2, e0, h2⟩ | z
    · have hlt : k2 < w1.length := (List.getElem?_eq_some_iff.mp h2).1
      have h3 : (w1 ++ wr)[k2]? = some (q.1, e0) := by rw [List.getElem?_append_left hlt]; exact h2
      have := hD.1 _ _ _ _ h3 (hr k q hq) rfl
      omega
    · omega
  refine ⟨va_P.app hP1 (fun k q hq => ?_), va_D.app (hD1.weaken (fun _ _ _ h => hF _ h)) ⟨fun i j a b ha hb hab => ?_, fun k q hq => hD.2 _ q (hr k q hq)⟩ (fun i j a b ha hb hab => ?_)⟩
  · obtain ⟨g1, g2⟩ := ap k q hq
    exact (hP _ q (hr k q hq)).kept (hk q.1 g1 g2)
  · have := hD.1 _ _ _ _ (hr i a ha) (hr j b hb) hab
    omega
  · exact (ap j b hb).2 (by rw [← hab]; exact hD1.2 i a ha)
def zPairs : List (String × String) := zEx.flatMap (fun a => (zEx.filter (fun b => b != a)).map (fun b => (a, b)))
def zY (U : State) : Prop := ∀ q ∈ zPairs, va_Nc q.1 q.2 U
theorem zY.moved {u U : State} (hvm : u.vm.Alike U.vm) (h : zY u) : zY U := fun q hq => va_Nc.moved hvm (h q hq)
def zPreW (κ : zG) (av : List Value) (sz : Nat) (x : zS × (Nat → Int64)) : Array Value → State → Prop := va_Pc av (fun U => U.heap.size = sz ∧ va_P κ.1 vwCl (w2 κ x) U.heap ∧ zK κ U ∧ va_D (fun _ => True) (w2 κ x) ∧ zE U ∧ zZ (va_A (w2 κ x) sz) U U.heap ∧ zY U)
theorem zPreW_blind {κ : zG} {av : List Value} {sz : Nat} {x : zS × (Nat → Int64)} : FrameBlind (zPreW κ av sz x) := fun a U g mk q => by
  obtain ⟨q0, q1, qP, qK, qD, qE, qZ, qY⟩ := q
  exact ⟨q0, q1, qP, ⟨va_K.moved (u := U) (U := U.calling g mk a) (Vm.Alike.refl U.vm) qK.1, zN.same (u := U) (U := U.calling g mk a) rfl qK.2⟩, qD, zE.same (u := U) (U := U.calling g mk a) rfl qE, zZ.moved (u := U) (U := U.calling g mk a) (Vm.Alike.refl U.vm) qZ, zY.moved (u := U) (U := U.calling g mk a) (Vm.Alike.refl U.vm) qY⟩
def zWi (l : Launch) (y : MethodName) (cw : Cond) (rm : Room) (κ : zG) (av : List Value) (x : zS × (Nat → Int64)) (mc : Nat) (r : Int32) (x' : zS × (Nat → Int64)) : Prop := ∀ sz : Nat, Met l y (cw :: zW) rm (zPreW κ av sz x) (zQi w2 κ (va_A (w2 κ x) sz) r x') mc (6 * mc) (va_A (w2 κ x) sz)
def zCW (cc : ByteArray) (nL : Nat) (hh : List (Nat × Nat × Nat × Nat)) (κ : zG) (A : Nat → Prop) (p : Program) (l : Launch) (s : State) (m : MethodId) (args : Array Value) (meth : Method) (c : Code) : Prop :=
  zC cc nL (some .int) RL κ A p s m args meth c ∧ l.stackTraces = false ∧ zE s ∧ zZ A s s.heap ∧ zY s ∧ c.exceptionTable.toList = tableOf hh
section ZL
variable {p : Program} {l : Launch} {e : Env} {R : Room} {s : State} {m : MethodId} {args : Array Value} {below : List Frame} {meth : Method} {c : Code} {H : Heap} {locs : List Loc} {cells slots : Nat} {Q : State → Prop}
variable {cc : ByteArray} {nL : Nat} {hh : List (Nat × Nat × Nat × Nat)} {κ : zG} {A : Nat → Prop} {σ σ' : zS} {o o' : Nat → Int64} {pc : Nat} {ls : Array Slot} {rest : List Value} {lv : List (Nat × Value)}
theorem zWi_of {y : MethodName} {rm : Room} {maxL mc : Nat} {av : List Value} {x x' : zS × (Nat → Int64)} {r : Int32} (hy : plainName y.cls = true) (hyc : y.cls = RL) (hlen : (lg_sl av).length ≤ maxL) (hl9 : l.stackTraces = false)
    (body : ∀ (p : Program) (e : Env) (s : State) (m : MethodId) (below : List Frame) (meth : Method) (c : Code) (A : Nat → Prop), zCW cc maxL hh κ A p l s m av.toArray meth c → zH w2 κ A s x s.heap [] → ∀ ls : Array Slot, lv_has ls maxL (lv_args 0 av) → W p l e rm s m av.toArray below meth c s.heap [] 0 0 (MQ below (zQi w2 κ A r x') av.toArray s mc (6 * mc) A) (F0 m 0 ls [])) :
    zWi l y (Cond.codeWith y cc maxL (some .int) hh) rm κ av x mc r x' := by
  intro sz
  refine va_MetW (cc := cc) (maxL := maxL) (ret := some .int) (hh := hh) hy rfl ?_
  intro p e s m args below meth c s₁ B hml hv
  obtain ⟨rfl, hsz, hP, hK, hD0, hE, hZ, hY⟩ := hv
  have hts0 := atoms_spec (ws := Cond.codeWith y cc maxL (some .int) hh :: zW) B.pre
  have hts : ∀ w ∈ zW, w.before av.toArray s = true := fun w hw => hts0 w (List.mem_cons_of_mem _ hw)
  have hown : s.vm.findClass RL = some m.cls := hyc ▸ findClass_of_methodNamed B.named
  have htab := vx_table (x := y) B (hts0 _ List.mem_cons_self)
  subst hsz
  have hD := hD0.self (sz := s.heap.size)
  generalize hAe : va_A (w2 κ x) s.heap.size = A at hD hZ ⊢
  have hA : ∀ q : Nat, s.heap.size ≤ q → A q := fun q h => by rw [← hAe]; exact Or.inr h
  have hl := lv_entry av (n := maxL) hlen
  rw [lg_entry_eq]
  exact body p e s m below meth c A ⟨⟨⟨B.exec, B.bytes, hml, hown, hts⟩, B.returns, B.notSynchronized, hA, hK⟩, hl9, hE, hZ, hY, htab⟩ ⟨hP, hD, va_S.rf⟩ _ hl
theorem z_wret {x' : zS × (Nat → Int64)} {r : Int32} {mc k : Nat} (C : zCW cc nL hh κ A p l s m args meth c) (h : zH w2 κ A s x' H locs) (hk : k ≤ mc) (hdg : decode cc pc = .ok (.ireturn, 1)) : W p l e R s m args below meth c H locs k (6 * k) (MQ below (zQi w2 κ A r x') args s mc (6 * mc) A) (F0 m pc ls [.int r]) :=
  W.widen (k := mc) (n := 6 * mc) hk (Nat.mul_le_mul_left 6 hk) (W.iret (v := r) C.1.ex C.1.by C.1.2.1 (fun t ht _ => ⟨⟨r, x', rfl, ⟨rfl, rfl⟩, by rw [ht]; exact h.1, h.2.1⟩, h.2.2.F ht⟩) h.2.2.2.2 hdg C.1.2.2.1)
theorem zfreeW (C : zCW cc nL hh κ A p l s m args meth c) (h : zH w2 κ A s (σ, o) H locs) : ∀ q, va_A (wC κ σ) H.size q → A q := by
  intro q hq
  rcases hq with ⟨k, e0, hk⟩ | hq
  · exact h.2.1.2 k (q, e0) (by unfold w2; rw [List.getElem?_append_left (List.getElem?_eq_some_iff.mp hk).1]; exact hk)
  · exact C.1.hA q (Nat.le_trans h.2.2.1 hq)
theorem zpreW {As : List Value} (C : zCW cc nL hh κ A p l s m args meth c) (h : zH w2 κ A s (σ, o) H locs) : PreV s H RX9 (κ.2.1 0) (zPreX wC κ (.ref (κ.2.1 0) :: As) H.size σ) As := by
  have hpre : ∀ (k : Nat) (q : Nat × va_E), (wC κ σ)[k]? = some q → (w2 κ (σ, o))[k]? = some q := fun k q hq => by unfold w2; rw [List.getElem?_append_left (List.getElem?_eq_some_iff.mp hq).1]; exact hq
  refine ⟨zPreX_blind, va_recv C.1.hK h.1 (q := (RX9, TX9, 13)) rfl (w2_at0 κ (σ, o)), fun U hU hW => ⟨rfl, by rw [hU], by rw [hU]; exact fun k q hq => h.1 k q (hpre k q hq), zK.warm hW C.1.2.2.2.2, ⟨fun i j a b ha hb hab => h.2.1.1 i j a b (hpre i a ha) (hpre j b hb) hab, fun _ _ _ => trivial⟩, zE.warm hW C.2.2.1, ?_⟩⟩
  rw [hU]
  exact ((C.2.2.2.1.kept h.2.2.2.1).narrow (zfreeW C h)).moved hW.alike
theorem zbackW (C : zCW cc nL hh κ A p l s m args meth c) (h : zH w2 κ A s (σ, o) H locs) {H1 : Heap} {locs1 : List Loc} (hk : ∀ q : Nat, q < H.size → ¬ va_A (wC κ σ) H.size q → H1[q]? = H[q]?) (hB : va_P κ.1 vwCl (wC κ σ') H1 ∧ va_D (va_A (wC κ σ) H.size) (wC κ σ')) (hS : va_S A s.heap H1 locs1) : zH w2 κ A s (σ', o) H1 locs1 := by
  obtain ⟨h1, h2⟩ := z_appP h.1 h.2.1 hk (zfreeW C h) hB.1 hB.2
  exact ⟨h1, h2, hS⟩
theorem z_callWi {v : Int32} {y : MethodName} {rm : Room} {bytes : ByteArray} {maxL index n mc' : Nat} {ret' : Option FieldType} {As st : List Value} (C : zCW cc nL hh κ A p l s m args meth c) (h : zH w2 κ A s (σ, o) H locs) (hM : zTi l y (Cond.code y bytes maxL ret') rm wC κ (.ref (κ.2.1 0) :: As) σ mc' (.inr v) σ') (hG : GoodIn zW (wsV RL index RX9 y (Cond.code y bytes maxL ret' :: zW))) (hrc : rm.cells = mc' ∧ rm.slots = 6 * mc') (hd : y.cls = RX9 ∧ y.cls ≠ "java/lang/invoke/MethodHandle" ∧ y.cls ≠ "java/lang/invoke/VarHandle" ∧ (parseMethodDescriptor y.desc).map (fun d => d.parameters.length) = some n) (hR : rm.frames + 1 ≤ R.frames ∧ 8 + (maxL + 11) + rm.locals ≤ R.locals) (hl : lv_has ls nL lv) (hn : As.length = n) (hst : st = As.reverse ++ .ref (κ.2.1 0) :: rest) (hroom : (rest.map fun v => v.category).sum ≤ 8) (hdg : decode cc pc = .ok (.invokevirtual index, 3)) (hcs : mc' ≤ R.cells ∧ 6 * mc' ≤ R.slots)
    (kk : ∀ (H1 : Heap) (locs1 : List Loc), zH w2 κ A s (σ', o) H1 locs1 → W p l e R s m args below meth c H1 locs1 (0 + mc') (0 + 6 * mc') Q (F0 m (pc + 3) ls (.int v :: rest))) : W p l e R s m args below meth c H locs 0 0 Q (F0 m pc ls st) :=
  vx_calli (vx_runV (As := As) (rest := rest) C.1.1 (hM H.size) (cwV n C.1.ts hG rfl hrc.1 hrc.2 hd hR) (zpreW C h) rfl hn hl.1 hst (lv_room hroom) hdg (by rw [Nat.zero_add, Nat.zero_add]; exact hcs)) h.2.2 (fun q _ hq => zfreeW C h q hq) (zfreeW C h) (fun q _ hq => zfreeW C h q hq)
    (fun E' ce q9 u t H1 locs1 _ _ hp _ _ _ _ _ _ _ => by cases hp.1)
    (fun r' u t H1 locs1 ht _ hp hB _ hk hS => by
      obtain ⟨e1, e2⟩ := hp
      cases e1
      subst e2; subst ht
      exact kk t.heap locs1 (zbackW C h hk hB hS))
theorem z_callWi_x {E : String} {hp9 : Nat} {y : MethodName} {rm : Room} {bytes : ByteArray} {maxL index n mc' : Nat} {ret' : Option FieldType} {As st : List Value} (C : zCW cc nL hh κ A p l s m args meth c) (h : zH w2 κ A s (σ, o) H locs) (hM : zTi l y (Cond.code y bytes maxL ret') rm wC κ (.ref (κ.2.1 0) :: As) σ mc' (.inl E) σ') (hT : zTk args s RL E pc hp9 (tableOf hh)) (hG : GoodIn zW (wsV RL index RX9 y (Cond.code y bytes maxL ret' :: zW))) (hrc : rm.cells = mc' ∧ rm.slots = 6 * mc') (hd : y.cls = RX9 ∧ y.cls ≠ "java/lang/invoke/MethodHandle" ∧ y.cls ≠ "java/lang/invoke/VarHandle" ∧ (parseMethodDescriptor y.desc).map (fun d => d.parameters.length) = some n) (hR : rm.frames + 1 ≤ R.frames ∧ 8 + (maxL + 11) + rm.locals ≤ R.locals) (hl : lv_has ls nL lv) (hn : As.length = n) (hst : st = As.reverse ++ .ref (κ.2.1 0) :: rest) (hroom : (rest.map fun v => v.category).sum ≤ 8) (hdg : decode cc pc = .ok (.invokevirtual index, 3)) (hcs : mc' ≤ R.cells ∧ 6 * mc' ≤ R.slots)
    (kk : ∀ (q9 : Nat) (H1 : Heap) (locs1 : List Loc), zH w2 κ A s (σ', o) H1 locs1 → W p l e R s m args below meth c H1 locs1 (0 + mc') (0 + 6 * mc') Q (F0 m hp9 ls [.ref q9])) : W p l e R s m args below meth c H locs 0 0 Q (F0 m pc ls st) :=
  vx_calli (vx_runV (As := As) (rest := rest) C.1.1 (hM H.size) (cwV n C.1.ts hG rfl hrc.1 hrc.2 hd hR) (zpreW C h) rfl hn hl.1 hst (lv_room hroom) hdg (by rw [Nat.zero_add, Nat.zero_add]; exact hcs)) h.2.2 (fun q _ hq => zfreeW C h q hq) (zfreeW C h) (fun q _ hq => zfreeW C h q hq)
    (fun E' ce q9 u t H1 locs1 ht _ hp hB hz hk hS hce hcv hcl => by
      obtain ⟨e1, e2⟩ := hp
      obtain ⟨e3, hA1⟩ := hB
      cases e1
      subst e2; subst ht; subst e3
      exact z_catch C.1.ow (by rw [C.2.2.2.2.2]; exact hT) hce hcv hcl (kk q9 t.heap locs1 (zbackW C h hk hA1 hS)))
    (fun r' u t H1 locs1 _ _ hp _ _ _ _ => by cases hp.1)
theorem z_callWv {y : MethodName} {rm : Room} {bytes : ByteArray} {maxL index n mc' : Nat} {ret' : Option FieldType} {As st : List Value} (C : zCW cc nL hh κ A p l s m args meth c) (h : zH w2 κ A s (σ, o) H locs) (hM : zTv l y (Cond.code y bytes maxL ret') rm wC κ (.ref (κ.2.1 0) :: As) σ mc' (.inr ()) σ') (hG : GoodIn zW (wsV RL index RX9 y (Cond.code y bytes maxL ret' :: zW))) (hrc : rm.cells = mc' ∧ rm.slots = 6 * mc') (hd : y.cls = RX9 ∧ y.cls ≠ "java/lang/invoke/MethodHandle" ∧ y.cls ≠ "java/lang/invoke/VarHandle" ∧ (parseMethodDescriptor y.desc).map (fun d => d.parameters.length) = some n) (hR : rm.frames + 1 ≤ R.frames ∧ 8 + (maxL + 11) + rm.locals ≤ R.locals) (hl : lv_has ls nL lv) (hn : As.length = n) (hst : st = As.reverse ++ .ref (κ.2.1 0) :: rest) (hroom : (rest.map fun v => v.category).sum ≤ 8) (hdg : decode cc pc = .ok (.invokevirtual index, 3)) (hcs : mc' ≤ R.cells ∧ 6 * mc' ≤ R.slots)
    (kk : ∀ (H1 : Heap) (locs1 : List Loc), zH w2 κ A s (σ', o) H1 locs1 → W p l e R s m args below meth c H1 locs1 (0 + mc') (0 + 6 * mc') Q (F0 m (pc + 3) ls rest)) : W p l e R s m args below meth c H locs 0 0 Q (F0 m pc ls st) :=
  vx_callv (vx_runV (As := As) (rest := rest) C.1.1 (hM H.size) (cwV n C.1.ts hG rfl hrc.1 hrc.2 hd hR) (zpreW C h) rfl hn hl.1 hst (lv_room hroom) hdg (by rw [Nat.zero_add, Nat.zero_add]; exact hcs)) h.2.2 (fun q _ hq => zfreeW C h q hq) (zfreeW C h) (fun q _ hq => zfreeW C h q hq)
    (fun E' ce q9 u t H1 locs1 _ _ hp _ _ _ _ _ _ _ => by cases hp.1)
    (fun u t H1 locs1 ht _ hp hB _ hk hS => by
      obtain ⟨e1, e2⟩ := hp
      cases e1
      subst e2; subst ht
      exact kk t.heap locs1 (zbackW C h hk hB hS))
theorem z_callWv_x {E : String} {hp9 : Nat} {y : MethodName} {rm : Room} {bytes : ByteArray} {maxL index n mc' : Nat} {ret' : Option FieldType} {As st : List Value} (C : zCW cc nL hh κ A p l s m args meth c) (h : zH w2 κ A s (σ, o) H locs) (hM : zTv l y (Cond.code y bytes maxL ret') rm wC κ (.ref (κ.2.1 0) :: As) σ mc' (.inl E) σ') (hT : zTk args s RL E pc hp9 (tableOf hh)) (hG : GoodIn zW (wsV RL index RX9 y (Cond.code y bytes maxL ret' :: zW))) (hrc : rm.cells = mc' ∧ rm.slots = 6 * mc') (hd : y.cls = RX9 ∧ y.cls ≠ "java/lang/invoke/MethodHandle" ∧ y.cls ≠ "java/lang/invoke/VarHandle" ∧ (parseMethodDescriptor y.desc).map (fun d => d.parameters.length) = some n) (hR : rm.frames + 1 ≤ R.frames ∧ 8 + (maxL + 11) + rm.locals ≤ R.locals) (hl : lv_has ls nL lv) (hn : As.length = n) (hst : st = As.reverse ++ .ref (κ.2.1 0) :: rest) (hroom : (rest.map fun v => v.category).sum ≤ 8) (hdg : decode cc pc = .ok (.invokevirtual index, 3)) (hcs : mc' ≤ R.cells ∧ 6 * mc' ≤ R.slots)
    (kk : ∀ (q9 : Nat) (H1 : Heap) (locs1 : List Loc), zH w2 κ A s (σ', o) H1 locs1 → W p l e R s m args below meth c H1 locs1 (0 + mc') (0 + 6 * mc') Q (F0 m hp9 ls [.ref q9])) : W p l e R s m args below meth c H locs 0 0 Q (F0 m pc ls st) :=
  vx_callv (vx_runV (As := As) (rest := rest) C.1.1 (hM H.size) (cwV n C.1.ts hG rfl hrc.1 hrc.2 hd hR) (zpreW C h) rfl hn hl.1 hst (lv_room hroom) hdg (by rw [Nat.zero_add, Nat.zero_add]; exact hcs)) h.2.2 (fun q _ hq => zfreeW C h q hq) (zfreeW C h) (fun q _ hq => zfreeW C h q hq)
    (fun E' ce q9 u t H1 locs1 ht _ hp hB hz hk hS hce hcv hcl => by
      obtain ⟨e1, e2⟩ := hp
      obtain ⟨e3, hA1⟩ := hB
      cases e1
      subst e2; subst ht; subst e3
      exact z_catch C.1.ow (by rw [C.2.2.2.2.2]; exact hT) hce hcv hcl (kk q9 t.heap locs1 (zbackW C h hk hA1 hS)))
    (fun u t H1 locs1 _ _ hp _ _ _ _ => by cases hp.1)
theorem z_callWl {v : Int64} {y : MethodName} {rm : Room} {bytes : ByteArray} {maxL index n mc' : Nat} {ret' : Option FieldType} {As st : List Value} (C : zCW cc nL hh κ A p l s m args meth c) (h : zH w2 κ A s (σ, o) H locs) (hM : zTl l y (Cond.code y bytes maxL ret') rm wC κ (.ref (κ.2.1 0) :: As) σ mc' (.inr v) σ') (hG : GoodIn zW (wsV RL index RX9 y (Cond.code y bytes maxL ret' :: zW))) (hrc : rm.cells = mc' ∧ rm.slots = 6 * mc') (hd : y.cls = RX9 ∧ y.cls ≠ "java/lang/invoke/MethodHandle" ∧ y.cls ≠ "java/lang/invoke/VarHandle" ∧ (parseMethodDescriptor y.desc).map (fun d => d.parameters.length) = some n) (hR : rm.frames + 1 ≤ R.frames ∧ 8 + (maxL + 11) + rm.locals ≤ R.locals) (hl : lv_has ls nL lv) (hn : As.length = n) (hst : st = As.reverse ++ .ref (κ.2.1 0) :: rest) (hroom : (rest.map fun v => v.category).sum ≤ 8) (hdg : decode cc pc = .ok (.invokevirtual index, 3)) (hcs : mc' ≤ R.cells ∧ 6 * mc' ≤ R.slots)
    (kk : ∀ (H1 : Heap) (locs1 : List Loc), zH w2 κ A s (σ', o) H1 locs1 → W p l e R s m args below meth c H1 locs1 (0 + mc') (0 + 6 * mc') Q (F0 m (pc + 3) ls (.long v :: rest))) : W p l e R s m args below meth c H locs 0 0 Q (F0 m pc ls st) :=
  vx_calll (vx_runV (As := As) (rest := rest) C.1.1 (hM H.size) (cwV n C.1.ts hG rfl hrc.1 hrc.2 hd hR) (zpreW C h) rfl hn hl.1 hst (lv_room hroom) hdg (by rw [Nat.zero_add, Nat.zero_add]; exact hcs)) h.2.2 (fun q _ hq => zfreeW C h q hq) (zfreeW C h) (fun q _ hq => zfreeW C h q hq)
    (fun E' ce q9 u t H1 locs1 _ _ hp _ _ _ _ _ _ _ => by cases hp.1)
    (fun r' u t H1 locs1 ht _ hp hB _ hk hS => by
      obtain ⟨e1, e2⟩ := hp
      cases e1
      subst e2; subst ht
      exact kk t.heap locs1 (zbackW C h hk hB hS))
theorem z_callWl_x {E : String} {hp9 : Nat} {y : MethodName} {rm : Room} {bytes : ByteArray} {maxL index n mc' : Nat} {ret' : Option FieldType} {As st : List Value} (C : zCW cc nL hh κ A p l s m args meth c) (h : zH w2 κ A s (σ, o) H locs) (hM : zTl l y (Cond.code y bytes maxL ret') rm wC κ (.ref (κ.2.1 0) :: As) σ mc' (.inl E) σ') (hT : zTk args s RL E pc hp9 (tableOf hh)) (hG : GoodIn zW (wsV RL index RX9 y (Cond.code y bytes maxL ret' :: zW))) (hrc : rm.cells = mc' ∧ rm.slots = 6 * mc') (hd : y.cls = RX9 ∧ y.cls ≠ "java/lang/invoke/MethodHandle" ∧ y.cls ≠ "java/lang/invoke/VarHandle" ∧ (parseMethodDescriptor y.desc).map (fun d => d.parameters.length) = some n) (hR : rm.frames + 1 ≤ R.frames ∧ 8 + (maxL + 11) + rm.locals ≤ R.locals) (hl : lv_has ls nL lv) (hn : As.length = n) (hst : st = As.reverse ++ .ref (κ.2.1 0) :: rest) (hroom : (rest.map fun v => v.category).sum ≤ 8) (hdg : decode cc pc = .ok (.invokevirtual index, 3)) (hcs : mc' ≤ R.cells ∧ 6 * mc' ≤ R.slots)
    (kk : ∀ (q9 : Nat) (H1 : Heap) (locs1 : List Loc), zH w2 κ A s (σ', o) H1 locs1 → W p l e R s m args below meth c H1 locs1 (0 + mc') (0 + 6 * mc') Q (F0 m hp9 ls [.ref q9])) : W p l e R s m args below meth c H locs 0 0 Q (F0 m pc ls st) :=
  vx_calll (vx_runV (As := As) (rest := rest) C.1.1 (hM H.size) (cwV n C.1.ts hG rfl hrc.1 hrc.2 hd hR) (zpreW C h) rfl hn hl.1 hst (lv_room hroom) hdg (by rw [Nat.zero_add, Nat.zero_add]; exact hcs)) h.2.2 (fun q _ hq => zfreeW C h q hq) (zfreeW C h) (fun q _ hq => zfreeW C h q hq)
    (fun E' ce q9 u t H1 locs1 ht _ hp hB hz hk hS hce hcv hcl => by
      obtain ⟨e1, e2⟩ := hp
      obtain ⟨e3, hA1⟩ := hB
      cases e1
      subst e2; subst ht; subst e3
      exact z_catch C.1.ow (by rw [C.2.2.2.2.2]; exact hT) hce hcv hcl (kk q9 t.heap locs1 (zbackW C h hk hA1 hS)))
    (fun r' u t H1 locs1 _ _ hp _ _ _ _ => by cases hp.1)
/-- a row of the table that takes it, and one that doesn't -/
theorem ztk_y {E : String} {q a b hp ix : Nat} {xs : List ExceptionTableEntry} (C : zCW cc nL hh κ A p l s m args meth c) (hE : E ∈ zEx) (hx : covers ⟨a, b, hp, ix⟩ q = true) (h0 : ix ≠ 0) (hlk : Cond.classLink RL ix E ∈ zW) : zTk args s RL E q hp (⟨a, b, hp, ix⟩ :: xs) :=
  Or.inr ⟨hx, h0, E, C.1.ts _ hlk, Or.inl ⟨va_Nw.use rfl (C.2.2.1.1 _ hE), rfl⟩⟩
theorem ztk_n {E nm : String} {q a b hp hp2 ix : Nat} {xs : List ExceptionTableEntry} (C : zCW cc nL hh κ A p l s m args meth c) (hE : (E, nm) ∈ zPairs) (hx : covers ⟨a, b, hp2, ix⟩ q = true) (h0 : ix ≠ 0) (hlk : Cond.classLink RL ix nm ∈ zW) (hr : zTk args s RL E q hp xs) : zTk args s RL E q hp (⟨a, b, hp2, ix⟩ :: xs) :=
  Or.inr ⟨hx, h0, nm, C.1.ts _ hlk, Or.inr ⟨C.2.2.2.2.1 _ hE, hr⟩⟩
end ZL
