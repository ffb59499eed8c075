/-! ===== the law: the class' world, 'out', the reference's world, the script beside them ===== -/
def zκM (κ : zG) : zG := (κ.1, fun k => κ.2.1 (100 + k), κ.2.2.1, κ.2.2.2)
def wL (κ : zG) (x : (zS × (Nat → Int64)) × zS) : va_W := w2 κ x.1 ++ wM (zκM κ) x.2
/-- two longs' halves -/
abbrev zJ (a b : Int32) : Int64 := (a.toInt64 <<< ((32 : Int32).toInt64 &&& 63)) ||| (b.toInt64 &&& 4294967295)
/-- a callee over the last cells: the others stay -/
theorem z_appS {D : va_G} {cl : List vw_C} {w1 wr wr' : va_W} {H H1 : Heap} {A : Nat → Prop} (hP : va_P D cl (w1 ++ wr) H) (hD : va_D A (w1 ++ wr)) (hk : ∀ q : Nat, q < H.size → ¬ va_A wr H.size q → H1[q]? = H[q]?) (hF : ∀ q, va_A wr H.size q → A q) (hP1 : va_P D cl wr' H1) (hD1 : va_D (va_A wr H.size) wr') : va_P D cl (w1 ++ wr') H1 ∧ va_D A (w1 ++ wr') := by
  have hl : ∀ (k : Nat) (q : Nat × va_E), w1[k]? = some q → (w1 ++ wr)[k]? = some q := fun k q hq => by rw [List.getElem?_append_left (List.getElem?_eq_some_iff.mp hq).1]; exact hq
  have ap : ∀ (k : Nat) (q : Nat × va_E), w1[k]? = some q → q.1 < H.size ∧ ¬ va_A wr H.size q.1 := by
    intro k q hq
    have h0 := (hP _ q (hl k q hq)).lt
    refine ⟨h0, fun z => ?_⟩
    rcases z with ⟨k2, e0, h2⟩ | z
    · have h3 : (w1 ++ wr)[w1.length + k2]? = some (q.1, e0) := by rw [List.getElem?_append_right (by omega), Nat.add_sub_cancel_left]; exact h2
      have := hD.1 _ _ _ _ (hl k q hq) h3 rfl
      have hlt : k < w1.length := (List.getElem?_eq_some_iff.mp hq).1
      omega
    · omega
  refine ⟨va_P.app (fun k q hq => ?_) hP1, va_D.app ⟨fun i j a b ha hb hab => hD.1 _ _ _ _ (hl i a ha) (hl j b hb) hab, fun k q hq => hD.2 _ q (hl k q hq)⟩ (hD1.weaken (fun _ _ _ h => hF _ h)) (fun i j a b ha hb hab => ?_)⟩
  · obtain ⟨g1, g2⟩ := ap k q hq
    exact (hP _ q (hl k q hq)).kept (hk q.1 g1 g2)
  · exact (ap i a ha).2 (by rw [hab]; exact hD1.2 j b hb)
/-- the parts of a world -/
theorem z_subP {D : va_G} {cl : List vw_C} {w1 wr : va_W} {H : Heap} {A : Nat → Prop} (hP : va_P D cl (w1 ++ wr) H) (hD : va_D A (w1 ++ wr)) : va_P D cl w1 H ∧ va_D A w1 := by
  have hl : ∀ (k : Nat) (q : Nat × va_E), w1[k]? = some q → (w1 ++ wr)[k]? = some q := fun k q hq => by rw [List.getElem?_append_left (List.getElem?_eq_some_iff.mp hq).1]; exact hq
  exact ⟨fun k q hq => hP k q (hl k q hq), fun i j a b ha hb hab => hD.1 _ _ _ _ (hl i a ha) (hl j b hb) hab, fun k q hq => hD.2 _ q (hl k q hq)⟩
theorem z_subS {D : va_G} {cl : List vw_C} {w1 wr : va_W} {H : Heap} {A : Nat → Prop} (hP : va_P D cl (w1 ++ wr) H) (hD : va_D A (w1 ++ wr)) : va_P D cl wr H ∧ va_D A wr := by
  have hl : ∀ (k : Nat) (q : Nat × va_E), wr[k]? = some q → (w1 ++ wr)[w1.length + k]? = some q := fun k q hq => by rw [List.getElem?_append_right (by omega), Nat.add_sub_cancel_left]; exact hq
  exact ⟨fun k q hq => hP _ q (hl k q hq), fun i j a b ha hb hab => by have := hD.1 _ _ _ _ (hl i a ha) (hl j b hb) hab; omega, fun k q hq => hD.2 _ q (hl k q hq)⟩
def zCL (κ : zG) (A : Nat → Prop) (b L : Nat) (xs : Nat → Int32) (p : Program) (l : Launch) (s : State) (m : MethodId) (args : Array Value) (meth : Method) (c : Code) : Prop :=
  zC cL_law 8 ret RL κ A p s m args meth c ∧ l.stackTraces = false ∧ zE s ∧ zZ A s s.heap ∧ zY s ∧ va_X b L xs s s.heap ∧ b < s.heap.size ∧ ¬ A b
theorem zgSW {c : Cond} {own : String} {idx : Nat} {y : MethodName} (h1 : Cond.methodLink own idx y ∈ zW) (h2 : Cond.static y ∈ zW) (h4 : Cond.initialized y.cls ∈ zW) (hc : c ∈ zW) : GoodIn zW (va_wsS own idx y (c :: zW)) := fun w hw => by
  rcases List.mem_append.mp hw with h | h
  · have hz : w ∈ zW := by
      rcases List.mem_cons.mp h with e | h
      · exact e ▸ h1
      rcases List.mem_cons.mp h with e | h
      · exact e ▸ h2
      rcases List.mem_cons.mp h with e | h
      · exact e ▸ h4
      · cases h
    exact ⟨hz, good_of_word (List.mem_filter.mp hz).2⟩
  · exact zgood hc w h
section ZLW
variable {p : Program} {l : Launch} {e : Env} {R : Room} {s : State} {m : MethodId} {args : Array Value} {below : List Frame} {meth : Method} {c : Code} {H : Heap} {locs : List Loc} {cells slots : Nat} {Q : State → Prop}
variable {κ : zG} {A : Nat → Prop} {b L : Nat} {xs : Nat → Int32} {σ σ' τ τ' : zS} {o o' : Nat → Int64} {pc : Nat} {ls : Array Slot} {rest : List Value} {lv : List (Nat × Value)}
theorem z_sld (C : zCL κ A b L xs p l s m args meth c) {S : Type} {w : zG → S → va_W} {x : S} (h : zH w κ A s x H locs) {i : Int32} (hin : zin i L = true) (hdg : decode cL_law pc = .ok (.iaload, 1))
    (kk : W p l e R s m args below meth c H locs cells slots Q (F0 m (pc + 1) ls (.int (xs i.toNatClampNeg) :: rest))) : W p l e R s m args below meth c H locs cells slots Q (F0 m pc ls (.int i :: .ref b :: rest)) :=
  va_sld C.1.ex C.1.by C.2.2.2.2.2.1 C.2.2.2.2.2.2.1 C.2.2.2.2.2.2.2 h.2.2 (zin_in hin) hdg kk
theorem z_slen (C : zCL κ A b L xs p l s m args meth c) {S : Type} {w : zG → S → va_W} {x : S} (h : zH w κ A s x H locs) (hdg : decode cL_law pc = .ok (.arraylength, 1))
    (kk : W p l e R s m args below meth c H locs cells slots Q (F0 m (pc + 1) ls (.int (Int32.ofNat L) :: rest))) : W p l e R s m args below meth c H locs cells slots Q (F0 m pc ls (.ref b :: rest)) :=
  va_slen C.1.ex C.1.by C.2.2.2.2.2.1 C.2.2.2.2.2.2.1 C.2.2.2.2.2.2.2 h.2.2 hdg kk
theorem zfreeL2 (C : zCL κ A b L xs p l s m args meth c) (h : zH wL κ A s ((σ, o), τ) H locs) : ∀ q, va_A (w2 κ (σ, o)) H.size q → A q := by
  intro q hq
  rcases hq with ⟨k, e0, hk⟩ | hq
  · exact (z_subP h.1 h.2.1).2.2 k (q, e0) hk
  · exact C.1.hA q (Nat.le_trans h.2.2.1 hq)
theorem zfreeLM (C : zCL κ A b L xs p l s m args meth c) (h : zH wL κ A s ((σ, o), τ) H locs) : ∀ q, va_A (wM (zκM κ) τ) H.size q → A q := by
  intro q hq
  rcases hq with ⟨k, e0, hk⟩ | hq
  · exact (z_subS h.1 h.2.1).2.2 k (q, e0) hk
  · exact C.1.hA q (Nat.le_trans h.2.2.1 hq)
theorem zfreeLC (C : zCL κ A b L xs p l s m args meth c) (h : zH wL κ A s ((σ, o), τ) H locs) : ∀ q, va_A (wC κ σ) H.size q → A q := by
  intro q hq
  rcases hq with ⟨k, e0, hk⟩ | hq
  · exact (z_subP (z_subP h.1 h.2.1).1 (z_subP h.1 h.2.1).2).2.2 k (q, e0) hk
  · exact C.1.hA q (Nat.le_trans h.2.2.1 hq)
/-- a wrapper -/
theorem z_lawW {v : Int32} {y : MethodName} {rm : Room} {bytes : ByteArray} {hh : List (Nat × Nat × Nat × Nat)} {maxL index n mc' : Nat} {As st : List Value} (C : zCL κ A b L xs p l s m args meth c) (h : zH wL κ A s ((σ, o), τ) H locs) (hM : zWi l y (Cond.codeWith y bytes maxL (some .int) hh) rm κ As (σ, o) mc' v (σ', o')) (hG : GoodIn zW (va_wsS RL index y (Cond.codeWith y bytes maxL (some .int) hh :: zW))) (hrc : rm.cells = mc' ∧ rm.slots = 6 * mc') (hd : y.cls ≠ "java/lang/invoke/MethodHandle" ∧ y.cls ≠ "java/lang/invoke/VarHandle" ∧ (parseMethodDescriptor y.desc).map (fun d => d.parameters.length) = some n) (hR : rm.frames + 1 ≤ R.frames ∧ 8 + (maxL + 11) + rm.locals ≤ R.locals) (hl : lv_has ls 8 lv) (hn : As.length = n) (hst : st = As.reverse ++ rest) (hroom : (rest.map fun v => v.category).sum ≤ 8) (hdg : decode cL_law pc = .ok (.invokestatic index, 3)) (hcs : cells + mc' ≤ R.cells ∧ slots + 6 * mc' ≤ R.slots)
    (kk : ∀ (H1 : Heap) (locs1 : List Loc), zH wL κ A s ((σ', o'), τ) H1 locs1 → W p l e R s m args below meth c H1 locs1 (cells + mc') (slots + 6 * mc') Q (F0 m (pc + 3) ls (.int v :: rest))) : W p l e R s m args below meth c H locs cells slots Q (F0 m pc ls st) :=
  va_calli (vx_runSW (As := As) (rest := rest) C.1.1 (hM H.size) (vx_cwSW n C.1.ts hG rfl hrc.1 hrc.2 hd hR) ⟨zPreW_blind, fun U hU hW => ⟨rfl, by rw [hU], by rw [hU]; exact (z_subP h.1 h.2.1).1, zK.warm hW C.1.2.2.2.2, (z_subP h.1 h.2.1).2.weaken (fun _ _ _ _ => trivial), zE.warm hW C.2.2.1, by rw [hU]; exact ((C.2.2.2.1.kept h.2.2.2.1).narrow (zfreeL2 C h)).moved hW.alike, zY.moved hW.alike C.2.2.2.2.1⟩⟩ rfl hn hl.1 hst (lv_room hroom) hdg hcs) h.2.2 (fun q _ hq => zfreeL2 C h q hq) (zfreeL2 C h)
    (fun r' u t H1 locs1 ht _ hp hB _ hk hS => by
      obtain ⟨e1, e2⟩ := hp
      subst e1; subst e2; subst ht
      obtain ⟨g1, g2⟩ := z_appP (w1 := w2 κ (σ, o)) (w1' := w2 κ (σ', o')) (wr := wM (zκM κ) τ) h.1 h.2.1 hk (zfreeL2 C h) hB.1 hB.2
      exact kk t.heap locs1 ⟨g1, g2, hS⟩)
theorem zpreLM {As : List Value} (C : zCL κ A b L xs p l s m args meth c) (h : zH wL κ A s ((σ, o), τ) H locs) : PreV s H RX10 (κ.2.1 100) (zPre wM (zκM κ) (.ref (κ.2.1 100) :: As) H.size τ) As :=
  ⟨zPre_blind, va_recv (tys := zt (zκM κ)) (D := (zκM κ).1) C.1.hK (z_subS h.1 h.2.1).1 (q := (RX10, TX10, 57)) rfl (wM_at0 (zκM κ) τ), fun U hU hW => ⟨rfl, by rw [hU], by rw [hU]; exact (z_subS h.1 h.2.1).1, zK.warm (κ := zκM κ) hW C.1.2.2.2.2, (z_subS h.1 h.2.1).2.weaken (fun _ _ _ _ => trivial)⟩⟩
theorem zbackLM (C : zCL κ A b L xs p l s m args meth c) (h : zH wL κ A s ((σ, o), τ) H locs) {H1 : Heap} {locs1 : List Loc} (hk : ∀ q : Nat, q < H.size → ¬ va_A (wM (zκM κ) τ) H.size q → H1[q]? = H[q]?) (hB : va_P κ.1 vwCl (wM (zκM κ) τ') H1 ∧ va_D (va_A (wM (zκM κ) τ) H.size) (wM (zκM κ) τ')) (hS : va_S A s.heap H1 locs1) : zH wL κ A s ((σ, o), τ') H1 locs1 := by
  obtain ⟨g1, g2⟩ := z_appS (w1 := w2 κ (σ, o)) (wr := wM (zκM κ) τ) (wr' := wM (zκM κ) τ') h.1 h.2.1 hk (zfreeLM C h) hB.1 hB.2
  exact ⟨g1, g2, hS⟩
/-- a method of the reference -/
theorem z_lawMi {v : Int32} {y : MethodName} {rm : Room} {bytes : ByteArray} {maxL index n : Nat} {ret' : Option FieldType} {As st : List Value} (C : zCL κ A b L xs p l s m args meth c) (h : zH wL κ A s ((σ, o), τ) H locs) (hM : zMi l y (Cond.code y bytes maxL ret') rm wM (zκM κ) (.ref (κ.2.1 100) :: As) τ v τ') (hG : GoodIn zW (wsV RL index RX10 y (Cond.code y bytes maxL ret' :: zW))) (hrc : rm.cells = 0 ∧ rm.slots = 0) (hd : y.cls = RX10 ∧ y.cls ≠ "java/lang/invoke/MethodHandle" ∧ y.cls ≠ "java/lang/invoke/VarHandle" ∧ (parseMethodDescriptor y.desc).map (fun d => d.parameters.length) = some n) (hR : rm.frames + 1 ≤ R.frames ∧ 8 + (maxL + 11) + rm.locals ≤ R.locals) (hl : lv_has ls 8 lv) (hn : As.length = n) (hst : st = As.reverse ++ .ref (κ.2.1 100) :: rest) (hroom : (rest.map fun v => v.category).sum ≤ 8) (hdg : decode cL_law pc = .ok (.invokevirtual index, 3)) (hcs : cells ≤ R.cells ∧ slots ≤ R.slots)
    (kk : ∀ (H1 : Heap) (locs1 : List Loc), zH wL κ A s ((σ, o), τ') H1 locs1 → W p l e R s m args below meth c H1 locs1 cells slots Q (F0 m (pc + 3) ls (.int v :: rest))) : W p l e R s m args below meth c H locs cells slots Q (F0 m pc ls st) :=
  va_calli (va_runV (As := As) (rest := rest) C.1.1 (hM H.size) (cwV n C.1.ts hG rfl hrc.1 hrc.2 hd hR) (zpreLM C h) rfl hn hl.1 hst (lv_room hroom) hdg hcs) h.2.2 (fun q _ hq => zfreeLM C h q hq) (zfreeLM C h)
    (fun r' u t H1 locs1 ht _ hp hB _ hk hS => by
      obtain ⟨e1, e2⟩ := hp
      subst e1; subst e2; subst ht
      exact kk t.heap locs1 (zbackLM C h hk hB hS))
theorem z_lawMl {v : Int64} {y : MethodName} {rm : Room} {bytes : ByteArray} {maxL index n : Nat} {ret' : Option FieldType} {As st : List Value} (C : zCL κ A b L xs p l s m args meth c) (h : zH wL κ A s ((σ, o), τ) H locs) (hM : zMl l y (Cond.code y bytes maxL ret') rm wM (zκM κ) (.ref (κ.2.1 100) :: As) τ v τ') (hG : GoodIn zW (wsV RL index RX10 y (Cond.code y bytes maxL ret' :: zW))) (hrc : rm.cells = 0 ∧ rm.slots = 0) (hd : y.cls = RX10 ∧ y.cls ≠ "java/lang/invoke/MethodHandle" ∧ y.cls ≠ "java/lang/invoke/VarHandle" ∧ (parseMethodDescriptor y.desc).map (fun d => d.parameters.length) = some n) (hR : rm.frames + 1 ≤ R.frames ∧ 8 + (maxL + 11) + rm.locals ≤ R.locals) (hl : lv_has ls 8 lv) (hn : As.length = n) (hst : st = As.reverse ++ .ref (κ.2.1 100) :: rest) (hroom : (rest.map fun v => v.category).sum ≤ 8) (hdg : decode cL_law pc = .ok (.invokevirtual index, 3)) (hcs : cells ≤ R.cells ∧ slots ≤ R.slots)
    (kk : ∀ (H1 : Heap) (locs1 : List Loc), zH wL κ A s ((σ, o), τ') H1 locs1 → W p l e R s m args below meth c H1 locs1 cells slots Q (F0 m (pc + 3) ls (.long v :: rest))) : W p l e R s m args below meth c H locs cells slots Q (F0 m pc ls st) :=
  va_calll (va_runV (As := As) (rest := rest) C.1.1 (hM H.size) (cwV n C.1.ts hG rfl hrc.1 hrc.2 hd hR) (zpreLM C h) rfl hn hl.1 hst (lv_room hroom) hdg hcs) h.2.2 (fun q _ hq => zfreeLM C h q hq) (zfreeLM C h)
    (fun r' u t H1 locs1 ht _ hp hB _ hk hS => by
      obtain ⟨e1, e2⟩ := hp
      subst e1; subst e2; subst ht
      exact kk t.heap locs1 (zbackLM C h hk hB hS))
theorem z_lawMv {y : MethodName} {rm : Room} {bytes : ByteArray} {maxL index n : Nat} {ret' : Option FieldType} {As st : List Value} (C : zCL κ A b L xs p l s m args meth c) (h : zH wL κ A s ((σ, o), τ) H locs) (hM : zMv l y (Cond.code y bytes maxL ret') rm wM (zκM κ) (.ref (κ.2.1 100) :: As) τ τ') (hG : GoodIn zW (wsV RL index RX10 y (Cond.code y bytes maxL ret' :: zW))) (hrc : rm.cells = 0 ∧ rm.slots = 0) (hd : y.cls = RX10 ∧ y.cls ≠ "java/lang/invoke/MethodHandle" ∧ y.cls ≠ "java/lang/invoke/VarHandle" ∧ (parseMethodDescriptor y.desc).map (fun d => d.parameters.length) = some n) (hR : rm.frames + 1 ≤ R.frames ∧ 8 + (maxL + 11) + rm.locals ≤ R.locals) (hl : lv_has ls 8 lv) (hn : As.length = n) (hst : st = As.reverse ++ .ref (κ.2.1 100) :: rest) (hroom : (rest.map fun v => v.category).sum ≤ 8) (hdg : decode cL_law pc = .ok (.invokevirtual index, 3)) (hcs : cells ≤ R.cells ∧ slots ≤ R.slots)
    (kk : ∀ (H1 : Heap) (locs1 : List Loc), zH wL κ A s ((σ, o), τ') H1 locs1 → W p l e R s m args below meth c H1 locs1 cells slots Q (F0 m (pc + 3) ls rest)) : W p l e R s m args below meth c H locs cells slots Q (F0 m pc ls st) :=
  va_callv (va_runV (As := As) (rest := rest) C.1.1 (hM H.size) (cwV n C.1.ts hG rfl hrc.1 hrc.2 hd hR) (zpreLM C h) rfl hn hl.1 hst (lv_room hroom) hdg hcs) h.2.2 (fun q _ hq => zfreeLM C h q hq) (zfreeLM C h)
    (fun u t H1 locs1 ht _ hp hB _ hk hS => by
      subst hp; subst ht
      exact kk t.heap locs1 (zbackLM C h hk hB hS))
/-- runs() of the class, with no wrapper -/
theorem z_lawC {v : Int32} {y : MethodName} {rm : Room} {bytes : ByteArray} {maxL index n : Nat} {ret' : Option FieldType} {As st : List Value} (C : zCL κ A b L xs p l s m args meth c) (h : zH wL κ A s ((σ, o), τ) H locs) (hM : zMi l y (Cond.code y bytes maxL ret') rm wC κ (.ref (κ.2.1 0) :: As) σ v σ') (hG : GoodIn zW (wsV RL index RX9 y (Cond.code y bytes maxL ret' :: zW))) (hrc : rm.cells = 0 ∧ rm.slots = 0) (hd : y.cls = RX9 ∧ y.cls ≠ "java/lang/invoke/MethodHandle" ∧ y.cls ≠ "java/lang/invoke/VarHandle" ∧ (parseMethodDescriptor y.desc).map (fun d => d.parameters.length) = some n) (hR : rm.frames + 1 ≤ R.frames ∧ 8 + (maxL + 11) + rm.locals ≤ R.locals) (hl : lv_has ls 8 lv) (hn : As.length = n) (hst : st = As.reverse ++ .ref (κ.2.1 0) :: rest) (hroom : (rest.map fun v => v.category).sum ≤ 8) (hdg : decode cL_law pc = .ok (.invokevirtual index, 3)) (hcs : cells ≤ R.cells ∧ slots ≤ R.slots)
    (kk : ∀ (H1 : Heap) (locs1 : List Loc), zH wL κ A s ((σ', o), τ) H1 locs1 → W p l e R s m args below meth c H1 locs1 cells slots Q (F0 m (pc + 3) ls (.int v :: rest))) : W p l e R s m args below meth c H locs cells slots Q (F0 m pc ls st) := by
  have hPD := z_subP (z_subP h.1 h.2.1).1 (z_subP h.1 h.2.1).2
  have hpre : PreV s H RX9 (κ.2.1 0) (zPre wC κ (.ref (κ.2.1 0) :: As) H.size σ) As := ⟨zPre_blind, va_recv C.1.hK hPD.1 (q := (RX9, TX9, 13)) rfl (wC_at0 κ σ), fun U hU hW => ⟨rfl, by rw [hU], by rw [hU]; exact hPD.1, zK.warm hW C.1.2.2.2.2, hPD.2.weaken (fun _ _ _ _ => trivial)⟩⟩
  refine va_calli (va_runV (As := As) (rest := rest) C.1.1 (hM H.size) (cwV n C.1.ts hG rfl hrc.1 hrc.2 hd hR) hpre rfl hn hl.1 hst (lv_room hroom) hdg hcs) h.2.2 (fun q _ hq => zfreeLC C h q hq) (zfreeLC C h)
    (fun r' u t H1 locs1 ht _ hp hB _ hk hS => ?_)
  obtain ⟨e1, e2⟩ := hp
  subst e1; subst e2; subst ht
  have hP0 : va_P κ.1 vwCl (wC κ σ ++ ([(κ.2.1 60, .inl (κ.2.2.1 1, 1, .inr (.inl o)))] ++ wM (zκM κ) τ)) H := by rw [← List.append_assoc]; exact h.1
  have hD0 : va_D A (wC κ σ ++ ([(κ.2.1 60, .inl (κ.2.2.1 1, 1, .inr (.inl o)))] ++ wM (zκM κ) τ)) := by rw [← List.append_assoc]; exact h.2.1
  obtain ⟨g1, g2⟩ := z_appP (w1' := wC κ u) hP0 hD0 hk (zfreeLC C h) hB.1 hB.2
  rw [← List.append_assoc] at g1 g2
  exact kk t.heap locs1 ⟨g1, g2, hS⟩
end ZLW
theorem wL_at52 (κ : zG) (x : (zS × (Nat → Int64)) × zS) : (wL κ x)[52]? = some (κ.2.1 60, .inl (κ.2.2.1 1, 1, .inr (.inl x.1.2))) := rfl
theorem z_lcmp0 {x y : Int64} (h : x = y) : lg_cmp x y = 0 := by subst h; simp [lg_cmp]
