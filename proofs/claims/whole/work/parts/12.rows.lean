/-! ===== calls of a Row's methods: two cells of the caller's world ===== -/
def wR_f0 (κ : zG) (σ : zS) : List Value := [.ref (κ.2.1 1), .int (zI σ 0)]
def wR (κ : zG) (σ : zS) : va_W := [((κ.2.1 0), .inr (6, wR_f0 κ σ)), ((κ.2.1 1), .inl (κ.2.2.1 0, (κ.2.2.2 0), .inl (zA σ 0)))]
def zκR (κ : zG) (a b n : Nat) : zG := (κ.1, fun k => if k = 0 then a else b, κ.2.2.1, fun _ => n)
def zrv (x : Int32) (f : Nat → Int32) : zS := (fun _ => x, fun _ => f, fun _ _ => 0, fun _ => 0, fun _ => 0, fun _ _ => 0)
theorem zset2 {ws : va_W} {i j : Nat} {x y : Nat × va_E} (hi : ws[i]? = some x) (hj : ws[j]? = some y) : (ws.set i x).set j y = ws := by
  have h1 : ws.set i x = ws := by
    apply List.ext_getElem?
    intro k
    rw [List.getElem?_set]
    by_cases e : i = k
    · subst e
      have hl : i < ws.length := (List.getElem?_eq_some_iff.mp hi).1
      rw [if_pos rfl, if_pos hl]
      exact hi.symm
    · rw [if_neg e]
  rw [h1]
  apply List.ext_getElem?
  intro k
  rw [List.getElem?_set]
  by_cases e : j = k
  · subst e
    have hl : j < ws.length := (List.getElem?_eq_some_iff.mp hj).1
    rw [if_pos rfl, if_pos hl]
    exact hj.symm
  · rw [if_neg e]
theorem z_two {D : va_G} {cl : List vw_C} {ws : va_W} {H H1 : Heap} {A : Nat → Prop} {a b : Nat} {ea eb ea' eb' : va_E} (hP : va_P D cl ws H) (hD : va_D A ws) (i j : Nat) (hij : i ≠ j) (hi : ws[i]? = some (a, ea)) (hj : ws[j]? = some (b, eb)) (hk : ∀ q : Nat, q < H.size → ¬ va_A [(a, ea), (b, eb)] H.size q → H1[q]? = H[q]?) (hP1 : va_P D cl [(a, ea'), (b, eb')] H1) :
    va_P D cl ((ws.set i (a, ea')).set j (b, eb')) H1 ∧ va_D A ((ws.set i (a, ea')).set j (b, eb')) := by
  have hj2 : (ws.set i (a, ea'))[j]? = some (b, eb) := by rw [List.getElem?_set, if_neg hij]; exact hj
  refine ⟨fun k q hq => ?_, (hD.set hi).set hj2⟩
  rw [List.getElem?_set] at hq
  by_cases ej : j = k
  · rw [if_pos ej] at hq
    by_cases hl : j < (ws.set i (a, ea')).length
    · rw [if_pos hl] at hq
      cases hq
      exact hP1 1 _ rfl
    · rw [if_neg hl] at hq; cases hq
  · rw [if_neg ej, List.getElem?_set] at hq
    by_cases ei : i = k
    · rw [if_pos ei] at hq
      by_cases hl : i < ws.length
      · rw [if_pos hl] at hq
        cases hq
        exact hP1 0 _ rfl
      · rw [if_neg hl] at hq; cases hq
    · rw [if_neg ei] at hq
      have hlt := (hP k q hq).lt
      refine (hP k q hq).kept (hk q.1 hlt (fun z => ?_))
      rcases z with ⟨k2, e0, hk2⟩ | hz
      · match k2, hk2 with
        | 0, hk2 => cases hk2; exact ei (hD.1 i k _ _ hi hq rfl)
        | 1, hk2 => cases hk2; exact ej (hD.1 j k _ _ hj hq rfl)
        | k2 + 2, hk2 => simp at hk2
      · omega
section ZR
variable {p : Program} {l : Launch} {e : Env} {R : Room} {s : State} {m : MethodId} {args : Array Value} {below : List Frame} {meth : Method} {c : Code} {H : Heap} {locs : List Loc} {cells slots : Nat} {Q : State → Prop}
variable {cc : ByteArray} {nL : Nat} {ret : Option FieldType} {own : String} {κ : zG} {A : Nat → Prop} {S : Type} {w : zG → S → va_W} {σ : S} {pc : Nat} {ls : Array Slot} {rest : List Value}
variable {y : MethodName} {rm : Room} {bytes : ByteArray} {maxL index n b b2 len : Nat} {ret' : Option FieldType} {As st : List Value} {lv : List (Nat × Value)} {σ' : S} {τ' : zS} {x : Int32} {f : Nat → Int32}
theorem zpreR (C : zC cc nL ret own κ A p s m args meth c) (h : zH w κ A s σ H locs) {As : List Value} (q0 q1 : Nat) (hne : q0 ≠ q1) (he0 : (w κ σ)[q0]? = some (b, .inr (6, [.ref b2, .int x]))) (he1 : (w κ σ)[q1]? = some (b2, .inl (κ.2.2.1 0, len, .inl f))) : PreV s H RX6 b (zPre wR (zκR κ b b2 len) (.ref b :: As) H.size (zrv x f)) As := by
  refine ⟨zPre_blind, va_recv C.hK h.1 (q := (RX6, TX6, 2)) rfl he0, fun U hU hW => ⟨rfl, by rw [hU], ?_, zK.warm hW C.2.2.2.2, ?_⟩⟩
  · rw [hU]
    intro k q hk
    match k, hk with
    | 0, hk => cases hk; exact h.1 q0 _ he0
    | 1, hk => cases hk; exact h.1 q1 _ he1
    | k + 2, hk => simp [wR] at hk
  · refine ⟨fun i j x y hx hy hxy => ?_, fun _ _ _ => trivial⟩
    match i, j, hx, hy with
    | 0, 0, _, _ => rfl
    | 1, 1, _, _ => rfl
    | 0, 1, hx, hy => cases hx; cases hy; exact absurd (h.2.1.1 q0 q1 _ _ he0 he1 hxy) hne
    | 1, 0, hx, hy => cases hx; cases hy; exact absurd (h.2.1.1 q1 q0 _ _ he1 he0 hxy) (Ne.symm hne)
    | i + 2, _, hx, _ => simp [wR] at hx
    | 0, j + 2, _, hy => simp [wR] at hy
    | 1, j + 2, _, hy => simp [wR] at hy
theorem zfreeR (C : zC cc nL ret own κ A p s m args meth c) (h : zH w κ A s σ H locs) (q0 q1 : Nat) (he0 : (w κ σ)[q0]? = some (b, .inr (6, [.ref b2, .int x]))) (he1 : (w κ σ)[q1]? = some (b2, .inl (κ.2.2.1 0, len, .inl f))) : ∀ q, va_A (wR (zκR κ b b2 len) (zrv x f)) H.size q → A q := by
  intro q hq
  rcases hq with ⟨k, e0, hk⟩ | hq
  · match k, hk with
    | 0, hk => cases hk; exact h.2.1.2 q0 _ he0
    | 1, hk => cases hk; exact h.2.1.2 q1 _ he1
    | k + 2, hk => simp [wR] at hk
  · exact C.hA q (Nat.le_trans h.2.2.1 hq)
theorem z_callRi {r : Int32} (C : zC cc nL ret own κ A p s m args meth c) (h : zH w κ A s σ H locs) (hM : zMi l y (Cond.code y bytes maxL ret') rm wR (zκR κ b b2 len) (.ref b :: As) (zrv x f) r τ') (hG : GoodIn zW (wsV own index RX6 y (Cond.code y bytes maxL ret' :: zW))) (hrc : rm.cells = 0 ∧ rm.slots = 0)
    (hd : y.cls = RX6 ∧ y.cls ≠ "java/lang/invoke/MethodHandle" ∧ y.cls ≠ "java/lang/invoke/VarHandle" ∧ (parseMethodDescriptor y.desc).map (fun d => d.parameters.length) = some n) (hR : rm.frames + 1 ≤ R.frames ∧ 8 + (maxL + 11) + rm.locals ≤ R.locals) (q0 q1 : Nat) (hne : q0 ≠ q1) (he0 : (w κ σ)[q0]? = some (b, .inr (6, [.ref b2, .int x]))) (he1 : (w κ σ)[q1]? = some (b2, .inl (κ.2.2.1 0, len, .inl f))) (σ' : S) (hset : ((w κ σ).set q0 (b, .inr (6, [.ref b2, .int (zI τ' 0)]))).set q1 (b2, .inl (κ.2.2.1 0, len, .inl (zA τ' 0))) = w κ σ') (hl : lv_has ls nL lv) (hn : As.length = n) (hst : st = As.reverse ++ .ref b :: rest) (hroom : (rest.map fun v => v.category).sum ≤ 8) (hdg : decode cc pc = .ok (.invokevirtual index, 3)) (hcs : cells ≤ R.cells ∧ slots ≤ R.slots)
    (kk : ∀ (H1 : Heap) (locs1 : List Loc), zH w κ A s σ' H1 locs1 → W p l e R s m args below meth c H1 locs1 cells slots Q (F0 m (pc + 3) ls (.int r :: rest))) : W p l e R s m args below meth c H locs cells slots Q (F0 m pc ls st) :=
  va_calli (va_runV (As := As) (rest := rest) C.1 (hM H.size) (cwV n C.ts hG rfl hrc.1 hrc.2 hd hR) (zpreR C h q0 q1 hne he0 he1) rfl hn hl.1 hst (lv_room hroom) hdg hcs) h.2.2 (fun q _ hq => zfreeR C h q0 q1 he0 he1 q hq) (zfreeR C h q0 q1 he0 he1)
    (fun r' u t H1 locs1 ht _ hw hB _ hk hS => by
      obtain ⟨e1, e2⟩ := hw
      subst e1; subst e2; subst ht
      have hz := z_two h.1 h.2.1 q0 q1 hne he0 he1 hk (ea' := .inr (6, [.ref b2, .int (zI u 0)])) (eb' := .inl (κ.2.2.1 0, len, .inl (zA u 0))) hB.1
      rw [hset] at hz
      exact kk t.heap locs1 ⟨hz.1, hz.2, hS⟩)
theorem z_callRv (C : zC cc nL ret own κ A p s m args meth c) (h : zH w κ A s σ H locs) (hM : zMv l y (Cond.code y bytes maxL ret') rm wR (zκR κ b b2 len) (.ref b :: As) (zrv x f) τ') (hG : GoodIn zW (wsV own index RX6 y (Cond.code y bytes maxL ret' :: zW))) (hrc : rm.cells = 0 ∧ rm.slots = 0)
    (hd : y.cls = RX6 ∧ y.cls ≠ "java/lang/invoke/MethodHandle" ∧ y.cls ≠ "java/lang/invoke/VarHandle" ∧ (parseMethodDescriptor y.desc).map (fun d => d.parameters.length) = some n) (hR : rm.frames + 1 ≤ R.frames ∧ 8 + (maxL + 11) + rm.locals ≤ R.locals) (q0 q1 : Nat) (hne : q0 ≠ q1) (he0 : (w κ σ)[q0]? = some (b, .inr (6, [.ref b2, .int x]))) (he1 : (w κ σ)[q1]? = some (b2, .inl (κ.2.2.1 0, len, .inl f))) (σ' : S) (hset : ((w κ σ).set q0 (b, .inr (6, [.ref b2, .int (zI τ' 0)]))).set q1 (b2, .inl (κ.2.2.1 0, len, .inl (zA τ' 0))) = w κ σ') (hl : lv_has ls nL lv) (hn : As.length = n) (hst : st = As.reverse ++ .ref b :: rest) (hroom : (rest.map fun v => v.category).sum ≤ 8) (hdg : decode cc pc = .ok (.invokevirtual index, 3)) (hcs : cells ≤ R.cells ∧ slots ≤ R.slots)
    (kk : ∀ (H1 : Heap) (locs1 : List Loc), zH w κ A s σ' H1 locs1 → W p l e R s m args below meth c H1 locs1 cells slots Q (F0 m (pc + 3) ls rest)) : W p l e R s m args below meth c H locs cells slots Q (F0 m pc ls st) :=
  va_callv (va_runV (As := As) (rest := rest) C.1 (hM H.size) (cwV n C.ts hG rfl hrc.1 hrc.2 hd hR) (zpreR C h q0 q1 hne he0 he1) rfl hn hl.1 hst (lv_room hroom) hdg hcs) h.2.2 (fun q _ hq => zfreeR C h q0 q1 he0 he1 q hq) (zfreeR C h q0 q1 he0 he1)
    (fun u t H1 locs1 ht _ hw hB _ hk hS => by
      subst hw; subst ht
      have hz := z_two h.1 h.2.1 q0 q1 hne he0 he1 hk (ea' := .inr (6, [.ref b2, .int (zI u 0)])) (eb' := .inl (κ.2.2.1 0, len, .inl (zA u 0))) hB.1
      rw [hset] at hz
      exact kk t.heap locs1 ⟨hz.1, hz.2, hS⟩)
theorem z_aald (C : zC cc nL ret own κ A p s m args meth c) (h : zH w κ A s σ H locs) {a n9 : Nat} {g : Nat → Nat} (q0 : Nat) (he : (w κ σ)[q0]? = some (a, .inl (κ.2.2.1 3, n9, .inr (.inr (.inr (.inr (fun j => some (g j)))))))) {i : Int32} (hin : zin i n9 = true) (hdg : decode cc pc = .ok (.aaload, 1))
    (kk : W p l e R s m args below meth c H locs cells slots Q (F0 m (pc + 1) ls (.ref (g i.toNatClampNeg) :: rest))) : W p l e R s m args below meth c H locs cells slots Q (F0 m pc ls (.int i :: .ref a :: rest)) :=
  va_aldq C.ex C.by C.hK h.1 q0 3 he rfl (zin_in hin) hdg kk
def z7 (k : Nat) : Bool := decide (k < 7)
theorem z_aast (C : zC cc nL ret own κ A p s m args meth c) (h : zH w κ A s σ H locs) {a n9 v : Nat} {vs : List Value} {g : Nat → Nat} (q0 qk : Nat) (he : (w κ σ)[q0]? = some (a, .inl (κ.2.2.1 3, n9, .inr (.inr (.inr (.inr (fun j => some (g j)))))))) (hv : (w κ σ)[qk]? = some (v, .inr (6, vs))) {i : Int32} (hin : zin i n9 = true) (σ' : S) (hset : (w κ σ).set q0 (a, .inl (κ.2.2.1 3, n9, .inr (.inr (.inr (.inr (va_up (fun j => some (g j)) i.toNatClampNeg (some v))))))) = w κ σ') (hdg : decode cc pc = .ok (.aastore, 1))
    (kk : ∀ (H1 : Heap) (locs1 : List Loc), zH w κ A s σ' H1 locs1 → W p l e R s m args below meth c H1 locs1 cells slots Q (F0 m (pc + 1) ls rest)) : W p l e R s m args below meth c H locs cells slots Q (F0 m pc ls (.ref v :: .int i :: .ref a :: rest)) :=
  va_astq (r := (RX6, TX6, 2)) C.ex C.by C.hK h.1 h.2.1 h.2.2 q0 3 qk 6 he rfl hv rfl (zin_in hin) hdg (fun H1 locs1 hP hD hS => kk H1 locs1 ⟨hset ▸ hP, hset ▸ hD, hS⟩)
theorem z_callSNi {r : Int32} {τ τ' : zS} (C : zC cc nL ret own κ A p s m args meth c) (h : zH w κ A s σ H locs) (hM : zMi l y (Cond.code y bytes maxL ret') rm w0 κ As τ r τ') (hlink : (own, index, y) ∈ zNm) (hcw : Cond.code y bytes maxL ret' ∈ zW) (hini : Cond.initialized y.cls ∈ zW) (hstt : Cond.static y ∈ zW) (hrc : rm.cells = 0 ∧ rm.slots = 0)
    (hd : y.cls ≠ "java/lang/invoke/MethodHandle" ∧ y.cls ≠ "java/lang/invoke/VarHandle" ∧ (parseMethodDescriptor y.desc).map (fun d => d.parameters.length) = some n) (hR : rm.frames + 1 ≤ R.frames ∧ 8 + (maxL + 11) + rm.locals ≤ R.locals) (hl : lv_has ls nL lv) (hn : As.length = n) (hst : st = As.reverse ++ rest) (hroom : (rest.map fun v => v.category).sum ≤ 8) (hdg : decode cc pc = .ok (.invokestatic index, 3)) (hcs : cells ≤ R.cells ∧ slots ≤ R.slots)
    (kk : ∀ (H1 : Heap) (locs1 : List Loc), zH w κ A s σ H1 locs1 → W p l e R s m args below meth c H1 locs1 cells slots Q (F0 m (pc + 3) ls (.int r :: rest))) : W p l e R s m args below meth c H locs cells slots Q (F0 m pc ls st) := by
  have hF : ∀ q, va_A (w0 κ τ) H.size q → A q := fun q hq => by
    rcases hq with ⟨k2, e0, hk2⟩ | hz
    · simp [w0] at hk2
    · exact C.hA q (Nat.le_trans h.2.2.1 hz)
  refine va_calli (va_runSN (As := As) (rest := rest) C.1 (hM H.size) ⟨va_cnB n C.ts (zgood hcw) rfl hrc.1 hrc.2 (C.hN.2.1 _ hlink) (C.ts _ hini) hd hR, C.ts _ hstt, trivial⟩ (zpreS C) rfl hn hl.1 hst (lv_room hroom) hdg hcs) h.2.2 (fun q _ hq => hF q hq) hF
    (fun r' u t H1 locs1 ht _ hw _ _ hk hS => ?_)
  obtain ⟨e1, -⟩ := hw
  subst e1
  exact kk H1 locs1 (zkept C h hk hS)
end ZR
