/-! ===== from the entry to the loop ===== -/
def zσ1 (sz mm : Nat) : zS := (fun k => ([0, (nI sz), 0, 0, 0, 0, (-1), 0, 0, 1, 2, (if 1 < ((nI sz) / 2) then ((nI sz) / 2) else 1), 0, 0, (-1), 0, 0, 0, 0, 0, 0, 0, 0, 0, 0, 0, 0, (nI mm), 0, 0, 0, 0, 0] : List Int32).getD k 0, fun _ _ => 0, fun _ _ => 0, fun j => j, fun _ => 0, fun _ _ => 0)
def zτ1 (nb sz mm : Nat) : zS := (fun k => ([0, (nI nb), (nI sz), (nI mm), 0, 0, 1, 0, 0, 0, 0, 0, 0, 0, (-1), (-1), 0, 0, 0, 0, 0, 0, 0, 0, 0, 0, 0] : List Int32).getD k 0, fun k => ([fun _ => 0, fun _ => 0, fun _ => 0, upd (fun _ => 0) (Int32.toNatClampNeg 0) (-1), upd (fun _ => 0) (Int32.toNatClampNeg 0) (-1), fun _ => 0, upd (fun _ => 0) (Int32.toNatClampNeg 0) (vp_nar .boolean 1), fun _ => 0, fun _ => 0, fun _ => 0, fun _ => 0, fun _ => 0, fun _ => 0, fun _ => 0, fun _ => 0, fun _ => 0, fun _ => 0, fun _ => 0, fun _ => 0, fun _ => 0, fun _ => 0, fun _ => 0, fun _ => 0, fun _ => 0, fun _ => 0] : List (Nat → Int32)).getD k (fun _ => 0), fun _ _ => 0, fun _ => 0, fun _ => 0, fun _ _ => 0)
def zPURE : Prop := ∀ nb sz mm : Nat, 2 ≤ nb → nb ≤ 200 → 5 ≤ sz → sz ≤ 64 → 2 ≤ mm → mm ≤ 64 → ∃ (n : Nat) (J : Nat → zS → zS → Prop), zSIM n nb sz mm J ∧ J 0 (zσ1 sz mm) (zτ1 nb sz mm)
def zcl (L : Nat) (xs : Nat → Int32) (k : Nat) : Int32 := if k < L then xs k else 0
theorem z_dim {x lo hi : Int32} (h0 : 0 ≤ lo) (h1 : lo ≤ hi) : ∃ j : Nat, lo.toNatClampNeg ≤ j ∧ j ≤ hi.toNatClampNeg ∧ fX9_within_0 0 zσ0 x lo hi = some (nI j) ∧ fX10_near_0 0 zσ0 x lo hi = some (nI j) := by
  have key : ∀ y : Int32, lo ≤ y → y ≤ hi → ∃ j : Nat, lo.toNatClampNeg ≤ j ∧ j ≤ hi.toNatClampNeg ∧ y = nI j := by
    intro y a1 a2
    rw [Int32.le_iff_toInt_le] at a1 a2 h0
    have h00 : (0 : Int32).toInt = 0 := by decide
    obtain ⟨j, hj, rfl⟩ := nI_of (x := y) (by rw [Int32.lt_iff_toInt_lt]; omega)
    refine ⟨j, ?_, ?_, rfl⟩
    · have : lo.toNatClampNeg = lo.toInt.toNat := rfl
      rw [nI_toInt hj] at a1
      omega
    · have : hi.toNatClampNeg = hi.toInt.toNat := rfl
      rw [nI_toInt hj] at a2
      omega
  have hle : lo.toInt ≤ hi.toInt := Int32.le_iff_toInt_le.mp h1
  unfold fX9_within_0 fX10_near_0
  by_cases c1 : hi < x
  · have c1' := Int32.lt_iff_toInt_lt.mp c1
    have c2 : ¬ x ≤ hi := fun q => by have := Int32.le_iff_toInt_le.mp q; omega
    have c3 : lo ≤ x := Int32.le_iff_toInt_le.mpr (by omega)
    rw [if_pos c1, if_pos c3, if_neg c2]
    by_cases c4 : lo < hi
    · rw [if_pos c4]
      obtain ⟨j, j1, j2, j3⟩ := key hi h1 (Int32.le_iff_toInt_le.mpr (Int.le_refl _))
      exact ⟨j, j1, j2, by rw [← j3], by rw [← j3]⟩
    · rw [if_neg c4]
      have c4' : ¬ lo.toInt < hi.toInt := fun q => c4 (Int32.lt_iff_toInt_lt.mpr q)
      have c5 : lo = hi := Int32.toInt_inj.mp (by omega)
      subst c5
      obtain ⟨j, j1, j2, j3⟩ := key lo h1 h1
      exact ⟨j, j1, j2, by rw [← j3], by rw [← j3]⟩
  · have c1' : ¬ hi.toInt < x.toInt := fun q => c1 (Int32.lt_iff_toInt_lt.mpr q)
    rw [if_neg c1]
    by_cases c4 : lo < x
    · have c4' := Int32.lt_iff_toInt_lt.mp c4
      have c5 : lo ≤ x := Int32.le_iff_toInt_le.mpr (by omega)
      have c6 : x ≤ hi := Int32.le_iff_toInt_le.mpr (by omega)
      rw [if_pos c4, if_pos c5, if_pos c6]
      obtain ⟨j, j1, j2, j3⟩ := key x c5 c6
      exact ⟨j, j1, j2, by rw [← j3], by rw [← j3]⟩
    · have c4' : ¬ lo.toInt < x.toInt := fun q => c4 (Int32.lt_iff_toInt_lt.mpr q)
      rw [if_neg c4]
      obtain ⟨j, j1, j2, j3⟩ := key lo (Int32.le_iff_toInt_le.mpr (Int.le_refl _)) h1
      by_cases c5 : lo ≤ x
      · have c5' := Int32.le_iff_toInt_le.mp c5
        have c6 : x = lo := Int32.toInt_inj.mp (by omega)
        subst c6
        rw [if_pos c5, if_pos h1]
        exact ⟨j, j1, j2, by rw [← j3], by rw [← j3]⟩
      · rw [if_neg c5]
        exact ⟨j, j1, j2, by rw [← j3], by rw [← j3]⟩
theorem lkS0 : Cond.methodLink RL 80 yL_cell ∈ zW := zw (zt2 (List.mem_of_getElem? (i := 142) rfl)) rfl
theorem lkS1 : Cond.static yL_cell ∈ zW := zw (zt2 (List.mem_of_getElem? (i := 143) rfl)) rfl
theorem lkS2 : Cond.initialized RL ∈ zW := zw (zt1 (List.mem_of_getElem? (i := 0) rfl)) rfl
theorem lkS3 : Cond.code yL_cell cL_cell 2 (some .int) ∈ zW := zw (zt2 (List.mem_of_getElem? (i := 144) rfl)) rfl
/-- cell(s, k) -/
theorem hdL_cell : yL_cell.cls = RL ∧ yL_cell.cls ≠ "java/lang/invoke/MethodHandle" ∧ yL_cell.cls ≠ "java/lang/invoke/VarHandle" ∧ (parseMethodDescriptor yL_cell.desc).map (fun d => d.parameters.length) = some 2 := by decide +kernel
theorem ct_cell {l : Launch} {b L k : Nat} {xs : Nat → Int32} (hL : L < 2 ^ 31) (hk : k < 2 ^ 31) : ∀ sz : Nat, Met l yL_cell (Cond.code yL_cell cL_cell 2 (some .int) :: zW) { frames := 0, cells := 0, slots := 0, locals := 0 } (va_Pc [.ref b, .int (nI k)] (fun U => U.heap.size = sz ∧ b < sz ∧ va_X b L xs U U.heap)) (va_Qi (fun (r : Int32) (_ : Unit) => r = zcl L xs k) (fun _ _ => True) (fun q => sz ≤ q)) 0 0 (fun q => sz ≤ q) := by
  intro sz
  refine Met.ofW (cc := cL_cell) (maxL := 2) (ret := some .int) (by decide) rfl ?_
  intro p e s m args below meth c s₁ B hml hv
  obtain ⟨rfl, hsz, hbs, hX⟩ := hv
  subst hsz
  have hl := lv_entry [.ref b, .int (nI k)] (n := 2) (Nat.le_of_ble_eq_true rfl)
  rw [lg_entry_eq]
  revert hl
  generalize ((lg_sl [Value.ref b, .int (nI k)] ++ List.replicate (2 - (lg_sl [Value.ref b, .int (nI k)]).length) Slot.unset).toArray) = ls
  intro hl
  have hl : lv_has ls 2 [(0, .ref b), (1, .int (nI k))] := hl
  have hS : va_S (fun q => s.heap.size ≤ q) s.heap s.heap [] := va_S.rf
  have hx := B.exec
  have hb := B.bytes
  have fin : ∀ r : Int32, r = zcl L xs k → W p l e { frames := 0, cells := 0, slots := 0, locals := 0 } s m [Value.ref b, .int (nI k)].toArray below meth c s.heap [] 0 0 (MQ below (va_Qi (fun (r : Int32) (_ : Unit) => r = zcl L xs k) (fun _ _ => True) (fun q => s.heap.size ≤ q)) [Value.ref b, .int (nI k)].toArray s 0 0 (fun q => s.heap.size ≤ q)) (F0 m 13 ls [.int r]) := fun r hr =>
    W.iret (v := r) hx hb B.returns (fun t ht _ => ⟨⟨r, (), rfl, hr, trivial⟩, hS.F ht⟩) (fun q hq => by cases hq) dL_cell_13 B.notSynchronized
  refine lv_iload_n hx hb dL_cell_0 rfl (lv_at hl 1 rfl) ?_
  refine lv_aload_n hx hb dL_cell_1 rfl (lv_at hl 0 rfl) ?_
  refine va_slen hx hb hX hbs (fun h => by omega) hS dL_cell_2 ?_
  refine lv_icmp_ge (tgt := 12) hx hb dL_cell_3 (by decide) (fun c1 => ?_) (fun c1 => ?_)
  · refine lv_iconst (v := 0) hx hb dL_cell_12 (by decide) ?_
    refine fin 0 ?_
    have : ¬ k < L := fun q => (nI_ge q hL) c1
    unfold zcl
    rw [if_neg this]
  · have hkL : k < L := Nat.not_le.mp fun q => c1 (nI_le q hk)
    refine lv_aload_n hx hb dL_cell_6 rfl (lv_at hl 0 rfl) ?_
    refine lv_iload_n hx hb dL_cell_7 rfl (lv_at hl 1 rfl) ?_
    refine va_sld hx hb hX hbs (fun h => by omega) hS (nI_in hkL hL) dL_cell_8 ?_
    refine lv_goto (tgt := 13) hx hb dL_cell_9 (by decide) ?_
    refine fin _ ?_
    unfold zcl
    rw [if_pos hkL, nI_clamp hk]
section ZST
variable {p : Program} {l : Launch} {e : Env} {R : Room} {s : State} {m : MethodId} {args : Array Value} {below : List Frame} {meth : Method} {c : Code} {H : Heap} {locs : List Loc} {cells slots : Nat} {Q : State → Prop}
variable {κ : zG} {A : Nat → Prop} {ws : va_W} {pc : Nat} {ls : Array Slot} {rest : List Value} {lv : List (Nat × Value)} {b L : Nat} {xs : Nat → Int32}
theorem z_cell {k : Nat} {v : Int32} (C : zC cL_law 8 ret RL κ (fun q => s.heap.size ≤ q) p s m args meth c) (hX : va_X b L xs s s.heap) (hbl : b < s.heap.size) (h : zH zid κ (fun q => s.heap.size ≤ q) s ws H locs) (hl : lv_has ls 8 lv) (hv : v = nI k) (hk : k < 2 ^ 31) (hroom : (rest.map fun v => v.category).sum ≤ 8) (hdg : decode cL_law pc = .ok (.invokestatic 80, 3)) (hcs : cells ≤ room_1.cells ∧ slots ≤ room_1.slots) (hL : L ≤ 4611)
    (kk : ∀ (H1 : Heap) (locs1 : List Loc), zH zid κ (fun q => s.heap.size ≤ q) s ws H1 locs1 → W p l e room_1 s m args below meth c H1 locs1 cells slots Q (F0 m (pc + 3) ls (.int (zcl L xs k) :: rest))) : W p l e room_1 s m args below meth c H locs cells slots Q (F0 m pc ls (.int v :: .ref b :: rest)) := by
  subst hv
  have hF : ∀ q : Nat, H.size ≤ q → s.heap.size ≤ q := fun q hq => Nat.le_trans h.2.2.1 hq
  refine va_calli (va_runS (As := [.ref b, .int (nI k)]) (rest := rest) C.1 (ct_cell (l := l) (b := b) (L := L) (xs := xs) (k := k) (by omega) hk H.size) (cwS 2 C.ts (zgS lkS0 lkS1 lkS2 lkS3) rfl rfl rfl hdL_cell ⟨Nat.le_of_ble_eq_true rfl, Nat.le_of_ble_eq_true rfl⟩) ⟨?_, fun U hU hW => ⟨rfl, by rw [hU], Nat.lt_of_lt_of_le hbl h.2.2.1, by rw [hU]; exact (hX.kept (h.2.2.2.1 b hbl (by omega))).moved hW.alike⟩⟩ rfl rfl hl.1 rfl (lv_room hroom) hdg hcs) h.2.2 (fun q _ hq => hF q hq) hF
    (fun r' u t H1 locs1 ht _ hw _ _ hk hS => ?_)
  · intro a U g mk q
    obtain ⟨q0, q1, q2, q3⟩ := q
    exact ⟨q0, q1, q2, va_X.moved (u := U) (U := U.calling g mk a) (Vm.Alike.refl U.vm) q3⟩
  · subst hw
    refine kk H1 locs1 ⟨h.1.kept (fun k q hq => hk q.1 (h.1 k q hq).lt (fun z => ?_)), h.2.1, hS⟩
    have := (h.1 k q hq).lt
    omega
theorem z_callIS {y : MethodName} {rm : Room} {bytes : ByteArray} {maxL index n b mc ms : Nat} {As st : List Value} {wc wr : va_W} {U : Type} {w1 : U → va_W} (C : zC cL_law 8 ret RL κ A p s m args meth c) (h : zH zid κ A s (wr ++ wc) H locs) (hM : zNv l y (Cond.code y bytes maxL none) rm κ (.ref b :: As) wc w1 mc ms) (hl1 : Cond.methodLink RL index y ∈ zW) (hl2 : Cond.instanceMethod y ∈ zW) (hl3 : Cond.initialized y.cls ∈ zW) (hl4 : Cond.code y bytes maxL none ∈ zW) (hrc : rm.cells = mc ∧ rm.slots = ms) (hyn : y.name = "<init>")
    (hd : y.cls ≠ "java/lang/invoke/MethodHandle" ∧ y.cls ≠ "java/lang/invoke/VarHandle" ∧ (parseMethodDescriptor y.desc).map (fun d => d.parameters.length) = some n) (hR : rm.frames + 1 ≤ R.frames ∧ 8 + (maxL + 11) + rm.locals ≤ R.locals)
    (hl : lv_has ls 8 lv) (hn : As.length = n) (hst : st = As.reverse ++ .ref b :: rest) (hroom : (rest.map fun v => v.category).sum ≤ 8) (hdg : decode cL_law pc = .ok (.invokespecial index, 3)) (hcs : cells + mc ≤ R.cells ∧ slots + ms ≤ R.slots)
    (kk : ∀ (u : U) (H1 : Heap) (locs1 : List Loc), zH zid κ A s (wr ++ w1 u) H1 locs1 → W p l e R s m args below meth c H1 locs1 (cells + mc) (slots + ms) Q (F0 m (pc + 3) ls rest)) : W p l e R s m args below meth c H locs cells slots Q (F0 m pc ls st) := by
  have hPD := z_subS h.1 h.2.1
  have hF : ∀ q, va_A wc H.size q → A q := by
    intro q hq
    rcases hq with ⟨k, e0, hk⟩ | hq
    · exact hPD.2.2 k (q, e0) hk
    · exact C.hA q (Nat.le_trans h.2.2.1 hq)
  refine va_callv (va_runI (As := As) (rest := rest) C.1 (hM H.size) (cwI n C.ts (zgood hl4) rfl hrc.1 hrc.2 (C.ts _ hl3) (C.ts _ hl1) (C.ts _ hl2) hyn hd hR) ⟨zPre_blind, fun U hU hW => ⟨rfl, by rw [hU], by rw [hU]; exact hPD.1, zK.warm hW C.2.2.2.2, hPD.2.weaken (fun _ _ _ _ => trivial)⟩⟩ rfl hn hl.1 hst (lv_room hroom) hdg hcs) h.2.2 (fun q _ hq => hF q hq) hF
    (fun u t H1 locs1 ht _ _ hB _ hk hS => ?_)
  subst ht
  obtain ⟨hP1, hD1⟩ := z_appS (wr' := w1 u) h.1 h.2.1 hk hF hB.1 hB.2
  exact kk u t.heap locs1 ⟨hP1, hD1, hS⟩
/-- the row of tapes: beyond its length nothing counts -/
theorem z_rows {x : (zS × (Nat → Int64)) × zS} {a : Nat} {cA : ClassId} {f g : Nat → Option Nat} (hS : va_S A s.heap H locs) (he : (wL κ x)[30]? = some (a, .inl (cA, 7, .inr (.inr (.inr (.inr f)))))) (hP : va_P κ.1 vwCl ((wL κ x).set 30 (a, .inl (cA, 7, .inr (.inr (.inr (.inr g)))))) H) (hD : va_D A ((wL κ x).set 30 (a, .inl (cA, 7, .inr (.inr (.inr (.inr g))))))) (hfg : ∀ j, j < 7 → g j = f j) : zH wL κ A s x H locs := by
  have hlen : 30 < (wL κ x).length := (List.getElem?_eq_some_iff.mp he).1
  have cell : vp_cell cA (7, .inr (.inr (.inr (.inr g)))) = vp_cell cA (7, .inr (.inr (.inr (.inr f)))) := by
    rw [vp_cell_q, vp_cell_q]
    unfold arrV
    congr 1
    congr 1
    funext j
    show va_rf (g j.val) = va_rf (f j.val)
    rw [hfg j.val j.isLt]
  have key : ∀ (k : Nat) (q : Nat × va_E), (wL κ x)[k]? = some q → ∃ q', ((wL κ x).set 30 (a, .inl (cA, 7, .inr (.inr (.inr (.inr g))))))[k]? = some q' ∧ q'.1 = q.1 := by
    intro k q hq
    by_cases hk : k = 30
    · subst hk
      rw [he] at hq
      cases hq
      exact ⟨_, List.getElem?_set_self hlen, rfl⟩
    · exact ⟨q, by rw [List.getElem?_set_ne (fun e => hk e.symm)]; exact hq, rfl⟩
  refine ⟨fun k q hq => ?_, ⟨fun i j p q hp hq hpq => ?_, fun k q hq => ?_⟩, hS⟩
  · by_cases hk : k = 30
    · subst hk
      rw [he] at hq
      cases hq
      have h1 := hP 30 _ (List.getElem?_set_self hlen)
      show H[a]? = some (vp_cell _ _)
      rw [← cell]
      exact h1
    · exact hP k q (by rw [List.getElem?_set_ne (fun e => hk e.symm)]; exact hq)
  · obtain ⟨p', h1, h2⟩ := key i p hp
    obtain ⟨q', h3, h4⟩ := key j q hq
    exact hD.1 i j p' q' h1 h3 (by rw [h2, h4]; exact hpq)
  · obtain ⟨q', h3, h4⟩ := key k q hq
    rw [← h4]
    exact hD.2 k q' h3
end ZST

set_option maxRecDepth 20000 in
set_option maxHeartbeats 8000000 in
theorem law_start (hp : zPURE) {p : Program} {l : Launch} {e : Env} {s : State} {m : MethodId} {below : List Frame} {meth : Method} {c : Code} {D : va_G} {cA : Nat → ClassId} {b L : Nat} {xs : Nat → Int32} {ls : Array Slot} (hL : L ≤ 4611) (hl9 : l.stackTraces = false) (hE : zE s) (hZ : zZ (fun q => s.heap.size ≤ q) s s.heap) (hY : zY s) (hX : va_X b L xs s s.heap) (hbl : b < s.heap.size) (C : zC cL_law 8 ret RL (D, fun _ => 0, cA, fun _ => 0) (fun q => s.heap.size ≤ q) p s m #[Value.ref b] meth c) (h : zH zid (D, fun _ => 0, cA, fun _ => 0) (fun q => s.heap.size ≤ q) s [] s.heap []) (hl : lv_has ls 8 [(0, .ref b)]) : W p l e room_1 s m #[Value.ref b] below meth c s.heap [] 0 0 (lw_Z below #[Value.ref b] s) (F0 m 0 ls []) := by
  obtain ⟨nb, nb1, nb2, e1, e1'⟩ := z_dim (x := zcl L xs 0) (lo := 2) (hi := 200) (by decide) (by decide)
  obtain ⟨sz, sz1, sz2, e2, e2'⟩ := z_dim (x := zcl L xs 1) (lo := 5) (hi := 64) (by decide) (by decide)
  obtain ⟨mm, mm1, mm2, e3, e3'⟩ := z_dim (x := zcl L xs 2) (lo := 2) (hi := 64) (by decide) (by decide)
  obtain ⟨n, J, hS, hJ⟩ := hp nb sz mm nb1 nb2 sz1 sz2 mm1 mm2
  refine z_new (ci := 9) (fs := [.null, .null, .null, .null, .null, .null, .null, .null, .null, .null, .null, .null, .int 0]) C h iwX9 tyX9_ok (zw (zt1 (List.mem_of_getElem? (i := 20) rfl)) rfl) (zw (zt1 (List.mem_of_getElem? (i := 21) rfl)) rfl) (zw (zt1 (List.mem_of_getElem? (i := 1) rfl)) rfl) rfl dfX9 (Nat.le_of_ble_eq_true rfl) (Nat.le_of_ble_eq_true rfl) dL_law_0 (fun q0 H h => ?_)
  refine lv_dup C.ex C.by dL_law_3 rfl ?_
  refine lv_aload_n C.ex C.by dL_law_4 rfl (lv_at hl 0 rfl) ?_
  refine lv_iconst (v := 0) C.ex C.by dL_law_5 (by decide) ?_
  refine z_cell (k := 0) C hX hbl h hl rfl (by decide) (Nat.le_of_ble_eq_true rfl) dL_law_6 ⟨(Nat.le_of_ble_eq_true rfl), (Nat.le_of_ble_eq_true rfl)⟩ hL (fun H locs h => ?_)
  refine lv_aload_n C.ex C.by dL_law_9 rfl (lv_at hl 0 rfl) ?_
  refine lv_iconst (v := 1) C.ex C.by dL_law_10 (by decide) ?_
  refine z_cell (k := 1) C hX hbl h hl rfl (by decide) (Nat.le_of_ble_eq_true rfl) dL_law_11 ⟨(Nat.le_of_ble_eq_true rfl), (Nat.le_of_ble_eq_true rfl)⟩ hL (fun H locs h => ?_)
  refine lv_aload_n C.ex C.by dL_law_14 rfl (lv_at hl 0 rfl) ?_
  refine lv_iconst (v := 2) C.ex C.by dL_law_15 (by decide) ?_
  refine z_cell (k := 2) C hX hbl h hl rfl (by decide) (Nat.le_of_ble_eq_true rfl) dL_law_16 ⟨(Nat.le_of_ble_eq_true rfl), (Nat.le_of_ble_eq_true rfl)⟩ hL (fun H locs h => ?_)
  refine z_callIS (wr := []) (As := [.int (zcl L xs 0), .int (zcl L xs 1), .int (zcl L xs 2)]) (rest := [.ref q0]) C h (ctX9_init (h0 := q0) (n := 0) nb2 sz2 mm2 (Nat.mul_le_mul nb2 sz2) e1 e2 e3) (zw (zt1 (List.mem_of_getElem? (i := 22) rfl)) rfl) (zw (zt1 (List.mem_of_getElem? (i := 23) rfl)) rfl) (zw (zt1 (List.mem_of_getElem? (i := 1) rfl)) rfl) (zw (zt1 (List.mem_of_getElem? (i := 24) rfl)) rfl) ⟨rfl, rfl⟩ rfl hdX9_init.2 ⟨(Nat.le_of_ble_eq_true rfl), (Nat.le_of_ble_eq_true rfl)⟩ hl rfl rfl (Nat.le_of_ble_eq_true rfl) dL_law_19 ⟨(Nat.le_of_ble_eq_true rfl), (Nat.le_of_ble_eq_true rfl)⟩ (fun u H locs h => ?_)
  obtain ⟨u0, u1, u2, u3, u4, u5, u6, u7, u8, u9, u10, u11, u12, u13, u14, u15, u16, u17, u18, u19, u20, u21, u22, u23, u24, u25, u26, u27, u28, u29, u30, u31, u32, u33, u34, u35, u36, u37, u38, u39, u40, u41, u42, u43, u44, u45, u46, u47, u48, u49, u50⟩ := u
  refine lv_astore_n (lv' := [(1, .ref q0), (0, .ref b)]) C.ex C.by dL_law_22 rfl hl (by decide) rfl (fun ls hl => ?_)
  refine z_new (ci := 10) (fs := _) C h iwX10 tyX10_ok (zw (zt5 (List.mem_of_getElem? (i := 47) rfl)) rfl) (zw (zt5 (List.mem_of_getElem? (i := 48) rfl)) rfl) (zw (zt1 (List.mem_of_getElem? (i := 12) rfl)) rfl) rfl dfX10 (Nat.le_of_ble_eq_true rfl) (Nat.le_of_ble_eq_true rfl) dL_law_23 (fun q1 H h => ?_)
  refine lv_dup C.ex C.by dL_law_26 rfl ?_
  refine lv_aload_n C.ex C.by dL_law_27 rfl (lv_at hl 1 rfl) ?_
  refine lv_iconst (v := 0) C.ex C.by dL_law_28 (by decide) ?_
  refine z_cell (k := 0) C hX hbl h hl rfl (by decide) (Nat.le_of_ble_eq_true rfl) dL_law_29 ⟨(Nat.le_of_ble_eq_true rfl), (Nat.le_of_ble_eq_true rfl)⟩ hL (fun H locs h => ?_)
  refine lv_aload_n C.ex C.by dL_law_32 rfl (lv_at hl 1 rfl) ?_
  refine lv_iconst (v := 1) C.ex C.by dL_law_33 (by decide) ?_
  refine z_cell (k := 1) C hX hbl h hl rfl (by decide) (Nat.le_of_ble_eq_true rfl) dL_law_34 ⟨(Nat.le_of_ble_eq_true rfl), (Nat.le_of_ble_eq_true rfl)⟩ hL (fun H locs h => ?_)
  refine lv_aload_n C.ex C.by dL_law_37 rfl (lv_at hl 1 rfl) ?_
  refine lv_iconst (v := 2) C.ex C.by dL_law_38 (by decide) ?_
  refine z_cell (k := 2) C hX hbl h hl rfl (by decide) (Nat.le_of_ble_eq_true rfl) dL_law_39 ⟨(Nat.le_of_ble_eq_true rfl), (Nat.le_of_ble_eq_true rfl)⟩ hL (fun H locs h => ?_)
  refine z_callIS (As := [.int (zcl L xs 0), .int (zcl L xs 1), .int (zcl L xs 2)]) (rest := [.ref q1]) C h (ctX10_init (h0 := q1) (n := 0) e1' e2' e3') (zw (zt5 (List.mem_of_getElem? (i := 49) rfl)) rfl) (zw (zt5 (List.mem_of_getElem? (i := 50) rfl)) rfl) (zw (zt1 (List.mem_of_getElem? (i := 12) rfl)) rfl) (zw (zt5 (List.mem_of_getElem? (i := 51) rfl)) rfl) ⟨rfl, rfl⟩ rfl hdX10_init.2 ⟨(Nat.le_of_ble_eq_true rfl), (Nat.le_of_ble_eq_true rfl)⟩ hl rfl rfl (Nat.le_of_ble_eq_true rfl) dL_law_42 ⟨(Nat.le_of_ble_eq_true rfl), (Nat.le_of_ble_eq_true rfl)⟩ (fun v H locs h => ?_)
  obtain ⟨v0, v1, v2, v3, v4, v5, v6, v7, v8, v9, v10, v11, v12, v13, v14, v15, v16, v17, v18, v19, v20, v21, v22, v23, v24, v25, v26, v27, v28, v29⟩ := v
  refine lv_astore_n (lv' := [(2, .ref q1), (1, .ref q0), (0, .ref b)]) C.ex C.by dL_law_45 rfl hl (by decide) rfl (fun ls hl => ?_)
  refine lv_iconst (v := 1) C.ex C.by dL_law_46 (by decide) ?_
  refine z_newa (atype := .long) (ty := .long) (t0 := 1) (N' := 1) (a0 := (1, .inr (.inl (fun _ => 0)))) C h lkK12 rfl rfl (fun _ h9 => h9) (fun _ => rfl) rfl (by decide) (by decide) (Nat.le_of_ble_eq_true rfl) (Nat.le_of_ble_eq_true rfl) dL_law_47 (fun q2 H h => ?_)
  refine lv_astore_n (lv' := [(3, .ref q2), (2, .ref q1), (1, .ref q0), (0, .ref b)]) C.ex C.by dL_law_49 rfl hl (by decide) rfl (fun ls hl => ?_)
  refine lv_iconst (v := 3) C.ex C.by dL_law_50 (by decide) ?_
  refine lv_istore (lv' := [(4, .int (nI (3 + 9 * 0))), (3, .ref q2), (2, .ref q1), (1, .ref q0), (0, .ref b)]) C.ex C.by dL_law_51 hl (by decide) rfl (fun ls hl => ?_)
  have hκ : ∃ ad : Nat → Nat, ad = (fun k => ([q0, u0, u1, u2, u3, u4, u5, u6, u7, u8, u9, u10, u11, u12, u13, u14, u15, u16, u17, u18, u19, u20, u21, u22, u23, u24, u25, u26, u27, u28, u29, u44, u45, u46, u47, u48, u49, u50, u30, u31, u32, u33, u34, u35, u36, u37, u38, u39, u40, u41, u42, u43, 0, 0, 0, 0, 0, 0, 0, 0, q2, 0, 0, 0, 0, 0, 0, 0, 0, 0, 0, 0, 0, 0, 0, 0, 0, 0, 0, 0, 0, 0, 0, 0, 0, 0, 0, 0, 0, 0, 0, 0, 0, 0, 0, 0, 0, 0, 0, 0, q1, v0, v1, v2, v3, v4, v5, v6, v7, v8, v9, v10, v11, v12, v13, v14, v15, v16, v17, v18, v19, v20, v21, v22, v23, v24, v25, v26, v27, v28, v29] : List Nat).getD k 0) := ⟨_, rfl⟩
  obtain ⟨ad, hκ⟩ := hκ
  have h9 : zH wL (D, ad, cA, fun k => ([nb, sz, mm] : List Nat).getD k 0) (fun q => s.heap.size ≤ q) s ((zσ1 sz mm, fun _ => 0), zτ1 nb sz mm) H locs := by
    subst hκ
    refine z_rows (a := u29) (g := (va_up (va_up (va_up (va_up (va_up (va_up (va_up (fun _ => none) (Int32.toNatClampNeg 0) (some u30)) (Int32.toNatClampNeg 1) (some u32)) (Int32.toNatClampNeg 2) (some u34)) (Int32.toNatClampNeg 3) (some u36)) (Int32.toNatClampNeg 4) (some u38)) (Int32.toNatClampNeg 5) (some u40)) (Int32.toNatClampNeg 6) (some u42))) h.2.2 rfl ?_ ?_ ?_
    · exact h.1.sub [0, 14, 1, 2, 3, 4, 5, 6, 7, 8, 9, 10, 11, 12, 13, 15, 16, 17, 18, 19, 20, 21, 22, 23, 24, 25, 26, 27, 28, 29, 30, 45, 46, 47, 48, 49, 50, 51, 31, 32, 33, 34, 35, 36, 37, 38, 39, 40, 41, 42, 43, 44, 83, 52, 53, 54, 55, 56, 57, 58, 59, 60, 61, 62, 63, 64, 65, 66, 67, 68, 69, 70, 71, 72, 73, 74, 75, 76, 77, 78, 79, 80, 81, 82] rfl
    · exact h.2.1.sub [0, 14, 1, 2, 3, 4, 5, 6, 7, 8, 9, 10, 11, 12, 13, 15, 16, 17, 18, 19, 20, 21, 22, 23, 24, 25, 26, 27, 28, 29, 30, 45, 46, 47, 48, 49, 50, 51, 31, 32, 33, 34, 35, 36, 37, 38, 39, 40, 41, 42, 43, 44, 83, 52, 53, 54, 55, 56, 57, 58, 59, 60, 61, 62, 63, 64, 65, 66, 67, 68, 69, 70, 71, 72, 73, 74, 75, 76, 77, 78, 79, 80, 81, 82] (by decide) rfl
    · intro j hj
      match j, hj with
      | 0, _ => rfl
      | 1, _ => rfl
      | 2, _ => rfl
      | 3, _ => rfl
      | 4, _ => rfl
      | 5, _ => rfl
      | 6, _ => rfl
      | j + 7, hj => omega
  have C9 : zCL (D, ad, cA, fun k => ([nb, sz, mm] : List Nat).getD k 0) (fun q => s.heap.size ≤ q) b L xs p l s m #[Value.ref b] meth c := ⟨C, hl9, hE, hZ, hY, hX, hbl, fun h => by omega⟩
  have hl9 : lv_has ls 8 [(0, .ref b), (1, .ref (ad 0)), (2, .ref (ad 100)), (3, .ref (ad 60)), (4, .int (nI (3 + 9 * 0)))] := by rw [hκ]; exact lv_sub hl [4, 3, 2, 1, 0] rfl
  exact W.widen (k := 84 + 3 * 0) (n := 33528 + 18 * 0) (by decide) (by decide) (law_loop (κ := (D, ad, cA, fun k => ([nb, sz, mm] : List Nat).getD k 0)) hS hL (by decide) (by decide) C9 (fun q h => h) 601 0 _ _ _ H locs ls (by decide) (by decide) hJ h9 hl9)
