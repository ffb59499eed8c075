theorem hdX2_undoOpen : yX2_undoOpen.cls = RX2 ∧ yX2_undoOpen.cls ≠ "java/lang/invoke/MethodHandle" ∧ yX2_undoOpen.cls ≠ "java/lang/invoke/VarHandle" ∧ (parseMethodDescriptor yX2_undoOpen.desc).map (fun d => d.parameters.length) = some 0 := by decide +kernel
abbrev rmX2_undoOpen : Room := { frames := 1, cells := 0, slots := 0, locals := 22 }
set_option maxRecDepth 20000 in
set_option maxHeartbeats 4000000 in
theorem wX2_undoOpen_0 {p : Program} {l : Launch} {e : Env} {s : State} {m : MethodId} {args : Array Value} {below : List Frame} {meth : Method} {c : Code} {A : Nat → Prop} {κ : zG} {H : Heap} {locs : List Loc} {ls : Array Slot} {n : Nat} {σ : zS} {r : zS} (C : zC cX2_undoOpen 1 none RX2 κ A p s m args meth c) (h : zH wC κ A s σ H locs) (hl : lv_has ls 1 [(0, .ref (κ.2.1 10))]) (hf : fX2_undoOpen_0 n (κ.2.2.2 0) (κ.2.2.2 1) (κ.2.2.2 2) σ = some r) : W p l e rmX2_undoOpen s m args below meth c H locs 0 0 (MQ below (zQv wC κ A r) args s 0 0 A) (F0 m 0 ls []) := by
  unfold fX2_undoOpen_0 at hf
  refine lv_aload_n C.ex C.by dX2_undoOpen_0 rfl (lv_at hl 0 rfl) ?_
  refine z_get (v := .int (zI σ 14)) C h iwX2 10 (wC_at10 κ _) rfl 6 (by decide) lkC319 rfl dX2_undoOpen_1 ?_
  refine lv_iconst (v := (-1)) C.ex C.by dX2_undoOpen_4 (by decide) ?_
  refine lv_icmp_eq (tgt := 40) C.ex C.by dX2_undoOpen_5 (by decide) (fun c1 => ?_) (fun c1 => ?_)
  · have hf := zif_t c1 hf
    cases hf
    exact z_vret C h dX2_undoOpen_40
  · have hf := zif_f c1 hf
    refine lv_aload_n C.ex C.by dX2_undoOpen_8 rfl (lv_at hl 0 rfl) ?_
    refine z_get (v := .ref (κ.2.1 11)) C h iwX2 10 (wC_at10 κ _) rfl 2 (by decide) lkC45 rfl dX2_undoOpen_9 ?_
    refine lv_aload_n C.ex C.by dX2_undoOpen_12 rfl (lv_at hl 0 rfl) ?_
    refine z_get (v := .ref (κ.2.1 11)) C h iwX2 10 (wC_at10 κ _) rfl 2 (by decide) lkC45 rfl dX2_undoOpen_13 ?_
    obtain ⟨q2, e3, hf⟩ := zb_some hf
    refine z_callRi (As := []) (x := (zI σ 17)) (f := (zA σ 5)) C h (ctX6_size (κ := zκR κ (κ.2.1 11) (κ.2.1 12) (κ.2.2.2 0)) e3) (zgV lkC314 lkC182 lkC183 lkC52 lkC184) ⟨rfl, rfl⟩ hdX6_size ⟨Nat.le_of_ble_eq_true rfl, Nat.le_of_ble_eq_true rfl⟩ 11 12 (by decide) (wC_at11 κ _) (wC_at12 κ _) σ (zset2 (wC_at11 κ _) (wC_at12 κ _)) hl rfl rfl (Nat.le_of_ble_eq_true rfl) dX2_undoOpen_16 ⟨Nat.zero_le _, Nat.zero_le _⟩ (fun H locs h => ?_)
    refine lv_iconst (v := 1) C.ex C.by dX2_undoOpen_19 (by decide) ?_
    refine lv_isub C.ex C.by dX2_undoOpen_20 ?_
    obtain ⟨q4, e5, hf⟩ := zb_some hf
    refine z_callRv (As := [.int (q2 - 1)]) (x := (zI σ 17)) (f := (zA σ 5)) C h (ctX6_removeAt (κ := zκR κ (κ.2.1 11) (κ.2.1 12) (κ.2.2.2 0)) e5) (zgV lkC322 lkC267 lkC268 lkC52 lkC269) ⟨rfl, rfl⟩ hdX6_removeAt ⟨Nat.le_of_ble_eq_true rfl, Nat.le_of_ble_eq_true rfl⟩ 11 12 (by decide) (wC_at11 κ _) (wC_at12 κ _) (sA (sI σ 17 (zI q4 0)) 5 (zA q4 0)) (wC_sr11 κ _ _ _) hl rfl rfl (Nat.le_of_ble_eq_true rfl) dX2_undoOpen_21 ⟨Nat.zero_le _, Nat.zero_le _⟩ (fun H locs h => ?_)
    refine lv_aload_n C.ex C.by dX2_undoOpen_24 rfl (lv_at hl 0 rfl) ?_
    refine z_get (v := .ref (κ.2.1 1)) C h iwX2 10 (wC_at10 κ _) rfl 0 (by decide) lkC54 rfl dX2_undoOpen_25 ?_
    refine lv_aload_n C.ex C.by dX2_undoOpen_28 rfl (lv_at hl 0 rfl) ?_
    refine z_get (v := .int (zI σ 14)) C h iwX2 10 (wC_at10 κ _) rfl 6 (by decide) lkC319 rfl dX2_undoOpen_29 ?_
    obtain ⟨q6, e7, hf⟩ := zb_some hf
    refine z_callVv (As := [.int (zI σ 14)]) C h (ctX0_release e7) (zgV lkC320 lkC244 lkC245 lkC24 lkC246) ⟨rfl, rfl⟩ hdX0_release ⟨Nat.le_of_ble_eq_true rfl, Nat.le_of_ble_eq_true rfl⟩ 1 (wC_at1 κ _) rfl hl rfl rfl (Nat.le_of_ble_eq_true rfl) dX2_undoOpen_32 ⟨Nat.zero_le _, Nat.zero_le _⟩ (fun H locs h => ?_)
    refine lv_aload_n C.ex C.by dX2_undoOpen_35 rfl (lv_at hl 0 rfl) ?_
    refine lv_iconst (v := (-1)) C.ex C.by dX2_undoOpen_36 (by decide) ?_
    refine z_put C h iwX2 tyX2_ok nmX2 10 (wC_at10 κ _) rfl 6 (by decide) lkC319 rfl rfl rfl (Nat.le_of_ble_eq_true rfl) (sI q6 14 (-1)) (wC_s10_6 κ _ _) dX2_undoOpen_37 (fun H locs h => ?_)
    cases hf
    exact z_vret C h dX2_undoOpen_40
theorem ctX2_undoOpen {l : Launch} {κ : zG} {n : Nat} {σ : zS} {r : zS} (hf : fX2_undoOpen_0 n (κ.2.2.2 0) (κ.2.2.2 1) (κ.2.2.2 2) σ = some r) : zMv l yX2_undoOpen (Cond.code yX2_undoOpen cX2_undoOpen 1 none) rmX2_undoOpen wC κ [.ref (κ.2.1 10)] σ r :=
  zMv_of (by decide) (Nat.le_of_ble_eq_true rfl) (fun p e s m below meth c A C h ls hl => wX2_undoOpen_0 C h hl hf)
theorem hdX7_addNewRuns : yX7_addNewRuns.cls = RX7 ∧ yX7_addNewRuns.cls ≠ "java/lang/invoke/MethodHandle" ∧ yX7_addNewRuns.cls ≠ "java/lang/invoke/VarHandle" ∧ (parseMethodDescriptor yX7_addNewRuns.desc).map (fun d => d.parameters.length) = some 1 := by decide +kernel
abbrev rmX7_addNewRuns_p33 : Room := { frames := 1, cells := 0, slots := 0, locals := 21 }
set_option maxRecDepth 20000 in
set_option maxHeartbeats 4000000 in
theorem wX7_addNewRuns_p33_L2_2 {p : Program} {l : Launch} {e : Env} {s : State} {m : MethodId} {args : Array Value} {below : List Frame} {meth : Method} {c : Code} {A : Nat → Prop} {κ : zG} {H : Heap} {locs : List Loc} {ls : Array Slot} {Q : State → Prop} {n : Nat} {a : Int32 × zS} {r : (Int32 × zS) ⊕ (zS)} (C : zC cX7_addNewRuns 3 none RX7 κ A p s m args meth c) (h : zH wC κ A s a.2 H locs) (hl : lv_has ls 3 [(0, .ref (κ.2.1 14)), (1, .ref (κ.2.1 33)), (2, .int a.1)]) (hf : fX7_addNewRuns_p33_L2_2 n (κ.2.2.2 0) (κ.2.2.2 1) (κ.2.2.2 2) a = some r) (Kc : ∀ (v2 : Int32) (σ1 : zS), r = .inl (v2, σ1) → ∀ (H : Heap) (locs : List Loc) (ls : Array Slot), zH wC κ A s σ1 H locs → lv_has ls 3 [(0, .ref (κ.2.1 14)), (1, .ref (κ.2.1 33)), (2, .int v2)] → W p l e rmX7_addNewRuns_p33 s m args below meth c H locs 0 0 Q (F0 m 2 ls [])) (Ke0 : ∀ (σ1 : zS), r = .inr σ1 → ∀ (H : Heap) (locs : List Loc) (ls : Array Slot), zH wC κ A s σ1 H locs → lv_has ls 3 [(0, .ref (κ.2.1 14))] → W p l e rmX7_addNewRuns_p33 s m args below meth c H locs 0 0 Q (F0 m 31 ls [])) : W p l e rmX7_addNewRuns_p33 s m args below meth c H locs 0 0 Q (F0 m 2 ls []) := by
  unfold fX7_addNewRuns_p33_L2_2 at hf
  refine lv_iload_n C.ex C.by dX7_addNewRuns_2 rfl (lv_at hl 2 rfl) ?_
  refine lv_aload_n C.ex C.by dX7_addNewRuns_3 rfl (lv_at hl 0 rfl) ?_
  refine z_get (v := .ref (κ.2.1 18)) C h iwX7 14 (wC_at14 κ _) rfl 5 (by decide) lkC166 rfl dX7_addNewRuns_4 ?_
  obtain ⟨q1, e2, hf⟩ := zb_some hf
  refine z_callRi (As := []) (x := (zI a.2 26)) (f := (zA a.2 7)) C h (ctX6_size (κ := zκR κ (κ.2.1 18) (κ.2.1 19) (κ.2.2.2 0)) e2) (zgV lkC251 lkC182 lkC183 lkC52 lkC184) ⟨rfl, rfl⟩ hdX6_size ⟨Nat.le_of_ble_eq_true rfl, Nat.le_of_ble_eq_true rfl⟩ 18 19 (by decide) (wC_at18 κ _) (wC_at19 κ _) a.2 (zset2 (wC_at18 κ _) (wC_at19 κ _)) hl rfl rfl (Nat.le_of_ble_eq_true rfl) dX7_addNewRuns_7 ⟨Nat.zero_le _, Nat.zero_le _⟩ (fun H locs h => ?_)
  refine lv_icmp_ge (tgt := 31) C.ex C.by dX7_addNewRuns_10 (by decide) (fun c3 => ?_) (fun c3 => ?_)
  · have hf := zif_t c3 hf
    exact Ke0 _ (Option.some.inj hf).symm _ _ _ h (lv_sub hl [0] rfl)
  · have hf := zif_f c3 hf
    refine lv_aload_n C.ex C.by dX7_addNewRuns_13 rfl (lv_at hl 1 rfl) ?_
    refine lv_aload_n C.ex C.by dX7_addNewRuns_14 rfl (lv_at hl 0 rfl) ?_
    refine z_get (v := .ref (κ.2.1 18)) C h iwX7 14 (wC_at14 κ _) rfl 5 (by decide) lkC166 rfl dX7_addNewRuns_15 ?_
    refine lv_iload_n C.ex C.by dX7_addNewRuns_18 rfl (lv_at hl 2 rfl) ?_
    obtain ⟨q4, e5, hf⟩ := zb_some hf
    refine z_callRi (As := [.int a.1]) (x := (zI a.2 26)) (f := (zA a.2 7)) C h (ctX6_get (κ := zκR κ (κ.2.1 18) (κ.2.1 19) (κ.2.2.2 0)) e5) (zgV lkC252 lkC50 lkC51 lkC52 lkC53) ⟨rfl, rfl⟩ hdX6_get ⟨Nat.le_of_ble_eq_true rfl, Nat.le_of_ble_eq_true rfl⟩ 18 19 (by decide) (wC_at18 κ _) (wC_at19 κ _) a.2 (zset2 (wC_at18 κ _) (wC_at19 κ _)) hl rfl rfl (Nat.le_of_ble_eq_true rfl) dX7_addNewRuns_19 ⟨Nat.zero_le _, Nat.zero_le _⟩ (fun H locs h => ?_)
    obtain ⟨q6, e7, hf⟩ := zb_some hf
    refine z_callRv (As := [.int q4]) (x := (zI a.2 32)) (f := (zA a.2 16)) C h (ctX6_add (κ := zκR κ (κ.2.1 33) (κ.2.1 34) (κ.2.2.2 0)) e7) (zgV lkC138 lkC139 lkC140 lkC52 lkC141) ⟨rfl, rfl⟩ hdX6_add ⟨Nat.le_of_ble_eq_true rfl, Nat.le_of_ble_eq_true rfl⟩ 33 34 (by decide) (wC_at33 κ _) (wC_at34 κ _) (sA (sI a.2 32 (zI q6 0)) 16 (zA q6 0)) (wC_sr33 κ _ _ _) hl rfl rfl (Nat.le_of_ble_eq_true rfl) dX7_addNewRuns_22 ⟨Nat.zero_le _, Nat.zero_le _⟩ (fun H locs h => ?_)
    refine lv_iinc (v := (a.1 + 1)) (lv' := [(2, .int (a.1 + 1)), (0, .ref (κ.2.1 14)), (1, .ref (κ.2.1 33))]) C.ex C.by dX7_addNewRuns_25 hl (k := 2) rfl rfl (by decide) rfl (fun ls hl => ?_)
    refine lv_goto (tgt := 2) C.ex C.by dX7_addNewRuns_28 (by decide) ?_
    exact Kc _ _ (Option.some.inj hf).symm _ _ _ h (lv_sub hl [1, 2, 0] rfl)
theorem wlX7_addNewRuns_p33_2 {p : Program} {l : Launch} {e : Env} {s : State} {m : MethodId} {args : Array Value} {below : List Frame} {meth : Method} {c : Code} {A : Nat → Prop} {κ : zG} {H : Heap} {locs : List Loc} {ls : Array Slot} {Q : State → Prop} {n : Nat} {k0 : Nat} {u2 : Int32} {σ1 : zS} (C : zC cX7_addNewRuns 3 none RX7 κ A p s m args meth c) (h : zH wC κ A s σ1 H locs) (hl : lv_has ls 3 [(0, .ref (κ.2.1 14)), (1, .ref (κ.2.1 33)), (2, .int u2)]) (b : zS) (hb : zlp (fX7_addNewRuns_p33_L2_2 n (κ.2.2.2 0) (κ.2.2.2 1) (κ.2.2.2 2)) k0 (u2, σ1) = some b) (K : (fun b : zS => ∀ (H : Heap) (locs : List Loc) (ls : Array Slot), zH wC κ A s b H locs → lv_has ls 3 [(0, .ref (κ.2.1 14))] → W p l e rmX7_addNewRuns_p33 s m args below meth c H locs 0 0 Q (F0 m 31 ls [])) b) : W p l e rmX7_addNewRuns_p33 s m args below meth c H locs 0 0 Q (F0 m 2 ls []) :=
  z_loop (body := fX7_addNewRuns_p33_L2_2 n (κ.2.2.2 0) (κ.2.2.2 1) (κ.2.2.2 2)) (Wd := (fun a : Int32 × zS => ∀ (H : Heap) (locs : List Loc) (ls : Array Slot), zH wC κ A s a.2 H locs → lv_has ls 3 [(0, .ref (κ.2.1 14)), (1, .ref (κ.2.1 33)), (2, .int a.1)] → W p l e rmX7_addNewRuns_p33 s m args below meth c H locs 0 0 Q (F0 m 2 ls []))) (Ex := (fun b : zS => (fun b : zS => ∀ (H : Heap) (locs : List Loc) (ls : Array Slot), zH wC κ A s b H locs → lv_has ls 3 [(0, .ref (κ.2.1 14))] → W p l e rmX7_addNewRuns_p33 s m args below meth c H locs 0 0 Q (F0 m 31 ls [])) b)) (fun a r hr Kc Ke H locs ls h hl => wX7_addNewRuns_p33_L2_2 C h hl hr (fun v2 σ1 e => Kc (v2, σ1) e) (fun σ1 e => Ke σ1 e)) k0 (u2, σ1) b hb K H locs ls h hl
set_option maxRecDepth 20000 in
set_option maxHeartbeats 4000000 in
theorem wX7_addNewRuns_p33_0 {p : Program} {l : Launch} {e : Env} {s : State} {m : MethodId} {args : Array Value} {below : List Frame} {meth : Method} {c : Code} {A : Nat → Prop} {κ : zG} {H : Heap} {locs : List Loc} {ls : Array Slot} {n : Nat} {σ : zS} {r : zS} (C : zC cX7_addNewRuns 3 none RX7 κ A p s m args meth c) (h : zH wC κ A s σ H locs) (hl : lv_has ls 3 [(0, .ref (κ.2.1 14)), (1, .ref (κ.2.1 33))]) (hf : fX7_addNewRuns_p33_0 n (κ.2.2.2 0) (κ.2.2.2 1) (κ.2.2.2 2) σ = some r) : W p l e rmX7_addNewRuns_p33 s m args below meth c H locs 0 0 (MQ below (zQv wC κ A r) args s 0 0 A) (F0 m 0 ls []) := by
  unfold fX7_addNewRuns_p33_0 at hf
  refine lv_iconst (v := 0) C.ex C.by dX7_addNewRuns_0 (by decide) ?_
  refine lv_istore_n (lv' := [(2, .int 0), (0, .ref (κ.2.1 14)), (1, .ref (κ.2.1 33))]) C.ex C.by dX7_addNewRuns_1 rfl hl (by decide) rfl (fun ls hl => ?_)
  obtain ⟨b8, e9, hf⟩ := zb_some hf
  refine wlX7_addNewRuns_p33_2 C h (lv_sub hl [1, 2, 0] rfl) b8 e9 ?_
  intro H locs ls h hl
  cases hf
  exact z_vret C h dX7_addNewRuns_31
theorem ctX7_addNewRuns_p33 {l : Launch} {κ : zG} {n : Nat} {σ : zS} {r : zS} (hf : fX7_addNewRuns_p33_0 n (κ.2.2.2 0) (κ.2.2.2 1) (κ.2.2.2 2) σ = some r) : zMv l yX7_addNewRuns (Cond.code yX7_addNewRuns cX7_addNewRuns 3 none) rmX7_addNewRuns_p33 wC κ [.ref (κ.2.1 14), .ref (κ.2.1 33)] σ r :=
  zMv_of (by decide) (Nat.le_of_ble_eq_true rfl) (fun p e s m below meth c A C h ls hl => wX7_addNewRuns_p33_0 C h hl hf)
theorem hdX9_within : yX9_within.cls = RX9 ∧ yX9_within.cls ≠ "java/lang/invoke/MethodHandle" ∧ yX9_within.cls ≠ "java/lang/invoke/VarHandle" ∧ (parseMethodDescriptor yX9_within.desc).map (fun d => d.parameters.length) = some 3 := by decide +kernel
abbrev rmX9_within : Room := { frames := 1, cells := 0, slots := 0, locals := 14 }
set_option maxRecDepth 20000 in
set_option maxHeartbeats 4000000 in
theorem wX9_within_0 {p : Program} {l : Launch} {e : Env} {s : State} {m : MethodId} {args : Array Value} {below : List Frame} {meth : Method} {c : Code} {A : Nat → Prop} {κ : zG} {H : Heap} {locs : List Loc} {ls : Array Slot} {n : Nat} {σ : zS} {x0 : Int32} {x1 : Int32} {x2 : Int32} {r : Int32} (C : zC cX9_within 3 (some .int) RX9 κ A p s m args meth c) (h : zH w0 κ A s σ H locs) (hl : lv_has ls 3 [(0, .int x0), (1, .int x1), (2, .int x2)]) (hf : fX9_within_0 n σ x0 x1 x2 = some r) : W p l e rmX9_within s m args below meth c H locs 0 0 (MQ below (zQi w0 κ A r σ) args s 0 0 A) (F0 m 0 ls []) := by
  unfold fX9_within_0 at hf
  refine lv_iload_n C.ex C.by dX9_within_0 rfl (lv_at hl 1 rfl) ?_
  refine lv_iload_n C.ex C.by dX9_within_1 rfl (lv_at hl 0 rfl) ?_
  refine lv_iload_n C.ex C.by dX9_within_2 rfl (lv_at hl 2 rfl) ?_
  refine z_mmin C hl lkC185 lkC186 lkC4 lkC187 ⟨Nat.le_of_ble_eq_true rfl, Nat.le_of_ble_eq_true rfl⟩ ⟨Nat.zero_le _, Nat.zero_le _⟩ dX9_within_3 ?_
  refine z_mmax C hl lkC2 lkC3 lkC4 lkC5 ⟨Nat.le_of_ble_eq_true rfl, Nat.le_of_ble_eq_true rfl⟩ ⟨Nat.zero_le _, Nat.zero_le _⟩ dX9_within_6 ?_
  cases hf
  exact z_iret C h dX9_within_9
theorem ctX9_within {l : Launch} {κ : zG} {n : Nat} {σ : zS} {x0 : Int32} {x1 : Int32} {x2 : Int32} {r : Int32} (hf : fX9_within_0 n σ x0 x1 x2 = some r) : zMi l yX9_within (Cond.code yX9_within cX9_within 3 (some .int)) rmX9_within w0 κ [.int x0, .int x1, .int x2] σ r σ :=
  zMi_of (by decide) (Nat.le_of_ble_eq_true rfl) (fun p e s m below meth c A C h ls hl => wX9_within_0 C h hl hf)
theorem hdX5_restart : yX5_restart.cls = RX5 ∧ yX5_restart.cls ≠ "java/lang/invoke/MethodHandle" ∧ yX5_restart.cls ≠ "java/lang/invoke/VarHandle" ∧ (parseMethodDescriptor yX5_restart.desc).map (fun d => d.parameters.length) = some 1 := by decide +kernel
abbrev rmX5_restart : Room := { frames := 2, cells := 0, slots := 0, locals := 36 }
set_option maxRecDepth 20000 in
set_option maxHeartbeats 4000000 in
theorem wX5_restart_0 {p : Program} {l : Launch} {e : Env} {s : State} {m : MethodId} {args : Array Value} {below : List Frame} {meth : Method} {c : Code} {A : Nat → Prop} {κ : zG} {H : Heap} {locs : List Loc} {ls : Array Slot} {n : Nat} {σ : zS} {x1 : Int32} {r : zS} (C : zC cX5_restart 2 none RX5 κ A p s m args meth c) (h : zH wC κ A s σ H locs) (hl : lv_has ls 2 [(0, .ref (κ.2.1 4)), (1, .int x1)]) (hf : fX5_restart_0 n (κ.2.2.2 0) (κ.2.2.2 1) (κ.2.2.2 2) σ x1 = some r) : W p l e rmX5_restart s m args below meth c H locs 0 0 (MQ below (zQv wC κ A r) args s 0 0 A) (F0 m 0 ls []) := by
  unfold fX5_restart_0 at hf
  refine lv_aload_n C.ex C.by dX5_restart_0 rfl (lv_at hl 0 rfl) ?_
  refine lv_iload_n C.ex C.by dX5_restart_1 rfl (lv_at hl 1 rfl) ?_
  refine lv_iconst (v := 1) C.ex C.by dX5_restart_2 (by decide) ?_
  refine lv_iconst (v := 4) C.ex C.by dX5_restart_3 (by decide) ?_
  obtain ⟨q1, e2, hf⟩ := zb_some hf
  refine z_callSNi (As := [.int x1, .int 1, .int 4]) C h (ctX9_within e2) (by decide +kernel) lkC323 lkC99 lkC324 ⟨rfl, rfl⟩ hdX9_within.2 ⟨Nat.le_of_ble_eq_true rfl, Nat.le_of_ble_eq_true rfl⟩ hl rfl rfl (Nat.le_of_ble_eq_true rfl) dX5_restart_4 ⟨Nat.zero_le _, Nat.zero_le _⟩ (fun H locs h => ?_)
  refine z_put C h iwX5 tyX5_ok nmX5 4 (wC_at4 κ _) rfl 4 (by decide) lkC66 rfl rfl rfl (Nat.le_of_ble_eq_true rfl) (sI σ 9 q1) (wC_s4_4 κ _ _) dX5_restart_7 (fun H locs h => ?_)
  refine lv_aload_n C.ex C.by dX5_restart_10 rfl (lv_at hl 0 rfl) ?_
  refine lv_aload_n C.ex C.by dX5_restart_11 rfl (lv_at hl 0 rfl) ?_
  refine z_get (v := .int q1) C h iwX5 4 (wC_at4 κ _) rfl 4 (by decide) lkC66 rfl dX5_restart_12 ?_
  refine lv_iconst (v := 1) C.ex C.by dX5_restart_15 (by decide) ?_
  refine lv_iadd C.ex C.by dX5_restart_16 ?_
  refine z_put C h iwX5 tyX5_ok nmX5 4 (wC_at4 κ _) rfl 5 (by decide) lkC325 rfl rfl rfl (Nat.le_of_ble_eq_true rfl) (sI (sI σ 9 q1) 10 (q1 + 1)) (wC_s4_5 κ _ _) dX5_restart_17 (fun H locs h => ?_)
  refine lv_aload_n C.ex C.by dX5_restart_20 rfl (lv_at hl 0 rfl) ?_
  refine lv_iconst (v := 1) C.ex C.by dX5_restart_21 (by decide) ?_
  refine lv_aload_n C.ex C.by dX5_restart_22 rfl (lv_at hl 0 rfl) ?_
  refine z_get (v := .ref (κ.2.1 1)) C h iwX5 4 (wC_at4 κ _) rfl 0 (by decide) lkC69 rfl dX5_restart_23 ?_
  refine z_getN (v := .int (zI σ 1)) C h iwX0 1 (wC_at1 κ _) rfl 0 (by decide) nkC19 rfl dX5_restart_26 ?_
  refine lv_iconst (v := 1) C.ex C.by dX5_restart_29 (by decide) ?_
  refine lv_aload_n C.ex C.by dX5_restart_30 rfl (lv_at hl 0 rfl) ?_
  refine z_get (v := .int (q1 + 1)) C h iwX5 4 (wC_at4 κ _) rfl 5 (by decide) lkC325 rfl dX5_restart_31 ?_
  refine z_mmax C hl lkC300 lkC3 lkC4 lkC5 ⟨Nat.le_of_ble_eq_true rfl, Nat.le_of_ble_eq_true rfl⟩ ⟨Nat.zero_le _, Nat.zero_le _⟩ dX5_restart_34 ?_
  obtain ⟨h3, hf⟩ := zg_some hf
  refine lv_idiv C.ex C.by dX5_restart_37 (znz_ne h3) ?_
  refine z_mmax C hl lkC300 lkC3 lkC4 lkC5 ⟨Nat.le_of_ble_eq_true rfl, Nat.le_of_ble_eq_true rfl⟩ ⟨Nat.zero_le _, Nat.zero_le _⟩ dX5_restart_38 ?_
  refine z_put C h iwX5 tyX5_ok nmX5 4 (wC_at4 κ _) rfl 6 (by decide) lkC299 rfl rfl rfl (Nat.le_of_ble_eq_true rfl) (sI (sI (sI σ 9 q1) 10 (q1 + 1)) 11 (if 1 < ((zI σ 1) / (if 1 < (q1 + 1) then (q1 + 1) else 1)) then ((zI σ 1) / (if 1 < (q1 + 1) then (q1 + 1) else 1)) else 1)) (wC_s4_6 κ _ _) dX5_restart_41 (fun H locs h => ?_)
  refine lv_aload_n C.ex C.by dX5_restart_44 rfl (lv_at hl 0 rfl) ?_
  refine lv_iconst (v := 0) C.ex C.by dX5_restart_45 (by decide) ?_
  refine z_put C h iwX5 tyX5_ok nmX5 4 (wC_at4 κ _) rfl 3 (by decide) lkC65 rfl rfl rfl (Nat.le_of_ble_eq_true rfl) (sI (sI (sI (sI σ 9 q1) 10 (q1 + 1)) 11 (if 1 < ((zI σ 1) / (if 1 < (q1 + 1) then (q1 + 1) else 1)) then ((zI σ 1) / (if 1 < (q1 + 1) then (q1 + 1) else 1)) else 1)) 8 0) (wC_s4_3 κ _ _) dX5_restart_46 (fun H locs h => ?_)
  cases hf
  exact z_vret C h dX5_restart_49
theorem ctX5_restart {l : Launch} {κ : zG} {n : Nat} {σ : zS} {x1 : Int32} {r : zS} (hf : fX5_restart_0 n (κ.2.2.2 0) (κ.2.2.2 1) (κ.2.2.2 2) σ x1 = some r) : zMv l yX5_restart (Cond.code yX5_restart cX5_restart 2 none) rmX5_restart wC κ [.ref (κ.2.1 4), .int x1] σ r :=
  zMv_of (by decide) (Nat.le_of_ble_eq_true rfl) (fun p e s m below meth c A C h ls hl => wX5_restart_0 C h hl hf)
theorem hdX5_addKey : yX5_addKey.cls = RX5 ∧ yX5_addKey.cls ≠ "java/lang/invoke/MethodHandle" ∧ yX5_addKey.cls ≠ "java/lang/invoke/VarHandle" ∧ (parseMethodDescriptor yX5_addKey.desc).map (fun d => d.parameters.length) = some 2 := by decide +kernel
abbrev rmX5_addKey : Room := { frames := 0, cells := 0, slots := 0, locals := 0 }
set_option maxRecDepth 20000 in
set_option maxHeartbeats 4000000 in
theorem wX5_addKey_61 {p : Program} {l : Launch} {e : Env} {s : State} {m : MethodId} {args : Array Value} {below : List Frame} {meth : Method} {c : Code} {A : Nat → Prop} {κ : zG} {H : Heap} {locs : List Loc} {ls : Array Slot} {n : Nat} {σ : zS} {r1 : Int32} {r2 : zS} (C : zC cX5_addKey 3 (some .int) RX5 κ A p s m args meth c) (h : zH wC κ A s σ H locs) (hl : lv_has ls 3 [(0, .ref (κ.2.1 4))]) (hf : fX5_addKey_61 n (κ.2.2.2 0) (κ.2.2.2 1) (κ.2.2.2 2) σ = some (r1, r2)) : W p l e rmX5_addKey s m args below meth c H locs 0 0 (MQ below (zQi wC κ A r1 r2) args s 0 0 A) (F0 m 61 ls []) := by
  unfold fX5_addKey_61 at hf
  refine lv_aload_n C.ex C.by dX5_addKey_61 rfl (lv_at hl 0 rfl) ?_
  refine z_get (v := .int (zI σ 8)) C h iwX5 4 (wC_at4 κ _) rfl 3 (by decide) lkC65 rfl dX5_addKey_62 ?_
  cases hf
  exact z_iret C h dX5_addKey_65
set_option maxRecDepth 20000 in
set_option maxHeartbeats 4000000 in
theorem wX5_addKey_0 {p : Program} {l : Launch} {e : Env} {s : State} {m : MethodId} {args : Array Value} {below : List Frame} {meth : Method} {c : Code} {A : Nat → Prop} {κ : zG} {H : Heap} {locs : List Loc} {ls : Array Slot} {n : Nat} {σ : zS} {x1 : Int32} {x2 : Int32} {r1 : Int32} {r2 : zS} (C : zC cX5_addKey 3 (some .int) RX5 κ A p s m args meth c) (h : zH wC κ A s σ H locs) (hl : lv_has ls 3 [(0, .ref (κ.2.1 4)), (1, .int x1), (2, .int x2)]) (hf : fX5_addKey_0 n (κ.2.2.2 0) (κ.2.2.2 1) (κ.2.2.2 2) σ x1 x2 = some (r1, r2)) : W p l e rmX5_addKey s m args below meth c H locs 0 0 (MQ below (zQi wC κ A r1 r2) args s 0 0 A) (F0 m 0 ls []) := by
  unfold fX5_addKey_0 at hf
  refine lv_aload_n C.ex C.by dX5_addKey_0 rfl (lv_at hl 0 rfl) ?_
  refine z_get (v := .int (zI σ 8)) C h iwX5 4 (wC_at4 κ _) rfl 3 (by decide) lkC65 rfl dX5_addKey_1 ?_
  refine lv_if_lt (tgt := 61) C.ex C.by dX5_addKey_4 (by decide) (fun c1 => ?_) (fun c1 => ?_)
  · have hf := zif_t c1 hf
    exact wX5_addKey_61 C h (lv_sub hl [0] rfl) hf
  · have hf := zif_f c1 hf
    refine lv_aload_n C.ex C.by dX5_addKey_7 rfl (lv_at hl 0 rfl) ?_
    refine z_get (v := .int (zI σ 8)) C h iwX5 4 (wC_at4 κ _) rfl 3 (by decide) lkC65 rfl dX5_addKey_8 ?_
    refine lv_aload_n C.ex C.by dX5_addKey_11 rfl (lv_at hl 0 rfl) ?_
    refine z_get (v := .ref (κ.2.1 5)) C h iwX5 4 (wC_at4 κ _) rfl 1 (by decide) lkC67 rfl dX5_addKey_12 ?_
    refine z_alen (t0 := 0) C h 5 (wC_at5 κ _) rfl dX5_addKey_15 ?_
    refine lv_icmp_ge (tgt := 61) C.ex C.by dX5_addKey_16 (by decide) (fun c2 => ?_) (fun c2 => ?_)
    · have hf := zif_t c2 hf
      exact wX5_addKey_61 C h (lv_sub hl [0] rfl) hf
    · have hf := zif_f c2 hf
      refine lv_aload_n C.ex C.by dX5_addKey_19 rfl (lv_at hl 0 rfl) ?_
      refine z_get (v := .int (zI σ 8)) C h iwX5 4 (wC_at4 κ _) rfl 3 (by decide) lkC65 rfl dX5_addKey_20 ?_
      refine lv_aload_n C.ex C.by dX5_addKey_23 rfl (lv_at hl 0 rfl) ?_
      refine z_get (v := .ref (κ.2.1 6)) C h iwX5 4 (wC_at4 κ _) rfl 2 (by decide) lkC68 rfl dX5_addKey_24 ?_
      refine z_alen (t0 := 2) C h 6 (wC_at6 κ _) rfl dX5_addKey_27 ?_
      refine lv_icmp_ge (tgt := 61) C.ex C.by dX5_addKey_28 (by decide) (fun c3 => ?_) (fun c3 => ?_)
      · have hf := zif_t c3 hf
        exact wX5_addKey_61 C h (lv_sub hl [0] rfl) hf
      · have hf := zif_f c3 hf
        refine lv_aload_n C.ex C.by dX5_addKey_31 rfl (lv_at hl 0 rfl) ?_
        refine z_get (v := .ref (κ.2.1 5)) C h iwX5 4 (wC_at4 κ _) rfl 1 (by decide) lkC67 rfl dX5_addKey_32 ?_
        refine lv_aload_n C.ex C.by dX5_addKey_35 rfl (lv_at hl 0 rfl) ?_
        refine z_get (v := .int (zI σ 8)) C h iwX5 4 (wC_at4 κ _) rfl 3 (by decide) lkC65 rfl dX5_addKey_36 ?_
        refine lv_iload_n C.ex C.by dX5_addKey_39 rfl (lv_at hl 1 rfl) ?_
        obtain ⟨h4, hf⟩ := zg_some hf
        refine z_iast (f := (zA σ 1)) C h 5 (wC_at5 κ _) h4 (sA σ 1 (upd (zA σ 1) (Int32.toNatClampNeg (zI σ 8)) x1)) (wC_s5 κ _ _) dX5_addKey_40 (fun H locs h => ?_)
        refine lv_aload_n C.ex C.by dX5_addKey_41 rfl (lv_at hl 0 rfl) ?_
        refine z_get (v := .ref (κ.2.1 6)) C h iwX5 4 (wC_at4 κ _) rfl 2 (by decide) lkC68 rfl dX5_addKey_42 ?_
        refine lv_aload_n C.ex C.by dX5_addKey_45 rfl (lv_at hl 0 rfl) ?_
        refine z_get (v := .int (zI σ 8)) C h iwX5 4 (wC_at4 κ _) rfl 3 (by decide) lkC65 rfl dX5_addKey_46 ?_
        refine lv_iload_n C.ex C.by dX5_addKey_49 rfl (lv_at hl 2 rfl) ?_
        obtain ⟨h5, hf⟩ := zg_some hf
        refine z_zast (f := (zA σ 2)) C h 6 (wC_at6 κ _) h5 (sA (sA σ 1 (upd (zA σ 1) (Int32.toNatClampNeg (zI σ 8)) x1)) 2 (upd (zA σ 2) (Int32.toNatClampNeg (zI σ 8)) (vp_nar .boolean x2))) (wC_s6 κ _ _) dX5_addKey_50 (fun H locs h => ?_)
        refine lv_aload_n C.ex C.by dX5_addKey_51 rfl (lv_at hl 0 rfl) ?_
        refine lv_dup C.ex C.by dX5_addKey_52 rfl ?_
        refine z_get (v := .int (zI σ 8)) C h iwX5 4 (wC_at4 κ _) rfl 3 (by decide) lkC65 rfl dX5_addKey_53 ?_
        refine lv_iconst (v := 1) C.ex C.by dX5_addKey_56 (by decide) ?_
        refine lv_iadd C.ex C.by dX5_addKey_57 ?_
        refine z_put C h iwX5 tyX5_ok nmX5 4 (wC_at4 κ _) rfl 3 (by decide) lkC65 rfl rfl rfl (Nat.le_of_ble_eq_true rfl) (sI (sA (sA σ 1 (upd (zA σ 1) (Int32.toNatClampNeg (zI σ 8)) x1)) 2 (upd (zA σ 2) (Int32.toNatClampNeg (zI σ 8)) (vp_nar .boolean x2))) 8 ((zI σ 8) + 1)) (wC_s4_3 κ _ _) dX5_addKey_58 (fun H locs h => ?_)
        exact wX5_addKey_61 C h (lv_sub hl [0] rfl) hf
theorem ctX5_addKey {l : Launch} {κ : zG} {n : Nat} {σ : zS} {x1 : Int32} {x2 : Int32} {r1 : Int32} {r2 : zS} (hf : fX5_addKey_0 n (κ.2.2.2 0) (κ.2.2.2 1) (κ.2.2.2 2) σ x1 x2 = some (r1, r2)) : zMi l yX5_addKey (Cond.code yX5_addKey cX5_addKey 3 (some .int)) rmX5_addKey wC κ [.ref (κ.2.1 4), .int x1, .int x2] σ r1 r2 :=
  zMi_of (by decide) (Nat.le_of_ble_eq_true rfl) (fun p e s m below meth c A C h ls hl => wX5_addKey_0 C h hl hf)
theorem hdX5_firstColumn : yX5_firstColumn.cls = RX5 ∧ yX5_firstColumn.cls ≠ "java/lang/invoke/MethodHandle" ∧ yX5_firstColumn.cls ≠ "java/lang/invoke/VarHandle" ∧ (parseMethodDescriptor yX5_firstColumn.desc).map (fun d => d.parameters.length) = some 0 := by decide +kernel
abbrev rmX5_firstColumn : Room := { frames := 0, cells := 0, slots := 0, locals := 0 }
set_option maxRecDepth 20000 in
set_option maxHeartbeats 4000000 in
theorem wX5_firstColumn_0 {p : Program} {l : Launch} {e : Env} {s : State} {m : MethodId} {args : Array Value} {below : List Frame} {meth : Method} {c : Code} {A : Nat → Prop} {κ : zG} {H : Heap} {locs : List Loc} {ls : Array Slot} {n : Nat} {σ : zS} {r : Int32} (C : zC cX5_firstColumn 1 (some .int) RX5 κ A p s m args meth c) (h : zH wC κ A s σ H locs) (hl : lv_has ls 1 [(0, .ref (κ.2.1 4))]) (hf : fX5_firstColumn_0 n (κ.2.2.2 0) (κ.2.2.2 1) (κ.2.2.2 2) σ = some r) : W p l e rmX5_firstColumn s m args below meth c H locs 0 0 (MQ below (zQi wC κ A r σ) args s 0 0 A) (F0 m 0 ls []) := by
  unfold fX5_firstColumn_0 at hf
  refine lv_aload_n C.ex C.by dX5_firstColumn_0 rfl (lv_at hl 0 rfl) ?_
  refine z_get (v := .int (zI σ 8)) C h iwX5 4 (wC_at4 κ _) rfl 3 (by decide) lkC65 rfl dX5_firstColumn_1 ?_
  refine lv_if_le (tgt := 24) C.ex C.by dX5_firstColumn_4 (by decide) (fun c1 => ?_) (fun c1 => ?_)
  · have hf := zif_t c1 hf
    refine lv_iconst (v := 0) C.ex C.by dX5_firstColumn_24 (by decide) ?_
    cases hf
    exact z_iret C h dX5_firstColumn_25
  · have hf := zif_f c1 hf
    refine lv_aload_n C.ex C.by dX5_firstColumn_7 rfl (lv_at hl 0 rfl) ?_
    refine z_get (v := .ref (κ.2.1 5)) C h iwX5 4 (wC_at4 κ _) rfl 1 (by decide) lkC67 rfl dX5_firstColumn_8 ?_
    refine z_alen (t0 := 0) C h 5 (wC_at5 κ _) rfl dX5_firstColumn_11 ?_
    refine lv_if_le (tgt := 24) C.ex C.by dX5_firstColumn_12 (by decide) (fun c2 => ?_) (fun c2 => ?_)
    · have hf := zif_t c2 hf
      refine lv_iconst (v := 0) C.ex C.by dX5_firstColumn_24 (by decide) ?_
      cases hf
      exact z_iret C h dX5_firstColumn_25
    · have hf := zif_f c2 hf
      refine lv_aload_n C.ex C.by dX5_firstColumn_15 rfl (lv_at hl 0 rfl) ?_
      refine z_get (v := .ref (κ.2.1 5)) C h iwX5 4 (wC_at4 κ _) rfl 1 (by decide) lkC67 rfl dX5_firstColumn_16 ?_
      refine lv_iconst (v := 0) C.ex C.by dX5_firstColumn_19 (by decide) ?_
      obtain ⟨h3, hf⟩ := zg_some hf
      refine z_iald (f := (zA σ 1)) C h 5 (wC_at5 κ _) h3 dX5_firstColumn_20 ?_
      refine lv_goto (tgt := 25) C.ex C.by dX5_firstColumn_21 (by decide) ?_
      cases hf
      exact z_iret C h dX5_firstColumn_25
theorem ctX5_firstColumn {l : Launch} {κ : zG} {n : Nat} {σ : zS} {r : Int32} (hf : fX5_firstColumn_0 n (κ.2.2.2 0) (κ.2.2.2 1) (κ.2.2.2 2) σ = some r) : zMi l yX5_firstColumn (Cond.code yX5_firstColumn cX5_firstColumn 1 (some .int)) rmX5_firstColumn wC κ [.ref (κ.2.1 4)] σ r σ :=
  zMi_of (by decide) (Nat.le_of_ble_eq_true rfl) (fun p e s m below meth c A C h ls hl => wX5_firstColumn_0 C h hl hf)
theorem hdX5_isBeforeInFirstKey : yX5_isBeforeInFirstKey.cls = RX5 ∧ yX5_isBeforeInFirstKey.cls ≠ "java/lang/invoke/MethodHandle" ∧ yX5_isBeforeInFirstKey.cls ≠ "java/lang/invoke/VarHandle" ∧ (parseMethodDescriptor yX5_isBeforeInFirstKey.desc).map (fun d => d.parameters.length) = some 2 := by decide +kernel
abbrev rmX5_isBeforeInFirstKey : Room := { frames := 0, cells := 0, slots := 0, locals := 0 }
set_option maxRecDepth 20000 in
set_option maxHeartbeats 4000000 in
theorem wX5_isBeforeInFirstKey_38 {p : Program} {l : Launch} {e : Env} {s : State} {m : MethodId} {args : Array Value} {below : List Frame} {meth : Method} {c : Code} {A : Nat → Prop} {κ : zG} {H : Heap} {locs : List Loc} {ls : Array Slot} {n : Nat} {σ : zS} {x1 : Int64} {x3 : Int64} {r : Int32} (C : zC cX5_isBeforeInFirstKey 5 (some .boolean) RX5 κ A p s m args meth c) (h : zH wC κ A s σ H locs) (hl : lv_has ls 5 [(0, .ref (κ.2.1 4)), (1, .long x1), (3, .long x3)]) (hf : fX5_isBeforeInFirstKey_38 n (κ.2.2.2 0) (κ.2.2.2 1) (κ.2.2.2 2) σ x1 x3 = some r) : W p l e rmX5_isBeforeInFirstKey s m args below meth c H locs 0 0 (MQ below (zQi wC κ A r σ) args s 0 0 A) (F0 m 38 ls []) := by
  unfold fX5_isBeforeInFirstKey_38 at hf
  refine lv_lload_n C.ex C.by dX5_isBeforeInFirstKey_38 rfl (lv_at hl 1 rfl) ?_
  refine lv_lload_n C.ex C.by dX5_isBeforeInFirstKey_39 rfl (lv_at hl 2 rfl) ?_
  refine W.lcmp C.ex C.by dX5_isBeforeInFirstKey_40 ?_
  refine lv_if_ge (tgt := 48) C.ex C.by dX5_isBeforeInFirstKey_41 (by decide) (fun c6 => ?_) (fun c6 => ?_)
  · have hf := zif_t c6 hf
    refine lv_iconst (v := 0) C.ex C.by dX5_isBeforeInFirstKey_48 (by decide) ?_
    cases hf
    exact z_zret (r := 0) C h rfl dX5_isBeforeInFirstKey_49
  · have hf := zif_f c6 hf
    refine lv_iconst (v := 1) C.ex C.by dX5_isBeforeInFirstKey_44 (by decide) ?_
    refine lv_goto (tgt := 49) C.ex C.by dX5_isBeforeInFirstKey_45 (by decide) ?_
    cases hf
    exact z_zret (r := 1) C h rfl dX5_isBeforeInFirstKey_49
set_option maxRecDepth 20000 in
set_option maxHeartbeats 4000000 in
theorem wX5_isBeforeInFirstKey_0 {p : Program} {l : Launch} {e : Env} {s : State} {m : MethodId} {args : Array Value} {below : List Frame} {meth : Method} {c : Code} {A : Nat → Prop} {κ : zG} {H : Heap} {locs : List Loc} {ls : Array Slot} {n : Nat} {σ : zS} {x1 : Int64} {x3 : Int64} {r : Int32} (C : zC cX5_isBeforeInFirstKey 5 (some .boolean) RX5 κ A p s m args meth c) (h : zH wC κ A s σ H locs) (hl : lv_has ls 5 [(0, .ref (κ.2.1 4)), (1, .long x1), (3, .long x3)]) (hf : fX5_isBeforeInFirstKey_0 n (κ.2.2.2 0) (κ.2.2.2 1) (κ.2.2.2 2) σ x1 x3 = some r) : W p l e rmX5_isBeforeInFirstKey s m args below meth c H locs 0 0 (MQ below (zQi wC κ A r σ) args s 0 0 A) (F0 m 0 ls []) := by
  unfold fX5_isBeforeInFirstKey_0 at hf
  refine lv_aload_n C.ex C.by dX5_isBeforeInFirstKey_0 rfl (lv_at hl 0 rfl) ?_
  refine z_get (v := .int (zI σ 8)) C h iwX5 4 (wC_at4 κ _) rfl 3 (by decide) lkC65 rfl dX5_isBeforeInFirstKey_1 ?_
  refine lv_if_le (tgt := 38) C.ex C.by dX5_isBeforeInFirstKey_4 (by decide) (fun c1 => ?_) (fun c1 => ?_)
  · have hf := zif_t c1 hf
    exact wX5_isBeforeInFirstKey_38 C h hl hf
  · have hf := zif_f c1 hf
    refine lv_aload_n C.ex C.by dX5_isBeforeInFirstKey_7 rfl (lv_at hl 0 rfl) ?_
    refine z_get (v := .ref (κ.2.1 6)) C h iwX5 4 (wC_at4 κ _) rfl 2 (by decide) lkC68 rfl dX5_isBeforeInFirstKey_8 ?_
    refine z_alen (t0 := 2) C h 6 (wC_at6 κ _) rfl dX5_isBeforeInFirstKey_11 ?_
    refine lv_if_le (tgt := 38) C.ex C.by dX5_isBeforeInFirstKey_12 (by decide) (fun c2 => ?_) (fun c2 => ?_)
    · have hf := zif_t c2 hf
      exact wX5_isBeforeInFirstKey_38 C h hl hf
    · have hf := zif_f c2 hf
      refine lv_aload_n C.ex C.by dX5_isBeforeInFirstKey_15 rfl (lv_at hl 0 rfl) ?_
      refine z_get (v := .ref (κ.2.1 6)) C h iwX5 4 (wC_at4 κ _) rfl 2 (by decide) lkC68 rfl dX5_isBeforeInFirstKey_16 ?_
      refine lv_iconst (v := 0) C.ex C.by dX5_isBeforeInFirstKey_19 (by decide) ?_
      obtain ⟨h3, hf⟩ := zg_some hf
      refine z_zald (f := (zA σ 2)) C h 6 (wC_at6 κ _) h3 dX5_isBeforeInFirstKey_20 ?_
      refine lv_if_eq (tgt := 38) C.ex C.by dX5_isBeforeInFirstKey_21 (by decide) (fun c4 => ?_) (fun c4 => ?_)
      · have hf := zif_t c4 hf
        exact wX5_isBeforeInFirstKey_38 C h hl hf
      · have hf := zif_f c4 hf
        refine lv_lload_n C.ex C.by dX5_isBeforeInFirstKey_24 rfl (lv_at hl 1 rfl) ?_
        refine lv_lload_n C.ex C.by dX5_isBeforeInFirstKey_25 rfl (lv_at hl 2 rfl) ?_
        refine W.lcmp C.ex C.by dX5_isBeforeInFirstKey_26 ?_
        refine lv_if_le (tgt := 34) C.ex C.by dX5_isBeforeInFirstKey_27 (by decide) (fun c5 => ?_) (fun c5 => ?_)
        · have hf := zif_t c5 hf
          refine lv_iconst (v := 0) C.ex C.by dX5_isBeforeInFirstKey_34 (by decide) ?_
          refine lv_goto (tgt := 49) C.ex C.by dX5_isBeforeInFirstKey_35 (by decide) ?_
          cases hf
          exact z_zret (r := 0) C h rfl dX5_isBeforeInFirstKey_49
        · have hf := zif_f c5 hf
          refine lv_iconst (v := 1) C.ex C.by dX5_isBeforeInFirstKey_30 (by decide) ?_
          refine lv_goto (tgt := 49) C.ex C.by dX5_isBeforeInFirstKey_31 (by decide) ?_
          cases hf
          exact z_zret (r := 1) C h rfl dX5_isBeforeInFirstKey_49
theorem ctX5_isBeforeInFirstKey {l : Launch} {κ : zG} {n : Nat} {σ : zS} {x1 : Int64} {x3 : Int64} {r : Int32} (hf : fX5_isBeforeInFirstKey_0 n (κ.2.2.2 0) (κ.2.2.2 1) (κ.2.2.2 2) σ x1 x3 = some r) : zMi l yX5_isBeforeInFirstKey (Cond.code yX5_isBeforeInFirstKey cX5_isBeforeInFirstKey 5 (some .boolean)) rmX5_isBeforeInFirstKey wC κ [.ref (κ.2.1 4), .long x1, .long x3] σ r σ :=
  zMi_of (by decide) (Nat.le_of_ble_eq_true rfl) (fun p e s m below meth c A C h ls hl => wX5_isBeforeInFirstKey_0 C h hl hf)
theorem hdX0_freeBlocks : yX0_freeBlocks.cls = RX0 ∧ yX0_freeBlocks.cls ≠ "java/lang/invoke/MethodHandle" ∧ yX0_freeBlocks.cls ≠ "java/lang/invoke/VarHandle" ∧ (parseMethodDescriptor yX0_freeBlocks.desc).map (fun d => d.parameters.length) = some 0 := by decide +kernel
abbrev rmX0_freeBlocks : Room := { frames := 0, cells := 0, slots := 0, locals := 0 }
set_option maxRecDepth 20000 in
set_option maxHeartbeats 4000000 in
theorem wX0_freeBlocks_L4_28 {p : Program} {l : Launch} {e : Env} {s : State} {m : MethodId} {args : Array Value} {below : List Frame} {meth : Method} {c : Code} {A : Nat → Prop} {κ : zG} {H : Heap} {locs : List Loc} {ls : Array Slot} {Q : State → Prop} {n : Nat} {σ : zS} {x2 : Int32} {y0 : Int32} {y1 : Int32} {r : (Int32 × Int32) ⊕ (Int32)} (C : zC cX0_freeBlocks 3 (some .int) RX0 κ A p s m args meth c) (h : zH wC κ A s σ H locs) (hl : lv_has ls 3 [(0, .ref (κ.2.1 1)), (2, .int x2)]) (hf : fX0_freeBlocks_L4_28 n (κ.2.2.2 0) (κ.2.2.2 1) (κ.2.2.2 2) σ x2 y0 y1 = some r) (Kc : ∀ (v1 : Int32) (v2 : Int32), r = .inl (v1, v2) → ∀ (H : Heap) (locs : List Loc) (ls : Array Slot), zH wC κ A s σ H locs → lv_has ls 3 [(0, .ref (κ.2.1 1)), (1, .int v1), (2, .int v2)] → W p l e rmX0_freeBlocks s m args below meth c H locs 0 0 Q (F0 m 4 ls [])) (Ke0 : ∀ (v1 : Int32), r = .inr v1 → ∀ (H : Heap) (locs : List Loc) (ls : Array Slot), zH wC κ A s σ H locs → lv_has ls 3 [(0, .ref (κ.2.1 1)), (1, .int v1)] → W p l e rmX0_freeBlocks s m args below meth c H locs 0 0 Q (F0 m 36 ls [])) : W p l e rmX0_freeBlocks s m args below meth c H locs 0 0 Q (F0 m 28 ls [.int y0, .int y1]) := by
  unfold fX0_freeBlocks_L4_28 at hf
  refine lv_iadd C.ex C.by dX0_freeBlocks_28 ?_
  refine lv_istore_n (lv' := [(1, .int (y1 + y0)), (0, .ref (κ.2.1 1)), (2, .int x2)]) C.ex C.by dX0_freeBlocks_29 rfl hl (by decide) rfl (fun ls hl => ?_)
  refine lv_iinc (v := (x2 + 1)) (lv' := [(2, .int (x2 + 1)), (1, .int (y1 + y0)), (0, .ref (κ.2.1 1))]) C.ex C.by dX0_freeBlocks_30 hl (k := 2) rfl rfl (by decide) rfl (fun ls hl => ?_)
  refine lv_goto (tgt := 4) C.ex C.by dX0_freeBlocks_33 (by decide) ?_
  exact Kc _ _ (Option.some.inj hf).symm _ _ _ h (lv_sub hl [2, 1, 0] rfl)
set_option maxRecDepth 20000 in
set_option maxHeartbeats 4000000 in
theorem wX0_freeBlocks_L4_4 {p : Program} {l : Launch} {e : Env} {s : State} {m : MethodId} {args : Array Value} {below : List Frame} {meth : Method} {c : Code} {A : Nat → Prop} {κ : zG} {H : Heap} {locs : List Loc} {ls : Array Slot} {Q : State → Prop} {n : Nat} {σ : zS} {a : Int32 × Int32} {r : (Int32 × Int32) ⊕ (Int32)} (C : zC cX0_freeBlocks 3 (some .int) RX0 κ A p s m args meth c) (h : zH wC κ A s σ H locs) (hl : lv_has ls 3 [(0, .ref (κ.2.1 1)), (1, .int a.1), (2, .int a.2)]) (hf : fX0_freeBlocks_L4_4 n (κ.2.2.2 0) (κ.2.2.2 1) (κ.2.2.2 2) σ a = some r) (Kc : ∀ (v1 : Int32) (v2 : Int32), r = .inl (v1, v2) → ∀ (H : Heap) (locs : List Loc) (ls : Array Slot), zH wC κ A s σ H locs → lv_has ls 3 [(0, .ref (κ.2.1 1)), (1, .int v1), (2, .int v2)] → W p l e rmX0_freeBlocks s m args below meth c H locs 0 0 Q (F0 m 4 ls [])) (Ke0 : ∀ (v1 : Int32), r = .inr v1 → ∀ (H : Heap) (locs : List Loc) (ls : Array Slot), zH wC κ A s σ H locs → lv_has ls 3 [(0, .ref (κ.2.1 1)), (1, .int v1)] → W p l e rmX0_freeBlocks s m args below meth c H locs 0 0 Q (F0 m 36 ls [])) : W p l e rmX0_freeBlocks s m args below meth c H locs 0 0 Q (F0 m 4 ls []) := by
  unfold fX0_freeBlocks_L4_4 at hf
  refine lv_iload_n C.ex C.by dX0_freeBlocks_4 rfl (lv_at hl 2 rfl) ?_
  refine lv_aload_n C.ex C.by dX0_freeBlocks_5 rfl (lv_at hl 0 rfl) ?_
  refine z_get (v := .ref (κ.2.1 3)) C h iwX0 1 (wC_at1 κ _) rfl 2 (by decide) lkC124 rfl dX0_freeBlocks_6 ?_
  refine z_alen (t0 := 2) C h 3 (wC_at3 κ _) rfl dX0_freeBlocks_9 ?_
  refine lv_icmp_ge (tgt := 36) C.ex C.by dX0_freeBlocks_10 (by decide) (fun c1 => ?_) (fun c1 => ?_)
  · have hf := zif_t c1 hf
    exact Ke0 _ (Option.some.inj hf).symm _ _ _ h (lv_sub hl [0, 1] rfl)
  · have hf := zif_f c1 hf
    refine lv_iload_n C.ex C.by dX0_freeBlocks_13 rfl (lv_at hl 1 rfl) ?_
    refine lv_aload_n C.ex C.by dX0_freeBlocks_14 rfl (lv_at hl 0 rfl) ?_
    refine z_get (v := .ref (κ.2.1 3)) C h iwX0 1 (wC_at1 κ _) rfl 2 (by decide) lkC124 rfl dX0_freeBlocks_15 ?_
    refine lv_iload_n C.ex C.by dX0_freeBlocks_18 rfl (lv_at hl 2 rfl) ?_
    obtain ⟨h2, hf⟩ := zg_some hf
    refine z_zald (f := (zA σ 0)) C h 3 (wC_at3 κ _) h2 dX0_freeBlocks_19 ?_
    refine lv_if_eq (tgt := 27) C.ex C.by dX0_freeBlocks_20 (by decide) (fun c3 => ?_) (fun c3 => ?_)
    · have hf := zif_t c3 hf
      refine lv_iconst (v := 1) C.ex C.by dX0_freeBlocks_27 (by decide) ?_
      exact wX0_freeBlocks_L4_28 C h (lv_sub hl [0, 2] rfl) hf Kc Ke0
    · have hf := zif_f c3 hf
      refine lv_iconst (v := 0) C.ex C.by dX0_freeBlocks_23 (by decide) ?_
      refine lv_goto (tgt := 28) C.ex C.by dX0_freeBlocks_24 (by decide) ?_
      exact wX0_freeBlocks_L4_28 C h (lv_sub hl [0, 2] rfl) hf Kc Ke0
theorem wlX0_freeBlocks_4 {p : Program} {l : Launch} {e : Env} {s : State} {m : MethodId} {args : Array Value} {below : List Frame} {meth : Method} {c : Code} {A : Nat → Prop} {κ : zG} {H : Heap} {locs : List Loc} {ls : Array Slot} {Q : State → Prop} {n : Nat} {σ : zS} {k0 : Nat} {u1 : Int32} {u2 : Int32} (C : zC cX0_freeBlocks 3 (some .int) RX0 κ A p s m args meth c) (h : zH wC κ A s σ H locs) (hl : lv_has ls 3 [(0, .ref (κ.2.1 1)), (1, .int u1), (2, .int u2)]) (b : Int32) (hb : zlp (fX0_freeBlocks_L4_4 n (κ.2.2.2 0) (κ.2.2.2 1) (κ.2.2.2 2) σ) k0 (u1, u2) = some b) (K : (fun b : Int32 => ∀ (H : Heap) (locs : List Loc) (ls : Array Slot), zH wC κ A s σ H locs → lv_has ls 3 [(0, .ref (κ.2.1 1)), (1, .int b)] → W p l e rmX0_freeBlocks s m args below meth c H locs 0 0 Q (F0 m 36 ls [])) b) : W p l e rmX0_freeBlocks s m args below meth c H locs 0 0 Q (F0 m 4 ls []) :=
  z_loop (body := fX0_freeBlocks_L4_4 n (κ.2.2.2 0) (κ.2.2.2 1) (κ.2.2.2 2) σ) (Wd := (fun a : Int32 × Int32 => ∀ (H : Heap) (locs : List Loc) (ls : Array Slot), zH wC κ A s σ H locs → lv_has ls 3 [(0, .ref (κ.2.1 1)), (1, .int a.1), (2, .int a.2)] → W p l e rmX0_freeBlocks s m args below meth c H locs 0 0 Q (F0 m 4 ls []))) (Ex := (fun b : Int32 => (fun b : Int32 => ∀ (H : Heap) (locs : List Loc) (ls : Array Slot), zH wC κ A s σ H locs → lv_has ls 3 [(0, .ref (κ.2.1 1)), (1, .int b)] → W p l e rmX0_freeBlocks s m args below meth c H locs 0 0 Q (F0 m 36 ls [])) b)) (fun a r hr Kc Ke H locs ls h hl => wX0_freeBlocks_L4_4 C h hl hr (fun v1 v2 e => Kc (v1, v2) e) (fun v1 e => Ke v1 e)) k0 (u1, u2) b hb K H locs ls h hl
set_option maxRecDepth 20000 in
set_option maxHeartbeats 4000000 in
theorem wX0_freeBlocks_0 {p : Program} {l : Launch} {e : Env} {s : State} {m : MethodId} {args : Array Value} {below : List Frame} {meth : Method} {c : Code} {A : Nat → Prop} {κ : zG} {H : Heap} {locs : List Loc} {ls : Array Slot} {n : Nat} {σ : zS} {r : Int32} (C : zC cX0_freeBlocks 3 (some .int) RX0 κ A p s m args meth c) (h : zH wC κ A s σ H locs) (hl : lv_has ls 3 [(0, .ref (κ.2.1 1))]) (hf : fX0_freeBlocks_0 n (κ.2.2.2 0) (κ.2.2.2 1) (κ.2.2.2 2) σ = some r) : W p l e rmX0_freeBlocks s m args below meth c H locs 0 0 (MQ below (zQi wC κ A r σ) args s 0 0 A) (F0 m 0 ls []) := by
  unfold fX0_freeBlocks_0 at hf
  refine lv_iconst (v := 0) C.ex C.by dX0_freeBlocks_0 (by decide) ?_
  refine lv_istore_n (lv' := [(1, .int 0), (0, .ref (κ.2.1 1))]) C.ex C.by dX0_freeBlocks_1 rfl hl (by decide) rfl (fun ls hl => ?_)
  refine lv_iconst (v := 0) C.ex C.by dX0_freeBlocks_2 (by decide) ?_
  refine lv_istore_n (lv' := [(2, .int 0), (1, .int 0), (0, .ref (κ.2.1 1))]) C.ex C.by dX0_freeBlocks_3 rfl hl (by decide) rfl (fun ls hl => ?_)
  obtain ⟨b4, e5, hf⟩ := zb_some hf
  refine wlX0_freeBlocks_4 C h (lv_sub hl [2, 1, 0] rfl) b4 e5 ?_
  intro H locs ls h hl
  refine lv_iload_n C.ex C.by dX0_freeBlocks_36 rfl (lv_at hl 1 rfl) ?_
  cases hf
  exact z_iret C h dX0_freeBlocks_37
theorem ctX0_freeBlocks {l : Launch} {κ : zG} {n : Nat} {σ : zS} {r : Int32} (hf : fX0_freeBlocks_0 n (κ.2.2.2 0) (κ.2.2.2 1) (κ.2.2.2 2) σ = some r) : zMi l yX0_freeBlocks (Cond.code yX0_freeBlocks cX0_freeBlocks 3 (some .int)) rmX0_freeBlocks wC κ [.ref (κ.2.1 1)] σ r σ :=
  zMi_of (by decide) (Nat.le_of_ble_eq_true rfl) (fun p e s m below meth c A C h ls hl => wX0_freeBlocks_0 C h hl hf)
theorem hdX8_goUp : yX8_goUp.cls = RX8 ∧ yX8_goUp.cls ≠ "java/lang/invoke/MethodHandle" ∧ yX8_goUp.cls ≠ "java/lang/invoke/VarHandle" ∧ (parseMethodDescriptor yX8_goUp.desc).map (fun d => d.parameters.length) = some 0 := by decide +kernel
abbrev rmX8_goUp : Room := { frames := 0, cells := 0, slots := 0, locals := 0 }
set_option maxRecDepth 20000 in
set_option maxHeartbeats 4000000 in
theorem wX8_goUp_L19_19 {p : Program} {l : Launch} {e : Env} {s : State} {m : MethodId} {args : Array Value} {below : List Frame} {meth : Method} {c : Code} {A : Nat → Prop} {κ : zG} {H : Heap} {locs : List Loc} {ls : Array Slot} {Q : State → Prop} {n : Nat} {k1 : Int32} {a : Int32 × zS} {r : (Int32 × zS) ⊕ (zS)} (C : zC cX8_goUp 3 none RX8 κ A p s m args meth c) (h : zH wC κ A s a.2 H locs) (hl : lv_has ls 3 [(0, .ref (κ.2.1 29)), (1, .int k1), (2, .int a.1)]) (hf : fX8_goUp_L19_19 n (κ.2.2.2 0) (κ.2.2.2 1) (κ.2.2.2 2) k1 a = some r) (Kc : ∀ (v2 : Int32) (σ1 : zS), r = .inl (v2, σ1) → ∀ (H : Heap) (locs : List Loc) (ls : Array Slot), zH wC κ A s σ1 H locs → lv_has ls 3 [(0, .ref (κ.2.1 29)), (1, .int k1), (2, .int v2)] → W p l e rmX8_goUp s m args below meth c H locs 0 0 Q (F0 m 19 ls [])) (Ke0 : ∀ (σ1 : zS), r = .inr σ1 → ∀ (H : Heap) (locs : List Loc) (ls : Array Slot), zH wC κ A s σ1 H locs → lv_has ls 3 [(0, .ref (κ.2.1 29))] → W p l e rmX8_goUp s m args below meth c H locs 0 0 Q (F0 m 78 ls [])) : W p l e rmX8_goUp s m args below meth c H locs 0 0 Q (F0 m 19 ls []) := by
  unfold fX8_goUp_L19_19 at hf
  refine lv_iload_n C.ex C.by dX8_goUp_19 rfl (lv_at hl 2 rfl) ?_
  refine lv_aload_n C.ex C.by dX8_goUp_20 rfl (lv_at hl 0 rfl) ?_
  refine z_get (v := .int (zI a.2 30)) C h iwX8 29 (wC_at29 κ _) rfl 3 (by decide) lkC277 rfl dX8_goUp_21 ?_
  refine lv_icmp_ge (tgt := 78) C.ex C.by dX8_goUp_24 (by decide) (fun c2 => ?_) (fun c2 => ?_)
  · have hf := zif_t c2 hf
    exact Ke0 _ (Option.some.inj hf).symm _ _ _ h (lv_sub hl [0] rfl)
  · have hf := zif_f c2 hf
    refine lv_iload_n C.ex C.by dX8_goUp_27 rfl (lv_at hl 2 rfl) ?_
    refine lv_bipush (v := 6) C.ex C.by dX8_goUp_28 (by decide) ?_
    refine lv_icmp_ge (tgt := 78) C.ex C.by dX8_goUp_30 (by decide) (fun c3 => ?_) (fun c3 => ?_)
    · have hf := zif_t c3 hf
      exact Ke0 _ (Option.some.inj hf).symm _ _ _ h (lv_sub hl [0] rfl)
    · have hf := zif_f c3 hf
      refine lv_aload_n C.ex C.by dX8_goUp_33 rfl (lv_at hl 0 rfl) ?_
      refine z_get (v := .ref (κ.2.1 32)) C h iwX8 29 (wC_at29 κ _) rfl 2 (by decide) lkC285 rfl dX8_goUp_34 ?_
      refine lv_iload_n C.ex C.by dX8_goUp_37 rfl (lv_at hl 2 rfl) ?_
      refine lv_iload_n C.ex C.by dX8_goUp_38 rfl (lv_at hl 1 rfl) ?_
      refine lv_aload_n C.ex C.by dX8_goUp_39 rfl (lv_at hl 0 rfl) ?_
      refine z_get (v := .ref (κ.2.1 31)) C h iwX8 29 (wC_at29 κ _) rfl 1 (by decide) lkC278 rfl dX8_goUp_40 ?_
      refine lv_iload_n C.ex C.by dX8_goUp_43 rfl (lv_at hl 2 rfl) ?_
      refine lv_iconst (v := 1) C.ex C.by dX8_goUp_44 (by decide) ?_
      refine lv_iadd C.ex C.by dX8_goUp_45 ?_
      obtain ⟨h4, hf⟩ := zg_some hf
      refine z_iald (f := (zA a.2 14)) C h 31 (wC_at31 κ _) h4 dX8_goUp_46 ?_
      refine lv_iadd C.ex C.by dX8_goUp_47 ?_
      refine lv_aload_n C.ex C.by dX8_goUp_48 rfl (lv_at hl 0 rfl) ?_
      refine z_get (v := .ref (κ.2.1 31)) C h iwX8 29 (wC_at29 κ _) rfl 1 (by decide) lkC278 rfl dX8_goUp_49 ?_
      refine lv_iload_n C.ex C.by dX8_goUp_52 rfl (lv_at hl 2 rfl) ?_
      obtain ⟨h5, hf⟩ := zg_some hf
      refine z_iald (f := (zA a.2 14)) C h 31 (wC_at31 κ _) h5 dX8_goUp_53 ?_
      refine lv_isub C.ex C.by dX8_goUp_54 ?_
      obtain ⟨h6, hf⟩ := zg_some hf
      refine z_iast (f := (zA a.2 15)) C h 32 (wC_at32 κ _) h6 (sA a.2 15 (upd (zA a.2 15) (Int32.toNatClampNeg a.1) ((k1 + ((zA a.2 14) (Int32.toNatClampNeg (a.1 + 1)))) - ((zA a.2 14) (Int32.toNatClampNeg a.1))))) (wC_s32 κ _ _) dX8_goUp_55 (fun H locs h => ?_)
      refine lv_aload_n C.ex C.by dX8_goUp_56 rfl (lv_at hl 0 rfl) ?_
      refine z_get (v := .ref (κ.2.1 31)) C h iwX8 29 (wC_at29 κ _) rfl 1 (by decide) lkC278 rfl dX8_goUp_57 ?_
      refine lv_iload_n C.ex C.by dX8_goUp_60 rfl (lv_at hl 2 rfl) ?_
      refine lv_iload_n C.ex C.by dX8_goUp_61 rfl (lv_at hl 1 rfl) ?_
      refine lv_aload_n C.ex C.by dX8_goUp_62 rfl (lv_at hl 0 rfl) ?_
      refine z_get (v := .ref (κ.2.1 31)) C h iwX8 29 (wC_at29 κ _) rfl 1 (by decide) lkC278 rfl dX8_goUp_63 ?_
      refine lv_iload_n C.ex C.by dX8_goUp_66 rfl (lv_at hl 2 rfl) ?_
      refine lv_iconst (v := 1) C.ex C.by dX8_goUp_67 (by decide) ?_
      refine lv_iadd C.ex C.by dX8_goUp_68 ?_
      obtain ⟨h7, hf⟩ := zg_some hf
      refine z_iald (f := (zA a.2 14)) C h 31 (wC_at31 κ _) h7 dX8_goUp_69 ?_
      refine lv_iadd C.ex C.by dX8_goUp_70 ?_
      obtain ⟨h8, hf⟩ := zg_some hf
      refine z_iast (f := (zA a.2 14)) C h 31 (wC_at31 κ _) h8 (sA (sA a.2 15 (upd (zA a.2 15) (Int32.toNatClampNeg a.1) ((k1 + ((zA a.2 14) (Int32.toNatClampNeg (a.1 + 1)))) - ((zA a.2 14) (Int32.toNatClampNeg a.1))))) 14 (upd (zA a.2 14) (Int32.toNatClampNeg a.1) (k1 + ((zA a.2 14) (Int32.toNatClampNeg (a.1 + 1)))))) (wC_s31 κ _ _) dX8_goUp_71 (fun H locs h => ?_)
      refine lv_iinc (v := (a.1 + 1)) (lv' := [(2, .int (a.1 + 1)), (0, .ref (κ.2.1 29)), (1, .int k1)]) C.ex C.by dX8_goUp_72 hl (k := 2) rfl rfl (by decide) rfl (fun ls hl => ?_)
      refine lv_goto (tgt := 19) C.ex C.by dX8_goUp_75 (by decide) ?_
      exact Kc _ _ (Option.some.inj hf).symm _ _ _ h (lv_sub hl [1, 2, 0] rfl)
theorem wlX8_goUp_19 {p : Program} {l : Launch} {e : Env} {s : State} {m : MethodId} {args : Array Value} {below : List Frame} {meth : Method} {c : Code} {A : Nat → Prop} {κ : zG} {H : Heap} {locs : List Loc} {ls : Array Slot} {Q : State → Prop} {n : Nat} {k1 : Int32} {k0 : Nat} {u2 : Int32} {σ1 : zS} (C : zC cX8_goUp 3 none RX8 κ A p s m args meth c) (h : zH wC κ A s σ1 H locs) (hl : lv_has ls 3 [(0, .ref (κ.2.1 29)), (1, .int k1), (2, .int u2)]) (b : zS) (hb : zlp (fX8_goUp_L19_19 n (κ.2.2.2 0) (κ.2.2.2 1) (κ.2.2.2 2) k1) k0 (u2, σ1) = some b) (K : (fun b : zS => ∀ (H : Heap) (locs : List Loc) (ls : Array Slot), zH wC κ A s b H locs → lv_has ls 3 [(0, .ref (κ.2.1 29))] → W p l e rmX8_goUp s m args below meth c H locs 0 0 Q (F0 m 78 ls [])) b) : W p l e rmX8_goUp s m args below meth c H locs 0 0 Q (F0 m 19 ls []) :=
  z_loop (body := fX8_goUp_L19_19 n (κ.2.2.2 0) (κ.2.2.2 1) (κ.2.2.2 2) k1) (Wd := (fun a : Int32 × zS => ∀ (H : Heap) (locs : List Loc) (ls : Array Slot), zH wC κ A s a.2 H locs → lv_has ls 3 [(0, .ref (κ.2.1 29)), (1, .int k1), (2, .int a.1)] → W p l e rmX8_goUp s m args below meth c H locs 0 0 Q (F0 m 19 ls []))) (Ex := (fun b : zS => (fun b : zS => ∀ (H : Heap) (locs : List Loc) (ls : Array Slot), zH wC κ A s b H locs → lv_has ls 3 [(0, .ref (κ.2.1 29))] → W p l e rmX8_goUp s m args below meth c H locs 0 0 Q (F0 m 78 ls [])) b)) (fun a r hr Kc Ke H locs ls h hl => wX8_goUp_L19_19 C h hl hr (fun v2 σ1 e => Kc (v2, σ1) e) (fun σ1 e => Ke σ1 e)) k0 (u2, σ1) b hb K H locs ls h hl
set_option maxRecDepth 20000 in
set_option maxHeartbeats 4000000 in
theorem wX8_goUp_0 {p : Program} {l : Launch} {e : Env} {s : State} {m : MethodId} {args : Array Value} {below : List Frame} {meth : Method} {c : Code} {A : Nat → Prop} {κ : zG} {H : Heap} {locs : List Loc} {ls : Array Slot} {n : Nat} {σ : zS} {r : zS} (C : zC cX8_goUp 3 none RX8 κ A p s m args meth c) (h : zH wC κ A s σ H locs) (hl : lv_has ls 3 [(0, .ref (κ.2.1 29))]) (hf : fX8_goUp_0 n (κ.2.2.2 0) (κ.2.2.2 1) (κ.2.2.2 2) σ = some r) : W p l e rmX8_goUp s m args below meth c H locs 0 0 (MQ below (zQv wC κ A r) args s 0 0 A) (F0 m 0 ls []) := by
  unfold fX8_goUp_0 at hf
  refine lv_aload_n C.ex C.by dX8_goUp_0 rfl (lv_at hl 0 rfl) ?_
  refine lv_dup C.ex C.by dX8_goUp_1 rfl ?_
  refine z_get (v := .int (zI σ 31)) C h iwX8 29 (wC_at29 κ _) rfl 4 (by decide) lkC326 rfl dX8_goUp_2 ?_
  refine lv_iconst (v := 1) C.ex C.by dX8_goUp_5 (by decide) ?_
  refine lv_iadd C.ex C.by dX8_goUp_6 ?_
  refine z_put C h iwX8 tyX8_ok nmX8 29 (wC_at29 κ _) rfl 4 (by decide) lkC326 rfl rfl rfl (Nat.le_of_ble_eq_true rfl) (sI σ 31 ((zI σ 31) + 1)) (wC_s29_4 κ _ _) dX8_goUp_7 (fun H locs h => ?_)
  refine lv_aload_n C.ex C.by dX8_goUp_10 rfl (lv_at hl 0 rfl) ?_
  refine z_get (v := .ref (κ.2.1 31)) C h iwX8 29 (wC_at29 κ _) rfl 1 (by decide) lkC278 rfl dX8_goUp_11 ?_
  refine lv_iconst (v := 1) C.ex C.by dX8_goUp_14 (by decide) ?_
  obtain ⟨h1, hf⟩ := zg_some hf
  refine z_iald (f := (zA σ 14)) C h 31 (wC_at31 κ _) h1 dX8_goUp_15 ?_
  refine lv_istore_n (lv' := [(1, .int ((zA σ 14) (Int32.toNatClampNeg 1))), (0, .ref (κ.2.1 29))]) C.ex C.by dX8_goUp_16 rfl hl (by decide) rfl (fun ls hl => ?_)
  refine lv_iconst (v := 1) C.ex C.by dX8_goUp_17 (by decide) ?_
  refine lv_istore_n (lv' := [(2, .int 1), (1, .int ((zA σ 14) (Int32.toNatClampNeg 1))), (0, .ref (κ.2.1 29))]) C.ex C.by dX8_goUp_18 rfl hl (by decide) rfl (fun ls hl => ?_)
  obtain ⟨b9, e10, hf⟩ := zb_some hf
  refine wlX8_goUp_19 C h (lv_sub hl [2, 1, 0] rfl) b9 e10 ?_
  intro H locs ls h hl
  cases hf
  exact z_vret C h dX8_goUp_78
theorem ctX8_goUp {l : Launch} {κ : zG} {n : Nat} {σ : zS} {r : zS} (hf : fX8_goUp_0 n (κ.2.2.2 0) (κ.2.2.2 1) (κ.2.2.2 2) σ = some r) : zMv l yX8_goUp (Cond.code yX8_goUp cX8_goUp 3 none) rmX8_goUp wC κ [.ref (κ.2.1 29)] σ r :=
  zMv_of (by decide) (Nat.le_of_ble_eq_true rfl) (fun p e s m below meth c A C h ls hl => wX8_goUp_0 C h hl hf)
theorem hdX8_tapeBehind : yX8_tapeBehind.cls = RX8 ∧ yX8_tapeBehind.cls ≠ "java/lang/invoke/MethodHandle" ∧ yX8_tapeBehind.cls ≠ "java/lang/invoke/VarHandle" ∧ (parseMethodDescriptor yX8_tapeBehind.desc).map (fun d => d.parameters.length) = some 1 := by decide +kernel
abbrev rmX8_tapeBehind : Room := { frames := 1, cells := 0, slots := 0, locals := 22 }
set_option maxRecDepth 20000 in
set_option maxHeartbeats 4000000 in
theorem wX8_tapeBehind_0 {p : Program} {l : Launch} {e : Env} {s : State} {m : MethodId} {args : Array Value} {below : List Frame} {meth : Method} {c : Code} {A : Nat → Prop} {κ : zG} {H : Heap} {locs : List Loc} {ls : Array Slot} {n : Nat} {σ : zS} {x1 : Int32} {r1 : Int32} {r2 : zS} (C : zC cX8_tapeBehind 2 (some .int) RX8 κ A p s m args meth c) (h : zH wC κ A s σ H locs) (hl : lv_has ls 2 [(0, .ref (κ.2.1 29)), (1, .int x1)]) (hf : fX8_tapeBehind_0 n (κ.2.2.2 0) (κ.2.2.2 1) (κ.2.2.2 2) σ x1 = some (r1, r2)) : W p l e rmX8_tapeBehind s m args below meth c H locs 0 0 (MQ below (zQi wC κ A r1 r2) args s 0 0 A) (F0 m 0 ls []) := by
  unfold fX8_tapeBehind_0 at hf
  refine lv_iload_n C.ex C.by dX8_tapeBehind_0 rfl (lv_at hl 1 rfl) ?_
  refine lv_iconst (v := 1) C.ex C.by dX8_tapeBehind_1 (by decide) ?_
  refine lv_icmp_lt (tgt := 11) C.ex C.by dX8_tapeBehind_2 (by decide) (fun c1 => ?_) (fun c1 => ?_)
  · have hf := zif_t c1 hf
    refine lv_iconst (v := 1) C.ex C.by dX8_tapeBehind_11 (by decide) ?_
    cases hf
    exact z_iret C h dX8_tapeBehind_12
  · have hf := zif_f c1 hf
    refine lv_iload_n C.ex C.by dX8_tapeBehind_5 rfl (lv_at hl 1 rfl) ?_
    refine lv_bipush (v := 6) C.ex C.by dX8_tapeBehind_6 (by decide) ?_
    refine lv_icmp_lt (tgt := 13) C.ex C.by dX8_tapeBehind_8 (by decide) (fun c2 => ?_) (fun c2 => ?_)
    · have hf := zif_t c2 hf
      refine lv_aload_n C.ex C.by dX8_tapeBehind_13 rfl (lv_at hl 0 rfl) ?_
      refine z_get (v := .ref (κ.2.1 32)) C h iwX8 29 (wC_at29 κ _) rfl 2 (by decide) lkC285 rfl dX8_tapeBehind_14 ?_
      refine lv_iload_n C.ex C.by dX8_tapeBehind_17 rfl (lv_at hl 1 rfl) ?_
      obtain ⟨h3, hf⟩ := zg_some hf
      refine z_iald (f := (zA σ 15)) C h 32 (wC_at32 κ _) h3 dX8_tapeBehind_18 ?_
      refine lv_aload_n C.ex C.by dX8_tapeBehind_19 rfl (lv_at hl 0 rfl) ?_
      refine z_get (v := .ref (κ.2.1 32)) C h iwX8 29 (wC_at29 κ _) rfl 2 (by decide) lkC285 rfl dX8_tapeBehind_20 ?_
      refine lv_iload_n C.ex C.by dX8_tapeBehind_23 rfl (lv_at hl 1 rfl) ?_
      refine lv_iconst (v := 1) C.ex C.by dX8_tapeBehind_24 (by decide) ?_
      refine lv_iadd C.ex C.by dX8_tapeBehind_25 ?_
      obtain ⟨h4, hf⟩ := zg_some hf
      refine z_iald (f := (zA σ 15)) C h 32 (wC_at32 κ _) h4 dX8_tapeBehind_26 ?_
      refine lv_icmp_ge (tgt := 34) C.ex C.by dX8_tapeBehind_27 (by decide) (fun c5 => ?_) (fun c5 => ?_)
      · have hf := zif_t c5 hf
        refine lv_aload_n C.ex C.by dX8_tapeBehind_34 rfl (lv_at hl 0 rfl) ?_
        refine z_get (v := .ref (κ.2.1 32)) C h iwX8 29 (wC_at29 κ _) rfl 2 (by decide) lkC285 rfl dX8_tapeBehind_35 ?_
        refine lv_iload_n C.ex C.by dX8_tapeBehind_38 rfl (lv_at hl 1 rfl) ?_
        obtain ⟨h6, hf⟩ := zg_some hf
        refine z_iald (f := (zA σ 15)) C h 32 (wC_at32 κ _) h6 dX8_tapeBehind_39 ?_
        refine lv_if_ne (tgt := 47) C.ex C.by dX8_tapeBehind_40 (by decide) (fun c7 => ?_) (fun c7 => ?_)
        · have hf := zif_f c7 hf
          refine lv_iconst (v := 1) C.ex C.by dX8_tapeBehind_47 (by decide) ?_
          cases hf
          exact z_iret C h dX8_tapeBehind_48
        · have hf := zif_t c7 hf
          refine lv_aload_n C.ex C.by dX8_tapeBehind_43 rfl (lv_at hl 0 rfl) ?_
          obtain ⟨q8, e9, hf⟩ := zb_some hf
          refine z_callVv (As := []) C h (ctX8_goUp e9) (zgV lkC328 lkC329 lkC330 lkC282 lkC331) ⟨rfl, rfl⟩ hdX8_goUp ⟨Nat.le_of_ble_eq_true rfl, Nat.le_of_ble_eq_true rfl⟩ 29 (wC_at29 κ _) rfl hl rfl rfl (Nat.le_of_ble_eq_true rfl) dX8_tapeBehind_44 ⟨Nat.zero_le _, Nat.zero_le _⟩ (fun H locs h => ?_)
          refine lv_iconst (v := 1) C.ex C.by dX8_tapeBehind_47 (by decide) ?_
          cases hf
          exact z_iret C h dX8_tapeBehind_48
      · have hf := zif_f c5 hf
        refine lv_iload_n C.ex C.by dX8_tapeBehind_30 rfl (lv_at hl 1 rfl) ?_
        refine lv_iconst (v := 1) C.ex C.by dX8_tapeBehind_31 (by decide) ?_
        refine lv_iadd C.ex C.by dX8_tapeBehind_32 ?_
        cases hf
        exact z_iret C h dX8_tapeBehind_33
    · have hf := zif_f c2 hf
      refine lv_iconst (v := 1) C.ex C.by dX8_tapeBehind_11 (by decide) ?_
      cases hf
      exact z_iret C h dX8_tapeBehind_12
theorem ctX8_tapeBehind {l : Launch} {κ : zG} {n : Nat} {σ : zS} {x1 : Int32} {r1 : Int32} {r2 : zS} (hf : fX8_tapeBehind_0 n (κ.2.2.2 0) (κ.2.2.2 1) (κ.2.2.2 2) σ x1 = some (r1, r2)) : zMi l yX8_tapeBehind (Cond.code yX8_tapeBehind cX8_tapeBehind 2 (some .int)) rmX8_tapeBehind wC κ [.ref (κ.2.1 29), .int x1] σ r1 r2 :=
  zMi_of (by decide) (Nat.le_of_ble_eq_true rfl) (fun p e s m below meth c A C h ls hl => wX8_tapeBehind_0 C h hl hf)
theorem hdX8_lay : yX8_lay.cls = RX8 ∧ yX8_lay.cls ≠ "java/lang/invoke/MethodHandle" ∧ yX8_lay.cls ≠ "java/lang/invoke/VarHandle" ∧ (parseMethodDescriptor yX8_lay.desc).map (fun d => d.parameters.length) = some 2 := by decide +kernel
abbrev rmX8_lay_p33 : Room := { frames := 2, cells := 0, slots := 0, locals := 43 }
set_option maxRecDepth 20000 in
set_option maxHeartbeats 4000000 in
theorem wX8_lay_p33_L18_55 {p : Program} {l : Launch} {e : Env} {s : State} {m : MethodId} {args : Array Value} {below : List Frame} {meth : Method} {c : Code} {A : Nat → Prop} {κ : zG} {H : Heap} {locs : List Loc} {ls : Array Slot} {Q : State → Prop} {n : Nat} {σ : zS} {x3 : Int32} {y0 : Int32} {y1 : Int32} {r : (Int32 × zS) ⊕ (zS)} (C : zC cX8_lay 5 none RX8 κ A p s m args meth c) (h : zH wC κ A s σ H locs) (hl : lv_has ls 5 [(0, .ref (κ.2.1 29)), (1, .ref (κ.2.1 33)), (3, .int x3)]) (hf : fX8_lay_p33_L18_55 n (κ.2.2.2 0) (κ.2.2.2 1) (κ.2.2.2 2) σ x3 y0 y1 = some r) (Kc : ∀ (v3 : Int32) (σ1 : zS), r = .inl (v3, σ1) → ∀ (H : Heap) (locs : List Loc) (ls : Array Slot), zH wC κ A s σ1 H locs → lv_has ls 5 [(0, .ref (κ.2.1 29)), (1, .ref (κ.2.1 33)), (3, .int v3)] → W p l e rmX8_lay_p33 s m args below meth c H locs 0 0 Q (F0 m 18 ls [])) (Ke0 : ∀ (σ1 : zS), r = .inr σ1 → ∀ (H : Heap) (locs : List Loc) (ls : Array Slot), zH wC κ A s σ1 H locs → lv_has ls 5 [(0, .ref (κ.2.1 29)), (1, .ref (κ.2.1 33))] → W p l e rmX8_lay_p33 s m args below meth c H locs 0 0 Q (F0 m 74 ls [])) : W p l e rmX8_lay_p33 s m args below meth c H locs 0 0 Q (F0 m 55 ls [.int y0, .int y1, .ref (κ.2.1 31)]) := by
  unfold fX8_lay_p33_L18_55 at hf
  obtain ⟨h10, hf⟩ := zg_some hf
  refine z_iast (f := (zA σ 14)) C h 31 (wC_at31 κ _) h10 (sA σ 14 (upd (zA σ 14) (Int32.toNatClampNeg y1) y0)) (wC_s31 κ _ _) dX8_lay_55 (fun H locs h => ?_)
  refine lv_aload_n C.ex C.by dX8_lay_56 rfl (lv_at hl 0 rfl) ?_
  refine z_get (v := .ref (κ.2.1 32)) C h iwX8 29 (wC_at29 κ _) rfl 2 (by decide) lkC285 rfl dX8_lay_57 ?_
  refine lv_iload_n C.ex C.by dX8_lay_60 rfl (lv_at hl 2 rfl) ?_
  refine lv_aload_n C.ex C.by dX8_lay_61 rfl (lv_at hl 0 rfl) ?_
  refine z_get (v := .ref (κ.2.1 31)) C h iwX8 29 (wC_at29 κ _) rfl 1 (by decide) lkC278 rfl dX8_lay_62 ?_
  refine lv_iload_n C.ex C.by dX8_lay_65 rfl (lv_at hl 2 rfl) ?_
  obtain ⟨h11, hf⟩ := zg_some hf
  refine z_iald (f := (upd (zA σ 14) (Int32.toNatClampNeg y1) y0)) C h 31 (wC_at31 κ _) h11 dX8_lay_66 ?_
  obtain ⟨h12, hf⟩ := zg_some hf
  refine z_iast (f := (zA σ 15)) C h 32 (wC_at32 κ _) h12 (sA (sA σ 14 (upd (zA σ 14) (Int32.toNatClampNeg y1) y0)) 15 (upd (zA σ 15) (Int32.toNatClampNeg x3) ((upd (zA σ 14) (Int32.toNatClampNeg y1) y0) (Int32.toNatClampNeg x3)))) (wC_s32 κ _ _) dX8_lay_67 (fun H locs h => ?_)
  refine lv_iinc (v := (x3 + 1)) (lv' := [(3, .int (x3 + 1)), (0, .ref (κ.2.1 29)), (1, .ref (κ.2.1 33))]) C.ex C.by dX8_lay_68 hl (k := 2) rfl rfl (by decide) rfl (fun ls hl => ?_)
  refine lv_goto (tgt := 18) C.ex C.by dX8_lay_71 (by decide) ?_
  exact Kc _ _ (Option.some.inj hf).symm _ _ _ h (lv_sub hl [1, 2, 0] rfl)
set_option maxRecDepth 20000 in
set_option maxHeartbeats 4000000 in
theorem wX8_lay_p33_L18_54 {p : Program} {l : Launch} {e : Env} {s : State} {m : MethodId} {args : Array Value} {below : List Frame} {meth : Method} {c : Code} {A : Nat → Prop} {κ : zG} {H : Heap} {locs : List Loc} {ls : Array Slot} {Q : State → Prop} {n : Nat} {σ : zS} {x3 : Int32} {y0 : Int32} {r : (Int32 × zS) ⊕ (zS)} (C : zC cX8_lay 5 none RX8 κ A p s m args meth c) (h : zH wC κ A s σ H locs) (hl : lv_has ls 5 [(0, .ref (κ.2.1 29)), (1, .ref (κ.2.1 33)), (3, .int x3)]) (hf : fX8_lay_p33_L18_54 n (κ.2.2.2 0) (κ.2.2.2 1) (κ.2.2.2 2) σ x3 y0 = some r) (Kc : ∀ (v3 : Int32) (σ1 : zS), r = .inl (v3, σ1) → ∀ (H : Heap) (locs : List Loc) (ls : Array Slot), zH wC κ A s σ1 H locs → lv_has ls 5 [(0, .ref (κ.2.1 29)), (1, .ref (κ.2.1 33)), (3, .int v3)] → W p l e rmX8_lay_p33 s m args below meth c H locs 0 0 Q (F0 m 18 ls [])) (Ke0 : ∀ (σ1 : zS), r = .inr σ1 → ∀ (H : Heap) (locs : List Loc) (ls : Array Slot), zH wC κ A s σ1 H locs → lv_has ls 5 [(0, .ref (κ.2.1 29)), (1, .ref (κ.2.1 33))] → W p l e rmX8_lay_p33 s m args below meth c H locs 0 0 Q (F0 m 74 ls [])) : W p l e rmX8_lay_p33 s m args below meth c H locs 0 0 Q (F0 m 54 ls [.int y0, .ref (κ.2.1 31)]) := by
  unfold fX8_lay_p33_L18_54 at hf
  refine lv_iconst (v := 0) C.ex C.by dX8_lay_54 (by decide) ?_
  exact wX8_lay_p33_L18_55 C h hl hf Kc Ke0
set_option maxRecDepth 20000 in
set_option maxHeartbeats 4000000 in
theorem wX8_lay_p33_L18_18 {p : Program} {l : Launch} {e : Env} {s : State} {m : MethodId} {args : Array Value} {below : List Frame} {meth : Method} {c : Code} {A : Nat → Prop} {κ : zG} {H : Heap} {locs : List Loc} {ls : Array Slot} {Q : State → Prop} {n : Nat} {a : Int32 × zS} {r : (Int32 × zS) ⊕ (zS)} (C : zC cX8_lay 5 none RX8 κ A p s m args meth c) (h : zH wC κ A s a.2 H locs) (hl : lv_has ls 5 [(0, .ref (κ.2.1 29)), (1, .ref (κ.2.1 33)), (3, .int a.1)]) (hf : fX8_lay_p33_L18_18 n (κ.2.2.2 0) (κ.2.2.2 1) (κ.2.2.2 2) a = some r) (Kc : ∀ (v3 : Int32) (σ1 : zS), r = .inl (v3, σ1) → ∀ (H : Heap) (locs : List Loc) (ls : Array Slot), zH wC κ A s σ1 H locs → lv_has ls 5 [(0, .ref (κ.2.1 29)), (1, .ref (κ.2.1 33)), (3, .int v3)] → W p l e rmX8_lay_p33 s m args below meth c H locs 0 0 Q (F0 m 18 ls [])) (Ke0 : ∀ (σ1 : zS), r = .inr σ1 → ∀ (H : Heap) (locs : List Loc) (ls : Array Slot), zH wC κ A s σ1 H locs → lv_has ls 5 [(0, .ref (κ.2.1 29)), (1, .ref (κ.2.1 33))] → W p l e rmX8_lay_p33 s m args below meth c H locs 0 0 Q (F0 m 74 ls [])) : W p l e rmX8_lay_p33 s m args below meth c H locs 0 0 Q (F0 m 18 ls []) := by
  unfold fX8_lay_p33_L18_18 at hf
  refine lv_iload_n C.ex C.by dX8_lay_18 rfl (lv_at hl 2 rfl) ?_
  refine lv_bipush (v := 6) C.ex C.by dX8_lay_19 (by decide) ?_
  refine lv_icmp_gt (tgt := 74) C.ex C.by dX8_lay_21 (by decide) (fun c3 => ?_) (fun c3 => ?_)
  · have hf := zif_t c3 hf
    exact Ke0 _ (Option.some.inj hf).symm _ _ _ h (lv_sub hl [0, 1] rfl)
  · have hf := zif_f c3 hf
    refine lv_aload_n C.ex C.by dX8_lay_24 rfl (lv_at hl 0 rfl) ?_
    refine z_get (v := .ref (κ.2.1 30)) C h iwX8 29 (wC_at29 κ _) rfl 0 (by decide) lkC286 rfl dX8_lay_25 ?_
    refine lv_iload_n C.ex C.by dX8_lay_28 rfl (lv_at hl 2 rfl) ?_
    obtain ⟨h4, hf⟩ := zg_some hf
    refine z_aald (g := fun j => κ.2.1 (38 + 2 * zT a.2 j)) C h 30 (wC_at30 κ _) h4 dX8_lay_29 ?_
    obtain ⟨h7, hf⟩ := zg_some hf
    obtain ⟨q5, e6, hf⟩ := zb_some hf
    refine z_callRv (As := []) (x := (zU a.2 (zT a.2 (Int32.toNatClampNeg a.1)))) (f := (zV a.2 (zT a.2 (Int32.toNatClampNeg a.1)))) C h (ctX6_clear (κ := zκR κ (κ.2.1 (38 + 2 * (zT a.2 (Int32.toNatClampNeg a.1)))) (κ.2.1 (39 + 2 * (zT a.2 (Int32.toNatClampNeg a.1)))) (κ.2.2.2 0)) e6) (zgV lkC284 lkC190 lkC191 lkC52 lkC192) ⟨rfl, rfl⟩ hdX6_clear ⟨Nat.le_of_ble_eq_true rfl, Nat.le_of_ble_eq_true rfl⟩ (38 + 2 * (zT a.2 (Int32.toNatClampNeg a.1))) (39 + 2 * (zT a.2 (Int32.toNatClampNeg a.1))) (by omega) (wC_tr κ _ (z7_lt h7)) (wC_ti κ _ (z7_lt h7)) (sV (sU a.2 (zT a.2 (Int32.toNatClampNeg a.1)) (zI q5 0)) (zT a.2 (Int32.toNatClampNeg a.1)) (zA q5 0)) (wC_st κ _ (z7_lt h7) _ _) hl rfl rfl (Nat.le_of_ble_eq_true rfl) dX8_lay_30 ⟨Nat.zero_le _, Nat.zero_le _⟩ (fun H locs h => ?_)
    refine lv_aload_n C.ex C.by dX8_lay_33 rfl (lv_at hl 0 rfl) ?_
    refine z_get (v := .ref (κ.2.1 31)) C h iwX8 29 (wC_at29 κ _) rfl 1 (by decide) lkC278 rfl dX8_lay_34 ?_
    refine lv_iload_n C.ex C.by dX8_lay_37 rfl (lv_at hl 2 rfl) ?_
    refine lv_iload_n C.ex C.by dX8_lay_38 rfl (lv_at hl 2 rfl) ?_
    refine lv_if_le (tgt := 54) C.ex C.by dX8_lay_39 (by decide) (fun c8 => ?_) (fun c8 => ?_)
    · have hf := zif_t c8 hf
      exact wX8_lay_p33_L18_54 C h hl hf Kc Ke0
    · have hf := zif_f c8 hf
      refine lv_iload_n C.ex C.by dX8_lay_42 rfl (lv_at hl 2 rfl) ?_
      refine lv_aload_n C.ex C.by dX8_lay_43 rfl (lv_at hl 0 rfl) ?_
      refine z_get (v := .int (zI a.2 30)) C h iwX8 29 (wC_at29 κ _) rfl 3 (by decide) lkC277 rfl dX8_lay_44 ?_
      refine lv_icmp_ge (tgt := 54) C.ex C.by dX8_lay_47 (by decide) (fun c9 => ?_) (fun c9 => ?_)
      · have hf := zif_t c9 hf
        exact wX8_lay_p33_L18_54 C h hl hf Kc Ke0
      · have hf := zif_f c9 hf
        refine lv_iconst (v := 1) C.ex C.by dX8_lay_50 (by decide) ?_
        refine lv_goto (tgt := 55) C.ex C.by dX8_lay_51 (by decide) ?_
        exact wX8_lay_p33_L18_55 C h hl hf Kc Ke0
theorem wlX8_lay_p33_18 {p : Program} {l : Launch} {e : Env} {s : State} {m : MethodId} {args : Array Value} {below : List Frame} {meth : Method} {c : Code} {A : Nat → Prop} {κ : zG} {H : Heap} {locs : List Loc} {ls : Array Slot} {Q : State → Prop} {n : Nat} {k0 : Nat} {u3 : Int32} {σ1 : zS} (C : zC cX8_lay 5 none RX8 κ A p s m args meth c) (h : zH wC κ A s σ1 H locs) (hl : lv_has ls 5 [(0, .ref (κ.2.1 29)), (1, .ref (κ.2.1 33)), (3, .int u3)]) (b : zS) (hb : zlp (fX8_lay_p33_L18_18 n (κ.2.2.2 0) (κ.2.2.2 1) (κ.2.2.2 2)) k0 (u3, σ1) = some b) (K : (fun b : zS => ∀ (H : Heap) (locs : List Loc) (ls : Array Slot), zH wC κ A s b H locs → lv_has ls 5 [(0, .ref (κ.2.1 29)), (1, .ref (κ.2.1 33))] → W p l e rmX8_lay_p33 s m args below meth c H locs 0 0 Q (F0 m 74 ls [])) b) : W p l e rmX8_lay_p33 s m args below meth c H locs 0 0 Q (F0 m 18 ls []) :=
  z_loop (body := fX8_lay_p33_L18_18 n (κ.2.2.2 0) (κ.2.2.2 1) (κ.2.2.2 2)) (Wd := (fun a : Int32 × zS => ∀ (H : Heap) (locs : List Loc) (ls : Array Slot), zH wC κ A s a.2 H locs → lv_has ls 5 [(0, .ref (κ.2.1 29)), (1, .ref (κ.2.1 33)), (3, .int a.1)] → W p l e rmX8_lay_p33 s m args below meth c H locs 0 0 Q (F0 m 18 ls []))) (Ex := (fun b : zS => (fun b : zS => ∀ (H : Heap) (locs : List Loc) (ls : Array Slot), zH wC κ A s b H locs → lv_has ls 5 [(0, .ref (κ.2.1 29)), (1, .ref (κ.2.1 33))] → W p l e rmX8_lay_p33 s m args below meth c H locs 0 0 Q (F0 m 74 ls [])) b)) (fun a r hr Kc Ke H locs ls h hl => wX8_lay_p33_L18_18 C h hl hr (fun v3 σ1 e => Kc (v3, σ1) e) (fun σ1 e => Ke σ1 e)) k0 (u3, σ1) b hb K H locs ls h hl
set_option maxRecDepth 20000 in
set_option maxHeartbeats 4000000 in
theorem wX8_lay_p33_L79_140 {p : Program} {l : Launch} {e : Env} {s : State} {m : MethodId} {args : Array Value} {below : List Frame} {meth : Method} {c : Code} {A : Nat → Prop} {κ : zG} {H : Heap} {locs : List Loc} {ls : Array Slot} {Q : State → Prop} {n : Nat} {σ : zS} {x3 : Int32} {x4 : Int32} {r : (Int32 × Int32 × zS) ⊕ (zS)} (C : zC cX8_lay 5 none RX8 κ A p s m args meth c) (h : zH wC κ A s σ H locs) (hl : lv_has ls 5 [(0, .ref (κ.2.1 29)), (1, .ref (κ.2.1 33)), (3, .int x3), (4, .int x4)]) (hf : fX8_lay_p33_L79_140 n (κ.2.2.2 0) (κ.2.2.2 1) (κ.2.2.2 2) σ x3 x4 = some r) (Kc : ∀ (v3 : Int32) (v4 : Int32) (σ1 : zS), r = .inl (v3, v4, σ1) → ∀ (H : Heap) (locs : List Loc) (ls : Array Slot), zH wC κ A s σ1 H locs → lv_has ls 5 [(0, .ref (κ.2.1 29)), (1, .ref (κ.2.1 33)), (3, .int v3), (4, .int v4)] → W p l e rmX8_lay_p33 s m args below meth c H locs 0 0 Q (F0 m 79 ls [])) (Ke0 : ∀ (σ1 : zS), r = .inr σ1 → ∀ (H : Heap) (locs : List Loc) (ls : Array Slot), zH wC κ A s σ1 H locs → lv_has ls 5 [(0, .ref (κ.2.1 29))] → W p l e rmX8_lay_p33 s m args below meth c H locs 0 0 Q (F0 m 146 ls [])) : W p l e rmX8_lay_p33 s m args below meth c H locs 0 0 Q (F0 m 140 ls []) := by
  unfold fX8_lay_p33_L79_140 at hf
  refine lv_iinc (v := (x4 + 1)) (lv' := [(4, .int (x4 + 1)), (0, .ref (κ.2.1 29)), (1, .ref (κ.2.1 33)), (3, .int x3)]) C.ex C.by dX8_lay_140 hl (k := 3) rfl rfl (by decide) rfl (fun ls hl => ?_)
  refine lv_goto (tgt := 79) C.ex C.by dX8_lay_143 (by decide) ?_
  exact Kc _ _ _ (Option.some.inj hf).symm _ _ _ h (lv_sub hl [1, 2, 3, 0] rfl)
set_option maxRecDepth 20000 in
set_option maxHeartbeats 4000000 in
theorem wX8_lay_p33_L79_79 {p : Program} {l : Launch} {e : Env} {s : State} {m : MethodId} {args : Array Value} {below : List Frame} {meth : Method} {c : Code} {A : Nat → Prop} {κ : zG} {H : Heap} {locs : List Loc} {ls : Array Slot} {Q : State → Prop} {n : Nat} {a : Int32 × Int32 × zS} {r : (Int32 × Int32 × zS) ⊕ (zS)} (C : zC cX8_lay 5 none RX8 κ A p s m args meth c) (h : zH wC κ A s a.2.2 H locs) (hl : lv_has ls 5 [(0, .ref (κ.2.1 29)), (1, .ref (κ.2.1 33)), (3, .int a.1), (4, .int a.2.1)]) (hf : fX8_lay_p33_L79_79 n (κ.2.2.2 0) (κ.2.2.2 1) (κ.2.2.2 2) a = some r) (Kc : ∀ (v3 : Int32) (v4 : Int32) (σ1 : zS), r = .inl (v3, v4, σ1) → ∀ (H : Heap) (locs : List Loc) (ls : Array Slot), zH wC κ A s σ1 H locs → lv_has ls 5 [(0, .ref (κ.2.1 29)), (1, .ref (κ.2.1 33)), (3, .int v3), (4, .int v4)] → W p l e rmX8_lay_p33 s m args below meth c H locs 0 0 Q (F0 m 79 ls [])) (Ke0 : ∀ (σ1 : zS), r = .inr σ1 → ∀ (H : Heap) (locs : List Loc) (ls : Array Slot), zH wC κ A s σ1 H locs → lv_has ls 5 [(0, .ref (κ.2.1 29))] → W p l e rmX8_lay_p33 s m args below meth c H locs 0 0 Q (F0 m 146 ls [])) : W p l e rmX8_lay_p33 s m args below meth c H locs 0 0 Q (F0 m 79 ls []) := by
  unfold fX8_lay_p33_L79_79 at hf
  refine lv_iload C.ex C.by dX8_lay_79 (lv_at hl 3 rfl) ?_
  refine lv_aload_n C.ex C.by dX8_lay_81 rfl (lv_at hl 1 rfl) ?_
  obtain ⟨q15, e16, hf⟩ := zb_some hf
  refine z_callRi (As := []) (x := (zI a.2.2 32)) (f := (zA a.2.2 16)) C h (ctX6_size (κ := zκR κ (κ.2.1 33) (κ.2.1 34) (κ.2.2.2 0)) e16) (zgV lkC327 lkC182 lkC183 lkC52 lkC184) ⟨rfl, rfl⟩ hdX6_size ⟨Nat.le_of_ble_eq_true rfl, Nat.le_of_ble_eq_true rfl⟩ 33 34 (by decide) (wC_at33 κ _) (wC_at34 κ _) a.2.2 (zset2 (wC_at33 κ _) (wC_at34 κ _)) hl rfl rfl (Nat.le_of_ble_eq_true rfl) dX8_lay_82 ⟨Nat.zero_le _, Nat.zero_le _⟩ (fun H locs h => ?_)
  refine lv_icmp_ge (tgt := 146) C.ex C.by dX8_lay_85 (by decide) (fun c17 => ?_) (fun c17 => ?_)
  · have hf := zif_t c17 hf
    exact Ke0 _ (Option.some.inj hf).symm _ _ _ h (lv_sub hl [0] rfl)
  · have hf := zif_f c17 hf
    refine lv_iload_n C.ex C.by dX8_lay_88 rfl (lv_at hl 2 rfl) ?_
    refine lv_if_le (tgt := 146) C.ex C.by dX8_lay_89 (by decide) (fun c18 => ?_) (fun c18 => ?_)
    · have hf := zif_t c18 hf
      exact Ke0 _ (Option.some.inj hf).symm _ _ _ h (lv_sub hl [0] rfl)
    · have hf := zif_f c18 hf
      refine lv_iload_n C.ex C.by dX8_lay_92 rfl (lv_at hl 2 rfl) ?_
      refine lv_bipush (v := 6) C.ex C.by dX8_lay_93 (by decide) ?_
      refine lv_icmp_ge (tgt := 146) C.ex C.by dX8_lay_95 (by decide) (fun c19 => ?_) (fun c19 => ?_)
      · have hf := zif_t c19 hf
        exact Ke0 _ (Option.some.inj hf).symm _ _ _ h (lv_sub hl [0] rfl)
      · have hf := zif_f c19 hf
        refine lv_aload_n C.ex C.by dX8_lay_98 rfl (lv_at hl 0 rfl) ?_
        refine z_get (v := .ref (κ.2.1 30)) C h iwX8 29 (wC_at29 κ _) rfl 0 (by decide) lkC286 rfl dX8_lay_99 ?_
        refine lv_iload_n C.ex C.by dX8_lay_102 rfl (lv_at hl 2 rfl) ?_
        obtain ⟨h20, hf⟩ := zg_some hf
        refine z_aald (g := fun j => κ.2.1 (38 + 2 * zT a.2.2 j)) C h 30 (wC_at30 κ _) h20 dX8_lay_103 ?_
        refine lv_aload_n C.ex C.by dX8_lay_104 rfl (lv_at hl 1 rfl) ?_
        refine lv_iload C.ex C.by dX8_lay_105 (lv_at hl 3 rfl) ?_
        obtain ⟨q21, e22, hf⟩ := zb_some hf
        refine z_callRi (As := [.int a.2.1]) (x := (zI a.2.2 32)) (f := (zA a.2.2 16)) C h (ctX6_get (κ := zκR κ (κ.2.1 33) (κ.2.1 34) (κ.2.2.2 0)) e22) (zgV lkC287 lkC50 lkC51 lkC52 lkC53) ⟨rfl, rfl⟩ hdX6_get ⟨Nat.le_of_ble_eq_true rfl, Nat.le_of_ble_eq_true rfl⟩ 33 34 (by decide) (wC_at33 κ _) (wC_at34 κ _) a.2.2 (zset2 (wC_at33 κ _) (wC_at34 κ _)) hl rfl rfl (Nat.le_of_ble_eq_true rfl) dX8_lay_107 ⟨Nat.zero_le _, Nat.zero_le _⟩ (fun H locs h => ?_)
        obtain ⟨h25, hf⟩ := zg_some hf
        obtain ⟨q23, e24, hf⟩ := zb_some hf
        refine z_callRv (As := [.int q21]) (x := (zU a.2.2 (zT a.2.2 (Int32.toNatClampNeg a.1)))) (f := (zV a.2.2 (zT a.2.2 (Int32.toNatClampNeg a.1)))) C h (ctX6_add (κ := zκR κ (κ.2.1 (38 + 2 * (zT a.2.2 (Int32.toNatClampNeg a.1)))) (κ.2.1 (39 + 2 * (zT a.2.2 (Int32.toNatClampNeg a.1)))) (κ.2.2.2 0)) e24) (zgV lkC288 lkC139 lkC140 lkC52 lkC141) ⟨rfl, rfl⟩ hdX6_add ⟨Nat.le_of_ble_eq_true rfl, Nat.le_of_ble_eq_true rfl⟩ (38 + 2 * (zT a.2.2 (Int32.toNatClampNeg a.1))) (39 + 2 * (zT a.2.2 (Int32.toNatClampNeg a.1))) (by omega) (wC_tr κ _ (z7_lt h25)) (wC_ti κ _ (z7_lt h25)) (sV (sU a.2.2 (zT a.2.2 (Int32.toNatClampNeg a.1)) (zI q23 0)) (zT a.2.2 (Int32.toNatClampNeg a.1)) (zA q23 0)) (wC_st κ _ (z7_lt h25) _ _) hl rfl rfl (Nat.le_of_ble_eq_true rfl) dX8_lay_110 ⟨Nat.zero_le _, Nat.zero_le _⟩ (fun H locs h => ?_)
        refine lv_aload_n C.ex C.by dX8_lay_113 rfl (lv_at hl 0 rfl) ?_
        refine z_get (v := .ref (κ.2.1 32)) C h iwX8 29 (wC_at29 κ _) rfl 2 (by decide) lkC285 rfl dX8_lay_114 ?_
        refine lv_iload_n C.ex C.by dX8_lay_117 rfl (lv_at hl 2 rfl) ?_
        refine lv_dup2_11 C.ex C.by dX8_lay_118 rfl rfl ?_
        obtain ⟨h26, hf⟩ := zg_some hf
        refine z_iald (f := (zA a.2.2 15)) C h 32 (wC_at32 κ _) h26 dX8_lay_119 ?_
        refine lv_iconst (v := 1) C.ex C.by dX8_lay_120 (by decide) ?_
        refine lv_isub C.ex C.by dX8_lay_121 ?_
        obtain ⟨h27, hf⟩ := zg_some hf
        refine z_iast (f := (zA a.2.2 15)) C h 32 (wC_at32 κ _) h27 (sA (sV (sU a.2.2 (zT a.2.2 (Int32.toNatClampNeg a.1)) (zI q23 0)) (zT a.2.2 (Int32.toNatClampNeg a.1)) (zA q23 0)) 15 (upd (zA a.2.2 15) (Int32.toNatClampNeg a.1) (((zA a.2.2 15) (Int32.toNatClampNeg a.1)) - 1))) (wC_s32 κ _ _) dX8_lay_122 (fun H locs h => ?_)
        refine lv_iload C.ex C.by dX8_lay_123 (lv_at hl 3 rfl) ?_
        refine lv_iconst (v := 1) C.ex C.by dX8_lay_125 (by decide) ?_
        refine lv_iadd C.ex C.by dX8_lay_126 ?_
        refine lv_aload_n C.ex C.by dX8_lay_127 rfl (lv_at hl 1 rfl) ?_
        obtain ⟨q28, e29, hf⟩ := zb_some hf
        refine z_callRi (As := []) (x := (zI a.2.2 32)) (f := (zA a.2.2 16)) C h (ctX6_size (κ := zκR κ (κ.2.1 33) (κ.2.1 34) (κ.2.2.2 0)) e29) (zgV lkC327 lkC182 lkC183 lkC52 lkC184) ⟨rfl, rfl⟩ hdX6_size ⟨Nat.le_of_ble_eq_true rfl, Nat.le_of_ble_eq_true rfl⟩ 33 34 (by decide) (wC_at33 κ _) (wC_at34 κ _) (sA (sV (sU a.2.2 (zT a.2.2 (Int32.toNatClampNeg a.1)) (zI q23 0)) (zT a.2.2 (Int32.toNatClampNeg a.1)) (zA q23 0)) 15 (upd (zA a.2.2 15) (Int32.toNatClampNeg a.1) (((zA a.2.2 15) (Int32.toNatClampNeg a.1)) - 1))) (zset2 (wC_at33 κ _) (wC_at34 κ _)) hl rfl rfl (Nat.le_of_ble_eq_true rfl) dX8_lay_128 ⟨Nat.zero_le _, Nat.zero_le _⟩ (fun H locs h => ?_)
        refine lv_icmp_ge (tgt := 140) C.ex C.by dX8_lay_131 (by decide) (fun c30 => ?_) (fun c30 => ?_)
        · have hf := zif_t c30 hf
          exact wX8_lay_p33_L79_140 C h hl hf Kc Ke0
        · have hf := zif_f c30 hf
          refine lv_aload_n C.ex C.by dX8_lay_134 rfl (lv_at hl 0 rfl) ?_
          refine lv_iload_n C.ex C.by dX8_lay_135 rfl (lv_at hl 2 rfl) ?_
          obtain ⟨q31, e32, hf⟩ := zb_some hf
          refine z_callVi (As := [.int a.1]) C h (ctX8_tapeBehind (r1 := q31.1) (r2 := q31.2) e32) (zgV lkC332 lkC333 lkC334 lkC282 lkC335) ⟨rfl, rfl⟩ hdX8_tapeBehind ⟨Nat.le_of_ble_eq_true rfl, Nat.le_of_ble_eq_true rfl⟩ 29 (wC_at29 κ _) rfl hl rfl rfl (Nat.le_of_ble_eq_true rfl) dX8_lay_136 ⟨Nat.zero_le _, Nat.zero_le _⟩ (fun H locs h => ?_)
          refine lv_istore_n (lv' := [(3, .int q31.1), (0, .ref (κ.2.1 29)), (1, .ref (κ.2.1 33)), (4, .int a.2.1)]) C.ex C.by dX8_lay_139 rfl hl (by decide) rfl (fun ls hl => ?_)
          exact wX8_lay_p33_L79_140 C h (lv_sub hl [1, 2, 0, 3] rfl) hf Kc Ke0
theorem wlX8_lay_p33_79 {p : Program} {l : Launch} {e : Env} {s : State} {m : MethodId} {args : Array Value} {below : List Frame} {meth : Method} {c : Code} {A : Nat → Prop} {κ : zG} {H : Heap} {locs : List Loc} {ls : Array Slot} {Q : State → Prop} {n : Nat} {k0 : Nat} {u3 : Int32} {u4 : Int32} {σ1 : zS} (C : zC cX8_lay 5 none RX8 κ A p s m args meth c) (h : zH wC κ A s σ1 H locs) (hl : lv_has ls 5 [(0, .ref (κ.2.1 29)), (1, .ref (κ.2.1 33)), (3, .int u3), (4, .int u4)]) (b : zS) (hb : zlp (fX8_lay_p33_L79_79 n (κ.2.2.2 0) (κ.2.2.2 1) (κ.2.2.2 2)) k0 (u3, u4, σ1) = some b) (K : (fun b : zS => ∀ (H : Heap) (locs : List Loc) (ls : Array Slot), zH wC κ A s b H locs → lv_has ls 5 [(0, .ref (κ.2.1 29))] → W p l e rmX8_lay_p33 s m args below meth c H locs 0 0 Q (F0 m 146 ls [])) b) : W p l e rmX8_lay_p33 s m args below meth c H locs 0 0 Q (F0 m 79 ls []) :=
  z_loop (body := fX8_lay_p33_L79_79 n (κ.2.2.2 0) (κ.2.2.2 1) (κ.2.2.2 2)) (Wd := (fun a : Int32 × Int32 × zS => ∀ (H : Heap) (locs : List Loc) (ls : Array Slot), zH wC κ A s a.2.2 H locs → lv_has ls 5 [(0, .ref (κ.2.1 29)), (1, .ref (κ.2.1 33)), (3, .int a.1), (4, .int a.2.1)] → W p l e rmX8_lay_p33 s m args below meth c H locs 0 0 Q (F0 m 79 ls []))) (Ex := (fun b : zS => (fun b : zS => ∀ (H : Heap) (locs : List Loc) (ls : Array Slot), zH wC κ A s b H locs → lv_has ls 5 [(0, .ref (κ.2.1 29))] → W p l e rmX8_lay_p33 s m args below meth c H locs 0 0 Q (F0 m 146 ls [])) b)) (fun a r hr Kc Ke H locs ls h hl => wX8_lay_p33_L79_79 C h hl hr (fun v3 v4 σ1 e => Kc (v3, v4, σ1) e) (fun σ1 e => Ke σ1 e)) k0 (u3, u4, σ1) b hb K H locs ls h hl
set_option maxRecDepth 20000 in
set_option maxHeartbeats 4000000 in
theorem wX8_lay_p33_0 {p : Program} {l : Launch} {e : Env} {s : State} {m : MethodId} {args : Array Value} {below : List Frame} {meth : Method} {c : Code} {A : Nat → Prop} {κ : zG} {H : Heap} {locs : List Loc} {ls : Array Slot} {n : Nat} {σ : zS} {x2 : Int32} {r : zS} (C : zC cX8_lay 5 none RX8 κ A p s m args meth c) (h : zH wC κ A s σ H locs) (hl : lv_has ls 5 [(0, .ref (κ.2.1 29)), (1, .ref (κ.2.1 33)), (2, .int x2)]) (hf : fX8_lay_p33_0 n (κ.2.2.2 0) (κ.2.2.2 1) (κ.2.2.2 2) σ x2 = some r) : W p l e rmX8_lay_p33 s m args below meth c H locs 0 0 (MQ below (zQv wC κ A r) args s 0 0 A) (F0 m 0 ls []) := by
  unfold fX8_lay_p33_0 at hf
  refine lv_aload_n C.ex C.by dX8_lay_0 rfl (lv_at hl 0 rfl) ?_
  refine lv_iload_n C.ex C.by dX8_lay_1 rfl (lv_at hl 2 rfl) ?_
  refine lv_iconst (v := 3) C.ex C.by dX8_lay_2 (by decide) ?_
  refine lv_bipush (v := 6) C.ex C.by dX8_lay_3 (by decide) ?_
  obtain ⟨q1, e2, hf⟩ := zb_some hf
  refine z_callSNi (As := [.int x2, .int 3, .int 6]) C h (ctX9_within e2) (by decide +kernel) lkC323 lkC99 lkC324 ⟨rfl, rfl⟩ hdX9_within.2 ⟨Nat.le_of_ble_eq_true rfl, Nat.le_of_ble_eq_true rfl⟩ hl rfl rfl (Nat.le_of_ble_eq_true rfl) dX8_lay_5 ⟨Nat.zero_le _, Nat.zero_le _⟩ (fun H locs h => ?_)
  refine z_put C h iwX8 tyX8_ok nmX8 29 (wC_at29 κ _) rfl 3 (by decide) lkC277 rfl rfl rfl (Nat.le_of_ble_eq_true rfl) (sI σ 30 q1) (wC_s29_3 κ _ _) dX8_lay_8 (fun H locs h => ?_)
  refine lv_aload_n C.ex C.by dX8_lay_11 rfl (lv_at hl 0 rfl) ?_
  refine lv_iconst (v := 1) C.ex C.by dX8_lay_12 (by decide) ?_
  refine z_put C h iwX8 tyX8_ok nmX8 29 (wC_at29 κ _) rfl 4 (by decide) lkC326 rfl rfl rfl (Nat.le_of_ble_eq_true rfl) (sI (sI σ 30 q1) 31 1) (wC_s29_4 κ _ _) dX8_lay_13 (fun H locs h => ?_)
  refine lv_iconst (v := 0) C.ex C.by dX8_lay_16 (by decide) ?_
  refine lv_istore_n (lv' := [(3, .int 0), (0, .ref (κ.2.1 29)), (1, .ref (κ.2.1 33)), (2, .int x2)]) C.ex C.by dX8_lay_17 rfl hl (by decide) rfl (fun ls hl => ?_)
  obtain ⟨b13, e14, hf⟩ := zb_some hf
  refine wlX8_lay_p33_18 C h (lv_sub hl [1, 2, 0] rfl) b13 e14 ?_
  intro H locs ls h hl
  refine lv_iconst (v := 1) C.ex C.by dX8_lay_74 (by decide) ?_
  refine lv_istore_n (lv' := [(3, .int 1), (0, .ref (κ.2.1 29)), (1, .ref (κ.2.1 33))]) C.ex C.by dX8_lay_75 rfl hl (by decide) rfl (fun ls hl => ?_)
  refine lv_iconst (v := 0) C.ex C.by dX8_lay_76 (by decide) ?_
  refine lv_istore (lv' := [(4, .int 0), (3, .int 1), (0, .ref (κ.2.1 29)), (1, .ref (κ.2.1 33))]) C.ex C.by dX8_lay_77 hl (by decide) rfl (fun ls hl => ?_)
  obtain ⟨b33, e34, hf⟩ := zb_some hf
  refine wlX8_lay_p33_79 C h (lv_sub hl [2, 3, 1, 0] rfl) b33 e34 ?_
  intro H locs ls h hl
  cases hf
  exact z_vret C h dX8_lay_146
theorem ctX8_lay_p33 {l : Launch} {κ : zG} {n : Nat} {σ : zS} {x2 : Int32} {r : zS} (hf : fX8_lay_p33_0 n (κ.2.2.2 0) (κ.2.2.2 1) (κ.2.2.2 2) σ x2 = some r) : zMv l yX8_lay (Cond.code yX8_lay cX8_lay 5 none) rmX8_lay_p33 wC κ [.ref (κ.2.1 29), .ref (κ.2.1 33), .int x2] σ r :=
  zMv_of (by decide) (Nat.le_of_ble_eq_true rfl) (fun p e s m below meth c A C h ls hl => wX8_lay_p33_0 C h hl hf)
theorem hdX8_collect : yX8_collect.cls = RX8 ∧ yX8_collect.cls ≠ "java/lang/invoke/MethodHandle" ∧ yX8_collect.cls ≠ "java/lang/invoke/VarHandle" ∧ (parseMethodDescriptor yX8_collect.desc).map (fun d => d.parameters.length) = some 1 := by decide +kernel
abbrev rmX8_collect_p33 : Room := { frames := 1, cells := 0, slots := 0, locals := 21 }
set_option maxRecDepth 20000 in
set_option maxHeartbeats 4000000 in
theorem wX8_collect_p33_L22_22 {p : Program} {l : Launch} {e : Env} {s : State} {m : MethodId} {args : Array Value} {below : List Frame} {meth : Method} {c : Code} {A : Nat → Prop} {κ : zG} {H : Heap} {locs : List Loc} {ls : Array Slot} {Q : State → Prop} {n : Nat} {k2 : Int32} {a : Int32 × zS} {r : (Int32 × zS) ⊕ (zS)} (C : zC cX8_collect 4 none RX8 κ A p s m args meth c) (h : zH wC κ A s a.2 H locs) (hl : lv_has ls 4 [(0, .ref (κ.2.1 29)), (1, .ref (κ.2.1 33)), (2, .int k2), (3, .int a.1)]) (hf : fX8_collect_p33_L22_22 n (κ.2.2.2 0) (κ.2.2.2 1) (κ.2.2.2 2) k2 a = some r) (Kc : ∀ (v3 : Int32) (σ1 : zS), r = .inl (v3, σ1) → ∀ (H : Heap) (locs : List Loc) (ls : Array Slot), zH wC κ A s σ1 H locs → lv_has ls 4 [(0, .ref (κ.2.1 29)), (1, .ref (κ.2.1 33)), (2, .int k2), (3, .int v3)] → W p l e rmX8_collect_p33 s m args below meth c H locs 0 0 Q (F0 m 22 ls [])) (Ke0 : ∀ (σ1 : zS), r = .inr σ1 → ∀ (H : Heap) (locs : List Loc) (ls : Array Slot), zH wC κ A s σ1 H locs → lv_has ls 4 [(0, .ref (κ.2.1 29)), (1, .ref (κ.2.1 33)), (2, .int k2)] → W p l e rmX8_collect_p33 s m args below meth c H locs 0 0 Q (F0 m 55 ls [])) : W p l e rmX8_collect_p33 s m args below meth c H locs 0 0 Q (F0 m 22 ls []) := by
  unfold fX8_collect_p33_L22_22 at hf
  refine lv_iload_n C.ex C.by dX8_collect_22 rfl (lv_at hl 3 rfl) ?_
  refine lv_aload_n C.ex C.by dX8_collect_23 rfl (lv_at hl 0 rfl) ?_
  refine z_get (v := .ref (κ.2.1 30)) C h iwX8 29 (wC_at29 κ _) rfl 0 (by decide) lkC286 rfl dX8_collect_24 ?_
  refine lv_iload_n C.ex C.by dX8_collect_27 rfl (lv_at hl 2 rfl) ?_
  obtain ⟨h5, hf⟩ := zg_some hf
  refine z_aald (g := fun j => κ.2.1 (38 + 2 * zT a.2 j)) C h 30 (wC_at30 κ _) h5 dX8_collect_28 ?_
  obtain ⟨h8, hf⟩ := zg_some hf
  obtain ⟨q6, e7, hf⟩ := zb_some hf
  refine z_callRi (As := []) (x := (zU a.2 (zT a.2 (Int32.toNatClampNeg k2)))) (f := (zV a.2 (zT a.2 (Int32.toNatClampNeg k2)))) C h (ctX6_size (κ := zκR κ (κ.2.1 (38 + 2 * (zT a.2 (Int32.toNatClampNeg k2)))) (κ.2.1 (39 + 2 * (zT a.2 (Int32.toNatClampNeg k2)))) (κ.2.2.2 0)) e7) (zgV lkC327 lkC182 lkC183 lkC52 lkC184) ⟨rfl, rfl⟩ hdX6_size ⟨Nat.le_of_ble_eq_true rfl, Nat.le_of_ble_eq_true rfl⟩ (38 + 2 * (zT a.2 (Int32.toNatClampNeg k2))) (39 + 2 * (zT a.2 (Int32.toNatClampNeg k2))) (by omega) (wC_tr κ _ (z7_lt h8)) (wC_ti κ _ (z7_lt h8)) a.2 (zset2 (wC_tr κ _ (z7_lt h8)) (wC_ti κ _ (z7_lt h8))) hl rfl rfl (Nat.le_of_ble_eq_true rfl) dX8_collect_29 ⟨Nat.zero_le _, Nat.zero_le _⟩ (fun H locs h => ?_)
  refine lv_icmp_ge (tgt := 55) C.ex C.by dX8_collect_32 (by decide) (fun c9 => ?_) (fun c9 => ?_)
  · have hf := zif_t c9 hf
    exact Ke0 _ (Option.some.inj hf).symm _ _ _ h (lv_sub hl [0, 1, 2] rfl)
  · have hf := zif_f c9 hf
    refine lv_aload_n C.ex C.by dX8_collect_35 rfl (lv_at hl 1 rfl) ?_
    refine lv_aload_n C.ex C.by dX8_collect_36 rfl (lv_at hl 0 rfl) ?_
    refine z_get (v := .ref (κ.2.1 30)) C h iwX8 29 (wC_at29 κ _) rfl 0 (by decide) lkC286 rfl dX8_collect_37 ?_
    refine lv_iload_n C.ex C.by dX8_collect_40 rfl (lv_at hl 2 rfl) ?_
    obtain ⟨h10, hf⟩ := zg_some hf
    refine z_aald (g := fun j => κ.2.1 (38 + 2 * zT a.2 j)) C h 30 (wC_at30 κ _) h10 dX8_collect_41 ?_
    refine lv_iload_n C.ex C.by dX8_collect_42 rfl (lv_at hl 3 rfl) ?_
    obtain ⟨h13, hf⟩ := zg_some hf
    obtain ⟨q11, e12, hf⟩ := zb_some hf
    refine z_callRi (As := [.int a.1]) (x := (zU a.2 (zT a.2 (Int32.toNatClampNeg k2)))) (f := (zV a.2 (zT a.2 (Int32.toNatClampNeg k2)))) C h (ctX6_get (κ := zκR κ (κ.2.1 (38 + 2 * (zT a.2 (Int32.toNatClampNeg k2)))) (κ.2.1 (39 + 2 * (zT a.2 (Int32.toNatClampNeg k2)))) (κ.2.2.2 0)) e12) (zgV lkC287 lkC50 lkC51 lkC52 lkC53) ⟨rfl, rfl⟩ hdX6_get ⟨Nat.le_of_ble_eq_true rfl, Nat.le_of_ble_eq_true rfl⟩ (38 + 2 * (zT a.2 (Int32.toNatClampNeg k2))) (39 + 2 * (zT a.2 (Int32.toNatClampNeg k2))) (by omega) (wC_tr κ _ (z7_lt h13)) (wC_ti κ _ (z7_lt h13)) a.2 (zset2 (wC_tr κ _ (z7_lt h13)) (wC_ti κ _ (z7_lt h13))) hl rfl rfl (Nat.le_of_ble_eq_true rfl) dX8_collect_43 ⟨Nat.zero_le _, Nat.zero_le _⟩ (fun H locs h => ?_)
    obtain ⟨q14, e15, hf⟩ := zb_some hf
    refine z_callRv (As := [.int q11]) (x := (zI a.2 32)) (f := (zA a.2 16)) C h (ctX6_add (κ := zκR κ (κ.2.1 33) (κ.2.1 34) (κ.2.2.2 0)) e15) (zgV lkC288 lkC139 lkC140 lkC52 lkC141) ⟨rfl, rfl⟩ hdX6_add ⟨Nat.le_of_ble_eq_true rfl, Nat.le_of_ble_eq_true rfl⟩ 33 34 (by decide) (wC_at33 κ _) (wC_at34 κ _) (sA (sI a.2 32 (zI q14 0)) 16 (zA q14 0)) (wC_sr33 κ _ _ _) hl rfl rfl (Nat.le_of_ble_eq_true rfl) dX8_collect_46 ⟨Nat.zero_le _, Nat.zero_le _⟩ (fun H locs h => ?_)
    refine lv_iinc (v := (a.1 + 1)) (lv' := [(3, .int (a.1 + 1)), (0, .ref (κ.2.1 29)), (1, .ref (κ.2.1 33)), (2, .int k2)]) C.ex C.by dX8_collect_49 hl (k := 3) rfl rfl (by decide) rfl (fun ls hl => ?_)
    refine lv_goto (tgt := 22) C.ex C.by dX8_collect_52 (by decide) ?_
    exact Kc _ _ (Option.some.inj hf).symm _ _ _ h (lv_sub hl [1, 2, 3, 0] rfl)
theorem wlX8_collect_p33_22 {p : Program} {l : Launch} {e : Env} {s : State} {m : MethodId} {args : Array Value} {below : List Frame} {meth : Method} {c : Code} {A : Nat → Prop} {κ : zG} {H : Heap} {locs : List Loc} {ls : Array Slot} {Q : State → Prop} {n : Nat} {k2 : Int32} {k0 : Nat} {u3 : Int32} {σ1 : zS} (C : zC cX8_collect 4 none RX8 κ A p s m args meth c) (h : zH wC κ A s σ1 H locs) (hl : lv_has ls 4 [(0, .ref (κ.2.1 29)), (1, .ref (κ.2.1 33)), (2, .int k2), (3, .int u3)]) (b : zS) (hb : zlp (fX8_collect_p33_L22_22 n (κ.2.2.2 0) (κ.2.2.2 1) (κ.2.2.2 2) k2) k0 (u3, σ1) = some b) (K : (fun b : zS => ∀ (H : Heap) (locs : List Loc) (ls : Array Slot), zH wC κ A s b H locs → lv_has ls 4 [(0, .ref (κ.2.1 29)), (1, .ref (κ.2.1 33)), (2, .int k2)] → W p l e rmX8_collect_p33 s m args below meth c H locs 0 0 Q (F0 m 55 ls [])) b) : W p l e rmX8_collect_p33 s m args below meth c H locs 0 0 Q (F0 m 22 ls []) :=
  z_loop (body := fX8_collect_p33_L22_22 n (κ.2.2.2 0) (κ.2.2.2 1) (κ.2.2.2 2) k2) (Wd := (fun a : Int32 × zS => ∀ (H : Heap) (locs : List Loc) (ls : Array Slot), zH wC κ A s a.2 H locs → lv_has ls 4 [(0, .ref (κ.2.1 29)), (1, .ref (κ.2.1 33)), (2, .int k2), (3, .int a.1)] → W p l e rmX8_collect_p33 s m args below meth c H locs 0 0 Q (F0 m 22 ls []))) (Ex := (fun b : zS => (fun b : zS => ∀ (H : Heap) (locs : List Loc) (ls : Array Slot), zH wC κ A s b H locs → lv_has ls 4 [(0, .ref (κ.2.1 29)), (1, .ref (κ.2.1 33)), (2, .int k2)] → W p l e rmX8_collect_p33 s m args below meth c H locs 0 0 Q (F0 m 55 ls [])) b)) (fun a r hr Kc Ke H locs ls h hl => wX8_collect_p33_L22_22 C h hl hr (fun v3 σ1 e => Kc (v3, σ1) e) (fun σ1 e => Ke σ1 e)) k0 (u3, σ1) b hb K H locs ls h hl
set_option maxRecDepth 20000 in
set_option maxHeartbeats 4000000 in
theorem wX8_collect_p33_L6_6 {p : Program} {l : Launch} {e : Env} {s : State} {m : MethodId} {args : Array Value} {below : List Frame} {meth : Method} {c : Code} {A : Nat → Prop} {κ : zG} {H : Heap} {locs : List Loc} {ls : Array Slot} {Q : State → Prop} {n : Nat} {a : Int32 × zS} {r : (Int32 × zS) ⊕ (zS)} (C : zC cX8_collect 4 none RX8 κ A p s m args meth c) (h : zH wC κ A s a.2 H locs) (hl : lv_has ls 4 [(0, .ref (κ.2.1 29)), (1, .ref (κ.2.1 33)), (2, .int a.1)]) (hf : fX8_collect_p33_L6_6 n (κ.2.2.2 0) (κ.2.2.2 1) (κ.2.2.2 2) a = some r) (Kc : ∀ (v2 : Int32) (σ1 : zS), r = .inl (v2, σ1) → ∀ (H : Heap) (locs : List Loc) (ls : Array Slot), zH wC κ A s σ1 H locs → lv_has ls 4 [(0, .ref (κ.2.1 29)), (1, .ref (κ.2.1 33)), (2, .int v2)] → W p l e rmX8_collect_p33 s m args below meth c H locs 0 0 Q (F0 m 6 ls [])) (Ke0 : ∀ (σ1 : zS), r = .inr σ1 → ∀ (H : Heap) (locs : List Loc) (ls : Array Slot), zH wC κ A s σ1 H locs → lv_has ls 4 [(0, .ref (κ.2.1 29))] → W p l e rmX8_collect_p33 s m args below meth c H locs 0 0 Q (F0 m 61 ls [])) : W p l e rmX8_collect_p33 s m args below meth c H locs 0 0 Q (F0 m 6 ls []) := by
  unfold fX8_collect_p33_L6_6 at hf
  refine lv_iload_n C.ex C.by dX8_collect_6 rfl (lv_at hl 2 rfl) ?_
  refine lv_aload_n C.ex C.by dX8_collect_7 rfl (lv_at hl 0 rfl) ?_
  refine z_get (v := .int (zI a.2 30)) C h iwX8 29 (wC_at29 κ _) rfl 3 (by decide) lkC277 rfl dX8_collect_8 ?_
  refine lv_icmp_gt (tgt := 61) C.ex C.by dX8_collect_11 (by decide) (fun c3 => ?_) (fun c3 => ?_)
  · have hf := zif_t c3 hf
    exact Ke0 _ (Option.some.inj hf).symm _ _ _ h (lv_sub hl [0] rfl)
  · have hf := zif_f c3 hf
    refine lv_iload_n C.ex C.by dX8_collect_14 rfl (lv_at hl 2 rfl) ?_
    refine lv_bipush (v := 6) C.ex C.by dX8_collect_15 (by decide) ?_
    refine lv_icmp_gt (tgt := 61) C.ex C.by dX8_collect_17 (by decide) (fun c4 => ?_) (fun c4 => ?_)
    · have hf := zif_t c4 hf
      exact Ke0 _ (Option.some.inj hf).symm _ _ _ h (lv_sub hl [0] rfl)
    · have hf := zif_f c4 hf
      refine lv_iconst (v := 0) C.ex C.by dX8_collect_20 (by decide) ?_
      refine lv_istore_n (lv' := [(3, .int 0), (0, .ref (κ.2.1 29)), (1, .ref (κ.2.1 33)), (2, .int a.1)]) C.ex C.by dX8_collect_21 rfl hl (by decide) rfl (fun ls hl => ?_)
      obtain ⟨b16, e17, hf⟩ := zb_some hf
      refine wlX8_collect_p33_22 C h (lv_sub hl [1, 2, 3, 0] rfl) b16 e17 ?_
      intro H locs ls h hl
      refine lv_iinc (v := (a.1 + 1)) (lv' := [(2, .int (a.1 + 1)), (0, .ref (κ.2.1 29)), (1, .ref (κ.2.1 33))]) C.ex C.by dX8_collect_55 hl (k := 2) rfl rfl (by decide) rfl (fun ls hl => ?_)
      refine lv_goto (tgt := 6) C.ex C.by dX8_collect_58 (by decide) ?_
      exact Kc _ _ (Option.some.inj hf).symm _ _ _ h (lv_sub hl [1, 2, 0] rfl)
theorem wlX8_collect_p33_6 {p : Program} {l : Launch} {e : Env} {s : State} {m : MethodId} {args : Array Value} {below : List Frame} {meth : Method} {c : Code} {A : Nat → Prop} {κ : zG} {H : Heap} {locs : List Loc} {ls : Array Slot} {Q : State → Prop} {n : Nat} {k0 : Nat} {u2 : Int32} {σ1 : zS} (C : zC cX8_collect 4 none RX8 κ A p s m args meth c) (h : zH wC κ A s σ1 H locs) (hl : lv_has ls 4 [(0, .ref (κ.2.1 29)), (1, .ref (κ.2.1 33)), (2, .int u2)]) (b : zS) (hb : zlp (fX8_collect_p33_L6_6 n (κ.2.2.2 0) (κ.2.2.2 1) (κ.2.2.2 2)) k0 (u2, σ1) = some b) (K : (fun b : zS => ∀ (H : Heap) (locs : List Loc) (ls : Array Slot), zH wC κ A s b H locs → lv_has ls 4 [(0, .ref (κ.2.1 29))] → W p l e rmX8_collect_p33 s m args below meth c H locs 0 0 Q (F0 m 61 ls [])) b) : W p l e rmX8_collect_p33 s m args below meth c H locs 0 0 Q (F0 m 6 ls []) :=
  z_loop (body := fX8_collect_p33_L6_6 n (κ.2.2.2 0) (κ.2.2.2 1) (κ.2.2.2 2)) (Wd := (fun a : Int32 × zS => ∀ (H : Heap) (locs : List Loc) (ls : Array Slot), zH wC κ A s a.2 H locs → lv_has ls 4 [(0, .ref (κ.2.1 29)), (1, .ref (κ.2.1 33)), (2, .int a.1)] → W p l e rmX8_collect_p33 s m args below meth c H locs 0 0 Q (F0 m 6 ls []))) (Ex := (fun b : zS => (fun b : zS => ∀ (H : Heap) (locs : List Loc) (ls : Array Slot), zH wC κ A s b H locs → lv_has ls 4 [(0, .ref (κ.2.1 29))] → W p l e rmX8_collect_p33 s m args below meth c H locs 0 0 Q (F0 m 61 ls [])) b)) (fun a r hr Kc Ke H locs ls h hl => wX8_collect_p33_L6_6 C h hl hr (fun v2 σ1 e => Kc (v2, σ1) e) (fun σ1 e => Ke σ1 e)) k0 (u2, σ1) b hb K H locs ls h hl
set_option maxRecDepth 20000 in
set_option maxHeartbeats 4000000 in
theorem wX8_collect_p33_0 {p : Program} {l : Launch} {e : Env} {s : State} {m : MethodId} {args : Array Value} {below : List Frame} {meth : Method} {c : Code} {A : Nat → Prop} {κ : zG} {H : Heap} {locs : List Loc} {ls : Array Slot} {n : Nat} {σ : zS} {r : zS} (C : zC cX8_collect 4 none RX8 κ A p s m args meth c) (h : zH wC κ A s σ H locs) (hl : lv_has ls 4 [(0, .ref (κ.2.1 29)), (1, .ref (κ.2.1 33))]) (hf : fX8_collect_p33_0 n (κ.2.2.2 0) (κ.2.2.2 1) (κ.2.2.2 2) σ = some r) : W p l e rmX8_collect_p33 s m args below meth c H locs 0 0 (MQ below (zQv wC κ A r) args s 0 0 A) (F0 m 0 ls []) := by
  unfold fX8_collect_p33_0 at hf
  refine lv_aload_n C.ex C.by dX8_collect_0 rfl (lv_at hl 1 rfl) ?_
  obtain ⟨q1, e2, hf⟩ := zb_some hf
  refine z_callRv (As := []) (x := (zI σ 32)) (f := (zA σ 16)) C h (ctX6_clear (κ := zκR κ (κ.2.1 33) (κ.2.1 34) (κ.2.2.2 0)) e2) (zgV lkC284 lkC190 lkC191 lkC52 lkC192) ⟨rfl, rfl⟩ hdX6_clear ⟨Nat.le_of_ble_eq_true rfl, Nat.le_of_ble_eq_true rfl⟩ 33 34 (by decide) (wC_at33 κ _) (wC_at34 κ _) (sA (sI σ 32 (zI q1 0)) 16 (zA q1 0)) (wC_sr33 κ _ _ _) hl rfl rfl (Nat.le_of_ble_eq_true rfl) dX8_collect_1 ⟨Nat.zero_le _, Nat.zero_le _⟩ (fun H locs h => ?_)
  refine lv_iconst (v := 1) C.ex C.by dX8_collect_4 (by decide) ?_
  refine lv_istore_n (lv' := [(2, .int 1), (0, .ref (κ.2.1 29)), (1, .ref (κ.2.1 33))]) C.ex C.by dX8_collect_5 rfl hl (by decide) rfl (fun ls hl => ?_)
  obtain ⟨b18, e19, hf⟩ := zb_some hf
  refine wlX8_collect_p33_6 C h (lv_sub hl [1, 2, 0] rfl) b18 e19 ?_
  intro H locs ls h hl
  cases hf
  exact z_vret C h dX8_collect_61
theorem ctX8_collect_p33 {l : Launch} {κ : zG} {n : Nat} {σ : zS} {r : zS} (hf : fX8_collect_p33_0 n (κ.2.2.2 0) (κ.2.2.2 1) (κ.2.2.2 2) σ = some r) : zMv l yX8_collect (Cond.code yX8_collect cX8_collect 4 none) rmX8_collect_p33 wC κ [.ref (κ.2.1 29), .ref (κ.2.1 33)] σ r :=
  zMv_of (by decide) (Nat.le_of_ble_eq_true rfl) (fun p e s m below meth c A C h ls hl => wX8_collect_p33_0 C h hl hf)
theorem hdX8_goDown : yX8_goDown.cls = RX8 ∧ yX8_goDown.cls ≠ "java/lang/invoke/MethodHandle" ∧ yX8_goDown.cls ≠ "java/lang/invoke/VarHandle" ∧ (parseMethodDescriptor yX8_goDown.desc).map (fun d => d.parameters.length) = some 0 := by decide +kernel
abbrev rmX8_goDown : Room := { frames := 0, cells := 0, slots := 0, locals := 0 }
set_option maxRecDepth 20000 in
set_option maxHeartbeats 4000000 in
theorem wX8_goDown_L56_56 {p : Program} {l : Launch} {e : Env} {s : State} {m : MethodId} {args : Array Value} {below : List Frame} {meth : Method} {c : Code} {A : Nat → Prop} {κ : zG} {H : Heap} {locs : List Loc} {ls : Array Slot} {Q : State → Prop} {n : Nat} {k1 : Int32} {k2 : Nat} {k3 : Int32} {a : Int32 × zS} {r : (Int32 × zS) ⊕ (zS)} (C : zC cX8_goDown 5 none RX8 κ A p s m args meth c) (h : zH wC κ A s a.2 H locs) (hl : lv_has ls 5 [(0, .ref (κ.2.1 29)), (1, .int k1), (2, .ref (κ.2.1 (38 + 2 * k2))), (3, .int k3), (4, .int a.1)]) (hf : fX8_goDown_L56_56 n (κ.2.2.2 0) (κ.2.2.2 1) (κ.2.2.2 2) k1 k2 k3 a = some r) (Kc : ∀ (v4 : Int32) (σ1 : zS), r = .inl (v4, σ1) → ∀ (H : Heap) (locs : List Loc) (ls : Array Slot), zH wC κ A s σ1 H locs → lv_has ls 5 [(0, .ref (κ.2.1 29)), (1, .int k1), (2, .ref (κ.2.1 (38 + 2 * k2))), (3, .int k3), (4, .int v4)] → W p l e rmX8_goDown s m args below meth c H locs 0 0 Q (F0 m 56 ls [])) (Ke0 : ∀ (σ1 : zS), r = .inr σ1 → ∀ (H : Heap) (locs : List Loc) (ls : Array Slot), zH wC κ A s σ1 H locs → lv_has ls 5 [(0, .ref (κ.2.1 29)), (1, .int k1), (2, .ref (κ.2.1 (38 + 2 * k2))), (3, .int k3)] → W p l e rmX8_goDown s m args below meth c H locs 0 0 Q (F0 m 118 ls [])) : W p l e rmX8_goDown s m args below meth c H locs 0 0 Q (F0 m 56 ls []) := by
  unfold fX8_goDown_L56_56 at hf
  refine lv_iload C.ex C.by dX8_goDown_56 (lv_at hl 4 rfl) ?_
  refine lv_iconst (v := 1) C.ex C.by dX8_goDown_58 (by decide) ?_
  refine lv_icmp_le (tgt := 118) C.ex C.by dX8_goDown_59 (by decide) (fun c6 => ?_) (fun c6 => ?_)
  · have hf := zif_t c6 hf
    exact Ke0 _ (Option.some.inj hf).symm _ _ _ h (lv_sub hl [0, 1, 2, 3] rfl)
  · have hf := zif_f c6 hf
    refine lv_aload_n C.ex C.by dX8_goDown_62 rfl (lv_at hl 0 rfl) ?_
    refine z_get (v := .ref (κ.2.1 30)) C h iwX8 29 (wC_at29 κ _) rfl 0 (by decide) lkC286 rfl dX8_goDown_63 ?_
    refine lv_iload C.ex C.by dX8_goDown_66 (lv_at hl 4 rfl) ?_
    refine lv_aload_n C.ex C.by dX8_goDown_68 rfl (lv_at hl 0 rfl) ?_
    refine z_get (v := .ref (κ.2.1 30)) C h iwX8 29 (wC_at29 κ _) rfl 0 (by decide) lkC286 rfl dX8_goDown_69 ?_
    refine lv_iload C.ex C.by dX8_goDown_72 (lv_at hl 4 rfl) ?_
    refine lv_iconst (v := 1) C.ex C.by dX8_goDown_74 (by decide) ?_
    refine lv_isub C.ex C.by dX8_goDown_75 ?_
    obtain ⟨h7, hf⟩ := zg_some hf
    refine z_aald (g := fun j => κ.2.1 (38 + 2 * zT a.2 j)) C h 30 (wC_at30 κ _) h7 dX8_goDown_76 ?_
    obtain ⟨h8, hf⟩ := zg_some hf
    obtain ⟨h9, hf⟩ := zg_some hf
    refine z_aast (g := fun j => κ.2.1 (38 + 2 * zT a.2 j)) C h 30 (38 + 2 * (zT a.2 (Int32.toNatClampNeg (a.1 - 1)))) (wC_at30 κ _) (wC_tr κ _ (z7_lt h9)) h8 (sT a.2 (Int32.toNatClampNeg a.1) (zT a.2 (Int32.toNatClampNeg (a.1 - 1)))) (wC_s30 κ _ _ _) dX8_goDown_77 (fun H locs h => ?_)
    refine lv_aload_n C.ex C.by dX8_goDown_78 rfl (lv_at hl 0 rfl) ?_
    refine z_get (v := .ref (κ.2.1 32)) C h iwX8 29 (wC_at29 κ _) rfl 2 (by decide) lkC285 rfl dX8_goDown_79 ?_
    refine lv_iload C.ex C.by dX8_goDown_82 (lv_at hl 4 rfl) ?_
    refine lv_aload_n C.ex C.by dX8_goDown_84 rfl (lv_at hl 0 rfl) ?_
    refine z_get (v := .ref (κ.2.1 32)) C h iwX8 29 (wC_at29 κ _) rfl 2 (by decide) lkC285 rfl dX8_goDown_85 ?_
    refine lv_iload C.ex C.by dX8_goDown_88 (lv_at hl 4 rfl) ?_
    refine lv_iconst (v := 1) C.ex C.by dX8_goDown_90 (by decide) ?_
    refine lv_isub C.ex C.by dX8_goDown_91 ?_
    obtain ⟨h10, hf⟩ := zg_some hf
    refine z_iald (f := (zA a.2 15)) C h 32 (wC_at32 κ _) h10 dX8_goDown_92 ?_
    obtain ⟨h11, hf⟩ := zg_some hf
    refine z_iast (f := (zA a.2 15)) C h 32 (wC_at32 κ _) h11 (sA (sT a.2 (Int32.toNatClampNeg a.1) (zT a.2 (Int32.toNatClampNeg (a.1 - 1)))) 15 (upd (zA a.2 15) (Int32.toNatClampNeg a.1) ((zA a.2 15) (Int32.toNatClampNeg (a.1 - 1))))) (wC_s32 κ _ _) dX8_goDown_93 (fun H locs h => ?_)
    refine lv_aload_n C.ex C.by dX8_goDown_94 rfl (lv_at hl 0 rfl) ?_
    refine z_get (v := .ref (κ.2.1 31)) C h iwX8 29 (wC_at29 κ _) rfl 1 (by decide) lkC278 rfl dX8_goDown_95 ?_
    refine lv_iload C.ex C.by dX8_goDown_98 (lv_at hl 4 rfl) ?_
    refine lv_aload_n C.ex C.by dX8_goDown_100 rfl (lv_at hl 0 rfl) ?_
    refine z_get (v := .ref (κ.2.1 31)) C h iwX8 29 (wC_at29 κ _) rfl 1 (by decide) lkC278 rfl dX8_goDown_101 ?_
    refine lv_iload C.ex C.by dX8_goDown_104 (lv_at hl 4 rfl) ?_
    refine lv_iconst (v := 1) C.ex C.by dX8_goDown_106 (by decide) ?_
    refine lv_isub C.ex C.by dX8_goDown_107 ?_
    obtain ⟨h12, hf⟩ := zg_some hf
    refine z_iald (f := (zA a.2 14)) C h 31 (wC_at31 κ _) h12 dX8_goDown_108 ?_
    refine lv_iload_n C.ex C.by dX8_goDown_109 rfl (lv_at hl 1 rfl) ?_
    refine lv_isub C.ex C.by dX8_goDown_110 ?_
    obtain ⟨h13, hf⟩ := zg_some hf
    refine z_iast (f := (zA a.2 14)) C h 31 (wC_at31 κ _) h13 (sA (sA (sT a.2 (Int32.toNatClampNeg a.1) (zT a.2 (Int32.toNatClampNeg (a.1 - 1)))) 15 (upd (zA a.2 15) (Int32.toNatClampNeg a.1) ((zA a.2 15) (Int32.toNatClampNeg (a.1 - 1))))) 14 (upd (zA a.2 14) (Int32.toNatClampNeg a.1) (((zA a.2 14) (Int32.toNatClampNeg (a.1 - 1))) - k1))) (wC_s31 κ _ _) dX8_goDown_111 (fun H locs h => ?_)
    refine lv_iinc (v := (a.1 + (-1))) (lv' := [(4, .int (a.1 + (-1))), (0, .ref (κ.2.1 29)), (1, .int k1), (2, .ref (κ.2.1 (38 + 2 * k2))), (3, .int k3)]) C.ex C.by dX8_goDown_112 hl (k := 4) rfl rfl (by decide) rfl (fun ls hl => ?_)
    refine lv_goto (tgt := 56) C.ex C.by dX8_goDown_115 (by decide) ?_
    exact Kc _ _ (Option.some.inj hf).symm _ _ _ h (lv_sub hl [1, 2, 3, 4, 0] rfl)
theorem wlX8_goDown_56 {p : Program} {l : Launch} {e : Env} {s : State} {m : MethodId} {args : Array Value} {below : List Frame} {meth : Method} {c : Code} {A : Nat → Prop} {κ : zG} {H : Heap} {locs : List Loc} {ls : Array Slot} {Q : State → Prop} {n : Nat} {k1 : Int32} {k2 : Nat} {k3 : Int32} {k0 : Nat} {u4 : Int32} {σ1 : zS} (C : zC cX8_goDown 5 none RX8 κ A p s m args meth c) (h : zH wC κ A s σ1 H locs) (hl : lv_has ls 5 [(0, .ref (κ.2.1 29)), (1, .int k1), (2, .ref (κ.2.1 (38 + 2 * k2))), (3, .int k3), (4, .int u4)]) (b : zS) (hb : zlp (fX8_goDown_L56_56 n (κ.2.2.2 0) (κ.2.2.2 1) (κ.2.2.2 2) k1 k2 k3) k0 (u4, σ1) = some b) (K : (fun b : zS => ∀ (H : Heap) (locs : List Loc) (ls : Array Slot), zH wC κ A s b H locs → lv_has ls 5 [(0, .ref (κ.2.1 29)), (1, .int k1), (2, .ref (κ.2.1 (38 + 2 * k2))), (3, .int k3)] → W p l e rmX8_goDown s m args below meth c H locs 0 0 Q (F0 m 118 ls [])) b) : W p l e rmX8_goDown s m args below meth c H locs 0 0 Q (F0 m 56 ls []) :=
  z_loop (body := fX8_goDown_L56_56 n (κ.2.2.2 0) (κ.2.2.2 1) (κ.2.2.2 2) k1 k2 k3) (Wd := (fun a : Int32 × zS => ∀ (H : Heap) (locs : List Loc) (ls : Array Slot), zH wC κ A s a.2 H locs → lv_has ls 5 [(0, .ref (κ.2.1 29)), (1, .int k1), (2, .ref (κ.2.1 (38 + 2 * k2))), (3, .int k3), (4, .int a.1)] → W p l e rmX8_goDown s m args below meth c H locs 0 0 Q (F0 m 56 ls []))) (Ex := (fun b : zS => (fun b : zS => ∀ (H : Heap) (locs : List Loc) (ls : Array Slot), zH wC κ A s b H locs → lv_has ls 5 [(0, .ref (κ.2.1 29)), (1, .int k1), (2, .ref (κ.2.1 (38 + 2 * k2))), (3, .int k3)] → W p l e rmX8_goDown s m args below meth c H locs 0 0 Q (F0 m 118 ls [])) b)) (fun a r hr Kc Ke H locs ls h hl => wX8_goDown_L56_56 C h hl hr (fun v4 σ1 e => Kc (v4, σ1) e) (fun σ1 e => Ke σ1 e)) k0 (u4, σ1) b hb K H locs ls h hl
set_option maxRecDepth 20000 in
set_option maxHeartbeats 4000000 in
theorem wX8_goDown_0 {p : Program} {l : Launch} {e : Env} {s : State} {m : MethodId} {args : Array Value} {below : List Frame} {meth : Method} {c : Code} {A : Nat → Prop} {κ : zG} {H : Heap} {locs : List Loc} {ls : Array Slot} {n : Nat} {σ : zS} {r : zS} (C : zC cX8_goDown 5 none RX8 κ A p s m args meth c) (h : zH wC κ A s σ H locs) (hl : lv_has ls 5 [(0, .ref (κ.2.1 29))]) (hf : fX8_goDown_0 n (κ.2.2.2 0) (κ.2.2.2 1) (κ.2.2.2 2) σ = some r) : W p l e rmX8_goDown s m args below meth c H locs 0 0 (MQ below (zQv wC κ A r) args s 0 0 A) (F0 m 0 ls []) := by
  unfold fX8_goDown_0 at hf
  refine lv_aload_n C.ex C.by dX8_goDown_0 rfl (lv_at hl 0 rfl) ?_
  refine z_get (v := .int (zI σ 30)) C h iwX8 29 (wC_at29 κ _) rfl 3 (by decide) lkC277 rfl dX8_goDown_1 ?_
  refine lv_iconst (v := 2) C.ex C.by dX8_goDown_4 (by decide) ?_
  refine lv_icmp_lt (tgt := 17) C.ex C.by dX8_goDown_5 (by decide) (fun c1 => ?_) (fun c1 => ?_)
  · have hf := zif_t c1 hf
    cases hf
    exact z_vret C h dX8_goDown_17
  · have hf := zif_f c1 hf
    refine lv_aload_n C.ex C.by dX8_goDown_8 rfl (lv_at hl 0 rfl) ?_
    refine z_get (v := .int (zI σ 30)) C h iwX8 29 (wC_at29 κ _) rfl 3 (by decide) lkC277 rfl dX8_goDown_9 ?_
    refine lv_bipush (v := 6) C.ex C.by dX8_goDown_12 (by decide) ?_
    refine lv_icmp_le (tgt := 18) C.ex C.by dX8_goDown_14 (by decide) (fun c2 => ?_) (fun c2 => ?_)
    · have hf := zif_t c2 hf
      refine lv_aload_n C.ex C.by dX8_goDown_18 rfl (lv_at hl 0 rfl) ?_
      refine z_get (v := .ref (κ.2.1 31)) C h iwX8 29 (wC_at29 κ _) rfl 1 (by decide) lkC278 rfl dX8_goDown_19 ?_
      refine lv_aload_n C.ex C.by dX8_goDown_22 rfl (lv_at hl 0 rfl) ?_
      refine z_get (v := .int (zI σ 30)) C h iwX8 29 (wC_at29 κ _) rfl 3 (by decide) lkC277 rfl dX8_goDown_23 ?_
      refine lv_iconst (v := 1) C.ex C.by dX8_goDown_26 (by decide) ?_
      refine lv_isub C.ex C.by dX8_goDown_27 ?_
      obtain ⟨h3, hf⟩ := zg_some hf
      refine z_iald (f := (zA σ 14)) C h 31 (wC_at31 κ _) h3 dX8_goDown_28 ?_
      refine lv_istore_n (lv' := [(1, .int ((zA σ 14) (Int32.toNatClampNeg ((zI σ 30) - 1)))), (0, .ref (κ.2.1 29))]) C.ex C.by dX8_goDown_29 rfl hl (by decide) rfl (fun ls hl => ?_)
      refine lv_aload_n C.ex C.by dX8_goDown_30 rfl (lv_at hl 1 rfl) ?_
      refine z_get (v := .ref (κ.2.1 30)) C h iwX8 29 (wC_at29 κ _) rfl 0 (by decide) lkC286 rfl dX8_goDown_31 ?_
      refine lv_aload_n C.ex C.by dX8_goDown_34 rfl (lv_at hl 1 rfl) ?_
      refine z_get (v := .int (zI σ 30)) C h iwX8 29 (wC_at29 κ _) rfl 3 (by decide) lkC277 rfl dX8_goDown_35 ?_
      obtain ⟨h4, hf⟩ := zg_some hf
      refine z_aald (g := fun j => κ.2.1 (38 + 2 * zT σ j)) C h 30 (wC_at30 κ _) h4 dX8_goDown_38 ?_
      refine lv_astore_n (lv' := [(2, .ref (κ.2.1 (38 + 2 * (zT σ (Int32.toNatClampNeg (zI σ 30)))))), (1, .int ((zA σ 14) (Int32.toNatClampNeg ((zI σ 30) - 1)))), (0, .ref (κ.2.1 29))]) C.ex C.by dX8_goDown_39 rfl hl (by decide) rfl (fun ls hl => ?_)
      refine lv_aload_n C.ex C.by dX8_goDown_40 rfl (lv_at hl 2 rfl) ?_
      refine z_get (v := .ref (κ.2.1 32)) C h iwX8 29 (wC_at29 κ _) rfl 2 (by decide) lkC285 rfl dX8_goDown_41 ?_
      refine lv_aload_n C.ex C.by dX8_goDown_44 rfl (lv_at hl 2 rfl) ?_
      refine z_get (v := .int (zI σ 30)) C h iwX8 29 (wC_at29 κ _) rfl 3 (by decide) lkC277 rfl dX8_goDown_45 ?_
      obtain ⟨h5, hf⟩ := zg_some hf
      refine z_iald (f := (zA σ 15)) C h 32 (wC_at32 κ _) h5 dX8_goDown_48 ?_
      refine lv_istore_n (lv' := [(3, .int ((zA σ 15) (Int32.toNatClampNeg (zI σ 30)))), (2, .ref (κ.2.1 (38 + 2 * (zT σ (Int32.toNatClampNeg (zI σ 30)))))), (1, .int ((zA σ 14) (Int32.toNatClampNeg ((zI σ 30) - 1)))), (0, .ref (κ.2.1 29))]) C.ex C.by dX8_goDown_49 rfl hl (by decide) rfl (fun ls hl => ?_)
      refine lv_aload_n C.ex C.by dX8_goDown_50 rfl (lv_at hl 3 rfl) ?_
      refine z_get (v := .int (zI σ 30)) C h iwX8 29 (wC_at29 κ _) rfl 3 (by decide) lkC277 rfl dX8_goDown_51 ?_
      refine lv_istore (lv' := [(4, .int (zI σ 30)), (3, .int ((zA σ 15) (Int32.toNatClampNeg (zI σ 30)))), (2, .ref (κ.2.1 (38 + 2 * (zT σ (Int32.toNatClampNeg (zI σ 30)))))), (1, .int ((zA σ 14) (Int32.toNatClampNeg ((zI σ 30) - 1)))), (0, .ref (κ.2.1 29))]) C.ex C.by dX8_goDown_54 hl (by decide) rfl (fun ls hl => ?_)
      obtain ⟨b14, e15, hf⟩ := zb_some hf
      refine wlX8_goDown_56 C h (lv_sub hl [4, 3, 2, 1, 0] rfl) b14 e15 ?_
      intro H locs ls h hl
      refine lv_aload_n C.ex C.by dX8_goDown_118 rfl (lv_at hl 0 rfl) ?_
      refine z_get (v := .ref (κ.2.1 30)) C h iwX8 29 (wC_at29 κ _) rfl 0 (by decide) lkC286 rfl dX8_goDown_119 ?_
      refine lv_iconst (v := 1) C.ex C.by dX8_goDown_122 (by decide) ?_
      refine lv_aload_n C.ex C.by dX8_goDown_123 rfl (lv_at hl 2 rfl) ?_
      obtain ⟨h16, hf⟩ := zg_some hf
      obtain ⟨h17, hf⟩ := zg_some hf
      refine z_aast (g := fun j => κ.2.1 (38 + 2 * zT b14 j)) C h 30 (38 + 2 * (zT σ (Int32.toNatClampNeg (zI σ 30)))) (wC_at30 κ _) (wC_tr κ _ (z7_lt h17)) h16 (sT b14 (Int32.toNatClampNeg 1) (zT σ (Int32.toNatClampNeg (zI σ 30)))) (wC_s30 κ _ _ _) dX8_goDown_124 (fun H locs h => ?_)
      refine lv_aload_n C.ex C.by dX8_goDown_125 rfl (lv_at hl 0 rfl) ?_
      refine z_get (v := .ref (κ.2.1 32)) C h iwX8 29 (wC_at29 κ _) rfl 2 (by decide) lkC285 rfl dX8_goDown_126 ?_
      refine lv_iconst (v := 1) C.ex C.by dX8_goDown_129 (by decide) ?_
      refine lv_iload_n C.ex C.by dX8_goDown_130 rfl (lv_at hl 3 rfl) ?_
      obtain ⟨h18, hf⟩ := zg_some hf
      refine z_iast (f := (zA b14 15)) C h 32 (wC_at32 κ _) h18 (sA (sT b14 (Int32.toNatClampNeg 1) (zT σ (Int32.toNatClampNeg (zI σ 30)))) 15 (upd (zA b14 15) (Int32.toNatClampNeg 1) ((zA σ 15) (Int32.toNatClampNeg (zI σ 30))))) (wC_s32 κ _ _) dX8_goDown_131 (fun H locs h => ?_)
      refine lv_aload_n C.ex C.by dX8_goDown_132 rfl (lv_at hl 0 rfl) ?_
      refine z_get (v := .ref (κ.2.1 31)) C h iwX8 29 (wC_at29 κ _) rfl 1 (by decide) lkC278 rfl dX8_goDown_133 ?_
      refine lv_iconst (v := 1) C.ex C.by dX8_goDown_136 (by decide) ?_
      refine lv_iload_n C.ex C.by dX8_goDown_137 rfl (lv_at hl 1 rfl) ?_
      obtain ⟨h19, hf⟩ := zg_some hf
      refine z_iast (f := (zA b14 14)) C h 31 (wC_at31 κ _) h19 (sA (sA (sT b14 (Int32.toNatClampNeg 1) (zT σ (Int32.toNatClampNeg (zI σ 30)))) 15 (upd (zA b14 15) (Int32.toNatClampNeg 1) ((zA σ 15) (Int32.toNatClampNeg (zI σ 30))))) 14 (upd (zA b14 14) (Int32.toNatClampNeg 1) ((zA σ 14) (Int32.toNatClampNeg ((zI σ 30) - 1))))) (wC_s31 κ _ _) dX8_goDown_138 (fun H locs h => ?_)
      cases hf
      exact z_vret C h dX8_goDown_139
    · have hf := zif_f c2 hf
      cases hf
      exact z_vret C h dX8_goDown_17
theorem ctX8_goDown {l : Launch} {κ : zG} {n : Nat} {σ : zS} {r : zS} (hf : fX8_goDown_0 n (κ.2.2.2 0) (κ.2.2.2 1) (κ.2.2.2 2) σ = some r) : zMv l yX8_goDown (Cond.code yX8_goDown cX8_goDown 5 none) rmX8_goDown wC κ [.ref (κ.2.1 29)] σ r :=
  zMv_of (by decide) (Nat.le_of_ble_eq_true rfl) (fun p e s m below meth c A C h ls hl => wX8_goDown_0 C h hl hf)
