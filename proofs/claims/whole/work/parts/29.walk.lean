theorem hdX10_crash : yX10_crash.cls = RX10 ∧ yX10_crash.cls ≠ "java/lang/invoke/MethodHandle" ∧ yX10_crash.cls ≠ "java/lang/invoke/VarHandle" ∧ (parseMethodDescriptor yX10_crash.desc).map (fun d => d.parameters.length) = some 1 := by decide +kernel
abbrev rmX10_crash : Room := { frames := 1, cells := 0, slots := 0, locals := 22 }
set_option maxRecDepth 20000 in
set_option maxHeartbeats 4000000 in
theorem wX10_crash_28 {p : Program} {l : Launch} {e : Env} {s : State} {m : MethodId} {args : Array Value} {below : List Frame} {meth : Method} {c : Code} {A : Nat → Prop} {κ : zG} {H : Heap} {locs : List Loc} {ls : Array Slot} {n : Nat} {σ : zS} {x1 : Int32} {y0 : Int32} {r : zS} (C : zC cX10_crash 2 none RX10 κ A p s m args meth c) (h : zH wM κ A s σ H locs) (hl : lv_has ls 2 [(0, .ref (κ.2.1 0)), (1, .int x1)]) (hf : fX10_crash_28 n σ x1 y0 = some r) : W p l e rmX10_crash s m args below meth c H locs 0 0 (MQ below (zQv wM κ A r) args s 0 0 A) (F0 m 28 ls [.int y0, .ref (κ.2.1 0)]) := by
  unfold fX10_crash_28 at hf
  refine z_put C h iwX10 tyX10_ok nmX10 0 (wM_at0 κ _) rfl 0 (by decide) lkM8 rfl rfl rfl (Nat.le_of_ble_eq_true rfl) (sI σ 0 y0) (wM_s0_0 κ _ _) dX10_crash_28 (fun H locs h => ?_)
  refine lv_aload_n C.ex C.by dX10_crash_31 rfl (lv_at hl 0 rfl) ?_
  refine z_get (v := .int y0) C h iwX10 0 (wM_at0 κ _) rfl 0 (by decide) lkM8 rfl dX10_crash_32 ?_
  refine lv_if_le (tgt := 39) C.ex C.by dX10_crash_35 (by decide) (fun c5 => ?_) (fun c5 => ?_)
  · have hf := zif_t c5 hf
    refine lv_aload_n C.ex C.by dX10_crash_39 rfl (lv_at hl 0 rfl) ?_
    refine lv_iload_n C.ex C.by dX10_crash_40 rfl (lv_at hl 1 rfl) ?_
    refine z_put C h iwX10 tyX10_ok nmX10 0 (wM_at0 κ _) rfl 27 (by decide) lkM30 rfl rfl rfl (Nat.le_of_ble_eq_true rfl) (sI (sI σ 0 y0) 15 x1) (wM_s0_27 κ _ _) dX10_crash_41 (fun H locs h => ?_)
    cases hf
    exact z_vret C h dX10_crash_44
  · have hf := zif_f c5 hf
    cases hf
    exact z_vret C h dX10_crash_38
set_option maxRecDepth 20000 in
set_option maxHeartbeats 4000000 in
theorem wX10_crash_0 {p : Program} {l : Launch} {e : Env} {s : State} {m : MethodId} {args : Array Value} {below : List Frame} {meth : Method} {c : Code} {A : Nat → Prop} {κ : zG} {H : Heap} {locs : List Loc} {ls : Array Slot} {n : Nat} {σ : zS} {x1 : Int32} {r : zS} (C : zC cX10_crash 2 none RX10 κ A p s m args meth c) (h : zH wM κ A s σ H locs) (hl : lv_has ls 2 [(0, .ref (κ.2.1 0)), (1, .int x1)]) (hf : fX10_crash_0 n σ x1 = some r) : W p l e rmX10_crash s m args below meth c H locs 0 0 (MQ below (zQv wM κ A r) args s 0 0 A) (F0 m 0 ls []) := by
  unfold fX10_crash_0 at hf
  refine lv_aload_n C.ex C.by dX10_crash_0 rfl (lv_at hl 0 rfl) ?_
  refine lv_iload_n C.ex C.by dX10_crash_1 rfl (lv_at hl 1 rfl) ?_
  refine lv_iconst (v := (-1)) C.ex C.by dX10_crash_2 (by decide) ?_
  refine lv_ldcw (v := 100000) C.ex C.by C.ow (C.ts _ lkM240) dX10_crash_3 ?_
  obtain ⟨q1, e2, hf⟩ := zb_some hf
  refine z_callSi (As := [.int x1, .int (-1), .int 100000]) C h (ctX10_isIn e2) (zgS lkM0 lkM1 lkM2 lkM3) ⟨rfl, rfl⟩ hdX10_isIn ⟨Nat.le_of_ble_eq_true rfl, Nat.le_of_ble_eq_true rfl⟩ hl rfl rfl (Nat.le_of_ble_eq_true rfl) dX10_crash_6 ⟨Nat.zero_le _, Nat.zero_le _⟩ (fun H locs h => ?_)
  refine lv_if_ne (tgt := 16) C.ex C.by dX10_crash_9 (by decide) (fun c3 => ?_) (fun c3 => ?_)
  · have hf := zif_f c3 hf
    refine lv_aload_n C.ex C.by dX10_crash_16 rfl (lv_at hl 0 rfl) ?_
    refine z_get (v := .int (zI σ 16)) C h iwX10 0 (wM_at0 κ _) rfl 28 (by decide) lkM4 rfl dX10_crash_17 ?_
    refine lv_if_eq (tgt := 27) C.ex C.by dX10_crash_20 (by decide) (fun c4 => ?_) (fun c4 => ?_)
    · have hf := zif_t c4 hf
      refine lv_iconst (v := 0) C.ex C.by dX10_crash_27 (by decide) ?_
      exact wX10_crash_28 C h hl hf
    · have hf := zif_f c4 hf
      refine lv_iconst (v := 2) C.ex C.by dX10_crash_23 (by decide) ?_
      refine lv_goto (tgt := 28) C.ex C.by dX10_crash_24 (by decide) ?_
      exact wX10_crash_28 C h hl hf
  · have hf := zif_t c3 hf
    refine lv_iconst (v := 1) C.ex C.by dX10_crash_12 (by decide) ?_
    refine lv_goto (tgt := 28) C.ex C.by dX10_crash_13 (by decide) ?_
    exact wX10_crash_28 C h hl hf
theorem ctX10_crash {l : Launch} {κ : zG} {n : Nat} {σ : zS} {x1 : Int32} {r : zS} (hf : fX10_crash_0 n σ x1 = some r) : zMv l yX10_crash (Cond.code yX10_crash cX10_crash 2 none) rmX10_crash wM κ [.ref (κ.2.1 0), .int x1] σ r :=
  zMv_of (by decide) (Nat.le_of_ble_eq_true rfl) (fun p e s m below meth c A C h ls hl => wX10_crash_0 C h hl hf)
theorem hdX10_up : yX10_up.cls = RX10 ∧ yX10_up.cls ≠ "java/lang/invoke/MethodHandle" ∧ yX10_up.cls ≠ "java/lang/invoke/VarHandle" ∧ (parseMethodDescriptor yX10_up.desc).map (fun d => d.parameters.length) = some 0 := by decide +kernel
abbrev rmX10_up : Room := { frames := 0, cells := 0, slots := 0, locals := 0 }
set_option maxRecDepth 20000 in
set_option maxHeartbeats 4000000 in
theorem wX10_up_13 {p : Program} {l : Launch} {e : Env} {s : State} {m : MethodId} {args : Array Value} {below : List Frame} {meth : Method} {c : Code} {A : Nat → Prop} {κ : zG} {H : Heap} {locs : List Loc} {ls : Array Slot} {n : Nat} {σ : zS} {y0 : Int32} {r1 : Int32} {r2 : zS} (C : zC cX10_up 1 (some .int) RX10 κ A p s m args meth c) (h : zH wM κ A s σ H locs) (hl : lv_has ls 1 [(0, .ref (κ.2.1 0))]) (hf : fX10_up_13 n σ y0 = some (r1, r2)) : W p l e rmX10_up s m args below meth c H locs 0 0 (MQ below (zQi wM κ A r1 r2) args s 0 0 A) (F0 m 13 ls [.int y0, .ref (κ.2.1 0)]) := by
  unfold fX10_up_13 at hf
  refine z_put C h iwX10 tyX10_ok nmX10 0 (wM_at0 κ _) rfl 0 (by decide) lkM8 rfl rfl rfl (Nat.le_of_ble_eq_true rfl) (sI σ 0 y0) (wM_s0_0 κ _ _) dX10_up_13 (fun H locs h => ?_)
  refine lv_aload_n C.ex C.by dX10_up_16 rfl (lv_at hl 0 rfl) ?_
  refine z_get (v := .int y0) C h iwX10 0 (wM_at0 κ _) rfl 0 (by decide) lkM8 rfl dX10_up_17 ?_
  refine lv_if_le (tgt := 25) C.ex C.by dX10_up_20 (by decide) (fun c2 => ?_) (fun c2 => ?_)
  · have hf := zif_t c2 hf
    refine lv_aload_n C.ex C.by dX10_up_25 rfl (lv_at hl 0 rfl) ?_
    refine lv_iconst (v := 0) C.ex C.by dX10_up_26 (by decide) ?_
    refine z_put C h iwX10 tyX10_ok nmX10 0 (wM_at0 κ _) rfl 28 (by decide) lkM4 rfl rfl rfl (Nat.le_of_ble_eq_true rfl) (sI (sI σ 0 y0) 16 0) (wM_s0_28 κ _ _) dX10_up_27 (fun H locs h => ?_)
    refine lv_aload_n C.ex C.by dX10_up_30 rfl (lv_at hl 0 rfl) ?_
    refine lv_iconst (v := (-1)) C.ex C.by dX10_up_31 (by decide) ?_
    refine z_put C h iwX10 tyX10_ok nmX10 0 (wM_at0 κ _) rfl 27 (by decide) lkM30 rfl rfl rfl (Nat.le_of_ble_eq_true rfl) (sI (sI (sI σ 0 y0) 16 0) 15 (-1)) (wM_s0_27 κ _ _) dX10_up_32 (fun H locs h => ?_)
    refine lv_aload_n C.ex C.by dX10_up_35 rfl (lv_at hl 0 rfl) ?_
    refine z_get (v := .int (zI σ 4)) C h iwX10 0 (wM_at0 κ _) rfl 13 (by decide) lkM5 rfl dX10_up_36 ?_
    cases hf
    exact z_iret C h dX10_up_39
  · have hf := zif_f c2 hf
    refine lv_iconst (v := 0) C.ex C.by dX10_up_23 (by decide) ?_
    cases hf
    exact z_iret C h dX10_up_24
set_option maxRecDepth 20000 in
set_option maxHeartbeats 4000000 in
theorem wX10_up_0 {p : Program} {l : Launch} {e : Env} {s : State} {m : MethodId} {args : Array Value} {below : List Frame} {meth : Method} {c : Code} {A : Nat → Prop} {κ : zG} {H : Heap} {locs : List Loc} {ls : Array Slot} {n : Nat} {σ : zS} {r1 : Int32} {r2 : zS} (C : zC cX10_up 1 (some .int) RX10 κ A p s m args meth c) (h : zH wM κ A s σ H locs) (hl : lv_has ls 1 [(0, .ref (κ.2.1 0))]) (hf : fX10_up_0 n σ = some (r1, r2)) : W p l e rmX10_up s m args below meth c H locs 0 0 (MQ below (zQi wM κ A r1 r2) args s 0 0 A) (F0 m 0 ls []) := by
  unfold fX10_up_0 at hf
  refine lv_aload_n C.ex C.by dX10_up_0 rfl (lv_at hl 0 rfl) ?_
  refine lv_aload_n C.ex C.by dX10_up_1 rfl (lv_at hl 0 rfl) ?_
  refine z_get (v := .int (zI σ 16)) C h iwX10 0 (wM_at0 κ _) rfl 28 (by decide) lkM4 rfl dX10_up_2 ?_
  refine lv_if_eq (tgt := 12) C.ex C.by dX10_up_5 (by decide) (fun c1 => ?_) (fun c1 => ?_)
  · have hf := zif_t c1 hf
    refine lv_iconst (v := 1) C.ex C.by dX10_up_12 (by decide) ?_
    exact wX10_up_13 C h hl hf
  · have hf := zif_f c1 hf
    refine lv_iconst (v := 0) C.ex C.by dX10_up_8 (by decide) ?_
    refine lv_goto (tgt := 13) C.ex C.by dX10_up_9 (by decide) ?_
    exact wX10_up_13 C h hl hf
theorem ctX10_up {l : Launch} {κ : zG} {n : Nat} {σ : zS} {r1 : Int32} {r2 : zS} (hf : fX10_up_0 n σ = some (r1, r2)) : zMi l yX10_up (Cond.code yX10_up cX10_up 1 (some .int)) rmX10_up wM κ [.ref (κ.2.1 0)] σ r1 r2 :=
  zMi_of (by decide) (Nat.le_of_ble_eq_true rfl) (fun p e s m below meth c A C h ls hl => wX10_up_0 C h hl hf)
theorem hdX10_thrown : yX10_thrown.cls = RX10 ∧ yX10_thrown.cls ≠ "java/lang/invoke/MethodHandle" ∧ yX10_thrown.cls ≠ "java/lang/invoke/VarHandle" ∧ (parseMethodDescriptor yX10_thrown.desc).map (fun d => d.parameters.length) = some 0 := by decide +kernel
abbrev rmX10_thrown : Room := { frames := 0, cells := 0, slots := 0, locals := 0 }
set_option maxRecDepth 20000 in
set_option maxHeartbeats 4000000 in
theorem wX10_thrown_0 {p : Program} {l : Launch} {e : Env} {s : State} {m : MethodId} {args : Array Value} {below : List Frame} {meth : Method} {c : Code} {A : Nat → Prop} {κ : zG} {H : Heap} {locs : List Loc} {ls : Array Slot} {n : Nat} {σ : zS} {r : Int32} (C : zC cX10_thrown 1 (some .int) RX10 κ A p s m args meth c) (h : zH wM κ A s σ H locs) (hl : lv_has ls 1 [(0, .ref (κ.2.1 0))]) (hf : fX10_thrown_0 n σ = some r) : W p l e rmX10_thrown s m args below meth c H locs 0 0 (MQ below (zQi wM κ A r σ) args s 0 0 A) (F0 m 0 ls []) := by
  unfold fX10_thrown_0 at hf
  refine lv_aload_n C.ex C.by dX10_thrown_0 rfl (lv_at hl 0 rfl) ?_
  refine z_get (v := .int (zI σ 0)) C h iwX10 0 (wM_at0 κ _) rfl 0 (by decide) lkM8 rfl dX10_thrown_1 ?_
  cases hf
  exact z_iret C h dX10_thrown_4
theorem ctX10_thrown {l : Launch} {κ : zG} {n : Nat} {σ : zS} {r : Int32} (hf : fX10_thrown_0 n σ = some r) : zMi l yX10_thrown (Cond.code yX10_thrown cX10_thrown 1 (some .int)) rmX10_thrown wM κ [.ref (κ.2.1 0)] σ r σ :=
  zMi_of (by decide) (Nat.le_of_ble_eq_true rfl) (fun p e s m below meth c A C h ls hl => wX10_thrown_0 C h hl hf)
