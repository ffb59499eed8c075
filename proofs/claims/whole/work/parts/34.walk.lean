theorem hdX1_setHeld : yX1_setHeld.cls = RX1 ∧ yX1_setHeld.cls ≠ "java/lang/invoke/MethodHandle" ∧ yX1_setHeld.cls ≠ "java/lang/invoke/VarHandle" ∧ (parseMethodDescriptor yX1_setHeld.desc).map (fun d => d.parameters.length) = some 2 := by decide +kernel
abbrev rmX1_setHeld : Room := { frames := 0, cells := 0, slots := 0, locals := 0 }
set_option maxRecDepth 20000 in
set_option maxHeartbeats 4000000 in
theorem wX1_setHeld_0 {p : Program} {l : Launch} {e : Env} {s : State} {m : MethodId} {args : Array Value} {below : List Frame} {meth : Method} {c : Code} {A : Nat → Prop} {κ : zG} {H : Heap} {locs : List Loc} {ls : Array Slot} {n : Nat} {σ : zS} {x1 : Int32} {x2 : Int32} {r : zS} (C : zC cX1_setHeld 3 none RX1 κ A p s m args meth c) (h : zH wC κ A s σ H locs) (hl : lv_has ls 3 [(0, .ref (κ.2.1 7)), (1, .int x1), (2, .int x2)]) (hf : fX1_setHeld_0 n (κ.2.2.2 0) (κ.2.2.2 1) (κ.2.2.2 2) σ x1 x2 = some r) : W p l e rmX1_setHeld s m args below meth c H locs 0 0 (MQ below (zQv wC κ A r) args s 0 0 A) (F0 m 0 ls []) := by
  unfold fX1_setHeld_0 at hf
  refine lv_iload_n C.ex C.by dX1_setHeld_0 rfl (lv_at hl 1 rfl) ?_
  refine lv_if_lt (tgt := 20) C.ex C.by dX1_setHeld_1 (by decide) (fun c1 => ?_) (fun c1 => ?_)
  · have hf := zif_t c1 hf
    cases hf
    exact z_vret C h dX1_setHeld_20
  · have hf := zif_f c1 hf
    refine lv_iload_n C.ex C.by dX1_setHeld_4 rfl (lv_at hl 1 rfl) ?_
    refine lv_aload_n C.ex C.by dX1_setHeld_5 rfl (lv_at hl 0 rfl) ?_
    refine z_get (v := .ref (κ.2.1 9)) C h iwX1 7 (wC_at7 κ _) rfl 2 (by decide) lkC161 rfl dX1_setHeld_6 ?_
    refine z_alen (t0 := 0) C h 9 (wC_at9 κ _) rfl dX1_setHeld_9 ?_
    refine lv_icmp_ge (tgt := 20) C.ex C.by dX1_setHeld_10 (by decide) (fun c2 => ?_) (fun c2 => ?_)
    · have hf := zif_t c2 hf
      cases hf
      exact z_vret C h dX1_setHeld_20
    · have hf := zif_f c2 hf
      refine lv_aload_n C.ex C.by dX1_setHeld_13 rfl (lv_at hl 0 rfl) ?_
      refine z_get (v := .ref (κ.2.1 9)) C h iwX1 7 (wC_at7 κ _) rfl 2 (by decide) lkC161 rfl dX1_setHeld_14 ?_
      refine lv_iload_n C.ex C.by dX1_setHeld_17 rfl (lv_at hl 1 rfl) ?_
      refine lv_iload_n C.ex C.by dX1_setHeld_18 rfl (lv_at hl 2 rfl) ?_
      obtain ⟨h3, hf⟩ := zg_some hf
      refine z_iast (f := (zA σ 4)) C h 9 (wC_at9 κ _) h3 (sA σ 4 (upd (zA σ 4) (Int32.toNatClampNeg x1) x2)) (wC_s9 κ _ _) dX1_setHeld_19 (fun H locs h => ?_)
      cases hf
      exact z_vret C h dX1_setHeld_20
theorem ctX1_setHeld {l : Launch} {κ : zG} {n : Nat} {σ : zS} {x1 : Int32} {x2 : Int32} {r : zS} (hf : fX1_setHeld_0 n (κ.2.2.2 0) (κ.2.2.2 1) (κ.2.2.2 2) σ x1 x2 = some r) : zMv l yX1_setHeld (Cond.code yX1_setHeld cX1_setHeld 3 none) rmX1_setHeld wC κ [.ref (κ.2.1 7), .int x1, .int x2] σ r :=
  zMv_of (by decide) (Nat.le_of_ble_eq_true rfl) (fun p e s m below meth c A C h ls hl => wX1_setHeld_0 C h hl hf)
theorem hdX7_beginRun : yX7_beginRun.cls = RX7 ∧ yX7_beginRun.cls ≠ "java/lang/invoke/MethodHandle" ∧ yX7_beginRun.cls ≠ "java/lang/invoke/VarHandle" ∧ (parseMethodDescriptor yX7_beginRun.desc).map (fun d => d.parameters.length) = some 0 := by decide +kernel
abbrev rmX7_beginRun : Room := { frames := 0, cells := 0, slots := 0, locals := 0 }
set_option maxRecDepth 20000 in
set_option maxHeartbeats 4000000 in
theorem wX7_beginRun_0 {p : Program} {l : Launch} {e : Env} {s : State} {m : MethodId} {args : Array Value} {below : List Frame} {meth : Method} {c : Code} {A : Nat → Prop} {κ : zG} {H : Heap} {locs : List Loc} {ls : Array Slot} {n : Nat} {σ : zS} {r : zS} (C : zC cX7_beginRun 1 none RX7 κ A p s m args meth c) (h : zH wC κ A s σ H locs) (hl : lv_has ls 1 [(0, .ref (κ.2.1 14))]) (hf : fX7_beginRun_0 n (κ.2.2.2 0) (κ.2.2.2 1) (κ.2.2.2 2) σ = some r) : W p l e rmX7_beginRun s m args below meth c H locs 0 0 (MQ below (zQv wC κ A r) args s 0 0 A) (F0 m 0 ls []) := by
  unfold fX7_beginRun_0 at hf
  refine lv_aload_n C.ex C.by dX7_beginRun_0 rfl (lv_at hl 0 rfl) ?_
  refine lv_iconst (v := 0) C.ex C.by dX7_beginRun_1 (by decide) ?_
  refine z_put C h iwX7 tyX7_ok nmX7 14 (wC_at14 κ _) rfl 8 (by decide) lkC116 rfl rfl rfl (Nat.le_of_ble_eq_true rfl) (sI σ 20 0) (wC_s14_8 κ _ _) dX7_beginRun_2 (fun H locs h => ?_)
  refine lv_aload_n C.ex C.by dX7_beginRun_5 rfl (lv_at hl 0 rfl) ?_
  refine lv_iconst (v := (-1)) C.ex C.by dX7_beginRun_6 (by decide) ?_
  refine z_put C h iwX7 tyX7_ok nmX7 14 (wC_at14 κ _) rfl 9 (by decide) lkC107 rfl rfl rfl (Nat.le_of_ble_eq_true rfl) (sI (sI σ 20 0) 21 (-1)) (wC_s14_9 κ _ _) dX7_beginRun_7 (fun H locs h => ?_)
  refine lv_aload_n C.ex C.by dX7_beginRun_10 rfl (lv_at hl 0 rfl) ?_
  refine lv_iconst (v := (-1)) C.ex C.by dX7_beginRun_11 (by decide) ?_
  refine z_put C h iwX7 tyX7_ok nmX7 14 (wC_at14 κ _) rfl 10 (by decide) lkC148 rfl rfl rfl (Nat.le_of_ble_eq_true rfl) (sI (sI (sI σ 20 0) 21 (-1)) 22 (-1)) (wC_s14_10 κ _ _) dX7_beginRun_12 (fun H locs h => ?_)
  refine lv_aload_n C.ex C.by dX7_beginRun_15 rfl (lv_at hl 0 rfl) ?_
  refine lv_iconst (v := (-1)) C.ex C.by dX7_beginRun_16 (by decide) ?_
  refine z_put C h iwX7 tyX7_ok nmX7 14 (wC_at14 κ _) rfl 11 (by decide) lkC143 rfl rfl rfl (Nat.le_of_ble_eq_true rfl) (sI (sI (sI (sI σ 20 0) 21 (-1)) 22 (-1)) 23 (-1)) (wC_s14_11 κ _ _) dX7_beginRun_17 (fun H locs h => ?_)
  refine lv_aload_n C.ex C.by dX7_beginRun_20 rfl (lv_at hl 0 rfl) ?_
  refine lv_iconst (v := 0) C.ex C.by dX7_beginRun_21 (by decide) ?_
  refine z_put C h iwX7 tyX7_ok nmX7 14 (wC_at14 κ _) rfl 12 (by decide) lkC123 rfl rfl rfl (Nat.le_of_ble_eq_true rfl) (sI (sI (sI (sI (sI σ 20 0) 21 (-1)) 22 (-1)) 23 (-1)) 24 0) (wC_s14_12 κ _ _) dX7_beginRun_22 (fun H locs h => ?_)
  cases hf
  exact z_vret C h dX7_beginRun_25
theorem ctX7_beginRun {l : Launch} {κ : zG} {n : Nat} {σ : zS} {r : zS} (hf : fX7_beginRun_0 n (κ.2.2.2 0) (κ.2.2.2 1) (κ.2.2.2 2) σ = some r) : zMv l yX7_beginRun (Cond.code yX7_beginRun cX7_beginRun 1 none) rmX7_beginRun wC κ [.ref (κ.2.1 14)] σ r :=
  zMv_of (by decide) (Nat.le_of_ble_eq_true rfl) (fun p e s m below meth c A C h ls hl => wX7_beginRun_0 C h hl hf)
theorem hdX7_endRun : yX7_endRun.cls = RX7 ∧ yX7_endRun.cls ≠ "java/lang/invoke/MethodHandle" ∧ yX7_endRun.cls ≠ "java/lang/invoke/VarHandle" ∧ (parseMethodDescriptor yX7_endRun.desc).map (fun d => d.parameters.length) = some 0 := by decide +kernel
abbrev rmX7_endRun : Room := { frames := 4, cells := 0, slots := 0, locals := 87 }
set_option maxRecDepth 20000 in
set_option maxHeartbeats 4000000 in
theorem wX7_endRun_57 {p : Program} {l : Launch} {e : Env} {s : State} {m : MethodId} {args : Array Value} {below : List Frame} {meth : Method} {c : Code} {A : Nat → Prop} {κ : zG} {H : Heap} {locs : List Loc} {ls : Array Slot} {n : Nat} {σ : zS} {r1 : Int32} {r2 : zS} (C : zC cX7_endRun 1 (some .boolean) RX7 κ A p s m args meth c) (h : zH wC κ A s σ H locs) (hl : lv_has ls 1 [(0, .ref (κ.2.1 14))]) (hf : fX7_endRun_57 n (κ.2.2.2 0) (κ.2.2.2 1) (κ.2.2.2 2) σ = some (r1, r2)) : W p l e rmX7_endRun s m args below meth c H locs 0 0 (MQ below (zQi wC κ A r1 r2) args s 0 0 A) (F0 m 57 ls []) := by
  unfold fX7_endRun_57 at hf
  refine lv_aload_n C.ex C.by dX7_endRun_57 rfl (lv_at hl 0 rfl) ?_
  obtain ⟨q13, e14, hf⟩ := zb_some hf
  refine z_callVv (As := []) C h (ctX7_beginRun e14) (zgV lkC167 lkC168 lkC169 lkC121 lkC170) ⟨rfl, rfl⟩ hdX7_beginRun ⟨Nat.le_of_ble_eq_true rfl, Nat.le_of_ble_eq_true rfl⟩ 14 (wC_at14 κ _) rfl hl rfl rfl (Nat.le_of_ble_eq_true rfl) dX7_endRun_58 ⟨Nat.zero_le _, Nat.zero_le _⟩ (fun H locs h => ?_)
  refine lv_iconst (v := 1) C.ex C.by dX7_endRun_61 (by decide) ?_
  cases hf
  exact z_zret (r := 1) C h rfl dX7_endRun_62
set_option maxRecDepth 20000 in
set_option maxHeartbeats 4000000 in
theorem wX7_endRun_23 {p : Program} {l : Launch} {e : Env} {s : State} {m : MethodId} {args : Array Value} {below : List Frame} {meth : Method} {c : Code} {A : Nat → Prop} {κ : zG} {H : Heap} {locs : List Loc} {ls : Array Slot} {n : Nat} {σ : zS} {r1 : Int32} {r2 : zS} (C : zC cX7_endRun 1 (some .boolean) RX7 κ A p s m args meth c) (h : zH wC κ A s σ H locs) (hl : lv_has ls 1 [(0, .ref (κ.2.1 14))]) (hf : fX7_endRun_23 n (κ.2.2.2 0) (κ.2.2.2 1) (κ.2.2.2 2) σ = some (r1, r2)) : W p l e rmX7_endRun s m args below meth c H locs 0 0 (MQ below (zQi wC κ A r1 r2) args s 0 0 A) (F0 m 23 ls []) := by
  unfold fX7_endRun_23 at hf
  refine lv_aload_n C.ex C.by dX7_endRun_23 rfl (lv_at hl 0 rfl) ?_
  refine z_get (v := .int (zI σ 22)) C h iwX7 14 (wC_at14 κ _) rfl 10 (by decide) lkC148 rfl dX7_endRun_24 ?_
  refine lv_iconst (v := (-1)) C.ex C.by dX7_endRun_27 (by decide) ?_
  refine lv_icmp_eq (tgt := 57) C.ex C.by dX7_endRun_28 (by decide) (fun c8 => ?_) (fun c8 => ?_)
  · have hf := zif_t c8 hf
    exact wX7_endRun_57 C h hl hf
  · have hf := zif_f c8 hf
    refine lv_aload_n C.ex C.by dX7_endRun_31 rfl (lv_at hl 0 rfl) ?_
    refine z_get (v := .ref (κ.2.1 7)) C h iwX7 14 (wC_at14 κ _) rfl 2 (by decide) lkC142 rfl dX7_endRun_32 ?_
    refine lv_aload_n C.ex C.by dX7_endRun_35 rfl (lv_at hl 0 rfl) ?_
    refine z_get (v := .int (zI σ 22)) C h iwX7 14 (wC_at14 κ _) rfl 10 (by decide) lkC148 rfl dX7_endRun_36 ?_
    refine lv_aload_n C.ex C.by dX7_endRun_39 rfl (lv_at hl 0 rfl) ?_
    refine z_get (v := .int (zI σ 24)) C h iwX7 14 (wC_at14 κ _) rfl 12 (by decide) lkC123 rfl dX7_endRun_40 ?_
    obtain ⟨q9, e10, hf⟩ := zb_some hf
    refine z_callVv (As := [.int (zI σ 22), .int (zI σ 24)]) C h (ctX1_setHeld e10) (zgV lkC162 lkC163 lkC164 lkC11 lkC165) ⟨rfl, rfl⟩ hdX1_setHeld ⟨Nat.le_of_ble_eq_true rfl, Nat.le_of_ble_eq_true rfl⟩ 7 (wC_at7 κ _) rfl hl rfl rfl (Nat.le_of_ble_eq_true rfl) dX7_endRun_43 ⟨Nat.zero_le _, Nat.zero_le _⟩ (fun H locs h => ?_)
    refine lv_aload_n C.ex C.by dX7_endRun_46 rfl (lv_at hl 0 rfl) ?_
    refine z_get (v := .ref (κ.2.1 18)) C h iwX7 14 (wC_at14 κ _) rfl 5 (by decide) lkC166 rfl dX7_endRun_47 ?_
    refine lv_aload_n C.ex C.by dX7_endRun_50 rfl (lv_at hl 0 rfl) ?_
    refine z_get (v := .int (zI q9 22)) C h iwX7 14 (wC_at14 κ _) rfl 10 (by decide) lkC148 rfl dX7_endRun_51 ?_
    obtain ⟨q11, e12, hf⟩ := zb_some hf
    refine z_callRv (As := [.int (zI q9 22)]) (x := (zI q9 26)) (f := (zA q9 7)) C h (ctX6_add (κ := zκR κ (κ.2.1 18) (κ.2.1 19) (κ.2.2.2 0)) e12) (zgV lkC138 lkC139 lkC140 lkC52 lkC141) ⟨rfl, rfl⟩ hdX6_add ⟨Nat.le_of_ble_eq_true rfl, Nat.le_of_ble_eq_true rfl⟩ 18 19 (by decide) (wC_at18 κ _) (wC_at19 κ _) (sA (sI q9 26 (zI q11 0)) 7 (zA q11 0)) (wC_sr18 κ _ _ _) hl rfl rfl (Nat.le_of_ble_eq_true rfl) dX7_endRun_54 ⟨Nat.zero_le _, Nat.zero_le _⟩ (fun H locs h => ?_)
    exact wX7_endRun_57 C h hl hf
set_option maxRecDepth 20000 in
set_option maxHeartbeats 4000000 in
theorem wX7_endRun_0 {p : Program} {l : Launch} {e : Env} {s : State} {m : MethodId} {args : Array Value} {below : List Frame} {meth : Method} {c : Code} {A : Nat → Prop} {κ : zG} {H : Heap} {locs : List Loc} {ls : Array Slot} {n : Nat} {σ : zS} {r1 : Int32} {r2 : zS} (C : zC cX7_endRun 1 (some .boolean) RX7 κ A p s m args meth c) (h : zH wC κ A s σ H locs) (hl : lv_has ls 1 [(0, .ref (κ.2.1 14))]) (hf : fX7_endRun_0 n (κ.2.2.2 0) (κ.2.2.2 1) (κ.2.2.2 2) σ = some (r1, r2)) : W p l e rmX7_endRun s m args below meth c H locs 0 0 (MQ below (zQi wC κ A r1 r2) args s 0 0 A) (F0 m 0 ls []) := by
  unfold fX7_endRun_0 at hf
  refine lv_aload_n C.ex C.by dX7_endRun_0 rfl (lv_at hl 0 rfl) ?_
  obtain ⟨q1, e2, hf⟩ := zb_some hf
  refine z_callVi (As := []) C h (ctX7_settleWaiting (r1 := q1.1) (r2 := q1.2) e2) (zgV lkC153 lkC154 lkC155 lkC121 lkC156) ⟨rfl, rfl⟩ hdX7_settleWaiting ⟨Nat.le_of_ble_eq_true rfl, Nat.le_of_ble_eq_true rfl⟩ 14 (wC_at14 κ _) rfl hl rfl rfl (Nat.le_of_ble_eq_true rfl) dX7_endRun_1 ⟨Nat.zero_le _, Nat.zero_le _⟩ (fun H locs h => ?_)
  refine lv_if_eq (tgt := 21) C.ex C.by dX7_endRun_4 (by decide) (fun c3 => ?_) (fun c3 => ?_)
  · have hf := zif_t c3 hf
    refine lv_iconst (v := 0) C.ex C.by dX7_endRun_21 (by decide) ?_
    cases hf
    exact z_zret (r := 0) C h rfl dX7_endRun_22
  · have hf := zif_f c3 hf
    refine lv_aload_n C.ex C.by dX7_endRun_7 rfl (lv_at hl 0 rfl) ?_
    refine z_get (v := .int (zI q1.2 20)) C h iwX7 14 (wC_at14 κ _) rfl 8 (by decide) lkC116 rfl dX7_endRun_8 ?_
    refine lv_if_le (tgt := 23) C.ex C.by dX7_endRun_11 (by decide) (fun c4 => ?_) (fun c4 => ?_)
    · have hf := zif_t c4 hf
      exact wX7_endRun_23 C h hl hf
    · have hf := zif_f c4 hf
      refine lv_aload_n C.ex C.by dX7_endRun_14 rfl (lv_at hl 0 rfl) ?_
      obtain ⟨q5, e6, hf⟩ := zb_some hf
      refine z_callVi (As := []) C h (ctX7_writePage (r1 := q5.1) (r2 := q5.2) e6) (zgV lkC149 lkC150 lkC151 lkC121 lkC152) ⟨rfl, rfl⟩ hdX7_writePage ⟨Nat.le_of_ble_eq_true rfl, Nat.le_of_ble_eq_true rfl⟩ 14 (wC_at14 κ _) rfl hl rfl rfl (Nat.le_of_ble_eq_true rfl) dX7_endRun_15 ⟨Nat.zero_le _, Nat.zero_le _⟩ (fun H locs h => ?_)
      refine lv_if_ne (tgt := 23) C.ex C.by dX7_endRun_18 (by decide) (fun c7 => ?_) (fun c7 => ?_)
      · have hf := zif_f c7 hf
        exact wX7_endRun_23 C h hl hf
      · have hf := zif_t c7 hf
        refine lv_iconst (v := 0) C.ex C.by dX7_endRun_21 (by decide) ?_
        cases hf
        exact z_zret (r := 0) C h rfl dX7_endRun_22
theorem ctX7_endRun {l : Launch} {κ : zG} {n : Nat} {σ : zS} {r1 : Int32} {r2 : zS} (hf : fX7_endRun_0 n (κ.2.2.2 0) (κ.2.2.2 1) (κ.2.2.2 2) σ = some (r1, r2)) : zMi l yX7_endRun (Cond.code yX7_endRun cX7_endRun 1 (some .boolean)) rmX7_endRun wC κ [.ref (κ.2.1 14)] σ r1 r2 :=
  zMi_of (by decide) (Nat.le_of_ble_eq_true rfl) (fun p e s m below meth c A C h ls hl => wX7_endRun_0 C h hl hf)
theorem hdX9_loadRuns : yX9_loadRuns.cls = RX9 ∧ yX9_loadRuns.cls ≠ "java/lang/invoke/MethodHandle" ∧ yX9_loadRuns.cls ≠ "java/lang/invoke/VarHandle" ∧ (parseMethodDescriptor yX9_loadRuns.desc).map (fun d => d.parameters.length) = some 0 := by decide +kernel
abbrev rmX9_loadRuns : Room := { frames := 6, cells := 0, slots := 0, locals := 143 }
set_option maxRecDepth 20000 in
set_option maxHeartbeats 4000000 in
theorem wX9_loadRuns_L41_41 {p : Program} {l : Launch} {e : Env} {s : State} {m : MethodId} {args : Array Value} {below : List Frame} {meth : Method} {c : Code} {A : Nat → Prop} {κ : zG} {H : Heap} {locs : List Loc} {ls : Array Slot} {Q : State → Prop} {n : Nat} {k1 : Int32} {a : Int32 × zS} {r : (Int32 × zS) ⊕ ((zS) ⊕ (zS))} (C : zC cX9_loadRuns 3 (some .boolean) RX9 κ A p s m args meth c) (h : zH wC κ A s a.2 H locs) (hl : lv_has ls 3 [(0, .ref (κ.2.1 0)), (1, .int k1), (2, .int a.1)]) (hf : fX9_loadRuns_L41_41 n (κ.2.2.2 0) (κ.2.2.2 1) (κ.2.2.2 2) k1 a = some r) (Kc : ∀ (v2 : Int32) (σ1 : zS), r = .inl (v2, σ1) → ∀ (H : Heap) (locs : List Loc) (ls : Array Slot), zH wC κ A s σ1 H locs → lv_has ls 3 [(0, .ref (κ.2.1 0)), (1, .int k1), (2, .int v2)] → W p l e rmX9_loadRuns s m args below meth c H locs 0 0 Q (F0 m 41 ls [])) (Ke0 : ∀ (σ1 : zS), r = .inr (.inl σ1) → ∀ (H : Heap) (locs : List Loc) (ls : Array Slot), zH wC κ A s σ1 H locs → lv_has ls 3 [(0, .ref (κ.2.1 0)), (1, .int k1)] → W p l e rmX9_loadRuns s m args below meth c H locs 0 0 Q (F0 m 70 ls [])) (Ke1 : ∀ (σ1 : zS), r = .inr (.inr σ1) → ∀ (H : Heap) (locs : List Loc) (ls : Array Slot), zH wC κ A s σ1 H locs → lv_has ls 3 [(0, .ref (κ.2.1 0))] → W p l e rmX9_loadRuns s m args below meth c H locs 0 0 Q (F0 m 62 ls [])) : W p l e rmX9_loadRuns s m args below meth c H locs 0 0 Q (F0 m 41 ls []) := by
  unfold fX9_loadRuns_L41_41 at hf
  refine lv_iload_n C.ex C.by dX9_loadRuns_41 rfl (lv_at hl 2 rfl) ?_
  refine lv_if_le (tgt := 70) C.ex C.by dX9_loadRuns_42 (by decide) (fun c7 => ?_) (fun c7 => ?_)
  · have hf := zif_t c7 hf
    exact Ke0 _ (Option.some.inj hf).symm _ _ _ h (lv_sub hl [0, 1] rfl)
  · have hf := zif_f c7 hf
    refine lv_aload_n C.ex C.by dX9_loadRuns_45 rfl (lv_at hl 0 rfl) ?_
    refine z_get (v := .ref (κ.2.1 14)) C h iwX9 0 (wC_at0 κ _) rfl 4 (by decide) lkC101 rfl dX9_loadRuns_46 ?_
    refine lv_aload_n C.ex C.by dX9_loadRuns_49 rfl (lv_at hl 0 rfl) ?_
    refine z_get (v := .ref (κ.2.1 20)) C h iwX9 0 (wC_at0 κ _) rfl 5 (by decide) lkC35 rfl dX9_loadRuns_50 ?_
    obtain ⟨q8, e9, hf⟩ := zb_some hf
    refine z_callVi (As := []) C h (ctX3_takeFirst (r1 := q8.1) (r2 := q8.2) e9) (zgV lkC102 lkC103 lkC104 lkC40 lkC105) ⟨rfl, rfl⟩ hdX3_takeFirst ⟨Nat.le_of_ble_eq_true rfl, Nat.le_of_ble_eq_true rfl⟩ 20 (wC_at20 κ _) rfl hl rfl rfl (Nat.le_of_ble_eq_true rfl) dX9_loadRuns_53 ⟨Nat.zero_le _, Nat.zero_le _⟩ (fun H locs h => ?_)
    obtain ⟨q10, e11, hf⟩ := zb_some hf
    refine z_callVi (As := [.int q8.1]) C h (ctX7_goOut (r1 := q10.1) (r2 := q10.2) e11) (zgV lkC157 lkC158 lkC159 lkC121 lkC160) ⟨rfl, rfl⟩ hdX7_goOut ⟨Nat.le_of_ble_eq_true rfl, Nat.le_of_ble_eq_true rfl⟩ 14 (wC_at14 κ _) rfl hl rfl rfl (Nat.le_of_ble_eq_true rfl) dX9_loadRuns_56 ⟨Nat.zero_le _, Nat.zero_le _⟩ (fun H locs h => ?_)
    refine lv_if_ne (tgt := 64) C.ex C.by dX9_loadRuns_59 (by decide) (fun c12 => ?_) (fun c12 => ?_)
    · have hf := zif_f c12 hf
      refine lv_iinc (v := (a.1 + (-1))) (lv' := [(2, .int (a.1 + (-1))), (0, .ref (κ.2.1 0)), (1, .int k1)]) C.ex C.by dX9_loadRuns_64 hl (k := 2) rfl rfl (by decide) rfl (fun ls hl => ?_)
      refine lv_goto (tgt := 41) C.ex C.by dX9_loadRuns_67 (by decide) ?_
      exact Kc _ _ (Option.some.inj hf).symm _ _ _ h (lv_sub hl [1, 2, 0] rfl)
    · have hf := zif_t c12 hf
      exact Ke1 _ (Option.some.inj hf).symm _ _ _ h (lv_sub hl [0] rfl)
theorem wlX9_loadRuns_41 {p : Program} {l : Launch} {e : Env} {s : State} {m : MethodId} {args : Array Value} {below : List Frame} {meth : Method} {c : Code} {A : Nat → Prop} {κ : zG} {H : Heap} {locs : List Loc} {ls : Array Slot} {Q : State → Prop} {n : Nat} {k1 : Int32} {k0 : Nat} {u2 : Int32} {σ1 : zS} (C : zC cX9_loadRuns 3 (some .boolean) RX9 κ A p s m args meth c) (h : zH wC κ A s σ1 H locs) (hl : lv_has ls 3 [(0, .ref (κ.2.1 0)), (1, .int k1), (2, .int u2)]) (b : (zS) ⊕ (zS)) (hb : zlp (fX9_loadRuns_L41_41 n (κ.2.2.2 0) (κ.2.2.2 1) (κ.2.2.2 2) k1) k0 (u2, σ1) = some b) (K : (fun b => Sum.elim (fun b : zS => ∀ (H : Heap) (locs : List Loc) (ls : Array Slot), zH wC κ A s b H locs → lv_has ls 3 [(0, .ref (κ.2.1 0)), (1, .int k1)] → W p l e rmX9_loadRuns s m args below meth c H locs 0 0 Q (F0 m 70 ls [])) (fun b : zS => ∀ (H : Heap) (locs : List Loc) (ls : Array Slot), zH wC κ A s b H locs → lv_has ls 3 [(0, .ref (κ.2.1 0))] → W p l e rmX9_loadRuns s m args below meth c H locs 0 0 Q (F0 m 62 ls [])) b) b) : W p l e rmX9_loadRuns s m args below meth c H locs 0 0 Q (F0 m 41 ls []) :=
  z_loop (body := fX9_loadRuns_L41_41 n (κ.2.2.2 0) (κ.2.2.2 1) (κ.2.2.2 2) k1) (Wd := (fun a : Int32 × zS => ∀ (H : Heap) (locs : List Loc) (ls : Array Slot), zH wC κ A s a.2 H locs → lv_has ls 3 [(0, .ref (κ.2.1 0)), (1, .int k1), (2, .int a.1)] → W p l e rmX9_loadRuns s m args below meth c H locs 0 0 Q (F0 m 41 ls []))) (Ex := (fun b : (zS) ⊕ (zS) => (fun b => Sum.elim (fun b : zS => ∀ (H : Heap) (locs : List Loc) (ls : Array Slot), zH wC κ A s b H locs → lv_has ls 3 [(0, .ref (κ.2.1 0)), (1, .int k1)] → W p l e rmX9_loadRuns s m args below meth c H locs 0 0 Q (F0 m 70 ls [])) (fun b : zS => ∀ (H : Heap) (locs : List Loc) (ls : Array Slot), zH wC κ A s b H locs → lv_has ls 3 [(0, .ref (κ.2.1 0))] → W p l e rmX9_loadRuns s m args below meth c H locs 0 0 Q (F0 m 62 ls [])) b) b)) (fun a r hr Kc Ke H locs ls h hl => wX9_loadRuns_L41_41 C h hl hr (fun v2 σ1 e => Kc (v2, σ1) e) (fun σ1 e => Ke (.inl σ1) e) (fun σ1 e => Ke (.inr σ1) e)) k0 (u2, σ1) b hb K H locs ls h hl
set_option maxRecDepth 20000 in
set_option maxHeartbeats 4000000 in
theorem wX9_loadRuns_L15_15 {p : Program} {l : Launch} {e : Env} {s : State} {m : MethodId} {args : Array Value} {below : List Frame} {meth : Method} {c : Code} {A : Nat → Prop} {κ : zG} {H : Heap} {locs : List Loc} {ls : Array Slot} {Q : State → Prop} {n : Nat} {a : Int32 × zS} {r : (Int32 × zS) ⊕ ((zS) ⊕ (zS) ⊕ (zS))} (C : zC cX9_loadRuns 3 (some .boolean) RX9 κ A p s m args meth c) (h : zH wC κ A s a.2 H locs) (hl : lv_has ls 3 [(0, .ref (κ.2.1 0)), (1, .int a.1)]) (hf : fX9_loadRuns_L15_15 n (κ.2.2.2 0) (κ.2.2.2 1) (κ.2.2.2 2) a = some r) (Kc : ∀ (v1 : Int32) (σ1 : zS), r = .inl (v1, σ1) → ∀ (H : Heap) (locs : List Loc) (ls : Array Slot), zH wC κ A s σ1 H locs → lv_has ls 3 [(0, .ref (κ.2.1 0)), (1, .int v1)] → W p l e rmX9_loadRuns s m args below meth c H locs 0 0 Q (F0 m 15 ls [])) (Ke0 : ∀ (σ1 : zS), r = .inr (.inl σ1) → ∀ (H : Heap) (locs : List Loc) (ls : Array Slot), zH wC κ A s σ1 H locs → lv_has ls 3 [(0, .ref (κ.2.1 0))] → W p l e rmX9_loadRuns s m args below meth c H locs 0 0 Q (F0 m 88 ls [])) (Ke1 : ∀ (σ1 : zS), r = .inr (.inr (.inl σ1)) → ∀ (H : Heap) (locs : List Loc) (ls : Array Slot), zH wC κ A s σ1 H locs → lv_has ls 3 [(0, .ref (κ.2.1 0))] → W p l e rmX9_loadRuns s m args below meth c H locs 0 0 Q (F0 m 62 ls [])) (Ke2 : ∀ (σ1 : zS), r = .inr (.inr (.inr σ1)) → ∀ (H : Heap) (locs : List Loc) (ls : Array Slot), zH wC κ A s σ1 H locs → lv_has ls 3 [(0, .ref (κ.2.1 0))] → W p l e rmX9_loadRuns s m args below meth c H locs 0 0 Q (F0 m 80 ls [])) : W p l e rmX9_loadRuns s m args below meth c H locs 0 0 Q (F0 m 15 ls []) := by
  unfold fX9_loadRuns_L15_15 at hf
  refine lv_iload_n C.ex C.by dX9_loadRuns_15 rfl (lv_at hl 1 rfl) ?_
  refine lv_if_le (tgt := 88) C.ex C.by dX9_loadRuns_16 (by decide) (fun c3 => ?_) (fun c3 => ?_)
  · have hf := zif_t c3 hf
    exact Ke0 _ (Option.some.inj hf).symm _ _ _ h (lv_sub hl [0] rfl)
  · have hf := zif_f c3 hf
    refine lv_aload_n C.ex C.by dX9_loadRuns_19 rfl (lv_at hl 0 rfl) ?_
    refine z_get (v := .ref (κ.2.1 10)) C h iwX9 0 (wC_at0 κ _) rfl 3 (by decide) lkC42 rfl dX9_loadRuns_20 ?_
    refine z_getN (v := .int (zI a.2 16)) C h iwX2 10 (wC_at10 κ _) rfl 8 (by decide) nkC4 rfl dX9_loadRuns_23 ?_
    refine lv_if_le (tgt := 88) C.ex C.by dX9_loadRuns_26 (by decide) (fun c4 => ?_) (fun c4 => ?_)
    · have hf := zif_t c4 hf
      exact Ke0 _ (Option.some.inj hf).symm _ _ _ h (lv_sub hl [0] rfl)
    · have hf := zif_f c4 hf
      refine lv_aload_n C.ex C.by dX9_loadRuns_29 rfl (lv_at hl 0 rfl) ?_
      obtain ⟨q5, e6, hf⟩ := zb_some hf
      refine z_callVv (As := []) C h (ctX9_fillMemory e6) (zgV lkC96 lkC97 lkC98 lkC99 lkC100) ⟨rfl, rfl⟩ hdX9_fillMemory ⟨Nat.le_of_ble_eq_true rfl, Nat.le_of_ble_eq_true rfl⟩ 0 (wC_at0 κ _) rfl hl rfl rfl (Nat.le_of_ble_eq_true rfl) dX9_loadRuns_30 ⟨Nat.zero_le _, Nat.zero_le _⟩ (fun H locs h => ?_)
      refine lv_aload_n C.ex C.by dX9_loadRuns_33 rfl (lv_at hl 0 rfl) ?_
      refine z_get (v := .ref (κ.2.1 20)) C h iwX9 0 (wC_at0 κ _) rfl 5 (by decide) lkC35 rfl dX9_loadRuns_34 ?_
      refine z_getN (v := .int (zI q5 28)) C h iwX3 20 (wC_at20 κ _) rfl 4 (by decide) nkC9 rfl dX9_loadRuns_37 ?_
      refine lv_istore_n (lv' := [(2, .int (zI q5 28)), (0, .ref (κ.2.1 0)), (1, .int a.1)]) C.ex C.by dX9_loadRuns_40 rfl hl (by decide) rfl (fun ls hl => ?_)
      obtain ⟨b13, e14, hf⟩ := zb_some hf
      refine wlX9_loadRuns_41 C h (lv_sub hl [1, 2, 0] rfl) b13 e14 ?_
      rcases b13 with b13 | b13
      · dsimp only [Sum.elim_inl] at hf
        intro H locs ls h hl
        refine lv_aload_n C.ex C.by dX9_loadRuns_70 rfl (lv_at hl 0 rfl) ?_
        refine z_get (v := .ref (κ.2.1 14)) C h iwX9 0 (wC_at0 κ _) rfl 4 (by decide) lkC101 rfl dX9_loadRuns_71 ?_
        obtain ⟨q15, e16, hf⟩ := zb_some hf
        refine z_callVi (As := []) C h (ctX7_endRun (r1 := q15.1) (r2 := q15.2) e16) (zgV lkC171 lkC172 lkC173 lkC121 lkC174) ⟨rfl, rfl⟩ hdX7_endRun ⟨Nat.le_of_ble_eq_true rfl, Nat.le_of_ble_eq_true rfl⟩ 14 (wC_at14 κ _) rfl hl rfl rfl (Nat.le_of_ble_eq_true rfl) dX9_loadRuns_74 ⟨Nat.zero_le _, Nat.zero_le _⟩ (fun H locs h => ?_)
        refine lv_if_ne (tgt := 82) C.ex C.by dX9_loadRuns_77 (by decide) (fun c17 => ?_) (fun c17 => ?_)
        · have hf := zif_f c17 hf
          refine lv_iinc (v := (a.1 + (-1))) (lv' := [(1, .int (a.1 + (-1))), (0, .ref (κ.2.1 0))]) C.ex C.by dX9_loadRuns_82 hl (k := 1) rfl rfl (by decide) rfl (fun ls hl => ?_)
          refine lv_goto (tgt := 15) C.ex C.by dX9_loadRuns_85 (by decide) ?_
          exact Kc _ _ (Option.some.inj hf).symm _ _ _ h (lv_sub hl [1, 0] rfl)
        · have hf := zif_t c17 hf
          exact Ke2 _ (Option.some.inj hf).symm _ _ _ h (lv_sub hl [0] rfl)
      · dsimp only [Sum.elim_inr] at hf
        intro H locs ls h hl
        exact Ke1 _ (Option.some.inj hf).symm _ _ _ h hl
theorem wlX9_loadRuns_15 {p : Program} {l : Launch} {e : Env} {s : State} {m : MethodId} {args : Array Value} {below : List Frame} {meth : Method} {c : Code} {A : Nat → Prop} {κ : zG} {H : Heap} {locs : List Loc} {ls : Array Slot} {Q : State → Prop} {n : Nat} {k0 : Nat} {u1 : Int32} {σ1 : zS} (C : zC cX9_loadRuns 3 (some .boolean) RX9 κ A p s m args meth c) (h : zH wC κ A s σ1 H locs) (hl : lv_has ls 3 [(0, .ref (κ.2.1 0)), (1, .int u1)]) (b : (zS) ⊕ (zS) ⊕ (zS)) (hb : zlp (fX9_loadRuns_L15_15 n (κ.2.2.2 0) (κ.2.2.2 1) (κ.2.2.2 2)) k0 (u1, σ1) = some b) (K : (fun b => Sum.elim (fun b : zS => ∀ (H : Heap) (locs : List Loc) (ls : Array Slot), zH wC κ A s b H locs → lv_has ls 3 [(0, .ref (κ.2.1 0))] → W p l e rmX9_loadRuns s m args below meth c H locs 0 0 Q (F0 m 88 ls [])) (fun b => Sum.elim (fun b : zS => ∀ (H : Heap) (locs : List Loc) (ls : Array Slot), zH wC κ A s b H locs → lv_has ls 3 [(0, .ref (κ.2.1 0))] → W p l e rmX9_loadRuns s m args below meth c H locs 0 0 Q (F0 m 62 ls [])) (fun b : zS => ∀ (H : Heap) (locs : List Loc) (ls : Array Slot), zH wC κ A s b H locs → lv_has ls 3 [(0, .ref (κ.2.1 0))] → W p l e rmX9_loadRuns s m args below meth c H locs 0 0 Q (F0 m 80 ls [])) b) b) b) : W p l e rmX9_loadRuns s m args below meth c H locs 0 0 Q (F0 m 15 ls []) :=
  z_loop (body := fX9_loadRuns_L15_15 n (κ.2.2.2 0) (κ.2.2.2 1) (κ.2.2.2 2)) (Wd := (fun a : Int32 × zS => ∀ (H : Heap) (locs : List Loc) (ls : Array Slot), zH wC κ A s a.2 H locs → lv_has ls 3 [(0, .ref (κ.2.1 0)), (1, .int a.1)] → W p l e rmX9_loadRuns s m args below meth c H locs 0 0 Q (F0 m 15 ls []))) (Ex := (fun b : (zS) ⊕ (zS) ⊕ (zS) => (fun b => Sum.elim (fun b : zS => ∀ (H : Heap) (locs : List Loc) (ls : Array Slot), zH wC κ A s b H locs → lv_has ls 3 [(0, .ref (κ.2.1 0))] → W p l e rmX9_loadRuns s m args below meth c H locs 0 0 Q (F0 m 88 ls [])) (fun b => Sum.elim (fun b : zS => ∀ (H : Heap) (locs : List Loc) (ls : Array Slot), zH wC κ A s b H locs → lv_has ls 3 [(0, .ref (κ.2.1 0))] → W p l e rmX9_loadRuns s m args below meth c H locs 0 0 Q (F0 m 62 ls [])) (fun b : zS => ∀ (H : Heap) (locs : List Loc) (ls : Array Slot), zH wC κ A s b H locs → lv_has ls 3 [(0, .ref (κ.2.1 0))] → W p l e rmX9_loadRuns s m args below meth c H locs 0 0 Q (F0 m 80 ls [])) b) b) b)) (fun a r hr Kc Ke H locs ls h hl => wX9_loadRuns_L15_15 C h hl hr (fun v1 σ1 e => Kc (v1, σ1) e) (fun σ1 e => Ke (.inl σ1) e) (fun σ1 e => Ke (.inr (.inl σ1)) e) (fun σ1 e => Ke (.inr (.inr σ1)) e)) k0 (u1, σ1) b hb K H locs ls h hl
set_option maxRecDepth 20000 in
set_option maxHeartbeats 4000000 in
theorem wX9_loadRuns_0 {p : Program} {l : Launch} {e : Env} {s : State} {m : MethodId} {args : Array Value} {below : List Frame} {meth : Method} {c : Code} {A : Nat → Prop} {κ : zG} {H : Heap} {locs : List Loc} {ls : Array Slot} {n : Nat} {σ : zS} {r1 : Int32} {r2 : zS} (C : zC cX9_loadRuns 3 (some .boolean) RX9 κ A p s m args meth c) (h : zH wC κ A s σ H locs) (hl : lv_has ls 3 [(0, .ref (κ.2.1 0))]) (hf : fX9_loadRuns_0 n (κ.2.2.2 0) (κ.2.2.2 1) (κ.2.2.2 2) σ = some (r1, r2)) : W p l e rmX9_loadRuns s m args below meth c H locs 0 0 (MQ below (zQi wC κ A r1 r2) args s 0 0 A) (F0 m 0 ls []) := by
  unfold fX9_loadRuns_0 at hf
  refine lv_aload_n C.ex C.by dX9_loadRuns_0 rfl (lv_at hl 0 rfl) ?_
  refine z_get (v := .ref (κ.2.1 20)) C h iwX9 0 (wC_at0 κ _) rfl 5 (by decide) lkC35 rfl dX9_loadRuns_1 ?_
  obtain ⟨q1, e2, hf⟩ := zb_some hf
  refine z_callVv (As := []) C h (ctX3_clear e2) (zgV lkC37 lkC38 lkC39 lkC40 lkC41) ⟨rfl, rfl⟩ hdX3_clear ⟨Nat.le_of_ble_eq_true rfl, Nat.le_of_ble_eq_true rfl⟩ 20 (wC_at20 κ _) rfl hl rfl rfl (Nat.le_of_ble_eq_true rfl) dX9_loadRuns_4 ⟨Nat.zero_le _, Nat.zero_le _⟩ (fun H locs h => ?_)
  refine lv_aload_n C.ex C.by dX9_loadRuns_7 rfl (lv_at hl 0 rfl) ?_
  refine z_get (v := .ref (κ.2.1 10)) C h iwX9 0 (wC_at0 κ _) rfl 3 (by decide) lkC42 rfl dX9_loadRuns_8 ?_
  refine z_getN (v := .int (zI q1 16)) C h iwX2 10 (wC_at10 κ _) rfl 8 (by decide) nkC4 rfl dX9_loadRuns_11 ?_
  refine lv_istore_n (lv' := [(1, .int (zI q1 16)), (0, .ref (κ.2.1 0))]) C.ex C.by dX9_loadRuns_14 rfl hl (by decide) rfl (fun ls hl => ?_)
  obtain ⟨b18, e19, hf⟩ := zb_some hf
  refine wlX9_loadRuns_15 C h (lv_sub hl [1, 0] rfl) b18 e19 ?_
  rcases b18 with b18 | b18
  · dsimp only [Sum.elim_inl] at hf
    intro H locs ls h hl
    refine lv_iconst (v := 1) C.ex C.by dX9_loadRuns_88 (by decide) ?_
    cases hf
    exact z_zret (r := 1) C h rfl dX9_loadRuns_89
  · dsimp only [Sum.elim_inr] at hf
    rcases b18 with b18 | b18
    · dsimp only [Sum.elim_inl] at hf
      intro H locs ls h hl
      refine lv_iconst (v := 0) C.ex C.by dX9_loadRuns_62 (by decide) ?_
      cases hf
      exact z_zret (r := 0) C h rfl dX9_loadRuns_63
    · dsimp only [Sum.elim_inr] at hf
      intro H locs ls h hl
      refine lv_iconst (v := 0) C.ex C.by dX9_loadRuns_80 (by decide) ?_
      cases hf
      exact z_zret (r := 0) C h rfl dX9_loadRuns_81
theorem ctX9_loadRuns {l : Launch} {κ : zG} {n : Nat} {σ : zS} {r1 : Int32} {r2 : zS} (hf : fX9_loadRuns_0 n (κ.2.2.2 0) (κ.2.2.2 1) (κ.2.2.2 2) σ = some (r1, r2)) : zMi l yX9_loadRuns (Cond.code yX9_loadRuns cX9_loadRuns 3 (some .boolean)) rmX9_loadRuns wC κ [.ref (κ.2.1 0)] σ r1 r2 :=
  zMi_of (by decide) (Nat.le_of_ble_eq_true rfl) (fun p e s m below meth c A C h ls hl => wX9_loadRuns_0 C h hl hf)
theorem hdX3_firstTurn : yX3_firstTurn.cls = RX3 ∧ yX3_firstTurn.cls ≠ "java/lang/invoke/MethodHandle" ∧ yX3_firstTurn.cls ≠ "java/lang/invoke/VarHandle" ∧ (parseMethodDescriptor yX3_firstTurn.desc).map (fun d => d.parameters.length) = some 0 := by decide +kernel
abbrev rmX3_firstTurn : Room := { frames := 0, cells := 0, slots := 0, locals := 0 }
set_option maxRecDepth 20000 in
set_option maxHeartbeats 4000000 in
theorem wX3_firstTurn_0 {p : Program} {l : Launch} {e : Env} {s : State} {m : MethodId} {args : Array Value} {below : List Frame} {meth : Method} {c : Code} {A : Nat → Prop} {κ : zG} {H : Heap} {locs : List Loc} {ls : Array Slot} {n : Nat} {σ : zS} {r : Int32} (C : zC cX3_firstTurn 1 (some .int) RX3 κ A p s m args meth c) (h : zH wC κ A s σ H locs) (hl : lv_has ls 1 [(0, .ref (κ.2.1 20))]) (hf : fX3_firstTurn_0 n (κ.2.2.2 0) (κ.2.2.2 1) (κ.2.2.2 2) σ = some r) : W p l e rmX3_firstTurn s m args below meth c H locs 0 0 (MQ below (zQi wC κ A r σ) args s 0 0 A) (F0 m 0 ls []) := by
  unfold fX3_firstTurn_0 at hf
  refine lv_aload_n C.ex C.by dX3_firstTurn_0 rfl (lv_at hl 0 rfl) ?_
  refine z_get (v := .int (zI σ 28)) C h iwX3 20 (wC_at20 κ _) rfl 4 (by decide) lkC36 rfl dX3_firstTurn_1 ?_
  refine lv_if_le (tgt := 24) C.ex C.by dX3_firstTurn_4 (by decide) (fun c1 => ?_) (fun c1 => ?_)
  · have hf := zif_t c1 hf
    refine lv_iconst (v := 0) C.ex C.by dX3_firstTurn_24 (by decide) ?_
    cases hf
    exact z_iret C h dX3_firstTurn_25
  · have hf := zif_f c1 hf
    refine lv_aload_n C.ex C.by dX3_firstTurn_7 rfl (lv_at hl 0 rfl) ?_
    refine z_get (v := .ref (κ.2.1 22)) C h iwX3 20 (wC_at20 κ _) rfl 3 (by decide) lkC63 rfl dX3_firstTurn_8 ?_
    refine z_alen (t0 := 0) C h 22 (wC_at22 κ _) rfl dX3_firstTurn_11 ?_
    refine lv_if_le (tgt := 24) C.ex C.by dX3_firstTurn_12 (by decide) (fun c2 => ?_) (fun c2 => ?_)
    · have hf := zif_t c2 hf
      refine lv_iconst (v := 0) C.ex C.by dX3_firstTurn_24 (by decide) ?_
      cases hf
      exact z_iret C h dX3_firstTurn_25
    · have hf := zif_f c2 hf
      refine lv_aload_n C.ex C.by dX3_firstTurn_15 rfl (lv_at hl 0 rfl) ?_
      refine z_get (v := .ref (κ.2.1 22)) C h iwX3 20 (wC_at20 κ _) rfl 3 (by decide) lkC63 rfl dX3_firstTurn_16 ?_
      refine lv_iconst (v := 0) C.ex C.by dX3_firstTurn_19 (by decide) ?_
      obtain ⟨h3, hf⟩ := zg_some hf
      refine z_iald (f := (zA σ 9)) C h 22 (wC_at22 κ _) h3 dX3_firstTurn_20 ?_
      refine lv_goto (tgt := 25) C.ex C.by dX3_firstTurn_21 (by decide) ?_
      cases hf
      exact z_iret C h dX3_firstTurn_25
theorem ctX3_firstTurn {l : Launch} {κ : zG} {n : Nat} {σ : zS} {r : Int32} (hf : fX3_firstTurn_0 n (κ.2.2.2 0) (κ.2.2.2 1) (κ.2.2.2 2) σ = some r) : zMi l yX3_firstTurn (Cond.code yX3_firstTurn cX3_firstTurn 1 (some .int)) rmX3_firstTurn wC κ [.ref (κ.2.1 20)] σ r σ :=
  zMi_of (by decide) (Nat.le_of_ble_eq_true rfl) (fun p e s m below meth c A C h ls hl => wX3_firstTurn_0 C h hl hf)
theorem hdX9_chooseRuns : yX9_chooseRuns.cls = RX9 ∧ yX9_chooseRuns.cls ≠ "java/lang/invoke/MethodHandle" ∧ yX9_chooseRuns.cls ≠ "java/lang/invoke/VarHandle" ∧ (parseMethodDescriptor yX9_chooseRuns.desc).map (fun d => d.parameters.length) = some 0 := by decide +kernel
abbrev rmX9_chooseRuns : Room := { frames := 6, cells := 0, slots := 0, locals := 143 }
set_option maxRecDepth 20000 in
set_option maxHeartbeats 4000000 in
theorem wX9_chooseRuns_L23_130 {p : Program} {l : Launch} {e : Env} {s : State} {m : MethodId} {args : Array Value} {below : List Frame} {meth : Method} {c : Code} {A : Nat → Prop} {κ : zG} {H : Heap} {locs : List Loc} {ls : Array Slot} {Q : State → Prop} {n : Nat} {σ : zS} {x1 : Int32} {x3 : Int32} {r : (Int32 × Int32 × zS) ⊕ ((zS) ⊕ (zS) ⊕ (zS))} (C : zC cX9_chooseRuns 6 (some .boolean) RX9 κ A p s m args meth c) (h : zH wC κ A s σ H locs) (hl : lv_has ls 6 [(0, .ref (κ.2.1 0)), (1, .int x1), (3, .int x3)]) (hf : fX9_chooseRuns_L23_130 n (κ.2.2.2 0) (κ.2.2.2 1) (κ.2.2.2 2) σ x1 x3 = some r) (Kc : ∀ (v1 : Int32) (v3 : Int32) (σ1 : zS), r = .inl (v1, v3, σ1) → ∀ (H : Heap) (locs : List Loc) (ls : Array Slot), zH wC κ A s σ1 H locs → lv_has ls 6 [(0, .ref (κ.2.1 0)), (1, .int v1), (3, .int v3)] → W p l e rmX9_chooseRuns s m args below meth c H locs 0 0 Q (F0 m 23 ls [])) (Ke0 : ∀ (σ1 : zS), r = .inr (.inl σ1) → ∀ (H : Heap) (locs : List Loc) (ls : Array Slot), zH wC κ A s σ1 H locs → lv_has ls 6 [(0, .ref (κ.2.1 0))] → W p l e rmX9_chooseRuns s m args below meth c H locs 0 0 Q (F0 m 136 ls [])) (Ke1 : ∀ (σ1 : zS), r = .inr (.inr (.inl σ1)) → ∀ (H : Heap) (locs : List Loc) (ls : Array Slot), zH wC κ A s σ1 H locs → lv_has ls 6 [(0, .ref (κ.2.1 0))] → W p l e rmX9_chooseRuns s m args below meth c H locs 0 0 Q (F0 m 48 ls [])) (Ke2 : ∀ (σ1 : zS), r = .inr (.inr (.inr σ1)) → ∀ (H : Heap) (locs : List Loc) (ls : Array Slot), zH wC κ A s σ1 H locs → lv_has ls 6 [(0, .ref (κ.2.1 0))] → W p l e rmX9_chooseRuns s m args below meth c H locs 0 0 Q (F0 m 79 ls [])) : W p l e rmX9_chooseRuns s m args below meth c H locs 0 0 Q (F0 m 130 ls []) := by
  unfold fX9_chooseRuns_L23_130 at hf
  refine lv_iinc (v := (x3 + (-1))) (lv' := [(3, .int (x3 + (-1))), (0, .ref (κ.2.1 0)), (1, .int x1)]) C.ex C.by dX9_chooseRuns_130 hl (k := 2) rfl rfl (by decide) rfl (fun ls hl => ?_)
  refine lv_goto (tgt := 23) C.ex C.by dX9_chooseRuns_133 (by decide) ?_
  exact Kc _ _ _ (Option.some.inj hf).symm _ _ _ h (lv_sub hl [1, 2, 0] rfl)
set_option maxRecDepth 20000 in
set_option maxHeartbeats 4000000 in
theorem wX9_chooseRuns_L23_127 {p : Program} {l : Launch} {e : Env} {s : State} {m : MethodId} {args : Array Value} {below : List Frame} {meth : Method} {c : Code} {A : Nat → Prop} {κ : zG} {H : Heap} {locs : List Loc} {ls : Array Slot} {Q : State → Prop} {n : Nat} {σ : zS} {x1 : Int32} {x3 : Int32} {y0 : Int32} {y1 : Int32} {r : (Int32 × Int32 × zS) ⊕ ((zS) ⊕ (zS) ⊕ (zS))} (C : zC cX9_chooseRuns 6 (some .boolean) RX9 κ A p s m args meth c) (h : zH wC κ A s σ H locs) (hl : lv_has ls 6 [(0, .ref (κ.2.1 0)), (1, .int x1), (3, .int x3)]) (hf : fX9_chooseRuns_L23_127 n (κ.2.2.2 0) (κ.2.2.2 1) (κ.2.2.2 2) σ x1 x3 y0 y1 = some r) (Kc : ∀ (v1 : Int32) (v3 : Int32) (σ1 : zS), r = .inl (v1, v3, σ1) → ∀ (H : Heap) (locs : List Loc) (ls : Array Slot), zH wC κ A s σ1 H locs → lv_has ls 6 [(0, .ref (κ.2.1 0)), (1, .int v1), (3, .int v3)] → W p l e rmX9_chooseRuns s m args below meth c H locs 0 0 Q (F0 m 23 ls [])) (Ke0 : ∀ (σ1 : zS), r = .inr (.inl σ1) → ∀ (H : Heap) (locs : List Loc) (ls : Array Slot), zH wC κ A s σ1 H locs → lv_has ls 6 [(0, .ref (κ.2.1 0))] → W p l e rmX9_chooseRuns s m args below meth c H locs 0 0 Q (F0 m 136 ls [])) (Ke1 : ∀ (σ1 : zS), r = .inr (.inr (.inl σ1)) → ∀ (H : Heap) (locs : List Loc) (ls : Array Slot), zH wC κ A s σ1 H locs → lv_has ls 6 [(0, .ref (κ.2.1 0))] → W p l e rmX9_chooseRuns s m args below meth c H locs 0 0 Q (F0 m 48 ls [])) (Ke2 : ∀ (σ1 : zS), r = .inr (.inr (.inr σ1)) → ∀ (H : Heap) (locs : List Loc) (ls : Array Slot), zH wC κ A s σ1 H locs → lv_has ls 6 [(0, .ref (κ.2.1 0))] → W p l e rmX9_chooseRuns s m args below meth c H locs 0 0 Q (F0 m 79 ls [])) : W p l e rmX9_chooseRuns s m args below meth c H locs 0 0 Q (F0 m 127 ls [.int y0, .int y1, .ref (κ.2.1 20)]) := by
  unfold fX9_chooseRuns_L23_127 at hf
  obtain ⟨q25, e26, hf⟩ := zb_some hf
  refine z_callVv (As := [.int y1, .int y0]) C h (ctX3_add e26) (zgV lkC92 lkC93 lkC94 lkC40 lkC95) ⟨rfl, rfl⟩ hdX3_add ⟨Nat.le_of_ble_eq_true rfl, Nat.le_of_ble_eq_true rfl⟩ 20 (wC_at20 κ _) rfl hl rfl rfl (Nat.le_of_ble_eq_true rfl) dX9_chooseRuns_127 ⟨Nat.zero_le _, Nat.zero_le _⟩ (fun H locs h => ?_)
  exact wX9_chooseRuns_L23_130 C h hl hf Kc Ke0 Ke1 Ke2
set_option maxRecDepth 20000 in
set_option maxHeartbeats 4000000 in
theorem wX9_chooseRuns_L23_58 {p : Program} {l : Launch} {e : Env} {s : State} {m : MethodId} {args : Array Value} {below : List Frame} {meth : Method} {c : Code} {A : Nat → Prop} {κ : zG} {H : Heap} {locs : List Loc} {ls : Array Slot} {Q : State → Prop} {n : Nat} {σ : zS} {x1 : Int32} {x3 : Int32} {r : (Int32 × Int32 × zS) ⊕ ((zS) ⊕ (zS) ⊕ (zS))} (C : zC cX9_chooseRuns 6 (some .boolean) RX9 κ A p s m args meth c) (h : zH wC κ A s σ H locs) (hl : lv_has ls 6 [(0, .ref (κ.2.1 0)), (1, .int x1), (3, .int x3)]) (hf : fX9_chooseRuns_L23_58 n (κ.2.2.2 0) (κ.2.2.2 1) (κ.2.2.2 2) σ x1 x3 = some r) (Kc : ∀ (v1 : Int32) (v3 : Int32) (σ1 : zS), r = .inl (v1, v3, σ1) → ∀ (H : Heap) (locs : List Loc) (ls : Array Slot), zH wC κ A s σ1 H locs → lv_has ls 6 [(0, .ref (κ.2.1 0)), (1, .int v1), (3, .int v3)] → W p l e rmX9_chooseRuns s m args below meth c H locs 0 0 Q (F0 m 23 ls [])) (Ke0 : ∀ (σ1 : zS), r = .inr (.inl σ1) → ∀ (H : Heap) (locs : List Loc) (ls : Array Slot), zH wC κ A s σ1 H locs → lv_has ls 6 [(0, .ref (κ.2.1 0))] → W p l e rmX9_chooseRuns s m args below meth c H locs 0 0 Q (F0 m 136 ls [])) (Ke1 : ∀ (σ1 : zS), r = .inr (.inr (.inl σ1)) → ∀ (H : Heap) (locs : List Loc) (ls : Array Slot), zH wC κ A s σ1 H locs → lv_has ls 6 [(0, .ref (κ.2.1 0))] → W p l e rmX9_chooseRuns s m args below meth c H locs 0 0 Q (F0 m 48 ls [])) (Ke2 : ∀ (σ1 : zS), r = .inr (.inr (.inr σ1)) → ∀ (H : Heap) (locs : List Loc) (ls : Array Slot), zH wC κ A s σ1 H locs → lv_has ls 6 [(0, .ref (κ.2.1 0))] → W p l e rmX9_chooseRuns s m args below meth c H locs 0 0 Q (F0 m 79 ls [])) : W p l e rmX9_chooseRuns s m args below meth c H locs 0 0 Q (F0 m 58 ls []) := by
  unfold fX9_chooseRuns_L23_58 at hf
  refine lv_aload_n C.ex C.by dX9_chooseRuns_58 rfl (lv_at hl 0 rfl) ?_
  refine z_get (v := .ref (κ.2.1 20)) C h iwX9 0 (wC_at0 κ _) rfl 5 (by decide) lkC35 rfl dX9_chooseRuns_59 ?_
  obtain ⟨q14, e15, hf⟩ := zb_some hf
  refine z_callVi (As := []) C h (ctX3_takeFirst (r1 := q14.1) (r2 := q14.2) e15) (zgV lkC102 lkC103 lkC104 lkC40 lkC105) ⟨rfl, rfl⟩ hdX3_takeFirst ⟨Nat.le_of_ble_eq_true rfl, Nat.le_of_ble_eq_true rfl⟩ 20 (wC_at20 κ _) rfl hl rfl rfl (Nat.le_of_ble_eq_true rfl) dX9_chooseRuns_62 ⟨Nat.zero_le _, Nat.zero_le _⟩ (fun H locs h => ?_)
  refine lv_istore (lv' := [(4, .int q14.1), (0, .ref (κ.2.1 0)), (1, .int x1), (3, .int x3)]) C.ex C.by dX9_chooseRuns_65 hl (by decide) rfl (fun ls hl => ?_)
  refine lv_aload_n C.ex C.by dX9_chooseRuns_67 rfl (lv_at hl 1 rfl) ?_
  refine z_get (v := .ref (κ.2.1 14)) C h iwX9 0 (wC_at0 κ _) rfl 4 (by decide) lkC101 rfl dX9_chooseRuns_68 ?_
  refine lv_iload C.ex C.by dX9_chooseRuns_71 (lv_at hl 0 rfl) ?_
  obtain ⟨q16, e17, hf⟩ := zb_some hf
  refine z_callVi (As := [.int q14.1]) C h (ctX7_goOut (r1 := q16.1) (r2 := q16.2) e17) (zgV lkC157 lkC158 lkC159 lkC121 lkC160) ⟨rfl, rfl⟩ hdX7_goOut ⟨Nat.le_of_ble_eq_true rfl, Nat.le_of_ble_eq_true rfl⟩ 14 (wC_at14 κ _) rfl hl rfl rfl (Nat.le_of_ble_eq_true rfl) dX9_chooseRuns_73 ⟨Nat.zero_le _, Nat.zero_le _⟩ (fun H locs h => ?_)
  refine lv_if_ne (tgt := 81) C.ex C.by dX9_chooseRuns_76 (by decide) (fun c18 => ?_) (fun c18 => ?_)
  · have hf := zif_f c18 hf
    refine lv_aload_n C.ex C.by dX9_chooseRuns_81 rfl (lv_at hl 1 rfl) ?_
    refine z_get (v := .ref (κ.2.1 10)) C h iwX9 0 (wC_at0 κ _) rfl 3 (by decide) lkC42 rfl dX9_chooseRuns_82 ?_
    refine z_getN (v := .int (zI q16.2 16)) C h iwX2 10 (wC_at10 κ _) rfl 8 (by decide) nkC4 rfl dX9_chooseRuns_85 ?_
    refine lv_if_le (tgt := 130) C.ex C.by dX9_chooseRuns_88 (by decide) (fun c19 => ?_) (fun c19 => ?_)
    · have hf := zif_t c19 hf
      exact wX9_chooseRuns_L23_130 C h (lv_sub hl [1, 2, 3] rfl) hf Kc Ke0 Ke1 Ke2
    · have hf := zif_f c19 hf
      refine lv_aload_n C.ex C.by dX9_chooseRuns_91 rfl (lv_at hl 1 rfl) ?_
      refine z_get (v := .ref (κ.2.1 10)) C h iwX9 0 (wC_at0 κ _) rfl 3 (by decide) lkC42 rfl dX9_chooseRuns_92 ?_
      obtain ⟨q20, e21, hf⟩ := zb_some hf
      refine z_callVi (As := []) C h (ctX2_next (r1 := q20.1) (r2 := q20.2) e21) (zgV lkC57 lkC58 lkC59 lkC60 lkC61) ⟨rfl, rfl⟩ hdX2_next ⟨Nat.le_of_ble_eq_true rfl, Nat.le_of_ble_eq_true rfl⟩ 10 (wC_at10 κ _) rfl hl rfl rfl (Nat.le_of_ble_eq_true rfl) dX9_chooseRuns_95 ⟨Nat.zero_le _, Nat.zero_le _⟩ (fun H locs h => ?_)
      refine lv_istore (lv' := [(5, .int q20.1), (4, .int q14.1), (0, .ref (κ.2.1 0)), (1, .int x1), (3, .int x3)]) C.ex C.by dX9_chooseRuns_98 hl (by decide) rfl (fun ls hl => ?_)
      refine lv_aload_n C.ex C.by dX9_chooseRuns_100 rfl (lv_at hl 2 rfl) ?_
      refine z_get (v := .ref (κ.2.1 20)) C h iwX9 0 (wC_at0 κ _) rfl 5 (by decide) lkC35 rfl dX9_chooseRuns_101 ?_
      refine lv_iload C.ex C.by dX9_chooseRuns_104 (lv_at hl 0 rfl) ?_
      refine lv_aload_n C.ex C.by dX9_chooseRuns_106 rfl (lv_at hl 2 rfl) ?_
      refine z_get (v := .ref (κ.2.1 4)) C h iwX9 0 (wC_at0 κ _) rfl 1 (by decide) lkC1 rfl dX9_chooseRuns_107 ?_
      refine lv_iload C.ex C.by dX9_chooseRuns_110 (lv_at hl 0 rfl) ?_
      refine lv_iload C.ex C.by dX9_chooseRuns_112 (lv_at hl 1 rfl) ?_
      obtain ⟨q22, e23, hf⟩ := zb_some hf
      refine z_callVi (As := [.int q20.1, .int q14.1]) C h (ctX5_isBefore e23) (zgV lkC179 lkC77 lkC78 lkC74 lkC79) ⟨rfl, rfl⟩ hdX5_isBefore ⟨Nat.le_of_ble_eq_true rfl, Nat.le_of_ble_eq_true rfl⟩ 4 (wC_at4 κ _) rfl hl rfl rfl (Nat.le_of_ble_eq_true rfl) dX9_chooseRuns_114 ⟨Nat.zero_le _, Nat.zero_le _⟩ (fun H locs h => ?_)
      refine lv_if_eq (tgt := 126) C.ex C.by dX9_chooseRuns_117 (by decide) (fun c24 => ?_) (fun c24 => ?_)
      · have hf := zif_t c24 hf
        refine lv_iload_n C.ex C.by dX9_chooseRuns_126 rfl (lv_at hl 3 rfl) ?_
        exact wX9_chooseRuns_L23_127 C h (lv_sub hl [2, 3, 4] rfl) hf Kc Ke0 Ke1 Ke2
      · have hf := zif_f c24 hf
        refine lv_iload_n C.ex C.by dX9_chooseRuns_120 rfl (lv_at hl 3 rfl) ?_
        refine lv_iconst (v := 1) C.ex C.by dX9_chooseRuns_121 (by decide) ?_
        refine lv_iadd C.ex C.by dX9_chooseRuns_122 ?_
        refine lv_goto (tgt := 127) C.ex C.by dX9_chooseRuns_123 (by decide) ?_
        exact wX9_chooseRuns_L23_127 C h (lv_sub hl [2, 3, 4] rfl) hf Kc Ke0 Ke1 Ke2
  · have hf := zif_t c18 hf
    exact Ke2 _ (Option.some.inj hf).symm _ _ _ h (lv_sub hl [1] rfl)
set_option maxRecDepth 20000 in
set_option maxHeartbeats 4000000 in
theorem wX9_chooseRuns_L23_23 {p : Program} {l : Launch} {e : Env} {s : State} {m : MethodId} {args : Array Value} {below : List Frame} {meth : Method} {c : Code} {A : Nat → Prop} {κ : zG} {H : Heap} {locs : List Loc} {ls : Array Slot} {Q : State → Prop} {n : Nat} {a : Int32 × Int32 × zS} {r : (Int32 × Int32 × zS) ⊕ ((zS) ⊕ (zS) ⊕ (zS))} (C : zC cX9_chooseRuns 6 (some .boolean) RX9 κ A p s m args meth c) (h : zH wC κ A s a.2.2 H locs) (hl : lv_has ls 6 [(0, .ref (κ.2.1 0)), (1, .int a.1), (3, .int a.2.1)]) (hf : fX9_chooseRuns_L23_23 n (κ.2.2.2 0) (κ.2.2.2 1) (κ.2.2.2 2) a = some r) (Kc : ∀ (v1 : Int32) (v3 : Int32) (σ1 : zS), r = .inl (v1, v3, σ1) → ∀ (H : Heap) (locs : List Loc) (ls : Array Slot), zH wC κ A s σ1 H locs → lv_has ls 6 [(0, .ref (κ.2.1 0)), (1, .int v1), (3, .int v3)] → W p l e rmX9_chooseRuns s m args below meth c H locs 0 0 Q (F0 m 23 ls [])) (Ke0 : ∀ (σ1 : zS), r = .inr (.inl σ1) → ∀ (H : Heap) (locs : List Loc) (ls : Array Slot), zH wC κ A s σ1 H locs → lv_has ls 6 [(0, .ref (κ.2.1 0))] → W p l e rmX9_chooseRuns s m args below meth c H locs 0 0 Q (F0 m 136 ls [])) (Ke1 : ∀ (σ1 : zS), r = .inr (.inr (.inl σ1)) → ∀ (H : Heap) (locs : List Loc) (ls : Array Slot), zH wC κ A s σ1 H locs → lv_has ls 6 [(0, .ref (κ.2.1 0))] → W p l e rmX9_chooseRuns s m args below meth c H locs 0 0 Q (F0 m 48 ls [])) (Ke2 : ∀ (σ1 : zS), r = .inr (.inr (.inr σ1)) → ∀ (H : Heap) (locs : List Loc) (ls : Array Slot), zH wC κ A s σ1 H locs → lv_has ls 6 [(0, .ref (κ.2.1 0))] → W p l e rmX9_chooseRuns s m args below meth c H locs 0 0 Q (F0 m 79 ls [])) : W p l e rmX9_chooseRuns s m args below meth c H locs 0 0 Q (F0 m 23 ls []) := by
  unfold fX9_chooseRuns_L23_23 at hf
  refine lv_iload_n C.ex C.by dX9_chooseRuns_23 rfl (lv_at hl 2 rfl) ?_
  refine lv_if_le (tgt := 136) C.ex C.by dX9_chooseRuns_24 (by decide) (fun c5 => ?_) (fun c5 => ?_)
  · have hf := zif_t c5 hf
    exact Ke0 _ (Option.some.inj hf).symm _ _ _ h (lv_sub hl [0] rfl)
  · have hf := zif_f c5 hf
    refine lv_aload_n C.ex C.by dX9_chooseRuns_27 rfl (lv_at hl 0 rfl) ?_
    refine z_get (v := .ref (κ.2.1 20)) C h iwX9 0 (wC_at0 κ _) rfl 5 (by decide) lkC35 rfl dX9_chooseRuns_28 ?_
    obtain ⟨q6, e7, hf⟩ := zb_some hf
    refine z_callVi (As := []) C h (ctX3_firstTurn e7) (zgV lkC175 lkC176 lkC177 lkC40 lkC178) ⟨rfl, rfl⟩ hdX3_firstTurn ⟨Nat.le_of_ble_eq_true rfl, Nat.le_of_ble_eq_true rfl⟩ 20 (wC_at20 κ _) rfl hl rfl rfl (Nat.le_of_ble_eq_true rfl) dX9_chooseRuns_31 ⟨Nat.zero_le _, Nat.zero_le _⟩ (fun H locs h => ?_)
    refine lv_iload_n C.ex C.by dX9_chooseRuns_34 rfl (lv_at hl 1 rfl) ?_
    refine lv_icmp_eq (tgt := 58) C.ex C.by dX9_chooseRuns_35 (by decide) (fun c8 => ?_) (fun c8 => ?_)
    · have hf := zif_t c8 hf
      exact wX9_chooseRuns_L23_58 C h hl hf Kc Ke0 Ke1 Ke2
    · have hf := zif_f c8 hf
      refine lv_aload_n C.ex C.by dX9_chooseRuns_38 rfl (lv_at hl 0 rfl) ?_
      refine z_get (v := .ref (κ.2.1 14)) C h iwX9 0 (wC_at0 κ _) rfl 4 (by decide) lkC101 rfl dX9_chooseRuns_39 ?_
      obtain ⟨q9, e10, hf⟩ := zb_some hf
      refine z_callVi (As := []) C h (ctX7_endRun (r1 := q9.1) (r2 := q9.2) e10) (zgV lkC171 lkC172 lkC173 lkC121 lkC174) ⟨rfl, rfl⟩ hdX7_endRun ⟨Nat.le_of_ble_eq_true rfl, Nat.le_of_ble_eq_true rfl⟩ 14 (wC_at14 κ _) rfl hl rfl rfl (Nat.le_of_ble_eq_true rfl) dX9_chooseRuns_42 ⟨Nat.zero_le _, Nat.zero_le _⟩ (fun H locs h => ?_)
      refine lv_if_ne (tgt := 50) C.ex C.by dX9_chooseRuns_45 (by decide) (fun c11 => ?_) (fun c11 => ?_)
      · have hf := zif_f c11 hf
        refine lv_aload_n C.ex C.by dX9_chooseRuns_50 rfl (lv_at hl 0 rfl) ?_
        refine z_get (v := .ref (κ.2.1 20)) C h iwX9 0 (wC_at0 κ _) rfl 5 (by decide) lkC35 rfl dX9_chooseRuns_51 ?_
        obtain ⟨q12, e13, hf⟩ := zb_some hf
        refine z_callVi (As := []) C h (ctX3_firstTurn e13) (zgV lkC175 lkC176 lkC177 lkC40 lkC178) ⟨rfl, rfl⟩ hdX3_firstTurn ⟨Nat.le_of_ble_eq_true rfl, Nat.le_of_ble_eq_true rfl⟩ 20 (wC_at20 κ _) rfl hl rfl rfl (Nat.le_of_ble_eq_true rfl) dX9_chooseRuns_54 ⟨Nat.zero_le _, Nat.zero_le _⟩ (fun H locs h => ?_)
        refine lv_istore_n (lv' := [(1, .int q12), (0, .ref (κ.2.1 0)), (3, .int a.2.1)]) C.ex C.by dX9_chooseRuns_57 rfl hl (by decide) rfl (fun ls hl => ?_)
        exact wX9_chooseRuns_L23_58 C h (lv_sub hl [1, 0, 2] rfl) hf Kc Ke0 Ke1 Ke2
      · have hf := zif_t c11 hf
        exact Ke1 _ (Option.some.inj hf).symm _ _ _ h (lv_sub hl [0] rfl)
theorem wlX9_chooseRuns_23 {p : Program} {l : Launch} {e : Env} {s : State} {m : MethodId} {args : Array Value} {below : List Frame} {meth : Method} {c : Code} {A : Nat → Prop} {κ : zG} {H : Heap} {locs : List Loc} {ls : Array Slot} {Q : State → Prop} {n : Nat} {k0 : Nat} {u1 : Int32} {u3 : Int32} {σ1 : zS} (C : zC cX9_chooseRuns 6 (some .boolean) RX9 κ A p s m args meth c) (h : zH wC κ A s σ1 H locs) (hl : lv_has ls 6 [(0, .ref (κ.2.1 0)), (1, .int u1), (3, .int u3)]) (b : (zS) ⊕ (zS) ⊕ (zS)) (hb : zlp (fX9_chooseRuns_L23_23 n (κ.2.2.2 0) (κ.2.2.2 1) (κ.2.2.2 2)) k0 (u1, u3, σ1) = some b) (K : (fun b => Sum.elim (fun b : zS => ∀ (H : Heap) (locs : List Loc) (ls : Array Slot), zH wC κ A s b H locs → lv_has ls 6 [(0, .ref (κ.2.1 0))] → W p l e rmX9_chooseRuns s m args below meth c H locs 0 0 Q (F0 m 136 ls [])) (fun b => Sum.elim (fun b : zS => ∀ (H : Heap) (locs : List Loc) (ls : Array Slot), zH wC κ A s b H locs → lv_has ls 6 [(0, .ref (κ.2.1 0))] → W p l e rmX9_chooseRuns s m args below meth c H locs 0 0 Q (F0 m 48 ls [])) (fun b : zS => ∀ (H : Heap) (locs : List Loc) (ls : Array Slot), zH wC κ A s b H locs → lv_has ls 6 [(0, .ref (κ.2.1 0))] → W p l e rmX9_chooseRuns s m args below meth c H locs 0 0 Q (F0 m 79 ls [])) b) b) b) : W p l e rmX9_chooseRuns s m args below meth c H locs 0 0 Q (F0 m 23 ls []) :=
  z_loop (body := fX9_chooseRuns_L23_23 n (κ.2.2.2 0) (κ.2.2.2 1) (κ.2.2.2 2)) (Wd := (fun a : Int32 × Int32 × zS => ∀ (H : Heap) (locs : List Loc) (ls : Array Slot), zH wC κ A s a.2.2 H locs → lv_has ls 6 [(0, .ref (κ.2.1 0)), (1, .int a.1), (3, .int a.2.1)] → W p l e rmX9_chooseRuns s m args below meth c H locs 0 0 Q (F0 m 23 ls []))) (Ex := (fun b : (zS) ⊕ (zS) ⊕ (zS) => (fun b => Sum.elim (fun b : zS => ∀ (H : Heap) (locs : List Loc) (ls : Array Slot), zH wC κ A s b H locs → lv_has ls 6 [(0, .ref (κ.2.1 0))] → W p l e rmX9_chooseRuns s m args below meth c H locs 0 0 Q (F0 m 136 ls [])) (fun b => Sum.elim (fun b : zS => ∀ (H : Heap) (locs : List Loc) (ls : Array Slot), zH wC κ A s b H locs → lv_has ls 6 [(0, .ref (κ.2.1 0))] → W p l e rmX9_chooseRuns s m args below meth c H locs 0 0 Q (F0 m 48 ls [])) (fun b : zS => ∀ (H : Heap) (locs : List Loc) (ls : Array Slot), zH wC κ A s b H locs → lv_has ls 6 [(0, .ref (κ.2.1 0))] → W p l e rmX9_chooseRuns s m args below meth c H locs 0 0 Q (F0 m 79 ls [])) b) b) b)) (fun a r hr Kc Ke H locs ls h hl => wX9_chooseRuns_L23_23 C h hl hr (fun v1 v3 σ1 e => Kc (v1, v3, σ1) e) (fun σ1 e => Ke (.inl σ1) e) (fun σ1 e => Ke (.inr (.inl σ1)) e) (fun σ1 e => Ke (.inr (.inr σ1)) e)) k0 (u1, u3, σ1) b hb K H locs ls h hl
set_option maxRecDepth 20000 in
set_option maxHeartbeats 4000000 in
theorem wX9_chooseRuns_0 {p : Program} {l : Launch} {e : Env} {s : State} {m : MethodId} {args : Array Value} {below : List Frame} {meth : Method} {c : Code} {A : Nat → Prop} {κ : zG} {H : Heap} {locs : List Loc} {ls : Array Slot} {n : Nat} {σ : zS} {r1 : Int32} {r2 : zS} (C : zC cX9_chooseRuns 6 (some .boolean) RX9 κ A p s m args meth c) (h : zH wC κ A s σ H locs) (hl : lv_has ls 6 [(0, .ref (κ.2.1 0))]) (hf : fX9_chooseRuns_0 n (κ.2.2.2 0) (κ.2.2.2 1) (κ.2.2.2 2) σ = some (r1, r2)) : W p l e rmX9_chooseRuns s m args below meth c H locs 0 0 (MQ below (zQi wC κ A r1 r2) args s 0 0 A) (F0 m 0 ls []) := by
  unfold fX9_chooseRuns_0 at hf
  refine lv_aload_n C.ex C.by dX9_chooseRuns_0 rfl (lv_at hl 0 rfl) ?_
  refine z_get (v := .ref (κ.2.1 20)) C h iwX9 0 (wC_at0 κ _) rfl 5 (by decide) lkC35 rfl dX9_chooseRuns_1 ?_
  obtain ⟨q1, e2, hf⟩ := zb_some hf
  refine z_callVv (As := []) C h (ctX3_clear e2) (zgV lkC37 lkC38 lkC39 lkC40 lkC41) ⟨rfl, rfl⟩ hdX3_clear ⟨Nat.le_of_ble_eq_true rfl, Nat.le_of_ble_eq_true rfl⟩ 20 (wC_at20 κ _) rfl hl rfl rfl (Nat.le_of_ble_eq_true rfl) dX9_chooseRuns_4 ⟨Nat.zero_le _, Nat.zero_le _⟩ (fun H locs h => ?_)
  refine lv_iconst (v := 0) C.ex C.by dX9_chooseRuns_7 (by decide) ?_
  refine lv_istore_n (lv' := [(1, .int 0), (0, .ref (κ.2.1 0))]) C.ex C.by dX9_chooseRuns_8 rfl hl (by decide) rfl (fun ls hl => ?_)
  refine lv_aload_n C.ex C.by dX9_chooseRuns_9 rfl (lv_at hl 1 rfl) ?_
  refine z_get (v := .ref (κ.2.1 10)) C h iwX9 0 (wC_at0 κ _) rfl 3 (by decide) lkC42 rfl dX9_chooseRuns_10 ?_
  refine z_getN (v := .int (zI q1 16)) C h iwX2 10 (wC_at10 κ _) rfl 8 (by decide) nkC4 rfl dX9_chooseRuns_13 ?_
  refine lv_istore_n (lv' := [(2, .int (zI q1 16)), (1, .int 0), (0, .ref (κ.2.1 0))]) C.ex C.by dX9_chooseRuns_16 rfl hl (by decide) rfl (fun ls hl => ?_)
  refine lv_aload_n C.ex C.by dX9_chooseRuns_17 rfl (lv_at hl 2 rfl) ?_
  obtain ⟨q3, e4, hf⟩ := zb_some hf
  refine z_callVv (As := []) C h (ctX9_fillMemory e4) (zgV lkC96 lkC97 lkC98 lkC99 lkC100) ⟨rfl, rfl⟩ hdX9_fillMemory ⟨Nat.le_of_ble_eq_true rfl, Nat.le_of_ble_eq_true rfl⟩ 0 (wC_at0 κ _) rfl hl rfl rfl (Nat.le_of_ble_eq_true rfl) dX9_chooseRuns_18 ⟨Nat.zero_le _, Nat.zero_le _⟩ (fun H locs h => ?_)
  refine lv_iload_n C.ex C.by dX9_chooseRuns_21 rfl (lv_at hl 0 rfl) ?_
  refine lv_istore_n (lv' := [(3, .int (zI q1 16)), (2, .int (zI q1 16)), (1, .int 0), (0, .ref (κ.2.1 0))]) C.ex C.by dX9_chooseRuns_22 rfl hl (by decide) rfl (fun ls hl => ?_)
  obtain ⟨b27, e28, hf⟩ := zb_some hf
  refine wlX9_chooseRuns_23 C h (lv_sub hl [3, 2, 0] rfl) b27 e28 ?_
  rcases b27 with b27 | b27
  · dsimp only [Sum.elim_inl] at hf
    intro H locs ls h hl
    refine lv_aload_n C.ex C.by dX9_chooseRuns_136 rfl (lv_at hl 0 rfl) ?_
    refine z_get (v := .ref (κ.2.1 14)) C h iwX9 0 (wC_at0 κ _) rfl 4 (by decide) lkC101 rfl dX9_chooseRuns_137 ?_
    obtain ⟨q29, e30, hf⟩ := zb_some hf
    refine z_callVi (As := []) C h (ctX7_endRun (r1 := q29.1) (r2 := q29.2) e30) (zgV lkC171 lkC172 lkC173 lkC121 lkC174) ⟨rfl, rfl⟩ hdX7_endRun ⟨Nat.le_of_ble_eq_true rfl, Nat.le_of_ble_eq_true rfl⟩ 14 (wC_at14 κ _) rfl hl rfl rfl (Nat.le_of_ble_eq_true rfl) dX9_chooseRuns_140 ⟨Nat.zero_le _, Nat.zero_le _⟩ (fun H locs h => ?_)
    obtain ⟨h31, hf⟩ := zg_some hf
    cases hf
    exact z_zret C h (zbo_n h31) dX9_chooseRuns_143
  · dsimp only [Sum.elim_inr] at hf
    rcases b27 with b27 | b27
    · dsimp only [Sum.elim_inl] at hf
      intro H locs ls h hl
      refine lv_iconst (v := 0) C.ex C.by dX9_chooseRuns_48 (by decide) ?_
      cases hf
      exact z_zret (r := 0) C h rfl dX9_chooseRuns_49
    · dsimp only [Sum.elim_inr] at hf
      intro H locs ls h hl
      refine lv_iconst (v := 0) C.ex C.by dX9_chooseRuns_79 (by decide) ?_
      cases hf
      exact z_zret (r := 0) C h rfl dX9_chooseRuns_80
theorem ctX9_chooseRuns {l : Launch} {κ : zG} {n : Nat} {σ : zS} {r1 : Int32} {r2 : zS} (hf : fX9_chooseRuns_0 n (κ.2.2.2 0) (κ.2.2.2 1) (κ.2.2.2 2) σ = some (r1, r2)) : zMi l yX9_chooseRuns (Cond.code yX9_chooseRuns cX9_chooseRuns 6 (some .boolean)) rmX9_chooseRuns wC κ [.ref (κ.2.1 0)] σ r1 r2 :=
  zMi_of (by decide) (Nat.le_of_ble_eq_true rfl) (fun p e s m below meth c A C h ls hl => wX9_chooseRuns_0 C h hl hf)
theorem hdX9_copyRuns : yX9_copyRuns.cls = RX9 ∧ yX9_copyRuns.cls ≠ "java/lang/invoke/MethodHandle" ∧ yX9_copyRuns.cls ≠ "java/lang/invoke/VarHandle" ∧ (parseMethodDescriptor yX9_copyRuns.desc).map (fun d => d.parameters.length) = some 0 := by decide +kernel
abbrev rmX9_copyRuns : Room := { frames := 5, cells := 0, slots := 0, locals := 110 }
set_option maxRecDepth 20000 in
set_option maxHeartbeats 4000000 in
theorem wX9_copyRuns_L10_51 {p : Program} {l : Launch} {e : Env} {s : State} {m : MethodId} {args : Array Value} {below : List Frame} {meth : Method} {c : Code} {A : Nat → Prop} {κ : zG} {H : Heap} {locs : List Loc} {ls : Array Slot} {Q : State → Prop} {n : Nat} {σ : zS} {x2 : Int32} {x3 : Int32} {r : (Int32 × Int32 × zS) ⊕ ((zS) ⊕ (zS) ⊕ (zS))} (C : zC cX9_copyRuns 4 (some .boolean) RX9 κ A p s m args meth c) (h : zH wC κ A s σ H locs) (hl : lv_has ls 4 [(0, .ref (κ.2.1 0)), (2, .int x2), (3, .int x3)]) (hf : fX9_copyRuns_L10_51 n (κ.2.2.2 0) (κ.2.2.2 1) (κ.2.2.2 2) σ x2 x3 = some r) (Kc : ∀ (v1 : Int32) (v2 : Int32) (σ1 : zS), r = .inl (v1, v2, σ1) → ∀ (H : Heap) (locs : List Loc) (ls : Array Slot), zH wC κ A s σ1 H locs → lv_has ls 4 [(0, .ref (κ.2.1 0)), (1, .int v1), (2, .int v2)] → W p l e rmX9_copyRuns s m args below meth c H locs 0 0 Q (F0 m 10 ls [])) (Ke0 : ∀ (σ1 : zS), r = .inr (.inl σ1) → ∀ (H : Heap) (locs : List Loc) (ls : Array Slot), zH wC κ A s σ1 H locs → lv_has ls 4 [(0, .ref (κ.2.1 0))] → W p l e rmX9_copyRuns s m args below meth c H locs 0 0 Q (F0 m 72 ls [])) (Ke1 : ∀ (σ1 : zS), r = .inr (.inr (.inl σ1)) → ∀ (H : Heap) (locs : List Loc) (ls : Array Slot), zH wC κ A s σ1 H locs → lv_has ls 4 [(0, .ref (κ.2.1 0))] → W p l e rmX9_copyRuns s m args below meth c H locs 0 0 Q (F0 m 49 ls [])) (Ke2 : ∀ (σ1 : zS), r = .inr (.inr (.inr σ1)) → ∀ (H : Heap) (locs : List Loc) (ls : Array Slot), zH wC κ A s σ1 H locs → lv_has ls 4 [(0, .ref (κ.2.1 0))] → W p l e rmX9_copyRuns s m args below meth c H locs 0 0 Q (F0 m 62 ls [])) : W p l e rmX9_copyRuns s m args below meth c H locs 0 0 Q (F0 m 51 ls []) := by
  unfold fX9_copyRuns_L10_51 at hf
  refine lv_aload_n C.ex C.by dX9_copyRuns_51 rfl (lv_at hl 0 rfl) ?_
  refine z_get (v := .ref (κ.2.1 14)) C h iwX9 0 (wC_at0 κ _) rfl 4 (by decide) lkC101 rfl dX9_copyRuns_52 ?_
  refine lv_iload_n C.ex C.by dX9_copyRuns_55 rfl (lv_at hl 2 rfl) ?_
  obtain ⟨q11, e12, hf⟩ := zb_some hf
  refine z_callVi (As := [.int x3]) C h (ctX7_goOut (r1 := q11.1) (r2 := q11.2) e12) (zgV lkC157 lkC158 lkC159 lkC121 lkC160) ⟨rfl, rfl⟩ hdX7_goOut ⟨Nat.le_of_ble_eq_true rfl, Nat.le_of_ble_eq_true rfl⟩ 14 (wC_at14 κ _) rfl hl rfl rfl (Nat.le_of_ble_eq_true rfl) dX9_copyRuns_56 ⟨Nat.zero_le _, Nat.zero_le _⟩ (fun H locs h => ?_)
  refine lv_if_ne (tgt := 64) C.ex C.by dX9_copyRuns_59 (by decide) (fun c13 => ?_) (fun c13 => ?_)
  · have hf := zif_f c13 hf
    refine lv_iload_n C.ex C.by dX9_copyRuns_64 rfl (lv_at hl 2 rfl) ?_
    refine lv_istore_n (lv' := [(1, .int x3), (0, .ref (κ.2.1 0)), (2, .int x2), (3, .int x3)]) C.ex C.by dX9_copyRuns_65 rfl hl (by decide) rfl (fun ls hl => ?_)
    refine lv_iinc (v := (x2 + (-1))) (lv' := [(2, .int (x2 + (-1))), (1, .int x3), (0, .ref (κ.2.1 0)), (3, .int x3)]) C.ex C.by dX9_copyRuns_66 hl (k := 2) rfl rfl (by decide) rfl (fun ls hl => ?_)
    refine lv_goto (tgt := 10) C.ex C.by dX9_copyRuns_69 (by decide) ?_
    exact Kc _ _ _ (Option.some.inj hf).symm _ _ _ h (lv_sub hl [2, 1, 0] rfl)
  · have hf := zif_t c13 hf
    exact Ke2 _ (Option.some.inj hf).symm _ _ _ h (lv_sub hl [0] rfl)
set_option maxRecDepth 20000 in
set_option maxHeartbeats 4000000 in
theorem wX9_copyRuns_L10_10 {p : Program} {l : Launch} {e : Env} {s : State} {m : MethodId} {args : Array Value} {below : List Frame} {meth : Method} {c : Code} {A : Nat → Prop} {κ : zG} {H : Heap} {locs : List Loc} {ls : Array Slot} {Q : State → Prop} {n : Nat} {a : Int32 × Int32 × zS} {r : (Int32 × Int32 × zS) ⊕ ((zS) ⊕ (zS) ⊕ (zS))} (C : zC cX9_copyRuns 4 (some .boolean) RX9 κ A p s m args meth c) (h : zH wC κ A s a.2.2 H locs) (hl : lv_has ls 4 [(0, .ref (κ.2.1 0)), (1, .int a.1), (2, .int a.2.1)]) (hf : fX9_copyRuns_L10_10 n (κ.2.2.2 0) (κ.2.2.2 1) (κ.2.2.2 2) a = some r) (Kc : ∀ (v1 : Int32) (v2 : Int32) (σ1 : zS), r = .inl (v1, v2, σ1) → ∀ (H : Heap) (locs : List Loc) (ls : Array Slot), zH wC κ A s σ1 H locs → lv_has ls 4 [(0, .ref (κ.2.1 0)), (1, .int v1), (2, .int v2)] → W p l e rmX9_copyRuns s m args below meth c H locs 0 0 Q (F0 m 10 ls [])) (Ke0 : ∀ (σ1 : zS), r = .inr (.inl σ1) → ∀ (H : Heap) (locs : List Loc) (ls : Array Slot), zH wC κ A s σ1 H locs → lv_has ls 4 [(0, .ref (κ.2.1 0))] → W p l e rmX9_copyRuns s m args below meth c H locs 0 0 Q (F0 m 72 ls [])) (Ke1 : ∀ (σ1 : zS), r = .inr (.inr (.inl σ1)) → ∀ (H : Heap) (locs : List Loc) (ls : Array Slot), zH wC κ A s σ1 H locs → lv_has ls 4 [(0, .ref (κ.2.1 0))] → W p l e rmX9_copyRuns s m args below meth c H locs 0 0 Q (F0 m 49 ls [])) (Ke2 : ∀ (σ1 : zS), r = .inr (.inr (.inr σ1)) → ∀ (H : Heap) (locs : List Loc) (ls : Array Slot), zH wC κ A s σ1 H locs → lv_has ls 4 [(0, .ref (κ.2.1 0))] → W p l e rmX9_copyRuns s m args below meth c H locs 0 0 Q (F0 m 62 ls [])) : W p l e rmX9_copyRuns s m args below meth c H locs 0 0 Q (F0 m 10 ls []) := by
  unfold fX9_copyRuns_L10_10 at hf
  refine lv_iload_n C.ex C.by dX9_copyRuns_10 rfl (lv_at hl 2 rfl) ?_
  refine lv_if_le (tgt := 72) C.ex C.by dX9_copyRuns_11 (by decide) (fun c1 => ?_) (fun c1 => ?_)
  · have hf := zif_t c1 hf
    exact Ke0 _ (Option.some.inj hf).symm _ _ _ h (lv_sub hl [0] rfl)
  · have hf := zif_f c1 hf
    refine lv_aload_n C.ex C.by dX9_copyRuns_14 rfl (lv_at hl 0 rfl) ?_
    refine z_get (v := .ref (κ.2.1 10)) C h iwX9 0 (wC_at0 κ _) rfl 3 (by decide) lkC42 rfl dX9_copyRuns_15 ?_
    obtain ⟨q2, e3, hf⟩ := zb_some hf
    refine z_callVi (As := []) C h (ctX2_next (r1 := q2.1) (r2 := q2.2) e3) (zgV lkC57 lkC58 lkC59 lkC60 lkC61) ⟨rfl, rfl⟩ hdX2_next ⟨Nat.le_of_ble_eq_true rfl, Nat.le_of_ble_eq_true rfl⟩ 10 (wC_at10 κ _) rfl hl rfl rfl (Nat.le_of_ble_eq_true rfl) dX9_copyRuns_18 ⟨Nat.zero_le _, Nat.zero_le _⟩ (fun H locs h => ?_)
    refine lv_istore_n (lv' := [(3, .int q2.1), (0, .ref (κ.2.1 0)), (1, .int a.1), (2, .int a.2.1)]) C.ex C.by dX9_copyRuns_21 rfl hl (by decide) rfl (fun ls hl => ?_)
    refine lv_iload_n C.ex C.by dX9_copyRuns_22 rfl (lv_at hl 2 rfl) ?_
    refine lv_iconst (v := (-1)) C.ex C.by dX9_copyRuns_23 (by decide) ?_
    refine lv_icmp_eq (tgt := 51) C.ex C.by dX9_copyRuns_24 (by decide) (fun c4 => ?_) (fun c4 => ?_)
    · have hf := zif_t c4 hf
      exact wX9_copyRuns_L10_51 C h (lv_sub hl [1, 3, 0] rfl) hf Kc Ke0 Ke1 Ke2
    · have hf := zif_f c4 hf
      refine lv_aload_n C.ex C.by dX9_copyRuns_27 rfl (lv_at hl 1 rfl) ?_
      refine z_get (v := .ref (κ.2.1 4)) C h iwX9 0 (wC_at0 κ _) rfl 1 (by decide) lkC1 rfl dX9_copyRuns_28 ?_
      refine lv_iload_n C.ex C.by dX9_copyRuns_31 rfl (lv_at hl 0 rfl) ?_
      refine lv_iload_n C.ex C.by dX9_copyRuns_32 rfl (lv_at hl 2 rfl) ?_
      obtain ⟨q5, e6, hf⟩ := zb_some hf
      refine z_callVi (As := [.int q2.1, .int a.1]) C h (ctX5_isBefore e6) (zgV lkC179 lkC77 lkC78 lkC74 lkC79) ⟨rfl, rfl⟩ hdX5_isBefore ⟨Nat.le_of_ble_eq_true rfl, Nat.le_of_ble_eq_true rfl⟩ 4 (wC_at4 κ _) rfl hl rfl rfl (Nat.le_of_ble_eq_true rfl) dX9_copyRuns_33 ⟨Nat.zero_le _, Nat.zero_le _⟩ (fun H locs h => ?_)
      refine lv_if_eq (tgt := 51) C.ex C.by dX9_copyRuns_36 (by decide) (fun c7 => ?_) (fun c7 => ?_)
      · have hf := zif_t c7 hf
        exact wX9_copyRuns_L10_51 C h (lv_sub hl [1, 3, 0] rfl) hf Kc Ke0 Ke1 Ke2
      · have hf := zif_f c7 hf
        refine lv_aload_n C.ex C.by dX9_copyRuns_39 rfl (lv_at hl 1 rfl) ?_
        refine z_get (v := .ref (κ.2.1 14)) C h iwX9 0 (wC_at0 κ _) rfl 4 (by decide) lkC101 rfl dX9_copyRuns_40 ?_
        obtain ⟨q8, e9, hf⟩ := zb_some hf
        refine z_callVi (As := []) C h (ctX7_endRun (r1 := q8.1) (r2 := q8.2) e9) (zgV lkC171 lkC172 lkC173 lkC121 lkC174) ⟨rfl, rfl⟩ hdX7_endRun ⟨Nat.le_of_ble_eq_true rfl, Nat.le_of_ble_eq_true rfl⟩ 14 (wC_at14 κ _) rfl hl rfl rfl (Nat.le_of_ble_eq_true rfl) dX9_copyRuns_43 ⟨Nat.zero_le _, Nat.zero_le _⟩ (fun H locs h => ?_)
        refine lv_if_ne (tgt := 51) C.ex C.by dX9_copyRuns_46 (by decide) (fun c10 => ?_) (fun c10 => ?_)
        · have hf := zif_f c10 hf
          exact wX9_copyRuns_L10_51 C h (lv_sub hl [1, 3, 0] rfl) hf Kc Ke0 Ke1 Ke2
        · have hf := zif_t c10 hf
          exact Ke1 _ (Option.some.inj hf).symm _ _ _ h (lv_sub hl [1] rfl)
theorem wlX9_copyRuns_10 {p : Program} {l : Launch} {e : Env} {s : State} {m : MethodId} {args : Array Value} {below : List Frame} {meth : Method} {c : Code} {A : Nat → Prop} {κ : zG} {H : Heap} {locs : List Loc} {ls : Array Slot} {Q : State → Prop} {n : Nat} {k0 : Nat} {u1 : Int32} {u2 : Int32} {σ1 : zS} (C : zC cX9_copyRuns 4 (some .boolean) RX9 κ A p s m args meth c) (h : zH wC κ A s σ1 H locs) (hl : lv_has ls 4 [(0, .ref (κ.2.1 0)), (1, .int u1), (2, .int u2)]) (b : (zS) ⊕ (zS) ⊕ (zS)) (hb : zlp (fX9_copyRuns_L10_10 n (κ.2.2.2 0) (κ.2.2.2 1) (κ.2.2.2 2)) k0 (u1, u2, σ1) = some b) (K : (fun b => Sum.elim (fun b : zS => ∀ (H : Heap) (locs : List Loc) (ls : Array Slot), zH wC κ A s b H locs → lv_has ls 4 [(0, .ref (κ.2.1 0))] → W p l e rmX9_copyRuns s m args below meth c H locs 0 0 Q (F0 m 72 ls [])) (fun b => Sum.elim (fun b : zS => ∀ (H : Heap) (locs : List Loc) (ls : Array Slot), zH wC κ A s b H locs → lv_has ls 4 [(0, .ref (κ.2.1 0))] → W p l e rmX9_copyRuns s m args below meth c H locs 0 0 Q (F0 m 49 ls [])) (fun b : zS => ∀ (H : Heap) (locs : List Loc) (ls : Array Slot), zH wC κ A s b H locs → lv_has ls 4 [(0, .ref (κ.2.1 0))] → W p l e rmX9_copyRuns s m args below meth c H locs 0 0 Q (F0 m 62 ls [])) b) b) b) : W p l e rmX9_copyRuns s m args below meth c H locs 0 0 Q (F0 m 10 ls []) :=
  z_loop (body := fX9_copyRuns_L10_10 n (κ.2.2.2 0) (κ.2.2.2 1) (κ.2.2.2 2)) (Wd := (fun a : Int32 × Int32 × zS => ∀ (H : Heap) (locs : List Loc) (ls : Array Slot), zH wC κ A s a.2.2 H locs → lv_has ls 4 [(0, .ref (κ.2.1 0)), (1, .int a.1), (2, .int a.2.1)] → W p l e rmX9_copyRuns s m args below meth c H locs 0 0 Q (F0 m 10 ls []))) (Ex := (fun b : (zS) ⊕ (zS) ⊕ (zS) => (fun b => Sum.elim (fun b : zS => ∀ (H : Heap) (locs : List Loc) (ls : Array Slot), zH wC κ A s b H locs → lv_has ls 4 [(0, .ref (κ.2.1 0))] → W p l e rmX9_copyRuns s m args below meth c H locs 0 0 Q (F0 m 72 ls [])) (fun b => Sum.elim (fun b : zS => ∀ (H : Heap) (locs : List Loc) (ls : Array Slot), zH wC κ A s b H locs → lv_has ls 4 [(0, .ref (κ.2.1 0))] → W p l e rmX9_copyRuns s m args below meth c H locs 0 0 Q (F0 m 49 ls [])) (fun b : zS => ∀ (H : Heap) (locs : List Loc) (ls : Array Slot), zH wC κ A s b H locs → lv_has ls 4 [(0, .ref (κ.2.1 0))] → W p l e rmX9_copyRuns s m args below meth c H locs 0 0 Q (F0 m 62 ls [])) b) b) b)) (fun a r hr Kc Ke H locs ls h hl => wX9_copyRuns_L10_10 C h hl hr (fun v1 v2 σ1 e => Kc (v1, v2, σ1) e) (fun σ1 e => Ke (.inl σ1) e) (fun σ1 e => Ke (.inr (.inl σ1)) e) (fun σ1 e => Ke (.inr (.inr σ1)) e)) k0 (u1, u2, σ1) b hb K H locs ls h hl
set_option maxRecDepth 20000 in
set_option maxHeartbeats 4000000 in
theorem wX9_copyRuns_0 {p : Program} {l : Launch} {e : Env} {s : State} {m : MethodId} {args : Array Value} {below : List Frame} {meth : Method} {c : Code} {A : Nat → Prop} {κ : zG} {H : Heap} {locs : List Loc} {ls : Array Slot} {n : Nat} {σ : zS} {r1 : Int32} {r2 : zS} (C : zC cX9_copyRuns 4 (some .boolean) RX9 κ A p s m args meth c) (h : zH wC κ A s σ H locs) (hl : lv_has ls 4 [(0, .ref (κ.2.1 0))]) (hf : fX9_copyRuns_0 n (κ.2.2.2 0) (κ.2.2.2 1) (κ.2.2.2 2) σ = some (r1, r2)) : W p l e rmX9_copyRuns s m args below meth c H locs 0 0 (MQ below (zQi wC κ A r1 r2) args s 0 0 A) (F0 m 0 ls []) := by
  unfold fX9_copyRuns_0 at hf
  refine lv_iconst (v := (-1)) C.ex C.by dX9_copyRuns_0 (by decide) ?_
  refine lv_istore_n (lv' := [(1, .int (-1)), (0, .ref (κ.2.1 0))]) C.ex C.by dX9_copyRuns_1 rfl hl (by decide) rfl (fun ls hl => ?_)
  refine lv_aload_n C.ex C.by dX9_copyRuns_2 rfl (lv_at hl 1 rfl) ?_
  refine z_get (v := .ref (κ.2.1 10)) C h iwX9 0 (wC_at0 κ _) rfl 3 (by decide) lkC42 rfl dX9_copyRuns_3 ?_
  refine z_getN (v := .int (zI σ 16)) C h iwX2 10 (wC_at10 κ _) rfl 8 (by decide) nkC4 rfl dX9_copyRuns_6 ?_
  refine lv_istore_n (lv' := [(2, .int (zI σ 16)), (1, .int (-1)), (0, .ref (κ.2.1 0))]) C.ex C.by dX9_copyRuns_9 rfl hl (by decide) rfl (fun ls hl => ?_)
  obtain ⟨b14, e15, hf⟩ := zb_some hf
  refine wlX9_copyRuns_10 C h (lv_sub hl [2, 1, 0] rfl) b14 e15 ?_
  rcases b14 with b14 | b14
  · dsimp only [Sum.elim_inl] at hf
    intro H locs ls h hl
    refine lv_aload_n C.ex C.by dX9_copyRuns_72 rfl (lv_at hl 0 rfl) ?_
    refine z_get (v := .ref (κ.2.1 14)) C h iwX9 0 (wC_at0 κ _) rfl 4 (by decide) lkC101 rfl dX9_copyRuns_73 ?_
    obtain ⟨q16, e17, hf⟩ := zb_some hf
    refine z_callVi (As := []) C h (ctX7_endRun (r1 := q16.1) (r2 := q16.2) e17) (zgV lkC171 lkC172 lkC173 lkC121 lkC174) ⟨rfl, rfl⟩ hdX7_endRun ⟨Nat.le_of_ble_eq_true rfl, Nat.le_of_ble_eq_true rfl⟩ 14 (wC_at14 κ _) rfl hl rfl rfl (Nat.le_of_ble_eq_true rfl) dX9_copyRuns_76 ⟨Nat.zero_le _, Nat.zero_le _⟩ (fun H locs h => ?_)
    obtain ⟨h18, hf⟩ := zg_some hf
    cases hf
    exact z_zret C h (zbo_n h18) dX9_copyRuns_79
  · dsimp only [Sum.elim_inr] at hf
    rcases b14 with b14 | b14
    · dsimp only [Sum.elim_inl] at hf
      intro H locs ls h hl
      refine lv_iconst (v := 0) C.ex C.by dX9_copyRuns_49 (by decide) ?_
      cases hf
      exact z_zret (r := 0) C h rfl dX9_copyRuns_50
    · dsimp only [Sum.elim_inr] at hf
      intro H locs ls h hl
      refine lv_iconst (v := 0) C.ex C.by dX9_copyRuns_62 (by decide) ?_
      cases hf
      exact z_zret (r := 0) C h rfl dX9_copyRuns_63
theorem ctX9_copyRuns {l : Launch} {κ : zG} {n : Nat} {σ : zS} {r1 : Int32} {r2 : zS} (hf : fX9_copyRuns_0 n (κ.2.2.2 0) (κ.2.2.2 1) (κ.2.2.2 2) σ = some (r1, r2)) : zMi l yX9_copyRuns (Cond.code yX9_copyRuns cX9_copyRuns 4 (some .boolean)) rmX9_copyRuns wC κ [.ref (κ.2.1 0)] σ r1 r2 :=
  zMi_of (by decide) (Nat.le_of_ble_eq_true rfl) (fun p e s m below meth c A C h ls hl => wX9_copyRuns_0 C h hl hf)
theorem hdX6_size : yX6_size.cls = RX6 ∧ yX6_size.cls ≠ "java/lang/invoke/MethodHandle" ∧ yX6_size.cls ≠ "java/lang/invoke/VarHandle" ∧ (parseMethodDescriptor yX6_size.desc).map (fun d => d.parameters.length) = some 0 := by decide +kernel
abbrev rmX6_size : Room := { frames := 0, cells := 0, slots := 0, locals := 0 }
set_option maxRecDepth 20000 in
set_option maxHeartbeats 4000000 in
theorem wX6_size_0 {p : Program} {l : Launch} {e : Env} {s : State} {m : MethodId} {args : Array Value} {below : List Frame} {meth : Method} {c : Code} {A : Nat → Prop} {κ : zG} {H : Heap} {locs : List Loc} {ls : Array Slot} {n : Nat} {σ : zS} {r : Int32} (C : zC cX6_size 1 (some .int) RX6 κ A p s m args meth c) (h : zH wR κ A s σ H locs) (hl : lv_has ls 1 [(0, .ref (κ.2.1 0))]) (hf : fX6_size_0 n (κ.2.2.2 0) σ = some r) : W p l e rmX6_size s m args below meth c H locs 0 0 (MQ below (zQi wR κ A r σ) args s 0 0 A) (F0 m 0 ls []) := by
  unfold fX6_size_0 at hf
  refine lv_aload_n C.ex C.by dX6_size_0 rfl (lv_at hl 0 rfl) ?_
  refine z_get (v := .int (zI σ 0)) C h iwX6 0 (wR_at0 κ _) rfl 1 (by decide) lkC47 rfl dX6_size_1 ?_
  cases hf
  exact z_iret C h dX6_size_4
theorem ctX6_size {l : Launch} {κ : zG} {n : Nat} {σ : zS} {r : Int32} (hf : fX6_size_0 n (κ.2.2.2 0) σ = some r) : zMi l yX6_size (Cond.code yX6_size cX6_size 1 (some .int)) rmX6_size wR κ [.ref (κ.2.1 0)] σ r σ :=
  zMi_of (by decide) (Nat.le_of_ble_eq_true rfl) (fun p e s m below meth c A C h ls hl => wX6_size_0 C h hl hf)
theorem hdX6_clear : yX6_clear.cls = RX6 ∧ yX6_clear.cls ≠ "java/lang/invoke/MethodHandle" ∧ yX6_clear.cls ≠ "java/lang/invoke/VarHandle" ∧ (parseMethodDescriptor yX6_clear.desc).map (fun d => d.parameters.length) = some 0 := by decide +kernel
abbrev rmX6_clear : Room := { frames := 0, cells := 0, slots := 0, locals := 0 }
set_option maxRecDepth 20000 in
set_option maxHeartbeats 4000000 in
theorem wX6_clear_0 {p : Program} {l : Launch} {e : Env} {s : State} {m : MethodId} {args : Array Value} {below : List Frame} {meth : Method} {c : Code} {A : Nat → Prop} {κ : zG} {H : Heap} {locs : List Loc} {ls : Array Slot} {n : Nat} {σ : zS} {r : zS} (C : zC cX6_clear 1 none RX6 κ A p s m args meth c) (h : zH wR κ A s σ H locs) (hl : lv_has ls 1 [(0, .ref (κ.2.1 0))]) (hf : fX6_clear_0 n (κ.2.2.2 0) σ = some r) : W p l e rmX6_clear s m args below meth c H locs 0 0 (MQ below (zQv wR κ A r) args s 0 0 A) (F0 m 0 ls []) := by
  unfold fX6_clear_0 at hf
  refine lv_aload_n C.ex C.by dX6_clear_0 rfl (lv_at hl 0 rfl) ?_
  refine lv_iconst (v := 0) C.ex C.by dX6_clear_1 (by decide) ?_
  refine z_put C h iwX6 tyX6_ok nmX6 0 (wR_at0 κ _) rfl 1 (by decide) lkC47 rfl rfl rfl (Nat.le_of_ble_eq_true rfl) (sI σ 0 0) (wR_s0_1 κ _ _) dX6_clear_2 (fun H locs h => ?_)
  cases hf
  exact z_vret C h dX6_clear_5
theorem ctX6_clear {l : Launch} {κ : zG} {n : Nat} {σ : zS} {r : zS} (hf : fX6_clear_0 n (κ.2.2.2 0) σ = some r) : zMv l yX6_clear (Cond.code yX6_clear cX6_clear 1 none) rmX6_clear wR κ [.ref (κ.2.1 0)] σ r :=
  zMv_of (by decide) (Nat.le_of_ble_eq_true rfl) (fun p e s m below meth c A C h ls hl => wX6_clear_0 C h hl hf)
theorem hdX5_hasKey : yX5_hasKey.cls = RX5 ∧ yX5_hasKey.cls ≠ "java/lang/invoke/MethodHandle" ∧ yX5_hasKey.cls ≠ "java/lang/invoke/VarHandle" ∧ (parseMethodDescriptor yX5_hasKey.desc).map (fun d => d.parameters.length) = some 1 := by decide +kernel
abbrev rmX5_hasKey : Room := { frames := 0, cells := 0, slots := 0, locals := 0 }
set_option maxRecDepth 20000 in
set_option maxHeartbeats 4000000 in
theorem wX5_hasKey_L2_2 {p : Program} {l : Launch} {e : Env} {s : State} {m : MethodId} {args : Array Value} {below : List Frame} {meth : Method} {c : Code} {A : Nat → Prop} {κ : zG} {H : Heap} {locs : List Loc} {ls : Array Slot} {Q : State → Prop} {n : Nat} {σ : zS} {k1 : Int32} {a : Int32} {r : (Int32) ⊕ ((Unit) ⊕ (Unit))} (C : zC cX5_hasKey 3 (some .boolean) RX5 κ A p s m args meth c) (h : zH wC κ A s σ H locs) (hl : lv_has ls 3 [(0, .ref (κ.2.1 4)), (1, .int k1), (2, .int a)]) (hf : fX5_hasKey_L2_2 n (κ.2.2.2 0) (κ.2.2.2 1) (κ.2.2.2 2) σ k1 a = some r) (Kc : ∀ (v2 : Int32), r = .inl v2 → ∀ (H : Heap) (locs : List Loc) (ls : Array Slot), zH wC κ A s σ H locs → lv_has ls 3 [(0, .ref (κ.2.1 4)), (1, .int k1), (2, .int v2)] → W p l e rmX5_hasKey s m args below meth c H locs 0 0 Q (F0 m 2 ls [])) (Ke0 : ∀ (_ : Unit), r = .inr (.inl ()) → ∀ (H : Heap) (locs : List Loc) (ls : Array Slot), zH wC κ A s σ H locs → lv_has ls 3 [(0, .ref (κ.2.1 4))] → W p l e rmX5_hasKey s m args below meth c H locs 0 0 Q (F0 m 37 ls [])) (Ke1 : ∀ (_ : Unit), r = .inr (.inr ()) → ∀ (H : Heap) (locs : List Loc) (ls : Array Slot), zH wC κ A s σ H locs → lv_has ls 3 [(0, .ref (κ.2.1 4))] → W p l e rmX5_hasKey s m args below meth c H locs 0 0 Q (F0 m 29 ls [])) : W p l e rmX5_hasKey s m args below meth c H locs 0 0 Q (F0 m 2 ls []) := by
  unfold fX5_hasKey_L2_2 at hf
  refine lv_iload_n C.ex C.by dX5_hasKey_2 rfl (lv_at hl 2 rfl) ?_
  refine lv_aload_n C.ex C.by dX5_hasKey_3 rfl (lv_at hl 0 rfl) ?_
  refine z_get (v := .int (zI σ 8)) C h iwX5 4 (wC_at4 κ _) rfl 3 (by decide) lkC65 rfl dX5_hasKey_4 ?_
  refine lv_icmp_ge (tgt := 37) C.ex C.by dX5_hasKey_7 (by decide) (fun c1 => ?_) (fun c1 => ?_)
  · have hf := zif_t c1 hf
    exact Ke0 () (Option.some.inj hf).symm _ _ _ h (lv_sub hl [0] rfl)
  · have hf := zif_f c1 hf
    refine lv_iload_n C.ex C.by dX5_hasKey_10 rfl (lv_at hl 2 rfl) ?_
    refine lv_aload_n C.ex C.by dX5_hasKey_11 rfl (lv_at hl 0 rfl) ?_
    refine z_get (v := .ref (κ.2.1 5)) C h iwX5 4 (wC_at4 κ _) rfl 1 (by decide) lkC67 rfl dX5_hasKey_12 ?_
    refine z_alen (t0 := 0) C h 5 (wC_at5 κ _) rfl dX5_hasKey_15 ?_
    refine lv_icmp_ge (tgt := 37) C.ex C.by dX5_hasKey_16 (by decide) (fun c2 => ?_) (fun c2 => ?_)
    · have hf := zif_t c2 hf
      exact Ke0 () (Option.some.inj hf).symm _ _ _ h (lv_sub hl [0] rfl)
    · have hf := zif_f c2 hf
      refine lv_aload_n C.ex C.by dX5_hasKey_19 rfl (lv_at hl 0 rfl) ?_
      refine z_get (v := .ref (κ.2.1 5)) C h iwX5 4 (wC_at4 κ _) rfl 1 (by decide) lkC67 rfl dX5_hasKey_20 ?_
      refine lv_iload_n C.ex C.by dX5_hasKey_23 rfl (lv_at hl 2 rfl) ?_
      obtain ⟨h3, hf⟩ := zg_some hf
      refine z_iald (f := (zA σ 1)) C h 5 (wC_at5 κ _) h3 dX5_hasKey_24 ?_
      refine lv_iload_n C.ex C.by dX5_hasKey_25 rfl (lv_at hl 1 rfl) ?_
      refine lv_icmp_ne (tgt := 31) C.ex C.by dX5_hasKey_26 (by decide) (fun c4 => ?_) (fun c4 => ?_)
      · have hf := zif_f c4 hf
        refine lv_iinc (v := (a + 1)) (lv' := [(2, .int (a + 1)), (0, .ref (κ.2.1 4)), (1, .int k1)]) C.ex C.by dX5_hasKey_31 hl (k := 2) rfl rfl (by decide) rfl (fun ls hl => ?_)
        refine lv_goto (tgt := 2) C.ex C.by dX5_hasKey_34 (by decide) ?_
        exact Kc _ (Option.some.inj hf).symm _ _ _ h (lv_sub hl [1, 2, 0] rfl)
      · have hf := zif_t c4 hf
        exact Ke1 () (Option.some.inj hf).symm _ _ _ h (lv_sub hl [0] rfl)
theorem wlX5_hasKey_2 {p : Program} {l : Launch} {e : Env} {s : State} {m : MethodId} {args : Array Value} {below : List Frame} {meth : Method} {c : Code} {A : Nat → Prop} {κ : zG} {H : Heap} {locs : List Loc} {ls : Array Slot} {Q : State → Prop} {n : Nat} {σ : zS} {k1 : Int32} {k0 : Nat} {u2 : Int32} (C : zC cX5_hasKey 3 (some .boolean) RX5 κ A p s m args meth c) (h : zH wC κ A s σ H locs) (hl : lv_has ls 3 [(0, .ref (κ.2.1 4)), (1, .int k1), (2, .int u2)]) (b : (Unit) ⊕ (Unit)) (hb : zlp (fX5_hasKey_L2_2 n (κ.2.2.2 0) (κ.2.2.2 1) (κ.2.2.2 2) σ k1) k0 u2 = some b) (K : (fun b => Sum.elim (fun b : Unit => ∀ (H : Heap) (locs : List Loc) (ls : Array Slot), zH wC κ A s σ H locs → lv_has ls 3 [(0, .ref (κ.2.1 4))] → W p l e rmX5_hasKey s m args below meth c H locs 0 0 Q (F0 m 37 ls [])) (fun b : Unit => ∀ (H : Heap) (locs : List Loc) (ls : Array Slot), zH wC κ A s σ H locs → lv_has ls 3 [(0, .ref (κ.2.1 4))] → W p l e rmX5_hasKey s m args below meth c H locs 0 0 Q (F0 m 29 ls [])) b) b) : W p l e rmX5_hasKey s m args below meth c H locs 0 0 Q (F0 m 2 ls []) :=
  z_loop (body := fX5_hasKey_L2_2 n (κ.2.2.2 0) (κ.2.2.2 1) (κ.2.2.2 2) σ k1) (Wd := (fun a : Int32 => ∀ (H : Heap) (locs : List Loc) (ls : Array Slot), zH wC κ A s σ H locs → lv_has ls 3 [(0, .ref (κ.2.1 4)), (1, .int k1), (2, .int a)] → W p l e rmX5_hasKey s m args below meth c H locs 0 0 Q (F0 m 2 ls []))) (Ex := (fun b : (Unit) ⊕ (Unit) => (fun b => Sum.elim (fun b : Unit => ∀ (H : Heap) (locs : List Loc) (ls : Array Slot), zH wC κ A s σ H locs → lv_has ls 3 [(0, .ref (κ.2.1 4))] → W p l e rmX5_hasKey s m args below meth c H locs 0 0 Q (F0 m 37 ls [])) (fun b : Unit => ∀ (H : Heap) (locs : List Loc) (ls : Array Slot), zH wC κ A s σ H locs → lv_has ls 3 [(0, .ref (κ.2.1 4))] → W p l e rmX5_hasKey s m args below meth c H locs 0 0 Q (F0 m 29 ls [])) b) b)) (fun a r hr Kc Ke H locs ls h hl => wX5_hasKey_L2_2 C h hl hr (fun v2 e => Kc v2 e) (fun _ e => Ke (.inl ()) e) (fun _ e => Ke (.inr ()) e)) k0 u2 b hb K H locs ls h hl
set_option maxRecDepth 20000 in
set_option maxHeartbeats 4000000 in
theorem wX5_hasKey_0 {p : Program} {l : Launch} {e : Env} {s : State} {m : MethodId} {args : Array Value} {below : List Frame} {meth : Method} {c : Code} {A : Nat → Prop} {κ : zG} {H : Heap} {locs : List Loc} {ls : Array Slot} {n : Nat} {σ : zS} {x1 : Int32} {r : Int32} (C : zC cX5_hasKey 3 (some .boolean) RX5 κ A p s m args meth c) (h : zH wC κ A s σ H locs) (hl : lv_has ls 3 [(0, .ref (κ.2.1 4)), (1, .int x1)]) (hf : fX5_hasKey_0 n (κ.2.2.2 0) (κ.2.2.2 1) (κ.2.2.2 2) σ x1 = some r) : W p l e rmX5_hasKey s m args below meth c H locs 0 0 (MQ below (zQi wC κ A r σ) args s 0 0 A) (F0 m 0 ls []) := by
  unfold fX5_hasKey_0 at hf
  refine lv_iconst (v := 0) C.ex C.by dX5_hasKey_0 (by decide) ?_
  refine lv_istore_n (lv' := [(2, .int 0), (0, .ref (κ.2.1 4)), (1, .int x1)]) C.ex C.by dX5_hasKey_1 rfl hl (by decide) rfl (fun ls hl => ?_)
  obtain ⟨b5, e6, hf⟩ := zb_some hf
  refine wlX5_hasKey_2 C h (lv_sub hl [1, 2, 0] rfl) b5 e6 ?_
  rcases b5 with b5 | b5
  · dsimp only [Sum.elim_inl] at hf
    intro H locs ls h hl
    refine lv_iconst (v := 0) C.ex C.by dX5_hasKey_37 (by decide) ?_
    cases hf
    exact z_zret (r := 0) C h rfl dX5_hasKey_38
  · dsimp only [Sum.elim_inr] at hf
    intro H locs ls h hl
    refine lv_iconst (v := 1) C.ex C.by dX5_hasKey_29 (by decide) ?_
    cases hf
    exact z_zret (r := 1) C h rfl dX5_hasKey_30
theorem ctX5_hasKey {l : Launch} {κ : zG} {n : Nat} {σ : zS} {x1 : Int32} {r : Int32} (hf : fX5_hasKey_0 n (κ.2.2.2 0) (κ.2.2.2 1) (κ.2.2.2 2) σ x1 = some r) : zMi l yX5_hasKey (Cond.code yX5_hasKey cX5_hasKey 3 (some .boolean)) rmX5_hasKey wC κ [.ref (κ.2.1 4), .int x1] σ r σ :=
  zMi_of (by decide) (Nat.le_of_ble_eq_true rfl) (fun p e s m below meth c A C h ls hl => wX5_hasKey_0 C h hl hf)
theorem hdX5_canSum : yX5_canSum.cls = RX5 ∧ yX5_canSum.cls ≠ "java/lang/invoke/MethodHandle" ∧ yX5_canSum.cls ≠ "java/lang/invoke/VarHandle" ∧ (parseMethodDescriptor yX5_canSum.desc).map (fun d => d.parameters.length) = some 0 := by decide +kernel
abbrev rmX5_canSum : Room := { frames := 1, cells := 0, slots := 0, locals := 22 }
set_option maxRecDepth 20000 in
set_option maxHeartbeats 4000000 in
theorem wX5_canSum_0 {p : Program} {l : Launch} {e : Env} {s : State} {m : MethodId} {args : Array Value} {below : List Frame} {meth : Method} {c : Code} {A : Nat → Prop} {κ : zG} {H : Heap} {locs : List Loc} {ls : Array Slot} {n : Nat} {σ : zS} {r : Int32} (C : zC cX5_canSum 1 (some .boolean) RX5 κ A p s m args meth c) (h : zH wC κ A s σ H locs) (hl : lv_has ls 1 [(0, .ref (κ.2.1 4))]) (hf : fX5_canSum_0 n (κ.2.2.2 0) (κ.2.2.2 1) (κ.2.2.2 2) σ = some r) : W p l e rmX5_canSum s m args below meth c H locs 0 0 (MQ below (zQi wC κ A r σ) args s 0 0 A) (F0 m 0 ls []) := by
  unfold fX5_canSum_0 at hf
  refine lv_aload_n C.ex C.by dX5_canSum_0 rfl (lv_at hl 0 rfl) ?_
  refine z_get (v := .int (zI σ 8)) C h iwX5 4 (wC_at4 κ _) rfl 3 (by decide) lkC65 rfl dX5_canSum_1 ?_
  refine lv_if_le (tgt := 24) C.ex C.by dX5_canSum_4 (by decide) (fun c1 => ?_) (fun c1 => ?_)
  · have hf := zif_t c1 hf
    refine lv_iconst (v := 0) C.ex C.by dX5_canSum_24 (by decide) ?_
    cases hf
    exact z_zret (r := 0) C h rfl dX5_canSum_25
  · have hf := zif_f c1 hf
    refine lv_aload_n C.ex C.by dX5_canSum_7 rfl (lv_at hl 0 rfl) ?_
    refine lv_aload_n C.ex C.by dX5_canSum_8 rfl (lv_at hl 0 rfl) ?_
    refine z_get (v := .int (zI σ 9)) C h iwX5 4 (wC_at4 κ _) rfl 4 (by decide) lkC66 rfl dX5_canSum_9 ?_
    refine lv_iconst (v := 1) C.ex C.by dX5_canSum_12 (by decide) ?_
    refine lv_isub C.ex C.by dX5_canSum_13 ?_
    obtain ⟨q2, e3, hf⟩ := zb_some hf
    refine z_callVi (As := [.int ((zI σ 9) - 1)]) C h (ctX5_hasKey e3) (zgV lkC197 lkC198 lkC199 lkC74 lkC200) ⟨rfl, rfl⟩ hdX5_hasKey ⟨Nat.le_of_ble_eq_true rfl, Nat.le_of_ble_eq_true rfl⟩ 4 (wC_at4 κ _) rfl hl rfl rfl (Nat.le_of_ble_eq_true rfl) dX5_canSum_14 ⟨Nat.zero_le _, Nat.zero_le _⟩ (fun H locs h => ?_)
    refine lv_if_ne (tgt := 24) C.ex C.by dX5_canSum_17 (by decide) (fun c4 => ?_) (fun c4 => ?_)
    · have hf := zif_f c4 hf
      refine lv_iconst (v := 0) C.ex C.by dX5_canSum_24 (by decide) ?_
      cases hf
      exact z_zret (r := 0) C h rfl dX5_canSum_25
    · have hf := zif_t c4 hf
      refine lv_iconst (v := 1) C.ex C.by dX5_canSum_20 (by decide) ?_
      refine lv_goto (tgt := 25) C.ex C.by dX5_canSum_21 (by decide) ?_
      cases hf
      exact z_zret (r := 1) C h rfl dX5_canSum_25
theorem ctX5_canSum {l : Launch} {κ : zG} {n : Nat} {σ : zS} {r : Int32} (hf : fX5_canSum_0 n (κ.2.2.2 0) (κ.2.2.2 1) (κ.2.2.2 2) σ = some r) : zMi l yX5_canSum (Cond.code yX5_canSum cX5_canSum 1 (some .boolean)) rmX5_canSum wC κ [.ref (κ.2.1 4)] σ r σ :=
  zMi_of (by decide) (Nat.le_of_ble_eq_true rfl) (fun p e s m below meth c A C h ls hl => wX5_canSum_0 C h hl hf)
theorem hdX7_beginStep : yX7_beginStep.cls = RX7 ∧ yX7_beginStep.cls ≠ "java/lang/invoke/MethodHandle" ∧ yX7_beginStep.cls ≠ "java/lang/invoke/VarHandle" ∧ (parseMethodDescriptor yX7_beginStep.desc).map (fun d => d.parameters.length) = some 1 := by decide +kernel
abbrev rmX7_beginStep : Room := { frames := 2, cells := 0, slots := 0, locals := 42 }
set_option maxRecDepth 20000 in
set_option maxHeartbeats 4000000 in
theorem wX7_beginStep_34 {p : Program} {l : Launch} {e : Env} {s : State} {m : MethodId} {args : Array Value} {below : List Frame} {meth : Method} {c : Code} {A : Nat → Prop} {κ : zG} {H : Heap} {locs : List Loc} {ls : Array Slot} {n : Nat} {σ : zS} {y0 : Int32} {r : zS} (C : zC cX7_beginStep 2 none RX7 κ A p s m args meth c) (h : zH wC κ A s σ H locs) (hl : lv_has ls 2 [(0, .ref (κ.2.1 14))]) (hf : fX7_beginStep_34 n (κ.2.2.2 0) (κ.2.2.2 1) (κ.2.2.2 2) σ y0 = some r) : W p l e rmX7_beginStep s m args below meth c H locs 0 0 (MQ below (zQv wC κ A r) args s 0 0 A) (F0 m 34 ls [.int y0, .ref (κ.2.1 14)]) := by
  unfold fX7_beginStep_34 at hf
  obtain ⟨h7, hf⟩ := zg_some hf
  refine z_put C h iwX7 tyX7_ok nmX7 14 (wC_at14 κ _) rfl 7 (by decide) lkC113 rfl (zbo_n h7) (zbo_f h7) (Nat.le_of_ble_eq_true rfl) (sI σ 19 y0) (wC_s14_7 κ _ _) dX7_beginStep_34 (fun H locs h => ?_)
  refine lv_aload_n C.ex C.by dX7_beginStep_37 rfl (lv_at hl 0 rfl) ?_
  refine z_get (v := .ref (κ.2.1 16)) C h iwX7 14 (wC_at14 κ _) rfl 4 (by decide) lkC137 rfl dX7_beginStep_38 ?_
  obtain ⟨q8, e9, hf⟩ := zb_some hf
  refine z_callRv (As := []) (x := (zI σ 25)) (f := (zA σ 6)) C h (ctX6_clear (κ := zκR κ (κ.2.1 16) (κ.2.1 17) (κ.2.2.2 0)) e9) (zgV lkC205 lkC190 lkC191 lkC52 lkC192) ⟨rfl, rfl⟩ hdX6_clear ⟨Nat.le_of_ble_eq_true rfl, Nat.le_of_ble_eq_true rfl⟩ 16 17 (by decide) (wC_at16 κ _) (wC_at17 κ _) (sA (sI (sI σ 19 y0) 25 (zI q8 0)) 6 (zA q8 0)) (wC_sr16 κ _ _ _) hl rfl rfl (Nat.le_of_ble_eq_true rfl) dX7_beginStep_41 ⟨Nat.zero_le _, Nat.zero_le _⟩ (fun H locs h => ?_)
  refine lv_aload_n C.ex C.by dX7_beginStep_44 rfl (lv_at hl 0 rfl) ?_
  refine z_get (v := .ref (κ.2.1 18)) C h iwX7 14 (wC_at14 κ _) rfl 5 (by decide) lkC166 rfl dX7_beginStep_45 ?_
  obtain ⟨q10, e11, hf⟩ := zb_some hf
  refine z_callRv (As := []) (x := (zI σ 26)) (f := (zA σ 7)) C h (ctX6_clear (κ := zκR κ (κ.2.1 18) (κ.2.1 19) (κ.2.2.2 0)) e11) (zgV lkC205 lkC190 lkC191 lkC52 lkC192) ⟨rfl, rfl⟩ hdX6_clear ⟨Nat.le_of_ble_eq_true rfl, Nat.le_of_ble_eq_true rfl⟩ 18 19 (by decide) (wC_at18 κ _) (wC_at19 κ _) (sA (sI (sA (sI (sI σ 19 y0) 25 (zI q8 0)) 6 (zA q8 0)) 26 (zI q10 0)) 7 (zA q10 0)) (wC_sr18 κ _ _ _) hl rfl rfl (Nat.le_of_ble_eq_true rfl) dX7_beginStep_48 ⟨Nat.zero_le _, Nat.zero_le _⟩ (fun H locs h => ?_)
  refine lv_aload_n C.ex C.by dX7_beginStep_51 rfl (lv_at hl 0 rfl) ?_
  obtain ⟨q12, e13, hf⟩ := zb_some hf
  refine z_callVv (As := []) C h (ctX7_beginRun e13) (zgV lkC167 lkC168 lkC169 lkC121 lkC170) ⟨rfl, rfl⟩ hdX7_beginRun ⟨Nat.le_of_ble_eq_true rfl, Nat.le_of_ble_eq_true rfl⟩ 14 (wC_at14 κ _) rfl hl rfl rfl (Nat.le_of_ble_eq_true rfl) dX7_beginStep_52 ⟨Nat.zero_le _, Nat.zero_le _⟩ (fun H locs h => ?_)
  cases hf
  exact z_vret C h dX7_beginStep_55
set_option maxRecDepth 20000 in
set_option maxHeartbeats 4000000 in
theorem wX7_beginStep_33 {p : Program} {l : Launch} {e : Env} {s : State} {m : MethodId} {args : Array Value} {below : List Frame} {meth : Method} {c : Code} {A : Nat → Prop} {κ : zG} {H : Heap} {locs : List Loc} {ls : Array Slot} {n : Nat} {σ : zS} {r : zS} (C : zC cX7_beginStep 2 none RX7 κ A p s m args meth c) (h : zH wC κ A s σ H locs) (hl : lv_has ls 2 [(0, .ref (κ.2.1 14))]) (hf : fX7_beginStep_33 n (κ.2.2.2 0) (κ.2.2.2 1) (κ.2.2.2 2) σ = some r) : W p l e rmX7_beginStep s m args below meth c H locs 0 0 (MQ below (zQv wC κ A r) args s 0 0 A) (F0 m 33 ls [.ref (κ.2.1 14)]) := by
  unfold fX7_beginStep_33 at hf
  refine lv_iconst (v := 0) C.ex C.by dX7_beginStep_33 (by decide) ?_
  exact wX7_beginStep_34 C h hl hf
set_option maxRecDepth 20000 in
set_option maxHeartbeats 4000000 in
theorem wX7_beginStep_10 {p : Program} {l : Launch} {e : Env} {s : State} {m : MethodId} {args : Array Value} {below : List Frame} {meth : Method} {c : Code} {A : Nat → Prop} {κ : zG} {H : Heap} {locs : List Loc} {ls : Array Slot} {n : Nat} {σ : zS} {x1 : Int32} {y0 : Int32} {r : zS} (C : zC cX7_beginStep 2 none RX7 κ A p s m args meth c) (h : zH wC κ A s σ H locs) (hl : lv_has ls 2 [(0, .ref (κ.2.1 14)), (1, .int x1)]) (hf : fX7_beginStep_10 n (κ.2.2.2 0) (κ.2.2.2 1) (κ.2.2.2 2) σ x1 y0 = some r) : W p l e rmX7_beginStep s m args below meth c H locs 0 0 (MQ below (zQv wC κ A r) args s 0 0 A) (F0 m 10 ls [.int y0, .ref (κ.2.1 14)]) := by
  unfold fX7_beginStep_10 at hf
  obtain ⟨h2, hf⟩ := zg_some hf
  refine z_put C h iwX7 tyX7_ok nmX7 14 (wC_at14 κ _) rfl 6 (by decide) lkC106 rfl (zbo_n h2) (zbo_f h2) (Nat.le_of_ble_eq_true rfl) (sI σ 18 y0) (wC_s14_6 κ _ _) dX7_beginStep_10 (fun H locs h => ?_)
  refine lv_aload_n C.ex C.by dX7_beginStep_13 rfl (lv_at hl 0 rfl) ?_
  refine lv_iload_n C.ex C.by dX7_beginStep_14 rfl (lv_at hl 1 rfl) ?_
  refine lv_iconst (v := 2) C.ex C.by dX7_beginStep_15 (by decide) ?_
  refine lv_icmp_ne (tgt := 33) C.ex C.by dX7_beginStep_16 (by decide) (fun c3 => ?_) (fun c3 => ?_)
  · have hf := zif_f c3 hf
    exact wX7_beginStep_33 C h (lv_sub hl [0] rfl) hf
  · have hf := zif_t c3 hf
    refine lv_aload_n C.ex C.by dX7_beginStep_19 rfl (lv_at hl 0 rfl) ?_
    refine z_get (v := .ref (κ.2.1 4)) C h iwX7 14 (wC_at14 κ _) rfl 1 (by decide) lkC108 rfl dX7_beginStep_20 ?_
    obtain ⟨q4, e5, hf⟩ := zb_some hf
    refine z_callVi (As := []) C h (ctX5_canSum e5) (zgV lkC201 lkC202 lkC203 lkC74 lkC204) ⟨rfl, rfl⟩ hdX5_canSum ⟨Nat.le_of_ble_eq_true rfl, Nat.le_of_ble_eq_true rfl⟩ 4 (wC_at4 κ _) rfl hl rfl rfl (Nat.le_of_ble_eq_true rfl) dX7_beginStep_23 ⟨Nat.zero_le _, Nat.zero_le _⟩ (fun H locs h => ?_)
    refine lv_if_eq (tgt := 33) C.ex C.by dX7_beginStep_26 (by decide) (fun c6 => ?_) (fun c6 => ?_)
    · have hf := zif_t c6 hf
      exact wX7_beginStep_33 C h (lv_sub hl [0] rfl) hf
    · have hf := zif_f c6 hf
      refine lv_iconst (v := 1) C.ex C.by dX7_beginStep_29 (by decide) ?_
      refine lv_goto (tgt := 34) C.ex C.by dX7_beginStep_30 (by decide) ?_
      exact wX7_beginStep_34 C h (lv_sub hl [0] rfl) hf
set_option maxRecDepth 20000 in
set_option maxHeartbeats 4000000 in
theorem wX7_beginStep_0 {p : Program} {l : Launch} {e : Env} {s : State} {m : MethodId} {args : Array Value} {below : List Frame} {meth : Method} {c : Code} {A : Nat → Prop} {κ : zG} {H : Heap} {locs : List Loc} {ls : Array Slot} {n : Nat} {σ : zS} {x1 : Int32} {r : zS} (C : zC cX7_beginStep 2 none RX7 κ A p s m args meth c) (h : zH wC κ A s σ H locs) (hl : lv_has ls 2 [(0, .ref (κ.2.1 14)), (1, .int x1)]) (hf : fX7_beginStep_0 n (κ.2.2.2 0) (κ.2.2.2 1) (κ.2.2.2 2) σ x1 = some r) : W p l e rmX7_beginStep s m args below meth c H locs 0 0 (MQ below (zQv wC κ A r) args s 0 0 A) (F0 m 0 ls []) := by
  unfold fX7_beginStep_0 at hf
  refine lv_aload_n C.ex C.by dX7_beginStep_0 rfl (lv_at hl 0 rfl) ?_
  refine lv_iload_n C.ex C.by dX7_beginStep_1 rfl (lv_at hl 1 rfl) ?_
  refine lv_if_eq (tgt := 9) C.ex C.by dX7_beginStep_2 (by decide) (fun c1 => ?_) (fun c1 => ?_)
  · have hf := zif_t c1 hf
    refine lv_iconst (v := 0) C.ex C.by dX7_beginStep_9 (by decide) ?_
    exact wX7_beginStep_10 C h hl hf
  · have hf := zif_f c1 hf
    refine lv_iconst (v := 1) C.ex C.by dX7_beginStep_5 (by decide) ?_
    refine lv_goto (tgt := 10) C.ex C.by dX7_beginStep_6 (by decide) ?_
    exact wX7_beginStep_10 C h hl hf
theorem ctX7_beginStep {l : Launch} {κ : zG} {n : Nat} {σ : zS} {x1 : Int32} {r : zS} (hf : fX7_beginStep_0 n (κ.2.2.2 0) (κ.2.2.2 1) (κ.2.2.2 2) σ x1 = some r) : zMv l yX7_beginStep (Cond.code yX7_beginStep cX7_beginStep 2 none) rmX7_beginStep wC κ [.ref (κ.2.1 14), .int x1] σ r :=
  zMv_of (by decide) (Nat.le_of_ble_eq_true rfl) (fun p e s m below meth c A C h ls hl => wX7_beginStep_0 C h hl hf)
theorem hdX1_heldBy : yX1_heldBy.cls = RX1 ∧ yX1_heldBy.cls ≠ "java/lang/invoke/MethodHandle" ∧ yX1_heldBy.cls ≠ "java/lang/invoke/VarHandle" ∧ (parseMethodDescriptor yX1_heldBy.desc).map (fun d => d.parameters.length) = some 1 := by decide +kernel
abbrev rmX1_heldBy : Room := { frames := 0, cells := 0, slots := 0, locals := 0 }
set_option maxRecDepth 20000 in
set_option maxHeartbeats 4000000 in
theorem wX1_heldBy_0 {p : Program} {l : Launch} {e : Env} {s : State} {m : MethodId} {args : Array Value} {below : List Frame} {meth : Method} {c : Code} {A : Nat → Prop} {κ : zG} {H : Heap} {locs : List Loc} {ls : Array Slot} {n : Nat} {σ : zS} {x1 : Int32} {r : Int32} (C : zC cX1_heldBy 2 (some .int) RX1 κ A p s m args meth c) (h : zH wC κ A s σ H locs) (hl : lv_has ls 2 [(0, .ref (κ.2.1 7)), (1, .int x1)]) (hf : fX1_heldBy_0 n (κ.2.2.2 0) (κ.2.2.2 1) (κ.2.2.2 2) σ x1 = some r) : W p l e rmX1_heldBy s m args below meth c H locs 0 0 (MQ below (zQi wC κ A r σ) args s 0 0 A) (F0 m 0 ls []) := by
  unfold fX1_heldBy_0 at hf
  refine lv_iload_n C.ex C.by dX1_heldBy_0 rfl (lv_at hl 1 rfl) ?_
  refine lv_if_lt (tgt := 22) C.ex C.by dX1_heldBy_1 (by decide) (fun c1 => ?_) (fun c1 => ?_)
  · have hf := zif_t c1 hf
    refine lv_iconst (v := 0) C.ex C.by dX1_heldBy_22 (by decide) ?_
    cases hf
    exact z_iret C h dX1_heldBy_23
  · have hf := zif_f c1 hf
    refine lv_iload_n C.ex C.by dX1_heldBy_4 rfl (lv_at hl 1 rfl) ?_
    refine lv_aload_n C.ex C.by dX1_heldBy_5 rfl (lv_at hl 0 rfl) ?_
    refine z_get (v := .ref (κ.2.1 9)) C h iwX1 7 (wC_at7 κ _) rfl 2 (by decide) lkC161 rfl dX1_heldBy_6 ?_
    refine z_alen (t0 := 0) C h 9 (wC_at9 κ _) rfl dX1_heldBy_9 ?_
    refine lv_icmp_ge (tgt := 22) C.ex C.by dX1_heldBy_10 (by decide) (fun c2 => ?_) (fun c2 => ?_)
    · have hf := zif_t c2 hf
      refine lv_iconst (v := 0) C.ex C.by dX1_heldBy_22 (by decide) ?_
      cases hf
      exact z_iret C h dX1_heldBy_23
    · have hf := zif_f c2 hf
      refine lv_aload_n C.ex C.by dX1_heldBy_13 rfl (lv_at hl 0 rfl) ?_
      refine z_get (v := .ref (κ.2.1 9)) C h iwX1 7 (wC_at7 κ _) rfl 2 (by decide) lkC161 rfl dX1_heldBy_14 ?_
      refine lv_iload_n C.ex C.by dX1_heldBy_17 rfl (lv_at hl 1 rfl) ?_
      obtain ⟨h3, hf⟩ := zg_some hf
      refine z_iald (f := (zA σ 4)) C h 9 (wC_at9 κ _) h3 dX1_heldBy_18 ?_
      refine lv_goto (tgt := 23) C.ex C.by dX1_heldBy_19 (by decide) ?_
      cases hf
      exact z_iret C h dX1_heldBy_23
theorem ctX1_heldBy {l : Launch} {κ : zG} {n : Nat} {σ : zS} {x1 : Int32} {r : Int32} (hf : fX1_heldBy_0 n (κ.2.2.2 0) (κ.2.2.2 1) (κ.2.2.2 2) σ x1 = some r) : zMi l yX1_heldBy (Cond.code yX1_heldBy cX1_heldBy 2 (some .int)) rmX1_heldBy wC κ [.ref (κ.2.1 7), .int x1] σ r σ :=
  zMi_of (by decide) (Nat.le_of_ble_eq_true rfl) (fun p e s m below meth c A C h ls hl => wX1_heldBy_0 C h hl hf)
theorem hdX4_start : yX4_start.cls = RX4 ∧ yX4_start.cls ≠ "java/lang/invoke/MethodHandle" ∧ yX4_start.cls ≠ "java/lang/invoke/VarHandle" ∧ (parseMethodDescriptor yX4_start.desc).map (fun d => d.parameters.length) = some 0 := by decide +kernel
abbrev rmX4_start : Room := { frames := 2, cells := 0, slots := 0, locals := 42 }
set_option maxRecDepth 20000 in
set_option maxHeartbeats 4000000 in
theorem wX4_start_L4_4 {p : Program} {l : Launch} {e : Env} {s : State} {m : MethodId} {args : Array Value} {below : List Frame} {meth : Method} {c : Code} {A : Nat → Prop} {κ : zG} {H : Heap} {locs : List Loc} {ls : Array Slot} {Q : State → Prop} {n : Nat} {a : Int32 × Int32 × zS} {r : (Int32 × Int32 × zS) ⊕ (Int32 × zS)} (C : zC cX4_start 4 (some .int) RX4 κ A p s m args meth c) (h : zH wC κ A s a.2.2 H locs) (hl : lv_has ls 4 [(0, .ref (κ.2.1 23)), (1, .int a.1), (2, .int a.2.1)]) (hf : fX4_start_L4_4 n (κ.2.2.2 0) (κ.2.2.2 1) (κ.2.2.2 2) a = some r) (Kc : ∀ (v1 : Int32) (v2 : Int32) (σ1 : zS), r = .inl (v1, v2, σ1) → ∀ (H : Heap) (locs : List Loc) (ls : Array Slot), zH wC κ A s σ1 H locs → lv_has ls 4 [(0, .ref (κ.2.1 23)), (1, .int v1), (2, .int v2)] → W p l e rmX4_start s m args below meth c H locs 0 0 Q (F0 m 4 ls [])) (Ke0 : ∀ (v1 : Int32) (σ1 : zS), r = .inr (v1, σ1) → ∀ (H : Heap) (locs : List Loc) (ls : Array Slot), zH wC κ A s σ1 H locs → lv_has ls 4 [(0, .ref (κ.2.1 23)), (1, .int v1)] → W p l e rmX4_start s m args below meth c H locs 0 0 Q (F0 m 84 ls [])) : W p l e rmX4_start s m args below meth c H locs 0 0 Q (F0 m 4 ls []) := by
  unfold fX4_start_L4_4 at hf
  refine lv_iload_n C.ex C.by dX4_start_4 rfl (lv_at hl 2 rfl) ?_
  refine lv_aload_n C.ex C.by dX4_start_5 rfl (lv_at hl 0 rfl) ?_
  refine z_get (v := .ref (κ.2.1 24)) C h iwX4 23 (wC_at23 κ _) rfl 4 (by decide) lkC210 rfl dX4_start_6 ?_
  obtain ⟨q1, e2, hf⟩ := zb_some hf
  refine z_callRi (As := []) (x := (zI a.2.2 29)) (f := (zA a.2.2 10)) C h (ctX6_size (κ := zκR κ (κ.2.1 24) (κ.2.1 25) 8) e2) (zgV lkC211 lkC182 lkC183 lkC52 lkC184) ⟨rfl, rfl⟩ hdX6_size ⟨Nat.le_of_ble_eq_true rfl, Nat.le_of_ble_eq_true rfl⟩ 24 25 (by decide) (wC_at24 κ _) (wC_at25 κ _) a.2.2 (zset2 (wC_at24 κ _) (wC_at25 κ _)) hl rfl rfl (Nat.le_of_ble_eq_true rfl) dX4_start_9 ⟨Nat.zero_le _, Nat.zero_le _⟩ (fun H locs h => ?_)
  refine lv_icmp_ge (tgt := 84) C.ex C.by dX4_start_12 (by decide) (fun c3 => ?_) (fun c3 => ?_)
  · have hf := zif_t c3 hf
    exact Ke0 _ _ (Option.some.inj hf).symm _ _ _ h (lv_sub hl [0, 1] rfl)
  · have hf := zif_f c3 hf
    refine lv_iload_n C.ex C.by dX4_start_15 rfl (lv_at hl 2 rfl) ?_
    refine lv_bipush (v := 8) C.ex C.by dX4_start_16 (by decide) ?_
    refine lv_icmp_ge (tgt := 84) C.ex C.by dX4_start_18 (by decide) (fun c4 => ?_) (fun c4 => ?_)
    · have hf := zif_t c4 hf
      exact Ke0 _ _ (Option.some.inj hf).symm _ _ _ h (lv_sub hl [0, 1] rfl)
    · have hf := zif_f c4 hf
      refine lv_aload_n C.ex C.by dX4_start_21 rfl (lv_at hl 0 rfl) ?_
      refine z_get (v := .ref (κ.2.1 24)) C h iwX4 23 (wC_at23 κ _) rfl 4 (by decide) lkC210 rfl dX4_start_22 ?_
      refine lv_iload_n C.ex C.by dX4_start_25 rfl (lv_at hl 2 rfl) ?_
      obtain ⟨q5, e6, hf⟩ := zb_some hf
      refine z_callRi (As := [.int a.2.1]) (x := (zI a.2.2 29)) (f := (zA a.2.2 10)) C h (ctX6_get (κ := zκR κ (κ.2.1 24) (κ.2.1 25) 8) e6) (zgV lkC212 lkC50 lkC51 lkC52 lkC53) ⟨rfl, rfl⟩ hdX6_get ⟨Nat.le_of_ble_eq_true rfl, Nat.le_of_ble_eq_true rfl⟩ 24 25 (by decide) (wC_at24 κ _) (wC_at25 κ _) a.2.2 (zset2 (wC_at24 κ _) (wC_at25 κ _)) hl rfl rfl (Nat.le_of_ble_eq_true rfl) dX4_start_26 ⟨Nat.zero_le _, Nat.zero_le _⟩ (fun H locs h => ?_)
      refine lv_istore_n (lv' := [(3, .int q5), (0, .ref (κ.2.1 23)), (1, .int a.1), (2, .int a.2.1)]) C.ex C.by dX4_start_29 rfl hl (by decide) rfl (fun ls hl => ?_)
      refine lv_aload_n C.ex C.by dX4_start_30 rfl (lv_at hl 1 rfl) ?_
      refine z_get (v := .ref (κ.2.1 1)) C h iwX4 23 (wC_at23 κ _) rfl 0 (by decide) lkC213 rfl dX4_start_31 ?_
      refine lv_iload_n C.ex C.by dX4_start_34 rfl (lv_at hl 0 rfl) ?_
      obtain ⟨q7, e8, hf⟩ := zb_some hf
      refine z_callVv (As := [.int q5]) C h (ctX0_readBlock e8) (zgV lkC214 lkC27 lkC28 lkC24 lkC29) ⟨rfl, rfl⟩ hdX0_readBlock ⟨Nat.le_of_ble_eq_true rfl, Nat.le_of_ble_eq_true rfl⟩ 1 (wC_at1 κ _) rfl hl rfl rfl (Nat.le_of_ble_eq_true rfl) dX4_start_35 ⟨Nat.zero_le _, Nat.zero_le _⟩ (fun H locs h => ?_)
      refine lv_aload_n C.ex C.by dX4_start_38 rfl (lv_at hl 1 rfl) ?_
      refine z_get (v := .ref (κ.2.1 26)) C h iwX4 23 (wC_at23 κ _) rfl 5 (by decide) lkC215 rfl dX4_start_39 ?_
      refine lv_iload_n C.ex C.by dX4_start_42 rfl (lv_at hl 3 rfl) ?_
      refine lv_iload_n C.ex C.by dX4_start_43 rfl (lv_at hl 0 rfl) ?_
      obtain ⟨h9, hf⟩ := zg_some hf
      refine z_iast (f := (zA q7 11)) C h 26 (wC_at26 κ _) h9 (sA q7 11 (upd (zA q7 11) (Int32.toNatClampNeg a.2.1) q5)) (wC_s26 κ _ _) dX4_start_44 (fun H locs h => ?_)
      refine lv_aload_n C.ex C.by dX4_start_45 rfl (lv_at hl 1 rfl) ?_
      refine z_get (v := .ref (κ.2.1 27)) C h iwX4 23 (wC_at23 κ _) rfl 6 (by decide) lkC216 rfl dX4_start_46 ?_
      refine lv_iload_n C.ex C.by dX4_start_49 rfl (lv_at hl 3 rfl) ?_
      refine lv_iconst (v := 0) C.ex C.by dX4_start_50 (by decide) ?_
      obtain ⟨h10, hf⟩ := zg_some hf
      refine z_iast (f := (zA q7 12)) C h 27 (wC_at27 κ _) h10 (sA (sA q7 11 (upd (zA q7 11) (Int32.toNatClampNeg a.2.1) q5)) 12 (upd (zA q7 12) (Int32.toNatClampNeg a.2.1) 0)) (wC_s27 κ _ _) dX4_start_51 (fun H locs h => ?_)
      refine lv_aload_n C.ex C.by dX4_start_52 rfl (lv_at hl 1 rfl) ?_
      refine z_get (v := .ref (κ.2.1 28)) C h iwX4 23 (wC_at23 κ _) rfl 7 (by decide) lkC217 rfl dX4_start_53 ?_
      refine lv_iload_n C.ex C.by dX4_start_56 rfl (lv_at hl 3 rfl) ?_
      refine lv_iload_n C.ex C.by dX4_start_57 rfl (lv_at hl 0 rfl) ?_
      refine lv_aload_n C.ex C.by dX4_start_58 rfl (lv_at hl 1 rfl) ?_
      refine z_get (v := .ref (κ.2.1 1)) C h iwX4 23 (wC_at23 κ _) rfl 0 (by decide) lkC213 rfl dX4_start_59 ?_
      refine z_getN (v := .int (zI q7 1)) C h iwX0 1 (wC_at1 κ _) rfl 0 (by decide) nkC14 rfl dX4_start_62 ?_
      refine lv_imul C.ex C.by dX4_start_65 ?_
      obtain ⟨h11, hf⟩ := zg_some hf
      refine z_iast (f := (zA q7 13)) C h 28 (wC_at28 κ _) h11 (sA (sA (sA q7 11 (upd (zA q7 11) (Int32.toNatClampNeg a.2.1) q5)) 12 (upd (zA q7 12) (Int32.toNatClampNeg a.2.1) 0)) 13 (upd (zA q7 13) (Int32.toNatClampNeg a.2.1) (q5 * (zI q7 1)))) (wC_s28 κ _ _) dX4_start_66 (fun H locs h => ?_)
      refine lv_iload_n C.ex C.by dX4_start_67 rfl (lv_at hl 2 rfl) ?_
      refine lv_aload_n C.ex C.by dX4_start_68 rfl (lv_at hl 1 rfl) ?_
      refine z_get (v := .ref (κ.2.1 7)) C h iwX4 23 (wC_at23 κ _) rfl 2 (by decide) lkC218 rfl dX4_start_69 ?_
      refine lv_iload_n C.ex C.by dX4_start_72 rfl (lv_at hl 0 rfl) ?_
      obtain ⟨q12, e13, hf⟩ := zb_some hf
      refine z_callVi (As := [.int q5]) C h (ctX1_heldBy e13) (zgV lkC219 lkC220 lkC221 lkC11 lkC222) ⟨rfl, rfl⟩ hdX1_heldBy ⟨Nat.le_of_ble_eq_true rfl, Nat.le_of_ble_eq_true rfl⟩ 7 (wC_at7 κ _) rfl hl rfl rfl (Nat.le_of_ble_eq_true rfl) dX4_start_73 ⟨Nat.zero_le _, Nat.zero_le _⟩ (fun H locs h => ?_)
      refine lv_iadd C.ex C.by dX4_start_76 ?_
      refine lv_istore_n (lv' := [(1, .int (a.1 + q12)), (3, .int q5), (0, .ref (κ.2.1 23)), (2, .int a.2.1)]) C.ex C.by dX4_start_77 rfl hl (by decide) rfl (fun ls hl => ?_)
      refine lv_iinc (v := (a.2.1 + 1)) (lv' := [(2, .int (a.2.1 + 1)), (1, .int (a.1 + q12)), (3, .int q5), (0, .ref (κ.2.1 23))]) C.ex C.by dX4_start_78 hl (k := 3) rfl rfl (by decide) rfl (fun ls hl => ?_)
      refine lv_goto (tgt := 4) C.ex C.by dX4_start_81 (by decide) ?_
      exact Kc _ _ _ (Option.some.inj hf).symm _ _ _ h (lv_sub hl [3, 1, 0] rfl)
theorem wlX4_start_4 {p : Program} {l : Launch} {e : Env} {s : State} {m : MethodId} {args : Array Value} {below : List Frame} {meth : Method} {c : Code} {A : Nat → Prop} {κ : zG} {H : Heap} {locs : List Loc} {ls : Array Slot} {Q : State → Prop} {n : Nat} {k0 : Nat} {u1 : Int32} {u2 : Int32} {σ1 : zS} (C : zC cX4_start 4 (some .int) RX4 κ A p s m args meth c) (h : zH wC κ A s σ1 H locs) (hl : lv_has ls 4 [(0, .ref (κ.2.1 23)), (1, .int u1), (2, .int u2)]) (b : Int32 × zS) (hb : zlp (fX4_start_L4_4 n (κ.2.2.2 0) (κ.2.2.2 1) (κ.2.2.2 2)) k0 (u1, u2, σ1) = some b) (K : (fun b : Int32 × zS => ∀ (H : Heap) (locs : List Loc) (ls : Array Slot), zH wC κ A s b.2 H locs → lv_has ls 4 [(0, .ref (κ.2.1 23)), (1, .int b.1)] → W p l e rmX4_start s m args below meth c H locs 0 0 Q (F0 m 84 ls [])) b) : W p l e rmX4_start s m args below meth c H locs 0 0 Q (F0 m 4 ls []) :=
  z_loop (body := fX4_start_L4_4 n (κ.2.2.2 0) (κ.2.2.2 1) (κ.2.2.2 2)) (Wd := (fun a : Int32 × Int32 × zS => ∀ (H : Heap) (locs : List Loc) (ls : Array Slot), zH wC κ A s a.2.2 H locs → lv_has ls 4 [(0, .ref (κ.2.1 23)), (1, .int a.1), (2, .int a.2.1)] → W p l e rmX4_start s m args below meth c H locs 0 0 Q (F0 m 4 ls []))) (Ex := (fun b : Int32 × zS => (fun b : Int32 × zS => ∀ (H : Heap) (locs : List Loc) (ls : Array Slot), zH wC κ A s b.2 H locs → lv_has ls 4 [(0, .ref (κ.2.1 23)), (1, .int b.1)] → W p l e rmX4_start s m args below meth c H locs 0 0 Q (F0 m 84 ls [])) b)) (fun a r hr Kc Ke H locs ls h hl => wX4_start_L4_4 C h hl hr (fun v1 v2 σ1 e => Kc (v1, v2, σ1) e) (fun v1 σ1 e => Ke (v1, σ1) e)) k0 (u1, u2, σ1) b hb K H locs ls h hl
set_option maxRecDepth 20000 in
set_option maxHeartbeats 4000000 in
theorem wX4_start_0 {p : Program} {l : Launch} {e : Env} {s : State} {m : MethodId} {args : Array Value} {below : List Frame} {meth : Method} {c : Code} {A : Nat → Prop} {κ : zG} {H : Heap} {locs : List Loc} {ls : Array Slot} {n : Nat} {σ : zS} {r1 : Int32} {r2 : zS} (C : zC cX4_start 4 (some .int) RX4 κ A p s m args meth c) (h : zH wC κ A s σ H locs) (hl : lv_has ls 4 [(0, .ref (κ.2.1 23))]) (hf : fX4_start_0 n (κ.2.2.2 0) (κ.2.2.2 1) (κ.2.2.2 2) σ = some (r1, r2)) : W p l e rmX4_start s m args below meth c H locs 0 0 (MQ below (zQi wC κ A r1 r2) args s 0 0 A) (F0 m 0 ls []) := by
  unfold fX4_start_0 at hf
  refine lv_iconst (v := 0) C.ex C.by dX4_start_0 (by decide) ?_
  refine lv_istore_n (lv' := [(1, .int 0), (0, .ref (κ.2.1 23))]) C.ex C.by dX4_start_1 rfl hl (by decide) rfl (fun ls hl => ?_)
  refine lv_iconst (v := 0) C.ex C.by dX4_start_2 (by decide) ?_
  refine lv_istore_n (lv' := [(2, .int 0), (1, .int 0), (0, .ref (κ.2.1 23))]) C.ex C.by dX4_start_3 rfl hl (by decide) rfl (fun ls hl => ?_)
  obtain ⟨b14, e15, hf⟩ := zb_some hf
  refine wlX4_start_4 C h (lv_sub hl [2, 1, 0] rfl) b14 e15 ?_
  intro H locs ls h hl
  refine lv_iload_n C.ex C.by dX4_start_84 rfl (lv_at hl 1 rfl) ?_
  cases hf
  exact z_iret C h dX4_start_85
theorem ctX4_start {l : Launch} {κ : zG} {n : Nat} {σ : zS} {r1 : Int32} {r2 : zS} (hf : fX4_start_0 n (κ.2.2.2 0) (κ.2.2.2 1) (κ.2.2.2 2) σ = some (r1, r2)) : zMi l yX4_start (Cond.code yX4_start cX4_start 4 (some .int)) rmX4_start wC κ [.ref (κ.2.1 23)] σ r1 r2 :=
  zMi_of (by decide) (Nat.le_of_ble_eq_true rfl) (fun p e s m below meth c A C h ls hl => wX4_start_0 C h hl hf)
theorem hdX4_firstAtHand : yX4_firstAtHand.cls = RX4 ∧ yX4_firstAtHand.cls ≠ "java/lang/invoke/MethodHandle" ∧ yX4_firstAtHand.cls ≠ "java/lang/invoke/VarHandle" ∧ (parseMethodDescriptor yX4_firstAtHand.desc).map (fun d => d.parameters.length) = some 0 := by decide +kernel
abbrev rmX4_firstAtHand : Room := { frames := 3, cells := 0, slots := 0, locals := 74 }
set_option maxRecDepth 20000 in
set_option maxHeartbeats 4000000 in
theorem wX4_firstAtHand_L4_60 {p : Program} {l : Launch} {e : Env} {s : State} {m : MethodId} {args : Array Value} {below : List Frame} {meth : Method} {c : Code} {A : Nat → Prop} {κ : zG} {H : Heap} {locs : List Loc} {ls : Array Slot} {Q : State → Prop} {n : Nat} {σ : zS} {x1 : Int32} {x2 : Int32} {r : (Int32 × Int32) ⊕ (Int32)} (C : zC cX4_firstAtHand 3 (some .int) RX4 κ A p s m args meth c) (h : zH wC κ A s σ H locs) (hl : lv_has ls 3 [(0, .ref (κ.2.1 23)), (1, .int x1), (2, .int x2)]) (hf : fX4_firstAtHand_L4_60 n (κ.2.2.2 0) (κ.2.2.2 1) (κ.2.2.2 2) σ x1 x2 = some r) (Kc : ∀ (v1 : Int32) (v2 : Int32), r = .inl (v1, v2) → ∀ (H : Heap) (locs : List Loc) (ls : Array Slot), zH wC κ A s σ H locs → lv_has ls 3 [(0, .ref (κ.2.1 23)), (1, .int v1), (2, .int v2)] → W p l e rmX4_firstAtHand s m args below meth c H locs 0 0 Q (F0 m 4 ls [])) (Ke0 : ∀ (v1 : Int32), r = .inr v1 → ∀ (H : Heap) (locs : List Loc) (ls : Array Slot), zH wC κ A s σ H locs → lv_has ls 3 [(0, .ref (κ.2.1 23)), (1, .int v1)] → W p l e rmX4_firstAtHand s m args below meth c H locs 0 0 Q (F0 m 66 ls [])) : W p l e rmX4_firstAtHand s m args below meth c H locs 0 0 Q (F0 m 60 ls []) := by
  unfold fX4_firstAtHand_L4_60 at hf
  refine lv_iinc (v := (x2 + 1)) (lv' := [(2, .int (x2 + 1)), (0, .ref (κ.2.1 23)), (1, .int x1)]) C.ex C.by dX4_firstAtHand_60 hl (k := 2) rfl rfl (by decide) rfl (fun ls hl => ?_)
  refine lv_goto (tgt := 4) C.ex C.by dX4_firstAtHand_63 (by decide) ?_
  exact Kc _ _ (Option.some.inj hf).symm _ _ _ h (lv_sub hl [1, 2, 0] rfl)
set_option maxRecDepth 20000 in
set_option maxHeartbeats 4000000 in
theorem wX4_firstAtHand_L4_58 {p : Program} {l : Launch} {e : Env} {s : State} {m : MethodId} {args : Array Value} {below : List Frame} {meth : Method} {c : Code} {A : Nat → Prop} {κ : zG} {H : Heap} {locs : List Loc} {ls : Array Slot} {Q : State → Prop} {n : Nat} {σ : zS} {x2 : Int32} {r : (Int32 × Int32) ⊕ (Int32)} (C : zC cX4_firstAtHand 3 (some .int) RX4 κ A p s m args meth c) (h : zH wC κ A s σ H locs) (hl : lv_has ls 3 [(0, .ref (κ.2.1 23)), (2, .int x2)]) (hf : fX4_firstAtHand_L4_58 n (κ.2.2.2 0) (κ.2.2.2 1) (κ.2.2.2 2) σ x2 = some r) (Kc : ∀ (v1 : Int32) (v2 : Int32), r = .inl (v1, v2) → ∀ (H : Heap) (locs : List Loc) (ls : Array Slot), zH wC κ A s σ H locs → lv_has ls 3 [(0, .ref (κ.2.1 23)), (1, .int v1), (2, .int v2)] → W p l e rmX4_firstAtHand s m args below meth c H locs 0 0 Q (F0 m 4 ls [])) (Ke0 : ∀ (v1 : Int32), r = .inr v1 → ∀ (H : Heap) (locs : List Loc) (ls : Array Slot), zH wC κ A s σ H locs → lv_has ls 3 [(0, .ref (κ.2.1 23)), (1, .int v1)] → W p l e rmX4_firstAtHand s m args below meth c H locs 0 0 Q (F0 m 66 ls [])) : W p l e rmX4_firstAtHand s m args below meth c H locs 0 0 Q (F0 m 58 ls []) := by
  unfold fX4_firstAtHand_L4_58 at hf
  refine lv_iload_n C.ex C.by dX4_firstAtHand_58 rfl (lv_at hl 1 rfl) ?_
  refine lv_istore_n (lv' := [(1, .int x2), (0, .ref (κ.2.1 23)), (2, .int x2)]) C.ex C.by dX4_firstAtHand_59 rfl hl (by decide) rfl (fun ls hl => ?_)
  exact wX4_firstAtHand_L4_60 C h (lv_sub hl [1, 0, 2] rfl) hf Kc Ke0
set_option maxRecDepth 20000 in
set_option maxHeartbeats 4000000 in
theorem wX4_firstAtHand_L4_4 {p : Program} {l : Launch} {e : Env} {s : State} {m : MethodId} {args : Array Value} {below : List Frame} {meth : Method} {c : Code} {A : Nat → Prop} {κ : zG} {H : Heap} {locs : List Loc} {ls : Array Slot} {Q : State → Prop} {n : Nat} {σ : zS} {a : Int32 × Int32} {r : (Int32 × Int32) ⊕ (Int32)} (C : zC cX4_firstAtHand 3 (some .int) RX4 κ A p s m args meth c) (h : zH wC κ A s σ H locs) (hl : lv_has ls 3 [(0, .ref (κ.2.1 23)), (1, .int a.1), (2, .int a.2)]) (hf : fX4_firstAtHand_L4_4 n (κ.2.2.2 0) (κ.2.2.2 1) (κ.2.2.2 2) σ a = some r) (Kc : ∀ (v1 : Int32) (v2 : Int32), r = .inl (v1, v2) → ∀ (H : Heap) (locs : List Loc) (ls : Array Slot), zH wC κ A s σ H locs → lv_has ls 3 [(0, .ref (κ.2.1 23)), (1, .int v1), (2, .int v2)] → W p l e rmX4_firstAtHand s m args below meth c H locs 0 0 Q (F0 m 4 ls [])) (Ke0 : ∀ (v1 : Int32), r = .inr v1 → ∀ (H : Heap) (locs : List Loc) (ls : Array Slot), zH wC κ A s σ H locs → lv_has ls 3 [(0, .ref (κ.2.1 23)), (1, .int v1)] → W p l e rmX4_firstAtHand s m args below meth c H locs 0 0 Q (F0 m 66 ls [])) : W p l e rmX4_firstAtHand s m args below meth c H locs 0 0 Q (F0 m 4 ls []) := by
  unfold fX4_firstAtHand_L4_4 at hf
  refine lv_iload_n C.ex C.by dX4_firstAtHand_4 rfl (lv_at hl 2 rfl) ?_
  refine lv_aload_n C.ex C.by dX4_firstAtHand_5 rfl (lv_at hl 0 rfl) ?_
  refine z_get (v := .ref (κ.2.1 24)) C h iwX4 23 (wC_at23 κ _) rfl 4 (by decide) lkC210 rfl dX4_firstAtHand_6 ?_
  obtain ⟨q1, e2, hf⟩ := zb_some hf
  refine z_callRi (As := []) (x := (zI σ 29)) (f := (zA σ 10)) C h (ctX6_size (κ := zκR κ (κ.2.1 24) (κ.2.1 25) 8) e2) (zgV lkC211 lkC182 lkC183 lkC52 lkC184) ⟨rfl, rfl⟩ hdX6_size ⟨Nat.le_of_ble_eq_true rfl, Nat.le_of_ble_eq_true rfl⟩ 24 25 (by decide) (wC_at24 κ _) (wC_at25 κ _) σ (zset2 (wC_at24 κ _) (wC_at25 κ _)) hl rfl rfl (Nat.le_of_ble_eq_true rfl) dX4_firstAtHand_9 ⟨Nat.zero_le _, Nat.zero_le _⟩ (fun H locs h => ?_)
  refine lv_icmp_ge (tgt := 66) C.ex C.by dX4_firstAtHand_12 (by decide) (fun c3 => ?_) (fun c3 => ?_)
  · have hf := zif_t c3 hf
    exact Ke0 _ (Option.some.inj hf).symm _ _ _ h (lv_sub hl [0, 1] rfl)
  · have hf := zif_f c3 hf
    refine lv_iload_n C.ex C.by dX4_firstAtHand_15 rfl (lv_at hl 2 rfl) ?_
    refine lv_bipush (v := 8) C.ex C.by dX4_firstAtHand_16 (by decide) ?_
    refine lv_icmp_ge (tgt := 66) C.ex C.by dX4_firstAtHand_18 (by decide) (fun c4 => ?_) (fun c4 => ?_)
    · have hf := zif_t c4 hf
      exact Ke0 _ (Option.some.inj hf).symm _ _ _ h (lv_sub hl [0, 1] rfl)
    · have hf := zif_f c4 hf
      refine lv_aload_n C.ex C.by dX4_firstAtHand_21 rfl (lv_at hl 0 rfl) ?_
      refine z_get (v := .ref (κ.2.1 28)) C h iwX4 23 (wC_at23 κ _) rfl 7 (by decide) lkC217 rfl dX4_firstAtHand_22 ?_
      refine lv_iload_n C.ex C.by dX4_firstAtHand_25 rfl (lv_at hl 2 rfl) ?_
      obtain ⟨h5, hf⟩ := zg_some hf
      refine z_iald (f := (zA σ 13)) C h 28 (wC_at28 κ _) h5 dX4_firstAtHand_26 ?_
      refine lv_iconst (v := (-1)) C.ex C.by dX4_firstAtHand_27 (by decide) ?_
      refine lv_icmp_eq (tgt := 60) C.ex C.by dX4_firstAtHand_28 (by decide) (fun c6 => ?_) (fun c6 => ?_)
      · have hf := zif_t c6 hf
        exact wX4_firstAtHand_L4_60 C h hl hf Kc Ke0
      · have hf := zif_f c6 hf
        refine lv_iload_n C.ex C.by dX4_firstAtHand_31 rfl (lv_at hl 1 rfl) ?_
        refine lv_iconst (v := (-1)) C.ex C.by dX4_firstAtHand_32 (by decide) ?_
        refine lv_icmp_eq (tgt := 58) C.ex C.by dX4_firstAtHand_33 (by decide) (fun c7 => ?_) (fun c7 => ?_)
        · have hf := zif_t c7 hf
          exact wX4_firstAtHand_L4_58 C h (lv_sub hl [0, 2] rfl) hf Kc Ke0
        · have hf := zif_f c7 hf
          refine lv_aload_n C.ex C.by dX4_firstAtHand_36 rfl (lv_at hl 0 rfl) ?_
          refine z_get (v := .ref (κ.2.1 4)) C h iwX4 23 (wC_at23 κ _) rfl 1 (by decide) lkC228 rfl dX4_firstAtHand_37 ?_
          refine lv_aload_n C.ex C.by dX4_firstAtHand_40 rfl (lv_at hl 0 rfl) ?_
          refine z_get (v := .ref (κ.2.1 28)) C h iwX4 23 (wC_at23 κ _) rfl 7 (by decide) lkC217 rfl dX4_firstAtHand_41 ?_
          refine lv_iload_n C.ex C.by dX4_firstAtHand_44 rfl (lv_at hl 2 rfl) ?_
          obtain ⟨h8, hf⟩ := zg_some hf
          refine z_iald (f := (zA σ 13)) C h 28 (wC_at28 κ _) h8 dX4_firstAtHand_45 ?_
          refine lv_aload_n C.ex C.by dX4_firstAtHand_46 rfl (lv_at hl 0 rfl) ?_
          refine z_get (v := .ref (κ.2.1 28)) C h iwX4 23 (wC_at23 κ _) rfl 7 (by decide) lkC217 rfl dX4_firstAtHand_47 ?_
          refine lv_iload_n C.ex C.by dX4_firstAtHand_50 rfl (lv_at hl 1 rfl) ?_
          obtain ⟨h9, hf⟩ := zg_some hf
          refine z_iald (f := (zA σ 13)) C h 28 (wC_at28 κ _) h9 dX4_firstAtHand_51 ?_
          obtain ⟨q10, e11, hf⟩ := zb_some hf
          refine z_callVi (As := [.int ((zA σ 13) (Int32.toNatClampNeg a.2)), .int ((zA σ 13) (Int32.toNatClampNeg a.1))]) C h (ctX5_isBefore e11) (zgV lkC229 lkC77 lkC78 lkC74 lkC79) ⟨rfl, rfl⟩ hdX5_isBefore ⟨Nat.le_of_ble_eq_true rfl, Nat.le_of_ble_eq_true rfl⟩ 4 (wC_at4 κ _) rfl hl rfl rfl (Nat.le_of_ble_eq_true rfl) dX4_firstAtHand_52 ⟨Nat.zero_le _, Nat.zero_le _⟩ (fun H locs h => ?_)
          refine lv_if_eq (tgt := 60) C.ex C.by dX4_firstAtHand_55 (by decide) (fun c12 => ?_) (fun c12 => ?_)
          · have hf := zif_t c12 hf
            exact wX4_firstAtHand_L4_60 C h hl hf Kc Ke0
          · have hf := zif_f c12 hf
            exact wX4_firstAtHand_L4_58 C h (lv_sub hl [0, 2] rfl) hf Kc Ke0
theorem wlX4_firstAtHand_4 {p : Program} {l : Launch} {e : Env} {s : State} {m : MethodId} {args : Array Value} {below : List Frame} {meth : Method} {c : Code} {A : Nat → Prop} {κ : zG} {H : Heap} {locs : List Loc} {ls : Array Slot} {Q : State → Prop} {n : Nat} {σ : zS} {k0 : Nat} {u1 : Int32} {u2 : Int32} (C : zC cX4_firstAtHand 3 (some .int) RX4 κ A p s m args meth c) (h : zH wC κ A s σ H locs) (hl : lv_has ls 3 [(0, .ref (κ.2.1 23)), (1, .int u1), (2, .int u2)]) (b : Int32) (hb : zlp (fX4_firstAtHand_L4_4 n (κ.2.2.2 0) (κ.2.2.2 1) (κ.2.2.2 2) σ) k0 (u1, u2) = some b) (K : (fun b : Int32 => ∀ (H : Heap) (locs : List Loc) (ls : Array Slot), zH wC κ A s σ H locs → lv_has ls 3 [(0, .ref (κ.2.1 23)), (1, .int b)] → W p l e rmX4_firstAtHand s m args below meth c H locs 0 0 Q (F0 m 66 ls [])) b) : W p l e rmX4_firstAtHand s m args below meth c H locs 0 0 Q (F0 m 4 ls []) :=
  z_loop (body := fX4_firstAtHand_L4_4 n (κ.2.2.2 0) (κ.2.2.2 1) (κ.2.2.2 2) σ) (Wd := (fun a : Int32 × Int32 => ∀ (H : Heap) (locs : List Loc) (ls : Array Slot), zH wC κ A s σ H locs → lv_has ls 3 [(0, .ref (κ.2.1 23)), (1, .int a.1), (2, .int a.2)] → W p l e rmX4_firstAtHand s m args below meth c H locs 0 0 Q (F0 m 4 ls []))) (Ex := (fun b : Int32 => (fun b : Int32 => ∀ (H : Heap) (locs : List Loc) (ls : Array Slot), zH wC κ A s σ H locs → lv_has ls 3 [(0, .ref (κ.2.1 23)), (1, .int b)] → W p l e rmX4_firstAtHand s m args below meth c H locs 0 0 Q (F0 m 66 ls [])) b)) (fun a r hr Kc Ke H locs ls h hl => wX4_firstAtHand_L4_4 C h hl hr (fun v1 v2 e => Kc (v1, v2) e) (fun v1 e => Ke v1 e)) k0 (u1, u2) b hb K H locs ls h hl
set_option maxRecDepth 20000 in
set_option maxHeartbeats 4000000 in
theorem wX4_firstAtHand_0 {p : Program} {l : Launch} {e : Env} {s : State} {m : MethodId} {args : Array Value} {below : List Frame} {meth : Method} {c : Code} {A : Nat → Prop} {κ : zG} {H : Heap} {locs : List Loc} {ls : Array Slot} {n : Nat} {σ : zS} {r : Int32} (C : zC cX4_firstAtHand 3 (some .int) RX4 κ A p s m args meth c) (h : zH wC κ A s σ H locs) (hl : lv_has ls 3 [(0, .ref (κ.2.1 23))]) (hf : fX4_firstAtHand_0 n (κ.2.2.2 0) (κ.2.2.2 1) (κ.2.2.2 2) σ = some r) : W p l e rmX4_firstAtHand s m args below meth c H locs 0 0 (MQ below (zQi wC κ A r σ) args s 0 0 A) (F0 m 0 ls []) := by
  unfold fX4_firstAtHand_0 at hf
  refine lv_iconst (v := (-1)) C.ex C.by dX4_firstAtHand_0 (by decide) ?_
  refine lv_istore_n (lv' := [(1, .int (-1)), (0, .ref (κ.2.1 23))]) C.ex C.by dX4_firstAtHand_1 rfl hl (by decide) rfl (fun ls hl => ?_)
  refine lv_iconst (v := 0) C.ex C.by dX4_firstAtHand_2 (by decide) ?_
  refine lv_istore_n (lv' := [(2, .int 0), (1, .int (-1)), (0, .ref (κ.2.1 23))]) C.ex C.by dX4_firstAtHand_3 rfl hl (by decide) rfl (fun ls hl => ?_)
  obtain ⟨b13, e14, hf⟩ := zb_some hf
  refine wlX4_firstAtHand_4 C h (lv_sub hl [2, 1, 0] rfl) b13 e14 ?_
  intro H locs ls h hl
  refine lv_iload_n C.ex C.by dX4_firstAtHand_66 rfl (lv_at hl 1 rfl) ?_
  cases hf
  exact z_iret C h dX4_firstAtHand_67
theorem ctX4_firstAtHand {l : Launch} {κ : zG} {n : Nat} {σ : zS} {r : Int32} (hf : fX4_firstAtHand_0 n (κ.2.2.2 0) (κ.2.2.2 1) (κ.2.2.2 2) σ = some r) : zMi l yX4_firstAtHand (Cond.code yX4_firstAtHand cX4_firstAtHand 3 (some .int)) rmX4_firstAtHand wC κ [.ref (κ.2.1 23)] σ r σ :=
  zMi_of (by decide) (Nat.le_of_ble_eq_true rfl) (fun p e s m below meth c A C h ls hl => wX4_firstAtHand_0 C h hl hf)
theorem hdX4_advance : yX4_advance.cls = RX4 ∧ yX4_advance.cls ≠ "java/lang/invoke/MethodHandle" ∧ yX4_advance.cls ≠ "java/lang/invoke/VarHandle" ∧ (parseMethodDescriptor yX4_advance.desc).map (fun d => d.parameters.length) = some 1 := by decide +kernel
abbrev rmX4_advance : Room := { frames := 2, cells := 0, slots := 0, locals := 42 }
set_option maxRecDepth 20000 in
set_option maxHeartbeats 4000000 in
theorem wX4_advance_0 {p : Program} {l : Launch} {e : Env} {s : State} {m : MethodId} {args : Array Value} {below : List Frame} {meth : Method} {c : Code} {A : Nat → Prop} {κ : zG} {H : Heap} {locs : List Loc} {ls : Array Slot} {n : Nat} {σ : zS} {x1 : Int32} {r : zS} (C : zC cX4_advance 2 none RX4 κ A p s m args meth c) (h : zH wC κ A s σ H locs) (hl : lv_has ls 2 [(0, .ref (κ.2.1 23)), (1, .int x1)]) (hf : fX4_advance_0 n (κ.2.2.2 0) (κ.2.2.2 1) (κ.2.2.2 2) σ x1 = some r) : W p l e rmX4_advance s m args below meth c H locs 0 0 (MQ below (zQv wC κ A r) args s 0 0 A) (F0 m 0 ls []) := by
  unfold fX4_advance_0 at hf
  refine lv_iload_n C.ex C.by dX4_advance_0 rfl (lv_at hl 1 rfl) ?_
  refine lv_if_lt (tgt := 10) C.ex C.by dX4_advance_1 (by decide) (fun c1 => ?_) (fun c1 => ?_)
  · have hf := zif_t c1 hf
    cases hf
    exact z_vret C h dX4_advance_10
  · have hf := zif_f c1 hf
    refine lv_iload_n C.ex C.by dX4_advance_4 rfl (lv_at hl 1 rfl) ?_
    refine lv_bipush (v := 8) C.ex C.by dX4_advance_5 (by decide) ?_
    refine lv_icmp_lt (tgt := 11) C.ex C.by dX4_advance_7 (by decide) (fun c2 => ?_) (fun c2 => ?_)
    · have hf := zif_t c2 hf
      refine lv_aload_n C.ex C.by dX4_advance_11 rfl (lv_at hl 0 rfl) ?_
      refine z_get (v := .ref (κ.2.1 27)) C h iwX4 23 (wC_at23 κ _) rfl 6 (by decide) lkC216 rfl dX4_advance_12 ?_
      refine lv_iload_n C.ex C.by dX4_advance_15 rfl (lv_at hl 1 rfl) ?_
      refine lv_dup2_11 C.ex C.by dX4_advance_16 rfl rfl ?_
      obtain ⟨h3, hf⟩ := zg_some hf
      refine z_iald (f := (zA σ 12)) C h 27 (wC_at27 κ _) h3 dX4_advance_17 ?_
      refine lv_iconst (v := 1) C.ex C.by dX4_advance_18 (by decide) ?_
      refine lv_iadd C.ex C.by dX4_advance_19 ?_
      obtain ⟨h4, hf⟩ := zg_some hf
      refine z_iast (f := (zA σ 12)) C h 27 (wC_at27 κ _) h4 (sA σ 12 (upd (zA σ 12) (Int32.toNatClampNeg x1) (((zA σ 12) (Int32.toNatClampNeg x1)) + 1))) (wC_s27 κ _ _) dX4_advance_20 (fun H locs h => ?_)
      refine lv_aload_n C.ex C.by dX4_advance_21 rfl (lv_at hl 0 rfl) ?_
      refine z_get (v := .ref (κ.2.1 27)) C h iwX4 23 (wC_at23 κ _) rfl 6 (by decide) lkC216 rfl dX4_advance_22 ?_
      refine lv_iload_n C.ex C.by dX4_advance_25 rfl (lv_at hl 1 rfl) ?_
      obtain ⟨h5, hf⟩ := zg_some hf
      refine z_iald (f := (upd (zA σ 12) (Int32.toNatClampNeg x1) (((zA σ 12) (Int32.toNatClampNeg x1)) + 1))) C h 27 (wC_at27 κ _) h5 dX4_advance_26 ?_
      refine lv_aload_n C.ex C.by dX4_advance_27 rfl (lv_at hl 0 rfl) ?_
      refine z_get (v := .ref (κ.2.1 7)) C h iwX4 23 (wC_at23 κ _) rfl 2 (by decide) lkC218 rfl dX4_advance_28 ?_
      refine lv_aload_n C.ex C.by dX4_advance_31 rfl (lv_at hl 0 rfl) ?_
      refine z_get (v := .ref (κ.2.1 24)) C h iwX4 23 (wC_at23 κ _) rfl 4 (by decide) lkC210 rfl dX4_advance_32 ?_
      refine lv_iload_n C.ex C.by dX4_advance_35 rfl (lv_at hl 1 rfl) ?_
      obtain ⟨q6, e7, hf⟩ := zb_some hf
      refine z_callRi (As := [.int x1]) (x := (zI σ 29)) (f := (zA σ 10)) C h (ctX6_get (κ := zκR κ (κ.2.1 24) (κ.2.1 25) 8) e7) (zgV lkC212 lkC50 lkC51 lkC52 lkC53) ⟨rfl, rfl⟩ hdX6_get ⟨Nat.le_of_ble_eq_true rfl, Nat.le_of_ble_eq_true rfl⟩ 24 25 (by decide) (wC_at24 κ _) (wC_at25 κ _) (sA σ 12 (upd (zA σ 12) (Int32.toNatClampNeg x1) (((zA σ 12) (Int32.toNatClampNeg x1)) + 1))) (zset2 (wC_at24 κ _) (wC_at25 κ _)) hl rfl rfl (Nat.le_of_ble_eq_true rfl) dX4_advance_36 ⟨Nat.zero_le _, Nat.zero_le _⟩ (fun H locs h => ?_)
      obtain ⟨q8, e9, hf⟩ := zb_some hf
      refine z_callVi (As := [.int q6]) C h (ctX1_heldBy e9) (zgV lkC219 lkC220 lkC221 lkC11 lkC222) ⟨rfl, rfl⟩ hdX1_heldBy ⟨Nat.le_of_ble_eq_true rfl, Nat.le_of_ble_eq_true rfl⟩ 7 (wC_at7 κ _) rfl hl rfl rfl (Nat.le_of_ble_eq_true rfl) dX4_advance_39 ⟨Nat.zero_le _, Nat.zero_le _⟩ (fun H locs h => ?_)
      refine lv_icmp_lt (tgt := 55) C.ex C.by dX4_advance_42 (by decide) (fun c10 => ?_) (fun c10 => ?_)
      · have hf := zif_t c10 hf
        refine lv_aload_n C.ex C.by dX4_advance_55 rfl (lv_at hl 0 rfl) ?_
        refine z_get (v := .ref (κ.2.1 27)) C h iwX4 23 (wC_at23 κ _) rfl 6 (by decide) lkC216 rfl dX4_advance_56 ?_
        refine lv_iload_n C.ex C.by dX4_advance_59 rfl (lv_at hl 1 rfl) ?_
        obtain ⟨h11, hf⟩ := zg_some hf
        refine z_iald (f := (upd (zA σ 12) (Int32.toNatClampNeg x1) (((zA σ 12) (Int32.toNatClampNeg x1)) + 1))) C h 27 (wC_at27 κ _) h11 dX4_advance_60 ?_
        refine lv_iconst (v := 1) C.ex C.by dX4_advance_61 (by decide) ?_
        refine lv_aload_n C.ex C.by dX4_advance_62 rfl (lv_at hl 0 rfl) ?_
        refine z_get (v := .ref (κ.2.1 4)) C h iwX4 23 (wC_at23 κ _) rfl 1 (by decide) lkC228 rfl dX4_advance_63 ?_
        refine z_getN (v := .int (zI σ 11)) C h iwX5 4 (wC_at4 κ _) rfl 6 (by decide) nkC15 rfl dX4_advance_66 ?_
        refine z_mmax C hl lkC235 lkC3 lkC4 lkC5 ⟨Nat.le_of_ble_eq_true rfl, Nat.le_of_ble_eq_true rfl⟩ ⟨Nat.zero_le _, Nat.zero_le _⟩ dX4_advance_69 ?_
        obtain ⟨h12, hf⟩ := zg_some hf
        refine lv_irem C.ex C.by dX4_advance_72 (znz_ne h12) ?_
        refine lv_if_ne (tgt := 131) C.ex C.by dX4_advance_73 (by decide) (fun c13 => ?_) (fun c13 => ?_)
        · have hf := zif_f c13 hf
          refine lv_aload_n C.ex C.by dX4_advance_131 rfl (lv_at hl 0 rfl) ?_
          refine z_get (v := .ref (κ.2.1 28)) C h iwX4 23 (wC_at23 κ _) rfl 7 (by decide) lkC217 rfl dX4_advance_132 ?_
          refine lv_iload_n C.ex C.by dX4_advance_135 rfl (lv_at hl 1 rfl) ?_
          refine lv_dup2_11 C.ex C.by dX4_advance_136 rfl rfl ?_
          obtain ⟨h14, hf⟩ := zg_some hf
          refine z_iald (f := (zA σ 13)) C h 28 (wC_at28 κ _) h14 dX4_advance_137 ?_
          refine lv_aload_n C.ex C.by dX4_advance_138 rfl (lv_at hl 0 rfl) ?_
          refine z_get (v := .ref (κ.2.1 4)) C h iwX4 23 (wC_at23 κ _) rfl 1 (by decide) lkC228 rfl dX4_advance_139 ?_
          refine z_getN (v := .int (zI σ 10)) C h iwX5 4 (wC_at4 κ _) rfl 5 (by decide) nkC16 rfl dX4_advance_142 ?_
          refine lv_iadd C.ex C.by dX4_advance_145 ?_
          obtain ⟨h15, hf⟩ := zg_some hf
          refine z_iast (f := (zA σ 13)) C h 28 (wC_at28 κ _) h15 (sA (sA σ 12 (upd (zA σ 12) (Int32.toNatClampNeg x1) (((zA σ 12) (Int32.toNatClampNeg x1)) + 1))) 13 (upd (zA σ 13) (Int32.toNatClampNeg x1) (((zA σ 13) (Int32.toNatClampNeg x1)) + (zI σ 10)))) (wC_s28 κ _ _) dX4_advance_146 (fun H locs h => ?_)
          cases hf
          exact z_vret C h dX4_advance_147
        · have hf := zif_t c13 hf
          refine lv_aload_n C.ex C.by dX4_advance_76 rfl (lv_at hl 0 rfl) ?_
          refine z_get (v := .ref (κ.2.1 26)) C h iwX4 23 (wC_at23 κ _) rfl 5 (by decide) lkC215 rfl dX4_advance_77 ?_
          refine lv_iload_n C.ex C.by dX4_advance_80 rfl (lv_at hl 1 rfl) ?_
          refine lv_aload_n C.ex C.by dX4_advance_81 rfl (lv_at hl 0 rfl) ?_
          refine z_get (v := .ref (κ.2.1 7)) C h iwX4 23 (wC_at23 κ _) rfl 2 (by decide) lkC218 rfl dX4_advance_82 ?_
          refine lv_aload_n C.ex C.by dX4_advance_85 rfl (lv_at hl 0 rfl) ?_
          refine z_get (v := .ref (κ.2.1 26)) C h iwX4 23 (wC_at23 κ _) rfl 5 (by decide) lkC215 rfl dX4_advance_86 ?_
          refine lv_iload_n C.ex C.by dX4_advance_89 rfl (lv_at hl 1 rfl) ?_
          obtain ⟨h16, hf⟩ := zg_some hf
          refine z_iald (f := (zA σ 11)) C h 26 (wC_at26 κ _) h16 dX4_advance_90 ?_
          obtain ⟨q17, e18, hf⟩ := zb_some hf
          refine z_callVi (As := [.int ((zA σ 11) (Int32.toNatClampNeg x1))]) C h (ctX1_behind e18) (zgV lkC236 lkC9 lkC10 lkC11 lkC12) ⟨rfl, rfl⟩ hdX1_behind ⟨Nat.le_of_ble_eq_true rfl, Nat.le_of_ble_eq_true rfl⟩ 7 (wC_at7 κ _) rfl hl rfl rfl (Nat.le_of_ble_eq_true rfl) dX4_advance_91 ⟨Nat.zero_le _, Nat.zero_le _⟩ (fun H locs h => ?_)
          obtain ⟨h19, hf⟩ := zg_some hf
          refine z_iast (f := (zA σ 11)) C h 26 (wC_at26 κ _) h19 (sA (sA σ 12 (upd (zA σ 12) (Int32.toNatClampNeg x1) (((zA σ 12) (Int32.toNatClampNeg x1)) + 1))) 11 (upd (zA σ 11) (Int32.toNatClampNeg x1) q17)) (wC_s26 κ _ _) dX4_advance_94 (fun H locs h => ?_)
          refine lv_aload_n C.ex C.by dX4_advance_95 rfl (lv_at hl 0 rfl) ?_
          refine z_get (v := .ref (κ.2.1 1)) C h iwX4 23 (wC_at23 κ _) rfl 0 (by decide) lkC213 rfl dX4_advance_96 ?_
          refine lv_aload_n C.ex C.by dX4_advance_99 rfl (lv_at hl 0 rfl) ?_
          refine z_get (v := .ref (κ.2.1 26)) C h iwX4 23 (wC_at23 κ _) rfl 5 (by decide) lkC215 rfl dX4_advance_100 ?_
          refine lv_iload_n C.ex C.by dX4_advance_103 rfl (lv_at hl 1 rfl) ?_
          obtain ⟨h20, hf⟩ := zg_some hf
          refine z_iald (f := (upd (zA σ 11) (Int32.toNatClampNeg x1) q17)) C h 26 (wC_at26 κ _) h20 dX4_advance_104 ?_
          obtain ⟨q21, e22, hf⟩ := zb_some hf
          refine z_callVv (As := [.int ((upd (zA σ 11) (Int32.toNatClampNeg x1) q17) (Int32.toNatClampNeg x1))]) C h (ctX0_readBlock e22) (zgV lkC214 lkC27 lkC28 lkC24 lkC29) ⟨rfl, rfl⟩ hdX0_readBlock ⟨Nat.le_of_ble_eq_true rfl, Nat.le_of_ble_eq_true rfl⟩ 1 (wC_at1 κ _) rfl hl rfl rfl (Nat.le_of_ble_eq_true rfl) dX4_advance_105 ⟨Nat.zero_le _, Nat.zero_le _⟩ (fun H locs h => ?_)
          refine lv_aload_n C.ex C.by dX4_advance_108 rfl (lv_at hl 0 rfl) ?_
          refine z_get (v := .ref (κ.2.1 28)) C h iwX4 23 (wC_at23 κ _) rfl 7 (by decide) lkC217 rfl dX4_advance_109 ?_
          refine lv_iload_n C.ex C.by dX4_advance_112 rfl (lv_at hl 1 rfl) ?_
          refine lv_aload_n C.ex C.by dX4_advance_113 rfl (lv_at hl 0 rfl) ?_
          refine z_get (v := .ref (κ.2.1 26)) C h iwX4 23 (wC_at23 κ _) rfl 5 (by decide) lkC215 rfl dX4_advance_114 ?_
          refine lv_iload_n C.ex C.by dX4_advance_117 rfl (lv_at hl 1 rfl) ?_
          obtain ⟨h23, hf⟩ := zg_some hf
          refine z_iald (f := (zA q21 11)) C h 26 (wC_at26 κ _) h23 dX4_advance_118 ?_
          refine lv_aload_n C.ex C.by dX4_advance_119 rfl (lv_at hl 0 rfl) ?_
          refine z_get (v := .ref (κ.2.1 1)) C h iwX4 23 (wC_at23 κ _) rfl 0 (by decide) lkC213 rfl dX4_advance_120 ?_
          refine z_getN (v := .int (zI q21 1)) C h iwX0 1 (wC_at1 κ _) rfl 0 (by decide) nkC14 rfl dX4_advance_123 ?_
          refine lv_imul C.ex C.by dX4_advance_126 ?_
          obtain ⟨h24, hf⟩ := zg_some hf
          refine z_iast (f := (zA q21 13)) C h 28 (wC_at28 κ _) h24 (sA q21 13 (upd (zA q21 13) (Int32.toNatClampNeg x1) (((zA q21 11) (Int32.toNatClampNeg x1)) * (zI q21 1)))) (wC_s28 κ _ _) dX4_advance_127 (fun H locs h => ?_)
          refine lv_goto (tgt := 147) C.ex C.by dX4_advance_128 (by decide) ?_
          cases hf
          exact z_vret C h dX4_advance_147
      · have hf := zif_f c10 hf
        refine lv_aload_n C.ex C.by dX4_advance_45 rfl (lv_at hl 0 rfl) ?_
        refine z_get (v := .ref (κ.2.1 28)) C h iwX4 23 (wC_at23 κ _) rfl 7 (by decide) lkC217 rfl dX4_advance_46 ?_
        refine lv_iload_n C.ex C.by dX4_advance_49 rfl (lv_at hl 1 rfl) ?_
        refine lv_iconst (v := (-1)) C.ex C.by dX4_advance_50 (by decide) ?_
        obtain ⟨h25, hf⟩ := zg_some hf
        refine z_iast (f := (zA σ 13)) C h 28 (wC_at28 κ _) h25 (sA (sA σ 12 (upd (zA σ 12) (Int32.toNatClampNeg x1) (((zA σ 12) (Int32.toNatClampNeg x1)) + 1))) 13 (upd (zA σ 13) (Int32.toNatClampNeg x1) (-1))) (wC_s28 κ _ _) dX4_advance_51 (fun H locs h => ?_)
        refine lv_goto (tgt := 147) C.ex C.by dX4_advance_52 (by decide) ?_
        cases hf
        exact z_vret C h dX4_advance_147
    · have hf := zif_f c2 hf
      cases hf
      exact z_vret C h dX4_advance_10
theorem ctX4_advance {l : Launch} {κ : zG} {n : Nat} {σ : zS} {x1 : Int32} {r : zS} (hf : fX4_advance_0 n (κ.2.2.2 0) (κ.2.2.2 1) (κ.2.2.2 2) σ x1 = some r) : zMv l yX4_advance (Cond.code yX4_advance cX4_advance 2 none) rmX4_advance wC κ [.ref (κ.2.1 23), .int x1] σ r :=
  zMv_of (by decide) (Nat.le_of_ble_eq_true rfl) (fun p e s m below meth c A C h ls hl => wX4_advance_0 C h hl hf)
