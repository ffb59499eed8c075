theorem hdX9_needPower : yX9_needPower.cls = RX9 ∧ yX9_needPower.cls ≠ "java/lang/invoke/MethodHandle" ∧ yX9_needPower.cls ≠ "java/lang/invoke/VarHandle" ∧ (parseMethodDescriptor yX9_needPower.desc).map (fun d => d.parameters.length) = some 0 := by decide +kernel
abbrev rmX9_needPower : Room := { frames := 6, cells := 1, slots := 6, locals := 82 }
set_option maxRecDepth 20000 in
set_option maxHeartbeats 4000000 in
theorem wX9_needPower_0 {p : Program} {l : Launch} {e : Env} {s : State} {m : MethodId} {args : Array Value} {below : List Frame} {meth : Method} {c : Code} {A : Nat → Prop} {κ : zG} {H : Heap} {locs : List Loc} {ls : Array Slot} {n : Nat} {σ : zS} {r : (String ⊕ Unit)} (CX : zCX cX9_needPower 1 none RX9 κ A p l s m args meth c) (h : zH wC κ A s σ H locs) (hl : lv_has ls 1 [(0, .ref (κ.2.1 0))]) (hf : fX9_needPower_0 n (κ.2.2.2 0) (κ.2.2.2 1) (κ.2.2.2 2) σ = some r) : W p l e rmX9_needPower s m args below meth c H locs 0 (6 * 0) (vx_MQ below (zQtv wC κ A r σ) (zXc wC κ A r σ) args s 1 (6 * 1) A) (F0 m 0 ls []) := by
  unfold fX9_needPower_0 at hf
  have C := CX.1
  refine lv_aload_n C.ex C.by dX9_needPower_0 rfl (lv_at hl 0 rfl) ?_
  refine z_get (v := .ref (κ.2.1 1)) C h iwX9 0 (wC_at0 κ _) rfl 0 (by decide) lkC17 rfl dX9_needPower_1 ?_
  refine z_getN (v := .int (zI σ 7)) C h iwX0 1 (wC_at1 κ _) rfl 8 (by decide) nkC20 rfl dX9_needPower_4 ?_
  refine lv_if_eq (tgt := 21) C.ex C.by dX9_needPower_7 (by decide) (fun c1 => ?_) (fun c1 => ?_)
  · have hf := zif_t c1 hf
    cases hf
    exact z_tvret (k := 0) CX h (by decide) dX9_needPower_21
  · have hf := zif_f c1 hf
    cases hf
    exact z_throwSW (k := 0) (text := "it is down") CX h (by decide) lkC336 lkC337 (by decide) (by decide) tg125 tb125 to125 hl dX9_needPower_10 dX9_needPower_13 dX9_needPower_14 dX9_needPower_17 dX9_needPower_20 ⟨Nat.le_of_ble_eq_true rfl, Nat.le_of_ble_eq_true rfl, Nat.le_of_ble_eq_true rfl, Nat.le_of_ble_eq_true rfl⟩ (by decide)
theorem ctX9_needPower {l : Launch} {κ : zG} {n : Nat} {σ : zS} {r : (String ⊕ Unit)} (hl9 : l.stackTraces = false) (hf : fX9_needPower_0 n (κ.2.2.2 0) (κ.2.2.2 1) (κ.2.2.2 2) σ = some r) : zTv l yX9_needPower (Cond.code yX9_needPower cX9_needPower 1 none) rmX9_needPower wC κ [.ref (κ.2.1 0)] σ 1 r σ :=
  zbodyX (Qz := fun A => zQtv wC κ A r σ) (Xz := fun A => zXc wC κ A r σ) (by decide) (Nat.le_of_ble_eq_true rfl) hl9 (fun p e s m below meth c A C h ls hl => wX9_needPower_0 C h hl hf)
theorem hdX9_width : yX9_width.cls = RX9 ∧ yX9_width.cls ≠ "java/lang/invoke/MethodHandle" ∧ yX9_width.cls ≠ "java/lang/invoke/VarHandle" ∧ (parseMethodDescriptor yX9_width.desc).map (fun d => d.parameters.length) = some 1 := by decide +kernel
abbrev rmX9_width : Room := { frames := 7, cells := 2, slots := 12, locals := 102 }
set_option maxRecDepth 20000 in
set_option maxHeartbeats 4000000 in
theorem wX9_width_44 {p : Program} {l : Launch} {e : Env} {s : State} {m : MethodId} {args : Array Value} {below : List Frame} {meth : Method} {c : Code} {A : Nat → Prop} {κ : zG} {H : Heap} {locs : List Loc} {ls : Array Slot} {n : Nat} {σ : zS} {r1 : String ⊕ Unit} {r2 : zS} (CX : zCX cX9_width 2 none RX9 κ A p l s m args meth c) (h : zH wC κ A s σ H locs) (hl : lv_has ls 2 [(0, .ref (κ.2.1 0))]) (hf : fX9_width_44 n (κ.2.2.2 0) (κ.2.2.2 1) (κ.2.2.2 2) σ = some (r1, r2)) : W p l e rmX9_width s m args below meth c H locs 1 (6 * 1) (vx_MQ below (zQtv wC κ A r1 r2) (zXc wC κ A r1 r2) args s 2 (6 * 2) A) (F0 m 44 ls []) := by
  unfold fX9_width_44 at hf
  have C := CX.1
  cases hf
  exact z_throwS (k := 1) (text := "a record is there") CX h (by decide) lkC336 lkC337 (by decide) (by decide) tg125 tb125 to125 hl dX9_width_44 dX9_width_47 dX9_width_48 dX9_width_50 dX9_width_53 ⟨Nat.le_of_ble_eq_true rfl, Nat.le_of_ble_eq_true rfl, Nat.le_of_ble_eq_true rfl, Nat.le_of_ble_eq_true rfl⟩ (by decide)
set_option maxRecDepth 20000 in
set_option maxHeartbeats 4000000 in
theorem wX9_width_10 {p : Program} {l : Launch} {e : Env} {s : State} {m : MethodId} {args : Array Value} {below : List Frame} {meth : Method} {c : Code} {A : Nat → Prop} {κ : zG} {H : Heap} {locs : List Loc} {ls : Array Slot} {n : Nat} {σ : zS} {r1 : String ⊕ Unit} {r2 : zS} (CX : zCX cX9_width 2 none RX9 κ A p l s m args meth c) (h : zH wC κ A s σ H locs) (hl : lv_has ls 2 [(0, .ref (κ.2.1 0))]) (hf : fX9_width_10 n (κ.2.2.2 0) (κ.2.2.2 1) (κ.2.2.2 2) σ = some (r1, r2)) : W p l e rmX9_width s m args below meth c H locs 0 (6 * 0) (vx_MQ below (zQtv wC κ A r1 r2) (zXc wC κ A r1 r2) args s 2 (6 * 2) A) (F0 m 10 ls []) := by
  unfold fX9_width_10 at hf
  have C := CX.1
  cases hf
  exact z_throwS (k := 0) (text := "a record has 1 to 4 numbers") CX h (by decide) lkC347 lkC348 (by decide) (by decide) tg108 tb108 to108 hl dX9_width_10 dX9_width_13 dX9_width_14 dX9_width_16 dX9_width_19 ⟨Nat.le_of_ble_eq_true rfl, Nat.le_of_ble_eq_true rfl, Nat.le_of_ble_eq_true rfl, Nat.le_of_ble_eq_true rfl⟩ (by decide)
set_option maxRecDepth 20000 in
set_option maxHeartbeats 4000000 in
theorem wX9_width_0 {p : Program} {l : Launch} {e : Env} {s : State} {m : MethodId} {args : Array Value} {below : List Frame} {meth : Method} {c : Code} {A : Nat → Prop} {κ : zG} {H : Heap} {locs : List Loc} {ls : Array Slot} {n : Nat} {σ : zS} {x1 : Int32} {r1 : String ⊕ Unit} {r2 : zS} (CX : zCX cX9_width 2 none RX9 κ A p l s m args meth c) (h : zH wC κ A s σ H locs) (hl : lv_has ls 2 [(0, .ref (κ.2.1 0)), (1, .int x1)]) (hf : fX9_width_0 n (κ.2.2.2 0) (κ.2.2.2 1) (κ.2.2.2 2) σ x1 = some (r1, r2)) : W p l e rmX9_width s m args below meth c H locs 0 (6 * 0) (vx_MQ below (zQtv wC κ A r1 r2) (zXc wC κ A r1 r2) args s 2 (6 * 2) A) (F0 m 0 ls []) := by
  unfold fX9_width_0 at hf
  have C := CX.1
  refine lv_iload_n C.ex C.by dX9_width_0 rfl (lv_at hl 1 rfl) ?_
  refine lv_iconst (v := 1) C.ex C.by dX9_width_1 (by decide) ?_
  refine lv_icmp_lt (tgt := 10) C.ex C.by dX9_width_2 (by decide) (fun c1 => ?_) (fun c1 => ?_)
  · have hf := zif_t c1 hf
    exact wX9_width_10 CX h (lv_sub hl [0] rfl) hf
  · have hf := zif_f c1 hf
    refine lv_iload_n C.ex C.by dX9_width_5 rfl (lv_at hl 1 rfl) ?_
    refine lv_iconst (v := 4) C.ex C.by dX9_width_6 (by decide) ?_
    refine lv_icmp_le (tgt := 20) C.ex C.by dX9_width_7 (by decide) (fun c2 => ?_) (fun c2 => ?_)
    · have hf := zif_t c2 hf
      refine lv_aload_n C.ex C.by dX9_width_20 rfl (lv_at hl 0 rfl) ?_
      obtain ⟨q3, e4, hf⟩ := zb_some hf
      rcases q3 with E | q3
      · dsimp only [Sum.elim_inl] at hf
        cases hf
        exact z_callTv_x (k := 0) (mc' := 1) (As := []) CX h (ctX9_needPower CX.2.1 e4) (zgV lkC338 lkC339 lkC340 lkC99 lkC341) ⟨rfl, rfl⟩ hdX9_needPower ⟨Nat.le_of_ble_eq_true rfl, Nat.le_of_ble_eq_true rfl⟩ 0 (wC_at0 κ _) rfl hl rfl rfl (Nat.le_of_ble_eq_true rfl) dX9_width_21 ⟨Nat.le_of_ble_eq_true rfl, Nat.le_of_ble_eq_true rfl⟩ (by decide)
      · dsimp only [Sum.elim_inr] at hf
        refine z_callTv (k := 0) (mc' := 1) (As := []) CX h (ctX9_needPower CX.2.1 e4) (zgV lkC338 lkC339 lkC340 lkC99 lkC341) ⟨rfl, rfl⟩ hdX9_needPower ⟨Nat.le_of_ble_eq_true rfl, Nat.le_of_ble_eq_true rfl⟩ 0 (wC_at0 κ _) rfl hl rfl rfl (Nat.le_of_ble_eq_true rfl) dX9_width_21 ⟨Nat.le_of_ble_eq_true rfl, Nat.le_of_ble_eq_true rfl⟩ (fun H locs h => ?_)
        refine W.widen (k := 1) (n := 6 * 1) (by decide) (by decide) ?_
        refine lv_aload_n C.ex C.by dX9_width_24 rfl (lv_at hl 0 rfl) ?_
        refine z_get (v := .ref (κ.2.1 33)) C h iwX9 0 (wC_at0 κ _) rfl 8 (by decide) lkC180 rfl dX9_width_25 ?_
        obtain ⟨q5, e6, hf⟩ := zb_some hf
        refine z_callRi (As := []) (x := (zI σ 32)) (f := (zA σ 16)) C h (ctX6_size (κ := zκR κ (κ.2.1 33) (κ.2.1 34) (κ.2.2.2 0)) e6) (zgV lkC181 lkC182 lkC183 lkC52 lkC184) ⟨rfl, rfl⟩ hdX6_size ⟨Nat.le_of_ble_eq_true rfl, Nat.le_of_ble_eq_true rfl⟩ 33 34 (by decide) (wC_at33 κ _) (wC_at34 κ _) σ (zset2 (wC_at33 κ _) (wC_at34 κ _)) hl rfl rfl (Nat.le_of_ble_eq_true rfl) dX9_width_28 ⟨Nat.le_of_ble_eq_true rfl, Nat.le_of_ble_eq_true rfl⟩ (fun H locs h => ?_)
        refine lv_if_gt (tgt := 44) C.ex C.by dX9_width_31 (by decide) (fun c7 => ?_) (fun c7 => ?_)
        · have hf := zif_t c7 hf
          exact wX9_width_44 CX h (lv_sub hl [0] rfl) hf
        · have hf := zif_f c7 hf
          refine lv_aload_n C.ex C.by dX9_width_34 rfl (lv_at hl 0 rfl) ?_
          refine z_get (v := .ref (κ.2.1 10)) C h iwX9 0 (wC_at0 κ _) rfl 3 (by decide) lkC42 rfl dX9_width_35 ?_
          obtain ⟨q8, e9, hf⟩ := zb_some hf
          refine z_callVi (As := []) C h (ctX2_heldRecords e9) (zgV lkC342 lkC316 lkC317 lkC60 lkC318) ⟨rfl, rfl⟩ hdX2_heldRecords ⟨Nat.le_of_ble_eq_true rfl, Nat.le_of_ble_eq_true rfl⟩ 10 (wC_at10 κ _) rfl hl rfl rfl (Nat.le_of_ble_eq_true rfl) dX9_width_38 ⟨Nat.le_of_ble_eq_true rfl, Nat.le_of_ble_eq_true rfl⟩ (fun H locs h => ?_)
          refine lv_if_le (tgt := 54) C.ex C.by dX9_width_41 (by decide) (fun c10 => ?_) (fun c10 => ?_)
          · have hf := zif_t c10 hf
            refine lv_aload_n C.ex C.by dX9_width_54 rfl (lv_at hl 0 rfl) ?_
            refine z_get (v := .ref (κ.2.1 4)) C h iwX9 0 (wC_at0 κ _) rfl 1 (by decide) lkC1 rfl dX9_width_55 ?_
            refine lv_iload_n C.ex C.by dX9_width_58 rfl (lv_at hl 1 rfl) ?_
            obtain ⟨q11, e12, hf⟩ := zb_some hf
            refine z_callVv (As := [.int x1]) C h (ctX5_restart e12) (zgV lkC343 lkC344 lkC345 lkC74 lkC346) ⟨rfl, rfl⟩ hdX5_restart ⟨Nat.le_of_ble_eq_true rfl, Nat.le_of_ble_eq_true rfl⟩ 4 (wC_at4 κ _) rfl hl rfl rfl (Nat.le_of_ble_eq_true rfl) dX9_width_59 ⟨Nat.le_of_ble_eq_true rfl, Nat.le_of_ble_eq_true rfl⟩ (fun H locs h => ?_)
            cases hf
            exact z_tvret (k := 1) CX h (by decide) dX9_width_62
          · have hf := zif_f c10 hf
            exact wX9_width_44 CX h (lv_sub hl [0] rfl) hf
    · have hf := zif_f c2 hf
      exact wX9_width_10 CX h (lv_sub hl [0] rfl) hf
theorem ctX9_width {l : Launch} {κ : zG} {n : Nat} {σ : zS} {x1 : Int32} {r1 : String ⊕ Unit} {r2 : zS} (hl9 : l.stackTraces = false) (hf : fX9_width_0 n (κ.2.2.2 0) (κ.2.2.2 1) (κ.2.2.2 2) σ x1 = some (r1, r2)) : zTv l yX9_width (Cond.code yX9_width cX9_width 2 none) rmX9_width wC κ [.ref (κ.2.1 0), .int x1] σ 2 r1 r2 :=
  zbodyX (Qz := fun A => zQtv wC κ A r1 r2) (Xz := fun A => zXc wC κ A r1 r2) (by decide) (Nat.le_of_ble_eq_true rfl) hl9 (fun p e s m below meth c A C h ls hl => wX9_width_0 C h hl hf)
theorem hdX9_key : yX9_key.cls = RX9 ∧ yX9_key.cls ≠ "java/lang/invoke/MethodHandle" ∧ yX9_key.cls ≠ "java/lang/invoke/VarHandle" ∧ (parseMethodDescriptor yX9_key.desc).map (fun d => d.parameters.length) = some 2 := by decide +kernel
abbrev rmX9_key : Room := { frames := 7, cells := 2, slots := 12, locals := 102 }
set_option maxRecDepth 20000 in
set_option maxHeartbeats 4000000 in
theorem wX9_key_15 {p : Program} {l : Launch} {e : Env} {s : State} {m : MethodId} {args : Array Value} {below : List Frame} {meth : Method} {c : Code} {A : Nat → Prop} {κ : zG} {H : Heap} {locs : List Loc} {ls : Array Slot} {n : Nat} {σ : zS} {r1 : String ⊕ Int32} {r2 : zS} (CX : zCX cX9_key 3 (some .int) RX9 κ A p l s m args meth c) (h : zH wC κ A s σ H locs) (hl : lv_has ls 3 [(0, .ref (κ.2.1 0))]) (hf : fX9_key_15 n (κ.2.2.2 0) (κ.2.2.2 1) (κ.2.2.2 2) σ = some (r1, r2)) : W p l e rmX9_key s m args below meth c H locs 0 (6 * 0) (vx_MQ below (zQti wC κ A r1 r2) (zXc wC κ A r1 r2) args s 2 (6 * 2) A) (F0 m 15 ls []) := by
  unfold fX9_key_15 at hf
  have C := CX.1
  cases hf
  exact z_throwS (k := 0) (text := "no such column") CX h (by decide) lkC354 lkC355 (by decide) (by decide) tg137 tb137 to137 hl dX9_key_15 dX9_key_18 dX9_key_19 dX9_key_21 dX9_key_24 ⟨Nat.le_of_ble_eq_true rfl, Nat.le_of_ble_eq_true rfl, Nat.le_of_ble_eq_true rfl, Nat.le_of_ble_eq_true rfl⟩ (by decide)
set_option maxRecDepth 20000 in
set_option maxHeartbeats 4000000 in
theorem wX9_key_0 {p : Program} {l : Launch} {e : Env} {s : State} {m : MethodId} {args : Array Value} {below : List Frame} {meth : Method} {c : Code} {A : Nat → Prop} {κ : zG} {H : Heap} {locs : List Loc} {ls : Array Slot} {n : Nat} {σ : zS} {x1 : Int32} {x2 : Int32} {r1 : String ⊕ Int32} {r2 : zS} (CX : zCX cX9_key 3 (some .int) RX9 κ A p l s m args meth c) (h : zH wC κ A s σ H locs) (hl : lv_has ls 3 [(0, .ref (κ.2.1 0)), (1, .int x1), (2, .int x2)]) (hf : fX9_key_0 n (κ.2.2.2 0) (κ.2.2.2 1) (κ.2.2.2 2) σ x1 x2 = some (r1, r2)) : W p l e rmX9_key s m args below meth c H locs 0 (6 * 0) (vx_MQ below (zQti wC κ A r1 r2) (zXc wC κ A r1 r2) args s 2 (6 * 2) A) (F0 m 0 ls []) := by
  unfold fX9_key_0 at hf
  have C := CX.1
  refine lv_iload_n C.ex C.by dX9_key_0 rfl (lv_at hl 1 rfl) ?_
  refine lv_if_lt (tgt := 15) C.ex C.by dX9_key_1 (by decide) (fun c1 => ?_) (fun c1 => ?_)
  · have hf := zif_t c1 hf
    exact wX9_key_15 CX h (lv_sub hl [0] rfl) hf
  · have hf := zif_f c1 hf
    refine lv_iload_n C.ex C.by dX9_key_4 rfl (lv_at hl 1 rfl) ?_
    refine lv_aload_n C.ex C.by dX9_key_5 rfl (lv_at hl 0 rfl) ?_
    refine z_get (v := .ref (κ.2.1 4)) C h iwX9 0 (wC_at0 κ _) rfl 1 (by decide) lkC1 rfl dX9_key_6 ?_
    refine z_getN (v := .int (zI σ 9)) C h iwX5 4 (wC_at4 κ _) rfl 4 (by decide) nkC21 rfl dX9_key_9 ?_
    refine lv_icmp_lt (tgt := 25) C.ex C.by dX9_key_12 (by decide) (fun c2 => ?_) (fun c2 => ?_)
    · have hf := zif_t c2 hf
      refine lv_aload_n C.ex C.by dX9_key_25 rfl (lv_at hl 0 rfl) ?_
      refine z_get (v := .ref (κ.2.1 4)) C h iwX9 0 (wC_at0 κ _) rfl 1 (by decide) lkC1 rfl dX9_key_26 ?_
      refine lv_iload_n C.ex C.by dX9_key_29 rfl (lv_at hl 1 rfl) ?_
      obtain ⟨q3, e4, hf⟩ := zb_some hf
      refine z_callVi (As := [.int x1]) C h (ctX5_hasKey e4) (zgV lkC349 lkC198 lkC199 lkC74 lkC200) ⟨rfl, rfl⟩ hdX5_hasKey ⟨Nat.le_of_ble_eq_true rfl, Nat.le_of_ble_eq_true rfl⟩ 4 (wC_at4 κ _) rfl hl rfl rfl (Nat.le_of_ble_eq_true rfl) dX9_key_30 ⟨Nat.le_of_ble_eq_true rfl, Nat.le_of_ble_eq_true rfl⟩ (fun H locs h => ?_)
      refine lv_if_eq (tgt := 46) C.ex C.by dX9_key_33 (by decide) (fun c5 => ?_) (fun c5 => ?_)
      · have hf := zif_t c5 hf
        refine lv_aload_n C.ex C.by dX9_key_46 rfl (lv_at hl 0 rfl) ?_
        obtain ⟨q6, e7, hf⟩ := zb_some hf
        rcases q6 with E | q6
        · dsimp only [Sum.elim_inl] at hf
          cases hf
          exact z_callTv_x (k := 0) (mc' := 1) (As := []) CX h (ctX9_needPower CX.2.1 e7) (zgV lkC338 lkC339 lkC340 lkC99 lkC341) ⟨rfl, rfl⟩ hdX9_needPower ⟨Nat.le_of_ble_eq_true rfl, Nat.le_of_ble_eq_true rfl⟩ 0 (wC_at0 κ _) rfl hl rfl rfl (Nat.le_of_ble_eq_true rfl) dX9_key_47 ⟨Nat.le_of_ble_eq_true rfl, Nat.le_of_ble_eq_true rfl⟩ (by decide)
        · dsimp only [Sum.elim_inr] at hf
          refine z_callTv (k := 0) (mc' := 1) (As := []) CX h (ctX9_needPower CX.2.1 e7) (zgV lkC338 lkC339 lkC340 lkC99 lkC341) ⟨rfl, rfl⟩ hdX9_needPower ⟨Nat.le_of_ble_eq_true rfl, Nat.le_of_ble_eq_true rfl⟩ 0 (wC_at0 κ _) rfl hl rfl rfl (Nat.le_of_ble_eq_true rfl) dX9_key_47 ⟨Nat.le_of_ble_eq_true rfl, Nat.le_of_ble_eq_true rfl⟩ (fun H locs h => ?_)
          refine W.widen (k := 1) (n := 6 * 1) (by decide) (by decide) ?_
          refine lv_aload_n C.ex C.by dX9_key_50 rfl (lv_at hl 0 rfl) ?_
          refine z_get (v := .ref (κ.2.1 33)) C h iwX9 0 (wC_at0 κ _) rfl 8 (by decide) lkC180 rfl dX9_key_51 ?_
          obtain ⟨q8, e9, hf⟩ := zb_some hf
          refine z_callRi (As := []) (x := (zI σ 32)) (f := (zA σ 16)) C h (ctX6_size (κ := zκR κ (κ.2.1 33) (κ.2.1 34) (κ.2.2.2 0)) e9) (zgV lkC181 lkC182 lkC183 lkC52 lkC184) ⟨rfl, rfl⟩ hdX6_size ⟨Nat.le_of_ble_eq_true rfl, Nat.le_of_ble_eq_true rfl⟩ 33 34 (by decide) (wC_at33 κ _) (wC_at34 κ _) σ (zset2 (wC_at33 κ _) (wC_at34 κ _)) hl rfl rfl (Nat.le_of_ble_eq_true rfl) dX9_key_54 ⟨Nat.le_of_ble_eq_true rfl, Nat.le_of_ble_eq_true rfl⟩ (fun H locs h => ?_)
          refine lv_if_le (tgt := 70) C.ex C.by dX9_key_57 (by decide) (fun c10 => ?_) (fun c10 => ?_)
          · have hf := zif_t c10 hf
            refine lv_aload_n C.ex C.by dX9_key_70 rfl (lv_at hl 0 rfl) ?_
            refine z_get (v := .ref (κ.2.1 4)) C h iwX9 0 (wC_at0 κ _) rfl 1 (by decide) lkC1 rfl dX9_key_71 ?_
            refine lv_iload_n C.ex C.by dX9_key_74 rfl (lv_at hl 1 rfl) ?_
            refine lv_iload_n C.ex C.by dX9_key_75 rfl (lv_at hl 2 rfl) ?_
            obtain ⟨q11, e12, hf⟩ := zb_some hf
            refine z_callVi (As := [.int x1, .int x2]) C h (ctX5_addKey (r1 := q11.1) (r2 := q11.2) e12) (zgV lkC350 lkC351 lkC352 lkC74 lkC353) ⟨rfl, rfl⟩ hdX5_addKey ⟨Nat.le_of_ble_eq_true rfl, Nat.le_of_ble_eq_true rfl⟩ 4 (wC_at4 κ _) rfl hl rfl rfl (Nat.le_of_ble_eq_true rfl) dX9_key_76 ⟨Nat.le_of_ble_eq_true rfl, Nat.le_of_ble_eq_true rfl⟩ (fun H locs h => ?_)
            cases hf
            exact z_tiret (k := 1) CX h (by decide) dX9_key_79
          · have hf := zif_f c10 hf
            cases hf
            exact z_throwS (k := 1) (text := "a run is there") CX h (by decide) lkC336 lkC337 (by decide) (by decide) tg125 tb125 to125 hl dX9_key_60 dX9_key_63 dX9_key_64 dX9_key_66 dX9_key_69 ⟨Nat.le_of_ble_eq_true rfl, Nat.le_of_ble_eq_true rfl, Nat.le_of_ble_eq_true rfl, Nat.le_of_ble_eq_true rfl⟩ (by decide)
      · have hf := zif_f c5 hf
        cases hf
        exact z_throwS (k := 0) (text := "the column is a key already") CX h (by decide) lkC347 lkC348 (by decide) (by decide) tg108 tb108 to108 hl dX9_key_36 dX9_key_39 dX9_key_40 dX9_key_42 dX9_key_45 ⟨Nat.le_of_ble_eq_true rfl, Nat.le_of_ble_eq_true rfl, Nat.le_of_ble_eq_true rfl, Nat.le_of_ble_eq_true rfl⟩ (by decide)
    · have hf := zif_f c2 hf
      exact wX9_key_15 CX h (lv_sub hl [0] rfl) hf
theorem ctX9_key {l : Launch} {κ : zG} {n : Nat} {σ : zS} {x1 : Int32} {x2 : Int32} {r1 : String ⊕ Int32} {r2 : zS} (hl9 : l.stackTraces = false) (hf : fX9_key_0 n (κ.2.2.2 0) (κ.2.2.2 1) (κ.2.2.2 2) σ x1 x2 = some (r1, r2)) : zTi l yX9_key (Cond.code yX9_key cX9_key 3 (some .int)) rmX9_key wC κ [.ref (κ.2.1 0), .int x1, .int x2] σ 2 r1 r2 :=
  zbodyX (Qz := fun A => zQti wC κ A r1 r2) (Xz := fun A => zXc wC κ A r1 r2) (by decide) (Nat.le_of_ble_eq_true rfl) hl9 (fun p e s m below meth c A C h ls hl => wX9_key_0 C h hl hf)
theorem hdX9_mode : yX9_mode.cls = RX9 ∧ yX9_mode.cls ≠ "java/lang/invoke/MethodHandle" ∧ yX9_mode.cls ≠ "java/lang/invoke/VarHandle" ∧ (parseMethodDescriptor yX9_mode.desc).map (fun d => d.parameters.length) = some 1 := by decide +kernel
abbrev rmX9_mode : Room := { frames := 7, cells := 1, slots := 6, locals := 102 }
set_option maxRecDepth 20000 in
set_option maxHeartbeats 4000000 in
theorem wX9_mode_9 {p : Program} {l : Launch} {e : Env} {s : State} {m : MethodId} {args : Array Value} {below : List Frame} {meth : Method} {c : Code} {A : Nat → Prop} {κ : zG} {H : Heap} {locs : List Loc} {ls : Array Slot} {n : Nat} {σ : zS} {r1 : String ⊕ Int32} {r2 : zS} (CX : zCX cX9_mode 3 (some .int) RX9 κ A p l s m args meth c) (h : zH wC κ A s σ H locs) (hl : lv_has ls 3 [(0, .ref (κ.2.1 0))]) (hf : fX9_mode_9 n (κ.2.2.2 0) (κ.2.2.2 1) (κ.2.2.2 2) σ = some (r1, r2)) : W p l e rmX9_mode s m args below meth c H locs 0 (6 * 0) (vx_MQ below (zQti wC κ A r1 r2) (zXc wC κ A r1 r2) args s 1 (6 * 1) A) (F0 m 9 ls []) := by
  unfold fX9_mode_9 at hf
  have C := CX.1
  cases hf
  exact z_throwS (k := 0) (text := "no such mode") CX h (by decide) lkC347 lkC348 (by decide) (by decide) tg108 tb108 to108 hl dX9_mode_9 dX9_mode_12 dX9_mode_13 dX9_mode_15 dX9_mode_18 ⟨Nat.le_of_ble_eq_true rfl, Nat.le_of_ble_eq_true rfl, Nat.le_of_ble_eq_true rfl, Nat.le_of_ble_eq_true rfl⟩ (by decide)
set_option maxRecDepth 20000 in
set_option maxHeartbeats 4000000 in
theorem wX9_mode_0 {p : Program} {l : Launch} {e : Env} {s : State} {m : MethodId} {args : Array Value} {below : List Frame} {meth : Method} {c : Code} {A : Nat → Prop} {κ : zG} {H : Heap} {locs : List Loc} {ls : Array Slot} {n : Nat} {σ : zS} {x1 : Int32} {r1 : String ⊕ Int32} {r2 : zS} (CX : zCX cX9_mode 3 (some .int) RX9 κ A p l s m args meth c) (h : zH wC κ A s σ H locs) (hl : lv_has ls 3 [(0, .ref (κ.2.1 0)), (1, .int x1)]) (hf : fX9_mode_0 n (κ.2.2.2 0) (κ.2.2.2 1) (κ.2.2.2 2) σ x1 = some (r1, r2)) : W p l e rmX9_mode s m args below meth c H locs 0 (6 * 0) (vx_MQ below (zQti wC κ A r1 r2) (zXc wC κ A r1 r2) args s 1 (6 * 1) A) (F0 m 0 ls []) := by
  unfold fX9_mode_0 at hf
  have C := CX.1
  refine lv_iload_n C.ex C.by dX9_mode_0 rfl (lv_at hl 1 rfl) ?_
  refine lv_if_lt (tgt := 9) C.ex C.by dX9_mode_1 (by decide) (fun c1 => ?_) (fun c1 => ?_)
  · have hf := zif_t c1 hf
    exact wX9_mode_9 CX h (lv_sub hl [0] rfl) hf
  · have hf := zif_f c1 hf
    refine lv_iload_n C.ex C.by dX9_mode_4 rfl (lv_at hl 1 rfl) ?_
    refine lv_iconst (v := 2) C.ex C.by dX9_mode_5 (by decide) ?_
    refine lv_icmp_le (tgt := 19) C.ex C.by dX9_mode_6 (by decide) (fun c2 => ?_) (fun c2 => ?_)
    · have hf := zif_t c2 hf
      refine lv_aload_n C.ex C.by dX9_mode_19 rfl (lv_at hl 0 rfl) ?_
      obtain ⟨q3, e4, hf⟩ := zb_some hf
      rcases q3 with E | q3
      · dsimp only [Sum.elim_inl] at hf
        cases hf
        exact z_callTv_x (k := 0) (mc' := 1) (As := []) CX h (ctX9_needPower CX.2.1 e4) (zgV lkC338 lkC339 lkC340 lkC99 lkC341) ⟨rfl, rfl⟩ hdX9_needPower ⟨Nat.le_of_ble_eq_true rfl, Nat.le_of_ble_eq_true rfl⟩ 0 (wC_at0 κ _) rfl hl rfl rfl (Nat.le_of_ble_eq_true rfl) dX9_mode_20 ⟨Nat.le_of_ble_eq_true rfl, Nat.le_of_ble_eq_true rfl⟩ (by decide)
      · dsimp only [Sum.elim_inr] at hf
        refine z_callTv (k := 0) (mc' := 1) (As := []) CX h (ctX9_needPower CX.2.1 e4) (zgV lkC338 lkC339 lkC340 lkC99 lkC341) ⟨rfl, rfl⟩ hdX9_needPower ⟨Nat.le_of_ble_eq_true rfl, Nat.le_of_ble_eq_true rfl⟩ 0 (wC_at0 κ _) rfl hl rfl rfl (Nat.le_of_ble_eq_true rfl) dX9_mode_20 ⟨Nat.le_of_ble_eq_true rfl, Nat.le_of_ble_eq_true rfl⟩ (fun H locs h => ?_)
        refine W.widen (k := 1) (n := 6 * 1) (by decide) (by decide) ?_
        refine lv_aload_n C.ex C.by dX9_mode_23 rfl (lv_at hl 0 rfl) ?_
        refine z_get (v := .int (zI σ 0)) C h iwX9 0 (wC_at0 κ _) rfl 12 (by decide) lkC195 rfl dX9_mode_24 ?_
        refine lv_istore_n (lv' := [(2, .int (zI σ 0)), (0, .ref (κ.2.1 0)), (1, .int x1)]) C.ex C.by dX9_mode_27 rfl hl (by decide) rfl (fun ls hl => ?_)
        refine lv_aload_n C.ex C.by dX9_mode_28 rfl (lv_at hl 1 rfl) ?_
        refine lv_iload_n C.ex C.by dX9_mode_29 rfl (lv_at hl 2 rfl) ?_
        refine z_put C h iwX9 tyX9_ok nmX9 0 (wC_at0 κ _) rfl 12 (by decide) lkC195 rfl rfl rfl (Nat.le_of_ble_eq_true rfl) (sI σ 0 x1) (wC_s0_12 κ _ _) dX9_mode_30 (fun H locs h => ?_)
        refine lv_iload_n C.ex C.by dX9_mode_33 rfl (lv_at hl 0 rfl) ?_
        cases hf
        exact z_tiret (k := 1) CX h (by decide) dX9_mode_34
    · have hf := zif_f c2 hf
      exact wX9_mode_9 CX h (lv_sub hl [0] rfl) hf
theorem ctX9_mode {l : Launch} {κ : zG} {n : Nat} {σ : zS} {x1 : Int32} {r1 : String ⊕ Int32} {r2 : zS} (hl9 : l.stackTraces = false) (hf : fX9_mode_0 n (κ.2.2.2 0) (κ.2.2.2 1) (κ.2.2.2 2) σ x1 = some (r1, r2)) : zTi l yX9_mode (Cond.code yX9_mode cX9_mode 3 (some .int)) rmX9_mode wC κ [.ref (κ.2.1 0), .int x1] σ 1 r1 r2 :=
  zbodyX (Qz := fun A => zQti wC κ A r1 r2) (Xz := fun A => zXc wC κ A r1 r2) (by decide) (Nat.le_of_ble_eq_true rfl) hl9 (fun p e s m below meth c A C h ls hl => wX9_mode_0 C h hl hf)
theorem hdX9_answerFor : yX9_answerFor.cls = RX9 ∧ yX9_answerFor.cls ≠ "java/lang/invoke/MethodHandle" ∧ yX9_answerFor.cls ≠ "java/lang/invoke/VarHandle" ∧ (parseMethodDescriptor yX9_answerFor.desc).map (fun d => d.parameters.length) = some 1 := by decide +kernel
abbrev rmX9_answerFor : Room := { frames := 6, cells := 1, slots := 6, locals := 82 }
set_option maxRecDepth 20000 in
set_option maxHeartbeats 4000000 in
theorem wX9_answerFor_25 {p : Program} {l : Launch} {e : Env} {s : State} {m : MethodId} {args : Array Value} {below : List Frame} {meth : Method} {c : Code} {A : Nat → Prop} {κ : zG} {H : Heap} {locs : List Loc} {ls : Array Slot} {n : Nat} {σ : zS} {x1 : Int32} {r : (String ⊕ Int32)} (CX : zCX cX9_answerFor 2 (some .int) RX9 κ A p l s m args meth c) (h : zH wC κ A s σ H locs) (hl : lv_has ls 2 [(0, .ref (κ.2.1 0)), (1, .int x1)]) (hf : fX9_answerFor_25 n (κ.2.2.2 0) (κ.2.2.2 1) (κ.2.2.2 2) σ x1 = some r) : W p l e rmX9_answerFor s m args below meth c H locs 0 (6 * 0) (vx_MQ below (zQti wC κ A r σ) (zXc wC κ A r σ) args s 1 (6 * 1) A) (F0 m 25 ls []) := by
  unfold fX9_answerFor_25 at hf
  have C := CX.1
  refine lv_iload_n C.ex C.by dX9_answerFor_25 rfl (lv_at hl 1 rfl) ?_
  refine lv_if_eq (tgt := 39) C.ex C.by dX9_answerFor_26 (by decide) (fun c3 => ?_) (fun c3 => ?_)
  · have hf := zif_t c3 hf
    refine lv_bipush (v := (-2)) C.ex C.by dX9_answerFor_39 (by decide) ?_
    cases hf
    exact z_tiret (k := 0) CX h (by decide) dX9_answerFor_41
  · have hf := zif_f c3 hf
    refine lv_aload_n C.ex C.by dX9_answerFor_29 rfl (lv_at hl 0 rfl) ?_
    refine z_get (v := .ref (κ.2.1 33)) C h iwX9 0 (wC_at0 κ _) rfl 8 (by decide) lkC180 rfl dX9_answerFor_30 ?_
    obtain ⟨q4, e5, hf⟩ := zb_some hf
    refine z_callRi (As := []) (x := (zI σ 32)) (f := (zA σ 16)) C h (ctX6_size (κ := zκR κ (κ.2.1 33) (κ.2.1 34) (κ.2.2.2 0)) e5) (zgV lkC181 lkC182 lkC183 lkC52 lkC184) ⟨rfl, rfl⟩ hdX6_size ⟨Nat.le_of_ble_eq_true rfl, Nat.le_of_ble_eq_true rfl⟩ 33 34 (by decide) (wC_at33 κ _) (wC_at34 κ _) σ (zset2 (wC_at33 κ _) (wC_at34 κ _)) hl rfl rfl (Nat.le_of_ble_eq_true rfl) dX9_answerFor_33 ⟨Nat.le_of_ble_eq_true rfl, Nat.le_of_ble_eq_true rfl⟩ (fun H locs h => ?_)
    refine lv_goto (tgt := 41) C.ex C.by dX9_answerFor_36 (by decide) ?_
    cases hf
    exact z_tiret (k := 0) CX h (by decide) dX9_answerFor_41
set_option maxRecDepth 20000 in
set_option maxHeartbeats 4000000 in
theorem wX9_answerFor_0 {p : Program} {l : Launch} {e : Env} {s : State} {m : MethodId} {args : Array Value} {below : List Frame} {meth : Method} {c : Code} {A : Nat → Prop} {κ : zG} {H : Heap} {locs : List Loc} {ls : Array Slot} {n : Nat} {σ : zS} {x1 : Int32} {r : (String ⊕ Int32)} (CX : zCX cX9_answerFor 2 (some .int) RX9 κ A p l s m args meth c) (h : zH wC κ A s σ H locs) (hl : lv_has ls 2 [(0, .ref (κ.2.1 0)), (1, .int x1)]) (hf : fX9_answerFor_0 n (κ.2.2.2 0) (κ.2.2.2 1) (κ.2.2.2 2) σ x1 = some r) : W p l e rmX9_answerFor s m args below meth c H locs 0 (6 * 0) (vx_MQ below (zQti wC κ A r σ) (zXc wC κ A r σ) args s 1 (6 * 1) A) (F0 m 0 ls []) := by
  unfold fX9_answerFor_0 at hf
  have C := CX.1
  refine lv_iload_n C.ex C.by dX9_answerFor_0 rfl (lv_at hl 1 rfl) ?_
  refine lv_if_ne (tgt := 25) C.ex C.by dX9_answerFor_1 (by decide) (fun c1 => ?_) (fun c1 => ?_)
  · have hf := zif_f c1 hf
    exact wX9_answerFor_25 CX h hl hf
  · have hf := zif_t c1 hf
    refine lv_aload_n C.ex C.by dX9_answerFor_4 rfl (lv_at hl 0 rfl) ?_
    refine z_get (v := .ref (κ.2.1 1)) C h iwX9 0 (wC_at0 κ _) rfl 0 (by decide) lkC17 rfl dX9_answerFor_5 ?_
    refine z_getN (v := .int (zI σ 7)) C h iwX0 1 (wC_at1 κ _) rfl 8 (by decide) nkC20 rfl dX9_answerFor_8 ?_
    refine lv_if_ne (tgt := 25) C.ex C.by dX9_answerFor_11 (by decide) (fun c2 => ?_) (fun c2 => ?_)
    · have hf := zif_f c2 hf
      exact wX9_answerFor_25 CX h hl hf
    · have hf := zif_t c2 hf
      cases hf
      exact z_throwSW (k := 0) (text := "the disk is full") CX h (by decide) lkC364 lkC365 (by decide) (by decide) tg338 tb338 to338 hl dX9_answerFor_14 dX9_answerFor_17 dX9_answerFor_18 dX9_answerFor_21 dX9_answerFor_24 ⟨Nat.le_of_ble_eq_true rfl, Nat.le_of_ble_eq_true rfl, Nat.le_of_ble_eq_true rfl, Nat.le_of_ble_eq_true rfl⟩ (by decide)
theorem ctX9_answerFor {l : Launch} {κ : zG} {n : Nat} {σ : zS} {x1 : Int32} {r : (String ⊕ Int32)} (hl9 : l.stackTraces = false) (hf : fX9_answerFor_0 n (κ.2.2.2 0) (κ.2.2.2 1) (κ.2.2.2 2) σ x1 = some r) : zTi l yX9_answerFor (Cond.code yX9_answerFor cX9_answerFor 2 (some .int)) rmX9_answerFor wC κ [.ref (κ.2.1 0), .int x1] σ 1 r σ :=
  zbodyX (Qz := fun A => zQti wC κ A r σ) (Xz := fun A => zXc wC κ A r σ) (by decide) (Nat.le_of_ble_eq_true rfl) hl9 (fun p e s m below meth c A C h ls hl => wX9_answerFor_0 C h hl hf)
theorem hdX9_feed : yX9_feed.cls = RX9 ∧ yX9_feed.cls ≠ "java/lang/invoke/MethodHandle" ∧ yX9_feed.cls ≠ "java/lang/invoke/VarHandle" ∧ (parseMethodDescriptor yX9_feed.desc).map (fun d => d.parameters.length) = some 4 := by decide +kernel
abbrev rmX9_feed : Room := { frames := 7, cells := 2, slots := 12, locals := 103 }
set_option maxRecDepth 20000 in
set_option maxHeartbeats 4000000 in
theorem wX9_feed_0 {p : Program} {l : Launch} {e : Env} {s : State} {m : MethodId} {args : Array Value} {below : List Frame} {meth : Method} {c : Code} {A : Nat → Prop} {κ : zG} {H : Heap} {locs : List Loc} {ls : Array Slot} {n : Nat} {σ : zS} {x1 : Int64} {x3 : Int64} {x5 : Int64} {x7 : Int64} {r1 : String ⊕ Int32} {r2 : zS} (CX : zCX cX9_feed 10 (some .int) RX9 κ A p l s m args meth c) (h : zH wC κ A s σ H locs) (hl : lv_has ls 10 [(0, .ref (κ.2.1 0)), (1, .long x1), (3, .long x3), (5, .long x5), (7, .long x7)]) (hf : fX9_feed_0 n (κ.2.2.2 0) (κ.2.2.2 1) (κ.2.2.2 2) σ x1 x3 x5 x7 = some (r1, r2)) : W p l e rmX9_feed s m args below meth c H locs 0 (6 * 0) (vx_MQ below (zQti wC κ A r1 r2) (zXc wC κ A r1 r2) args s 2 (6 * 2) A) (F0 m 0 ls []) := by
  unfold fX9_feed_0 at hf
  have C := CX.1
  refine lv_aload_n C.ex C.by dX9_feed_0 rfl (lv_at hl 0 rfl) ?_
  obtain ⟨q1, e2, hf⟩ := zb_some hf
  rcases q1 with E | q1
  · dsimp only [Sum.elim_inl] at hf
    cases hf
    exact z_callTv_x (k := 0) (mc' := 1) (As := []) CX h (ctX9_needPower CX.2.1 e2) (zgV lkC338 lkC339 lkC340 lkC99 lkC341) ⟨rfl, rfl⟩ hdX9_needPower ⟨Nat.le_of_ble_eq_true rfl, Nat.le_of_ble_eq_true rfl⟩ 0 (wC_at0 κ _) rfl hl rfl rfl (Nat.le_of_ble_eq_true rfl) dX9_feed_1 ⟨Nat.le_of_ble_eq_true rfl, Nat.le_of_ble_eq_true rfl⟩ (by decide)
  · dsimp only [Sum.elim_inr] at hf
    refine z_callTv (k := 0) (mc' := 1) (As := []) CX h (ctX9_needPower CX.2.1 e2) (zgV lkC338 lkC339 lkC340 lkC99 lkC341) ⟨rfl, rfl⟩ hdX9_needPower ⟨Nat.le_of_ble_eq_true rfl, Nat.le_of_ble_eq_true rfl⟩ 0 (wC_at0 κ _) rfl hl rfl rfl (Nat.le_of_ble_eq_true rfl) dX9_feed_1 ⟨Nat.le_of_ble_eq_true rfl, Nat.le_of_ble_eq_true rfl⟩ (fun H locs h => ?_)
    refine W.widen (k := 1) (n := 6 * 1) (by decide) (by decide) ?_
    refine lv_aload_n C.ex C.by dX9_feed_4 rfl (lv_at hl 0 rfl) ?_
    refine lv_iconst (v := 0) C.ex C.by dX9_feed_5 (by decide) ?_
    refine lv_lload_n C.ex C.by dX9_feed_6 rfl (lv_at hl 1 rfl) ?_
    obtain ⟨q3, e4, hf⟩ := zb_some hf
    refine z_callVv (As := [.int 0, .long x1]) C h (ctX9_setComing e4) (zgV lkC356 lkC357 lkC358 lkC99 lkC359) ⟨rfl, rfl⟩ hdX9_setComing ⟨Nat.le_of_ble_eq_true rfl, Nat.le_of_ble_eq_true rfl⟩ 0 (wC_at0 κ _) rfl hl rfl rfl (Nat.le_of_ble_eq_true rfl) dX9_feed_7 ⟨Nat.le_of_ble_eq_true rfl, Nat.le_of_ble_eq_true rfl⟩ (fun H locs h => ?_)
    refine lv_aload_n C.ex C.by dX9_feed_10 rfl (lv_at hl 0 rfl) ?_
    refine lv_iconst (v := 1) C.ex C.by dX9_feed_11 (by decide) ?_
    refine lv_lload_n C.ex C.by dX9_feed_12 rfl (lv_at hl 2 rfl) ?_
    obtain ⟨q5, e6, hf⟩ := zb_some hf
    refine z_callVv (As := [.int 1, .long x3]) C h (ctX9_setComing e6) (zgV lkC356 lkC357 lkC358 lkC99 lkC359) ⟨rfl, rfl⟩ hdX9_setComing ⟨Nat.le_of_ble_eq_true rfl, Nat.le_of_ble_eq_true rfl⟩ 0 (wC_at0 κ _) rfl hl rfl rfl (Nat.le_of_ble_eq_true rfl) dX9_feed_13 ⟨Nat.le_of_ble_eq_true rfl, Nat.le_of_ble_eq_true rfl⟩ (fun H locs h => ?_)
    refine lv_aload_n C.ex C.by dX9_feed_16 rfl (lv_at hl 0 rfl) ?_
    refine lv_iconst (v := 2) C.ex C.by dX9_feed_17 (by decide) ?_
    refine lv_lload C.ex C.by dX9_feed_18 (lv_at hl 3 rfl) ?_
    obtain ⟨q7, e8, hf⟩ := zb_some hf
    refine z_callVv (As := [.int 2, .long x5]) C h (ctX9_setComing e8) (zgV lkC356 lkC357 lkC358 lkC99 lkC359) ⟨rfl, rfl⟩ hdX9_setComing ⟨Nat.le_of_ble_eq_true rfl, Nat.le_of_ble_eq_true rfl⟩ 0 (wC_at0 κ _) rfl hl rfl rfl (Nat.le_of_ble_eq_true rfl) dX9_feed_20 ⟨Nat.le_of_ble_eq_true rfl, Nat.le_of_ble_eq_true rfl⟩ (fun H locs h => ?_)
    refine lv_aload_n C.ex C.by dX9_feed_23 rfl (lv_at hl 0 rfl) ?_
    refine lv_iconst (v := 3) C.ex C.by dX9_feed_24 (by decide) ?_
    refine lv_lload C.ex C.by dX9_feed_25 (lv_at hl 4 rfl) ?_
    obtain ⟨q9, e10, hf⟩ := zb_some hf
    refine z_callVv (As := [.int 3, .long x7]) C h (ctX9_setComing e10) (zgV lkC356 lkC357 lkC358 lkC99 lkC359) ⟨rfl, rfl⟩ hdX9_setComing ⟨Nat.le_of_ble_eq_true rfl, Nat.le_of_ble_eq_true rfl⟩ 0 (wC_at0 κ _) rfl hl rfl rfl (Nat.le_of_ble_eq_true rfl) dX9_feed_27 ⟨Nat.le_of_ble_eq_true rfl, Nat.le_of_ble_eq_true rfl⟩ (fun H locs h => ?_)
    refine lv_aload_n C.ex C.by dX9_feed_30 rfl (lv_at hl 0 rfl) ?_
    refine z_get (v := .ref (κ.2.1 10)) C h iwX9 0 (wC_at0 κ _) rfl 3 (by decide) lkC42 rfl dX9_feed_31 ?_
    refine lv_aload_n C.ex C.by dX9_feed_34 rfl (lv_at hl 0 rfl) ?_
    refine z_get (v := .ref (κ.2.1 35)) C h iwX9 0 (wC_at0 κ _) rfl 9 (by decide) lkC0 rfl dX9_feed_35 ?_
    obtain ⟨q11, e12, hf⟩ := zb_some hf
    refine z_callVi (As := [.ref (κ.2.1 35)]) C h (ctX2_bring_p35 (r1 := q11.1) (r2 := q11.2) e12) (zgV lkC360 lkC361 lkC362 lkC60 lkC363) ⟨rfl, rfl⟩ hdX2_bring ⟨Nat.le_of_ble_eq_true rfl, Nat.le_of_ble_eq_true rfl⟩ 10 (wC_at10 κ _) rfl hl rfl rfl (Nat.le_of_ble_eq_true rfl) dX9_feed_38 ⟨Nat.le_of_ble_eq_true rfl, Nat.le_of_ble_eq_true rfl⟩ (fun H locs h => ?_)
    refine lv_istore (lv' := [(9, .int q11.1), (0, .ref (κ.2.1 0)), (1, .long x1), (3, .long x3), (5, .long x5), (7, .long x7)]) C.ex C.by dX9_feed_41 hl (by decide) rfl (fun ls hl => ?_)
    refine lv_iload C.ex C.by dX9_feed_43 (lv_at hl 0 rfl) ?_
    refine lv_iconst (v := (-1)) C.ex C.by dX9_feed_45 (by decide) ?_
    refine lv_icmp_ne (tgt := 57) C.ex C.by dX9_feed_46 (by decide) (fun c13 => ?_) (fun c13 => ?_)
    · have hf := zif_f c13 hf
      refine lv_iload C.ex C.by dX9_feed_57 (lv_at hl 0 rfl) ?_
      refine W.widen (k := 2) (n := 6 * 2) (by decide) (by decide) ?_
      cases hf
      exact z_tiret (k := 2) CX h (by decide) dX9_feed_59
    · have hf := zif_t c13 hf
      refine lv_aload_n C.ex C.by dX9_feed_49 rfl (lv_at hl 1 rfl) ?_
      refine lv_iconst (v := 0) C.ex C.by dX9_feed_50 (by decide) ?_
      obtain ⟨q14, e15, hf⟩ := zb_some hf
      rcases q14 with E | q14
      · dsimp only [Sum.elim_inl] at hf
        cases hf
        exact z_callTi_x (k := 1) (mc' := 1) (As := [.int 0]) CX h (ctX9_answerFor CX.2.1 e15) (zgV lkC366 lkC367 lkC368 lkC99 lkC369) ⟨rfl, rfl⟩ hdX9_answerFor ⟨Nat.le_of_ble_eq_true rfl, Nat.le_of_ble_eq_true rfl⟩ 0 (wC_at0 κ _) rfl hl rfl rfl (Nat.le_of_ble_eq_true rfl) dX9_feed_51 ⟨Nat.le_of_ble_eq_true rfl, Nat.le_of_ble_eq_true rfl⟩ (by decide)
      · dsimp only [Sum.elim_inr] at hf
        refine z_callTi (k := 1) (mc' := 1) (As := [.int 0]) CX h (ctX9_answerFor CX.2.1 e15) (zgV lkC366 lkC367 lkC368 lkC99 lkC369) ⟨rfl, rfl⟩ hdX9_answerFor ⟨Nat.le_of_ble_eq_true rfl, Nat.le_of_ble_eq_true rfl⟩ 0 (wC_at0 κ _) rfl hl rfl rfl (Nat.le_of_ble_eq_true rfl) dX9_feed_51 ⟨Nat.le_of_ble_eq_true rfl, Nat.le_of_ble_eq_true rfl⟩ (fun H locs h => ?_)
        refine W.widen (k := 2) (n := 6 * 2) (by decide) (by decide) ?_
        refine lv_goto (tgt := 59) C.ex C.by dX9_feed_54 (by decide) ?_
        cases hf
        exact z_tiret (k := 2) CX h (by decide) dX9_feed_59
theorem ctX9_feed {l : Launch} {κ : zG} {n : Nat} {σ : zS} {x1 : Int64} {x3 : Int64} {x5 : Int64} {x7 : Int64} {r1 : String ⊕ Int32} {r2 : zS} (hl9 : l.stackTraces = false) (hf : fX9_feed_0 n (κ.2.2.2 0) (κ.2.2.2 1) (κ.2.2.2 2) σ x1 x3 x5 x7 = some (r1, r2)) : zTi l yX9_feed (Cond.code yX9_feed cX9_feed 10 (some .int)) rmX9_feed wC κ [.ref (κ.2.1 0), .long x1, .long x3, .long x5, .long x7] σ 2 r1 r2 :=
  zbodyX (Qz := fun A => zQti wC κ A r1 r2) (Xz := fun A => zXc wC κ A r1 r2) (by decide) (Nat.le_of_ble_eq_true rfl) hl9 (fun p e s m below meth c A C h ls hl => wX9_feed_0 C h hl hf)
theorem hdX9_run : yX9_run.cls = RX9 ∧ yX9_run.cls ≠ "java/lang/invoke/MethodHandle" ∧ yX9_run.cls ≠ "java/lang/invoke/VarHandle" ∧ (parseMethodDescriptor yX9_run.desc).map (fun d => d.parameters.length) = some 3 := by decide +kernel
abbrev rmX9_run : Room := { frames := 7, cells := 1, slots := 6, locals := 102 }
set_option maxRecDepth 20000 in
set_option maxHeartbeats 4000000 in
theorem wX9_run_L54_54 {p : Program} {l : Launch} {e : Env} {s : State} {m : MethodId} {args : Array Value} {below : List Frame} {meth : Method} {c : Code} {A : Nat → Prop} {κ : zG} {H : Heap} {locs : List Loc} {ls : Array Slot} {Q : State → Prop} {n : Nat} {k3 : Int32} {k4 : Int32} {k7 : Int32} {a : Int64 × Int32 × zS} {r : (Int64 × Int32 × zS) ⊕ (Int64 × zS)} (CX : zCX cX9_run 9 (some .int) RX9 κ A p l s m args meth c) (h : zH wC κ A s a.2.2 H locs) (hl : lv_has ls 9 [(0, .ref (κ.2.1 0)), (3, .int k3), (4, .int k4), (5, .long a.1), (7, .int k7), (8, .int a.2.1)]) (hf : fX9_run_L54_54 n (κ.2.2.2 0) (κ.2.2.2 1) (κ.2.2.2 2) k3 k4 k7 a = some r) (Kc : ∀ (v5 : Int64) (v8 : Int32) (σ1 : zS), r = .inl (v5, v8, σ1) → ∀ (H : Heap) (locs : List Loc) (ls : Array Slot), zH wC κ A s σ1 H locs → lv_has ls 9 [(0, .ref (κ.2.1 0)), (3, .int k3), (4, .int k4), (5, .long v5), (7, .int k7), (8, .int v8)] → W p l e rmX9_run s m args below meth c H locs 1 (6 * 1) Q (F0 m 54 ls [])) (Ke0 : ∀ (v5 : Int64) (σ1 : zS), r = .inr (v5, σ1) → ∀ (H : Heap) (locs : List Loc) (ls : Array Slot), zH wC κ A s σ1 H locs → lv_has ls 9 [(0, .ref (κ.2.1 0)), (3, .int k3), (4, .int k4), (5, .long v5), (7, .int k7)] → W p l e rmX9_run s m args below meth c H locs 1 (6 * 1) Q (F0 m 98 ls [])) : W p l e rmX9_run s m args below meth c H locs 1 (6 * 1) Q (F0 m 54 ls []) := by
  unfold fX9_run_L54_54 at hf
  have C := CX.1
  refine lv_iload C.ex C.by dX9_run_54 (lv_at hl 5 rfl) ?_
  refine lv_aload_n C.ex C.by dX9_run_56 rfl (lv_at hl 0 rfl) ?_
  refine z_get (v := .ref (κ.2.1 4)) C h iwX9 0 (wC_at0 κ _) rfl 1 (by decide) lkC1 rfl dX9_run_57 ?_
  refine z_getN (v := .int (zI a.2.2 9)) C h iwX5 4 (wC_at4 κ _) rfl 4 (by decide) nkC21 rfl dX9_run_60 ?_
  refine lv_icmp_ge (tgt := 98) C.ex C.by dX9_run_63 (by decide) (fun c8 => ?_) (fun c8 => ?_)
  · have hf := zif_t c8 hf
    exact Ke0 _ _ (Option.some.inj hf).symm _ _ _ h (lv_sub hl [0, 1, 2, 3, 4] rfl)
  · have hf := zif_f c8 hf
    refine lv_lload C.ex C.by dX9_run_66 (lv_at hl 3 rfl) ?_
    refine lv_ldc2 (v := 6364136223846793005) C.ex C.by C.ow (C.ts _ lkC371) dX9_run_68 ?_
    refine lv_lmul C.ex C.by dX9_run_71 ?_
    refine lv_ldc2 (v := 1442695040888963407) C.ex C.by C.ow (C.ts _ lkC372) dX9_run_72 ?_
    refine lv_ladd C.ex C.by dX9_run_75 ?_
    refine lv_lstore (lv' := [(5, .long ((a.1 * 6364136223846793005) + 1442695040888963407)), (0, .ref (κ.2.1 0)), (3, .int k3), (4, .int k4), (7, .int k7), (8, .int a.2.1)]) C.ex C.by dX9_run_76 hl (by decide) rfl (fun ls hl => ?_)
    refine lv_aload_n C.ex C.by dX9_run_78 rfl (lv_at hl 1 rfl) ?_
    refine lv_iload C.ex C.by dX9_run_79 (lv_at hl 5 rfl) ?_
    refine lv_lload C.ex C.by dX9_run_81 (lv_at hl 0 rfl) ?_
    refine lv_bipush (v := 33) C.ex C.by dX9_run_83 (by decide) ?_
    refine lv_lushr (v := ((Int64.toUInt64 ((a.1 * 6364136223846793005) + 1442695040888963407) >>> (Int64.toUInt64 (Int32.toInt64 33) &&& Int64.toUInt64 63)).toInt64)) C.ex C.by dX9_run_85 rfl ?_
    refine lv_iload_n C.ex C.by dX9_run_86 rfl (lv_at hl 2 rfl) ?_
    refine lv_i2l (v := k3.toInt64) C.ex C.by dX9_run_87 rfl ?_
    obtain ⟨h9, hf⟩ := zg_some hf
    refine lv_lrem C.ex C.by dX9_run_88 (znzL_ne h9) ?_
    obtain ⟨q10, e11, hf⟩ := zb_some hf
    refine z_callVv (As := [.int a.2.1, .long (((Int64.toUInt64 ((a.1 * 6364136223846793005) + 1442695040888963407) >>> (Int64.toUInt64 (Int32.toInt64 33) &&& Int64.toUInt64 63)).toInt64) - ((Int64.toUInt64 ((a.1 * 6364136223846793005) + 1442695040888963407) >>> (Int64.toUInt64 (Int32.toInt64 33) &&& Int64.toUInt64 63)).toInt64) / k3.toInt64 * k3.toInt64)]) C h (ctX9_setComing e11) (zgV lkC356 lkC357 lkC358 lkC99 lkC359) ⟨rfl, rfl⟩ hdX9_setComing ⟨Nat.le_of_ble_eq_true rfl, Nat.le_of_ble_eq_true rfl⟩ 0 (wC_at0 κ _) rfl hl rfl rfl (Nat.le_of_ble_eq_true rfl) dX9_run_89 ⟨Nat.le_of_ble_eq_true rfl, Nat.le_of_ble_eq_true rfl⟩ (fun H locs h => ?_)
    refine lv_iinc (v := (a.2.1 + 1)) (lv' := [(8, .int (a.2.1 + 1)), (5, .long ((a.1 * 6364136223846793005) + 1442695040888963407)), (0, .ref (κ.2.1 0)), (3, .int k3), (4, .int k4), (7, .int k7)]) C.ex C.by dX9_run_92 hl (k := 5) rfl rfl (by decide) rfl (fun ls hl => ?_)
    refine lv_goto (tgt := 54) C.ex C.by dX9_run_95 (by decide) ?_
    exact Kc _ _ _ (Option.some.inj hf).symm _ _ _ h (lv_sub hl [2, 3, 4, 1, 5, 0] rfl)
theorem wlX9_run_54 {p : Program} {l : Launch} {e : Env} {s : State} {m : MethodId} {args : Array Value} {below : List Frame} {meth : Method} {c : Code} {A : Nat → Prop} {κ : zG} {H : Heap} {locs : List Loc} {ls : Array Slot} {Q : State → Prop} {n : Nat} {k3 : Int32} {k4 : Int32} {k7 : Int32} {k0 : Nat} {u5 : Int64} {u8 : Int32} {σ1 : zS} (CX : zCX cX9_run 9 (some .int) RX9 κ A p l s m args meth c) (h : zH wC κ A s σ1 H locs) (hl : lv_has ls 9 [(0, .ref (κ.2.1 0)), (3, .int k3), (4, .int k4), (5, .long u5), (7, .int k7), (8, .int u8)]) (b : Int64 × zS) (hb : zlp (fX9_run_L54_54 n (κ.2.2.2 0) (κ.2.2.2 1) (κ.2.2.2 2) k3 k4 k7) k0 (u5, u8, σ1) = some b) (K : (fun b : Int64 × zS => ∀ (H : Heap) (locs : List Loc) (ls : Array Slot), zH wC κ A s b.2 H locs → lv_has ls 9 [(0, .ref (κ.2.1 0)), (3, .int k3), (4, .int k4), (5, .long b.1), (7, .int k7)] → W p l e rmX9_run s m args below meth c H locs 1 (6 * 1) Q (F0 m 98 ls [])) b) : W p l e rmX9_run s m args below meth c H locs 1 (6 * 1) Q (F0 m 54 ls []) :=
  z_loop (body := fX9_run_L54_54 n (κ.2.2.2 0) (κ.2.2.2 1) (κ.2.2.2 2) k3 k4 k7) (Wd := (fun a : Int64 × Int32 × zS => ∀ (H : Heap) (locs : List Loc) (ls : Array Slot), zH wC κ A s a.2.2 H locs → lv_has ls 9 [(0, .ref (κ.2.1 0)), (3, .int k3), (4, .int k4), (5, .long a.1), (7, .int k7), (8, .int a.2.1)] → W p l e rmX9_run s m args below meth c H locs 1 (6 * 1) Q (F0 m 54 ls []))) (Ex := (fun b : Int64 × zS => (fun b : Int64 × zS => ∀ (H : Heap) (locs : List Loc) (ls : Array Slot), zH wC κ A s b.2 H locs → lv_has ls 9 [(0, .ref (κ.2.1 0)), (3, .int k3), (4, .int k4), (5, .long b.1), (7, .int k7)] → W p l e rmX9_run s m args below meth c H locs 1 (6 * 1) Q (F0 m 98 ls [])) b)) (fun a r hr Kc Ke H locs ls h hl => wX9_run_L54_54 CX h hl hr (fun v5 v8 σ1 e => Kc (v5, v8, σ1) e) (fun v5 σ1 e => Ke (v5, σ1) e)) k0 (u5, u8, σ1) b hb K H locs ls h hl
set_option maxRecDepth 20000 in
set_option maxHeartbeats 4000000 in
theorem wX9_run_L44_44 {p : Program} {l : Launch} {e : Env} {s : State} {m : MethodId} {args : Array Value} {below : List Frame} {meth : Method} {c : Code} {A : Nat → Prop} {κ : zG} {H : Heap} {locs : List Loc} {ls : Array Slot} {Q : State → Prop} {n : Nat} {k3 : Int32} {k4 : Int32} {a : Int64 × Int32 × zS} {r : (Int64 × Int32 × zS) ⊕ ((zS) ⊕ (Int32 × zS))} (CX : zCX cX9_run 9 (some .int) RX9 κ A p l s m args meth c) (h : zH wC κ A s a.2.2 H locs) (hl : lv_has ls 9 [(0, .ref (κ.2.1 0)), (3, .int k3), (4, .int k4), (5, .long a.1), (7, .int a.2.1)]) (hf : fX9_run_L44_44 n (κ.2.2.2 0) (κ.2.2.2 1) (κ.2.2.2 2) k3 k4 a = some r) (Kc : ∀ (v5 : Int64) (v7 : Int32) (σ1 : zS), r = .inl (v5, v7, σ1) → ∀ (H : Heap) (locs : List Loc) (ls : Array Slot), zH wC κ A s σ1 H locs → lv_has ls 9 [(0, .ref (κ.2.1 0)), (3, .int k3), (4, .int k4), (5, .long v5), (7, .int v7)] → W p l e rmX9_run s m args below meth c H locs 1 (6 * 1) Q (F0 m 44 ls [])) (Ke0 : ∀ (σ1 : zS), r = .inr (.inl σ1) → ∀ (H : Heap) (locs : List Loc) (ls : Array Slot), zH wC κ A s σ1 H locs → lv_has ls 9 [(0, .ref (κ.2.1 0)), (4, .int k4)] → W p l e rmX9_run s m args below meth c H locs 1 (6 * 1) Q (F0 m 122 ls [])) (Ke1 : ∀ (v7 : Int32) (σ1 : zS), r = .inr (.inr (v7, σ1)) → ∀ (H : Heap) (locs : List Loc) (ls : Array Slot), zH wC κ A s σ1 H locs → lv_has ls 9 [(0, .ref (κ.2.1 0)), (7, .int v7)] → W p l e rmX9_run s m args below meth c H locs 1 (6 * 1) Q (F0 m 113 ls [])) : W p l e rmX9_run s m args below meth c H locs 1 (6 * 1) Q (F0 m 44 ls []) := by
  unfold fX9_run_L44_44 at hf
  have C := CX.1
  refine lv_iload C.ex C.by dX9_run_44 (lv_at hl 4 rfl) ?_
  refine lv_iload C.ex C.by dX9_run_46 (lv_at hl 2 rfl) ?_
  refine lv_icmp_ge (tgt := 122) C.ex C.by dX9_run_48 (by decide) (fun c7 => ?_) (fun c7 => ?_)
  · have hf := zif_t c7 hf
    exact Ke0 _ (Option.some.inj hf).symm _ _ _ h (lv_sub hl [0, 2] rfl)
  · have hf := zif_f c7 hf
    refine lv_iconst (v := 0) C.ex C.by dX9_run_51 (by decide) ?_
    refine lv_istore (lv' := [(8, .int 0), (0, .ref (κ.2.1 0)), (3, .int k3), (4, .int k4), (5, .long a.1), (7, .int a.2.1)]) C.ex C.by dX9_run_52 hl (by decide) rfl (fun ls hl => ?_)
    obtain ⟨b12, e13, hf⟩ := zb_some hf
    refine wlX9_run_54 CX h (lv_sub hl [1, 2, 3, 4, 5, 0] rfl) b12 e13 ?_
    intro H locs ls h hl
    refine lv_aload_n C.ex C.by dX9_run_98 rfl (lv_at hl 0 rfl) ?_
    refine z_get (v := .ref (κ.2.1 10)) C h iwX9 0 (wC_at0 κ _) rfl 3 (by decide) lkC42 rfl dX9_run_99 ?_
    refine lv_aload_n C.ex C.by dX9_run_102 rfl (lv_at hl 0 rfl) ?_
    refine z_get (v := .ref (κ.2.1 35)) C h iwX9 0 (wC_at0 κ _) rfl 9 (by decide) lkC0 rfl dX9_run_103 ?_
    obtain ⟨q14, e15, hf⟩ := zb_some hf
    refine z_callVi (As := [.ref (κ.2.1 35)]) C h (ctX2_bring_p35 (r1 := q14.1) (r2 := q14.2) e15) (zgV lkC360 lkC361 lkC362 lkC60 lkC363) ⟨rfl, rfl⟩ hdX2_bring ⟨Nat.le_of_ble_eq_true rfl, Nat.le_of_ble_eq_true rfl⟩ 10 (wC_at10 κ _) rfl hl rfl rfl (Nat.le_of_ble_eq_true rfl) dX9_run_106 ⟨Nat.le_of_ble_eq_true rfl, Nat.le_of_ble_eq_true rfl⟩ (fun H locs h => ?_)
    refine lv_iconst (v := (-1)) C.ex C.by dX9_run_109 (by decide) ?_
    refine lv_icmp_ne (tgt := 116) C.ex C.by dX9_run_110 (by decide) (fun c16 => ?_) (fun c16 => ?_)
    · have hf := zif_f c16 hf
      refine lv_iinc (v := (a.2.1 + 1)) (lv' := [(7, .int (a.2.1 + 1)), (0, .ref (κ.2.1 0)), (3, .int k3), (4, .int k4), (5, .long b12.1)]) C.ex C.by dX9_run_116 hl (k := 4) rfl rfl (by decide) rfl (fun ls hl => ?_)
      refine lv_goto (tgt := 44) C.ex C.by dX9_run_119 (by decide) ?_
      exact Kc _ _ _ (Option.some.inj hf).symm _ _ _ h (lv_sub hl [1, 2, 3, 4, 0] rfl)
    · have hf := zif_t c16 hf
      exact Ke1 _ _ (Option.some.inj hf).symm _ _ _ h (lv_sub hl [0, 4] rfl)
theorem wlX9_run_44 {p : Program} {l : Launch} {e : Env} {s : State} {m : MethodId} {args : Array Value} {below : List Frame} {meth : Method} {c : Code} {A : Nat → Prop} {κ : zG} {H : Heap} {locs : List Loc} {ls : Array Slot} {Q : State → Prop} {n : Nat} {k3 : Int32} {k4 : Int32} {k0 : Nat} {u5 : Int64} {u7 : Int32} {σ1 : zS} (CX : zCX cX9_run 9 (some .int) RX9 κ A p l s m args meth c) (h : zH wC κ A s σ1 H locs) (hl : lv_has ls 9 [(0, .ref (κ.2.1 0)), (3, .int k3), (4, .int k4), (5, .long u5), (7, .int u7)]) (b : (zS) ⊕ (Int32 × zS)) (hb : zlp (fX9_run_L44_44 n (κ.2.2.2 0) (κ.2.2.2 1) (κ.2.2.2 2) k3 k4) k0 (u5, u7, σ1) = some b) (K : (fun b => Sum.elim (fun b : zS => ∀ (H : Heap) (locs : List Loc) (ls : Array Slot), zH wC κ A s b H locs → lv_has ls 9 [(0, .ref (κ.2.1 0)), (4, .int k4)] → W p l e rmX9_run s m args below meth c H locs 1 (6 * 1) Q (F0 m 122 ls [])) (fun b : Int32 × zS => ∀ (H : Heap) (locs : List Loc) (ls : Array Slot), zH wC κ A s b.2 H locs → lv_has ls 9 [(0, .ref (κ.2.1 0)), (7, .int b.1)] → W p l e rmX9_run s m args below meth c H locs 1 (6 * 1) Q (F0 m 113 ls [])) b) b) : W p l e rmX9_run s m args below meth c H locs 1 (6 * 1) Q (F0 m 44 ls []) :=
  z_loop (body := fX9_run_L44_44 n (κ.2.2.2 0) (κ.2.2.2 1) (κ.2.2.2 2) k3 k4) (Wd := (fun a : Int64 × Int32 × zS => ∀ (H : Heap) (locs : List Loc) (ls : Array Slot), zH wC κ A s a.2.2 H locs → lv_has ls 9 [(0, .ref (κ.2.1 0)), (3, .int k3), (4, .int k4), (5, .long a.1), (7, .int a.2.1)] → W p l e rmX9_run s m args below meth c H locs 1 (6 * 1) Q (F0 m 44 ls []))) (Ex := (fun b : (zS) ⊕ (Int32 × zS) => (fun b => Sum.elim (fun b : zS => ∀ (H : Heap) (locs : List Loc) (ls : Array Slot), zH wC κ A s b H locs → lv_has ls 9 [(0, .ref (κ.2.1 0)), (4, .int k4)] → W p l e rmX9_run s m args below meth c H locs 1 (6 * 1) Q (F0 m 122 ls [])) (fun b : Int32 × zS => ∀ (H : Heap) (locs : List Loc) (ls : Array Slot), zH wC κ A s b.2 H locs → lv_has ls 9 [(0, .ref (κ.2.1 0)), (7, .int b.1)] → W p l e rmX9_run s m args below meth c H locs 1 (6 * 1) Q (F0 m 113 ls [])) b) b)) (fun a r hr Kc Ke H locs ls h hl => wX9_run_L44_44 CX h hl hr (fun v5 v7 σ1 e => Kc (v5, v7, σ1) e) (fun σ1 e => Ke (.inl σ1) e) (fun v7 σ1 e => Ke (.inr (v7, σ1)) e)) k0 (u5, u7, σ1) b hb K H locs ls h hl
set_option maxRecDepth 20000 in
set_option maxHeartbeats 4000000 in
theorem wX9_run_24 {p : Program} {l : Launch} {e : Env} {s : State} {m : MethodId} {args : Array Value} {below : List Frame} {meth : Method} {c : Code} {A : Nat → Prop} {κ : zG} {H : Heap} {locs : List Loc} {ls : Array Slot} {n : Nat} {σ : zS} {r1 : String ⊕ Int32} {r2 : zS} (CX : zCX cX9_run 9 (some .int) RX9 κ A p l s m args meth c) (h : zH wC κ A s σ H locs) (hl : lv_has ls 9 [(0, .ref (κ.2.1 0))]) (hf : fX9_run_24 n (κ.2.2.2 0) (κ.2.2.2 1) (κ.2.2.2 2) σ = some (r1, r2)) : W p l e rmX9_run s m args below meth c H locs 0 (6 * 0) (vx_MQ below (zQti wC κ A r1 r2) (zXc wC κ A r1 r2) args s 1 (6 * 1) A) (F0 m 24 ls []) := by
  unfold fX9_run_24 at hf
  have C := CX.1
  cases hf
  exact z_throwS (k := 0) (text := "no such span or number of records") CX h (by decide) lkC347 lkC348 (by decide) (by decide) tg108 tb108 to108 hl dX9_run_24 dX9_run_27 dX9_run_28 dX9_run_30 dX9_run_33 ⟨Nat.le_of_ble_eq_true rfl, Nat.le_of_ble_eq_true rfl, Nat.le_of_ble_eq_true rfl, Nat.le_of_ble_eq_true rfl⟩ (by decide)
set_option maxRecDepth 20000 in
set_option maxHeartbeats 4000000 in
theorem wX9_run_0 {p : Program} {l : Launch} {e : Env} {s : State} {m : MethodId} {args : Array Value} {below : List Frame} {meth : Method} {c : Code} {A : Nat → Prop} {κ : zG} {H : Heap} {locs : List Loc} {ls : Array Slot} {n : Nat} {σ : zS} {x1 : Int64} {x3 : Int32} {x4 : Int32} {r1 : String ⊕ Int32} {r2 : zS} (CX : zCX cX9_run 9 (some .int) RX9 κ A p l s m args meth c) (h : zH wC κ A s σ H locs) (hl : lv_has ls 9 [(0, .ref (κ.2.1 0)), (1, .long x1), (3, .int x3), (4, .int x4)]) (hf : fX9_run_0 n (κ.2.2.2 0) (κ.2.2.2 1) (κ.2.2.2 2) σ x1 x3 x4 = some (r1, r2)) : W p l e rmX9_run s m args below meth c H locs 0 (6 * 0) (vx_MQ below (zQti wC κ A r1 r2) (zXc wC κ A r1 r2) args s 1 (6 * 1) A) (F0 m 0 ls []) := by
  unfold fX9_run_0 at hf
  have C := CX.1
  refine lv_iload_n C.ex C.by dX9_run_0 rfl (lv_at hl 2 rfl) ?_
  refine lv_iconst (v := 1) C.ex C.by dX9_run_1 (by decide) ?_
  refine lv_icmp_lt (tgt := 24) C.ex C.by dX9_run_2 (by decide) (fun c1 => ?_) (fun c1 => ?_)
  · have hf := zif_t c1 hf
    exact wX9_run_24 CX h (lv_sub hl [0] rfl) hf
  · have hf := zif_f c1 hf
    refine lv_iload_n C.ex C.by dX9_run_5 rfl (lv_at hl 2 rfl) ?_
    refine lv_ldc (v := 1000000000) C.ex C.by C.ow (C.ts _ lkC370) dX9_run_6 ?_
    refine lv_icmp_gt (tgt := 24) C.ex C.by dX9_run_8 (by decide) (fun c2 => ?_) (fun c2 => ?_)
    · have hf := zif_t c2 hf
      exact wX9_run_24 CX h (lv_sub hl [0] rfl) hf
    · have hf := zif_f c2 hf
      refine lv_iload C.ex C.by dX9_run_11 (lv_at hl 3 rfl) ?_
      refine lv_if_lt (tgt := 24) C.ex C.by dX9_run_13 (by decide) (fun c3 => ?_) (fun c3 => ?_)
      · have hf := zif_t c3 hf
        exact wX9_run_24 CX h (lv_sub hl [0] rfl) hf
      · have hf := zif_f c3 hf
        refine lv_iload C.ex C.by dX9_run_16 (lv_at hl 3 rfl) ?_
        refine lv_sipush (v := 300) C.ex C.by dX9_run_18 (by decide) ?_
        refine lv_icmp_le (tgt := 34) C.ex C.by dX9_run_21 (by decide) (fun c4 => ?_) (fun c4 => ?_)
        · have hf := zif_t c4 hf
          refine lv_aload_n C.ex C.by dX9_run_34 rfl (lv_at hl 0 rfl) ?_
          obtain ⟨q5, e6, hf⟩ := zb_some hf
          rcases q5 with E | q5
          · dsimp only [Sum.elim_inl] at hf
            cases hf
            exact z_callTv_x (k := 0) (mc' := 1) (As := []) CX h (ctX9_needPower CX.2.1 e6) (zgV lkC338 lkC339 lkC340 lkC99 lkC341) ⟨rfl, rfl⟩ hdX9_needPower ⟨Nat.le_of_ble_eq_true rfl, Nat.le_of_ble_eq_true rfl⟩ 0 (wC_at0 κ _) rfl hl rfl rfl (Nat.le_of_ble_eq_true rfl) dX9_run_35 ⟨Nat.le_of_ble_eq_true rfl, Nat.le_of_ble_eq_true rfl⟩ (by decide)
          · dsimp only [Sum.elim_inr] at hf
            refine z_callTv (k := 0) (mc' := 1) (As := []) CX h (ctX9_needPower CX.2.1 e6) (zgV lkC338 lkC339 lkC340 lkC99 lkC341) ⟨rfl, rfl⟩ hdX9_needPower ⟨Nat.le_of_ble_eq_true rfl, Nat.le_of_ble_eq_true rfl⟩ 0 (wC_at0 κ _) rfl hl rfl rfl (Nat.le_of_ble_eq_true rfl) dX9_run_35 ⟨Nat.le_of_ble_eq_true rfl, Nat.le_of_ble_eq_true rfl⟩ (fun H locs h => ?_)
            refine W.widen (k := 1) (n := 6 * 1) (by decide) (by decide) ?_
            refine lv_lload_n C.ex C.by dX9_run_38 rfl (lv_at hl 1 rfl) ?_
            refine lv_lstore (lv' := [(5, .long x1), (0, .ref (κ.2.1 0)), (1, .long x1), (3, .int x3), (4, .int x4)]) C.ex C.by dX9_run_39 hl (by decide) rfl (fun ls hl => ?_)
            refine lv_iconst (v := 0) C.ex C.by dX9_run_41 (by decide) ?_
            refine lv_istore (lv' := [(7, .int 0), (5, .long x1), (0, .ref (κ.2.1 0)), (1, .long x1), (3, .int x3), (4, .int x4)]) C.ex C.by dX9_run_42 hl (by decide) rfl (fun ls hl => ?_)
            obtain ⟨b17, e18, hf⟩ := zb_some hf
            refine wlX9_run_44 CX h (lv_sub hl [2, 4, 5, 1, 0] rfl) b17 e18 ?_
            rcases b17 with b17 | b17
            · dsimp only [Sum.elim_inl] at hf
              intro H locs ls h hl
              refine lv_iload C.ex C.by dX9_run_122 (lv_at hl 1 rfl) ?_
              cases hf
              exact z_tiret (k := 1) CX h (by decide) dX9_run_124
            · dsimp only [Sum.elim_inr] at hf
              intro H locs ls h hl
              refine lv_iload C.ex C.by dX9_run_113 (lv_at hl 1 rfl) ?_
              cases hf
              exact z_tiret (k := 1) CX h (by decide) dX9_run_115
        · have hf := zif_f c4 hf
          exact wX9_run_24 CX h (lv_sub hl [0] rfl) hf
theorem ctX9_run {l : Launch} {κ : zG} {n : Nat} {σ : zS} {x1 : Int64} {x3 : Int32} {x4 : Int32} {r1 : String ⊕ Int32} {r2 : zS} (hl9 : l.stackTraces = false) (hf : fX9_run_0 n (κ.2.2.2 0) (κ.2.2.2 1) (κ.2.2.2 2) σ x1 x3 x4 = some (r1, r2)) : zTi l yX9_run (Cond.code yX9_run cX9_run 9 (some .int)) rmX9_run wC κ [.ref (κ.2.1 0), .long x1, .int x3, .int x4] σ 1 r1 r2 :=
  zbodyX (Qz := fun A => zQti wC κ A r1 r2) (Xz := fun A => zXc wC κ A r1 r2) (by decide) (Nat.le_of_ble_eq_true rfl) hl9 (fun p e s m below meth c A C h ls hl => wX9_run_0 C h hl hf)
theorem hdX9_form : yX9_form.cls = RX9 ∧ yX9_form.cls ≠ "java/lang/invoke/MethodHandle" ∧ yX9_form.cls ≠ "java/lang/invoke/VarHandle" ∧ (parseMethodDescriptor yX9_form.desc).map (fun d => d.parameters.length) = some 1 := by decide +kernel
abbrev rmX9_form : Room := { frames := 7, cells := 2, slots := 12, locals := 168 }
set_option maxRecDepth 20000 in
set_option maxHeartbeats 4000000 in
theorem wX9_form_125 {p : Program} {l : Launch} {e : Env} {s : State} {m : MethodId} {args : Array Value} {below : List Frame} {meth : Method} {c : Code} {A : Nat → Prop} {κ : zG} {H : Heap} {locs : List Loc} {ls : Array Slot} {n : Nat} {σ : zS} {x2 : Int32} {r1 : String ⊕ Int32} {r2 : zS} (CX : zCX cX9_form 3 (some .int) RX9 κ A p l s m args meth c) (h : zH wC κ A s σ H locs) (hl : lv_has ls 3 [(0, .ref (κ.2.1 0)), (2, .int x2)]) (hf : fX9_form_125 n (κ.2.2.2 0) (κ.2.2.2 1) (κ.2.2.2 2) σ x2 = some (r1, r2)) : W p l e rmX9_form s m args below meth c H locs 1 (6 * 1) (vx_MQ below (zQti wC κ A r1 r2) (zXc wC κ A r1 r2) args s 2 (6 * 2) A) (F0 m 125 ls []) := by
  unfold fX9_form_125 at hf
  have C := CX.1
  refine lv_aload_n C.ex C.by dX9_form_125 rfl (lv_at hl 0 rfl) ?_
  refine lv_iload_n C.ex C.by dX9_form_126 rfl (lv_at hl 1 rfl) ?_
  obtain ⟨q30, e31, hf⟩ := zb_some hf
  rcases q30 with E | q30
  · dsimp only [Sum.elim_inl] at hf
    cases hf
    exact z_callTi_x (k := 1) (mc' := 1) (As := [.int x2]) CX h (ctX9_answerFor CX.2.1 e31) (zgV lkC366 lkC367 lkC368 lkC99 lkC369) ⟨rfl, rfl⟩ hdX9_answerFor ⟨Nat.le_of_ble_eq_true rfl, Nat.le_of_ble_eq_true rfl⟩ 0 (wC_at0 κ _) rfl hl rfl rfl (Nat.le_of_ble_eq_true rfl) dX9_form_127 ⟨Nat.le_of_ble_eq_true rfl, Nat.le_of_ble_eq_true rfl⟩ (by decide)
  · dsimp only [Sum.elim_inr] at hf
    refine z_callTi (k := 1) (mc' := 1) (As := [.int x2]) CX h (ctX9_answerFor CX.2.1 e31) (zgV lkC366 lkC367 lkC368 lkC99 lkC369) ⟨rfl, rfl⟩ hdX9_answerFor ⟨Nat.le_of_ble_eq_true rfl, Nat.le_of_ble_eq_true rfl⟩ 0 (wC_at0 κ _) rfl hl rfl rfl (Nat.le_of_ble_eq_true rfl) dX9_form_127 ⟨Nat.le_of_ble_eq_true rfl, Nat.le_of_ble_eq_true rfl⟩ (fun H locs h => ?_)
    refine W.widen (k := 2) (n := 6 * 2) (by decide) (by decide) ?_
    cases hf
    exact z_tiret (k := 2) CX h (by decide) dX9_form_130
set_option maxRecDepth 20000 in
set_option maxHeartbeats 4000000 in
theorem wX9_form_85 {p : Program} {l : Launch} {e : Env} {s : State} {m : MethodId} {args : Array Value} {below : List Frame} {meth : Method} {c : Code} {A : Nat → Prop} {κ : zG} {H : Heap} {locs : List Loc} {ls : Array Slot} {n : Nat} {σ : zS} {y0 : Int32} {r1 : String ⊕ Int32} {r2 : zS} (CX : zCX cX9_form 3 (some .int) RX9 κ A p l s m args meth c) (h : zH wC κ A s σ H locs) (hl : lv_has ls 3 [(0, .ref (κ.2.1 0))]) (hf : fX9_form_85 n (κ.2.2.2 0) (κ.2.2.2 1) (κ.2.2.2 2) σ y0 = some (r1, r2)) : W p l e rmX9_form s m args below meth c H locs 1 (6 * 1) (vx_MQ below (zQti wC κ A r1 r2) (zXc wC κ A r1 r2) args s 2 (6 * 2) A) (F0 m 85 ls [.int y0]) := by
  unfold fX9_form_85 at hf
  have C := CX.1
  refine lv_istore_n (lv' := [(2, .int y0), (0, .ref (κ.2.1 0))]) C.ex C.by dX9_form_85 rfl hl (by decide) rfl (fun ls hl => ?_)
  refine lv_iload_n C.ex C.by dX9_form_86 rfl (lv_at hl 0 rfl) ?_
  refine lv_if_eq (tgt := 111) C.ex C.by dX9_form_87 (by decide) (fun c21 => ?_) (fun c21 => ?_)
  · have hf := zif_t c21 hf
    refine lv_aload_n C.ex C.by dX9_form_111 rfl (lv_at hl 1 rfl) ?_
    refine z_get (v := .ref (κ.2.1 14)) C h iwX9 0 (wC_at0 κ _) rfl 4 (by decide) lkC101 rfl dX9_form_112 ?_
    obtain ⟨q22, e23, hf⟩ := zb_some hf
    refine z_callVv (As := []) C h (ctX7_undoStep e23) (zgV lkC390 lkC255 lkC256 lkC121 lkC257) ⟨rfl, rfl⟩ hdX7_undoStep ⟨Nat.le_of_ble_eq_true rfl, Nat.le_of_ble_eq_true rfl⟩ 14 (wC_at14 κ _) rfl hl rfl rfl (Nat.le_of_ble_eq_true rfl) dX9_form_115 ⟨Nat.le_of_ble_eq_true rfl, Nat.le_of_ble_eq_true rfl⟩ (fun H locs h => ?_)
    refine lv_aload_n C.ex C.by dX9_form_118 rfl (lv_at hl 1 rfl) ?_
    refine z_get (v := .ref (κ.2.1 10)) C h iwX9 0 (wC_at0 κ _) rfl 3 (by decide) lkC42 rfl dX9_form_119 ?_
    obtain ⟨q24, e25, hf⟩ := zb_some hf
    refine z_callVv (As := []) C h (ctX2_undoOpen e25) (zgV lkC391 lkC392 lkC393 lkC60 lkC394) ⟨rfl, rfl⟩ hdX2_undoOpen ⟨Nat.le_of_ble_eq_true rfl, Nat.le_of_ble_eq_true rfl⟩ 10 (wC_at10 κ _) rfl hl rfl rfl (Nat.le_of_ble_eq_true rfl) dX9_form_122 ⟨Nat.le_of_ble_eq_true rfl, Nat.le_of_ble_eq_true rfl⟩ (fun H locs h => ?_)
    exact wX9_form_125 CX h (lv_sub hl [1, 0] rfl) hf
  · have hf := zif_f c21 hf
    refine lv_aload_n C.ex C.by dX9_form_90 rfl (lv_at hl 1 rfl) ?_
    refine z_get (v := .ref (κ.2.1 10)) C h iwX9 0 (wC_at0 κ _) rfl 3 (by decide) lkC42 rfl dX9_form_91 ?_
    obtain ⟨q26, e27, hf⟩ := zb_some hf
    refine z_callVv (As := []) C h (ctX2_removeAll e27) (zgV lkC395 lkC396 lkC397 lkC60 lkC398) ⟨rfl, rfl⟩ hdX2_removeAll ⟨Nat.le_of_ble_eq_true rfl, Nat.le_of_ble_eq_true rfl⟩ 10 (wC_at10 κ _) rfl hl rfl rfl (Nat.le_of_ble_eq_true rfl) dX9_form_94 ⟨Nat.le_of_ble_eq_true rfl, Nat.le_of_ble_eq_true rfl⟩ (fun H locs h => ?_)
    refine lv_aload_n C.ex C.by dX9_form_97 rfl (lv_at hl 1 rfl) ?_
    refine z_get (v := .ref (κ.2.1 14)) C h iwX9 0 (wC_at0 κ _) rfl 4 (by decide) lkC101 rfl dX9_form_98 ?_
    refine lv_aload_n C.ex C.by dX9_form_101 rfl (lv_at hl 1 rfl) ?_
    refine z_get (v := .ref (κ.2.1 33)) C h iwX9 0 (wC_at0 κ _) rfl 8 (by decide) lkC180 rfl dX9_form_102 ?_
    obtain ⟨q28, e29, hf⟩ := zb_some hf
    refine z_callVv (As := [.ref (κ.2.1 33)]) C h (ctX7_addNewRuns_p33 e29) (zgV lkC399 lkC400 lkC401 lkC121 lkC402) ⟨rfl, rfl⟩ hdX7_addNewRuns ⟨Nat.le_of_ble_eq_true rfl, Nat.le_of_ble_eq_true rfl⟩ 14 (wC_at14 κ _) rfl hl rfl rfl (Nat.le_of_ble_eq_true rfl) dX9_form_105 ⟨Nat.le_of_ble_eq_true rfl, Nat.le_of_ble_eq_true rfl⟩ (fun H locs h => ?_)
    refine lv_goto (tgt := 125) C.ex C.by dX9_form_108 (by decide) ?_
    exact wX9_form_125 CX h (lv_sub hl [1, 0] rfl) hf
set_option maxRecDepth 20000 in
set_option maxHeartbeats 4000000 in
theorem wX9_form_84 {p : Program} {l : Launch} {e : Env} {s : State} {m : MethodId} {args : Array Value} {below : List Frame} {meth : Method} {c : Code} {A : Nat → Prop} {κ : zG} {H : Heap} {locs : List Loc} {ls : Array Slot} {n : Nat} {σ : zS} {r1 : String ⊕ Int32} {r2 : zS} (CX : zCX cX9_form 3 (some .int) RX9 κ A p l s m args meth c) (h : zH wC κ A s σ H locs) (hl : lv_has ls 3 [(0, .ref (κ.2.1 0))]) (hf : fX9_form_84 n (κ.2.2.2 0) (κ.2.2.2 1) (κ.2.2.2 2) σ = some (r1, r2)) : W p l e rmX9_form s m args below meth c H locs 1 (6 * 1) (vx_MQ below (zQti wC κ A r1 r2) (zXc wC κ A r1 r2) args s 2 (6 * 2) A) (F0 m 84 ls []) := by
  unfold fX9_form_84 at hf
  have C := CX.1
  refine lv_iconst (v := 0) C.ex C.by dX9_form_84 (by decide) ?_
  exact wX9_form_85 CX h hl hf
set_option maxRecDepth 20000 in
set_option maxHeartbeats 4000000 in
theorem wX9_form_80 {p : Program} {l : Launch} {e : Env} {s : State} {m : MethodId} {args : Array Value} {below : List Frame} {meth : Method} {c : Code} {A : Nat → Prop} {κ : zG} {H : Heap} {locs : List Loc} {ls : Array Slot} {n : Nat} {σ : zS} {r1 : String ⊕ Int32} {r2 : zS} (CX : zCX cX9_form 3 (some .int) RX9 κ A p l s m args meth c) (h : zH wC κ A s σ H locs) (hl : lv_has ls 3 [(0, .ref (κ.2.1 0))]) (hf : fX9_form_80 n (κ.2.2.2 0) (κ.2.2.2 1) (κ.2.2.2 2) σ = some (r1, r2)) : W p l e rmX9_form s m args below meth c H locs 1 (6 * 1) (vx_MQ below (zQti wC κ A r1 r2) (zXc wC κ A r1 r2) args s 2 (6 * 2) A) (F0 m 80 ls []) := by
  unfold fX9_form_80 at hf
  have C := CX.1
  refine lv_iconst (v := 1) C.ex C.by dX9_form_80 (by decide) ?_
  refine lv_goto (tgt := 85) C.ex C.by dX9_form_81 (by decide) ?_
  exact wX9_form_85 CX h hl hf
set_option maxRecDepth 20000 in
set_option maxHeartbeats 4000000 in
theorem wX9_form_9 {p : Program} {l : Launch} {e : Env} {s : State} {m : MethodId} {args : Array Value} {below : List Frame} {meth : Method} {c : Code} {A : Nat → Prop} {κ : zG} {H : Heap} {locs : List Loc} {ls : Array Slot} {n : Nat} {σ : zS} {r1 : String ⊕ Int32} {r2 : zS} (CX : zCX cX9_form 3 (some .int) RX9 κ A p l s m args meth c) (h : zH wC κ A s σ H locs) (hl : lv_has ls 3 [(0, .ref (κ.2.1 0))]) (hf : fX9_form_9 n (κ.2.2.2 0) (κ.2.2.2 1) (κ.2.2.2 2) σ = some (r1, r2)) : W p l e rmX9_form s m args below meth c H locs 0 (6 * 0) (vx_MQ below (zQti wC κ A r1 r2) (zXc wC κ A r1 r2) args s 2 (6 * 2) A) (F0 m 9 ls []) := by
  unfold fX9_form_9 at hf
  have C := CX.1
  cases hf
  exact z_throwS (k := 0) (text := "no such way") CX h (by decide) lkC347 lkC348 (by decide) (by decide) tg108 tb108 to108 hl dX9_form_9 dX9_form_12 dX9_form_13 dX9_form_15 dX9_form_18 ⟨Nat.le_of_ble_eq_true rfl, Nat.le_of_ble_eq_true rfl, Nat.le_of_ble_eq_true rfl, Nat.le_of_ble_eq_true rfl⟩ (by decide)
set_option maxRecDepth 20000 in
set_option maxHeartbeats 4000000 in
theorem wX9_form_0 {p : Program} {l : Launch} {e : Env} {s : State} {m : MethodId} {args : Array Value} {below : List Frame} {meth : Method} {c : Code} {A : Nat → Prop} {κ : zG} {H : Heap} {locs : List Loc} {ls : Array Slot} {n : Nat} {σ : zS} {x1 : Int32} {r1 : String ⊕ Int32} {r2 : zS} (CX : zCX cX9_form 3 (some .int) RX9 κ A p l s m args meth c) (h : zH wC κ A s σ H locs) (hl : lv_has ls 3 [(0, .ref (κ.2.1 0)), (1, .int x1)]) (hf : fX9_form_0 n (κ.2.2.2 0) (κ.2.2.2 1) (κ.2.2.2 2) σ x1 = some (r1, r2)) : W p l e rmX9_form s m args below meth c H locs 0 (6 * 0) (vx_MQ below (zQti wC κ A r1 r2) (zXc wC κ A r1 r2) args s 2 (6 * 2) A) (F0 m 0 ls []) := by
  unfold fX9_form_0 at hf
  have C := CX.1
  refine lv_iload_n C.ex C.by dX9_form_0 rfl (lv_at hl 1 rfl) ?_
  refine lv_if_lt (tgt := 9) C.ex C.by dX9_form_1 (by decide) (fun c1 => ?_) (fun c1 => ?_)
  · have hf := zif_t c1 hf
    exact wX9_form_9 CX h (lv_sub hl [0] rfl) hf
  · have hf := zif_f c1 hf
    refine lv_iload_n C.ex C.by dX9_form_4 rfl (lv_at hl 1 rfl) ?_
    refine lv_iconst (v := 2) C.ex C.by dX9_form_5 (by decide) ?_
    refine lv_icmp_le (tgt := 19) C.ex C.by dX9_form_6 (by decide) (fun c2 => ?_) (fun c2 => ?_)
    · have hf := zif_t c2 hf
      refine lv_aload_n C.ex C.by dX9_form_19 rfl (lv_at hl 0 rfl) ?_
      obtain ⟨q3, e4, hf⟩ := zb_some hf
      rcases q3 with E | q3
      · dsimp only [Sum.elim_inl] at hf
        cases hf
        exact z_callTv_x (k := 0) (mc' := 1) (As := []) CX h (ctX9_needPower CX.2.1 e4) (zgV lkC338 lkC339 lkC340 lkC99 lkC341) ⟨rfl, rfl⟩ hdX9_needPower ⟨Nat.le_of_ble_eq_true rfl, Nat.le_of_ble_eq_true rfl⟩ 0 (wC_at0 κ _) rfl hl rfl rfl (Nat.le_of_ble_eq_true rfl) dX9_form_20 ⟨Nat.le_of_ble_eq_true rfl, Nat.le_of_ble_eq_true rfl⟩ (by decide)
      · dsimp only [Sum.elim_inr] at hf
        refine z_callTv (k := 0) (mc' := 1) (As := []) CX h (ctX9_needPower CX.2.1 e4) (zgV lkC338 lkC339 lkC340 lkC99 lkC341) ⟨rfl, rfl⟩ hdX9_needPower ⟨Nat.le_of_ble_eq_true rfl, Nat.le_of_ble_eq_true rfl⟩ 0 (wC_at0 κ _) rfl hl rfl rfl (Nat.le_of_ble_eq_true rfl) dX9_form_20 ⟨Nat.le_of_ble_eq_true rfl, Nat.le_of_ble_eq_true rfl⟩ (fun H locs h => ?_)
        refine W.widen (k := 1) (n := 6 * 1) (by decide) (by decide) ?_
        refine lv_aload_n C.ex C.by dX9_form_23 rfl (lv_at hl 0 rfl) ?_
        refine z_get (v := .ref (κ.2.1 14)) C h iwX9 0 (wC_at0 κ _) rfl 4 (by decide) lkC101 rfl dX9_form_24 ?_
        refine lv_aload_n C.ex C.by dX9_form_27 rfl (lv_at hl 0 rfl) ?_
        refine z_get (v := .int (zI σ 0)) C h iwX9 0 (wC_at0 κ _) rfl 12 (by decide) lkC195 rfl dX9_form_28 ?_
        obtain ⟨q5, e6, hf⟩ := zb_some hf
        refine z_callVv (As := [.int (zI σ 0)]) C h (ctX7_beginStep e6) (zgV lkC373 lkC207 lkC208 lkC121 lkC209) ⟨rfl, rfl⟩ hdX7_beginStep ⟨Nat.le_of_ble_eq_true rfl, Nat.le_of_ble_eq_true rfl⟩ 14 (wC_at14 κ _) rfl hl rfl rfl (Nat.le_of_ble_eq_true rfl) dX9_form_31 ⟨Nat.le_of_ble_eq_true rfl, Nat.le_of_ble_eq_true rfl⟩ (fun H locs h => ?_)
        refine lv_aload_n C.ex C.by dX9_form_34 rfl (lv_at hl 0 rfl) ?_
        refine z_get (v := .ref (κ.2.1 10)) C h iwX9 0 (wC_at0 κ _) rfl 3 (by decide) lkC42 rfl dX9_form_35 ?_
        obtain ⟨q7, e8, hf⟩ := zb_some hf
        refine z_callVi (As := []) C h (ctX2_open (r1 := q7.1) (r2 := q7.2) e8) (zgV lkC374 lkC375 lkC376 lkC60 lkC377) ⟨rfl, rfl⟩ hdX2_open ⟨Nat.le_of_ble_eq_true rfl, Nat.le_of_ble_eq_true rfl⟩ 10 (wC_at10 κ _) rfl hl rfl rfl (Nat.le_of_ble_eq_true rfl) dX9_form_38 ⟨Nat.le_of_ble_eq_true rfl, Nat.le_of_ble_eq_true rfl⟩ (fun H locs h => ?_)
        refine lv_if_eq (tgt := 84) C.ex C.by dX9_form_41 (by decide) (fun c9 => ?_) (fun c9 => ?_)
        · have hf := zif_t c9 hf
          exact wX9_form_84 CX h (lv_sub hl [0] rfl) hf
        · have hf := zif_f c9 hf
          refine lv_iload_n C.ex C.by dX9_form_44 rfl (lv_at hl 1 rfl) ?_
          refine lv_if_ne (tgt := 58) C.ex C.by dX9_form_45 (by decide) (fun c10 => ?_) (fun c10 => ?_)
          · have hf := zif_f c10 hf
            refine lv_iload_n C.ex C.by dX9_form_58 rfl (lv_at hl 1 rfl) ?_
            refine lv_iconst (v := 1) C.ex C.by dX9_form_59 (by decide) ?_
            refine lv_icmp_ne (tgt := 73) C.ex C.by dX9_form_60 (by decide) (fun c11 => ?_) (fun c11 => ?_)
            · have hf := zif_f c11 hf
              refine lv_aload_n C.ex C.by dX9_form_73 rfl (lv_at hl 0 rfl) ?_
              obtain ⟨q12, e13, hf⟩ := zb_some hf
              refine z_callVi (As := []) C h (ctX9_copyRuns (r1 := q12.1) (r2 := q12.2) e13) (zgV lkC378 lkC379 lkC380 lkC99 lkC381) ⟨rfl, rfl⟩ hdX9_copyRuns ⟨Nat.le_of_ble_eq_true rfl, Nat.le_of_ble_eq_true rfl⟩ 0 (wC_at0 κ _) rfl hl rfl rfl (Nat.le_of_ble_eq_true rfl) dX9_form_74 ⟨Nat.le_of_ble_eq_true rfl, Nat.le_of_ble_eq_true rfl⟩ (fun H locs h => ?_)
              refine lv_if_eq (tgt := 84) C.ex C.by dX9_form_77 (by decide) (fun c14 => ?_) (fun c14 => ?_)
              · have hf := zif_t c14 hf
                exact wX9_form_84 CX h (lv_sub hl [0] rfl) hf
              · have hf := zif_f c14 hf
                exact wX9_form_80 CX h (lv_sub hl [0] rfl) hf
            · have hf := zif_t c11 hf
              refine lv_aload_n C.ex C.by dX9_form_63 rfl (lv_at hl 0 rfl) ?_
              obtain ⟨q15, e16, hf⟩ := zb_some hf
              refine z_callVi (As := []) C h (ctX9_chooseRuns (r1 := q15.1) (r2 := q15.2) e16) (zgV lkC382 lkC383 lkC384 lkC99 lkC385) ⟨rfl, rfl⟩ hdX9_chooseRuns ⟨Nat.le_of_ble_eq_true rfl, Nat.le_of_ble_eq_true rfl⟩ 0 (wC_at0 κ _) rfl hl rfl rfl (Nat.le_of_ble_eq_true rfl) dX9_form_64 ⟨Nat.le_of_ble_eq_true rfl, Nat.le_of_ble_eq_true rfl⟩ (fun H locs h => ?_)
              refine lv_if_eq (tgt := 84) C.ex C.by dX9_form_67 (by decide) (fun c17 => ?_) (fun c17 => ?_)
              · have hf := zif_t c17 hf
                exact wX9_form_84 CX h (lv_sub hl [0] rfl) hf
              · have hf := zif_f c17 hf
                refine lv_goto (tgt := 80) C.ex C.by dX9_form_70 (by decide) ?_
                exact wX9_form_80 CX h (lv_sub hl [0] rfl) hf
          · have hf := zif_t c10 hf
            refine lv_aload_n C.ex C.by dX9_form_48 rfl (lv_at hl 0 rfl) ?_
            obtain ⟨q18, e19, hf⟩ := zb_some hf
            refine z_callVi (As := []) C h (ctX9_loadRuns (r1 := q18.1) (r2 := q18.2) e19) (zgV lkC386 lkC387 lkC388 lkC99 lkC389) ⟨rfl, rfl⟩ hdX9_loadRuns ⟨Nat.le_of_ble_eq_true rfl, Nat.le_of_ble_eq_true rfl⟩ 0 (wC_at0 κ _) rfl hl rfl rfl (Nat.le_of_ble_eq_true rfl) dX9_form_49 ⟨Nat.le_of_ble_eq_true rfl, Nat.le_of_ble_eq_true rfl⟩ (fun H locs h => ?_)
            refine lv_if_eq (tgt := 84) C.ex C.by dX9_form_52 (by decide) (fun c20 => ?_) (fun c20 => ?_)
            · have hf := zif_t c20 hf
              exact wX9_form_84 CX h (lv_sub hl [0] rfl) hf
            · have hf := zif_f c20 hf
              refine lv_goto (tgt := 80) C.ex C.by dX9_form_55 (by decide) ?_
              exact wX9_form_80 CX h (lv_sub hl [0] rfl) hf
    · have hf := zif_f c2 hf
      exact wX9_form_9 CX h (lv_sub hl [0] rfl) hf
theorem ctX9_form {l : Launch} {κ : zG} {n : Nat} {σ : zS} {x1 : Int32} {r1 : String ⊕ Int32} {r2 : zS} (hl9 : l.stackTraces = false) (hf : fX9_form_0 n (κ.2.2.2 0) (κ.2.2.2 1) (κ.2.2.2 2) σ x1 = some (r1, r2)) : zTi l yX9_form (Cond.code yX9_form cX9_form 3 (some .int)) rmX9_form wC κ [.ref (κ.2.1 0), .int x1] σ 2 r1 r2 :=
  zbodyX (Qz := fun A => zQti wC κ A r1 r2) (Xz := fun A => zXc wC κ A r1 r2) (by decide) (Nat.le_of_ble_eq_true rfl) hl9 (fun p e s m below meth c A C h ls hl => wX9_form_0 C h hl hf)
theorem hdX9_needFan : yX9_needFan.cls = RX9 ∧ yX9_needFan.cls ≠ "java/lang/invoke/MethodHandle" ∧ yX9_needFan.cls ≠ "java/lang/invoke/VarHandle" ∧ (parseMethodDescriptor yX9_needFan.desc).map (fun d => d.parameters.length) = some 1 := by decide +kernel
abbrev rmX9_needFan : Room := { frames := 6, cells := 1, slots := 6, locals := 82 }
set_option maxRecDepth 20000 in
set_option maxHeartbeats 4000000 in
theorem wX9_needFan_11 {p : Program} {l : Launch} {e : Env} {s : State} {m : MethodId} {args : Array Value} {below : List Frame} {meth : Method} {c : Code} {A : Nat → Prop} {κ : zG} {H : Heap} {locs : List Loc} {ls : Array Slot} {n : Nat} {σ : zS} {r : (String ⊕ Unit)} (CX : zCX cX9_needFan 2 none RX9 κ A p l s m args meth c) (h : zH wC κ A s σ H locs) (hl : lv_has ls 2 [(0, .ref (κ.2.1 0))]) (hf : fX9_needFan_11 n (κ.2.2.2 0) (κ.2.2.2 1) (κ.2.2.2 2) σ = some r) : W p l e rmX9_needFan s m args below meth c H locs 0 (6 * 0) (vx_MQ below (zQtv wC κ A r σ) (zXc wC κ A r σ) args s 1 (6 * 1) A) (F0 m 11 ls []) := by
  unfold fX9_needFan_11 at hf
  have C := CX.1
  cases hf
  exact z_throwSW (k := 0) (text := "a fan is 2 to 8") CX h (by decide) lkC347 lkC348 (by decide) (by decide) tg108 tb108 to108 hl dX9_needFan_11 dX9_needFan_14 dX9_needFan_15 dX9_needFan_18 dX9_needFan_21 ⟨Nat.le_of_ble_eq_true rfl, Nat.le_of_ble_eq_true rfl, Nat.le_of_ble_eq_true rfl, Nat.le_of_ble_eq_true rfl⟩ (by decide)
set_option maxRecDepth 20000 in
set_option maxHeartbeats 4000000 in
theorem wX9_needFan_0 {p : Program} {l : Launch} {e : Env} {s : State} {m : MethodId} {args : Array Value} {below : List Frame} {meth : Method} {c : Code} {A : Nat → Prop} {κ : zG} {H : Heap} {locs : List Loc} {ls : Array Slot} {n : Nat} {σ : zS} {x1 : Int32} {r : (String ⊕ Unit)} (CX : zCX cX9_needFan 2 none RX9 κ A p l s m args meth c) (h : zH wC κ A s σ H locs) (hl : lv_has ls 2 [(0, .ref (κ.2.1 0)), (1, .int x1)]) (hf : fX9_needFan_0 n (κ.2.2.2 0) (κ.2.2.2 1) (κ.2.2.2 2) σ x1 = some r) : W p l e rmX9_needFan s m args below meth c H locs 0 (6 * 0) (vx_MQ below (zQtv wC κ A r σ) (zXc wC κ A r σ) args s 1 (6 * 1) A) (F0 m 0 ls []) := by
  unfold fX9_needFan_0 at hf
  have C := CX.1
  refine lv_iload_n C.ex C.by dX9_needFan_0 rfl (lv_at hl 1 rfl) ?_
  refine lv_iconst (v := 2) C.ex C.by dX9_needFan_1 (by decide) ?_
  refine lv_icmp_lt (tgt := 11) C.ex C.by dX9_needFan_2 (by decide) (fun c1 => ?_) (fun c1 => ?_)
  · have hf := zif_t c1 hf
    exact wX9_needFan_11 CX h (lv_sub hl [0] rfl) hf
  · have hf := zif_f c1 hf
    refine lv_iload_n C.ex C.by dX9_needFan_5 rfl (lv_at hl 1 rfl) ?_
    refine lv_bipush (v := 8) C.ex C.by dX9_needFan_6 (by decide) ?_
    refine lv_icmp_le (tgt := 22) C.ex C.by dX9_needFan_8 (by decide) (fun c2 => ?_) (fun c2 => ?_)
    · have hf := zif_t c2 hf
      cases hf
      exact z_tvret (k := 0) CX h (by decide) dX9_needFan_22
    · have hf := zif_f c2 hf
      exact wX9_needFan_11 CX h (lv_sub hl [0] rfl) hf
theorem ctX9_needFan {l : Launch} {κ : zG} {n : Nat} {σ : zS} {x1 : Int32} {r : (String ⊕ Unit)} (hl9 : l.stackTraces = false) (hf : fX9_needFan_0 n (κ.2.2.2 0) (κ.2.2.2 1) (κ.2.2.2 2) σ x1 = some r) : zTv l yX9_needFan (Cond.code yX9_needFan cX9_needFan 2 none) rmX9_needFan wC κ [.ref (κ.2.1 0), .int x1] σ 1 r σ :=
  zbodyX (Qz := fun A => zQtv wC κ A r σ) (Xz := fun A => zXc wC κ A r σ) (by decide) (Nat.le_of_ble_eq_true rfl) hl9 (fun p e s m below meth c A C h ls hl => wX9_needFan_0 C h hl hf)
theorem hdX9_pass : yX9_pass.cls = RX9 ∧ yX9_pass.cls ≠ "java/lang/invoke/MethodHandle" ∧ yX9_pass.cls ≠ "java/lang/invoke/VarHandle" ∧ (parseMethodDescriptor yX9_pass.desc).map (fun d => d.parameters.length) = some 1 := by decide +kernel
abbrev rmX9_pass : Room := { frames := 7, cells := 3, slots := 18, locals := 159 }
set_option maxRecDepth 20000 in
set_option maxHeartbeats 4000000 in
theorem wX9_pass_0 {p : Program} {l : Launch} {e : Env} {s : State} {m : MethodId} {args : Array Value} {below : List Frame} {meth : Method} {c : Code} {A : Nat → Prop} {κ : zG} {H : Heap} {locs : List Loc} {ls : Array Slot} {n : Nat} {σ : zS} {x1 : Int32} {r1 : String ⊕ Int32} {r2 : zS} (CX : zCX cX9_pass 2 (some .int) RX9 κ A p l s m args meth c) (h : zH wC κ A s σ H locs) (hl : lv_has ls 2 [(0, .ref (κ.2.1 0)), (1, .int x1)]) (hf : fX9_pass_0 n (κ.2.2.2 0) (κ.2.2.2 1) (κ.2.2.2 2) σ x1 = some (r1, r2)) : W p l e rmX9_pass s m args below meth c H locs 0 (6 * 0) (vx_MQ below (zQti wC κ A r1 r2) (zXc wC κ A r1 r2) args s 3 (6 * 3) A) (F0 m 0 ls []) := by
  unfold fX9_pass_0 at hf
  have C := CX.1
  refine lv_aload_n C.ex C.by dX9_pass_0 rfl (lv_at hl 0 rfl) ?_
  refine lv_iload_n C.ex C.by dX9_pass_1 rfl (lv_at hl 1 rfl) ?_
  obtain ⟨q1, e2, hf⟩ := zb_some hf
  rcases q1 with E | q1
  · dsimp only [Sum.elim_inl] at hf
    cases hf
    exact z_callTv_x (k := 0) (mc' := 1) (As := [.int x1]) CX h (ctX9_needFan CX.2.1 e2) (zgV lkC403 lkC404 lkC405 lkC99 lkC406) ⟨rfl, rfl⟩ hdX9_needFan ⟨Nat.le_of_ble_eq_true rfl, Nat.le_of_ble_eq_true rfl⟩ 0 (wC_at0 κ _) rfl hl rfl rfl (Nat.le_of_ble_eq_true rfl) dX9_pass_2 ⟨Nat.le_of_ble_eq_true rfl, Nat.le_of_ble_eq_true rfl⟩ (by decide)
  · dsimp only [Sum.elim_inr] at hf
    refine z_callTv (k := 0) (mc' := 1) (As := [.int x1]) CX h (ctX9_needFan CX.2.1 e2) (zgV lkC403 lkC404 lkC405 lkC99 lkC406) ⟨rfl, rfl⟩ hdX9_needFan ⟨Nat.le_of_ble_eq_true rfl, Nat.le_of_ble_eq_true rfl⟩ 0 (wC_at0 κ _) rfl hl rfl rfl (Nat.le_of_ble_eq_true rfl) dX9_pass_2 ⟨Nat.le_of_ble_eq_true rfl, Nat.le_of_ble_eq_true rfl⟩ (fun H locs h => ?_)
    refine W.widen (k := 1) (n := 6 * 1) (by decide) (by decide) ?_
    refine lv_aload_n C.ex C.by dX9_pass_5 rfl (lv_at hl 0 rfl) ?_
    obtain ⟨q3, e4, hf⟩ := zb_some hf
    rcases q3 with E | q3
    · dsimp only [Sum.elim_inl] at hf
      cases hf
      exact z_callTv_x (k := 1) (mc' := 1) (As := []) CX h (ctX9_needPower CX.2.1 e4) (zgV lkC338 lkC339 lkC340 lkC99 lkC341) ⟨rfl, rfl⟩ hdX9_needPower ⟨Nat.le_of_ble_eq_true rfl, Nat.le_of_ble_eq_true rfl⟩ 0 (wC_at0 κ _) rfl hl rfl rfl (Nat.le_of_ble_eq_true rfl) dX9_pass_6 ⟨Nat.le_of_ble_eq_true rfl, Nat.le_of_ble_eq_true rfl⟩ (by decide)
    · dsimp only [Sum.elim_inr] at hf
      refine z_callTv (k := 1) (mc' := 1) (As := []) CX h (ctX9_needPower CX.2.1 e4) (zgV lkC338 lkC339 lkC340 lkC99 lkC341) ⟨rfl, rfl⟩ hdX9_needPower ⟨Nat.le_of_ble_eq_true rfl, Nat.le_of_ble_eq_true rfl⟩ 0 (wC_at0 κ _) rfl hl rfl rfl (Nat.le_of_ble_eq_true rfl) dX9_pass_6 ⟨Nat.le_of_ble_eq_true rfl, Nat.le_of_ble_eq_true rfl⟩ (fun H locs h => ?_)
      refine W.widen (k := 2) (n := 6 * 2) (by decide) (by decide) ?_
      refine lv_aload_n C.ex C.by dX9_pass_9 rfl (lv_at hl 0 rfl) ?_
      refine lv_aload_n C.ex C.by dX9_pass_10 rfl (lv_at hl 0 rfl) ?_
      refine lv_iload_n C.ex C.by dX9_pass_11 rfl (lv_at hl 1 rfl) ?_
      obtain ⟨q5, e6, hf⟩ := zb_some hf
      refine z_callVi (As := [.int x1]) C h (ctX9_mergeInGroups (r1 := q5.1) (r2 := q5.2) e6) (zgV lkC407 lkC408 lkC409 lkC99 lkC410) ⟨rfl, rfl⟩ hdX9_mergeInGroups ⟨Nat.le_of_ble_eq_true rfl, Nat.le_of_ble_eq_true rfl⟩ 0 (wC_at0 κ _) rfl hl rfl rfl (Nat.le_of_ble_eq_true rfl) dX9_pass_12 ⟨Nat.le_of_ble_eq_true rfl, Nat.le_of_ble_eq_true rfl⟩ (fun H locs h => ?_)
      obtain ⟨q7, e8, hf⟩ := zb_some hf
      rcases q7 with E | q7
      · dsimp only [Sum.elim_inl] at hf
        cases hf
        exact z_callTi_x (k := 2) (mc' := 1) (As := [.int q5.1]) CX h (ctX9_answerFor CX.2.1 e8) (zgV lkC366 lkC367 lkC368 lkC99 lkC369) ⟨rfl, rfl⟩ hdX9_answerFor ⟨Nat.le_of_ble_eq_true rfl, Nat.le_of_ble_eq_true rfl⟩ 0 (wC_at0 κ _) rfl hl rfl rfl (Nat.le_of_ble_eq_true rfl) dX9_pass_15 ⟨Nat.le_of_ble_eq_true rfl, Nat.le_of_ble_eq_true rfl⟩ (by decide)
      · dsimp only [Sum.elim_inr] at hf
        refine z_callTi (k := 2) (mc' := 1) (As := [.int q5.1]) CX h (ctX9_answerFor CX.2.1 e8) (zgV lkC366 lkC367 lkC368 lkC99 lkC369) ⟨rfl, rfl⟩ hdX9_answerFor ⟨Nat.le_of_ble_eq_true rfl, Nat.le_of_ble_eq_true rfl⟩ 0 (wC_at0 κ _) rfl hl rfl rfl (Nat.le_of_ble_eq_true rfl) dX9_pass_15 ⟨Nat.le_of_ble_eq_true rfl, Nat.le_of_ble_eq_true rfl⟩ (fun H locs h => ?_)
        refine W.widen (k := 3) (n := 6 * 3) (by decide) (by decide) ?_
        cases hf
        exact z_tiret (k := 3) CX h (by decide) dX9_pass_18
theorem ctX9_pass {l : Launch} {κ : zG} {n : Nat} {σ : zS} {x1 : Int32} {r1 : String ⊕ Int32} {r2 : zS} (hl9 : l.stackTraces = false) (hf : fX9_pass_0 n (κ.2.2.2 0) (κ.2.2.2 1) (κ.2.2.2 2) σ x1 = some (r1, r2)) : zTi l yX9_pass (Cond.code yX9_pass cX9_pass 2 (some .int)) rmX9_pass wC κ [.ref (κ.2.1 0), .int x1] σ 3 r1 r2 :=
  zbodyX (Qz := fun A => zQti wC κ A r1 r2) (Xz := fun A => zXc wC κ A r1 r2) (by decide) (Nat.le_of_ble_eq_true rfl) hl9 (fun p e s m below meth c A C h ls hl => wX9_pass_0 C h hl hf)
theorem hdX9_best : yX9_best.cls = RX9 ∧ yX9_best.cls ≠ "java/lang/invoke/MethodHandle" ∧ yX9_best.cls ≠ "java/lang/invoke/VarHandle" ∧ (parseMethodDescriptor yX9_best.desc).map (fun d => d.parameters.length) = some 1 := by decide +kernel
abbrev rmX9_best : Room := { frames := 7, cells := 3, slots := 18, locals := 161 }
set_option maxRecDepth 20000 in
set_option maxHeartbeats 4000000 in
theorem wX9_best_0 {p : Program} {l : Launch} {e : Env} {s : State} {m : MethodId} {args : Array Value} {below : List Frame} {meth : Method} {c : Code} {A : Nat → Prop} {κ : zG} {H : Heap} {locs : List Loc} {ls : Array Slot} {n : Nat} {σ : zS} {x1 : Int32} {r1 : String ⊕ Int32} {r2 : zS} (CX : zCX cX9_best 2 (some .int) RX9 κ A p l s m args meth c) (h : zH wC κ A s σ H locs) (hl : lv_has ls 2 [(0, .ref (κ.2.1 0)), (1, .int x1)]) (hf : fX9_best_0 n (κ.2.2.2 0) (κ.2.2.2 1) (κ.2.2.2 2) σ x1 = some (r1, r2)) : W p l e rmX9_best s m args below meth c H locs 0 (6 * 0) (vx_MQ below (zQti wC κ A r1 r2) (zXc wC κ A r1 r2) args s 3 (6 * 3) A) (F0 m 0 ls []) := by
  unfold fX9_best_0 at hf
  have C := CX.1
  refine lv_aload_n C.ex C.by dX9_best_0 rfl (lv_at hl 0 rfl) ?_
  refine lv_iload_n C.ex C.by dX9_best_1 rfl (lv_at hl 1 rfl) ?_
  obtain ⟨q1, e2, hf⟩ := zb_some hf
  rcases q1 with E | q1
  · dsimp only [Sum.elim_inl] at hf
    cases hf
    exact z_callTv_x (k := 0) (mc' := 1) (As := [.int x1]) CX h (ctX9_needFan CX.2.1 e2) (zgV lkC403 lkC404 lkC405 lkC99 lkC406) ⟨rfl, rfl⟩ hdX9_needFan ⟨Nat.le_of_ble_eq_true rfl, Nat.le_of_ble_eq_true rfl⟩ 0 (wC_at0 κ _) rfl hl rfl rfl (Nat.le_of_ble_eq_true rfl) dX9_best_2 ⟨Nat.le_of_ble_eq_true rfl, Nat.le_of_ble_eq_true rfl⟩ (by decide)
  · dsimp only [Sum.elim_inr] at hf
    refine z_callTv (k := 0) (mc' := 1) (As := [.int x1]) CX h (ctX9_needFan CX.2.1 e2) (zgV lkC403 lkC404 lkC405 lkC99 lkC406) ⟨rfl, rfl⟩ hdX9_needFan ⟨Nat.le_of_ble_eq_true rfl, Nat.le_of_ble_eq_true rfl⟩ 0 (wC_at0 κ _) rfl hl rfl rfl (Nat.le_of_ble_eq_true rfl) dX9_best_2 ⟨Nat.le_of_ble_eq_true rfl, Nat.le_of_ble_eq_true rfl⟩ (fun H locs h => ?_)
    refine W.widen (k := 1) (n := 6 * 1) (by decide) (by decide) ?_
    refine lv_aload_n C.ex C.by dX9_best_5 rfl (lv_at hl 0 rfl) ?_
    obtain ⟨q3, e4, hf⟩ := zb_some hf
    rcases q3 with E | q3
    · dsimp only [Sum.elim_inl] at hf
      cases hf
      exact z_callTv_x (k := 1) (mc' := 1) (As := []) CX h (ctX9_needPower CX.2.1 e4) (zgV lkC338 lkC339 lkC340 lkC99 lkC341) ⟨rfl, rfl⟩ hdX9_needPower ⟨Nat.le_of_ble_eq_true rfl, Nat.le_of_ble_eq_true rfl⟩ 0 (wC_at0 κ _) rfl hl rfl rfl (Nat.le_of_ble_eq_true rfl) dX9_best_6 ⟨Nat.le_of_ble_eq_true rfl, Nat.le_of_ble_eq_true rfl⟩ (by decide)
    · dsimp only [Sum.elim_inr] at hf
      refine z_callTv (k := 1) (mc' := 1) (As := []) CX h (ctX9_needPower CX.2.1 e4) (zgV lkC338 lkC339 lkC340 lkC99 lkC341) ⟨rfl, rfl⟩ hdX9_needPower ⟨Nat.le_of_ble_eq_true rfl, Nat.le_of_ble_eq_true rfl⟩ 0 (wC_at0 κ _) rfl hl rfl rfl (Nat.le_of_ble_eq_true rfl) dX9_best_6 ⟨Nat.le_of_ble_eq_true rfl, Nat.le_of_ble_eq_true rfl⟩ (fun H locs h => ?_)
      refine W.widen (k := 2) (n := 6 * 2) (by decide) (by decide) ?_
      refine lv_aload_n C.ex C.by dX9_best_9 rfl (lv_at hl 0 rfl) ?_
      refine lv_aload_n C.ex C.by dX9_best_10 rfl (lv_at hl 0 rfl) ?_
      refine lv_iload_n C.ex C.by dX9_best_11 rfl (lv_at hl 1 rfl) ?_
      obtain ⟨q5, e6, hf⟩ := zb_some hf
      refine z_callVi (As := [.int x1]) C h (ctX9_mergeFewest (r1 := q5.1) (r2 := q5.2) e6) (zgV lkC411 lkC412 lkC413 lkC99 lkC414) ⟨rfl, rfl⟩ hdX9_mergeFewest ⟨Nat.le_of_ble_eq_true rfl, Nat.le_of_ble_eq_true rfl⟩ 0 (wC_at0 κ _) rfl hl rfl rfl (Nat.le_of_ble_eq_true rfl) dX9_best_12 ⟨Nat.le_of_ble_eq_true rfl, Nat.le_of_ble_eq_true rfl⟩ (fun H locs h => ?_)
      obtain ⟨q7, e8, hf⟩ := zb_some hf
      rcases q7 with E | q7
      · dsimp only [Sum.elim_inl] at hf
        cases hf
        exact z_callTi_x (k := 2) (mc' := 1) (As := [.int q5.1]) CX h (ctX9_answerFor CX.2.1 e8) (zgV lkC366 lkC367 lkC368 lkC99 lkC369) ⟨rfl, rfl⟩ hdX9_answerFor ⟨Nat.le_of_ble_eq_true rfl, Nat.le_of_ble_eq_true rfl⟩ 0 (wC_at0 κ _) rfl hl rfl rfl (Nat.le_of_ble_eq_true rfl) dX9_best_15 ⟨Nat.le_of_ble_eq_true rfl, Nat.le_of_ble_eq_true rfl⟩ (by decide)
      · dsimp only [Sum.elim_inr] at hf
        refine z_callTi (k := 2) (mc' := 1) (As := [.int q5.1]) CX h (ctX9_answerFor CX.2.1 e8) (zgV lkC366 lkC367 lkC368 lkC99 lkC369) ⟨rfl, rfl⟩ hdX9_answerFor ⟨Nat.le_of_ble_eq_true rfl, Nat.le_of_ble_eq_true rfl⟩ 0 (wC_at0 κ _) rfl hl rfl rfl (Nat.le_of_ble_eq_true rfl) dX9_best_15 ⟨Nat.le_of_ble_eq_true rfl, Nat.le_of_ble_eq_true rfl⟩ (fun H locs h => ?_)
        refine W.widen (k := 3) (n := 6 * 3) (by decide) (by decide) ?_
        cases hf
        exact z_tiret (k := 3) CX h (by decide) dX9_best_18
theorem ctX9_best {l : Launch} {κ : zG} {n : Nat} {σ : zS} {x1 : Int32} {r1 : String ⊕ Int32} {r2 : zS} (hl9 : l.stackTraces = false) (hf : fX9_best_0 n (κ.2.2.2 0) (κ.2.2.2 1) (κ.2.2.2 2) σ x1 = some (r1, r2)) : zTi l yX9_best (Cond.code yX9_best cX9_best 2 (some .int)) rmX9_best wC κ [.ref (κ.2.1 0), .int x1] σ 3 r1 r2 :=
  zbodyX (Qz := fun A => zQti wC κ A r1 r2) (Xz := fun A => zXc wC κ A r1 r2) (by decide) (Nat.le_of_ble_eq_true rfl) hl9 (fun p e s m below meth c A C h ls hl => wX9_best_0 C h hl hf)
theorem hdX9_plan : yX9_plan.cls = RX9 ∧ yX9_plan.cls ≠ "java/lang/invoke/MethodHandle" ∧ yX9_plan.cls ≠ "java/lang/invoke/VarHandle" ∧ (parseMethodDescriptor yX9_plan.desc).map (fun d => d.parameters.length) = some 1 := by decide +kernel
abbrev rmX9_plan : Room := { frames := 7, cells := 1, slots := 6, locals := 103 }
set_option maxRecDepth 20000 in
set_option maxHeartbeats 4000000 in
theorem wX9_plan_L23_23 {p : Program} {l : Launch} {e : Env} {s : State} {m : MethodId} {args : Array Value} {below : List Frame} {meth : Method} {c : Code} {A : Nat → Prop} {κ : zG} {H : Heap} {locs : List Loc} {ls : Array Slot} {Q : State → Prop} {n : Nat} {k1 : Int32} {k2 : Int32} {a : Int32 × zS} {r : (Int32 × zS) ⊕ (zS)} (CX : zCX cX9_plan 8 (some .int) RX9 κ A p l s m args meth c) (h : zH wC κ A s a.2 H locs) (hl : lv_has ls 8 [(0, .ref (κ.2.1 0)), (1, .int k1), (2, .int k2), (3, .int a.1)]) (hf : fX9_plan_L23_23 n (κ.2.2.2 0) (κ.2.2.2 1) (κ.2.2.2 2) k1 k2 a = some r) (Kc : ∀ (v3 : Int32) (σ1 : zS), r = .inl (v3, σ1) → ∀ (H : Heap) (locs : List Loc) (ls : Array Slot), zH wC κ A s σ1 H locs → lv_has ls 8 [(0, .ref (κ.2.1 0)), (1, .int k1), (2, .int k2), (3, .int v3)] → W p l e rmX9_plan s m args below meth c H locs 1 (6 * 1) Q (F0 m 23 ls [])) (Ke0 : ∀ (σ1 : zS), r = .inr σ1 → ∀ (H : Heap) (locs : List Loc) (ls : Array Slot), zH wC κ A s σ1 H locs → lv_has ls 8 [(0, .ref (κ.2.1 0)), (1, .int k1), (2, .int k2)] → W p l e rmX9_plan s m args below meth c H locs 1 (6 * 1) Q (F0 m 55 ls [])) : W p l e rmX9_plan s m args below meth c H locs 1 (6 * 1) Q (F0 m 23 ls []) := by
  unfold fX9_plan_L23_23 at hf
  have C := CX.1
  refine lv_iload_n C.ex C.by dX9_plan_23 rfl (lv_at hl 3 rfl) ?_
  refine lv_iload_n C.ex C.by dX9_plan_24 rfl (lv_at hl 2 rfl) ?_
  refine lv_icmp_ge (tgt := 55) C.ex C.by dX9_plan_25 (by decide) (fun c5 => ?_) (fun c5 => ?_)
  · have hf := zif_t c5 hf
    exact Ke0 _ (Option.some.inj hf).symm _ _ _ h (lv_sub hl [0, 1, 2] rfl)
  · have hf := zif_f c5 hf
    refine lv_aload_n C.ex C.by dX9_plan_28 rfl (lv_at hl 0 rfl) ?_
    refine z_get (v := .ref (κ.2.1 37)) C h iwX9 0 (wC_at0 κ _) rfl 11 (by decide) lkC298 rfl dX9_plan_29 ?_
    refine lv_iload_n C.ex C.by dX9_plan_32 rfl (lv_at hl 3 rfl) ?_
    refine lv_aload_n C.ex C.by dX9_plan_33 rfl (lv_at hl 0 rfl) ?_
    refine z_get (v := .ref (κ.2.1 7)) C h iwX9 0 (wC_at0 κ _) rfl 2 (by decide) lkC6 rfl dX9_plan_34 ?_
    refine lv_aload_n C.ex C.by dX9_plan_37 rfl (lv_at hl 0 rfl) ?_
    refine z_get (v := .ref (κ.2.1 33)) C h iwX9 0 (wC_at0 κ _) rfl 8 (by decide) lkC180 rfl dX9_plan_38 ?_
    refine lv_iload_n C.ex C.by dX9_plan_41 rfl (lv_at hl 3 rfl) ?_
    obtain ⟨q6, e7, hf⟩ := zb_some hf
    refine z_callRi (As := [.int a.1]) (x := (zI a.2 32)) (f := (zA a.2 16)) C h (ctX6_get (κ := zκR κ (κ.2.1 33) (κ.2.1 34) (κ.2.2.2 0)) e7) (zgV lkC193 lkC50 lkC51 lkC52 lkC53) ⟨rfl, rfl⟩ hdX6_get ⟨Nat.le_of_ble_eq_true rfl, Nat.le_of_ble_eq_true rfl⟩ 33 34 (by decide) (wC_at33 κ _) (wC_at34 κ _) a.2 (zset2 (wC_at33 κ _) (wC_at34 κ _)) hl rfl rfl (Nat.le_of_ble_eq_true rfl) dX9_plan_42 ⟨Nat.le_of_ble_eq_true rfl, Nat.le_of_ble_eq_true rfl⟩ (fun H locs h => ?_)
    obtain ⟨q8, e9, hf⟩ := zb_some hf
    refine z_callVi (As := [.int q6]) C h (ctX1_heldBy e9) (zgV lkC271 lkC220 lkC221 lkC11 lkC222) ⟨rfl, rfl⟩ hdX1_heldBy ⟨Nat.le_of_ble_eq_true rfl, Nat.le_of_ble_eq_true rfl⟩ 7 (wC_at7 κ _) rfl hl rfl rfl (Nat.le_of_ble_eq_true rfl) dX9_plan_45 ⟨Nat.le_of_ble_eq_true rfl, Nat.le_of_ble_eq_true rfl⟩ (fun H locs h => ?_)
    obtain ⟨h10, hf⟩ := zg_some hf
    refine z_iast (f := (zA a.2 18)) C h 37 (wC_at37 κ _) h10 (sA a.2 18 (upd (zA a.2 18) (Int32.toNatClampNeg a.1) q8)) (wC_s37 κ _ _) dX9_plan_48 (fun H locs h => ?_)
    refine lv_iinc (v := (a.1 + 1)) (lv' := [(3, .int (a.1 + 1)), (0, .ref (κ.2.1 0)), (1, .int k1), (2, .int k2)]) C.ex C.by dX9_plan_49 hl (k := 3) rfl rfl (by decide) rfl (fun ls hl => ?_)
    refine lv_goto (tgt := 23) C.ex C.by dX9_plan_52 (by decide) ?_
    exact Kc _ _ (Option.some.inj hf).symm _ _ _ h (lv_sub hl [1, 2, 3, 0] rfl)
theorem wlX9_plan_23 {p : Program} {l : Launch} {e : Env} {s : State} {m : MethodId} {args : Array Value} {below : List Frame} {meth : Method} {c : Code} {A : Nat → Prop} {κ : zG} {H : Heap} {locs : List Loc} {ls : Array Slot} {Q : State → Prop} {n : Nat} {k1 : Int32} {k2 : Int32} {k0 : Nat} {u3 : Int32} {σ1 : zS} (CX : zCX cX9_plan 8 (some .int) RX9 κ A p l s m args meth c) (h : zH wC κ A s σ1 H locs) (hl : lv_has ls 8 [(0, .ref (κ.2.1 0)), (1, .int k1), (2, .int k2), (3, .int u3)]) (b : zS) (hb : zlp (fX9_plan_L23_23 n (κ.2.2.2 0) (κ.2.2.2 1) (κ.2.2.2 2) k1 k2) k0 (u3, σ1) = some b) (K : (fun b : zS => ∀ (H : Heap) (locs : List Loc) (ls : Array Slot), zH wC κ A s b H locs → lv_has ls 8 [(0, .ref (κ.2.1 0)), (1, .int k1), (2, .int k2)] → W p l e rmX9_plan s m args below meth c H locs 1 (6 * 1) Q (F0 m 55 ls [])) b) : W p l e rmX9_plan s m args below meth c H locs 1 (6 * 1) Q (F0 m 23 ls []) :=
  z_loop (body := fX9_plan_L23_23 n (κ.2.2.2 0) (κ.2.2.2 1) (κ.2.2.2 2) k1 k2) (Wd := (fun a : Int32 × zS => ∀ (H : Heap) (locs : List Loc) (ls : Array Slot), zH wC κ A s a.2 H locs → lv_has ls 8 [(0, .ref (κ.2.1 0)), (1, .int k1), (2, .int k2), (3, .int a.1)] → W p l e rmX9_plan s m args below meth c H locs 1 (6 * 1) Q (F0 m 23 ls []))) (Ex := (fun b : zS => (fun b : zS => ∀ (H : Heap) (locs : List Loc) (ls : Array Slot), zH wC κ A s b H locs → lv_has ls 8 [(0, .ref (κ.2.1 0)), (1, .int k1), (2, .int k2)] → W p l e rmX9_plan s m args below meth c H locs 1 (6 * 1) Q (F0 m 55 ls [])) b)) (fun a r hr Kc Ke H locs ls h hl => wX9_plan_L23_23 CX h hl hr (fun v3 σ1 e => Kc (v3, σ1) e) (fun σ1 e => Ke σ1 e)) k0 (u3, σ1) b hb K H locs ls h hl
set_option maxRecDepth 20000 in
set_option maxHeartbeats 4000000 in
theorem wX9_plan_L81_117 {p : Program} {l : Launch} {e : Env} {s : State} {m : MethodId} {args : Array Value} {below : List Frame} {meth : Method} {c : Code} {A : Nat → Prop} {κ : zG} {H : Heap} {locs : List Loc} {ls : Array Slot} {Q : State → Prop} {n : Nat} {σ : zS} {k1 : Int32} {k2 : Int32} {k4 : Int32} {x3 : Int32} {x5 : Int32} {x6 : Int32} {x7 : Int32} {r : (Int32 × Int32 × Int32 × zS) ⊕ (Int32 × Int32 × zS)} (CX : zCX cX9_plan 8 (some .int) RX9 κ A p l s m args meth c) (h : zH wC κ A s σ H locs) (hl : lv_has ls 8 [(0, .ref (κ.2.1 0)), (1, .int k1), (2, .int k2), (3, .int x3), (4, .int k4), (5, .int x5), (6, .int x6), (7, .int x7)]) (hf : fX9_plan_L81_117 n (κ.2.2.2 0) (κ.2.2.2 1) (κ.2.2.2 2) σ k1 k2 k4 x3 x5 x6 x7 = some r) (Kc : ∀ (v3 : Int32) (v5 : Int32) (v6 : Int32) (σ1 : zS), r = .inl (v3, v5, v6, σ1) → ∀ (H : Heap) (locs : List Loc) (ls : Array Slot), zH wC κ A s σ1 H locs → lv_has ls 8 [(0, .ref (κ.2.1 0)), (1, .int k1), (2, .int k2), (3, .int v3), (4, .int k4), (5, .int v5), (6, .int v6)] → W p l e rmX9_plan s m args below meth c H locs 1 (6 * 1) Q (F0 m 81 ls [])) (Ke0 : ∀ (v3 : Int32) (v5 : Int32) (σ1 : zS), r = .inr (v3, v5, σ1) → ∀ (H : Heap) (locs : List Loc) (ls : Array Slot), zH wC κ A s σ1 H locs → lv_has ls 8 [(0, .ref (κ.2.1 0)), (1, .int k1), (3, .int v3), (4, .int k4), (5, .int v5)] → W p l e rmX9_plan s m args below meth c H locs 1 (6 * 1) Q (F0 m 143 ls [])) : W p l e rmX9_plan s m args below meth c H locs 1 (6 * 1) Q (F0 m 117 ls []) := by
  unfold fX9_plan_L81_117 at hf
  have C := CX.1
  refine lv_aload_n C.ex C.by dX9_plan_117 rfl (lv_at hl 0 rfl) ?_
  refine lv_iload C.ex C.by dX9_plan_118 (lv_at hl 5 rfl) ?_
  refine lv_aload_n C.ex C.by dX9_plan_120 rfl (lv_at hl 0 rfl) ?_
  refine lv_iload C.ex C.by dX9_plan_121 (lv_at hl 6 rfl) ?_
  refine lv_iload C.ex C.by dX9_plan_123 (lv_at hl 7 rfl) ?_
  obtain ⟨q19, e20, hf⟩ := zb_some hf
  refine z_callVi (As := [.int x6, .int x7]) C h (ctX9_lengthBetween e20) (zgV lkC419 lkC420 lkC421 lkC99 lkC422) ⟨rfl, rfl⟩ hdX9_lengthBetween ⟨Nat.le_of_ble_eq_true rfl, Nat.le_of_ble_eq_true rfl⟩ 0 (wC_at0 κ _) rfl hl rfl rfl (Nat.le_of_ble_eq_true rfl) dX9_plan_125 ⟨Nat.le_of_ble_eq_true rfl, Nat.le_of_ble_eq_true rfl⟩ (fun H locs h => ?_)
  obtain ⟨q21, e22, hf⟩ := zb_some hf
  refine z_callVv (As := [.int x5, .int q19]) C h (ctX9_setLength e22) (zgV lkC423 lkC424 lkC425 lkC99 lkC426) ⟨rfl, rfl⟩ hdX9_setLength ⟨Nat.le_of_ble_eq_true rfl, Nat.le_of_ble_eq_true rfl⟩ 0 (wC_at0 κ _) rfl hl rfl rfl (Nat.le_of_ble_eq_true rfl) dX9_plan_128 ⟨Nat.le_of_ble_eq_true rfl, Nat.le_of_ble_eq_true rfl⟩ (fun H locs h => ?_)
  refine lv_iinc (v := (x5 + 1)) (lv' := [(5, .int (x5 + 1)), (0, .ref (κ.2.1 0)), (1, .int k1), (2, .int k2), (3, .int x3), (4, .int k4), (6, .int x6), (7, .int x7)]) C.ex C.by dX9_plan_131 hl (k := 5) rfl rfl (by decide) rfl (fun ls hl => ?_)
  refine lv_iload C.ex C.by dX9_plan_134 (lv_at hl 6 rfl) ?_
  refine lv_iload_n C.ex C.by dX9_plan_136 rfl (lv_at hl 2 rfl) ?_
  refine lv_iadd C.ex C.by dX9_plan_137 ?_
  refine lv_istore (lv' := [(6, .int (x6 + k1)), (5, .int (x5 + 1)), (0, .ref (κ.2.1 0)), (1, .int k1), (2, .int k2), (3, .int x3), (4, .int k4), (7, .int x7)]) C.ex C.by dX9_plan_138 hl (by decide) rfl (fun ls hl => ?_)
  refine lv_goto (tgt := 81) C.ex C.by dX9_plan_140 (by decide) ?_
  exact Kc _ _ _ _ (Option.some.inj hf).symm _ _ _ h (lv_sub hl [2, 3, 4, 5, 6, 1, 0] rfl)
set_option maxRecDepth 20000 in
set_option maxHeartbeats 4000000 in
theorem wX9_plan_L81_81 {p : Program} {l : Launch} {e : Env} {s : State} {m : MethodId} {args : Array Value} {below : List Frame} {meth : Method} {c : Code} {A : Nat → Prop} {κ : zG} {H : Heap} {locs : List Loc} {ls : Array Slot} {Q : State → Prop} {n : Nat} {k1 : Int32} {k2 : Int32} {k4 : Int32} {a : Int32 × Int32 × Int32 × zS} {r : (Int32 × Int32 × Int32 × zS) ⊕ (Int32 × Int32 × zS)} (CX : zCX cX9_plan 8 (some .int) RX9 κ A p l s m args meth c) (h : zH wC κ A s a.2.2.2 H locs) (hl : lv_has ls 8 [(0, .ref (κ.2.1 0)), (1, .int k1), (2, .int k2), (3, .int a.1), (4, .int k4), (5, .int a.2.1), (6, .int a.2.2.1)]) (hf : fX9_plan_L81_81 n (κ.2.2.2 0) (κ.2.2.2 1) (κ.2.2.2 2) k1 k2 k4 a = some r) (Kc : ∀ (v3 : Int32) (v5 : Int32) (v6 : Int32) (σ1 : zS), r = .inl (v3, v5, v6, σ1) → ∀ (H : Heap) (locs : List Loc) (ls : Array Slot), zH wC κ A s σ1 H locs → lv_has ls 8 [(0, .ref (κ.2.1 0)), (1, .int k1), (2, .int k2), (3, .int v3), (4, .int k4), (5, .int v5), (6, .int v6)] → W p l e rmX9_plan s m args below meth c H locs 1 (6 * 1) Q (F0 m 81 ls [])) (Ke0 : ∀ (v3 : Int32) (v5 : Int32) (σ1 : zS), r = .inr (v3, v5, σ1) → ∀ (H : Heap) (locs : List Loc) (ls : Array Slot), zH wC κ A s σ1 H locs → lv_has ls 8 [(0, .ref (κ.2.1 0)), (1, .int k1), (3, .int v3), (4, .int k4), (5, .int v5)] → W p l e rmX9_plan s m args below meth c H locs 1 (6 * 1) Q (F0 m 143 ls [])) : W p l e rmX9_plan s m args below meth c H locs 1 (6 * 1) Q (F0 m 81 ls []) := by
  unfold fX9_plan_L81_81 at hf
  have C := CX.1
  refine lv_iload C.ex C.by dX9_plan_81 (lv_at hl 6 rfl) ?_
  refine lv_iload_n C.ex C.by dX9_plan_83 rfl (lv_at hl 2 rfl) ?_
  refine lv_icmp_ge (tgt := 143) C.ex C.by dX9_plan_84 (by decide) (fun c15 => ?_) (fun c15 => ?_)
  · have hf := zif_t c15 hf
    exact Ke0 _ _ _ (Option.some.inj hf).symm _ _ _ h (lv_sub hl [0, 1, 3, 4, 5] rfl)
  · have hf := zif_f c15 hf
    refine lv_iload C.ex C.by dX9_plan_87 (lv_at hl 6 rfl) ?_
    refine lv_iload_n C.ex C.by dX9_plan_89 rfl (lv_at hl 1 rfl) ?_
    refine lv_iadd C.ex C.by dX9_plan_90 ?_
    refine lv_iload_n C.ex C.by dX9_plan_91 rfl (lv_at hl 2 rfl) ?_
    refine z_mmin C hl lkC185 lkC186 lkC4 lkC187 ⟨Nat.le_of_ble_eq_true rfl, Nat.le_of_ble_eq_true rfl⟩ ⟨Nat.le_of_ble_eq_true rfl, Nat.le_of_ble_eq_true rfl⟩ dX9_plan_92 ?_
    refine lv_istore (lv' := [(7, .int (if k2 < (a.2.2.1 + k1) then k2 else (a.2.2.1 + k1))), (0, .ref (κ.2.1 0)), (1, .int k1), (2, .int k2), (3, .int a.1), (4, .int k4), (5, .int a.2.1), (6, .int a.2.2.1)]) C.ex C.by dX9_plan_95 hl (by decide) rfl (fun ls hl => ?_)
    refine lv_iload C.ex C.by dX9_plan_97 (lv_at hl 0 rfl) ?_
    refine lv_iload C.ex C.by dX9_plan_99 (lv_at hl 7 rfl) ?_
    refine lv_isub C.ex C.by dX9_plan_101 ?_
    refine lv_iconst (v := 1) C.ex C.by dX9_plan_102 (by decide) ?_
    refine lv_icmp_le (tgt := 117) C.ex C.by dX9_plan_103 (by decide) (fun c16 => ?_) (fun c16 => ?_)
    · have hf := zif_t c16 hf
      exact wX9_plan_L81_117 CX h (lv_sub hl [1, 2, 3, 4, 5, 6, 7, 0] rfl) hf Kc Ke0
    · have hf := zif_f c16 hf
      refine lv_iload_n C.ex C.by dX9_plan_106 rfl (lv_at hl 4 rfl) ?_
      refine lv_aload_n C.ex C.by dX9_plan_107 rfl (lv_at hl 1 rfl) ?_
      refine lv_iload C.ex C.by dX9_plan_108 (lv_at hl 7 rfl) ?_
      refine lv_iload C.ex C.by dX9_plan_110 (lv_at hl 0 rfl) ?_
      obtain ⟨q17, e18, hf⟩ := zb_some hf
      refine z_callVi (As := [.int a.2.2.1, .int (if k2 < (a.2.2.1 + k1) then k2 else (a.2.2.1 + k1))]) C h (ctX9_blocksBetween e18) (zgV lkC415 lkC416 lkC417 lkC99 lkC418) ⟨rfl, rfl⟩ hdX9_blocksBetween ⟨Nat.le_of_ble_eq_true rfl, Nat.le_of_ble_eq_true rfl⟩ 0 (wC_at0 κ _) rfl hl rfl rfl (Nat.le_of_ble_eq_true rfl) dX9_plan_112 ⟨Nat.le_of_ble_eq_true rfl, Nat.le_of_ble_eq_true rfl⟩ (fun H locs h => ?_)
      refine lv_iadd C.ex C.by dX9_plan_115 ?_
      refine lv_istore_n (lv' := [(3, .int (a.1 + q17)), (7, .int (if k2 < (a.2.2.1 + k1) then k2 else (a.2.2.1 + k1))), (0, .ref (κ.2.1 0)), (1, .int k1), (2, .int k2), (4, .int k4), (5, .int a.2.1), (6, .int a.2.2.1)]) C.ex C.by dX9_plan_116 rfl hl (by decide) rfl (fun ls hl => ?_)
      exact wX9_plan_L81_117 CX h (lv_sub hl [2, 3, 4, 0, 5, 6, 7, 1] rfl) hf Kc Ke0
theorem wlX9_plan_81 {p : Program} {l : Launch} {e : Env} {s : State} {m : MethodId} {args : Array Value} {below : List Frame} {meth : Method} {c : Code} {A : Nat → Prop} {κ : zG} {H : Heap} {locs : List Loc} {ls : Array Slot} {Q : State → Prop} {n : Nat} {k1 : Int32} {k2 : Int32} {k4 : Int32} {k0 : Nat} {u3 : Int32} {u5 : Int32} {u6 : Int32} {σ1 : zS} (CX : zCX cX9_plan 8 (some .int) RX9 κ A p l s m args meth c) (h : zH wC κ A s σ1 H locs) (hl : lv_has ls 8 [(0, .ref (κ.2.1 0)), (1, .int k1), (2, .int k2), (3, .int u3), (4, .int k4), (5, .int u5), (6, .int u6)]) (b : Int32 × Int32 × zS) (hb : zlp (fX9_plan_L81_81 n (κ.2.2.2 0) (κ.2.2.2 1) (κ.2.2.2 2) k1 k2 k4) k0 (u3, u5, u6, σ1) = some b) (K : (fun b : Int32 × Int32 × zS => ∀ (H : Heap) (locs : List Loc) (ls : Array Slot), zH wC κ A s b.2.2 H locs → lv_has ls 8 [(0, .ref (κ.2.1 0)), (1, .int k1), (3, .int b.1), (4, .int k4), (5, .int b.2.1)] → W p l e rmX9_plan s m args below meth c H locs 1 (6 * 1) Q (F0 m 143 ls [])) b) : W p l e rmX9_plan s m args below meth c H locs 1 (6 * 1) Q (F0 m 81 ls []) :=
  z_loop (body := fX9_plan_L81_81 n (κ.2.2.2 0) (κ.2.2.2 1) (κ.2.2.2 2) k1 k2 k4) (Wd := (fun a : Int32 × Int32 × Int32 × zS => ∀ (H : Heap) (locs : List Loc) (ls : Array Slot), zH wC κ A s a.2.2.2 H locs → lv_has ls 8 [(0, .ref (κ.2.1 0)), (1, .int k1), (2, .int k2), (3, .int a.1), (4, .int k4), (5, .int a.2.1), (6, .int a.2.2.1)] → W p l e rmX9_plan s m args below meth c H locs 1 (6 * 1) Q (F0 m 81 ls []))) (Ex := (fun b : Int32 × Int32 × zS => (fun b : Int32 × Int32 × zS => ∀ (H : Heap) (locs : List Loc) (ls : Array Slot), zH wC κ A s b.2.2 H locs → lv_has ls 8 [(0, .ref (κ.2.1 0)), (1, .int k1), (3, .int b.1), (4, .int k4), (5, .int b.2.1)] → W p l e rmX9_plan s m args below meth c H locs 1 (6 * 1) Q (F0 m 143 ls [])) b)) (fun a r hr Kc Ke H locs ls h hl => wX9_plan_L81_81 CX h hl hr (fun v3 v5 v6 σ1 e => Kc (v3, v5, v6, σ1) e) (fun v3 v5 σ1 e => Ke (v3, v5, σ1) e)) k0 (u3, u5, u6, σ1) b hb K H locs ls h hl
set_option maxRecDepth 20000 in
set_option maxHeartbeats 4000000 in
theorem wX9_plan_L60_60 {p : Program} {l : Launch} {e : Env} {s : State} {m : MethodId} {args : Array Value} {below : List Frame} {meth : Method} {c : Code} {A : Nat → Prop} {κ : zG} {H : Heap} {locs : List Loc} {ls : Array Slot} {Q : State → Prop} {n : Nat} {k1 : Int32} {a : Int32 × Int32 × Int32 × zS} {r : (Int32 × Int32 × Int32 × zS) ⊕ (Int32 × zS)} (CX : zCX cX9_plan 8 (some .int) RX9 κ A p l s m args meth c) (h : zH wC κ A s a.2.2.2 H locs) (hl : lv_has ls 8 [(0, .ref (κ.2.1 0)), (1, .int k1), (2, .int a.1), (3, .int a.2.1), (4, .int a.2.2.1)]) (hf : fX9_plan_L60_60 n (κ.2.2.2 0) (κ.2.2.2 1) (κ.2.2.2 2) k1 a = some r) (Kc : ∀ (v2 : Int32) (v3 : Int32) (v4 : Int32) (σ1 : zS), r = .inl (v2, v3, v4, σ1) → ∀ (H : Heap) (locs : List Loc) (ls : Array Slot), zH wC κ A s σ1 H locs → lv_has ls 8 [(0, .ref (κ.2.1 0)), (1, .int k1), (2, .int v2), (3, .int v3), (4, .int v4)] → W p l e rmX9_plan s m args below meth c H locs 1 (6 * 1) Q (F0 m 60 ls [])) (Ke0 : ∀ (v3 : Int32) (σ1 : zS), r = .inr (v3, σ1) → ∀ (H : Heap) (locs : List Loc) (ls : Array Slot), zH wC κ A s σ1 H locs → lv_has ls 8 [(0, .ref (κ.2.1 0)), (3, .int v3)] → W p l e rmX9_plan s m args below meth c H locs 1 (6 * 1) Q (F0 m 152 ls [])) : W p l e rmX9_plan s m args below meth c H locs 1 (6 * 1) Q (F0 m 60 ls []) := by
  unfold fX9_plan_L60_60 at hf
  have C := CX.1
  refine lv_iload C.ex C.by dX9_plan_60 (lv_at hl 4 rfl) ?_
  refine lv_aload_n C.ex C.by dX9_plan_62 rfl (lv_at hl 0 rfl) ?_
  refine z_get (v := .ref (κ.2.1 37)) C h iwX9 0 (wC_at0 κ _) rfl 11 (by decide) lkC298 rfl dX9_plan_63 ?_
  refine z_alen (t0 := 0) C h 37 (wC_at37 κ _) rfl dX9_plan_66 ?_
  refine lv_icmp_ge (tgt := 152) C.ex C.by dX9_plan_67 (by decide) (fun c13 => ?_) (fun c13 => ?_)
  · have hf := zif_t c13 hf
    exact Ke0 _ _ (Option.some.inj hf).symm _ _ _ h (lv_sub hl [0, 3] rfl)
  · have hf := zif_f c13 hf
    refine lv_iload_n C.ex C.by dX9_plan_70 rfl (lv_at hl 2 rfl) ?_
    refine lv_iconst (v := 1) C.ex C.by dX9_plan_71 (by decide) ?_
    refine lv_icmp_le (tgt := 152) C.ex C.by dX9_plan_72 (by decide) (fun c14 => ?_) (fun c14 => ?_)
    · have hf := zif_t c14 hf
      exact Ke0 _ _ (Option.some.inj hf).symm _ _ _ h (lv_sub hl [0, 3] rfl)
    · have hf := zif_f c14 hf
      refine lv_iconst (v := 0) C.ex C.by dX9_plan_75 (by decide) ?_
      refine lv_istore (lv' := [(5, .int 0), (0, .ref (κ.2.1 0)), (1, .int k1), (2, .int a.1), (3, .int a.2.1), (4, .int a.2.2.1)]) C.ex C.by dX9_plan_76 hl (by decide) rfl (fun ls hl => ?_)
      refine lv_iconst (v := 0) C.ex C.by dX9_plan_78 (by decide) ?_
      refine lv_istore (lv' := [(6, .int 0), (5, .int 0), (0, .ref (κ.2.1 0)), (1, .int k1), (2, .int a.1), (3, .int a.2.1), (4, .int a.2.2.1)]) C.ex C.by dX9_plan_79 hl (by decide) rfl (fun ls hl => ?_)
      obtain ⟨b23, e24, hf⟩ := zb_some hf
      refine wlX9_plan_81 CX h (lv_sub hl [2, 3, 4, 5, 6, 1, 0] rfl) b23 e24 ?_
      intro H locs ls h hl
      refine lv_iload C.ex C.by dX9_plan_143 (lv_at hl 4 rfl) ?_
      refine lv_istore_n (lv' := [(2, .int b23.2.1), (0, .ref (κ.2.1 0)), (1, .int k1), (3, .int b23.1), (4, .int a.2.2.1), (5, .int b23.2.1)]) C.ex C.by dX9_plan_145 rfl hl (by decide) rfl (fun ls hl => ?_)
      refine lv_iinc (v := (a.2.2.1 + 1)) (lv' := [(4, .int (a.2.2.1 + 1)), (2, .int b23.2.1), (0, .ref (κ.2.1 0)), (1, .int k1), (3, .int b23.1), (5, .int b23.2.1)]) C.ex C.by dX9_plan_146 hl (k := 4) rfl rfl (by decide) rfl (fun ls hl => ?_)
      refine lv_goto (tgt := 60) C.ex C.by dX9_plan_149 (by decide) ?_
      exact Kc _ _ _ _ (Option.some.inj hf).symm _ _ _ h (lv_sub hl [2, 3, 1, 4, 0] rfl)
theorem wlX9_plan_60 {p : Program} {l : Launch} {e : Env} {s : State} {m : MethodId} {args : Array Value} {below : List Frame} {meth : Method} {c : Code} {A : Nat → Prop} {κ : zG} {H : Heap} {locs : List Loc} {ls : Array Slot} {Q : State → Prop} {n : Nat} {k1 : Int32} {k0 : Nat} {u2 : Int32} {u3 : Int32} {u4 : Int32} {σ1 : zS} (CX : zCX cX9_plan 8 (some .int) RX9 κ A p l s m args meth c) (h : zH wC κ A s σ1 H locs) (hl : lv_has ls 8 [(0, .ref (κ.2.1 0)), (1, .int k1), (2, .int u2), (3, .int u3), (4, .int u4)]) (b : Int32 × zS) (hb : zlp (fX9_plan_L60_60 n (κ.2.2.2 0) (κ.2.2.2 1) (κ.2.2.2 2) k1) k0 (u2, u3, u4, σ1) = some b) (K : (fun b : Int32 × zS => ∀ (H : Heap) (locs : List Loc) (ls : Array Slot), zH wC κ A s b.2 H locs → lv_has ls 8 [(0, .ref (κ.2.1 0)), (3, .int b.1)] → W p l e rmX9_plan s m args below meth c H locs 1 (6 * 1) Q (F0 m 152 ls [])) b) : W p l e rmX9_plan s m args below meth c H locs 1 (6 * 1) Q (F0 m 60 ls []) :=
  z_loop (body := fX9_plan_L60_60 n (κ.2.2.2 0) (κ.2.2.2 1) (κ.2.2.2 2) k1) (Wd := (fun a : Int32 × Int32 × Int32 × zS => ∀ (H : Heap) (locs : List Loc) (ls : Array Slot), zH wC κ A s a.2.2.2 H locs → lv_has ls 8 [(0, .ref (κ.2.1 0)), (1, .int k1), (2, .int a.1), (3, .int a.2.1), (4, .int a.2.2.1)] → W p l e rmX9_plan s m args below meth c H locs 1 (6 * 1) Q (F0 m 60 ls []))) (Ex := (fun b : Int32 × zS => (fun b : Int32 × zS => ∀ (H : Heap) (locs : List Loc) (ls : Array Slot), zH wC κ A s b.2 H locs → lv_has ls 8 [(0, .ref (κ.2.1 0)), (3, .int b.1)] → W p l e rmX9_plan s m args below meth c H locs 1 (6 * 1) Q (F0 m 152 ls [])) b)) (fun a r hr Kc Ke H locs ls h hl => wX9_plan_L60_60 CX h hl hr (fun v2 v3 v4 σ1 e => Kc (v2, v3, v4, σ1) e) (fun v3 σ1 e => Ke (v3, σ1) e)) k0 (u2, u3, u4, σ1) b hb K H locs ls h hl
set_option maxRecDepth 20000 in
set_option maxHeartbeats 4000000 in
theorem wX9_plan_0 {p : Program} {l : Launch} {e : Env} {s : State} {m : MethodId} {args : Array Value} {below : List Frame} {meth : Method} {c : Code} {A : Nat → Prop} {κ : zG} {H : Heap} {locs : List Loc} {ls : Array Slot} {n : Nat} {σ : zS} {x1 : Int32} {r1 : String ⊕ Int32} {r2 : zS} (CX : zCX cX9_plan 8 (some .int) RX9 κ A p l s m args meth c) (h : zH wC κ A s σ H locs) (hl : lv_has ls 8 [(0, .ref (κ.2.1 0)), (1, .int x1)]) (hf : fX9_plan_0 n (κ.2.2.2 0) (κ.2.2.2 1) (κ.2.2.2 2) σ x1 = some (r1, r2)) : W p l e rmX9_plan s m args below meth c H locs 0 (6 * 0) (vx_MQ below (zQti wC κ A r1 r2) (zXc wC κ A r1 r2) args s 1 (6 * 1) A) (F0 m 0 ls []) := by
  unfold fX9_plan_0 at hf
  have C := CX.1
  refine lv_aload_n C.ex C.by dX9_plan_0 rfl (lv_at hl 0 rfl) ?_
  refine lv_iload_n C.ex C.by dX9_plan_1 rfl (lv_at hl 1 rfl) ?_
  obtain ⟨q1, e2, hf⟩ := zb_some hf
  rcases q1 with E | q1
  · dsimp only [Sum.elim_inl] at hf
    cases hf
    exact z_callTv_x (k := 0) (mc' := 1) (As := [.int x1]) CX h (ctX9_needFan CX.2.1 e2) (zgV lkC403 lkC404 lkC405 lkC99 lkC406) ⟨rfl, rfl⟩ hdX9_needFan ⟨Nat.le_of_ble_eq_true rfl, Nat.le_of_ble_eq_true rfl⟩ 0 (wC_at0 κ _) rfl hl rfl rfl (Nat.le_of_ble_eq_true rfl) dX9_plan_2 ⟨Nat.le_of_ble_eq_true rfl, Nat.le_of_ble_eq_true rfl⟩ (by decide)
  · dsimp only [Sum.elim_inr] at hf
    refine z_callTv (k := 0) (mc' := 1) (As := [.int x1]) CX h (ctX9_needFan CX.2.1 e2) (zgV lkC403 lkC404 lkC405 lkC99 lkC406) ⟨rfl, rfl⟩ hdX9_needFan ⟨Nat.le_of_ble_eq_true rfl, Nat.le_of_ble_eq_true rfl⟩ 0 (wC_at0 κ _) rfl hl rfl rfl (Nat.le_of_ble_eq_true rfl) dX9_plan_2 ⟨Nat.le_of_ble_eq_true rfl, Nat.le_of_ble_eq_true rfl⟩ (fun H locs h => ?_)
    refine W.widen (k := 1) (n := 6 * 1) (by decide) (by decide) ?_
    refine lv_aload_n C.ex C.by dX9_plan_5 rfl (lv_at hl 0 rfl) ?_
    refine z_get (v := .ref (κ.2.1 33)) C h iwX9 0 (wC_at0 κ _) rfl 8 (by decide) lkC180 rfl dX9_plan_6 ?_
    obtain ⟨q3, e4, hf⟩ := zb_some hf
    refine z_callRi (As := []) (x := (zI σ 32)) (f := (zA σ 16)) C h (ctX6_size (κ := zκR κ (κ.2.1 33) (κ.2.1 34) (κ.2.2.2 0)) e4) (zgV lkC181 lkC182 lkC183 lkC52 lkC184) ⟨rfl, rfl⟩ hdX6_size ⟨Nat.le_of_ble_eq_true rfl, Nat.le_of_ble_eq_true rfl⟩ 33 34 (by decide) (wC_at33 κ _) (wC_at34 κ _) σ (zset2 (wC_at33 κ _) (wC_at34 κ _)) hl rfl rfl (Nat.le_of_ble_eq_true rfl) dX9_plan_9 ⟨Nat.le_of_ble_eq_true rfl, Nat.le_of_ble_eq_true rfl⟩ (fun H locs h => ?_)
    refine lv_aload_n C.ex C.by dX9_plan_12 rfl (lv_at hl 0 rfl) ?_
    refine z_get (v := .ref (κ.2.1 37)) C h iwX9 0 (wC_at0 κ _) rfl 11 (by decide) lkC298 rfl dX9_plan_13 ?_
    refine z_alen (t0 := 0) C h 37 (wC_at37 κ _) rfl dX9_plan_16 ?_
    refine z_mmin C hl lkC185 lkC186 lkC4 lkC187 ⟨Nat.le_of_ble_eq_true rfl, Nat.le_of_ble_eq_true rfl⟩ ⟨Nat.le_of_ble_eq_true rfl, Nat.le_of_ble_eq_true rfl⟩ dX9_plan_17 ?_
    refine lv_istore_n (lv' := [(2, .int (if (nI (κ.2.2.2 0)) < q3 then (nI (κ.2.2.2 0)) else q3)), (0, .ref (κ.2.1 0)), (1, .int x1)]) C.ex C.by dX9_plan_20 rfl hl (by decide) rfl (fun ls hl => ?_)
    refine lv_iconst (v := 0) C.ex C.by dX9_plan_21 (by decide) ?_
    refine lv_istore_n (lv' := [(3, .int 0), (2, .int (if (nI (κ.2.2.2 0)) < q3 then (nI (κ.2.2.2 0)) else q3)), (0, .ref (κ.2.1 0)), (1, .int x1)]) C.ex C.by dX9_plan_22 rfl hl (by decide) rfl (fun ls hl => ?_)
    obtain ⟨b11, e12, hf⟩ := zb_some hf
    refine wlX9_plan_23 CX h (lv_sub hl [2, 3, 1, 0] rfl) b11 e12 ?_
    intro H locs ls h hl
    refine lv_iconst (v := 0) C.ex C.by dX9_plan_55 (by decide) ?_
    refine lv_istore_n (lv' := [(3, .int 0), (0, .ref (κ.2.1 0)), (1, .int x1), (2, .int (if (nI (κ.2.2.2 0)) < q3 then (nI (κ.2.2.2 0)) else q3))]) C.ex C.by dX9_plan_56 rfl hl (by decide) rfl (fun ls hl => ?_)
    refine lv_iconst (v := 0) C.ex C.by dX9_plan_57 (by decide) ?_
    refine lv_istore (lv' := [(4, .int 0), (3, .int 0), (0, .ref (κ.2.1 0)), (1, .int x1), (2, .int (if (nI (κ.2.2.2 0)) < q3 then (nI (κ.2.2.2 0)) else q3))]) C.ex C.by dX9_plan_58 hl (by decide) rfl (fun ls hl => ?_)
    obtain ⟨b25, e26, hf⟩ := zb_some hf
    refine wlX9_plan_60 CX h (lv_sub hl [2, 3, 4, 1, 0] rfl) b25 e26 ?_
    intro H locs ls h hl
    refine lv_iload_n C.ex C.by dX9_plan_152 rfl (lv_at hl 1 rfl) ?_
    cases hf
    exact z_tiret (k := 1) CX h (by decide) dX9_plan_153
theorem ctX9_plan {l : Launch} {κ : zG} {n : Nat} {σ : zS} {x1 : Int32} {r1 : String ⊕ Int32} {r2 : zS} (hl9 : l.stackTraces = false) (hf : fX9_plan_0 n (κ.2.2.2 0) (κ.2.2.2 1) (κ.2.2.2 2) σ x1 = some (r1, r2)) : zTi l yX9_plan (Cond.code yX9_plan cX9_plan 8 (some .int)) rmX9_plan wC κ [.ref (κ.2.1 0), .int x1] σ 1 r1 r2 :=
  zbodyX (Qz := fun A => zQti wC κ A r1 r2) (Xz := fun A => zXc wC κ A r1 r2) (by decide) (Nat.le_of_ble_eq_true rfl) hl9 (fun p e s m below meth c A C h ls hl => wX9_plan_0 C h hl hf)
theorem hdX9_needRun : yX9_needRun.cls = RX9 ∧ yX9_needRun.cls ≠ "java/lang/invoke/MethodHandle" ∧ yX9_needRun.cls ≠ "java/lang/invoke/VarHandle" ∧ (parseMethodDescriptor yX9_needRun.desc).map (fun d => d.parameters.length) = some 1 := by decide +kernel
abbrev rmX9_needRun : Room := { frames := 6, cells := 1, slots := 6, locals := 82 }
set_option maxRecDepth 20000 in
set_option maxHeartbeats 4000000 in
theorem wX9_needRun_15 {p : Program} {l : Launch} {e : Env} {s : State} {m : MethodId} {args : Array Value} {below : List Frame} {meth : Method} {c : Code} {A : Nat → Prop} {κ : zG} {H : Heap} {locs : List Loc} {ls : Array Slot} {n : Nat} {σ : zS} {r : (String ⊕ Unit)} (CX : zCX cX9_needRun 2 none RX9 κ A p l s m args meth c) (h : zH wC κ A s σ H locs) (hl : lv_has ls 2 [(0, .ref (κ.2.1 0))]) (hf : fX9_needRun_15 n (κ.2.2.2 0) (κ.2.2.2 1) (κ.2.2.2 2) σ = some r) : W p l e rmX9_needRun s m args below meth c H locs 0 (6 * 0) (vx_MQ below (zQtv wC κ A r σ) (zXc wC κ A r σ) args s 1 (6 * 1) A) (F0 m 15 ls []) := by
  unfold fX9_needRun_15 at hf
  have C := CX.1
  cases hf
  exact z_throwSW (k := 0) (text := "no such run") CX h (by decide) lkC354 lkC355 (by decide) (by decide) tg137 tb137 to137 hl dX9_needRun_15 dX9_needRun_18 dX9_needRun_19 dX9_needRun_22 dX9_needRun_25 ⟨Nat.le_of_ble_eq_true rfl, Nat.le_of_ble_eq_true rfl, Nat.le_of_ble_eq_true rfl, Nat.le_of_ble_eq_true rfl⟩ (by decide)
set_option maxRecDepth 20000 in
set_option maxHeartbeats 4000000 in
theorem wX9_needRun_0 {p : Program} {l : Launch} {e : Env} {s : State} {m : MethodId} {args : Array Value} {below : List Frame} {meth : Method} {c : Code} {A : Nat → Prop} {κ : zG} {H : Heap} {locs : List Loc} {ls : Array Slot} {n : Nat} {σ : zS} {x1 : Int32} {r : (String ⊕ Unit)} (CX : zCX cX9_needRun 2 none RX9 κ A p l s m args meth c) (h : zH wC κ A s σ H locs) (hl : lv_has ls 2 [(0, .ref (κ.2.1 0)), (1, .int x1)]) (hf : fX9_needRun_0 n (κ.2.2.2 0) (κ.2.2.2 1) (κ.2.2.2 2) σ x1 = some r) : W p l e rmX9_needRun s m args below meth c H locs 0 (6 * 0) (vx_MQ below (zQtv wC κ A r σ) (zXc wC κ A r σ) args s 1 (6 * 1) A) (F0 m 0 ls []) := by
  unfold fX9_needRun_0 at hf
  have C := CX.1
  refine lv_iload_n C.ex C.by dX9_needRun_0 rfl (lv_at hl 1 rfl) ?_
  refine lv_if_lt (tgt := 15) C.ex C.by dX9_needRun_1 (by decide) (fun c1 => ?_) (fun c1 => ?_)
  · have hf := zif_t c1 hf
    exact wX9_needRun_15 CX h (lv_sub hl [0] rfl) hf
  · have hf := zif_f c1 hf
    refine lv_iload_n C.ex C.by dX9_needRun_4 rfl (lv_at hl 1 rfl) ?_
    refine lv_aload_n C.ex C.by dX9_needRun_5 rfl (lv_at hl 0 rfl) ?_
    refine z_get (v := .ref (κ.2.1 33)) C h iwX9 0 (wC_at0 κ _) rfl 8 (by decide) lkC180 rfl dX9_needRun_6 ?_
    obtain ⟨q2, e3, hf⟩ := zb_some hf
    refine z_callRi (As := []) (x := (zI σ 32)) (f := (zA σ 16)) C h (ctX6_size (κ := zκR κ (κ.2.1 33) (κ.2.1 34) (κ.2.2.2 0)) e3) (zgV lkC181 lkC182 lkC183 lkC52 lkC184) ⟨rfl, rfl⟩ hdX6_size ⟨Nat.le_of_ble_eq_true rfl, Nat.le_of_ble_eq_true rfl⟩ 33 34 (by decide) (wC_at33 κ _) (wC_at34 κ _) σ (zset2 (wC_at33 κ _) (wC_at34 κ _)) hl rfl rfl (Nat.le_of_ble_eq_true rfl) dX9_needRun_9 ⟨Nat.le_of_ble_eq_true rfl, Nat.le_of_ble_eq_true rfl⟩ (fun H locs h => ?_)
    refine lv_icmp_lt (tgt := 26) C.ex C.by dX9_needRun_12 (by decide) (fun c4 => ?_) (fun c4 => ?_)
    · have hf := zif_t c4 hf
      cases hf
      exact z_tvret (k := 0) CX h (by decide) dX9_needRun_26
    · have hf := zif_f c4 hf
      exact wX9_needRun_15 CX h (lv_sub hl [0] rfl) hf
theorem ctX9_needRun {l : Launch} {κ : zG} {n : Nat} {σ : zS} {x1 : Int32} {r : (String ⊕ Unit)} (hl9 : l.stackTraces = false) (hf : fX9_needRun_0 n (κ.2.2.2 0) (κ.2.2.2 1) (κ.2.2.2 2) σ x1 = some r) : zTv l yX9_needRun (Cond.code yX9_needRun cX9_needRun 2 none) rmX9_needRun wC κ [.ref (κ.2.1 0), .int x1] σ 1 r σ :=
  zbodyX (Qz := fun A => zQtv wC κ A r σ) (Xz := fun A => zXc wC κ A r σ) (by decide) (Nat.le_of_ble_eq_true rfl) hl9 (fun p e s m below meth c A C h ls hl => wX9_needRun_0 C h hl hf)
theorem hdX9_records : yX9_records.cls = RX9 ∧ yX9_records.cls ≠ "java/lang/invoke/MethodHandle" ∧ yX9_records.cls ≠ "java/lang/invoke/VarHandle" ∧ (parseMethodDescriptor yX9_records.desc).map (fun d => d.parameters.length) = some 1 := by decide +kernel
abbrev rmX9_records : Room := { frames := 7, cells := 1, slots := 6, locals := 103 }
set_option maxRecDepth 20000 in
set_option maxHeartbeats 4000000 in
theorem wX9_records_0 {p : Program} {l : Launch} {e : Env} {s : State} {m : MethodId} {args : Array Value} {below : List Frame} {meth : Method} {c : Code} {A : Nat → Prop} {κ : zG} {H : Heap} {locs : List Loc} {ls : Array Slot} {n : Nat} {σ : zS} {x1 : Int32} {r : (String ⊕ Int32)} (CX : zCX cX9_records 2 (some .int) RX9 κ A p l s m args meth c) (h : zH wC κ A s σ H locs) (hl : lv_has ls 2 [(0, .ref (κ.2.1 0)), (1, .int x1)]) (hf : fX9_records_0 n (κ.2.2.2 0) (κ.2.2.2 1) (κ.2.2.2 2) σ x1 = some r) : W p l e rmX9_records s m args below meth c H locs 0 (6 * 0) (vx_MQ below (zQti wC κ A r σ) (zXc wC κ A r σ) args s 1 (6 * 1) A) (F0 m 0 ls []) := by
  unfold fX9_records_0 at hf
  have C := CX.1
  refine lv_iload_n C.ex C.by dX9_records_0 rfl (lv_at hl 1 rfl) ?_
  refine lv_iconst (v := (-1)) C.ex C.by dX9_records_1 (by decide) ?_
  refine lv_icmp_ne (tgt := 13) C.ex C.by dX9_records_2 (by decide) (fun c1 => ?_) (fun c1 => ?_)
  · have hf := zif_f c1 hf
    refine lv_aload_n C.ex C.by dX9_records_13 rfl (lv_at hl 0 rfl) ?_
    refine lv_iload_n C.ex C.by dX9_records_14 rfl (lv_at hl 1 rfl) ?_
    obtain ⟨q2, e3, hf⟩ := zb_some hf
    rcases q2 with E | q2
    · dsimp only [Sum.elim_inl] at hf
      cases hf
      exact z_callTv_x (k := 0) (mc' := 1) (As := [.int x1]) CX h (ctX9_needRun CX.2.1 e3) (zgV lkC427 lkC428 lkC429 lkC99 lkC430) ⟨rfl, rfl⟩ hdX9_needRun ⟨Nat.le_of_ble_eq_true rfl, Nat.le_of_ble_eq_true rfl⟩ 0 (wC_at0 κ _) rfl hl rfl rfl (Nat.le_of_ble_eq_true rfl) dX9_records_15 ⟨Nat.le_of_ble_eq_true rfl, Nat.le_of_ble_eq_true rfl⟩ (by decide)
    · dsimp only [Sum.elim_inr] at hf
      refine z_callTv (k := 0) (mc' := 1) (As := [.int x1]) CX h (ctX9_needRun CX.2.1 e3) (zgV lkC427 lkC428 lkC429 lkC99 lkC430) ⟨rfl, rfl⟩ hdX9_needRun ⟨Nat.le_of_ble_eq_true rfl, Nat.le_of_ble_eq_true rfl⟩ 0 (wC_at0 κ _) rfl hl rfl rfl (Nat.le_of_ble_eq_true rfl) dX9_records_15 ⟨Nat.le_of_ble_eq_true rfl, Nat.le_of_ble_eq_true rfl⟩ (fun H locs h => ?_)
      refine W.widen (k := 1) (n := 6 * 1) (by decide) (by decide) ?_
      refine lv_aload_n C.ex C.by dX9_records_18 rfl (lv_at hl 0 rfl) ?_
      refine z_get (v := .ref (κ.2.1 7)) C h iwX9 0 (wC_at0 κ _) rfl 2 (by decide) lkC6 rfl dX9_records_19 ?_
      refine lv_aload_n C.ex C.by dX9_records_22 rfl (lv_at hl 0 rfl) ?_
      refine z_get (v := .ref (κ.2.1 33)) C h iwX9 0 (wC_at0 κ _) rfl 8 (by decide) lkC180 rfl dX9_records_23 ?_
      refine lv_iload_n C.ex C.by dX9_records_26 rfl (lv_at hl 1 rfl) ?_
      obtain ⟨q4, e5, hf⟩ := zb_some hf
      refine z_callRi (As := [.int x1]) (x := (zI σ 32)) (f := (zA σ 16)) C h (ctX6_get (κ := zκR κ (κ.2.1 33) (κ.2.1 34) (κ.2.2.2 0)) e5) (zgV lkC193 lkC50 lkC51 lkC52 lkC53) ⟨rfl, rfl⟩ hdX6_get ⟨Nat.le_of_ble_eq_true rfl, Nat.le_of_ble_eq_true rfl⟩ 33 34 (by decide) (wC_at33 κ _) (wC_at34 κ _) σ (zset2 (wC_at33 κ _) (wC_at34 κ _)) hl rfl rfl (Nat.le_of_ble_eq_true rfl) dX9_records_27 ⟨Nat.le_of_ble_eq_true rfl, Nat.le_of_ble_eq_true rfl⟩ (fun H locs h => ?_)
      obtain ⟨q6, e7, hf⟩ := zb_some hf
      refine z_callVi (As := [.int q4]) C h (ctX1_heldBy e7) (zgV lkC271 lkC220 lkC221 lkC11 lkC222) ⟨rfl, rfl⟩ hdX1_heldBy ⟨Nat.le_of_ble_eq_true rfl, Nat.le_of_ble_eq_true rfl⟩ 7 (wC_at7 κ _) rfl hl rfl rfl (Nat.le_of_ble_eq_true rfl) dX9_records_30 ⟨Nat.le_of_ble_eq_true rfl, Nat.le_of_ble_eq_true rfl⟩ (fun H locs h => ?_)
      cases hf
      exact z_tiret (k := 1) CX h (by decide) dX9_records_33
  · have hf := zif_t c1 hf
    refine lv_aload_n C.ex C.by dX9_records_5 rfl (lv_at hl 0 rfl) ?_
    refine z_get (v := .ref (κ.2.1 10)) C h iwX9 0 (wC_at0 κ _) rfl 3 (by decide) lkC42 rfl dX9_records_6 ?_
    obtain ⟨q8, e9, hf⟩ := zb_some hf
    refine z_callVi (As := []) C h (ctX2_heldRecords e9) (zgV lkC342 lkC316 lkC317 lkC60 lkC318) ⟨rfl, rfl⟩ hdX2_heldRecords ⟨Nat.le_of_ble_eq_true rfl, Nat.le_of_ble_eq_true rfl⟩ 10 (wC_at10 κ _) rfl hl rfl rfl (Nat.le_of_ble_eq_true rfl) dX9_records_9 ⟨Nat.le_of_ble_eq_true rfl, Nat.le_of_ble_eq_true rfl⟩ (fun H locs h => ?_)
    cases hf
    exact z_tiret (k := 0) CX h (by decide) dX9_records_12
theorem ctX9_records {l : Launch} {κ : zG} {n : Nat} {σ : zS} {x1 : Int32} {r : (String ⊕ Int32)} (hl9 : l.stackTraces = false) (hf : fX9_records_0 n (κ.2.2.2 0) (κ.2.2.2 1) (κ.2.2.2 2) σ x1 = some r) : zTi l yX9_records (Cond.code yX9_records cX9_records 2 (some .int)) rmX9_records wC κ [.ref (κ.2.1 0), .int x1] σ 1 r σ :=
  zbodyX (Qz := fun A => zQti wC κ A r σ) (Xz := fun A => zXc wC κ A r σ) (by decide) (Nat.le_of_ble_eq_true rfl) hl9 (fun p e s m below meth c A C h ls hl => wX9_records_0 C h hl hf)
theorem hdX9_block : yX9_block.cls = RX9 ∧ yX9_block.cls ≠ "java/lang/invoke/MethodHandle" ∧ yX9_block.cls ≠ "java/lang/invoke/VarHandle" ∧ (parseMethodDescriptor yX9_block.desc).map (fun d => d.parameters.length) = some 2 := by decide +kernel
abbrev rmX9_block : Room := { frames := 7, cells := 2, slots := 12, locals := 103 }
set_option maxRecDepth 20000 in
set_option maxHeartbeats 4000000 in
theorem wX9_block_45 {p : Program} {l : Launch} {e : Env} {s : State} {m : MethodId} {args : Array Value} {below : List Frame} {meth : Method} {c : Code} {A : Nat → Prop} {κ : zG} {H : Heap} {locs : List Loc} {ls : Array Slot} {n : Nat} {σ : zS} {y0 : Int32} {r : (String ⊕ Int32)} (CX : zCX cX9_block 4 (some .int) RX9 κ A p l s m args meth c) (h : zH wC κ A s σ H locs) (hl : lv_has ls 4 [(0, .ref (κ.2.1 0))]) (hf : fX9_block_45 n (κ.2.2.2 0) (κ.2.2.2 1) (κ.2.2.2 2) σ y0 = some r) : W p l e rmX9_block s m args below meth c H locs 1 (6 * 1) (vx_MQ below (zQti wC κ A r σ) (zXc wC κ A r σ) args s 2 (6 * 2) A) (F0 m 45 ls [.int y0]) := by
  unfold fX9_block_45 at hf
  have C := CX.1
  refine lv_istore_n (lv' := [(3, .int y0), (0, .ref (κ.2.1 0))]) C.ex C.by dX9_block_45 rfl hl (by decide) rfl (fun ls hl => ?_)
  refine lv_iload_n C.ex C.by dX9_block_46 rfl (lv_at hl 0 rfl) ?_
  refine lv_iconst (v := (-1)) C.ex C.by dX9_block_47 (by decide) ?_
  refine lv_icmp_ne (tgt := 62) C.ex C.by dX9_block_48 (by decide) (fun c11 => ?_) (fun c11 => ?_)
  · have hf := zif_f c11 hf
    refine lv_iload_n C.ex C.by dX9_block_62 rfl (lv_at hl 0 rfl) ?_
    cases hf
    exact z_tiret (k := 1) CX h (by decide) dX9_block_63
  · have hf := zif_t c11 hf
    cases hf
    exact z_throwSW (k := 1) (text := "no such block") CX h (by decide) lkC354 lkC355 (by decide) (by decide) tg137 tb137 to137 hl dX9_block_51 dX9_block_54 dX9_block_55 dX9_block_58 dX9_block_61 ⟨Nat.le_of_ble_eq_true rfl, Nat.le_of_ble_eq_true rfl, Nat.le_of_ble_eq_true rfl, Nat.le_of_ble_eq_true rfl⟩ (by decide)
set_option maxRecDepth 20000 in
set_option maxHeartbeats 4000000 in
theorem wX9_block_10 {p : Program} {l : Launch} {e : Env} {s : State} {m : MethodId} {args : Array Value} {below : List Frame} {meth : Method} {c : Code} {A : Nat → Prop} {κ : zG} {H : Heap} {locs : List Loc} {ls : Array Slot} {n : Nat} {σ : zS} {x1 : Int32} {x2 : Int32} {r : (String ⊕ Int32)} (CX : zCX cX9_block 4 (some .int) RX9 κ A p l s m args meth c) (h : zH wC κ A s σ H locs) (hl : lv_has ls 4 [(0, .ref (κ.2.1 0)), (1, .int x1), (2, .int x2)]) (hf : fX9_block_10 n (κ.2.2.2 0) (κ.2.2.2 1) (κ.2.2.2 2) σ x1 x2 = some r) : W p l e rmX9_block s m args below meth c H locs 1 (6 * 1) (vx_MQ below (zQti wC κ A r σ) (zXc wC κ A r σ) args s 2 (6 * 2) A) (F0 m 10 ls []) := by
  unfold fX9_block_10 at hf
  have C := CX.1
  refine lv_iload_n C.ex C.by dX9_block_10 rfl (lv_at hl 1 rfl) ?_
  refine lv_iconst (v := (-1)) C.ex C.by dX9_block_11 (by decide) ?_
  refine lv_icmp_ne (tgt := 29) C.ex C.by dX9_block_12 (by decide) (fun c4 => ?_) (fun c4 => ?_)
  · have hf := zif_f c4 hf
    refine lv_aload_n C.ex C.by dX9_block_29 rfl (lv_at hl 0 rfl) ?_
    refine z_get (v := .ref (κ.2.1 7)) C h iwX9 0 (wC_at0 κ _) rfl 2 (by decide) lkC6 rfl dX9_block_30 ?_
    refine lv_aload_n C.ex C.by dX9_block_33 rfl (lv_at hl 0 rfl) ?_
    refine z_get (v := .ref (κ.2.1 33)) C h iwX9 0 (wC_at0 κ _) rfl 8 (by decide) lkC180 rfl dX9_block_34 ?_
    refine lv_iload_n C.ex C.by dX9_block_37 rfl (lv_at hl 1 rfl) ?_
    obtain ⟨q5, e6, hf⟩ := zb_some hf
    refine z_callRi (As := [.int x1]) (x := (zI σ 32)) (f := (zA σ 16)) C h (ctX6_get (κ := zκR κ (κ.2.1 33) (κ.2.1 34) (κ.2.2.2 0)) e6) (zgV lkC193 lkC50 lkC51 lkC52 lkC53) ⟨rfl, rfl⟩ hdX6_get ⟨Nat.le_of_ble_eq_true rfl, Nat.le_of_ble_eq_true rfl⟩ 33 34 (by decide) (wC_at33 κ _) (wC_at34 κ _) σ (zset2 (wC_at33 κ _) (wC_at34 κ _)) hl rfl rfl (Nat.le_of_ble_eq_true rfl) dX9_block_38 ⟨Nat.le_of_ble_eq_true rfl, Nat.le_of_ble_eq_true rfl⟩ (fun H locs h => ?_)
    refine lv_iload_n C.ex C.by dX9_block_41 rfl (lv_at hl 2 rfl) ?_
    obtain ⟨q7, e8, hf⟩ := zb_some hf
    refine z_callVi (As := [.int q5, .int x2]) C h (ctX1_blockAt e8) (zgV lkC13 lkC14 lkC15 lkC11 lkC16) ⟨rfl, rfl⟩ hdX1_blockAt ⟨Nat.le_of_ble_eq_true rfl, Nat.le_of_ble_eq_true rfl⟩ 7 (wC_at7 κ _) rfl hl rfl rfl (Nat.le_of_ble_eq_true rfl) dX9_block_42 ⟨Nat.le_of_ble_eq_true rfl, Nat.le_of_ble_eq_true rfl⟩ (fun H locs h => ?_)
    exact wX9_block_45 CX h (lv_sub hl [0] rfl) hf
  · have hf := zif_t c4 hf
    refine lv_aload_n C.ex C.by dX9_block_15 rfl (lv_at hl 0 rfl) ?_
    refine z_get (v := .ref (κ.2.1 10)) C h iwX9 0 (wC_at0 κ _) rfl 3 (by decide) lkC42 rfl dX9_block_16 ?_
    refine z_getN (v := .ref (κ.2.1 11)) C h iwX2 10 (wC_at10 κ _) rfl 2 (by decide) nkC22 rfl dX9_block_19 ?_
    refine lv_iload_n C.ex C.by dX9_block_22 rfl (lv_at hl 2 rfl) ?_
    obtain ⟨q9, e10, hf⟩ := zb_some hf
    refine z_callRi (As := [.int x2]) (x := (zI σ 17)) (f := (zA σ 5)) C h (ctX6_get (κ := zκR κ (κ.2.1 11) (κ.2.1 12) (κ.2.2.2 0)) e10) (zgV lkC193 lkC50 lkC51 lkC52 lkC53) ⟨rfl, rfl⟩ hdX6_get ⟨Nat.le_of_ble_eq_true rfl, Nat.le_of_ble_eq_true rfl⟩ 11 12 (by decide) (wC_at11 κ _) (wC_at12 κ _) σ (zset2 (wC_at11 κ _) (wC_at12 κ _)) hl rfl rfl (Nat.le_of_ble_eq_true rfl) dX9_block_23 ⟨Nat.le_of_ble_eq_true rfl, Nat.le_of_ble_eq_true rfl⟩ (fun H locs h => ?_)
    refine lv_goto (tgt := 45) C.ex C.by dX9_block_26 (by decide) ?_
    exact wX9_block_45 CX h (lv_sub hl [0] rfl) hf
set_option maxRecDepth 20000 in
set_option maxHeartbeats 4000000 in
theorem wX9_block_0 {p : Program} {l : Launch} {e : Env} {s : State} {m : MethodId} {args : Array Value} {below : List Frame} {meth : Method} {c : Code} {A : Nat → Prop} {κ : zG} {H : Heap} {locs : List Loc} {ls : Array Slot} {n : Nat} {σ : zS} {x1 : Int32} {x2 : Int32} {r : (String ⊕ Int32)} (CX : zCX cX9_block 4 (some .int) RX9 κ A p l s m args meth c) (h : zH wC κ A s σ H locs) (hl : lv_has ls 4 [(0, .ref (κ.2.1 0)), (1, .int x1), (2, .int x2)]) (hf : fX9_block_0 n (κ.2.2.2 0) (κ.2.2.2 1) (κ.2.2.2 2) σ x1 x2 = some r) : W p l e rmX9_block s m args below meth c H locs 0 (6 * 0) (vx_MQ below (zQti wC κ A r σ) (zXc wC κ A r σ) args s 2 (6 * 2) A) (F0 m 0 ls []) := by
  unfold fX9_block_0 at hf
  have C := CX.1
  refine lv_iload_n C.ex C.by dX9_block_0 rfl (lv_at hl 1 rfl) ?_
  refine lv_iconst (v := (-1)) C.ex C.by dX9_block_1 (by decide) ?_
  refine lv_icmp_eq (tgt := 10) C.ex C.by dX9_block_2 (by decide) (fun c1 => ?_) (fun c1 => ?_)
  · have hf := zif_t c1 hf
    refine W.widen (k := 1) (n := 6 * 1) (by decide) (by decide) ?_
    exact wX9_block_10 CX h hl hf
  · have hf := zif_f c1 hf
    refine lv_aload_n C.ex C.by dX9_block_5 rfl (lv_at hl 0 rfl) ?_
    refine lv_iload_n C.ex C.by dX9_block_6 rfl (lv_at hl 1 rfl) ?_
    obtain ⟨q2, e3, hf⟩ := zb_some hf
    rcases q2 with E | q2
    · dsimp only [Sum.elim_inl] at hf
      cases hf
      exact z_callTv_x (k := 0) (mc' := 1) (As := [.int x1]) CX h (ctX9_needRun CX.2.1 e3) (zgV lkC427 lkC428 lkC429 lkC99 lkC430) ⟨rfl, rfl⟩ hdX9_needRun ⟨Nat.le_of_ble_eq_true rfl, Nat.le_of_ble_eq_true rfl⟩ 0 (wC_at0 κ _) rfl hl rfl rfl (Nat.le_of_ble_eq_true rfl) dX9_block_7 ⟨Nat.le_of_ble_eq_true rfl, Nat.le_of_ble_eq_true rfl⟩ (by decide)
    · dsimp only [Sum.elim_inr] at hf
      refine z_callTv (k := 0) (mc' := 1) (As := [.int x1]) CX h (ctX9_needRun CX.2.1 e3) (zgV lkC427 lkC428 lkC429 lkC99 lkC430) ⟨rfl, rfl⟩ hdX9_needRun ⟨Nat.le_of_ble_eq_true rfl, Nat.le_of_ble_eq_true rfl⟩ 0 (wC_at0 κ _) rfl hl rfl rfl (Nat.le_of_ble_eq_true rfl) dX9_block_7 ⟨Nat.le_of_ble_eq_true rfl, Nat.le_of_ble_eq_true rfl⟩ (fun H locs h => ?_)
      refine W.widen (k := 1) (n := 6 * 1) (by decide) (by decide) ?_
      exact wX9_block_10 CX h hl hf
theorem ctX9_block {l : Launch} {κ : zG} {n : Nat} {σ : zS} {x1 : Int32} {x2 : Int32} {r : (String ⊕ Int32)} (hl9 : l.stackTraces = false) (hf : fX9_block_0 n (κ.2.2.2 0) (κ.2.2.2 1) (κ.2.2.2 2) σ x1 x2 = some r) : zTi l yX9_block (Cond.code yX9_block cX9_block 4 (some .int)) rmX9_block wC κ [.ref (κ.2.1 0), .int x1, .int x2] σ 2 r σ :=
  zbodyX (Qz := fun A => zQti wC κ A r σ) (Xz := fun A => zXc wC κ A r σ) (by decide) (Nat.le_of_ble_eq_true rfl) hl9 (fun p e s m below meth c A C h ls hl => wX9_block_0 C h hl hf)
