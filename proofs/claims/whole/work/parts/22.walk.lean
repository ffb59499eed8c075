theorem hdX10_isIn : yX10_isIn.cls = RX10 ∧ yX10_isIn.cls ≠ "java/lang/invoke/MethodHandle" ∧ yX10_isIn.cls ≠ "java/lang/invoke/VarHandle" ∧ (parseMethodDescriptor yX10_isIn.desc).map (fun d => d.parameters.length) = some 3 := by decide +kernel
abbrev rmX10_isIn : Room := { frames := 0, cells := 0, slots := 0, locals := 0 }
set_option maxRecDepth 20000 in
set_option maxHeartbeats 4000000 in
theorem wX10_isIn_0 {p : Program} {l : Launch} {e : Env} {s : State} {m : MethodId} {args : Array Value} {below : List Frame} {meth : Method} {c : Code} {A : Nat → Prop} {κ : zG} {H : Heap} {locs : List Loc} {ls : Array Slot} {n : Nat} {σ : zS} {x0 : Int32} {x1 : Int32} {x2 : Int32} {r : Int32} (C : zC cX10_isIn 3 (some .boolean) RX10 κ A p s m args meth c) (h : zH w0 κ A s σ H locs) (hl : lv_has ls 3 [(0, .int x0), (1, .int x1), (2, .int x2)]) (hf : fX10_isIn_0 n σ x0 x1 x2 = some r) : W p l e rmX10_isIn s m args below meth c H locs 0 0 (MQ below (zQi w0 κ A r σ) args s 0 0 A) (F0 m 0 ls []) := by
  unfold fX10_isIn_0 at hf
  refine lv_iload_n C.ex C.by dX10_isIn_0 rfl (lv_at hl 0 rfl) ?_
  refine lv_iload_n C.ex C.by dX10_isIn_1 rfl (lv_at hl 1 rfl) ?_
  refine lv_icmp_lt (tgt := 14) C.ex C.by dX10_isIn_2 (by decide) (fun c1 => ?_) (fun c1 => ?_)
  · have hf := zif_t c1 hf
    refine lv_iconst (v := 0) C.ex C.by dX10_isIn_14 (by decide) ?_
    cases hf
    exact z_zret (r := 0) C h rfl dX10_isIn_15
  · have hf := zif_f c1 hf
    refine lv_iload_n C.ex C.by dX10_isIn_5 rfl (lv_at hl 0 rfl) ?_
    refine lv_iload_n C.ex C.by dX10_isIn_6 rfl (lv_at hl 2 rfl) ?_
    refine lv_icmp_gt (tgt := 14) C.ex C.by dX10_isIn_7 (by decide) (fun c2 => ?_) (fun c2 => ?_)
    · have hf := zif_t c2 hf
      refine lv_iconst (v := 0) C.ex C.by dX10_isIn_14 (by decide) ?_
      cases hf
      exact z_zret (r := 0) C h rfl dX10_isIn_15
    · have hf := zif_f c2 hf
      refine lv_iconst (v := 1) C.ex C.by dX10_isIn_10 (by decide) ?_
      refine lv_goto (tgt := 15) C.ex C.by dX10_isIn_11 (by decide) ?_
      cases hf
      exact z_zret (r := 1) C h rfl dX10_isIn_15
theorem ctX10_isIn {l : Launch} {κ : zG} {n : Nat} {σ : zS} {x0 : Int32} {x1 : Int32} {x2 : Int32} {r : Int32} (hf : fX10_isIn_0 n σ x0 x1 x2 = some r) : zMi l yX10_isIn (Cond.code yX10_isIn cX10_isIn 3 (some .boolean)) rmX10_isIn w0 κ [.int x0, .int x1, .int x2] σ r σ :=
  zMi_of (by decide) (Nat.le_of_ble_eq_true rfl) (fun p e s m below meth c A C h ls hl => wX10_isIn_0 C h hl hf)
theorem hdX10_width : yX10_width.cls = RX10 ∧ yX10_width.cls ≠ "java/lang/invoke/MethodHandle" ∧ yX10_width.cls ≠ "java/lang/invoke/VarHandle" ∧ (parseMethodDescriptor yX10_width.desc).map (fun d => d.parameters.length) = some 1 := by decide +kernel
abbrev rmX10_width : Room := { frames := 1, cells := 0, slots := 0, locals := 22 }
set_option maxRecDepth 20000 in
set_option maxHeartbeats 4000000 in
theorem wX10_width_47 {p : Program} {l : Launch} {e : Env} {s : State} {m : MethodId} {args : Array Value} {below : List Frame} {meth : Method} {c : Code} {A : Nat → Prop} {κ : zG} {H : Heap} {locs : List Loc} {ls : Array Slot} {n : Nat} {σ : zS} {x1 : Int32} {y0 : Int32} {r : zS} (C : zC cX10_width 2 none RX10 κ A p s m args meth c) (h : zH wM κ A s σ H locs) (hl : lv_has ls 2 [(0, .ref (κ.2.1 0)), (1, .int x1)]) (hf : fX10_width_47 n σ x1 y0 = some r) : W p l e rmX10_width s m args below meth c H locs 0 0 (MQ below (zQv wM κ A r) args s 0 0 A) (F0 m 47 ls [.int y0, .ref (κ.2.1 0)]) := by
  unfold fX10_width_47 at hf
  refine z_put C h iwX10 tyX10_ok nmX10 0 (wM_at0 κ _) rfl 0 (by decide) lkM8 rfl rfl rfl (Nat.le_of_ble_eq_true rfl) (sI σ 0 y0) (wM_s0_0 κ _ _) dX10_width_47 (fun H locs h => ?_)
  refine lv_aload_n C.ex C.by dX10_width_50 rfl (lv_at hl 0 rfl) ?_
  refine z_get (v := .int y0) C h iwX10 0 (wM_at0 κ _) rfl 0 (by decide) lkM8 rfl dX10_width_51 ?_
  refine lv_if_le (tgt := 58) C.ex C.by dX10_width_54 (by decide) (fun c8 => ?_) (fun c8 => ?_)
  · have hf := zif_t c8 hf
    refine lv_aload_n C.ex C.by dX10_width_58 rfl (lv_at hl 0 rfl) ?_
    refine lv_iload_n C.ex C.by dX10_width_59 rfl (lv_at hl 1 rfl) ?_
    refine z_put C h iwX10 tyX10_ok nmX10 0 (wM_at0 κ _) rfl 16 (by decide) lkM9 rfl rfl rfl (Nat.le_of_ble_eq_true rfl) (sI (sI σ 0 y0) 6 x1) (wM_s0_16 κ _ _) dX10_width_60 (fun H locs h => ?_)
    refine lv_aload_n C.ex C.by dX10_width_63 rfl (lv_at hl 0 rfl) ?_
    refine lv_iconst (v := 0) C.ex C.by dX10_width_64 (by decide) ?_
    refine z_put C h iwX10 tyX10_ok nmX10 0 (wM_at0 κ _) rfl 19 (by decide) lkM10 rfl rfl rfl (Nat.le_of_ble_eq_true rfl) (sI (sI (sI σ 0 y0) 6 x1) 7 0) (wM_s0_19 κ _ _) dX10_width_65 (fun H locs h => ?_)
    cases hf
    exact z_vret C h dX10_width_68
  · have hf := zif_f c8 hf
    cases hf
    exact z_vret C h dX10_width_57
set_option maxRecDepth 20000 in
set_option maxHeartbeats 4000000 in
theorem wX10_width_42 {p : Program} {l : Launch} {e : Env} {s : State} {m : MethodId} {args : Array Value} {below : List Frame} {meth : Method} {c : Code} {A : Nat → Prop} {κ : zG} {H : Heap} {locs : List Loc} {ls : Array Slot} {n : Nat} {σ : zS} {x1 : Int32} {r : zS} (C : zC cX10_width 2 none RX10 κ A p s m args meth c) (h : zH wM κ A s σ H locs) (hl : lv_has ls 2 [(0, .ref (κ.2.1 0)), (1, .int x1)]) (hf : fX10_width_42 n σ x1 = some r) : W p l e rmX10_width s m args below meth c H locs 0 0 (MQ below (zQv wM κ A r) args s 0 0 A) (F0 m 42 ls [.ref (κ.2.1 0)]) := by
  unfold fX10_width_42 at hf
  refine lv_iconst (v := 2) C.ex C.by dX10_width_42 (by decide) ?_
  refine lv_goto (tgt := 47) C.ex C.by dX10_width_43 (by decide) ?_
  exact wX10_width_47 C h hl hf
set_option maxRecDepth 20000 in
set_option maxHeartbeats 4000000 in
theorem wX10_width_0 {p : Program} {l : Launch} {e : Env} {s : State} {m : MethodId} {args : Array Value} {below : List Frame} {meth : Method} {c : Code} {A : Nat → Prop} {κ : zG} {H : Heap} {locs : List Loc} {ls : Array Slot} {n : Nat} {σ : zS} {x1 : Int32} {r : zS} (C : zC cX10_width 2 none RX10 κ A p s m args meth c) (h : zH wM κ A s σ H locs) (hl : lv_has ls 2 [(0, .ref (κ.2.1 0)), (1, .int x1)]) (hf : fX10_width_0 n σ x1 = some r) : W p l e rmX10_width s m args below meth c H locs 0 0 (MQ below (zQv wM κ A r) args s 0 0 A) (F0 m 0 ls []) := by
  unfold fX10_width_0 at hf
  refine lv_aload_n C.ex C.by dX10_width_0 rfl (lv_at hl 0 rfl) ?_
  refine lv_iload_n C.ex C.by dX10_width_1 rfl (lv_at hl 1 rfl) ?_
  refine lv_iconst (v := 1) C.ex C.by dX10_width_2 (by decide) ?_
  refine lv_iconst (v := 4) C.ex C.by dX10_width_3 (by decide) ?_
  obtain ⟨q1, e2, hf⟩ := zb_some hf
  refine z_callSi (As := [.int x1, .int 1, .int 4]) C h (ctX10_isIn e2) (zgS lkM0 lkM1 lkM2 lkM3) ⟨rfl, rfl⟩ hdX10_isIn ⟨Nat.le_of_ble_eq_true rfl, Nat.le_of_ble_eq_true rfl⟩ hl rfl rfl (Nat.le_of_ble_eq_true rfl) dX10_width_4 ⟨Nat.zero_le _, Nat.zero_le _⟩ (fun H locs h => ?_)
  refine lv_if_ne (tgt := 14) C.ex C.by dX10_width_7 (by decide) (fun c3 => ?_) (fun c3 => ?_)
  · have hf := zif_f c3 hf
    refine lv_aload_n C.ex C.by dX10_width_14 rfl (lv_at hl 0 rfl) ?_
    refine z_get (v := .int (zI σ 16)) C h iwX10 0 (wM_at0 κ _) rfl 28 (by decide) lkM4 rfl dX10_width_15 ?_
    refine lv_if_ne (tgt := 42) C.ex C.by dX10_width_18 (by decide) (fun c4 => ?_) (fun c4 => ?_)
    · have hf := zif_f c4 hf
      exact wX10_width_42 C h hl hf
    · have hf := zif_t c4 hf
      refine lv_aload_n C.ex C.by dX10_width_21 rfl (lv_at hl 0 rfl) ?_
      refine z_get (v := .int (zI σ 4)) C h iwX10 0 (wM_at0 κ _) rfl 13 (by decide) lkM5 rfl dX10_width_22 ?_
      refine lv_if_gt (tgt := 42) C.ex C.by dX10_width_25 (by decide) (fun c5 => ?_) (fun c5 => ?_)
      · have hf := zif_t c5 hf
        exact wX10_width_42 C h hl hf
      · have hf := zif_f c5 hf
        refine lv_aload_n C.ex C.by dX10_width_28 rfl (lv_at hl 0 rfl) ?_
        refine z_get (v := .ref (κ.2.1 7)) C h iwX10 0 (wM_at0 κ _) rfl 10 (by decide) lkM6 rfl dX10_width_29 ?_
        refine lv_iconst (v := 0) C.ex C.by dX10_width_32 (by decide) ?_
        obtain ⟨h6, hf⟩ := zg_some hf
        refine z_iald (f := (zA σ 5)) C h 7 (wM_at7 κ _) h6 dX10_width_33 ?_
        refine lv_aload_n C.ex C.by dX10_width_34 rfl (lv_at hl 0 rfl) ?_
        refine z_get (v := .int (zI σ 5)) C h iwX10 0 (wM_at0 κ _) rfl 15 (by decide) lkM7 rfl dX10_width_35 ?_
        refine lv_iadd C.ex C.by dX10_width_38 ?_
        refine lv_if_le (tgt := 46) C.ex C.by dX10_width_39 (by decide) (fun c7 => ?_) (fun c7 => ?_)
        · have hf := zif_t c7 hf
          refine lv_iconst (v := 0) C.ex C.by dX10_width_46 (by decide) ?_
          exact wX10_width_47 C h hl hf
        · have hf := zif_f c7 hf
          exact wX10_width_42 C h hl hf
  · have hf := zif_t c3 hf
    refine lv_iconst (v := 1) C.ex C.by dX10_width_10 (by decide) ?_
    refine lv_goto (tgt := 47) C.ex C.by dX10_width_11 (by decide) ?_
    exact wX10_width_47 C h hl hf
theorem ctX10_width {l : Launch} {κ : zG} {n : Nat} {σ : zS} {x1 : Int32} {r : zS} (hf : fX10_width_0 n σ x1 = some r) : zMv l yX10_width (Cond.code yX10_width cX10_width 2 none) rmX10_width wM κ [.ref (κ.2.1 0), .int x1] σ r :=
  zMv_of (by decide) (Nat.le_of_ble_eq_true rfl) (fun p e s m below meth c A C h ls hl => wX10_width_0 C h hl hf)
theorem hdX10_key : yX10_key.cls = RX10 ∧ yX10_key.cls ≠ "java/lang/invoke/MethodHandle" ∧ yX10_key.cls ≠ "java/lang/invoke/VarHandle" ∧ (parseMethodDescriptor yX10_key.desc).map (fun d => d.parameters.length) = some 2 := by decide +kernel
abbrev rmX10_key : Room := { frames := 1, cells := 0, slots := 0, locals := 22 }
set_option maxRecDepth 20000 in
set_option maxHeartbeats 4000000 in
theorem wX10_key_L5_34 {p : Program} {l : Launch} {e : Env} {s : State} {m : MethodId} {args : Array Value} {below : List Frame} {meth : Method} {c : Code} {A : Nat → Prop} {κ : zG} {H : Heap} {locs : List Loc} {ls : Array Slot} {Q : State → Prop} {n : Nat} {σ : zS} {k1 : Int32} {k2 : Int32} {x4 : Int32} {y0 : Int32} {r : (Int32 × Int32) ⊕ (Int32)} (C : zC cX10_key 5 (some .int) RX10 κ A p s m args meth c) (h : zH wM κ A s σ H locs) (hl : lv_has ls 5 [(0, .ref (κ.2.1 0)), (1, .int k1), (2, .int k2), (4, .int x4)]) (hf : fX10_key_L5_34 n σ k1 k2 x4 y0 = some r) (Kc : ∀ (v3 : Int32) (v4 : Int32), r = .inl (v3, v4) → ∀ (H : Heap) (locs : List Loc) (ls : Array Slot), zH wM κ A s σ H locs → lv_has ls 5 [(0, .ref (κ.2.1 0)), (1, .int k1), (2, .int k2), (3, .int v3), (4, .int v4)] → W p l e rmX10_key s m args below meth c H locs 0 0 Q (F0 m 5 ls [])) (Ke0 : ∀ (v3 : Int32), r = .inr v3 → ∀ (H : Heap) (locs : List Loc) (ls : Array Slot), zH wM κ A s σ H locs → lv_has ls 5 [(0, .ref (κ.2.1 0)), (1, .int k1), (2, .int k2), (3, .int v3)] → W p l e rmX10_key s m args below meth c H locs 0 0 Q (F0 m 41 ls [])) : W p l e rmX10_key s m args below meth c H locs 0 0 Q (F0 m 34 ls [.int y0]) := by
  unfold fX10_key_L5_34 at hf
  refine lv_istore_n (lv' := [(3, .int y0), (0, .ref (κ.2.1 0)), (1, .int k1), (2, .int k2), (4, .int x4)]) C.ex C.by dX10_key_34 rfl hl (by decide) rfl (fun ls hl => ?_)
  refine lv_iinc (v := (x4 + 1)) (lv' := [(4, .int (x4 + 1)), (3, .int y0), (0, .ref (κ.2.1 0)), (1, .int k1), (2, .int k2)]) C.ex C.by dX10_key_35 hl (k := 4) rfl rfl (by decide) rfl (fun ls hl => ?_)
  refine lv_goto (tgt := 5) C.ex C.by dX10_key_38 (by decide) ?_
  exact Kc _ _ (Option.some.inj hf).symm _ _ _ h (lv_sub hl [2, 3, 4, 1, 0] rfl)
set_option maxRecDepth 20000 in
set_option maxHeartbeats 4000000 in
theorem wX10_key_L5_29 {p : Program} {l : Launch} {e : Env} {s : State} {m : MethodId} {args : Array Value} {below : List Frame} {meth : Method} {c : Code} {A : Nat → Prop} {κ : zG} {H : Heap} {locs : List Loc} {ls : Array Slot} {Q : State → Prop} {n : Nat} {σ : zS} {k1 : Int32} {k2 : Int32} {x4 : Int32} {r : (Int32 × Int32) ⊕ (Int32)} (C : zC cX10_key 5 (some .int) RX10 κ A p s m args meth c) (h : zH wM κ A s σ H locs) (hl : lv_has ls 5 [(0, .ref (κ.2.1 0)), (1, .int k1), (2, .int k2), (4, .int x4)]) (hf : fX10_key_L5_29 n σ k1 k2 x4 = some r) (Kc : ∀ (v3 : Int32) (v4 : Int32), r = .inl (v3, v4) → ∀ (H : Heap) (locs : List Loc) (ls : Array Slot), zH wM κ A s σ H locs → lv_has ls 5 [(0, .ref (κ.2.1 0)), (1, .int k1), (2, .int k2), (3, .int v3), (4, .int v4)] → W p l e rmX10_key s m args below meth c H locs 0 0 Q (F0 m 5 ls [])) (Ke0 : ∀ (v3 : Int32), r = .inr v3 → ∀ (H : Heap) (locs : List Loc) (ls : Array Slot), zH wM κ A s σ H locs → lv_has ls 5 [(0, .ref (κ.2.1 0)), (1, .int k1), (2, .int k2), (3, .int v3)] → W p l e rmX10_key s m args below meth c H locs 0 0 Q (F0 m 41 ls [])) : W p l e rmX10_key s m args below meth c H locs 0 0 Q (F0 m 29 ls []) := by
  unfold fX10_key_L5_29 at hf
  refine lv_iconst (v := 1) C.ex C.by dX10_key_29 (by decide) ?_
  refine lv_goto (tgt := 34) C.ex C.by dX10_key_30 (by decide) ?_
  exact wX10_key_L5_34 C h hl hf Kc Ke0
set_option maxRecDepth 20000 in
set_option maxHeartbeats 4000000 in
theorem wX10_key_L5_5 {p : Program} {l : Launch} {e : Env} {s : State} {m : MethodId} {args : Array Value} {below : List Frame} {meth : Method} {c : Code} {A : Nat → Prop} {κ : zG} {H : Heap} {locs : List Loc} {ls : Array Slot} {Q : State → Prop} {n : Nat} {σ : zS} {k1 : Int32} {k2 : Int32} {a : Int32 × Int32} {r : (Int32 × Int32) ⊕ (Int32)} (C : zC cX10_key 5 (some .int) RX10 κ A p s m args meth c) (h : zH wM κ A s σ H locs) (hl : lv_has ls 5 [(0, .ref (κ.2.1 0)), (1, .int k1), (2, .int k2), (3, .int a.1), (4, .int a.2)]) (hf : fX10_key_L5_5 n σ k1 k2 a = some r) (Kc : ∀ (v3 : Int32) (v4 : Int32), r = .inl (v3, v4) → ∀ (H : Heap) (locs : List Loc) (ls : Array Slot), zH wM κ A s σ H locs → lv_has ls 5 [(0, .ref (κ.2.1 0)), (1, .int k1), (2, .int k2), (3, .int v3), (4, .int v4)] → W p l e rmX10_key s m args below meth c H locs 0 0 Q (F0 m 5 ls [])) (Ke0 : ∀ (v3 : Int32), r = .inr v3 → ∀ (H : Heap) (locs : List Loc) (ls : Array Slot), zH wM κ A s σ H locs → lv_has ls 5 [(0, .ref (κ.2.1 0)), (1, .int k1), (2, .int k2), (3, .int v3)] → W p l e rmX10_key s m args below meth c H locs 0 0 Q (F0 m 41 ls [])) : W p l e rmX10_key s m args below meth c H locs 0 0 Q (F0 m 5 ls []) := by
  unfold fX10_key_L5_5 at hf
  refine lv_iload C.ex C.by dX10_key_5 (lv_at hl 4 rfl) ?_
  refine lv_aload_n C.ex C.by dX10_key_7 rfl (lv_at hl 0 rfl) ?_
  refine z_get (v := .int (zI σ 7)) C h iwX10 0 (wM_at0 κ _) rfl 19 (by decide) lkM10 rfl dX10_key_8 ?_
  refine lv_icmp_ge (tgt := 41) C.ex C.by dX10_key_11 (by decide) (fun c1 => ?_) (fun c1 => ?_)
  · have hf := zif_t c1 hf
    exact Ke0 _ (Option.some.inj hf).symm _ _ _ h (lv_sub hl [0, 1, 2, 3] rfl)
  · have hf := zif_f c1 hf
    refine lv_iload_n C.ex C.by dX10_key_14 rfl (lv_at hl 3 rfl) ?_
    refine lv_if_ne (tgt := 29) C.ex C.by dX10_key_15 (by decide) (fun c2 => ?_) (fun c2 => ?_)
    · have hf := zif_f c2 hf
      exact wX10_key_L5_29 C h (lv_sub hl [0, 1, 2, 4] rfl) hf Kc Ke0
    · have hf := zif_t c2 hf
      refine lv_aload_n C.ex C.by dX10_key_18 rfl (lv_at hl 0 rfl) ?_
      refine z_get (v := .ref (κ.2.1 11)) C h iwX10 0 (wM_at0 κ _) rfl 17 (by decide) lkM11 rfl dX10_key_19 ?_
      refine lv_iload C.ex C.by dX10_key_22 (lv_at hl 4 rfl) ?_
      obtain ⟨h3, hf⟩ := zg_some hf
      refine z_iald (f := (zA σ 8)) C h 11 (wM_at11 κ _) h3 dX10_key_24 ?_
      refine lv_iload_n C.ex C.by dX10_key_25 rfl (lv_at hl 1 rfl) ?_
      refine lv_icmp_ne (tgt := 33) C.ex C.by dX10_key_26 (by decide) (fun c4 => ?_) (fun c4 => ?_)
      · have hf := zif_f c4 hf
        refine lv_iconst (v := 0) C.ex C.by dX10_key_33 (by decide) ?_
        exact wX10_key_L5_34 C h (lv_sub hl [0, 1, 2, 4] rfl) hf Kc Ke0
      · have hf := zif_t c4 hf
        exact wX10_key_L5_29 C h (lv_sub hl [0, 1, 2, 4] rfl) hf Kc Ke0
theorem wlX10_key_5 {p : Program} {l : Launch} {e : Env} {s : State} {m : MethodId} {args : Array Value} {below : List Frame} {meth : Method} {c : Code} {A : Nat → Prop} {κ : zG} {H : Heap} {locs : List Loc} {ls : Array Slot} {Q : State → Prop} {n : Nat} {σ : zS} {k1 : Int32} {k2 : Int32} {k0 : Nat} {u3 : Int32} {u4 : Int32} (C : zC cX10_key 5 (some .int) RX10 κ A p s m args meth c) (h : zH wM κ A s σ H locs) (hl : lv_has ls 5 [(0, .ref (κ.2.1 0)), (1, .int k1), (2, .int k2), (3, .int u3), (4, .int u4)]) (b : Int32) (hb : zlp (fX10_key_L5_5 n σ k1 k2) k0 (u3, u4) = some b) (K : (fun b : Int32 => ∀ (H : Heap) (locs : List Loc) (ls : Array Slot), zH wM κ A s σ H locs → lv_has ls 5 [(0, .ref (κ.2.1 0)), (1, .int k1), (2, .int k2), (3, .int b)] → W p l e rmX10_key s m args below meth c H locs 0 0 Q (F0 m 41 ls [])) b) : W p l e rmX10_key s m args below meth c H locs 0 0 Q (F0 m 5 ls []) :=
  z_loop (body := fX10_key_L5_5 n σ k1 k2) (Wd := (fun a : Int32 × Int32 => ∀ (H : Heap) (locs : List Loc) (ls : Array Slot), zH wM κ A s σ H locs → lv_has ls 5 [(0, .ref (κ.2.1 0)), (1, .int k1), (2, .int k2), (3, .int a.1), (4, .int a.2)] → W p l e rmX10_key s m args below meth c H locs 0 0 Q (F0 m 5 ls []))) (Ex := (fun b : Int32 => (fun b : Int32 => ∀ (H : Heap) (locs : List Loc) (ls : Array Slot), zH wM κ A s σ H locs → lv_has ls 5 [(0, .ref (κ.2.1 0)), (1, .int k1), (2, .int k2), (3, .int b)] → W p l e rmX10_key s m args below meth c H locs 0 0 Q (F0 m 41 ls [])) b)) (fun a r hr Kc Ke H locs ls h hl => wX10_key_L5_5 C h hl hr (fun v3 v4 e => Kc (v3, v4) e) (fun v3 e => Ke v3 e)) k0 (u3, u4) b hb K H locs ls h hl
set_option maxRecDepth 20000 in
set_option maxHeartbeats 4000000 in
theorem wX10_key_87 {p : Program} {l : Launch} {e : Env} {s : State} {m : MethodId} {args : Array Value} {below : List Frame} {meth : Method} {c : Code} {A : Nat → Prop} {κ : zG} {H : Heap} {locs : List Loc} {ls : Array Slot} {n : Nat} {σ : zS} {x1 : Int32} {x2 : Int32} {y0 : Int32} {r1 : Int32} {r2 : zS} (C : zC cX10_key 5 (some .int) RX10 κ A p s m args meth c) (h : zH wM κ A s σ H locs) (hl : lv_has ls 5 [(0, .ref (κ.2.1 0)), (1, .int x1), (2, .int x2)]) (hf : fX10_key_87 n σ x1 x2 y0 = some (r1, r2)) : W p l e rmX10_key s m args below meth c H locs 0 0 (MQ below (zQi wM κ A r1 r2) args s 0 0 A) (F0 m 87 ls [.int y0, .ref (κ.2.1 0)]) := by
  unfold fX10_key_87 at hf
  refine z_put C h iwX10 tyX10_ok nmX10 0 (wM_at0 κ _) rfl 0 (by decide) lkM8 rfl rfl rfl (Nat.le_of_ble_eq_true rfl) (sI σ 0 y0) (wM_s0_0 κ _ _) dX10_key_87 (fun H locs h => ?_)
  refine lv_aload_n C.ex C.by dX10_key_90 rfl (lv_at hl 0 rfl) ?_
  refine z_get (v := .int y0) C h iwX10 0 (wM_at0 κ _) rfl 0 (by decide) lkM8 rfl dX10_key_91 ?_
  refine lv_if_le (tgt := 99) C.ex C.by dX10_key_94 (by decide) (fun c13 => ?_) (fun c13 => ?_)
  · have hf := zif_t c13 hf
    refine lv_aload_n C.ex C.by dX10_key_99 rfl (lv_at hl 0 rfl) ?_
    refine z_get (v := .ref (κ.2.1 11)) C h iwX10 0 (wM_at0 κ _) rfl 17 (by decide) lkM11 rfl dX10_key_100 ?_
    refine lv_aload_n C.ex C.by dX10_key_103 rfl (lv_at hl 0 rfl) ?_
    refine z_get (v := .int (zI σ 7)) C h iwX10 0 (wM_at0 κ _) rfl 19 (by decide) lkM10 rfl dX10_key_104 ?_
    refine lv_iload_n C.ex C.by dX10_key_107 rfl (lv_at hl 1 rfl) ?_
    obtain ⟨h14, hf⟩ := zg_some hf
    refine z_iast (f := (zA σ 8)) C h 11 (wM_at11 κ _) h14 (sA (sI σ 0 y0) 8 (upd (zA σ 8) (Int32.toNatClampNeg (zI σ 7)) x1)) (wM_s11 κ _ _) dX10_key_108 (fun H locs h => ?_)
    refine lv_aload_n C.ex C.by dX10_key_109 rfl (lv_at hl 0 rfl) ?_
    refine z_get (v := .ref (κ.2.1 12)) C h iwX10 0 (wM_at0 κ _) rfl 18 (by decide) lkM12 rfl dX10_key_110 ?_
    refine lv_aload_n C.ex C.by dX10_key_113 rfl (lv_at hl 0 rfl) ?_
    refine z_get (v := .int (zI σ 7)) C h iwX10 0 (wM_at0 κ _) rfl 19 (by decide) lkM10 rfl dX10_key_114 ?_
    refine lv_iload_n C.ex C.by dX10_key_117 rfl (lv_at hl 2 rfl) ?_
    obtain ⟨h15, hf⟩ := zg_some hf
    refine z_zast (f := (zA σ 9)) C h 12 (wM_at12 κ _) h15 (sA (sA (sI σ 0 y0) 8 (upd (zA σ 8) (Int32.toNatClampNeg (zI σ 7)) x1)) 9 (upd (zA σ 9) (Int32.toNatClampNeg (zI σ 7)) (vp_nar .boolean x2))) (wM_s12 κ _ _) dX10_key_118 (fun H locs h => ?_)
    refine lv_aload_n C.ex C.by dX10_key_119 rfl (lv_at hl 0 rfl) ?_
    refine lv_dup C.ex C.by dX10_key_120 rfl ?_
    refine z_get (v := .int (zI σ 7)) C h iwX10 0 (wM_at0 κ _) rfl 19 (by decide) lkM10 rfl dX10_key_121 ?_
    refine lv_iconst (v := 1) C.ex C.by dX10_key_124 (by decide) ?_
    refine lv_iadd C.ex C.by dX10_key_125 ?_
    refine z_put C h iwX10 tyX10_ok nmX10 0 (wM_at0 κ _) rfl 19 (by decide) lkM10 rfl rfl rfl (Nat.le_of_ble_eq_true rfl) (sI (sA (sA (sI σ 0 y0) 8 (upd (zA σ 8) (Int32.toNatClampNeg (zI σ 7)) x1)) 9 (upd (zA σ 9) (Int32.toNatClampNeg (zI σ 7)) (vp_nar .boolean x2))) 7 ((zI σ 7) + 1)) (wM_s0_19 κ _ _) dX10_key_126 (fun H locs h => ?_)
    refine lv_aload_n C.ex C.by dX10_key_129 rfl (lv_at hl 0 rfl) ?_
    refine z_get (v := .int ((zI σ 7) + 1)) C h iwX10 0 (wM_at0 κ _) rfl 19 (by decide) lkM10 rfl dX10_key_130 ?_
    cases hf
    exact z_iret C h dX10_key_133
  · have hf := zif_f c13 hf
    refine lv_iconst (v := 0) C.ex C.by dX10_key_97 (by decide) ?_
    cases hf
    exact z_iret C h dX10_key_98
set_option maxRecDepth 20000 in
set_option maxHeartbeats 4000000 in
theorem wX10_key_82 {p : Program} {l : Launch} {e : Env} {s : State} {m : MethodId} {args : Array Value} {below : List Frame} {meth : Method} {c : Code} {A : Nat → Prop} {κ : zG} {H : Heap} {locs : List Loc} {ls : Array Slot} {n : Nat} {σ : zS} {x1 : Int32} {x2 : Int32} {r1 : Int32} {r2 : zS} (C : zC cX10_key 5 (some .int) RX10 κ A p s m args meth c) (h : zH wM κ A s σ H locs) (hl : lv_has ls 5 [(0, .ref (κ.2.1 0)), (1, .int x1), (2, .int x2)]) (hf : fX10_key_82 n σ x1 x2 = some (r1, r2)) : W p l e rmX10_key s m args below meth c H locs 0 0 (MQ below (zQi wM κ A r1 r2) args s 0 0 A) (F0 m 82 ls [.ref (κ.2.1 0)]) := by
  unfold fX10_key_82 at hf
  refine lv_iconst (v := 3) C.ex C.by dX10_key_82 (by decide) ?_
  refine lv_goto (tgt := 87) C.ex C.by dX10_key_83 (by decide) ?_
  exact wX10_key_87 C h hl hf
set_option maxRecDepth 20000 in
set_option maxHeartbeats 4000000 in
theorem wX10_key_0 {p : Program} {l : Launch} {e : Env} {s : State} {m : MethodId} {args : Array Value} {below : List Frame} {meth : Method} {c : Code} {A : Nat → Prop} {κ : zG} {H : Heap} {locs : List Loc} {ls : Array Slot} {n : Nat} {σ : zS} {x1 : Int32} {x2 : Int32} {r1 : Int32} {r2 : zS} (C : zC cX10_key 5 (some .int) RX10 κ A p s m args meth c) (h : zH wM κ A s σ H locs) (hl : lv_has ls 5 [(0, .ref (κ.2.1 0)), (1, .int x1), (2, .int x2)]) (hf : fX10_key_0 n σ x1 x2 = some (r1, r2)) : W p l e rmX10_key s m args below meth c H locs 0 0 (MQ below (zQi wM κ A r1 r2) args s 0 0 A) (F0 m 0 ls []) := by
  unfold fX10_key_0 at hf
  refine lv_iconst (v := 0) C.ex C.by dX10_key_0 (by decide) ?_
  refine lv_istore_n (lv' := [(3, .int 0), (0, .ref (κ.2.1 0)), (1, .int x1), (2, .int x2)]) C.ex C.by dX10_key_1 rfl hl (by decide) rfl (fun ls hl => ?_)
  refine lv_iconst (v := 0) C.ex C.by dX10_key_2 (by decide) ?_
  refine lv_istore (lv' := [(4, .int 0), (3, .int 0), (0, .ref (κ.2.1 0)), (1, .int x1), (2, .int x2)]) C.ex C.by dX10_key_3 hl (by decide) rfl (fun ls hl => ?_)
  obtain ⟨b5, e6, hf⟩ := zb_some hf
  refine wlX10_key_5 C h (lv_sub hl [2, 3, 4, 1, 0] rfl) b5 e6 ?_
  intro H locs ls h hl
  refine lv_aload_n C.ex C.by dX10_key_41 rfl (lv_at hl 0 rfl) ?_
  refine lv_iload_n C.ex C.by dX10_key_42 rfl (lv_at hl 1 rfl) ?_
  refine lv_iconst (v := 0) C.ex C.by dX10_key_43 (by decide) ?_
  refine lv_aload_n C.ex C.by dX10_key_44 rfl (lv_at hl 0 rfl) ?_
  refine z_get (v := .int (zI σ 6)) C h iwX10 0 (wM_at0 κ _) rfl 16 (by decide) lkM9 rfl dX10_key_45 ?_
  refine lv_iconst (v := 1) C.ex C.by dX10_key_48 (by decide) ?_
  refine lv_isub C.ex C.by dX10_key_49 ?_
  obtain ⟨q7, e8, hf⟩ := zb_some hf
  refine z_callSi (As := [.int x1, .int 0, .int ((zI σ 6) - 1)]) C h (ctX10_isIn e8) (zgS lkM0 lkM1 lkM2 lkM3) ⟨rfl, rfl⟩ hdX10_isIn ⟨Nat.le_of_ble_eq_true rfl, Nat.le_of_ble_eq_true rfl⟩ hl rfl rfl (Nat.le_of_ble_eq_true rfl) dX10_key_50 ⟨Nat.zero_le _, Nat.zero_le _⟩ (fun H locs h => ?_)
  refine lv_if_ne (tgt := 60) C.ex C.by dX10_key_53 (by decide) (fun c9 => ?_) (fun c9 => ?_)
  · have hf := zif_f c9 hf
    refine lv_iload_n C.ex C.by dX10_key_60 rfl (lv_at hl 3 rfl) ?_
    refine lv_if_eq (tgt := 68) C.ex C.by dX10_key_61 (by decide) (fun c10 => ?_) (fun c10 => ?_)
    · have hf := zif_t c10 hf
      refine lv_aload_n C.ex C.by dX10_key_68 rfl (lv_at hl 0 rfl) ?_
      refine z_get (v := .int (zI σ 16)) C h iwX10 0 (wM_at0 κ _) rfl 28 (by decide) lkM4 rfl dX10_key_69 ?_
      refine lv_if_ne (tgt := 82) C.ex C.by dX10_key_72 (by decide) (fun c11 => ?_) (fun c11 => ?_)
      · have hf := zif_f c11 hf
        exact wX10_key_82 C h (lv_sub hl [0, 1, 2] rfl) hf
      · have hf := zif_t c11 hf
        refine lv_aload_n C.ex C.by dX10_key_75 rfl (lv_at hl 0 rfl) ?_
        refine z_get (v := .int (zI σ 4)) C h iwX10 0 (wM_at0 κ _) rfl 13 (by decide) lkM5 rfl dX10_key_76 ?_
        refine lv_if_le (tgt := 86) C.ex C.by dX10_key_79 (by decide) (fun c12 => ?_) (fun c12 => ?_)
        · have hf := zif_t c12 hf
          refine lv_iconst (v := 0) C.ex C.by dX10_key_86 (by decide) ?_
          exact wX10_key_87 C h (lv_sub hl [0, 1, 2] rfl) hf
        · have hf := zif_f c12 hf
          exact wX10_key_82 C h (lv_sub hl [0, 1, 2] rfl) hf
    · have hf := zif_f c10 hf
      refine lv_iconst (v := 2) C.ex C.by dX10_key_64 (by decide) ?_
      refine lv_goto (tgt := 87) C.ex C.by dX10_key_65 (by decide) ?_
      exact wX10_key_87 C h (lv_sub hl [0, 1, 2] rfl) hf
  · have hf := zif_t c9 hf
    refine lv_iconst (v := 1) C.ex C.by dX10_key_56 (by decide) ?_
    refine lv_goto (tgt := 87) C.ex C.by dX10_key_57 (by decide) ?_
    exact wX10_key_87 C h (lv_sub hl [0, 1, 2] rfl) hf
theorem ctX10_key {l : Launch} {κ : zG} {n : Nat} {σ : zS} {x1 : Int32} {x2 : Int32} {r1 : Int32} {r2 : zS} (hf : fX10_key_0 n σ x1 x2 = some (r1, r2)) : zMi l yX10_key (Cond.code yX10_key cX10_key 5 (some .int)) rmX10_key wM κ [.ref (κ.2.1 0), .int x1, .int x2] σ r1 r2 :=
  zMi_of (by decide) (Nat.le_of_ble_eq_true rfl) (fun p e s m below meth c A C h ls hl => wX10_key_0 C h hl hf)
theorem hdX10_mode : yX10_mode.cls = RX10 ∧ yX10_mode.cls ≠ "java/lang/invoke/MethodHandle" ∧ yX10_mode.cls ≠ "java/lang/invoke/VarHandle" ∧ (parseMethodDescriptor yX10_mode.desc).map (fun d => d.parameters.length) = some 1 := by decide +kernel
abbrev rmX10_mode : Room := { frames := 1, cells := 0, slots := 0, locals := 22 }
set_option maxRecDepth 20000 in
set_option maxHeartbeats 4000000 in
theorem wX10_mode_26 {p : Program} {l : Launch} {e : Env} {s : State} {m : MethodId} {args : Array Value} {below : List Frame} {meth : Method} {c : Code} {A : Nat → Prop} {κ : zG} {H : Heap} {locs : List Loc} {ls : Array Slot} {n : Nat} {σ : zS} {x1 : Int32} {y0 : Int32} {r1 : Int32} {r2 : zS} (C : zC cX10_mode 3 (some .int) RX10 κ A p s m args meth c) (h : zH wM κ A s σ H locs) (hl : lv_has ls 3 [(0, .ref (κ.2.1 0)), (1, .int x1)]) (hf : fX10_mode_26 n σ x1 y0 = some (r1, r2)) : W p l e rmX10_mode s m args below meth c H locs 0 0 (MQ below (zQi wM κ A r1 r2) args s 0 0 A) (F0 m 26 ls [.int y0, .ref (κ.2.1 0)]) := by
  unfold fX10_mode_26 at hf
  refine z_put C h iwX10 tyX10_ok nmX10 0 (wM_at0 κ _) rfl 0 (by decide) lkM8 rfl rfl rfl (Nat.le_of_ble_eq_true rfl) (sI σ 0 y0) (wM_s0_0 κ _ _) dX10_mode_26 (fun H locs h => ?_)
  refine lv_aload_n C.ex C.by dX10_mode_29 rfl (lv_at hl 0 rfl) ?_
  refine z_get (v := .int y0) C h iwX10 0 (wM_at0 κ _) rfl 0 (by decide) lkM8 rfl dX10_mode_30 ?_
  refine lv_if_le (tgt := 38) C.ex C.by dX10_mode_33 (by decide) (fun c5 => ?_) (fun c5 => ?_)
  · have hf := zif_t c5 hf
    refine lv_aload_n C.ex C.by dX10_mode_38 rfl (lv_at hl 0 rfl) ?_
    refine z_get (v := .int (zI σ 8)) C h iwX10 0 (wM_at0 κ _) rfl 20 (by decide) lkM13 rfl dX10_mode_39 ?_
    refine lv_istore_n (lv' := [(2, .int (zI σ 8)), (0, .ref (κ.2.1 0)), (1, .int x1)]) C.ex C.by dX10_mode_42 rfl hl (by decide) rfl (fun ls hl => ?_)
    refine lv_aload_n C.ex C.by dX10_mode_43 rfl (lv_at hl 1 rfl) ?_
    refine lv_iload_n C.ex C.by dX10_mode_44 rfl (lv_at hl 2 rfl) ?_
    refine z_put C h iwX10 tyX10_ok nmX10 0 (wM_at0 κ _) rfl 20 (by decide) lkM13 rfl rfl rfl (Nat.le_of_ble_eq_true rfl) (sI (sI σ 0 y0) 8 x1) (wM_s0_20 κ _ _) dX10_mode_45 (fun H locs h => ?_)
    refine lv_iload_n C.ex C.by dX10_mode_48 rfl (lv_at hl 0 rfl) ?_
    cases hf
    exact z_iret C h dX10_mode_49
  · have hf := zif_f c5 hf
    refine lv_iconst (v := 0) C.ex C.by dX10_mode_36 (by decide) ?_
    cases hf
    exact z_iret C h dX10_mode_37
set_option maxRecDepth 20000 in
set_option maxHeartbeats 4000000 in
theorem wX10_mode_0 {p : Program} {l : Launch} {e : Env} {s : State} {m : MethodId} {args : Array Value} {below : List Frame} {meth : Method} {c : Code} {A : Nat → Prop} {κ : zG} {H : Heap} {locs : List Loc} {ls : Array Slot} {n : Nat} {σ : zS} {x1 : Int32} {r1 : Int32} {r2 : zS} (C : zC cX10_mode 3 (some .int) RX10 κ A p s m args meth c) (h : zH wM κ A s σ H locs) (hl : lv_has ls 3 [(0, .ref (κ.2.1 0)), (1, .int x1)]) (hf : fX10_mode_0 n σ x1 = some (r1, r2)) : W p l e rmX10_mode s m args below meth c H locs 0 0 (MQ below (zQi wM κ A r1 r2) args s 0 0 A) (F0 m 0 ls []) := by
  unfold fX10_mode_0 at hf
  refine lv_aload_n C.ex C.by dX10_mode_0 rfl (lv_at hl 0 rfl) ?_
  refine lv_iload_n C.ex C.by dX10_mode_1 rfl (lv_at hl 1 rfl) ?_
  refine lv_iconst (v := 0) C.ex C.by dX10_mode_2 (by decide) ?_
  refine lv_iconst (v := 2) C.ex C.by dX10_mode_3 (by decide) ?_
  obtain ⟨q1, e2, hf⟩ := zb_some hf
  refine z_callSi (As := [.int x1, .int 0, .int 2]) C h (ctX10_isIn e2) (zgS lkM0 lkM1 lkM2 lkM3) ⟨rfl, rfl⟩ hdX10_isIn ⟨Nat.le_of_ble_eq_true rfl, Nat.le_of_ble_eq_true rfl⟩ hl rfl rfl (Nat.le_of_ble_eq_true rfl) dX10_mode_4 ⟨Nat.zero_le _, Nat.zero_le _⟩ (fun H locs h => ?_)
  refine lv_if_ne (tgt := 14) C.ex C.by dX10_mode_7 (by decide) (fun c3 => ?_) (fun c3 => ?_)
  · have hf := zif_f c3 hf
    refine lv_aload_n C.ex C.by dX10_mode_14 rfl (lv_at hl 0 rfl) ?_
    refine z_get (v := .int (zI σ 16)) C h iwX10 0 (wM_at0 κ _) rfl 28 (by decide) lkM4 rfl dX10_mode_15 ?_
    refine lv_if_eq (tgt := 25) C.ex C.by dX10_mode_18 (by decide) (fun c4 => ?_) (fun c4 => ?_)
    · have hf := zif_t c4 hf
      refine lv_iconst (v := 0) C.ex C.by dX10_mode_25 (by decide) ?_
      exact wX10_mode_26 C h hl hf
    · have hf := zif_f c4 hf
      refine lv_iconst (v := 2) C.ex C.by dX10_mode_21 (by decide) ?_
      refine lv_goto (tgt := 26) C.ex C.by dX10_mode_22 (by decide) ?_
      exact wX10_mode_26 C h hl hf
  · have hf := zif_t c3 hf
    refine lv_iconst (v := 1) C.ex C.by dX10_mode_10 (by decide) ?_
    refine lv_goto (tgt := 26) C.ex C.by dX10_mode_11 (by decide) ?_
    exact wX10_mode_26 C h hl hf
theorem ctX10_mode {l : Launch} {κ : zG} {n : Nat} {σ : zS} {x1 : Int32} {r1 : Int32} {r2 : zS} (hf : fX10_mode_0 n σ x1 = some (r1, r2)) : zMi l yX10_mode (Cond.code yX10_mode cX10_mode 3 (some .int)) rmX10_mode wM κ [.ref (κ.2.1 0), .int x1] σ r1 r2 :=
  zMi_of (by decide) (Nat.le_of_ble_eq_true rfl) (fun p e s m below meth c A C h ls hl => wX10_mode_0 C h hl hf)
theorem hdX10_begin : yX10_begin.cls = RX10 ∧ yX10_begin.cls ≠ "java/lang/invoke/MethodHandle" ∧ yX10_begin.cls ≠ "java/lang/invoke/VarHandle" ∧ (parseMethodDescriptor yX10_begin.desc).map (fun d => d.parameters.length) = some 0 := by decide +kernel
abbrev rmX10_begin : Room := { frames := 0, cells := 0, slots := 0, locals := 0 }
set_option maxRecDepth 20000 in
set_option maxHeartbeats 4000000 in
theorem wX10_begin_L7_7 {p : Program} {l : Launch} {e : Env} {s : State} {m : MethodId} {args : Array Value} {below : List Frame} {meth : Method} {c : Code} {A : Nat → Prop} {κ : zG} {H : Heap} {locs : List Loc} {ls : Array Slot} {Q : State → Prop} {n : Nat} {a : Int32 × zS} {r : (Int32 × zS) ⊕ (zS)} (C : zC cX10_begin 2 none RX10 κ A p s m args meth c) (h : zH wM κ A s a.2 H locs) (hl : lv_has ls 2 [(0, .ref (κ.2.1 0)), (1, .int a.1)]) (hf : fX10_begin_L7_7 n a = some r) (Kc : ∀ (v1 : Int32) (σ1 : zS), r = .inl (v1, σ1) → ∀ (H : Heap) (locs : List Loc) (ls : Array Slot), zH wM κ A s σ1 H locs → lv_has ls 2 [(0, .ref (κ.2.1 0)), (1, .int v1)] → W p l e rmX10_begin s m args below meth c H locs 0 0 Q (F0 m 7 ls [])) (Ke0 : ∀ (σ1 : zS), r = .inr σ1 → ∀ (H : Heap) (locs : List Loc) (ls : Array Slot), zH wM κ A s σ1 H locs → lv_has ls 2 [(0, .ref (κ.2.1 0))] → W p l e rmX10_begin s m args below meth c H locs 0 0 Q (F0 m 28 ls [])) : W p l e rmX10_begin s m args below meth c H locs 0 0 Q (F0 m 7 ls []) := by
  unfold fX10_begin_L7_7 at hf
  refine lv_iload_n C.ex C.by dX10_begin_7 rfl (lv_at hl 1 rfl) ?_
  refine lv_aload_n C.ex C.by dX10_begin_8 rfl (lv_at hl 0 rfl) ?_
  refine z_get (v := .int (zI a.2 1)) C h iwX10 0 (wM_at0 κ _) rfl 1 (by decide) lkM18 rfl dX10_begin_9 ?_
  refine lv_icmp_ge (tgt := 28) C.ex C.by dX10_begin_12 (by decide) (fun c1 => ?_) (fun c1 => ?_)
  · have hf := zif_t c1 hf
    exact Ke0 _ (Option.some.inj hf).symm _ _ _ h (lv_sub hl [0] rfl)
  · have hf := zif_f c1 hf
    refine lv_aload_n C.ex C.by dX10_begin_15 rfl (lv_at hl 0 rfl) ?_
    refine z_get (v := .ref (κ.2.1 3)) C h iwX10 0 (wM_at0 κ _) rfl 6 (by decide) lkM19 rfl dX10_begin_16 ?_
    refine lv_iload_n C.ex C.by dX10_begin_19 rfl (lv_at hl 1 rfl) ?_
    refine lv_iconst (v := 0) C.ex C.by dX10_begin_20 (by decide) ?_
    obtain ⟨h2, hf⟩ := zg_some hf
    refine z_zast (f := (zA a.2 1)) C h 3 (wM_at3 κ _) h2 (sA a.2 1 (upd (zA a.2 1) (Int32.toNatClampNeg a.1) (vp_nar .boolean 0))) (wM_s3 κ _ _) dX10_begin_21 (fun H locs h => ?_)
    refine lv_iinc (v := (a.1 + 1)) (lv' := [(1, .int (a.1 + 1)), (0, .ref (κ.2.1 0))]) C.ex C.by dX10_begin_22 hl (k := 1) rfl rfl (by decide) rfl (fun ls hl => ?_)
    refine lv_goto (tgt := 7) C.ex C.by dX10_begin_25 (by decide) ?_
    exact Kc _ _ (Option.some.inj hf).symm _ _ _ h (lv_sub hl [1, 0] rfl)
theorem wlX10_begin_7 {p : Program} {l : Launch} {e : Env} {s : State} {m : MethodId} {args : Array Value} {below : List Frame} {meth : Method} {c : Code} {A : Nat → Prop} {κ : zG} {H : Heap} {locs : List Loc} {ls : Array Slot} {Q : State → Prop} {n : Nat} {k0 : Nat} {u1 : Int32} {σ1 : zS} (C : zC cX10_begin 2 none RX10 κ A p s m args meth c) (h : zH wM κ A s σ1 H locs) (hl : lv_has ls 2 [(0, .ref (κ.2.1 0)), (1, .int u1)]) (b : zS) (hb : zlp (fX10_begin_L7_7 n) k0 (u1, σ1) = some b) (K : (fun b : zS => ∀ (H : Heap) (locs : List Loc) (ls : Array Slot), zH wM κ A s b H locs → lv_has ls 2 [(0, .ref (κ.2.1 0))] → W p l e rmX10_begin s m args below meth c H locs 0 0 Q (F0 m 28 ls [])) b) : W p l e rmX10_begin s m args below meth c H locs 0 0 Q (F0 m 7 ls []) :=
  z_loop (body := fX10_begin_L7_7 n) (Wd := (fun a : Int32 × zS => ∀ (H : Heap) (locs : List Loc) (ls : Array Slot), zH wM κ A s a.2 H locs → lv_has ls 2 [(0, .ref (κ.2.1 0)), (1, .int a.1)] → W p l e rmX10_begin s m args below meth c H locs 0 0 Q (F0 m 7 ls []))) (Ex := (fun b : zS => (fun b : zS => ∀ (H : Heap) (locs : List Loc) (ls : Array Slot), zH wM κ A s b H locs → lv_has ls 2 [(0, .ref (κ.2.1 0))] → W p l e rmX10_begin s m args below meth c H locs 0 0 Q (F0 m 28 ls [])) b)) (fun a r hr Kc Ke H locs ls h hl => wX10_begin_L7_7 C h hl hr (fun v1 σ1 e => Kc (v1, σ1) e) (fun σ1 e => Ke σ1 e)) k0 (u1, σ1) b hb K H locs ls h hl
set_option maxRecDepth 20000 in
set_option maxHeartbeats 4000000 in
theorem wX10_begin_0 {p : Program} {l : Launch} {e : Env} {s : State} {m : MethodId} {args : Array Value} {below : List Frame} {meth : Method} {c : Code} {A : Nat → Prop} {κ : zG} {H : Heap} {locs : List Loc} {ls : Array Slot} {n : Nat} {σ : zS} {r : zS} (C : zC cX10_begin 2 none RX10 κ A p s m args meth c) (h : zH wM κ A s σ H locs) (hl : lv_has ls 2 [(0, .ref (κ.2.1 0))]) (hf : fX10_begin_0 n σ = some r) : W p l e rmX10_begin s m args below meth c H locs 0 0 (MQ below (zQv wM κ A r) args s 0 0 A) (F0 m 0 ls []) := by
  unfold fX10_begin_0 at hf
  refine lv_aload_n C.ex C.by dX10_begin_0 rfl (lv_at hl 0 rfl) ?_
  refine lv_iconst (v := 0) C.ex C.by dX10_begin_1 (by decide) ?_
  refine z_put C h iwX10 tyX10_ok nmX10 0 (wM_at0 κ _) rfl 29 (by decide) lkM17 rfl rfl rfl (Nat.le_of_ble_eq_true rfl) (sI σ 17 0) (wM_s0_29 κ _ _) dX10_begin_2 (fun H locs h => ?_)
  refine lv_iconst (v := 0) C.ex C.by dX10_begin_5 (by decide) ?_
  refine lv_istore_n (lv' := [(1, .int 0), (0, .ref (κ.2.1 0))]) C.ex C.by dX10_begin_6 rfl hl (by decide) rfl (fun ls hl => ?_)
  obtain ⟨b3, e4, hf⟩ := zb_some hf
  refine wlX10_begin_7 C h (lv_sub hl [1, 0] rfl) b3 e4 ?_
  intro H locs ls h hl
  cases hf
  exact z_vret C h dX10_begin_28
theorem ctX10_begin {l : Launch} {κ : zG} {n : Nat} {σ : zS} {r : zS} (hf : fX10_begin_0 n σ = some r) : zMv l yX10_begin (Cond.code yX10_begin cX10_begin 2 none) rmX10_begin wM κ [.ref (κ.2.1 0)] σ r :=
  zMv_of (by decide) (Nat.le_of_ble_eq_true rfl) (fun p e s m below meth c A C h ls hl => wX10_begin_0 C h hl hf)
theorem hdX10_per : yX10_per.cls = RX10 ∧ yX10_per.cls ≠ "java/lang/invoke/MethodHandle" ∧ yX10_per.cls ≠ "java/lang/invoke/VarHandle" ∧ (parseMethodDescriptor yX10_per.desc).map (fun d => d.parameters.length) = some 0 := by decide +kernel
abbrev rmX10_per : Room := { frames := 0, cells := 0, slots := 0, locals := 0 }
set_option maxRecDepth 20000 in
set_option maxHeartbeats 4000000 in
theorem wX10_per_0 {p : Program} {l : Launch} {e : Env} {s : State} {m : MethodId} {args : Array Value} {below : List Frame} {meth : Method} {c : Code} {A : Nat → Prop} {κ : zG} {H : Heap} {locs : List Loc} {ls : Array Slot} {n : Nat} {σ : zS} {r : Int32} (C : zC cX10_per 1 (some .int) RX10 κ A p s m args meth c) (h : zH wM κ A s σ H locs) (hl : lv_has ls 1 [(0, .ref (κ.2.1 0))]) (hf : fX10_per_0 n σ = some r) : W p l e rmX10_per s m args below meth c H locs 0 0 (MQ below (zQi wM κ A r σ) args s 0 0 A) (F0 m 0 ls []) := by
  unfold fX10_per_0 at hf
  refine lv_aload_n C.ex C.by dX10_per_0 rfl (lv_at hl 0 rfl) ?_
  refine z_get (v := .int (zI σ 2)) C h iwX10 0 (wM_at0 κ _) rfl 2 (by decide) lkM24 rfl dX10_per_1 ?_
  refine lv_aload_n C.ex C.by dX10_per_4 rfl (lv_at hl 0 rfl) ?_
  refine z_get (v := .int (zI σ 6)) C h iwX10 0 (wM_at0 κ _) rfl 16 (by decide) lkM9 rfl dX10_per_5 ?_
  refine lv_iconst (v := 1) C.ex C.by dX10_per_8 (by decide) ?_
  refine lv_iadd C.ex C.by dX10_per_9 ?_
  obtain ⟨h1, hf⟩ := zg_some hf
  refine lv_idiv C.ex C.by dX10_per_10 (znz_ne h1) ?_
  cases hf
  exact z_iret C h dX10_per_11
theorem ctX10_per {l : Launch} {κ : zG} {n : Nat} {σ : zS} {r : Int32} (hf : fX10_per_0 n σ = some r) : zMi l yX10_per (Cond.code yX10_per cX10_per 1 (some .int)) rmX10_per wM κ [.ref (κ.2.1 0)] σ r σ :=
  zMi_of (by decide) (Nat.le_of_ble_eq_true rfl) (fun p e s m below meth c A C h ls hl => wX10_per_0 C h hl hf)
theorem hdX10_go : yX10_go.cls = RX10 ∧ yX10_go.cls ≠ "java/lang/invoke/MethodHandle" ∧ yX10_go.cls ≠ "java/lang/invoke/VarHandle" ∧ (parseMethodDescriptor yX10_go.desc).map (fun d => d.parameters.length) = some 1 := by decide +kernel
abbrev rmX10_go : Room := { frames := 0, cells := 0, slots := 0, locals := 0 }
set_option maxRecDepth 20000 in
set_option maxHeartbeats 4000000 in
theorem wX10_go_28 {p : Program} {l : Launch} {e : Env} {s : State} {m : MethodId} {args : Array Value} {below : List Frame} {meth : Method} {c : Code} {A : Nat → Prop} {κ : zG} {H : Heap} {locs : List Loc} {ls : Array Slot} {n : Nat} {σ : zS} {x1 : Int32} {y0 : Int32} {y1 : Int32} {r : zS} (C : zC cX10_go 2 none RX10 κ A p s m args meth c) (h : zH wM κ A s σ H locs) (hl : lv_has ls 2 [(0, .ref (κ.2.1 0)), (1, .int x1)]) (hf : fX10_go_28 n σ x1 y0 y1 = some r) : W p l e rmX10_go s m args below meth c H locs 0 0 (MQ below (zQv wM κ A r) args s 0 0 A) (F0 m 28 ls [.int y0, .int y1, .ref (κ.2.1 0)]) := by
  unfold fX10_go_28 at hf
  refine lv_iadd C.ex C.by dX10_go_28 ?_
  refine z_put C h iwX10 tyX10_ok nmX10 0 (wM_at0 κ _) rfl 24 (by decide) lkM33 rfl rfl rfl (Nat.le_of_ble_eq_true rfl) (sI σ 12 (y1 + y0)) (wM_s0_24 κ _ _) dX10_go_29 (fun H locs h => ?_)
  refine lv_aload_n C.ex C.by dX10_go_32 rfl (lv_at hl 0 rfl) ?_
  refine lv_iload_n C.ex C.by dX10_go_33 rfl (lv_at hl 1 rfl) ?_
  refine z_put C h iwX10 tyX10_ok nmX10 0 (wM_at0 κ _) rfl 25 (by decide) lkM34 rfl rfl rfl (Nat.le_of_ble_eq_true rfl) (sI (sI σ 12 (y1 + y0)) 13 x1) (wM_s0_25 κ _ _) dX10_go_34 (fun H locs h => ?_)
  refine lv_aload_n C.ex C.by dX10_go_37 rfl (lv_at hl 0 rfl) ?_
  refine lv_iload_n C.ex C.by dX10_go_38 rfl (lv_at hl 1 rfl) ?_
  refine z_put C h iwX10 tyX10_ok nmX10 0 (wM_at0 κ _) rfl 26 (by decide) lkM35 rfl rfl rfl (Nat.le_of_ble_eq_true rfl) (sI (sI (sI σ 12 (y1 + y0)) 13 x1) 14 x1) (wM_s0_26 κ _ _) dX10_go_39 (fun H locs h => ?_)
  cases hf
  exact z_vret C h dX10_go_42
set_option maxRecDepth 20000 in
set_option maxHeartbeats 4000000 in
theorem wX10_go_0 {p : Program} {l : Launch} {e : Env} {s : State} {m : MethodId} {args : Array Value} {below : List Frame} {meth : Method} {c : Code} {A : Nat → Prop} {κ : zG} {H : Heap} {locs : List Loc} {ls : Array Slot} {n : Nat} {σ : zS} {x1 : Int32} {r : zS} (C : zC cX10_go 2 none RX10 κ A p s m args meth c) (h : zH wM κ A s σ H locs) (hl : lv_has ls 2 [(0, .ref (κ.2.1 0)), (1, .int x1)]) (hf : fX10_go_0 n σ x1 = some r) : W p l e rmX10_go s m args below meth c H locs 0 0 (MQ below (zQv wM κ A r) args s 0 0 A) (F0 m 0 ls []) := by
  unfold fX10_go_0 at hf
  refine lv_aload_n C.ex C.by dX10_go_0 rfl (lv_at hl 0 rfl) ?_
  refine lv_dup C.ex C.by dX10_go_1 rfl ?_
  refine z_get (v := .int (zI σ 12)) C h iwX10 0 (wM_at0 κ _) rfl 24 (by decide) lkM33 rfl dX10_go_2 ?_
  refine lv_iload_n C.ex C.by dX10_go_5 rfl (lv_at hl 1 rfl) ?_
  refine lv_aload_n C.ex C.by dX10_go_6 rfl (lv_at hl 0 rfl) ?_
  refine z_get (v := .int (zI σ 13)) C h iwX10 0 (wM_at0 κ _) rfl 25 (by decide) lkM34 rfl dX10_go_7 ?_
  refine lv_icmp_le (tgt := 22) C.ex C.by dX10_go_10 (by decide) (fun c1 => ?_) (fun c1 => ?_)
  · have hf := zif_t c1 hf
    refine lv_aload_n C.ex C.by dX10_go_22 rfl (lv_at hl 0 rfl) ?_
    refine z_get (v := .int (zI σ 13)) C h iwX10 0 (wM_at0 κ _) rfl 25 (by decide) lkM34 rfl dX10_go_23 ?_
    refine lv_iload_n C.ex C.by dX10_go_26 rfl (lv_at hl 1 rfl) ?_
    refine lv_isub C.ex C.by dX10_go_27 ?_
    exact wX10_go_28 C h hl hf
  · have hf := zif_f c1 hf
    refine lv_iload_n C.ex C.by dX10_go_13 rfl (lv_at hl 1 rfl) ?_
    refine lv_aload_n C.ex C.by dX10_go_14 rfl (lv_at hl 0 rfl) ?_
    refine z_get (v := .int (zI σ 13)) C h iwX10 0 (wM_at0 κ _) rfl 25 (by decide) lkM34 rfl dX10_go_15 ?_
    refine lv_isub C.ex C.by dX10_go_18 ?_
    refine lv_goto (tgt := 28) C.ex C.by dX10_go_19 (by decide) ?_
    exact wX10_go_28 C h hl hf
theorem ctX10_go {l : Launch} {κ : zG} {n : Nat} {σ : zS} {x1 : Int32} {r : zS} (hf : fX10_go_0 n σ x1 = some r) : zMv l yX10_go (Cond.code yX10_go cX10_go 2 none) rmX10_go wM κ [.ref (κ.2.1 0), .int x1] σ r :=
  zMv_of (by decide) (Nat.le_of_ble_eq_true rfl) (fun p e s m below meth c A C h ls hl => wX10_go_0 C h hl hf)
theorem hdX10_write : yX10_write.cls = RX10 ∧ yX10_write.cls ≠ "java/lang/invoke/MethodHandle" ∧ yX10_write.cls ≠ "java/lang/invoke/VarHandle" ∧ (parseMethodDescriptor yX10_write.desc).map (fun d => d.parameters.length) = some 2 := by decide +kernel
abbrev rmX10_write_p10 : Room := { frames := 1, cells := 0, slots := 0, locals := 21 }
set_option maxRecDepth 20000 in
set_option maxHeartbeats 4000000 in
theorem wX10_write_p10_L2_2 {p : Program} {l : Launch} {e : Env} {s : State} {m : MethodId} {args : Array Value} {below : List Frame} {meth : Method} {c : Code} {A : Nat → Prop} {κ : zG} {H : Heap} {locs : List Loc} {ls : Array Slot} {Q : State → Prop} {n : Nat} {σ : zS} {k2 : Int32} {a : Int32} {r : (Int32) ⊕ (Int32)} (C : zC cX10_write 5 (some .int) RX10 κ A p s m args meth c) (h : zH wM κ A s σ H locs) (hl : lv_has ls 5 [(0, .ref (κ.2.1 0)), (1, .ref (κ.2.1 10)), (2, .int k2), (3, .int a)]) (hf : fX10_write_p10_L2_2 n σ k2 a = some r) (Kc : ∀ (v3 : Int32), r = .inl v3 → ∀ (H : Heap) (locs : List Loc) (ls : Array Slot), zH wM κ A s σ H locs → lv_has ls 5 [(0, .ref (κ.2.1 0)), (1, .ref (κ.2.1 10)), (2, .int k2), (3, .int v3)] → W p l e rmX10_write_p10 s m args below meth c H locs 0 0 Q (F0 m 2 ls [])) (Ke0 : ∀ (v3 : Int32), r = .inr v3 → ∀ (H : Heap) (locs : List Loc) (ls : Array Slot), zH wM κ A s σ H locs → lv_has ls 5 [(0, .ref (κ.2.1 0)), (1, .ref (κ.2.1 10)), (2, .int k2), (3, .int v3)] → W p l e rmX10_write_p10 s m args below meth c H locs 0 0 Q (F0 m 25 ls [])) : W p l e rmX10_write_p10 s m args below meth c H locs 0 0 Q (F0 m 2 ls []) := by
  unfold fX10_write_p10_L2_2 at hf
  refine lv_iload_n C.ex C.by dX10_write_2 rfl (lv_at hl 3 rfl) ?_
  refine lv_aload_n C.ex C.by dX10_write_3 rfl (lv_at hl 0 rfl) ?_
  refine z_get (v := .int (zI σ 1)) C h iwX10 0 (wM_at0 κ _) rfl 1 (by decide) lkM18 rfl dX10_write_4 ?_
  refine lv_icmp_ge (tgt := 25) C.ex C.by dX10_write_7 (by decide) (fun c1 => ?_) (fun c1 => ?_)
  · have hf := zif_t c1 hf
    exact Ke0 _ (Option.some.inj hf).symm _ _ _ h hl
  · have hf := zif_f c1 hf
    refine lv_aload_n C.ex C.by dX10_write_10 rfl (lv_at hl 0 rfl) ?_
    refine z_get (v := .ref (κ.2.1 2)) C h iwX10 0 (wM_at0 κ _) rfl 5 (by decide) lkM29 rfl dX10_write_11 ?_
    refine lv_iload_n C.ex C.by dX10_write_14 rfl (lv_at hl 3 rfl) ?_
    obtain ⟨h2, hf⟩ := zg_some hf
    refine z_zald (f := (zA σ 0)) C h 2 (wM_at2 κ _) h2 dX10_write_15 ?_
    refine lv_if_eq (tgt := 25) C.ex C.by dX10_write_16 (by decide) (fun c3 => ?_) (fun c3 => ?_)
    · have hf := zif_t c3 hf
      exact Ke0 _ (Option.some.inj hf).symm _ _ _ h hl
    · have hf := zif_f c3 hf
      refine lv_iinc (v := (a + 1)) (lv' := [(3, .int (a + 1)), (0, .ref (κ.2.1 0)), (1, .ref (κ.2.1 10)), (2, .int k2)]) C.ex C.by dX10_write_19 hl (k := 3) rfl rfl (by decide) rfl (fun ls hl => ?_)
      refine lv_goto (tgt := 2) C.ex C.by dX10_write_22 (by decide) ?_
      exact Kc _ (Option.some.inj hf).symm _ _ _ h (lv_sub hl [1, 2, 3, 0] rfl)
theorem wlX10_write_p10_2 {p : Program} {l : Launch} {e : Env} {s : State} {m : MethodId} {args : Array Value} {below : List Frame} {meth : Method} {c : Code} {A : Nat → Prop} {κ : zG} {H : Heap} {locs : List Loc} {ls : Array Slot} {Q : State → Prop} {n : Nat} {σ : zS} {k2 : Int32} {k0 : Nat} {u3 : Int32} (C : zC cX10_write 5 (some .int) RX10 κ A p s m args meth c) (h : zH wM κ A s σ H locs) (hl : lv_has ls 5 [(0, .ref (κ.2.1 0)), (1, .ref (κ.2.1 10)), (2, .int k2), (3, .int u3)]) (b : Int32) (hb : zlp (fX10_write_p10_L2_2 n σ k2) k0 u3 = some b) (K : (fun b : Int32 => ∀ (H : Heap) (locs : List Loc) (ls : Array Slot), zH wM κ A s σ H locs → lv_has ls 5 [(0, .ref (κ.2.1 0)), (1, .ref (κ.2.1 10)), (2, .int k2), (3, .int b)] → W p l e rmX10_write_p10 s m args below meth c H locs 0 0 Q (F0 m 25 ls [])) b) : W p l e rmX10_write_p10 s m args below meth c H locs 0 0 Q (F0 m 2 ls []) :=
  z_loop (body := fX10_write_p10_L2_2 n σ k2) (Wd := (fun a : Int32 => ∀ (H : Heap) (locs : List Loc) (ls : Array Slot), zH wM κ A s σ H locs → lv_has ls 5 [(0, .ref (κ.2.1 0)), (1, .ref (κ.2.1 10)), (2, .int k2), (3, .int a)] → W p l e rmX10_write_p10 s m args below meth c H locs 0 0 Q (F0 m 2 ls []))) (Ex := (fun b : Int32 => (fun b : Int32 => ∀ (H : Heap) (locs : List Loc) (ls : Array Slot), zH wM κ A s σ H locs → lv_has ls 5 [(0, .ref (κ.2.1 0)), (1, .ref (κ.2.1 10)), (2, .int k2), (3, .int b)] → W p l e rmX10_write_p10 s m args below meth c H locs 0 0 Q (F0 m 25 ls [])) b)) (fun a r hr Kc Ke H locs ls h hl => wX10_write_p10_L2_2 C h hl hr (fun v3 e => Kc v3 e) (fun v3 e => Ke v3 e)) k0 u3 b hb K H locs ls h hl
set_option maxRecDepth 20000 in
set_option maxHeartbeats 4000000 in
theorem wX10_write_p10_L132_132 {p : Program} {l : Launch} {e : Env} {s : State} {m : MethodId} {args : Array Value} {below : List Frame} {meth : Method} {c : Code} {A : Nat → Prop} {κ : zG} {H : Heap} {locs : List Loc} {ls : Array Slot} {Q : State → Prop} {n : Nat} {k2 : Int32} {k3 : Int32} {a : Int32 × zS} {r : (Int32 × zS) ⊕ (zS)} (C : zC cX10_write 5 (some .int) RX10 κ A p s m args meth c) (h : zH wM κ A s a.2 H locs) (hl : lv_has ls 5 [(0, .ref (κ.2.1 0)), (1, .ref (κ.2.1 10)), (2, .int k2), (3, .int k3), (4, .int a.1)]) (hf : fX10_write_p10_L132_132 n k2 k3 a = some r) (Kc : ∀ (v4 : Int32) (σ1 : zS), r = .inl (v4, σ1) → ∀ (H : Heap) (locs : List Loc) (ls : Array Slot), zH wM κ A s σ1 H locs → lv_has ls 5 [(0, .ref (κ.2.1 0)), (1, .ref (κ.2.1 10)), (2, .int k2), (3, .int k3), (4, .int v4)] → W p l e rmX10_write_p10 s m args below meth c H locs 0 0 Q (F0 m 132 ls [])) (Ke0 : ∀ (σ1 : zS), r = .inr σ1 → ∀ (H : Heap) (locs : List Loc) (ls : Array Slot), zH wM κ A s σ1 H locs → lv_has ls 5 [(0, .ref (κ.2.1 0)), (3, .int k3)] → W p l e rmX10_write_p10 s m args below meth c H locs 0 0 Q (F0 m 167 ls [])) : W p l e rmX10_write_p10 s m args below meth c H locs 0 0 Q (F0 m 132 ls []) := by
  unfold fX10_write_p10_L132_132 at hf
  refine lv_iload C.ex C.by dX10_write_132 (lv_at hl 4 rfl) ?_
  refine lv_iload_n C.ex C.by dX10_write_134 rfl (lv_at hl 2 rfl) ?_
  refine lv_aload_n C.ex C.by dX10_write_135 rfl (lv_at hl 0 rfl) ?_
  refine z_get (v := .int (zI a.2 6)) C h iwX10 0 (wM_at0 κ _) rfl 16 (by decide) lkM9 rfl dX10_write_136 ?_
  refine lv_iconst (v := 1) C.ex C.by dX10_write_139 (by decide) ?_
  refine lv_iadd C.ex C.by dX10_write_140 ?_
  refine lv_imul C.ex C.by dX10_write_141 ?_
  refine lv_icmp_ge (tgt := 167) C.ex C.by dX10_write_142 (by decide) (fun c16 => ?_) (fun c16 => ?_)
  · have hf := zif_t c16 hf
    exact Ke0 _ (Option.some.inj hf).symm _ _ _ h (lv_sub hl [0, 3] rfl)
  · have hf := zif_f c16 hf
    refine lv_aload_n C.ex C.by dX10_write_145 rfl (lv_at hl 0 rfl) ?_
    refine z_get (v := .ref (κ.2.1 1)) C h iwX10 0 (wM_at0 κ _) rfl 4 (by decide) lkM40 rfl dX10_write_146 ?_
    refine lv_bipush (v := 64) C.ex C.by dX10_write_149 (by decide) ?_
    refine lv_iload_n C.ex C.by dX10_write_151 rfl (lv_at hl 3 rfl) ?_
    refine lv_imul C.ex C.by dX10_write_152 ?_
    refine lv_iload C.ex C.by dX10_write_153 (lv_at hl 4 rfl) ?_
    refine lv_iadd C.ex C.by dX10_write_155 ?_
    refine lv_aload_n C.ex C.by dX10_write_156 rfl (lv_at hl 1 rfl) ?_
    refine lv_iload C.ex C.by dX10_write_157 (lv_at hl 4 rfl) ?_
    obtain ⟨h17, hf⟩ := zg_some hf
    refine z_lald (f := (zL a.2 1)) C h 10 (wM_at10 κ _) h17 dX10_write_159 ?_
    obtain ⟨h18, hf⟩ := zg_some hf
    refine z_last (f := (zL a.2 0)) C h 1 (wM_at1 κ _) h18 (sL a.2 0 (vp_updL (zL a.2 0) (Int32.toNatClampNeg ((64 * k3) + a.1)) ((zL a.2 1) (Int32.toNatClampNeg a.1)))) (wM_s1 κ _ _) dX10_write_160 (fun H locs h => ?_)
    refine lv_iinc (v := (a.1 + 1)) (lv' := [(4, .int (a.1 + 1)), (0, .ref (κ.2.1 0)), (1, .ref (κ.2.1 10)), (2, .int k2), (3, .int k3)]) C.ex C.by dX10_write_161 hl (k := 4) rfl rfl (by decide) rfl (fun ls hl => ?_)
    refine lv_goto (tgt := 132) C.ex C.by dX10_write_164 (by decide) ?_
    exact Kc _ _ (Option.some.inj hf).symm _ _ _ h (lv_sub hl [1, 2, 3, 4, 0] rfl)
theorem wlX10_write_p10_132 {p : Program} {l : Launch} {e : Env} {s : State} {m : MethodId} {args : Array Value} {below : List Frame} {meth : Method} {c : Code} {A : Nat → Prop} {κ : zG} {H : Heap} {locs : List Loc} {ls : Array Slot} {Q : State → Prop} {n : Nat} {k2 : Int32} {k3 : Int32} {k0 : Nat} {u4 : Int32} {σ1 : zS} (C : zC cX10_write 5 (some .int) RX10 κ A p s m args meth c) (h : zH wM κ A s σ1 H locs) (hl : lv_has ls 5 [(0, .ref (κ.2.1 0)), (1, .ref (κ.2.1 10)), (2, .int k2), (3, .int k3), (4, .int u4)]) (b : zS) (hb : zlp (fX10_write_p10_L132_132 n k2 k3) k0 (u4, σ1) = some b) (K : (fun b : zS => ∀ (H : Heap) (locs : List Loc) (ls : Array Slot), zH wM κ A s b H locs → lv_has ls 5 [(0, .ref (κ.2.1 0)), (3, .int k3)] → W p l e rmX10_write_p10 s m args below meth c H locs 0 0 Q (F0 m 167 ls [])) b) : W p l e rmX10_write_p10 s m args below meth c H locs 0 0 Q (F0 m 132 ls []) :=
  z_loop (body := fX10_write_p10_L132_132 n k2 k3) (Wd := (fun a : Int32 × zS => ∀ (H : Heap) (locs : List Loc) (ls : Array Slot), zH wM κ A s a.2 H locs → lv_has ls 5 [(0, .ref (κ.2.1 0)), (1, .ref (κ.2.1 10)), (2, .int k2), (3, .int k3), (4, .int a.1)] → W p l e rmX10_write_p10 s m args below meth c H locs 0 0 Q (F0 m 132 ls []))) (Ex := (fun b : zS => (fun b : zS => ∀ (H : Heap) (locs : List Loc) (ls : Array Slot), zH wM κ A s b H locs → lv_has ls 5 [(0, .ref (κ.2.1 0)), (3, .int k3)] → W p l e rmX10_write_p10 s m args below meth c H locs 0 0 Q (F0 m 167 ls [])) b)) (fun a r hr Kc Ke H locs ls h hl => wX10_write_p10_L132_132 C h hl hr (fun v4 σ1 e => Kc (v4, σ1) e) (fun σ1 e => Ke σ1 e)) k0 (u4, σ1) b hb K H locs ls h hl
set_option maxRecDepth 20000 in
set_option maxHeartbeats 4000000 in
theorem wX10_write_p10_90 {p : Program} {l : Launch} {e : Env} {s : State} {m : MethodId} {args : Array Value} {below : List Frame} {meth : Method} {c : Code} {A : Nat → Prop} {κ : zG} {H : Heap} {locs : List Loc} {ls : Array Slot} {n : Nat} {σ : zS} {x2 : Int32} {x3 : Int32} {y0 : Int32} {r1 : Int32} {r2 : zS} (C : zC cX10_write 5 (some .int) RX10 κ A p s m args meth c) (h : zH wM κ A s σ H locs) (hl : lv_has ls 5 [(0, .ref (κ.2.1 0)), (1, .ref (κ.2.1 10)), (2, .int x2), (3, .int x3)]) (hf : fX10_write_p10_90 n σ x2 x3 y0 = some (r1, r2)) : W p l e rmX10_write_p10 s m args below meth c H locs 0 0 (MQ below (zQi wM κ A r1 r2) args s 0 0 A) (F0 m 90 ls [.int y0, .ref (κ.2.1 0)]) := by
  unfold fX10_write_p10_90 at hf
  refine z_put C h iwX10 tyX10_ok nmX10 0 (wM_at0 κ _) rfl 27 (by decide) lkM30 rfl rfl rfl (Nat.le_of_ble_eq_true rfl) (sI σ 15 y0) (wM_s0_27 κ _ _) dX10_write_90 (fun H locs h => ?_)
  refine lv_aload_n C.ex C.by dX10_write_93 rfl (lv_at hl 0 rfl) ?_
  refine z_get (v := .ref (κ.2.1 2)) C h iwX10 0 (wM_at0 κ _) rfl 5 (by decide) lkM29 rfl dX10_write_94 ?_
  refine lv_iload_n C.ex C.by dX10_write_97 rfl (lv_at hl 3 rfl) ?_
  refine lv_iconst (v := 1) C.ex C.by dX10_write_98 (by decide) ?_
  obtain ⟨h11, hf⟩ := zg_some hf
  refine z_zast (f := (zA σ 0)) C h 2 (wM_at2 κ _) h11 (sA (sI σ 15 y0) 0 (upd (zA σ 0) (Int32.toNatClampNeg x3) (vp_nar .boolean 1))) (wM_s2 κ _ _) dX10_write_99 (fun H locs h => ?_)
  refine lv_aload_n C.ex C.by dX10_write_100 rfl (lv_at hl 0 rfl) ?_
  refine z_get (v := .ref (κ.2.1 3)) C h iwX10 0 (wM_at0 κ _) rfl 6 (by decide) lkM19 rfl dX10_write_101 ?_
  refine lv_iload_n C.ex C.by dX10_write_104 rfl (lv_at hl 3 rfl) ?_
  refine lv_iconst (v := 1) C.ex C.by dX10_write_105 (by decide) ?_
  obtain ⟨h12, hf⟩ := zg_some hf
  refine z_zast (f := (zA σ 1)) C h 3 (wM_at3 κ _) h12 (sA (sA (sI σ 15 y0) 0 (upd (zA σ 0) (Int32.toNatClampNeg x3) (vp_nar .boolean 1))) 1 (upd (zA σ 1) (Int32.toNatClampNeg x3) (vp_nar .boolean 1))) (wM_s3 κ _ _) dX10_write_106 (fun H locs h => ?_)
  refine lv_aload_n C.ex C.by dX10_write_107 rfl (lv_at hl 0 rfl) ?_
  refine z_get (v := .ref (κ.2.1 4)) C h iwX10 0 (wM_at0 κ _) rfl 7 (by decide) lkM31 rfl dX10_write_108 ?_
  refine lv_iload_n C.ex C.by dX10_write_111 rfl (lv_at hl 3 rfl) ?_
  refine lv_iconst (v := (-1)) C.ex C.by dX10_write_112 (by decide) ?_
  obtain ⟨h13, hf⟩ := zg_some hf
  refine z_iast (f := (zA σ 2)) C h 4 (wM_at4 κ _) h13 (sA (sA (sA (sI σ 15 y0) 0 (upd (zA σ 0) (Int32.toNatClampNeg x3) (vp_nar .boolean 1))) 1 (upd (zA σ 1) (Int32.toNatClampNeg x3) (vp_nar .boolean 1))) 2 (upd (zA σ 2) (Int32.toNatClampNeg x3) (-1))) (wM_s4 κ _ _) dX10_write_113 (fun H locs h => ?_)
  refine lv_aload_n C.ex C.by dX10_write_114 rfl (lv_at hl 0 rfl) ?_
  refine lv_dup C.ex C.by dX10_write_115 rfl ?_
  refine z_get (v := .int (zI σ 11)) C h iwX10 0 (wM_at0 κ _) rfl 23 (by decide) lkM32 rfl dX10_write_116 ?_
  refine lv_iconst (v := 1) C.ex C.by dX10_write_119 (by decide) ?_
  refine lv_iadd C.ex C.by dX10_write_120 ?_
  refine z_put C h iwX10 tyX10_ok nmX10 0 (wM_at0 κ _) rfl 23 (by decide) lkM32 rfl rfl rfl (Nat.le_of_ble_eq_true rfl) (sI (sA (sA (sA (sI σ 15 y0) 0 (upd (zA σ 0) (Int32.toNatClampNeg x3) (vp_nar .boolean 1))) 1 (upd (zA σ 1) (Int32.toNatClampNeg x3) (vp_nar .boolean 1))) 2 (upd (zA σ 2) (Int32.toNatClampNeg x3) (-1))) 11 ((zI σ 11) + 1)) (wM_s0_23 κ _ _) dX10_write_121 (fun H locs h => ?_)
  refine lv_aload_n C.ex C.by dX10_write_124 rfl (lv_at hl 0 rfl) ?_
  refine lv_iload_n C.ex C.by dX10_write_125 rfl (lv_at hl 3 rfl) ?_
  obtain ⟨q14, e15, hf⟩ := zb_some hf
  refine z_callVv (As := [.int x3]) C h (ctX10_go e15) (zgV lkM36 lkM37 lkM38 lkM2 lkM39) ⟨rfl, rfl⟩ hdX10_go ⟨Nat.le_of_ble_eq_true rfl, Nat.le_of_ble_eq_true rfl⟩ 0 (wM_at0 κ _) rfl hl rfl rfl (Nat.le_of_ble_eq_true rfl) dX10_write_126 ⟨Nat.zero_le _, Nat.zero_le _⟩ (fun H locs h => ?_)
  refine lv_iconst (v := 0) C.ex C.by dX10_write_129 (by decide) ?_
  refine lv_istore (lv' := [(4, .int 0), (0, .ref (κ.2.1 0)), (1, .ref (κ.2.1 10)), (2, .int x2), (3, .int x3)]) C.ex C.by dX10_write_130 hl (by decide) rfl (fun ls hl => ?_)
  obtain ⟨b19, e20, hf⟩ := zb_some hf
  refine wlX10_write_p10_132 C h (lv_sub hl [1, 2, 3, 4, 0] rfl) b19 e20 ?_
  intro H locs ls h hl
  refine lv_iload_n C.ex C.by dX10_write_167 rfl (lv_at hl 1 rfl) ?_
  cases hf
  exact z_iret C h dX10_write_168
set_option maxRecDepth 20000 in
set_option maxHeartbeats 4000000 in
theorem wX10_write_p10_60 {p : Program} {l : Launch} {e : Env} {s : State} {m : MethodId} {args : Array Value} {below : List Frame} {meth : Method} {c : Code} {A : Nat → Prop} {κ : zG} {H : Heap} {locs : List Loc} {ls : Array Slot} {n : Nat} {σ : zS} {x2 : Int32} {x3 : Int32} {r1 : Int32} {r2 : zS} (C : zC cX10_write 5 (some .int) RX10 κ A p s m args meth c) (h : zH wM κ A s σ H locs) (hl : lv_has ls 5 [(0, .ref (κ.2.1 0)), (1, .ref (κ.2.1 10)), (2, .int x2), (3, .int x3)]) (hf : fX10_write_p10_60 n σ x2 x3 = some (r1, r2)) : W p l e rmX10_write_p10 s m args below meth c H locs 0 0 (MQ below (zQi wM κ A r1 r2) args s 0 0 A) (F0 m 60 ls []) := by
  unfold fX10_write_p10_60 at hf
  refine lv_aload_n C.ex C.by dX10_write_60 rfl (lv_at hl 0 rfl) ?_
  refine z_get (v := .int (zI σ 17)) C h iwX10 0 (wM_at0 κ _) rfl 29 (by decide) lkM17 rfl dX10_write_61 ?_
  refine lv_if_le (tgt := 69) C.ex C.by dX10_write_64 (by decide) (fun c9 => ?_) (fun c9 => ?_)
  · have hf := zif_t c9 hf
    refine lv_aload_n C.ex C.by dX10_write_69 rfl (lv_at hl 0 rfl) ?_
    refine lv_aload_n C.ex C.by dX10_write_70 rfl (lv_at hl 0 rfl) ?_
    refine z_get (v := .int (zI σ 15)) C h iwX10 0 (wM_at0 κ _) rfl 27 (by decide) lkM30 rfl dX10_write_71 ?_
    refine lv_if_le (tgt := 86) C.ex C.by dX10_write_74 (by decide) (fun c10 => ?_) (fun c10 => ?_)
    · have hf := zif_t c10 hf
      refine lv_aload_n C.ex C.by dX10_write_86 rfl (lv_at hl 0 rfl) ?_
      refine z_get (v := .int (zI σ 15)) C h iwX10 0 (wM_at0 κ _) rfl 27 (by decide) lkM30 rfl dX10_write_87 ?_
      exact wX10_write_p10_90 C h hl hf
    · have hf := zif_f c10 hf
      refine lv_aload_n C.ex C.by dX10_write_77 rfl (lv_at hl 0 rfl) ?_
      refine z_get (v := .int (zI σ 15)) C h iwX10 0 (wM_at0 κ _) rfl 27 (by decide) lkM30 rfl dX10_write_78 ?_
      refine lv_iconst (v := 1) C.ex C.by dX10_write_81 (by decide) ?_
      refine lv_isub C.ex C.by dX10_write_82 ?_
      refine lv_goto (tgt := 90) C.ex C.by dX10_write_83 (by decide) ?_
      exact wX10_write_p10_90 C h hl hf
  · have hf := zif_f c9 hf
    refine lv_iconst (v := (-1)) C.ex C.by dX10_write_67 (by decide) ?_
    cases hf
    exact z_iret C h dX10_write_68
set_option maxRecDepth 20000 in
set_option maxHeartbeats 4000000 in
theorem wX10_write_p10_57 {p : Program} {l : Launch} {e : Env} {s : State} {m : MethodId} {args : Array Value} {below : List Frame} {meth : Method} {c : Code} {A : Nat → Prop} {κ : zG} {H : Heap} {locs : List Loc} {ls : Array Slot} {n : Nat} {σ : zS} {x2 : Int32} {x3 : Int32} {y0 : Int32} {r1 : Int32} {r2 : zS} (C : zC cX10_write 5 (some .int) RX10 κ A p s m args meth c) (h : zH wM κ A s σ H locs) (hl : lv_has ls 5 [(0, .ref (κ.2.1 0)), (1, .ref (κ.2.1 10)), (2, .int x2), (3, .int x3)]) (hf : fX10_write_p10_57 n σ x2 x3 y0 = some (r1, r2)) : W p l e rmX10_write_p10 s m args below meth c H locs 0 0 (MQ below (zQi wM κ A r1 r2) args s 0 0 A) (F0 m 57 ls [.int y0, .ref (κ.2.1 0)]) := by
  unfold fX10_write_p10_57 at hf
  refine z_put C h iwX10 tyX10_ok nmX10 0 (wM_at0 κ _) rfl 29 (by decide) lkM17 rfl rfl rfl (Nat.le_of_ble_eq_true rfl) (sI σ 17 y0) (wM_s0_29 κ _ _) dX10_write_57 (fun H locs h => ?_)
  exact wX10_write_p10_60 C h hl hf
set_option maxRecDepth 20000 in
set_option maxHeartbeats 4000000 in
theorem wX10_write_p10_0 {p : Program} {l : Launch} {e : Env} {s : State} {m : MethodId} {args : Array Value} {below : List Frame} {meth : Method} {c : Code} {A : Nat → Prop} {κ : zG} {H : Heap} {locs : List Loc} {ls : Array Slot} {n : Nat} {σ : zS} {x2 : Int32} {r1 : Int32} {r2 : zS} (C : zC cX10_write 5 (some .int) RX10 κ A p s m args meth c) (h : zH wM κ A s σ H locs) (hl : lv_has ls 5 [(0, .ref (κ.2.1 0)), (1, .ref (κ.2.1 10)), (2, .int x2)]) (hf : fX10_write_p10_0 n σ x2 = some (r1, r2)) : W p l e rmX10_write_p10 s m args below meth c H locs 0 0 (MQ below (zQi wM κ A r1 r2) args s 0 0 A) (F0 m 0 ls []) := by
  unfold fX10_write_p10_0 at hf
  refine lv_iconst (v := 0) C.ex C.by dX10_write_0 (by decide) ?_
  refine lv_istore_n (lv' := [(3, .int 0), (0, .ref (κ.2.1 0)), (1, .ref (κ.2.1 10)), (2, .int x2)]) C.ex C.by dX10_write_1 rfl hl (by decide) rfl (fun ls hl => ?_)
  obtain ⟨b4, e5, hf⟩ := zb_some hf
  refine wlX10_write_p10_2 C h (lv_sub hl [1, 2, 3, 0] rfl) b4 e5 ?_
  intro H locs ls h hl
  refine lv_aload_n C.ex C.by dX10_write_25 rfl (lv_at hl 0 rfl) ?_
  refine z_get (v := .int (zI σ 17)) C h iwX10 0 (wM_at0 κ _) rfl 29 (by decide) lkM17 rfl dX10_write_26 ?_
  refine lv_if_ne (tgt := 60) C.ex C.by dX10_write_29 (by decide) (fun c6 => ?_) (fun c6 => ?_)
  · have hf := zif_f c6 hf
    exact wX10_write_p10_60 C h hl hf
  · have hf := zif_t c6 hf
    refine lv_aload_n C.ex C.by dX10_write_32 rfl (lv_at hl 0 rfl) ?_
    refine lv_iload_n C.ex C.by dX10_write_33 rfl (lv_at hl 3 rfl) ?_
    refine lv_aload_n C.ex C.by dX10_write_34 rfl (lv_at hl 0 rfl) ?_
    refine z_get (v := .int (zI σ 1)) C h iwX10 0 (wM_at0 κ _) rfl 1 (by decide) lkM18 rfl dX10_write_35 ?_
    refine lv_icmp_ne (tgt := 45) C.ex C.by dX10_write_38 (by decide) (fun c7 => ?_) (fun c7 => ?_)
    · have hf := zif_f c7 hf
      refine lv_aload_n C.ex C.by dX10_write_45 rfl (lv_at hl 0 rfl) ?_
      refine z_get (v := .int (zI σ 15)) C h iwX10 0 (wM_at0 κ _) rfl 27 (by decide) lkM30 rfl dX10_write_46 ?_
      refine lv_if_ne (tgt := 56) C.ex C.by dX10_write_49 (by decide) (fun c8 => ?_) (fun c8 => ?_)
      · have hf := zif_f c8 hf
        refine lv_iconst (v := 0) C.ex C.by dX10_write_56 (by decide) ?_
        exact wX10_write_p10_57 C h hl hf
      · have hf := zif_t c8 hf
        refine lv_iconst (v := 1) C.ex C.by dX10_write_52 (by decide) ?_
        refine lv_goto (tgt := 57) C.ex C.by dX10_write_53 (by decide) ?_
        exact wX10_write_p10_57 C h hl hf
    · have hf := zif_t c7 hf
      refine lv_iconst (v := 2) C.ex C.by dX10_write_41 (by decide) ?_
      refine lv_goto (tgt := 57) C.ex C.by dX10_write_42 (by decide) ?_
      exact wX10_write_p10_57 C h hl hf
theorem ctX10_write_p10 {l : Launch} {κ : zG} {n : Nat} {σ : zS} {x2 : Int32} {r1 : Int32} {r2 : zS} (hf : fX10_write_p10_0 n σ x2 = some (r1, r2)) : zMi l yX10_write (Cond.code yX10_write cX10_write 5 (some .int)) rmX10_write_p10 wM κ [.ref (κ.2.1 0), .ref (κ.2.1 10), .int x2] σ r1 r2 :=
  zMi_of (by decide) (Nat.le_of_ble_eq_true rfl) (fun p e s m below meth c A C h ls hl => wX10_write_p10_0 C h hl hf)
theorem hdX10_hang : yX10_hang.cls = RX10 ∧ yX10_hang.cls ≠ "java/lang/invoke/MethodHandle" ∧ yX10_hang.cls ≠ "java/lang/invoke/VarHandle" ∧ (parseMethodDescriptor yX10_hang.desc).map (fun d => d.parameters.length) = some 3 := by decide +kernel
abbrev rmX10_hang : Room := { frames := 0, cells := 0, slots := 0, locals := 0 }
set_option maxRecDepth 20000 in
set_option maxHeartbeats 4000000 in
theorem wX10_hang_38 {p : Program} {l : Launch} {e : Env} {s : State} {m : MethodId} {args : Array Value} {below : List Frame} {meth : Method} {c : Code} {A : Nat → Prop} {κ : zG} {H : Heap} {locs : List Loc} {ls : Array Slot} {n : Nat} {σ : zS} {x1 : Int32} {x2 : Int32} {x3 : Int32} {r : zS} (C : zC cX10_hang 4 none RX10 κ A p s m args meth c) (h : zH wM κ A s σ H locs) (hl : lv_has ls 4 [(0, .ref (κ.2.1 0)), (1, .int x1), (2, .int x2), (3, .int x3)]) (hf : fX10_hang_38 n σ x1 x2 x3 = some r) : W p l e rmX10_hang s m args below meth c H locs 0 0 (MQ below (zQv wM κ A r) args s 0 0 A) (F0 m 38 ls []) := by
  unfold fX10_hang_38 at hf
  refine lv_aload_n C.ex C.by dX10_hang_38 rfl (lv_at hl 0 rfl) ?_
  refine z_get (v := .ref (κ.2.1 6)) C h iwX10 0 (wM_at0 κ _) rfl 9 (by decide) lkM46 rfl dX10_hang_39 ?_
  refine lv_iload_n C.ex C.by dX10_hang_42 rfl (lv_at hl 1 rfl) ?_
  refine lv_iload_n C.ex C.by dX10_hang_43 rfl (lv_at hl 2 rfl) ?_
  obtain ⟨h7, hf⟩ := zg_some hf
  refine z_iast (f := (zA σ 4)) C h 6 (wM_at6 κ _) h7 (sA σ 4 (upd (zA σ 4) (Int32.toNatClampNeg x1) x2)) (wM_s6 κ _ _) dX10_hang_44 (fun H locs h => ?_)
  refine lv_aload_n C.ex C.by dX10_hang_45 rfl (lv_at hl 0 rfl) ?_
  refine z_get (v := .ref (κ.2.1 7)) C h iwX10 0 (wM_at0 κ _) rfl 10 (by decide) lkM6 rfl dX10_hang_46 ?_
  refine lv_iload_n C.ex C.by dX10_hang_49 rfl (lv_at hl 1 rfl) ?_
  refine lv_dup2_11 C.ex C.by dX10_hang_50 rfl rfl ?_
  obtain ⟨h8, hf⟩ := zg_some hf
  refine z_iald (f := (zA σ 5)) C h 7 (wM_at7 κ _) h8 dX10_hang_51 ?_
  refine lv_iload_n C.ex C.by dX10_hang_52 rfl (lv_at hl 3 rfl) ?_
  refine lv_iadd C.ex C.by dX10_hang_53 ?_
  obtain ⟨h9, hf⟩ := zg_some hf
  refine z_iast (f := (zA σ 5)) C h 7 (wM_at7 κ _) h9 (sA (sA σ 4 (upd (zA σ 4) (Int32.toNatClampNeg x1) x2)) 5 (upd (zA σ 5) (Int32.toNatClampNeg x1) (((zA σ 5) (Int32.toNatClampNeg x1)) + x3))) (wM_s7 κ _ _) dX10_hang_54 (fun H locs h => ?_)
  cases hf
  exact z_vret C h dX10_hang_55
set_option maxRecDepth 20000 in
set_option maxHeartbeats 4000000 in
theorem wX10_hang_0 {p : Program} {l : Launch} {e : Env} {s : State} {m : MethodId} {args : Array Value} {below : List Frame} {meth : Method} {c : Code} {A : Nat → Prop} {κ : zG} {H : Heap} {locs : List Loc} {ls : Array Slot} {n : Nat} {σ : zS} {x1 : Int32} {x2 : Int32} {x3 : Int32} {r : zS} (C : zC cX10_hang 4 none RX10 κ A p s m args meth c) (h : zH wM κ A s σ H locs) (hl : lv_has ls 4 [(0, .ref (κ.2.1 0)), (1, .int x1), (2, .int x2), (3, .int x3)]) (hf : fX10_hang_0 n σ x1 x2 x3 = some r) : W p l e rmX10_hang s m args below meth c H locs 0 0 (MQ below (zQv wM κ A r) args s 0 0 A) (F0 m 0 ls []) := by
  unfold fX10_hang_0 at hf
  refine lv_iload_n C.ex C.by dX10_hang_0 rfl (lv_at hl 2 rfl) ?_
  refine lv_iconst (v := (-1)) C.ex C.by dX10_hang_1 (by decide) ?_
  refine lv_icmp_ne (tgt := 6) C.ex C.by dX10_hang_2 (by decide) (fun c1 => ?_) (fun c1 => ?_)
  · have hf := zif_f c1 hf
    refine lv_aload_n C.ex C.by dX10_hang_6 rfl (lv_at hl 0 rfl) ?_
    refine z_get (v := .ref (κ.2.1 5)) C h iwX10 0 (wM_at0 κ _) rfl 8 (by decide) lkM45 rfl dX10_hang_7 ?_
    refine lv_iload_n C.ex C.by dX10_hang_10 rfl (lv_at hl 1 rfl) ?_
    obtain ⟨h2, hf⟩ := zg_some hf
    refine z_iald (f := (zA σ 3)) C h 5 (wM_at5 κ _) h2 dX10_hang_11 ?_
    refine lv_iconst (v := (-1)) C.ex C.by dX10_hang_12 (by decide) ?_
    refine lv_icmp_ne (tgt := 26) C.ex C.by dX10_hang_13 (by decide) (fun c3 => ?_) (fun c3 => ?_)
    · have hf := zif_f c3 hf
      refine lv_aload_n C.ex C.by dX10_hang_26 rfl (lv_at hl 0 rfl) ?_
      refine z_get (v := .ref (κ.2.1 4)) C h iwX10 0 (wM_at0 κ _) rfl 7 (by decide) lkM31 rfl dX10_hang_27 ?_
      refine lv_aload_n C.ex C.by dX10_hang_30 rfl (lv_at hl 0 rfl) ?_
      refine z_get (v := .ref (κ.2.1 6)) C h iwX10 0 (wM_at0 κ _) rfl 9 (by decide) lkM46 rfl dX10_hang_31 ?_
      refine lv_iload_n C.ex C.by dX10_hang_34 rfl (lv_at hl 1 rfl) ?_
      obtain ⟨h4, hf⟩ := zg_some hf
      refine z_iald (f := (zA σ 4)) C h 6 (wM_at6 κ _) h4 dX10_hang_35 ?_
      refine lv_iload_n C.ex C.by dX10_hang_36 rfl (lv_at hl 2 rfl) ?_
      obtain ⟨h5, hf⟩ := zg_some hf
      refine z_iast (f := (zA σ 2)) C h 4 (wM_at4 κ _) h5 (sA σ 2 (upd (zA σ 2) (Int32.toNatClampNeg ((zA σ 4) (Int32.toNatClampNeg x1))) x2)) (wM_s4 κ _ _) dX10_hang_37 (fun H locs h => ?_)
      exact wX10_hang_38 C h hl hf
    · have hf := zif_t c3 hf
      refine lv_aload_n C.ex C.by dX10_hang_16 rfl (lv_at hl 0 rfl) ?_
      refine z_get (v := .ref (κ.2.1 5)) C h iwX10 0 (wM_at0 κ _) rfl 8 (by decide) lkM45 rfl dX10_hang_17 ?_
      refine lv_iload_n C.ex C.by dX10_hang_20 rfl (lv_at hl 1 rfl) ?_
      refine lv_iload_n C.ex C.by dX10_hang_21 rfl (lv_at hl 2 rfl) ?_
      obtain ⟨h6, hf⟩ := zg_some hf
      refine z_iast (f := (zA σ 3)) C h 5 (wM_at5 κ _) h6 (sA σ 3 (upd (zA σ 3) (Int32.toNatClampNeg x1) x2)) (wM_s5 κ _ _) dX10_hang_22 (fun H locs h => ?_)
      refine lv_goto (tgt := 38) C.ex C.by dX10_hang_23 (by decide) ?_
      exact wX10_hang_38 C h hl hf
  · have hf := zif_t c1 hf
    cases hf
    exact z_vret C h dX10_hang_5
theorem ctX10_hang {l : Launch} {κ : zG} {n : Nat} {σ : zS} {x1 : Int32} {x2 : Int32} {x3 : Int32} {r : zS} (hf : fX10_hang_0 n σ x1 x2 x3 = some r) : zMv l yX10_hang (Cond.code yX10_hang cX10_hang 4 none) rmX10_hang wM κ [.ref (κ.2.1 0), .int x1, .int x2, .int x3] σ r :=
  zMv_of (by decide) (Nat.le_of_ble_eq_true rfl) (fun p e s m below meth c A C h ls hl => wX10_hang_0 C h hl hf)
theorem hdX10_come : yX10_come.cls = RX10 ∧ yX10_come.cls ≠ "java/lang/invoke/MethodHandle" ∧ yX10_come.cls ≠ "java/lang/invoke/VarHandle" ∧ (parseMethodDescriptor yX10_come.desc).map (fun d => d.parameters.length) = some 0 := by decide +kernel
abbrev rmX10_come : Room := { frames := 2, cells := 0, slots := 0, locals := 45 }
set_option maxRecDepth 20000 in
set_option maxHeartbeats 4000000 in
theorem wX10_come_L14_14 {p : Program} {l : Launch} {e : Env} {s : State} {m : MethodId} {args : Array Value} {below : List Frame} {meth : Method} {c : Code} {A : Nat → Prop} {κ : zG} {H : Heap} {locs : List Loc} {ls : Array Slot} {Q : State → Prop} {n : Nat} {k1 : Int32} {a : Int32 × zS} {r : (Int32 × zS) ⊕ (zS)} (C : zC cX10_come 3 (some .boolean) RX10 κ A p s m args meth c) (h : zH wM κ A s a.2 H locs) (hl : lv_has ls 3 [(0, .ref (κ.2.1 0)), (1, .int k1), (2, .int a.1)]) (hf : fX10_come_L14_14 n k1 a = some r) (Kc : ∀ (v2 : Int32) (σ1 : zS), r = .inl (v2, σ1) → ∀ (H : Heap) (locs : List Loc) (ls : Array Slot), zH wM κ A s σ1 H locs → lv_has ls 3 [(0, .ref (κ.2.1 0)), (1, .int k1), (2, .int v2)] → W p l e rmX10_come s m args below meth c H locs 0 0 Q (F0 m 14 ls [])) (Ke0 : ∀ (σ1 : zS), r = .inr σ1 → ∀ (H : Heap) (locs : List Loc) (ls : Array Slot), zH wM κ A s σ1 H locs → lv_has ls 3 [(0, .ref (κ.2.1 0)), (1, .int k1)] → W p l e rmX10_come s m args below meth c H locs 0 0 Q (F0 m 42 ls [])) : W p l e rmX10_come s m args below meth c H locs 0 0 Q (F0 m 14 ls []) := by
  unfold fX10_come_L14_14 at hf
  refine lv_iload_n C.ex C.by dX10_come_14 rfl (lv_at hl 2 rfl) ?_
  refine lv_aload_n C.ex C.by dX10_come_15 rfl (lv_at hl 0 rfl) ?_
  refine z_get (v := .int (zI a.2 6)) C h iwX10 0 (wM_at0 κ _) rfl 16 (by decide) lkM9 rfl dX10_come_16 ?_
  refine lv_icmp_ge (tgt := 42) C.ex C.by dX10_come_19 (by decide) (fun c1 => ?_) (fun c1 => ?_)
  · have hf := zif_t c1 hf
    exact Ke0 _ (Option.some.inj hf).symm _ _ _ h (lv_sub hl [0, 1] rfl)
  · have hf := zif_f c1 hf
    refine lv_aload_n C.ex C.by dX10_come_22 rfl (lv_at hl 0 rfl) ?_
    refine z_get (v := .ref (κ.2.1 10)) C h iwX10 0 (wM_at0 κ _) rfl 14 (by decide) lkM15 rfl dX10_come_23 ?_
    refine lv_iload_n C.ex C.by dX10_come_26 rfl (lv_at hl 1 rfl) ?_
    refine lv_iload_n C.ex C.by dX10_come_27 rfl (lv_at hl 2 rfl) ?_
    refine lv_iadd C.ex C.by dX10_come_28 ?_
    refine lv_aload_n C.ex C.by dX10_come_29 rfl (lv_at hl 0 rfl) ?_
    refine z_get (v := .ref (κ.2.1 15)) C h iwX10 0 (wM_at0 κ _) rfl 35 (by decide) lkM14 rfl dX10_come_30 ?_
    refine lv_iload_n C.ex C.by dX10_come_33 rfl (lv_at hl 2 rfl) ?_
    obtain ⟨h2, hf⟩ := zg_some hf
    refine z_lald (f := (zL a.2 4)) C h 15 (wM_at15 κ _) h2 dX10_come_34 ?_
    obtain ⟨h3, hf⟩ := zg_some hf
    refine z_last (f := (zL a.2 1)) C h 10 (wM_at10 κ _) h3 (sL a.2 1 (vp_updL (zL a.2 1) (Int32.toNatClampNeg (k1 + a.1)) ((zL a.2 4) (Int32.toNatClampNeg a.1)))) (wM_s10 κ _ _) dX10_come_35 (fun H locs h => ?_)
    refine lv_iinc (v := (a.1 + 1)) (lv' := [(2, .int (a.1 + 1)), (0, .ref (κ.2.1 0)), (1, .int k1)]) C.ex C.by dX10_come_36 hl (k := 2) rfl rfl (by decide) rfl (fun ls hl => ?_)
    refine lv_goto (tgt := 14) C.ex C.by dX10_come_39 (by decide) ?_
    exact Kc _ _ (Option.some.inj hf).symm _ _ _ h (lv_sub hl [1, 2, 0] rfl)
theorem wlX10_come_14 {p : Program} {l : Launch} {e : Env} {s : State} {m : MethodId} {args : Array Value} {below : List Frame} {meth : Method} {c : Code} {A : Nat → Prop} {κ : zG} {H : Heap} {locs : List Loc} {ls : Array Slot} {Q : State → Prop} {n : Nat} {k1 : Int32} {k0 : Nat} {u2 : Int32} {σ1 : zS} (C : zC cX10_come 3 (some .boolean) RX10 κ A p s m args meth c) (h : zH wM κ A s σ1 H locs) (hl : lv_has ls 3 [(0, .ref (κ.2.1 0)), (1, .int k1), (2, .int u2)]) (b : zS) (hb : zlp (fX10_come_L14_14 n k1) k0 (u2, σ1) = some b) (K : (fun b : zS => ∀ (H : Heap) (locs : List Loc) (ls : Array Slot), zH wM κ A s b H locs → lv_has ls 3 [(0, .ref (κ.2.1 0)), (1, .int k1)] → W p l e rmX10_come s m args below meth c H locs 0 0 Q (F0 m 42 ls [])) b) : W p l e rmX10_come s m args below meth c H locs 0 0 Q (F0 m 14 ls []) :=
  z_loop (body := fX10_come_L14_14 n k1) (Wd := (fun a : Int32 × zS => ∀ (H : Heap) (locs : List Loc) (ls : Array Slot), zH wM κ A s a.2 H locs → lv_has ls 3 [(0, .ref (κ.2.1 0)), (1, .int k1), (2, .int a.1)] → W p l e rmX10_come s m args below meth c H locs 0 0 Q (F0 m 14 ls []))) (Ex := (fun b : zS => (fun b : zS => ∀ (H : Heap) (locs : List Loc) (ls : Array Slot), zH wM κ A s b H locs → lv_has ls 3 [(0, .ref (κ.2.1 0)), (1, .int k1)] → W p l e rmX10_come s m args below meth c H locs 0 0 Q (F0 m 42 ls [])) b)) (fun a r hr Kc Ke H locs ls h hl => wX10_come_L14_14 C h hl hr (fun v2 σ1 e => Kc (v2, σ1) e) (fun σ1 e => Ke σ1 e)) k0 (u2, σ1) b hb K H locs ls h hl
set_option maxRecDepth 20000 in
set_option maxHeartbeats 4000000 in
theorem wX10_come_126 {p : Program} {l : Launch} {e : Env} {s : State} {m : MethodId} {args : Array Value} {below : List Frame} {meth : Method} {c : Code} {A : Nat → Prop} {κ : zG} {H : Heap} {locs : List Loc} {ls : Array Slot} {n : Nat} {σ : zS} {x2 : Int32} {y0 : Int32} {r1 : Int32} {r2 : zS} (C : zC cX10_come 3 (some .boolean) RX10 κ A p s m args meth c) (h : zH wM κ A s σ H locs) (hl : lv_has ls 3 [(0, .ref (κ.2.1 0)), (2, .int x2)]) (hf : fX10_come_126 n σ x2 y0 = some (r1, r2)) : W p l e rmX10_come s m args below meth c H locs 0 0 (MQ below (zQi wM κ A r1 r2) args s 0 0 A) (F0 m 126 ls [.int y0, .ref (κ.2.1 0)]) := by
  unfold fX10_come_126 at hf
  obtain ⟨h15, hf⟩ := zg_some hf
  refine z_put C h iwX10 tyX10_ok nmX10 0 (wM_at0 κ _) rfl 28 (by decide) lkM4 rfl (zbo_n h15) (zbo_f h15) (Nat.le_of_ble_eq_true rfl) (sI σ 16 y0) (wM_s0_28 κ _ _) dX10_come_126 (fun H locs h => ?_)
  refine lv_aload_n C.ex C.by dX10_come_129 rfl (lv_at hl 0 rfl) ?_
  refine z_get (v := .int (zI σ 17)) C h iwX10 0 (wM_at0 κ _) rfl 29 (by decide) lkM17 rfl dX10_come_130 ?_
  refine lv_if_le (tgt := 138) C.ex C.by dX10_come_133 (by decide) (fun c16 => ?_) (fun c16 => ?_)
  · have hf := zif_t c16 hf
    refine lv_aload_n C.ex C.by dX10_come_138 rfl (lv_at hl 0 rfl) ?_
    refine lv_iconst (v := 0) C.ex C.by dX10_come_139 (by decide) ?_
    refine lv_iload_n C.ex C.by dX10_come_140 rfl (lv_at hl 1 rfl) ?_
    refine lv_aload_n C.ex C.by dX10_come_141 rfl (lv_at hl 0 rfl) ?_
    refine z_get (v := .int (zI σ 5)) C h iwX10 0 (wM_at0 κ _) rfl 15 (by decide) lkM7 rfl dX10_come_142 ?_
    refine lv_iconst (v := 1) C.ex C.by dX10_come_145 (by decide) ?_
    refine lv_iadd C.ex C.by dX10_come_146 ?_
    obtain ⟨q17, e18, hf⟩ := zb_some hf
    refine z_callVv (As := [.int 0, .int x2, .int ((zI σ 5) + 1)]) C h (ctX10_hang e18) (zgV lkM47 lkM48 lkM49 lkM2 lkM50) ⟨rfl, rfl⟩ hdX10_hang ⟨Nat.le_of_ble_eq_true rfl, Nat.le_of_ble_eq_true rfl⟩ 0 (wM_at0 κ _) rfl hl rfl rfl (Nat.le_of_ble_eq_true rfl) dX10_come_147 ⟨Nat.zero_le _, Nat.zero_le _⟩ (fun H locs h => ?_)
    refine lv_aload_n C.ex C.by dX10_come_150 rfl (lv_at hl 0 rfl) ?_
    refine lv_iconst (v := 0) C.ex C.by dX10_come_151 (by decide) ?_
    refine z_put C h iwX10 tyX10_ok nmX10 0 (wM_at0 κ _) rfl 15 (by decide) lkM7 rfl rfl rfl (Nat.le_of_ble_eq_true rfl) (sI q17 5 0) (wM_s0_15 κ _ _) dX10_come_152 (fun H locs h => ?_)
    refine lv_aload_n C.ex C.by dX10_come_155 rfl (lv_at hl 0 rfl) ?_
    refine lv_dup C.ex C.by dX10_come_156 rfl ?_
    refine z_get (v := .int (zI q17 9)) C h iwX10 0 (wM_at0 κ _) rfl 21 (by decide) lkM16 rfl dX10_come_157 ?_
    refine lv_iconst (v := 1) C.ex C.by dX10_come_160 (by decide) ?_
    refine lv_iadd C.ex C.by dX10_come_161 ?_
    refine z_put C h iwX10 tyX10_ok nmX10 0 (wM_at0 κ _) rfl 21 (by decide) lkM16 rfl rfl rfl (Nat.le_of_ble_eq_true rfl) (sI (sI q17 5 0) 9 ((zI q17 9) + 1)) (wM_s0_21 κ _ _) dX10_come_162 (fun H locs h => ?_)
    refine lv_iconst (v := 1) C.ex C.by dX10_come_165 (by decide) ?_
    cases hf
    exact z_zret (r := 1) C h rfl dX10_come_166
  · have hf := zif_f c16 hf
    refine lv_iconst (v := 0) C.ex C.by dX10_come_136 (by decide) ?_
    cases hf
    exact z_zret (r := 0) C h rfl dX10_come_137
set_option maxRecDepth 20000 in
set_option maxHeartbeats 4000000 in
theorem wX10_come_0 {p : Program} {l : Launch} {e : Env} {s : State} {m : MethodId} {args : Array Value} {below : List Frame} {meth : Method} {c : Code} {A : Nat → Prop} {κ : zG} {H : Heap} {locs : List Loc} {ls : Array Slot} {n : Nat} {σ : zS} {r1 : Int32} {r2 : zS} (C : zC cX10_come 3 (some .boolean) RX10 κ A p s m args meth c) (h : zH wM κ A s σ H locs) (hl : lv_has ls 3 [(0, .ref (κ.2.1 0))]) (hf : fX10_come_0 n σ = some (r1, r2)) : W p l e rmX10_come s m args below meth c H locs 0 0 (MQ below (zQi wM κ A r1 r2) args s 0 0 A) (F0 m 0 ls []) := by
  unfold fX10_come_0 at hf
  refine lv_aload_n C.ex C.by dX10_come_0 rfl (lv_at hl 0 rfl) ?_
  refine z_get (v := .int (zI σ 5)) C h iwX10 0 (wM_at0 κ _) rfl 15 (by decide) lkM7 rfl dX10_come_1 ?_
  refine lv_aload_n C.ex C.by dX10_come_4 rfl (lv_at hl 0 rfl) ?_
  refine z_get (v := .int (zI σ 6)) C h iwX10 0 (wM_at0 κ _) rfl 16 (by decide) lkM9 rfl dX10_come_5 ?_
  refine lv_iconst (v := 1) C.ex C.by dX10_come_8 (by decide) ?_
  refine lv_iadd C.ex C.by dX10_come_9 ?_
  refine lv_imul C.ex C.by dX10_come_10 ?_
  refine lv_istore_n (lv' := [(1, .int ((zI σ 5) * ((zI σ 6) + 1))), (0, .ref (κ.2.1 0))]) C.ex C.by dX10_come_11 rfl hl (by decide) rfl (fun ls hl => ?_)
  refine lv_iconst (v := 0) C.ex C.by dX10_come_12 (by decide) ?_
  refine lv_istore_n (lv' := [(2, .int 0), (1, .int ((zI σ 5) * ((zI σ 6) + 1))), (0, .ref (κ.2.1 0))]) C.ex C.by dX10_come_13 rfl hl (by decide) rfl (fun ls hl => ?_)
  obtain ⟨b4, e5, hf⟩ := zb_some hf
  refine wlX10_come_14 C h (lv_sub hl [2, 1, 0] rfl) b4 e5 ?_
  intro H locs ls h hl
  refine lv_aload_n C.ex C.by dX10_come_42 rfl (lv_at hl 0 rfl) ?_
  refine z_get (v := .ref (κ.2.1 10)) C h iwX10 0 (wM_at0 κ _) rfl 14 (by decide) lkM15 rfl dX10_come_43 ?_
  refine lv_iload_n C.ex C.by dX10_come_46 rfl (lv_at hl 1 rfl) ?_
  refine lv_aload_n C.ex C.by dX10_come_47 rfl (lv_at hl 0 rfl) ?_
  refine z_get (v := .int (zI b4 6)) C h iwX10 0 (wM_at0 κ _) rfl 16 (by decide) lkM9 rfl dX10_come_48 ?_
  refine lv_iadd C.ex C.by dX10_come_51 ?_
  refine lv_aload_n C.ex C.by dX10_come_52 rfl (lv_at hl 0 rfl) ?_
  refine z_get (v := .int (zI b4 9)) C h iwX10 0 (wM_at0 κ _) rfl 21 (by decide) lkM16 rfl dX10_come_53 ?_
  refine lv_i2l (v := (Int32.toInt64 (zI b4 9))) C.ex C.by dX10_come_56 rfl ?_
  obtain ⟨h6, hf⟩ := zg_some hf
  refine z_last (f := (zL b4 1)) C h 10 (wM_at10 κ _) h6 (sL b4 1 (vp_updL (zL b4 1) (Int32.toNatClampNeg (((zI σ 5) * ((zI σ 6) + 1)) + (zI b4 6))) (Int32.toInt64 (zI b4 9)))) (wM_s10 κ _ _) dX10_come_57 (fun H locs h => ?_)
  refine lv_aload_n C.ex C.by dX10_come_58 rfl (lv_at hl 0 rfl) ?_
  obtain ⟨q7, e8, hf⟩ := zb_some hf
  refine z_callVv (As := []) C h (ctX10_begin e8) (zgV lkM20 lkM21 lkM22 lkM2 lkM23) ⟨rfl, rfl⟩ hdX10_begin ⟨Nat.le_of_ble_eq_true rfl, Nat.le_of_ble_eq_true rfl⟩ 0 (wM_at0 κ _) rfl hl rfl rfl (Nat.le_of_ble_eq_true rfl) dX10_come_59 ⟨Nat.zero_le _, Nat.zero_le _⟩ (fun H locs h => ?_)
  refine lv_aload_n C.ex C.by dX10_come_62 rfl (lv_at hl 0 rfl) ?_
  refine z_get (v := .int (zI q7 5)) C h iwX10 0 (wM_at0 κ _) rfl 15 (by decide) lkM7 rfl dX10_come_63 ?_
  refine lv_iconst (v := 1) C.ex C.by dX10_come_66 (by decide) ?_
  refine lv_iadd C.ex C.by dX10_come_67 ?_
  refine lv_aload_n C.ex C.by dX10_come_68 rfl (lv_at hl 0 rfl) ?_
  obtain ⟨q9, e10, hf⟩ := zb_some hf
  refine z_callVi (As := []) C h (ctX10_per e10) (zgV lkM25 lkM26 lkM27 lkM2 lkM28) ⟨rfl, rfl⟩ hdX10_per ⟨Nat.le_of_ble_eq_true rfl, Nat.le_of_ble_eq_true rfl⟩ 0 (wM_at0 κ _) rfl hl rfl rfl (Nat.le_of_ble_eq_true rfl) dX10_come_69 ⟨Nat.zero_le _, Nat.zero_le _⟩ (fun H locs h => ?_)
  refine lv_icmp_ge (tgt := 97) C.ex C.by dX10_come_72 (by decide) (fun c11 => ?_) (fun c11 => ?_)
  · have hf := zif_t c11 hf
    refine lv_aload_n C.ex C.by dX10_come_97 rfl (lv_at hl 0 rfl) ?_
    refine lv_aload_n C.ex C.by dX10_come_98 rfl (lv_at hl 0 rfl) ?_
    refine z_get (v := .ref (κ.2.1 10)) C h iwX10 0 (wM_at0 κ _) rfl 14 (by decide) lkM15 rfl dX10_come_99 ?_
    refine lv_aload_n C.ex C.by dX10_come_102 rfl (lv_at hl 0 rfl) ?_
    refine z_get (v := .int (zI q7 5)) C h iwX10 0 (wM_at0 κ _) rfl 15 (by decide) lkM7 rfl dX10_come_103 ?_
    refine lv_iconst (v := 1) C.ex C.by dX10_come_106 (by decide) ?_
    refine lv_iadd C.ex C.by dX10_come_107 ?_
    obtain ⟨q12, e13, hf⟩ := zb_some hf
    refine z_callVi (As := [.ref (κ.2.1 10), .int ((zI q7 5) + 1)]) C h (ctX10_write_p10 (r1 := q12.1) (r2 := q12.2) e13) (zgV lkM41 lkM42 lkM43 lkM2 lkM44) ⟨rfl, rfl⟩ hdX10_write ⟨Nat.le_of_ble_eq_true rfl, Nat.le_of_ble_eq_true rfl⟩ 0 (wM_at0 κ _) rfl hl rfl rfl (Nat.le_of_ble_eq_true rfl) dX10_come_108 ⟨Nat.zero_le _, Nat.zero_le _⟩ (fun H locs h => ?_)
    refine lv_istore_n (lv' := [(2, .int q12.1), (0, .ref (κ.2.1 0)), (1, .int ((zI σ 5) * ((zI σ 6) + 1)))]) C.ex C.by dX10_come_111 rfl hl (by decide) rfl (fun ls hl => ?_)
    refine lv_aload_n C.ex C.by dX10_come_112 rfl (lv_at hl 1 rfl) ?_
    refine lv_aload_n C.ex C.by dX10_come_113 rfl (lv_at hl 1 rfl) ?_
    refine z_get (v := .int (zI q12.2 17)) C h iwX10 0 (wM_at0 κ _) rfl 29 (by decide) lkM17 rfl dX10_come_114 ?_
    refine lv_iconst (v := 1) C.ex C.by dX10_come_117 (by decide) ?_
    refine lv_icmp_ne (tgt := 125) C.ex C.by dX10_come_118 (by decide) (fun c14 => ?_) (fun c14 => ?_)
    · have hf := zif_f c14 hf
      refine lv_iconst (v := 0) C.ex C.by dX10_come_125 (by decide) ?_
      exact wX10_come_126 C h (lv_sub hl [1, 0] rfl) hf
    · have hf := zif_t c14 hf
      refine lv_iconst (v := 1) C.ex C.by dX10_come_121 (by decide) ?_
      refine lv_goto (tgt := 126) C.ex C.by dX10_come_122 (by decide) ?_
      exact wX10_come_126 C h (lv_sub hl [1, 0] rfl) hf
  · have hf := zif_f c11 hf
    refine lv_aload_n C.ex C.by dX10_come_75 rfl (lv_at hl 0 rfl) ?_
    refine lv_dup C.ex C.by dX10_come_76 rfl ?_
    refine z_get (v := .int (zI q7 5)) C h iwX10 0 (wM_at0 κ _) rfl 15 (by decide) lkM7 rfl dX10_come_77 ?_
    refine lv_iconst (v := 1) C.ex C.by dX10_come_80 (by decide) ?_
    refine lv_iadd C.ex C.by dX10_come_81 ?_
    refine z_put C h iwX10 tyX10_ok nmX10 0 (wM_at0 κ _) rfl 15 (by decide) lkM7 rfl rfl rfl (Nat.le_of_ble_eq_true rfl) (sI q7 5 ((zI q7 5) + 1)) (wM_s0_15 κ _ _) dX10_come_82 (fun H locs h => ?_)
    refine lv_aload_n C.ex C.by dX10_come_85 rfl (lv_at hl 0 rfl) ?_
    refine lv_dup C.ex C.by dX10_come_86 rfl ?_
    refine z_get (v := .int (zI q7 9)) C h iwX10 0 (wM_at0 κ _) rfl 21 (by decide) lkM16 rfl dX10_come_87 ?_
    refine lv_iconst (v := 1) C.ex C.by dX10_come_90 (by decide) ?_
    refine lv_iadd C.ex C.by dX10_come_91 ?_
    refine z_put C h iwX10 tyX10_ok nmX10 0 (wM_at0 κ _) rfl 21 (by decide) lkM16 rfl rfl rfl (Nat.le_of_ble_eq_true rfl) (sI (sI q7 5 ((zI q7 5) + 1)) 9 ((zI q7 9) + 1)) (wM_s0_21 κ _ _) dX10_come_92 (fun H locs h => ?_)
    refine lv_iconst (v := 1) C.ex C.by dX10_come_95 (by decide) ?_
    cases hf
    exact z_zret (r := 1) C h rfl dX10_come_96
theorem ctX10_come {l : Launch} {κ : zG} {n : Nat} {σ : zS} {r1 : Int32} {r2 : zS} (hf : fX10_come_0 n σ = some (r1, r2)) : zMi l yX10_come (Cond.code yX10_come cX10_come 3 (some .boolean)) rmX10_come wM κ [.ref (κ.2.1 0)] σ r1 r2 :=
  zMi_of (by decide) (Nat.le_of_ble_eq_true rfl) (fun p e s m below meth c A C h ls hl => wX10_come_0 C h hl hf)
theorem hdX10_feed : yX10_feed.cls = RX10 ∧ yX10_feed.cls ≠ "java/lang/invoke/MethodHandle" ∧ yX10_feed.cls ≠ "java/lang/invoke/VarHandle" ∧ (parseMethodDescriptor yX10_feed.desc).map (fun d => d.parameters.length) = some 4 := by decide +kernel
abbrev rmX10_feed : Room := { frames := 3, cells := 0, slots := 0, locals := 67 }
set_option maxRecDepth 20000 in
set_option maxHeartbeats 4000000 in
theorem wX10_feed_75 {p : Program} {l : Launch} {e : Env} {s : State} {m : MethodId} {args : Array Value} {below : List Frame} {meth : Method} {c : Code} {A : Nat → Prop} {κ : zG} {H : Heap} {locs : List Loc} {ls : Array Slot} {n : Nat} {σ : zS} {x9 : Int32} {y0 : Int32} {r1 : Int32} {r2 : zS} (C : zC cX10_feed 10 (some .int) RX10 κ A p s m args meth c) (h : zH wM κ A s σ H locs) (hl : lv_has ls 10 [(0, .ref (κ.2.1 0)), (9, .int x9)]) (hf : fX10_feed_75 n σ x9 y0 = some (r1, r2)) : W p l e rmX10_feed s m args below meth c H locs 0 0 (MQ below (zQi wM κ A r1 r2) args s 0 0 A) (F0 m 75 ls [.int y0, .ref (κ.2.1 0)]) := by
  unfold fX10_feed_75 at hf
  refine z_put C h iwX10 tyX10_ok nmX10 0 (wM_at0 κ _) rfl 0 (by decide) lkM8 rfl rfl rfl (Nat.le_of_ble_eq_true rfl) (sI σ 0 y0) (wM_s0_0 κ _ _) dX10_feed_75 (fun H locs h => ?_)
  refine lv_iload C.ex C.by dX10_feed_78 (lv_at hl 1 rfl) ?_
  refine lv_if_eq (tgt := 92) C.ex C.by dX10_feed_80 (by decide) (fun c10 => ?_) (fun c10 => ?_)
  · have hf := zif_t c10 hf
    refine lv_bipush (v := (-2)) C.ex C.by dX10_feed_92 (by decide) ?_
    cases hf
    exact z_iret C h dX10_feed_94
  · have hf := zif_f c10 hf
    refine lv_aload_n C.ex C.by dX10_feed_83 rfl (lv_at hl 0 rfl) ?_
    refine z_get (v := .int (zI σ 9)) C h iwX10 0 (wM_at0 κ _) rfl 21 (by decide) lkM16 rfl dX10_feed_84 ?_
    refine lv_iconst (v := 1) C.ex C.by dX10_feed_87 (by decide) ?_
    refine lv_isub C.ex C.by dX10_feed_88 ?_
    refine lv_goto (tgt := 94) C.ex C.by dX10_feed_89 (by decide) ?_
    cases hf
    exact z_iret C h dX10_feed_94
set_option maxRecDepth 20000 in
set_option maxHeartbeats 4000000 in
theorem wX10_feed_13 {p : Program} {l : Launch} {e : Env} {s : State} {m : MethodId} {args : Array Value} {below : List Frame} {meth : Method} {c : Code} {A : Nat → Prop} {κ : zG} {H : Heap} {locs : List Loc} {ls : Array Slot} {n : Nat} {σ : zS} {x1 : Int64} {x3 : Int64} {x5 : Int64} {x7 : Int64} {y0 : Int32} {r1 : Int32} {r2 : zS} (C : zC cX10_feed 10 (some .int) RX10 κ A p s m args meth c) (h : zH wM κ A s σ H locs) (hl : lv_has ls 10 [(0, .ref (κ.2.1 0)), (1, .long x1), (3, .long x3), (5, .long x5), (7, .long x7)]) (hf : fX10_feed_13 n σ x1 x3 x5 x7 y0 = some (r1, r2)) : W p l e rmX10_feed s m args below meth c H locs 0 0 (MQ below (zQi wM κ A r1 r2) args s 0 0 A) (F0 m 13 ls [.int y0, .ref (κ.2.1 0)]) := by
  unfold fX10_feed_13 at hf
  refine z_put C h iwX10 tyX10_ok nmX10 0 (wM_at0 κ _) rfl 0 (by decide) lkM8 rfl rfl rfl (Nat.le_of_ble_eq_true rfl) (sI σ 0 y0) (wM_s0_0 κ _ _) dX10_feed_13 (fun H locs h => ?_)
  refine lv_aload_n C.ex C.by dX10_feed_16 rfl (lv_at hl 0 rfl) ?_
  refine z_get (v := .int y0) C h iwX10 0 (wM_at0 κ _) rfl 0 (by decide) lkM8 rfl dX10_feed_17 ?_
  refine lv_if_le (tgt := 25) C.ex C.by dX10_feed_20 (by decide) (fun c2 => ?_) (fun c2 => ?_)
  · have hf := zif_t c2 hf
    refine lv_aload_n C.ex C.by dX10_feed_25 rfl (lv_at hl 0 rfl) ?_
    refine z_get (v := .ref (κ.2.1 15)) C h iwX10 0 (wM_at0 κ _) rfl 35 (by decide) lkM14 rfl dX10_feed_26 ?_
    refine lv_iconst (v := 0) C.ex C.by dX10_feed_29 (by decide) ?_
    refine lv_lload_n C.ex C.by dX10_feed_30 rfl (lv_at hl 1 rfl) ?_
    obtain ⟨h3, hf⟩ := zg_some hf
    refine z_last (f := (zL σ 4)) C h 15 (wM_at15 κ _) h3 (sL (sI σ 0 y0) 4 (vp_updL (zL σ 4) (Int32.toNatClampNeg 0) x1)) (wM_s15 κ _ _) dX10_feed_31 (fun H locs h => ?_)
    refine lv_aload_n C.ex C.by dX10_feed_32 rfl (lv_at hl 0 rfl) ?_
    refine z_get (v := .ref (κ.2.1 15)) C h iwX10 0 (wM_at0 κ _) rfl 35 (by decide) lkM14 rfl dX10_feed_33 ?_
    refine lv_iconst (v := 1) C.ex C.by dX10_feed_36 (by decide) ?_
    refine lv_lload_n C.ex C.by dX10_feed_37 rfl (lv_at hl 2 rfl) ?_
    obtain ⟨h4, hf⟩ := zg_some hf
    refine z_last (f := (vp_updL (zL σ 4) (Int32.toNatClampNeg 0) x1)) C h 15 (wM_at15 κ _) h4 (sL (sL (sI σ 0 y0) 4 (vp_updL (zL σ 4) (Int32.toNatClampNeg 0) x1)) 4 (vp_updL (vp_updL (zL σ 4) (Int32.toNatClampNeg 0) x1) (Int32.toNatClampNeg 1) x3)) (wM_s15 κ _ _) dX10_feed_38 (fun H locs h => ?_)
    refine lv_aload_n C.ex C.by dX10_feed_39 rfl (lv_at hl 0 rfl) ?_
    refine z_get (v := .ref (κ.2.1 15)) C h iwX10 0 (wM_at0 κ _) rfl 35 (by decide) lkM14 rfl dX10_feed_40 ?_
    refine lv_iconst (v := 2) C.ex C.by dX10_feed_43 (by decide) ?_
    refine lv_lload C.ex C.by dX10_feed_44 (lv_at hl 3 rfl) ?_
    obtain ⟨h5, hf⟩ := zg_some hf
    refine z_last (f := (vp_updL (vp_updL (zL σ 4) (Int32.toNatClampNeg 0) x1) (Int32.toNatClampNeg 1) x3)) C h 15 (wM_at15 κ _) h5 (sL (sL (sL (sI σ 0 y0) 4 (vp_updL (zL σ 4) (Int32.toNatClampNeg 0) x1)) 4 (vp_updL (vp_updL (zL σ 4) (Int32.toNatClampNeg 0) x1) (Int32.toNatClampNeg 1) x3)) 4 (vp_updL (vp_updL (vp_updL (zL σ 4) (Int32.toNatClampNeg 0) x1) (Int32.toNatClampNeg 1) x3) (Int32.toNatClampNeg 2) x5)) (wM_s15 κ _ _) dX10_feed_46 (fun H locs h => ?_)
    refine lv_aload_n C.ex C.by dX10_feed_47 rfl (lv_at hl 0 rfl) ?_
    refine z_get (v := .ref (κ.2.1 15)) C h iwX10 0 (wM_at0 κ _) rfl 35 (by decide) lkM14 rfl dX10_feed_48 ?_
    refine lv_iconst (v := 3) C.ex C.by dX10_feed_51 (by decide) ?_
    refine lv_lload C.ex C.by dX10_feed_52 (lv_at hl 4 rfl) ?_
    obtain ⟨h6, hf⟩ := zg_some hf
    refine z_last (f := (vp_updL (vp_updL (vp_updL (zL σ 4) (Int32.toNatClampNeg 0) x1) (Int32.toNatClampNeg 1) x3) (Int32.toNatClampNeg 2) x5)) C h 15 (wM_at15 κ _) h6 (sL (sL (sL (sL (sI σ 0 y0) 4 (vp_updL (zL σ 4) (Int32.toNatClampNeg 0) x1)) 4 (vp_updL (vp_updL (zL σ 4) (Int32.toNatClampNeg 0) x1) (Int32.toNatClampNeg 1) x3)) 4 (vp_updL (vp_updL (vp_updL (zL σ 4) (Int32.toNatClampNeg 0) x1) (Int32.toNatClampNeg 1) x3) (Int32.toNatClampNeg 2) x5)) 4 (vp_updL (vp_updL (vp_updL (vp_updL (zL σ 4) (Int32.toNatClampNeg 0) x1) (Int32.toNatClampNeg 1) x3) (Int32.toNatClampNeg 2) x5) (Int32.toNatClampNeg 3) x7)) (wM_s15 κ _ _) dX10_feed_54 (fun H locs h => ?_)
    refine lv_aload_n C.ex C.by dX10_feed_55 rfl (lv_at hl 0 rfl) ?_
    obtain ⟨q7, e8, hf⟩ := zb_some hf
    refine z_callVi (As := []) C h (ctX10_come (r1 := q7.1) (r2 := q7.2) e8) (zgV lkM51 lkM52 lkM53 lkM2 lkM54) ⟨rfl, rfl⟩ hdX10_come ⟨Nat.le_of_ble_eq_true rfl, Nat.le_of_ble_eq_true rfl⟩ 0 (wM_at0 κ _) rfl hl rfl rfl (Nat.le_of_ble_eq_true rfl) dX10_feed_56 ⟨Nat.zero_le _, Nat.zero_le _⟩ (fun H locs h => ?_)
    refine lv_istore (lv' := [(9, .int q7.1), (0, .ref (κ.2.1 0)), (1, .long x1), (3, .long x3), (5, .long x5), (7, .long x7)]) C.ex C.by dX10_feed_59 hl (by decide) rfl (fun ls hl => ?_)
    refine lv_aload_n C.ex C.by dX10_feed_61 rfl (lv_at hl 1 rfl) ?_
    refine lv_aload_n C.ex C.by dX10_feed_62 rfl (lv_at hl 1 rfl) ?_
    refine z_get (v := .int (zI q7.2 17)) C h iwX10 0 (wM_at0 κ _) rfl 29 (by decide) lkM17 rfl dX10_feed_63 ?_
    refine lv_iconst (v := 2) C.ex C.by dX10_feed_66 (by decide) ?_
    refine lv_icmp_ne (tgt := 74) C.ex C.by dX10_feed_67 (by decide) (fun c9 => ?_) (fun c9 => ?_)
    · have hf := zif_f c9 hf
      refine lv_iconst (v := 0) C.ex C.by dX10_feed_74 (by decide) ?_
      exact wX10_feed_75 C h (lv_sub hl [1, 0] rfl) hf
    · have hf := zif_t c9 hf
      refine lv_iconst (v := 2) C.ex C.by dX10_feed_70 (by decide) ?_
      refine lv_goto (tgt := 75) C.ex C.by dX10_feed_71 (by decide) ?_
      exact wX10_feed_75 C h (lv_sub hl [1, 0] rfl) hf
  · have hf := zif_f c2 hf
    refine lv_iconst (v := 0) C.ex C.by dX10_feed_23 (by decide) ?_
    cases hf
    exact z_iret C h dX10_feed_24
set_option maxRecDepth 20000 in
set_option maxHeartbeats 4000000 in
theorem wX10_feed_0 {p : Program} {l : Launch} {e : Env} {s : State} {m : MethodId} {args : Array Value} {below : List Frame} {meth : Method} {c : Code} {A : Nat → Prop} {κ : zG} {H : Heap} {locs : List Loc} {ls : Array Slot} {n : Nat} {σ : zS} {x1 : Int64} {x3 : Int64} {x5 : Int64} {x7 : Int64} {r1 : Int32} {r2 : zS} (C : zC cX10_feed 10 (some .int) RX10 κ A p s m args meth c) (h : zH wM κ A s σ H locs) (hl : lv_has ls 10 [(0, .ref (κ.2.1 0)), (1, .long x1), (3, .long x3), (5, .long x5), (7, .long x7)]) (hf : fX10_feed_0 n σ x1 x3 x5 x7 = some (r1, r2)) : W p l e rmX10_feed s m args below meth c H locs 0 0 (MQ below (zQi wM κ A r1 r2) args s 0 0 A) (F0 m 0 ls []) := by
  unfold fX10_feed_0 at hf
  refine lv_aload_n C.ex C.by dX10_feed_0 rfl (lv_at hl 0 rfl) ?_
  refine lv_aload_n C.ex C.by dX10_feed_1 rfl (lv_at hl 0 rfl) ?_
  refine z_get (v := .int (zI σ 16)) C h iwX10 0 (wM_at0 κ _) rfl 28 (by decide) lkM4 rfl dX10_feed_2 ?_
  refine lv_if_eq (tgt := 12) C.ex C.by dX10_feed_5 (by decide) (fun c1 => ?_) (fun c1 => ?_)
  · have hf := zif_t c1 hf
    refine lv_iconst (v := 0) C.ex C.by dX10_feed_12 (by decide) ?_
    exact wX10_feed_13 C h hl hf
  · have hf := zif_f c1 hf
    refine lv_iconst (v := 1) C.ex C.by dX10_feed_8 (by decide) ?_
    refine lv_goto (tgt := 13) C.ex C.by dX10_feed_9 (by decide) ?_
    exact wX10_feed_13 C h hl hf
theorem ctX10_feed {l : Launch} {κ : zG} {n : Nat} {σ : zS} {x1 : Int64} {x3 : Int64} {x5 : Int64} {x7 : Int64} {r1 : Int32} {r2 : zS} (hf : fX10_feed_0 n σ x1 x3 x5 x7 = some (r1, r2)) : zMi l yX10_feed (Cond.code yX10_feed cX10_feed 10 (some .int)) rmX10_feed wM κ [.ref (κ.2.1 0), .long x1, .long x3, .long x5, .long x7] σ r1 r2 :=
  zMi_of (by decide) (Nat.le_of_ble_eq_true rfl) (fun p e s m below meth c A C h ls hl => wX10_feed_0 C h hl hf)
