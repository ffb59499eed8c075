theorem hdX9_setComing : yX9_setComing.cls = RX9 ∧ yX9_setComing.cls ≠ "java/lang/invoke/MethodHandle" ∧ yX9_setComing.cls ≠ "java/lang/invoke/VarHandle" ∧ (parseMethodDescriptor yX9_setComing.desc).map (fun d => d.parameters.length) = some 2 := by decide +kernel
abbrev rmX9_setComing : Room := { frames := 0, cells := 0, slots := 0, locals := 0 }
set_option maxRecDepth 20000 in
set_option maxHeartbeats 4000000 in
theorem wX9_setComing_0 {p : Program} {l : Launch} {e : Env} {s : State} {m : MethodId} {args : Array Value} {below : List Frame} {meth : Method} {c : Code} {A : Nat → Prop} {κ : zG} {H : Heap} {locs : List Loc} {ls : Array Slot} {n : Nat} {σ : zS} {x1 : Int32} {x2 : Int64} {r : zS} (C : zC cX9_setComing 4 none RX9 κ A p s m args meth c) (h : zH wC κ A s σ H locs) (hl : lv_has ls 4 [(0, .ref (κ.2.1 0)), (1, .int x1), (2, .long x2)]) (hf : fX9_setComing_0 n (κ.2.2.2 0) (κ.2.2.2 1) (κ.2.2.2 2) σ x1 x2 = some r) : W p l e rmX9_setComing s m args below meth c H locs 0 0 (MQ below (zQv wC κ A r) args s 0 0 A) (F0 m 0 ls []) := by
  unfold fX9_setComing_0 at hf
  refine lv_iload_n C.ex C.by dX9_setComing_0 rfl (lv_at hl 1 rfl) ?_
  refine lv_if_lt (tgt := 20) C.ex C.by dX9_setComing_1 (by decide) (fun c1 => ?_) (fun c1 => ?_)
  · have hf := zif_t c1 hf
    cases hf
    exact z_vret C h dX9_setComing_20
  · have hf := zif_f c1 hf
    refine lv_iload_n C.ex C.by dX9_setComing_4 rfl (lv_at hl 1 rfl) ?_
    refine lv_aload_n C.ex C.by dX9_setComing_5 rfl (lv_at hl 0 rfl) ?_
    refine z_get (v := .ref (κ.2.1 35)) C h iwX9 0 (wC_at0 κ _) rfl 9 (by decide) lkC0 rfl dX9_setComing_6 ?_
    refine z_alen (t0 := 1) C h 35 (wC_at35 κ _) rfl dX9_setComing_9 ?_
    refine lv_icmp_ge (tgt := 20) C.ex C.by dX9_setComing_10 (by decide) (fun c2 => ?_) (fun c2 => ?_)
    · have hf := zif_t c2 hf
      cases hf
      exact z_vret C h dX9_setComing_20
    · have hf := zif_f c2 hf
      refine lv_aload_n C.ex C.by dX9_setComing_13 rfl (lv_at hl 0 rfl) ?_
      refine z_get (v := .ref (κ.2.1 35)) C h iwX9 0 (wC_at0 κ _) rfl 9 (by decide) lkC0 rfl dX9_setComing_14 ?_
      refine lv_iload_n C.ex C.by dX9_setComing_17 rfl (lv_at hl 1 rfl) ?_
      refine lv_lload_n C.ex C.by dX9_setComing_18 rfl (lv_at hl 2 rfl) ?_
      obtain ⟨h3, hf⟩ := zg_some hf
      refine z_last (f := (zL σ 3)) C h 35 (wC_at35 κ _) h3 (sL σ 3 (vp_updL (zL σ 3) (Int32.toNatClampNeg x1) x2)) (wC_s35 κ _ _) dX9_setComing_19 (fun H locs h => ?_)
      cases hf
      exact z_vret C h dX9_setComing_20
theorem ctX9_setComing {l : Launch} {κ : zG} {n : Nat} {σ : zS} {x1 : Int32} {x2 : Int64} {r : zS} (hf : fX9_setComing_0 n (κ.2.2.2 0) (κ.2.2.2 1) (κ.2.2.2 2) σ x1 x2 = some r) : zMv l yX9_setComing (Cond.code yX9_setComing cX9_setComing 4 none) rmX9_setComing wC κ [.ref (κ.2.1 0), .int x1, .long x2] σ r :=
  zMv_of (by decide) (Nat.le_of_ble_eq_true rfl) (fun p e s m below meth c A C h ls hl => wX9_setComing_0 C h hl hf)
theorem hdX1_behind : yX1_behind.cls = RX1 ∧ yX1_behind.cls ≠ "java/lang/invoke/MethodHandle" ∧ yX1_behind.cls ≠ "java/lang/invoke/VarHandle" ∧ (parseMethodDescriptor yX1_behind.desc).map (fun d => d.parameters.length) = some 1 := by decide +kernel
abbrev rmX1_behind : Room := { frames := 0, cells := 0, slots := 0, locals := 0 }
set_option maxRecDepth 20000 in
set_option maxHeartbeats 4000000 in
theorem wX1_behind_0 {p : Program} {l : Launch} {e : Env} {s : State} {m : MethodId} {args : Array Value} {below : List Frame} {meth : Method} {c : Code} {A : Nat → Prop} {κ : zG} {H : Heap} {locs : List Loc} {ls : Array Slot} {n : Nat} {σ : zS} {x1 : Int32} {r : Int32} (C : zC cX1_behind 2 (some .int) RX1 κ A p s m args meth c) (h : zH wC κ A s σ H locs) (hl : lv_has ls 2 [(0, .ref (κ.2.1 7)), (1, .int x1)]) (hf : fX1_behind_0 n (κ.2.2.2 0) (κ.2.2.2 1) (κ.2.2.2 2) σ x1 = some r) : W p l e rmX1_behind s m args below meth c H locs 0 0 (MQ below (zQi wC κ A r σ) args s 0 0 A) (F0 m 0 ls []) := by
  unfold fX1_behind_0 at hf
  refine lv_iload_n C.ex C.by dX1_behind_0 rfl (lv_at hl 1 rfl) ?_
  refine lv_if_lt (tgt := 22) C.ex C.by dX1_behind_1 (by decide) (fun c1 => ?_) (fun c1 => ?_)
  · have hf := zif_t c1 hf
    refine lv_iconst (v := (-1)) C.ex C.by dX1_behind_22 (by decide) ?_
    cases hf
    exact z_iret C h dX1_behind_23
  · have hf := zif_f c1 hf
    refine lv_iload_n C.ex C.by dX1_behind_4 rfl (lv_at hl 1 rfl) ?_
    refine lv_aload_n C.ex C.by dX1_behind_5 rfl (lv_at hl 0 rfl) ?_
    refine z_get (v := .ref (κ.2.1 8)) C h iwX1 7 (wC_at7 κ _) rfl 1 (by decide) lkC7 rfl dX1_behind_6 ?_
    refine z_alen (t0 := 0) C h 8 (wC_at8 κ _) rfl dX1_behind_9 ?_
    refine lv_icmp_ge (tgt := 22) C.ex C.by dX1_behind_10 (by decide) (fun c2 => ?_) (fun c2 => ?_)
    · have hf := zif_t c2 hf
      refine lv_iconst (v := (-1)) C.ex C.by dX1_behind_22 (by decide) ?_
      cases hf
      exact z_iret C h dX1_behind_23
    · have hf := zif_f c2 hf
      refine lv_aload_n C.ex C.by dX1_behind_13 rfl (lv_at hl 0 rfl) ?_
      refine z_get (v := .ref (κ.2.1 8)) C h iwX1 7 (wC_at7 κ _) rfl 1 (by decide) lkC7 rfl dX1_behind_14 ?_
      refine lv_iload_n C.ex C.by dX1_behind_17 rfl (lv_at hl 1 rfl) ?_
      obtain ⟨h3, hf⟩ := zg_some hf
      refine z_iald (f := (zA σ 3)) C h 8 (wC_at8 κ _) h3 dX1_behind_18 ?_
      refine lv_goto (tgt := 23) C.ex C.by dX1_behind_19 (by decide) ?_
      cases hf
      exact z_iret C h dX1_behind_23
theorem ctX1_behind {l : Launch} {κ : zG} {n : Nat} {σ : zS} {x1 : Int32} {r : Int32} (hf : fX1_behind_0 n (κ.2.2.2 0) (κ.2.2.2 1) (κ.2.2.2 2) σ x1 = some r) : zMi l yX1_behind (Cond.code yX1_behind cX1_behind 2 (some .int)) rmX1_behind wC κ [.ref (κ.2.1 7), .int x1] σ r σ :=
  zMi_of (by decide) (Nat.le_of_ble_eq_true rfl) (fun p e s m below meth c A C h ls hl => wX1_behind_0 C h hl hf)
theorem hdX1_blockAt : yX1_blockAt.cls = RX1 ∧ yX1_blockAt.cls ≠ "java/lang/invoke/MethodHandle" ∧ yX1_blockAt.cls ≠ "java/lang/invoke/VarHandle" ∧ (parseMethodDescriptor yX1_blockAt.desc).map (fun d => d.parameters.length) = some 2 := by decide +kernel
abbrev rmX1_blockAt : Room := { frames := 1, cells := 0, slots := 0, locals := 21 }
set_option maxRecDepth 20000 in
set_option maxHeartbeats 4000000 in
theorem wX1_blockAt_L20_20 {p : Program} {l : Launch} {e : Env} {s : State} {m : MethodId} {args : Array Value} {below : List Frame} {meth : Method} {c : Code} {A : Nat → Prop} {κ : zG} {H : Heap} {locs : List Loc} {ls : Array Slot} {Q : State → Prop} {n : Nat} {σ : zS} {k2 : Int32} {a : Int32 × Int32} {r : (Int32 × Int32) ⊕ (Int32)} (C : zC cX1_blockAt 5 (some .int) RX1 κ A p s m args meth c) (h : zH wC κ A s σ H locs) (hl : lv_has ls 5 [(0, .ref (κ.2.1 7)), (2, .int k2), (3, .int a.1), (4, .int a.2)]) (hf : fX1_blockAt_L20_20 n (κ.2.2.2 0) (κ.2.2.2 1) (κ.2.2.2 2) σ k2 a = some r) (Kc : ∀ (v3 : Int32) (v4 : Int32), r = .inl (v3, v4) → ∀ (H : Heap) (locs : List Loc) (ls : Array Slot), zH wC κ A s σ H locs → lv_has ls 5 [(0, .ref (κ.2.1 7)), (2, .int k2), (3, .int v3), (4, .int v4)] → W p l e rmX1_blockAt s m args below meth c H locs 0 0 Q (F0 m 20 ls [])) (Ke0 : ∀ (v3 : Int32), r = .inr v3 → ∀ (H : Heap) (locs : List Loc) (ls : Array Slot), zH wC κ A s σ H locs → lv_has ls 5 [(0, .ref (κ.2.1 7)), (3, .int v3)] → W p l e rmX1_blockAt s m args below meth c H locs 0 0 Q (F0 m 38 ls [])) : W p l e rmX1_blockAt s m args below meth c H locs 0 0 Q (F0 m 20 ls []) := by
  unfold fX1_blockAt_L20_20 at hf
  refine lv_iload C.ex C.by dX1_blockAt_20 (lv_at hl 3 rfl) ?_
  refine lv_iload_n C.ex C.by dX1_blockAt_22 rfl (lv_at hl 1 rfl) ?_
  refine lv_icmp_ge (tgt := 38) C.ex C.by dX1_blockAt_23 (by decide) (fun c3 => ?_) (fun c3 => ?_)
  · have hf := zif_t c3 hf
    exact Ke0 _ (Option.some.inj hf).symm _ _ _ h (lv_sub hl [0, 2] rfl)
  · have hf := zif_f c3 hf
    refine lv_aload_n C.ex C.by dX1_blockAt_26 rfl (lv_at hl 0 rfl) ?_
    refine lv_iload_n C.ex C.by dX1_blockAt_27 rfl (lv_at hl 2 rfl) ?_
    obtain ⟨q4, e5, hf⟩ := zb_some hf
    refine z_callVi (As := [.int a.1]) C h (ctX1_behind e5) (zgV lkC8 lkC9 lkC10 lkC11 lkC12) ⟨rfl, rfl⟩ hdX1_behind ⟨Nat.le_of_ble_eq_true rfl, Nat.le_of_ble_eq_true rfl⟩ 7 (wC_at7 κ _) rfl hl rfl rfl (Nat.le_of_ble_eq_true rfl) dX1_blockAt_28 ⟨Nat.zero_le _, Nat.zero_le _⟩ (fun H locs h => ?_)
    refine lv_istore_n (lv' := [(3, .int q4), (0, .ref (κ.2.1 7)), (2, .int k2), (4, .int a.2)]) C.ex C.by dX1_blockAt_31 rfl hl (by decide) rfl (fun ls hl => ?_)
    refine lv_iinc (v := (a.2 + 1)) (lv' := [(4, .int (a.2 + 1)), (3, .int q4), (0, .ref (κ.2.1 7)), (2, .int k2)]) C.ex C.by dX1_blockAt_32 hl (k := 3) rfl rfl (by decide) rfl (fun ls hl => ?_)
    refine lv_goto (tgt := 20) C.ex C.by dX1_blockAt_35 (by decide) ?_
    exact Kc _ _ (Option.some.inj hf).symm _ _ _ h (lv_sub hl [2, 3, 1, 0] rfl)
theorem wlX1_blockAt_20 {p : Program} {l : Launch} {e : Env} {s : State} {m : MethodId} {args : Array Value} {below : List Frame} {meth : Method} {c : Code} {A : Nat → Prop} {κ : zG} {H : Heap} {locs : List Loc} {ls : Array Slot} {Q : State → Prop} {n : Nat} {σ : zS} {k2 : Int32} {k0 : Nat} {u3 : Int32} {u4 : Int32} (C : zC cX1_blockAt 5 (some .int) RX1 κ A p s m args meth c) (h : zH wC κ A s σ H locs) (hl : lv_has ls 5 [(0, .ref (κ.2.1 7)), (2, .int k2), (3, .int u3), (4, .int u4)]) (b : Int32) (hb : zlp (fX1_blockAt_L20_20 n (κ.2.2.2 0) (κ.2.2.2 1) (κ.2.2.2 2) σ k2) k0 (u3, u4) = some b) (K : (fun b : Int32 => ∀ (H : Heap) (locs : List Loc) (ls : Array Slot), zH wC κ A s σ H locs → lv_has ls 5 [(0, .ref (κ.2.1 7)), (3, .int b)] → W p l e rmX1_blockAt s m args below meth c H locs 0 0 Q (F0 m 38 ls [])) b) : W p l e rmX1_blockAt s m args below meth c H locs 0 0 Q (F0 m 20 ls []) :=
  z_loop (body := fX1_blockAt_L20_20 n (κ.2.2.2 0) (κ.2.2.2 1) (κ.2.2.2 2) σ k2) (Wd := (fun a : Int32 × Int32 => ∀ (H : Heap) (locs : List Loc) (ls : Array Slot), zH wC κ A s σ H locs → lv_has ls 5 [(0, .ref (κ.2.1 7)), (2, .int k2), (3, .int a.1), (4, .int a.2)] → W p l e rmX1_blockAt s m args below meth c H locs 0 0 Q (F0 m 20 ls []))) (Ex := (fun b : Int32 => (fun b : Int32 => ∀ (H : Heap) (locs : List Loc) (ls : Array Slot), zH wC κ A s σ H locs → lv_has ls 5 [(0, .ref (κ.2.1 7)), (3, .int b)] → W p l e rmX1_blockAt s m args below meth c H locs 0 0 Q (F0 m 38 ls [])) b)) (fun a r hr Kc Ke H locs ls h hl => wX1_blockAt_L20_20 C h hl hr (fun v3 v4 e => Kc (v3, v4) e) (fun v3 e => Ke v3 e)) k0 (u3, u4) b hb K H locs ls h hl
set_option maxRecDepth 20000 in
set_option maxHeartbeats 4000000 in
theorem wX1_blockAt_0 {p : Program} {l : Launch} {e : Env} {s : State} {m : MethodId} {args : Array Value} {below : List Frame} {meth : Method} {c : Code} {A : Nat → Prop} {κ : zG} {H : Heap} {locs : List Loc} {ls : Array Slot} {n : Nat} {σ : zS} {x1 : Int32} {x2 : Int32} {r : Int32} (C : zC cX1_blockAt 5 (some .int) RX1 κ A p s m args meth c) (h : zH wC κ A s σ H locs) (hl : lv_has ls 5 [(0, .ref (κ.2.1 7)), (1, .int x1), (2, .int x2)]) (hf : fX1_blockAt_0 n (κ.2.2.2 0) (κ.2.2.2 1) (κ.2.2.2 2) σ x1 x2 = some r) : W p l e rmX1_blockAt s m args below meth c H locs 0 0 (MQ below (zQi wC κ A r σ) args s 0 0 A) (F0 m 0 ls []) := by
  unfold fX1_blockAt_0 at hf
  refine lv_iload_n C.ex C.by dX1_blockAt_0 rfl (lv_at hl 2 rfl) ?_
  refine lv_if_lt (tgt := 13) C.ex C.by dX1_blockAt_1 (by decide) (fun c1 => ?_) (fun c1 => ?_)
  · have hf := zif_t c1 hf
    refine lv_iconst (v := (-1)) C.ex C.by dX1_blockAt_13 (by decide) ?_
    cases hf
    exact z_iret C h dX1_blockAt_14
  · have hf := zif_f c1 hf
    refine lv_iload_n C.ex C.by dX1_blockAt_4 rfl (lv_at hl 2 rfl) ?_
    refine lv_aload_n C.ex C.by dX1_blockAt_5 rfl (lv_at hl 0 rfl) ?_
    refine z_get (v := .ref (κ.2.1 8)) C h iwX1 7 (wC_at7 κ _) rfl 1 (by decide) lkC7 rfl dX1_blockAt_6 ?_
    refine z_alen (t0 := 0) C h 8 (wC_at8 κ _) rfl dX1_blockAt_9 ?_
    refine lv_icmp_lt (tgt := 15) C.ex C.by dX1_blockAt_10 (by decide) (fun c2 => ?_) (fun c2 => ?_)
    · have hf := zif_t c2 hf
      refine lv_iload_n C.ex C.by dX1_blockAt_15 rfl (lv_at hl 1 rfl) ?_
      refine lv_istore_n (lv' := [(3, .int x1), (0, .ref (κ.2.1 7)), (1, .int x1), (2, .int x2)]) C.ex C.by dX1_blockAt_16 rfl hl (by decide) rfl (fun ls hl => ?_)
      refine lv_iconst (v := 0) C.ex C.by dX1_blockAt_17 (by decide) ?_
      refine lv_istore (lv' := [(4, .int 0), (3, .int x1), (0, .ref (κ.2.1 7)), (1, .int x1), (2, .int x2)]) C.ex C.by dX1_blockAt_18 hl (by decide) rfl (fun ls hl => ?_)
      obtain ⟨b6, e7, hf⟩ := zb_some hf
      refine wlX1_blockAt_20 C h (lv_sub hl [2, 4, 1, 0] rfl) b6 e7 ?_
      intro H locs ls h hl
      refine lv_iload_n C.ex C.by dX1_blockAt_38 rfl (lv_at hl 1 rfl) ?_
      cases hf
      exact z_iret C h dX1_blockAt_39
    · have hf := zif_f c2 hf
      refine lv_iconst (v := (-1)) C.ex C.by dX1_blockAt_13 (by decide) ?_
      cases hf
      exact z_iret C h dX1_blockAt_14
theorem ctX1_blockAt {l : Launch} {κ : zG} {n : Nat} {σ : zS} {x1 : Int32} {x2 : Int32} {r : Int32} (hf : fX1_blockAt_0 n (κ.2.2.2 0) (κ.2.2.2 1) (κ.2.2.2 2) σ x1 x2 = some r) : zMi l yX1_blockAt (Cond.code yX1_blockAt cX1_blockAt 5 (some .int)) rmX1_blockAt wC κ [.ref (κ.2.1 7), .int x1, .int x2] σ r σ :=
  zMi_of (by decide) (Nat.le_of_ble_eq_true rfl) (fun p e s m below meth c A C h ls hl => wX1_blockAt_0 C h hl hf)
theorem hdX0_moveArm : yX0_moveArm.cls = RX0 ∧ yX0_moveArm.cls ≠ "java/lang/invoke/MethodHandle" ∧ yX0_moveArm.cls ≠ "java/lang/invoke/VarHandle" ∧ (parseMethodDescriptor yX0_moveArm.desc).map (fun d => d.parameters.length) = some 1 := by decide +kernel
abbrev rmX0_moveArm : Room := { frames := 0, cells := 0, slots := 0, locals := 0 }
set_option maxRecDepth 20000 in
set_option maxHeartbeats 4000000 in
theorem wX0_moveArm_28 {p : Program} {l : Launch} {e : Env} {s : State} {m : MethodId} {args : Array Value} {below : List Frame} {meth : Method} {c : Code} {A : Nat → Prop} {κ : zG} {H : Heap} {locs : List Loc} {ls : Array Slot} {n : Nat} {σ : zS} {x1 : Int32} {y0 : Int32} {y1 : Int32} {r : zS} (C : zC cX0_moveArm 2 none RX0 κ A p s m args meth c) (h : zH wC κ A s σ H locs) (hl : lv_has ls 2 [(0, .ref (κ.2.1 1)), (1, .int x1)]) (hf : fX0_moveArm_28 n (κ.2.2.2 0) (κ.2.2.2 1) (κ.2.2.2 2) σ x1 y0 y1 = some r) : W p l e rmX0_moveArm s m args below meth c H locs 0 0 (MQ below (zQv wC κ A r) args s 0 0 A) (F0 m 28 ls [.int y0, .int y1, .ref (κ.2.1 1)]) := by
  unfold fX0_moveArm_28 at hf
  refine lv_iadd C.ex C.by dX0_moveArm_28 ?_
  refine z_put C h iwX0 tyX0_ok nmX0 1 (wC_at1 κ _) rfl 5 (by decide) lkC19 rfl rfl rfl (Nat.le_of_ble_eq_true rfl) (sI σ 4 (y1 + y0)) (wC_s1_5 κ _ _) dX0_moveArm_29 (fun H locs h => ?_)
  refine lv_aload_n C.ex C.by dX0_moveArm_32 rfl (lv_at hl 0 rfl) ?_
  refine lv_iload_n C.ex C.by dX0_moveArm_33 rfl (lv_at hl 1 rfl) ?_
  refine z_put C h iwX0 tyX0_ok nmX0 1 (wC_at1 κ _) rfl 6 (by decide) lkC20 rfl rfl rfl (Nat.le_of_ble_eq_true rfl) (sI (sI σ 4 (y1 + y0)) 5 x1) (wC_s1_6 κ _ _) dX0_moveArm_34 (fun H locs h => ?_)
  cases hf
  exact z_vret C h dX0_moveArm_37
set_option maxRecDepth 20000 in
set_option maxHeartbeats 4000000 in
theorem wX0_moveArm_0 {p : Program} {l : Launch} {e : Env} {s : State} {m : MethodId} {args : Array Value} {below : List Frame} {meth : Method} {c : Code} {A : Nat → Prop} {κ : zG} {H : Heap} {locs : List Loc} {ls : Array Slot} {n : Nat} {σ : zS} {x1 : Int32} {r : zS} (C : zC cX0_moveArm 2 none RX0 κ A p s m args meth c) (h : zH wC κ A s σ H locs) (hl : lv_has ls 2 [(0, .ref (κ.2.1 1)), (1, .int x1)]) (hf : fX0_moveArm_0 n (κ.2.2.2 0) (κ.2.2.2 1) (κ.2.2.2 2) σ x1 = some r) : W p l e rmX0_moveArm s m args below meth c H locs 0 0 (MQ below (zQv wC κ A r) args s 0 0 A) (F0 m 0 ls []) := by
  unfold fX0_moveArm_0 at hf
  refine lv_aload_n C.ex C.by dX0_moveArm_0 rfl (lv_at hl 0 rfl) ?_
  refine lv_dup C.ex C.by dX0_moveArm_1 rfl ?_
  refine z_get (v := .int (zI σ 4)) C h iwX0 1 (wC_at1 κ _) rfl 5 (by decide) lkC19 rfl dX0_moveArm_2 ?_
  refine lv_iload_n C.ex C.by dX0_moveArm_5 rfl (lv_at hl 1 rfl) ?_
  refine lv_aload_n C.ex C.by dX0_moveArm_6 rfl (lv_at hl 0 rfl) ?_
  refine z_get (v := .int (zI σ 5)) C h iwX0 1 (wC_at1 κ _) rfl 6 (by decide) lkC20 rfl dX0_moveArm_7 ?_
  refine lv_icmp_le (tgt := 22) C.ex C.by dX0_moveArm_10 (by decide) (fun c1 => ?_) (fun c1 => ?_)
  · have hf := zif_t c1 hf
    refine lv_aload_n C.ex C.by dX0_moveArm_22 rfl (lv_at hl 0 rfl) ?_
    refine z_get (v := .int (zI σ 5)) C h iwX0 1 (wC_at1 κ _) rfl 6 (by decide) lkC20 rfl dX0_moveArm_23 ?_
    refine lv_iload_n C.ex C.by dX0_moveArm_26 rfl (lv_at hl 1 rfl) ?_
    refine lv_isub C.ex C.by dX0_moveArm_27 ?_
    exact wX0_moveArm_28 C h hl hf
  · have hf := zif_f c1 hf
    refine lv_iload_n C.ex C.by dX0_moveArm_13 rfl (lv_at hl 1 rfl) ?_
    refine lv_aload_n C.ex C.by dX0_moveArm_14 rfl (lv_at hl 0 rfl) ?_
    refine z_get (v := .int (zI σ 5)) C h iwX0 1 (wC_at1 κ _) rfl 6 (by decide) lkC20 rfl dX0_moveArm_15 ?_
    refine lv_isub C.ex C.by dX0_moveArm_18 ?_
    refine lv_goto (tgt := 28) C.ex C.by dX0_moveArm_19 (by decide) ?_
    exact wX0_moveArm_28 C h hl hf
theorem ctX0_moveArm {l : Launch} {κ : zG} {n : Nat} {σ : zS} {x1 : Int32} {r : zS} (hf : fX0_moveArm_0 n (κ.2.2.2 0) (κ.2.2.2 1) (κ.2.2.2 2) σ x1 = some r) : zMv l yX0_moveArm (Cond.code yX0_moveArm cX0_moveArm 2 none) rmX0_moveArm wC κ [.ref (κ.2.1 1), .int x1] σ r :=
  zMv_of (by decide) (Nat.le_of_ble_eq_true rfl) (fun p e s m below meth c A C h ls hl => wX0_moveArm_0 C h hl hf)
theorem hdX0_readBlock : yX0_readBlock.cls = RX0 ∧ yX0_readBlock.cls ≠ "java/lang/invoke/MethodHandle" ∧ yX0_readBlock.cls ≠ "java/lang/invoke/VarHandle" ∧ (parseMethodDescriptor yX0_readBlock.desc).map (fun d => d.parameters.length) = some 1 := by decide +kernel
abbrev rmX0_readBlock : Room := { frames := 1, cells := 0, slots := 0, locals := 21 }
set_option maxRecDepth 20000 in
set_option maxHeartbeats 4000000 in
theorem wX0_readBlock_0 {p : Program} {l : Launch} {e : Env} {s : State} {m : MethodId} {args : Array Value} {below : List Frame} {meth : Method} {c : Code} {A : Nat → Prop} {κ : zG} {H : Heap} {locs : List Loc} {ls : Array Slot} {n : Nat} {σ : zS} {x1 : Int32} {r : zS} (C : zC cX0_readBlock 2 none RX0 κ A p s m args meth c) (h : zH wC κ A s σ H locs) (hl : lv_has ls 2 [(0, .ref (κ.2.1 1)), (1, .int x1)]) (hf : fX0_readBlock_0 n (κ.2.2.2 0) (κ.2.2.2 1) (κ.2.2.2 2) σ x1 = some r) : W p l e rmX0_readBlock s m args below meth c H locs 0 0 (MQ below (zQv wC κ A r) args s 0 0 A) (F0 m 0 ls []) := by
  unfold fX0_readBlock_0 at hf
  refine lv_aload_n C.ex C.by dX0_readBlock_0 rfl (lv_at hl 0 rfl) ?_
  refine lv_dup C.ex C.by dX0_readBlock_1 rfl ?_
  refine z_get (v := .int (zI σ 2)) C h iwX0 1 (wC_at1 κ _) rfl 3 (by decide) lkC18 rfl dX0_readBlock_2 ?_
  refine lv_iconst (v := 1) C.ex C.by dX0_readBlock_5 (by decide) ?_
  refine lv_iadd C.ex C.by dX0_readBlock_6 ?_
  refine z_put C h iwX0 tyX0_ok nmX0 1 (wC_at1 κ _) rfl 3 (by decide) lkC18 rfl rfl rfl (Nat.le_of_ble_eq_true rfl) (sI σ 2 ((zI σ 2) + 1)) (wC_s1_3 κ _ _) dX0_readBlock_7 (fun H locs h => ?_)
  refine lv_aload_n C.ex C.by dX0_readBlock_10 rfl (lv_at hl 0 rfl) ?_
  refine lv_iload_n C.ex C.by dX0_readBlock_11 rfl (lv_at hl 1 rfl) ?_
  obtain ⟨q1, e2, hf⟩ := zb_some hf
  refine z_callVv (As := [.int x1]) C h (ctX0_moveArm e2) (zgV lkC21 lkC22 lkC23 lkC24 lkC25) ⟨rfl, rfl⟩ hdX0_moveArm ⟨Nat.le_of_ble_eq_true rfl, Nat.le_of_ble_eq_true rfl⟩ 1 (wC_at1 κ _) rfl hl rfl rfl (Nat.le_of_ble_eq_true rfl) dX0_readBlock_12 ⟨Nat.zero_le _, Nat.zero_le _⟩ (fun H locs h => ?_)
  cases hf
  exact z_vret C h dX0_readBlock_15
theorem ctX0_readBlock {l : Launch} {κ : zG} {n : Nat} {σ : zS} {x1 : Int32} {r : zS} (hf : fX0_readBlock_0 n (κ.2.2.2 0) (κ.2.2.2 1) (κ.2.2.2 2) σ x1 = some r) : zMv l yX0_readBlock (Cond.code yX0_readBlock cX0_readBlock 2 none) rmX0_readBlock wC κ [.ref (κ.2.1 1), .int x1] σ r :=
  zMv_of (by decide) (Nat.le_of_ble_eq_true rfl) (fun p e s m below meth c A C h ls hl => wX0_readBlock_0 C h hl hf)
theorem hdX0_cell : yX0_cell.cls = RX0 ∧ yX0_cell.cls ≠ "java/lang/invoke/MethodHandle" ∧ yX0_cell.cls ≠ "java/lang/invoke/VarHandle" ∧ (parseMethodDescriptor yX0_cell.desc).map (fun d => d.parameters.length) = some 1 := by decide +kernel
abbrev rmX0_cell : Room := { frames := 0, cells := 0, slots := 0, locals := 0 }
set_option maxRecDepth 20000 in
set_option maxHeartbeats 4000000 in
theorem wX0_cell_0 {p : Program} {l : Launch} {e : Env} {s : State} {m : MethodId} {args : Array Value} {below : List Frame} {meth : Method} {c : Code} {A : Nat → Prop} {κ : zG} {H : Heap} {locs : List Loc} {ls : Array Slot} {n : Nat} {σ : zS} {x1 : Int32} {r : Int64} (C : zC cX0_cell 2 (some .long) RX0 κ A p s m args meth c) (h : zH wC κ A s σ H locs) (hl : lv_has ls 2 [(0, .ref (κ.2.1 1)), (1, .int x1)]) (hf : fX0_cell_0 n (κ.2.2.2 0) (κ.2.2.2 1) (κ.2.2.2 2) σ x1 = some r) : W p l e rmX0_cell s m args below meth c H locs 0 0 (MQ below (zQl wC κ A r σ) args s 0 0 A) (F0 m 0 ls []) := by
  unfold fX0_cell_0 at hf
  refine lv_iload_n C.ex C.by dX0_cell_0 rfl (lv_at hl 1 rfl) ?_
  refine lv_if_lt (tgt := 22) C.ex C.by dX0_cell_1 (by decide) (fun c1 => ?_) (fun c1 => ?_)
  · have hf := zif_t c1 hf
    refine lv_lconst (v := 0) C.ex C.by dX0_cell_22 (by decide) ?_
    cases hf
    exact z_lret C h dX0_cell_23
  · have hf := zif_f c1 hf
    refine lv_iload_n C.ex C.by dX0_cell_4 rfl (lv_at hl 1 rfl) ?_
    refine lv_aload_n C.ex C.by dX0_cell_5 rfl (lv_at hl 0 rfl) ?_
    refine z_get (v := .ref (κ.2.1 2)) C h iwX0 1 (wC_at1 κ _) rfl 1 (by decide) lkC30 rfl dX0_cell_6 ?_
    refine z_alen (t0 := 1) C h 2 (wC_at2 κ _) rfl dX0_cell_9 ?_
    refine lv_icmp_ge (tgt := 22) C.ex C.by dX0_cell_10 (by decide) (fun c2 => ?_) (fun c2 => ?_)
    · have hf := zif_t c2 hf
      refine lv_lconst (v := 0) C.ex C.by dX0_cell_22 (by decide) ?_
      cases hf
      exact z_lret C h dX0_cell_23
    · have hf := zif_f c2 hf
      refine lv_aload_n C.ex C.by dX0_cell_13 rfl (lv_at hl 0 rfl) ?_
      refine z_get (v := .ref (κ.2.1 2)) C h iwX0 1 (wC_at1 κ _) rfl 1 (by decide) lkC30 rfl dX0_cell_14 ?_
      refine lv_iload_n C.ex C.by dX0_cell_17 rfl (lv_at hl 1 rfl) ?_
      obtain ⟨h3, hf⟩ := zg_some hf
      refine z_lald (f := (zL σ 0)) C h 2 (wC_at2 κ _) h3 dX0_cell_18 ?_
      refine lv_goto (tgt := 23) C.ex C.by dX0_cell_19 (by decide) ?_
      cases hf
      exact z_lret C h dX0_cell_23
theorem ctX0_cell {l : Launch} {κ : zG} {n : Nat} {σ : zS} {x1 : Int32} {r : Int64} (hf : fX0_cell_0 n (κ.2.2.2 0) (κ.2.2.2 1) (κ.2.2.2 2) σ x1 = some r) : zMl l yX0_cell (Cond.code yX0_cell cX0_cell 2 (some .long)) rmX0_cell wC κ [.ref (κ.2.1 1), .int x1] σ r σ :=
  zMl_of (by decide) (Nat.le_of_ble_eq_true rfl) (fun p e s m below meth c A C h ls hl => wX0_cell_0 C h hl hf)
theorem hdX9_look : yX9_look.cls = RX9 ∧ yX9_look.cls ≠ "java/lang/invoke/MethodHandle" ∧ yX9_look.cls ≠ "java/lang/invoke/VarHandle" ∧ (parseMethodDescriptor yX9_look.desc).map (fun d => d.parameters.length) = some 3 := by decide +kernel
abbrev rmX9_look : Room := { frames := 2, cells := 0, slots := 0, locals := 45 }
set_option maxRecDepth 20000 in
set_option maxHeartbeats 4000000 in
theorem wX9_look_48 {p : Program} {l : Launch} {e : Env} {s : State} {m : MethodId} {args : Array Value} {below : List Frame} {meth : Method} {c : Code} {A : Nat → Prop} {κ : zG} {H : Heap} {locs : List Loc} {ls : Array Slot} {n : Nat} {σ : zS} {x2 : Int32} {x3 : Int32} {x4 : Int32} {x5 : Int32} {r1 : Int64} {r2 : zS} (C : zC cX9_look 6 (some .long) RX9 κ A p s m args meth c) (h : zH wC κ A s σ H locs) (hl : lv_has ls 6 [(0, .ref (κ.2.1 0)), (2, .int x2), (3, .int x3), (4, .int x4), (5, .int x5)]) (hf : fX9_look_48 n (κ.2.2.2 0) (κ.2.2.2 1) (κ.2.2.2 2) σ x2 x3 x4 x5 = some (r1, r2)) : W p l e rmX9_look s m args below meth c H locs 0 0 (MQ below (zQl wC κ A r1 r2) args s 0 0 A) (F0 m 48 ls []) := by
  unfold fX9_look_48 at hf
  refine lv_aload_n C.ex C.by dX9_look_48 rfl (lv_at hl 0 rfl) ?_
  refine z_get (v := .ref (κ.2.1 1)) C h iwX9 0 (wC_at0 κ _) rfl 0 (by decide) lkC17 rfl dX9_look_49 ?_
  refine lv_iload C.ex C.by dX9_look_52 (lv_at hl 4 rfl) ?_
  refine lv_aload_n C.ex C.by dX9_look_54 rfl (lv_at hl 0 rfl) ?_
  refine z_get (v := .ref (κ.2.1 1)) C h iwX9 0 (wC_at0 κ _) rfl 0 (by decide) lkC17 rfl dX9_look_55 ?_
  refine z_getN (v := .int (zI σ 1)) C h iwX0 1 (wC_at1 κ _) rfl 0 (by decide) nkC2 rfl dX9_look_58 ?_
  refine lv_imul C.ex C.by dX9_look_61 ?_
  refine lv_iload_n C.ex C.by dX9_look_62 rfl (lv_at hl 1 rfl) ?_
  refine lv_iload C.ex C.by dX9_look_63 (lv_at hl 3 rfl) ?_
  obtain ⟨h7, hf⟩ := zg_some hf
  refine lv_irem C.ex C.by dX9_look_65 (znz_ne h7) ?_
  refine lv_aload_n C.ex C.by dX9_look_66 rfl (lv_at hl 0 rfl) ?_
  refine z_get (v := .ref (κ.2.1 4)) C h iwX9 0 (wC_at0 κ _) rfl 1 (by decide) lkC1 rfl dX9_look_67 ?_
  refine z_getN (v := .int (zI σ 10)) C h iwX5 4 (wC_at4 κ _) rfl 5 (by decide) nkC3 rfl dX9_look_70 ?_
  refine lv_imul C.ex C.by dX9_look_73 ?_
  refine lv_iadd C.ex C.by dX9_look_74 ?_
  refine lv_iload_n C.ex C.by dX9_look_75 rfl (lv_at hl 2 rfl) ?_
  refine lv_iadd C.ex C.by dX9_look_76 ?_
  obtain ⟨q8, e9, hf⟩ := zb_some hf
  refine z_callVl (As := [.int (((x5 * (zI σ 1)) + ((x2 - x2 / x4 * x4) * (zI σ 10))) + x3)]) C h (ctX0_cell e9) (zgV lkC31 lkC32 lkC33 lkC24 lkC34) ⟨rfl, rfl⟩ hdX0_cell ⟨Nat.le_of_ble_eq_true rfl, Nat.le_of_ble_eq_true rfl⟩ 1 (wC_at1 κ _) rfl hl rfl rfl (Nat.le_of_ble_eq_true rfl) dX9_look_77 ⟨Nat.zero_le _, Nat.zero_le _⟩ (fun H locs h => ?_)
  cases hf
  exact z_lret C h dX9_look_80
set_option maxRecDepth 20000 in
set_option maxHeartbeats 4000000 in
theorem wX9_look_0 {p : Program} {l : Launch} {e : Env} {s : State} {m : MethodId} {args : Array Value} {below : List Frame} {meth : Method} {c : Code} {A : Nat → Prop} {κ : zG} {H : Heap} {locs : List Loc} {ls : Array Slot} {n : Nat} {σ : zS} {x1 : Int32} {x2 : Int32} {x3 : Int32} {r1 : Int64} {r2 : zS} (C : zC cX9_look 6 (some .long) RX9 κ A p s m args meth c) (h : zH wC κ A s σ H locs) (hl : lv_has ls 6 [(0, .ref (κ.2.1 0)), (1, .int x1), (2, .int x2), (3, .int x3)]) (hf : fX9_look_0 n (κ.2.2.2 0) (κ.2.2.2 1) (κ.2.2.2 2) σ x1 x2 x3 = some (r1, r2)) : W p l e rmX9_look s m args below meth c H locs 0 0 (MQ below (zQl wC κ A r1 r2) args s 0 0 A) (F0 m 0 ls []) := by
  unfold fX9_look_0 at hf
  refine lv_iconst (v := 1) C.ex C.by dX9_look_0 (by decide) ?_
  refine lv_aload_n C.ex C.by dX9_look_1 rfl (lv_at hl 0 rfl) ?_
  refine z_get (v := .ref (κ.2.1 4)) C h iwX9 0 (wC_at0 κ _) rfl 1 (by decide) lkC1 rfl dX9_look_2 ?_
  refine z_getN (v := .int (zI σ 11)) C h iwX5 4 (wC_at4 κ _) rfl 6 (by decide) nkC0 rfl dX9_look_5 ?_
  refine z_mmax C hl lkC2 lkC3 lkC4 lkC5 ⟨Nat.le_of_ble_eq_true rfl, Nat.le_of_ble_eq_true rfl⟩ ⟨Nat.zero_le _, Nat.zero_le _⟩ dX9_look_8 ?_
  refine lv_istore (lv' := [(4, .int (if 1 < (zI σ 11) then (zI σ 11) else 1)), (0, .ref (κ.2.1 0)), (1, .int x1), (2, .int x2), (3, .int x3)]) C.ex C.by dX9_look_11 hl (by decide) rfl (fun ls hl => ?_)
  refine lv_aload_n C.ex C.by dX9_look_13 rfl (lv_at hl 1 rfl) ?_
  refine z_get (v := .ref (κ.2.1 7)) C h iwX9 0 (wC_at0 κ _) rfl 2 (by decide) lkC6 rfl dX9_look_14 ?_
  refine lv_iload_n C.ex C.by dX9_look_17 rfl (lv_at hl 2 rfl) ?_
  refine lv_iload_n C.ex C.by dX9_look_18 rfl (lv_at hl 3 rfl) ?_
  refine lv_iload C.ex C.by dX9_look_19 (lv_at hl 0 rfl) ?_
  obtain ⟨h1, hf⟩ := zg_some hf
  refine lv_idiv C.ex C.by dX9_look_21 (znz_ne h1) ?_
  obtain ⟨q2, e3, hf⟩ := zb_some hf
  refine z_callVi (As := [.int x1, .int (x2 / (if 1 < (zI σ 11) then (zI σ 11) else 1))]) C h (ctX1_blockAt e3) (zgV lkC13 lkC14 lkC15 lkC11 lkC16) ⟨rfl, rfl⟩ hdX1_blockAt ⟨Nat.le_of_ble_eq_true rfl, Nat.le_of_ble_eq_true rfl⟩ 7 (wC_at7 κ _) rfl hl rfl rfl (Nat.le_of_ble_eq_true rfl) dX9_look_22 ⟨Nat.zero_le _, Nat.zero_le _⟩ (fun H locs h => ?_)
  refine lv_istore (lv' := [(5, .int q2), (4, .int (if 1 < (zI σ 11) then (zI σ 11) else 1)), (0, .ref (κ.2.1 0)), (1, .int x1), (2, .int x2), (3, .int x3)]) C.ex C.by dX9_look_25 hl (by decide) rfl (fun ls hl => ?_)
  refine lv_iload C.ex C.by dX9_look_27 (lv_at hl 0 rfl) ?_
  refine lv_aload_n C.ex C.by dX9_look_29 rfl (lv_at hl 2 rfl) ?_
  refine z_get (v := .ref (κ.2.1 1)) C h iwX9 0 (wC_at0 κ _) rfl 0 (by decide) lkC17 rfl dX9_look_30 ?_
  refine z_getN (v := .int (zI σ 5)) C h iwX0 1 (wC_at1 κ _) rfl 6 (by decide) nkC1 rfl dX9_look_33 ?_
  refine lv_icmp_eq (tgt := 48) C.ex C.by dX9_look_36 (by decide) (fun c4 => ?_) (fun c4 => ?_)
  · have hf := zif_t c4 hf
    exact wX9_look_48 C h (lv_sub hl [2, 4, 5, 1, 0] rfl) hf
  · have hf := zif_f c4 hf
    refine lv_aload_n C.ex C.by dX9_look_39 rfl (lv_at hl 2 rfl) ?_
    refine z_get (v := .ref (κ.2.1 1)) C h iwX9 0 (wC_at0 κ _) rfl 0 (by decide) lkC17 rfl dX9_look_40 ?_
    refine lv_iload C.ex C.by dX9_look_43 (lv_at hl 0 rfl) ?_
    obtain ⟨q5, e6, hf⟩ := zb_some hf
    refine z_callVv (As := [.int q2]) C h (ctX0_readBlock e6) (zgV lkC26 lkC27 lkC28 lkC24 lkC29) ⟨rfl, rfl⟩ hdX0_readBlock ⟨Nat.le_of_ble_eq_true rfl, Nat.le_of_ble_eq_true rfl⟩ 1 (wC_at1 κ _) rfl hl rfl rfl (Nat.le_of_ble_eq_true rfl) dX9_look_45 ⟨Nat.zero_le _, Nat.zero_le _⟩ (fun H locs h => ?_)
    exact wX9_look_48 C h (lv_sub hl [2, 4, 5, 1, 0] rfl) hf
theorem ctX9_look {l : Launch} {κ : zG} {n : Nat} {σ : zS} {x1 : Int32} {x2 : Int32} {x3 : Int32} {r1 : Int64} {r2 : zS} (hf : fX9_look_0 n (κ.2.2.2 0) (κ.2.2.2 1) (κ.2.2.2 2) σ x1 x2 x3 = some (r1, r2)) : zMl l yX9_look (Cond.code yX9_look cX9_look 6 (some .long)) rmX9_look wC κ [.ref (κ.2.1 0), .int x1, .int x2, .int x3] σ r1 r2 :=
  zMl_of (by decide) (Nat.le_of_ble_eq_true rfl) (fun p e s m below meth c A C h ls hl => wX9_look_0 C h hl hf)
theorem hdX3_clear : yX3_clear.cls = RX3 ∧ yX3_clear.cls ≠ "java/lang/invoke/MethodHandle" ∧ yX3_clear.cls ≠ "java/lang/invoke/VarHandle" ∧ (parseMethodDescriptor yX3_clear.desc).map (fun d => d.parameters.length) = some 0 := by decide +kernel
abbrev rmX3_clear : Room := { frames := 0, cells := 0, slots := 0, locals := 0 }
set_option maxRecDepth 20000 in
set_option maxHeartbeats 4000000 in
theorem wX3_clear_0 {p : Program} {l : Launch} {e : Env} {s : State} {m : MethodId} {args : Array Value} {below : List Frame} {meth : Method} {c : Code} {A : Nat → Prop} {κ : zG} {H : Heap} {locs : List Loc} {ls : Array Slot} {n : Nat} {σ : zS} {r : zS} (C : zC cX3_clear 1 none RX3 κ A p s m args meth c) (h : zH wC κ A s σ H locs) (hl : lv_has ls 1 [(0, .ref (κ.2.1 20))]) (hf : fX3_clear_0 n (κ.2.2.2 0) (κ.2.2.2 1) (κ.2.2.2 2) σ = some r) : W p l e rmX3_clear s m args below meth c H locs 0 0 (MQ below (zQv wC κ A r) args s 0 0 A) (F0 m 0 ls []) := by
  unfold fX3_clear_0 at hf
  refine lv_aload_n C.ex C.by dX3_clear_0 rfl (lv_at hl 0 rfl) ?_
  refine lv_iconst (v := 0) C.ex C.by dX3_clear_1 (by decide) ?_
  refine z_put C h iwX3 tyX3_ok nmX3 20 (wC_at20 κ _) rfl 4 (by decide) lkC36 rfl rfl rfl (Nat.le_of_ble_eq_true rfl) (sI σ 28 0) (wC_s20_4 κ _ _) dX3_clear_2 (fun H locs h => ?_)
  cases hf
  exact z_vret C h dX3_clear_5
theorem ctX3_clear {l : Launch} {κ : zG} {n : Nat} {σ : zS} {r : zS} (hf : fX3_clear_0 n (κ.2.2.2 0) (κ.2.2.2 1) (κ.2.2.2 2) σ = some r) : zMv l yX3_clear (Cond.code yX3_clear cX3_clear 1 none) rmX3_clear wC κ [.ref (κ.2.1 20)] σ r :=
  zMv_of (by decide) (Nat.le_of_ble_eq_true rfl) (fun p e s m below meth c A C h ls hl => wX3_clear_0 C h hl hf)
theorem hdX6_get : yX6_get.cls = RX6 ∧ yX6_get.cls ≠ "java/lang/invoke/MethodHandle" ∧ yX6_get.cls ≠ "java/lang/invoke/VarHandle" ∧ (parseMethodDescriptor yX6_get.desc).map (fun d => d.parameters.length) = some 1 := by decide +kernel
abbrev rmX6_get : Room := { frames := 0, cells := 0, slots := 0, locals := 0 }
set_option maxRecDepth 20000 in
set_option maxHeartbeats 4000000 in
theorem wX6_get_0 {p : Program} {l : Launch} {e : Env} {s : State} {m : MethodId} {args : Array Value} {below : List Frame} {meth : Method} {c : Code} {A : Nat → Prop} {κ : zG} {H : Heap} {locs : List Loc} {ls : Array Slot} {n : Nat} {σ : zS} {x1 : Int32} {r : Int32} (C : zC cX6_get 2 (some .int) RX6 κ A p s m args meth c) (h : zH wR κ A s σ H locs) (hl : lv_has ls 2 [(0, .ref (κ.2.1 0)), (1, .int x1)]) (hf : fX6_get_0 n (κ.2.2.2 0) σ x1 = some r) : W p l e rmX6_get s m args below meth c H locs 0 0 (MQ below (zQi wR κ A r σ) args s 0 0 A) (F0 m 0 ls []) := by
  unfold fX6_get_0 at hf
  refine lv_iload_n C.ex C.by dX6_get_0 rfl (lv_at hl 1 rfl) ?_
  refine lv_if_lt (tgt := 30) C.ex C.by dX6_get_1 (by decide) (fun c1 => ?_) (fun c1 => ?_)
  · have hf := zif_t c1 hf
    refine lv_iconst (v := (-1)) C.ex C.by dX6_get_30 (by decide) ?_
    cases hf
    exact z_iret C h dX6_get_31
  · have hf := zif_f c1 hf
    refine lv_iload_n C.ex C.by dX6_get_4 rfl (lv_at hl 1 rfl) ?_
    refine lv_aload_n C.ex C.by dX6_get_5 rfl (lv_at hl 0 rfl) ?_
    refine z_get (v := .int (zI σ 0)) C h iwX6 0 (wR_at0 κ _) rfl 1 (by decide) lkC47 rfl dX6_get_6 ?_
    refine lv_icmp_ge (tgt := 30) C.ex C.by dX6_get_9 (by decide) (fun c2 => ?_) (fun c2 => ?_)
    · have hf := zif_t c2 hf
      refine lv_iconst (v := (-1)) C.ex C.by dX6_get_30 (by decide) ?_
      cases hf
      exact z_iret C h dX6_get_31
    · have hf := zif_f c2 hf
      refine lv_iload_n C.ex C.by dX6_get_12 rfl (lv_at hl 1 rfl) ?_
      refine lv_aload_n C.ex C.by dX6_get_13 rfl (lv_at hl 0 rfl) ?_
      refine z_get (v := .ref (κ.2.1 1)) C h iwX6 0 (wR_at0 κ _) rfl 0 (by decide) lkC48 rfl dX6_get_14 ?_
      refine z_alen (t0 := 0) C h 1 (wR_at1 κ _) rfl dX6_get_17 ?_
      refine lv_icmp_ge (tgt := 30) C.ex C.by dX6_get_18 (by decide) (fun c3 => ?_) (fun c3 => ?_)
      · have hf := zif_t c3 hf
        refine lv_iconst (v := (-1)) C.ex C.by dX6_get_30 (by decide) ?_
        cases hf
        exact z_iret C h dX6_get_31
      · have hf := zif_f c3 hf
        refine lv_aload_n C.ex C.by dX6_get_21 rfl (lv_at hl 0 rfl) ?_
        refine z_get (v := .ref (κ.2.1 1)) C h iwX6 0 (wR_at0 κ _) rfl 0 (by decide) lkC48 rfl dX6_get_22 ?_
        refine lv_iload_n C.ex C.by dX6_get_25 rfl (lv_at hl 1 rfl) ?_
        obtain ⟨h4, hf⟩ := zg_some hf
        refine z_iald (f := (zA σ 0)) C h 1 (wR_at1 κ _) h4 dX6_get_26 ?_
        refine lv_goto (tgt := 31) C.ex C.by dX6_get_27 (by decide) ?_
        cases hf
        exact z_iret C h dX6_get_31
theorem ctX6_get {l : Launch} {κ : zG} {n : Nat} {σ : zS} {x1 : Int32} {r : Int32} (hf : fX6_get_0 n (κ.2.2.2 0) σ x1 = some r) : zMi l yX6_get (Cond.code yX6_get cX6_get 2 (some .int)) rmX6_get wR κ [.ref (κ.2.1 0), .int x1] σ r σ :=
  zMi_of (by decide) (Nat.le_of_ble_eq_true rfl) (fun p e s m below meth c A C h ls hl => wX6_get_0 C h hl hf)
theorem hdX2_next : yX2_next.cls = RX2 ∧ yX2_next.cls ≠ "java/lang/invoke/MethodHandle" ∧ yX2_next.cls ≠ "java/lang/invoke/VarHandle" ∧ (parseMethodDescriptor yX2_next.desc).map (fun d => d.parameters.length) = some 0 := by decide +kernel
abbrev rmX2_next : Room := { frames := 2, cells := 0, slots := 0, locals := 42 }
set_option maxRecDepth 20000 in
set_option maxHeartbeats 4000000 in
theorem wX2_next_45 {p : Program} {l : Launch} {e : Env} {s : State} {m : MethodId} {args : Array Value} {below : List Frame} {meth : Method} {c : Code} {A : Nat → Prop} {κ : zG} {H : Heap} {locs : List Loc} {ls : Array Slot} {n : Nat} {σ : zS} {x2 : Int32} {x3 : Int32} {r1 : Int32} {r2 : zS} (C : zC cX2_next 4 (some .int) RX2 κ A p s m args meth c) (h : zH wC κ A s σ H locs) (hl : lv_has ls 4 [(0, .ref (κ.2.1 10)), (2, .int x2), (3, .int x3)]) (hf : fX2_next_45 n (κ.2.2.2 0) (κ.2.2.2 1) (κ.2.2.2 2) σ x2 x3 = some (r1, r2)) : W p l e rmX2_next s m args below meth c H locs 0 0 (MQ below (zQi wC κ A r1 r2) args s 0 0 A) (F0 m 45 ls []) := by
  unfold fX2_next_45 at hf
  refine lv_aload_n C.ex C.by dX2_next_45 rfl (lv_at hl 0 rfl) ?_
  refine lv_dup C.ex C.by dX2_next_46 rfl ?_
  refine z_get (v := .int (zI σ 15)) C h iwX2 10 (wC_at10 κ _) rfl 7 (by decide) lkC46 rfl dX2_next_47 ?_
  refine lv_iconst (v := 1) C.ex C.by dX2_next_50 (by decide) ?_
  refine lv_iadd C.ex C.by dX2_next_51 ?_
  refine z_put C h iwX2 tyX2_ok nmX2 10 (wC_at10 κ _) rfl 7 (by decide) lkC46 rfl rfl rfl (Nat.le_of_ble_eq_true rfl) (sI σ 15 ((zI σ 15) + 1)) (wC_s10_7 κ _ _) dX2_next_52 (fun H locs h => ?_)
  refine lv_aload_n C.ex C.by dX2_next_55 rfl (lv_at hl 0 rfl) ?_
  refine lv_dup C.ex C.by dX2_next_56 rfl ?_
  refine z_get (v := .int (zI σ 16)) C h iwX2 10 (wC_at10 κ _) rfl 8 (by decide) lkC56 rfl dX2_next_57 ?_
  refine lv_iconst (v := 1) C.ex C.by dX2_next_60 (by decide) ?_
  refine lv_isub C.ex C.by dX2_next_61 ?_
  refine z_put C h iwX2 tyX2_ok nmX2 10 (wC_at10 κ _) rfl 8 (by decide) lkC56 rfl rfl rfl (Nat.le_of_ble_eq_true rfl) (sI (sI σ 15 ((zI σ 15) + 1)) 16 ((zI σ 16) - 1)) (wC_s10_8 κ _ _) dX2_next_62 (fun H locs h => ?_)
  refine lv_iload_n C.ex C.by dX2_next_65 rfl (lv_at hl 1 rfl) ?_
  refine lv_aload_n C.ex C.by dX2_next_66 rfl (lv_at hl 0 rfl) ?_
  refine z_get (v := .ref (κ.2.1 1)) C h iwX2 10 (wC_at10 κ _) rfl 0 (by decide) lkC54 rfl dX2_next_67 ?_
  refine z_getN (v := .int (zI σ 1)) C h iwX0 1 (wC_at1 κ _) rfl 0 (by decide) nkC7 rfl dX2_next_70 ?_
  refine lv_imul C.ex C.by dX2_next_73 ?_
  refine lv_iload_n C.ex C.by dX2_next_74 rfl (lv_at hl 2 rfl) ?_
  refine lv_aload_n C.ex C.by dX2_next_75 rfl (lv_at hl 0 rfl) ?_
  refine z_get (v := .ref (κ.2.1 4)) C h iwX2 10 (wC_at10 κ _) rfl 1 (by decide) lkC43 rfl dX2_next_76 ?_
  refine z_getN (v := .int (zI σ 10)) C h iwX5 4 (wC_at4 κ _) rfl 5 (by decide) nkC8 rfl dX2_next_79 ?_
  refine lv_imul C.ex C.by dX2_next_82 ?_
  refine lv_iadd C.ex C.by dX2_next_83 ?_
  cases hf
  exact z_iret C h dX2_next_84
set_option maxRecDepth 20000 in
set_option maxHeartbeats 4000000 in
theorem wX2_next_0 {p : Program} {l : Launch} {e : Env} {s : State} {m : MethodId} {args : Array Value} {below : List Frame} {meth : Method} {c : Code} {A : Nat → Prop} {κ : zG} {H : Heap} {locs : List Loc} {ls : Array Slot} {n : Nat} {σ : zS} {r1 : Int32} {r2 : zS} (C : zC cX2_next 4 (some .int) RX2 κ A p s m args meth c) (h : zH wC κ A s σ H locs) (hl : lv_has ls 4 [(0, .ref (κ.2.1 10))]) (hf : fX2_next_0 n (κ.2.2.2 0) (κ.2.2.2 1) (κ.2.2.2 2) σ = some (r1, r2)) : W p l e rmX2_next s m args below meth c H locs 0 0 (MQ below (zQi wC κ A r1 r2) args s 0 0 A) (F0 m 0 ls []) := by
  unfold fX2_next_0 at hf
  refine lv_iconst (v := 1) C.ex C.by dX2_next_0 (by decide) ?_
  refine lv_aload_n C.ex C.by dX2_next_1 rfl (lv_at hl 0 rfl) ?_
  refine z_get (v := .ref (κ.2.1 4)) C h iwX2 10 (wC_at10 κ _) rfl 1 (by decide) lkC43 rfl dX2_next_2 ?_
  refine z_getN (v := .int (zI σ 11)) C h iwX5 4 (wC_at4 κ _) rfl 6 (by decide) nkC6 rfl dX2_next_5 ?_
  refine z_mmax C hl lkC44 lkC3 lkC4 lkC5 ⟨Nat.le_of_ble_eq_true rfl, Nat.le_of_ble_eq_true rfl⟩ ⟨Nat.zero_le _, Nat.zero_le _⟩ dX2_next_8 ?_
  refine lv_istore_n (lv' := [(1, .int (if 1 < (zI σ 11) then (zI σ 11) else 1)), (0, .ref (κ.2.1 10))]) C.ex C.by dX2_next_11 rfl hl (by decide) rfl (fun ls hl => ?_)
  refine lv_aload_n C.ex C.by dX2_next_12 rfl (lv_at hl 1 rfl) ?_
  refine z_get (v := .ref (κ.2.1 11)) C h iwX2 10 (wC_at10 κ _) rfl 2 (by decide) lkC45 rfl dX2_next_13 ?_
  refine lv_aload_n C.ex C.by dX2_next_16 rfl (lv_at hl 1 rfl) ?_
  refine z_get (v := .int (zI σ 15)) C h iwX2 10 (wC_at10 κ _) rfl 7 (by decide) lkC46 rfl dX2_next_17 ?_
  refine lv_iload_n C.ex C.by dX2_next_20 rfl (lv_at hl 0 rfl) ?_
  obtain ⟨h1, hf⟩ := zg_some hf
  refine lv_idiv C.ex C.by dX2_next_21 (znz_ne h1) ?_
  obtain ⟨q2, e3, hf⟩ := zb_some hf
  refine z_callRi (As := [.int ((zI σ 15) / (if 1 < (zI σ 11) then (zI σ 11) else 1))]) (x := (zI σ 17)) (f := (zA σ 5)) C h (ctX6_get (κ := zκR κ (κ.2.1 11) (κ.2.1 12) (κ.2.2.2 0)) e3) (zgV lkC49 lkC50 lkC51 lkC52 lkC53) ⟨rfl, rfl⟩ hdX6_get ⟨Nat.le_of_ble_eq_true rfl, Nat.le_of_ble_eq_true rfl⟩ 11 12 (by decide) (wC_at11 κ _) (wC_at12 κ _) σ (zset2 (wC_at11 κ _) (wC_at12 κ _)) hl rfl rfl (Nat.le_of_ble_eq_true rfl) dX2_next_22 ⟨Nat.zero_le _, Nat.zero_le _⟩ (fun H locs h => ?_)
  refine lv_istore_n (lv' := [(2, .int q2), (1, .int (if 1 < (zI σ 11) then (zI σ 11) else 1)), (0, .ref (κ.2.1 10))]) C.ex C.by dX2_next_25 rfl hl (by decide) rfl (fun ls hl => ?_)
  refine lv_aload_n C.ex C.by dX2_next_26 rfl (lv_at hl 2 rfl) ?_
  refine z_get (v := .int (zI σ 15)) C h iwX2 10 (wC_at10 κ _) rfl 7 (by decide) lkC46 rfl dX2_next_27 ?_
  refine lv_iload_n C.ex C.by dX2_next_30 rfl (lv_at hl 1 rfl) ?_
  obtain ⟨h4, hf⟩ := zg_some hf
  refine lv_irem C.ex C.by dX2_next_31 (znz_ne h4) ?_
  refine lv_istore_n (lv' := [(3, .int ((zI σ 15) - (zI σ 15) / (if 1 < (zI σ 11) then (zI σ 11) else 1) * (if 1 < (zI σ 11) then (zI σ 11) else 1))), (2, .int q2), (1, .int (if 1 < (zI σ 11) then (zI σ 11) else 1)), (0, .ref (κ.2.1 10))]) C.ex C.by dX2_next_32 rfl hl (by decide) rfl (fun ls hl => ?_)
  refine lv_iload_n C.ex C.by dX2_next_33 rfl (lv_at hl 0 rfl) ?_
  refine lv_if_ne (tgt := 45) C.ex C.by dX2_next_34 (by decide) (fun c5 => ?_) (fun c5 => ?_)
  · have hf := zif_f c5 hf
    exact wX2_next_45 C h (lv_sub hl [3, 1, 0] rfl) hf
  · have hf := zif_t c5 hf
    refine lv_aload_n C.ex C.by dX2_next_37 rfl (lv_at hl 3 rfl) ?_
    refine z_get (v := .ref (κ.2.1 1)) C h iwX2 10 (wC_at10 κ _) rfl 0 (by decide) lkC54 rfl dX2_next_38 ?_
    refine lv_iload_n C.ex C.by dX2_next_41 rfl (lv_at hl 1 rfl) ?_
    obtain ⟨q6, e7, hf⟩ := zb_some hf
    refine z_callVv (As := [.int q2]) C h (ctX0_readBlock e7) (zgV lkC55 lkC27 lkC28 lkC24 lkC29) ⟨rfl, rfl⟩ hdX0_readBlock ⟨Nat.le_of_ble_eq_true rfl, Nat.le_of_ble_eq_true rfl⟩ 1 (wC_at1 κ _) rfl hl rfl rfl (Nat.le_of_ble_eq_true rfl) dX2_next_42 ⟨Nat.zero_le _, Nat.zero_le _⟩ (fun H locs h => ?_)
    exact wX2_next_45 C h (lv_sub hl [3, 1, 0] rfl) hf
theorem ctX2_next {l : Launch} {κ : zG} {n : Nat} {σ : zS} {r1 : Int32} {r2 : zS} (hf : fX2_next_0 n (κ.2.2.2 0) (κ.2.2.2 1) (κ.2.2.2 2) σ = some (r1, r2)) : zMi l yX2_next (Cond.code yX2_next cX2_next 4 (some .int)) rmX2_next wC κ [.ref (κ.2.1 10)] σ r1 r2 :=
  zMi_of (by decide) (Nat.le_of_ble_eq_true rfl) (fun p e s m below meth c A C h ls hl => wX2_next_0 C h hl hf)
theorem hdX5_compareKeys : yX5_compareKeys.cls = RX5 ∧ yX5_compareKeys.cls ≠ "java/lang/invoke/MethodHandle" ∧ yX5_compareKeys.cls ≠ "java/lang/invoke/VarHandle" ∧ (parseMethodDescriptor yX5_compareKeys.desc).map (fun d => d.parameters.length) = some 2 := by decide +kernel
abbrev rmX5_compareKeys : Room := { frames := 1, cells := 0, slots := 0, locals := 21 }
set_option maxRecDepth 20000 in
set_option maxHeartbeats 4000000 in
theorem wX5_compareKeys_L22_91 {p : Program} {l : Launch} {e : Env} {s : State} {m : MethodId} {args : Array Value} {below : List Frame} {meth : Method} {c : Code} {A : Nat → Prop} {κ : zG} {H : Heap} {locs : List Loc} {ls : Array Slot} {Q : State → Prop} {n : Nat} {σ : zS} {k1 : Int32} {k2 : Int32} {k3 : Int32} {x4 : Int32} {x5 : Int32} {y0 : Int32} {r : (Int32) ⊕ ((Unit) ⊕ (Int32 × Int64 × Int64))} (C : zC cX5_compareKeys 11 (some .int) RX5 κ A p s m args meth c) (h : zH wC κ A s σ H locs) (hl : lv_has ls 11 [(0, .ref (κ.2.1 4)), (1, .int k1), (2, .int k2), (3, .int k3), (4, .int x4), (5, .int x5)]) (hf : fX5_compareKeys_L22_91 n (κ.2.2.2 0) (κ.2.2.2 1) (κ.2.2.2 2) σ k1 k2 k3 x4 x5 y0 = some r) (Kc : ∀ (v4 : Int32), r = .inl v4 → ∀ (H : Heap) (locs : List Loc) (ls : Array Slot), zH wC κ A s σ H locs → lv_has ls 11 [(0, .ref (κ.2.1 4)), (1, .int k1), (2, .int k2), (3, .int k3), (4, .int v4)] → W p l e rmX5_compareKeys s m args below meth c H locs 0 0 Q (F0 m 22 ls [])) (Ke0 : ∀ (_ : Unit), r = .inr (.inl ()) → ∀ (H : Heap) (locs : List Loc) (ls : Array Slot), zH wC κ A s σ H locs → lv_has ls 11 [(0, .ref (κ.2.1 4))] → W p l e rmX5_compareKeys s m args below meth c H locs 0 0 Q (F0 m 157 ls [])) (Ke1 : ∀ (v6 : Int32) (v7 : Int64) (v9 : Int64), r = .inr (.inr (v6, v7, v9)) → ∀ (H : Heap) (locs : List Loc) (ls : Array Slot), zH wC κ A s σ H locs → lv_has ls 11 [(0, .ref (κ.2.1 4)), (6, .int v6), (7, .long v7), (9, .long v9)] → W p l e rmX5_compareKeys s m args below meth c H locs 0 0 Q (F0 m 127 ls [])) : W p l e rmX5_compareKeys s m args below meth c H locs 0 0 Q (F0 m 91 ls [.int y0]) := by
  unfold fX5_compareKeys_L22_91 at hf
  refine lv_istore (lv' := [(6, .int y0), (0, .ref (κ.2.1 4)), (1, .int k1), (2, .int k2), (3, .int k3), (4, .int x4), (5, .int x5)]) C.ex C.by dX5_compareKeys_91 hl (by decide) rfl (fun ls hl => ?_)
  refine lv_aload_n C.ex C.by dX5_compareKeys_93 rfl (lv_at hl 1 rfl) ?_
  refine z_get (v := .ref (κ.2.1 1)) C h iwX5 4 (wC_at4 κ _) rfl 0 (by decide) lkC69 rfl dX5_compareKeys_94 ?_
  refine lv_iload_n C.ex C.by dX5_compareKeys_97 rfl (lv_at hl 2 rfl) ?_
  refine lv_iload C.ex C.by dX5_compareKeys_98 (lv_at hl 6 rfl) ?_
  refine lv_iadd C.ex C.by dX5_compareKeys_100 ?_
  obtain ⟨q10, e11, hf⟩ := zb_some hf
  refine z_callVl (As := [.int (k1 + x5)]) C h (ctX0_cell e11) (zgV lkC70 lkC32 lkC33 lkC24 lkC34) ⟨rfl, rfl⟩ hdX0_cell ⟨Nat.le_of_ble_eq_true rfl, Nat.le_of_ble_eq_true rfl⟩ 1 (wC_at1 κ _) rfl hl rfl rfl (Nat.le_of_ble_eq_true rfl) dX5_compareKeys_101 ⟨Nat.zero_le _, Nat.zero_le _⟩ (fun H locs h => ?_)
  refine lv_lstore (lv' := [(7, .long q10), (6, .int y0), (0, .ref (κ.2.1 4)), (1, .int k1), (2, .int k2), (3, .int k3), (4, .int x4), (5, .int x5)]) C.ex C.by dX5_compareKeys_104 hl (by decide) rfl (fun ls hl => ?_)
  refine lv_aload_n C.ex C.by dX5_compareKeys_106 rfl (lv_at hl 2 rfl) ?_
  refine z_get (v := .ref (κ.2.1 1)) C h iwX5 4 (wC_at4 κ _) rfl 0 (by decide) lkC69 rfl dX5_compareKeys_107 ?_
  refine lv_iload_n C.ex C.by dX5_compareKeys_110 rfl (lv_at hl 4 rfl) ?_
  refine lv_iload C.ex C.by dX5_compareKeys_111 (lv_at hl 7 rfl) ?_
  refine lv_iadd C.ex C.by dX5_compareKeys_113 ?_
  obtain ⟨q12, e13, hf⟩ := zb_some hf
  refine z_callVl (As := [.int (k2 + x5)]) C h (ctX0_cell e13) (zgV lkC70 lkC32 lkC33 lkC24 lkC34) ⟨rfl, rfl⟩ hdX0_cell ⟨Nat.le_of_ble_eq_true rfl, Nat.le_of_ble_eq_true rfl⟩ 1 (wC_at1 κ _) rfl hl rfl rfl (Nat.le_of_ble_eq_true rfl) dX5_compareKeys_114 ⟨Nat.zero_le _, Nat.zero_le _⟩ (fun H locs h => ?_)
  refine lv_lstore (lv' := [(9, .long q12), (7, .long q10), (6, .int y0), (0, .ref (κ.2.1 4)), (1, .int k1), (2, .int k2), (3, .int k3), (4, .int x4), (5, .int x5)]) C.ex C.by dX5_compareKeys_117 hl (by decide) rfl (fun ls hl => ?_)
  refine lv_lload C.ex C.by dX5_compareKeys_119 (lv_at hl 1 rfl) ?_
  refine lv_lload C.ex C.by dX5_compareKeys_121 (lv_at hl 0 rfl) ?_
  refine W.lcmp C.ex C.by dX5_compareKeys_123 ?_
  refine lv_if_eq (tgt := 151) C.ex C.by dX5_compareKeys_124 (by decide) (fun c14 => ?_) (fun c14 => ?_)
  · have hf := zif_t c14 hf
    refine lv_iinc (v := (x4 + 1)) (lv' := [(4, .int (x4 + 1)), (9, .long q12), (7, .long q10), (6, .int y0), (0, .ref (κ.2.1 4)), (1, .int k1), (2, .int k2), (3, .int k3), (5, .int x5)]) C.ex C.by dX5_compareKeys_151 hl (k := 7) rfl rfl (by decide) rfl (fun ls hl => ?_)
    refine lv_goto (tgt := 22) C.ex C.by dX5_compareKeys_154 (by decide) ?_
    exact Kc _ (Option.some.inj hf).symm _ _ _ h (lv_sub hl [4, 5, 6, 7, 0] rfl)
  · have hf := zif_f c14 hf
    exact Ke1 _ _ _ (Option.some.inj hf).symm _ _ _ h (lv_sub hl [3, 2, 1, 0] rfl)
set_option maxRecDepth 20000 in
set_option maxHeartbeats 4000000 in
theorem wX5_compareKeys_L22_90 {p : Program} {l : Launch} {e : Env} {s : State} {m : MethodId} {args : Array Value} {below : List Frame} {meth : Method} {c : Code} {A : Nat → Prop} {κ : zG} {H : Heap} {locs : List Loc} {ls : Array Slot} {Q : State → Prop} {n : Nat} {σ : zS} {k1 : Int32} {k2 : Int32} {k3 : Int32} {x4 : Int32} {x5 : Int32} {r : (Int32) ⊕ ((Unit) ⊕ (Int32 × Int64 × Int64))} (C : zC cX5_compareKeys 11 (some .int) RX5 κ A p s m args meth c) (h : zH wC κ A s σ H locs) (hl : lv_has ls 11 [(0, .ref (κ.2.1 4)), (1, .int k1), (2, .int k2), (3, .int k3), (4, .int x4), (5, .int x5)]) (hf : fX5_compareKeys_L22_90 n (κ.2.2.2 0) (κ.2.2.2 1) (κ.2.2.2 2) σ k1 k2 k3 x4 x5 = some r) (Kc : ∀ (v4 : Int32), r = .inl v4 → ∀ (H : Heap) (locs : List Loc) (ls : Array Slot), zH wC κ A s σ H locs → lv_has ls 11 [(0, .ref (κ.2.1 4)), (1, .int k1), (2, .int k2), (3, .int k3), (4, .int v4)] → W p l e rmX5_compareKeys s m args below meth c H locs 0 0 Q (F0 m 22 ls [])) (Ke0 : ∀ (_ : Unit), r = .inr (.inl ()) → ∀ (H : Heap) (locs : List Loc) (ls : Array Slot), zH wC κ A s σ H locs → lv_has ls 11 [(0, .ref (κ.2.1 4))] → W p l e rmX5_compareKeys s m args below meth c H locs 0 0 Q (F0 m 157 ls [])) (Ke1 : ∀ (v6 : Int32) (v7 : Int64) (v9 : Int64), r = .inr (.inr (v6, v7, v9)) → ∀ (H : Heap) (locs : List Loc) (ls : Array Slot), zH wC κ A s σ H locs → lv_has ls 11 [(0, .ref (κ.2.1 4)), (6, .int v6), (7, .long v7), (9, .long v9)] → W p l e rmX5_compareKeys s m args below meth c H locs 0 0 Q (F0 m 127 ls [])) : W p l e rmX5_compareKeys s m args below meth c H locs 0 0 Q (F0 m 90 ls []) := by
  unfold fX5_compareKeys_L22_90 at hf
  refine lv_iconst (v := 0) C.ex C.by dX5_compareKeys_90 (by decide) ?_
  exact wX5_compareKeys_L22_91 C h hl hf Kc Ke0 Ke1
set_option maxRecDepth 20000 in
set_option maxHeartbeats 4000000 in
theorem wX5_compareKeys_L22_67 {p : Program} {l : Launch} {e : Env} {s : State} {m : MethodId} {args : Array Value} {below : List Frame} {meth : Method} {c : Code} {A : Nat → Prop} {κ : zG} {H : Heap} {locs : List Loc} {ls : Array Slot} {Q : State → Prop} {n : Nat} {σ : zS} {k1 : Int32} {k2 : Int32} {k3 : Int32} {x4 : Int32} {y0 : Int32} {r : (Int32) ⊕ ((Unit) ⊕ (Int32 × Int64 × Int64))} (C : zC cX5_compareKeys 11 (some .int) RX5 κ A p s m args meth c) (h : zH wC κ A s σ H locs) (hl : lv_has ls 11 [(0, .ref (κ.2.1 4)), (1, .int k1), (2, .int k2), (3, .int k3), (4, .int x4)]) (hf : fX5_compareKeys_L22_67 n (κ.2.2.2 0) (κ.2.2.2 1) (κ.2.2.2 2) σ k1 k2 k3 x4 y0 = some r) (Kc : ∀ (v4 : Int32), r = .inl v4 → ∀ (H : Heap) (locs : List Loc) (ls : Array Slot), zH wC κ A s σ H locs → lv_has ls 11 [(0, .ref (κ.2.1 4)), (1, .int k1), (2, .int k2), (3, .int k3), (4, .int v4)] → W p l e rmX5_compareKeys s m args below meth c H locs 0 0 Q (F0 m 22 ls [])) (Ke0 : ∀ (_ : Unit), r = .inr (.inl ()) → ∀ (H : Heap) (locs : List Loc) (ls : Array Slot), zH wC κ A s σ H locs → lv_has ls 11 [(0, .ref (κ.2.1 4))] → W p l e rmX5_compareKeys s m args below meth c H locs 0 0 Q (F0 m 157 ls [])) (Ke1 : ∀ (v6 : Int32) (v7 : Int64) (v9 : Int64), r = .inr (.inr (v6, v7, v9)) → ∀ (H : Heap) (locs : List Loc) (ls : Array Slot), zH wC κ A s σ H locs → lv_has ls 11 [(0, .ref (κ.2.1 4)), (6, .int v6), (7, .long v7), (9, .long v9)] → W p l e rmX5_compareKeys s m args below meth c H locs 0 0 Q (F0 m 127 ls [])) : W p l e rmX5_compareKeys s m args below meth c H locs 0 0 Q (F0 m 67 ls [.int y0]) := by
  unfold fX5_compareKeys_L22_67 at hf
  refine lv_istore (lv' := [(5, .int y0), (0, .ref (κ.2.1 4)), (1, .int k1), (2, .int k2), (3, .int k3), (4, .int x4)]) C.ex C.by dX5_compareKeys_67 hl (by decide) rfl (fun ls hl => ?_)
  refine lv_aload_n C.ex C.by dX5_compareKeys_69 rfl (lv_at hl 1 rfl) ?_
  refine z_get (v := .int (zI σ 8)) C h iwX5 4 (wC_at4 κ _) rfl 3 (by decide) lkC65 rfl dX5_compareKeys_70 ?_
  refine lv_if_le (tgt := 90) C.ex C.by dX5_compareKeys_73 (by decide) (fun c7 => ?_) (fun c7 => ?_)
  · have hf := zif_t c7 hf
    exact wX5_compareKeys_L22_90 C h (lv_sub hl [1, 2, 3, 4, 5, 0] rfl) hf Kc Ke0 Ke1
  · have hf := zif_f c7 hf
    refine lv_aload_n C.ex C.by dX5_compareKeys_76 rfl (lv_at hl 1 rfl) ?_
    refine z_get (v := .ref (κ.2.1 6)) C h iwX5 4 (wC_at4 κ _) rfl 2 (by decide) lkC68 rfl dX5_compareKeys_77 ?_
    refine lv_iload C.ex C.by dX5_compareKeys_80 (lv_at hl 5 rfl) ?_
    obtain ⟨h8, hf⟩ := zg_some hf
    refine z_zald (f := (zA σ 2)) C h 6 (wC_at6 κ _) h8 dX5_compareKeys_82 ?_
    refine lv_if_eq (tgt := 90) C.ex C.by dX5_compareKeys_83 (by decide) (fun c9 => ?_) (fun c9 => ?_)
    · have hf := zif_t c9 hf
      exact wX5_compareKeys_L22_90 C h (lv_sub hl [1, 2, 3, 4, 5, 0] rfl) hf Kc Ke0 Ke1
    · have hf := zif_f c9 hf
      refine lv_iconst (v := 1) C.ex C.by dX5_compareKeys_86 (by decide) ?_
      refine lv_goto (tgt := 91) C.ex C.by dX5_compareKeys_87 (by decide) ?_
      exact wX5_compareKeys_L22_91 C h (lv_sub hl [1, 2, 3, 4, 5, 0] rfl) hf Kc Ke0 Ke1
set_option maxRecDepth 20000 in
set_option maxHeartbeats 4000000 in
theorem wX5_compareKeys_L22_22 {p : Program} {l : Launch} {e : Env} {s : State} {m : MethodId} {args : Array Value} {below : List Frame} {meth : Method} {c : Code} {A : Nat → Prop} {κ : zG} {H : Heap} {locs : List Loc} {ls : Array Slot} {Q : State → Prop} {n : Nat} {σ : zS} {k1 : Int32} {k2 : Int32} {k3 : Int32} {a : Int32} {r : (Int32) ⊕ ((Unit) ⊕ (Int32 × Int64 × Int64))} (C : zC cX5_compareKeys 11 (some .int) RX5 κ A p s m args meth c) (h : zH wC κ A s σ H locs) (hl : lv_has ls 11 [(0, .ref (κ.2.1 4)), (1, .int k1), (2, .int k2), (3, .int k3), (4, .int a)]) (hf : fX5_compareKeys_L22_22 n (κ.2.2.2 0) (κ.2.2.2 1) (κ.2.2.2 2) σ k1 k2 k3 a = some r) (Kc : ∀ (v4 : Int32), r = .inl v4 → ∀ (H : Heap) (locs : List Loc) (ls : Array Slot), zH wC κ A s σ H locs → lv_has ls 11 [(0, .ref (κ.2.1 4)), (1, .int k1), (2, .int k2), (3, .int k3), (4, .int v4)] → W p l e rmX5_compareKeys s m args below meth c H locs 0 0 Q (F0 m 22 ls [])) (Ke0 : ∀ (_ : Unit), r = .inr (.inl ()) → ∀ (H : Heap) (locs : List Loc) (ls : Array Slot), zH wC κ A s σ H locs → lv_has ls 11 [(0, .ref (κ.2.1 4))] → W p l e rmX5_compareKeys s m args below meth c H locs 0 0 Q (F0 m 157 ls [])) (Ke1 : ∀ (v6 : Int32) (v7 : Int64) (v9 : Int64), r = .inr (.inr (v6, v7, v9)) → ∀ (H : Heap) (locs : List Loc) (ls : Array Slot), zH wC κ A s σ H locs → lv_has ls 11 [(0, .ref (κ.2.1 4)), (6, .int v6), (7, .long v7), (9, .long v9)] → W p l e rmX5_compareKeys s m args below meth c H locs 0 0 Q (F0 m 127 ls [])) : W p l e rmX5_compareKeys s m args below meth c H locs 0 0 Q (F0 m 22 ls []) := by
  unfold fX5_compareKeys_L22_22 at hf
  refine lv_iload C.ex C.by dX5_compareKeys_22 (lv_at hl 4 rfl) ?_
  refine lv_iload_n C.ex C.by dX5_compareKeys_24 rfl (lv_at hl 3 rfl) ?_
  refine lv_icmp_ge (tgt := 157) C.ex C.by dX5_compareKeys_25 (by decide) (fun c2 => ?_) (fun c2 => ?_)
  · have hf := zif_t c2 hf
    exact Ke0 () (Option.some.inj hf).symm _ _ _ h (lv_sub hl [0] rfl)
  · have hf := zif_f c2 hf
    refine lv_iload C.ex C.by dX5_compareKeys_28 (lv_at hl 4 rfl) ?_
    refine lv_aload_n C.ex C.by dX5_compareKeys_30 rfl (lv_at hl 0 rfl) ?_
    refine z_get (v := .ref (κ.2.1 5)) C h iwX5 4 (wC_at4 κ _) rfl 1 (by decide) lkC67 rfl dX5_compareKeys_31 ?_
    refine z_alen (t0 := 0) C h 5 (wC_at5 κ _) rfl dX5_compareKeys_34 ?_
    refine lv_icmp_ge (tgt := 157) C.ex C.by dX5_compareKeys_35 (by decide) (fun c3 => ?_) (fun c3 => ?_)
    · have hf := zif_t c3 hf
      exact Ke0 () (Option.some.inj hf).symm _ _ _ h (lv_sub hl [0] rfl)
    · have hf := zif_f c3 hf
      refine lv_iload C.ex C.by dX5_compareKeys_38 (lv_at hl 4 rfl) ?_
      refine lv_aload_n C.ex C.by dX5_compareKeys_40 rfl (lv_at hl 0 rfl) ?_
      refine z_get (v := .ref (κ.2.1 6)) C h iwX5 4 (wC_at4 κ _) rfl 2 (by decide) lkC68 rfl dX5_compareKeys_41 ?_
      refine z_alen (t0 := 2) C h 6 (wC_at6 κ _) rfl dX5_compareKeys_44 ?_
      refine lv_icmp_ge (tgt := 157) C.ex C.by dX5_compareKeys_45 (by decide) (fun c4 => ?_) (fun c4 => ?_)
      · have hf := zif_t c4 hf
        exact Ke0 () (Option.some.inj hf).symm _ _ _ h (lv_sub hl [0] rfl)
      · have hf := zif_f c4 hf
        refine lv_aload_n C.ex C.by dX5_compareKeys_48 rfl (lv_at hl 0 rfl) ?_
        refine z_get (v := .int (zI σ 8)) C h iwX5 4 (wC_at4 κ _) rfl 3 (by decide) lkC65 rfl dX5_compareKeys_49 ?_
        refine lv_if_ne (tgt := 60) C.ex C.by dX5_compareKeys_52 (by decide) (fun c5 => ?_) (fun c5 => ?_)
        · have hf := zif_f c5 hf
          refine lv_aload_n C.ex C.by dX5_compareKeys_60 rfl (lv_at hl 0 rfl) ?_
          refine z_get (v := .ref (κ.2.1 5)) C h iwX5 4 (wC_at4 κ _) rfl 1 (by decide) lkC67 rfl dX5_compareKeys_61 ?_
          refine lv_iload C.ex C.by dX5_compareKeys_64 (lv_at hl 4 rfl) ?_
          obtain ⟨h6, hf⟩ := zg_some hf
          refine z_iald (f := (zA σ 1)) C h 5 (wC_at5 κ _) h6 dX5_compareKeys_66 ?_
          exact wX5_compareKeys_L22_67 C h hl hf Kc Ke0 Ke1
        · have hf := zif_t c5 hf
          refine lv_iload C.ex C.by dX5_compareKeys_55 (lv_at hl 4 rfl) ?_
          refine lv_goto (tgt := 67) C.ex C.by dX5_compareKeys_57 (by decide) ?_
          exact wX5_compareKeys_L22_67 C h hl hf Kc Ke0 Ke1
theorem wlX5_compareKeys_22 {p : Program} {l : Launch} {e : Env} {s : State} {m : MethodId} {args : Array Value} {below : List Frame} {meth : Method} {c : Code} {A : Nat → Prop} {κ : zG} {H : Heap} {locs : List Loc} {ls : Array Slot} {Q : State → Prop} {n : Nat} {σ : zS} {k1 : Int32} {k2 : Int32} {k3 : Int32} {k0 : Nat} {u4 : Int32} (C : zC cX5_compareKeys 11 (some .int) RX5 κ A p s m args meth c) (h : zH wC κ A s σ H locs) (hl : lv_has ls 11 [(0, .ref (κ.2.1 4)), (1, .int k1), (2, .int k2), (3, .int k3), (4, .int u4)]) (b : (Unit) ⊕ (Int32 × Int64 × Int64)) (hb : zlp (fX5_compareKeys_L22_22 n (κ.2.2.2 0) (κ.2.2.2 1) (κ.2.2.2 2) σ k1 k2 k3) k0 u4 = some b) (K : (fun b => Sum.elim (fun b : Unit => ∀ (H : Heap) (locs : List Loc) (ls : Array Slot), zH wC κ A s σ H locs → lv_has ls 11 [(0, .ref (κ.2.1 4))] → W p l e rmX5_compareKeys s m args below meth c H locs 0 0 Q (F0 m 157 ls [])) (fun b : Int32 × Int64 × Int64 => ∀ (H : Heap) (locs : List Loc) (ls : Array Slot), zH wC κ A s σ H locs → lv_has ls 11 [(0, .ref (κ.2.1 4)), (6, .int b.1), (7, .long b.2.1), (9, .long b.2.2)] → W p l e rmX5_compareKeys s m args below meth c H locs 0 0 Q (F0 m 127 ls [])) b) b) : W p l e rmX5_compareKeys s m args below meth c H locs 0 0 Q (F0 m 22 ls []) :=
  z_loop (body := fX5_compareKeys_L22_22 n (κ.2.2.2 0) (κ.2.2.2 1) (κ.2.2.2 2) σ k1 k2 k3) (Wd := (fun a : Int32 => ∀ (H : Heap) (locs : List Loc) (ls : Array Slot), zH wC κ A s σ H locs → lv_has ls 11 [(0, .ref (κ.2.1 4)), (1, .int k1), (2, .int k2), (3, .int k3), (4, .int a)] → W p l e rmX5_compareKeys s m args below meth c H locs 0 0 Q (F0 m 22 ls []))) (Ex := (fun b : (Unit) ⊕ (Int32 × Int64 × Int64) => (fun b => Sum.elim (fun b : Unit => ∀ (H : Heap) (locs : List Loc) (ls : Array Slot), zH wC κ A s σ H locs → lv_has ls 11 [(0, .ref (κ.2.1 4))] → W p l e rmX5_compareKeys s m args below meth c H locs 0 0 Q (F0 m 157 ls [])) (fun b : Int32 × Int64 × Int64 => ∀ (H : Heap) (locs : List Loc) (ls : Array Slot), zH wC κ A s σ H locs → lv_has ls 11 [(0, .ref (κ.2.1 4)), (6, .int b.1), (7, .long b.2.1), (9, .long b.2.2)] → W p l e rmX5_compareKeys s m args below meth c H locs 0 0 Q (F0 m 127 ls [])) b) b)) (fun a r hr Kc Ke H locs ls h hl => wX5_compareKeys_L22_22 C h hl hr (fun v4 e => Kc v4 e) (fun _ e => Ke (.inl ()) e) (fun v6 v7 v9 e => Ke (.inr (v6, v7, v9)) e)) k0 u4 b hb K H locs ls h hl
set_option maxRecDepth 20000 in
set_option maxHeartbeats 4000000 in
theorem wX5_compareKeys_140 {p : Program} {l : Launch} {e : Env} {s : State} {m : MethodId} {args : Array Value} {below : List Frame} {meth : Method} {c : Code} {A : Nat → Prop} {κ : zG} {H : Heap} {locs : List Loc} {ls : Array Slot} {n : Nat} {σ : zS} {x6 : Int32} {y0 : Int32} {r : Int32} (C : zC cX5_compareKeys 11 (some .int) RX5 κ A p s m args meth c) (h : zH wC κ A s σ H locs) (hl : lv_has ls 11 [(0, .ref (κ.2.1 4)), (6, .int x6)]) (hf : fX5_compareKeys_140 n (κ.2.2.2 0) (κ.2.2.2 1) (κ.2.2.2 2) σ x6 y0 = some r) : W p l e rmX5_compareKeys s m args below meth c H locs 0 0 (MQ below (zQi wC κ A r σ) args s 0 0 A) (F0 m 140 ls [.int y0]) := by
  unfold fX5_compareKeys_140 at hf
  refine lv_iload C.ex C.by dX5_compareKeys_140 (lv_at hl 1 rfl) ?_
  refine lv_icmp_eq (tgt := 149) C.ex C.by dX5_compareKeys_142 (by decide) (fun c18 => ?_) (fun c18 => ?_)
  · have hf := zif_t c18 hf
    refine lv_iconst (v := 1) C.ex C.by dX5_compareKeys_149 (by decide) ?_
    cases hf
    exact z_iret C h dX5_compareKeys_150
  · have hf := zif_f c18 hf
    refine lv_iconst (v := (-1)) C.ex C.by dX5_compareKeys_145 (by decide) ?_
    refine lv_goto (tgt := 150) C.ex C.by dX5_compareKeys_146 (by decide) ?_
    cases hf
    exact z_iret C h dX5_compareKeys_150
set_option maxRecDepth 20000 in
set_option maxHeartbeats 4000000 in
theorem wX5_compareKeys_18 {p : Program} {l : Launch} {e : Env} {s : State} {m : MethodId} {args : Array Value} {below : List Frame} {meth : Method} {c : Code} {A : Nat → Prop} {κ : zG} {H : Heap} {locs : List Loc} {ls : Array Slot} {n : Nat} {σ : zS} {x1 : Int32} {x2 : Int32} {y0 : Int32} {r : Int32} (C : zC cX5_compareKeys 11 (some .int) RX5 κ A p s m args meth c) (h : zH wC κ A s σ H locs) (hl : lv_has ls 11 [(0, .ref (κ.2.1 4)), (1, .int x1), (2, .int x2)]) (hf : fX5_compareKeys_18 n (κ.2.2.2 0) (κ.2.2.2 1) (κ.2.2.2 2) σ x1 x2 y0 = some r) : W p l e rmX5_compareKeys s m args below meth c H locs 0 0 (MQ below (zQi wC κ A r σ) args s 0 0 A) (F0 m 18 ls [.int y0]) := by
  unfold fX5_compareKeys_18 at hf
  refine lv_istore_n (lv' := [(3, .int y0), (0, .ref (κ.2.1 4)), (1, .int x1), (2, .int x2)]) C.ex C.by dX5_compareKeys_18 rfl hl (by decide) rfl (fun ls hl => ?_)
  refine lv_iconst (v := 0) C.ex C.by dX5_compareKeys_19 (by decide) ?_
  refine lv_istore (lv' := [(4, .int 0), (3, .int y0), (0, .ref (κ.2.1 4)), (1, .int x1), (2, .int x2)]) C.ex C.by dX5_compareKeys_20 hl (by decide) rfl (fun ls hl => ?_)
  obtain ⟨b15, e16, hf⟩ := zb_some hf
  refine wlX5_compareKeys_22 C h (lv_sub hl [2, 3, 4, 1, 0] rfl) b15 e16 ?_
  rcases b15 with b15 | b15
  · dsimp only [Sum.elim_inl] at hf
    intro H locs ls h hl
    refine lv_iconst (v := 0) C.ex C.by dX5_compareKeys_157 (by decide) ?_
    cases hf
    exact z_iret C h dX5_compareKeys_158
  · dsimp only [Sum.elim_inr] at hf
    intro H locs ls h hl
    refine lv_lload C.ex C.by dX5_compareKeys_127 (lv_at hl 2 rfl) ?_
    refine lv_lload C.ex C.by dX5_compareKeys_129 (lv_at hl 3 rfl) ?_
    refine W.lcmp C.ex C.by dX5_compareKeys_131 ?_
    refine lv_if_ge (tgt := 139) C.ex C.by dX5_compareKeys_132 (by decide) (fun c17 => ?_) (fun c17 => ?_)
    · have hf := zif_t c17 hf
      refine lv_iconst (v := 0) C.ex C.by dX5_compareKeys_139 (by decide) ?_
      exact wX5_compareKeys_140 C h (lv_sub hl [0, 1] rfl) hf
    · have hf := zif_f c17 hf
      refine lv_iconst (v := 1) C.ex C.by dX5_compareKeys_135 (by decide) ?_
      refine lv_goto (tgt := 140) C.ex C.by dX5_compareKeys_136 (by decide) ?_
      exact wX5_compareKeys_140 C h (lv_sub hl [0, 1] rfl) hf
set_option maxRecDepth 20000 in
set_option maxHeartbeats 4000000 in
theorem wX5_compareKeys_0 {p : Program} {l : Launch} {e : Env} {s : State} {m : MethodId} {args : Array Value} {below : List Frame} {meth : Method} {c : Code} {A : Nat → Prop} {κ : zG} {H : Heap} {locs : List Loc} {ls : Array Slot} {n : Nat} {σ : zS} {x1 : Int32} {x2 : Int32} {r : Int32} (C : zC cX5_compareKeys 11 (some .int) RX5 κ A p s m args meth c) (h : zH wC κ A s σ H locs) (hl : lv_has ls 11 [(0, .ref (κ.2.1 4)), (1, .int x1), (2, .int x2)]) (hf : fX5_compareKeys_0 n (κ.2.2.2 0) (κ.2.2.2 1) (κ.2.2.2 2) σ x1 x2 = some r) : W p l e rmX5_compareKeys s m args below meth c H locs 0 0 (MQ below (zQi wC κ A r σ) args s 0 0 A) (F0 m 0 ls []) := by
  unfold fX5_compareKeys_0 at hf
  refine lv_aload_n C.ex C.by dX5_compareKeys_0 rfl (lv_at hl 0 rfl) ?_
  refine z_get (v := .int (zI σ 8)) C h iwX5 4 (wC_at4 κ _) rfl 3 (by decide) lkC65 rfl dX5_compareKeys_1 ?_
  refine lv_if_ne (tgt := 14) C.ex C.by dX5_compareKeys_4 (by decide) (fun c1 => ?_) (fun c1 => ?_)
  · have hf := zif_f c1 hf
    refine lv_aload_n C.ex C.by dX5_compareKeys_14 rfl (lv_at hl 0 rfl) ?_
    refine z_get (v := .int (zI σ 8)) C h iwX5 4 (wC_at4 κ _) rfl 3 (by decide) lkC65 rfl dX5_compareKeys_15 ?_
    exact wX5_compareKeys_18 C h hl hf
  · have hf := zif_t c1 hf
    refine lv_aload_n C.ex C.by dX5_compareKeys_7 rfl (lv_at hl 0 rfl) ?_
    refine z_get (v := .int (zI σ 9)) C h iwX5 4 (wC_at4 κ _) rfl 4 (by decide) lkC66 rfl dX5_compareKeys_8 ?_
    refine lv_goto (tgt := 18) C.ex C.by dX5_compareKeys_11 (by decide) ?_
    exact wX5_compareKeys_18 C h hl hf
theorem ctX5_compareKeys {l : Launch} {κ : zG} {n : Nat} {σ : zS} {x1 : Int32} {x2 : Int32} {r : Int32} (hf : fX5_compareKeys_0 n (κ.2.2.2 0) (κ.2.2.2 1) (κ.2.2.2 2) σ x1 x2 = some r) : zMi l yX5_compareKeys (Cond.code yX5_compareKeys cX5_compareKeys 11 (some .int)) rmX5_compareKeys wC κ [.ref (κ.2.1 4), .int x1, .int x2] σ r σ :=
  zMi_of (by decide) (Nat.le_of_ble_eq_true rfl) (fun p e s m below meth c A C h ls hl => wX5_compareKeys_0 C h hl hf)
theorem hdX5_isBefore : yX5_isBefore.cls = RX5 ∧ yX5_isBefore.cls ≠ "java/lang/invoke/MethodHandle" ∧ yX5_isBefore.cls ≠ "java/lang/invoke/VarHandle" ∧ (parseMethodDescriptor yX5_isBefore.desc).map (fun d => d.parameters.length) = some 2 := by decide +kernel
abbrev rmX5_isBefore : Room := { frames := 2, cells := 0, slots := 0, locals := 51 }
set_option maxRecDepth 20000 in
set_option maxHeartbeats 4000000 in
theorem wX5_isBefore_45 {p : Program} {l : Launch} {e : Env} {s : State} {m : MethodId} {args : Array Value} {below : List Frame} {meth : Method} {c : Code} {A : Nat → Prop} {κ : zG} {H : Heap} {locs : List Loc} {ls : Array Slot} {n : Nat} {σ : zS} {r : Int32} (C : zC cX5_isBefore 4 (some .boolean) RX5 κ A p s m args meth c) (h : zH wC κ A s σ H locs) (hl : lv_has ls 4 [(0, .ref (κ.2.1 4))]) (hf : fX5_isBefore_45 n (κ.2.2.2 0) (κ.2.2.2 1) (κ.2.2.2 2) σ = some r) : W p l e rmX5_isBefore s m args below meth c H locs 0 0 (MQ below (zQi wC κ A r σ) args s 0 0 A) (F0 m 45 ls []) := by
  unfold fX5_isBefore_45 at hf
  refine lv_iconst (v := 1) C.ex C.by dX5_isBefore_45 (by decide) ?_
  refine lv_goto (tgt := 50) C.ex C.by dX5_isBefore_46 (by decide) ?_
  cases hf
  exact z_zret (r := 1) C h rfl dX5_isBefore_50
set_option maxRecDepth 20000 in
set_option maxHeartbeats 4000000 in
theorem wX5_isBefore_0 {p : Program} {l : Launch} {e : Env} {s : State} {m : MethodId} {args : Array Value} {below : List Frame} {meth : Method} {c : Code} {A : Nat → Prop} {κ : zG} {H : Heap} {locs : List Loc} {ls : Array Slot} {n : Nat} {σ : zS} {x1 : Int32} {x2 : Int32} {r : Int32} (C : zC cX5_isBefore 4 (some .boolean) RX5 κ A p s m args meth c) (h : zH wC κ A s σ H locs) (hl : lv_has ls 4 [(0, .ref (κ.2.1 4)), (1, .int x1), (2, .int x2)]) (hf : fX5_isBefore_0 n (κ.2.2.2 0) (κ.2.2.2 1) (κ.2.2.2 2) σ x1 x2 = some r) : W p l e rmX5_isBefore s m args below meth c H locs 0 0 (MQ below (zQi wC κ A r σ) args s 0 0 A) (F0 m 0 ls []) := by
  unfold fX5_isBefore_0 at hf
  refine lv_aload_n C.ex C.by dX5_isBefore_0 rfl (lv_at hl 0 rfl) ?_
  refine lv_iload_n C.ex C.by dX5_isBefore_1 rfl (lv_at hl 1 rfl) ?_
  refine lv_iload_n C.ex C.by dX5_isBefore_2 rfl (lv_at hl 2 rfl) ?_
  obtain ⟨q1, e2, hf⟩ := zb_some hf
  refine z_callVi (As := [.int x1, .int x2]) C h (ctX5_compareKeys e2) (zgV lkC71 lkC72 lkC73 lkC74 lkC75) ⟨rfl, rfl⟩ hdX5_compareKeys ⟨Nat.le_of_ble_eq_true rfl, Nat.le_of_ble_eq_true rfl⟩ 4 (wC_at4 κ _) rfl hl rfl rfl (Nat.le_of_ble_eq_true rfl) dX5_isBefore_3 ⟨Nat.zero_le _, Nat.zero_le _⟩ (fun H locs h => ?_)
  refine lv_istore_n (lv' := [(3, .int q1), (0, .ref (κ.2.1 4)), (1, .int x1), (2, .int x2)]) C.ex C.by dX5_isBefore_6 rfl hl (by decide) rfl (fun ls hl => ?_)
  refine lv_iload_n C.ex C.by dX5_isBefore_7 rfl (lv_at hl 0 rfl) ?_
  refine lv_if_lt (tgt := 45) C.ex C.by dX5_isBefore_8 (by decide) (fun c3 => ?_) (fun c3 => ?_)
  · have hf := zif_t c3 hf
    exact wX5_isBefore_45 C h (lv_sub hl [1] rfl) hf
  · have hf := zif_f c3 hf
    refine lv_iload_n C.ex C.by dX5_isBefore_11 rfl (lv_at hl 0 rfl) ?_
    refine lv_if_ne (tgt := 49) C.ex C.by dX5_isBefore_12 (by decide) (fun c4 => ?_) (fun c4 => ?_)
    · have hf := zif_f c4 hf
      refine lv_iconst (v := 0) C.ex C.by dX5_isBefore_49 (by decide) ?_
      cases hf
      exact z_zret (r := 0) C h rfl dX5_isBefore_50
    · have hf := zif_t c4 hf
      refine lv_aload_n C.ex C.by dX5_isBefore_15 rfl (lv_at hl 1 rfl) ?_
      refine z_get (v := .ref (κ.2.1 1)) C h iwX5 4 (wC_at4 κ _) rfl 0 (by decide) lkC69 rfl dX5_isBefore_16 ?_
      refine lv_iload_n C.ex C.by dX5_isBefore_19 rfl (lv_at hl 2 rfl) ?_
      refine lv_aload_n C.ex C.by dX5_isBefore_20 rfl (lv_at hl 1 rfl) ?_
      refine z_get (v := .int (zI σ 9)) C h iwX5 4 (wC_at4 κ _) rfl 4 (by decide) lkC66 rfl dX5_isBefore_21 ?_
      refine lv_iadd C.ex C.by dX5_isBefore_24 ?_
      obtain ⟨q5, e6, hf⟩ := zb_some hf
      refine z_callVl (As := [.int (x1 + (zI σ 9))]) C h (ctX0_cell e6) (zgV lkC70 lkC32 lkC33 lkC24 lkC34) ⟨rfl, rfl⟩ hdX0_cell ⟨Nat.le_of_ble_eq_true rfl, Nat.le_of_ble_eq_true rfl⟩ 1 (wC_at1 κ _) rfl hl rfl rfl (Nat.le_of_ble_eq_true rfl) dX5_isBefore_25 ⟨Nat.zero_le _, Nat.zero_le _⟩ (fun H locs h => ?_)
      refine lv_aload_n C.ex C.by dX5_isBefore_28 rfl (lv_at hl 1 rfl) ?_
      refine z_get (v := .ref (κ.2.1 1)) C h iwX5 4 (wC_at4 κ _) rfl 0 (by decide) lkC69 rfl dX5_isBefore_29 ?_
      refine lv_iload_n C.ex C.by dX5_isBefore_32 rfl (lv_at hl 3 rfl) ?_
      refine lv_aload_n C.ex C.by dX5_isBefore_33 rfl (lv_at hl 1 rfl) ?_
      refine z_get (v := .int (zI σ 9)) C h iwX5 4 (wC_at4 κ _) rfl 4 (by decide) lkC66 rfl dX5_isBefore_34 ?_
      refine lv_iadd C.ex C.by dX5_isBefore_37 ?_
      obtain ⟨q7, e8, hf⟩ := zb_some hf
      refine z_callVl (As := [.int (x2 + (zI σ 9))]) C h (ctX0_cell e8) (zgV lkC70 lkC32 lkC33 lkC24 lkC34) ⟨rfl, rfl⟩ hdX0_cell ⟨Nat.le_of_ble_eq_true rfl, Nat.le_of_ble_eq_true rfl⟩ 1 (wC_at1 κ _) rfl hl rfl rfl (Nat.le_of_ble_eq_true rfl) dX5_isBefore_38 ⟨Nat.zero_le _, Nat.zero_le _⟩ (fun H locs h => ?_)
      refine W.lcmp C.ex C.by dX5_isBefore_41 ?_
      refine lv_if_ge (tgt := 49) C.ex C.by dX5_isBefore_42 (by decide) (fun c9 => ?_) (fun c9 => ?_)
      · have hf := zif_t c9 hf
        refine lv_iconst (v := 0) C.ex C.by dX5_isBefore_49 (by decide) ?_
        cases hf
        exact z_zret (r := 0) C h rfl dX5_isBefore_50
      · have hf := zif_f c9 hf
        exact wX5_isBefore_45 C h (lv_sub hl [1] rfl) hf
theorem ctX5_isBefore {l : Launch} {κ : zG} {n : Nat} {σ : zS} {x1 : Int32} {x2 : Int32} {r : Int32} (hf : fX5_isBefore_0 n (κ.2.2.2 0) (κ.2.2.2 1) (κ.2.2.2 2) σ x1 x2 = some r) : zMi l yX5_isBefore (Cond.code yX5_isBefore cX5_isBefore 4 (some .boolean)) rmX5_isBefore wC κ [.ref (κ.2.1 4), .int x1, .int x2] σ r σ :=
  zMi_of (by decide) (Nat.le_of_ble_eq_true rfl) (fun p e s m below meth c A C h ls hl => wX5_isBefore_0 C h hl hf)
theorem hdX3_isAhead : yX3_isAhead.cls = RX3 ∧ yX3_isAhead.cls ≠ "java/lang/invoke/MethodHandle" ∧ yX3_isAhead.cls ≠ "java/lang/invoke/VarHandle" ∧ (parseMethodDescriptor yX3_isAhead.desc).map (fun d => d.parameters.length) = some 3 := by decide +kernel
abbrev rmX3_isAhead : Room := { frames := 3, cells := 0, slots := 0, locals := 74 }
set_option maxRecDepth 20000 in
set_option maxHeartbeats 4000000 in
theorem wX3_isAhead_0 {p : Program} {l : Launch} {e : Env} {s : State} {m : MethodId} {args : Array Value} {below : List Frame} {meth : Method} {c : Code} {A : Nat → Prop} {κ : zG} {H : Heap} {locs : List Loc} {ls : Array Slot} {n : Nat} {σ : zS} {x1 : Int32} {x2 : Int32} {x3 : Int32} {r : Int32} (C : zC cX3_isAhead 4 (some .boolean) RX3 κ A p s m args meth c) (h : zH wC κ A s σ H locs) (hl : lv_has ls 4 [(0, .ref (κ.2.1 20)), (1, .int x1), (2, .int x2), (3, .int x3)]) (hf : fX3_isAhead_0 n (κ.2.2.2 0) (κ.2.2.2 1) (κ.2.2.2 2) σ x1 x2 x3 = some r) : W p l e rmX3_isAhead s m args below meth c H locs 0 0 (MQ below (zQi wC κ A r σ) args s 0 0 A) (F0 m 0 ls []) := by
  unfold fX3_isAhead_0 at hf
  refine lv_iload_n C.ex C.by dX3_isAhead_0 rfl (lv_at hl 3 rfl) ?_
  refine lv_if_lt (tgt := 22) C.ex C.by dX3_isAhead_1 (by decide) (fun c1 => ?_) (fun c1 => ?_)
  · have hf := zif_t c1 hf
    refine lv_iconst (v := 0) C.ex C.by dX3_isAhead_22 (by decide) ?_
    cases hf
    exact z_zret (r := 0) C h rfl dX3_isAhead_23
  · have hf := zif_f c1 hf
    refine lv_iload_n C.ex C.by dX3_isAhead_4 rfl (lv_at hl 3 rfl) ?_
    refine lv_aload_n C.ex C.by dX3_isAhead_5 rfl (lv_at hl 0 rfl) ?_
    refine z_get (v := .ref (κ.2.1 21)) C h iwX3 20 (wC_at20 κ _) rfl 2 (by decide) lkC62 rfl dX3_isAhead_6 ?_
    refine z_alen (t0 := 0) C h 21 (wC_at21 κ _) rfl dX3_isAhead_9 ?_
    refine lv_icmp_ge (tgt := 22) C.ex C.by dX3_isAhead_10 (by decide) (fun c2 => ?_) (fun c2 => ?_)
    · have hf := zif_t c2 hf
      refine lv_iconst (v := 0) C.ex C.by dX3_isAhead_22 (by decide) ?_
      cases hf
      exact z_zret (r := 0) C h rfl dX3_isAhead_23
    · have hf := zif_f c2 hf
      refine lv_iload_n C.ex C.by dX3_isAhead_13 rfl (lv_at hl 3 rfl) ?_
      refine lv_aload_n C.ex C.by dX3_isAhead_14 rfl (lv_at hl 0 rfl) ?_
      refine z_get (v := .ref (κ.2.1 22)) C h iwX3 20 (wC_at20 κ _) rfl 3 (by decide) lkC63 rfl dX3_isAhead_15 ?_
      refine z_alen (t0 := 0) C h 22 (wC_at22 κ _) rfl dX3_isAhead_18 ?_
      refine lv_icmp_lt (tgt := 24) C.ex C.by dX3_isAhead_19 (by decide) (fun c3 => ?_) (fun c3 => ?_)
      · have hf := zif_t c3 hf
        refine lv_iload_n C.ex C.by dX3_isAhead_24 rfl (lv_at hl 2 rfl) ?_
        refine lv_aload_n C.ex C.by dX3_isAhead_25 rfl (lv_at hl 0 rfl) ?_
        refine z_get (v := .ref (κ.2.1 22)) C h iwX3 20 (wC_at20 κ _) rfl 3 (by decide) lkC63 rfl dX3_isAhead_26 ?_
        refine lv_iload_n C.ex C.by dX3_isAhead_29 rfl (lv_at hl 3 rfl) ?_
        obtain ⟨h4, hf⟩ := zg_some hf
        refine z_iald (f := (zA σ 9)) C h 22 (wC_at22 κ _) h4 dX3_isAhead_30 ?_
        refine lv_icmp_eq (tgt := 52) C.ex C.by dX3_isAhead_31 (by decide) (fun c5 => ?_) (fun c5 => ?_)
        · have hf := zif_t c5 hf
          refine lv_aload_n C.ex C.by dX3_isAhead_52 rfl (lv_at hl 0 rfl) ?_
          refine z_get (v := .ref (κ.2.1 4)) C h iwX3 20 (wC_at20 κ _) rfl 0 (by decide) lkC64 rfl dX3_isAhead_53 ?_
          refine lv_iload_n C.ex C.by dX3_isAhead_56 rfl (lv_at hl 1 rfl) ?_
          refine lv_aload_n C.ex C.by dX3_isAhead_57 rfl (lv_at hl 0 rfl) ?_
          refine z_get (v := .ref (κ.2.1 21)) C h iwX3 20 (wC_at20 κ _) rfl 2 (by decide) lkC62 rfl dX3_isAhead_58 ?_
          refine lv_iload_n C.ex C.by dX3_isAhead_61 rfl (lv_at hl 3 rfl) ?_
          obtain ⟨h6, hf⟩ := zg_some hf
          refine z_iald (f := (zA σ 8)) C h 21 (wC_at21 κ _) h6 dX3_isAhead_62 ?_
          obtain ⟨q7, e8, hf⟩ := zb_some hf
          refine z_callVi (As := [.int x1, .int ((zA σ 8) (Int32.toNatClampNeg x3))]) C h (ctX5_isBefore e8) (zgV lkC76 lkC77 lkC78 lkC74 lkC79) ⟨rfl, rfl⟩ hdX5_isBefore ⟨Nat.le_of_ble_eq_true rfl, Nat.le_of_ble_eq_true rfl⟩ 4 (wC_at4 κ _) rfl hl rfl rfl (Nat.le_of_ble_eq_true rfl) dX3_isAhead_63 ⟨Nat.zero_le _, Nat.zero_le _⟩ (fun H locs h => ?_)
          obtain ⟨h9, hf⟩ := zg_some hf
          cases hf
          exact z_zret C h (zbo_n h9) dX3_isAhead_66
        · have hf := zif_f c5 hf
          refine lv_iload_n C.ex C.by dX3_isAhead_34 rfl (lv_at hl 2 rfl) ?_
          refine lv_aload_n C.ex C.by dX3_isAhead_35 rfl (lv_at hl 0 rfl) ?_
          refine z_get (v := .ref (κ.2.1 22)) C h iwX3 20 (wC_at20 κ _) rfl 3 (by decide) lkC63 rfl dX3_isAhead_36 ?_
          refine lv_iload_n C.ex C.by dX3_isAhead_39 rfl (lv_at hl 3 rfl) ?_
          obtain ⟨h10, hf⟩ := zg_some hf
          refine z_iald (f := (zA σ 9)) C h 22 (wC_at22 κ _) h10 dX3_isAhead_40 ?_
          refine lv_icmp_ge (tgt := 48) C.ex C.by dX3_isAhead_41 (by decide) (fun c11 => ?_) (fun c11 => ?_)
          · have hf := zif_t c11 hf
            refine lv_iconst (v := 0) C.ex C.by dX3_isAhead_48 (by decide) ?_
            refine lv_goto (tgt := 66) C.ex C.by dX3_isAhead_49 (by decide) ?_
            cases hf
            exact z_zret (r := 0) C h rfl dX3_isAhead_66
          · have hf := zif_f c11 hf
            refine lv_iconst (v := 1) C.ex C.by dX3_isAhead_44 (by decide) ?_
            refine lv_goto (tgt := 66) C.ex C.by dX3_isAhead_45 (by decide) ?_
            cases hf
            exact z_zret (r := 1) C h rfl dX3_isAhead_66
      · have hf := zif_f c3 hf
        refine lv_iconst (v := 0) C.ex C.by dX3_isAhead_22 (by decide) ?_
        cases hf
        exact z_zret (r := 0) C h rfl dX3_isAhead_23
theorem ctX3_isAhead {l : Launch} {κ : zG} {n : Nat} {σ : zS} {x1 : Int32} {x2 : Int32} {x3 : Int32} {r : Int32} (hf : fX3_isAhead_0 n (κ.2.2.2 0) (κ.2.2.2 1) (κ.2.2.2 2) σ x1 x2 x3 = some r) : zMi l yX3_isAhead (Cond.code yX3_isAhead cX3_isAhead 4 (some .boolean)) rmX3_isAhead wC κ [.ref (κ.2.1 20), .int x1, .int x2, .int x3] σ r σ :=
  zMi_of (by decide) (Nat.le_of_ble_eq_true rfl) (fun p e s m below meth c A C h ls hl => wX3_isAhead_0 C h hl hf)
theorem hdX3_put : yX3_put.cls = RX3 ∧ yX3_put.cls ≠ "java/lang/invoke/MethodHandle" ∧ yX3_put.cls ≠ "java/lang/invoke/VarHandle" ∧ (parseMethodDescriptor yX3_put.desc).map (fun d => d.parameters.length) = some 3 := by decide +kernel
abbrev rmX3_put : Room := { frames := 0, cells := 0, slots := 0, locals := 0 }
set_option maxRecDepth 20000 in
set_option maxHeartbeats 4000000 in
theorem wX3_put_0 {p : Program} {l : Launch} {e : Env} {s : State} {m : MethodId} {args : Array Value} {below : List Frame} {meth : Method} {c : Code} {A : Nat → Prop} {κ : zG} {H : Heap} {locs : List Loc} {ls : Array Slot} {n : Nat} {σ : zS} {x1 : Int32} {x2 : Int32} {x3 : Int32} {r : zS} (C : zC cX3_put 4 none RX3 κ A p s m args meth c) (h : zH wC κ A s σ H locs) (hl : lv_has ls 4 [(0, .ref (κ.2.1 20)), (1, .int x1), (2, .int x2), (3, .int x3)]) (hf : fX3_put_0 n (κ.2.2.2 0) (κ.2.2.2 1) (κ.2.2.2 2) σ x1 x2 x3 = some r) : W p l e rmX3_put s m args below meth c H locs 0 0 (MQ below (zQv wC κ A r) args s 0 0 A) (F0 m 0 ls []) := by
  unfold fX3_put_0 at hf
  refine lv_iload_n C.ex C.by dX3_put_0 rfl (lv_at hl 1 rfl) ?_
  refine lv_if_lt (tgt := 36) C.ex C.by dX3_put_1 (by decide) (fun c1 => ?_) (fun c1 => ?_)
  · have hf := zif_t c1 hf
    cases hf
    exact z_vret C h dX3_put_36
  · have hf := zif_f c1 hf
    refine lv_iload_n C.ex C.by dX3_put_4 rfl (lv_at hl 1 rfl) ?_
    refine lv_aload_n C.ex C.by dX3_put_5 rfl (lv_at hl 0 rfl) ?_
    refine z_get (v := .ref (κ.2.1 21)) C h iwX3 20 (wC_at20 κ _) rfl 2 (by decide) lkC62 rfl dX3_put_6 ?_
    refine z_alen (t0 := 0) C h 21 (wC_at21 κ _) rfl dX3_put_9 ?_
    refine lv_icmp_ge (tgt := 36) C.ex C.by dX3_put_10 (by decide) (fun c2 => ?_) (fun c2 => ?_)
    · have hf := zif_t c2 hf
      cases hf
      exact z_vret C h dX3_put_36
    · have hf := zif_f c2 hf
      refine lv_iload_n C.ex C.by dX3_put_13 rfl (lv_at hl 1 rfl) ?_
      refine lv_aload_n C.ex C.by dX3_put_14 rfl (lv_at hl 0 rfl) ?_
      refine z_get (v := .ref (κ.2.1 22)) C h iwX3 20 (wC_at20 κ _) rfl 3 (by decide) lkC63 rfl dX3_put_15 ?_
      refine z_alen (t0 := 0) C h 22 (wC_at22 κ _) rfl dX3_put_18 ?_
      refine lv_icmp_ge (tgt := 36) C.ex C.by dX3_put_19 (by decide) (fun c3 => ?_) (fun c3 => ?_)
      · have hf := zif_t c3 hf
        cases hf
        exact z_vret C h dX3_put_36
      · have hf := zif_f c3 hf
        refine lv_aload_n C.ex C.by dX3_put_22 rfl (lv_at hl 0 rfl) ?_
        refine z_get (v := .ref (κ.2.1 21)) C h iwX3 20 (wC_at20 κ _) rfl 2 (by decide) lkC62 rfl dX3_put_23 ?_
        refine lv_iload_n C.ex C.by dX3_put_26 rfl (lv_at hl 1 rfl) ?_
        refine lv_iload_n C.ex C.by dX3_put_27 rfl (lv_at hl 2 rfl) ?_
        obtain ⟨h4, hf⟩ := zg_some hf
        refine z_iast (f := (zA σ 8)) C h 21 (wC_at21 κ _) h4 (sA σ 8 (upd (zA σ 8) (Int32.toNatClampNeg x1) x2)) (wC_s21 κ _ _) dX3_put_28 (fun H locs h => ?_)
        refine lv_aload_n C.ex C.by dX3_put_29 rfl (lv_at hl 0 rfl) ?_
        refine z_get (v := .ref (κ.2.1 22)) C h iwX3 20 (wC_at20 κ _) rfl 3 (by decide) lkC63 rfl dX3_put_30 ?_
        refine lv_iload_n C.ex C.by dX3_put_33 rfl (lv_at hl 1 rfl) ?_
        refine lv_iload_n C.ex C.by dX3_put_34 rfl (lv_at hl 3 rfl) ?_
        obtain ⟨h5, hf⟩ := zg_some hf
        refine z_iast (f := (zA σ 9)) C h 22 (wC_at22 κ _) h5 (sA (sA σ 8 (upd (zA σ 8) (Int32.toNatClampNeg x1) x2)) 9 (upd (zA σ 9) (Int32.toNatClampNeg x1) x3)) (wC_s22 κ _ _) dX3_put_35 (fun H locs h => ?_)
        cases hf
        exact z_vret C h dX3_put_36
theorem ctX3_put {l : Launch} {κ : zG} {n : Nat} {σ : zS} {x1 : Int32} {x2 : Int32} {x3 : Int32} {r : zS} (hf : fX3_put_0 n (κ.2.2.2 0) (κ.2.2.2 1) (κ.2.2.2 2) σ x1 x2 x3 = some r) : zMv l yX3_put (Cond.code yX3_put cX3_put 4 none) rmX3_put wC κ [.ref (κ.2.1 20), .int x1, .int x2, .int x3] σ r :=
  zMv_of (by decide) (Nat.le_of_ble_eq_true rfl) (fun p e s m below meth c A C h ls hl => wX3_put_0 C h hl hf)
theorem hdX3_copyTo : yX3_copyTo.cls = RX3 ∧ yX3_copyTo.cls ≠ "java/lang/invoke/MethodHandle" ∧ yX3_copyTo.cls ≠ "java/lang/invoke/VarHandle" ∧ (parseMethodDescriptor yX3_copyTo.desc).map (fun d => d.parameters.length) = some 2 := by decide +kernel
abbrev rmX3_copyTo : Room := { frames := 1, cells := 0, slots := 0, locals := 23 }
set_option maxRecDepth 20000 in
set_option maxHeartbeats 4000000 in
theorem wX3_copyTo_0 {p : Program} {l : Launch} {e : Env} {s : State} {m : MethodId} {args : Array Value} {below : List Frame} {meth : Method} {c : Code} {A : Nat → Prop} {κ : zG} {H : Heap} {locs : List Loc} {ls : Array Slot} {n : Nat} {σ : zS} {x1 : Int32} {x2 : Int32} {r : zS} (C : zC cX3_copyTo 3 none RX3 κ A p s m args meth c) (h : zH wC κ A s σ H locs) (hl : lv_has ls 3 [(0, .ref (κ.2.1 20)), (1, .int x1), (2, .int x2)]) (hf : fX3_copyTo_0 n (κ.2.2.2 0) (κ.2.2.2 1) (κ.2.2.2 2) σ x1 x2 = some r) : W p l e rmX3_copyTo s m args below meth c H locs 0 0 (MQ below (zQv wC κ A r) args s 0 0 A) (F0 m 0 ls []) := by
  unfold fX3_copyTo_0 at hf
  refine lv_iload_n C.ex C.by dX3_copyTo_0 rfl (lv_at hl 2 rfl) ?_
  refine lv_if_lt (tgt := 39) C.ex C.by dX3_copyTo_1 (by decide) (fun c1 => ?_) (fun c1 => ?_)
  · have hf := zif_t c1 hf
    cases hf
    exact z_vret C h dX3_copyTo_39
  · have hf := zif_f c1 hf
    refine lv_iload_n C.ex C.by dX3_copyTo_4 rfl (lv_at hl 2 rfl) ?_
    refine lv_aload_n C.ex C.by dX3_copyTo_5 rfl (lv_at hl 0 rfl) ?_
    refine z_get (v := .ref (κ.2.1 21)) C h iwX3 20 (wC_at20 κ _) rfl 2 (by decide) lkC62 rfl dX3_copyTo_6 ?_
    refine z_alen (t0 := 0) C h 21 (wC_at21 κ _) rfl dX3_copyTo_9 ?_
    refine lv_icmp_ge (tgt := 39) C.ex C.by dX3_copyTo_10 (by decide) (fun c2 => ?_) (fun c2 => ?_)
    · have hf := zif_t c2 hf
      cases hf
      exact z_vret C h dX3_copyTo_39
    · have hf := zif_f c2 hf
      refine lv_iload_n C.ex C.by dX3_copyTo_13 rfl (lv_at hl 2 rfl) ?_
      refine lv_aload_n C.ex C.by dX3_copyTo_14 rfl (lv_at hl 0 rfl) ?_
      refine z_get (v := .ref (κ.2.1 22)) C h iwX3 20 (wC_at20 κ _) rfl 3 (by decide) lkC63 rfl dX3_copyTo_15 ?_
      refine z_alen (t0 := 0) C h 22 (wC_at22 κ _) rfl dX3_copyTo_18 ?_
      refine lv_icmp_ge (tgt := 39) C.ex C.by dX3_copyTo_19 (by decide) (fun c3 => ?_) (fun c3 => ?_)
      · have hf := zif_t c3 hf
        cases hf
        exact z_vret C h dX3_copyTo_39
      · have hf := zif_f c3 hf
        refine lv_aload_n C.ex C.by dX3_copyTo_22 rfl (lv_at hl 0 rfl) ?_
        refine lv_iload_n C.ex C.by dX3_copyTo_23 rfl (lv_at hl 1 rfl) ?_
        refine lv_aload_n C.ex C.by dX3_copyTo_24 rfl (lv_at hl 0 rfl) ?_
        refine z_get (v := .ref (κ.2.1 21)) C h iwX3 20 (wC_at20 κ _) rfl 2 (by decide) lkC62 rfl dX3_copyTo_25 ?_
        refine lv_iload_n C.ex C.by dX3_copyTo_28 rfl (lv_at hl 2 rfl) ?_
        obtain ⟨h4, hf⟩ := zg_some hf
        refine z_iald (f := (zA σ 8)) C h 21 (wC_at21 κ _) h4 dX3_copyTo_29 ?_
        refine lv_aload_n C.ex C.by dX3_copyTo_30 rfl (lv_at hl 0 rfl) ?_
        refine z_get (v := .ref (κ.2.1 22)) C h iwX3 20 (wC_at20 κ _) rfl 3 (by decide) lkC63 rfl dX3_copyTo_31 ?_
        refine lv_iload_n C.ex C.by dX3_copyTo_34 rfl (lv_at hl 2 rfl) ?_
        obtain ⟨h5, hf⟩ := zg_some hf
        refine z_iald (f := (zA σ 9)) C h 22 (wC_at22 κ _) h5 dX3_copyTo_35 ?_
        obtain ⟨q6, e7, hf⟩ := zb_some hf
        refine z_callVv (As := [.int x1, .int ((zA σ 8) (Int32.toNatClampNeg x2)), .int ((zA σ 9) (Int32.toNatClampNeg x2))]) C h (ctX3_put e7) (zgV lkC84 lkC85 lkC86 lkC40 lkC87) ⟨rfl, rfl⟩ hdX3_put ⟨Nat.le_of_ble_eq_true rfl, Nat.le_of_ble_eq_true rfl⟩ 20 (wC_at20 κ _) rfl hl rfl rfl (Nat.le_of_ble_eq_true rfl) dX3_copyTo_36 ⟨Nat.zero_le _, Nat.zero_le _⟩ (fun H locs h => ?_)
        cases hf
        exact z_vret C h dX3_copyTo_39
theorem ctX3_copyTo {l : Launch} {κ : zG} {n : Nat} {σ : zS} {x1 : Int32} {x2 : Int32} {r : zS} (hf : fX3_copyTo_0 n (κ.2.2.2 0) (κ.2.2.2 1) (κ.2.2.2 2) σ x1 x2 = some r) : zMv l yX3_copyTo (Cond.code yX3_copyTo cX3_copyTo 3 none) rmX3_copyTo wC κ [.ref (κ.2.1 20), .int x1, .int x2] σ r :=
  zMv_of (by decide) (Nat.le_of_ble_eq_true rfl) (fun p e s m below meth c A C h ls hl => wX3_copyTo_0 C h hl hf)
theorem hdX3_add : yX3_add.cls = RX3 ∧ yX3_add.cls ≠ "java/lang/invoke/MethodHandle" ∧ yX3_add.cls ≠ "java/lang/invoke/VarHandle" ∧ (parseMethodDescriptor yX3_add.desc).map (fun d => d.parameters.length) = some 2 := by decide +kernel
abbrev rmX3_add : Room := { frames := 4, cells := 0, slots := 0, locals := 97 }
set_option maxRecDepth 20000 in
set_option maxHeartbeats 4000000 in
theorem wX3_add_L50_50 {p : Program} {l : Launch} {e : Env} {s : State} {m : MethodId} {args : Array Value} {below : List Frame} {meth : Method} {c : Code} {A : Nat → Prop} {κ : zG} {H : Heap} {locs : List Loc} {ls : Array Slot} {Q : State → Prop} {n : Nat} {k1 : Int32} {k2 : Int32} {a : Int32 × Int32 × zS} {r : (Int32 × Int32 × zS) ⊕ ((Int32 × zS) ⊕ (Int32 × zS))} (C : zC cX3_add 6 none RX3 κ A p s m args meth c) (h : zH wC κ A s a.2.2 H locs) (hl : lv_has ls 6 [(0, .ref (κ.2.1 20)), (1, .int k1), (2, .int k2), (3, .int a.1), (4, .int a.2.1)]) (hf : fX3_add_L50_50 n (κ.2.2.2 0) (κ.2.2.2 1) (κ.2.2.2 2) k1 k2 a = some r) (Kc : ∀ (v3 : Int32) (v4 : Int32) (σ1 : zS), r = .inl (v3, v4, σ1) → ∀ (H : Heap) (locs : List Loc) (ls : Array Slot), zH wC κ A s σ1 H locs → lv_has ls 6 [(0, .ref (κ.2.1 20)), (1, .int k1), (2, .int k2), (3, .int v3), (4, .int v4)] → W p l e rmX3_add s m args below meth c H locs 0 0 Q (F0 m 50 ls [])) (Ke0 : ∀ (v3 : Int32) (σ1 : zS), r = .inr (.inl (v3, σ1)) → ∀ (H : Heap) (locs : List Loc) (ls : Array Slot), zH wC κ A s σ1 H locs → lv_has ls 6 [(0, .ref (κ.2.1 20)), (1, .int k1), (2, .int k2), (3, .int v3)] → W p l e rmX3_add s m args below meth c H locs 0 0 Q (F0 m 98 ls [])) (Ke1 : ∀ (v3 : Int32) (σ1 : zS), r = .inr (.inr (v3, σ1)) → ∀ (H : Heap) (locs : List Loc) (ls : Array Slot), zH wC κ A s σ1 H locs → lv_has ls 6 [(0, .ref (κ.2.1 20)), (1, .int k1), (2, .int k2), (3, .int v3)] → W p l e rmX3_add s m args below meth c H locs 0 0 Q (F0 m 74 ls [])) : W p l e rmX3_add s m args below meth c H locs 0 0 Q (F0 m 50 ls []) := by
  unfold fX3_add_L50_50 at hf
  refine lv_iload C.ex C.by dX3_add_50 (lv_at hl 4 rfl) ?_
  refine lv_if_le (tgt := 98) C.ex C.by dX3_add_52 (by decide) (fun c4 => ?_) (fun c4 => ?_)
  · have hf := zif_t c4 hf
    exact Ke0 _ _ (Option.some.inj hf).symm _ _ _ h (lv_sub hl [0, 1, 2, 3] rfl)
  · have hf := zif_f c4 hf
    refine lv_iload C.ex C.by dX3_add_55 (lv_at hl 4 rfl) ?_
    refine lv_iconst (v := 1) C.ex C.by dX3_add_57 (by decide) ?_
    refine lv_isub C.ex C.by dX3_add_58 ?_
    refine lv_iconst (v := 2) C.ex C.by dX3_add_59 (by decide) ?_
    obtain ⟨h5, hf⟩ := zg_some hf
    refine lv_idiv C.ex C.by dX3_add_60 (znz_ne h5) ?_
    refine lv_istore (lv' := [(5, .int ((a.2.1 - 1) / 2)), (0, .ref (κ.2.1 20)), (1, .int k1), (2, .int k2), (3, .int a.1), (4, .int a.2.1)]) C.ex C.by dX3_add_61 hl (by decide) rfl (fun ls hl => ?_)
    refine lv_aload_n C.ex C.by dX3_add_63 rfl (lv_at hl 1 rfl) ?_
    refine lv_iload_n C.ex C.by dX3_add_64 rfl (lv_at hl 2 rfl) ?_
    refine lv_iload_n C.ex C.by dX3_add_65 rfl (lv_at hl 3 rfl) ?_
    refine lv_iload C.ex C.by dX3_add_66 (lv_at hl 0 rfl) ?_
    obtain ⟨q6, e7, hf⟩ := zb_some hf
    refine z_callVi (As := [.int k1, .int k2, .int ((a.2.1 - 1) / 2)]) C h (ctX3_isAhead e7) (zgV lkC80 lkC81 lkC82 lkC40 lkC83) ⟨rfl, rfl⟩ hdX3_isAhead ⟨Nat.le_of_ble_eq_true rfl, Nat.le_of_ble_eq_true rfl⟩ 20 (wC_at20 κ _) rfl hl rfl rfl (Nat.le_of_ble_eq_true rfl) dX3_add_68 ⟨Nat.zero_le _, Nat.zero_le _⟩ (fun H locs h => ?_)
    refine lv_if_ne (tgt := 77) C.ex C.by dX3_add_71 (by decide) (fun c8 => ?_) (fun c8 => ?_)
    · have hf := zif_f c8 hf
      refine lv_aload_n C.ex C.by dX3_add_77 rfl (lv_at hl 1 rfl) ?_
      refine lv_iload_n C.ex C.by dX3_add_78 rfl (lv_at hl 4 rfl) ?_
      refine lv_iload C.ex C.by dX3_add_79 (lv_at hl 0 rfl) ?_
      obtain ⟨q9, e10, hf⟩ := zb_some hf
      refine z_callVv (As := [.int a.1, .int ((a.2.1 - 1) / 2)]) C h (ctX3_copyTo e10) (zgV lkC88 lkC89 lkC90 lkC40 lkC91) ⟨rfl, rfl⟩ hdX3_copyTo ⟨Nat.le_of_ble_eq_true rfl, Nat.le_of_ble_eq_true rfl⟩ 20 (wC_at20 κ _) rfl hl rfl rfl (Nat.le_of_ble_eq_true rfl) dX3_add_81 ⟨Nat.zero_le _, Nat.zero_le _⟩ (fun H locs h => ?_)
      refine lv_iload C.ex C.by dX3_add_84 (lv_at hl 0 rfl) ?_
      refine lv_istore_n (lv' := [(3, .int ((a.2.1 - 1) / 2)), (5, .int ((a.2.1 - 1) / 2)), (0, .ref (κ.2.1 20)), (1, .int k1), (2, .int k2), (4, .int a.2.1)]) C.ex C.by dX3_add_86 rfl hl (by decide) rfl (fun ls hl => ?_)
      refine lv_iload C.ex C.by dX3_add_87 (lv_at hl 5 rfl) ?_
      refine lv_iconst (v := 1) C.ex C.by dX3_add_89 (by decide) ?_
      refine lv_isub C.ex C.by dX3_add_90 ?_
      refine lv_iconst (v := 2) C.ex C.by dX3_add_91 (by decide) ?_
      obtain ⟨h11, hf⟩ := zg_some hf
      refine lv_idiv C.ex C.by dX3_add_92 (znz_ne h11) ?_
      refine lv_istore (lv' := [(4, .int ((a.2.1 - 1) / 2)), (3, .int ((a.2.1 - 1) / 2)), (5, .int ((a.2.1 - 1) / 2)), (0, .ref (κ.2.1 20)), (1, .int k1), (2, .int k2)]) C.ex C.by dX3_add_93 hl (by decide) rfl (fun ls hl => ?_)
      refine lv_goto (tgt := 50) C.ex C.by dX3_add_95 (by decide) ?_
      exact Kc _ _ _ (Option.some.inj hf).symm _ _ _ h (lv_sub hl [3, 4, 5, 1, 0] rfl)
    · have hf := zif_t c8 hf
      exact Ke1 _ _ (Option.some.inj hf).symm _ _ _ h (lv_sub hl [1, 2, 3, 4] rfl)
theorem wlX3_add_50 {p : Program} {l : Launch} {e : Env} {s : State} {m : MethodId} {args : Array Value} {below : List Frame} {meth : Method} {c : Code} {A : Nat → Prop} {κ : zG} {H : Heap} {locs : List Loc} {ls : Array Slot} {Q : State → Prop} {n : Nat} {k1 : Int32} {k2 : Int32} {k0 : Nat} {u3 : Int32} {u4 : Int32} {σ1 : zS} (C : zC cX3_add 6 none RX3 κ A p s m args meth c) (h : zH wC κ A s σ1 H locs) (hl : lv_has ls 6 [(0, .ref (κ.2.1 20)), (1, .int k1), (2, .int k2), (3, .int u3), (4, .int u4)]) (b : (Int32 × zS) ⊕ (Int32 × zS)) (hb : zlp (fX3_add_L50_50 n (κ.2.2.2 0) (κ.2.2.2 1) (κ.2.2.2 2) k1 k2) k0 (u3, u4, σ1) = some b) (K : (fun b => Sum.elim (fun b : Int32 × zS => ∀ (H : Heap) (locs : List Loc) (ls : Array Slot), zH wC κ A s b.2 H locs → lv_has ls 6 [(0, .ref (κ.2.1 20)), (1, .int k1), (2, .int k2), (3, .int b.1)] → W p l e rmX3_add s m args below meth c H locs 0 0 Q (F0 m 98 ls [])) (fun b : Int32 × zS => ∀ (H : Heap) (locs : List Loc) (ls : Array Slot), zH wC κ A s b.2 H locs → lv_has ls 6 [(0, .ref (κ.2.1 20)), (1, .int k1), (2, .int k2), (3, .int b.1)] → W p l e rmX3_add s m args below meth c H locs 0 0 Q (F0 m 74 ls [])) b) b) : W p l e rmX3_add s m args below meth c H locs 0 0 Q (F0 m 50 ls []) :=
  z_loop (body := fX3_add_L50_50 n (κ.2.2.2 0) (κ.2.2.2 1) (κ.2.2.2 2) k1 k2) (Wd := (fun a : Int32 × Int32 × zS => ∀ (H : Heap) (locs : List Loc) (ls : Array Slot), zH wC κ A s a.2.2 H locs → lv_has ls 6 [(0, .ref (κ.2.1 20)), (1, .int k1), (2, .int k2), (3, .int a.1), (4, .int a.2.1)] → W p l e rmX3_add s m args below meth c H locs 0 0 Q (F0 m 50 ls []))) (Ex := (fun b : (Int32 × zS) ⊕ (Int32 × zS) => (fun b => Sum.elim (fun b : Int32 × zS => ∀ (H : Heap) (locs : List Loc) (ls : Array Slot), zH wC κ A s b.2 H locs → lv_has ls 6 [(0, .ref (κ.2.1 20)), (1, .int k1), (2, .int k2), (3, .int b.1)] → W p l e rmX3_add s m args below meth c H locs 0 0 Q (F0 m 98 ls [])) (fun b : Int32 × zS => ∀ (H : Heap) (locs : List Loc) (ls : Array Slot), zH wC κ A s b.2 H locs → lv_has ls 6 [(0, .ref (κ.2.1 20)), (1, .int k1), (2, .int k2), (3, .int b.1)] → W p l e rmX3_add s m args below meth c H locs 0 0 Q (F0 m 74 ls [])) b) b)) (fun a r hr Kc Ke H locs ls h hl => wX3_add_L50_50 C h hl hr (fun v3 v4 σ1 e => Kc (v3, v4, σ1) e) (fun v3 σ1 e => Ke (.inl (v3, σ1)) e) (fun v3 σ1 e => Ke (.inr (v3, σ1)) e)) k0 (u3, u4, σ1) b hb K H locs ls h hl
set_option maxRecDepth 20000 in
set_option maxHeartbeats 4000000 in
theorem wX3_add_98 {p : Program} {l : Launch} {e : Env} {s : State} {m : MethodId} {args : Array Value} {below : List Frame} {meth : Method} {c : Code} {A : Nat → Prop} {κ : zG} {H : Heap} {locs : List Loc} {ls : Array Slot} {n : Nat} {σ : zS} {x1 : Int32} {x2 : Int32} {x3 : Int32} {r : zS} (C : zC cX3_add 6 none RX3 κ A p s m args meth c) (h : zH wC κ A s σ H locs) (hl : lv_has ls 6 [(0, .ref (κ.2.1 20)), (1, .int x1), (2, .int x2), (3, .int x3)]) (hf : fX3_add_98 n (κ.2.2.2 0) (κ.2.2.2 1) (κ.2.2.2 2) σ x1 x2 x3 = some r) : W p l e rmX3_add s m args below meth c H locs 0 0 (MQ below (zQv wC κ A r) args s 0 0 A) (F0 m 98 ls []) := by
  unfold fX3_add_98 at hf
  refine lv_aload_n C.ex C.by dX3_add_98 rfl (lv_at hl 0 rfl) ?_
  refine lv_iload_n C.ex C.by dX3_add_99 rfl (lv_at hl 3 rfl) ?_
  refine lv_iload_n C.ex C.by dX3_add_100 rfl (lv_at hl 1 rfl) ?_
  refine lv_iload_n C.ex C.by dX3_add_101 rfl (lv_at hl 2 rfl) ?_
  obtain ⟨q14, e15, hf⟩ := zb_some hf
  refine z_callVv (As := [.int x3, .int x1, .int x2]) C h (ctX3_put e15) (zgV lkC84 lkC85 lkC86 lkC40 lkC87) ⟨rfl, rfl⟩ hdX3_put ⟨Nat.le_of_ble_eq_true rfl, Nat.le_of_ble_eq_true rfl⟩ 20 (wC_at20 κ _) rfl hl rfl rfl (Nat.le_of_ble_eq_true rfl) dX3_add_102 ⟨Nat.zero_le _, Nat.zero_le _⟩ (fun H locs h => ?_)
  cases hf
  exact z_vret C h dX3_add_105
set_option maxRecDepth 20000 in
set_option maxHeartbeats 4000000 in
theorem wX3_add_0 {p : Program} {l : Launch} {e : Env} {s : State} {m : MethodId} {args : Array Value} {below : List Frame} {meth : Method} {c : Code} {A : Nat → Prop} {κ : zG} {H : Heap} {locs : List Loc} {ls : Array Slot} {n : Nat} {σ : zS} {x1 : Int32} {x2 : Int32} {r : zS} (C : zC cX3_add 6 none RX3 κ A p s m args meth c) (h : zH wC κ A s σ H locs) (hl : lv_has ls 6 [(0, .ref (κ.2.1 20)), (1, .int x1), (2, .int x2)]) (hf : fX3_add_0 n (κ.2.2.2 0) (κ.2.2.2 1) (κ.2.2.2 2) σ x1 x2 = some r) : W p l e rmX3_add s m args below meth c H locs 0 0 (MQ below (zQv wC κ A r) args s 0 0 A) (F0 m 0 ls []) := by
  unfold fX3_add_0 at hf
  refine lv_aload_n C.ex C.by dX3_add_0 rfl (lv_at hl 0 rfl) ?_
  refine z_get (v := .int (zI σ 28)) C h iwX3 20 (wC_at20 κ _) rfl 4 (by decide) lkC36 rfl dX3_add_1 ?_
  refine lv_if_lt (tgt := 31) C.ex C.by dX3_add_4 (by decide) (fun c1 => ?_) (fun c1 => ?_)
  · have hf := zif_t c1 hf
    cases hf
    exact z_vret C h dX3_add_31
  · have hf := zif_f c1 hf
    refine lv_aload_n C.ex C.by dX3_add_7 rfl (lv_at hl 0 rfl) ?_
    refine z_get (v := .int (zI σ 28)) C h iwX3 20 (wC_at20 κ _) rfl 4 (by decide) lkC36 rfl dX3_add_8 ?_
    refine lv_aload_n C.ex C.by dX3_add_11 rfl (lv_at hl 0 rfl) ?_
    refine z_get (v := .ref (κ.2.1 21)) C h iwX3 20 (wC_at20 κ _) rfl 2 (by decide) lkC62 rfl dX3_add_12 ?_
    refine z_alen (t0 := 0) C h 21 (wC_at21 κ _) rfl dX3_add_15 ?_
    refine lv_icmp_ge (tgt := 31) C.ex C.by dX3_add_16 (by decide) (fun c2 => ?_) (fun c2 => ?_)
    · have hf := zif_t c2 hf
      cases hf
      exact z_vret C h dX3_add_31
    · have hf := zif_f c2 hf
      refine lv_aload_n C.ex C.by dX3_add_19 rfl (lv_at hl 0 rfl) ?_
      refine z_get (v := .int (zI σ 28)) C h iwX3 20 (wC_at20 κ _) rfl 4 (by decide) lkC36 rfl dX3_add_20 ?_
      refine lv_aload_n C.ex C.by dX3_add_23 rfl (lv_at hl 0 rfl) ?_
      refine z_get (v := .ref (κ.2.1 22)) C h iwX3 20 (wC_at20 κ _) rfl 3 (by decide) lkC63 rfl dX3_add_24 ?_
      refine z_alen (t0 := 0) C h 22 (wC_at22 κ _) rfl dX3_add_27 ?_
      refine lv_icmp_lt (tgt := 32) C.ex C.by dX3_add_28 (by decide) (fun c3 => ?_) (fun c3 => ?_)
      · have hf := zif_t c3 hf
        refine lv_aload_n C.ex C.by dX3_add_32 rfl (lv_at hl 0 rfl) ?_
        refine z_get (v := .int (zI σ 28)) C h iwX3 20 (wC_at20 κ _) rfl 4 (by decide) lkC36 rfl dX3_add_33 ?_
        refine lv_istore_n (lv' := [(3, .int (zI σ 28)), (0, .ref (κ.2.1 20)), (1, .int x1), (2, .int x2)]) C.ex C.by dX3_add_36 rfl hl (by decide) rfl (fun ls hl => ?_)
        refine lv_aload_n C.ex C.by dX3_add_37 rfl (lv_at hl 1 rfl) ?_
        refine lv_dup C.ex C.by dX3_add_38 rfl ?_
        refine z_get (v := .int (zI σ 28)) C h iwX3 20 (wC_at20 κ _) rfl 4 (by decide) lkC36 rfl dX3_add_39 ?_
        refine lv_iconst (v := 1) C.ex C.by dX3_add_42 (by decide) ?_
        refine lv_iadd C.ex C.by dX3_add_43 ?_
        refine z_put C h iwX3 tyX3_ok nmX3 20 (wC_at20 κ _) rfl 4 (by decide) lkC36 rfl rfl rfl (Nat.le_of_ble_eq_true rfl) (sI σ 28 ((zI σ 28) + 1)) (wC_s20_4 κ _ _) dX3_add_44 (fun H locs h => ?_)
        refine lv_iload_n C.ex C.by dX3_add_47 rfl (lv_at hl 0 rfl) ?_
        refine lv_istore (lv' := [(4, .int (zI σ 28)), (3, .int (zI σ 28)), (0, .ref (κ.2.1 20)), (1, .int x1), (2, .int x2)]) C.ex C.by dX3_add_48 hl (by decide) rfl (fun ls hl => ?_)
        obtain ⟨b12, e13, hf⟩ := zb_some hf
        refine wlX3_add_50 C h (lv_sub hl [2, 3, 4, 1, 0] rfl) b12 e13 ?_
        rcases b12 with b12 | b12
        · dsimp only [Sum.elim_inl] at hf
          intro H locs ls h hl
          exact wX3_add_98 C h hl hf
        · dsimp only [Sum.elim_inr] at hf
          intro H locs ls h hl
          refine lv_goto (tgt := 98) C.ex C.by dX3_add_74 (by decide) ?_
          exact wX3_add_98 C h hl hf
      · have hf := zif_f c3 hf
        cases hf
        exact z_vret C h dX3_add_31
theorem ctX3_add {l : Launch} {κ : zG} {n : Nat} {σ : zS} {x1 : Int32} {x2 : Int32} {r : zS} (hf : fX3_add_0 n (κ.2.2.2 0) (κ.2.2.2 1) (κ.2.2.2 2) σ x1 x2 = some r) : zMv l yX3_add (Cond.code yX3_add cX3_add 6 none) rmX3_add wC κ [.ref (κ.2.1 20), .int x1, .int x2] σ r :=
  zMv_of (by decide) (Nat.le_of_ble_eq_true rfl) (fun p e s m below meth c A C h ls hl => wX3_add_0 C h hl hf)
