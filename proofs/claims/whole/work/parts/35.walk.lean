theorem hdX0_release : yX0_release.cls = RX0 ∧ yX0_release.cls ≠ "java/lang/invoke/MethodHandle" ∧ yX0_release.cls ≠ "java/lang/invoke/VarHandle" ∧ (parseMethodDescriptor yX0_release.desc).map (fun d => d.parameters.length) = some 1 := by decide +kernel
abbrev rmX0_release : Room := { frames := 0, cells := 0, slots := 0, locals := 0 }
set_option maxRecDepth 20000 in
set_option maxHeartbeats 4000000 in
theorem wX0_release_0 {p : Program} {l : Launch} {e : Env} {s : State} {m : MethodId} {args : Array Value} {below : List Frame} {meth : Method} {c : Code} {A : Nat → Prop} {κ : zG} {H : Heap} {locs : List Loc} {ls : Array Slot} {n : Nat} {σ : zS} {x1 : Int32} {r : zS} (C : zC cX0_release 2 none RX0 κ A p s m args meth c) (h : zH wC κ A s σ H locs) (hl : lv_has ls 2 [(0, .ref (κ.2.1 1)), (1, .int x1)]) (hf : fX0_release_0 n (κ.2.2.2 0) (κ.2.2.2 1) (κ.2.2.2 2) σ x1 = some r) : W p l e rmX0_release s m args below meth c H locs 0 0 (MQ below (zQv wC κ A r) args s 0 0 A) (F0 m 0 ls []) := by
  unfold fX0_release_0 at hf
  refine lv_iload_n C.ex C.by dX0_release_0 rfl (lv_at hl 1 rfl) ?_
  refine lv_if_lt (tgt := 20) C.ex C.by dX0_release_1 (by decide) (fun c1 => ?_) (fun c1 => ?_)
  · have hf := zif_t c1 hf
    cases hf
    exact z_vret C h dX0_release_20
  · have hf := zif_f c1 hf
    refine lv_iload_n C.ex C.by dX0_release_4 rfl (lv_at hl 1 rfl) ?_
    refine lv_aload_n C.ex C.by dX0_release_5 rfl (lv_at hl 0 rfl) ?_
    refine z_get (v := .ref (κ.2.1 3)) C h iwX0 1 (wC_at1 κ _) rfl 2 (by decide) lkC124 rfl dX0_release_6 ?_
    refine z_alen (t0 := 2) C h 3 (wC_at3 κ _) rfl dX0_release_9 ?_
    refine lv_icmp_ge (tgt := 20) C.ex C.by dX0_release_10 (by decide) (fun c2 => ?_) (fun c2 => ?_)
    · have hf := zif_t c2 hf
      cases hf
      exact z_vret C h dX0_release_20
    · have hf := zif_f c2 hf
      refine lv_aload_n C.ex C.by dX0_release_13 rfl (lv_at hl 0 rfl) ?_
      refine z_get (v := .ref (κ.2.1 3)) C h iwX0 1 (wC_at1 κ _) rfl 2 (by decide) lkC124 rfl dX0_release_14 ?_
      refine lv_iload_n C.ex C.by dX0_release_17 rfl (lv_at hl 1 rfl) ?_
      refine lv_iconst (v := 0) C.ex C.by dX0_release_18 (by decide) ?_
      obtain ⟨h3, hf⟩ := zg_some hf
      refine z_zast (f := (zA σ 0)) C h 3 (wC_at3 κ _) h3 (sA σ 0 (upd (zA σ 0) (Int32.toNatClampNeg x1) (vp_nar .boolean 0))) (wC_s3 κ _ _) dX0_release_19 (fun H locs h => ?_)
      cases hf
      exact z_vret C h dX0_release_20
theorem ctX0_release {l : Launch} {κ : zG} {n : Nat} {σ : zS} {x1 : Int32} {r : zS} (hf : fX0_release_0 n (κ.2.2.2 0) (κ.2.2.2 1) (κ.2.2.2 2) σ x1 = some r) : zMv l yX0_release (Cond.code yX0_release cX0_release 2 none) rmX0_release wC κ [.ref (κ.2.1 1), .int x1] σ r :=
  zMv_of (by decide) (Nat.le_of_ble_eq_true rfl) (fun p e s m below meth c A C h ls hl => wX0_release_0 C h hl hf)
theorem hdX1_remove : yX1_remove.cls = RX1 ∧ yX1_remove.cls ≠ "java/lang/invoke/MethodHandle" ∧ yX1_remove.cls ≠ "java/lang/invoke/VarHandle" ∧ (parseMethodDescriptor yX1_remove.desc).map (fun d => d.parameters.length) = some 1 := by decide +kernel
abbrev rmX1_remove : Room := { frames := 1, cells := 0, slots := 0, locals := 21 }
set_option maxRecDepth 20000 in
set_option maxHeartbeats 4000000 in
theorem wX1_remove_L4_4 {p : Program} {l : Launch} {e : Env} {s : State} {m : MethodId} {args : Array Value} {below : List Frame} {meth : Method} {c : Code} {A : Nat → Prop} {κ : zG} {H : Heap} {locs : List Loc} {ls : Array Slot} {Q : State → Prop} {n : Nat} {a : Int32 × Int32 × zS} {r : (Int32 × Int32 × zS) ⊕ (zS)} (C : zC cX1_remove 4 none RX1 κ A p s m args meth c) (h : zH wC κ A s a.2.2 H locs) (hl : lv_has ls 4 [(0, .ref (κ.2.1 7)), (2, .int a.1), (3, .int a.2.1)]) (hf : fX1_remove_L4_4 n (κ.2.2.2 0) (κ.2.2.2 1) (κ.2.2.2 2) a = some r) (Kc : ∀ (v2 : Int32) (v3 : Int32) (σ1 : zS), r = .inl (v2, v3, σ1) → ∀ (H : Heap) (locs : List Loc) (ls : Array Slot), zH wC κ A s σ1 H locs → lv_has ls 4 [(0, .ref (κ.2.1 7)), (2, .int v2), (3, .int v3)] → W p l e rmX1_remove s m args below meth c H locs 0 0 Q (F0 m 4 ls [])) (Ke0 : ∀ (σ1 : zS), r = .inr σ1 → ∀ (H : Heap) (locs : List Loc) (ls : Array Slot), zH wC κ A s σ1 H locs → lv_has ls 4 [(0, .ref (κ.2.1 7))] → W p l e rmX1_remove s m args below meth c H locs 0 0 Q (F0 m 38 ls [])) : W p l e rmX1_remove s m args below meth c H locs 0 0 Q (F0 m 4 ls []) := by
  unfold fX1_remove_L4_4 at hf
  refine lv_iload_n C.ex C.by dX1_remove_4 rfl (lv_at hl 2 rfl) ?_
  refine lv_aload_n C.ex C.by dX1_remove_5 rfl (lv_at hl 0 rfl) ?_
  refine z_get (v := .ref (κ.2.1 8)) C h iwX1 7 (wC_at7 κ _) rfl 1 (by decide) lkC7 rfl dX1_remove_6 ?_
  refine z_alen (t0 := 0) C h 8 (wC_at8 κ _) rfl dX1_remove_9 ?_
  refine lv_icmp_ge (tgt := 38) C.ex C.by dX1_remove_10 (by decide) (fun c1 => ?_) (fun c1 => ?_)
  · have hf := zif_t c1 hf
    exact Ke0 _ (Option.some.inj hf).symm _ _ _ h (lv_sub hl [0] rfl)
  · have hf := zif_f c1 hf
    refine lv_iload_n C.ex C.by dX1_remove_13 rfl (lv_at hl 1 rfl) ?_
    refine lv_iconst (v := (-1)) C.ex C.by dX1_remove_14 (by decide) ?_
    refine lv_icmp_eq (tgt := 38) C.ex C.by dX1_remove_15 (by decide) (fun c2 => ?_) (fun c2 => ?_)
    · have hf := zif_t c2 hf
      exact Ke0 _ (Option.some.inj hf).symm _ _ _ h (lv_sub hl [0] rfl)
    · have hf := zif_f c2 hf
      refine lv_aload_n C.ex C.by dX1_remove_18 rfl (lv_at hl 0 rfl) ?_
      refine z_get (v := .ref (κ.2.1 1)) C h iwX1 7 (wC_at7 κ _) rfl 0 (by decide) lkC242 rfl dX1_remove_19 ?_
      refine lv_iload_n C.ex C.by dX1_remove_22 rfl (lv_at hl 1 rfl) ?_
      obtain ⟨q3, e4, hf⟩ := zb_some hf
      refine z_callVv (As := [.int a.1]) C h (ctX0_release e4) (zgV lkC243 lkC244 lkC245 lkC24 lkC246) ⟨rfl, rfl⟩ hdX0_release ⟨Nat.le_of_ble_eq_true rfl, Nat.le_of_ble_eq_true rfl⟩ 1 (wC_at1 κ _) rfl hl rfl rfl (Nat.le_of_ble_eq_true rfl) dX1_remove_23 ⟨Nat.zero_le _, Nat.zero_le _⟩ (fun H locs h => ?_)
      refine lv_aload_n C.ex C.by dX1_remove_26 rfl (lv_at hl 0 rfl) ?_
      refine lv_iload_n C.ex C.by dX1_remove_27 rfl (lv_at hl 1 rfl) ?_
      obtain ⟨q5, e6, hf⟩ := zb_some hf
      refine z_callVi (As := [.int a.1]) C h (ctX1_behind e6) (zgV lkC8 lkC9 lkC10 lkC11 lkC12) ⟨rfl, rfl⟩ hdX1_behind ⟨Nat.le_of_ble_eq_true rfl, Nat.le_of_ble_eq_true rfl⟩ 7 (wC_at7 κ _) rfl hl rfl rfl (Nat.le_of_ble_eq_true rfl) dX1_remove_28 ⟨Nat.zero_le _, Nat.zero_le _⟩ (fun H locs h => ?_)
      refine lv_istore_n (lv' := [(2, .int q5), (0, .ref (κ.2.1 7)), (3, .int a.2.1)]) C.ex C.by dX1_remove_31 rfl hl (by decide) rfl (fun ls hl => ?_)
      refine lv_iinc (v := (a.2.1 + 1)) (lv' := [(3, .int (a.2.1 + 1)), (2, .int q5), (0, .ref (κ.2.1 7))]) C.ex C.by dX1_remove_32 hl (k := 2) rfl rfl (by decide) rfl (fun ls hl => ?_)
      refine lv_goto (tgt := 4) C.ex C.by dX1_remove_35 (by decide) ?_
      exact Kc _ _ _ (Option.some.inj hf).symm _ _ _ h (lv_sub hl [2, 1, 0] rfl)
theorem wlX1_remove_4 {p : Program} {l : Launch} {e : Env} {s : State} {m : MethodId} {args : Array Value} {below : List Frame} {meth : Method} {c : Code} {A : Nat → Prop} {κ : zG} {H : Heap} {locs : List Loc} {ls : Array Slot} {Q : State → Prop} {n : Nat} {k0 : Nat} {u2 : Int32} {u3 : Int32} {σ1 : zS} (C : zC cX1_remove 4 none RX1 κ A p s m args meth c) (h : zH wC κ A s σ1 H locs) (hl : lv_has ls 4 [(0, .ref (κ.2.1 7)), (2, .int u2), (3, .int u3)]) (b : zS) (hb : zlp (fX1_remove_L4_4 n (κ.2.2.2 0) (κ.2.2.2 1) (κ.2.2.2 2)) k0 (u2, u3, σ1) = some b) (K : (fun b : zS => ∀ (H : Heap) (locs : List Loc) (ls : Array Slot), zH wC κ A s b H locs → lv_has ls 4 [(0, .ref (κ.2.1 7))] → W p l e rmX1_remove s m args below meth c H locs 0 0 Q (F0 m 38 ls [])) b) : W p l e rmX1_remove s m args below meth c H locs 0 0 Q (F0 m 4 ls []) :=
  z_loop (body := fX1_remove_L4_4 n (κ.2.2.2 0) (κ.2.2.2 1) (κ.2.2.2 2)) (Wd := (fun a : Int32 × Int32 × zS => ∀ (H : Heap) (locs : List Loc) (ls : Array Slot), zH wC κ A s a.2.2 H locs → lv_has ls 4 [(0, .ref (κ.2.1 7)), (2, .int a.1), (3, .int a.2.1)] → W p l e rmX1_remove s m args below meth c H locs 0 0 Q (F0 m 4 ls []))) (Ex := (fun b : zS => (fun b : zS => ∀ (H : Heap) (locs : List Loc) (ls : Array Slot), zH wC κ A s b H locs → lv_has ls 4 [(0, .ref (κ.2.1 7))] → W p l e rmX1_remove s m args below meth c H locs 0 0 Q (F0 m 38 ls [])) b)) (fun a r hr Kc Ke H locs ls h hl => wX1_remove_L4_4 C h hl hr (fun v2 v3 σ1 e => Kc (v2, v3, σ1) e) (fun σ1 e => Ke σ1 e)) k0 (u2, u3, σ1) b hb K H locs ls h hl
set_option maxRecDepth 20000 in
set_option maxHeartbeats 4000000 in
theorem wX1_remove_0 {p : Program} {l : Launch} {e : Env} {s : State} {m : MethodId} {args : Array Value} {below : List Frame} {meth : Method} {c : Code} {A : Nat → Prop} {κ : zG} {H : Heap} {locs : List Loc} {ls : Array Slot} {n : Nat} {σ : zS} {x1 : Int32} {r : zS} (C : zC cX1_remove 4 none RX1 κ A p s m args meth c) (h : zH wC κ A s σ H locs) (hl : lv_has ls 4 [(0, .ref (κ.2.1 7)), (1, .int x1)]) (hf : fX1_remove_0 n (κ.2.2.2 0) (κ.2.2.2 1) (κ.2.2.2 2) σ x1 = some r) : W p l e rmX1_remove s m args below meth c H locs 0 0 (MQ below (zQv wC κ A r) args s 0 0 A) (F0 m 0 ls []) := by
  unfold fX1_remove_0 at hf
  refine lv_iload_n C.ex C.by dX1_remove_0 rfl (lv_at hl 1 rfl) ?_
  refine lv_istore_n (lv' := [(2, .int x1), (0, .ref (κ.2.1 7)), (1, .int x1)]) C.ex C.by dX1_remove_1 rfl hl (by decide) rfl (fun ls hl => ?_)
  refine lv_iconst (v := 0) C.ex C.by dX1_remove_2 (by decide) ?_
  refine lv_istore_n (lv' := [(3, .int 0), (2, .int x1), (0, .ref (κ.2.1 7)), (1, .int x1)]) C.ex C.by dX1_remove_3 rfl hl (by decide) rfl (fun ls hl => ?_)
  obtain ⟨b7, e8, hf⟩ := zb_some hf
  refine wlX1_remove_4 C h (lv_sub hl [2, 1, 0] rfl) b7 e8 ?_
  intro H locs ls h hl
  cases hf
  exact z_vret C h dX1_remove_38
theorem ctX1_remove {l : Launch} {κ : zG} {n : Nat} {σ : zS} {x1 : Int32} {r : zS} (hf : fX1_remove_0 n (κ.2.2.2 0) (κ.2.2.2 1) (κ.2.2.2 2) σ x1 = some r) : zMv l yX1_remove (Cond.code yX1_remove cX1_remove 4 none) rmX1_remove wC κ [.ref (κ.2.1 7), .int x1] σ r :=
  zMv_of (by decide) (Nat.le_of_ble_eq_true rfl) (fun p e s m below meth c A C h ls hl => wX1_remove_0 C h hl hf)
theorem hdX7_undoStep : yX7_undoStep.cls = RX7 ∧ yX7_undoStep.cls ≠ "java/lang/invoke/MethodHandle" ∧ yX7_undoStep.cls ≠ "java/lang/invoke/VarHandle" ∧ (parseMethodDescriptor yX7_undoStep.desc).map (fun d => d.parameters.length) = some 0 := by decide +kernel
abbrev rmX7_undoStep : Room := { frames := 1, cells := 0, slots := 0, locals := 21 }
set_option maxRecDepth 20000 in
set_option maxHeartbeats 4000000 in
theorem wX7_undoStep_L2_2 {p : Program} {l : Launch} {e : Env} {s : State} {m : MethodId} {args : Array Value} {below : List Frame} {meth : Method} {c : Code} {A : Nat → Prop} {κ : zG} {H : Heap} {locs : List Loc} {ls : Array Slot} {Q : State → Prop} {n : Nat} {a : Int32 × zS} {r : (Int32 × zS) ⊕ (zS)} (C : zC cX7_undoStep 2 none RX7 κ A p s m args meth c) (h : zH wC κ A s a.2 H locs) (hl : lv_has ls 2 [(0, .ref (κ.2.1 14)), (1, .int a.1)]) (hf : fX7_undoStep_L2_2 n (κ.2.2.2 0) (κ.2.2.2 1) (κ.2.2.2 2) a = some r) (Kc : ∀ (v1 : Int32) (σ1 : zS), r = .inl (v1, σ1) → ∀ (H : Heap) (locs : List Loc) (ls : Array Slot), zH wC κ A s σ1 H locs → lv_has ls 2 [(0, .ref (κ.2.1 14)), (1, .int v1)] → W p l e rmX7_undoStep s m args below meth c H locs 0 0 Q (F0 m 2 ls [])) (Ke0 : ∀ (σ1 : zS), r = .inr σ1 → ∀ (H : Heap) (locs : List Loc) (ls : Array Slot), zH wC κ A s σ1 H locs → lv_has ls 2 [(0, .ref (κ.2.1 14))] → W p l e rmX7_undoStep s m args below meth c H locs 0 0 Q (F0 m 34 ls [])) : W p l e rmX7_undoStep s m args below meth c H locs 0 0 Q (F0 m 2 ls []) := by
  unfold fX7_undoStep_L2_2 at hf
  refine lv_iload_n C.ex C.by dX7_undoStep_2 rfl (lv_at hl 1 rfl) ?_
  refine lv_aload_n C.ex C.by dX7_undoStep_3 rfl (lv_at hl 0 rfl) ?_
  refine z_get (v := .ref (κ.2.1 16)) C h iwX7 14 (wC_at14 κ _) rfl 4 (by decide) lkC137 rfl dX7_undoStep_4 ?_
  obtain ⟨q1, e2, hf⟩ := zb_some hf
  refine z_callRi (As := []) (x := (zI a.2 25)) (f := (zA a.2 6)) C h (ctX6_size (κ := zκR κ (κ.2.1 16) (κ.2.1 17) (κ.2.2.2 0)) e2) (zgV lkC251 lkC182 lkC183 lkC52 lkC184) ⟨rfl, rfl⟩ hdX6_size ⟨Nat.le_of_ble_eq_true rfl, Nat.le_of_ble_eq_true rfl⟩ 16 17 (by decide) (wC_at16 κ _) (wC_at17 κ _) a.2 (zset2 (wC_at16 κ _) (wC_at17 κ _)) hl rfl rfl (Nat.le_of_ble_eq_true rfl) dX7_undoStep_7 ⟨Nat.zero_le _, Nat.zero_le _⟩ (fun H locs h => ?_)
  refine lv_icmp_ge (tgt := 34) C.ex C.by dX7_undoStep_10 (by decide) (fun c3 => ?_) (fun c3 => ?_)
  · have hf := zif_t c3 hf
    exact Ke0 _ (Option.some.inj hf).symm _ _ _ h (lv_sub hl [0] rfl)
  · have hf := zif_f c3 hf
    refine lv_aload_n C.ex C.by dX7_undoStep_13 rfl (lv_at hl 0 rfl) ?_
    refine z_get (v := .ref (κ.2.1 1)) C h iwX7 14 (wC_at14 κ _) rfl 0 (by decide) lkC114 rfl dX7_undoStep_14 ?_
    refine lv_aload_n C.ex C.by dX7_undoStep_17 rfl (lv_at hl 0 rfl) ?_
    refine z_get (v := .ref (κ.2.1 16)) C h iwX7 14 (wC_at14 κ _) rfl 4 (by decide) lkC137 rfl dX7_undoStep_18 ?_
    refine lv_iload_n C.ex C.by dX7_undoStep_21 rfl (lv_at hl 1 rfl) ?_
    obtain ⟨q4, e5, hf⟩ := zb_some hf
    refine z_callRi (As := [.int a.1]) (x := (zI a.2 25)) (f := (zA a.2 6)) C h (ctX6_get (κ := zκR κ (κ.2.1 16) (κ.2.1 17) (κ.2.2.2 0)) e5) (zgV lkC252 lkC50 lkC51 lkC52 lkC53) ⟨rfl, rfl⟩ hdX6_get ⟨Nat.le_of_ble_eq_true rfl, Nat.le_of_ble_eq_true rfl⟩ 16 17 (by decide) (wC_at16 κ _) (wC_at17 κ _) a.2 (zset2 (wC_at16 κ _) (wC_at17 κ _)) hl rfl rfl (Nat.le_of_ble_eq_true rfl) dX7_undoStep_22 ⟨Nat.zero_le _, Nat.zero_le _⟩ (fun H locs h => ?_)
    obtain ⟨q6, e7, hf⟩ := zb_some hf
    refine z_callVv (As := [.int q4]) C h (ctX0_release e7) (zgV lkC253 lkC244 lkC245 lkC24 lkC246) ⟨rfl, rfl⟩ hdX0_release ⟨Nat.le_of_ble_eq_true rfl, Nat.le_of_ble_eq_true rfl⟩ 1 (wC_at1 κ _) rfl hl rfl rfl (Nat.le_of_ble_eq_true rfl) dX7_undoStep_25 ⟨Nat.zero_le _, Nat.zero_le _⟩ (fun H locs h => ?_)
    refine lv_iinc (v := (a.1 + 1)) (lv' := [(1, .int (a.1 + 1)), (0, .ref (κ.2.1 14))]) C.ex C.by dX7_undoStep_28 hl (k := 1) rfl rfl (by decide) rfl (fun ls hl => ?_)
    refine lv_goto (tgt := 2) C.ex C.by dX7_undoStep_31 (by decide) ?_
    exact Kc _ _ (Option.some.inj hf).symm _ _ _ h (lv_sub hl [1, 0] rfl)
theorem wlX7_undoStep_2 {p : Program} {l : Launch} {e : Env} {s : State} {m : MethodId} {args : Array Value} {below : List Frame} {meth : Method} {c : Code} {A : Nat → Prop} {κ : zG} {H : Heap} {locs : List Loc} {ls : Array Slot} {Q : State → Prop} {n : Nat} {k0 : Nat} {u1 : Int32} {σ1 : zS} (C : zC cX7_undoStep 2 none RX7 κ A p s m args meth c) (h : zH wC κ A s σ1 H locs) (hl : lv_has ls 2 [(0, .ref (κ.2.1 14)), (1, .int u1)]) (b : zS) (hb : zlp (fX7_undoStep_L2_2 n (κ.2.2.2 0) (κ.2.2.2 1) (κ.2.2.2 2)) k0 (u1, σ1) = some b) (K : (fun b : zS => ∀ (H : Heap) (locs : List Loc) (ls : Array Slot), zH wC κ A s b H locs → lv_has ls 2 [(0, .ref (κ.2.1 14))] → W p l e rmX7_undoStep s m args below meth c H locs 0 0 Q (F0 m 34 ls [])) b) : W p l e rmX7_undoStep s m args below meth c H locs 0 0 Q (F0 m 2 ls []) :=
  z_loop (body := fX7_undoStep_L2_2 n (κ.2.2.2 0) (κ.2.2.2 1) (κ.2.2.2 2)) (Wd := (fun a : Int32 × zS => ∀ (H : Heap) (locs : List Loc) (ls : Array Slot), zH wC κ A s a.2 H locs → lv_has ls 2 [(0, .ref (κ.2.1 14)), (1, .int a.1)] → W p l e rmX7_undoStep s m args below meth c H locs 0 0 Q (F0 m 2 ls []))) (Ex := (fun b : zS => (fun b : zS => ∀ (H : Heap) (locs : List Loc) (ls : Array Slot), zH wC κ A s b H locs → lv_has ls 2 [(0, .ref (κ.2.1 14))] → W p l e rmX7_undoStep s m args below meth c H locs 0 0 Q (F0 m 34 ls [])) b)) (fun a r hr Kc Ke H locs ls h hl => wX7_undoStep_L2_2 C h hl hr (fun v1 σ1 e => Kc (v1, σ1) e) (fun σ1 e => Ke σ1 e)) k0 (u1, σ1) b hb K H locs ls h hl
set_option maxRecDepth 20000 in
set_option maxHeartbeats 4000000 in
theorem wX7_undoStep_0 {p : Program} {l : Launch} {e : Env} {s : State} {m : MethodId} {args : Array Value} {below : List Frame} {meth : Method} {c : Code} {A : Nat → Prop} {κ : zG} {H : Heap} {locs : List Loc} {ls : Array Slot} {n : Nat} {σ : zS} {r : zS} (C : zC cX7_undoStep 2 none RX7 κ A p s m args meth c) (h : zH wC κ A s σ H locs) (hl : lv_has ls 2 [(0, .ref (κ.2.1 14))]) (hf : fX7_undoStep_0 n (κ.2.2.2 0) (κ.2.2.2 1) (κ.2.2.2 2) σ = some r) : W p l e rmX7_undoStep s m args below meth c H locs 0 0 (MQ below (zQv wC κ A r) args s 0 0 A) (F0 m 0 ls []) := by
  unfold fX7_undoStep_0 at hf
  refine lv_iconst (v := 0) C.ex C.by dX7_undoStep_0 (by decide) ?_
  refine lv_istore_n (lv' := [(1, .int 0), (0, .ref (κ.2.1 14))]) C.ex C.by dX7_undoStep_1 rfl hl (by decide) rfl (fun ls hl => ?_)
  obtain ⟨b8, e9, hf⟩ := zb_some hf
  refine wlX7_undoStep_2 C h (lv_sub hl [1, 0] rfl) b8 e9 ?_
  intro H locs ls h hl
  refine lv_aload_n C.ex C.by dX7_undoStep_34 rfl (lv_at hl 0 rfl) ?_
  refine z_get (v := .ref (κ.2.1 16)) C h iwX7 14 (wC_at14 κ _) rfl 4 (by decide) lkC137 rfl dX7_undoStep_35 ?_
  obtain ⟨q10, e11, hf⟩ := zb_some hf
  refine z_callRv (As := []) (x := (zI b8 25)) (f := (zA b8 6)) C h (ctX6_clear (κ := zκR κ (κ.2.1 16) (κ.2.1 17) (κ.2.2.2 0)) e11) (zgV lkC205 lkC190 lkC191 lkC52 lkC192) ⟨rfl, rfl⟩ hdX6_clear ⟨Nat.le_of_ble_eq_true rfl, Nat.le_of_ble_eq_true rfl⟩ 16 17 (by decide) (wC_at16 κ _) (wC_at17 κ _) (sA (sI b8 25 (zI q10 0)) 6 (zA q10 0)) (wC_sr16 κ _ _ _) hl rfl rfl (Nat.le_of_ble_eq_true rfl) dX7_undoStep_38 ⟨Nat.zero_le _, Nat.zero_le _⟩ (fun H locs h => ?_)
  refine lv_aload_n C.ex C.by dX7_undoStep_41 rfl (lv_at hl 0 rfl) ?_
  refine z_get (v := .ref (κ.2.1 18)) C h iwX7 14 (wC_at14 κ _) rfl 5 (by decide) lkC166 rfl dX7_undoStep_42 ?_
  obtain ⟨q12, e13, hf⟩ := zb_some hf
  refine z_callRv (As := []) (x := (zI b8 26)) (f := (zA b8 7)) C h (ctX6_clear (κ := zκR κ (κ.2.1 18) (κ.2.1 19) (κ.2.2.2 0)) e13) (zgV lkC205 lkC190 lkC191 lkC52 lkC192) ⟨rfl, rfl⟩ hdX6_clear ⟨Nat.le_of_ble_eq_true rfl, Nat.le_of_ble_eq_true rfl⟩ 18 19 (by decide) (wC_at18 κ _) (wC_at19 κ _) (sA (sI (sA (sI b8 25 (zI q10 0)) 6 (zA q10 0)) 26 (zI q12 0)) 7 (zA q12 0)) (wC_sr18 κ _ _ _) hl rfl rfl (Nat.le_of_ble_eq_true rfl) dX7_undoStep_45 ⟨Nat.zero_le _, Nat.zero_le _⟩ (fun H locs h => ?_)
  cases hf
  exact z_vret C h dX7_undoStep_48
theorem ctX7_undoStep {l : Launch} {κ : zG} {n : Nat} {σ : zS} {r : zS} (hf : fX7_undoStep_0 n (κ.2.2.2 0) (κ.2.2.2 1) (κ.2.2.2 2) σ = some r) : zMv l yX7_undoStep (Cond.code yX7_undoStep cX7_undoStep 2 none) rmX7_undoStep wC κ [.ref (κ.2.1 14)] σ r :=
  zMv_of (by decide) (Nat.le_of_ble_eq_true rfl) (fun p e s m below meth c A C h ls hl => wX7_undoStep_0 C h hl hf)
theorem hdX4_merge : yX4_merge.cls = RX4 ∧ yX4_merge.cls ≠ "java/lang/invoke/MethodHandle" ∧ yX4_merge.cls ≠ "java/lang/invoke/VarHandle" ∧ (parseMethodDescriptor yX4_merge.desc).map (fun d => d.parameters.length) = some 1 := by decide +kernel
abbrev rmX4_merge : Room := { frames := 5, cells := 0, slots := 0, locals := 110 }
set_option maxRecDepth 20000 in
set_option maxHeartbeats 4000000 in
theorem wX4_merge_L15_77 {p : Program} {l : Launch} {e : Env} {s : State} {m : MethodId} {args : Array Value} {below : List Frame} {meth : Method} {c : Code} {A : Nat → Prop} {κ : zG} {H : Heap} {locs : List Loc} {ls : Array Slot} {Q : State → Prop} {n : Nat} {σ : zS} {x2 : Int32} {x3 : Int32} {r : (Int32 × Int32 × zS) ⊕ (Int32 × zS)} (C : zC cX4_merge 5 (some .int) RX4 κ A p s m args meth c) (h : zH wC κ A s σ H locs) (hl : lv_has ls 5 [(0, .ref (κ.2.1 23)), (2, .int x2), (3, .int x3)]) (hf : fX4_merge_L15_77 n (κ.2.2.2 0) (κ.2.2.2 1) (κ.2.2.2 2) σ x2 x3 = some r) (Kc : ∀ (v2 : Int32) (v3 : Int32) (σ1 : zS), r = .inl (v2, v3, σ1) → ∀ (H : Heap) (locs : List Loc) (ls : Array Slot), zH wC κ A s σ1 H locs → lv_has ls 5 [(0, .ref (κ.2.1 23)), (2, .int v2), (3, .int v3)] → W p l e rmX4_merge s m args below meth c H locs 0 0 Q (F0 m 15 ls [])) (Ke0 : ∀ (v2 : Int32) (σ1 : zS), r = .inr (v2, σ1) → ∀ (H : Heap) (locs : List Loc) (ls : Array Slot), zH wC κ A s σ1 H locs → lv_has ls 5 [(0, .ref (κ.2.1 23)), (2, .int v2)] → W p l e rmX4_merge s m args below meth c H locs 0 0 Q (F0 m 83 ls [])) : W p l e rmX4_merge s m args below meth c H locs 0 0 Q (F0 m 77 ls []) := by
  unfold fX4_merge_L15_77 at hf
  refine lv_iinc (v := (x3 + (-1))) (lv' := [(3, .int (x3 + (-1))), (0, .ref (κ.2.1 23)), (2, .int x2)]) C.ex C.by dX4_merge_77 hl (k := 2) rfl rfl (by decide) rfl (fun ls hl => ?_)
  refine lv_goto (tgt := 15) C.ex C.by dX4_merge_80 (by decide) ?_
  exact Kc _ _ _ (Option.some.inj hf).symm _ _ _ h (lv_sub hl [1, 2, 0] rfl)
set_option maxRecDepth 20000 in
set_option maxHeartbeats 4000000 in
theorem wX4_merge_L15_66 {p : Program} {l : Launch} {e : Env} {s : State} {m : MethodId} {args : Array Value} {below : List Frame} {meth : Method} {c : Code} {A : Nat → Prop} {κ : zG} {H : Heap} {locs : List Loc} {ls : Array Slot} {Q : State → Prop} {n : Nat} {σ : zS} {x3 : Int32} {x4 : Int32} {y0 : Int32} {r : (Int32 × Int32 × zS) ⊕ (Int32 × zS)} (C : zC cX4_merge 5 (some .int) RX4 κ A p s m args meth c) (h : zH wC κ A s σ H locs) (hl : lv_has ls 5 [(0, .ref (κ.2.1 23)), (3, .int x3), (4, .int x4)]) (hf : fX4_merge_L15_66 n (κ.2.2.2 0) (κ.2.2.2 1) (κ.2.2.2 2) σ x3 x4 y0 = some r) (Kc : ∀ (v2 : Int32) (v3 : Int32) (σ1 : zS), r = .inl (v2, v3, σ1) → ∀ (H : Heap) (locs : List Loc) (ls : Array Slot), zH wC κ A s σ1 H locs → lv_has ls 5 [(0, .ref (κ.2.1 23)), (2, .int v2), (3, .int v3)] → W p l e rmX4_merge s m args below meth c H locs 0 0 Q (F0 m 15 ls [])) (Ke0 : ∀ (v2 : Int32) (σ1 : zS), r = .inr (v2, σ1) → ∀ (H : Heap) (locs : List Loc) (ls : Array Slot), zH wC κ A s σ1 H locs → lv_has ls 5 [(0, .ref (κ.2.1 23)), (2, .int v2)] → W p l e rmX4_merge s m args below meth c H locs 0 0 Q (F0 m 83 ls [])) : W p l e rmX4_merge s m args below meth c H locs 0 0 Q (F0 m 66 ls [.int y0]) := by
  unfold fX4_merge_L15_66 at hf
  refine lv_istore_n (lv' := [(2, .int y0), (0, .ref (κ.2.1 23)), (3, .int x3), (4, .int x4)]) C.ex C.by dX4_merge_66 rfl hl (by decide) rfl (fun ls hl => ?_)
  refine lv_iload_n C.ex C.by dX4_merge_67 rfl (lv_at hl 0 rfl) ?_
  refine lv_if_eq (tgt := 77) C.ex C.by dX4_merge_68 (by decide) (fun c15 => ?_) (fun c15 => ?_)
  · have hf := zif_t c15 hf
    exact wX4_merge_L15_77 C h (lv_sub hl [1, 0, 2] rfl) hf Kc Ke0
  · have hf := zif_f c15 hf
    refine lv_aload_n C.ex C.by dX4_merge_71 rfl (lv_at hl 1 rfl) ?_
    refine lv_iload C.ex C.by dX4_merge_72 (lv_at hl 3 rfl) ?_
    obtain ⟨q16, e17, hf⟩ := zb_some hf
    refine z_callVv (As := [.int x4]) C h (ctX4_advance e17) (zgV lkC237 lkC238 lkC239 lkC226 lkC240) ⟨rfl, rfl⟩ hdX4_advance ⟨Nat.le_of_ble_eq_true rfl, Nat.le_of_ble_eq_true rfl⟩ 23 (wC_at23 κ _) rfl hl rfl rfl (Nat.le_of_ble_eq_true rfl) dX4_merge_74 ⟨Nat.zero_le _, Nat.zero_le _⟩ (fun H locs h => ?_)
    exact wX4_merge_L15_77 C h (lv_sub hl [1, 0, 2] rfl) hf Kc Ke0
set_option maxRecDepth 20000 in
set_option maxHeartbeats 4000000 in
theorem wX4_merge_L15_65 {p : Program} {l : Launch} {e : Env} {s : State} {m : MethodId} {args : Array Value} {below : List Frame} {meth : Method} {c : Code} {A : Nat → Prop} {κ : zG} {H : Heap} {locs : List Loc} {ls : Array Slot} {Q : State → Prop} {n : Nat} {σ : zS} {x3 : Int32} {x4 : Int32} {r : (Int32 × Int32 × zS) ⊕ (Int32 × zS)} (C : zC cX4_merge 5 (some .int) RX4 κ A p s m args meth c) (h : zH wC κ A s σ H locs) (hl : lv_has ls 5 [(0, .ref (κ.2.1 23)), (3, .int x3), (4, .int x4)]) (hf : fX4_merge_L15_65 n (κ.2.2.2 0) (κ.2.2.2 1) (κ.2.2.2 2) σ x3 x4 = some r) (Kc : ∀ (v2 : Int32) (v3 : Int32) (σ1 : zS), r = .inl (v2, v3, σ1) → ∀ (H : Heap) (locs : List Loc) (ls : Array Slot), zH wC κ A s σ1 H locs → lv_has ls 5 [(0, .ref (κ.2.1 23)), (2, .int v2), (3, .int v3)] → W p l e rmX4_merge s m args below meth c H locs 0 0 Q (F0 m 15 ls [])) (Ke0 : ∀ (v2 : Int32) (σ1 : zS), r = .inr (v2, σ1) → ∀ (H : Heap) (locs : List Loc) (ls : Array Slot), zH wC κ A s σ1 H locs → lv_has ls 5 [(0, .ref (κ.2.1 23)), (2, .int v2)] → W p l e rmX4_merge s m args below meth c H locs 0 0 Q (F0 m 83 ls [])) : W p l e rmX4_merge s m args below meth c H locs 0 0 Q (F0 m 65 ls []) := by
  unfold fX4_merge_L15_65 at hf
  refine lv_iconst (v := 0) C.ex C.by dX4_merge_65 (by decide) ?_
  exact wX4_merge_L15_66 C h hl hf Kc Ke0
set_option maxRecDepth 20000 in
set_option maxHeartbeats 4000000 in
theorem wX4_merge_L15_15 {p : Program} {l : Launch} {e : Env} {s : State} {m : MethodId} {args : Array Value} {below : List Frame} {meth : Method} {c : Code} {A : Nat → Prop} {κ : zG} {H : Heap} {locs : List Loc} {ls : Array Slot} {Q : State → Prop} {n : Nat} {a : Int32 × Int32 × zS} {r : (Int32 × Int32 × zS) ⊕ (Int32 × zS)} (C : zC cX4_merge 5 (some .int) RX4 κ A p s m args meth c) (h : zH wC κ A s a.2.2 H locs) (hl : lv_has ls 5 [(0, .ref (κ.2.1 23)), (2, .int a.1), (3, .int a.2.1)]) (hf : fX4_merge_L15_15 n (κ.2.2.2 0) (κ.2.2.2 1) (κ.2.2.2 2) a = some r) (Kc : ∀ (v2 : Int32) (v3 : Int32) (σ1 : zS), r = .inl (v2, v3, σ1) → ∀ (H : Heap) (locs : List Loc) (ls : Array Slot), zH wC κ A s σ1 H locs → lv_has ls 5 [(0, .ref (κ.2.1 23)), (2, .int v2), (3, .int v3)] → W p l e rmX4_merge s m args below meth c H locs 0 0 Q (F0 m 15 ls [])) (Ke0 : ∀ (v2 : Int32) (σ1 : zS), r = .inr (v2, σ1) → ∀ (H : Heap) (locs : List Loc) (ls : Array Slot), zH wC κ A s σ1 H locs → lv_has ls 5 [(0, .ref (κ.2.1 23)), (2, .int v2)] → W p l e rmX4_merge s m args below meth c H locs 0 0 Q (F0 m 83 ls [])) : W p l e rmX4_merge s m args below meth c H locs 0 0 Q (F0 m 15 ls []) := by
  unfold fX4_merge_L15_15 at hf
  refine lv_iload_n C.ex C.by dX4_merge_15 rfl (lv_at hl 2 rfl) ?_
  refine lv_if_le (tgt := 83) C.ex C.by dX4_merge_16 (by decide) (fun c5 => ?_) (fun c5 => ?_)
  · have hf := zif_t c5 hf
    exact Ke0 _ _ (Option.some.inj hf).symm _ _ _ h (lv_sub hl [0, 1] rfl)
  · have hf := zif_f c5 hf
    refine lv_iload_n C.ex C.by dX4_merge_19 rfl (lv_at hl 1 rfl) ?_
    refine lv_if_eq (tgt := 83) C.ex C.by dX4_merge_20 (by decide) (fun c6 => ?_) (fun c6 => ?_)
    · have hf := zif_t c6 hf
      exact Ke0 _ _ (Option.some.inj hf).symm _ _ _ h (lv_sub hl [0, 1] rfl)
    · have hf := zif_f c6 hf
      refine lv_aload_n C.ex C.by dX4_merge_23 rfl (lv_at hl 0 rfl) ?_
      obtain ⟨q7, e8, hf⟩ := zb_some hf
      refine z_callVi (As := []) C h (ctX4_firstAtHand e8) (zgV lkC230 lkC231 lkC232 lkC226 lkC233) ⟨rfl, rfl⟩ hdX4_firstAtHand ⟨Nat.le_of_ble_eq_true rfl, Nat.le_of_ble_eq_true rfl⟩ 23 (wC_at23 κ _) rfl hl rfl rfl (Nat.le_of_ble_eq_true rfl) dX4_merge_24 ⟨Nat.zero_le _, Nat.zero_le _⟩ (fun H locs h => ?_)
      refine lv_istore (lv' := [(4, .int q7), (0, .ref (κ.2.1 23)), (2, .int a.1), (3, .int a.2.1)]) C.ex C.by dX4_merge_27 hl (by decide) rfl (fun ls hl => ?_)
      refine lv_iload C.ex C.by dX4_merge_29 (lv_at hl 0 rfl) ?_
      refine lv_if_lt (tgt := 65) C.ex C.by dX4_merge_31 (by decide) (fun c9 => ?_) (fun c9 => ?_)
      · have hf := zif_t c9 hf
        exact wX4_merge_L15_65 C h (lv_sub hl [1, 3, 0] rfl) hf Kc Ke0
      · have hf := zif_f c9 hf
        refine lv_iload C.ex C.by dX4_merge_34 (lv_at hl 0 rfl) ?_
        refine lv_aload_n C.ex C.by dX4_merge_36 rfl (lv_at hl 1 rfl) ?_
        refine z_get (v := .ref (κ.2.1 28)) C h iwX4 23 (wC_at23 κ _) rfl 7 (by decide) lkC217 rfl dX4_merge_37 ?_
        refine z_alen (t0 := 0) C h 28 (wC_at28 κ _) rfl dX4_merge_40 ?_
        refine lv_icmp_ge (tgt := 65) C.ex C.by dX4_merge_41 (by decide) (fun c10 => ?_) (fun c10 => ?_)
        · have hf := zif_t c10 hf
          exact wX4_merge_L15_65 C h (lv_sub hl [1, 3, 0] rfl) hf Kc Ke0
        · have hf := zif_f c10 hf
          refine lv_aload_n C.ex C.by dX4_merge_44 rfl (lv_at hl 1 rfl) ?_
          refine z_get (v := .ref (κ.2.1 14)) C h iwX4 23 (wC_at23 κ _) rfl 3 (by decide) lkC196 rfl dX4_merge_45 ?_
          refine lv_aload_n C.ex C.by dX4_merge_48 rfl (lv_at hl 1 rfl) ?_
          refine z_get (v := .ref (κ.2.1 28)) C h iwX4 23 (wC_at23 κ _) rfl 7 (by decide) lkC217 rfl dX4_merge_49 ?_
          refine lv_iload C.ex C.by dX4_merge_52 (lv_at hl 0 rfl) ?_
          obtain ⟨h11, hf⟩ := zg_some hf
          refine z_iald (f := (zA a.2.2 13)) C h 28 (wC_at28 κ _) h11 dX4_merge_54 ?_
          obtain ⟨q12, e13, hf⟩ := zb_some hf
          refine z_callVi (As := [.int ((zA a.2.2 13) (Int32.toNatClampNeg q7))]) C h (ctX7_goOut (r1 := q12.1) (r2 := q12.2) e13) (zgV lkC234 lkC158 lkC159 lkC121 lkC160) ⟨rfl, rfl⟩ hdX7_goOut ⟨Nat.le_of_ble_eq_true rfl, Nat.le_of_ble_eq_true rfl⟩ 14 (wC_at14 κ _) rfl hl rfl rfl (Nat.le_of_ble_eq_true rfl) dX4_merge_55 ⟨Nat.zero_le _, Nat.zero_le _⟩ (fun H locs h => ?_)
          refine lv_if_eq (tgt := 65) C.ex C.by dX4_merge_58 (by decide) (fun c14 => ?_) (fun c14 => ?_)
          · have hf := zif_t c14 hf
            exact wX4_merge_L15_65 C h (lv_sub hl [1, 3, 0] rfl) hf Kc Ke0
          · have hf := zif_f c14 hf
            refine lv_iconst (v := 1) C.ex C.by dX4_merge_61 (by decide) ?_
            refine lv_goto (tgt := 66) C.ex C.by dX4_merge_62 (by decide) ?_
            exact wX4_merge_L15_66 C h (lv_sub hl [1, 3, 0] rfl) hf Kc Ke0
theorem wlX4_merge_15 {p : Program} {l : Launch} {e : Env} {s : State} {m : MethodId} {args : Array Value} {below : List Frame} {meth : Method} {c : Code} {A : Nat → Prop} {κ : zG} {H : Heap} {locs : List Loc} {ls : Array Slot} {Q : State → Prop} {n : Nat} {k0 : Nat} {u2 : Int32} {u3 : Int32} {σ1 : zS} (C : zC cX4_merge 5 (some .int) RX4 κ A p s m args meth c) (h : zH wC κ A s σ1 H locs) (hl : lv_has ls 5 [(0, .ref (κ.2.1 23)), (2, .int u2), (3, .int u3)]) (b : Int32 × zS) (hb : zlp (fX4_merge_L15_15 n (κ.2.2.2 0) (κ.2.2.2 1) (κ.2.2.2 2)) k0 (u2, u3, σ1) = some b) (K : (fun b : Int32 × zS => ∀ (H : Heap) (locs : List Loc) (ls : Array Slot), zH wC κ A s b.2 H locs → lv_has ls 5 [(0, .ref (κ.2.1 23)), (2, .int b.1)] → W p l e rmX4_merge s m args below meth c H locs 0 0 Q (F0 m 83 ls [])) b) : W p l e rmX4_merge s m args below meth c H locs 0 0 Q (F0 m 15 ls []) :=
  z_loop (body := fX4_merge_L15_15 n (κ.2.2.2 0) (κ.2.2.2 1) (κ.2.2.2 2)) (Wd := (fun a : Int32 × Int32 × zS => ∀ (H : Heap) (locs : List Loc) (ls : Array Slot), zH wC κ A s a.2.2 H locs → lv_has ls 5 [(0, .ref (κ.2.1 23)), (2, .int a.1), (3, .int a.2.1)] → W p l e rmX4_merge s m args below meth c H locs 0 0 Q (F0 m 15 ls []))) (Ex := (fun b : Int32 × zS => (fun b : Int32 × zS => ∀ (H : Heap) (locs : List Loc) (ls : Array Slot), zH wC κ A s b.2 H locs → lv_has ls 5 [(0, .ref (κ.2.1 23)), (2, .int b.1)] → W p l e rmX4_merge s m args below meth c H locs 0 0 Q (F0 m 83 ls [])) b)) (fun a r hr Kc Ke H locs ls h hl => wX4_merge_L15_15 C h hl hr (fun v2 v3 σ1 e => Kc (v2, v3, σ1) e) (fun v2 σ1 e => Ke (v2, σ1) e)) k0 (u2, u3, σ1) b hb K H locs ls h hl
set_option maxRecDepth 20000 in
set_option maxHeartbeats 4000000 in
theorem wX4_merge_L108_108 {p : Program} {l : Launch} {e : Env} {s : State} {m : MethodId} {args : Array Value} {below : List Frame} {meth : Method} {c : Code} {A : Nat → Prop} {κ : zG} {H : Heap} {locs : List Loc} {ls : Array Slot} {Q : State → Prop} {n : Nat} {a : Int32 × zS} {r : (Int32 × zS) ⊕ (zS)} (C : zC cX4_merge 5 (some .int) RX4 κ A p s m args meth c) (h : zH wC κ A s a.2 H locs) (hl : lv_has ls 5 [(0, .ref (κ.2.1 23)), (3, .int a.1)]) (hf : fX4_merge_L108_108 n (κ.2.2.2 0) (κ.2.2.2 1) (κ.2.2.2 2) a = some r) (Kc : ∀ (v3 : Int32) (σ1 : zS), r = .inl (v3, σ1) → ∀ (H : Heap) (locs : List Loc) (ls : Array Slot), zH wC κ A s σ1 H locs → lv_has ls 5 [(0, .ref (κ.2.1 23)), (3, .int v3)] → W p l e rmX4_merge s m args below meth c H locs 0 0 Q (F0 m 108 ls [])) (Ke0 : ∀ (σ1 : zS), r = .inr σ1 → ∀ (H : Heap) (locs : List Loc) (ls : Array Slot), zH wC κ A s σ1 H locs → lv_has ls 5 [(0, .ref (κ.2.1 23))] → W p l e rmX4_merge s m args below meth c H locs 0 0 Q (F0 m 140 ls [])) : W p l e rmX4_merge s m args below meth c H locs 0 0 Q (F0 m 108 ls []) := by
  unfold fX4_merge_L108_108 at hf
  refine lv_iload_n C.ex C.by dX4_merge_108 rfl (lv_at hl 1 rfl) ?_
  refine lv_aload_n C.ex C.by dX4_merge_109 rfl (lv_at hl 0 rfl) ?_
  refine z_get (v := .ref (κ.2.1 24)) C h iwX4 23 (wC_at23 κ _) rfl 4 (by decide) lkC210 rfl dX4_merge_110 ?_
  obtain ⟨q24, e25, hf⟩ := zb_some hf
  refine z_callRi (As := []) (x := (zI a.2 29)) (f := (zA a.2 10)) C h (ctX6_size (κ := zκR κ (κ.2.1 24) (κ.2.1 25) 8) e25) (zgV lkC211 lkC182 lkC183 lkC52 lkC184) ⟨rfl, rfl⟩ hdX6_size ⟨Nat.le_of_ble_eq_true rfl, Nat.le_of_ble_eq_true rfl⟩ 24 25 (by decide) (wC_at24 κ _) (wC_at25 κ _) a.2 (zset2 (wC_at24 κ _) (wC_at25 κ _)) hl rfl rfl (Nat.le_of_ble_eq_true rfl) dX4_merge_113 ⟨Nat.zero_le _, Nat.zero_le _⟩ (fun H locs h => ?_)
  refine lv_icmp_ge (tgt := 140) C.ex C.by dX4_merge_116 (by decide) (fun c26 => ?_) (fun c26 => ?_)
  · have hf := zif_t c26 hf
    exact Ke0 _ (Option.some.inj hf).symm _ _ _ h (lv_sub hl [0] rfl)
  · have hf := zif_f c26 hf
    refine lv_aload_n C.ex C.by dX4_merge_119 rfl (lv_at hl 0 rfl) ?_
    refine z_get (v := .ref (κ.2.1 7)) C h iwX4 23 (wC_at23 κ _) rfl 2 (by decide) lkC218 rfl dX4_merge_120 ?_
    refine lv_aload_n C.ex C.by dX4_merge_123 rfl (lv_at hl 0 rfl) ?_
    refine z_get (v := .ref (κ.2.1 24)) C h iwX4 23 (wC_at23 κ _) rfl 4 (by decide) lkC210 rfl dX4_merge_124 ?_
    refine lv_iload_n C.ex C.by dX4_merge_127 rfl (lv_at hl 1 rfl) ?_
    obtain ⟨q27, e28, hf⟩ := zb_some hf
    refine z_callRi (As := [.int a.1]) (x := (zI a.2 29)) (f := (zA a.2 10)) C h (ctX6_get (κ := zκR κ (κ.2.1 24) (κ.2.1 25) 8) e28) (zgV lkC212 lkC50 lkC51 lkC52 lkC53) ⟨rfl, rfl⟩ hdX6_get ⟨Nat.le_of_ble_eq_true rfl, Nat.le_of_ble_eq_true rfl⟩ 24 25 (by decide) (wC_at24 κ _) (wC_at25 κ _) a.2 (zset2 (wC_at24 κ _) (wC_at25 κ _)) hl rfl rfl (Nat.le_of_ble_eq_true rfl) dX4_merge_128 ⟨Nat.zero_le _, Nat.zero_le _⟩ (fun H locs h => ?_)
    obtain ⟨q29, e30, hf⟩ := zb_some hf
    refine z_callVv (As := [.int q27]) C h (ctX1_remove e30) (zgV lkC247 lkC248 lkC249 lkC11 lkC250) ⟨rfl, rfl⟩ hdX1_remove ⟨Nat.le_of_ble_eq_true rfl, Nat.le_of_ble_eq_true rfl⟩ 7 (wC_at7 κ _) rfl hl rfl rfl (Nat.le_of_ble_eq_true rfl) dX4_merge_131 ⟨Nat.zero_le _, Nat.zero_le _⟩ (fun H locs h => ?_)
    refine lv_iinc (v := (a.1 + 1)) (lv' := [(3, .int (a.1 + 1)), (0, .ref (κ.2.1 23))]) C.ex C.by dX4_merge_134 hl (k := 1) rfl rfl (by decide) rfl (fun ls hl => ?_)
    refine lv_goto (tgt := 108) C.ex C.by dX4_merge_137 (by decide) ?_
    exact Kc _ _ (Option.some.inj hf).symm _ _ _ h (lv_sub hl [1, 0] rfl)
theorem wlX4_merge_108 {p : Program} {l : Launch} {e : Env} {s : State} {m : MethodId} {args : Array Value} {below : List Frame} {meth : Method} {c : Code} {A : Nat → Prop} {κ : zG} {H : Heap} {locs : List Loc} {ls : Array Slot} {Q : State → Prop} {n : Nat} {k0 : Nat} {u3 : Int32} {σ1 : zS} (C : zC cX4_merge 5 (some .int) RX4 κ A p s m args meth c) (h : zH wC κ A s σ1 H locs) (hl : lv_has ls 5 [(0, .ref (κ.2.1 23)), (3, .int u3)]) (b : zS) (hb : zlp (fX4_merge_L108_108 n (κ.2.2.2 0) (κ.2.2.2 1) (κ.2.2.2 2)) k0 (u3, σ1) = some b) (K : (fun b : zS => ∀ (H : Heap) (locs : List Loc) (ls : Array Slot), zH wC κ A s b H locs → lv_has ls 5 [(0, .ref (κ.2.1 23))] → W p l e rmX4_merge s m args below meth c H locs 0 0 Q (F0 m 140 ls [])) b) : W p l e rmX4_merge s m args below meth c H locs 0 0 Q (F0 m 108 ls []) :=
  z_loop (body := fX4_merge_L108_108 n (κ.2.2.2 0) (κ.2.2.2 1) (κ.2.2.2 2)) (Wd := (fun a : Int32 × zS => ∀ (H : Heap) (locs : List Loc) (ls : Array Slot), zH wC κ A s a.2 H locs → lv_has ls 5 [(0, .ref (κ.2.1 23)), (3, .int a.1)] → W p l e rmX4_merge s m args below meth c H locs 0 0 Q (F0 m 108 ls []))) (Ex := (fun b : zS => (fun b : zS => ∀ (H : Heap) (locs : List Loc) (ls : Array Slot), zH wC κ A s b H locs → lv_has ls 5 [(0, .ref (κ.2.1 23))] → W p l e rmX4_merge s m args below meth c H locs 0 0 Q (F0 m 140 ls [])) b)) (fun a r hr Kc Ke H locs ls h hl => wX4_merge_L108_108 C h hl hr (fun v3 σ1 e => Kc (v3, σ1) e) (fun σ1 e => Ke σ1 e)) k0 (u3, σ1) b hb K H locs ls h hl
set_option maxRecDepth 20000 in
set_option maxHeartbeats 4000000 in
theorem wX4_merge_97 {p : Program} {l : Launch} {e : Env} {s : State} {m : MethodId} {args : Array Value} {below : List Frame} {meth : Method} {c : Code} {A : Nat → Prop} {κ : zG} {H : Heap} {locs : List Loc} {ls : Array Slot} {n : Nat} {σ : zS} {r1 : Int32} {r2 : zS} (C : zC cX4_merge 5 (some .int) RX4 κ A p s m args meth c) (h : zH wC κ A s σ H locs) (hl : lv_has ls 5 [(0, .ref (κ.2.1 23))]) (hf : fX4_merge_97 n (κ.2.2.2 0) (κ.2.2.2 1) (κ.2.2.2 2) σ = some (r1, r2)) : W p l e rmX4_merge s m args below meth c H locs 0 0 (MQ below (zQi wC κ A r1 r2) args s 0 0 A) (F0 m 97 ls []) := by
  unfold fX4_merge_97 at hf
  refine lv_aload_n C.ex C.by dX4_merge_97 rfl (lv_at hl 0 rfl) ?_
  refine z_get (v := .ref (κ.2.1 14)) C h iwX4 23 (wC_at23 κ _) rfl 3 (by decide) lkC196 rfl dX4_merge_98 ?_
  obtain ⟨q35, e36, hf⟩ := zb_some hf
  refine z_callVv (As := []) C h (ctX7_undoStep e36) (zgV lkC254 lkC255 lkC256 lkC121 lkC257) ⟨rfl, rfl⟩ hdX7_undoStep ⟨Nat.le_of_ble_eq_true rfl, Nat.le_of_ble_eq_true rfl⟩ 14 (wC_at14 κ _) rfl hl rfl rfl (Nat.le_of_ble_eq_true rfl) dX4_merge_101 ⟨Nat.zero_le _, Nat.zero_le _⟩ (fun H locs h => ?_)
  refine lv_iconst (v := (-1)) C.ex C.by dX4_merge_104 (by decide) ?_
  cases hf
  exact z_iret C h dX4_merge_105
set_option maxRecDepth 20000 in
set_option maxHeartbeats 4000000 in
theorem wX4_merge_0 {p : Program} {l : Launch} {e : Env} {s : State} {m : MethodId} {args : Array Value} {below : List Frame} {meth : Method} {c : Code} {A : Nat → Prop} {κ : zG} {H : Heap} {locs : List Loc} {ls : Array Slot} {n : Nat} {σ : zS} {x1 : Int32} {r1 : Int32} {r2 : zS} (C : zC cX4_merge 5 (some .int) RX4 κ A p s m args meth c) (h : zH wC κ A s σ H locs) (hl : lv_has ls 5 [(0, .ref (κ.2.1 23)), (1, .int x1)]) (hf : fX4_merge_0 n (κ.2.2.2 0) (κ.2.2.2 1) (κ.2.2.2 2) σ x1 = some (r1, r2)) : W p l e rmX4_merge s m args below meth c H locs 0 0 (MQ below (zQi wC κ A r1 r2) args s 0 0 A) (F0 m 0 ls []) := by
  unfold fX4_merge_0 at hf
  refine lv_aload_n C.ex C.by dX4_merge_0 rfl (lv_at hl 0 rfl) ?_
  refine z_get (v := .ref (κ.2.1 14)) C h iwX4 23 (wC_at23 κ _) rfl 3 (by decide) lkC196 rfl dX4_merge_1 ?_
  refine lv_iload_n C.ex C.by dX4_merge_4 rfl (lv_at hl 1 rfl) ?_
  obtain ⟨q1, e2, hf⟩ := zb_some hf
  refine z_callVv (As := [.int x1]) C h (ctX7_beginStep e2) (zgV lkC206 lkC207 lkC208 lkC121 lkC209) ⟨rfl, rfl⟩ hdX7_beginStep ⟨Nat.le_of_ble_eq_true rfl, Nat.le_of_ble_eq_true rfl⟩ 14 (wC_at14 κ _) rfl hl rfl rfl (Nat.le_of_ble_eq_true rfl) dX4_merge_5 ⟨Nat.zero_le _, Nat.zero_le _⟩ (fun H locs h => ?_)
  refine lv_iconst (v := 1) C.ex C.by dX4_merge_8 (by decide) ?_
  refine lv_istore_n (lv' := [(2, .int 1), (0, .ref (κ.2.1 23)), (1, .int x1)]) C.ex C.by dX4_merge_9 rfl hl (by decide) rfl (fun ls hl => ?_)
  refine lv_aload_n C.ex C.by dX4_merge_10 rfl (lv_at hl 1 rfl) ?_
  obtain ⟨q3, e4, hf⟩ := zb_some hf
  refine z_callVi (As := []) C h (ctX4_start (r1 := q3.1) (r2 := q3.2) e4) (zgV lkC223 lkC224 lkC225 lkC226 lkC227) ⟨rfl, rfl⟩ hdX4_start ⟨Nat.le_of_ble_eq_true rfl, Nat.le_of_ble_eq_true rfl⟩ 23 (wC_at23 κ _) rfl hl rfl rfl (Nat.le_of_ble_eq_true rfl) dX4_merge_11 ⟨Nat.zero_le _, Nat.zero_le _⟩ (fun H locs h => ?_)
  refine lv_istore_n (lv' := [(3, .int q3.1), (2, .int 1), (0, .ref (κ.2.1 23)), (1, .int x1)]) C.ex C.by dX4_merge_14 rfl hl (by decide) rfl (fun ls hl => ?_)
  obtain ⟨b18, e19, hf⟩ := zb_some hf
  refine wlX4_merge_15 C h (lv_sub hl [2, 1, 0] rfl) b18 e19 ?_
  intro H locs ls h hl
  refine lv_iload_n C.ex C.by dX4_merge_83 rfl (lv_at hl 1 rfl) ?_
  refine lv_if_eq (tgt := 97) C.ex C.by dX4_merge_84 (by decide) (fun c20 => ?_) (fun c20 => ?_)
  · have hf := zif_t c20 hf
    exact wX4_merge_97 C h (lv_sub hl [0] rfl) hf
  · have hf := zif_f c20 hf
    refine lv_aload_n C.ex C.by dX4_merge_87 rfl (lv_at hl 0 rfl) ?_
    refine z_get (v := .ref (κ.2.1 14)) C h iwX4 23 (wC_at23 κ _) rfl 3 (by decide) lkC196 rfl dX4_merge_88 ?_
    obtain ⟨q21, e22, hf⟩ := zb_some hf
    refine z_callVi (As := []) C h (ctX7_endRun (r1 := q21.1) (r2 := q21.2) e22) (zgV lkC241 lkC172 lkC173 lkC121 lkC174) ⟨rfl, rfl⟩ hdX7_endRun ⟨Nat.le_of_ble_eq_true rfl, Nat.le_of_ble_eq_true rfl⟩ 14 (wC_at14 κ _) rfl hl rfl rfl (Nat.le_of_ble_eq_true rfl) dX4_merge_91 ⟨Nat.zero_le _, Nat.zero_le _⟩ (fun H locs h => ?_)
    refine lv_if_ne (tgt := 106) C.ex C.by dX4_merge_94 (by decide) (fun c23 => ?_) (fun c23 => ?_)
    · have hf := zif_f c23 hf
      refine lv_iconst (v := 0) C.ex C.by dX4_merge_106 (by decide) ?_
      refine lv_istore_n (lv' := [(3, .int 0), (0, .ref (κ.2.1 23)), (2, .int b18.1)]) C.ex C.by dX4_merge_107 rfl hl (by decide) rfl (fun ls hl => ?_)
      obtain ⟨b31, e32, hf⟩ := zb_some hf
      refine wlX4_merge_108 C h (lv_sub hl [1, 0] rfl) b31 e32 ?_
      intro H locs ls h hl
      refine lv_aload_n C.ex C.by dX4_merge_140 rfl (lv_at hl 0 rfl) ?_
      refine z_get (v := .ref (κ.2.1 14)) C h iwX4 23 (wC_at23 κ _) rfl 3 (by decide) lkC196 rfl dX4_merge_141 ?_
      refine z_getN (v := .ref (κ.2.1 18)) C h iwX7 14 (wC_at14 κ _) rfl 5 (by decide) nkC17 rfl dX4_merge_144 ?_
      refine lv_iconst (v := 0) C.ex C.by dX4_merge_147 (by decide) ?_
      obtain ⟨q33, e34, hf⟩ := zb_some hf
      refine z_callRi (As := [.int 0]) (x := (zI b31 26)) (f := (zA b31 7)) C h (ctX6_get (κ := zκR κ (κ.2.1 18) (κ.2.1 19) (κ.2.2.2 0)) e34) (zgV lkC212 lkC50 lkC51 lkC52 lkC53) ⟨rfl, rfl⟩ hdX6_get ⟨Nat.le_of_ble_eq_true rfl, Nat.le_of_ble_eq_true rfl⟩ 18 19 (by decide) (wC_at18 κ _) (wC_at19 κ _) b31 (zset2 (wC_at18 κ _) (wC_at19 κ _)) hl rfl rfl (Nat.le_of_ble_eq_true rfl) dX4_merge_148 ⟨Nat.zero_le _, Nat.zero_le _⟩ (fun H locs h => ?_)
      cases hf
      exact z_iret C h dX4_merge_151
    · have hf := zif_t c23 hf
      exact wX4_merge_97 C h (lv_sub hl [0] rfl) hf
theorem ctX4_merge {l : Launch} {κ : zG} {n : Nat} {σ : zS} {x1 : Int32} {r1 : Int32} {r2 : zS} (hf : fX4_merge_0 n (κ.2.2.2 0) (κ.2.2.2 1) (κ.2.2.2 2) σ x1 = some (r1, r2)) : zMi l yX4_merge (Cond.code yX4_merge cX4_merge 5 (some .int)) rmX4_merge wC κ [.ref (κ.2.1 23), .int x1] σ r1 r2 :=
  zMi_of (by decide) (Nat.le_of_ble_eq_true rfl) (fun p e s m below meth c A C h ls hl => wX4_merge_0 C h hl hf)
theorem hdX6_set : yX6_set.cls = RX6 ∧ yX6_set.cls ≠ "java/lang/invoke/MethodHandle" ∧ yX6_set.cls ≠ "java/lang/invoke/VarHandle" ∧ (parseMethodDescriptor yX6_set.desc).map (fun d => d.parameters.length) = some 2 := by decide +kernel
abbrev rmX6_set : Room := { frames := 0, cells := 0, slots := 0, locals := 0 }
set_option maxRecDepth 20000 in
set_option maxHeartbeats 4000000 in
theorem wX6_set_0 {p : Program} {l : Launch} {e : Env} {s : State} {m : MethodId} {args : Array Value} {below : List Frame} {meth : Method} {c : Code} {A : Nat → Prop} {κ : zG} {H : Heap} {locs : List Loc} {ls : Array Slot} {n : Nat} {σ : zS} {x1 : Int32} {x2 : Int32} {r : zS} (C : zC cX6_set 3 none RX6 κ A p s m args meth c) (h : zH wR κ A s σ H locs) (hl : lv_has ls 3 [(0, .ref (κ.2.1 0)), (1, .int x1), (2, .int x2)]) (hf : fX6_set_0 n (κ.2.2.2 0) σ x1 x2 = some r) : W p l e rmX6_set s m args below meth c H locs 0 0 (MQ below (zQv wR κ A r) args s 0 0 A) (F0 m 0 ls []) := by
  unfold fX6_set_0 at hf
  refine lv_iload_n C.ex C.by dX6_set_0 rfl (lv_at hl 1 rfl) ?_
  refine lv_if_lt (tgt := 28) C.ex C.by dX6_set_1 (by decide) (fun c1 => ?_) (fun c1 => ?_)
  · have hf := zif_t c1 hf
    cases hf
    exact z_vret C h dX6_set_28
  · have hf := zif_f c1 hf
    refine lv_iload_n C.ex C.by dX6_set_4 rfl (lv_at hl 1 rfl) ?_
    refine lv_aload_n C.ex C.by dX6_set_5 rfl (lv_at hl 0 rfl) ?_
    refine z_get (v := .int (zI σ 0)) C h iwX6 0 (wR_at0 κ _) rfl 1 (by decide) lkC47 rfl dX6_set_6 ?_
    refine lv_icmp_ge (tgt := 28) C.ex C.by dX6_set_9 (by decide) (fun c2 => ?_) (fun c2 => ?_)
    · have hf := zif_t c2 hf
      cases hf
      exact z_vret C h dX6_set_28
    · have hf := zif_f c2 hf
      refine lv_iload_n C.ex C.by dX6_set_12 rfl (lv_at hl 1 rfl) ?_
      refine lv_aload_n C.ex C.by dX6_set_13 rfl (lv_at hl 0 rfl) ?_
      refine z_get (v := .ref (κ.2.1 1)) C h iwX6 0 (wR_at0 κ _) rfl 0 (by decide) lkC48 rfl dX6_set_14 ?_
      refine z_alen (t0 := 0) C h 1 (wR_at1 κ _) rfl dX6_set_17 ?_
      refine lv_icmp_ge (tgt := 28) C.ex C.by dX6_set_18 (by decide) (fun c3 => ?_) (fun c3 => ?_)
      · have hf := zif_t c3 hf
        cases hf
        exact z_vret C h dX6_set_28
      · have hf := zif_f c3 hf
        refine lv_aload_n C.ex C.by dX6_set_21 rfl (lv_at hl 0 rfl) ?_
        refine z_get (v := .ref (κ.2.1 1)) C h iwX6 0 (wR_at0 κ _) rfl 0 (by decide) lkC48 rfl dX6_set_22 ?_
        refine lv_iload_n C.ex C.by dX6_set_25 rfl (lv_at hl 1 rfl) ?_
        refine lv_iload_n C.ex C.by dX6_set_26 rfl (lv_at hl 2 rfl) ?_
        obtain ⟨h4, hf⟩ := zg_some hf
        refine z_iast (f := (zA σ 0)) C h 1 (wR_at1 κ _) h4 (sA σ 0 (upd (zA σ 0) (Int32.toNatClampNeg x1) x2)) (wR_s1 κ _ _) dX6_set_27 (fun H locs h => ?_)
        cases hf
        exact z_vret C h dX6_set_28
theorem ctX6_set {l : Launch} {κ : zG} {n : Nat} {σ : zS} {x1 : Int32} {x2 : Int32} {r : zS} (hf : fX6_set_0 n (κ.2.2.2 0) σ x1 x2 = some r) : zMv l yX6_set (Cond.code yX6_set cX6_set 3 none) rmX6_set wR κ [.ref (κ.2.1 0), .int x1, .int x2] σ r :=
  zMv_of (by decide) (Nat.le_of_ble_eq_true rfl) (fun p e s m below meth c A C h ls hl => wX6_set_0 C h hl hf)
theorem hdX6_removeAt : yX6_removeAt.cls = RX6 ∧ yX6_removeAt.cls ≠ "java/lang/invoke/MethodHandle" ∧ yX6_removeAt.cls ≠ "java/lang/invoke/VarHandle" ∧ (parseMethodDescriptor yX6_removeAt.desc).map (fun d => d.parameters.length) = some 1 := by decide +kernel
abbrev rmX6_removeAt : Room := { frames := 0, cells := 0, slots := 0, locals := 0 }
set_option maxRecDepth 20000 in
set_option maxHeartbeats 4000000 in
theorem wX6_removeAt_L15_15 {p : Program} {l : Launch} {e : Env} {s : State} {m : MethodId} {args : Array Value} {below : List Frame} {meth : Method} {c : Code} {A : Nat → Prop} {κ : zG} {H : Heap} {locs : List Loc} {ls : Array Slot} {Q : State → Prop} {n : Nat} {a : Int32 × zS} {r : (Int32 × zS) ⊕ (zS)} (C : zC cX6_removeAt 3 none RX6 κ A p s m args meth c) (h : zH wR κ A s a.2 H locs) (hl : lv_has ls 3 [(0, .ref (κ.2.1 0)), (2, .int a.1)]) (hf : fX6_removeAt_L15_15 n (κ.2.2.2 0) a = some r) (Kc : ∀ (v2 : Int32) (σ1 : zS), r = .inl (v2, σ1) → ∀ (H : Heap) (locs : List Loc) (ls : Array Slot), zH wR κ A s σ1 H locs → lv_has ls 3 [(0, .ref (κ.2.1 0)), (2, .int v2)] → W p l e rmX6_removeAt s m args below meth c H locs 0 0 Q (F0 m 15 ls [])) (Ke0 : ∀ (σ1 : zS), r = .inr σ1 → ∀ (H : Heap) (locs : List Loc) (ls : Array Slot), zH wR κ A s σ1 H locs → lv_has ls 3 [(0, .ref (κ.2.1 0))] → W p l e rmX6_removeAt s m args below meth c H locs 0 0 Q (F0 m 56 ls [])) : W p l e rmX6_removeAt s m args below meth c H locs 0 0 Q (F0 m 15 ls []) := by
  unfold fX6_removeAt_L15_15 at hf
  refine lv_iload_n C.ex C.by dX6_removeAt_15 rfl (lv_at hl 1 rfl) ?_
  refine lv_iconst (v := 1) C.ex C.by dX6_removeAt_16 (by decide) ?_
  refine lv_iadd C.ex C.by dX6_removeAt_17 ?_
  refine lv_aload_n C.ex C.by dX6_removeAt_18 rfl (lv_at hl 0 rfl) ?_
  refine z_get (v := .int (zI a.2 0)) C h iwX6 0 (wR_at0 κ _) rfl 1 (by decide) lkC47 rfl dX6_removeAt_19 ?_
  refine lv_icmp_ge (tgt := 56) C.ex C.by dX6_removeAt_22 (by decide) (fun c3 => ?_) (fun c3 => ?_)
  · have hf := zif_t c3 hf
    exact Ke0 _ (Option.some.inj hf).symm _ _ _ h (lv_sub hl [0] rfl)
  · have hf := zif_f c3 hf
    refine lv_iload_n C.ex C.by dX6_removeAt_25 rfl (lv_at hl 1 rfl) ?_
    refine lv_iconst (v := 1) C.ex C.by dX6_removeAt_26 (by decide) ?_
    refine lv_iadd C.ex C.by dX6_removeAt_27 ?_
    refine lv_aload_n C.ex C.by dX6_removeAt_28 rfl (lv_at hl 0 rfl) ?_
    refine z_get (v := .ref (κ.2.1 1)) C h iwX6 0 (wR_at0 κ _) rfl 0 (by decide) lkC48 rfl dX6_removeAt_29 ?_
    refine z_alen (t0 := 0) C h 1 (wR_at1 κ _) rfl dX6_removeAt_32 ?_
    refine lv_icmp_ge (tgt := 56) C.ex C.by dX6_removeAt_33 (by decide) (fun c4 => ?_) (fun c4 => ?_)
    · have hf := zif_t c4 hf
      exact Ke0 _ (Option.some.inj hf).symm _ _ _ h (lv_sub hl [0] rfl)
    · have hf := zif_f c4 hf
      refine lv_aload_n C.ex C.by dX6_removeAt_36 rfl (lv_at hl 0 rfl) ?_
      refine z_get (v := .ref (κ.2.1 1)) C h iwX6 0 (wR_at0 κ _) rfl 0 (by decide) lkC48 rfl dX6_removeAt_37 ?_
      refine lv_iload_n C.ex C.by dX6_removeAt_40 rfl (lv_at hl 1 rfl) ?_
      refine lv_aload_n C.ex C.by dX6_removeAt_41 rfl (lv_at hl 0 rfl) ?_
      refine z_get (v := .ref (κ.2.1 1)) C h iwX6 0 (wR_at0 κ _) rfl 0 (by decide) lkC48 rfl dX6_removeAt_42 ?_
      refine lv_iload_n C.ex C.by dX6_removeAt_45 rfl (lv_at hl 1 rfl) ?_
      refine lv_iconst (v := 1) C.ex C.by dX6_removeAt_46 (by decide) ?_
      refine lv_iadd C.ex C.by dX6_removeAt_47 ?_
      obtain ⟨h5, hf⟩ := zg_some hf
      refine z_iald (f := (zA a.2 0)) C h 1 (wR_at1 κ _) h5 dX6_removeAt_48 ?_
      obtain ⟨h6, hf⟩ := zg_some hf
      refine z_iast (f := (zA a.2 0)) C h 1 (wR_at1 κ _) h6 (sA a.2 0 (upd (zA a.2 0) (Int32.toNatClampNeg a.1) ((zA a.2 0) (Int32.toNatClampNeg (a.1 + 1))))) (wR_s1 κ _ _) dX6_removeAt_49 (fun H locs h => ?_)
      refine lv_iinc (v := (a.1 + 1)) (lv' := [(2, .int (a.1 + 1)), (0, .ref (κ.2.1 0))]) C.ex C.by dX6_removeAt_50 hl (k := 1) rfl rfl (by decide) rfl (fun ls hl => ?_)
      refine lv_goto (tgt := 15) C.ex C.by dX6_removeAt_53 (by decide) ?_
      exact Kc _ _ (Option.some.inj hf).symm _ _ _ h (lv_sub hl [1, 0] rfl)
theorem wlX6_removeAt_15 {p : Program} {l : Launch} {e : Env} {s : State} {m : MethodId} {args : Array Value} {below : List Frame} {meth : Method} {c : Code} {A : Nat → Prop} {κ : zG} {H : Heap} {locs : List Loc} {ls : Array Slot} {Q : State → Prop} {n : Nat} {k0 : Nat} {u2 : Int32} {σ1 : zS} (C : zC cX6_removeAt 3 none RX6 κ A p s m args meth c) (h : zH wR κ A s σ1 H locs) (hl : lv_has ls 3 [(0, .ref (κ.2.1 0)), (2, .int u2)]) (b : zS) (hb : zlp (fX6_removeAt_L15_15 n (κ.2.2.2 0)) k0 (u2, σ1) = some b) (K : (fun b : zS => ∀ (H : Heap) (locs : List Loc) (ls : Array Slot), zH wR κ A s b H locs → lv_has ls 3 [(0, .ref (κ.2.1 0))] → W p l e rmX6_removeAt s m args below meth c H locs 0 0 Q (F0 m 56 ls [])) b) : W p l e rmX6_removeAt s m args below meth c H locs 0 0 Q (F0 m 15 ls []) :=
  z_loop (body := fX6_removeAt_L15_15 n (κ.2.2.2 0)) (Wd := (fun a : Int32 × zS => ∀ (H : Heap) (locs : List Loc) (ls : Array Slot), zH wR κ A s a.2 H locs → lv_has ls 3 [(0, .ref (κ.2.1 0)), (2, .int a.1)] → W p l e rmX6_removeAt s m args below meth c H locs 0 0 Q (F0 m 15 ls []))) (Ex := (fun b : zS => (fun b : zS => ∀ (H : Heap) (locs : List Loc) (ls : Array Slot), zH wR κ A s b H locs → lv_has ls 3 [(0, .ref (κ.2.1 0))] → W p l e rmX6_removeAt s m args below meth c H locs 0 0 Q (F0 m 56 ls [])) b)) (fun a r hr Kc Ke H locs ls h hl => wX6_removeAt_L15_15 C h hl hr (fun v2 σ1 e => Kc (v2, σ1) e) (fun σ1 e => Ke σ1 e)) k0 (u2, σ1) b hb K H locs ls h hl
set_option maxRecDepth 20000 in
set_option maxHeartbeats 4000000 in
theorem wX6_removeAt_0 {p : Program} {l : Launch} {e : Env} {s : State} {m : MethodId} {args : Array Value} {below : List Frame} {meth : Method} {c : Code} {A : Nat → Prop} {κ : zG} {H : Heap} {locs : List Loc} {ls : Array Slot} {n : Nat} {σ : zS} {x1 : Int32} {r : zS} (C : zC cX6_removeAt 3 none RX6 κ A p s m args meth c) (h : zH wR κ A s σ H locs) (hl : lv_has ls 3 [(0, .ref (κ.2.1 0)), (1, .int x1)]) (hf : fX6_removeAt_0 n (κ.2.2.2 0) σ x1 = some r) : W p l e rmX6_removeAt s m args below meth c H locs 0 0 (MQ below (zQv wR κ A r) args s 0 0 A) (F0 m 0 ls []) := by
  unfold fX6_removeAt_0 at hf
  refine lv_iload_n C.ex C.by dX6_removeAt_0 rfl (lv_at hl 1 rfl) ?_
  refine lv_if_lt (tgt := 12) C.ex C.by dX6_removeAt_1 (by decide) (fun c1 => ?_) (fun c1 => ?_)
  · have hf := zif_t c1 hf
    cases hf
    exact z_vret C h dX6_removeAt_12
  · have hf := zif_f c1 hf
    refine lv_iload_n C.ex C.by dX6_removeAt_4 rfl (lv_at hl 1 rfl) ?_
    refine lv_aload_n C.ex C.by dX6_removeAt_5 rfl (lv_at hl 0 rfl) ?_
    refine z_get (v := .int (zI σ 0)) C h iwX6 0 (wR_at0 κ _) rfl 1 (by decide) lkC47 rfl dX6_removeAt_6 ?_
    refine lv_icmp_lt (tgt := 13) C.ex C.by dX6_removeAt_9 (by decide) (fun c2 => ?_) (fun c2 => ?_)
    · have hf := zif_t c2 hf
      refine lv_iload_n C.ex C.by dX6_removeAt_13 rfl (lv_at hl 1 rfl) ?_
      refine lv_istore_n (lv' := [(2, .int x1), (0, .ref (κ.2.1 0)), (1, .int x1)]) C.ex C.by dX6_removeAt_14 rfl hl (by decide) rfl (fun ls hl => ?_)
      obtain ⟨b7, e8, hf⟩ := zb_some hf
      refine wlX6_removeAt_15 C h (lv_sub hl [1, 0] rfl) b7 e8 ?_
      intro H locs ls h hl
      refine lv_aload_n C.ex C.by dX6_removeAt_56 rfl (lv_at hl 0 rfl) ?_
      refine lv_dup C.ex C.by dX6_removeAt_57 rfl ?_
      refine z_get (v := .int (zI b7 0)) C h iwX6 0 (wR_at0 κ _) rfl 1 (by decide) lkC47 rfl dX6_removeAt_58 ?_
      refine lv_iconst (v := 1) C.ex C.by dX6_removeAt_61 (by decide) ?_
      refine lv_isub C.ex C.by dX6_removeAt_62 ?_
      refine z_put C h iwX6 tyX6_ok nmX6 0 (wR_at0 κ _) rfl 1 (by decide) lkC47 rfl rfl rfl (Nat.le_of_ble_eq_true rfl) (sI b7 0 ((zI b7 0) - 1)) (wR_s0_1 κ _ _) dX6_removeAt_63 (fun H locs h => ?_)
      cases hf
      exact z_vret C h dX6_removeAt_66
    · have hf := zif_f c2 hf
      cases hf
      exact z_vret C h dX6_removeAt_12
theorem ctX6_removeAt {l : Launch} {κ : zG} {n : Nat} {σ : zS} {x1 : Int32} {r : zS} (hf : fX6_removeAt_0 n (κ.2.2.2 0) σ x1 = some r) : zMv l yX6_removeAt (Cond.code yX6_removeAt cX6_removeAt 3 none) rmX6_removeAt wR κ [.ref (κ.2.1 0), .int x1] σ r :=
  zMv_of (by decide) (Nat.le_of_ble_eq_true rfl) (fun p e s m below meth c A C h ls hl => wX6_removeAt_0 C h hl hf)
theorem hdX9_mergeInGroups : yX9_mergeInGroups.cls = RX9 ∧ yX9_mergeInGroups.cls ≠ "java/lang/invoke/MethodHandle" ∧ yX9_mergeInGroups.cls ≠ "java/lang/invoke/VarHandle" ∧ (parseMethodDescriptor yX9_mergeInGroups.desc).map (fun d => d.parameters.length) = some 1 := by decide +kernel
abbrev rmX9_mergeInGroups : Room := { frames := 6, cells := 0, slots := 0, locals := 134 }
set_option maxRecDepth 20000 in
set_option maxHeartbeats 4000000 in
theorem wX9_mergeInGroups_L45_45 {p : Program} {l : Launch} {e : Env} {s : State} {m : MethodId} {args : Array Value} {below : List Frame} {meth : Method} {c : Code} {A : Nat → Prop} {κ : zG} {H : Heap} {locs : List Loc} {ls : Array Slot} {Q : State → Prop} {n : Nat} {k1 : Int32} {k2 : Int32} {k3 : Int32} {a : Int32 × zS} {r : (Int32 × zS) ⊕ (zS)} (C : zC cX9_mergeInGroups 6 (some .boolean) RX9 κ A p s m args meth c) (h : zH wC κ A s a.2 H locs) (hl : lv_has ls 6 [(0, .ref (κ.2.1 0)), (1, .int k1), (2, .int k2), (3, .int k3), (4, .int a.1)]) (hf : fX9_mergeInGroups_L45_45 n (κ.2.2.2 0) (κ.2.2.2 1) (κ.2.2.2 2) k1 k2 k3 a = some r) (Kc : ∀ (v4 : Int32) (σ1 : zS), r = .inl (v4, σ1) → ∀ (H : Heap) (locs : List Loc) (ls : Array Slot), zH wC κ A s σ1 H locs → lv_has ls 6 [(0, .ref (κ.2.1 0)), (1, .int k1), (2, .int k2), (3, .int k3), (4, .int v4)] → W p l e rmX9_mergeInGroups s m args below meth c H locs 0 0 Q (F0 m 45 ls [])) (Ke0 : ∀ (σ1 : zS), r = .inr σ1 → ∀ (H : Heap) (locs : List Loc) (ls : Array Slot), zH wC κ A s σ1 H locs → lv_has ls 6 [(0, .ref (κ.2.1 0)), (1, .int k1), (2, .int k2), (3, .int k3)] → W p l e rmX9_mergeInGroups s m args below meth c H locs 0 0 Q (F0 m 78 ls [])) : W p l e rmX9_mergeInGroups s m args below meth c H locs 0 0 Q (F0 m 45 ls []) := by
  unfold fX9_mergeInGroups_L45_45 at hf
  refine lv_iload C.ex C.by dX9_mergeInGroups_45 (lv_at hl 4 rfl) ?_
  refine lv_iload_n C.ex C.by dX9_mergeInGroups_47 rfl (lv_at hl 3 rfl) ?_
  refine lv_icmp_ge (tgt := 78) C.ex C.by dX9_mergeInGroups_48 (by decide) (fun c9 => ?_) (fun c9 => ?_)
  · have hf := zif_t c9 hf
    exact Ke0 _ (Option.some.inj hf).symm _ _ _ h (lv_sub hl [0, 1, 2, 3] rfl)
  · have hf := zif_f c9 hf
    refine lv_aload_n C.ex C.by dX9_mergeInGroups_51 rfl (lv_at hl 0 rfl) ?_
    refine z_get (v := .ref (κ.2.1 23)) C h iwX9 0 (wC_at0 κ _) rfl 6 (by decide) lkC188 rfl dX9_mergeInGroups_52 ?_
    refine z_getN (v := .ref (κ.2.1 24)) C h iwX4 23 (wC_at23 κ _) rfl 4 (by decide) nkC13 rfl dX9_mergeInGroups_55 ?_
    refine lv_aload_n C.ex C.by dX9_mergeInGroups_58 rfl (lv_at hl 0 rfl) ?_
    refine z_get (v := .ref (κ.2.1 33)) C h iwX9 0 (wC_at0 κ _) rfl 8 (by decide) lkC180 rfl dX9_mergeInGroups_59 ?_
    refine lv_iload_n C.ex C.by dX9_mergeInGroups_62 rfl (lv_at hl 2 rfl) ?_
    refine lv_iload C.ex C.by dX9_mergeInGroups_63 (lv_at hl 4 rfl) ?_
    refine lv_iadd C.ex C.by dX9_mergeInGroups_65 ?_
    obtain ⟨q10, e11, hf⟩ := zb_some hf
    refine z_callRi (As := [.int (k2 + a.1)]) (x := (zI a.2 32)) (f := (zA a.2 16)) C h (ctX6_get (κ := zκR κ (κ.2.1 33) (κ.2.1 34) (κ.2.2.2 0)) e11) (zgV lkC193 lkC50 lkC51 lkC52 lkC53) ⟨rfl, rfl⟩ hdX6_get ⟨Nat.le_of_ble_eq_true rfl, Nat.le_of_ble_eq_true rfl⟩ 33 34 (by decide) (wC_at33 κ _) (wC_at34 κ _) a.2 (zset2 (wC_at33 κ _) (wC_at34 κ _)) hl rfl rfl (Nat.le_of_ble_eq_true rfl) dX9_mergeInGroups_66 ⟨Nat.zero_le _, Nat.zero_le _⟩ (fun H locs h => ?_)
    obtain ⟨q12, e13, hf⟩ := zb_some hf
    refine z_callRv (As := [.int q10]) (x := (zI a.2 29)) (f := (zA a.2 10)) C h (ctX6_add (κ := zκR κ (κ.2.1 24) (κ.2.1 25) 8) e13) (zgV lkC194 lkC139 lkC140 lkC52 lkC141) ⟨rfl, rfl⟩ hdX6_add ⟨Nat.le_of_ble_eq_true rfl, Nat.le_of_ble_eq_true rfl⟩ 24 25 (by decide) (wC_at24 κ _) (wC_at25 κ _) (sA (sI a.2 29 (zI q12 0)) 10 (zA q12 0)) (wC_sr24 κ _ _ _) hl rfl rfl (Nat.le_of_ble_eq_true rfl) dX9_mergeInGroups_69 ⟨Nat.zero_le _, Nat.zero_le _⟩ (fun H locs h => ?_)
    refine lv_iinc (v := (a.1 + 1)) (lv' := [(4, .int (a.1 + 1)), (0, .ref (κ.2.1 0)), (1, .int k1), (2, .int k2), (3, .int k3)]) C.ex C.by dX9_mergeInGroups_72 hl (k := 4) rfl rfl (by decide) rfl (fun ls hl => ?_)
    refine lv_goto (tgt := 45) C.ex C.by dX9_mergeInGroups_75 (by decide) ?_
    exact Kc _ _ (Option.some.inj hf).symm _ _ _ h (lv_sub hl [1, 2, 3, 4, 0] rfl)
theorem wlX9_mergeInGroups_45 {p : Program} {l : Launch} {e : Env} {s : State} {m : MethodId} {args : Array Value} {below : List Frame} {meth : Method} {c : Code} {A : Nat → Prop} {κ : zG} {H : Heap} {locs : List Loc} {ls : Array Slot} {Q : State → Prop} {n : Nat} {k1 : Int32} {k2 : Int32} {k3 : Int32} {k0 : Nat} {u4 : Int32} {σ1 : zS} (C : zC cX9_mergeInGroups 6 (some .boolean) RX9 κ A p s m args meth c) (h : zH wC κ A s σ1 H locs) (hl : lv_has ls 6 [(0, .ref (κ.2.1 0)), (1, .int k1), (2, .int k2), (3, .int k3), (4, .int u4)]) (b : zS) (hb : zlp (fX9_mergeInGroups_L45_45 n (κ.2.2.2 0) (κ.2.2.2 1) (κ.2.2.2 2) k1 k2 k3) k0 (u4, σ1) = some b) (K : (fun b : zS => ∀ (H : Heap) (locs : List Loc) (ls : Array Slot), zH wC κ A s b H locs → lv_has ls 6 [(0, .ref (κ.2.1 0)), (1, .int k1), (2, .int k2), (3, .int k3)] → W p l e rmX9_mergeInGroups s m args below meth c H locs 0 0 Q (F0 m 78 ls [])) b) : W p l e rmX9_mergeInGroups s m args below meth c H locs 0 0 Q (F0 m 45 ls []) :=
  z_loop (body := fX9_mergeInGroups_L45_45 n (κ.2.2.2 0) (κ.2.2.2 1) (κ.2.2.2 2) k1 k2 k3) (Wd := (fun a : Int32 × zS => ∀ (H : Heap) (locs : List Loc) (ls : Array Slot), zH wC κ A s a.2 H locs → lv_has ls 6 [(0, .ref (κ.2.1 0)), (1, .int k1), (2, .int k2), (3, .int k3), (4, .int a.1)] → W p l e rmX9_mergeInGroups s m args below meth c H locs 0 0 Q (F0 m 45 ls []))) (Ex := (fun b : zS => (fun b : zS => ∀ (H : Heap) (locs : List Loc) (ls : Array Slot), zH wC κ A s b H locs → lv_has ls 6 [(0, .ref (κ.2.1 0)), (1, .int k1), (2, .int k2), (3, .int k3)] → W p l e rmX9_mergeInGroups s m args below meth c H locs 0 0 Q (F0 m 78 ls [])) b)) (fun a r hr Kc Ke H locs ls h hl => wX9_mergeInGroups_L45_45 C h hl hr (fun v4 σ1 e => Kc (v4, σ1) e) (fun σ1 e => Ke σ1 e)) k0 (u4, σ1) b hb K H locs ls h hl
set_option maxRecDepth 20000 in
set_option maxHeartbeats 4000000 in
theorem wX9_mergeInGroups_L114_114 {p : Program} {l : Launch} {e : Env} {s : State} {m : MethodId} {args : Array Value} {below : List Frame} {meth : Method} {c : Code} {A : Nat → Prop} {κ : zG} {H : Heap} {locs : List Loc} {ls : Array Slot} {Q : State → Prop} {n : Nat} {k1 : Int32} {k2 : Int32} {a : Int32 × zS} {r : (Int32 × zS) ⊕ (zS)} (C : zC cX9_mergeInGroups 6 (some .boolean) RX9 κ A p s m args meth c) (h : zH wC κ A s a.2 H locs) (hl : lv_has ls 6 [(0, .ref (κ.2.1 0)), (1, .int k1), (2, .int k2), (5, .int a.1)]) (hf : fX9_mergeInGroups_L114_114 n (κ.2.2.2 0) (κ.2.2.2 1) (κ.2.2.2 2) k1 k2 a = some r) (Kc : ∀ (v5 : Int32) (σ1 : zS), r = .inl (v5, σ1) → ∀ (H : Heap) (locs : List Loc) (ls : Array Slot), zH wC κ A s σ1 H locs → lv_has ls 6 [(0, .ref (κ.2.1 0)), (1, .int k1), (2, .int k2), (5, .int v5)] → W p l e rmX9_mergeInGroups s m args below meth c H locs 0 0 Q (F0 m 114 ls [])) (Ke0 : ∀ (σ1 : zS), r = .inr σ1 → ∀ (H : Heap) (locs : List Loc) (ls : Array Slot), zH wC κ A s σ1 H locs → lv_has ls 6 [(0, .ref (κ.2.1 0)), (1, .int k1), (2, .int k2)] → W p l e rmX9_mergeInGroups s m args below meth c H locs 0 0 Q (F0 m 136 ls [])) : W p l e rmX9_mergeInGroups s m args below meth c H locs 0 0 Q (F0 m 114 ls []) := by
  unfold fX9_mergeInGroups_L114_114 at hf
  refine lv_iload C.ex C.by dX9_mergeInGroups_114 (lv_at hl 3 rfl) ?_
  refine lv_if_le (tgt := 136) C.ex C.by dX9_mergeInGroups_116 (by decide) (fun c21 => ?_) (fun c21 => ?_)
  · have hf := zif_t c21 hf
    exact Ke0 _ (Option.some.inj hf).symm _ _ _ h (lv_sub hl [0, 1, 2] rfl)
  · have hf := zif_f c21 hf
    refine lv_aload_n C.ex C.by dX9_mergeInGroups_119 rfl (lv_at hl 0 rfl) ?_
    refine z_get (v := .ref (κ.2.1 33)) C h iwX9 0 (wC_at0 κ _) rfl 8 (by decide) lkC180 rfl dX9_mergeInGroups_120 ?_
    refine lv_iload_n C.ex C.by dX9_mergeInGroups_123 rfl (lv_at hl 2 rfl) ?_
    refine lv_iload C.ex C.by dX9_mergeInGroups_124 (lv_at hl 3 rfl) ?_
    refine lv_iadd C.ex C.by dX9_mergeInGroups_126 ?_
    obtain ⟨q22, e23, hf⟩ := zb_some hf
    refine z_callRv (As := [.int (k2 + a.1)]) (x := (zI a.2 32)) (f := (zA a.2 16)) C h (ctX6_removeAt (κ := zκR κ (κ.2.1 33) (κ.2.1 34) (κ.2.2.2 0)) e23) (zgV lkC266 lkC267 lkC268 lkC52 lkC269) ⟨rfl, rfl⟩ hdX6_removeAt ⟨Nat.le_of_ble_eq_true rfl, Nat.le_of_ble_eq_true rfl⟩ 33 34 (by decide) (wC_at33 κ _) (wC_at34 κ _) (sA (sI a.2 32 (zI q22 0)) 16 (zA q22 0)) (wC_sr33 κ _ _ _) hl rfl rfl (Nat.le_of_ble_eq_true rfl) dX9_mergeInGroups_127 ⟨Nat.zero_le _, Nat.zero_le _⟩ (fun H locs h => ?_)
    refine lv_iinc (v := (a.1 + (-1))) (lv' := [(5, .int (a.1 + (-1))), (0, .ref (κ.2.1 0)), (1, .int k1), (2, .int k2)]) C.ex C.by dX9_mergeInGroups_130 hl (k := 3) rfl rfl (by decide) rfl (fun ls hl => ?_)
    refine lv_goto (tgt := 114) C.ex C.by dX9_mergeInGroups_133 (by decide) ?_
    exact Kc _ _ (Option.some.inj hf).symm _ _ _ h (lv_sub hl [1, 2, 3, 0] rfl)
theorem wlX9_mergeInGroups_114 {p : Program} {l : Launch} {e : Env} {s : State} {m : MethodId} {args : Array Value} {below : List Frame} {meth : Method} {c : Code} {A : Nat → Prop} {κ : zG} {H : Heap} {locs : List Loc} {ls : Array Slot} {Q : State → Prop} {n : Nat} {k1 : Int32} {k2 : Int32} {k0 : Nat} {u5 : Int32} {σ1 : zS} (C : zC cX9_mergeInGroups 6 (some .boolean) RX9 κ A p s m args meth c) (h : zH wC κ A s σ1 H locs) (hl : lv_has ls 6 [(0, .ref (κ.2.1 0)), (1, .int k1), (2, .int k2), (5, .int u5)]) (b : zS) (hb : zlp (fX9_mergeInGroups_L114_114 n (κ.2.2.2 0) (κ.2.2.2 1) (κ.2.2.2 2) k1 k2) k0 (u5, σ1) = some b) (K : (fun b : zS => ∀ (H : Heap) (locs : List Loc) (ls : Array Slot), zH wC κ A s b H locs → lv_has ls 6 [(0, .ref (κ.2.1 0)), (1, .int k1), (2, .int k2)] → W p l e rmX9_mergeInGroups s m args below meth c H locs 0 0 Q (F0 m 136 ls [])) b) : W p l e rmX9_mergeInGroups s m args below meth c H locs 0 0 Q (F0 m 114 ls []) :=
  z_loop (body := fX9_mergeInGroups_L114_114 n (κ.2.2.2 0) (κ.2.2.2 1) (κ.2.2.2 2) k1 k2) (Wd := (fun a : Int32 × zS => ∀ (H : Heap) (locs : List Loc) (ls : Array Slot), zH wC κ A s a.2 H locs → lv_has ls 6 [(0, .ref (κ.2.1 0)), (1, .int k1), (2, .int k2), (5, .int a.1)] → W p l e rmX9_mergeInGroups s m args below meth c H locs 0 0 Q (F0 m 114 ls []))) (Ex := (fun b : zS => (fun b : zS => ∀ (H : Heap) (locs : List Loc) (ls : Array Slot), zH wC κ A s b H locs → lv_has ls 6 [(0, .ref (κ.2.1 0)), (1, .int k1), (2, .int k2)] → W p l e rmX9_mergeInGroups s m args below meth c H locs 0 0 Q (F0 m 136 ls [])) b)) (fun a r hr Kc Ke H locs ls h hl => wX9_mergeInGroups_L114_114 C h hl hr (fun v5 σ1 e => Kc (v5, σ1) e) (fun σ1 e => Ke σ1 e)) k0 (u5, σ1) b hb K H locs ls h hl
set_option maxRecDepth 20000 in
set_option maxHeartbeats 4000000 in
theorem wX9_mergeInGroups_L2_136 {p : Program} {l : Launch} {e : Env} {s : State} {m : MethodId} {args : Array Value} {below : List Frame} {meth : Method} {c : Code} {A : Nat → Prop} {κ : zG} {H : Heap} {locs : List Loc} {ls : Array Slot} {Q : State → Prop} {n : Nat} {σ : zS} {k1 : Int32} {x2 : Int32} {r : (Int32 × zS) ⊕ ((zS) ⊕ (zS))} (C : zC cX9_mergeInGroups 6 (some .boolean) RX9 κ A p s m args meth c) (h : zH wC κ A s σ H locs) (hl : lv_has ls 6 [(0, .ref (κ.2.1 0)), (1, .int k1), (2, .int x2)]) (hf : fX9_mergeInGroups_L2_136 n (κ.2.2.2 0) (κ.2.2.2 1) (κ.2.2.2 2) σ k1 x2 = some r) (Kc : ∀ (v2 : Int32) (σ1 : zS), r = .inl (v2, σ1) → ∀ (H : Heap) (locs : List Loc) (ls : Array Slot), zH wC κ A s σ1 H locs → lv_has ls 6 [(0, .ref (κ.2.1 0)), (1, .int k1), (2, .int v2)] → W p l e rmX9_mergeInGroups s m args below meth c H locs 0 0 Q (F0 m 2 ls [])) (Ke0 : ∀ (σ1 : zS), r = .inr (.inl σ1) → ∀ (H : Heap) (locs : List Loc) (ls : Array Slot), zH wC κ A s σ1 H locs → lv_has ls 6 [(0, .ref (κ.2.1 0))] → W p l e rmX9_mergeInGroups s m args below meth c H locs 0 0 Q (F0 m 142 ls [])) (Ke1 : ∀ (σ1 : zS), r = .inr (.inr σ1) → ∀ (H : Heap) (locs : List Loc) (ls : Array Slot), zH wC κ A s σ1 H locs → lv_has ls 6 [(0, .ref (κ.2.1 0))] → W p l e rmX9_mergeInGroups s m args below meth c H locs 0 0 Q (F0 m 97 ls [])) : W p l e rmX9_mergeInGroups s m args below meth c H locs 0 0 Q (F0 m 136 ls []) := by
  unfold fX9_mergeInGroups_L2_136 at hf
  refine lv_iinc (v := (x2 + 1)) (lv' := [(2, .int (x2 + 1)), (0, .ref (κ.2.1 0)), (1, .int k1)]) C.ex C.by dX9_mergeInGroups_136 hl (k := 2) rfl rfl (by decide) rfl (fun ls hl => ?_)
  refine lv_goto (tgt := 2) C.ex C.by dX9_mergeInGroups_139 (by decide) ?_
  exact Kc _ _ (Option.some.inj hf).symm _ _ _ h (lv_sub hl [1, 2, 0] rfl)
set_option maxRecDepth 20000 in
set_option maxHeartbeats 4000000 in
theorem wX9_mergeInGroups_L2_2 {p : Program} {l : Launch} {e : Env} {s : State} {m : MethodId} {args : Array Value} {below : List Frame} {meth : Method} {c : Code} {A : Nat → Prop} {κ : zG} {H : Heap} {locs : List Loc} {ls : Array Slot} {Q : State → Prop} {n : Nat} {k1 : Int32} {a : Int32 × zS} {r : (Int32 × zS) ⊕ ((zS) ⊕ (zS))} (C : zC cX9_mergeInGroups 6 (some .boolean) RX9 κ A p s m args meth c) (h : zH wC κ A s a.2 H locs) (hl : lv_has ls 6 [(0, .ref (κ.2.1 0)), (1, .int k1), (2, .int a.1)]) (hf : fX9_mergeInGroups_L2_2 n (κ.2.2.2 0) (κ.2.2.2 1) (κ.2.2.2 2) k1 a = some r) (Kc : ∀ (v2 : Int32) (σ1 : zS), r = .inl (v2, σ1) → ∀ (H : Heap) (locs : List Loc) (ls : Array Slot), zH wC κ A s σ1 H locs → lv_has ls 6 [(0, .ref (κ.2.1 0)), (1, .int k1), (2, .int v2)] → W p l e rmX9_mergeInGroups s m args below meth c H locs 0 0 Q (F0 m 2 ls [])) (Ke0 : ∀ (σ1 : zS), r = .inr (.inl σ1) → ∀ (H : Heap) (locs : List Loc) (ls : Array Slot), zH wC κ A s σ1 H locs → lv_has ls 6 [(0, .ref (κ.2.1 0))] → W p l e rmX9_mergeInGroups s m args below meth c H locs 0 0 Q (F0 m 142 ls [])) (Ke1 : ∀ (σ1 : zS), r = .inr (.inr σ1) → ∀ (H : Heap) (locs : List Loc) (ls : Array Slot), zH wC κ A s σ1 H locs → lv_has ls 6 [(0, .ref (κ.2.1 0))] → W p l e rmX9_mergeInGroups s m args below meth c H locs 0 0 Q (F0 m 97 ls [])) : W p l e rmX9_mergeInGroups s m args below meth c H locs 0 0 Q (F0 m 2 ls []) := by
  unfold fX9_mergeInGroups_L2_2 at hf
  refine lv_iload_n C.ex C.by dX9_mergeInGroups_2 rfl (lv_at hl 2 rfl) ?_
  refine lv_aload_n C.ex C.by dX9_mergeInGroups_3 rfl (lv_at hl 0 rfl) ?_
  refine z_get (v := .ref (κ.2.1 33)) C h iwX9 0 (wC_at0 κ _) rfl 8 (by decide) lkC180 rfl dX9_mergeInGroups_4 ?_
  obtain ⟨q1, e2, hf⟩ := zb_some hf
  refine z_callRi (As := []) (x := (zI a.2 32)) (f := (zA a.2 16)) C h (ctX6_size (κ := zκR κ (κ.2.1 33) (κ.2.1 34) (κ.2.2.2 0)) e2) (zgV lkC181 lkC182 lkC183 lkC52 lkC184) ⟨rfl, rfl⟩ hdX6_size ⟨Nat.le_of_ble_eq_true rfl, Nat.le_of_ble_eq_true rfl⟩ 33 34 (by decide) (wC_at33 κ _) (wC_at34 κ _) a.2 (zset2 (wC_at33 κ _) (wC_at34 κ _)) hl rfl rfl (Nat.le_of_ble_eq_true rfl) dX9_mergeInGroups_7 ⟨Nat.zero_le _, Nat.zero_le _⟩ (fun H locs h => ?_)
  refine lv_icmp_ge (tgt := 142) C.ex C.by dX9_mergeInGroups_10 (by decide) (fun c3 => ?_) (fun c3 => ?_)
  · have hf := zif_t c3 hf
    exact Ke0 _ (Option.some.inj hf).symm _ _ _ h (lv_sub hl [0] rfl)
  · have hf := zif_f c3 hf
    refine lv_iload_n C.ex C.by dX9_mergeInGroups_13 rfl (lv_at hl 1 rfl) ?_
    refine lv_aload_n C.ex C.by dX9_mergeInGroups_14 rfl (lv_at hl 0 rfl) ?_
    refine z_get (v := .ref (κ.2.1 33)) C h iwX9 0 (wC_at0 κ _) rfl 8 (by decide) lkC180 rfl dX9_mergeInGroups_15 ?_
    obtain ⟨q4, e5, hf⟩ := zb_some hf
    refine z_callRi (As := []) (x := (zI a.2 32)) (f := (zA a.2 16)) C h (ctX6_size (κ := zκR κ (κ.2.1 33) (κ.2.1 34) (κ.2.2.2 0)) e5) (zgV lkC181 lkC182 lkC183 lkC52 lkC184) ⟨rfl, rfl⟩ hdX6_size ⟨Nat.le_of_ble_eq_true rfl, Nat.le_of_ble_eq_true rfl⟩ 33 34 (by decide) (wC_at33 κ _) (wC_at34 κ _) a.2 (zset2 (wC_at33 κ _) (wC_at34 κ _)) hl rfl rfl (Nat.le_of_ble_eq_true rfl) dX9_mergeInGroups_18 ⟨Nat.zero_le _, Nat.zero_le _⟩ (fun H locs h => ?_)
    refine lv_iload_n C.ex C.by dX9_mergeInGroups_21 rfl (lv_at hl 2 rfl) ?_
    refine lv_isub C.ex C.by dX9_mergeInGroups_22 ?_
    refine z_mmin C hl lkC185 lkC186 lkC4 lkC187 ⟨Nat.le_of_ble_eq_true rfl, Nat.le_of_ble_eq_true rfl⟩ ⟨Nat.zero_le _, Nat.zero_le _⟩ dX9_mergeInGroups_23 ?_
    refine lv_istore_n (lv' := [(3, .int (if (q4 - a.1) < k1 then (q4 - a.1) else k1)), (0, .ref (κ.2.1 0)), (1, .int k1), (2, .int a.1)]) C.ex C.by dX9_mergeInGroups_26 rfl hl (by decide) rfl (fun ls hl => ?_)
    refine lv_iload_n C.ex C.by dX9_mergeInGroups_27 rfl (lv_at hl 0 rfl) ?_
    refine lv_iconst (v := 1) C.ex C.by dX9_mergeInGroups_28 (by decide) ?_
    refine lv_icmp_le (tgt := 136) C.ex C.by dX9_mergeInGroups_29 (by decide) (fun c6 => ?_) (fun c6 => ?_)
    · have hf := zif_t c6 hf
      exact wX9_mergeInGroups_L2_136 C h (lv_sub hl [1, 2, 3] rfl) hf Kc Ke0 Ke1
    · have hf := zif_f c6 hf
      refine lv_aload_n C.ex C.by dX9_mergeInGroups_32 rfl (lv_at hl 1 rfl) ?_
      refine z_get (v := .ref (κ.2.1 23)) C h iwX9 0 (wC_at0 κ _) rfl 6 (by decide) lkC188 rfl dX9_mergeInGroups_33 ?_
      refine z_getN (v := .ref (κ.2.1 24)) C h iwX4 23 (wC_at23 κ _) rfl 4 (by decide) nkC13 rfl dX9_mergeInGroups_36 ?_
      obtain ⟨q7, e8, hf⟩ := zb_some hf
      refine z_callRv (As := []) (x := (zI a.2 29)) (f := (zA a.2 10)) C h (ctX6_clear (κ := zκR κ (κ.2.1 24) (κ.2.1 25) 8) e8) (zgV lkC189 lkC190 lkC191 lkC52 lkC192) ⟨rfl, rfl⟩ hdX6_clear ⟨Nat.le_of_ble_eq_true rfl, Nat.le_of_ble_eq_true rfl⟩ 24 25 (by decide) (wC_at24 κ _) (wC_at25 κ _) (sA (sI a.2 29 (zI q7 0)) 10 (zA q7 0)) (wC_sr24 κ _ _ _) hl rfl rfl (Nat.le_of_ble_eq_true rfl) dX9_mergeInGroups_39 ⟨Nat.zero_le _, Nat.zero_le _⟩ (fun H locs h => ?_)
      refine lv_iconst (v := 0) C.ex C.by dX9_mergeInGroups_42 (by decide) ?_
      refine lv_istore (lv' := [(4, .int 0), (3, .int (if (q4 - a.1) < k1 then (q4 - a.1) else k1)), (0, .ref (κ.2.1 0)), (1, .int k1), (2, .int a.1)]) C.ex C.by dX9_mergeInGroups_43 hl (by decide) rfl (fun ls hl => ?_)
      obtain ⟨b14, e15, hf⟩ := zb_some hf
      refine wlX9_mergeInGroups_45 C h (lv_sub hl [2, 3, 4, 1, 0] rfl) b14 e15 ?_
      intro H locs ls h hl
      refine lv_aload_n C.ex C.by dX9_mergeInGroups_78 rfl (lv_at hl 0 rfl) ?_
      refine z_get (v := .ref (κ.2.1 23)) C h iwX9 0 (wC_at0 κ _) rfl 6 (by decide) lkC188 rfl dX9_mergeInGroups_79 ?_
      refine lv_aload_n C.ex C.by dX9_mergeInGroups_82 rfl (lv_at hl 0 rfl) ?_
      refine z_get (v := .int (zI b14 0)) C h iwX9 0 (wC_at0 κ _) rfl 12 (by decide) lkC195 rfl dX9_mergeInGroups_83 ?_
      obtain ⟨q16, e17, hf⟩ := zb_some hf
      refine z_callVi (As := [.int (zI b14 0)]) C h (ctX4_merge (r1 := q16.1) (r2 := q16.2) e17) (zgV lkC258 lkC259 lkC260 lkC226 lkC261) ⟨rfl, rfl⟩ hdX4_merge ⟨Nat.le_of_ble_eq_true rfl, Nat.le_of_ble_eq_true rfl⟩ 23 (wC_at23 κ _) rfl hl rfl rfl (Nat.le_of_ble_eq_true rfl) dX9_mergeInGroups_86 ⟨Nat.zero_le _, Nat.zero_le _⟩ (fun H locs h => ?_)
      refine lv_istore (lv' := [(4, .int q16.1), (0, .ref (κ.2.1 0)), (1, .int k1), (2, .int a.1), (3, .int (if (q4 - a.1) < k1 then (q4 - a.1) else k1))]) C.ex C.by dX9_mergeInGroups_89 hl (by decide) rfl (fun ls hl => ?_)
      refine lv_iload C.ex C.by dX9_mergeInGroups_91 (lv_at hl 0 rfl) ?_
      refine lv_iconst (v := (-1)) C.ex C.by dX9_mergeInGroups_93 (by decide) ?_
      refine lv_icmp_ne (tgt := 99) C.ex C.by dX9_mergeInGroups_94 (by decide) (fun c18 => ?_) (fun c18 => ?_)
      · have hf := zif_f c18 hf
        refine lv_aload_n C.ex C.by dX9_mergeInGroups_99 rfl (lv_at hl 1 rfl) ?_
        refine z_get (v := .ref (κ.2.1 33)) C h iwX9 0 (wC_at0 κ _) rfl 8 (by decide) lkC180 rfl dX9_mergeInGroups_100 ?_
        refine lv_iload_n C.ex C.by dX9_mergeInGroups_103 rfl (lv_at hl 3 rfl) ?_
        refine lv_iload C.ex C.by dX9_mergeInGroups_104 (lv_at hl 0 rfl) ?_
        obtain ⟨q19, e20, hf⟩ := zb_some hf
        refine z_callRv (As := [.int a.1, .int q16.1]) (x := (zI q16.2 32)) (f := (zA q16.2 16)) C h (ctX6_set (κ := zκR κ (κ.2.1 33) (κ.2.1 34) (κ.2.2.2 0)) e20) (zgV lkC262 lkC263 lkC264 lkC52 lkC265) ⟨rfl, rfl⟩ hdX6_set ⟨Nat.le_of_ble_eq_true rfl, Nat.le_of_ble_eq_true rfl⟩ 33 34 (by decide) (wC_at33 κ _) (wC_at34 κ _) (sA (sI q16.2 32 (zI q19 0)) 16 (zA q19 0)) (wC_sr33 κ _ _ _) hl rfl rfl (Nat.le_of_ble_eq_true rfl) dX9_mergeInGroups_106 ⟨Nat.zero_le _, Nat.zero_le _⟩ (fun H locs h => ?_)
        refine lv_iload_n C.ex C.by dX9_mergeInGroups_109 rfl (lv_at hl 4 rfl) ?_
        refine lv_iconst (v := 1) C.ex C.by dX9_mergeInGroups_110 (by decide) ?_
        refine lv_isub C.ex C.by dX9_mergeInGroups_111 ?_
        refine lv_istore (lv' := [(5, .int ((if (q4 - a.1) < k1 then (q4 - a.1) else k1) - 1)), (4, .int q16.1), (0, .ref (κ.2.1 0)), (1, .int k1), (2, .int a.1), (3, .int (if (q4 - a.1) < k1 then (q4 - a.1) else k1))]) C.ex C.by dX9_mergeInGroups_112 hl (by decide) rfl (fun ls hl => ?_)
        obtain ⟨b24, e25, hf⟩ := zb_some hf
        refine wlX9_mergeInGroups_114 C h (lv_sub hl [2, 3, 4, 0] rfl) b24 e25 ?_
        intro H locs ls h hl
        exact wX9_mergeInGroups_L2_136 C h hl hf Kc Ke0 Ke1
      · have hf := zif_t c18 hf
        exact Ke1 _ (Option.some.inj hf).symm _ _ _ h (lv_sub hl [1] rfl)
theorem wlX9_mergeInGroups_2 {p : Program} {l : Launch} {e : Env} {s : State} {m : MethodId} {args : Array Value} {below : List Frame} {meth : Method} {c : Code} {A : Nat → Prop} {κ : zG} {H : Heap} {locs : List Loc} {ls : Array Slot} {Q : State → Prop} {n : Nat} {k1 : Int32} {k0 : Nat} {u2 : Int32} {σ1 : zS} (C : zC cX9_mergeInGroups 6 (some .boolean) RX9 κ A p s m args meth c) (h : zH wC κ A s σ1 H locs) (hl : lv_has ls 6 [(0, .ref (κ.2.1 0)), (1, .int k1), (2, .int u2)]) (b : (zS) ⊕ (zS)) (hb : zlp (fX9_mergeInGroups_L2_2 n (κ.2.2.2 0) (κ.2.2.2 1) (κ.2.2.2 2) k1) k0 (u2, σ1) = some b) (K : (fun b => Sum.elim (fun b : zS => ∀ (H : Heap) (locs : List Loc) (ls : Array Slot), zH wC κ A s b H locs → lv_has ls 6 [(0, .ref (κ.2.1 0))] → W p l e rmX9_mergeInGroups s m args below meth c H locs 0 0 Q (F0 m 142 ls [])) (fun b : zS => ∀ (H : Heap) (locs : List Loc) (ls : Array Slot), zH wC κ A s b H locs → lv_has ls 6 [(0, .ref (κ.2.1 0))] → W p l e rmX9_mergeInGroups s m args below meth c H locs 0 0 Q (F0 m 97 ls [])) b) b) : W p l e rmX9_mergeInGroups s m args below meth c H locs 0 0 Q (F0 m 2 ls []) :=
  z_loop (body := fX9_mergeInGroups_L2_2 n (κ.2.2.2 0) (κ.2.2.2 1) (κ.2.2.2 2) k1) (Wd := (fun a : Int32 × zS => ∀ (H : Heap) (locs : List Loc) (ls : Array Slot), zH wC κ A s a.2 H locs → lv_has ls 6 [(0, .ref (κ.2.1 0)), (1, .int k1), (2, .int a.1)] → W p l e rmX9_mergeInGroups s m args below meth c H locs 0 0 Q (F0 m 2 ls []))) (Ex := (fun b : (zS) ⊕ (zS) => (fun b => Sum.elim (fun b : zS => ∀ (H : Heap) (locs : List Loc) (ls : Array Slot), zH wC κ A s b H locs → lv_has ls 6 [(0, .ref (κ.2.1 0))] → W p l e rmX9_mergeInGroups s m args below meth c H locs 0 0 Q (F0 m 142 ls [])) (fun b : zS => ∀ (H : Heap) (locs : List Loc) (ls : Array Slot), zH wC κ A s b H locs → lv_has ls 6 [(0, .ref (κ.2.1 0))] → W p l e rmX9_mergeInGroups s m args below meth c H locs 0 0 Q (F0 m 97 ls [])) b) b)) (fun a r hr Kc Ke H locs ls h hl => wX9_mergeInGroups_L2_2 C h hl hr (fun v2 σ1 e => Kc (v2, σ1) e) (fun σ1 e => Ke (.inl σ1) e) (fun σ1 e => Ke (.inr σ1) e)) k0 (u2, σ1) b hb K H locs ls h hl
set_option maxRecDepth 20000 in
set_option maxHeartbeats 4000000 in
theorem wX9_mergeInGroups_0 {p : Program} {l : Launch} {e : Env} {s : State} {m : MethodId} {args : Array Value} {below : List Frame} {meth : Method} {c : Code} {A : Nat → Prop} {κ : zG} {H : Heap} {locs : List Loc} {ls : Array Slot} {n : Nat} {σ : zS} {x1 : Int32} {r1 : Int32} {r2 : zS} (C : zC cX9_mergeInGroups 6 (some .boolean) RX9 κ A p s m args meth c) (h : zH wC κ A s σ H locs) (hl : lv_has ls 6 [(0, .ref (κ.2.1 0)), (1, .int x1)]) (hf : fX9_mergeInGroups_0 n (κ.2.2.2 0) (κ.2.2.2 1) (κ.2.2.2 2) σ x1 = some (r1, r2)) : W p l e rmX9_mergeInGroups s m args below meth c H locs 0 0 (MQ below (zQi wC κ A r1 r2) args s 0 0 A) (F0 m 0 ls []) := by
  unfold fX9_mergeInGroups_0 at hf
  refine lv_iconst (v := 0) C.ex C.by dX9_mergeInGroups_0 (by decide) ?_
  refine lv_istore_n (lv' := [(2, .int 0), (0, .ref (κ.2.1 0)), (1, .int x1)]) C.ex C.by dX9_mergeInGroups_1 rfl hl (by decide) rfl (fun ls hl => ?_)
  obtain ⟨b26, e27, hf⟩ := zb_some hf
  refine wlX9_mergeInGroups_2 C h (lv_sub hl [1, 2, 0] rfl) b26 e27 ?_
  rcases b26 with b26 | b26
  · dsimp only [Sum.elim_inl] at hf
    intro H locs ls h hl
    refine lv_iconst (v := 1) C.ex C.by dX9_mergeInGroups_142 (by decide) ?_
    cases hf
    exact z_zret (r := 1) C h rfl dX9_mergeInGroups_143
  · dsimp only [Sum.elim_inr] at hf
    intro H locs ls h hl
    refine lv_iconst (v := 0) C.ex C.by dX9_mergeInGroups_97 (by decide) ?_
    cases hf
    exact z_zret (r := 0) C h rfl dX9_mergeInGroups_98
theorem ctX9_mergeInGroups {l : Launch} {κ : zG} {n : Nat} {σ : zS} {x1 : Int32} {r1 : Int32} {r2 : zS} (hf : fX9_mergeInGroups_0 n (κ.2.2.2 0) (κ.2.2.2 1) (κ.2.2.2 2) σ x1 = some (r1, r2)) : zMi l yX9_mergeInGroups (Cond.code yX9_mergeInGroups cX9_mergeInGroups 6 (some .boolean)) rmX9_mergeInGroups wC κ [.ref (κ.2.1 0), .int x1] σ r1 r2 :=
  zMi_of (by decide) (Nat.le_of_ble_eq_true rfl) (fun p e s m below meth c A C h ls hl => wX9_mergeInGroups_0 C h hl hf)
theorem hdX9_chooseFewest : yX9_chooseFewest.cls = RX9 ∧ yX9_chooseFewest.cls ≠ "java/lang/invoke/MethodHandle" ∧ yX9_chooseFewest.cls ≠ "java/lang/invoke/VarHandle" ∧ (parseMethodDescriptor yX9_chooseFewest.desc).map (fun d => d.parameters.length) = some 1 := by decide +kernel
abbrev rmX9_chooseFewest : Room := { frames := 1, cells := 0, slots := 0, locals := 21 }
set_option maxRecDepth 20000 in
set_option maxHeartbeats 4000000 in
theorem wX9_chooseFewest_L18_18 {p : Program} {l : Launch} {e : Env} {s : State} {m : MethodId} {args : Array Value} {below : List Frame} {meth : Method} {c : Code} {A : Nat → Prop} {κ : zG} {H : Heap} {locs : List Loc} {ls : Array Slot} {Q : State → Prop} {n : Nat} {k1 : Int32} {k2 : Int32} {a : Int32 × zS} {r : (Int32 × zS) ⊕ (zS)} (C : zC cX9_chooseFewest 6 none RX9 κ A p s m args meth c) (h : zH wC κ A s a.2 H locs) (hl : lv_has ls 6 [(0, .ref (κ.2.1 0)), (1, .int k1), (2, .int k2), (3, .int a.1)]) (hf : fX9_chooseFewest_L18_18 n (κ.2.2.2 0) (κ.2.2.2 1) (κ.2.2.2 2) k1 k2 a = some r) (Kc : ∀ (v3 : Int32) (σ1 : zS), r = .inl (v3, σ1) → ∀ (H : Heap) (locs : List Loc) (ls : Array Slot), zH wC κ A s σ1 H locs → lv_has ls 6 [(0, .ref (κ.2.1 0)), (1, .int k1), (2, .int k2), (3, .int v3)] → W p l e rmX9_chooseFewest s m args below meth c H locs 0 0 Q (F0 m 18 ls [])) (Ke0 : ∀ (σ1 : zS), r = .inr σ1 → ∀ (H : Heap) (locs : List Loc) (ls : Array Slot), zH wC κ A s σ1 H locs → lv_has ls 6 [(0, .ref (κ.2.1 0)), (1, .int k1), (2, .int k2)] → W p l e rmX9_chooseFewest s m args below meth c H locs 0 0 Q (F0 m 36 ls [])) : W p l e rmX9_chooseFewest s m args below meth c H locs 0 0 Q (F0 m 18 ls []) := by
  unfold fX9_chooseFewest_L18_18 at hf
  refine lv_iload_n C.ex C.by dX9_chooseFewest_18 rfl (lv_at hl 3 rfl) ?_
  refine lv_iload_n C.ex C.by dX9_chooseFewest_19 rfl (lv_at hl 2 rfl) ?_
  refine lv_icmp_ge (tgt := 36) C.ex C.by dX9_chooseFewest_20 (by decide) (fun c3 => ?_) (fun c3 => ?_)
  · have hf := zif_t c3 hf
    exact Ke0 _ (Option.some.inj hf).symm _ _ _ h (lv_sub hl [0, 1, 2] rfl)
  · have hf := zif_f c3 hf
    refine lv_aload_n C.ex C.by dX9_chooseFewest_23 rfl (lv_at hl 0 rfl) ?_
    refine z_get (v := .ref (κ.2.1 36)) C h iwX9 0 (wC_at0 κ _) rfl 10 (by decide) lkC270 rfl dX9_chooseFewest_24 ?_
    refine lv_iload_n C.ex C.by dX9_chooseFewest_27 rfl (lv_at hl 3 rfl) ?_
    refine lv_iconst (v := 0) C.ex C.by dX9_chooseFewest_28 (by decide) ?_
    obtain ⟨h4, hf⟩ := zg_some hf
    refine z_zast (f := (zA a.2 17)) C h 36 (wC_at36 κ _) h4 (sA a.2 17 (upd (zA a.2 17) (Int32.toNatClampNeg a.1) (vp_nar .boolean 0))) (wC_s36 κ _ _) dX9_chooseFewest_29 (fun H locs h => ?_)
    refine lv_iinc (v := (a.1 + 1)) (lv' := [(3, .int (a.1 + 1)), (0, .ref (κ.2.1 0)), (1, .int k1), (2, .int k2)]) C.ex C.by dX9_chooseFewest_30 hl (k := 3) rfl rfl (by decide) rfl (fun ls hl => ?_)
    refine lv_goto (tgt := 18) C.ex C.by dX9_chooseFewest_33 (by decide) ?_
    exact Kc _ _ (Option.some.inj hf).symm _ _ _ h (lv_sub hl [1, 2, 3, 0] rfl)
theorem wlX9_chooseFewest_18 {p : Program} {l : Launch} {e : Env} {s : State} {m : MethodId} {args : Array Value} {below : List Frame} {meth : Method} {c : Code} {A : Nat → Prop} {κ : zG} {H : Heap} {locs : List Loc} {ls : Array Slot} {Q : State → Prop} {n : Nat} {k1 : Int32} {k2 : Int32} {k0 : Nat} {u3 : Int32} {σ1 : zS} (C : zC cX9_chooseFewest 6 none RX9 κ A p s m args meth c) (h : zH wC κ A s σ1 H locs) (hl : lv_has ls 6 [(0, .ref (κ.2.1 0)), (1, .int k1), (2, .int k2), (3, .int u3)]) (b : zS) (hb : zlp (fX9_chooseFewest_L18_18 n (κ.2.2.2 0) (κ.2.2.2 1) (κ.2.2.2 2) k1 k2) k0 (u3, σ1) = some b) (K : (fun b : zS => ∀ (H : Heap) (locs : List Loc) (ls : Array Slot), zH wC κ A s b H locs → lv_has ls 6 [(0, .ref (κ.2.1 0)), (1, .int k1), (2, .int k2)] → W p l e rmX9_chooseFewest s m args below meth c H locs 0 0 Q (F0 m 36 ls [])) b) : W p l e rmX9_chooseFewest s m args below meth c H locs 0 0 Q (F0 m 18 ls []) :=
  z_loop (body := fX9_chooseFewest_L18_18 n (κ.2.2.2 0) (κ.2.2.2 1) (κ.2.2.2 2) k1 k2) (Wd := (fun a : Int32 × zS => ∀ (H : Heap) (locs : List Loc) (ls : Array Slot), zH wC κ A s a.2 H locs → lv_has ls 6 [(0, .ref (κ.2.1 0)), (1, .int k1), (2, .int k2), (3, .int a.1)] → W p l e rmX9_chooseFewest s m args below meth c H locs 0 0 Q (F0 m 18 ls []))) (Ex := (fun b : zS => (fun b : zS => ∀ (H : Heap) (locs : List Loc) (ls : Array Slot), zH wC κ A s b H locs → lv_has ls 6 [(0, .ref (κ.2.1 0)), (1, .int k1), (2, .int k2)] → W p l e rmX9_chooseFewest s m args below meth c H locs 0 0 Q (F0 m 36 ls [])) b)) (fun a r hr Kc Ke H locs ls h hl => wX9_chooseFewest_L18_18 C h hl hr (fun v3 σ1 e => Kc (v3, σ1) e) (fun σ1 e => Ke σ1 e)) k0 (u3, σ1) b hb K H locs ls h hl
set_option maxRecDepth 20000 in
set_option maxHeartbeats 4000000 in
theorem wX9_chooseFewest_L48_109 {p : Program} {l : Launch} {e : Env} {s : State} {m : MethodId} {args : Array Value} {below : List Frame} {meth : Method} {c : Code} {A : Nat → Prop} {κ : zG} {H : Heap} {locs : List Loc} {ls : Array Slot} {Q : State → Prop} {n : Nat} {σ : zS} {k2 : Int32} {k3 : Int32} {x4 : Int32} {x5 : Int32} {r : (Int32 × Int32) ⊕ (Int32)} (C : zC cX9_chooseFewest 6 none RX9 κ A p s m args meth c) (h : zH wC κ A s σ H locs) (hl : lv_has ls 6 [(0, .ref (κ.2.1 0)), (2, .int k2), (3, .int k3), (4, .int x4), (5, .int x5)]) (hf : fX9_chooseFewest_L48_109 n (κ.2.2.2 0) (κ.2.2.2 1) (κ.2.2.2 2) σ k2 k3 x4 x5 = some r) (Kc : ∀ (v4 : Int32) (v5 : Int32), r = .inl (v4, v5) → ∀ (H : Heap) (locs : List Loc) (ls : Array Slot), zH wC κ A s σ H locs → lv_has ls 6 [(0, .ref (κ.2.1 0)), (2, .int k2), (3, .int k3), (4, .int v4), (5, .int v5)] → W p l e rmX9_chooseFewest s m args below meth c H locs 0 0 Q (F0 m 48 ls [])) (Ke0 : ∀ (v4 : Int32), r = .inr v4 → ∀ (H : Heap) (locs : List Loc) (ls : Array Slot), zH wC κ A s σ H locs → lv_has ls 6 [(0, .ref (κ.2.1 0)), (2, .int k2), (3, .int k3), (4, .int v4)] → W p l e rmX9_chooseFewest s m args below meth c H locs 0 0 Q (F0 m 115 ls [])) : W p l e rmX9_chooseFewest s m args below meth c H locs 0 0 Q (F0 m 109 ls []) := by
  unfold fX9_chooseFewest_L48_109 at hf
  refine lv_iinc (v := (x5 + 1)) (lv' := [(5, .int (x5 + 1)), (0, .ref (κ.2.1 0)), (2, .int k2), (3, .int k3), (4, .int x4)]) C.ex C.by dX9_chooseFewest_109 hl (k := 4) rfl rfl (by decide) rfl (fun ls hl => ?_)
  refine lv_goto (tgt := 48) C.ex C.by dX9_chooseFewest_112 (by decide) ?_
  exact Kc _ _ (Option.some.inj hf).symm _ _ _ h (lv_sub hl [1, 2, 3, 4, 0] rfl)
set_option maxRecDepth 20000 in
set_option maxHeartbeats 4000000 in
theorem wX9_chooseFewest_L48_105 {p : Program} {l : Launch} {e : Env} {s : State} {m : MethodId} {args : Array Value} {below : List Frame} {meth : Method} {c : Code} {A : Nat → Prop} {κ : zG} {H : Heap} {locs : List Loc} {ls : Array Slot} {Q : State → Prop} {n : Nat} {σ : zS} {k2 : Int32} {k3 : Int32} {x5 : Int32} {r : (Int32 × Int32) ⊕ (Int32)} (C : zC cX9_chooseFewest 6 none RX9 κ A p s m args meth c) (h : zH wC κ A s σ H locs) (hl : lv_has ls 6 [(0, .ref (κ.2.1 0)), (2, .int k2), (3, .int k3), (5, .int x5)]) (hf : fX9_chooseFewest_L48_105 n (κ.2.2.2 0) (κ.2.2.2 1) (κ.2.2.2 2) σ k2 k3 x5 = some r) (Kc : ∀ (v4 : Int32) (v5 : Int32), r = .inl (v4, v5) → ∀ (H : Heap) (locs : List Loc) (ls : Array Slot), zH wC κ A s σ H locs → lv_has ls 6 [(0, .ref (κ.2.1 0)), (2, .int k2), (3, .int k3), (4, .int v4), (5, .int v5)] → W p l e rmX9_chooseFewest s m args below meth c H locs 0 0 Q (F0 m 48 ls [])) (Ke0 : ∀ (v4 : Int32), r = .inr v4 → ∀ (H : Heap) (locs : List Loc) (ls : Array Slot), zH wC κ A s σ H locs → lv_has ls 6 [(0, .ref (κ.2.1 0)), (2, .int k2), (3, .int k3), (4, .int v4)] → W p l e rmX9_chooseFewest s m args below meth c H locs 0 0 Q (F0 m 115 ls [])) : W p l e rmX9_chooseFewest s m args below meth c H locs 0 0 Q (F0 m 105 ls []) := by
  unfold fX9_chooseFewest_L48_105 at hf
  refine lv_iload C.ex C.by dX9_chooseFewest_105 (lv_at hl 3 rfl) ?_
  refine lv_istore (lv' := [(4, .int x5), (0, .ref (κ.2.1 0)), (2, .int k2), (3, .int k3), (5, .int x5)]) C.ex C.by dX9_chooseFewest_107 hl (by decide) rfl (fun ls hl => ?_)
  exact wX9_chooseFewest_L48_109 C h (lv_sub hl [1, 2, 3, 0, 4] rfl) hf Kc Ke0
set_option maxRecDepth 20000 in
set_option maxHeartbeats 4000000 in
theorem wX9_chooseFewest_L48_48 {p : Program} {l : Launch} {e : Env} {s : State} {m : MethodId} {args : Array Value} {below : List Frame} {meth : Method} {c : Code} {A : Nat → Prop} {κ : zG} {H : Heap} {locs : List Loc} {ls : Array Slot} {Q : State → Prop} {n : Nat} {σ : zS} {k2 : Int32} {k3 : Int32} {a : Int32 × Int32} {r : (Int32 × Int32) ⊕ (Int32)} (C : zC cX9_chooseFewest 6 none RX9 κ A p s m args meth c) (h : zH wC κ A s σ H locs) (hl : lv_has ls 6 [(0, .ref (κ.2.1 0)), (2, .int k2), (3, .int k3), (4, .int a.1), (5, .int a.2)]) (hf : fX9_chooseFewest_L48_48 n (κ.2.2.2 0) (κ.2.2.2 1) (κ.2.2.2 2) σ k2 k3 a = some r) (Kc : ∀ (v4 : Int32) (v5 : Int32), r = .inl (v4, v5) → ∀ (H : Heap) (locs : List Loc) (ls : Array Slot), zH wC κ A s σ H locs → lv_has ls 6 [(0, .ref (κ.2.1 0)), (2, .int k2), (3, .int k3), (4, .int v4), (5, .int v5)] → W p l e rmX9_chooseFewest s m args below meth c H locs 0 0 Q (F0 m 48 ls [])) (Ke0 : ∀ (v4 : Int32), r = .inr v4 → ∀ (H : Heap) (locs : List Loc) (ls : Array Slot), zH wC κ A s σ H locs → lv_has ls 6 [(0, .ref (κ.2.1 0)), (2, .int k2), (3, .int k3), (4, .int v4)] → W p l e rmX9_chooseFewest s m args below meth c H locs 0 0 Q (F0 m 115 ls [])) : W p l e rmX9_chooseFewest s m args below meth c H locs 0 0 Q (F0 m 48 ls []) := by
  unfold fX9_chooseFewest_L48_48 at hf
  refine lv_iload C.ex C.by dX9_chooseFewest_48 (lv_at hl 4 rfl) ?_
  refine lv_iload_n C.ex C.by dX9_chooseFewest_50 rfl (lv_at hl 1 rfl) ?_
  refine lv_icmp_ge (tgt := 115) C.ex C.by dX9_chooseFewest_51 (by decide) (fun c8 => ?_) (fun c8 => ?_)
  · have hf := zif_t c8 hf
    exact Ke0 _ (Option.some.inj hf).symm _ _ _ h (lv_sub hl [0, 1, 2, 3] rfl)
  · have hf := zif_f c8 hf
    refine lv_aload_n C.ex C.by dX9_chooseFewest_54 rfl (lv_at hl 0 rfl) ?_
    refine z_get (v := .ref (κ.2.1 36)) C h iwX9 0 (wC_at0 κ _) rfl 10 (by decide) lkC270 rfl dX9_chooseFewest_55 ?_
    refine lv_iload C.ex C.by dX9_chooseFewest_58 (lv_at hl 4 rfl) ?_
    obtain ⟨h9, hf⟩ := zg_some hf
    refine z_zald (f := (zA σ 17)) C h 36 (wC_at36 κ _) h9 dX9_chooseFewest_60 ?_
    refine lv_if_ne (tgt := 109) C.ex C.by dX9_chooseFewest_61 (by decide) (fun c10 => ?_) (fun c10 => ?_)
    · have hf := zif_f c10 hf
      exact wX9_chooseFewest_L48_109 C h hl hf Kc Ke0
    · have hf := zif_t c10 hf
      refine lv_iload C.ex C.by dX9_chooseFewest_64 (lv_at hl 3 rfl) ?_
      refine lv_iconst (v := (-1)) C.ex C.by dX9_chooseFewest_66 (by decide) ?_
      refine lv_icmp_eq (tgt := 105) C.ex C.by dX9_chooseFewest_67 (by decide) (fun c11 => ?_) (fun c11 => ?_)
      · have hf := zif_t c11 hf
        exact wX9_chooseFewest_L48_105 C h (lv_sub hl [0, 1, 2, 4] rfl) hf Kc Ke0
      · have hf := zif_f c11 hf
        refine lv_aload_n C.ex C.by dX9_chooseFewest_70 rfl (lv_at hl 0 rfl) ?_
        refine z_get (v := .ref (κ.2.1 7)) C h iwX9 0 (wC_at0 κ _) rfl 2 (by decide) lkC6 rfl dX9_chooseFewest_71 ?_
        refine lv_aload_n C.ex C.by dX9_chooseFewest_74 rfl (lv_at hl 0 rfl) ?_
        refine z_get (v := .ref (κ.2.1 33)) C h iwX9 0 (wC_at0 κ _) rfl 8 (by decide) lkC180 rfl dX9_chooseFewest_75 ?_
        refine lv_iload C.ex C.by dX9_chooseFewest_78 (lv_at hl 4 rfl) ?_
        obtain ⟨q12, e13, hf⟩ := zb_some hf
        refine z_callRi (As := [.int a.2]) (x := (zI σ 32)) (f := (zA σ 16)) C h (ctX6_get (κ := zκR κ (κ.2.1 33) (κ.2.1 34) (κ.2.2.2 0)) e13) (zgV lkC193 lkC50 lkC51 lkC52 lkC53) ⟨rfl, rfl⟩ hdX6_get ⟨Nat.le_of_ble_eq_true rfl, Nat.le_of_ble_eq_true rfl⟩ 33 34 (by decide) (wC_at33 κ _) (wC_at34 κ _) σ (zset2 (wC_at33 κ _) (wC_at34 κ _)) hl rfl rfl (Nat.le_of_ble_eq_true rfl) dX9_chooseFewest_80 ⟨Nat.zero_le _, Nat.zero_le _⟩ (fun H locs h => ?_)
        obtain ⟨q14, e15, hf⟩ := zb_some hf
        refine z_callVi (As := [.int q12]) C h (ctX1_heldBy e15) (zgV lkC271 lkC220 lkC221 lkC11 lkC222) ⟨rfl, rfl⟩ hdX1_heldBy ⟨Nat.le_of_ble_eq_true rfl, Nat.le_of_ble_eq_true rfl⟩ 7 (wC_at7 κ _) rfl hl rfl rfl (Nat.le_of_ble_eq_true rfl) dX9_chooseFewest_83 ⟨Nat.zero_le _, Nat.zero_le _⟩ (fun H locs h => ?_)
        refine lv_aload_n C.ex C.by dX9_chooseFewest_86 rfl (lv_at hl 0 rfl) ?_
        refine z_get (v := .ref (κ.2.1 7)) C h iwX9 0 (wC_at0 κ _) rfl 2 (by decide) lkC6 rfl dX9_chooseFewest_87 ?_
        refine lv_aload_n C.ex C.by dX9_chooseFewest_90 rfl (lv_at hl 0 rfl) ?_
        refine z_get (v := .ref (κ.2.1 33)) C h iwX9 0 (wC_at0 κ _) rfl 8 (by decide) lkC180 rfl dX9_chooseFewest_91 ?_
        refine lv_iload C.ex C.by dX9_chooseFewest_94 (lv_at hl 3 rfl) ?_
        obtain ⟨q16, e17, hf⟩ := zb_some hf
        refine z_callRi (As := [.int a.1]) (x := (zI σ 32)) (f := (zA σ 16)) C h (ctX6_get (κ := zκR κ (κ.2.1 33) (κ.2.1 34) (κ.2.2.2 0)) e17) (zgV lkC193 lkC50 lkC51 lkC52 lkC53) ⟨rfl, rfl⟩ hdX6_get ⟨Nat.le_of_ble_eq_true rfl, Nat.le_of_ble_eq_true rfl⟩ 33 34 (by decide) (wC_at33 κ _) (wC_at34 κ _) σ (zset2 (wC_at33 κ _) (wC_at34 κ _)) hl rfl rfl (Nat.le_of_ble_eq_true rfl) dX9_chooseFewest_96 ⟨Nat.zero_le _, Nat.zero_le _⟩ (fun H locs h => ?_)
        obtain ⟨q18, e19, hf⟩ := zb_some hf
        refine z_callVi (As := [.int q16]) C h (ctX1_heldBy e19) (zgV lkC271 lkC220 lkC221 lkC11 lkC222) ⟨rfl, rfl⟩ hdX1_heldBy ⟨Nat.le_of_ble_eq_true rfl, Nat.le_of_ble_eq_true rfl⟩ 7 (wC_at7 κ _) rfl hl rfl rfl (Nat.le_of_ble_eq_true rfl) dX9_chooseFewest_99 ⟨Nat.zero_le _, Nat.zero_le _⟩ (fun H locs h => ?_)
        refine lv_icmp_ge (tgt := 109) C.ex C.by dX9_chooseFewest_102 (by decide) (fun c20 => ?_) (fun c20 => ?_)
        · have hf := zif_t c20 hf
          exact wX9_chooseFewest_L48_109 C h hl hf Kc Ke0
        · have hf := zif_f c20 hf
          exact wX9_chooseFewest_L48_105 C h (lv_sub hl [0, 1, 2, 4] rfl) hf Kc Ke0
theorem wlX9_chooseFewest_48 {p : Program} {l : Launch} {e : Env} {s : State} {m : MethodId} {args : Array Value} {below : List Frame} {meth : Method} {c : Code} {A : Nat → Prop} {κ : zG} {H : Heap} {locs : List Loc} {ls : Array Slot} {Q : State → Prop} {n : Nat} {σ : zS} {k2 : Int32} {k3 : Int32} {k0 : Nat} {u4 : Int32} {u5 : Int32} (C : zC cX9_chooseFewest 6 none RX9 κ A p s m args meth c) (h : zH wC κ A s σ H locs) (hl : lv_has ls 6 [(0, .ref (κ.2.1 0)), (2, .int k2), (3, .int k3), (4, .int u4), (5, .int u5)]) (b : Int32) (hb : zlp (fX9_chooseFewest_L48_48 n (κ.2.2.2 0) (κ.2.2.2 1) (κ.2.2.2 2) σ k2 k3) k0 (u4, u5) = some b) (K : (fun b : Int32 => ∀ (H : Heap) (locs : List Loc) (ls : Array Slot), zH wC κ A s σ H locs → lv_has ls 6 [(0, .ref (κ.2.1 0)), (2, .int k2), (3, .int k3), (4, .int b)] → W p l e rmX9_chooseFewest s m args below meth c H locs 0 0 Q (F0 m 115 ls [])) b) : W p l e rmX9_chooseFewest s m args below meth c H locs 0 0 Q (F0 m 48 ls []) :=
  z_loop (body := fX9_chooseFewest_L48_48 n (κ.2.2.2 0) (κ.2.2.2 1) (κ.2.2.2 2) σ k2 k3) (Wd := (fun a : Int32 × Int32 => ∀ (H : Heap) (locs : List Loc) (ls : Array Slot), zH wC κ A s σ H locs → lv_has ls 6 [(0, .ref (κ.2.1 0)), (2, .int k2), (3, .int k3), (4, .int a.1), (5, .int a.2)] → W p l e rmX9_chooseFewest s m args below meth c H locs 0 0 Q (F0 m 48 ls []))) (Ex := (fun b : Int32 => (fun b : Int32 => ∀ (H : Heap) (locs : List Loc) (ls : Array Slot), zH wC κ A s σ H locs → lv_has ls 6 [(0, .ref (κ.2.1 0)), (2, .int k2), (3, .int k3), (4, .int b)] → W p l e rmX9_chooseFewest s m args below meth c H locs 0 0 Q (F0 m 115 ls [])) b)) (fun a r hr Kc Ke H locs ls h hl => wX9_chooseFewest_L48_48 C h hl hr (fun v4 v5 e => Kc (v4, v5) e) (fun v4 e => Ke v4 e)) k0 (u4, u5) b hb K H locs ls h hl
set_option maxRecDepth 20000 in
set_option maxHeartbeats 4000000 in
theorem wX9_chooseFewest_L38_129 {p : Program} {l : Launch} {e : Env} {s : State} {m : MethodId} {args : Array Value} {below : List Frame} {meth : Method} {c : Code} {A : Nat → Prop} {κ : zG} {H : Heap} {locs : List Loc} {ls : Array Slot} {Q : State → Prop} {n : Nat} {σ : zS} {k2 : Int32} {x3 : Int32} {r : (Int32 × zS) ⊕ (zS)} (C : zC cX9_chooseFewest 6 none RX9 κ A p s m args meth c) (h : zH wC κ A s σ H locs) (hl : lv_has ls 6 [(0, .ref (κ.2.1 0)), (2, .int k2), (3, .int x3)]) (hf : fX9_chooseFewest_L38_129 n (κ.2.2.2 0) (κ.2.2.2 1) (κ.2.2.2 2) σ k2 x3 = some r) (Kc : ∀ (v3 : Int32) (σ1 : zS), r = .inl (v3, σ1) → ∀ (H : Heap) (locs : List Loc) (ls : Array Slot), zH wC κ A s σ1 H locs → lv_has ls 6 [(0, .ref (κ.2.1 0)), (2, .int k2), (3, .int v3)] → W p l e rmX9_chooseFewest s m args below meth c H locs 0 0 Q (F0 m 38 ls [])) (Ke0 : ∀ (σ1 : zS), r = .inr σ1 → ∀ (H : Heap) (locs : List Loc) (ls : Array Slot), zH wC κ A s σ1 H locs → lv_has ls 6 [(0, .ref (κ.2.1 0)), (2, .int k2)] → W p l e rmX9_chooseFewest s m args below meth c H locs 0 0 Q (F0 m 135 ls [])) : W p l e rmX9_chooseFewest s m args below meth c H locs 0 0 Q (F0 m 129 ls []) := by
  unfold fX9_chooseFewest_L38_129 at hf
  refine lv_iinc (v := (x3 + (-1))) (lv' := [(3, .int (x3 + (-1))), (0, .ref (κ.2.1 0)), (2, .int k2)]) C.ex C.by dX9_chooseFewest_129 hl (k := 2) rfl rfl (by decide) rfl (fun ls hl => ?_)
  refine lv_goto (tgt := 38) C.ex C.by dX9_chooseFewest_132 (by decide) ?_
  exact Kc _ _ (Option.some.inj hf).symm _ _ _ h (lv_sub hl [1, 2, 0] rfl)
set_option maxRecDepth 20000 in
set_option maxHeartbeats 4000000 in
theorem wX9_chooseFewest_L38_38 {p : Program} {l : Launch} {e : Env} {s : State} {m : MethodId} {args : Array Value} {below : List Frame} {meth : Method} {c : Code} {A : Nat → Prop} {κ : zG} {H : Heap} {locs : List Loc} {ls : Array Slot} {Q : State → Prop} {n : Nat} {k2 : Int32} {a : Int32 × zS} {r : (Int32 × zS) ⊕ (zS)} (C : zC cX9_chooseFewest 6 none RX9 κ A p s m args meth c) (h : zH wC κ A s a.2 H locs) (hl : lv_has ls 6 [(0, .ref (κ.2.1 0)), (2, .int k2), (3, .int a.1)]) (hf : fX9_chooseFewest_L38_38 n (κ.2.2.2 0) (κ.2.2.2 1) (κ.2.2.2 2) k2 a = some r) (Kc : ∀ (v3 : Int32) (σ1 : zS), r = .inl (v3, σ1) → ∀ (H : Heap) (locs : List Loc) (ls : Array Slot), zH wC κ A s σ1 H locs → lv_has ls 6 [(0, .ref (κ.2.1 0)), (2, .int k2), (3, .int v3)] → W p l e rmX9_chooseFewest s m args below meth c H locs 0 0 Q (F0 m 38 ls [])) (Ke0 : ∀ (σ1 : zS), r = .inr σ1 → ∀ (H : Heap) (locs : List Loc) (ls : Array Slot), zH wC κ A s σ1 H locs → lv_has ls 6 [(0, .ref (κ.2.1 0)), (2, .int k2)] → W p l e rmX9_chooseFewest s m args below meth c H locs 0 0 Q (F0 m 135 ls [])) : W p l e rmX9_chooseFewest s m args below meth c H locs 0 0 Q (F0 m 38 ls []) := by
  unfold fX9_chooseFewest_L38_38 at hf
  refine lv_iload_n C.ex C.by dX9_chooseFewest_38 rfl (lv_at hl 2 rfl) ?_
  refine lv_if_le (tgt := 135) C.ex C.by dX9_chooseFewest_39 (by decide) (fun c7 => ?_) (fun c7 => ?_)
  · have hf := zif_t c7 hf
    exact Ke0 _ (Option.some.inj hf).symm _ _ _ h (lv_sub hl [0, 1] rfl)
  · have hf := zif_f c7 hf
    refine lv_iconst (v := (-1)) C.ex C.by dX9_chooseFewest_42 (by decide) ?_
    refine lv_istore (lv' := [(4, .int (-1)), (0, .ref (κ.2.1 0)), (2, .int k2), (3, .int a.1)]) C.ex C.by dX9_chooseFewest_43 hl (by decide) rfl (fun ls hl => ?_)
    refine lv_iconst (v := 0) C.ex C.by dX9_chooseFewest_45 (by decide) ?_
    refine lv_istore (lv' := [(5, .int 0), (4, .int (-1)), (0, .ref (κ.2.1 0)), (2, .int k2), (3, .int a.1)]) C.ex C.by dX9_chooseFewest_46 hl (by decide) rfl (fun ls hl => ?_)
    obtain ⟨b21, e22, hf⟩ := zb_some hf
    refine wlX9_chooseFewest_48 C h (lv_sub hl [2, 3, 4, 1, 0] rfl) b21 e22 ?_
    intro H locs ls h hl
    refine lv_iload C.ex C.by dX9_chooseFewest_115 (lv_at hl 3 rfl) ?_
    refine lv_iconst (v := (-1)) C.ex C.by dX9_chooseFewest_117 (by decide) ?_
    refine lv_icmp_eq (tgt := 129) C.ex C.by dX9_chooseFewest_118 (by decide) (fun c23 => ?_) (fun c23 => ?_)
    · have hf := zif_t c23 hf
      exact wX9_chooseFewest_L38_129 C h (lv_sub hl [0, 1, 2] rfl) hf Kc Ke0
    · have hf := zif_f c23 hf
      refine lv_aload_n C.ex C.by dX9_chooseFewest_121 rfl (lv_at hl 0 rfl) ?_
      refine z_get (v := .ref (κ.2.1 36)) C h iwX9 0 (wC_at0 κ _) rfl 10 (by decide) lkC270 rfl dX9_chooseFewest_122 ?_
      refine lv_iload C.ex C.by dX9_chooseFewest_125 (lv_at hl 3 rfl) ?_
      refine lv_iconst (v := 1) C.ex C.by dX9_chooseFewest_127 (by decide) ?_
      obtain ⟨h24, hf⟩ := zg_some hf
      refine z_zast (f := (zA a.2 17)) C h 36 (wC_at36 κ _) h24 (sA a.2 17 (upd (zA a.2 17) (Int32.toNatClampNeg b21) (vp_nar .boolean 1))) (wC_s36 κ _ _) dX9_chooseFewest_128 (fun H locs h => ?_)
      exact wX9_chooseFewest_L38_129 C h (lv_sub hl [0, 1, 2] rfl) hf Kc Ke0
theorem wlX9_chooseFewest_38 {p : Program} {l : Launch} {e : Env} {s : State} {m : MethodId} {args : Array Value} {below : List Frame} {meth : Method} {c : Code} {A : Nat → Prop} {κ : zG} {H : Heap} {locs : List Loc} {ls : Array Slot} {Q : State → Prop} {n : Nat} {k2 : Int32} {k0 : Nat} {u3 : Int32} {σ1 : zS} (C : zC cX9_chooseFewest 6 none RX9 κ A p s m args meth c) (h : zH wC κ A s σ1 H locs) (hl : lv_has ls 6 [(0, .ref (κ.2.1 0)), (2, .int k2), (3, .int u3)]) (b : zS) (hb : zlp (fX9_chooseFewest_L38_38 n (κ.2.2.2 0) (κ.2.2.2 1) (κ.2.2.2 2) k2) k0 (u3, σ1) = some b) (K : (fun b : zS => ∀ (H : Heap) (locs : List Loc) (ls : Array Slot), zH wC κ A s b H locs → lv_has ls 6 [(0, .ref (κ.2.1 0)), (2, .int k2)] → W p l e rmX9_chooseFewest s m args below meth c H locs 0 0 Q (F0 m 135 ls [])) b) : W p l e rmX9_chooseFewest s m args below meth c H locs 0 0 Q (F0 m 38 ls []) :=
  z_loop (body := fX9_chooseFewest_L38_38 n (κ.2.2.2 0) (κ.2.2.2 1) (κ.2.2.2 2) k2) (Wd := (fun a : Int32 × zS => ∀ (H : Heap) (locs : List Loc) (ls : Array Slot), zH wC κ A s a.2 H locs → lv_has ls 6 [(0, .ref (κ.2.1 0)), (2, .int k2), (3, .int a.1)] → W p l e rmX9_chooseFewest s m args below meth c H locs 0 0 Q (F0 m 38 ls []))) (Ex := (fun b : zS => (fun b : zS => ∀ (H : Heap) (locs : List Loc) (ls : Array Slot), zH wC κ A s b H locs → lv_has ls 6 [(0, .ref (κ.2.1 0)), (2, .int k2)] → W p l e rmX9_chooseFewest s m args below meth c H locs 0 0 Q (F0 m 135 ls [])) b)) (fun a r hr Kc Ke H locs ls h hl => wX9_chooseFewest_L38_38 C h hl hr (fun v3 σ1 e => Kc (v3, σ1) e) (fun σ1 e => Ke σ1 e)) k0 (u3, σ1) b hb K H locs ls h hl
set_option maxRecDepth 20000 in
set_option maxHeartbeats 4000000 in
theorem wX9_chooseFewest_L147_179 {p : Program} {l : Launch} {e : Env} {s : State} {m : MethodId} {args : Array Value} {below : List Frame} {meth : Method} {c : Code} {A : Nat → Prop} {κ : zG} {H : Heap} {locs : List Loc} {ls : Array Slot} {Q : State → Prop} {n : Nat} {σ : zS} {k2 : Int32} {x3 : Int32} {r : (Int32 × zS) ⊕ (zS)} (C : zC cX9_chooseFewest 6 none RX9 κ A p s m args meth c) (h : zH wC κ A s σ H locs) (hl : lv_has ls 6 [(0, .ref (κ.2.1 0)), (2, .int k2), (3, .int x3)]) (hf : fX9_chooseFewest_L147_179 n (κ.2.2.2 0) (κ.2.2.2 1) (κ.2.2.2 2) σ k2 x3 = some r) (Kc : ∀ (v3 : Int32) (σ1 : zS), r = .inl (v3, σ1) → ∀ (H : Heap) (locs : List Loc) (ls : Array Slot), zH wC κ A s σ1 H locs → lv_has ls 6 [(0, .ref (κ.2.1 0)), (2, .int k2), (3, .int v3)] → W p l e rmX9_chooseFewest s m args below meth c H locs 0 0 Q (F0 m 147 ls [])) (Ke0 : ∀ (σ1 : zS), r = .inr σ1 → ∀ (H : Heap) (locs : List Loc) (ls : Array Slot), zH wC κ A s σ1 H locs → lv_has ls 6 [(0, .ref (κ.2.1 0))] → W p l e rmX9_chooseFewest s m args below meth c H locs 0 0 Q (F0 m 185 ls [])) : W p l e rmX9_chooseFewest s m args below meth c H locs 0 0 Q (F0 m 179 ls []) := by
  unfold fX9_chooseFewest_L147_179 at hf
  refine lv_iinc (v := (x3 + 1)) (lv' := [(3, .int (x3 + 1)), (0, .ref (κ.2.1 0)), (2, .int k2)]) C.ex C.by dX9_chooseFewest_179 hl (k := 2) rfl rfl (by decide) rfl (fun ls hl => ?_)
  refine lv_goto (tgt := 147) C.ex C.by dX9_chooseFewest_182 (by decide) ?_
  exact Kc _ _ (Option.some.inj hf).symm _ _ _ h (lv_sub hl [1, 2, 0] rfl)
set_option maxRecDepth 20000 in
set_option maxHeartbeats 4000000 in
theorem wX9_chooseFewest_L147_147 {p : Program} {l : Launch} {e : Env} {s : State} {m : MethodId} {args : Array Value} {below : List Frame} {meth : Method} {c : Code} {A : Nat → Prop} {κ : zG} {H : Heap} {locs : List Loc} {ls : Array Slot} {Q : State → Prop} {n : Nat} {k2 : Int32} {a : Int32 × zS} {r : (Int32 × zS) ⊕ (zS)} (C : zC cX9_chooseFewest 6 none RX9 κ A p s m args meth c) (h : zH wC κ A s a.2 H locs) (hl : lv_has ls 6 [(0, .ref (κ.2.1 0)), (2, .int k2), (3, .int a.1)]) (hf : fX9_chooseFewest_L147_147 n (κ.2.2.2 0) (κ.2.2.2 1) (κ.2.2.2 2) k2 a = some r) (Kc : ∀ (v3 : Int32) (σ1 : zS), r = .inl (v3, σ1) → ∀ (H : Heap) (locs : List Loc) (ls : Array Slot), zH wC κ A s σ1 H locs → lv_has ls 6 [(0, .ref (κ.2.1 0)), (2, .int k2), (3, .int v3)] → W p l e rmX9_chooseFewest s m args below meth c H locs 0 0 Q (F0 m 147 ls [])) (Ke0 : ∀ (σ1 : zS), r = .inr σ1 → ∀ (H : Heap) (locs : List Loc) (ls : Array Slot), zH wC κ A s σ1 H locs → lv_has ls 6 [(0, .ref (κ.2.1 0))] → W p l e rmX9_chooseFewest s m args below meth c H locs 0 0 Q (F0 m 185 ls [])) : W p l e rmX9_chooseFewest s m args below meth c H locs 0 0 Q (F0 m 147 ls []) := by
  unfold fX9_chooseFewest_L147_147 at hf
  refine lv_iload_n C.ex C.by dX9_chooseFewest_147 rfl (lv_at hl 2 rfl) ?_
  refine lv_iload_n C.ex C.by dX9_chooseFewest_148 rfl (lv_at hl 1 rfl) ?_
  refine lv_icmp_ge (tgt := 185) C.ex C.by dX9_chooseFewest_149 (by decide) (fun c29 => ?_) (fun c29 => ?_)
  · have hf := zif_t c29 hf
    exact Ke0 _ (Option.some.inj hf).symm _ _ _ h (lv_sub hl [0] rfl)
  · have hf := zif_f c29 hf
    refine lv_aload_n C.ex C.by dX9_chooseFewest_152 rfl (lv_at hl 0 rfl) ?_
    refine z_get (v := .ref (κ.2.1 36)) C h iwX9 0 (wC_at0 κ _) rfl 10 (by decide) lkC270 rfl dX9_chooseFewest_153 ?_
    refine lv_iload_n C.ex C.by dX9_chooseFewest_156 rfl (lv_at hl 2 rfl) ?_
    obtain ⟨h30, hf⟩ := zg_some hf
    refine z_zald (f := (zA a.2 17)) C h 36 (wC_at36 κ _) h30 dX9_chooseFewest_157 ?_
    refine lv_if_eq (tgt := 179) C.ex C.by dX9_chooseFewest_158 (by decide) (fun c31 => ?_) (fun c31 => ?_)
    · have hf := zif_t c31 hf
      exact wX9_chooseFewest_L147_179 C h hl hf Kc Ke0
    · have hf := zif_f c31 hf
      refine lv_aload_n C.ex C.by dX9_chooseFewest_161 rfl (lv_at hl 0 rfl) ?_
      refine z_get (v := .ref (κ.2.1 23)) C h iwX9 0 (wC_at0 κ _) rfl 6 (by decide) lkC188 rfl dX9_chooseFewest_162 ?_
      refine z_getN (v := .ref (κ.2.1 24)) C h iwX4 23 (wC_at23 κ _) rfl 4 (by decide) nkC13 rfl dX9_chooseFewest_165 ?_
      refine lv_aload_n C.ex C.by dX9_chooseFewest_168 rfl (lv_at hl 0 rfl) ?_
      refine z_get (v := .ref (κ.2.1 33)) C h iwX9 0 (wC_at0 κ _) rfl 8 (by decide) lkC180 rfl dX9_chooseFewest_169 ?_
      refine lv_iload_n C.ex C.by dX9_chooseFewest_172 rfl (lv_at hl 2 rfl) ?_
      obtain ⟨q32, e33, hf⟩ := zb_some hf
      refine z_callRi (As := [.int a.1]) (x := (zI a.2 32)) (f := (zA a.2 16)) C h (ctX6_get (κ := zκR κ (κ.2.1 33) (κ.2.1 34) (κ.2.2.2 0)) e33) (zgV lkC193 lkC50 lkC51 lkC52 lkC53) ⟨rfl, rfl⟩ hdX6_get ⟨Nat.le_of_ble_eq_true rfl, Nat.le_of_ble_eq_true rfl⟩ 33 34 (by decide) (wC_at33 κ _) (wC_at34 κ _) a.2 (zset2 (wC_at33 κ _) (wC_at34 κ _)) hl rfl rfl (Nat.le_of_ble_eq_true rfl) dX9_chooseFewest_173 ⟨Nat.zero_le _, Nat.zero_le _⟩ (fun H locs h => ?_)
      obtain ⟨q34, e35, hf⟩ := zb_some hf
      refine z_callRv (As := [.int q32]) (x := (zI a.2 29)) (f := (zA a.2 10)) C h (ctX6_add (κ := zκR κ (κ.2.1 24) (κ.2.1 25) 8) e35) (zgV lkC194 lkC139 lkC140 lkC52 lkC141) ⟨rfl, rfl⟩ hdX6_add ⟨Nat.le_of_ble_eq_true rfl, Nat.le_of_ble_eq_true rfl⟩ 24 25 (by decide) (wC_at24 κ _) (wC_at25 κ _) (sA (sI a.2 29 (zI q34 0)) 10 (zA q34 0)) (wC_sr24 κ _ _ _) hl rfl rfl (Nat.le_of_ble_eq_true rfl) dX9_chooseFewest_176 ⟨Nat.zero_le _, Nat.zero_le _⟩ (fun H locs h => ?_)
      exact wX9_chooseFewest_L147_179 C h hl hf Kc Ke0
theorem wlX9_chooseFewest_147 {p : Program} {l : Launch} {e : Env} {s : State} {m : MethodId} {args : Array Value} {below : List Frame} {meth : Method} {c : Code} {A : Nat → Prop} {κ : zG} {H : Heap} {locs : List Loc} {ls : Array Slot} {Q : State → Prop} {n : Nat} {k2 : Int32} {k0 : Nat} {u3 : Int32} {σ1 : zS} (C : zC cX9_chooseFewest 6 none RX9 κ A p s m args meth c) (h : zH wC κ A s σ1 H locs) (hl : lv_has ls 6 [(0, .ref (κ.2.1 0)), (2, .int k2), (3, .int u3)]) (b : zS) (hb : zlp (fX9_chooseFewest_L147_147 n (κ.2.2.2 0) (κ.2.2.2 1) (κ.2.2.2 2) k2) k0 (u3, σ1) = some b) (K : (fun b : zS => ∀ (H : Heap) (locs : List Loc) (ls : Array Slot), zH wC κ A s b H locs → lv_has ls 6 [(0, .ref (κ.2.1 0))] → W p l e rmX9_chooseFewest s m args below meth c H locs 0 0 Q (F0 m 185 ls [])) b) : W p l e rmX9_chooseFewest s m args below meth c H locs 0 0 Q (F0 m 147 ls []) :=
  z_loop (body := fX9_chooseFewest_L147_147 n (κ.2.2.2 0) (κ.2.2.2 1) (κ.2.2.2 2) k2) (Wd := (fun a : Int32 × zS => ∀ (H : Heap) (locs : List Loc) (ls : Array Slot), zH wC κ A s a.2 H locs → lv_has ls 6 [(0, .ref (κ.2.1 0)), (2, .int k2), (3, .int a.1)] → W p l e rmX9_chooseFewest s m args below meth c H locs 0 0 Q (F0 m 147 ls []))) (Ex := (fun b : zS => (fun b : zS => ∀ (H : Heap) (locs : List Loc) (ls : Array Slot), zH wC κ A s b H locs → lv_has ls 6 [(0, .ref (κ.2.1 0))] → W p l e rmX9_chooseFewest s m args below meth c H locs 0 0 Q (F0 m 185 ls [])) b)) (fun a r hr Kc Ke H locs ls h hl => wX9_chooseFewest_L147_147 C h hl hr (fun v3 σ1 e => Kc (v3, σ1) e) (fun σ1 e => Ke σ1 e)) k0 (u3, σ1) b hb K H locs ls h hl
set_option maxRecDepth 20000 in
set_option maxHeartbeats 4000000 in
theorem wX9_chooseFewest_0 {p : Program} {l : Launch} {e : Env} {s : State} {m : MethodId} {args : Array Value} {below : List Frame} {meth : Method} {c : Code} {A : Nat → Prop} {κ : zG} {H : Heap} {locs : List Loc} {ls : Array Slot} {n : Nat} {σ : zS} {x1 : Int32} {r : zS} (C : zC cX9_chooseFewest 6 none RX9 κ A p s m args meth c) (h : zH wC κ A s σ H locs) (hl : lv_has ls 6 [(0, .ref (κ.2.1 0)), (1, .int x1)]) (hf : fX9_chooseFewest_0 n (κ.2.2.2 0) (κ.2.2.2 1) (κ.2.2.2 2) σ x1 = some r) : W p l e rmX9_chooseFewest s m args below meth c H locs 0 0 (MQ below (zQv wC κ A r) args s 0 0 A) (F0 m 0 ls []) := by
  unfold fX9_chooseFewest_0 at hf
  refine lv_aload_n C.ex C.by dX9_chooseFewest_0 rfl (lv_at hl 0 rfl) ?_
  refine z_get (v := .ref (κ.2.1 33)) C h iwX9 0 (wC_at0 κ _) rfl 8 (by decide) lkC180 rfl dX9_chooseFewest_1 ?_
  obtain ⟨q1, e2, hf⟩ := zb_some hf
  refine z_callRi (As := []) (x := (zI σ 32)) (f := (zA σ 16)) C h (ctX6_size (κ := zκR κ (κ.2.1 33) (κ.2.1 34) (κ.2.2.2 0)) e2) (zgV lkC181 lkC182 lkC183 lkC52 lkC184) ⟨rfl, rfl⟩ hdX6_size ⟨Nat.le_of_ble_eq_true rfl, Nat.le_of_ble_eq_true rfl⟩ 33 34 (by decide) (wC_at33 κ _) (wC_at34 κ _) σ (zset2 (wC_at33 κ _) (wC_at34 κ _)) hl rfl rfl (Nat.le_of_ble_eq_true rfl) dX9_chooseFewest_4 ⟨Nat.zero_le _, Nat.zero_le _⟩ (fun H locs h => ?_)
  refine lv_aload_n C.ex C.by dX9_chooseFewest_7 rfl (lv_at hl 0 rfl) ?_
  refine z_get (v := .ref (κ.2.1 36)) C h iwX9 0 (wC_at0 κ _) rfl 10 (by decide) lkC270 rfl dX9_chooseFewest_8 ?_
  refine z_alen (t0 := 2) C h 36 (wC_at36 κ _) rfl dX9_chooseFewest_11 ?_
  refine z_mmin C hl lkC185 lkC186 lkC4 lkC187 ⟨Nat.le_of_ble_eq_true rfl, Nat.le_of_ble_eq_true rfl⟩ ⟨Nat.zero_le _, Nat.zero_le _⟩ dX9_chooseFewest_12 ?_
  refine lv_istore_n (lv' := [(2, .int (if (nI (κ.2.2.2 0)) < q1 then (nI (κ.2.2.2 0)) else q1)), (0, .ref (κ.2.1 0)), (1, .int x1)]) C.ex C.by dX9_chooseFewest_15 rfl hl (by decide) rfl (fun ls hl => ?_)
  refine lv_iconst (v := 0) C.ex C.by dX9_chooseFewest_16 (by decide) ?_
  refine lv_istore_n (lv' := [(3, .int 0), (2, .int (if (nI (κ.2.2.2 0)) < q1 then (nI (κ.2.2.2 0)) else q1)), (0, .ref (κ.2.1 0)), (1, .int x1)]) C.ex C.by dX9_chooseFewest_17 rfl hl (by decide) rfl (fun ls hl => ?_)
  obtain ⟨b5, e6, hf⟩ := zb_some hf
  refine wlX9_chooseFewest_18 C h (lv_sub hl [2, 3, 1, 0] rfl) b5 e6 ?_
  intro H locs ls h hl
  refine lv_iload_n C.ex C.by dX9_chooseFewest_36 rfl (lv_at hl 1 rfl) ?_
  refine lv_istore_n (lv' := [(3, .int x1), (0, .ref (κ.2.1 0)), (1, .int x1), (2, .int (if (nI (κ.2.2.2 0)) < q1 then (nI (κ.2.2.2 0)) else q1))]) C.ex C.by dX9_chooseFewest_37 rfl hl (by decide) rfl (fun ls hl => ?_)
  obtain ⟨b25, e26, hf⟩ := zb_some hf
  refine wlX9_chooseFewest_38 C h (lv_sub hl [1, 3, 0] rfl) b25 e26 ?_
  intro H locs ls h hl
  refine lv_aload_n C.ex C.by dX9_chooseFewest_135 rfl (lv_at hl 0 rfl) ?_
  refine z_get (v := .ref (κ.2.1 23)) C h iwX9 0 (wC_at0 κ _) rfl 6 (by decide) lkC188 rfl dX9_chooseFewest_136 ?_
  refine z_getN (v := .ref (κ.2.1 24)) C h iwX4 23 (wC_at23 κ _) rfl 4 (by decide) nkC13 rfl dX9_chooseFewest_139 ?_
  obtain ⟨q27, e28, hf⟩ := zb_some hf
  refine z_callRv (As := []) (x := (zI b25 29)) (f := (zA b25 10)) C h (ctX6_clear (κ := zκR κ (κ.2.1 24) (κ.2.1 25) 8) e28) (zgV lkC189 lkC190 lkC191 lkC52 lkC192) ⟨rfl, rfl⟩ hdX6_clear ⟨Nat.le_of_ble_eq_true rfl, Nat.le_of_ble_eq_true rfl⟩ 24 25 (by decide) (wC_at24 κ _) (wC_at25 κ _) (sA (sI b25 29 (zI q27 0)) 10 (zA q27 0)) (wC_sr24 κ _ _ _) hl rfl rfl (Nat.le_of_ble_eq_true rfl) dX9_chooseFewest_142 ⟨Nat.zero_le _, Nat.zero_le _⟩ (fun H locs h => ?_)
  refine lv_iconst (v := 0) C.ex C.by dX9_chooseFewest_145 (by decide) ?_
  refine lv_istore_n (lv' := [(3, .int 0), (0, .ref (κ.2.1 0)), (2, .int (if (nI (κ.2.2.2 0)) < q1 then (nI (κ.2.2.2 0)) else q1))]) C.ex C.by dX9_chooseFewest_146 rfl hl (by decide) rfl (fun ls hl => ?_)
  obtain ⟨b36, e37, hf⟩ := zb_some hf
  refine wlX9_chooseFewest_147 C h (lv_sub hl [1, 2, 0] rfl) b36 e37 ?_
  intro H locs ls h hl
  cases hf
  exact z_vret C h dX9_chooseFewest_185
theorem ctX9_chooseFewest {l : Launch} {κ : zG} {n : Nat} {σ : zS} {x1 : Int32} {r : zS} (hf : fX9_chooseFewest_0 n (κ.2.2.2 0) (κ.2.2.2 1) (κ.2.2.2 2) σ x1 = some r) : zMv l yX9_chooseFewest (Cond.code yX9_chooseFewest cX9_chooseFewest 6 none) rmX9_chooseFewest wC κ [.ref (κ.2.1 0), .int x1] σ r :=
  zMv_of (by decide) (Nat.le_of_ble_eq_true rfl) (fun p e s m below meth c A C h ls hl => wX9_chooseFewest_0 C h hl hf)
theorem hdX9_mergeFewest : yX9_mergeFewest.cls = RX9 ∧ yX9_mergeFewest.cls ≠ "java/lang/invoke/MethodHandle" ∧ yX9_mergeFewest.cls ≠ "java/lang/invoke/VarHandle" ∧ (parseMethodDescriptor yX9_mergeFewest.desc).map (fun d => d.parameters.length) = some 1 := by decide +kernel
abbrev rmX9_mergeFewest : Room := { frames := 6, cells := 0, slots := 0, locals := 134 }
set_option maxRecDepth 20000 in
set_option maxHeartbeats 4000000 in
theorem wX9_mergeFewest_L101_125 {p : Program} {l : Launch} {e : Env} {s : State} {m : MethodId} {args : Array Value} {below : List Frame} {meth : Method} {c : Code} {A : Nat → Prop} {κ : zG} {H : Heap} {locs : List Loc} {ls : Array Slot} {Q : State → Prop} {n : Nat} {σ : zS} {k1 : Int32} {k5 : Int32} {k6 : Int32} {x7 : Int32} {r : (Int32 × zS) ⊕ (zS)} (C : zC cX9_mergeFewest 8 (some .boolean) RX9 κ A p s m args meth c) (h : zH wC κ A s σ H locs) (hl : lv_has ls 8 [(0, .ref (κ.2.1 0)), (1, .int k1), (5, .int k5), (6, .int k6), (7, .int x7)]) (hf : fX9_mergeFewest_L101_125 n (κ.2.2.2 0) (κ.2.2.2 1) (κ.2.2.2 2) σ k1 k5 k6 x7 = some r) (Kc : ∀ (v7 : Int32) (σ1 : zS), r = .inl (v7, σ1) → ∀ (H : Heap) (locs : List Loc) (ls : Array Slot), zH wC κ A s σ1 H locs → lv_has ls 8 [(0, .ref (κ.2.1 0)), (1, .int k1), (5, .int k5), (6, .int k6), (7, .int v7)] → W p l e rmX9_mergeFewest s m args below meth c H locs 0 0 Q (F0 m 101 ls [])) (Ke0 : ∀ (σ1 : zS), r = .inr σ1 → ∀ (H : Heap) (locs : List Loc) (ls : Array Slot), zH wC κ A s σ1 H locs → lv_has ls 8 [(0, .ref (κ.2.1 0)), (1, .int k1), (5, .int k5), (6, .int k6)] → W p l e rmX9_mergeFewest s m args below meth c H locs 0 0 Q (F0 m 131 ls [])) : W p l e rmX9_mergeFewest s m args below meth c H locs 0 0 Q (F0 m 125 ls []) := by
  unfold fX9_mergeFewest_L101_125 at hf
  refine lv_iinc (v := (x7 + (-1))) (lv' := [(7, .int (x7 + (-1))), (0, .ref (κ.2.1 0)), (1, .int k1), (5, .int k5), (6, .int k6)]) C.ex C.by dX9_mergeFewest_125 hl (k := 4) rfl rfl (by decide) rfl (fun ls hl => ?_)
  refine lv_goto (tgt := 101) C.ex C.by dX9_mergeFewest_128 (by decide) ?_
  exact Kc _ _ (Option.some.inj hf).symm _ _ _ h (lv_sub hl [1, 2, 3, 4, 0] rfl)
set_option maxRecDepth 20000 in
set_option maxHeartbeats 4000000 in
theorem wX9_mergeFewest_L101_101 {p : Program} {l : Launch} {e : Env} {s : State} {m : MethodId} {args : Array Value} {below : List Frame} {meth : Method} {c : Code} {A : Nat → Prop} {κ : zG} {H : Heap} {locs : List Loc} {ls : Array Slot} {Q : State → Prop} {n : Nat} {k1 : Int32} {k5 : Int32} {k6 : Int32} {a : Int32 × zS} {r : (Int32 × zS) ⊕ (zS)} (C : zC cX9_mergeFewest 8 (some .boolean) RX9 κ A p s m args meth c) (h : zH wC κ A s a.2 H locs) (hl : lv_has ls 8 [(0, .ref (κ.2.1 0)), (1, .int k1), (5, .int k5), (6, .int k6), (7, .int a.1)]) (hf : fX9_mergeFewest_L101_101 n (κ.2.2.2 0) (κ.2.2.2 1) (κ.2.2.2 2) k1 k5 k6 a = some r) (Kc : ∀ (v7 : Int32) (σ1 : zS), r = .inl (v7, σ1) → ∀ (H : Heap) (locs : List Loc) (ls : Array Slot), zH wC κ A s σ1 H locs → lv_has ls 8 [(0, .ref (κ.2.1 0)), (1, .int k1), (5, .int k5), (6, .int k6), (7, .int v7)] → W p l e rmX9_mergeFewest s m args below meth c H locs 0 0 Q (F0 m 101 ls [])) (Ke0 : ∀ (σ1 : zS), r = .inr σ1 → ∀ (H : Heap) (locs : List Loc) (ls : Array Slot), zH wC κ A s σ1 H locs → lv_has ls 8 [(0, .ref (κ.2.1 0)), (1, .int k1), (5, .int k5), (6, .int k6)] → W p l e rmX9_mergeFewest s m args below meth c H locs 0 0 Q (F0 m 131 ls [])) : W p l e rmX9_mergeFewest s m args below meth c H locs 0 0 Q (F0 m 101 ls []) := by
  unfold fX9_mergeFewest_L101_101 at hf
  refine lv_iload C.ex C.by dX9_mergeFewest_101 (lv_at hl 4 rfl) ?_
  refine lv_if_lt (tgt := 131) C.ex C.by dX9_mergeFewest_103 (by decide) (fun c17 => ?_) (fun c17 => ?_)
  · have hf := zif_t c17 hf
    exact Ke0 _ (Option.some.inj hf).symm _ _ _ h (lv_sub hl [0, 1, 2, 3] rfl)
  · have hf := zif_f c17 hf
    refine lv_aload_n C.ex C.by dX9_mergeFewest_106 rfl (lv_at hl 0 rfl) ?_
    refine z_get (v := .ref (κ.2.1 36)) C h iwX9 0 (wC_at0 κ _) rfl 10 (by decide) lkC270 rfl dX9_mergeFewest_107 ?_
    refine lv_iload C.ex C.by dX9_mergeFewest_110 (lv_at hl 4 rfl) ?_
    obtain ⟨h18, hf⟩ := zg_some hf
    refine z_zald (f := (zA a.2 17)) C h 36 (wC_at36 κ _) h18 dX9_mergeFewest_112 ?_
    refine lv_if_eq (tgt := 125) C.ex C.by dX9_mergeFewest_113 (by decide) (fun c19 => ?_) (fun c19 => ?_)
    · have hf := zif_t c19 hf
      exact wX9_mergeFewest_L101_125 C h hl hf Kc Ke0
    · have hf := zif_f c19 hf
      refine lv_aload_n C.ex C.by dX9_mergeFewest_116 rfl (lv_at hl 0 rfl) ?_
      refine z_get (v := .ref (κ.2.1 33)) C h iwX9 0 (wC_at0 κ _) rfl 8 (by decide) lkC180 rfl dX9_mergeFewest_117 ?_
      refine lv_iload C.ex C.by dX9_mergeFewest_120 (lv_at hl 4 rfl) ?_
      obtain ⟨q20, e21, hf⟩ := zb_some hf
      refine z_callRv (As := [.int a.1]) (x := (zI a.2 32)) (f := (zA a.2 16)) C h (ctX6_removeAt (κ := zκR κ (κ.2.1 33) (κ.2.1 34) (κ.2.2.2 0)) e21) (zgV lkC266 lkC267 lkC268 lkC52 lkC269) ⟨rfl, rfl⟩ hdX6_removeAt ⟨Nat.le_of_ble_eq_true rfl, Nat.le_of_ble_eq_true rfl⟩ 33 34 (by decide) (wC_at33 κ _) (wC_at34 κ _) (sA (sI a.2 32 (zI q20 0)) 16 (zA q20 0)) (wC_sr33 κ _ _ _) hl rfl rfl (Nat.le_of_ble_eq_true rfl) dX9_mergeFewest_122 ⟨Nat.zero_le _, Nat.zero_le _⟩ (fun H locs h => ?_)
      exact wX9_mergeFewest_L101_125 C h hl hf Kc Ke0
theorem wlX9_mergeFewest_101 {p : Program} {l : Launch} {e : Env} {s : State} {m : MethodId} {args : Array Value} {below : List Frame} {meth : Method} {c : Code} {A : Nat → Prop} {κ : zG} {H : Heap} {locs : List Loc} {ls : Array Slot} {Q : State → Prop} {n : Nat} {k1 : Int32} {k5 : Int32} {k6 : Int32} {k0 : Nat} {u7 : Int32} {σ1 : zS} (C : zC cX9_mergeFewest 8 (some .boolean) RX9 κ A p s m args meth c) (h : zH wC κ A s σ1 H locs) (hl : lv_has ls 8 [(0, .ref (κ.2.1 0)), (1, .int k1), (5, .int k5), (6, .int k6), (7, .int u7)]) (b : zS) (hb : zlp (fX9_mergeFewest_L101_101 n (κ.2.2.2 0) (κ.2.2.2 1) (κ.2.2.2 2) k1 k5 k6) k0 (u7, σ1) = some b) (K : (fun b : zS => ∀ (H : Heap) (locs : List Loc) (ls : Array Slot), zH wC κ A s b H locs → lv_has ls 8 [(0, .ref (κ.2.1 0)), (1, .int k1), (5, .int k5), (6, .int k6)] → W p l e rmX9_mergeFewest s m args below meth c H locs 0 0 Q (F0 m 131 ls [])) b) : W p l e rmX9_mergeFewest s m args below meth c H locs 0 0 Q (F0 m 101 ls []) :=
  z_loop (body := fX9_mergeFewest_L101_101 n (κ.2.2.2 0) (κ.2.2.2 1) (κ.2.2.2 2) k1 k5 k6) (Wd := (fun a : Int32 × zS => ∀ (H : Heap) (locs : List Loc) (ls : Array Slot), zH wC κ A s a.2 H locs → lv_has ls 8 [(0, .ref (κ.2.1 0)), (1, .int k1), (5, .int k5), (6, .int k6), (7, .int a.1)] → W p l e rmX9_mergeFewest s m args below meth c H locs 0 0 Q (F0 m 101 ls []))) (Ex := (fun b : zS => (fun b : zS => ∀ (H : Heap) (locs : List Loc) (ls : Array Slot), zH wC κ A s b H locs → lv_has ls 8 [(0, .ref (κ.2.1 0)), (1, .int k1), (5, .int k5), (6, .int k6)] → W p l e rmX9_mergeFewest s m args below meth c H locs 0 0 Q (F0 m 131 ls [])) b)) (fun a r hr Kc Ke H locs ls h hl => wX9_mergeFewest_L101_101 C h hl hr (fun v7 σ1 e => Kc (v7, σ1) e) (fun σ1 e => Ke σ1 e)) k0 (u7, σ1) b hb K H locs ls h hl
set_option maxRecDepth 20000 in
set_option maxHeartbeats 4000000 in
theorem wX9_mergeFewest_L38_38 {p : Program} {l : Launch} {e : Env} {s : State} {m : MethodId} {args : Array Value} {below : List Frame} {meth : Method} {c : Code} {A : Nat → Prop} {κ : zG} {H : Heap} {locs : List Loc} {ls : Array Slot} {Q : State → Prop} {n : Nat} {k1 : Int32} {a : Int32 × Int32 × zS} {r : (Int32 × Int32 × zS) ⊕ ((zS) ⊕ (zS))} (C : zC cX9_mergeFewest 8 (some .boolean) RX9 κ A p s m args meth c) (h : zH wC κ A s a.2.2 H locs) (hl : lv_has ls 8 [(0, .ref (κ.2.1 0)), (1, .int k1), (4, .int a.1), (5, .int a.2.1)]) (hf : fX9_mergeFewest_L38_38 n (κ.2.2.2 0) (κ.2.2.2 1) (κ.2.2.2 2) k1 a = some r) (Kc : ∀ (v4 : Int32) (v5 : Int32) (σ1 : zS), r = .inl (v4, v5, σ1) → ∀ (H : Heap) (locs : List Loc) (ls : Array Slot), zH wC κ A s σ1 H locs → lv_has ls 8 [(0, .ref (κ.2.1 0)), (1, .int k1), (4, .int v4), (5, .int v5)] → W p l e rmX9_mergeFewest s m args below meth c H locs 0 0 Q (F0 m 38 ls [])) (Ke0 : ∀ (σ1 : zS), r = .inr (.inl σ1) → ∀ (H : Heap) (locs : List Loc) (ls : Array Slot), zH wC κ A s σ1 H locs → lv_has ls 8 [(0, .ref (κ.2.1 0))] → W p l e rmX9_mergeFewest s m args below meth c H locs 0 0 Q (F0 m 149 ls [])) (Ke1 : ∀ (σ1 : zS), r = .inr (.inr σ1) → ∀ (H : Heap) (locs : List Loc) (ls : Array Slot), zH wC κ A s σ1 H locs → lv_has ls 8 [(0, .ref (κ.2.1 0))] → W p l e rmX9_mergeFewest s m args below meth c H locs 0 0 Q (F0 m 80 ls [])) : W p l e rmX9_mergeFewest s m args below meth c H locs 0 0 Q (F0 m 38 ls []) := by
  unfold fX9_mergeFewest_L38_38 at hf
  refine lv_iload C.ex C.by dX9_mergeFewest_38 (lv_at hl 3 rfl) ?_
  refine lv_iconst (v := 1) C.ex C.by dX9_mergeFewest_40 (by decide) ?_
  refine lv_icmp_le (tgt := 149) C.ex C.by dX9_mergeFewest_41 (by decide) (fun c6 => ?_) (fun c6 => ?_)
  · have hf := zif_t c6 hf
    exact Ke0 _ (Option.some.inj hf).symm _ _ _ h (lv_sub hl [0] rfl)
  · have hf := zif_f c6 hf
    refine lv_aload_n C.ex C.by dX9_mergeFewest_44 rfl (lv_at hl 0 rfl) ?_
    refine z_get (v := .ref (κ.2.1 33)) C h iwX9 0 (wC_at0 κ _) rfl 8 (by decide) lkC180 rfl dX9_mergeFewest_45 ?_
    obtain ⟨q7, e8, hf⟩ := zb_some hf
    refine z_callRi (As := []) (x := (zI a.2.2 32)) (f := (zA a.2.2 16)) C h (ctX6_size (κ := zκR κ (κ.2.1 33) (κ.2.1 34) (κ.2.2.2 0)) e8) (zgV lkC181 lkC182 lkC183 lkC52 lkC184) ⟨rfl, rfl⟩ hdX6_size ⟨Nat.le_of_ble_eq_true rfl, Nat.le_of_ble_eq_true rfl⟩ 33 34 (by decide) (wC_at33 κ _) (wC_at34 κ _) a.2.2 (zset2 (wC_at33 κ _) (wC_at34 κ _)) hl rfl rfl (Nat.le_of_ble_eq_true rfl) dX9_mergeFewest_48 ⟨Nat.zero_le _, Nat.zero_le _⟩ (fun H locs h => ?_)
    refine lv_iconst (v := 1) C.ex C.by dX9_mergeFewest_51 (by decide) ?_
    refine lv_icmp_le (tgt := 149) C.ex C.by dX9_mergeFewest_52 (by decide) (fun c9 => ?_) (fun c9 => ?_)
    · have hf := zif_t c9 hf
      exact Ke0 _ (Option.some.inj hf).symm _ _ _ h (lv_sub hl [0] rfl)
    · have hf := zif_f c9 hf
      refine lv_aload_n C.ex C.by dX9_mergeFewest_55 rfl (lv_at hl 0 rfl) ?_
      refine lv_iload C.ex C.by dX9_mergeFewest_56 (lv_at hl 2 rfl) ?_
      obtain ⟨q10, e11, hf⟩ := zb_some hf
      refine z_callVv (As := [.int a.1]) C h (ctX9_chooseFewest e11) (zgV lkC272 lkC273 lkC274 lkC99 lkC275) ⟨rfl, rfl⟩ hdX9_chooseFewest ⟨Nat.le_of_ble_eq_true rfl, Nat.le_of_ble_eq_true rfl⟩ 0 (wC_at0 κ _) rfl hl rfl rfl (Nat.le_of_ble_eq_true rfl) dX9_mergeFewest_58 ⟨Nat.zero_le _, Nat.zero_le _⟩ (fun H locs h => ?_)
      refine lv_aload_n C.ex C.by dX9_mergeFewest_61 rfl (lv_at hl 0 rfl) ?_
      refine z_get (v := .ref (κ.2.1 23)) C h iwX9 0 (wC_at0 κ _) rfl 6 (by decide) lkC188 rfl dX9_mergeFewest_62 ?_
      refine lv_aload_n C.ex C.by dX9_mergeFewest_65 rfl (lv_at hl 0 rfl) ?_
      refine z_get (v := .int (zI q10 0)) C h iwX9 0 (wC_at0 κ _) rfl 12 (by decide) lkC195 rfl dX9_mergeFewest_66 ?_
      obtain ⟨q12, e13, hf⟩ := zb_some hf
      refine z_callVi (As := [.int (zI q10 0)]) C h (ctX4_merge (r1 := q12.1) (r2 := q12.2) e13) (zgV lkC258 lkC259 lkC260 lkC226 lkC261) ⟨rfl, rfl⟩ hdX4_merge ⟨Nat.le_of_ble_eq_true rfl, Nat.le_of_ble_eq_true rfl⟩ 23 (wC_at23 κ _) rfl hl rfl rfl (Nat.le_of_ble_eq_true rfl) dX9_mergeFewest_69 ⟨Nat.zero_le _, Nat.zero_le _⟩ (fun H locs h => ?_)
      refine lv_istore (lv' := [(6, .int q12.1), (0, .ref (κ.2.1 0)), (1, .int k1), (4, .int a.1), (5, .int a.2.1)]) C.ex C.by dX9_mergeFewest_72 hl (by decide) rfl (fun ls hl => ?_)
      refine lv_iload C.ex C.by dX9_mergeFewest_74 (lv_at hl 0 rfl) ?_
      refine lv_iconst (v := (-1)) C.ex C.by dX9_mergeFewest_76 (by decide) ?_
      refine lv_icmp_ne (tgt := 82) C.ex C.by dX9_mergeFewest_77 (by decide) (fun c14 => ?_) (fun c14 => ?_)
      · have hf := zif_f c14 hf
        refine lv_aload_n C.ex C.by dX9_mergeFewest_82 rfl (lv_at hl 1 rfl) ?_
        refine z_get (v := .ref (κ.2.1 33)) C h iwX9 0 (wC_at0 κ _) rfl 8 (by decide) lkC180 rfl dX9_mergeFewest_83 ?_
        obtain ⟨q15, e16, hf⟩ := zb_some hf
        refine z_callRi (As := []) (x := (zI q12.2 32)) (f := (zA q12.2 16)) C h (ctX6_size (κ := zκR κ (κ.2.1 33) (κ.2.1 34) (κ.2.2.2 0)) e16) (zgV lkC181 lkC182 lkC183 lkC52 lkC184) ⟨rfl, rfl⟩ hdX6_size ⟨Nat.le_of_ble_eq_true rfl, Nat.le_of_ble_eq_true rfl⟩ 33 34 (by decide) (wC_at33 κ _) (wC_at34 κ _) q12.2 (zset2 (wC_at33 κ _) (wC_at34 κ _)) hl rfl rfl (Nat.le_of_ble_eq_true rfl) dX9_mergeFewest_86 ⟨Nat.zero_le _, Nat.zero_le _⟩ (fun H locs h => ?_)
        refine lv_aload_n C.ex C.by dX9_mergeFewest_89 rfl (lv_at hl 1 rfl) ?_
        refine z_get (v := .ref (κ.2.1 36)) C h iwX9 0 (wC_at0 κ _) rfl 10 (by decide) lkC270 rfl dX9_mergeFewest_90 ?_
        refine z_alen (t0 := 2) C h 36 (wC_at36 κ _) rfl dX9_mergeFewest_93 ?_
        refine z_mmin C hl lkC185 lkC186 lkC4 lkC187 ⟨Nat.le_of_ble_eq_true rfl, Nat.le_of_ble_eq_true rfl⟩ ⟨Nat.zero_le _, Nat.zero_le _⟩ dX9_mergeFewest_94 ?_
        refine lv_iconst (v := 1) C.ex C.by dX9_mergeFewest_97 (by decide) ?_
        refine lv_isub C.ex C.by dX9_mergeFewest_98 ?_
        refine lv_istore (lv' := [(7, .int ((if (nI (κ.2.2.2 0)) < q15 then (nI (κ.2.2.2 0)) else q15) - 1)), (6, .int q12.1), (0, .ref (κ.2.1 0)), (1, .int k1), (4, .int a.1), (5, .int a.2.1)]) C.ex C.by dX9_mergeFewest_99 hl (by decide) rfl (fun ls hl => ?_)
        obtain ⟨b22, e23, hf⟩ := zb_some hf
        refine wlX9_mergeFewest_101 C h (lv_sub hl [2, 3, 5, 1, 0] rfl) b22 e23 ?_
        intro H locs ls h hl
        refine lv_aload_n C.ex C.by dX9_mergeFewest_131 rfl (lv_at hl 0 rfl) ?_
        refine z_get (v := .ref (κ.2.1 33)) C h iwX9 0 (wC_at0 κ _) rfl 8 (by decide) lkC180 rfl dX9_mergeFewest_132 ?_
        refine lv_iload C.ex C.by dX9_mergeFewest_135 (lv_at hl 3 rfl) ?_
        obtain ⟨q24, e25, hf⟩ := zb_some hf
        refine z_callRv (As := [.int q12.1]) (x := (zI b22 32)) (f := (zA b22 16)) C h (ctX6_add (κ := zκR κ (κ.2.1 33) (κ.2.1 34) (κ.2.2.2 0)) e25) (zgV lkC194 lkC139 lkC140 lkC52 lkC141) ⟨rfl, rfl⟩ hdX6_add ⟨Nat.le_of_ble_eq_true rfl, Nat.le_of_ble_eq_true rfl⟩ 33 34 (by decide) (wC_at33 κ _) (wC_at34 κ _) (sA (sI b22 32 (zI q24 0)) 16 (zA q24 0)) (wC_sr33 κ _ _ _) hl rfl rfl (Nat.le_of_ble_eq_true rfl) dX9_mergeFewest_137 ⟨Nat.zero_le _, Nat.zero_le _⟩ (fun H locs h => ?_)
        refine lv_iload_n C.ex C.by dX9_mergeFewest_140 rfl (lv_at hl 1 rfl) ?_
        refine lv_istore (lv' := [(4, .int k1), (0, .ref (κ.2.1 0)), (1, .int k1), (5, .int a.2.1), (6, .int q12.1)]) C.ex C.by dX9_mergeFewest_141 hl (by decide) rfl (fun ls hl => ?_)
        refine lv_iinc (v := (a.2.1 + (-1))) (lv' := [(5, .int (a.2.1 + (-1))), (4, .int k1), (0, .ref (κ.2.1 0)), (1, .int k1), (6, .int q12.1)]) C.ex C.by dX9_mergeFewest_143 hl (k := 3) rfl rfl (by decide) rfl (fun ls hl => ?_)
        refine lv_goto (tgt := 38) C.ex C.by dX9_mergeFewest_146 (by decide) ?_
        exact Kc _ _ _ (Option.some.inj hf).symm _ _ _ h (lv_sub hl [2, 3, 1, 0] rfl)
      · have hf := zif_t c14 hf
        exact Ke1 _ (Option.some.inj hf).symm _ _ _ h (lv_sub hl [1] rfl)
theorem wlX9_mergeFewest_38 {p : Program} {l : Launch} {e : Env} {s : State} {m : MethodId} {args : Array Value} {below : List Frame} {meth : Method} {c : Code} {A : Nat → Prop} {κ : zG} {H : Heap} {locs : List Loc} {ls : Array Slot} {Q : State → Prop} {n : Nat} {k1 : Int32} {k0 : Nat} {u4 : Int32} {u5 : Int32} {σ1 : zS} (C : zC cX9_mergeFewest 8 (some .boolean) RX9 κ A p s m args meth c) (h : zH wC κ A s σ1 H locs) (hl : lv_has ls 8 [(0, .ref (κ.2.1 0)), (1, .int k1), (4, .int u4), (5, .int u5)]) (b : (zS) ⊕ (zS)) (hb : zlp (fX9_mergeFewest_L38_38 n (κ.2.2.2 0) (κ.2.2.2 1) (κ.2.2.2 2) k1) k0 (u4, u5, σ1) = some b) (K : (fun b => Sum.elim (fun b : zS => ∀ (H : Heap) (locs : List Loc) (ls : Array Slot), zH wC κ A s b H locs → lv_has ls 8 [(0, .ref (κ.2.1 0))] → W p l e rmX9_mergeFewest s m args below meth c H locs 0 0 Q (F0 m 149 ls [])) (fun b : zS => ∀ (H : Heap) (locs : List Loc) (ls : Array Slot), zH wC κ A s b H locs → lv_has ls 8 [(0, .ref (κ.2.1 0))] → W p l e rmX9_mergeFewest s m args below meth c H locs 0 0 Q (F0 m 80 ls [])) b) b) : W p l e rmX9_mergeFewest s m args below meth c H locs 0 0 Q (F0 m 38 ls []) :=
  z_loop (body := fX9_mergeFewest_L38_38 n (κ.2.2.2 0) (κ.2.2.2 1) (κ.2.2.2 2) k1) (Wd := (fun a : Int32 × Int32 × zS => ∀ (H : Heap) (locs : List Loc) (ls : Array Slot), zH wC κ A s a.2.2 H locs → lv_has ls 8 [(0, .ref (κ.2.1 0)), (1, .int k1), (4, .int a.1), (5, .int a.2.1)] → W p l e rmX9_mergeFewest s m args below meth c H locs 0 0 Q (F0 m 38 ls []))) (Ex := (fun b : (zS) ⊕ (zS) => (fun b => Sum.elim (fun b : zS => ∀ (H : Heap) (locs : List Loc) (ls : Array Slot), zH wC κ A s b H locs → lv_has ls 8 [(0, .ref (κ.2.1 0))] → W p l e rmX9_mergeFewest s m args below meth c H locs 0 0 Q (F0 m 149 ls [])) (fun b : zS => ∀ (H : Heap) (locs : List Loc) (ls : Array Slot), zH wC κ A s b H locs → lv_has ls 8 [(0, .ref (κ.2.1 0))] → W p l e rmX9_mergeFewest s m args below meth c H locs 0 0 Q (F0 m 80 ls [])) b) b)) (fun a r hr Kc Ke H locs ls h hl => wX9_mergeFewest_L38_38 C h hl hr (fun v4 v5 σ1 e => Kc (v4, v5, σ1) e) (fun σ1 e => Ke (.inl σ1) e) (fun σ1 e => Ke (.inr σ1) e)) k0 (u4, u5, σ1) b hb K H locs ls h hl
set_option maxRecDepth 20000 in
set_option maxHeartbeats 4000000 in
theorem wX9_mergeFewest_33 {p : Program} {l : Launch} {e : Env} {s : State} {m : MethodId} {args : Array Value} {below : List Frame} {meth : Method} {c : Code} {A : Nat → Prop} {κ : zG} {H : Heap} {locs : List Loc} {ls : Array Slot} {n : Nat} {σ : zS} {x1 : Int32} {x2 : Int32} {y0 : Int32} {r1 : Int32} {r2 : zS} (C : zC cX9_mergeFewest 8 (some .boolean) RX9 κ A p s m args meth c) (h : zH wC κ A s σ H locs) (hl : lv_has ls 8 [(0, .ref (κ.2.1 0)), (1, .int x1), (2, .int x2)]) (hf : fX9_mergeFewest_33 n (κ.2.2.2 0) (κ.2.2.2 1) (κ.2.2.2 2) σ x1 x2 y0 = some (r1, r2)) : W p l e rmX9_mergeFewest s m args below meth c H locs 0 0 (MQ below (zQi wC κ A r1 r2) args s 0 0 A) (F0 m 33 ls [.int y0]) := by
  unfold fX9_mergeFewest_33 at hf
  refine lv_istore (lv' := [(4, .int y0), (0, .ref (κ.2.1 0)), (1, .int x1), (2, .int x2)]) C.ex C.by dX9_mergeFewest_33 hl (by decide) rfl (fun ls hl => ?_)
  refine lv_iload_n C.ex C.by dX9_mergeFewest_35 rfl (lv_at hl 3 rfl) ?_
  refine lv_istore (lv' := [(5, .int x2), (4, .int y0), (0, .ref (κ.2.1 0)), (1, .int x1), (2, .int x2)]) C.ex C.by dX9_mergeFewest_36 hl (by decide) rfl (fun ls hl => ?_)
  obtain ⟨b26, e27, hf⟩ := zb_some hf
  refine wlX9_mergeFewest_38 C h (lv_sub hl [2, 3, 1, 0] rfl) b26 e27 ?_
  rcases b26 with b26 | b26
  · dsimp only [Sum.elim_inl] at hf
    intro H locs ls h hl
    refine lv_iconst (v := 1) C.ex C.by dX9_mergeFewest_149 (by decide) ?_
    cases hf
    exact z_zret (r := 1) C h rfl dX9_mergeFewest_150
  · dsimp only [Sum.elim_inr] at hf
    intro H locs ls h hl
    refine lv_iconst (v := 0) C.ex C.by dX9_mergeFewest_80 (by decide) ?_
    cases hf
    exact z_zret (r := 0) C h rfl dX9_mergeFewest_81
set_option maxRecDepth 20000 in
set_option maxHeartbeats 4000000 in
theorem wX9_mergeFewest_22 {p : Program} {l : Launch} {e : Env} {s : State} {m : MethodId} {args : Array Value} {below : List Frame} {meth : Method} {c : Code} {A : Nat → Prop} {κ : zG} {H : Heap} {locs : List Loc} {ls : Array Slot} {n : Nat} {σ : zS} {x1 : Int32} {x2 : Int32} {r1 : Int32} {r2 : zS} (C : zC cX9_mergeFewest 8 (some .boolean) RX9 κ A p s m args meth c) (h : zH wC κ A s σ H locs) (hl : lv_has ls 8 [(0, .ref (κ.2.1 0)), (1, .int x1), (2, .int x2)]) (hf : fX9_mergeFewest_22 n (κ.2.2.2 0) (κ.2.2.2 1) (κ.2.2.2 2) σ x1 x2 = some (r1, r2)) : W p l e rmX9_mergeFewest s m args below meth c H locs 0 0 (MQ below (zQi wC κ A r1 r2) args s 0 0 A) (F0 m 22 ls []) := by
  unfold fX9_mergeFewest_22 at hf
  refine lv_iconst (v := 0) C.ex C.by dX9_mergeFewest_22 (by decide) ?_
  refine lv_goto (tgt := 33) C.ex C.by dX9_mergeFewest_23 (by decide) ?_
  exact wX9_mergeFewest_33 C h hl hf
set_option maxRecDepth 20000 in
set_option maxHeartbeats 4000000 in
theorem wX9_mergeFewest_0 {p : Program} {l : Launch} {e : Env} {s : State} {m : MethodId} {args : Array Value} {below : List Frame} {meth : Method} {c : Code} {A : Nat → Prop} {κ : zG} {H : Heap} {locs : List Loc} {ls : Array Slot} {n : Nat} {σ : zS} {x1 : Int32} {r1 : Int32} {r2 : zS} (C : zC cX9_mergeFewest 8 (some .boolean) RX9 κ A p s m args meth c) (h : zH wC κ A s σ H locs) (hl : lv_has ls 8 [(0, .ref (κ.2.1 0)), (1, .int x1)]) (hf : fX9_mergeFewest_0 n (κ.2.2.2 0) (κ.2.2.2 1) (κ.2.2.2 2) σ x1 = some (r1, r2)) : W p l e rmX9_mergeFewest s m args below meth c H locs 0 0 (MQ below (zQi wC κ A r1 r2) args s 0 0 A) (F0 m 0 ls []) := by
  unfold fX9_mergeFewest_0 at hf
  refine lv_aload_n C.ex C.by dX9_mergeFewest_0 rfl (lv_at hl 0 rfl) ?_
  refine z_get (v := .ref (κ.2.1 33)) C h iwX9 0 (wC_at0 κ _) rfl 8 (by decide) lkC180 rfl dX9_mergeFewest_1 ?_
  obtain ⟨q1, e2, hf⟩ := zb_some hf
  refine z_callRi (As := []) (x := (zI σ 32)) (f := (zA σ 16)) C h (ctX6_size (κ := zκR κ (κ.2.1 33) (κ.2.1 34) (κ.2.2.2 0)) e2) (zgV lkC181 lkC182 lkC183 lkC52 lkC184) ⟨rfl, rfl⟩ hdX6_size ⟨Nat.le_of_ble_eq_true rfl, Nat.le_of_ble_eq_true rfl⟩ 33 34 (by decide) (wC_at33 κ _) (wC_at34 κ _) σ (zset2 (wC_at33 κ _) (wC_at34 κ _)) hl rfl rfl (Nat.le_of_ble_eq_true rfl) dX9_mergeFewest_4 ⟨Nat.zero_le _, Nat.zero_le _⟩ (fun H locs h => ?_)
  refine lv_istore_n (lv' := [(2, .int q1), (0, .ref (κ.2.1 0)), (1, .int x1)]) C.ex C.by dX9_mergeFewest_7 rfl hl (by decide) rfl (fun ls hl => ?_)
  refine lv_iload_n C.ex C.by dX9_mergeFewest_8 rfl (lv_at hl 2 rfl) ?_
  refine lv_iconst (v := 1) C.ex C.by dX9_mergeFewest_9 (by decide) ?_
  refine lv_isub C.ex C.by dX9_mergeFewest_10 ?_
  refine lv_istore_n (lv' := [(3, .int (x1 - 1)), (2, .int q1), (0, .ref (κ.2.1 0)), (1, .int x1)]) C.ex C.by dX9_mergeFewest_11 rfl hl (by decide) rfl (fun ls hl => ?_)
  refine lv_iload_n C.ex C.by dX9_mergeFewest_12 rfl (lv_at hl 1 rfl) ?_
  refine lv_iconst (v := 2) C.ex C.by dX9_mergeFewest_13 (by decide) ?_
  refine lv_icmp_lt (tgt := 22) C.ex C.by dX9_mergeFewest_14 (by decide) (fun c3 => ?_) (fun c3 => ?_)
  · have hf := zif_t c3 hf
    exact wX9_mergeFewest_22 C h (lv_sub hl [2, 3, 1] rfl) hf
  · have hf := zif_f c3 hf
    refine lv_iload_n C.ex C.by dX9_mergeFewest_17 rfl (lv_at hl 0 rfl) ?_
    refine lv_iconst (v := 1) C.ex C.by dX9_mergeFewest_18 (by decide) ?_
    refine lv_icmp_ge (tgt := 26) C.ex C.by dX9_mergeFewest_19 (by decide) (fun c4 => ?_) (fun c4 => ?_)
    · have hf := zif_t c4 hf
      refine lv_iconst (v := 2) C.ex C.by dX9_mergeFewest_26 (by decide) ?_
      refine lv_iload_n C.ex C.by dX9_mergeFewest_27 rfl (lv_at hl 1 rfl) ?_
      refine lv_iconst (v := 2) C.ex C.by dX9_mergeFewest_28 (by decide) ?_
      refine lv_isub C.ex C.by dX9_mergeFewest_29 ?_
      refine lv_iload_n C.ex C.by dX9_mergeFewest_30 rfl (lv_at hl 0 rfl) ?_
      obtain ⟨h5, hf⟩ := zg_some hf
      refine lv_irem C.ex C.by dX9_mergeFewest_31 (znz_ne h5) ?_
      refine lv_iadd C.ex C.by dX9_mergeFewest_32 ?_
      exact wX9_mergeFewest_33 C h (lv_sub hl [2, 3, 1] rfl) hf
    · have hf := zif_f c4 hf
      exact wX9_mergeFewest_22 C h (lv_sub hl [2, 3, 1] rfl) hf
theorem ctX9_mergeFewest {l : Launch} {κ : zG} {n : Nat} {σ : zS} {x1 : Int32} {r1 : Int32} {r2 : zS} (hf : fX9_mergeFewest_0 n (κ.2.2.2 0) (κ.2.2.2 1) (κ.2.2.2 2) σ x1 = some (r1, r2)) : zMi l yX9_mergeFewest (Cond.code yX9_mergeFewest cX9_mergeFewest 8 (some .boolean)) rmX9_mergeFewest wC κ [.ref (κ.2.1 0), .int x1] σ r1 r2 :=
  zMi_of (by decide) (Nat.le_of_ble_eq_true rfl) (fun p e s m below meth c A C h ls hl => wX9_mergeFewest_0 C h hl hf)
theorem hdX8_stepsOfLevel : yX8_stepsOfLevel.cls = RX8 ∧ yX8_stepsOfLevel.cls ≠ "java/lang/invoke/MethodHandle" ∧ yX8_stepsOfLevel.cls ≠ "java/lang/invoke/VarHandle" ∧ (parseMethodDescriptor yX8_stepsOfLevel.desc).map (fun d => d.parameters.length) = some 0 := by decide +kernel
abbrev rmX8_stepsOfLevel : Room := { frames := 0, cells := 0, slots := 0, locals := 0 }
set_option maxRecDepth 20000 in
set_option maxHeartbeats 4000000 in
theorem wX8_stepsOfLevel_0 {p : Program} {l : Launch} {e : Env} {s : State} {m : MethodId} {args : Array Value} {below : List Frame} {meth : Method} {c : Code} {A : Nat → Prop} {κ : zG} {H : Heap} {locs : List Loc} {ls : Array Slot} {n : Nat} {σ : zS} {r : Int32} (C : zC cX8_stepsOfLevel 1 (some .int) RX8 κ A p s m args meth c) (h : zH wC κ A s σ H locs) (hl : lv_has ls 1 [(0, .ref (κ.2.1 29))]) (hf : fX8_stepsOfLevel_0 n (κ.2.2.2 0) (κ.2.2.2 1) (κ.2.2.2 2) σ = some r) : W p l e rmX8_stepsOfLevel s m args below meth c H locs 0 0 (MQ below (zQi wC κ A r σ) args s 0 0 A) (F0 m 0 ls []) := by
  unfold fX8_stepsOfLevel_0 at hf
  refine lv_aload_n C.ex C.by dX8_stepsOfLevel_0 rfl (lv_at hl 0 rfl) ?_
  refine z_get (v := .int (zI σ 30)) C h iwX8 29 (wC_at29 κ _) rfl 3 (by decide) lkC277 rfl dX8_stepsOfLevel_1 ?_
  refine lv_if_le (tgt := 30) C.ex C.by dX8_stepsOfLevel_4 (by decide) (fun c1 => ?_) (fun c1 => ?_)
  · have hf := zif_t c1 hf
    refine lv_iconst (v := 0) C.ex C.by dX8_stepsOfLevel_30 (by decide) ?_
    cases hf
    exact z_iret C h dX8_stepsOfLevel_31
  · have hf := zif_f c1 hf
    refine lv_aload_n C.ex C.by dX8_stepsOfLevel_7 rfl (lv_at hl 0 rfl) ?_
    refine z_get (v := .int (zI σ 30)) C h iwX8 29 (wC_at29 κ _) rfl 3 (by decide) lkC277 rfl dX8_stepsOfLevel_8 ?_
    refine lv_bipush (v := 6) C.ex C.by dX8_stepsOfLevel_11 (by decide) ?_
    refine lv_icmp_gt (tgt := 30) C.ex C.by dX8_stepsOfLevel_13 (by decide) (fun c2 => ?_) (fun c2 => ?_)
    · have hf := zif_t c2 hf
      refine lv_iconst (v := 0) C.ex C.by dX8_stepsOfLevel_30 (by decide) ?_
      cases hf
      exact z_iret C h dX8_stepsOfLevel_31
    · have hf := zif_f c2 hf
      refine lv_aload_n C.ex C.by dX8_stepsOfLevel_16 rfl (lv_at hl 0 rfl) ?_
      refine z_get (v := .ref (κ.2.1 31)) C h iwX8 29 (wC_at29 κ _) rfl 1 (by decide) lkC278 rfl dX8_stepsOfLevel_17 ?_
      refine lv_aload_n C.ex C.by dX8_stepsOfLevel_20 rfl (lv_at hl 0 rfl) ?_
      refine z_get (v := .int (zI σ 30)) C h iwX8 29 (wC_at29 κ _) rfl 3 (by decide) lkC277 rfl dX8_stepsOfLevel_21 ?_
      refine lv_iconst (v := 1) C.ex C.by dX8_stepsOfLevel_24 (by decide) ?_
      refine lv_isub C.ex C.by dX8_stepsOfLevel_25 ?_
      obtain ⟨h3, hf⟩ := zg_some hf
      refine z_iald (f := (zA σ 14)) C h 31 (wC_at31 κ _) h3 dX8_stepsOfLevel_26 ?_
      refine lv_goto (tgt := 31) C.ex C.by dX8_stepsOfLevel_27 (by decide) ?_
      cases hf
      exact z_iret C h dX8_stepsOfLevel_31
theorem ctX8_stepsOfLevel {l : Launch} {κ : zG} {n : Nat} {σ : zS} {r : Int32} (hf : fX8_stepsOfLevel_0 n (κ.2.2.2 0) (κ.2.2.2 1) (κ.2.2.2 2) σ = some r) : zMi l yX8_stepsOfLevel (Cond.code yX8_stepsOfLevel cX8_stepsOfLevel 1 (some .int)) rmX8_stepsOfLevel wC κ [.ref (κ.2.1 29)] σ r σ :=
  zMi_of (by decide) (Nat.le_of_ble_eq_true rfl) (fun p e s m below meth c A C h ls hl => wX8_stepsOfLevel_0 C h hl hf)
