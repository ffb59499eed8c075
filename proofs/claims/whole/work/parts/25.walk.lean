theorem hdX10_free : yX10_free.cls = RX10 ∧ yX10_free.cls ≠ "java/lang/invoke/MethodHandle" ∧ yX10_free.cls ≠ "java/lang/invoke/VarHandle" ∧ (parseMethodDescriptor yX10_free.desc).map (fun d => d.parameters.length) = some 1 := by decide +kernel
abbrev rmX10_free : Room := { frames := 0, cells := 0, slots := 0, locals := 0 }
set_option maxRecDepth 20000 in
set_option maxHeartbeats 4000000 in
theorem wX10_free_L7_7 {p : Program} {l : Launch} {e : Env} {s : State} {m : MethodId} {args : Array Value} {below : List Frame} {meth : Method} {c : Code} {A : Nat → Prop} {κ : zG} {H : Heap} {locs : List Loc} {ls : Array Slot} {Q : State → Prop} {n : Nat} {k1 : Int32} {a : Int32 × zS} {r : (Int32 × zS) ⊕ (zS)} (C : zC cX10_free 3 none RX10 κ A p s m args meth c) (h : zH wM κ A s a.2 H locs) (hl : lv_has ls 3 [(0, .ref (κ.2.1 0)), (1, .int k1), (2, .int a.1)]) (hf : fX10_free_L7_7 n k1 a = some r) (Kc : ∀ (v2 : Int32) (σ1 : zS), r = .inl (v2, σ1) → ∀ (H : Heap) (locs : List Loc) (ls : Array Slot), zH wM κ A s σ1 H locs → lv_has ls 3 [(0, .ref (κ.2.1 0)), (1, .int k1), (2, .int v2)] → W p l e rmX10_free s m args below meth c H locs 0 0 Q (F0 m 7 ls [])) (Ke0 : ∀ (σ1 : zS), r = .inr σ1 → ∀ (H : Heap) (locs : List Loc) (ls : Array Slot), zH wM κ A s σ1 H locs → lv_has ls 3 [(0, .ref (κ.2.1 0)), (1, .int k1)] → W p l e rmX10_free s m args below meth c H locs 0 0 Q (F0 m 29 ls [])) : W p l e rmX10_free s m args below meth c H locs 0 0 Q (F0 m 7 ls []) := by
  unfold fX10_free_L7_7 at hf
  refine lv_iload_n C.ex C.by dX10_free_7 rfl (lv_at hl 2 rfl) ?_
  refine lv_iconst (v := (-1)) C.ex C.by dX10_free_8 (by decide) ?_
  refine lv_icmp_eq (tgt := 29) C.ex C.by dX10_free_9 (by decide) (fun c2 => ?_) (fun c2 => ?_)
  · have hf := zif_t c2 hf
    exact Ke0 _ (Option.some.inj hf).symm _ _ _ h (lv_sub hl [0, 1] rfl)
  · have hf := zif_f c2 hf
    refine lv_aload_n C.ex C.by dX10_free_12 rfl (lv_at hl 0 rfl) ?_
    refine z_get (v := .ref (κ.2.1 2)) C h iwX10 0 (wM_at0 κ _) rfl 5 (by decide) lkM29 rfl dX10_free_13 ?_
    refine lv_iload_n C.ex C.by dX10_free_16 rfl (lv_at hl 2 rfl) ?_
    refine lv_iconst (v := 0) C.ex C.by dX10_free_17 (by decide) ?_
    obtain ⟨h3, hf⟩ := zg_some hf
    refine z_zast (f := (zA a.2 0)) C h 2 (wM_at2 κ _) h3 (sA a.2 0 (upd (zA a.2 0) (Int32.toNatClampNeg a.1) (vp_nar .boolean 0))) (wM_s2 κ _ _) dX10_free_18 (fun H locs h => ?_)
    refine lv_aload_n C.ex C.by dX10_free_19 rfl (lv_at hl 0 rfl) ?_
    refine z_get (v := .ref (κ.2.1 4)) C h iwX10 0 (wM_at0 κ _) rfl 7 (by decide) lkM31 rfl dX10_free_20 ?_
    refine lv_iload_n C.ex C.by dX10_free_23 rfl (lv_at hl 2 rfl) ?_
    obtain ⟨h4, hf⟩ := zg_some hf
    refine z_iald (f := (zA a.2 2)) C h 4 (wM_at4 κ _) h4 dX10_free_24 ?_
    refine lv_istore_n (lv' := [(2, .int ((zA a.2 2) (Int32.toNatClampNeg a.1))), (0, .ref (κ.2.1 0)), (1, .int k1)]) C.ex C.by dX10_free_25 rfl hl (by decide) rfl (fun ls hl => ?_)
    refine lv_goto (tgt := 7) C.ex C.by dX10_free_26 (by decide) ?_
    exact Kc _ _ (Option.some.inj hf).symm _ _ _ h (lv_sub hl [1, 2, 0] rfl)
theorem wlX10_free_7 {p : Program} {l : Launch} {e : Env} {s : State} {m : MethodId} {args : Array Value} {below : List Frame} {meth : Method} {c : Code} {A : Nat → Prop} {κ : zG} {H : Heap} {locs : List Loc} {ls : Array Slot} {Q : State → Prop} {n : Nat} {k1 : Int32} {k0 : Nat} {u2 : Int32} {σ1 : zS} (C : zC cX10_free 3 none RX10 κ A p s m args meth c) (h : zH wM κ A s σ1 H locs) (hl : lv_has ls 3 [(0, .ref (κ.2.1 0)), (1, .int k1), (2, .int u2)]) (b : zS) (hb : zlp (fX10_free_L7_7 n k1) k0 (u2, σ1) = some b) (K : (fun b : zS => ∀ (H : Heap) (locs : List Loc) (ls : Array Slot), zH wM κ A s b H locs → lv_has ls 3 [(0, .ref (κ.2.1 0)), (1, .int k1)] → W p l e rmX10_free s m args below meth c H locs 0 0 Q (F0 m 29 ls [])) b) : W p l e rmX10_free s m args below meth c H locs 0 0 Q (F0 m 7 ls []) :=
  z_loop (body := fX10_free_L7_7 n k1) (Wd := (fun a : Int32 × zS => ∀ (H : Heap) (locs : List Loc) (ls : Array Slot), zH wM κ A s a.2 H locs → lv_has ls 3 [(0, .ref (κ.2.1 0)), (1, .int k1), (2, .int a.1)] → W p l e rmX10_free s m args below meth c H locs 0 0 Q (F0 m 7 ls []))) (Ex := (fun b : zS => (fun b : zS => ∀ (H : Heap) (locs : List Loc) (ls : Array Slot), zH wM κ A s b H locs → lv_has ls 3 [(0, .ref (κ.2.1 0)), (1, .int k1)] → W p l e rmX10_free s m args below meth c H locs 0 0 Q (F0 m 29 ls [])) b)) (fun a r hr Kc Ke H locs ls h hl => wX10_free_L7_7 C h hl hr (fun v2 σ1 e => Kc (v2, σ1) e) (fun σ1 e => Ke σ1 e)) k0 (u2, σ1) b hb K H locs ls h hl
set_option maxRecDepth 20000 in
set_option maxHeartbeats 4000000 in
theorem wX10_free_64 {p : Program} {l : Launch} {e : Env} {s : State} {m : MethodId} {args : Array Value} {below : List Frame} {meth : Method} {c : Code} {A : Nat → Prop} {κ : zG} {H : Heap} {locs : List Loc} {ls : Array Slot} {n : Nat} {σ : zS} {y0 : Int32} {y1 : Int32} {r : zS} (C : zC cX10_free 3 none RX10 κ A p s m args meth c) (h : zH wM κ A s σ H locs) (hl : lv_has ls 3 [(0, .ref (κ.2.1 0))]) (hf : fX10_free_64 n σ y0 y1 = some r) : W p l e rmX10_free s m args below meth c H locs 0 0 (MQ below (zQv wM κ A r) args s 0 0 A) (F0 m 64 ls [.int y0, .int y1, .ref (κ.2.1 8)]) := by
  unfold fX10_free_64 at hf
  obtain ⟨h11, hf⟩ := zg_some hf
  refine z_zast (f := (zA σ 6)) C h 8 (wM_at8 κ _) h11 (sA σ 6 (upd (zA σ 6) (Int32.toNatClampNeg y1) (vp_nar .boolean y0))) (wM_s8 κ _ _) dX10_free_64 (fun H locs h => ?_)
  cases hf
  exact z_vret C h dX10_free_65
set_option maxRecDepth 20000 in
set_option maxHeartbeats 4000000 in
theorem wX10_free_0 {p : Program} {l : Launch} {e : Env} {s : State} {m : MethodId} {args : Array Value} {below : List Frame} {meth : Method} {c : Code} {A : Nat → Prop} {κ : zG} {H : Heap} {locs : List Loc} {ls : Array Slot} {n : Nat} {σ : zS} {x1 : Int32} {r : zS} (C : zC cX10_free 3 none RX10 κ A p s m args meth c) (h : zH wM κ A s σ H locs) (hl : lv_has ls 3 [(0, .ref (κ.2.1 0)), (1, .int x1)]) (hf : fX10_free_0 n σ x1 = some r) : W p l e rmX10_free s m args below meth c H locs 0 0 (MQ below (zQv wM κ A r) args s 0 0 A) (F0 m 0 ls []) := by
  unfold fX10_free_0 at hf
  refine lv_aload_n C.ex C.by dX10_free_0 rfl (lv_at hl 0 rfl) ?_
  refine z_get (v := .ref (κ.2.1 5)) C h iwX10 0 (wM_at0 κ _) rfl 8 (by decide) lkM45 rfl dX10_free_1 ?_
  refine lv_iload_n C.ex C.by dX10_free_4 rfl (lv_at hl 1 rfl) ?_
  obtain ⟨h1, hf⟩ := zg_some hf
  refine z_iald (f := (zA σ 3)) C h 5 (wM_at5 κ _) h1 dX10_free_5 ?_
  refine lv_istore_n (lv' := [(2, .int ((zA σ 3) (Int32.toNatClampNeg x1))), (0, .ref (κ.2.1 0)), (1, .int x1)]) C.ex C.by dX10_free_6 rfl hl (by decide) rfl (fun ls hl => ?_)
  obtain ⟨b5, e6, hf⟩ := zb_some hf
  refine wlX10_free_7 C h (lv_sub hl [1, 2, 0] rfl) b5 e6 ?_
  intro H locs ls h hl
  refine lv_aload_n C.ex C.by dX10_free_29 rfl (lv_at hl 0 rfl) ?_
  refine z_get (v := .ref (κ.2.1 5)) C h iwX10 0 (wM_at0 κ _) rfl 8 (by decide) lkM45 rfl dX10_free_30 ?_
  refine lv_iload_n C.ex C.by dX10_free_33 rfl (lv_at hl 1 rfl) ?_
  refine lv_iconst (v := (-1)) C.ex C.by dX10_free_34 (by decide) ?_
  obtain ⟨h7, hf⟩ := zg_some hf
  refine z_iast (f := (zA b5 3)) C h 5 (wM_at5 κ _) h7 (sA b5 3 (upd (zA b5 3) (Int32.toNatClampNeg x1) (-1))) (wM_s5 κ _ _) dX10_free_35 (fun H locs h => ?_)
  refine lv_aload_n C.ex C.by dX10_free_36 rfl (lv_at hl 0 rfl) ?_
  refine z_get (v := .ref (κ.2.1 6)) C h iwX10 0 (wM_at0 κ _) rfl 9 (by decide) lkM46 rfl dX10_free_37 ?_
  refine lv_iload_n C.ex C.by dX10_free_40 rfl (lv_at hl 1 rfl) ?_
  refine lv_iconst (v := (-1)) C.ex C.by dX10_free_41 (by decide) ?_
  obtain ⟨h8, hf⟩ := zg_some hf
  refine z_iast (f := (zA b5 4)) C h 6 (wM_at6 κ _) h8 (sA (sA b5 3 (upd (zA b5 3) (Int32.toNatClampNeg x1) (-1))) 4 (upd (zA b5 4) (Int32.toNatClampNeg x1) (-1))) (wM_s6 κ _ _) dX10_free_42 (fun H locs h => ?_)
  refine lv_aload_n C.ex C.by dX10_free_43 rfl (lv_at hl 0 rfl) ?_
  refine z_get (v := .ref (κ.2.1 7)) C h iwX10 0 (wM_at0 κ _) rfl 10 (by decide) lkM6 rfl dX10_free_44 ?_
  refine lv_iload_n C.ex C.by dX10_free_47 rfl (lv_at hl 1 rfl) ?_
  refine lv_iconst (v := 0) C.ex C.by dX10_free_48 (by decide) ?_
  obtain ⟨h9, hf⟩ := zg_some hf
  refine z_iast (f := (zA b5 5)) C h 7 (wM_at7 κ _) h9 (sA (sA (sA b5 3 (upd (zA b5 3) (Int32.toNatClampNeg x1) (-1))) 4 (upd (zA b5 4) (Int32.toNatClampNeg x1) (-1))) 5 (upd (zA b5 5) (Int32.toNatClampNeg x1) 0)) (wM_s7 κ _ _) dX10_free_49 (fun H locs h => ?_)
  refine lv_aload_n C.ex C.by dX10_free_50 rfl (lv_at hl 0 rfl) ?_
  refine z_get (v := .ref (κ.2.1 8)) C h iwX10 0 (wM_at0 κ _) rfl 11 (by decide) lkM97 rfl dX10_free_51 ?_
  refine lv_iload_n C.ex C.by dX10_free_54 rfl (lv_at hl 1 rfl) ?_
  refine lv_iload_n C.ex C.by dX10_free_55 rfl (lv_at hl 1 rfl) ?_
  refine lv_if_ne (tgt := 63) C.ex C.by dX10_free_56 (by decide) (fun c10 => ?_) (fun c10 => ?_)
  · have hf := zif_f c10 hf
    refine lv_iconst (v := 0) C.ex C.by dX10_free_63 (by decide) ?_
    exact wX10_free_64 C h (lv_sub hl [0] rfl) hf
  · have hf := zif_t c10 hf
    refine lv_iconst (v := 1) C.ex C.by dX10_free_59 (by decide) ?_
    refine lv_goto (tgt := 64) C.ex C.by dX10_free_60 (by decide) ?_
    exact wX10_free_64 C h (lv_sub hl [0] rfl) hf
theorem ctX10_free {l : Launch} {κ : zG} {n : Nat} {σ : zS} {x1 : Int32} {r : zS} (hf : fX10_free_0 n σ x1 = some r) : zMv l yX10_free (Cond.code yX10_free cX10_free 3 none) rmX10_free wM κ [.ref (κ.2.1 0), .int x1] σ r :=
  zMv_of (by decide) (Nat.le_of_ble_eq_true rfl) (fun p e s m below meth c A C h ls hl => wX10_free_0 C h hl hf)
theorem hdX10_ended : yX10_ended.cls = RX10 ∧ yX10_ended.cls ≠ "java/lang/invoke/MethodHandle" ∧ yX10_ended.cls ≠ "java/lang/invoke/VarHandle" ∧ (parseMethodDescriptor yX10_ended.desc).map (fun d => d.parameters.length) = some 1 := by decide +kernel
abbrev rmX10_ended : Room := { frames := 0, cells := 0, slots := 0, locals := 0 }
set_option maxRecDepth 20000 in
set_option maxHeartbeats 4000000 in
theorem wX10_ended_31 {p : Program} {l : Launch} {e : Env} {s : State} {m : MethodId} {args : Array Value} {below : List Frame} {meth : Method} {c : Code} {A : Nat → Prop} {κ : zG} {H : Heap} {locs : List Loc} {ls : Array Slot} {n : Nat} {σ : zS} {y0 : Int32} {r1 : Int32} {r2 : zS} (C : zC cX10_ended 2 (some .int) RX10 κ A p s m args meth c) (h : zH wM κ A s σ H locs) (hl : lv_has ls 2 [(0, .ref (κ.2.1 0))]) (hf : fX10_ended_31 n σ y0 = some (r1, r2)) : W p l e rmX10_ended s m args below meth c H locs 0 0 (MQ below (zQi wM κ A r1 r2) args s 0 0 A) (F0 m 31 ls [.int y0, .ref (κ.2.1 0)]) := by
  unfold fX10_ended_31 at hf
  refine z_put C h iwX10 tyX10_ok nmX10 0 (wM_at0 κ _) rfl 0 (by decide) lkM8 rfl rfl rfl (Nat.le_of_ble_eq_true rfl) (sI σ 0 y0) (wM_s0_0 κ _ _) dX10_ended_31 (fun H locs h => ?_)
  refine lv_aload_n C.ex C.by dX10_ended_34 rfl (lv_at hl 0 rfl) ?_
  refine z_get (v := .int (zI σ 16)) C h iwX10 0 (wM_at0 κ _) rfl 28 (by decide) lkM4 rfl dX10_ended_35 ?_
  refine lv_if_eq (tgt := 46) C.ex C.by dX10_ended_38 (by decide) (fun c4 => ?_) (fun c4 => ?_)
  · have hf := zif_t c4 hf
    refine lv_aload_n C.ex C.by dX10_ended_46 rfl (lv_at hl 0 rfl) ?_
    refine z_get (v := .int (zI σ 4)) C h iwX10 0 (wM_at0 κ _) rfl 13 (by decide) lkM5 rfl dX10_ended_47 ?_
    cases hf
    exact z_iret C h dX10_ended_50
  · have hf := zif_f c4 hf
    refine lv_bipush (v := (-2)) C.ex C.by dX10_ended_41 (by decide) ?_
    refine lv_goto (tgt := 50) C.ex C.by dX10_ended_43 (by decide) ?_
    cases hf
    exact z_iret C h dX10_ended_50
set_option maxRecDepth 20000 in
set_option maxHeartbeats 4000000 in
theorem wX10_ended_14 {p : Program} {l : Launch} {e : Env} {s : State} {m : MethodId} {args : Array Value} {below : List Frame} {meth : Method} {c : Code} {A : Nat → Prop} {κ : zG} {H : Heap} {locs : List Loc} {ls : Array Slot} {n : Nat} {σ : zS} {x1 : Int32} {y0 : Int32} {r1 : Int32} {r2 : zS} (C : zC cX10_ended 2 (some .int) RX10 κ A p s m args meth c) (h : zH wM κ A s σ H locs) (hl : lv_has ls 2 [(0, .ref (κ.2.1 0)), (1, .int x1)]) (hf : fX10_ended_14 n σ x1 y0 = some (r1, r2)) : W p l e rmX10_ended s m args below meth c H locs 0 0 (MQ below (zQi wM κ A r1 r2) args s 0 0 A) (F0 m 14 ls [.int y0, .ref (κ.2.1 0)]) := by
  unfold fX10_ended_14 at hf
  obtain ⟨h2, hf⟩ := zg_some hf
  refine z_put C h iwX10 tyX10_ok nmX10 0 (wM_at0 κ _) rfl 28 (by decide) lkM4 rfl (zbo_n h2) (zbo_f h2) (Nat.le_of_ble_eq_true rfl) (sI σ 16 y0) (wM_s0_28 κ _ _) dX10_ended_14 (fun H locs h => ?_)
  refine lv_aload_n C.ex C.by dX10_ended_17 rfl (lv_at hl 0 rfl) ?_
  refine lv_aload_n C.ex C.by dX10_ended_18 rfl (lv_at hl 0 rfl) ?_
  refine z_get (v := .int (zI σ 17)) C h iwX10 0 (wM_at0 κ _) rfl 29 (by decide) lkM17 rfl dX10_ended_19 ?_
  refine lv_iconst (v := 2) C.ex C.by dX10_ended_22 (by decide) ?_
  refine lv_icmp_ne (tgt := 30) C.ex C.by dX10_ended_23 (by decide) (fun c3 => ?_) (fun c3 => ?_)
  · have hf := zif_f c3 hf
    refine lv_iconst (v := 0) C.ex C.by dX10_ended_30 (by decide) ?_
    exact wX10_ended_31 C h (lv_sub hl [0] rfl) hf
  · have hf := zif_t c3 hf
    refine lv_iload_n C.ex C.by dX10_ended_26 rfl (lv_at hl 1 rfl) ?_
    refine lv_goto (tgt := 31) C.ex C.by dX10_ended_27 (by decide) ?_
    exact wX10_ended_31 C h (lv_sub hl [0] rfl) hf
set_option maxRecDepth 20000 in
set_option maxHeartbeats 4000000 in
theorem wX10_ended_0 {p : Program} {l : Launch} {e : Env} {s : State} {m : MethodId} {args : Array Value} {below : List Frame} {meth : Method} {c : Code} {A : Nat → Prop} {κ : zG} {H : Heap} {locs : List Loc} {ls : Array Slot} {n : Nat} {σ : zS} {x1 : Int32} {r1 : Int32} {r2 : zS} (C : zC cX10_ended 2 (some .int) RX10 κ A p s m args meth c) (h : zH wM κ A s σ H locs) (hl : lv_has ls 2 [(0, .ref (κ.2.1 0)), (1, .int x1)]) (hf : fX10_ended_0 n σ x1 = some (r1, r2)) : W p l e rmX10_ended s m args below meth c H locs 0 0 (MQ below (zQi wM κ A r1 r2) args s 0 0 A) (F0 m 0 ls []) := by
  unfold fX10_ended_0 at hf
  refine lv_aload_n C.ex C.by dX10_ended_0 rfl (lv_at hl 0 rfl) ?_
  refine lv_aload_n C.ex C.by dX10_ended_1 rfl (lv_at hl 0 rfl) ?_
  refine z_get (v := .int (zI σ 17)) C h iwX10 0 (wM_at0 κ _) rfl 29 (by decide) lkM17 rfl dX10_ended_2 ?_
  refine lv_iconst (v := 1) C.ex C.by dX10_ended_5 (by decide) ?_
  refine lv_icmp_ne (tgt := 13) C.ex C.by dX10_ended_6 (by decide) (fun c1 => ?_) (fun c1 => ?_)
  · have hf := zif_f c1 hf
    refine lv_iconst (v := 0) C.ex C.by dX10_ended_13 (by decide) ?_
    exact wX10_ended_14 C h hl hf
  · have hf := zif_t c1 hf
    refine lv_iconst (v := 1) C.ex C.by dX10_ended_9 (by decide) ?_
    refine lv_goto (tgt := 14) C.ex C.by dX10_ended_10 (by decide) ?_
    exact wX10_ended_14 C h hl hf
theorem ctX10_ended {l : Launch} {κ : zG} {n : Nat} {σ : zS} {x1 : Int32} {r1 : Int32} {r2 : zS} (hf : fX10_ended_0 n σ x1 = some (r1, r2)) : zMi l yX10_ended (Cond.code yX10_ended cX10_ended 2 (some .int)) rmX10_ended wM κ [.ref (κ.2.1 0), .int x1] σ r1 r2 :=
  zMi_of (by decide) (Nat.le_of_ble_eq_true rfl) (fun p e s m below meth c A C h ls hl => wX10_ended_0 C h hl hf)
theorem hdX10_giveBack : yX10_giveBack.cls = RX10 ∧ yX10_giveBack.cls ≠ "java/lang/invoke/MethodHandle" ∧ yX10_giveBack.cls ≠ "java/lang/invoke/VarHandle" ∧ (parseMethodDescriptor yX10_giveBack.desc).map (fun d => d.parameters.length) = some 0 := by decide +kernel
abbrev rmX10_giveBack : Room := { frames := 0, cells := 0, slots := 0, locals := 0 }
set_option maxRecDepth 20000 in
set_option maxHeartbeats 4000000 in
theorem wX10_giveBack_L2_38 {p : Program} {l : Launch} {e : Env} {s : State} {m : MethodId} {args : Array Value} {below : List Frame} {meth : Method} {c : Code} {A : Nat → Prop} {κ : zG} {H : Heap} {locs : List Loc} {ls : Array Slot} {Q : State → Prop} {n : Nat} {σ : zS} {x1 : Int32} {y0 : Int32} {y1 : Int32} {r : (Int32 × zS) ⊕ (zS)} (C : zC cX10_giveBack 2 none RX10 κ A p s m args meth c) (h : zH wM κ A s σ H locs) (hl : lv_has ls 2 [(0, .ref (κ.2.1 0)), (1, .int x1)]) (hf : fX10_giveBack_L2_38 n σ x1 y0 y1 = some r) (Kc : ∀ (v1 : Int32) (σ1 : zS), r = .inl (v1, σ1) → ∀ (H : Heap) (locs : List Loc) (ls : Array Slot), zH wM κ A s σ1 H locs → lv_has ls 2 [(0, .ref (κ.2.1 0)), (1, .int v1)] → W p l e rmX10_giveBack s m args below meth c H locs 0 0 Q (F0 m 2 ls [])) (Ke0 : ∀ (σ1 : zS), r = .inr σ1 → ∀ (H : Heap) (locs : List Loc) (ls : Array Slot), zH wM κ A s σ1 H locs → lv_has ls 2 [(0, .ref (κ.2.1 0))] → W p l e rmX10_giveBack s m args below meth c H locs 0 0 Q (F0 m 45 ls [])) : W p l e rmX10_giveBack s m args below meth c H locs 0 0 Q (F0 m 38 ls [.int y0, .int y1, .ref (κ.2.1 2)]) := by
  unfold fX10_giveBack_L2_38 at hf
  obtain ⟨h6, hf⟩ := zg_some hf
  refine z_zast (f := (zA σ 0)) C h 2 (wM_at2 κ _) h6 (sA σ 0 (upd (zA σ 0) (Int32.toNatClampNeg y1) (vp_nar .boolean y0))) (wM_s2 κ _ _) dX10_giveBack_38 (fun H locs h => ?_)
  refine lv_iinc (v := (x1 + 1)) (lv' := [(1, .int (x1 + 1)), (0, .ref (κ.2.1 0))]) C.ex C.by dX10_giveBack_39 hl (k := 1) rfl rfl (by decide) rfl (fun ls hl => ?_)
  refine lv_goto (tgt := 2) C.ex C.by dX10_giveBack_42 (by decide) ?_
  exact Kc _ _ (Option.some.inj hf).symm _ _ _ h (lv_sub hl [1, 0] rfl)
set_option maxRecDepth 20000 in
set_option maxHeartbeats 4000000 in
theorem wX10_giveBack_L2_37 {p : Program} {l : Launch} {e : Env} {s : State} {m : MethodId} {args : Array Value} {below : List Frame} {meth : Method} {c : Code} {A : Nat → Prop} {κ : zG} {H : Heap} {locs : List Loc} {ls : Array Slot} {Q : State → Prop} {n : Nat} {σ : zS} {x1 : Int32} {y0 : Int32} {r : (Int32 × zS) ⊕ (zS)} (C : zC cX10_giveBack 2 none RX10 κ A p s m args meth c) (h : zH wM κ A s σ H locs) (hl : lv_has ls 2 [(0, .ref (κ.2.1 0)), (1, .int x1)]) (hf : fX10_giveBack_L2_37 n σ x1 y0 = some r) (Kc : ∀ (v1 : Int32) (σ1 : zS), r = .inl (v1, σ1) → ∀ (H : Heap) (locs : List Loc) (ls : Array Slot), zH wM κ A s σ1 H locs → lv_has ls 2 [(0, .ref (κ.2.1 0)), (1, .int v1)] → W p l e rmX10_giveBack s m args below meth c H locs 0 0 Q (F0 m 2 ls [])) (Ke0 : ∀ (σ1 : zS), r = .inr σ1 → ∀ (H : Heap) (locs : List Loc) (ls : Array Slot), zH wM κ A s σ1 H locs → lv_has ls 2 [(0, .ref (κ.2.1 0))] → W p l e rmX10_giveBack s m args below meth c H locs 0 0 Q (F0 m 45 ls [])) : W p l e rmX10_giveBack s m args below meth c H locs 0 0 Q (F0 m 37 ls [.int y0, .ref (κ.2.1 2)]) := by
  unfold fX10_giveBack_L2_37 at hf
  refine lv_iconst (v := 0) C.ex C.by dX10_giveBack_37 (by decide) ?_
  exact wX10_giveBack_L2_38 C h hl hf Kc Ke0
set_option maxRecDepth 20000 in
set_option maxHeartbeats 4000000 in
theorem wX10_giveBack_L2_2 {p : Program} {l : Launch} {e : Env} {s : State} {m : MethodId} {args : Array Value} {below : List Frame} {meth : Method} {c : Code} {A : Nat → Prop} {κ : zG} {H : Heap} {locs : List Loc} {ls : Array Slot} {Q : State → Prop} {n : Nat} {a : Int32 × zS} {r : (Int32 × zS) ⊕ (zS)} (C : zC cX10_giveBack 2 none RX10 κ A p s m args meth c) (h : zH wM κ A s a.2 H locs) (hl : lv_has ls 2 [(0, .ref (κ.2.1 0)), (1, .int a.1)]) (hf : fX10_giveBack_L2_2 n a = some r) (Kc : ∀ (v1 : Int32) (σ1 : zS), r = .inl (v1, σ1) → ∀ (H : Heap) (locs : List Loc) (ls : Array Slot), zH wM κ A s σ1 H locs → lv_has ls 2 [(0, .ref (κ.2.1 0)), (1, .int v1)] → W p l e rmX10_giveBack s m args below meth c H locs 0 0 Q (F0 m 2 ls [])) (Ke0 : ∀ (σ1 : zS), r = .inr σ1 → ∀ (H : Heap) (locs : List Loc) (ls : Array Slot), zH wM κ A s σ1 H locs → lv_has ls 2 [(0, .ref (κ.2.1 0))] → W p l e rmX10_giveBack s m args below meth c H locs 0 0 Q (F0 m 45 ls [])) : W p l e rmX10_giveBack s m args below meth c H locs 0 0 Q (F0 m 2 ls []) := by
  unfold fX10_giveBack_L2_2 at hf
  refine lv_iload_n C.ex C.by dX10_giveBack_2 rfl (lv_at hl 1 rfl) ?_
  refine lv_aload_n C.ex C.by dX10_giveBack_3 rfl (lv_at hl 0 rfl) ?_
  refine z_get (v := .int (zI a.2 1)) C h iwX10 0 (wM_at0 κ _) rfl 1 (by decide) lkM18 rfl dX10_giveBack_4 ?_
  refine lv_icmp_ge (tgt := 45) C.ex C.by dX10_giveBack_7 (by decide) (fun c1 => ?_) (fun c1 => ?_)
  · have hf := zif_t c1 hf
    exact Ke0 _ (Option.some.inj hf).symm _ _ _ h (lv_sub hl [0] rfl)
  · have hf := zif_f c1 hf
    refine lv_aload_n C.ex C.by dX10_giveBack_10 rfl (lv_at hl 0 rfl) ?_
    refine z_get (v := .ref (κ.2.1 2)) C h iwX10 0 (wM_at0 κ _) rfl 5 (by decide) lkM29 rfl dX10_giveBack_11 ?_
    refine lv_iload_n C.ex C.by dX10_giveBack_14 rfl (lv_at hl 1 rfl) ?_
    refine lv_aload_n C.ex C.by dX10_giveBack_15 rfl (lv_at hl 0 rfl) ?_
    refine z_get (v := .ref (κ.2.1 2)) C h iwX10 0 (wM_at0 κ _) rfl 5 (by decide) lkM29 rfl dX10_giveBack_16 ?_
    refine lv_iload_n C.ex C.by dX10_giveBack_19 rfl (lv_at hl 1 rfl) ?_
    obtain ⟨h2, hf⟩ := zg_some hf
    refine z_zald (f := (zA a.2 0)) C h 2 (wM_at2 κ _) h2 dX10_giveBack_20 ?_
    refine lv_if_eq (tgt := 37) C.ex C.by dX10_giveBack_21 (by decide) (fun c3 => ?_) (fun c3 => ?_)
    · have hf := zif_t c3 hf
      exact wX10_giveBack_L2_37 C h hl hf Kc Ke0
    · have hf := zif_f c3 hf
      refine lv_aload_n C.ex C.by dX10_giveBack_24 rfl (lv_at hl 0 rfl) ?_
      refine z_get (v := .ref (κ.2.1 3)) C h iwX10 0 (wM_at0 κ _) rfl 6 (by decide) lkM19 rfl dX10_giveBack_25 ?_
      refine lv_iload_n C.ex C.by dX10_giveBack_28 rfl (lv_at hl 1 rfl) ?_
      obtain ⟨h4, hf⟩ := zg_some hf
      refine z_zald (f := (zA a.2 1)) C h 3 (wM_at3 κ _) h4 dX10_giveBack_29 ?_
      refine lv_if_ne (tgt := 37) C.ex C.by dX10_giveBack_30 (by decide) (fun c5 => ?_) (fun c5 => ?_)
      · have hf := zif_f c5 hf
        exact wX10_giveBack_L2_37 C h hl hf Kc Ke0
      · have hf := zif_t c5 hf
        refine lv_iconst (v := 1) C.ex C.by dX10_giveBack_33 (by decide) ?_
        refine lv_goto (tgt := 38) C.ex C.by dX10_giveBack_34 (by decide) ?_
        exact wX10_giveBack_L2_38 C h hl hf Kc Ke0
theorem wlX10_giveBack_2 {p : Program} {l : Launch} {e : Env} {s : State} {m : MethodId} {args : Array Value} {below : List Frame} {meth : Method} {c : Code} {A : Nat → Prop} {κ : zG} {H : Heap} {locs : List Loc} {ls : Array Slot} {Q : State → Prop} {n : Nat} {k0 : Nat} {u1 : Int32} {σ1 : zS} (C : zC cX10_giveBack 2 none RX10 κ A p s m args meth c) (h : zH wM κ A s σ1 H locs) (hl : lv_has ls 2 [(0, .ref (κ.2.1 0)), (1, .int u1)]) (b : zS) (hb : zlp (fX10_giveBack_L2_2 n) k0 (u1, σ1) = some b) (K : (fun b : zS => ∀ (H : Heap) (locs : List Loc) (ls : Array Slot), zH wM κ A s b H locs → lv_has ls 2 [(0, .ref (κ.2.1 0))] → W p l e rmX10_giveBack s m args below meth c H locs 0 0 Q (F0 m 45 ls [])) b) : W p l e rmX10_giveBack s m args below meth c H locs 0 0 Q (F0 m 2 ls []) :=
  z_loop (body := fX10_giveBack_L2_2 n) (Wd := (fun a : Int32 × zS => ∀ (H : Heap) (locs : List Loc) (ls : Array Slot), zH wM κ A s a.2 H locs → lv_has ls 2 [(0, .ref (κ.2.1 0)), (1, .int a.1)] → W p l e rmX10_giveBack s m args below meth c H locs 0 0 Q (F0 m 2 ls []))) (Ex := (fun b : zS => (fun b : zS => ∀ (H : Heap) (locs : List Loc) (ls : Array Slot), zH wM κ A s b H locs → lv_has ls 2 [(0, .ref (κ.2.1 0))] → W p l e rmX10_giveBack s m args below meth c H locs 0 0 Q (F0 m 45 ls [])) b)) (fun a r hr Kc Ke H locs ls h hl => wX10_giveBack_L2_2 C h hl hr (fun v1 σ1 e => Kc (v1, σ1) e) (fun σ1 e => Ke σ1 e)) k0 (u1, σ1) b hb K H locs ls h hl
set_option maxRecDepth 20000 in
set_option maxHeartbeats 4000000 in
theorem wX10_giveBack_0 {p : Program} {l : Launch} {e : Env} {s : State} {m : MethodId} {args : Array Value} {below : List Frame} {meth : Method} {c : Code} {A : Nat → Prop} {κ : zG} {H : Heap} {locs : List Loc} {ls : Array Slot} {n : Nat} {σ : zS} {r : zS} (C : zC cX10_giveBack 2 none RX10 κ A p s m args meth c) (h : zH wM κ A s σ H locs) (hl : lv_has ls 2 [(0, .ref (κ.2.1 0))]) (hf : fX10_giveBack_0 n σ = some r) : W p l e rmX10_giveBack s m args below meth c H locs 0 0 (MQ below (zQv wM κ A r) args s 0 0 A) (F0 m 0 ls []) := by
  unfold fX10_giveBack_0 at hf
  refine lv_iconst (v := 0) C.ex C.by dX10_giveBack_0 (by decide) ?_
  refine lv_istore_n (lv' := [(1, .int 0), (0, .ref (κ.2.1 0))]) C.ex C.by dX10_giveBack_1 rfl hl (by decide) rfl (fun ls hl => ?_)
  obtain ⟨b7, e8, hf⟩ := zb_some hf
  refine wlX10_giveBack_2 C h (lv_sub hl [1, 0] rfl) b7 e8 ?_
  intro H locs ls h hl
  cases hf
  exact z_vret C h dX10_giveBack_45
theorem ctX10_giveBack {l : Launch} {κ : zG} {n : Nat} {σ : zS} {r : zS} (hf : fX10_giveBack_0 n σ = some r) : zMv l yX10_giveBack (Cond.code yX10_giveBack cX10_giveBack 2 none) rmX10_giveBack wM κ [.ref (κ.2.1 0)] σ r :=
  zMv_of (by decide) (Nat.le_of_ble_eq_true rfl) (fun p e s m below meth c A C h ls hl => wX10_giveBack_0 C h hl hf)
theorem hdX10_form : yX10_form.cls = RX10 ∧ yX10_form.cls ≠ "java/lang/invoke/MethodHandle" ∧ yX10_form.cls ≠ "java/lang/invoke/VarHandle" ∧ (parseMethodDescriptor yX10_form.desc).map (fun d => d.parameters.length) = some 1 := by decide +kernel
abbrev rmX10_form : Room := { frames := 6, cells := 0, slots := 0, locals := 135 }
set_option maxRecDepth 20000 in
set_option maxHeartbeats 4000000 in
theorem wX10_form_L264_264 {p : Program} {l : Launch} {e : Env} {s : State} {m : MethodId} {args : Array Value} {below : List Frame} {meth : Method} {c : Code} {A : Nat → Prop} {κ : zG} {H : Heap} {locs : List Loc} {ls : Array Slot} {Q : State → Prop} {n : Nat} {a : Int32 × zS} {r : (Int32 × zS) ⊕ (zS)} (C : zC cX10_form 6 (some .int) RX10 κ A p s m args meth c) (h : zH wM κ A s a.2 H locs) (hl : lv_has ls 6 [(0, .ref (κ.2.1 0)), (5, .int a.1)]) (hf : fX10_form_L264_264 n a = some r) (Kc : ∀ (v5 : Int32) (σ1 : zS), r = .inl (v5, σ1) → ∀ (H : Heap) (locs : List Loc) (ls : Array Slot), zH wM κ A s σ1 H locs → lv_has ls 6 [(0, .ref (κ.2.1 0)), (5, .int v5)] → W p l e rmX10_form s m args below meth c H locs 0 0 Q (F0 m 264 ls [])) (Ke0 : ∀ (σ1 : zS), r = .inr σ1 → ∀ (H : Heap) (locs : List Loc) (ls : Array Slot), zH wM κ A s σ1 H locs → lv_has ls 6 [(0, .ref (κ.2.1 0))] → W p l e rmX10_form s m args below meth c H locs 0 0 Q (F0 m 305 ls [])) : W p l e rmX10_form s m args below meth c H locs 0 0 Q (F0 m 264 ls []) := by
  unfold fX10_form_L264_264 at hf
  refine lv_iload C.ex C.by dX10_form_264 (lv_at hl 1 rfl) ?_
  refine lv_aload_n C.ex C.by dX10_form_266 rfl (lv_at hl 0 rfl) ?_
  refine z_get (v := .int (zI a.2 25)) C h iwX10 0 (wM_at0 κ _) rfl 43 (by decide) lkM58 rfl dX10_form_267 ?_
  refine lv_icmp_ge (tgt := 305) C.ex C.by dX10_form_270 (by decide) (fun c30 => ?_) (fun c30 => ?_)
  · have hf := zif_t c30 hf
    exact Ke0 _ (Option.some.inj hf).symm _ _ _ h (lv_sub hl [0] rfl)
  · have hf := zif_f c30 hf
    refine lv_aload_n C.ex C.by dX10_form_273 rfl (lv_at hl 0 rfl) ?_
    refine z_get (v := .ref (κ.2.1 9)) C h iwX10 0 (wM_at0 κ _) rfl 12 (by decide) lkM146 rfl dX10_form_274 ?_
    refine lv_aload_n C.ex C.by dX10_form_277 rfl (lv_at hl 0 rfl) ?_
    refine z_get (v := .int (zI a.2 4)) C h iwX10 0 (wM_at0 κ _) rfl 13 (by decide) lkM5 rfl dX10_form_278 ?_
    refine lv_aload_n C.ex C.by dX10_form_281 rfl (lv_at hl 0 rfl) ?_
    refine z_get (v := .ref (κ.2.1 18)) C h iwX10 0 (wM_at0 κ _) rfl 42 (by decide) lkM106 rfl dX10_form_282 ?_
    refine lv_iload C.ex C.by dX10_form_285 (lv_at hl 1 rfl) ?_
    obtain ⟨h31, hf⟩ := zg_some hf
    refine z_iald (f := (zA a.2 12)) C h 18 (wM_at18 κ _) h31 dX10_form_287 ?_
    obtain ⟨h32, hf⟩ := zg_some hf
    refine z_iast (f := (zA a.2 7)) C h 9 (wM_at9 κ _) h32 (sA a.2 7 (upd (zA a.2 7) (Int32.toNatClampNeg (zI a.2 4)) ((zA a.2 12) (Int32.toNatClampNeg a.1)))) (wM_s9 κ _ _) dX10_form_288 (fun H locs h => ?_)
    refine lv_aload_n C.ex C.by dX10_form_289 rfl (lv_at hl 0 rfl) ?_
    refine lv_dup C.ex C.by dX10_form_290 rfl ?_
    refine z_get (v := .int (zI a.2 4)) C h iwX10 0 (wM_at0 κ _) rfl 13 (by decide) lkM5 rfl dX10_form_291 ?_
    refine lv_iconst (v := 1) C.ex C.by dX10_form_294 (by decide) ?_
    refine lv_iadd C.ex C.by dX10_form_295 ?_
    refine z_put C h iwX10 tyX10_ok nmX10 0 (wM_at0 κ _) rfl 13 (by decide) lkM5 rfl rfl rfl (Nat.le_of_ble_eq_true rfl) (sI (sA a.2 7 (upd (zA a.2 7) (Int32.toNatClampNeg (zI a.2 4)) ((zA a.2 12) (Int32.toNatClampNeg a.1)))) 4 ((zI a.2 4) + 1)) (wM_s0_13 κ _ _) dX10_form_296 (fun H locs h => ?_)
    refine lv_iinc (v := (a.1 + 1)) (lv' := [(5, .int (a.1 + 1)), (0, .ref (κ.2.1 0))]) C.ex C.by dX10_form_299 hl (k := 1) rfl rfl (by decide) rfl (fun ls hl => ?_)
    refine lv_goto (tgt := 264) C.ex C.by dX10_form_302 (by decide) ?_
    exact Kc _ _ (Option.some.inj hf).symm _ _ _ h (lv_sub hl [1, 0] rfl)
theorem wlX10_form_264 {p : Program} {l : Launch} {e : Env} {s : State} {m : MethodId} {args : Array Value} {below : List Frame} {meth : Method} {c : Code} {A : Nat → Prop} {κ : zG} {H : Heap} {locs : List Loc} {ls : Array Slot} {Q : State → Prop} {n : Nat} {k0 : Nat} {u5 : Int32} {σ1 : zS} (C : zC cX10_form 6 (some .int) RX10 κ A p s m args meth c) (h : zH wM κ A s σ1 H locs) (hl : lv_has ls 6 [(0, .ref (κ.2.1 0)), (5, .int u5)]) (b : zS) (hb : zlp (fX10_form_L264_264 n) k0 (u5, σ1) = some b) (K : (fun b : zS => ∀ (H : Heap) (locs : List Loc) (ls : Array Slot), zH wM κ A s b H locs → lv_has ls 6 [(0, .ref (κ.2.1 0))] → W p l e rmX10_form s m args below meth c H locs 0 0 Q (F0 m 305 ls [])) b) : W p l e rmX10_form s m args below meth c H locs 0 0 Q (F0 m 264 ls []) :=
  z_loop (body := fX10_form_L264_264 n) (Wd := (fun a : Int32 × zS => ∀ (H : Heap) (locs : List Loc) (ls : Array Slot), zH wM κ A s a.2 H locs → lv_has ls 6 [(0, .ref (κ.2.1 0)), (5, .int a.1)] → W p l e rmX10_form s m args below meth c H locs 0 0 Q (F0 m 264 ls []))) (Ex := (fun b : zS => (fun b : zS => ∀ (H : Heap) (locs : List Loc) (ls : Array Slot), zH wM κ A s b H locs → lv_has ls 6 [(0, .ref (κ.2.1 0))] → W p l e rmX10_form s m args below meth c H locs 0 0 Q (F0 m 305 ls [])) b)) (fun a r hr Kc Ke H locs ls h hl => wX10_form_L264_264 C h hl hr (fun v5 σ1 e => Kc (v5, σ1) e) (fun σ1 e => Ke σ1 e)) k0 (u5, σ1) b hb K H locs ls h hl
set_option maxRecDepth 20000 in
set_option maxHeartbeats 4000000 in
theorem wX10_form_L217_217 {p : Program} {l : Launch} {e : Env} {s : State} {m : MethodId} {args : Array Value} {below : List Frame} {meth : Method} {c : Code} {A : Nat → Prop} {κ : zG} {H : Heap} {locs : List Loc} {ls : Array Slot} {Q : State → Prop} {n : Nat} {a : Int32 × zS} {r : (Int32 × zS) ⊕ (zS)} (C : zC cX10_form 6 (some .int) RX10 κ A p s m args meth c) (h : zH wM κ A s a.2 H locs) (hl : lv_has ls 6 [(0, .ref (κ.2.1 0)), (5, .int a.1)]) (hf : fX10_form_L217_217 n a = some r) (Kc : ∀ (v5 : Int32) (σ1 : zS), r = .inl (v5, σ1) → ∀ (H : Heap) (locs : List Loc) (ls : Array Slot), zH wM κ A s σ1 H locs → lv_has ls 6 [(0, .ref (κ.2.1 0)), (5, .int v5)] → W p l e rmX10_form s m args below meth c H locs 0 0 Q (F0 m 217 ls [])) (Ke0 : ∀ (σ1 : zS), r = .inr σ1 → ∀ (H : Heap) (locs : List Loc) (ls : Array Slot), zH wM κ A s σ1 H locs → lv_has ls 6 [(0, .ref (κ.2.1 0))] → W p l e rmX10_form s m args below meth c H locs 0 0 Q (F0 m 245 ls [])) : W p l e rmX10_form s m args below meth c H locs 0 0 Q (F0 m 217 ls []) := by
  unfold fX10_form_L217_217 at hf
  refine lv_iload C.ex C.by dX10_form_217 (lv_at hl 1 rfl) ?_
  refine lv_aload_n C.ex C.by dX10_form_219 rfl (lv_at hl 0 rfl) ?_
  refine z_get (v := .int (zI a.2 25)) C h iwX10 0 (wM_at0 κ _) rfl 43 (by decide) lkM58 rfl dX10_form_220 ?_
  refine lv_icmp_ge (tgt := 245) C.ex C.by dX10_form_223 (by decide) (fun c44 => ?_) (fun c44 => ?_)
  · have hf := zif_t c44 hf
    exact Ke0 _ (Option.some.inj hf).symm _ _ _ h (lv_sub hl [0] rfl)
  · have hf := zif_f c44 hf
    refine lv_aload_n C.ex C.by dX10_form_226 rfl (lv_at hl 0 rfl) ?_
    refine z_get (v := .ref (κ.2.1 8)) C h iwX10 0 (wM_at0 κ _) rfl 11 (by decide) lkM97 rfl dX10_form_227 ?_
    refine lv_aload_n C.ex C.by dX10_form_230 rfl (lv_at hl 0 rfl) ?_
    refine z_get (v := .ref (κ.2.1 18)) C h iwX10 0 (wM_at0 κ _) rfl 42 (by decide) lkM106 rfl dX10_form_231 ?_
    refine lv_iload C.ex C.by dX10_form_234 (lv_at hl 1 rfl) ?_
    obtain ⟨h45, hf⟩ := zg_some hf
    refine z_iald (f := (zA a.2 12)) C h 18 (wM_at18 κ _) h45 dX10_form_236 ?_
    refine lv_iconst (v := 0) C.ex C.by dX10_form_237 (by decide) ?_
    obtain ⟨h46, hf⟩ := zg_some hf
    refine z_zast (f := (zA a.2 6)) C h 8 (wM_at8 κ _) h46 (sA a.2 6 (upd (zA a.2 6) (Int32.toNatClampNeg ((zA a.2 12) (Int32.toNatClampNeg a.1))) (vp_nar .boolean 0))) (wM_s8 κ _ _) dX10_form_238 (fun H locs h => ?_)
    refine lv_iinc (v := (a.1 + 1)) (lv' := [(5, .int (a.1 + 1)), (0, .ref (κ.2.1 0))]) C.ex C.by dX10_form_239 hl (k := 1) rfl rfl (by decide) rfl (fun ls hl => ?_)
    refine lv_goto (tgt := 217) C.ex C.by dX10_form_242 (by decide) ?_
    exact Kc _ _ (Option.some.inj hf).symm _ _ _ h (lv_sub hl [1, 0] rfl)
theorem wlX10_form_217 {p : Program} {l : Launch} {e : Env} {s : State} {m : MethodId} {args : Array Value} {below : List Frame} {meth : Method} {c : Code} {A : Nat → Prop} {κ : zG} {H : Heap} {locs : List Loc} {ls : Array Slot} {Q : State → Prop} {n : Nat} {k0 : Nat} {u5 : Int32} {σ1 : zS} (C : zC cX10_form 6 (some .int) RX10 κ A p s m args meth c) (h : zH wM κ A s σ1 H locs) (hl : lv_has ls 6 [(0, .ref (κ.2.1 0)), (5, .int u5)]) (b : zS) (hb : zlp (fX10_form_L217_217 n) k0 (u5, σ1) = some b) (K : (fun b : zS => ∀ (H : Heap) (locs : List Loc) (ls : Array Slot), zH wM κ A s b H locs → lv_has ls 6 [(0, .ref (κ.2.1 0))] → W p l e rmX10_form s m args below meth c H locs 0 0 Q (F0 m 245 ls [])) b) : W p l e rmX10_form s m args below meth c H locs 0 0 Q (F0 m 217 ls []) :=
  z_loop (body := fX10_form_L217_217 n) (Wd := (fun a : Int32 × zS => ∀ (H : Heap) (locs : List Loc) (ls : Array Slot), zH wM κ A s a.2 H locs → lv_has ls 6 [(0, .ref (κ.2.1 0)), (5, .int a.1)] → W p l e rmX10_form s m args below meth c H locs 0 0 Q (F0 m 217 ls []))) (Ex := (fun b : zS => (fun b : zS => ∀ (H : Heap) (locs : List Loc) (ls : Array Slot), zH wM κ A s b H locs → lv_has ls 6 [(0, .ref (κ.2.1 0))] → W p l e rmX10_form s m args below meth c H locs 0 0 Q (F0 m 245 ls [])) b)) (fun a r hr Kc Ke H locs ls h hl => wX10_form_L217_217 C h hl hr (fun v5 σ1 e => Kc (v5, σ1) e) (fun σ1 e => Ke σ1 e)) k0 (u5, σ1) b hb K H locs ls h hl
set_option maxRecDepth 20000 in
set_option maxHeartbeats 4000000 in
theorem wX10_form_214 {p : Program} {l : Launch} {e : Env} {s : State} {m : MethodId} {args : Array Value} {below : List Frame} {meth : Method} {c : Code} {A : Nat → Prop} {κ : zG} {H : Heap} {locs : List Loc} {ls : Array Slot} {n : Nat} {σ : zS} {r1 : Int32} {r2 : zS} (C : zC cX10_form 6 (some .int) RX10 κ A p s m args meth c) (h : zH wM κ A s σ H locs) (hl : lv_has ls 6 [(0, .ref (κ.2.1 0))]) (hf : fX10_form_214 n σ = some (r1, r2)) : W p l e rmX10_form s m args below meth c H locs 0 0 (MQ below (zQi wM κ A r1 r2) args s 0 0 A) (F0 m 214 ls []) := by
  unfold fX10_form_214 at hf
  refine lv_iconst (v := 0) C.ex C.by dX10_form_214 (by decide) ?_
  refine lv_istore (lv' := [(5, .int 0), (0, .ref (κ.2.1 0))]) C.ex C.by dX10_form_215 hl (by decide) rfl (fun ls hl => ?_)
  obtain ⟨b47, e48, hf⟩ := zb_some hf
  refine wlX10_form_217 C h (lv_sub hl [1, 0] rfl) b47 e48 ?_
  intro H locs ls h hl
  refine lv_aload_n C.ex C.by dX10_form_245 rfl (lv_at hl 0 rfl) ?_
  refine lv_iconst (v := 3) C.ex C.by dX10_form_246 (by decide) ?_
  obtain ⟨q49, e50, hf⟩ := zb_some hf
  refine z_callVi (As := [.int 3]) C h (ctX10_ended (r1 := q49.1) (r2 := q49.2) e50) (zgV lkM147 lkM148 lkM149 lkM2 lkM150) ⟨rfl, rfl⟩ hdX10_ended ⟨Nat.le_of_ble_eq_true rfl, Nat.le_of_ble_eq_true rfl⟩ 0 (wM_at0 κ _) rfl hl rfl rfl (Nat.le_of_ble_eq_true rfl) dX10_form_247 ⟨Nat.zero_le _, Nat.zero_le _⟩ (fun H locs h => ?_)
  cases hf
  exact z_iret C h dX10_form_250
set_option maxRecDepth 20000 in
set_option maxHeartbeats 4000000 in
theorem wX10_form_169 {p : Program} {l : Launch} {e : Env} {s : State} {m : MethodId} {args : Array Value} {below : List Frame} {meth : Method} {c : Code} {A : Nat → Prop} {κ : zG} {H : Heap} {locs : List Loc} {ls : Array Slot} {n : Nat} {σ : zS} {x2 : Int32} {x3 : Int32} {x4 : Int32} {r1 : Int32} {r2 : zS} (C : zC cX10_form 6 (some .int) RX10 κ A p s m args meth c) (h : zH wM κ A s σ H locs) (hl : lv_has ls 6 [(0, .ref (κ.2.1 0)), (2, .int x2), (3, .int x3), (4, .int x4)]) (hf : fX10_form_169 n σ x2 x3 x4 = some (r1, r2)) : W p l e rmX10_form s m args below meth c H locs 0 0 (MQ below (zQi wM κ A r1 r2) args s 0 0 A) (F0 m 169 ls []) := by
  unfold fX10_form_169 at hf
  refine lv_aload_n C.ex C.by dX10_form_169 rfl (lv_at hl 0 rfl) ?_
  refine z_get (v := .int (zI σ 17)) C h iwX10 0 (wM_at0 κ _) rfl 29 (by decide) lkM17 rfl dX10_form_170 ?_
  refine lv_if_le (tgt := 251) C.ex C.by dX10_form_173 (by decide) (fun c27 => ?_) (fun c27 => ?_)
  · have hf := zif_t c27 hf
    refine lv_aload_n C.ex C.by dX10_form_251 rfl (lv_at hl 0 rfl) ?_
    refine lv_iconst (v := 0) C.ex C.by dX10_form_252 (by decide) ?_
    obtain ⟨q28, e29, hf⟩ := zb_some hf
    refine z_callVv (As := [.int 0]) C h (ctX10_free e29) (zgV lkM142 lkM143 lkM144 lkM2 lkM145) ⟨rfl, rfl⟩ hdX10_free ⟨Nat.le_of_ble_eq_true rfl, Nat.le_of_ble_eq_true rfl⟩ 0 (wM_at0 κ _) rfl hl rfl rfl (Nat.le_of_ble_eq_true rfl) dX10_form_253 ⟨Nat.zero_le _, Nat.zero_le _⟩ (fun H locs h => ?_)
    refine lv_aload_n C.ex C.by dX10_form_256 rfl (lv_at hl 0 rfl) ?_
    refine lv_iconst (v := 0) C.ex C.by dX10_form_257 (by decide) ?_
    refine z_put C h iwX10 tyX10_ok nmX10 0 (wM_at0 κ _) rfl 15 (by decide) lkM7 rfl rfl rfl (Nat.le_of_ble_eq_true rfl) (sI q28 5 0) (wM_s0_15 κ _ _) dX10_form_258 (fun H locs h => ?_)
    refine lv_iconst (v := 0) C.ex C.by dX10_form_261 (by decide) ?_
    refine lv_istore (lv' := [(5, .int 0), (0, .ref (κ.2.1 0)), (2, .int x2), (3, .int x3), (4, .int x4)]) C.ex C.by dX10_form_262 hl (by decide) rfl (fun ls hl => ?_)
    obtain ⟨b33, e34, hf⟩ := zb_some hf
    refine wlX10_form_264 C h (lv_sub hl [1, 0] rfl) b33 e34 ?_
    intro H locs ls h hl
    refine lv_aload_n C.ex C.by dX10_form_305 rfl (lv_at hl 0 rfl) ?_
    refine lv_iconst (v := 3) C.ex C.by dX10_form_306 (by decide) ?_
    obtain ⟨q35, e36, hf⟩ := zb_some hf
    refine z_callVi (As := [.int 3]) C h (ctX10_ended (r1 := q35.1) (r2 := q35.2) e36) (zgV lkM147 lkM148 lkM149 lkM2 lkM150) ⟨rfl, rfl⟩ hdX10_ended ⟨Nat.le_of_ble_eq_true rfl, Nat.le_of_ble_eq_true rfl⟩ 0 (wM_at0 κ _) rfl hl rfl rfl (Nat.le_of_ble_eq_true rfl) dX10_form_307 ⟨Nat.zero_le _, Nat.zero_le _⟩ (fun H locs h => ?_)
    cases hf
    exact z_iret C h dX10_form_310
  · have hf := zif_f c27 hf
    refine lv_aload_n C.ex C.by dX10_form_176 rfl (lv_at hl 0 rfl) ?_
    obtain ⟨q37, e38, hf⟩ := zb_some hf
    refine z_callVv (As := []) C h (ctX10_giveBack e38) (zgV lkM151 lkM152 lkM153 lkM2 lkM154) ⟨rfl, rfl⟩ hdX10_giveBack ⟨Nat.le_of_ble_eq_true rfl, Nat.le_of_ble_eq_true rfl⟩ 0 (wM_at0 κ _) rfl hl rfl rfl (Nat.le_of_ble_eq_true rfl) dX10_form_177 ⟨Nat.zero_le _, Nat.zero_le _⟩ (fun H locs h => ?_)
    refine lv_aload_n C.ex C.by dX10_form_180 rfl (lv_at hl 0 rfl) ?_
    refine z_get (v := .ref (κ.2.1 5)) C h iwX10 0 (wM_at0 κ _) rfl 8 (by decide) lkM45 rfl dX10_form_181 ?_
    refine lv_iconst (v := 0) C.ex C.by dX10_form_184 (by decide) ?_
    refine lv_iload_n C.ex C.by dX10_form_185 rfl (lv_at hl 1 rfl) ?_
    obtain ⟨h39, hf⟩ := zg_some hf
    refine z_iast (f := (zA q37 3)) C h 5 (wM_at5 κ _) h39 (sA q37 3 (upd (zA q37 3) (Int32.toNatClampNeg 0) x2)) (wM_s5 κ _ _) dX10_form_186 (fun H locs h => ?_)
    refine lv_aload_n C.ex C.by dX10_form_187 rfl (lv_at hl 0 rfl) ?_
    refine z_get (v := .ref (κ.2.1 6)) C h iwX10 0 (wM_at0 κ _) rfl 9 (by decide) lkM46 rfl dX10_form_188 ?_
    refine lv_iconst (v := 0) C.ex C.by dX10_form_191 (by decide) ?_
    refine lv_iload_n C.ex C.by dX10_form_192 rfl (lv_at hl 2 rfl) ?_
    obtain ⟨h40, hf⟩ := zg_some hf
    refine z_iast (f := (zA q37 4)) C h 6 (wM_at6 κ _) h40 (sA (sA q37 3 (upd (zA q37 3) (Int32.toNatClampNeg 0) x2)) 4 (upd (zA q37 4) (Int32.toNatClampNeg 0) x3)) (wM_s6 κ _ _) dX10_form_193 (fun H locs h => ?_)
    refine lv_aload_n C.ex C.by dX10_form_194 rfl (lv_at hl 0 rfl) ?_
    refine z_get (v := .ref (κ.2.1 7)) C h iwX10 0 (wM_at0 κ _) rfl 10 (by decide) lkM6 rfl dX10_form_195 ?_
    refine lv_iconst (v := 0) C.ex C.by dX10_form_198 (by decide) ?_
    refine lv_iload C.ex C.by dX10_form_199 (lv_at hl 3 rfl) ?_
    obtain ⟨h41, hf⟩ := zg_some hf
    refine z_iast (f := (zA q37 5)) C h 7 (wM_at7 κ _) h41 (sA (sA (sA q37 3 (upd (zA q37 3) (Int32.toNatClampNeg 0) x2)) 4 (upd (zA q37 4) (Int32.toNatClampNeg 0) x3)) 5 (upd (zA q37 5) (Int32.toNatClampNeg 0) x4)) (wM_s7 κ _ _) dX10_form_201 (fun H locs h => ?_)
    refine lv_iload_n C.ex C.by dX10_form_202 rfl (lv_at hl 2 rfl) ?_
    refine lv_iconst (v := (-1)) C.ex C.by dX10_form_203 (by decide) ?_
    refine lv_icmp_eq (tgt := 214) C.ex C.by dX10_form_204 (by decide) (fun c42 => ?_) (fun c42 => ?_)
    · have hf := zif_t c42 hf
      exact wX10_form_214 C h (lv_sub hl [0] rfl) hf
    · have hf := zif_f c42 hf
      refine lv_aload_n C.ex C.by dX10_form_207 rfl (lv_at hl 0 rfl) ?_
      refine z_get (v := .ref (κ.2.1 4)) C h iwX10 0 (wM_at0 κ _) rfl 7 (by decide) lkM31 rfl dX10_form_208 ?_
      refine lv_iload_n C.ex C.by dX10_form_211 rfl (lv_at hl 2 rfl) ?_
      refine lv_iconst (v := (-1)) C.ex C.by dX10_form_212 (by decide) ?_
      obtain ⟨h43, hf⟩ := zg_some hf
      refine z_iast (f := (zA q37 2)) C h 4 (wM_at4 κ _) h43 (sA (sA (sA (sA q37 3 (upd (zA q37 3) (Int32.toNatClampNeg 0) x2)) 4 (upd (zA q37 4) (Int32.toNatClampNeg 0) x3)) 5 (upd (zA q37 5) (Int32.toNatClampNeg 0) x4)) 2 (upd (zA q37 2) (Int32.toNatClampNeg x3) (-1))) (wM_s4 κ _ _) dX10_form_213 (fun H locs h => ?_)
      exact wX10_form_214 C h (lv_sub hl [0] rfl) hf
set_option maxRecDepth 20000 in
set_option maxHeartbeats 4000000 in
theorem wX10_form_134 {p : Program} {l : Launch} {e : Env} {s : State} {m : MethodId} {args : Array Value} {below : List Frame} {meth : Method} {c : Code} {A : Nat → Prop} {κ : zG} {H : Heap} {locs : List Loc} {ls : Array Slot} {n : Nat} {σ : zS} {x1 : Int32} {x2 : Int32} {x3 : Int32} {x4 : Int32} {y0 : Int32} {r1 : Int32} {r2 : zS} (C : zC cX10_form 6 (some .int) RX10 κ A p s m args meth c) (h : zH wM κ A s σ H locs) (hl : lv_has ls 6 [(0, .ref (κ.2.1 0)), (1, .int x1), (2, .int x2), (3, .int x3), (4, .int x4)]) (hf : fX10_form_134 n σ x1 x2 x3 x4 y0 = some (r1, r2)) : W p l e rmX10_form s m args below meth c H locs 0 0 (MQ below (zQi wM κ A r1 r2) args s 0 0 A) (F0 m 134 ls [.int y0, .ref (κ.2.1 0)]) := by
  unfold fX10_form_134 at hf
  refine z_put C h iwX10 tyX10_ok nmX10 0 (wM_at0 κ _) rfl 38 (by decide) lkM61 rfl rfl rfl (Nat.le_of_ble_eq_true rfl) (sI σ 23 y0) (wM_s0_38 κ _ _) dX10_form_134 (fun H locs h => ?_)
  refine lv_aload_n C.ex C.by dX10_form_137 rfl (lv_at hl 0 rfl) ?_
  refine lv_iconst (v := 0) C.ex C.by dX10_form_138 (by decide) ?_
  refine z_put C h iwX10 tyX10_ok nmX10 0 (wM_at0 κ _) rfl 41 (by decide) lkM62 rfl rfl rfl (Nat.le_of_ble_eq_true rfl) (sI (sI σ 23 y0) 24 0) (wM_s0_41 κ _ _) dX10_form_139 (fun H locs h => ?_)
  refine lv_iload_n C.ex C.by dX10_form_142 rfl (lv_at hl 1 rfl) ?_
  refine lv_if_ne (tgt := 153) C.ex C.by dX10_form_143 (by decide) (fun c19 => ?_) (fun c19 => ?_)
  · have hf := zif_f c19 hf
    refine lv_iload_n C.ex C.by dX10_form_153 rfl (lv_at hl 1 rfl) ?_
    refine lv_iconst (v := 1) C.ex C.by dX10_form_154 (by decide) ?_
    refine lv_icmp_ne (tgt := 165) C.ex C.by dX10_form_155 (by decide) (fun c20 => ?_) (fun c20 => ?_)
    · have hf := zif_f c20 hf
      refine lv_aload_n C.ex C.by dX10_form_165 rfl (lv_at hl 0 rfl) ?_
      obtain ⟨q21, e22, hf⟩ := zb_some hf
      refine z_callVv (As := []) C h (ctX10_asTheyAre e22) (zgV lkM119 lkM120 lkM121 lkM2 lkM122) ⟨rfl, rfl⟩ hdX10_asTheyAre ⟨Nat.le_of_ble_eq_true rfl, Nat.le_of_ble_eq_true rfl⟩ 0 (wM_at0 κ _) rfl hl rfl rfl (Nat.le_of_ble_eq_true rfl) dX10_form_166 ⟨Nat.zero_le _, Nat.zero_le _⟩ (fun H locs h => ?_)
      exact wX10_form_169 C h (lv_sub hl [0, 2, 3, 4] rfl) hf
    · have hf := zif_t c20 hf
      refine lv_aload_n C.ex C.by dX10_form_158 rfl (lv_at hl 0 rfl) ?_
      obtain ⟨q23, e24, hf⟩ := zb_some hf
      refine z_callVv (As := []) C h (ctX10_choosing e24) (zgV lkM134 lkM135 lkM136 lkM2 lkM137) ⟨rfl, rfl⟩ hdX10_choosing ⟨Nat.le_of_ble_eq_true rfl, Nat.le_of_ble_eq_true rfl⟩ 0 (wM_at0 κ _) rfl hl rfl rfl (Nat.le_of_ble_eq_true rfl) dX10_form_159 ⟨Nat.zero_le _, Nat.zero_le _⟩ (fun H locs h => ?_)
      refine lv_goto (tgt := 169) C.ex C.by dX10_form_162 (by decide) ?_
      exact wX10_form_169 C h (lv_sub hl [0, 2, 3, 4] rfl) hf
  · have hf := zif_t c19 hf
    refine lv_aload_n C.ex C.by dX10_form_146 rfl (lv_at hl 0 rfl) ?_
    obtain ⟨q25, e26, hf⟩ := zb_some hf
    refine z_callVv (As := []) C h (ctX10_loading e26) (zgV lkM138 lkM139 lkM140 lkM2 lkM141) ⟨rfl, rfl⟩ hdX10_loading ⟨Nat.le_of_ble_eq_true rfl, Nat.le_of_ble_eq_true rfl⟩ 0 (wM_at0 κ _) rfl hl rfl rfl (Nat.le_of_ble_eq_true rfl) dX10_form_147 ⟨Nat.zero_le _, Nat.zero_le _⟩ (fun H locs h => ?_)
    refine lv_goto (tgt := 169) C.ex C.by dX10_form_150 (by decide) ?_
    exact wX10_form_169 C h (lv_sub hl [0, 2, 3, 4] rfl) hf
set_option maxRecDepth 20000 in
set_option maxHeartbeats 4000000 in
theorem wX10_form_101 {p : Program} {l : Launch} {e : Env} {s : State} {m : MethodId} {args : Array Value} {below : List Frame} {meth : Method} {c : Code} {A : Nat → Prop} {κ : zG} {H : Heap} {locs : List Loc} {ls : Array Slot} {n : Nat} {σ : zS} {x1 : Int32} {x2 : Int32} {x3 : Int32} {x4 : Int32} {r1 : Int32} {r2 : zS} (C : zC cX10_form 6 (some .int) RX10 κ A p s m args meth c) (h : zH wM κ A s σ H locs) (hl : lv_has ls 6 [(0, .ref (κ.2.1 0)), (1, .int x1), (2, .int x2), (3, .int x3), (4, .int x4)]) (hf : fX10_form_101 n σ x1 x2 x3 x4 = some (r1, r2)) : W p l e rmX10_form s m args below meth c H locs 0 0 (MQ below (zQi wM κ A r1 r2) args s 0 0 A) (F0 m 101 ls []) := by
  unfold fX10_form_101 at hf
  refine lv_aload_n C.ex C.by dX10_form_101 rfl (lv_at hl 0 rfl) ?_
  refine lv_aload_n C.ex C.by dX10_form_102 rfl (lv_at hl 0 rfl) ?_
  refine z_get (v := .ref (κ.2.1 5)) C h iwX10 0 (wM_at0 κ _) rfl 8 (by decide) lkM45 rfl dX10_form_103 ?_
  refine lv_iconst (v := 0) C.ex C.by dX10_form_106 (by decide) ?_
  obtain ⟨h16, hf⟩ := zg_some hf
  refine z_iald (f := (zA σ 3)) C h 5 (wM_at5 κ _) h16 dX10_form_107 ?_
  refine z_put C h iwX10 tyX10_ok nmX10 0 (wM_at0 κ _) rfl 36 (by decide) lkM59 rfl rfl rfl (Nat.le_of_ble_eq_true rfl) (sI σ 21 ((zA σ 3) (Int32.toNatClampNeg 0))) (wM_s0_36 κ _ _) dX10_form_108 (fun H locs h => ?_)
  refine lv_aload_n C.ex C.by dX10_form_111 rfl (lv_at hl 0 rfl) ?_
  refine lv_iconst (v := 0) C.ex C.by dX10_form_112 (by decide) ?_
  refine z_put C h iwX10 tyX10_ok nmX10 0 (wM_at0 κ _) rfl 37 (by decide) lkM60 rfl rfl rfl (Nat.le_of_ble_eq_true rfl) (sI (sI σ 21 ((zA σ 3) (Int32.toNatClampNeg 0))) 22 0) (wM_s0_37 κ _ _) dX10_form_113 (fun H locs h => ?_)
  refine lv_aload_n C.ex C.by dX10_form_116 rfl (lv_at hl 0 rfl) ?_
  refine lv_aload_n C.ex C.by dX10_form_117 rfl (lv_at hl 0 rfl) ?_
  refine z_get (v := .int (zI σ 17)) C h iwX10 0 (wM_at0 κ _) rfl 29 (by decide) lkM17 rfl dX10_form_118 ?_
  refine lv_if_le (tgt := 128) C.ex C.by dX10_form_121 (by decide) (fun c17 => ?_) (fun c17 => ?_)
  · have hf := zif_t c17 hf
    refine lv_aload_n C.ex C.by dX10_form_128 rfl (lv_at hl 0 rfl) ?_
    refine z_get (v := .ref (κ.2.1 7)) C h iwX10 0 (wM_at0 κ _) rfl 10 (by decide) lkM6 rfl dX10_form_129 ?_
    refine lv_iconst (v := 0) C.ex C.by dX10_form_132 (by decide) ?_
    obtain ⟨h18, hf⟩ := zg_some hf
    refine z_iald (f := (zA σ 5)) C h 7 (wM_at7 κ _) h18 dX10_form_133 ?_
    exact wX10_form_134 C h hl hf
  · have hf := zif_f c17 hf
    refine lv_iconst (v := 0) C.ex C.by dX10_form_124 (by decide) ?_
    refine lv_goto (tgt := 134) C.ex C.by dX10_form_125 (by decide) ?_
    exact wX10_form_134 C h hl hf
set_option maxRecDepth 20000 in
set_option maxHeartbeats 4000000 in
theorem wX10_form_26 {p : Program} {l : Launch} {e : Env} {s : State} {m : MethodId} {args : Array Value} {below : List Frame} {meth : Method} {c : Code} {A : Nat → Prop} {κ : zG} {H : Heap} {locs : List Loc} {ls : Array Slot} {n : Nat} {σ : zS} {x1 : Int32} {y0 : Int32} {r1 : Int32} {r2 : zS} (C : zC cX10_form 6 (some .int) RX10 κ A p s m args meth c) (h : zH wM κ A s σ H locs) (hl : lv_has ls 6 [(0, .ref (κ.2.1 0)), (1, .int x1)]) (hf : fX10_form_26 n σ x1 y0 = some (r1, r2)) : W p l e rmX10_form s m args below meth c H locs 0 0 (MQ below (zQi wM κ A r1 r2) args s 0 0 A) (F0 m 26 ls [.int y0, .ref (κ.2.1 0)]) := by
  unfold fX10_form_26 at hf
  refine z_put C h iwX10 tyX10_ok nmX10 0 (wM_at0 κ _) rfl 0 (by decide) lkM8 rfl rfl rfl (Nat.le_of_ble_eq_true rfl) (sI σ 0 y0) (wM_s0_0 κ _ _) dX10_form_26 (fun H locs h => ?_)
  refine lv_aload_n C.ex C.by dX10_form_29 rfl (lv_at hl 0 rfl) ?_
  refine z_get (v := .int y0) C h iwX10 0 (wM_at0 κ _) rfl 0 (by decide) lkM8 rfl dX10_form_30 ?_
  refine lv_if_le (tgt := 38) C.ex C.by dX10_form_33 (by decide) (fun c5 => ?_) (fun c5 => ?_)
  · have hf := zif_t c5 hf
    refine lv_aload_n C.ex C.by dX10_form_38 rfl (lv_at hl 0 rfl) ?_
    refine z_get (v := .ref (κ.2.1 5)) C h iwX10 0 (wM_at0 κ _) rfl 8 (by decide) lkM45 rfl dX10_form_39 ?_
    refine lv_iconst (v := 0) C.ex C.by dX10_form_42 (by decide) ?_
    obtain ⟨h6, hf⟩ := zg_some hf
    refine z_iald (f := (zA σ 3)) C h 5 (wM_at5 κ _) h6 dX10_form_43 ?_
    refine lv_istore_n (lv' := [(2, .int ((zA σ 3) (Int32.toNatClampNeg 0))), (0, .ref (κ.2.1 0)), (1, .int x1)]) C.ex C.by dX10_form_44 rfl hl (by decide) rfl (fun ls hl => ?_)
    refine lv_aload_n C.ex C.by dX10_form_45 rfl (lv_at hl 1 rfl) ?_
    refine z_get (v := .ref (κ.2.1 6)) C h iwX10 0 (wM_at0 κ _) rfl 9 (by decide) lkM46 rfl dX10_form_46 ?_
    refine lv_iconst (v := 0) C.ex C.by dX10_form_49 (by decide) ?_
    obtain ⟨h7, hf⟩ := zg_some hf
    refine z_iald (f := (zA σ 4)) C h 6 (wM_at6 κ _) h7 dX10_form_50 ?_
    refine lv_istore_n (lv' := [(3, .int ((zA σ 4) (Int32.toNatClampNeg 0))), (2, .int ((zA σ 3) (Int32.toNatClampNeg 0))), (0, .ref (κ.2.1 0)), (1, .int x1)]) C.ex C.by dX10_form_51 rfl hl (by decide) rfl (fun ls hl => ?_)
    refine lv_aload_n C.ex C.by dX10_form_52 rfl (lv_at hl 2 rfl) ?_
    refine z_get (v := .ref (κ.2.1 7)) C h iwX10 0 (wM_at0 κ _) rfl 10 (by decide) lkM6 rfl dX10_form_53 ?_
    refine lv_iconst (v := 0) C.ex C.by dX10_form_56 (by decide) ?_
    obtain ⟨h8, hf⟩ := zg_some hf
    refine z_iald (f := (zA σ 5)) C h 7 (wM_at7 κ _) h8 dX10_form_57 ?_
    refine lv_istore (lv' := [(4, .int ((zA σ 5) (Int32.toNatClampNeg 0))), (3, .int ((zA σ 4) (Int32.toNatClampNeg 0))), (2, .int ((zA σ 3) (Int32.toNatClampNeg 0))), (0, .ref (κ.2.1 0)), (1, .int x1)]) C.ex C.by dX10_form_58 hl (by decide) rfl (fun ls hl => ?_)
    refine lv_aload_n C.ex C.by dX10_form_60 rfl (lv_at hl 3 rfl) ?_
    refine lv_iconst (v := 0) C.ex C.by dX10_form_61 (by decide) ?_
    refine z_put C h iwX10 tyX10_ok nmX10 0 (wM_at0 κ _) rfl 43 (by decide) lkM58 rfl rfl rfl (Nat.le_of_ble_eq_true rfl) (sI (sI σ 0 y0) 25 0) (wM_s0_43 κ _ _) dX10_form_62 (fun H locs h => ?_)
    refine lv_aload_n C.ex C.by dX10_form_65 rfl (lv_at hl 3 rfl) ?_
    obtain ⟨q9, e10, hf⟩ := zb_some hf
    refine z_callVv (As := []) C h (ctX10_begin e10) (zgV lkM20 lkM21 lkM22 lkM2 lkM23) ⟨rfl, rfl⟩ hdX10_begin ⟨Nat.le_of_ble_eq_true rfl, Nat.le_of_ble_eq_true rfl⟩ 0 (wM_at0 κ _) rfl hl rfl rfl (Nat.le_of_ble_eq_true rfl) dX10_form_66 ⟨Nat.zero_le _, Nat.zero_le _⟩ (fun H locs h => ?_)
    refine lv_aload_n C.ex C.by dX10_form_69 rfl (lv_at hl 3 rfl) ?_
    refine z_get (v := .int (zI q9 5)) C h iwX10 0 (wM_at0 κ _) rfl 15 (by decide) lkM7 rfl dX10_form_70 ?_
    refine lv_if_le (tgt := 101) C.ex C.by dX10_form_73 (by decide) (fun c11 => ?_) (fun c11 => ?_)
    · have hf := zif_t c11 hf
      exact wX10_form_101 C h (lv_sub hl [3, 4, 2, 1, 0] rfl) hf
    · have hf := zif_f c11 hf
      refine lv_aload_n C.ex C.by dX10_form_76 rfl (lv_at hl 3 rfl) ?_
      refine lv_aload_n C.ex C.by dX10_form_77 rfl (lv_at hl 3 rfl) ?_
      refine z_get (v := .ref (κ.2.1 10)) C h iwX10 0 (wM_at0 κ _) rfl 14 (by decide) lkM15 rfl dX10_form_78 ?_
      refine lv_aload_n C.ex C.by dX10_form_81 rfl (lv_at hl 3 rfl) ?_
      refine z_get (v := .int (zI q9 5)) C h iwX10 0 (wM_at0 κ _) rfl 15 (by decide) lkM7 rfl dX10_form_82 ?_
      obtain ⟨q12, e13, hf⟩ := zb_some hf
      refine z_callVi (As := [.ref (κ.2.1 10), .int (zI q9 5)]) C h (ctX10_write_p10 (r1 := q12.1) (r2 := q12.2) e13) (zgV lkM41 lkM42 lkM43 lkM2 lkM44) ⟨rfl, rfl⟩ hdX10_write ⟨Nat.le_of_ble_eq_true rfl, Nat.le_of_ble_eq_true rfl⟩ 0 (wM_at0 κ _) rfl hl rfl rfl (Nat.le_of_ble_eq_true rfl) dX10_form_85 ⟨Nat.zero_le _, Nat.zero_le _⟩ (fun H locs h => ?_)
      refine lv_istore (lv' := [(5, .int q12.1), (4, .int ((zA σ 5) (Int32.toNatClampNeg 0))), (3, .int ((zA σ 4) (Int32.toNatClampNeg 0))), (2, .int ((zA σ 3) (Int32.toNatClampNeg 0))), (0, .ref (κ.2.1 0)), (1, .int x1)]) C.ex C.by dX10_form_88 hl (by decide) rfl (fun ls hl => ?_)
      refine lv_aload_n C.ex C.by dX10_form_90 rfl (lv_at hl 4 rfl) ?_
      refine lv_iconst (v := 0) C.ex C.by dX10_form_91 (by decide) ?_
      refine lv_iload C.ex C.by dX10_form_92 (lv_at hl 0 rfl) ?_
      refine lv_aload_n C.ex C.by dX10_form_94 rfl (lv_at hl 4 rfl) ?_
      refine z_get (v := .int (zI q12.2 5)) C h iwX10 0 (wM_at0 κ _) rfl 15 (by decide) lkM7 rfl dX10_form_95 ?_
      obtain ⟨q14, e15, hf⟩ := zb_some hf
      refine z_callVv (As := [.int 0, .int q12.1, .int (zI q12.2 5)]) C h (ctX10_hang e15) (zgV lkM47 lkM48 lkM49 lkM2 lkM50) ⟨rfl, rfl⟩ hdX10_hang ⟨Nat.le_of_ble_eq_true rfl, Nat.le_of_ble_eq_true rfl⟩ 0 (wM_at0 κ _) rfl hl rfl rfl (Nat.le_of_ble_eq_true rfl) dX10_form_98 ⟨Nat.zero_le _, Nat.zero_le _⟩ (fun H locs h => ?_)
      exact wX10_form_101 C h (lv_sub hl [4, 5, 3, 2, 1] rfl) hf
  · have hf := zif_f c5 hf
    refine lv_iconst (v := 0) C.ex C.by dX10_form_36 (by decide) ?_
    cases hf
    exact z_iret C h dX10_form_37
set_option maxRecDepth 20000 in
set_option maxHeartbeats 4000000 in
theorem wX10_form_0 {p : Program} {l : Launch} {e : Env} {s : State} {m : MethodId} {args : Array Value} {below : List Frame} {meth : Method} {c : Code} {A : Nat → Prop} {κ : zG} {H : Heap} {locs : List Loc} {ls : Array Slot} {n : Nat} {σ : zS} {x1 : Int32} {r1 : Int32} {r2 : zS} (C : zC cX10_form 6 (some .int) RX10 κ A p s m args meth c) (h : zH wM κ A s σ H locs) (hl : lv_has ls 6 [(0, .ref (κ.2.1 0)), (1, .int x1)]) (hf : fX10_form_0 n σ x1 = some (r1, r2)) : W p l e rmX10_form s m args below meth c H locs 0 0 (MQ below (zQi wM κ A r1 r2) args s 0 0 A) (F0 m 0 ls []) := by
  unfold fX10_form_0 at hf
  refine lv_aload_n C.ex C.by dX10_form_0 rfl (lv_at hl 0 rfl) ?_
  refine lv_iload_n C.ex C.by dX10_form_1 rfl (lv_at hl 1 rfl) ?_
  refine lv_iconst (v := 0) C.ex C.by dX10_form_2 (by decide) ?_
  refine lv_iconst (v := 2) C.ex C.by dX10_form_3 (by decide) ?_
  obtain ⟨q1, e2, hf⟩ := zb_some hf
  refine z_callSi (As := [.int x1, .int 0, .int 2]) C h (ctX10_isIn e2) (zgS lkM0 lkM1 lkM2 lkM3) ⟨rfl, rfl⟩ hdX10_isIn ⟨Nat.le_of_ble_eq_true rfl, Nat.le_of_ble_eq_true rfl⟩ hl rfl rfl (Nat.le_of_ble_eq_true rfl) dX10_form_4 ⟨Nat.zero_le _, Nat.zero_le _⟩ (fun H locs h => ?_)
  refine lv_if_ne (tgt := 14) C.ex C.by dX10_form_7 (by decide) (fun c3 => ?_) (fun c3 => ?_)
  · have hf := zif_f c3 hf
    refine lv_aload_n C.ex C.by dX10_form_14 rfl (lv_at hl 0 rfl) ?_
    refine z_get (v := .int (zI σ 16)) C h iwX10 0 (wM_at0 κ _) rfl 28 (by decide) lkM4 rfl dX10_form_15 ?_
    refine lv_if_eq (tgt := 25) C.ex C.by dX10_form_18 (by decide) (fun c4 => ?_) (fun c4 => ?_)
    · have hf := zif_t c4 hf
      refine lv_iconst (v := 0) C.ex C.by dX10_form_25 (by decide) ?_
      exact wX10_form_26 C h hl hf
    · have hf := zif_f c4 hf
      refine lv_iconst (v := 2) C.ex C.by dX10_form_21 (by decide) ?_
      refine lv_goto (tgt := 26) C.ex C.by dX10_form_22 (by decide) ?_
      exact wX10_form_26 C h hl hf
  · have hf := zif_t c3 hf
    refine lv_iconst (v := 1) C.ex C.by dX10_form_10 (by decide) ?_
    refine lv_goto (tgt := 26) C.ex C.by dX10_form_11 (by decide) ?_
    exact wX10_form_26 C h hl hf
theorem ctX10_form {l : Launch} {κ : zG} {n : Nat} {σ : zS} {x1 : Int32} {r1 : Int32} {r2 : zS} (hf : fX10_form_0 n σ x1 = some (r1, r2)) : zMi l yX10_form (Cond.code yX10_form cX10_form 6 (some .int)) rmX10_form wM κ [.ref (κ.2.1 0), .int x1] σ r1 r2 :=
  zMi_of (by decide) (Nat.le_of_ble_eq_true rfl) (fun p e s m below meth c A C h ls hl => wX10_form_0 C h hl hf)
theorem hdX10_cellOf : yX10_cellOf.cls = RX10 ∧ yX10_cellOf.cls ≠ "java/lang/invoke/MethodHandle" ∧ yX10_cellOf.cls ≠ "java/lang/invoke/VarHandle" ∧ (parseMethodDescriptor yX10_cellOf.desc).map (fun d => d.parameters.length) = some 1 := by decide +kernel
abbrev rmX10_cellOf : Room := { frames := 0, cells := 0, slots := 0, locals := 0 }
set_option maxRecDepth 20000 in
set_option maxHeartbeats 4000000 in
theorem wX10_cellOf_0 {p : Program} {l : Launch} {e : Env} {s : State} {m : MethodId} {args : Array Value} {below : List Frame} {meth : Method} {c : Code} {A : Nat → Prop} {κ : zG} {H : Heap} {locs : List Loc} {ls : Array Slot} {n : Nat} {σ : zS} {x1 : Int32} {r : Int32} (C : zC cX10_cellOf 2 (some .int) RX10 κ A p s m args meth c) (h : zH wM κ A s σ H locs) (hl : lv_has ls 2 [(0, .ref (κ.2.1 0)), (1, .int x1)]) (hf : fX10_cellOf_0 n σ x1 = some r) : W p l e rmX10_cellOf s m args below meth c H locs 0 0 (MQ below (zQi wM κ A r σ) args s 0 0 A) (F0 m 0 ls []) := by
  unfold fX10_cellOf_0 at hf
  refine lv_bipush (v := 64) C.ex C.by dX10_cellOf_0 (by decide) ?_
  refine lv_aload_n C.ex C.by dX10_cellOf_2 rfl (lv_at hl 0 rfl) ?_
  refine z_get (v := .ref (κ.2.1 20)) C h iwX10 0 (wM_at0 κ _) rfl 45 (by decide) lkM156 rfl dX10_cellOf_3 ?_
  refine lv_iload_n C.ex C.by dX10_cellOf_6 rfl (lv_at hl 1 rfl) ?_
  obtain ⟨h1, hf⟩ := zg_some hf
  refine z_iald (f := (zA σ 14)) C h 20 (wM_at20 κ _) h1 dX10_cellOf_7 ?_
  refine lv_imul C.ex C.by dX10_cellOf_8 ?_
  refine lv_aload_n C.ex C.by dX10_cellOf_9 rfl (lv_at hl 0 rfl) ?_
  refine z_get (v := .ref (κ.2.1 21)) C h iwX10 0 (wM_at0 κ _) rfl 46 (by decide) lkM157 rfl dX10_cellOf_10 ?_
  refine lv_iload_n C.ex C.by dX10_cellOf_13 rfl (lv_at hl 1 rfl) ?_
  obtain ⟨h2, hf⟩ := zg_some hf
  refine z_iald (f := (zA σ 15)) C h 21 (wM_at21 κ _) h2 dX10_cellOf_14 ?_
  refine lv_aload_n C.ex C.by dX10_cellOf_15 rfl (lv_at hl 0 rfl) ?_
  refine z_get (v := .int (zI σ 6)) C h iwX10 0 (wM_at0 κ _) rfl 16 (by decide) lkM9 rfl dX10_cellOf_16 ?_
  refine lv_iconst (v := 1) C.ex C.by dX10_cellOf_19 (by decide) ?_
  refine lv_iadd C.ex C.by dX10_cellOf_20 ?_
  refine lv_imul C.ex C.by dX10_cellOf_21 ?_
  refine lv_iadd C.ex C.by dX10_cellOf_22 ?_
  cases hf
  exact z_iret C h dX10_cellOf_23
theorem ctX10_cellOf {l : Launch} {κ : zG} {n : Nat} {σ : zS} {x1 : Int32} {r : Int32} (hf : fX10_cellOf_0 n σ x1 = some r) : zMi l yX10_cellOf (Cond.code yX10_cellOf cX10_cellOf 2 (some .int)) rmX10_cellOf wM κ [.ref (κ.2.1 0), .int x1] σ r σ :=
  zMi_of (by decide) (Nat.le_of_ble_eq_true rfl) (fun p e s m below meth c A C h ls hl => wX10_cellOf_0 C h hl hf)
theorem hdX10_firstOf : yX10_firstOf.cls = RX10 ∧ yX10_firstOf.cls ≠ "java/lang/invoke/MethodHandle" ∧ yX10_firstOf.cls ≠ "java/lang/invoke/VarHandle" ∧ (parseMethodDescriptor yX10_firstOf.desc).map (fun d => d.parameters.length) = some 1 := by decide +kernel
abbrev rmX10_firstOf : Room := { frames := 2, cells := 0, slots := 0, locals := 53 }
set_option maxRecDepth 20000 in
set_option maxHeartbeats 4000000 in
theorem wX10_firstOf_L4_48 {p : Program} {l : Launch} {e : Env} {s : State} {m : MethodId} {args : Array Value} {below : List Frame} {meth : Method} {c : Code} {A : Nat → Prop} {κ : zG} {H : Heap} {locs : List Loc} {ls : Array Slot} {Q : State → Prop} {n : Nat} {σ : zS} {k1 : Int32} {x2 : Int32} {x3 : Int32} {r : (Int32 × Int32) ⊕ (Int32)} (C : zC cX10_firstOf 4 (some .int) RX10 κ A p s m args meth c) (h : zH wM κ A s σ H locs) (hl : lv_has ls 4 [(0, .ref (κ.2.1 0)), (1, .int k1), (2, .int x2), (3, .int x3)]) (hf : fX10_firstOf_L4_48 n σ k1 x2 x3 = some r) (Kc : ∀ (v2 : Int32) (v3 : Int32), r = .inl (v2, v3) → ∀ (H : Heap) (locs : List Loc) (ls : Array Slot), zH wM κ A s σ H locs → lv_has ls 4 [(0, .ref (κ.2.1 0)), (1, .int k1), (2, .int v2), (3, .int v3)] → W p l e rmX10_firstOf s m args below meth c H locs 0 0 Q (F0 m 4 ls [])) (Ke0 : ∀ (v2 : Int32), r = .inr v2 → ∀ (H : Heap) (locs : List Loc) (ls : Array Slot), zH wM κ A s σ H locs → lv_has ls 4 [(0, .ref (κ.2.1 0)), (2, .int v2)] → W p l e rmX10_firstOf s m args below meth c H locs 0 0 Q (F0 m 54 ls [])) : W p l e rmX10_firstOf s m args below meth c H locs 0 0 Q (F0 m 48 ls []) := by
  unfold fX10_firstOf_L4_48 at hf
  refine lv_iinc (v := (x3 + 1)) (lv' := [(3, .int (x3 + 1)), (0, .ref (κ.2.1 0)), (1, .int k1), (2, .int x2)]) C.ex C.by dX10_firstOf_48 hl (k := 3) rfl rfl (by decide) rfl (fun ls hl => ?_)
  refine lv_goto (tgt := 4) C.ex C.by dX10_firstOf_51 (by decide) ?_
  exact Kc _ _ (Option.some.inj hf).symm _ _ _ h (lv_sub hl [1, 2, 3, 0] rfl)
set_option maxRecDepth 20000 in
set_option maxHeartbeats 4000000 in
theorem wX10_firstOf_L4_46 {p : Program} {l : Launch} {e : Env} {s : State} {m : MethodId} {args : Array Value} {below : List Frame} {meth : Method} {c : Code} {A : Nat → Prop} {κ : zG} {H : Heap} {locs : List Loc} {ls : Array Slot} {Q : State → Prop} {n : Nat} {σ : zS} {k1 : Int32} {x3 : Int32} {r : (Int32 × Int32) ⊕ (Int32)} (C : zC cX10_firstOf 4 (some .int) RX10 κ A p s m args meth c) (h : zH wM κ A s σ H locs) (hl : lv_has ls 4 [(0, .ref (κ.2.1 0)), (1, .int k1), (3, .int x3)]) (hf : fX10_firstOf_L4_46 n σ k1 x3 = some r) (Kc : ∀ (v2 : Int32) (v3 : Int32), r = .inl (v2, v3) → ∀ (H : Heap) (locs : List Loc) (ls : Array Slot), zH wM κ A s σ H locs → lv_has ls 4 [(0, .ref (κ.2.1 0)), (1, .int k1), (2, .int v2), (3, .int v3)] → W p l e rmX10_firstOf s m args below meth c H locs 0 0 Q (F0 m 4 ls [])) (Ke0 : ∀ (v2 : Int32), r = .inr v2 → ∀ (H : Heap) (locs : List Loc) (ls : Array Slot), zH wM κ A s σ H locs → lv_has ls 4 [(0, .ref (κ.2.1 0)), (2, .int v2)] → W p l e rmX10_firstOf s m args below meth c H locs 0 0 Q (F0 m 54 ls [])) : W p l e rmX10_firstOf s m args below meth c H locs 0 0 Q (F0 m 46 ls []) := by
  unfold fX10_firstOf_L4_46 at hf
  refine lv_iload_n C.ex C.by dX10_firstOf_46 rfl (lv_at hl 2 rfl) ?_
  refine lv_istore_n (lv' := [(2, .int x3), (0, .ref (κ.2.1 0)), (1, .int k1), (3, .int x3)]) C.ex C.by dX10_firstOf_47 rfl hl (by decide) rfl (fun ls hl => ?_)
  exact wX10_firstOf_L4_48 C h (lv_sub hl [1, 2, 0, 3] rfl) hf Kc Ke0
set_option maxRecDepth 20000 in
set_option maxHeartbeats 4000000 in
theorem wX10_firstOf_L4_4 {p : Program} {l : Launch} {e : Env} {s : State} {m : MethodId} {args : Array Value} {below : List Frame} {meth : Method} {c : Code} {A : Nat → Prop} {κ : zG} {H : Heap} {locs : List Loc} {ls : Array Slot} {Q : State → Prop} {n : Nat} {σ : zS} {k1 : Int32} {a : Int32 × Int32} {r : (Int32 × Int32) ⊕ (Int32)} (C : zC cX10_firstOf 4 (some .int) RX10 κ A p s m args meth c) (h : zH wM κ A s σ H locs) (hl : lv_has ls 4 [(0, .ref (κ.2.1 0)), (1, .int k1), (2, .int a.1), (3, .int a.2)]) (hf : fX10_firstOf_L4_4 n σ k1 a = some r) (Kc : ∀ (v2 : Int32) (v3 : Int32), r = .inl (v2, v3) → ∀ (H : Heap) (locs : List Loc) (ls : Array Slot), zH wM κ A s σ H locs → lv_has ls 4 [(0, .ref (κ.2.1 0)), (1, .int k1), (2, .int v2), (3, .int v3)] → W p l e rmX10_firstOf s m args below meth c H locs 0 0 Q (F0 m 4 ls [])) (Ke0 : ∀ (v2 : Int32), r = .inr v2 → ∀ (H : Heap) (locs : List Loc) (ls : Array Slot), zH wM κ A s σ H locs → lv_has ls 4 [(0, .ref (κ.2.1 0)), (2, .int v2)] → W p l e rmX10_firstOf s m args below meth c H locs 0 0 Q (F0 m 54 ls [])) : W p l e rmX10_firstOf s m args below meth c H locs 0 0 Q (F0 m 4 ls []) := by
  unfold fX10_firstOf_L4_4 at hf
  refine lv_iload_n C.ex C.by dX10_firstOf_4 rfl (lv_at hl 3 rfl) ?_
  refine lv_iload_n C.ex C.by dX10_firstOf_5 rfl (lv_at hl 1 rfl) ?_
  refine lv_icmp_ge (tgt := 54) C.ex C.by dX10_firstOf_6 (by decide) (fun c1 => ?_) (fun c1 => ?_)
  · have hf := zif_t c1 hf
    exact Ke0 _ (Option.some.inj hf).symm _ _ _ h (lv_sub hl [0, 2] rfl)
  · have hf := zif_f c1 hf
    refine lv_aload_n C.ex C.by dX10_firstOf_9 rfl (lv_at hl 0 rfl) ?_
    refine z_get (v := .int (zI σ 17)) C h iwX10 0 (wM_at0 κ _) rfl 29 (by decide) lkM17 rfl dX10_firstOf_10 ?_
    refine lv_if_ne (tgt := 54) C.ex C.by dX10_firstOf_13 (by decide) (fun c2 => ?_) (fun c2 => ?_)
    · have hf := zif_f c2 hf
      exact Ke0 _ (Option.some.inj hf).symm _ _ _ h (lv_sub hl [0, 2] rfl)
    · have hf := zif_t c2 hf
      refine lv_aload_n C.ex C.by dX10_firstOf_16 rfl (lv_at hl 0 rfl) ?_
      refine z_get (v := .ref (κ.2.1 22)) C h iwX10 0 (wM_at0 κ _) rfl 47 (by decide) lkM158 rfl dX10_firstOf_17 ?_
      refine lv_iload_n C.ex C.by dX10_firstOf_20 rfl (lv_at hl 3 rfl) ?_
      obtain ⟨h3, hf⟩ := zg_some hf
      refine z_iald (f := (zA σ 16)) C h 22 (wM_at22 κ _) h3 dX10_firstOf_21 ?_
      refine lv_if_le (tgt := 48) C.ex C.by dX10_firstOf_22 (by decide) (fun c4 => ?_) (fun c4 => ?_)
      · have hf := zif_t c4 hf
        exact wX10_firstOf_L4_48 C h hl hf Kc Ke0
      · have hf := zif_f c4 hf
        refine lv_iload_n C.ex C.by dX10_firstOf_25 rfl (lv_at hl 2 rfl) ?_
        refine lv_if_lt (tgt := 46) C.ex C.by dX10_firstOf_26 (by decide) (fun c5 => ?_) (fun c5 => ?_)
        · have hf := zif_t c5 hf
          exact wX10_firstOf_L4_46 C h (lv_sub hl [0, 1, 3] rfl) hf Kc Ke0
        · have hf := zif_f c5 hf
          refine lv_aload_n C.ex C.by dX10_firstOf_29 rfl (lv_at hl 0 rfl) ?_
          refine lv_aload_n C.ex C.by dX10_firstOf_30 rfl (lv_at hl 0 rfl) ?_
          refine lv_iload_n C.ex C.by dX10_firstOf_31 rfl (lv_at hl 3 rfl) ?_
          obtain ⟨q6, e7, hf⟩ := zb_some hf
          refine z_callVi (As := [.int a.2]) C h (ctX10_cellOf e7) (zgV lkM159 lkM160 lkM161 lkM2 lkM162) ⟨rfl, rfl⟩ hdX10_cellOf ⟨Nat.le_of_ble_eq_true rfl, Nat.le_of_ble_eq_true rfl⟩ 0 (wM_at0 κ _) rfl hl rfl rfl (Nat.le_of_ble_eq_true rfl) dX10_firstOf_32 ⟨Nat.zero_le _, Nat.zero_le _⟩ (fun H locs h => ?_)
          refine lv_aload_n C.ex C.by dX10_firstOf_35 rfl (lv_at hl 0 rfl) ?_
          refine lv_iload_n C.ex C.by dX10_firstOf_36 rfl (lv_at hl 2 rfl) ?_
          obtain ⟨q8, e9, hf⟩ := zb_some hf
          refine z_callVi (As := [.int a.1]) C h (ctX10_cellOf e9) (zgV lkM159 lkM160 lkM161 lkM2 lkM162) ⟨rfl, rfl⟩ hdX10_cellOf ⟨Nat.le_of_ble_eq_true rfl, Nat.le_of_ble_eq_true rfl⟩ 0 (wM_at0 κ _) rfl hl rfl rfl (Nat.le_of_ble_eq_true rfl) dX10_firstOf_37 ⟨Nat.zero_le _, Nat.zero_le _⟩ (fun H locs h => ?_)
          obtain ⟨q10, e11, hf⟩ := zb_some hf
          refine z_callVi (As := [.int q6, .int q8]) C h (ctX10_before e11) (zgV lkM76 lkM77 lkM78 lkM2 lkM79) ⟨rfl, rfl⟩ hdX10_before ⟨Nat.le_of_ble_eq_true rfl, Nat.le_of_ble_eq_true rfl⟩ 0 (wM_at0 κ _) rfl hl rfl rfl (Nat.le_of_ble_eq_true rfl) dX10_firstOf_40 ⟨Nat.zero_le _, Nat.zero_le _⟩ (fun H locs h => ?_)
          refine lv_if_eq (tgt := 48) C.ex C.by dX10_firstOf_43 (by decide) (fun c12 => ?_) (fun c12 => ?_)
          · have hf := zif_t c12 hf
            exact wX10_firstOf_L4_48 C h hl hf Kc Ke0
          · have hf := zif_f c12 hf
            exact wX10_firstOf_L4_46 C h (lv_sub hl [0, 1, 3] rfl) hf Kc Ke0
theorem wlX10_firstOf_4 {p : Program} {l : Launch} {e : Env} {s : State} {m : MethodId} {args : Array Value} {below : List Frame} {meth : Method} {c : Code} {A : Nat → Prop} {κ : zG} {H : Heap} {locs : List Loc} {ls : Array Slot} {Q : State → Prop} {n : Nat} {σ : zS} {k1 : Int32} {k0 : Nat} {u2 : Int32} {u3 : Int32} (C : zC cX10_firstOf 4 (some .int) RX10 κ A p s m args meth c) (h : zH wM κ A s σ H locs) (hl : lv_has ls 4 [(0, .ref (κ.2.1 0)), (1, .int k1), (2, .int u2), (3, .int u3)]) (b : Int32) (hb : zlp (fX10_firstOf_L4_4 n σ k1) k0 (u2, u3) = some b) (K : (fun b : Int32 => ∀ (H : Heap) (locs : List Loc) (ls : Array Slot), zH wM κ A s σ H locs → lv_has ls 4 [(0, .ref (κ.2.1 0)), (2, .int b)] → W p l e rmX10_firstOf s m args below meth c H locs 0 0 Q (F0 m 54 ls [])) b) : W p l e rmX10_firstOf s m args below meth c H locs 0 0 Q (F0 m 4 ls []) :=
  z_loop (body := fX10_firstOf_L4_4 n σ k1) (Wd := (fun a : Int32 × Int32 => ∀ (H : Heap) (locs : List Loc) (ls : Array Slot), zH wM κ A s σ H locs → lv_has ls 4 [(0, .ref (κ.2.1 0)), (1, .int k1), (2, .int a.1), (3, .int a.2)] → W p l e rmX10_firstOf s m args below meth c H locs 0 0 Q (F0 m 4 ls []))) (Ex := (fun b : Int32 => (fun b : Int32 => ∀ (H : Heap) (locs : List Loc) (ls : Array Slot), zH wM κ A s σ H locs → lv_has ls 4 [(0, .ref (κ.2.1 0)), (2, .int b)] → W p l e rmX10_firstOf s m args below meth c H locs 0 0 Q (F0 m 54 ls [])) b)) (fun a r hr Kc Ke H locs ls h hl => wX10_firstOf_L4_4 C h hl hr (fun v2 v3 e => Kc (v2, v3) e) (fun v2 e => Ke v2 e)) k0 (u2, u3) b hb K H locs ls h hl
set_option maxRecDepth 20000 in
set_option maxHeartbeats 4000000 in
theorem wX10_firstOf_0 {p : Program} {l : Launch} {e : Env} {s : State} {m : MethodId} {args : Array Value} {below : List Frame} {meth : Method} {c : Code} {A : Nat → Prop} {κ : zG} {H : Heap} {locs : List Loc} {ls : Array Slot} {n : Nat} {σ : zS} {x1 : Int32} {r : Int32} (C : zC cX10_firstOf 4 (some .int) RX10 κ A p s m args meth c) (h : zH wM κ A s σ H locs) (hl : lv_has ls 4 [(0, .ref (κ.2.1 0)), (1, .int x1)]) (hf : fX10_firstOf_0 n σ x1 = some r) : W p l e rmX10_firstOf s m args below meth c H locs 0 0 (MQ below (zQi wM κ A r σ) args s 0 0 A) (F0 m 0 ls []) := by
  unfold fX10_firstOf_0 at hf
  refine lv_iconst (v := (-1)) C.ex C.by dX10_firstOf_0 (by decide) ?_
  refine lv_istore_n (lv' := [(2, .int (-1)), (0, .ref (κ.2.1 0)), (1, .int x1)]) C.ex C.by dX10_firstOf_1 rfl hl (by decide) rfl (fun ls hl => ?_)
  refine lv_iconst (v := 0) C.ex C.by dX10_firstOf_2 (by decide) ?_
  refine lv_istore_n (lv' := [(3, .int 0), (2, .int (-1)), (0, .ref (κ.2.1 0)), (1, .int x1)]) C.ex C.by dX10_firstOf_3 rfl hl (by decide) rfl (fun ls hl => ?_)
  obtain ⟨b13, e14, hf⟩ := zb_some hf
  refine wlX10_firstOf_4 C h (lv_sub hl [2, 3, 1, 0] rfl) b13 e14 ?_
  intro H locs ls h hl
  refine lv_iload_n C.ex C.by dX10_firstOf_54 rfl (lv_at hl 1 rfl) ?_
  cases hf
  exact z_iret C h dX10_firstOf_55
theorem ctX10_firstOf {l : Launch} {κ : zG} {n : Nat} {σ : zS} {x1 : Int32} {r : Int32} (hf : fX10_firstOf_0 n σ x1 = some r) : zMi l yX10_firstOf (Cond.code yX10_firstOf cX10_firstOf 4 (some .int)) rmX10_firstOf wM κ [.ref (κ.2.1 0), .int x1] σ r σ :=
  zMi_of (by decide) (Nat.le_of_ble_eq_true rfl) (fun p e s m below meth c A C h ls hl => wX10_firstOf_0 C h hl hf)
theorem hdX10_onward : yX10_onward.cls = RX10 ∧ yX10_onward.cls ≠ "java/lang/invoke/MethodHandle" ∧ yX10_onward.cls ≠ "java/lang/invoke/VarHandle" ∧ (parseMethodDescriptor yX10_onward.desc).map (fun d => d.parameters.length) = some 1 := by decide +kernel
abbrev rmX10_onward : Room := { frames := 2, cells := 0, slots := 0, locals := 42 }
set_option maxRecDepth 20000 in
set_option maxHeartbeats 4000000 in
theorem wX10_onward_0 {p : Program} {l : Launch} {e : Env} {s : State} {m : MethodId} {args : Array Value} {below : List Frame} {meth : Method} {c : Code} {A : Nat → Prop} {κ : zG} {H : Heap} {locs : List Loc} {ls : Array Slot} {n : Nat} {σ : zS} {x1 : Int32} {r : zS} (C : zC cX10_onward 2 none RX10 κ A p s m args meth c) (h : zH wM κ A s σ H locs) (hl : lv_has ls 2 [(0, .ref (κ.2.1 0)), (1, .int x1)]) (hf : fX10_onward_0 n σ x1 = some r) : W p l e rmX10_onward s m args below meth c H locs 0 0 (MQ below (zQv wM κ A r) args s 0 0 A) (F0 m 0 ls []) := by
  unfold fX10_onward_0 at hf
  refine lv_aload_n C.ex C.by dX10_onward_0 rfl (lv_at hl 0 rfl) ?_
  refine z_get (v := .ref (κ.2.1 22)) C h iwX10 0 (wM_at0 κ _) rfl 47 (by decide) lkM158 rfl dX10_onward_1 ?_
  refine lv_iload_n C.ex C.by dX10_onward_4 rfl (lv_at hl 1 rfl) ?_
  refine lv_dup2_11 C.ex C.by dX10_onward_5 rfl rfl ?_
  obtain ⟨h1, hf⟩ := zg_some hf
  refine z_iald (f := (zA σ 16)) C h 22 (wM_at22 κ _) h1 dX10_onward_6 ?_
  refine lv_iconst (v := 1) C.ex C.by dX10_onward_7 (by decide) ?_
  refine lv_isub C.ex C.by dX10_onward_8 ?_
  obtain ⟨h2, hf⟩ := zg_some hf
  refine z_iast (f := (zA σ 16)) C h 22 (wM_at22 κ _) h2 (sA σ 16 (upd (zA σ 16) (Int32.toNatClampNeg x1) (((zA σ 16) (Int32.toNatClampNeg x1)) - 1))) (wM_s22 κ _ _) dX10_onward_9 (fun H locs h => ?_)
  refine lv_aload_n C.ex C.by dX10_onward_10 rfl (lv_at hl 0 rfl) ?_
  refine z_get (v := .ref (κ.2.1 21)) C h iwX10 0 (wM_at0 κ _) rfl 46 (by decide) lkM157 rfl dX10_onward_11 ?_
  refine lv_iload_n C.ex C.by dX10_onward_14 rfl (lv_at hl 1 rfl) ?_
  refine lv_dup2_11 C.ex C.by dX10_onward_15 rfl rfl ?_
  obtain ⟨h3, hf⟩ := zg_some hf
  refine z_iald (f := (zA σ 15)) C h 21 (wM_at21 κ _) h3 dX10_onward_16 ?_
  refine lv_iconst (v := 1) C.ex C.by dX10_onward_17 (by decide) ?_
  refine lv_iadd C.ex C.by dX10_onward_18 ?_
  obtain ⟨h4, hf⟩ := zg_some hf
  refine z_iast (f := (zA σ 15)) C h 21 (wM_at21 κ _) h4 (sA (sA σ 16 (upd (zA σ 16) (Int32.toNatClampNeg x1) (((zA σ 16) (Int32.toNatClampNeg x1)) - 1))) 15 (upd (zA σ 15) (Int32.toNatClampNeg x1) (((zA σ 15) (Int32.toNatClampNeg x1)) + 1))) (wM_s21 κ _ _) dX10_onward_19 (fun H locs h => ?_)
  refine lv_aload_n C.ex C.by dX10_onward_20 rfl (lv_at hl 0 rfl) ?_
  refine z_get (v := .ref (κ.2.1 21)) C h iwX10 0 (wM_at0 κ _) rfl 46 (by decide) lkM157 rfl dX10_onward_21 ?_
  refine lv_iload_n C.ex C.by dX10_onward_24 rfl (lv_at hl 1 rfl) ?_
  obtain ⟨h5, hf⟩ := zg_some hf
  refine z_iald (f := (upd (zA σ 15) (Int32.toNatClampNeg x1) (((zA σ 15) (Int32.toNatClampNeg x1)) + 1))) C h 21 (wM_at21 κ _) h5 dX10_onward_25 ?_
  refine lv_aload_n C.ex C.by dX10_onward_26 rfl (lv_at hl 0 rfl) ?_
  obtain ⟨q6, e7, hf⟩ := zb_some hf
  refine z_callVi (As := []) C h (ctX10_per e7) (zgV lkM25 lkM26 lkM27 lkM2 lkM28) ⟨rfl, rfl⟩ hdX10_per ⟨Nat.le_of_ble_eq_true rfl, Nat.le_of_ble_eq_true rfl⟩ 0 (wM_at0 κ _) rfl hl rfl rfl (Nat.le_of_ble_eq_true rfl) dX10_onward_27 ⟨Nat.zero_le _, Nat.zero_le _⟩ (fun H locs h => ?_)
  refine lv_icmp_ne (tgt := 76) C.ex C.by dX10_onward_30 (by decide) (fun c8 => ?_) (fun c8 => ?_)
  · have hf := zif_f c8 hf
    cases hf
    exact z_vret C h dX10_onward_76
  · have hf := zif_t c8 hf
    refine lv_aload_n C.ex C.by dX10_onward_33 rfl (lv_at hl 0 rfl) ?_
    refine z_get (v := .ref (κ.2.1 22)) C h iwX10 0 (wM_at0 κ _) rfl 47 (by decide) lkM158 rfl dX10_onward_34 ?_
    refine lv_iload_n C.ex C.by dX10_onward_37 rfl (lv_at hl 1 rfl) ?_
    obtain ⟨h9, hf⟩ := zg_some hf
    refine z_iald (f := (upd (zA σ 16) (Int32.toNatClampNeg x1) (((zA σ 16) (Int32.toNatClampNeg x1)) - 1))) C h 22 (wM_at22 κ _) h9 dX10_onward_38 ?_
    refine lv_if_le (tgt := 76) C.ex C.by dX10_onward_39 (by decide) (fun c10 => ?_) (fun c10 => ?_)
    · have hf := zif_t c10 hf
      cases hf
      exact z_vret C h dX10_onward_76
    · have hf := zif_f c10 hf
      refine lv_aload_n C.ex C.by dX10_onward_42 rfl (lv_at hl 0 rfl) ?_
      refine z_get (v := .ref (κ.2.1 20)) C h iwX10 0 (wM_at0 κ _) rfl 45 (by decide) lkM156 rfl dX10_onward_43 ?_
      refine lv_iload_n C.ex C.by dX10_onward_46 rfl (lv_at hl 1 rfl) ?_
      refine lv_aload_n C.ex C.by dX10_onward_47 rfl (lv_at hl 0 rfl) ?_
      refine z_get (v := .ref (κ.2.1 4)) C h iwX10 0 (wM_at0 κ _) rfl 7 (by decide) lkM31 rfl dX10_onward_48 ?_
      refine lv_aload_n C.ex C.by dX10_onward_51 rfl (lv_at hl 0 rfl) ?_
      refine z_get (v := .ref (κ.2.1 20)) C h iwX10 0 (wM_at0 κ _) rfl 45 (by decide) lkM156 rfl dX10_onward_52 ?_
      refine lv_iload_n C.ex C.by dX10_onward_55 rfl (lv_at hl 1 rfl) ?_
      obtain ⟨h11, hf⟩ := zg_some hf
      refine z_iald (f := (zA σ 14)) C h 20 (wM_at20 κ _) h11 dX10_onward_56 ?_
      obtain ⟨h12, hf⟩ := zg_some hf
      refine z_iald (f := (zA σ 2)) C h 4 (wM_at4 κ _) h12 dX10_onward_57 ?_
      obtain ⟨h13, hf⟩ := zg_some hf
      refine z_iast (f := (zA σ 14)) C h 20 (wM_at20 κ _) h13 (sA (sA (sA σ 16 (upd (zA σ 16) (Int32.toNatClampNeg x1) (((zA σ 16) (Int32.toNatClampNeg x1)) - 1))) 15 (upd (zA σ 15) (Int32.toNatClampNeg x1) (((zA σ 15) (Int32.toNatClampNeg x1)) + 1))) 14 (upd (zA σ 14) (Int32.toNatClampNeg x1) ((zA σ 2) (Int32.toNatClampNeg ((zA σ 14) (Int32.toNatClampNeg x1)))))) (wM_s20 κ _ _) dX10_onward_58 (fun H locs h => ?_)
      refine lv_aload_n C.ex C.by dX10_onward_59 rfl (lv_at hl 0 rfl) ?_
      refine z_get (v := .ref (κ.2.1 21)) C h iwX10 0 (wM_at0 κ _) rfl 46 (by decide) lkM157 rfl dX10_onward_60 ?_
      refine lv_iload_n C.ex C.by dX10_onward_63 rfl (lv_at hl 1 rfl) ?_
      refine lv_iconst (v := 0) C.ex C.by dX10_onward_64 (by decide) ?_
      obtain ⟨h14, hf⟩ := zg_some hf
      refine z_iast (f := (upd (zA σ 15) (Int32.toNatClampNeg x1) (((zA σ 15) (Int32.toNatClampNeg x1)) + 1))) C h 21 (wM_at21 κ _) h14 (sA (sA (sA (sA σ 16 (upd (zA σ 16) (Int32.toNatClampNeg x1) (((zA σ 16) (Int32.toNatClampNeg x1)) - 1))) 15 (upd (zA σ 15) (Int32.toNatClampNeg x1) (((zA σ 15) (Int32.toNatClampNeg x1)) + 1))) 14 (upd (zA σ 14) (Int32.toNatClampNeg x1) ((zA σ 2) (Int32.toNatClampNeg ((zA σ 14) (Int32.toNatClampNeg x1)))))) 15 (upd (upd (zA σ 15) (Int32.toNatClampNeg x1) (((zA σ 15) (Int32.toNatClampNeg x1)) + 1)) (Int32.toNatClampNeg x1) 0)) (wM_s21 κ _ _) dX10_onward_65 (fun H locs h => ?_)
      refine lv_aload_n C.ex C.by dX10_onward_66 rfl (lv_at hl 0 rfl) ?_
      refine lv_aload_n C.ex C.by dX10_onward_67 rfl (lv_at hl 0 rfl) ?_
      refine z_get (v := .ref (κ.2.1 20)) C h iwX10 0 (wM_at0 κ _) rfl 45 (by decide) lkM156 rfl dX10_onward_68 ?_
      refine lv_iload_n C.ex C.by dX10_onward_71 rfl (lv_at hl 1 rfl) ?_
      obtain ⟨h15, hf⟩ := zg_some hf
      refine z_iald (f := (upd (zA σ 14) (Int32.toNatClampNeg x1) ((zA σ 2) (Int32.toNatClampNeg ((zA σ 14) (Int32.toNatClampNeg x1)))))) C h 20 (wM_at20 κ _) h15 dX10_onward_72 ?_
      obtain ⟨q16, e17, hf⟩ := zb_some hf
      refine z_callVv (As := [.int ((upd (zA σ 14) (Int32.toNatClampNeg x1) ((zA σ 2) (Int32.toNatClampNeg ((zA σ 14) (Int32.toNatClampNeg x1))))) (Int32.toNatClampNeg x1))]) C h (ctX10_read e17) (zgV lkM64 lkM65 lkM66 lkM2 lkM67) ⟨rfl, rfl⟩ hdX10_read ⟨Nat.le_of_ble_eq_true rfl, Nat.le_of_ble_eq_true rfl⟩ 0 (wM_at0 κ _) rfl hl rfl rfl (Nat.le_of_ble_eq_true rfl) dX10_onward_73 ⟨Nat.zero_le _, Nat.zero_le _⟩ (fun H locs h => ?_)
      cases hf
      exact z_vret C h dX10_onward_76
theorem ctX10_onward {l : Launch} {κ : zG} {n : Nat} {σ : zS} {x1 : Int32} {r : zS} (hf : fX10_onward_0 n σ x1 = some r) : zMv l yX10_onward (Cond.code yX10_onward cX10_onward 2 none) rmX10_onward wM κ [.ref (κ.2.1 0), .int x1] σ r :=
  zMv_of (by decide) (Nat.le_of_ble_eq_true rfl) (fun p e s m below meth c A C h ls hl => wX10_onward_0 C h hl hf)
theorem hdX10_merge : yX10_merge.cls = RX10 ∧ yX10_merge.cls ≠ "java/lang/invoke/MethodHandle" ∧ yX10_merge.cls ≠ "java/lang/invoke/VarHandle" ∧ (parseMethodDescriptor yX10_merge.desc).map (fun d => d.parameters.length) = some 1 := by decide +kernel
abbrev rmX10_merge : Room := { frames := 5, cells := 0, slots := 0, locals := 112 }
set_option maxRecDepth 20000 in
set_option maxHeartbeats 4000000 in
theorem wX10_merge_L10_10 {p : Program} {l : Launch} {e : Env} {s : State} {m : MethodId} {args : Array Value} {below : List Frame} {meth : Method} {c : Code} {A : Nat → Prop} {κ : zG} {H : Heap} {locs : List Loc} {ls : Array Slot} {Q : State → Prop} {n : Nat} {k1 : Int32} {a : Int32 × zS} {r : (Int32 × zS) ⊕ (zS)} (C : zC cX10_merge 4 (some .int) RX10 κ A p s m args meth c) (h : zH wM κ A s a.2 H locs) (hl : lv_has ls 4 [(0, .ref (κ.2.1 0)), (1, .int k1), (2, .int a.1)]) (hf : fX10_merge_L10_10 n k1 a = some r) (Kc : ∀ (v2 : Int32) (σ1 : zS), r = .inl (v2, σ1) → ∀ (H : Heap) (locs : List Loc) (ls : Array Slot), zH wM κ A s σ1 H locs → lv_has ls 4 [(0, .ref (κ.2.1 0)), (1, .int k1), (2, .int v2)] → W p l e rmX10_merge s m args below meth c H locs 0 0 Q (F0 m 10 ls [])) (Ke0 : ∀ (σ1 : zS), r = .inr σ1 → ∀ (H : Heap) (locs : List Loc) (ls : Array Slot), zH wM κ A s σ1 H locs → lv_has ls 4 [(0, .ref (κ.2.1 0)), (1, .int k1)] → W p l e rmX10_merge s m args below meth c H locs 0 0 Q (F0 m 72 ls [])) : W p l e rmX10_merge s m args below meth c H locs 0 0 Q (F0 m 10 ls []) := by
  unfold fX10_merge_L10_10 at hf
  refine lv_iload_n C.ex C.by dX10_merge_10 rfl (lv_at hl 2 rfl) ?_
  refine lv_iload_n C.ex C.by dX10_merge_11 rfl (lv_at hl 1 rfl) ?_
  refine lv_icmp_ge (tgt := 72) C.ex C.by dX10_merge_12 (by decide) (fun c5 => ?_) (fun c5 => ?_)
  · have hf := zif_t c5 hf
    exact Ke0 _ (Option.some.inj hf).symm _ _ _ h (lv_sub hl [0, 1] rfl)
  · have hf := zif_f c5 hf
    refine lv_aload_n C.ex C.by dX10_merge_15 rfl (lv_at hl 0 rfl) ?_
    refine z_get (v := .ref (κ.2.1 20)) C h iwX10 0 (wM_at0 κ _) rfl 45 (by decide) lkM156 rfl dX10_merge_16 ?_
    refine lv_iload_n C.ex C.by dX10_merge_19 rfl (lv_at hl 2 rfl) ?_
    refine lv_aload_n C.ex C.by dX10_merge_20 rfl (lv_at hl 0 rfl) ?_
    refine z_get (v := .ref (κ.2.1 5)) C h iwX10 0 (wM_at0 κ _) rfl 8 (by decide) lkM45 rfl dX10_merge_21 ?_
    refine lv_aload_n C.ex C.by dX10_merge_24 rfl (lv_at hl 0 rfl) ?_
    refine z_get (v := .ref (κ.2.1 19)) C h iwX10 0 (wM_at0 κ _) rfl 44 (by decide) lkM155 rfl dX10_merge_25 ?_
    refine lv_iload_n C.ex C.by dX10_merge_28 rfl (lv_at hl 2 rfl) ?_
    obtain ⟨h6, hf⟩ := zg_some hf
    refine z_iald (f := (zA a.2 13)) C h 19 (wM_at19 κ _) h6 dX10_merge_29 ?_
    obtain ⟨h7, hf⟩ := zg_some hf
    refine z_iald (f := (zA a.2 3)) C h 5 (wM_at5 κ _) h7 dX10_merge_30 ?_
    obtain ⟨h8, hf⟩ := zg_some hf
    refine z_iast (f := (zA a.2 14)) C h 20 (wM_at20 κ _) h8 (sA a.2 14 (upd (zA a.2 14) (Int32.toNatClampNeg a.1) ((zA a.2 3) (Int32.toNatClampNeg ((zA a.2 13) (Int32.toNatClampNeg a.1)))))) (wM_s20 κ _ _) dX10_merge_31 (fun H locs h => ?_)
    refine lv_aload_n C.ex C.by dX10_merge_32 rfl (lv_at hl 0 rfl) ?_
    refine z_get (v := .ref (κ.2.1 21)) C h iwX10 0 (wM_at0 κ _) rfl 46 (by decide) lkM157 rfl dX10_merge_33 ?_
    refine lv_iload_n C.ex C.by dX10_merge_36 rfl (lv_at hl 2 rfl) ?_
    refine lv_iconst (v := 0) C.ex C.by dX10_merge_37 (by decide) ?_
    obtain ⟨h9, hf⟩ := zg_some hf
    refine z_iast (f := (zA a.2 15)) C h 21 (wM_at21 κ _) h9 (sA (sA a.2 14 (upd (zA a.2 14) (Int32.toNatClampNeg a.1) ((zA a.2 3) (Int32.toNatClampNeg ((zA a.2 13) (Int32.toNatClampNeg a.1)))))) 15 (upd (zA a.2 15) (Int32.toNatClampNeg a.1) 0)) (wM_s21 κ _ _) dX10_merge_38 (fun H locs h => ?_)
    refine lv_aload_n C.ex C.by dX10_merge_39 rfl (lv_at hl 0 rfl) ?_
    refine z_get (v := .ref (κ.2.1 22)) C h iwX10 0 (wM_at0 κ _) rfl 47 (by decide) lkM158 rfl dX10_merge_40 ?_
    refine lv_iload_n C.ex C.by dX10_merge_43 rfl (lv_at hl 2 rfl) ?_
    refine lv_aload_n C.ex C.by dX10_merge_44 rfl (lv_at hl 0 rfl) ?_
    refine z_get (v := .ref (κ.2.1 7)) C h iwX10 0 (wM_at0 κ _) rfl 10 (by decide) lkM6 rfl dX10_merge_45 ?_
    refine lv_aload_n C.ex C.by dX10_merge_48 rfl (lv_at hl 0 rfl) ?_
    refine z_get (v := .ref (κ.2.1 19)) C h iwX10 0 (wM_at0 κ _) rfl 44 (by decide) lkM155 rfl dX10_merge_49 ?_
    refine lv_iload_n C.ex C.by dX10_merge_52 rfl (lv_at hl 2 rfl) ?_
    obtain ⟨h10, hf⟩ := zg_some hf
    refine z_iald (f := (zA a.2 13)) C h 19 (wM_at19 κ _) h10 dX10_merge_53 ?_
    obtain ⟨h11, hf⟩ := zg_some hf
    refine z_iald (f := (zA a.2 5)) C h 7 (wM_at7 κ _) h11 dX10_merge_54 ?_
    obtain ⟨h12, hf⟩ := zg_some hf
    refine z_iast (f := (zA a.2 16)) C h 22 (wM_at22 κ _) h12 (sA (sA (sA a.2 14 (upd (zA a.2 14) (Int32.toNatClampNeg a.1) ((zA a.2 3) (Int32.toNatClampNeg ((zA a.2 13) (Int32.toNatClampNeg a.1)))))) 15 (upd (zA a.2 15) (Int32.toNatClampNeg a.1) 0)) 16 (upd (zA a.2 16) (Int32.toNatClampNeg a.1) ((zA a.2 5) (Int32.toNatClampNeg ((zA a.2 13) (Int32.toNatClampNeg a.1)))))) (wM_s22 κ _ _) dX10_merge_55 (fun H locs h => ?_)
    refine lv_aload_n C.ex C.by dX10_merge_56 rfl (lv_at hl 0 rfl) ?_
    refine lv_aload_n C.ex C.by dX10_merge_57 rfl (lv_at hl 0 rfl) ?_
    refine z_get (v := .ref (κ.2.1 20)) C h iwX10 0 (wM_at0 κ _) rfl 45 (by decide) lkM156 rfl dX10_merge_58 ?_
    refine lv_iload_n C.ex C.by dX10_merge_61 rfl (lv_at hl 2 rfl) ?_
    obtain ⟨h13, hf⟩ := zg_some hf
    refine z_iald (f := (upd (zA a.2 14) (Int32.toNatClampNeg a.1) ((zA a.2 3) (Int32.toNatClampNeg ((zA a.2 13) (Int32.toNatClampNeg a.1)))))) C h 20 (wM_at20 κ _) h13 dX10_merge_62 ?_
    obtain ⟨q14, e15, hf⟩ := zb_some hf
    refine z_callVv (As := [.int ((upd (zA a.2 14) (Int32.toNatClampNeg a.1) ((zA a.2 3) (Int32.toNatClampNeg ((zA a.2 13) (Int32.toNatClampNeg a.1))))) (Int32.toNatClampNeg a.1))]) C h (ctX10_read e15) (zgV lkM64 lkM65 lkM66 lkM2 lkM67) ⟨rfl, rfl⟩ hdX10_read ⟨Nat.le_of_ble_eq_true rfl, Nat.le_of_ble_eq_true rfl⟩ 0 (wM_at0 κ _) rfl hl rfl rfl (Nat.le_of_ble_eq_true rfl) dX10_merge_63 ⟨Nat.zero_le _, Nat.zero_le _⟩ (fun H locs h => ?_)
    refine lv_iinc (v := (a.1 + 1)) (lv' := [(2, .int (a.1 + 1)), (0, .ref (κ.2.1 0)), (1, .int k1)]) C.ex C.by dX10_merge_66 hl (k := 2) rfl rfl (by decide) rfl (fun ls hl => ?_)
    refine lv_goto (tgt := 10) C.ex C.by dX10_merge_69 (by decide) ?_
    exact Kc _ _ (Option.some.inj hf).symm _ _ _ h (lv_sub hl [1, 2, 0] rfl)
theorem wlX10_merge_10 {p : Program} {l : Launch} {e : Env} {s : State} {m : MethodId} {args : Array Value} {below : List Frame} {meth : Method} {c : Code} {A : Nat → Prop} {κ : zG} {H : Heap} {locs : List Loc} {ls : Array Slot} {Q : State → Prop} {n : Nat} {k1 : Int32} {k0 : Nat} {u2 : Int32} {σ1 : zS} (C : zC cX10_merge 4 (some .int) RX10 κ A p s m args meth c) (h : zH wM κ A s σ1 H locs) (hl : lv_has ls 4 [(0, .ref (κ.2.1 0)), (1, .int k1), (2, .int u2)]) (b : zS) (hb : zlp (fX10_merge_L10_10 n k1) k0 (u2, σ1) = some b) (K : (fun b : zS => ∀ (H : Heap) (locs : List Loc) (ls : Array Slot), zH wM κ A s b H locs → lv_has ls 4 [(0, .ref (κ.2.1 0)), (1, .int k1)] → W p l e rmX10_merge s m args below meth c H locs 0 0 Q (F0 m 72 ls [])) b) : W p l e rmX10_merge s m args below meth c H locs 0 0 Q (F0 m 10 ls []) :=
  z_loop (body := fX10_merge_L10_10 n k1) (Wd := (fun a : Int32 × zS => ∀ (H : Heap) (locs : List Loc) (ls : Array Slot), zH wM κ A s a.2 H locs → lv_has ls 4 [(0, .ref (κ.2.1 0)), (1, .int k1), (2, .int a.1)] → W p l e rmX10_merge s m args below meth c H locs 0 0 Q (F0 m 10 ls []))) (Ex := (fun b : zS => (fun b : zS => ∀ (H : Heap) (locs : List Loc) (ls : Array Slot), zH wM κ A s b H locs → lv_has ls 4 [(0, .ref (κ.2.1 0)), (1, .int k1)] → W p l e rmX10_merge s m args below meth c H locs 0 0 Q (F0 m 72 ls [])) b)) (fun a r hr Kc Ke H locs ls h hl => wX10_merge_L10_10 C h hl hr (fun v2 σ1 e => Kc (v2, σ1) e) (fun σ1 e => Ke σ1 e)) k0 (u2, σ1) b hb K H locs ls h hl
set_option maxRecDepth 20000 in
set_option maxHeartbeats 4000000 in
theorem wX10_merge_L78_78 {p : Program} {l : Launch} {e : Env} {s : State} {m : MethodId} {args : Array Value} {below : List Frame} {meth : Method} {c : Code} {A : Nat → Prop} {κ : zG} {H : Heap} {locs : List Loc} {ls : Array Slot} {Q : State → Prop} {n : Nat} {k1 : Int32} {a : Int32 × zS} {r : (Int32 × zS) ⊕ (zS)} (C : zC cX10_merge 4 (some .int) RX10 κ A p s m args meth c) (h : zH wM κ A s a.2 H locs) (hl : lv_has ls 4 [(0, .ref (κ.2.1 0)), (1, .int k1), (2, .int a.1)]) (hf : fX10_merge_L78_78 n k1 a = some r) (Kc : ∀ (v2 : Int32) (σ1 : zS), r = .inl (v2, σ1) → ∀ (H : Heap) (locs : List Loc) (ls : Array Slot), zH wM κ A s σ1 H locs → lv_has ls 4 [(0, .ref (κ.2.1 0)), (1, .int k1), (2, .int v2)] → W p l e rmX10_merge s m args below meth c H locs 0 0 Q (F0 m 78 ls [])) (Ke0 : ∀ (σ1 : zS), r = .inr σ1 → ∀ (H : Heap) (locs : List Loc) (ls : Array Slot), zH wM κ A s σ1 H locs → lv_has ls 4 [(0, .ref (κ.2.1 0)), (1, .int k1)] → W p l e rmX10_merge s m args below meth c H locs 0 0 Q (F0 m 105 ls [])) : W p l e rmX10_merge s m args below meth c H locs 0 0 Q (F0 m 78 ls []) := by
  unfold fX10_merge_L78_78 at hf
  refine lv_iload_n C.ex C.by dX10_merge_78 rfl (lv_at hl 2 rfl) ?_
  refine lv_if_lt (tgt := 105) C.ex C.by dX10_merge_79 (by decide) (fun c20 => ?_) (fun c20 => ?_)
  · have hf := zif_t c20 hf
    exact Ke0 _ (Option.some.inj hf).symm _ _ _ h (lv_sub hl [0, 1] rfl)
  · have hf := zif_f c20 hf
    refine lv_aload_n C.ex C.by dX10_merge_82 rfl (lv_at hl 0 rfl) ?_
    refine lv_aload_n C.ex C.by dX10_merge_83 rfl (lv_at hl 0 rfl) ?_
    refine lv_iload_n C.ex C.by dX10_merge_84 rfl (lv_at hl 2 rfl) ?_
    obtain ⟨q21, e22, hf⟩ := zb_some hf
    refine z_callVi (As := [.int a.1]) C h (ctX10_cellOf e22) (zgV lkM159 lkM160 lkM161 lkM2 lkM162) ⟨rfl, rfl⟩ hdX10_cellOf ⟨Nat.le_of_ble_eq_true rfl, Nat.le_of_ble_eq_true rfl⟩ 0 (wM_at0 κ _) rfl hl rfl rfl (Nat.le_of_ble_eq_true rfl) dX10_merge_85 ⟨Nat.zero_le _, Nat.zero_le _⟩ (fun H locs h => ?_)
    obtain ⟨q23, e24, hf⟩ := zb_some hf
    refine z_callVv (As := [.int q21]) C h (ctX10_out e24) (zgV lkM115 lkM116 lkM117 lkM2 lkM118) ⟨rfl, rfl⟩ hdX10_out ⟨Nat.le_of_ble_eq_true rfl, Nat.le_of_ble_eq_true rfl⟩ 0 (wM_at0 κ _) rfl hl rfl rfl (Nat.le_of_ble_eq_true rfl) dX10_merge_88 ⟨Nat.zero_le _, Nat.zero_le _⟩ (fun H locs h => ?_)
    refine lv_aload_n C.ex C.by dX10_merge_91 rfl (lv_at hl 0 rfl) ?_
    refine lv_iload_n C.ex C.by dX10_merge_92 rfl (lv_at hl 2 rfl) ?_
    obtain ⟨q25, e26, hf⟩ := zb_some hf
    refine z_callVv (As := [.int a.1]) C h (ctX10_onward e26) (zgV lkM167 lkM168 lkM169 lkM2 lkM170) ⟨rfl, rfl⟩ hdX10_onward ⟨Nat.le_of_ble_eq_true rfl, Nat.le_of_ble_eq_true rfl⟩ 0 (wM_at0 κ _) rfl hl rfl rfl (Nat.le_of_ble_eq_true rfl) dX10_merge_93 ⟨Nat.zero_le _, Nat.zero_le _⟩ (fun H locs h => ?_)
    refine lv_aload_n C.ex C.by dX10_merge_96 rfl (lv_at hl 0 rfl) ?_
    refine lv_iload_n C.ex C.by dX10_merge_97 rfl (lv_at hl 1 rfl) ?_
    obtain ⟨q27, e28, hf⟩ := zb_some hf
    refine z_callVi (As := [.int k1]) C h (ctX10_firstOf e28) (zgV lkM163 lkM164 lkM165 lkM2 lkM166) ⟨rfl, rfl⟩ hdX10_firstOf ⟨Nat.le_of_ble_eq_true rfl, Nat.le_of_ble_eq_true rfl⟩ 0 (wM_at0 κ _) rfl hl rfl rfl (Nat.le_of_ble_eq_true rfl) dX10_merge_98 ⟨Nat.zero_le _, Nat.zero_le _⟩ (fun H locs h => ?_)
    refine lv_istore_n (lv' := [(2, .int q27), (0, .ref (κ.2.1 0)), (1, .int k1)]) C.ex C.by dX10_merge_101 rfl hl (by decide) rfl (fun ls hl => ?_)
    refine lv_goto (tgt := 78) C.ex C.by dX10_merge_102 (by decide) ?_
    exact Kc _ _ (Option.some.inj hf).symm _ _ _ h (lv_sub hl [1, 2, 0] rfl)
theorem wlX10_merge_78 {p : Program} {l : Launch} {e : Env} {s : State} {m : MethodId} {args : Array Value} {below : List Frame} {meth : Method} {c : Code} {A : Nat → Prop} {κ : zG} {H : Heap} {locs : List Loc} {ls : Array Slot} {Q : State → Prop} {n : Nat} {k1 : Int32} {k0 : Nat} {u2 : Int32} {σ1 : zS} (C : zC cX10_merge 4 (some .int) RX10 κ A p s m args meth c) (h : zH wM κ A s σ1 H locs) (hl : lv_has ls 4 [(0, .ref (κ.2.1 0)), (1, .int k1), (2, .int u2)]) (b : zS) (hb : zlp (fX10_merge_L78_78 n k1) k0 (u2, σ1) = some b) (K : (fun b : zS => ∀ (H : Heap) (locs : List Loc) (ls : Array Slot), zH wM κ A s b H locs → lv_has ls 4 [(0, .ref (κ.2.1 0)), (1, .int k1)] → W p l e rmX10_merge s m args below meth c H locs 0 0 Q (F0 m 105 ls [])) b) : W p l e rmX10_merge s m args below meth c H locs 0 0 Q (F0 m 78 ls []) :=
  z_loop (body := fX10_merge_L78_78 n k1) (Wd := (fun a : Int32 × zS => ∀ (H : Heap) (locs : List Loc) (ls : Array Slot), zH wM κ A s a.2 H locs → lv_has ls 4 [(0, .ref (κ.2.1 0)), (1, .int k1), (2, .int a.1)] → W p l e rmX10_merge s m args below meth c H locs 0 0 Q (F0 m 78 ls []))) (Ex := (fun b : zS => (fun b : zS => ∀ (H : Heap) (locs : List Loc) (ls : Array Slot), zH wM κ A s b H locs → lv_has ls 4 [(0, .ref (κ.2.1 0)), (1, .int k1)] → W p l e rmX10_merge s m args below meth c H locs 0 0 Q (F0 m 105 ls [])) b)) (fun a r hr Kc Ke H locs ls h hl => wX10_merge_L78_78 C h hl hr (fun v2 σ1 e => Kc (v2, σ1) e) (fun σ1 e => Ke σ1 e)) k0 (u2, σ1) b hb K H locs ls h hl
set_option maxRecDepth 20000 in
set_option maxHeartbeats 4000000 in
theorem wX10_merge_L141_141 {p : Program} {l : Launch} {e : Env} {s : State} {m : MethodId} {args : Array Value} {below : List Frame} {meth : Method} {c : Code} {A : Nat → Prop} {κ : zG} {H : Heap} {locs : List Loc} {ls : Array Slot} {Q : State → Prop} {n : Nat} {k1 : Int32} {a : Int32 × zS} {r : (Int32 × zS) ⊕ (zS)} (C : zC cX10_merge 4 (some .int) RX10 κ A p s m args meth c) (h : zH wM κ A s a.2 H locs) (hl : lv_has ls 4 [(0, .ref (κ.2.1 0)), (1, .int k1), (3, .int a.1)]) (hf : fX10_merge_L141_141 n k1 a = some r) (Kc : ∀ (v3 : Int32) (σ1 : zS), r = .inl (v3, σ1) → ∀ (H : Heap) (locs : List Loc) (ls : Array Slot), zH wM κ A s σ1 H locs → lv_has ls 4 [(0, .ref (κ.2.1 0)), (1, .int k1), (3, .int v3)] → W p l e rmX10_merge s m args below meth c H locs 0 0 Q (F0 m 141 ls [])) (Ke0 : ∀ (σ1 : zS), r = .inr σ1 → ∀ (H : Heap) (locs : List Loc) (ls : Array Slot), zH wM κ A s σ1 H locs → lv_has ls 4 [(0, .ref (κ.2.1 0))] → W p l e rmX10_merge s m args below meth c H locs 0 0 Q (F0 m 162 ls [])) : W p l e rmX10_merge s m args below meth c H locs 0 0 Q (F0 m 141 ls []) := by
  unfold fX10_merge_L141_141 at hf
  refine lv_iload_n C.ex C.by dX10_merge_141 rfl (lv_at hl 2 rfl) ?_
  refine lv_iload_n C.ex C.by dX10_merge_142 rfl (lv_at hl 1 rfl) ?_
  refine lv_icmp_ge (tgt := 162) C.ex C.by dX10_merge_143 (by decide) (fun c35 => ?_) (fun c35 => ?_)
  · have hf := zif_t c35 hf
    exact Ke0 _ (Option.some.inj hf).symm _ _ _ h (lv_sub hl [0] rfl)
  · have hf := zif_f c35 hf
    refine lv_aload_n C.ex C.by dX10_merge_146 rfl (lv_at hl 0 rfl) ?_
    refine lv_aload_n C.ex C.by dX10_merge_147 rfl (lv_at hl 0 rfl) ?_
    refine z_get (v := .ref (κ.2.1 19)) C h iwX10 0 (wM_at0 κ _) rfl 44 (by decide) lkM155 rfl dX10_merge_148 ?_
    refine lv_iload_n C.ex C.by dX10_merge_151 rfl (lv_at hl 2 rfl) ?_
    obtain ⟨h36, hf⟩ := zg_some hf
    refine z_iald (f := (zA a.2 13)) C h 19 (wM_at19 κ _) h36 dX10_merge_152 ?_
    obtain ⟨q37, e38, hf⟩ := zb_some hf
    refine z_callVv (As := [.int ((zA a.2 13) (Int32.toNatClampNeg a.1))]) C h (ctX10_free e38) (zgV lkM142 lkM143 lkM144 lkM2 lkM145) ⟨rfl, rfl⟩ hdX10_free ⟨Nat.le_of_ble_eq_true rfl, Nat.le_of_ble_eq_true rfl⟩ 0 (wM_at0 κ _) rfl hl rfl rfl (Nat.le_of_ble_eq_true rfl) dX10_merge_153 ⟨Nat.zero_le _, Nat.zero_le _⟩ (fun H locs h => ?_)
    refine lv_iinc (v := (a.1 + 1)) (lv' := [(3, .int (a.1 + 1)), (0, .ref (κ.2.1 0)), (1, .int k1)]) C.ex C.by dX10_merge_156 hl (k := 2) rfl rfl (by decide) rfl (fun ls hl => ?_)
    refine lv_goto (tgt := 141) C.ex C.by dX10_merge_159 (by decide) ?_
    exact Kc _ _ (Option.some.inj hf).symm _ _ _ h (lv_sub hl [1, 2, 0] rfl)
theorem wlX10_merge_141 {p : Program} {l : Launch} {e : Env} {s : State} {m : MethodId} {args : Array Value} {below : List Frame} {meth : Method} {c : Code} {A : Nat → Prop} {κ : zG} {H : Heap} {locs : List Loc} {ls : Array Slot} {Q : State → Prop} {n : Nat} {k1 : Int32} {k0 : Nat} {u3 : Int32} {σ1 : zS} (C : zC cX10_merge 4 (some .int) RX10 κ A p s m args meth c) (h : zH wM κ A s σ1 H locs) (hl : lv_has ls 4 [(0, .ref (κ.2.1 0)), (1, .int k1), (3, .int u3)]) (b : zS) (hb : zlp (fX10_merge_L141_141 n k1) k0 (u3, σ1) = some b) (K : (fun b : zS => ∀ (H : Heap) (locs : List Loc) (ls : Array Slot), zH wM κ A s b H locs → lv_has ls 4 [(0, .ref (κ.2.1 0))] → W p l e rmX10_merge s m args below meth c H locs 0 0 Q (F0 m 162 ls [])) b) : W p l e rmX10_merge s m args below meth c H locs 0 0 Q (F0 m 141 ls []) :=
  z_loop (body := fX10_merge_L141_141 n k1) (Wd := (fun a : Int32 × zS => ∀ (H : Heap) (locs : List Loc) (ls : Array Slot), zH wM κ A s a.2 H locs → lv_has ls 4 [(0, .ref (κ.2.1 0)), (1, .int k1), (3, .int a.1)] → W p l e rmX10_merge s m args below meth c H locs 0 0 Q (F0 m 141 ls []))) (Ex := (fun b : zS => (fun b : zS => ∀ (H : Heap) (locs : List Loc) (ls : Array Slot), zH wM κ A s b H locs → lv_has ls 4 [(0, .ref (κ.2.1 0))] → W p l e rmX10_merge s m args below meth c H locs 0 0 Q (F0 m 162 ls [])) b)) (fun a r hr Kc Ke H locs ls h hl => wX10_merge_L141_141 C h hl hr (fun v3 σ1 e => Kc (v3, σ1) e) (fun σ1 e => Ke σ1 e)) k0 (u3, σ1) b hb K H locs ls h hl
set_option maxRecDepth 20000 in
set_option maxHeartbeats 4000000 in
theorem wX10_merge_116 {p : Program} {l : Launch} {e : Env} {s : State} {m : MethodId} {args : Array Value} {below : List Frame} {meth : Method} {c : Code} {A : Nat → Prop} {κ : zG} {H : Heap} {locs : List Loc} {ls : Array Slot} {n : Nat} {σ : zS} {x1 : Int32} {r1 : Int32} {r2 : zS} (C : zC cX10_merge 4 (some .int) RX10 κ A p s m args meth c) (h : zH wM κ A s σ H locs) (hl : lv_has ls 4 [(0, .ref (κ.2.1 0)), (1, .int x1)]) (hf : fX10_merge_116 n σ x1 = some (r1, r2)) : W p l e rmX10_merge s m args below meth c H locs 0 0 (MQ below (zQi wM κ A r1 r2) args s 0 0 A) (F0 m 116 ls []) := by
  unfold fX10_merge_116 at hf
  refine lv_aload_n C.ex C.by dX10_merge_116 rfl (lv_at hl 0 rfl) ?_
  refine z_get (v := .int (zI σ 17)) C h iwX10 0 (wM_at0 κ _) rfl 29 (by decide) lkM17 rfl dX10_merge_117 ?_
  refine lv_if_le (tgt := 139) C.ex C.by dX10_merge_120 (by decide) (fun c34 => ?_) (fun c34 => ?_)
  · have hf := zif_t c34 hf
    refine lv_iconst (v := 0) C.ex C.by dX10_merge_139 (by decide) ?_
    refine lv_istore_n (lv' := [(3, .int 0), (0, .ref (κ.2.1 0)), (1, .int x1)]) C.ex C.by dX10_merge_140 rfl hl (by decide) rfl (fun ls hl => ?_)
    obtain ⟨b39, e40, hf⟩ := zb_some hf
    refine wlX10_merge_141 C h (lv_sub hl [1, 2, 0] rfl) b39 e40 ?_
    intro H locs ls h hl
    refine lv_aload_n C.ex C.by dX10_merge_162 rfl (lv_at hl 0 rfl) ?_
    refine z_get (v := .int (zI b39 18)) C h iwX10 0 (wM_at0 κ _) rfl 30 (by decide) lkM84 rfl dX10_merge_163 ?_
    cases hf
    exact z_iret C h dX10_merge_166
  · have hf := zif_f c34 hf
    refine lv_aload_n C.ex C.by dX10_merge_123 rfl (lv_at hl 0 rfl) ?_
    obtain ⟨q41, e42, hf⟩ := zb_some hf
    refine z_callVv (As := []) C h (ctX10_giveBack e42) (zgV lkM151 lkM152 lkM153 lkM2 lkM154) ⟨rfl, rfl⟩ hdX10_giveBack ⟨Nat.le_of_ble_eq_true rfl, Nat.le_of_ble_eq_true rfl⟩ 0 (wM_at0 κ _) rfl hl rfl rfl (Nat.le_of_ble_eq_true rfl) dX10_merge_124 ⟨Nat.zero_le _, Nat.zero_le _⟩ (fun H locs h => ?_)
    refine lv_aload_n C.ex C.by dX10_merge_127 rfl (lv_at hl 0 rfl) ?_
    refine z_get (v := .ref (κ.2.1 8)) C h iwX10 0 (wM_at0 κ _) rfl 11 (by decide) lkM97 rfl dX10_merge_128 ?_
    refine lv_aload_n C.ex C.by dX10_merge_131 rfl (lv_at hl 0 rfl) ?_
    refine z_get (v := .int (zI q41 18)) C h iwX10 0 (wM_at0 κ _) rfl 30 (by decide) lkM84 rfl dX10_merge_132 ?_
    refine lv_iconst (v := 0) C.ex C.by dX10_merge_135 (by decide) ?_
    obtain ⟨h43, hf⟩ := zg_some hf
    refine z_zast (f := (zA q41 6)) C h 8 (wM_at8 κ _) h43 (sA q41 6 (upd (zA q41 6) (Int32.toNatClampNeg (zI q41 18)) (vp_nar .boolean 0))) (wM_s8 κ _ _) dX10_merge_136 (fun H locs h => ?_)
    refine lv_iconst (v := (-1)) C.ex C.by dX10_merge_137 (by decide) ?_
    cases hf
    exact z_iret C h dX10_merge_138
set_option maxRecDepth 20000 in
set_option maxHeartbeats 4000000 in
theorem wX10_merge_0 {p : Program} {l : Launch} {e : Env} {s : State} {m : MethodId} {args : Array Value} {below : List Frame} {meth : Method} {c : Code} {A : Nat → Prop} {κ : zG} {H : Heap} {locs : List Loc} {ls : Array Slot} {n : Nat} {σ : zS} {x1 : Int32} {r1 : Int32} {r2 : zS} (C : zC cX10_merge 4 (some .int) RX10 κ A p s m args meth c) (h : zH wM κ A s σ H locs) (hl : lv_has ls 4 [(0, .ref (κ.2.1 0)), (1, .int x1)]) (hf : fX10_merge_0 n σ x1 = some (r1, r2)) : W p l e rmX10_merge s m args below meth c H locs 0 0 (MQ below (zQi wM κ A r1 r2) args s 0 0 A) (F0 m 0 ls []) := by
  unfold fX10_merge_0 at hf
  refine lv_aload_n C.ex C.by dX10_merge_0 rfl (lv_at hl 0 rfl) ?_
  obtain ⟨q1, e2, hf⟩ := zb_some hf
  refine z_callVv (As := []) C h (ctX10_begin e2) (zgV lkM20 lkM21 lkM22 lkM2 lkM23) ⟨rfl, rfl⟩ hdX10_begin ⟨Nat.le_of_ble_eq_true rfl, Nat.le_of_ble_eq_true rfl⟩ 0 (wM_at0 κ _) rfl hl rfl rfl (Nat.le_of_ble_eq_true rfl) dX10_merge_1 ⟨Nat.zero_le _, Nat.zero_le _⟩ (fun H locs h => ?_)
  refine lv_aload_n C.ex C.by dX10_merge_4 rfl (lv_at hl 0 rfl) ?_
  obtain ⟨q3, e4, hf⟩ := zb_some hf
  refine z_callVv (As := []) C h (ctX10_beginRun e4) (zgV lkM102 lkM103 lkM104 lkM2 lkM105) ⟨rfl, rfl⟩ hdX10_beginRun ⟨Nat.le_of_ble_eq_true rfl, Nat.le_of_ble_eq_true rfl⟩ 0 (wM_at0 κ _) rfl hl rfl rfl (Nat.le_of_ble_eq_true rfl) dX10_merge_5 ⟨Nat.zero_le _, Nat.zero_le _⟩ (fun H locs h => ?_)
  refine lv_iconst (v := 0) C.ex C.by dX10_merge_8 (by decide) ?_
  refine lv_istore_n (lv' := [(2, .int 0), (0, .ref (κ.2.1 0)), (1, .int x1)]) C.ex C.by dX10_merge_9 rfl hl (by decide) rfl (fun ls hl => ?_)
  obtain ⟨b16, e17, hf⟩ := zb_some hf
  refine wlX10_merge_10 C h (lv_sub hl [1, 2, 0] rfl) b16 e17 ?_
  intro H locs ls h hl
  refine lv_aload_n C.ex C.by dX10_merge_72 rfl (lv_at hl 0 rfl) ?_
  refine lv_iload_n C.ex C.by dX10_merge_73 rfl (lv_at hl 1 rfl) ?_
  obtain ⟨q18, e19, hf⟩ := zb_some hf
  refine z_callVi (As := [.int x1]) C h (ctX10_firstOf e19) (zgV lkM163 lkM164 lkM165 lkM2 lkM166) ⟨rfl, rfl⟩ hdX10_firstOf ⟨Nat.le_of_ble_eq_true rfl, Nat.le_of_ble_eq_true rfl⟩ 0 (wM_at0 κ _) rfl hl rfl rfl (Nat.le_of_ble_eq_true rfl) dX10_merge_74 ⟨Nat.zero_le _, Nat.zero_le _⟩ (fun H locs h => ?_)
  refine lv_istore_n (lv' := [(2, .int q18), (0, .ref (κ.2.1 0)), (1, .int x1)]) C.ex C.by dX10_merge_77 rfl hl (by decide) rfl (fun ls hl => ?_)
  obtain ⟨b29, e30, hf⟩ := zb_some hf
  refine wlX10_merge_78 C h (lv_sub hl [1, 2, 0] rfl) b29 e30 ?_
  intro H locs ls h hl
  refine lv_aload_n C.ex C.by dX10_merge_105 rfl (lv_at hl 0 rfl) ?_
  refine z_get (v := .int (zI b29 17)) C h iwX10 0 (wM_at0 κ _) rfl 29 (by decide) lkM17 rfl dX10_merge_106 ?_
  refine lv_if_ne (tgt := 116) C.ex C.by dX10_merge_109 (by decide) (fun c31 => ?_) (fun c31 => ?_)
  · have hf := zif_f c31 hf
    exact wX10_merge_116 C h hl hf
  · have hf := zif_t c31 hf
    refine lv_aload_n C.ex C.by dX10_merge_112 rfl (lv_at hl 0 rfl) ?_
    obtain ⟨q32, e33, hf⟩ := zb_some hf
    refine z_callVv (As := []) C h (ctX10_endRun e33) (zgV lkM93 lkM94 lkM95 lkM2 lkM96) ⟨rfl, rfl⟩ hdX10_endRun ⟨Nat.le_of_ble_eq_true rfl, Nat.le_of_ble_eq_true rfl⟩ 0 (wM_at0 κ _) rfl hl rfl rfl (Nat.le_of_ble_eq_true rfl) dX10_merge_113 ⟨Nat.zero_le _, Nat.zero_le _⟩ (fun H locs h => ?_)
    exact wX10_merge_116 C h hl hf
theorem ctX10_merge {l : Launch} {κ : zG} {n : Nat} {σ : zS} {x1 : Int32} {r1 : Int32} {r2 : zS} (hf : fX10_merge_0 n σ x1 = some (r1, r2)) : zMi l yX10_merge (Cond.code yX10_merge cX10_merge 4 (some .int)) rmX10_merge wM κ [.ref (κ.2.1 0), .int x1] σ r1 r2 :=
  zMi_of (by decide) (Nat.le_of_ble_eq_true rfl) (fun p e s m below meth c A C h ls hl => wX10_merge_0 C h hl hf)
