theorem hdX10_nextRun : yX10_nextRun.cls = RX10 ∧ yX10_nextRun.cls ≠ "java/lang/invoke/MethodHandle" ∧ yX10_nextRun.cls ≠ "java/lang/invoke/VarHandle" ∧ (parseMethodDescriptor yX10_nextRun.desc).map (fun d => d.parameters.length) = some 0 := by decide +kernel
abbrev rmX10_nextRun : Room := { frames := 2, cells := 0, slots := 0, locals := 41 }
set_option maxRecDepth 20000 in
set_option maxHeartbeats 4000000 in
theorem wX10_nextRun_0 {p : Program} {l : Launch} {e : Env} {s : State} {m : MethodId} {args : Array Value} {below : List Frame} {meth : Method} {c : Code} {A : Nat → Prop} {κ : zG} {H : Heap} {locs : List Loc} {ls : Array Slot} {n : Nat} {σ : zS} {r : zS} (C : zC cX10_nextRun 1 none RX10 κ A p s m args meth c) (h : zH wM κ A s σ H locs) (hl : lv_has ls 1 [(0, .ref (κ.2.1 0))]) (hf : fX10_nextRun_0 n σ = some r) : W p l e rmX10_nextRun s m args below meth c H locs 0 0 (MQ below (zQv wM κ A r) args s 0 0 A) (F0 m 0 ls []) := by
  unfold fX10_nextRun_0 at hf
  refine lv_aload_n C.ex C.by dX10_nextRun_0 rfl (lv_at hl 0 rfl) ?_
  obtain ⟨q1, e2, hf⟩ := zb_some hf
  refine z_callVv (As := []) C h (ctX10_beginRun e2) (zgV lkM102 lkM103 lkM104 lkM2 lkM105) ⟨rfl, rfl⟩ hdX10_beginRun ⟨Nat.le_of_ble_eq_true rfl, Nat.le_of_ble_eq_true rfl⟩ 0 (wM_at0 κ _) rfl hl rfl rfl (Nat.le_of_ble_eq_true rfl) dX10_nextRun_1 ⟨Nat.zero_le _, Nat.zero_le _⟩ (fun H locs h => ?_)
  refine lv_aload_n C.ex C.by dX10_nextRun_4 rfl (lv_at hl 0 rfl) ?_
  refine z_get (v := .ref (κ.2.1 18)) C h iwX10 0 (wM_at0 κ _) rfl 42 (by decide) lkM106 rfl dX10_nextRun_5 ?_
  refine lv_aload_n C.ex C.by dX10_nextRun_8 rfl (lv_at hl 0 rfl) ?_
  refine z_get (v := .int (zI q1 25)) C h iwX10 0 (wM_at0 κ _) rfl 43 (by decide) lkM58 rfl dX10_nextRun_9 ?_
  refine lv_aload_n C.ex C.by dX10_nextRun_12 rfl (lv_at hl 0 rfl) ?_
  refine z_get (v := .int (zI q1 18)) C h iwX10 0 (wM_at0 κ _) rfl 30 (by decide) lkM84 rfl dX10_nextRun_13 ?_
  obtain ⟨h3, hf⟩ := zg_some hf
  refine z_iast (f := (zA q1 12)) C h 18 (wM_at18 κ _) h3 (sA q1 12 (upd (zA q1 12) (Int32.toNatClampNeg (zI q1 25)) (zI q1 18))) (wM_s18 κ _ _) dX10_nextRun_16 (fun H locs h => ?_)
  refine lv_aload_n C.ex C.by dX10_nextRun_17 rfl (lv_at hl 0 rfl) ?_
  refine lv_dup C.ex C.by dX10_nextRun_18 rfl ?_
  refine z_get (v := .int (zI q1 25)) C h iwX10 0 (wM_at0 κ _) rfl 43 (by decide) lkM58 rfl dX10_nextRun_19 ?_
  refine lv_iconst (v := 1) C.ex C.by dX10_nextRun_22 (by decide) ?_
  refine lv_iadd C.ex C.by dX10_nextRun_23 ?_
  refine z_put C h iwX10 tyX10_ok nmX10 0 (wM_at0 κ _) rfl 43 (by decide) lkM58 rfl rfl rfl (Nat.le_of_ble_eq_true rfl) (sI (sA q1 12 (upd (zA q1 12) (Int32.toNatClampNeg (zI q1 25)) (zI q1 18))) 25 ((zI q1 25) + 1)) (wM_s0_43 κ _ _) dX10_nextRun_24 (fun H locs h => ?_)
  cases hf
  exact z_vret C h dX10_nextRun_27
theorem ctX10_nextRun {l : Launch} {κ : zG} {n : Nat} {σ : zS} {r : zS} (hf : fX10_nextRun_0 n σ = some r) : zMv l yX10_nextRun (Cond.code yX10_nextRun cX10_nextRun 1 none) rmX10_nextRun wM κ [.ref (κ.2.1 0)] σ r :=
  zMv_of (by decide) (Nat.le_of_ble_eq_true rfl) (fun p e s m below meth c A C h ls hl => wX10_nextRun_0 C h hl hf)
abbrev rmX10_byKeys_p14 : Room := { frames := 0, cells := 0, slots := 0, locals := 0 }
set_option maxRecDepth 20000 in
set_option maxHeartbeats 4000000 in
theorem wX10_byKeys_p14_L23_49 {p : Program} {l : Launch} {e : Env} {s : State} {m : MethodId} {args : Array Value} {below : List Frame} {meth : Method} {c : Code} {A : Nat → Prop} {κ : zG} {H : Heap} {locs : List Loc} {ls : Array Slot} {Q : State → Prop} {n : Nat} {σ : zS} {k2 : Int32} {k3 : Int32} {k4 : Int32} {x5 : Int32} {y0 : Int32} {r : (Int32) ⊕ ((Unit) ⊕ (Int32 × Int64 × Int64))} (C : zC cX10_byKeys 11 (some .int) RX10 κ A p s m args meth c) (h : zH wM κ A s σ H locs) (hl : lv_has ls 11 [(0, .ref (κ.2.1 0)), (1, .ref (κ.2.1 14)), (2, .int k2), (3, .int k3), (4, .int k4), (5, .int x5)]) (hf : fX10_byKeys_p14_L23_49 n σ k2 k3 k4 x5 y0 = some r) (Kc : ∀ (v5 : Int32), r = .inl v5 → ∀ (H : Heap) (locs : List Loc) (ls : Array Slot), zH wM κ A s σ H locs → lv_has ls 11 [(0, .ref (κ.2.1 0)), (1, .ref (κ.2.1 14)), (2, .int k2), (3, .int k3), (4, .int k4), (5, .int v5)] → W p l e rmX10_byKeys_p14 s m args below meth c H locs 0 0 Q (F0 m 23 ls [])) (Ke0 : ∀ (_ : Unit), r = .inr (.inl ()) → ∀ (H : Heap) (locs : List Loc) (ls : Array Slot), zH wM κ A s σ H locs → lv_has ls 11 [(0, .ref (κ.2.1 0))] → W p l e rmX10_byKeys_p14 s m args below meth c H locs 0 0 Q (F0 m 128 ls [])) (Ke1 : ∀ (v5 : Int32) (v7 : Int64) (v9 : Int64), r = .inr (.inr (v5, v7, v9)) → ∀ (H : Heap) (locs : List Loc) (ls : Array Slot), zH wM κ A s σ H locs → lv_has ls 11 [(0, .ref (κ.2.1 0)), (5, .int v5), (7, .long v7), (9, .long v9)] → W p l e rmX10_byKeys_p14 s m args below meth c H locs 0 0 Q (F0 m 78 ls [])) : W p l e rmX10_byKeys_p14 s m args below meth c H locs 0 0 Q (F0 m 49 ls [.int y0]) := by
  unfold fX10_byKeys_p14_L23_49 at hf
  refine lv_istore (lv' := [(6, .int y0), (0, .ref (κ.2.1 0)), (1, .ref (κ.2.1 14)), (2, .int k2), (3, .int k3), (4, .int k4), (5, .int x5)]) C.ex C.by dX10_byKeys_49 hl (by decide) rfl (fun ls hl => ?_)
  refine lv_aload_n C.ex C.by dX10_byKeys_51 rfl (lv_at hl 2 rfl) ?_
  refine lv_iload_n C.ex C.by dX10_byKeys_52 rfl (lv_at hl 3 rfl) ?_
  refine lv_iload C.ex C.by dX10_byKeys_53 (lv_at hl 0 rfl) ?_
  refine lv_iadd C.ex C.by dX10_byKeys_55 ?_
  obtain ⟨h5, hf⟩ := zg_some hf
  refine z_lald (f := (zL σ 3)) C h 14 (wM_at14 κ _) h5 dX10_byKeys_56 ?_
  refine lv_lstore (lv' := [(7, .long ((zL σ 3) (Int32.toNatClampNeg (k2 + y0)))), (6, .int y0), (0, .ref (κ.2.1 0)), (1, .ref (κ.2.1 14)), (2, .int k2), (3, .int k3), (4, .int k4), (5, .int x5)]) C.ex C.by dX10_byKeys_57 hl (by decide) rfl (fun ls hl => ?_)
  refine lv_aload_n C.ex C.by dX10_byKeys_59 rfl (lv_at hl 2 rfl) ?_
  refine z_get (v := .ref (κ.2.1 1)) C h iwX10 0 (wM_at0 κ _) rfl 4 (by decide) lkM40 rfl dX10_byKeys_60 ?_
  refine lv_iload_n C.ex C.by dX10_byKeys_63 rfl (lv_at hl 5 rfl) ?_
  refine lv_iload C.ex C.by dX10_byKeys_64 (lv_at hl 1 rfl) ?_
  refine lv_iadd C.ex C.by dX10_byKeys_66 ?_
  obtain ⟨h6, hf⟩ := zg_some hf
  refine z_lald (f := (zL σ 0)) C h 1 (wM_at1 κ _) h6 dX10_byKeys_67 ?_
  refine lv_lstore (lv' := [(9, .long ((zL σ 0) (Int32.toNatClampNeg (k3 + y0)))), (7, .long ((zL σ 3) (Int32.toNatClampNeg (k2 + y0)))), (6, .int y0), (0, .ref (κ.2.1 0)), (1, .ref (κ.2.1 14)), (2, .int k2), (3, .int k3), (4, .int k4), (5, .int x5)]) C.ex C.by dX10_byKeys_68 hl (by decide) rfl (fun ls hl => ?_)
  refine lv_lload C.ex C.by dX10_byKeys_70 (lv_at hl 1 rfl) ?_
  refine lv_lload C.ex C.by dX10_byKeys_72 (lv_at hl 0 rfl) ?_
  refine W.lcmp C.ex C.by dX10_byKeys_74 ?_
  refine lv_if_eq (tgt := 122) C.ex C.by dX10_byKeys_75 (by decide) (fun c7 => ?_) (fun c7 => ?_)
  · have hf := zif_t c7 hf
    refine lv_iinc (v := (x5 + 1)) (lv' := [(5, .int (x5 + 1)), (9, .long ((zL σ 0) (Int32.toNatClampNeg (k3 + y0)))), (7, .long ((zL σ 3) (Int32.toNatClampNeg (k2 + y0)))), (6, .int y0), (0, .ref (κ.2.1 0)), (1, .ref (κ.2.1 14)), (2, .int k2), (3, .int k3), (4, .int k4)]) C.ex C.by dX10_byKeys_122 hl (k := 8) rfl rfl (by decide) rfl (fun ls hl => ?_)
    refine lv_goto (tgt := 23) C.ex C.by dX10_byKeys_125 (by decide) ?_
    exact Kc _ (Option.some.inj hf).symm _ _ _ h (lv_sub hl [4, 5, 6, 7, 8, 0] rfl)
  · have hf := zif_f c7 hf
    exact Ke1 _ _ _ (Option.some.inj hf).symm _ _ _ h (lv_sub hl [3, 8, 1, 0] rfl)
set_option maxRecDepth 20000 in
set_option maxHeartbeats 4000000 in
theorem wX10_byKeys_p14_L23_23 {p : Program} {l : Launch} {e : Env} {s : State} {m : MethodId} {args : Array Value} {below : List Frame} {meth : Method} {c : Code} {A : Nat → Prop} {κ : zG} {H : Heap} {locs : List Loc} {ls : Array Slot} {Q : State → Prop} {n : Nat} {σ : zS} {k2 : Int32} {k3 : Int32} {k4 : Int32} {a : Int32} {r : (Int32) ⊕ ((Unit) ⊕ (Int32 × Int64 × Int64))} (C : zC cX10_byKeys 11 (some .int) RX10 κ A p s m args meth c) (h : zH wM κ A s σ H locs) (hl : lv_has ls 11 [(0, .ref (κ.2.1 0)), (1, .ref (κ.2.1 14)), (2, .int k2), (3, .int k3), (4, .int k4), (5, .int a)]) (hf : fX10_byKeys_p14_L23_23 n σ k2 k3 k4 a = some r) (Kc : ∀ (v5 : Int32), r = .inl v5 → ∀ (H : Heap) (locs : List Loc) (ls : Array Slot), zH wM κ A s σ H locs → lv_has ls 11 [(0, .ref (κ.2.1 0)), (1, .ref (κ.2.1 14)), (2, .int k2), (3, .int k3), (4, .int k4), (5, .int v5)] → W p l e rmX10_byKeys_p14 s m args below meth c H locs 0 0 Q (F0 m 23 ls [])) (Ke0 : ∀ (_ : Unit), r = .inr (.inl ()) → ∀ (H : Heap) (locs : List Loc) (ls : Array Slot), zH wM κ A s σ H locs → lv_has ls 11 [(0, .ref (κ.2.1 0))] → W p l e rmX10_byKeys_p14 s m args below meth c H locs 0 0 Q (F0 m 128 ls [])) (Ke1 : ∀ (v5 : Int32) (v7 : Int64) (v9 : Int64), r = .inr (.inr (v5, v7, v9)) → ∀ (H : Heap) (locs : List Loc) (ls : Array Slot), zH wM κ A s σ H locs → lv_has ls 11 [(0, .ref (κ.2.1 0)), (5, .int v5), (7, .long v7), (9, .long v9)] → W p l e rmX10_byKeys_p14 s m args below meth c H locs 0 0 Q (F0 m 78 ls [])) : W p l e rmX10_byKeys_p14 s m args below meth c H locs 0 0 Q (F0 m 23 ls []) := by
  unfold fX10_byKeys_p14_L23_23 at hf
  refine lv_iload C.ex C.by dX10_byKeys_23 (lv_at hl 5 rfl) ?_
  refine lv_iload C.ex C.by dX10_byKeys_25 (lv_at hl 4 rfl) ?_
  refine lv_icmp_ge (tgt := 128) C.ex C.by dX10_byKeys_27 (by decide) (fun c2 => ?_) (fun c2 => ?_)
  · have hf := zif_t c2 hf
    exact Ke0 () (Option.some.inj hf).symm _ _ _ h (lv_sub hl [0] rfl)
  · have hf := zif_f c2 hf
    refine lv_aload_n C.ex C.by dX10_byKeys_30 rfl (lv_at hl 0 rfl) ?_
    refine z_get (v := .int (zI σ 7)) C h iwX10 0 (wM_at0 κ _) rfl 19 (by decide) lkM10 rfl dX10_byKeys_31 ?_
    refine lv_if_ne (tgt := 42) C.ex C.by dX10_byKeys_34 (by decide) (fun c3 => ?_) (fun c3 => ?_)
    · have hf := zif_f c3 hf
      refine lv_aload_n C.ex C.by dX10_byKeys_42 rfl (lv_at hl 0 rfl) ?_
      refine z_get (v := .ref (κ.2.1 11)) C h iwX10 0 (wM_at0 κ _) rfl 17 (by decide) lkM11 rfl dX10_byKeys_43 ?_
      refine lv_iload C.ex C.by dX10_byKeys_46 (lv_at hl 5 rfl) ?_
      obtain ⟨h4, hf⟩ := zg_some hf
      refine z_iald (f := (zA σ 8)) C h 11 (wM_at11 κ _) h4 dX10_byKeys_48 ?_
      exact wX10_byKeys_p14_L23_49 C h hl hf Kc Ke0 Ke1
    · have hf := zif_t c3 hf
      refine lv_iload C.ex C.by dX10_byKeys_37 (lv_at hl 5 rfl) ?_
      refine lv_goto (tgt := 49) C.ex C.by dX10_byKeys_39 (by decide) ?_
      exact wX10_byKeys_p14_L23_49 C h hl hf Kc Ke0 Ke1
theorem wlX10_byKeys_p14_23 {p : Program} {l : Launch} {e : Env} {s : State} {m : MethodId} {args : Array Value} {below : List Frame} {meth : Method} {c : Code} {A : Nat → Prop} {κ : zG} {H : Heap} {locs : List Loc} {ls : Array Slot} {Q : State → Prop} {n : Nat} {σ : zS} {k2 : Int32} {k3 : Int32} {k4 : Int32} {k0 : Nat} {u5 : Int32} (C : zC cX10_byKeys 11 (some .int) RX10 κ A p s m args meth c) (h : zH wM κ A s σ H locs) (hl : lv_has ls 11 [(0, .ref (κ.2.1 0)), (1, .ref (κ.2.1 14)), (2, .int k2), (3, .int k3), (4, .int k4), (5, .int u5)]) (b : (Unit) ⊕ (Int32 × Int64 × Int64)) (hb : zlp (fX10_byKeys_p14_L23_23 n σ k2 k3 k4) k0 u5 = some b) (K : (fun b => Sum.elim (fun b : Unit => ∀ (H : Heap) (locs : List Loc) (ls : Array Slot), zH wM κ A s σ H locs → lv_has ls 11 [(0, .ref (κ.2.1 0))] → W p l e rmX10_byKeys_p14 s m args below meth c H locs 0 0 Q (F0 m 128 ls [])) (fun b : Int32 × Int64 × Int64 => ∀ (H : Heap) (locs : List Loc) (ls : Array Slot), zH wM κ A s σ H locs → lv_has ls 11 [(0, .ref (κ.2.1 0)), (5, .int b.1), (7, .long b.2.1), (9, .long b.2.2)] → W p l e rmX10_byKeys_p14 s m args below meth c H locs 0 0 Q (F0 m 78 ls [])) b) b) : W p l e rmX10_byKeys_p14 s m args below meth c H locs 0 0 Q (F0 m 23 ls []) :=
  z_loop (body := fX10_byKeys_p14_L23_23 n σ k2 k3 k4) (Wd := (fun a : Int32 => ∀ (H : Heap) (locs : List Loc) (ls : Array Slot), zH wM κ A s σ H locs → lv_has ls 11 [(0, .ref (κ.2.1 0)), (1, .ref (κ.2.1 14)), (2, .int k2), (3, .int k3), (4, .int k4), (5, .int a)] → W p l e rmX10_byKeys_p14 s m args below meth c H locs 0 0 Q (F0 m 23 ls []))) (Ex := (fun b : (Unit) ⊕ (Int32 × Int64 × Int64) => (fun b => Sum.elim (fun b : Unit => ∀ (H : Heap) (locs : List Loc) (ls : Array Slot), zH wM κ A s σ H locs → lv_has ls 11 [(0, .ref (κ.2.1 0))] → W p l e rmX10_byKeys_p14 s m args below meth c H locs 0 0 Q (F0 m 128 ls [])) (fun b : Int32 × Int64 × Int64 => ∀ (H : Heap) (locs : List Loc) (ls : Array Slot), zH wM κ A s σ H locs → lv_has ls 11 [(0, .ref (κ.2.1 0)), (5, .int b.1), (7, .long b.2.1), (9, .long b.2.2)] → W p l e rmX10_byKeys_p14 s m args below meth c H locs 0 0 Q (F0 m 78 ls [])) b) b)) (fun a r hr Kc Ke H locs ls h hl => wX10_byKeys_p14_L23_23 C h hl hr (fun v5 e => Kc v5 e) (fun _ e => Ke (.inl ()) e) (fun v5 v7 v9 e => Ke (.inr (v5, v7, v9)) e)) k0 u5 b hb K H locs ls h hl
set_option maxRecDepth 20000 in
set_option maxHeartbeats 4000000 in
theorem wX10_byKeys_p14_113 {p : Program} {l : Launch} {e : Env} {s : State} {m : MethodId} {args : Array Value} {below : List Frame} {meth : Method} {c : Code} {A : Nat → Prop} {κ : zG} {H : Heap} {locs : List Loc} {ls : Array Slot} {n : Nat} {σ : zS} {y0 : Int32} {y1 : Int32} {r : Int32} (C : zC cX10_byKeys 11 (some .int) RX10 κ A p s m args meth c) (h : zH wM κ A s σ H locs) (hl : lv_has ls 11 [(0, .ref (κ.2.1 0))]) (hf : fX10_byKeys_p14_113 n σ y0 y1 = some r) : W p l e rmX10_byKeys_p14 s m args below meth c H locs 0 0 (MQ below (zQi wM κ A r σ) args s 0 0 A) (F0 m 113 ls [.int y0, .int y1]) := by
  unfold fX10_byKeys_p14_113 at hf
  refine lv_icmp_ne (tgt := 120) C.ex C.by dX10_byKeys_113 (by decide) (fun c14 => ?_) (fun c14 => ?_)
  · have hf := zif_f c14 hf
    refine lv_iconst (v := (-1)) C.ex C.by dX10_byKeys_120 (by decide) ?_
    cases hf
    exact z_iret C h dX10_byKeys_121
  · have hf := zif_t c14 hf
    refine lv_iconst (v := 1) C.ex C.by dX10_byKeys_116 (by decide) ?_
    refine lv_goto (tgt := 121) C.ex C.by dX10_byKeys_117 (by decide) ?_
    cases hf
    exact z_iret C h dX10_byKeys_121
set_option maxRecDepth 20000 in
set_option maxHeartbeats 4000000 in
theorem wX10_byKeys_p14_112 {p : Program} {l : Launch} {e : Env} {s : State} {m : MethodId} {args : Array Value} {below : List Frame} {meth : Method} {c : Code} {A : Nat → Prop} {κ : zG} {H : Heap} {locs : List Loc} {ls : Array Slot} {n : Nat} {σ : zS} {y0 : Int32} {r : Int32} (C : zC cX10_byKeys 11 (some .int) RX10 κ A p s m args meth c) (h : zH wM κ A s σ H locs) (hl : lv_has ls 11 [(0, .ref (κ.2.1 0))]) (hf : fX10_byKeys_p14_112 n σ y0 = some r) : W p l e rmX10_byKeys_p14 s m args below meth c H locs 0 0 (MQ below (zQi wM κ A r σ) args s 0 0 A) (F0 m 112 ls [.int y0]) := by
  unfold fX10_byKeys_p14_112 at hf
  refine lv_iconst (v := 0) C.ex C.by dX10_byKeys_112 (by decide) ?_
  exact wX10_byKeys_p14_113 C h hl hf
set_option maxRecDepth 20000 in
set_option maxHeartbeats 4000000 in
theorem wX10_byKeys_p14_91 {p : Program} {l : Launch} {e : Env} {s : State} {m : MethodId} {args : Array Value} {below : List Frame} {meth : Method} {c : Code} {A : Nat → Prop} {κ : zG} {H : Heap} {locs : List Loc} {ls : Array Slot} {n : Nat} {σ : zS} {x5 : Int32} {y0 : Int32} {r : Int32} (C : zC cX10_byKeys 11 (some .int) RX10 κ A p s m args meth c) (h : zH wM κ A s σ H locs) (hl : lv_has ls 11 [(0, .ref (κ.2.1 0)), (5, .int x5)]) (hf : fX10_byKeys_p14_91 n σ x5 y0 = some r) : W p l e rmX10_byKeys_p14 s m args below meth c H locs 0 0 (MQ below (zQi wM κ A r σ) args s 0 0 A) (F0 m 91 ls [.int y0]) := by
  unfold fX10_byKeys_p14_91 at hf
  refine lv_aload_n C.ex C.by dX10_byKeys_91 rfl (lv_at hl 0 rfl) ?_
  refine z_get (v := .int (zI σ 7)) C h iwX10 0 (wM_at0 κ _) rfl 19 (by decide) lkM10 rfl dX10_byKeys_92 ?_
  refine lv_if_le (tgt := 112) C.ex C.by dX10_byKeys_95 (by decide) (fun c11 => ?_) (fun c11 => ?_)
  · have hf := zif_t c11 hf
    exact wX10_byKeys_p14_112 C h (lv_sub hl [0] rfl) hf
  · have hf := zif_f c11 hf
    refine lv_aload_n C.ex C.by dX10_byKeys_98 rfl (lv_at hl 0 rfl) ?_
    refine z_get (v := .ref (κ.2.1 12)) C h iwX10 0 (wM_at0 κ _) rfl 18 (by decide) lkM12 rfl dX10_byKeys_99 ?_
    refine lv_iload C.ex C.by dX10_byKeys_102 (lv_at hl 1 rfl) ?_
    obtain ⟨h12, hf⟩ := zg_some hf
    refine z_zald (f := (zA σ 9)) C h 12 (wM_at12 κ _) h12 dX10_byKeys_104 ?_
    refine lv_if_eq (tgt := 112) C.ex C.by dX10_byKeys_105 (by decide) (fun c13 => ?_) (fun c13 => ?_)
    · have hf := zif_t c13 hf
      exact wX10_byKeys_p14_112 C h (lv_sub hl [0] rfl) hf
    · have hf := zif_f c13 hf
      refine lv_iconst (v := 1) C.ex C.by dX10_byKeys_108 (by decide) ?_
      refine lv_goto (tgt := 113) C.ex C.by dX10_byKeys_109 (by decide) ?_
      exact wX10_byKeys_p14_113 C h (lv_sub hl [0] rfl) hf
set_option maxRecDepth 20000 in
set_option maxHeartbeats 4000000 in
theorem wX10_byKeys_p14_18 {p : Program} {l : Launch} {e : Env} {s : State} {m : MethodId} {args : Array Value} {below : List Frame} {meth : Method} {c : Code} {A : Nat → Prop} {κ : zG} {H : Heap} {locs : List Loc} {ls : Array Slot} {n : Nat} {σ : zS} {x2 : Int32} {x3 : Int32} {y0 : Int32} {r : Int32} (C : zC cX10_byKeys 11 (some .int) RX10 κ A p s m args meth c) (h : zH wM κ A s σ H locs) (hl : lv_has ls 11 [(0, .ref (κ.2.1 0)), (1, .ref (κ.2.1 14)), (2, .int x2), (3, .int x3)]) (hf : fX10_byKeys_p14_18 n σ x2 x3 y0 = some r) : W p l e rmX10_byKeys_p14 s m args below meth c H locs 0 0 (MQ below (zQi wM κ A r σ) args s 0 0 A) (F0 m 18 ls [.int y0]) := by
  unfold fX10_byKeys_p14_18 at hf
  refine lv_istore (lv' := [(4, .int y0), (0, .ref (κ.2.1 0)), (1, .ref (κ.2.1 14)), (2, .int x2), (3, .int x3)]) C.ex C.by dX10_byKeys_18 hl (by decide) rfl (fun ls hl => ?_)
  refine lv_iconst (v := 0) C.ex C.by dX10_byKeys_20 (by decide) ?_
  refine lv_istore (lv' := [(5, .int 0), (4, .int y0), (0, .ref (κ.2.1 0)), (1, .ref (κ.2.1 14)), (2, .int x2), (3, .int x3)]) C.ex C.by dX10_byKeys_21 hl (by decide) rfl (fun ls hl => ?_)
  obtain ⟨b8, e9, hf⟩ := zb_some hf
  refine wlX10_byKeys_p14_23 C h (lv_sub hl [2, 3, 4, 5, 1, 0] rfl) b8 e9 ?_
  rcases b8 with b8 | b8
  · dsimp only [Sum.elim_inl] at hf
    intro H locs ls h hl
    refine lv_iconst (v := 0) C.ex C.by dX10_byKeys_128 (by decide) ?_
    cases hf
    exact z_iret C h dX10_byKeys_129
  · dsimp only [Sum.elim_inr] at hf
    intro H locs ls h hl
    refine lv_lload C.ex C.by dX10_byKeys_78 (lv_at hl 2 rfl) ?_
    refine lv_lload C.ex C.by dX10_byKeys_80 (lv_at hl 3 rfl) ?_
    refine W.lcmp C.ex C.by dX10_byKeys_82 ?_
    refine lv_if_ge (tgt := 90) C.ex C.by dX10_byKeys_83 (by decide) (fun c10 => ?_) (fun c10 => ?_)
    · have hf := zif_t c10 hf
      refine lv_iconst (v := 0) C.ex C.by dX10_byKeys_90 (by decide) ?_
      exact wX10_byKeys_p14_91 C h (lv_sub hl [0, 1] rfl) hf
    · have hf := zif_f c10 hf
      refine lv_iconst (v := 1) C.ex C.by dX10_byKeys_86 (by decide) ?_
      refine lv_goto (tgt := 91) C.ex C.by dX10_byKeys_87 (by decide) ?_
      exact wX10_byKeys_p14_91 C h (lv_sub hl [0, 1] rfl) hf
set_option maxRecDepth 20000 in
set_option maxHeartbeats 4000000 in
theorem wX10_byKeys_p14_0 {p : Program} {l : Launch} {e : Env} {s : State} {m : MethodId} {args : Array Value} {below : List Frame} {meth : Method} {c : Code} {A : Nat → Prop} {κ : zG} {H : Heap} {locs : List Loc} {ls : Array Slot} {n : Nat} {σ : zS} {x2 : Int32} {x3 : Int32} {r : Int32} (C : zC cX10_byKeys 11 (some .int) RX10 κ A p s m args meth c) (h : zH wM κ A s σ H locs) (hl : lv_has ls 11 [(0, .ref (κ.2.1 0)), (1, .ref (κ.2.1 14)), (2, .int x2), (3, .int x3)]) (hf : fX10_byKeys_p14_0 n σ x2 x3 = some r) : W p l e rmX10_byKeys_p14 s m args below meth c H locs 0 0 (MQ below (zQi wM κ A r σ) args s 0 0 A) (F0 m 0 ls []) := by
  unfold fX10_byKeys_p14_0 at hf
  refine lv_aload_n C.ex C.by dX10_byKeys_0 rfl (lv_at hl 0 rfl) ?_
  refine z_get (v := .int (zI σ 7)) C h iwX10 0 (wM_at0 κ _) rfl 19 (by decide) lkM10 rfl dX10_byKeys_1 ?_
  refine lv_if_ne (tgt := 14) C.ex C.by dX10_byKeys_4 (by decide) (fun c1 => ?_) (fun c1 => ?_)
  · have hf := zif_f c1 hf
    refine lv_aload_n C.ex C.by dX10_byKeys_14 rfl (lv_at hl 0 rfl) ?_
    refine z_get (v := .int (zI σ 7)) C h iwX10 0 (wM_at0 κ _) rfl 19 (by decide) lkM10 rfl dX10_byKeys_15 ?_
    exact wX10_byKeys_p14_18 C h hl hf
  · have hf := zif_t c1 hf
    refine lv_aload_n C.ex C.by dX10_byKeys_7 rfl (lv_at hl 0 rfl) ?_
    refine z_get (v := .int (zI σ 6)) C h iwX10 0 (wM_at0 κ _) rfl 16 (by decide) lkM9 rfl dX10_byKeys_8 ?_
    refine lv_goto (tgt := 18) C.ex C.by dX10_byKeys_11 (by decide) ?_
    exact wX10_byKeys_p14_18 C h hl hf
theorem ctX10_byKeys_p14 {l : Launch} {κ : zG} {n : Nat} {σ : zS} {x2 : Int32} {x3 : Int32} {r : Int32} (hf : fX10_byKeys_p14_0 n σ x2 x3 = some r) : zMi l yX10_byKeys (Cond.code yX10_byKeys cX10_byKeys 11 (some .int)) rmX10_byKeys_p14 wM κ [.ref (κ.2.1 0), .ref (κ.2.1 14), .int x2, .int x3] σ r σ :=
  zMi_of (by decide) (Nat.le_of_ble_eq_true rfl) (fun p e s m below meth c A C h ls hl => wX10_byKeys_p14_0 C h hl hf)
theorem hdX10_sums : yX10_sums.cls = RX10 ∧ yX10_sums.cls ≠ "java/lang/invoke/MethodHandle" ∧ yX10_sums.cls ≠ "java/lang/invoke/VarHandle" ∧ (parseMethodDescriptor yX10_sums.desc).map (fun d => d.parameters.length) = some 0 := by decide +kernel
abbrev rmX10_sums : Room := { frames := 0, cells := 0, slots := 0, locals := 0 }
set_option maxRecDepth 20000 in
set_option maxHeartbeats 4000000 in
theorem wX10_sums_L23_55 {p : Program} {l : Launch} {e : Env} {s : State} {m : MethodId} {args : Array Value} {below : List Frame} {meth : Method} {c : Code} {A : Nat → Prop} {κ : zG} {H : Heap} {locs : List Loc} {ls : Array Slot} {Q : State → Prop} {n : Nat} {σ : zS} {x2 : Int32} {y0 : Int32} {r : (Int32 × Int32) ⊕ (Int32)} (C : zC cX10_sums 3 (some .boolean) RX10 κ A p s m args meth c) (h : zH wM κ A s σ H locs) (hl : lv_has ls 3 [(0, .ref (κ.2.1 0)), (2, .int x2)]) (hf : fX10_sums_L23_55 n σ x2 y0 = some r) (Kc : ∀ (v1 : Int32) (v2 : Int32), r = .inl (v1, v2) → ∀ (H : Heap) (locs : List Loc) (ls : Array Slot), zH wM κ A s σ H locs → lv_has ls 3 [(0, .ref (κ.2.1 0)), (1, .int v1), (2, .int v2)] → W p l e rmX10_sums s m args below meth c H locs 0 0 Q (F0 m 23 ls [])) (Ke0 : ∀ (v1 : Int32), r = .inr v1 → ∀ (H : Heap) (locs : List Loc) (ls : Array Slot), zH wM κ A s σ H locs → lv_has ls 3 [(0, .ref (κ.2.1 0)), (1, .int v1)] → W p l e rmX10_sums s m args below meth c H locs 0 0 Q (F0 m 62 ls [])) : W p l e rmX10_sums s m args below meth c H locs 0 0 Q (F0 m 55 ls [.int y0]) := by
  unfold fX10_sums_L23_55 at hf
  refine lv_istore_n (lv' := [(1, .int y0), (0, .ref (κ.2.1 0)), (2, .int x2)]) C.ex C.by dX10_sums_55 rfl hl (by decide) rfl (fun ls hl => ?_)
  refine lv_iinc (v := (x2 + 1)) (lv' := [(2, .int (x2 + 1)), (1, .int y0), (0, .ref (κ.2.1 0))]) C.ex C.by dX10_sums_56 hl (k := 2) rfl rfl (by decide) rfl (fun ls hl => ?_)
  refine lv_goto (tgt := 23) C.ex C.by dX10_sums_59 (by decide) ?_
  exact Kc _ _ (Option.some.inj hf).symm _ _ _ h (lv_sub hl [2, 1, 0] rfl)
set_option maxRecDepth 20000 in
set_option maxHeartbeats 4000000 in
theorem wX10_sums_L23_54 {p : Program} {l : Launch} {e : Env} {s : State} {m : MethodId} {args : Array Value} {below : List Frame} {meth : Method} {c : Code} {A : Nat → Prop} {κ : zG} {H : Heap} {locs : List Loc} {ls : Array Slot} {Q : State → Prop} {n : Nat} {σ : zS} {x2 : Int32} {r : (Int32 × Int32) ⊕ (Int32)} (C : zC cX10_sums 3 (some .boolean) RX10 κ A p s m args meth c) (h : zH wM κ A s σ H locs) (hl : lv_has ls 3 [(0, .ref (κ.2.1 0)), (2, .int x2)]) (hf : fX10_sums_L23_54 n σ x2 = some r) (Kc : ∀ (v1 : Int32) (v2 : Int32), r = .inl (v1, v2) → ∀ (H : Heap) (locs : List Loc) (ls : Array Slot), zH wM κ A s σ H locs → lv_has ls 3 [(0, .ref (κ.2.1 0)), (1, .int v1), (2, .int v2)] → W p l e rmX10_sums s m args below meth c H locs 0 0 Q (F0 m 23 ls [])) (Ke0 : ∀ (v1 : Int32), r = .inr v1 → ∀ (H : Heap) (locs : List Loc) (ls : Array Slot), zH wM κ A s σ H locs → lv_has ls 3 [(0, .ref (κ.2.1 0)), (1, .int v1)] → W p l e rmX10_sums s m args below meth c H locs 0 0 Q (F0 m 62 ls [])) : W p l e rmX10_sums s m args below meth c H locs 0 0 Q (F0 m 54 ls []) := by
  unfold fX10_sums_L23_54 at hf
  refine lv_iconst (v := 0) C.ex C.by dX10_sums_54 (by decide) ?_
  exact wX10_sums_L23_55 C h hl hf Kc Ke0
set_option maxRecDepth 20000 in
set_option maxHeartbeats 4000000 in
theorem wX10_sums_L23_23 {p : Program} {l : Launch} {e : Env} {s : State} {m : MethodId} {args : Array Value} {below : List Frame} {meth : Method} {c : Code} {A : Nat → Prop} {κ : zG} {H : Heap} {locs : List Loc} {ls : Array Slot} {Q : State → Prop} {n : Nat} {σ : zS} {a : Int32 × Int32} {r : (Int32 × Int32) ⊕ (Int32)} (C : zC cX10_sums 3 (some .boolean) RX10 κ A p s m args meth c) (h : zH wM κ A s σ H locs) (hl : lv_has ls 3 [(0, .ref (κ.2.1 0)), (1, .int a.1), (2, .int a.2)]) (hf : fX10_sums_L23_23 n σ a = some r) (Kc : ∀ (v1 : Int32) (v2 : Int32), r = .inl (v1, v2) → ∀ (H : Heap) (locs : List Loc) (ls : Array Slot), zH wM κ A s σ H locs → lv_has ls 3 [(0, .ref (κ.2.1 0)), (1, .int v1), (2, .int v2)] → W p l e rmX10_sums s m args below meth c H locs 0 0 Q (F0 m 23 ls [])) (Ke0 : ∀ (v1 : Int32), r = .inr v1 → ∀ (H : Heap) (locs : List Loc) (ls : Array Slot), zH wM κ A s σ H locs → lv_has ls 3 [(0, .ref (κ.2.1 0)), (1, .int v1)] → W p l e rmX10_sums s m args below meth c H locs 0 0 Q (F0 m 62 ls [])) : W p l e rmX10_sums s m args below meth c H locs 0 0 Q (F0 m 23 ls []) := by
  unfold fX10_sums_L23_23 at hf
  refine lv_iload_n C.ex C.by dX10_sums_23 rfl (lv_at hl 2 rfl) ?_
  refine lv_aload_n C.ex C.by dX10_sums_24 rfl (lv_at hl 0 rfl) ?_
  refine z_get (v := .int (zI σ 7)) C h iwX10 0 (wM_at0 κ _) rfl 19 (by decide) lkM10 rfl dX10_sums_25 ?_
  refine lv_icmp_ge (tgt := 62) C.ex C.by dX10_sums_28 (by decide) (fun c3 => ?_) (fun c3 => ?_)
  · have hf := zif_t c3 hf
    exact Ke0 _ (Option.some.inj hf).symm _ _ _ h (lv_sub hl [0, 1] rfl)
  · have hf := zif_f c3 hf
    refine lv_iload_n C.ex C.by dX10_sums_31 rfl (lv_at hl 1 rfl) ?_
    refine lv_if_eq (tgt := 54) C.ex C.by dX10_sums_32 (by decide) (fun c4 => ?_) (fun c4 => ?_)
    · have hf := zif_t c4 hf
      exact wX10_sums_L23_54 C h (lv_sub hl [0, 2] rfl) hf Kc Ke0
    · have hf := zif_f c4 hf
      refine lv_aload_n C.ex C.by dX10_sums_35 rfl (lv_at hl 0 rfl) ?_
      refine z_get (v := .ref (κ.2.1 11)) C h iwX10 0 (wM_at0 κ _) rfl 17 (by decide) lkM11 rfl dX10_sums_36 ?_
      refine lv_iload_n C.ex C.by dX10_sums_39 rfl (lv_at hl 2 rfl) ?_
      obtain ⟨h5, hf⟩ := zg_some hf
      refine z_iald (f := (zA σ 8)) C h 11 (wM_at11 κ _) h5 dX10_sums_40 ?_
      refine lv_aload_n C.ex C.by dX10_sums_41 rfl (lv_at hl 0 rfl) ?_
      refine z_get (v := .int (zI σ 6)) C h iwX10 0 (wM_at0 κ _) rfl 16 (by decide) lkM9 rfl dX10_sums_42 ?_
      refine lv_iconst (v := 1) C.ex C.by dX10_sums_45 (by decide) ?_
      refine lv_isub C.ex C.by dX10_sums_46 ?_
      refine lv_icmp_eq (tgt := 54) C.ex C.by dX10_sums_47 (by decide) (fun c6 => ?_) (fun c6 => ?_)
      · have hf := zif_t c6 hf
        exact wX10_sums_L23_54 C h (lv_sub hl [0, 2] rfl) hf Kc Ke0
      · have hf := zif_f c6 hf
        refine lv_iconst (v := 1) C.ex C.by dX10_sums_50 (by decide) ?_
        refine lv_goto (tgt := 55) C.ex C.by dX10_sums_51 (by decide) ?_
        exact wX10_sums_L23_55 C h (lv_sub hl [0, 2] rfl) hf Kc Ke0
theorem wlX10_sums_23 {p : Program} {l : Launch} {e : Env} {s : State} {m : MethodId} {args : Array Value} {below : List Frame} {meth : Method} {c : Code} {A : Nat → Prop} {κ : zG} {H : Heap} {locs : List Loc} {ls : Array Slot} {Q : State → Prop} {n : Nat} {σ : zS} {k0 : Nat} {u1 : Int32} {u2 : Int32} (C : zC cX10_sums 3 (some .boolean) RX10 κ A p s m args meth c) (h : zH wM κ A s σ H locs) (hl : lv_has ls 3 [(0, .ref (κ.2.1 0)), (1, .int u1), (2, .int u2)]) (b : Int32) (hb : zlp (fX10_sums_L23_23 n σ) k0 (u1, u2) = some b) (K : (fun b : Int32 => ∀ (H : Heap) (locs : List Loc) (ls : Array Slot), zH wM κ A s σ H locs → lv_has ls 3 [(0, .ref (κ.2.1 0)), (1, .int b)] → W p l e rmX10_sums s m args below meth c H locs 0 0 Q (F0 m 62 ls [])) b) : W p l e rmX10_sums s m args below meth c H locs 0 0 Q (F0 m 23 ls []) :=
  z_loop (body := fX10_sums_L23_23 n σ) (Wd := (fun a : Int32 × Int32 => ∀ (H : Heap) (locs : List Loc) (ls : Array Slot), zH wM κ A s σ H locs → lv_has ls 3 [(0, .ref (κ.2.1 0)), (1, .int a.1), (2, .int a.2)] → W p l e rmX10_sums s m args below meth c H locs 0 0 Q (F0 m 23 ls []))) (Ex := (fun b : Int32 => (fun b : Int32 => ∀ (H : Heap) (locs : List Loc) (ls : Array Slot), zH wM κ A s σ H locs → lv_has ls 3 [(0, .ref (κ.2.1 0)), (1, .int b)] → W p l e rmX10_sums s m args below meth c H locs 0 0 Q (F0 m 62 ls [])) b)) (fun a r hr Kc Ke H locs ls h hl => wX10_sums_L23_23 C h hl hr (fun v1 v2 e => Kc (v1, v2) e) (fun v1 e => Ke v1 e)) k0 (u1, u2) b hb K H locs ls h hl
set_option maxRecDepth 20000 in
set_option maxHeartbeats 4000000 in
theorem wX10_sums_20 {p : Program} {l : Launch} {e : Env} {s : State} {m : MethodId} {args : Array Value} {below : List Frame} {meth : Method} {c : Code} {A : Nat → Prop} {κ : zG} {H : Heap} {locs : List Loc} {ls : Array Slot} {n : Nat} {σ : zS} {y0 : Int32} {r : Int32} (C : zC cX10_sums 3 (some .boolean) RX10 κ A p s m args meth c) (h : zH wM κ A s σ H locs) (hl : lv_has ls 3 [(0, .ref (κ.2.1 0))]) (hf : fX10_sums_20 n σ y0 = some r) : W p l e rmX10_sums s m args below meth c H locs 0 0 (MQ below (zQi wM κ A r σ) args s 0 0 A) (F0 m 20 ls [.int y0]) := by
  unfold fX10_sums_20 at hf
  refine lv_istore_n (lv' := [(1, .int y0), (0, .ref (κ.2.1 0))]) C.ex C.by dX10_sums_20 rfl hl (by decide) rfl (fun ls hl => ?_)
  refine lv_iconst (v := 0) C.ex C.by dX10_sums_21 (by decide) ?_
  refine lv_istore_n (lv' := [(2, .int 0), (1, .int y0), (0, .ref (κ.2.1 0))]) C.ex C.by dX10_sums_22 rfl hl (by decide) rfl (fun ls hl => ?_)
  obtain ⟨b7, e8, hf⟩ := zb_some hf
  refine wlX10_sums_23 C h (lv_sub hl [2, 1, 0] rfl) b7 e8 ?_
  intro H locs ls h hl
  refine lv_iload_n C.ex C.by dX10_sums_62 rfl (lv_at hl 1 rfl) ?_
  obtain ⟨h9, hf⟩ := zg_some hf
  cases hf
  exact z_zret C h (zbo_n h9) dX10_sums_63
set_option maxRecDepth 20000 in
set_option maxHeartbeats 4000000 in
theorem wX10_sums_19 {p : Program} {l : Launch} {e : Env} {s : State} {m : MethodId} {args : Array Value} {below : List Frame} {meth : Method} {c : Code} {A : Nat → Prop} {κ : zG} {H : Heap} {locs : List Loc} {ls : Array Slot} {n : Nat} {σ : zS} {r : Int32} (C : zC cX10_sums 3 (some .boolean) RX10 κ A p s m args meth c) (h : zH wM κ A s σ H locs) (hl : lv_has ls 3 [(0, .ref (κ.2.1 0))]) (hf : fX10_sums_19 n σ = some r) : W p l e rmX10_sums s m args below meth c H locs 0 0 (MQ below (zQi wM κ A r σ) args s 0 0 A) (F0 m 19 ls []) := by
  unfold fX10_sums_19 at hf
  refine lv_iconst (v := 0) C.ex C.by dX10_sums_19 (by decide) ?_
  exact wX10_sums_20 C h hl hf
set_option maxRecDepth 20000 in
set_option maxHeartbeats 4000000 in
theorem wX10_sums_0 {p : Program} {l : Launch} {e : Env} {s : State} {m : MethodId} {args : Array Value} {below : List Frame} {meth : Method} {c : Code} {A : Nat → Prop} {κ : zG} {H : Heap} {locs : List Loc} {ls : Array Slot} {n : Nat} {σ : zS} {r : Int32} (C : zC cX10_sums 3 (some .boolean) RX10 κ A p s m args meth c) (h : zH wM κ A s σ H locs) (hl : lv_has ls 3 [(0, .ref (κ.2.1 0))]) (hf : fX10_sums_0 n σ = some r) : W p l e rmX10_sums s m args below meth c H locs 0 0 (MQ below (zQi wM κ A r σ) args s 0 0 A) (F0 m 0 ls []) := by
  unfold fX10_sums_0 at hf
  refine lv_aload_n C.ex C.by dX10_sums_0 rfl (lv_at hl 0 rfl) ?_
  refine z_get (v := .int (zI σ 8)) C h iwX10 0 (wM_at0 κ _) rfl 20 (by decide) lkM13 rfl dX10_sums_1 ?_
  refine lv_iconst (v := 2) C.ex C.by dX10_sums_4 (by decide) ?_
  refine lv_icmp_ne (tgt := 19) C.ex C.by dX10_sums_5 (by decide) (fun c1 => ?_) (fun c1 => ?_)
  · have hf := zif_f c1 hf
    exact wX10_sums_19 C h hl hf
  · have hf := zif_t c1 hf
    refine lv_aload_n C.ex C.by dX10_sums_8 rfl (lv_at hl 0 rfl) ?_
    refine z_get (v := .int (zI σ 7)) C h iwX10 0 (wM_at0 κ _) rfl 19 (by decide) lkM10 rfl dX10_sums_9 ?_
    refine lv_if_le (tgt := 19) C.ex C.by dX10_sums_12 (by decide) (fun c2 => ?_) (fun c2 => ?_)
    · have hf := zif_t c2 hf
      exact wX10_sums_19 C h hl hf
    · have hf := zif_f c2 hf
      refine lv_iconst (v := 1) C.ex C.by dX10_sums_15 (by decide) ?_
      refine lv_goto (tgt := 20) C.ex C.by dX10_sums_16 (by decide) ?_
      exact wX10_sums_20 C h hl hf
theorem ctX10_sums {l : Launch} {κ : zG} {n : Nat} {σ : zS} {r : Int32} (hf : fX10_sums_0 n σ = some r) : zMi l yX10_sums (Cond.code yX10_sums cX10_sums 3 (some .boolean)) rmX10_sums wM κ [.ref (κ.2.1 0)] σ r σ :=
  zMi_of (by decide) (Nat.le_of_ble_eq_true rfl) (fun p e s m below meth c A C h ls hl => wX10_sums_0 C h hl hf)
abbrev rmX10_toPage_p1 : Room := { frames := 3, cells := 0, slots := 0, locals := 67 }
set_option maxRecDepth 20000 in
set_option maxHeartbeats 4000000 in
theorem wX10_toPage_p1_L2_2 {p : Program} {l : Launch} {e : Env} {s : State} {m : MethodId} {args : Array Value} {below : List Frame} {meth : Method} {c : Code} {A : Nat → Prop} {κ : zG} {H : Heap} {locs : List Loc} {ls : Array Slot} {Q : State → Prop} {n : Nat} {k2 : Int32} {a : Int32 × zS} {r : (Int32 × zS) ⊕ (zS)} (C : zC cX10_toPage 4 none RX10 κ A p s m args meth c) (h : zH wM κ A s a.2 H locs) (hl : lv_has ls 4 [(0, .ref (κ.2.1 0)), (1, .ref (κ.2.1 1)), (2, .int k2), (3, .int a.1)]) (hf : fX10_toPage_p1_L2_2 n k2 a = some r) (Kc : ∀ (v3 : Int32) (σ1 : zS), r = .inl (v3, σ1) → ∀ (H : Heap) (locs : List Loc) (ls : Array Slot), zH wM κ A s σ1 H locs → lv_has ls 4 [(0, .ref (κ.2.1 0)), (1, .ref (κ.2.1 1)), (2, .int k2), (3, .int v3)] → W p l e rmX10_toPage_p1 s m args below meth c H locs 0 0 Q (F0 m 2 ls [])) (Ke0 : ∀ (σ1 : zS), r = .inr σ1 → ∀ (H : Heap) (locs : List Loc) (ls : Array Slot), zH wM κ A s σ1 H locs → lv_has ls 4 [(0, .ref (κ.2.1 0))] → W p l e rmX10_toPage_p1 s m args below meth c H locs 0 0 Q (F0 m 39 ls [])) : W p l e rmX10_toPage_p1 s m args below meth c H locs 0 0 Q (F0 m 2 ls []) := by
  unfold fX10_toPage_p1_L2_2 at hf
  refine lv_iload_n C.ex C.by dX10_toPage_2 rfl (lv_at hl 3 rfl) ?_
  refine lv_aload_n C.ex C.by dX10_toPage_3 rfl (lv_at hl 0 rfl) ?_
  refine z_get (v := .int (zI a.2 6)) C h iwX10 0 (wM_at0 κ _) rfl 16 (by decide) lkM9 rfl dX10_toPage_4 ?_
  refine lv_icmp_gt (tgt := 39) C.ex C.by dX10_toPage_7 (by decide) (fun c1 => ?_) (fun c1 => ?_)
  · have hf := zif_t c1 hf
    exact Ke0 _ (Option.some.inj hf).symm _ _ _ h (lv_sub hl [0] rfl)
  · have hf := zif_f c1 hf
    refine lv_aload_n C.ex C.by dX10_toPage_10 rfl (lv_at hl 0 rfl) ?_
    refine z_get (v := .ref (κ.2.1 13)) C h iwX10 0 (wM_at0 κ _) rfl 31 (by decide) lkM82 rfl dX10_toPage_11 ?_
    refine lv_aload_n C.ex C.by dX10_toPage_14 rfl (lv_at hl 0 rfl) ?_
    refine z_get (v := .int (zI a.2 19)) C h iwX10 0 (wM_at0 κ _) rfl 32 (by decide) lkM83 rfl dX10_toPage_15 ?_
    refine lv_aload_n C.ex C.by dX10_toPage_18 rfl (lv_at hl 0 rfl) ?_
    refine z_get (v := .int (zI a.2 6)) C h iwX10 0 (wM_at0 κ _) rfl 16 (by decide) lkM9 rfl dX10_toPage_19 ?_
    refine lv_iconst (v := 1) C.ex C.by dX10_toPage_22 (by decide) ?_
    refine lv_iadd C.ex C.by dX10_toPage_23 ?_
    refine lv_imul C.ex C.by dX10_toPage_24 ?_
    refine lv_iload_n C.ex C.by dX10_toPage_25 rfl (lv_at hl 3 rfl) ?_
    refine lv_iadd C.ex C.by dX10_toPage_26 ?_
    refine lv_aload_n C.ex C.by dX10_toPage_27 rfl (lv_at hl 1 rfl) ?_
    refine lv_iload_n C.ex C.by dX10_toPage_28 rfl (lv_at hl 2 rfl) ?_
    refine lv_iload_n C.ex C.by dX10_toPage_29 rfl (lv_at hl 3 rfl) ?_
    refine lv_iadd C.ex C.by dX10_toPage_30 ?_
    obtain ⟨h2, hf⟩ := zg_some hf
    refine z_lald (f := (zL a.2 0)) C h 1 (wM_at1 κ _) h2 dX10_toPage_31 ?_
    obtain ⟨h3, hf⟩ := zg_some hf
    refine z_last (f := (zL a.2 2)) C h 13 (wM_at13 κ _) h3 (sL a.2 2 (vp_updL (zL a.2 2) (Int32.toNatClampNeg (((zI a.2 19) * ((zI a.2 6) + 1)) + a.1)) ((zL a.2 0) (Int32.toNatClampNeg (k2 + a.1))))) (wM_s13 κ _ _) dX10_toPage_32 (fun H locs h => ?_)
    refine lv_iinc (v := (a.1 + 1)) (lv' := [(3, .int (a.1 + 1)), (0, .ref (κ.2.1 0)), (1, .ref (κ.2.1 1)), (2, .int k2)]) C.ex C.by dX10_toPage_33 hl (k := 3) rfl rfl (by decide) rfl (fun ls hl => ?_)
    refine lv_goto (tgt := 2) C.ex C.by dX10_toPage_36 (by decide) ?_
    exact Kc _ _ (Option.some.inj hf).symm _ _ _ h (lv_sub hl [1, 2, 3, 0] rfl)
theorem wlX10_toPage_p1_2 {p : Program} {l : Launch} {e : Env} {s : State} {m : MethodId} {args : Array Value} {below : List Frame} {meth : Method} {c : Code} {A : Nat → Prop} {κ : zG} {H : Heap} {locs : List Loc} {ls : Array Slot} {Q : State → Prop} {n : Nat} {k2 : Int32} {k0 : Nat} {u3 : Int32} {σ1 : zS} (C : zC cX10_toPage 4 none RX10 κ A p s m args meth c) (h : zH wM κ A s σ1 H locs) (hl : lv_has ls 4 [(0, .ref (κ.2.1 0)), (1, .ref (κ.2.1 1)), (2, .int k2), (3, .int u3)]) (b : zS) (hb : zlp (fX10_toPage_p1_L2_2 n k2) k0 (u3, σ1) = some b) (K : (fun b : zS => ∀ (H : Heap) (locs : List Loc) (ls : Array Slot), zH wM κ A s b H locs → lv_has ls 4 [(0, .ref (κ.2.1 0))] → W p l e rmX10_toPage_p1 s m args below meth c H locs 0 0 Q (F0 m 39 ls [])) b) : W p l e rmX10_toPage_p1 s m args below meth c H locs 0 0 Q (F0 m 2 ls []) :=
  z_loop (body := fX10_toPage_p1_L2_2 n k2) (Wd := (fun a : Int32 × zS => ∀ (H : Heap) (locs : List Loc) (ls : Array Slot), zH wM κ A s a.2 H locs → lv_has ls 4 [(0, .ref (κ.2.1 0)), (1, .ref (κ.2.1 1)), (2, .int k2), (3, .int a.1)] → W p l e rmX10_toPage_p1 s m args below meth c H locs 0 0 Q (F0 m 2 ls []))) (Ex := (fun b : zS => (fun b : zS => ∀ (H : Heap) (locs : List Loc) (ls : Array Slot), zH wM κ A s b H locs → lv_has ls 4 [(0, .ref (κ.2.1 0))] → W p l e rmX10_toPage_p1 s m args below meth c H locs 0 0 Q (F0 m 39 ls [])) b)) (fun a r hr Kc Ke H locs ls h hl => wX10_toPage_p1_L2_2 C h hl hr (fun v3 σ1 e => Kc (v3, σ1) e) (fun σ1 e => Ke σ1 e)) k0 (u3, σ1) b hb K H locs ls h hl
set_option maxRecDepth 20000 in
set_option maxHeartbeats 4000000 in
theorem wX10_toPage_p1_0 {p : Program} {l : Launch} {e : Env} {s : State} {m : MethodId} {args : Array Value} {below : List Frame} {meth : Method} {c : Code} {A : Nat → Prop} {κ : zG} {H : Heap} {locs : List Loc} {ls : Array Slot} {n : Nat} {σ : zS} {x2 : Int32} {r : zS} (C : zC cX10_toPage 4 none RX10 κ A p s m args meth c) (h : zH wM κ A s σ H locs) (hl : lv_has ls 4 [(0, .ref (κ.2.1 0)), (1, .ref (κ.2.1 1)), (2, .int x2)]) (hf : fX10_toPage_p1_0 n σ x2 = some r) : W p l e rmX10_toPage_p1 s m args below meth c H locs 0 0 (MQ below (zQv wM κ A r) args s 0 0 A) (F0 m 0 ls []) := by
  unfold fX10_toPage_p1_0 at hf
  refine lv_iconst (v := 0) C.ex C.by dX10_toPage_0 (by decide) ?_
  refine lv_istore_n (lv' := [(3, .int 0), (0, .ref (κ.2.1 0)), (1, .ref (κ.2.1 1)), (2, .int x2)]) C.ex C.by dX10_toPage_1 rfl hl (by decide) rfl (fun ls hl => ?_)
  obtain ⟨b4, e5, hf⟩ := zb_some hf
  refine wlX10_toPage_p1_2 C h (lv_sub hl [1, 2, 3, 0] rfl) b4 e5 ?_
  intro H locs ls h hl
  refine lv_aload_n C.ex C.by dX10_toPage_39 rfl (lv_at hl 0 rfl) ?_
  refine lv_dup C.ex C.by dX10_toPage_40 rfl ?_
  refine z_get (v := .int (zI b4 19)) C h iwX10 0 (wM_at0 κ _) rfl 32 (by decide) lkM83 rfl dX10_toPage_41 ?_
  refine lv_iconst (v := 1) C.ex C.by dX10_toPage_44 (by decide) ?_
  refine lv_iadd C.ex C.by dX10_toPage_45 ?_
  refine z_put C h iwX10 tyX10_ok nmX10 0 (wM_at0 κ _) rfl 32 (by decide) lkM83 rfl rfl rfl (Nat.le_of_ble_eq_true rfl) (sI b4 19 ((zI b4 19) + 1)) (wM_s0_32 κ _ _) dX10_toPage_46 (fun H locs h => ?_)
  refine lv_aload_n C.ex C.by dX10_toPage_49 rfl (lv_at hl 0 rfl) ?_
  refine z_get (v := .int ((zI b4 19) + 1)) C h iwX10 0 (wM_at0 κ _) rfl 32 (by decide) lkM83 rfl dX10_toPage_50 ?_
  refine lv_aload_n C.ex C.by dX10_toPage_53 rfl (lv_at hl 0 rfl) ?_
  obtain ⟨q6, e7, hf⟩ := zb_some hf
  refine z_callVi (As := []) C h (ctX10_per e7) (zgV lkM25 lkM26 lkM27 lkM2 lkM28) ⟨rfl, rfl⟩ hdX10_per ⟨Nat.le_of_ble_eq_true rfl, Nat.le_of_ble_eq_true rfl⟩ 0 (wM_at0 κ _) rfl hl rfl rfl (Nat.le_of_ble_eq_true rfl) dX10_toPage_54 ⟨Nat.zero_le _, Nat.zero_le _⟩ (fun H locs h => ?_)
  refine lv_icmp_ne (tgt := 64) C.ex C.by dX10_toPage_57 (by decide) (fun c8 => ?_) (fun c8 => ?_)
  · have hf := zif_f c8 hf
    cases hf
    exact z_vret C h dX10_toPage_64
  · have hf := zif_t c8 hf
    refine lv_aload_n C.ex C.by dX10_toPage_60 rfl (lv_at hl 0 rfl) ?_
    obtain ⟨q9, e10, hf⟩ := zb_some hf
    refine z_callVv (As := []) C h (ctX10_writePage e10) (zgV lkM85 lkM86 lkM87 lkM2 lkM88) ⟨rfl, rfl⟩ hdX10_writePage ⟨Nat.le_of_ble_eq_true rfl, Nat.le_of_ble_eq_true rfl⟩ 0 (wM_at0 κ _) rfl hl rfl rfl (Nat.le_of_ble_eq_true rfl) dX10_toPage_61 ⟨Nat.zero_le _, Nat.zero_le _⟩ (fun H locs h => ?_)
    cases hf
    exact z_vret C h dX10_toPage_64
theorem ctX10_toPage_p1 {l : Launch} {κ : zG} {n : Nat} {σ : zS} {x2 : Int32} {r : zS} (hf : fX10_toPage_p1_0 n σ x2 = some r) : zMv l yX10_toPage (Cond.code yX10_toPage cX10_toPage 4 none) rmX10_toPage_p1 wM κ [.ref (κ.2.1 0), .ref (κ.2.1 1), .int x2] σ r :=
  zMv_of (by decide) (Nat.le_of_ble_eq_true rfl) (fun p e s m below meth c A C h ls hl => wX10_toPage_p1_0 C h hl hf)
theorem hdX10_out : yX10_out.cls = RX10 ∧ yX10_out.cls ≠ "java/lang/invoke/MethodHandle" ∧ yX10_out.cls ≠ "java/lang/invoke/VarHandle" ∧ (parseMethodDescriptor yX10_out.desc).map (fun d => d.parameters.length) = some 1 := by decide +kernel
abbrev rmX10_out : Room := { frames := 4, cells := 0, slots := 0, locals := 90 }
set_option maxRecDepth 20000 in
set_option maxHeartbeats 4000000 in
theorem wX10_out_L90_90 {p : Program} {l : Launch} {e : Env} {s : State} {m : MethodId} {args : Array Value} {below : List Frame} {meth : Method} {c : Code} {A : Nat → Prop} {κ : zG} {H : Heap} {locs : List Loc} {ls : Array Slot} {Q : State → Prop} {n : Nat} {k1 : Int32} {a : Int32 × zS} {r : (Int32 × zS) ⊕ (zS)} (C : zC cX10_out 3 none RX10 κ A p s m args meth c) (h : zH wM κ A s a.2 H locs) (hl : lv_has ls 3 [(0, .ref (κ.2.1 0)), (1, .int k1), (2, .int a.1)]) (hf : fX10_out_L90_90 n k1 a = some r) (Kc : ∀ (v2 : Int32) (σ1 : zS), r = .inl (v2, σ1) → ∀ (H : Heap) (locs : List Loc) (ls : Array Slot), zH wM κ A s σ1 H locs → lv_has ls 3 [(0, .ref (κ.2.1 0)), (1, .int k1), (2, .int v2)] → W p l e rmX10_out s m args below meth c H locs 0 0 Q (F0 m 90 ls [])) (Ke0 : ∀ (σ1 : zS), r = .inr σ1 → ∀ (H : Heap) (locs : List Loc) (ls : Array Slot), zH wM κ A s σ1 H locs → lv_has ls 3 [(0, .ref (κ.2.1 0))] → W p l e rmX10_out s m args below meth c H locs 0 0 Q (F0 m 118 ls [])) : W p l e rmX10_out s m args below meth c H locs 0 0 Q (F0 m 90 ls []) := by
  unfold fX10_out_L90_90 at hf
  refine lv_iload_n C.ex C.by dX10_out_90 rfl (lv_at hl 2 rfl) ?_
  refine lv_aload_n C.ex C.by dX10_out_91 rfl (lv_at hl 0 rfl) ?_
  refine z_get (v := .int (zI a.2 6)) C h iwX10 0 (wM_at0 κ _) rfl 16 (by decide) lkM9 rfl dX10_out_92 ?_
  refine lv_icmp_gt (tgt := 118) C.ex C.by dX10_out_95 (by decide) (fun c17 => ?_) (fun c17 => ?_)
  · have hf := zif_t c17 hf
    exact Ke0 _ (Option.some.inj hf).symm _ _ _ h (lv_sub hl [0] rfl)
  · have hf := zif_f c17 hf
    refine lv_aload_n C.ex C.by dX10_out_98 rfl (lv_at hl 0 rfl) ?_
    refine z_get (v := .ref (κ.2.1 14)) C h iwX10 0 (wM_at0 κ _) rfl 33 (by decide) lkM81 rfl dX10_out_99 ?_
    refine lv_iload_n C.ex C.by dX10_out_102 rfl (lv_at hl 2 rfl) ?_
    refine lv_aload_n C.ex C.by dX10_out_103 rfl (lv_at hl 0 rfl) ?_
    refine z_get (v := .ref (κ.2.1 1)) C h iwX10 0 (wM_at0 κ _) rfl 4 (by decide) lkM40 rfl dX10_out_104 ?_
    refine lv_iload_n C.ex C.by dX10_out_107 rfl (lv_at hl 1 rfl) ?_
    refine lv_iload_n C.ex C.by dX10_out_108 rfl (lv_at hl 2 rfl) ?_
    refine lv_iadd C.ex C.by dX10_out_109 ?_
    obtain ⟨h18, hf⟩ := zg_some hf
    refine z_lald (f := (zL a.2 0)) C h 1 (wM_at1 κ _) h18 dX10_out_110 ?_
    obtain ⟨h19, hf⟩ := zg_some hf
    refine z_last (f := (zL a.2 3)) C h 14 (wM_at14 κ _) h19 (sL a.2 3 (vp_updL (zL a.2 3) (Int32.toNatClampNeg a.1) ((zL a.2 0) (Int32.toNatClampNeg (k1 + a.1))))) (wM_s14 κ _ _) dX10_out_111 (fun H locs h => ?_)
    refine lv_iinc (v := (a.1 + 1)) (lv' := [(2, .int (a.1 + 1)), (0, .ref (κ.2.1 0)), (1, .int k1)]) C.ex C.by dX10_out_112 hl (k := 2) rfl rfl (by decide) rfl (fun ls hl => ?_)
    refine lv_goto (tgt := 90) C.ex C.by dX10_out_115 (by decide) ?_
    exact Kc _ _ (Option.some.inj hf).symm _ _ _ h (lv_sub hl [1, 2, 0] rfl)
theorem wlX10_out_90 {p : Program} {l : Launch} {e : Env} {s : State} {m : MethodId} {args : Array Value} {below : List Frame} {meth : Method} {c : Code} {A : Nat → Prop} {κ : zG} {H : Heap} {locs : List Loc} {ls : Array Slot} {Q : State → Prop} {n : Nat} {k1 : Int32} {k0 : Nat} {u2 : Int32} {σ1 : zS} (C : zC cX10_out 3 none RX10 κ A p s m args meth c) (h : zH wM κ A s σ1 H locs) (hl : lv_has ls 3 [(0, .ref (κ.2.1 0)), (1, .int k1), (2, .int u2)]) (b : zS) (hb : zlp (fX10_out_L90_90 n k1) k0 (u2, σ1) = some b) (K : (fun b : zS => ∀ (H : Heap) (locs : List Loc) (ls : Array Slot), zH wM κ A s b H locs → lv_has ls 3 [(0, .ref (κ.2.1 0))] → W p l e rmX10_out s m args below meth c H locs 0 0 Q (F0 m 118 ls [])) b) : W p l e rmX10_out s m args below meth c H locs 0 0 Q (F0 m 90 ls []) :=
  z_loop (body := fX10_out_L90_90 n k1) (Wd := (fun a : Int32 × zS => ∀ (H : Heap) (locs : List Loc) (ls : Array Slot), zH wM κ A s a.2 H locs → lv_has ls 3 [(0, .ref (κ.2.1 0)), (1, .int k1), (2, .int a.1)] → W p l e rmX10_out s m args below meth c H locs 0 0 Q (F0 m 90 ls []))) (Ex := (fun b : zS => (fun b : zS => ∀ (H : Heap) (locs : List Loc) (ls : Array Slot), zH wM κ A s b H locs → lv_has ls 3 [(0, .ref (κ.2.1 0))] → W p l e rmX10_out s m args below meth c H locs 0 0 Q (F0 m 118 ls [])) b)) (fun a r hr Kc Ke H locs ls h hl => wX10_out_L90_90 C h hl hr (fun v2 σ1 e => Kc (v2, σ1) e) (fun σ1 e => Ke σ1 e)) k0 (u2, σ1) b hb K H locs ls h hl
set_option maxRecDepth 20000 in
set_option maxHeartbeats 4000000 in
theorem wX10_out_88 {p : Program} {l : Launch} {e : Env} {s : State} {m : MethodId} {args : Array Value} {below : List Frame} {meth : Method} {c : Code} {A : Nat → Prop} {κ : zG} {H : Heap} {locs : List Loc} {ls : Array Slot} {n : Nat} {σ : zS} {x1 : Int32} {r : zS} (C : zC cX10_out 3 none RX10 κ A p s m args meth c) (h : zH wM κ A s σ H locs) (hl : lv_has ls 3 [(0, .ref (κ.2.1 0)), (1, .int x1)]) (hf : fX10_out_88 n σ x1 = some r) : W p l e rmX10_out s m args below meth c H locs 0 0 (MQ below (zQv wM κ A r) args s 0 0 A) (F0 m 88 ls []) := by
  unfold fX10_out_88 at hf
  refine lv_iconst (v := 0) C.ex C.by dX10_out_88 (by decide) ?_
  refine lv_istore_n (lv' := [(2, .int 0), (0, .ref (κ.2.1 0)), (1, .int x1)]) C.ex C.by dX10_out_89 rfl hl (by decide) rfl (fun ls hl => ?_)
  obtain ⟨b20, e21, hf⟩ := zb_some hf
  refine wlX10_out_90 C h (lv_sub hl [1, 2, 0] rfl) b20 e21 ?_
  intro H locs ls h hl
  refine lv_aload_n C.ex C.by dX10_out_118 rfl (lv_at hl 0 rfl) ?_
  refine lv_iconst (v := 1) C.ex C.by dX10_out_119 (by decide) ?_
  refine z_put C h iwX10 tyX10_ok nmX10 0 (wM_at0 κ _) rfl 34 (by decide) lkM80 rfl rfl rfl (Nat.le_of_ble_eq_true rfl) (sI b20 20 1) (wM_s0_34 κ _ _) dX10_out_120 (fun H locs h => ?_)
  cases hf
  exact z_vret C h dX10_out_123
set_option maxRecDepth 20000 in
set_option maxHeartbeats 4000000 in
theorem wX10_out_72 {p : Program} {l : Launch} {e : Env} {s : State} {m : MethodId} {args : Array Value} {below : List Frame} {meth : Method} {c : Code} {A : Nat → Prop} {κ : zG} {H : Heap} {locs : List Loc} {ls : Array Slot} {n : Nat} {σ : zS} {x1 : Int32} {r : zS} (C : zC cX10_out 3 none RX10 κ A p s m args meth c) (h : zH wM κ A s σ H locs) (hl : lv_has ls 3 [(0, .ref (κ.2.1 0)), (1, .int x1)]) (hf : fX10_out_72 n σ x1 = some r) : W p l e rmX10_out s m args below meth c H locs 0 0 (MQ below (zQv wM κ A r) args s 0 0 A) (F0 m 72 ls []) := by
  unfold fX10_out_72 at hf
  refine lv_aload_n C.ex C.by dX10_out_72 rfl (lv_at hl 0 rfl) ?_
  refine z_get (v := .int (zI σ 20)) C h iwX10 0 (wM_at0 κ _) rfl 34 (by decide) lkM80 rfl dX10_out_73 ?_
  refine lv_if_eq (tgt := 88) C.ex C.by dX10_out_76 (by decide) (fun c14 => ?_) (fun c14 => ?_)
  · have hf := zif_t c14 hf
    exact wX10_out_88 C h hl hf
  · have hf := zif_f c14 hf
    refine lv_aload_n C.ex C.by dX10_out_79 rfl (lv_at hl 0 rfl) ?_
    refine lv_aload_n C.ex C.by dX10_out_80 rfl (lv_at hl 0 rfl) ?_
    refine z_get (v := .ref (κ.2.1 14)) C h iwX10 0 (wM_at0 κ _) rfl 33 (by decide) lkM81 rfl dX10_out_81 ?_
    refine lv_iconst (v := 0) C.ex C.by dX10_out_84 (by decide) ?_
    obtain ⟨q15, e16, hf⟩ := zb_some hf
    refine z_callVv (As := [.ref (κ.2.1 14), .int 0]) C h (ctX10_toPage_p14 e16) (zgV lkM89 lkM90 lkM91 lkM2 lkM92) ⟨rfl, rfl⟩ hdX10_toPage ⟨Nat.le_of_ble_eq_true rfl, Nat.le_of_ble_eq_true rfl⟩ 0 (wM_at0 κ _) rfl hl rfl rfl (Nat.le_of_ble_eq_true rfl) dX10_out_85 ⟨Nat.zero_le _, Nat.zero_le _⟩ (fun H locs h => ?_)
    exact wX10_out_88 C h hl hf
set_option maxRecDepth 20000 in
set_option maxHeartbeats 4000000 in
theorem wX10_out_0 {p : Program} {l : Launch} {e : Env} {s : State} {m : MethodId} {args : Array Value} {below : List Frame} {meth : Method} {c : Code} {A : Nat → Prop} {κ : zG} {H : Heap} {locs : List Loc} {ls : Array Slot} {n : Nat} {σ : zS} {x1 : Int32} {r : zS} (C : zC cX10_out 3 none RX10 κ A p s m args meth c) (h : zH wM κ A s σ H locs) (hl : lv_has ls 3 [(0, .ref (κ.2.1 0)), (1, .int x1)]) (hf : fX10_out_0 n σ x1 = some r) : W p l e rmX10_out s m args below meth c H locs 0 0 (MQ below (zQv wM κ A r) args s 0 0 A) (F0 m 0 ls []) := by
  unfold fX10_out_0 at hf
  refine lv_aload_n C.ex C.by dX10_out_0 rfl (lv_at hl 0 rfl) ?_
  refine z_get (v := .int (zI σ 8)) C h iwX10 0 (wM_at0 κ _) rfl 20 (by decide) lkM13 rfl dX10_out_1 ?_
  refine lv_if_ne (tgt := 17) C.ex C.by dX10_out_4 (by decide) (fun c1 => ?_) (fun c1 => ?_)
  · have hf := zif_f c1 hf
    refine lv_aload_n C.ex C.by dX10_out_17 rfl (lv_at hl 0 rfl) ?_
    refine z_get (v := .int (zI σ 20)) C h iwX10 0 (wM_at0 κ _) rfl 34 (by decide) lkM80 rfl dX10_out_18 ?_
    refine lv_if_eq (tgt := 72) C.ex C.by dX10_out_21 (by decide) (fun c2 => ?_) (fun c2 => ?_)
    · have hf := zif_t c2 hf
      exact wX10_out_72 C h hl hf
    · have hf := zif_f c2 hf
      refine lv_aload_n C.ex C.by dX10_out_24 rfl (lv_at hl 0 rfl) ?_
      refine lv_aload_n C.ex C.by dX10_out_25 rfl (lv_at hl 0 rfl) ?_
      refine z_get (v := .ref (κ.2.1 14)) C h iwX10 0 (wM_at0 κ _) rfl 33 (by decide) lkM81 rfl dX10_out_26 ?_
      refine lv_iconst (v := 0) C.ex C.by dX10_out_29 (by decide) ?_
      refine lv_iload_n C.ex C.by dX10_out_30 rfl (lv_at hl 1 rfl) ?_
      obtain ⟨q3, e4, hf⟩ := zb_some hf
      refine z_callVi (As := [.ref (κ.2.1 14), .int 0, .int x1]) C h (ctX10_byKeys_p14 e4) (zgV lkM72 lkM73 lkM74 lkM2 lkM75) ⟨rfl, rfl⟩ hdX10_byKeys ⟨Nat.le_of_ble_eq_true rfl, Nat.le_of_ble_eq_true rfl⟩ 0 (wM_at0 κ _) rfl hl rfl rfl (Nat.le_of_ble_eq_true rfl) dX10_out_31 ⟨Nat.zero_le _, Nat.zero_le _⟩ (fun H locs h => ?_)
      refine lv_if_ne (tgt := 72) C.ex C.by dX10_out_34 (by decide) (fun c5 => ?_) (fun c5 => ?_)
      · have hf := zif_f c5 hf
        exact wX10_out_72 C h hl hf
      · have hf := zif_t c5 hf
        refine lv_aload_n C.ex C.by dX10_out_37 rfl (lv_at hl 0 rfl) ?_
        obtain ⟨q6, e7, hf⟩ := zb_some hf
        refine z_callVi (As := []) C h (ctX10_sums e7) (zgV lkM111 lkM112 lkM113 lkM2 lkM114) ⟨rfl, rfl⟩ hdX10_sums ⟨Nat.le_of_ble_eq_true rfl, Nat.le_of_ble_eq_true rfl⟩ 0 (wM_at0 κ _) rfl hl rfl rfl (Nat.le_of_ble_eq_true rfl) dX10_out_38 ⟨Nat.zero_le _, Nat.zero_le _⟩ (fun H locs h => ?_)
        refine lv_if_eq (tgt := 71) C.ex C.by dX10_out_41 (by decide) (fun c8 => ?_) (fun c8 => ?_)
        · have hf := zif_t c8 hf
          cases hf
          exact z_vret C h dX10_out_71
        · have hf := zif_f c8 hf
          refine lv_aload_n C.ex C.by dX10_out_44 rfl (lv_at hl 0 rfl) ?_
          refine z_get (v := .ref (κ.2.1 14)) C h iwX10 0 (wM_at0 κ _) rfl 33 (by decide) lkM81 rfl dX10_out_45 ?_
          refine lv_aload_n C.ex C.by dX10_out_48 rfl (lv_at hl 0 rfl) ?_
          refine z_get (v := .int (zI σ 6)) C h iwX10 0 (wM_at0 κ _) rfl 16 (by decide) lkM9 rfl dX10_out_49 ?_
          refine lv_iconst (v := 1) C.ex C.by dX10_out_52 (by decide) ?_
          refine lv_isub C.ex C.by dX10_out_53 ?_
          refine lv_dup2_11 C.ex C.by dX10_out_54 rfl rfl ?_
          obtain ⟨h9, hf⟩ := zg_some hf
          refine z_lald (f := (zL σ 3)) C h 14 (wM_at14 κ _) h9 dX10_out_55 ?_
          refine lv_aload_n C.ex C.by dX10_out_56 rfl (lv_at hl 0 rfl) ?_
          refine z_get (v := .ref (κ.2.1 1)) C h iwX10 0 (wM_at0 κ _) rfl 4 (by decide) lkM40 rfl dX10_out_57 ?_
          refine lv_iload_n C.ex C.by dX10_out_60 rfl (lv_at hl 1 rfl) ?_
          refine lv_aload_n C.ex C.by dX10_out_61 rfl (lv_at hl 0 rfl) ?_
          refine z_get (v := .int (zI σ 6)) C h iwX10 0 (wM_at0 κ _) rfl 16 (by decide) lkM9 rfl dX10_out_62 ?_
          refine lv_iadd C.ex C.by dX10_out_65 ?_
          refine lv_iconst (v := 1) C.ex C.by dX10_out_66 (by decide) ?_
          refine lv_isub C.ex C.by dX10_out_67 ?_
          obtain ⟨h10, hf⟩ := zg_some hf
          refine z_lald (f := (zL σ 0)) C h 1 (wM_at1 κ _) h10 dX10_out_68 ?_
          refine lv_ladd C.ex C.by dX10_out_69 ?_
          obtain ⟨h11, hf⟩ := zg_some hf
          refine z_last (f := (zL σ 3)) C h 14 (wM_at14 κ _) h11 (sL σ 3 (vp_updL (zL σ 3) (Int32.toNatClampNeg ((zI σ 6) - 1)) (((zL σ 3) (Int32.toNatClampNeg ((zI σ 6) - 1))) + ((zL σ 0) (Int32.toNatClampNeg ((x1 + (zI σ 6)) - 1)))))) (wM_s14 κ _ _) dX10_out_70 (fun H locs h => ?_)
          cases hf
          exact z_vret C h dX10_out_71
  · have hf := zif_t c1 hf
    refine lv_aload_n C.ex C.by dX10_out_7 rfl (lv_at hl 0 rfl) ?_
    refine lv_aload_n C.ex C.by dX10_out_8 rfl (lv_at hl 0 rfl) ?_
    refine z_get (v := .ref (κ.2.1 1)) C h iwX10 0 (wM_at0 κ _) rfl 4 (by decide) lkM40 rfl dX10_out_9 ?_
    refine lv_iload_n C.ex C.by dX10_out_12 rfl (lv_at hl 1 rfl) ?_
    obtain ⟨q12, e13, hf⟩ := zb_some hf
    refine z_callVv (As := [.ref (κ.2.1 1), .int x1]) C h (ctX10_toPage_p1 e13) (zgV lkM89 lkM90 lkM91 lkM2 lkM92) ⟨rfl, rfl⟩ hdX10_toPage ⟨Nat.le_of_ble_eq_true rfl, Nat.le_of_ble_eq_true rfl⟩ 0 (wM_at0 κ _) rfl hl rfl rfl (Nat.le_of_ble_eq_true rfl) dX10_out_13 ⟨Nat.zero_le _, Nat.zero_le _⟩ (fun H locs h => ?_)
    cases hf
    exact z_vret C h dX10_out_16
theorem ctX10_out {l : Launch} {κ : zG} {n : Nat} {σ : zS} {x1 : Int32} {r : zS} (hf : fX10_out_0 n σ x1 = some r) : zMv l yX10_out (Cond.code yX10_out cX10_out 3 none) rmX10_out wM κ [.ref (κ.2.1 0), .int x1] σ r :=
  zMv_of (by decide) (Nat.le_of_ble_eq_true rfl) (fun p e s m below meth c A C h ls hl => wX10_out_0 C h hl hf)
theorem hdX10_asTheyAre : yX10_asTheyAre.cls = RX10 ∧ yX10_asTheyAre.cls ≠ "java/lang/invoke/MethodHandle" ∧ yX10_asTheyAre.cls ≠ "java/lang/invoke/VarHandle" ∧ (parseMethodDescriptor yX10_asTheyAre.desc).map (fun d => d.parameters.length) = some 0 := by decide +kernel
abbrev rmX10_asTheyAre : Room := { frames := 5, cells := 0, slots := 0, locals := 112 }
set_option maxRecDepth 20000 in
set_option maxHeartbeats 4000000 in
theorem wX10_asTheyAre_L7_72 {p : Program} {l : Launch} {e : Env} {s : State} {m : MethodId} {args : Array Value} {below : List Frame} {meth : Method} {c : Code} {A : Nat → Prop} {κ : zG} {H : Heap} {locs : List Loc} {ls : Array Slot} {Q : State → Prop} {n : Nat} {σ : zS} {x2 : Int32} {r : (Int32 × Int32 × zS) ⊕ (Int32 × zS)} (C : zC cX10_asTheyAre 4 none RX10 κ A p s m args meth c) (h : zH wM κ A s σ H locs) (hl : lv_has ls 4 [(0, .ref (κ.2.1 0)), (2, .int x2)]) (hf : fX10_asTheyAre_L7_72 n σ x2 = some r) (Kc : ∀ (v1 : Int32) (v2 : Int32) (σ1 : zS), r = .inl (v1, v2, σ1) → ∀ (H : Heap) (locs : List Loc) (ls : Array Slot), zH wM κ A s σ1 H locs → lv_has ls 4 [(0, .ref (κ.2.1 0)), (1, .int v1), (2, .int v2)] → W p l e rmX10_asTheyAre s m args below meth c H locs 0 0 Q (F0 m 7 ls [])) (Ke0 : ∀ (v1 : Int32) (σ1 : zS), r = .inr (v1, σ1) → ∀ (H : Heap) (locs : List Loc) (ls : Array Slot), zH wM κ A s σ1 H locs → lv_has ls 4 [(0, .ref (κ.2.1 0)), (1, .int v1)] → W p l e rmX10_asTheyAre s m args below meth c H locs 0 0 Q (F0 m 82 ls [])) : W p l e rmX10_asTheyAre s m args below meth c H locs 0 0 Q (F0 m 72 ls []) := by
  unfold fX10_asTheyAre_L7_72 at hf
  refine lv_iload_n C.ex C.by dX10_asTheyAre_72 rfl (lv_at hl 1 rfl) ?_
  refine lv_istore_n (lv' := [(1, .int x2), (0, .ref (κ.2.1 0)), (2, .int x2)]) C.ex C.by dX10_asTheyAre_73 rfl hl (by decide) rfl (fun ls hl => ?_)
  refine lv_aload_n C.ex C.by dX10_asTheyAre_74 rfl (lv_at hl 1 rfl) ?_
  obtain ⟨q19, e20, hf⟩ := zb_some hf
  refine z_callVi (As := []) C h (ctX10_nextRecord (r1 := q19.1) (r2 := q19.2) e20) (zgV lkM68 lkM69 lkM70 lkM2 lkM71) ⟨rfl, rfl⟩ hdX10_nextRecord ⟨Nat.le_of_ble_eq_true rfl, Nat.le_of_ble_eq_true rfl⟩ 0 (wM_at0 κ _) rfl hl rfl rfl (Nat.le_of_ble_eq_true rfl) dX10_asTheyAre_75 ⟨Nat.zero_le _, Nat.zero_le _⟩ (fun H locs h => ?_)
  refine lv_istore_n (lv' := [(2, .int q19.1), (1, .int x2), (0, .ref (κ.2.1 0))]) C.ex C.by dX10_asTheyAre_78 rfl hl (by decide) rfl (fun ls hl => ?_)
  refine lv_goto (tgt := 7) C.ex C.by dX10_asTheyAre_79 (by decide) ?_
  exact Kc _ _ _ (Option.some.inj hf).symm _ _ _ h (lv_sub hl [2, 1, 0] rfl)
set_option maxRecDepth 20000 in
set_option maxHeartbeats 4000000 in
theorem wX10_asTheyAre_L7_60 {p : Program} {l : Launch} {e : Env} {s : State} {m : MethodId} {args : Array Value} {below : List Frame} {meth : Method} {c : Code} {A : Nat → Prop} {κ : zG} {H : Heap} {locs : List Loc} {ls : Array Slot} {Q : State → Prop} {n : Nat} {σ : zS} {x2 : Int32} {r : (Int32 × Int32 × zS) ⊕ (Int32 × zS)} (C : zC cX10_asTheyAre 4 none RX10 κ A p s m args meth c) (h : zH wM κ A s σ H locs) (hl : lv_has ls 4 [(0, .ref (κ.2.1 0)), (2, .int x2)]) (hf : fX10_asTheyAre_L7_60 n σ x2 = some r) (Kc : ∀ (v1 : Int32) (v2 : Int32) (σ1 : zS), r = .inl (v1, v2, σ1) → ∀ (H : Heap) (locs : List Loc) (ls : Array Slot), zH wM κ A s σ1 H locs → lv_has ls 4 [(0, .ref (κ.2.1 0)), (1, .int v1), (2, .int v2)] → W p l e rmX10_asTheyAre s m args below meth c H locs 0 0 Q (F0 m 7 ls [])) (Ke0 : ∀ (v1 : Int32) (σ1 : zS), r = .inr (v1, σ1) → ∀ (H : Heap) (locs : List Loc) (ls : Array Slot), zH wM κ A s σ1 H locs → lv_has ls 4 [(0, .ref (κ.2.1 0)), (1, .int v1)] → W p l e rmX10_asTheyAre s m args below meth c H locs 0 0 Q (F0 m 82 ls [])) : W p l e rmX10_asTheyAre s m args below meth c H locs 0 0 Q (F0 m 60 ls []) := by
  unfold fX10_asTheyAre_L7_60 at hf
  refine lv_aload_n C.ex C.by dX10_asTheyAre_60 rfl (lv_at hl 0 rfl) ?_
  refine z_get (v := .int (zI σ 17)) C h iwX10 0 (wM_at0 κ _) rfl 29 (by decide) lkM17 rfl dX10_asTheyAre_61 ?_
  refine lv_if_ne (tgt := 72) C.ex C.by dX10_asTheyAre_64 (by decide) (fun c16 => ?_) (fun c16 => ?_)
  · have hf := zif_f c16 hf
    exact wX10_asTheyAre_L7_72 C h hl hf Kc Ke0
  · have hf := zif_t c16 hf
    refine lv_aload_n C.ex C.by dX10_asTheyAre_67 rfl (lv_at hl 0 rfl) ?_
    refine lv_iload_n C.ex C.by dX10_asTheyAre_68 rfl (lv_at hl 1 rfl) ?_
    obtain ⟨q17, e18, hf⟩ := zb_some hf
    refine z_callVv (As := [.int x2]) C h (ctX10_out e18) (zgV lkM115 lkM116 lkM117 lkM2 lkM118) ⟨rfl, rfl⟩ hdX10_out ⟨Nat.le_of_ble_eq_true rfl, Nat.le_of_ble_eq_true rfl⟩ 0 (wM_at0 κ _) rfl hl rfl rfl (Nat.le_of_ble_eq_true rfl) dX10_asTheyAre_69 ⟨Nat.zero_le _, Nat.zero_le _⟩ (fun H locs h => ?_)
    exact wX10_asTheyAre_L7_72 C h hl hf Kc Ke0
set_option maxRecDepth 20000 in
set_option maxHeartbeats 4000000 in
theorem wX10_asTheyAre_L7_45 {p : Program} {l : Launch} {e : Env} {s : State} {m : MethodId} {args : Array Value} {below : List Frame} {meth : Method} {c : Code} {A : Nat → Prop} {κ : zG} {H : Heap} {locs : List Loc} {ls : Array Slot} {Q : State → Prop} {n : Nat} {σ : zS} {x2 : Int32} {x3 : Int32} {r : (Int32 × Int32 × zS) ⊕ (Int32 × zS)} (C : zC cX10_asTheyAre 4 none RX10 κ A p s m args meth c) (h : zH wM κ A s σ H locs) (hl : lv_has ls 4 [(0, .ref (κ.2.1 0)), (2, .int x2), (3, .int x3)]) (hf : fX10_asTheyAre_L7_45 n σ x2 x3 = some r) (Kc : ∀ (v1 : Int32) (v2 : Int32) (σ1 : zS), r = .inl (v1, v2, σ1) → ∀ (H : Heap) (locs : List Loc) (ls : Array Slot), zH wM κ A s σ1 H locs → lv_has ls 4 [(0, .ref (κ.2.1 0)), (1, .int v1), (2, .int v2)] → W p l e rmX10_asTheyAre s m args below meth c H locs 0 0 Q (F0 m 7 ls [])) (Ke0 : ∀ (v1 : Int32) (σ1 : zS), r = .inr (v1, σ1) → ∀ (H : Heap) (locs : List Loc) (ls : Array Slot), zH wM κ A s σ1 H locs → lv_has ls 4 [(0, .ref (κ.2.1 0)), (1, .int v1)] → W p l e rmX10_asTheyAre s m args below meth c H locs 0 0 Q (F0 m 82 ls [])) : W p l e rmX10_asTheyAre s m args below meth c H locs 0 0 Q (F0 m 45 ls []) := by
  unfold fX10_asTheyAre_L7_45 at hf
  refine lv_iload_n C.ex C.by dX10_asTheyAre_45 rfl (lv_at hl 2 rfl) ?_
  refine lv_if_eq (tgt := 60) C.ex C.by dX10_asTheyAre_46 (by decide) (fun c12 => ?_) (fun c12 => ?_)
  · have hf := zif_t c12 hf
    exact wX10_asTheyAre_L7_60 C h (lv_sub hl [0, 1] rfl) hf Kc Ke0
  · have hf := zif_f c12 hf
    refine lv_aload_n C.ex C.by dX10_asTheyAre_49 rfl (lv_at hl 0 rfl) ?_
    refine z_get (v := .int (zI σ 17)) C h iwX10 0 (wM_at0 κ _) rfl 29 (by decide) lkM17 rfl dX10_asTheyAre_50 ?_
    refine lv_if_ne (tgt := 60) C.ex C.by dX10_asTheyAre_53 (by decide) (fun c13 => ?_) (fun c13 => ?_)
    · have hf := zif_f c13 hf
      exact wX10_asTheyAre_L7_60 C h (lv_sub hl [0, 1] rfl) hf Kc Ke0
    · have hf := zif_t c13 hf
      refine lv_aload_n C.ex C.by dX10_asTheyAre_56 rfl (lv_at hl 0 rfl) ?_
      obtain ⟨q14, e15, hf⟩ := zb_some hf
      refine z_callVv (As := []) C h (ctX10_nextRun e15) (zgV lkM107 lkM108 lkM109 lkM2 lkM110) ⟨rfl, rfl⟩ hdX10_nextRun ⟨Nat.le_of_ble_eq_true rfl, Nat.le_of_ble_eq_true rfl⟩ 0 (wM_at0 κ _) rfl hl rfl rfl (Nat.le_of_ble_eq_true rfl) dX10_asTheyAre_57 ⟨Nat.zero_le _, Nat.zero_le _⟩ (fun H locs h => ?_)
      exact wX10_asTheyAre_L7_60 C h (lv_sub hl [0, 1] rfl) hf Kc Ke0
set_option maxRecDepth 20000 in
set_option maxHeartbeats 4000000 in
theorem wX10_asTheyAre_L7_31 {p : Program} {l : Launch} {e : Env} {s : State} {m : MethodId} {args : Array Value} {below : List Frame} {meth : Method} {c : Code} {A : Nat → Prop} {κ : zG} {H : Heap} {locs : List Loc} {ls : Array Slot} {Q : State → Prop} {n : Nat} {σ : zS} {x1 : Int32} {x2 : Int32} {y0 : Int32} {r : (Int32 × Int32 × zS) ⊕ (Int32 × zS)} (C : zC cX10_asTheyAre 4 none RX10 κ A p s m args meth c) (h : zH wM κ A s σ H locs) (hl : lv_has ls 4 [(0, .ref (κ.2.1 0)), (1, .int x1), (2, .int x2)]) (hf : fX10_asTheyAre_L7_31 n σ x1 x2 y0 = some r) (Kc : ∀ (v1 : Int32) (v2 : Int32) (σ1 : zS), r = .inl (v1, v2, σ1) → ∀ (H : Heap) (locs : List Loc) (ls : Array Slot), zH wM κ A s σ1 H locs → lv_has ls 4 [(0, .ref (κ.2.1 0)), (1, .int v1), (2, .int v2)] → W p l e rmX10_asTheyAre s m args below meth c H locs 0 0 Q (F0 m 7 ls [])) (Ke0 : ∀ (v1 : Int32) (σ1 : zS), r = .inr (v1, σ1) → ∀ (H : Heap) (locs : List Loc) (ls : Array Slot), zH wM κ A s σ1 H locs → lv_has ls 4 [(0, .ref (κ.2.1 0)), (1, .int v1)] → W p l e rmX10_asTheyAre s m args below meth c H locs 0 0 Q (F0 m 82 ls [])) : W p l e rmX10_asTheyAre s m args below meth c H locs 0 0 Q (F0 m 31 ls [.int y0]) := by
  unfold fX10_asTheyAre_L7_31 at hf
  refine lv_istore_n (lv' := [(3, .int y0), (0, .ref (κ.2.1 0)), (1, .int x1), (2, .int x2)]) C.ex C.by dX10_asTheyAre_31 rfl hl (by decide) rfl (fun ls hl => ?_)
  refine lv_iload_n C.ex C.by dX10_asTheyAre_32 rfl (lv_at hl 0 rfl) ?_
  refine lv_if_eq (tgt := 45) C.ex C.by dX10_asTheyAre_33 (by decide) (fun c8 => ?_) (fun c8 => ?_)
  · have hf := zif_t c8 hf
    exact wX10_asTheyAre_L7_45 C h (lv_sub hl [1, 3, 0] rfl) hf Kc Ke0
  · have hf := zif_f c8 hf
    refine lv_iload_n C.ex C.by dX10_asTheyAre_36 rfl (lv_at hl 2 rfl) ?_
    refine lv_iconst (v := (-1)) C.ex C.by dX10_asTheyAre_37 (by decide) ?_
    refine lv_icmp_eq (tgt := 45) C.ex C.by dX10_asTheyAre_38 (by decide) (fun c9 => ?_) (fun c9 => ?_)
    · have hf := zif_t c9 hf
      exact wX10_asTheyAre_L7_45 C h (lv_sub hl [1, 3, 0] rfl) hf Kc Ke0
    · have hf := zif_f c9 hf
      refine lv_aload_n C.ex C.by dX10_asTheyAre_41 rfl (lv_at hl 1 rfl) ?_
      obtain ⟨q10, e11, hf⟩ := zb_some hf
      refine z_callVv (As := []) C h (ctX10_endRun e11) (zgV lkM93 lkM94 lkM95 lkM2 lkM96) ⟨rfl, rfl⟩ hdX10_endRun ⟨Nat.le_of_ble_eq_true rfl, Nat.le_of_ble_eq_true rfl⟩ 0 (wM_at0 κ _) rfl hl rfl rfl (Nat.le_of_ble_eq_true rfl) dX10_asTheyAre_42 ⟨Nat.zero_le _, Nat.zero_le _⟩ (fun H locs h => ?_)
      exact wX10_asTheyAre_L7_45 C h (lv_sub hl [1, 3, 0] rfl) hf Kc Ke0
set_option maxRecDepth 20000 in
set_option maxHeartbeats 4000000 in
theorem wX10_asTheyAre_L7_26 {p : Program} {l : Launch} {e : Env} {s : State} {m : MethodId} {args : Array Value} {below : List Frame} {meth : Method} {c : Code} {A : Nat → Prop} {κ : zG} {H : Heap} {locs : List Loc} {ls : Array Slot} {Q : State → Prop} {n : Nat} {σ : zS} {x1 : Int32} {x2 : Int32} {r : (Int32 × Int32 × zS) ⊕ (Int32 × zS)} (C : zC cX10_asTheyAre 4 none RX10 κ A p s m args meth c) (h : zH wM κ A s σ H locs) (hl : lv_has ls 4 [(0, .ref (κ.2.1 0)), (1, .int x1), (2, .int x2)]) (hf : fX10_asTheyAre_L7_26 n σ x1 x2 = some r) (Kc : ∀ (v1 : Int32) (v2 : Int32) (σ1 : zS), r = .inl (v1, v2, σ1) → ∀ (H : Heap) (locs : List Loc) (ls : Array Slot), zH wM κ A s σ1 H locs → lv_has ls 4 [(0, .ref (κ.2.1 0)), (1, .int v1), (2, .int v2)] → W p l e rmX10_asTheyAre s m args below meth c H locs 0 0 Q (F0 m 7 ls [])) (Ke0 : ∀ (v1 : Int32) (σ1 : zS), r = .inr (v1, σ1) → ∀ (H : Heap) (locs : List Loc) (ls : Array Slot), zH wM κ A s σ1 H locs → lv_has ls 4 [(0, .ref (κ.2.1 0)), (1, .int v1)] → W p l e rmX10_asTheyAre s m args below meth c H locs 0 0 Q (F0 m 82 ls [])) : W p l e rmX10_asTheyAre s m args below meth c H locs 0 0 Q (F0 m 26 ls []) := by
  unfold fX10_asTheyAre_L7_26 at hf
  refine lv_iconst (v := 1) C.ex C.by dX10_asTheyAre_26 (by decide) ?_
  refine lv_goto (tgt := 31) C.ex C.by dX10_asTheyAre_27 (by decide) ?_
  exact wX10_asTheyAre_L7_31 C h hl hf Kc Ke0
set_option maxRecDepth 20000 in
set_option maxHeartbeats 4000000 in
theorem wX10_asTheyAre_L7_7 {p : Program} {l : Launch} {e : Env} {s : State} {m : MethodId} {args : Array Value} {below : List Frame} {meth : Method} {c : Code} {A : Nat → Prop} {κ : zG} {H : Heap} {locs : List Loc} {ls : Array Slot} {Q : State → Prop} {n : Nat} {a : Int32 × Int32 × zS} {r : (Int32 × Int32 × zS) ⊕ (Int32 × zS)} (C : zC cX10_asTheyAre 4 none RX10 κ A p s m args meth c) (h : zH wM κ A s a.2.2 H locs) (hl : lv_has ls 4 [(0, .ref (κ.2.1 0)), (1, .int a.1), (2, .int a.2.1)]) (hf : fX10_asTheyAre_L7_7 n a = some r) (Kc : ∀ (v1 : Int32) (v2 : Int32) (σ1 : zS), r = .inl (v1, v2, σ1) → ∀ (H : Heap) (locs : List Loc) (ls : Array Slot), zH wM κ A s σ1 H locs → lv_has ls 4 [(0, .ref (κ.2.1 0)), (1, .int v1), (2, .int v2)] → W p l e rmX10_asTheyAre s m args below meth c H locs 0 0 Q (F0 m 7 ls [])) (Ke0 : ∀ (v1 : Int32) (σ1 : zS), r = .inr (v1, σ1) → ∀ (H : Heap) (locs : List Loc) (ls : Array Slot), zH wM κ A s σ1 H locs → lv_has ls 4 [(0, .ref (κ.2.1 0)), (1, .int v1)] → W p l e rmX10_asTheyAre s m args below meth c H locs 0 0 Q (F0 m 82 ls [])) : W p l e rmX10_asTheyAre s m args below meth c H locs 0 0 Q (F0 m 7 ls []) := by
  unfold fX10_asTheyAre_L7_7 at hf
  refine lv_iload_n C.ex C.by dX10_asTheyAre_7 rfl (lv_at hl 2 rfl) ?_
  refine lv_iconst (v := (-1)) C.ex C.by dX10_asTheyAre_8 (by decide) ?_
  refine lv_icmp_eq (tgt := 82) C.ex C.by dX10_asTheyAre_9 (by decide) (fun c3 => ?_) (fun c3 => ?_)
  · have hf := zif_t c3 hf
    exact Ke0 _ _ (Option.some.inj hf).symm _ _ _ h (lv_sub hl [0, 1] rfl)
  · have hf := zif_f c3 hf
    refine lv_iload_n C.ex C.by dX10_asTheyAre_12 rfl (lv_at hl 1 rfl) ?_
    refine lv_iconst (v := (-1)) C.ex C.by dX10_asTheyAre_13 (by decide) ?_
    refine lv_icmp_eq (tgt := 26) C.ex C.by dX10_asTheyAre_14 (by decide) (fun c4 => ?_) (fun c4 => ?_)
    · have hf := zif_t c4 hf
      exact wX10_asTheyAre_L7_26 C h hl hf Kc Ke0
    · have hf := zif_f c4 hf
      refine lv_aload_n C.ex C.by dX10_asTheyAre_17 rfl (lv_at hl 0 rfl) ?_
      refine lv_iload_n C.ex C.by dX10_asTheyAre_18 rfl (lv_at hl 2 rfl) ?_
      refine lv_iload_n C.ex C.by dX10_asTheyAre_19 rfl (lv_at hl 1 rfl) ?_
      obtain ⟨q5, e6, hf⟩ := zb_some hf
      refine z_callVi (As := [.int a.2.1, .int a.1]) C h (ctX10_before e6) (zgV lkM76 lkM77 lkM78 lkM2 lkM79) ⟨rfl, rfl⟩ hdX10_before ⟨Nat.le_of_ble_eq_true rfl, Nat.le_of_ble_eq_true rfl⟩ 0 (wM_at0 κ _) rfl hl rfl rfl (Nat.le_of_ble_eq_true rfl) dX10_asTheyAre_20 ⟨Nat.zero_le _, Nat.zero_le _⟩ (fun H locs h => ?_)
      refine lv_if_eq (tgt := 30) C.ex C.by dX10_asTheyAre_23 (by decide) (fun c7 => ?_) (fun c7 => ?_)
      · have hf := zif_t c7 hf
        refine lv_iconst (v := 0) C.ex C.by dX10_asTheyAre_30 (by decide) ?_
        exact wX10_asTheyAre_L7_31 C h hl hf Kc Ke0
      · have hf := zif_f c7 hf
        exact wX10_asTheyAre_L7_26 C h hl hf Kc Ke0
theorem wlX10_asTheyAre_7 {p : Program} {l : Launch} {e : Env} {s : State} {m : MethodId} {args : Array Value} {below : List Frame} {meth : Method} {c : Code} {A : Nat → Prop} {κ : zG} {H : Heap} {locs : List Loc} {ls : Array Slot} {Q : State → Prop} {n : Nat} {k0 : Nat} {u1 : Int32} {u2 : Int32} {σ1 : zS} (C : zC cX10_asTheyAre 4 none RX10 κ A p s m args meth c) (h : zH wM κ A s σ1 H locs) (hl : lv_has ls 4 [(0, .ref (κ.2.1 0)), (1, .int u1), (2, .int u2)]) (b : Int32 × zS) (hb : zlp (fX10_asTheyAre_L7_7 n) k0 (u1, u2, σ1) = some b) (K : (fun b : Int32 × zS => ∀ (H : Heap) (locs : List Loc) (ls : Array Slot), zH wM κ A s b.2 H locs → lv_has ls 4 [(0, .ref (κ.2.1 0)), (1, .int b.1)] → W p l e rmX10_asTheyAre s m args below meth c H locs 0 0 Q (F0 m 82 ls [])) b) : W p l e rmX10_asTheyAre s m args below meth c H locs 0 0 Q (F0 m 7 ls []) :=
  z_loop (body := fX10_asTheyAre_L7_7 n) (Wd := (fun a : Int32 × Int32 × zS => ∀ (H : Heap) (locs : List Loc) (ls : Array Slot), zH wM κ A s a.2.2 H locs → lv_has ls 4 [(0, .ref (κ.2.1 0)), (1, .int a.1), (2, .int a.2.1)] → W p l e rmX10_asTheyAre s m args below meth c H locs 0 0 Q (F0 m 7 ls []))) (Ex := (fun b : Int32 × zS => (fun b : Int32 × zS => ∀ (H : Heap) (locs : List Loc) (ls : Array Slot), zH wM κ A s b.2 H locs → lv_has ls 4 [(0, .ref (κ.2.1 0)), (1, .int b.1)] → W p l e rmX10_asTheyAre s m args below meth c H locs 0 0 Q (F0 m 82 ls [])) b)) (fun a r hr Kc Ke H locs ls h hl => wX10_asTheyAre_L7_7 C h hl hr (fun v1 v2 σ1 e => Kc (v1, v2, σ1) e) (fun v1 σ1 e => Ke (v1, σ1) e)) k0 (u1, u2, σ1) b hb K H locs ls h hl
set_option maxRecDepth 20000 in
set_option maxHeartbeats 4000000 in
theorem wX10_asTheyAre_0 {p : Program} {l : Launch} {e : Env} {s : State} {m : MethodId} {args : Array Value} {below : List Frame} {meth : Method} {c : Code} {A : Nat → Prop} {κ : zG} {H : Heap} {locs : List Loc} {ls : Array Slot} {n : Nat} {σ : zS} {r : zS} (C : zC cX10_asTheyAre 4 none RX10 κ A p s m args meth c) (h : zH wM κ A s σ H locs) (hl : lv_has ls 4 [(0, .ref (κ.2.1 0))]) (hf : fX10_asTheyAre_0 n σ = some r) : W p l e rmX10_asTheyAre s m args below meth c H locs 0 0 (MQ below (zQv wM κ A r) args s 0 0 A) (F0 m 0 ls []) := by
  unfold fX10_asTheyAre_0 at hf
  refine lv_iconst (v := (-1)) C.ex C.by dX10_asTheyAre_0 (by decide) ?_
  refine lv_istore_n (lv' := [(1, .int (-1)), (0, .ref (κ.2.1 0))]) C.ex C.by dX10_asTheyAre_1 rfl hl (by decide) rfl (fun ls hl => ?_)
  refine lv_aload_n C.ex C.by dX10_asTheyAre_2 rfl (lv_at hl 1 rfl) ?_
  obtain ⟨q1, e2, hf⟩ := zb_some hf
  refine z_callVi (As := []) C h (ctX10_nextRecord (r1 := q1.1) (r2 := q1.2) e2) (zgV lkM68 lkM69 lkM70 lkM2 lkM71) ⟨rfl, rfl⟩ hdX10_nextRecord ⟨Nat.le_of_ble_eq_true rfl, Nat.le_of_ble_eq_true rfl⟩ 0 (wM_at0 κ _) rfl hl rfl rfl (Nat.le_of_ble_eq_true rfl) dX10_asTheyAre_3 ⟨Nat.zero_le _, Nat.zero_le _⟩ (fun H locs h => ?_)
  refine lv_istore_n (lv' := [(2, .int q1.1), (1, .int (-1)), (0, .ref (κ.2.1 0))]) C.ex C.by dX10_asTheyAre_6 rfl hl (by decide) rfl (fun ls hl => ?_)
  obtain ⟨b21, e22, hf⟩ := zb_some hf
  refine wlX10_asTheyAre_7 C h (lv_sub hl [2, 1, 0] rfl) b21 e22 ?_
  intro H locs ls h hl
  refine lv_iload_n C.ex C.by dX10_asTheyAre_82 rfl (lv_at hl 1 rfl) ?_
  refine lv_iconst (v := (-1)) C.ex C.by dX10_asTheyAre_83 (by decide) ?_
  refine lv_icmp_eq (tgt := 98) C.ex C.by dX10_asTheyAre_84 (by decide) (fun c23 => ?_) (fun c23 => ?_)
  · have hf := zif_t c23 hf
    cases hf
    exact z_vret C h dX10_asTheyAre_98
  · have hf := zif_f c23 hf
    refine lv_aload_n C.ex C.by dX10_asTheyAre_87 rfl (lv_at hl 0 rfl) ?_
    refine z_get (v := .int (zI b21.2 17)) C h iwX10 0 (wM_at0 κ _) rfl 29 (by decide) lkM17 rfl dX10_asTheyAre_88 ?_
    refine lv_if_ne (tgt := 98) C.ex C.by dX10_asTheyAre_91 (by decide) (fun c24 => ?_) (fun c24 => ?_)
    · have hf := zif_f c24 hf
      cases hf
      exact z_vret C h dX10_asTheyAre_98
    · have hf := zif_t c24 hf
      refine lv_aload_n C.ex C.by dX10_asTheyAre_94 rfl (lv_at hl 0 rfl) ?_
      obtain ⟨q25, e26, hf⟩ := zb_some hf
      refine z_callVv (As := []) C h (ctX10_endRun e26) (zgV lkM93 lkM94 lkM95 lkM2 lkM96) ⟨rfl, rfl⟩ hdX10_endRun ⟨Nat.le_of_ble_eq_true rfl, Nat.le_of_ble_eq_true rfl⟩ 0 (wM_at0 κ _) rfl hl rfl rfl (Nat.le_of_ble_eq_true rfl) dX10_asTheyAre_95 ⟨Nat.zero_le _, Nat.zero_le _⟩ (fun H locs h => ?_)
      cases hf
      exact z_vret C h dX10_asTheyAre_98
theorem ctX10_asTheyAre {l : Launch} {κ : zG} {n : Nat} {σ : zS} {r : zS} (hf : fX10_asTheyAre_0 n σ = some r) : zMv l yX10_asTheyAre (Cond.code yX10_asTheyAre cX10_asTheyAre 4 none) rmX10_asTheyAre wM κ [.ref (κ.2.1 0)] σ r :=
  zMv_of (by decide) (Nat.le_of_ble_eq_true rfl) (fun p e s m below meth c A C h ls hl => wX10_asTheyAre_0 C h hl hf)
theorem hdX10_fill : yX10_fill.cls = RX10 ∧ yX10_fill.cls ≠ "java/lang/invoke/MethodHandle" ∧ yX10_fill.cls ≠ "java/lang/invoke/VarHandle" ∧ (parseMethodDescriptor yX10_fill.desc).map (fun d => d.parameters.length) = some 0 := by decide +kernel
abbrev rmX10_fill : Room := { frames := 3, cells := 0, slots := 0, locals := 63 }
set_option maxRecDepth 20000 in
set_option maxHeartbeats 4000000 in
theorem wX10_fill_L5_5 {p : Program} {l : Launch} {e : Env} {s : State} {m : MethodId} {args : Array Value} {below : List Frame} {meth : Method} {c : Code} {A : Nat → Prop} {κ : zG} {H : Heap} {locs : List Loc} {ls : Array Slot} {Q : State → Prop} {n : Nat} {a : zS} {r : (zS) ⊕ (zS)} (C : zC cX10_fill 1 none RX10 κ A p s m args meth c) (h : zH wM κ A s a H locs) (hl : lv_has ls 1 [(0, .ref (κ.2.1 0))]) (hf : fX10_fill_L5_5 n a = some r) (Kc : ∀ (σ1 : zS), r = .inl σ1 → ∀ (H : Heap) (locs : List Loc) (ls : Array Slot), zH wM κ A s σ1 H locs → lv_has ls 1 [(0, .ref (κ.2.1 0))] → W p l e rmX10_fill s m args below meth c H locs 0 0 Q (F0 m 5 ls [])) (Ke0 : ∀ (σ1 : zS), r = .inr σ1 → ∀ (H : Heap) (locs : List Loc) (ls : Array Slot), zH wM κ A s σ1 H locs → lv_has ls 1 [(0, .ref (κ.2.1 0))] → W p l e rmX10_fill s m args below meth c H locs 0 0 Q (F0 m 59 ls [])) : W p l e rmX10_fill s m args below meth c H locs 0 0 Q (F0 m 5 ls []) := by
  unfold fX10_fill_L5_5 at hf
  refine lv_aload_n C.ex C.by dX10_fill_5 rfl (lv_at hl 0 rfl) ?_
  refine z_get (v := .int (zI a 24)) C h iwX10 0 (wM_at0 κ _) rfl 41 (by decide) lkM62 rfl dX10_fill_6 ?_
  refine lv_aload_n C.ex C.by dX10_fill_9 rfl (lv_at hl 0 rfl) ?_
  refine z_get (v := .int (zI a 3)) C h iwX10 0 (wM_at0 κ _) rfl 3 (by decide) lkM123 rfl dX10_fill_10 ?_
  refine lv_icmp_ge (tgt := 59) C.ex C.by dX10_fill_13 (by decide) (fun c1 => ?_) (fun c1 => ?_)
  · have hf := zif_t c1 hf
    exact Ke0 _ (Option.some.inj hf).symm _ _ _ h hl
  · have hf := zif_f c1 hf
    refine lv_aload_n C.ex C.by dX10_fill_16 rfl (lv_at hl 0 rfl) ?_
    refine z_get (v := .int (zI a 23)) C h iwX10 0 (wM_at0 κ _) rfl 38 (by decide) lkM61 rfl dX10_fill_17 ?_
    refine lv_if_le (tgt := 59) C.ex C.by dX10_fill_20 (by decide) (fun c2 => ?_) (fun c2 => ?_)
    · have hf := zif_t c2 hf
      exact Ke0 _ (Option.some.inj hf).symm _ _ _ h hl
    · have hf := zif_f c2 hf
      refine lv_aload_n C.ex C.by dX10_fill_23 rfl (lv_at hl 0 rfl) ?_
      refine z_get (v := .ref (κ.2.1 16)) C h iwX10 0 (wM_at0 κ _) rfl 39 (by decide) lkM124 rfl dX10_fill_24 ?_
      refine lv_aload_n C.ex C.by dX10_fill_27 rfl (lv_at hl 0 rfl) ?_
      refine z_get (v := .int (zI a 24)) C h iwX10 0 (wM_at0 κ _) rfl 41 (by decide) lkM62 rfl dX10_fill_28 ?_
      refine lv_aload_n C.ex C.by dX10_fill_31 rfl (lv_at hl 0 rfl) ?_
      obtain ⟨q3, e4, hf⟩ := zb_some hf
      refine z_callVi (As := []) C h (ctX10_nextRecord (r1 := q3.1) (r2 := q3.2) e4) (zgV lkM68 lkM69 lkM70 lkM2 lkM71) ⟨rfl, rfl⟩ hdX10_nextRecord ⟨Nat.le_of_ble_eq_true rfl, Nat.le_of_ble_eq_true rfl⟩ 0 (wM_at0 κ _) rfl hl rfl rfl (Nat.le_of_ble_eq_true rfl) dX10_fill_32 ⟨Nat.zero_le _, Nat.zero_le _⟩ (fun H locs h => ?_)
      obtain ⟨h5, hf⟩ := zg_some hf
      refine z_iast (f := (zA q3.2 10)) C h 16 (wM_at16 κ _) h5 (sA q3.2 10 (upd (zA q3.2 10) (Int32.toNatClampNeg (zI a 24)) q3.1)) (wM_s16 κ _ _) dX10_fill_35 (fun H locs h => ?_)
      refine lv_aload_n C.ex C.by dX10_fill_36 rfl (lv_at hl 0 rfl) ?_
      refine z_get (v := .ref (κ.2.1 17)) C h iwX10 0 (wM_at0 κ _) rfl 40 (by decide) lkM125 rfl dX10_fill_37 ?_
      refine lv_aload_n C.ex C.by dX10_fill_40 rfl (lv_at hl 0 rfl) ?_
      refine z_get (v := .int (zI q3.2 24)) C h iwX10 0 (wM_at0 κ _) rfl 41 (by decide) lkM62 rfl dX10_fill_41 ?_
      refine lv_iconst (v := 0) C.ex C.by dX10_fill_44 (by decide) ?_
      obtain ⟨h6, hf⟩ := zg_some hf
      refine z_zast (f := (zA q3.2 11)) C h 17 (wM_at17 κ _) h6 (sA (sA q3.2 10 (upd (zA q3.2 10) (Int32.toNatClampNeg (zI a 24)) q3.1)) 11 (upd (zA q3.2 11) (Int32.toNatClampNeg (zI q3.2 24)) (vp_nar .boolean 0))) (wM_s17 κ _ _) dX10_fill_45 (fun H locs h => ?_)
      refine lv_aload_n C.ex C.by dX10_fill_46 rfl (lv_at hl 0 rfl) ?_
      refine lv_dup C.ex C.by dX10_fill_47 rfl ?_
      refine z_get (v := .int (zI q3.2 24)) C h iwX10 0 (wM_at0 κ _) rfl 41 (by decide) lkM62 rfl dX10_fill_48 ?_
      refine lv_iconst (v := 1) C.ex C.by dX10_fill_51 (by decide) ?_
      refine lv_iadd C.ex C.by dX10_fill_52 ?_
      refine z_put C h iwX10 tyX10_ok nmX10 0 (wM_at0 κ _) rfl 41 (by decide) lkM62 rfl rfl rfl (Nat.le_of_ble_eq_true rfl) (sI (sA (sA q3.2 10 (upd (zA q3.2 10) (Int32.toNatClampNeg (zI a 24)) q3.1)) 11 (upd (zA q3.2 11) (Int32.toNatClampNeg (zI q3.2 24)) (vp_nar .boolean 0))) 24 ((zI q3.2 24) + 1)) (wM_s0_41 κ _ _) dX10_fill_53 (fun H locs h => ?_)
      refine lv_goto (tgt := 5) C.ex C.by dX10_fill_56 (by decide) ?_
      exact Kc _ (Option.some.inj hf).symm _ _ _ h hl
theorem wlX10_fill_5 {p : Program} {l : Launch} {e : Env} {s : State} {m : MethodId} {args : Array Value} {below : List Frame} {meth : Method} {c : Code} {A : Nat → Prop} {κ : zG} {H : Heap} {locs : List Loc} {ls : Array Slot} {Q : State → Prop} {n : Nat} {k0 : Nat} {σ1 : zS} (C : zC cX10_fill 1 none RX10 κ A p s m args meth c) (h : zH wM κ A s σ1 H locs) (hl : lv_has ls 1 [(0, .ref (κ.2.1 0))]) (b : zS) (hb : zlp (fX10_fill_L5_5 n) k0 σ1 = some b) (K : (fun b : zS => ∀ (H : Heap) (locs : List Loc) (ls : Array Slot), zH wM κ A s b H locs → lv_has ls 1 [(0, .ref (κ.2.1 0))] → W p l e rmX10_fill s m args below meth c H locs 0 0 Q (F0 m 59 ls [])) b) : W p l e rmX10_fill s m args below meth c H locs 0 0 Q (F0 m 5 ls []) :=
  z_loop (body := fX10_fill_L5_5 n) (Wd := (fun a : zS => ∀ (H : Heap) (locs : List Loc) (ls : Array Slot), zH wM κ A s a H locs → lv_has ls 1 [(0, .ref (κ.2.1 0))] → W p l e rmX10_fill s m args below meth c H locs 0 0 Q (F0 m 5 ls []))) (Ex := (fun b : zS => (fun b : zS => ∀ (H : Heap) (locs : List Loc) (ls : Array Slot), zH wM κ A s b H locs → lv_has ls 1 [(0, .ref (κ.2.1 0))] → W p l e rmX10_fill s m args below meth c H locs 0 0 Q (F0 m 59 ls [])) b)) (fun a r hr Kc Ke H locs ls h hl => wX10_fill_L5_5 C h hl hr (fun σ1 e => Kc σ1 e) (fun σ1 e => Ke σ1 e)) k0 σ1 b hb K H locs ls h hl
set_option maxRecDepth 20000 in
set_option maxHeartbeats 4000000 in
theorem wX10_fill_0 {p : Program} {l : Launch} {e : Env} {s : State} {m : MethodId} {args : Array Value} {below : List Frame} {meth : Method} {c : Code} {A : Nat → Prop} {κ : zG} {H : Heap} {locs : List Loc} {ls : Array Slot} {n : Nat} {σ : zS} {r : zS} (C : zC cX10_fill 1 none RX10 κ A p s m args meth c) (h : zH wM κ A s σ H locs) (hl : lv_has ls 1 [(0, .ref (κ.2.1 0))]) (hf : fX10_fill_0 n σ = some r) : W p l e rmX10_fill s m args below meth c H locs 0 0 (MQ below (zQv wM κ A r) args s 0 0 A) (F0 m 0 ls []) := by
  unfold fX10_fill_0 at hf
  refine lv_aload_n C.ex C.by dX10_fill_0 rfl (lv_at hl 0 rfl) ?_
  refine lv_iconst (v := 0) C.ex C.by dX10_fill_1 (by decide) ?_
  refine z_put C h iwX10 tyX10_ok nmX10 0 (wM_at0 κ _) rfl 41 (by decide) lkM62 rfl rfl rfl (Nat.le_of_ble_eq_true rfl) (sI σ 24 0) (wM_s0_41 κ _ _) dX10_fill_2 (fun H locs h => ?_)
  obtain ⟨b7, e8, hf⟩ := zb_some hf
  refine wlX10_fill_5 C h hl b7 e8 ?_
  intro H locs ls h hl
  cases hf
  exact z_vret C h dX10_fill_59
theorem ctX10_fill {l : Launch} {κ : zG} {n : Nat} {σ : zS} {r : zS} (hf : fX10_fill_0 n σ = some r) : zMv l yX10_fill (Cond.code yX10_fill cX10_fill 1 none) rmX10_fill wM κ [.ref (κ.2.1 0)] σ r :=
  zMv_of (by decide) (Nat.le_of_ble_eq_true rfl) (fun p e s m below meth c A C h ls hl => wX10_fill_0 C h hl hf)
theorem hdX10_firstHeld : yX10_firstHeld.cls = RX10 ∧ yX10_firstHeld.cls ≠ "java/lang/invoke/MethodHandle" ∧ yX10_firstHeld.cls ≠ "java/lang/invoke/VarHandle" ∧ (parseMethodDescriptor yX10_firstHeld.desc).map (fun d => d.parameters.length) = some 0 := by decide +kernel
abbrev rmX10_firstHeld : Room := { frames := 2, cells := 0, slots := 0, locals := 53 }
set_option maxRecDepth 20000 in
set_option maxHeartbeats 4000000 in
theorem wX10_firstHeld_L4_53 {p : Program} {l : Launch} {e : Env} {s : State} {m : MethodId} {args : Array Value} {below : List Frame} {meth : Method} {c : Code} {A : Nat → Prop} {κ : zG} {H : Heap} {locs : List Loc} {ls : Array Slot} {Q : State → Prop} {n : Nat} {σ : zS} {x1 : Int32} {x2 : Int32} {r : (Int32 × Int32) ⊕ (Int32)} (C : zC cX10_firstHeld 3 (some .int) RX10 κ A p s m args meth c) (h : zH wM κ A s σ H locs) (hl : lv_has ls 3 [(0, .ref (κ.2.1 0)), (1, .int x1), (2, .int x2)]) (hf : fX10_firstHeld_L4_53 n σ x1 x2 = some r) (Kc : ∀ (v1 : Int32) (v2 : Int32), r = .inl (v1, v2) → ∀ (H : Heap) (locs : List Loc) (ls : Array Slot), zH wM κ A s σ H locs → lv_has ls 3 [(0, .ref (κ.2.1 0)), (1, .int v1), (2, .int v2)] → W p l e rmX10_firstHeld s m args below meth c H locs 0 0 Q (F0 m 4 ls [])) (Ke0 : ∀ (v1 : Int32), r = .inr v1 → ∀ (H : Heap) (locs : List Loc) (ls : Array Slot), zH wM κ A s σ H locs → lv_has ls 3 [(0, .ref (κ.2.1 0)), (1, .int v1)] → W p l e rmX10_firstHeld s m args below meth c H locs 0 0 Q (F0 m 59 ls [])) : W p l e rmX10_firstHeld s m args below meth c H locs 0 0 Q (F0 m 53 ls []) := by
  unfold fX10_firstHeld_L4_53 at hf
  refine lv_iinc (v := (x2 + 1)) (lv' := [(2, .int (x2 + 1)), (0, .ref (κ.2.1 0)), (1, .int x1)]) C.ex C.by dX10_firstHeld_53 hl (k := 2) rfl rfl (by decide) rfl (fun ls hl => ?_)
  refine lv_goto (tgt := 4) C.ex C.by dX10_firstHeld_56 (by decide) ?_
  exact Kc _ _ (Option.some.inj hf).symm _ _ _ h (lv_sub hl [1, 2, 0] rfl)
set_option maxRecDepth 20000 in
set_option maxHeartbeats 4000000 in
theorem wX10_firstHeld_L4_51 {p : Program} {l : Launch} {e : Env} {s : State} {m : MethodId} {args : Array Value} {below : List Frame} {meth : Method} {c : Code} {A : Nat → Prop} {κ : zG} {H : Heap} {locs : List Loc} {ls : Array Slot} {Q : State → Prop} {n : Nat} {σ : zS} {x2 : Int32} {r : (Int32 × Int32) ⊕ (Int32)} (C : zC cX10_firstHeld 3 (some .int) RX10 κ A p s m args meth c) (h : zH wM κ A s σ H locs) (hl : lv_has ls 3 [(0, .ref (κ.2.1 0)), (2, .int x2)]) (hf : fX10_firstHeld_L4_51 n σ x2 = some r) (Kc : ∀ (v1 : Int32) (v2 : Int32), r = .inl (v1, v2) → ∀ (H : Heap) (locs : List Loc) (ls : Array Slot), zH wM κ A s σ H locs → lv_has ls 3 [(0, .ref (κ.2.1 0)), (1, .int v1), (2, .int v2)] → W p l e rmX10_firstHeld s m args below meth c H locs 0 0 Q (F0 m 4 ls [])) (Ke0 : ∀ (v1 : Int32), r = .inr v1 → ∀ (H : Heap) (locs : List Loc) (ls : Array Slot), zH wM κ A s σ H locs → lv_has ls 3 [(0, .ref (κ.2.1 0)), (1, .int v1)] → W p l e rmX10_firstHeld s m args below meth c H locs 0 0 Q (F0 m 59 ls [])) : W p l e rmX10_firstHeld s m args below meth c H locs 0 0 Q (F0 m 51 ls []) := by
  unfold fX10_firstHeld_L4_51 at hf
  refine lv_iload_n C.ex C.by dX10_firstHeld_51 rfl (lv_at hl 1 rfl) ?_
  refine lv_istore_n (lv' := [(1, .int x2), (0, .ref (κ.2.1 0)), (2, .int x2)]) C.ex C.by dX10_firstHeld_52 rfl hl (by decide) rfl (fun ls hl => ?_)
  exact wX10_firstHeld_L4_53 C h (lv_sub hl [1, 0, 2] rfl) hf Kc Ke0
set_option maxRecDepth 20000 in
set_option maxHeartbeats 4000000 in
theorem wX10_firstHeld_L4_4 {p : Program} {l : Launch} {e : Env} {s : State} {m : MethodId} {args : Array Value} {below : List Frame} {meth : Method} {c : Code} {A : Nat → Prop} {κ : zG} {H : Heap} {locs : List Loc} {ls : Array Slot} {Q : State → Prop} {n : Nat} {σ : zS} {a : Int32 × Int32} {r : (Int32 × Int32) ⊕ (Int32)} (C : zC cX10_firstHeld 3 (some .int) RX10 κ A p s m args meth c) (h : zH wM κ A s σ H locs) (hl : lv_has ls 3 [(0, .ref (κ.2.1 0)), (1, .int a.1), (2, .int a.2)]) (hf : fX10_firstHeld_L4_4 n σ a = some r) (Kc : ∀ (v1 : Int32) (v2 : Int32), r = .inl (v1, v2) → ∀ (H : Heap) (locs : List Loc) (ls : Array Slot), zH wM κ A s σ H locs → lv_has ls 3 [(0, .ref (κ.2.1 0)), (1, .int v1), (2, .int v2)] → W p l e rmX10_firstHeld s m args below meth c H locs 0 0 Q (F0 m 4 ls [])) (Ke0 : ∀ (v1 : Int32), r = .inr v1 → ∀ (H : Heap) (locs : List Loc) (ls : Array Slot), zH wM κ A s σ H locs → lv_has ls 3 [(0, .ref (κ.2.1 0)), (1, .int v1)] → W p l e rmX10_firstHeld s m args below meth c H locs 0 0 Q (F0 m 59 ls [])) : W p l e rmX10_firstHeld s m args below meth c H locs 0 0 Q (F0 m 4 ls []) := by
  unfold fX10_firstHeld_L4_4 at hf
  refine lv_iload_n C.ex C.by dX10_firstHeld_4 rfl (lv_at hl 2 rfl) ?_
  refine lv_aload_n C.ex C.by dX10_firstHeld_5 rfl (lv_at hl 0 rfl) ?_
  refine z_get (v := .int (zI σ 24)) C h iwX10 0 (wM_at0 κ _) rfl 41 (by decide) lkM62 rfl dX10_firstHeld_6 ?_
  refine lv_icmp_ge (tgt := 59) C.ex C.by dX10_firstHeld_9 (by decide) (fun c1 => ?_) (fun c1 => ?_)
  · have hf := zif_t c1 hf
    exact Ke0 _ (Option.some.inj hf).symm _ _ _ h (lv_sub hl [0, 1] rfl)
  · have hf := zif_f c1 hf
    refine lv_aload_n C.ex C.by dX10_firstHeld_12 rfl (lv_at hl 0 rfl) ?_
    refine z_get (v := .int (zI σ 17)) C h iwX10 0 (wM_at0 κ _) rfl 29 (by decide) lkM17 rfl dX10_firstHeld_13 ?_
    refine lv_if_ne (tgt := 59) C.ex C.by dX10_firstHeld_16 (by decide) (fun c2 => ?_) (fun c2 => ?_)
    · have hf := zif_f c2 hf
      exact Ke0 _ (Option.some.inj hf).symm _ _ _ h (lv_sub hl [0, 1] rfl)
    · have hf := zif_t c2 hf
      refine lv_aload_n C.ex C.by dX10_firstHeld_19 rfl (lv_at hl 0 rfl) ?_
      refine z_get (v := .ref (κ.2.1 17)) C h iwX10 0 (wM_at0 κ _) rfl 40 (by decide) lkM125 rfl dX10_firstHeld_20 ?_
      refine lv_iload_n C.ex C.by dX10_firstHeld_23 rfl (lv_at hl 2 rfl) ?_
      obtain ⟨h3, hf⟩ := zg_some hf
      refine z_zald (f := (zA σ 11)) C h 17 (wM_at17 κ _) h3 dX10_firstHeld_24 ?_
      refine lv_if_ne (tgt := 53) C.ex C.by dX10_firstHeld_25 (by decide) (fun c4 => ?_) (fun c4 => ?_)
      · have hf := zif_f c4 hf
        exact wX10_firstHeld_L4_53 C h hl hf Kc Ke0
      · have hf := zif_t c4 hf
        refine lv_iload_n C.ex C.by dX10_firstHeld_28 rfl (lv_at hl 1 rfl) ?_
        refine lv_if_lt (tgt := 51) C.ex C.by dX10_firstHeld_29 (by decide) (fun c5 => ?_) (fun c5 => ?_)
        · have hf := zif_t c5 hf
          exact wX10_firstHeld_L4_51 C h (lv_sub hl [0, 2] rfl) hf Kc Ke0
        · have hf := zif_f c5 hf
          refine lv_aload_n C.ex C.by dX10_firstHeld_32 rfl (lv_at hl 0 rfl) ?_
          refine lv_aload_n C.ex C.by dX10_firstHeld_33 rfl (lv_at hl 0 rfl) ?_
          refine z_get (v := .ref (κ.2.1 16)) C h iwX10 0 (wM_at0 κ _) rfl 39 (by decide) lkM124 rfl dX10_firstHeld_34 ?_
          refine lv_iload_n C.ex C.by dX10_firstHeld_37 rfl (lv_at hl 2 rfl) ?_
          obtain ⟨h6, hf⟩ := zg_some hf
          refine z_iald (f := (zA σ 10)) C h 16 (wM_at16 κ _) h6 dX10_firstHeld_38 ?_
          refine lv_aload_n C.ex C.by dX10_firstHeld_39 rfl (lv_at hl 0 rfl) ?_
          refine z_get (v := .ref (κ.2.1 16)) C h iwX10 0 (wM_at0 κ _) rfl 39 (by decide) lkM124 rfl dX10_firstHeld_40 ?_
          refine lv_iload_n C.ex C.by dX10_firstHeld_43 rfl (lv_at hl 1 rfl) ?_
          obtain ⟨h7, hf⟩ := zg_some hf
          refine z_iald (f := (zA σ 10)) C h 16 (wM_at16 κ _) h7 dX10_firstHeld_44 ?_
          obtain ⟨q8, e9, hf⟩ := zb_some hf
          refine z_callVi (As := [.int ((zA σ 10) (Int32.toNatClampNeg a.2)), .int ((zA σ 10) (Int32.toNatClampNeg a.1))]) C h (ctX10_before e9) (zgV lkM76 lkM77 lkM78 lkM2 lkM79) ⟨rfl, rfl⟩ hdX10_before ⟨Nat.le_of_ble_eq_true rfl, Nat.le_of_ble_eq_true rfl⟩ 0 (wM_at0 κ _) rfl hl rfl rfl (Nat.le_of_ble_eq_true rfl) dX10_firstHeld_45 ⟨Nat.zero_le _, Nat.zero_le _⟩ (fun H locs h => ?_)
          refine lv_if_eq (tgt := 53) C.ex C.by dX10_firstHeld_48 (by decide) (fun c10 => ?_) (fun c10 => ?_)
          · have hf := zif_t c10 hf
            exact wX10_firstHeld_L4_53 C h hl hf Kc Ke0
          · have hf := zif_f c10 hf
            exact wX10_firstHeld_L4_51 C h (lv_sub hl [0, 2] rfl) hf Kc Ke0
theorem wlX10_firstHeld_4 {p : Program} {l : Launch} {e : Env} {s : State} {m : MethodId} {args : Array Value} {below : List Frame} {meth : Method} {c : Code} {A : Nat → Prop} {κ : zG} {H : Heap} {locs : List Loc} {ls : Array Slot} {Q : State → Prop} {n : Nat} {σ : zS} {k0 : Nat} {u1 : Int32} {u2 : Int32} (C : zC cX10_firstHeld 3 (some .int) RX10 κ A p s m args meth c) (h : zH wM κ A s σ H locs) (hl : lv_has ls 3 [(0, .ref (κ.2.1 0)), (1, .int u1), (2, .int u2)]) (b : Int32) (hb : zlp (fX10_firstHeld_L4_4 n σ) k0 (u1, u2) = some b) (K : (fun b : Int32 => ∀ (H : Heap) (locs : List Loc) (ls : Array Slot), zH wM κ A s σ H locs → lv_has ls 3 [(0, .ref (κ.2.1 0)), (1, .int b)] → W p l e rmX10_firstHeld s m args below meth c H locs 0 0 Q (F0 m 59 ls [])) b) : W p l e rmX10_firstHeld s m args below meth c H locs 0 0 Q (F0 m 4 ls []) :=
  z_loop (body := fX10_firstHeld_L4_4 n σ) (Wd := (fun a : Int32 × Int32 => ∀ (H : Heap) (locs : List Loc) (ls : Array Slot), zH wM κ A s σ H locs → lv_has ls 3 [(0, .ref (κ.2.1 0)), (1, .int a.1), (2, .int a.2)] → W p l e rmX10_firstHeld s m args below meth c H locs 0 0 Q (F0 m 4 ls []))) (Ex := (fun b : Int32 => (fun b : Int32 => ∀ (H : Heap) (locs : List Loc) (ls : Array Slot), zH wM κ A s σ H locs → lv_has ls 3 [(0, .ref (κ.2.1 0)), (1, .int b)] → W p l e rmX10_firstHeld s m args below meth c H locs 0 0 Q (F0 m 59 ls [])) b)) (fun a r hr Kc Ke H locs ls h hl => wX10_firstHeld_L4_4 C h hl hr (fun v1 v2 e => Kc (v1, v2) e) (fun v1 e => Ke v1 e)) k0 (u1, u2) b hb K H locs ls h hl
set_option maxRecDepth 20000 in
set_option maxHeartbeats 4000000 in
theorem wX10_firstHeld_0 {p : Program} {l : Launch} {e : Env} {s : State} {m : MethodId} {args : Array Value} {below : List Frame} {meth : Method} {c : Code} {A : Nat → Prop} {κ : zG} {H : Heap} {locs : List Loc} {ls : Array Slot} {n : Nat} {σ : zS} {r : Int32} (C : zC cX10_firstHeld 3 (some .int) RX10 κ A p s m args meth c) (h : zH wM κ A s σ H locs) (hl : lv_has ls 3 [(0, .ref (κ.2.1 0))]) (hf : fX10_firstHeld_0 n σ = some r) : W p l e rmX10_firstHeld s m args below meth c H locs 0 0 (MQ below (zQi wM κ A r σ) args s 0 0 A) (F0 m 0 ls []) := by
  unfold fX10_firstHeld_0 at hf
  refine lv_iconst (v := (-1)) C.ex C.by dX10_firstHeld_0 (by decide) ?_
  refine lv_istore_n (lv' := [(1, .int (-1)), (0, .ref (κ.2.1 0))]) C.ex C.by dX10_firstHeld_1 rfl hl (by decide) rfl (fun ls hl => ?_)
  refine lv_iconst (v := 0) C.ex C.by dX10_firstHeld_2 (by decide) ?_
  refine lv_istore_n (lv' := [(2, .int 0), (1, .int (-1)), (0, .ref (κ.2.1 0))]) C.ex C.by dX10_firstHeld_3 rfl hl (by decide) rfl (fun ls hl => ?_)
  obtain ⟨b11, e12, hf⟩ := zb_some hf
  refine wlX10_firstHeld_4 C h (lv_sub hl [2, 1, 0] rfl) b11 e12 ?_
  intro H locs ls h hl
  refine lv_iload_n C.ex C.by dX10_firstHeld_59 rfl (lv_at hl 1 rfl) ?_
  cases hf
  exact z_iret C h dX10_firstHeld_60
theorem ctX10_firstHeld {l : Launch} {κ : zG} {n : Nat} {σ : zS} {r : Int32} (hf : fX10_firstHeld_0 n σ = some r) : zMi l yX10_firstHeld (Cond.code yX10_firstHeld cX10_firstHeld 3 (some .int)) rmX10_firstHeld wM κ [.ref (κ.2.1 0)] σ r σ :=
  zMi_of (by decide) (Nat.le_of_ble_eq_true rfl) (fun p e s m below meth c A C h ls hl => wX10_firstHeld_0 C h hl hf)
theorem hdX10_choosing : yX10_choosing.cls = RX10 ∧ yX10_choosing.cls ≠ "java/lang/invoke/MethodHandle" ∧ yX10_choosing.cls ≠ "java/lang/invoke/VarHandle" ∧ (parseMethodDescriptor yX10_choosing.desc).map (fun d => d.parameters.length) = some 0 := by decide +kernel
abbrev rmX10_choosing : Room := { frames := 5, cells := 0, slots := 0, locals := 112 }
set_option maxRecDepth 20000 in
set_option maxHeartbeats 4000000 in
theorem wX10_choosing_L27_115 {p : Program} {l : Launch} {e : Env} {s : State} {m : MethodId} {args : Array Value} {below : List Frame} {meth : Method} {c : Code} {A : Nat → Prop} {κ : zG} {H : Heap} {locs : List Loc} {ls : Array Slot} {Q : State → Prop} {n : Nat} {σ : zS} {r : (Int32 × zS) ⊕ (zS)} (C : zC cX10_choosing 4 none RX10 κ A p s m args meth c) (h : zH wM κ A s σ H locs) (hl : lv_has ls 4 [(0, .ref (κ.2.1 0))]) (hf : fX10_choosing_L27_115 n σ = some r) (Kc : ∀ (v1 : Int32) (σ1 : zS), r = .inl (v1, σ1) → ∀ (H : Heap) (locs : List Loc) (ls : Array Slot), zH wM κ A s σ1 H locs → lv_has ls 4 [(0, .ref (κ.2.1 0)), (1, .int v1)] → W p l e rmX10_choosing s m args below meth c H locs 0 0 Q (F0 m 27 ls [])) (Ke0 : ∀ (σ1 : zS), r = .inr σ1 → ∀ (H : Heap) (locs : List Loc) (ls : Array Slot), zH wM κ A s σ1 H locs → lv_has ls 4 [(0, .ref (κ.2.1 0))] → W p l e rmX10_choosing s m args below meth c H locs 0 0 Q (F0 m 123 ls [])) : W p l e rmX10_choosing s m args below meth c H locs 0 0 Q (F0 m 115 ls []) := by
  unfold fX10_choosing_L27_115 at hf
  refine lv_aload_n C.ex C.by dX10_choosing_115 rfl (lv_at hl 0 rfl) ?_
  obtain ⟨q24, e25, hf⟩ := zb_some hf
  refine z_callVi (As := []) C h (ctX10_firstHeld e25) (zgV lkM130 lkM131 lkM132 lkM2 lkM133) ⟨rfl, rfl⟩ hdX10_firstHeld ⟨Nat.le_of_ble_eq_true rfl, Nat.le_of_ble_eq_true rfl⟩ 0 (wM_at0 κ _) rfl hl rfl rfl (Nat.le_of_ble_eq_true rfl) dX10_choosing_116 ⟨Nat.zero_le _, Nat.zero_le _⟩ (fun H locs h => ?_)
  refine lv_istore_n (lv' := [(1, .int q24), (0, .ref (κ.2.1 0))]) C.ex C.by dX10_choosing_119 rfl hl (by decide) rfl (fun ls hl => ?_)
  refine lv_goto (tgt := 27) C.ex C.by dX10_choosing_120 (by decide) ?_
  exact Kc _ _ (Option.some.inj hf).symm _ _ _ h (lv_sub hl [1, 0] rfl)
set_option maxRecDepth 20000 in
set_option maxHeartbeats 4000000 in
theorem wX10_choosing_L27_27 {p : Program} {l : Launch} {e : Env} {s : State} {m : MethodId} {args : Array Value} {below : List Frame} {meth : Method} {c : Code} {A : Nat → Prop} {κ : zG} {H : Heap} {locs : List Loc} {ls : Array Slot} {Q : State → Prop} {n : Nat} {a : Int32 × zS} {r : (Int32 × zS) ⊕ (zS)} (C : zC cX10_choosing 4 none RX10 κ A p s m args meth c) (h : zH wM κ A s a.2 H locs) (hl : lv_has ls 4 [(0, .ref (κ.2.1 0)), (1, .int a.1)]) (hf : fX10_choosing_L27_27 n a = some r) (Kc : ∀ (v1 : Int32) (σ1 : zS), r = .inl (v1, σ1) → ∀ (H : Heap) (locs : List Loc) (ls : Array Slot), zH wM κ A s σ1 H locs → lv_has ls 4 [(0, .ref (κ.2.1 0)), (1, .int v1)] → W p l e rmX10_choosing s m args below meth c H locs 0 0 Q (F0 m 27 ls [])) (Ke0 : ∀ (σ1 : zS), r = .inr σ1 → ∀ (H : Heap) (locs : List Loc) (ls : Array Slot), zH wM κ A s σ1 H locs → lv_has ls 4 [(0, .ref (κ.2.1 0))] → W p l e rmX10_choosing s m args below meth c H locs 0 0 Q (F0 m 123 ls [])) : W p l e rmX10_choosing s m args below meth c H locs 0 0 Q (F0 m 27 ls []) := by
  unfold fX10_choosing_L27_27 at hf
  refine lv_iload_n C.ex C.by dX10_choosing_27 rfl (lv_at hl 1 rfl) ?_
  refine lv_if_lt (tgt := 123) C.ex C.by dX10_choosing_28 (by decide) (fun c9 => ?_) (fun c9 => ?_)
  · have hf := zif_t c9 hf
    exact Ke0 _ (Option.some.inj hf).symm _ _ _ h (lv_sub hl [0] rfl)
  · have hf := zif_f c9 hf
    refine lv_aload_n C.ex C.by dX10_choosing_31 rfl (lv_at hl 0 rfl) ?_
    refine z_get (v := .ref (κ.2.1 16)) C h iwX10 0 (wM_at0 κ _) rfl 39 (by decide) lkM124 rfl dX10_choosing_32 ?_
    refine lv_iload_n C.ex C.by dX10_choosing_35 rfl (lv_at hl 1 rfl) ?_
    obtain ⟨h10, hf⟩ := zg_some hf
    refine z_iald (f := (zA a.2 10)) C h 16 (wM_at16 κ _) h10 dX10_choosing_36 ?_
    refine lv_istore_n (lv' := [(2, .int ((zA a.2 10) (Int32.toNatClampNeg a.1))), (0, .ref (κ.2.1 0)), (1, .int a.1)]) C.ex C.by dX10_choosing_37 rfl hl (by decide) rfl (fun ls hl => ?_)
    refine lv_aload_n C.ex C.by dX10_choosing_38 rfl (lv_at hl 1 rfl) ?_
    refine lv_iload_n C.ex C.by dX10_choosing_39 rfl (lv_at hl 0 rfl) ?_
    obtain ⟨q11, e12, hf⟩ := zb_some hf
    refine z_callVv (As := [.int ((zA a.2 10) (Int32.toNatClampNeg a.1))]) C h (ctX10_out e12) (zgV lkM115 lkM116 lkM117 lkM2 lkM118) ⟨rfl, rfl⟩ hdX10_out ⟨Nat.le_of_ble_eq_true rfl, Nat.le_of_ble_eq_true rfl⟩ 0 (wM_at0 κ _) rfl hl rfl rfl (Nat.le_of_ble_eq_true rfl) dX10_choosing_40 ⟨Nat.zero_le _, Nat.zero_le _⟩ (fun H locs h => ?_)
    refine lv_aload_n C.ex C.by dX10_choosing_43 rfl (lv_at hl 1 rfl) ?_
    obtain ⟨q13, e14, hf⟩ := zb_some hf
    refine z_callVi (As := []) C h (ctX10_nextRecord (r1 := q13.1) (r2 := q13.2) e14) (zgV lkM68 lkM69 lkM70 lkM2 lkM71) ⟨rfl, rfl⟩ hdX10_nextRecord ⟨Nat.le_of_ble_eq_true rfl, Nat.le_of_ble_eq_true rfl⟩ 0 (wM_at0 κ _) rfl hl rfl rfl (Nat.le_of_ble_eq_true rfl) dX10_choosing_44 ⟨Nat.zero_le _, Nat.zero_le _⟩ (fun H locs h => ?_)
    refine lv_istore_n (lv' := [(3, .int q13.1), (2, .int ((zA a.2 10) (Int32.toNatClampNeg a.1))), (0, .ref (κ.2.1 0)), (1, .int a.1)]) C.ex C.by dX10_choosing_47 rfl hl (by decide) rfl (fun ls hl => ?_)
    refine lv_iload_n C.ex C.by dX10_choosing_48 rfl (lv_at hl 0 rfl) ?_
    refine lv_iconst (v := (-1)) C.ex C.by dX10_choosing_49 (by decide) ?_
    refine lv_icmp_ne (tgt := 96) C.ex C.by dX10_choosing_50 (by decide) (fun c15 => ?_) (fun c15 => ?_)
    · have hf := zif_f c15 hf
      refine lv_aload_n C.ex C.by dX10_choosing_96 rfl (lv_at hl 2 rfl) ?_
      refine z_get (v := .ref (κ.2.1 16)) C h iwX10 0 (wM_at0 κ _) rfl 39 (by decide) lkM124 rfl dX10_choosing_97 ?_
      refine lv_iload_n C.ex C.by dX10_choosing_100 rfl (lv_at hl 3 rfl) ?_
      refine lv_iload_n C.ex C.by dX10_choosing_101 rfl (lv_at hl 0 rfl) ?_
      obtain ⟨h16, hf⟩ := zg_some hf
      refine z_iast (f := (zA q13.2 10)) C h 16 (wM_at16 κ _) h16 (sA q13.2 10 (upd (zA q13.2 10) (Int32.toNatClampNeg a.1) q13.1)) (wM_s16 κ _ _) dX10_choosing_102 (fun H locs h => ?_)
      refine lv_aload_n C.ex C.by dX10_choosing_103 rfl (lv_at hl 2 rfl) ?_
      refine z_get (v := .ref (κ.2.1 17)) C h iwX10 0 (wM_at0 κ _) rfl 40 (by decide) lkM125 rfl dX10_choosing_104 ?_
      refine lv_iload_n C.ex C.by dX10_choosing_107 rfl (lv_at hl 3 rfl) ?_
      refine lv_aload_n C.ex C.by dX10_choosing_108 rfl (lv_at hl 2 rfl) ?_
      refine lv_iload_n C.ex C.by dX10_choosing_109 rfl (lv_at hl 0 rfl) ?_
      refine lv_iload_n C.ex C.by dX10_choosing_110 rfl (lv_at hl 1 rfl) ?_
      obtain ⟨q17, e18, hf⟩ := zb_some hf
      refine z_callVi (As := [.int q13.1, .int ((zA a.2 10) (Int32.toNatClampNeg a.1))]) C h (ctX10_before e18) (zgV lkM76 lkM77 lkM78 lkM2 lkM79) ⟨rfl, rfl⟩ hdX10_before ⟨Nat.le_of_ble_eq_true rfl, Nat.le_of_ble_eq_true rfl⟩ 0 (wM_at0 κ _) rfl hl rfl rfl (Nat.le_of_ble_eq_true rfl) dX10_choosing_111 ⟨Nat.zero_le _, Nat.zero_le _⟩ (fun H locs h => ?_)
      obtain ⟨h19, hf⟩ := zg_some hf
      refine z_zast (f := (zA q13.2 11)) C h 17 (wM_at17 κ _) h19 (sA (sA q13.2 10 (upd (zA q13.2 10) (Int32.toNatClampNeg a.1) q13.1)) 11 (upd (zA q13.2 11) (Int32.toNatClampNeg a.1) (vp_nar .boolean q17))) (wM_s17 κ _ _) dX10_choosing_114 (fun H locs h => ?_)
      exact wX10_choosing_L27_115 C h (lv_sub hl [2] rfl) hf Kc Ke0
    · have hf := zif_t c15 hf
      refine lv_aload_n C.ex C.by dX10_choosing_53 rfl (lv_at hl 2 rfl) ?_
      refine lv_dup C.ex C.by dX10_choosing_54 rfl ?_
      refine z_get (v := .int (zI q13.2 24)) C h iwX10 0 (wM_at0 κ _) rfl 41 (by decide) lkM62 rfl dX10_choosing_55 ?_
      refine lv_iconst (v := 1) C.ex C.by dX10_choosing_58 (by decide) ?_
      refine lv_isub C.ex C.by dX10_choosing_59 ?_
      refine z_put C h iwX10 tyX10_ok nmX10 0 (wM_at0 κ _) rfl 41 (by decide) lkM62 rfl rfl rfl (Nat.le_of_ble_eq_true rfl) (sI q13.2 24 ((zI q13.2 24) - 1)) (wM_s0_41 κ _ _) dX10_choosing_60 (fun H locs h => ?_)
      refine lv_aload_n C.ex C.by dX10_choosing_63 rfl (lv_at hl 2 rfl) ?_
      refine z_get (v := .ref (κ.2.1 16)) C h iwX10 0 (wM_at0 κ _) rfl 39 (by decide) lkM124 rfl dX10_choosing_64 ?_
      refine lv_iload_n C.ex C.by dX10_choosing_67 rfl (lv_at hl 3 rfl) ?_
      refine lv_aload_n C.ex C.by dX10_choosing_68 rfl (lv_at hl 2 rfl) ?_
      refine z_get (v := .ref (κ.2.1 16)) C h iwX10 0 (wM_at0 κ _) rfl 39 (by decide) lkM124 rfl dX10_choosing_69 ?_
      refine lv_aload_n C.ex C.by dX10_choosing_72 rfl (lv_at hl 2 rfl) ?_
      refine z_get (v := .int ((zI q13.2 24) - 1)) C h iwX10 0 (wM_at0 κ _) rfl 41 (by decide) lkM62 rfl dX10_choosing_73 ?_
      obtain ⟨h20, hf⟩ := zg_some hf
      refine z_iald (f := (zA q13.2 10)) C h 16 (wM_at16 κ _) h20 dX10_choosing_76 ?_
      obtain ⟨h21, hf⟩ := zg_some hf
      refine z_iast (f := (zA q13.2 10)) C h 16 (wM_at16 κ _) h21 (sA (sI q13.2 24 ((zI q13.2 24) - 1)) 10 (upd (zA q13.2 10) (Int32.toNatClampNeg a.1) ((zA q13.2 10) (Int32.toNatClampNeg ((zI q13.2 24) - 1))))) (wM_s16 κ _ _) dX10_choosing_77 (fun H locs h => ?_)
      refine lv_aload_n C.ex C.by dX10_choosing_78 rfl (lv_at hl 2 rfl) ?_
      refine z_get (v := .ref (κ.2.1 17)) C h iwX10 0 (wM_at0 κ _) rfl 40 (by decide) lkM125 rfl dX10_choosing_79 ?_
      refine lv_iload_n C.ex C.by dX10_choosing_82 rfl (lv_at hl 3 rfl) ?_
      refine lv_aload_n C.ex C.by dX10_choosing_83 rfl (lv_at hl 2 rfl) ?_
      refine z_get (v := .ref (κ.2.1 17)) C h iwX10 0 (wM_at0 κ _) rfl 40 (by decide) lkM125 rfl dX10_choosing_84 ?_
      refine lv_aload_n C.ex C.by dX10_choosing_87 rfl (lv_at hl 2 rfl) ?_
      refine z_get (v := .int ((zI q13.2 24) - 1)) C h iwX10 0 (wM_at0 κ _) rfl 41 (by decide) lkM62 rfl dX10_choosing_88 ?_
      obtain ⟨h22, hf⟩ := zg_some hf
      refine z_zald (f := (zA q13.2 11)) C h 17 (wM_at17 κ _) h22 dX10_choosing_91 ?_
      obtain ⟨h23, hf⟩ := zg_some hf
      refine z_zast (f := (zA q13.2 11)) C h 17 (wM_at17 κ _) h23 (sA (sA (sI q13.2 24 ((zI q13.2 24) - 1)) 10 (upd (zA q13.2 10) (Int32.toNatClampNeg a.1) ((zA q13.2 10) (Int32.toNatClampNeg ((zI q13.2 24) - 1))))) 11 (upd (zA q13.2 11) (Int32.toNatClampNeg a.1) (vp_nar .boolean ((zA q13.2 11) (Int32.toNatClampNeg ((zI q13.2 24) - 1)))))) (wM_s17 κ _ _) dX10_choosing_92 (fun H locs h => ?_)
      refine lv_goto (tgt := 115) C.ex C.by dX10_choosing_93 (by decide) ?_
      exact wX10_choosing_L27_115 C h (lv_sub hl [2] rfl) hf Kc Ke0
theorem wlX10_choosing_27 {p : Program} {l : Launch} {e : Env} {s : State} {m : MethodId} {args : Array Value} {below : List Frame} {meth : Method} {c : Code} {A : Nat → Prop} {κ : zG} {H : Heap} {locs : List Loc} {ls : Array Slot} {Q : State → Prop} {n : Nat} {k0 : Nat} {u1 : Int32} {σ1 : zS} (C : zC cX10_choosing 4 none RX10 κ A p s m args meth c) (h : zH wM κ A s σ1 H locs) (hl : lv_has ls 4 [(0, .ref (κ.2.1 0)), (1, .int u1)]) (b : zS) (hb : zlp (fX10_choosing_L27_27 n) k0 (u1, σ1) = some b) (K : (fun b : zS => ∀ (H : Heap) (locs : List Loc) (ls : Array Slot), zH wM κ A s b H locs → lv_has ls 4 [(0, .ref (κ.2.1 0))] → W p l e rmX10_choosing s m args below meth c H locs 0 0 Q (F0 m 123 ls [])) b) : W p l e rmX10_choosing s m args below meth c H locs 0 0 Q (F0 m 27 ls []) :=
  z_loop (body := fX10_choosing_L27_27 n) (Wd := (fun a : Int32 × zS => ∀ (H : Heap) (locs : List Loc) (ls : Array Slot), zH wM κ A s a.2 H locs → lv_has ls 4 [(0, .ref (κ.2.1 0)), (1, .int a.1)] → W p l e rmX10_choosing s m args below meth c H locs 0 0 Q (F0 m 27 ls []))) (Ex := (fun b : zS => (fun b : zS => ∀ (H : Heap) (locs : List Loc) (ls : Array Slot), zH wM κ A s b H locs → lv_has ls 4 [(0, .ref (κ.2.1 0))] → W p l e rmX10_choosing s m args below meth c H locs 0 0 Q (F0 m 123 ls [])) b)) (fun a r hr Kc Ke H locs ls h hl => wX10_choosing_L27_27 C h hl hr (fun v1 σ1 e => Kc (v1, σ1) e) (fun σ1 e => Ke σ1 e)) k0 (u1, σ1) b hb K H locs ls h hl
set_option maxRecDepth 20000 in
set_option maxHeartbeats 4000000 in
theorem wX10_choosing_L129_129 {p : Program} {l : Launch} {e : Env} {s : State} {m : MethodId} {args : Array Value} {below : List Frame} {meth : Method} {c : Code} {A : Nat → Prop} {κ : zG} {H : Heap} {locs : List Loc} {ls : Array Slot} {Q : State → Prop} {n : Nat} {a : Int32 × zS} {r : (Int32 × zS) ⊕ (zS)} (C : zC cX10_choosing 4 none RX10 κ A p s m args meth c) (h : zH wM κ A s a.2 H locs) (hl : lv_has ls 4 [(0, .ref (κ.2.1 0)), (2, .int a.1)]) (hf : fX10_choosing_L129_129 n a = some r) (Kc : ∀ (v2 : Int32) (σ1 : zS), r = .inl (v2, σ1) → ∀ (H : Heap) (locs : List Loc) (ls : Array Slot), zH wM κ A s σ1 H locs → lv_has ls 4 [(0, .ref (κ.2.1 0)), (2, .int v2)] → W p l e rmX10_choosing s m args below meth c H locs 0 0 Q (F0 m 129 ls [])) (Ke0 : ∀ (σ1 : zS), r = .inr σ1 → ∀ (H : Heap) (locs : List Loc) (ls : Array Slot), zH wM κ A s σ1 H locs → lv_has ls 4 [(0, .ref (κ.2.1 0))] → W p l e rmX10_choosing s m args below meth c H locs 0 0 Q (F0 m 150 ls [])) : W p l e rmX10_choosing s m args below meth c H locs 0 0 Q (F0 m 129 ls []) := by
  unfold fX10_choosing_L129_129 at hf
  refine lv_iload_n C.ex C.by dX10_choosing_129 rfl (lv_at hl 1 rfl) ?_
  refine lv_aload_n C.ex C.by dX10_choosing_130 rfl (lv_at hl 0 rfl) ?_
  refine z_get (v := .int (zI a.2 24)) C h iwX10 0 (wM_at0 κ _) rfl 41 (by decide) lkM62 rfl dX10_choosing_131 ?_
  refine lv_icmp_ge (tgt := 150) C.ex C.by dX10_choosing_134 (by decide) (fun c30 => ?_) (fun c30 => ?_)
  · have hf := zif_t c30 hf
    exact Ke0 _ (Option.some.inj hf).symm _ _ _ h (lv_sub hl [0] rfl)
  · have hf := zif_f c30 hf
    refine lv_aload_n C.ex C.by dX10_choosing_137 rfl (lv_at hl 0 rfl) ?_
    refine z_get (v := .ref (κ.2.1 17)) C h iwX10 0 (wM_at0 κ _) rfl 40 (by decide) lkM125 rfl dX10_choosing_138 ?_
    refine lv_iload_n C.ex C.by dX10_choosing_141 rfl (lv_at hl 1 rfl) ?_
    refine lv_iconst (v := 0) C.ex C.by dX10_choosing_142 (by decide) ?_
    obtain ⟨h31, hf⟩ := zg_some hf
    refine z_zast (f := (zA a.2 11)) C h 17 (wM_at17 κ _) h31 (sA a.2 11 (upd (zA a.2 11) (Int32.toNatClampNeg a.1) (vp_nar .boolean 0))) (wM_s17 κ _ _) dX10_choosing_143 (fun H locs h => ?_)
    refine lv_iinc (v := (a.1 + 1)) (lv' := [(2, .int (a.1 + 1)), (0, .ref (κ.2.1 0))]) C.ex C.by dX10_choosing_144 hl (k := 1) rfl rfl (by decide) rfl (fun ls hl => ?_)
    refine lv_goto (tgt := 129) C.ex C.by dX10_choosing_147 (by decide) ?_
    exact Kc _ _ (Option.some.inj hf).symm _ _ _ h (lv_sub hl [1, 0] rfl)
theorem wlX10_choosing_129 {p : Program} {l : Launch} {e : Env} {s : State} {m : MethodId} {args : Array Value} {below : List Frame} {meth : Method} {c : Code} {A : Nat → Prop} {κ : zG} {H : Heap} {locs : List Loc} {ls : Array Slot} {Q : State → Prop} {n : Nat} {k0 : Nat} {u2 : Int32} {σ1 : zS} (C : zC cX10_choosing 4 none RX10 κ A p s m args meth c) (h : zH wM κ A s σ1 H locs) (hl : lv_has ls 4 [(0, .ref (κ.2.1 0)), (2, .int u2)]) (b : zS) (hb : zlp (fX10_choosing_L129_129 n) k0 (u2, σ1) = some b) (K : (fun b : zS => ∀ (H : Heap) (locs : List Loc) (ls : Array Slot), zH wM κ A s b H locs → lv_has ls 4 [(0, .ref (κ.2.1 0))] → W p l e rmX10_choosing s m args below meth c H locs 0 0 Q (F0 m 150 ls [])) b) : W p l e rmX10_choosing s m args below meth c H locs 0 0 Q (F0 m 129 ls []) :=
  z_loop (body := fX10_choosing_L129_129 n) (Wd := (fun a : Int32 × zS => ∀ (H : Heap) (locs : List Loc) (ls : Array Slot), zH wM κ A s a.2 H locs → lv_has ls 4 [(0, .ref (κ.2.1 0)), (2, .int a.1)] → W p l e rmX10_choosing s m args below meth c H locs 0 0 Q (F0 m 129 ls []))) (Ex := (fun b : zS => (fun b : zS => ∀ (H : Heap) (locs : List Loc) (ls : Array Slot), zH wM κ A s b H locs → lv_has ls 4 [(0, .ref (κ.2.1 0))] → W p l e rmX10_choosing s m args below meth c H locs 0 0 Q (F0 m 150 ls [])) b)) (fun a r hr Kc Ke H locs ls h hl => wX10_choosing_L129_129 C h hl hr (fun v2 σ1 e => Kc (v2, σ1) e) (fun σ1 e => Ke σ1 e)) k0 (u2, σ1) b hb K H locs ls h hl
set_option maxRecDepth 20000 in
set_option maxHeartbeats 4000000 in
theorem wX10_choosing_L4_4 {p : Program} {l : Launch} {e : Env} {s : State} {m : MethodId} {args : Array Value} {below : List Frame} {meth : Method} {c : Code} {A : Nat → Prop} {κ : zG} {H : Heap} {locs : List Loc} {ls : Array Slot} {Q : State → Prop} {n : Nat} {a : zS} {r : (zS) ⊕ (zS)} (C : zC cX10_choosing 4 none RX10 κ A p s m args meth c) (h : zH wM κ A s a H locs) (hl : lv_has ls 4 [(0, .ref (κ.2.1 0))]) (hf : fX10_choosing_L4_4 n a = some r) (Kc : ∀ (σ1 : zS), r = .inl σ1 → ∀ (H : Heap) (locs : List Loc) (ls : Array Slot), zH wM κ A s σ1 H locs → lv_has ls 4 [(0, .ref (κ.2.1 0))] → W p l e rmX10_choosing s m args below meth c H locs 0 0 Q (F0 m 4 ls [])) (Ke0 : ∀ (σ1 : zS), r = .inr σ1 → ∀ (H : Heap) (locs : List Loc) (ls : Array Slot), zH wM κ A s σ1 H locs → lv_has ls 4 [(0, .ref (κ.2.1 0))] → W p l e rmX10_choosing s m args below meth c H locs 0 0 Q (F0 m 153 ls [])) : W p l e rmX10_choosing s m args below meth c H locs 0 0 Q (F0 m 4 ls []) := by
  unfold fX10_choosing_L4_4 at hf
  refine lv_aload_n C.ex C.by dX10_choosing_4 rfl (lv_at hl 0 rfl) ?_
  refine z_get (v := .int (zI a 24)) C h iwX10 0 (wM_at0 κ _) rfl 41 (by decide) lkM62 rfl dX10_choosing_5 ?_
  refine lv_if_le (tgt := 153) C.ex C.by dX10_choosing_8 (by decide) (fun c3 => ?_) (fun c3 => ?_)
  · have hf := zif_t c3 hf
    exact Ke0 _ (Option.some.inj hf).symm _ _ _ h hl
  · have hf := zif_f c3 hf
    refine lv_aload_n C.ex C.by dX10_choosing_11 rfl (lv_at hl 0 rfl) ?_
    refine z_get (v := .int (zI a 17)) C h iwX10 0 (wM_at0 κ _) rfl 29 (by decide) lkM17 rfl dX10_choosing_12 ?_
    refine lv_if_ne (tgt := 153) C.ex C.by dX10_choosing_15 (by decide) (fun c4 => ?_) (fun c4 => ?_)
    · have hf := zif_f c4 hf
      exact Ke0 _ (Option.some.inj hf).symm _ _ _ h hl
    · have hf := zif_t c4 hf
      refine lv_aload_n C.ex C.by dX10_choosing_18 rfl (lv_at hl 0 rfl) ?_
      obtain ⟨q5, e6, hf⟩ := zb_some hf
      refine z_callVv (As := []) C h (ctX10_nextRun e6) (zgV lkM107 lkM108 lkM109 lkM2 lkM110) ⟨rfl, rfl⟩ hdX10_nextRun ⟨Nat.le_of_ble_eq_true rfl, Nat.le_of_ble_eq_true rfl⟩ 0 (wM_at0 κ _) rfl hl rfl rfl (Nat.le_of_ble_eq_true rfl) dX10_choosing_19 ⟨Nat.zero_le _, Nat.zero_le _⟩ (fun H locs h => ?_)
      refine lv_aload_n C.ex C.by dX10_choosing_22 rfl (lv_at hl 0 rfl) ?_
      obtain ⟨q7, e8, hf⟩ := zb_some hf
      refine z_callVi (As := []) C h (ctX10_firstHeld e8) (zgV lkM130 lkM131 lkM132 lkM2 lkM133) ⟨rfl, rfl⟩ hdX10_firstHeld ⟨Nat.le_of_ble_eq_true rfl, Nat.le_of_ble_eq_true rfl⟩ 0 (wM_at0 κ _) rfl hl rfl rfl (Nat.le_of_ble_eq_true rfl) dX10_choosing_23 ⟨Nat.zero_le _, Nat.zero_le _⟩ (fun H locs h => ?_)
      refine lv_istore_n (lv' := [(1, .int q7), (0, .ref (κ.2.1 0))]) C.ex C.by dX10_choosing_26 rfl hl (by decide) rfl (fun ls hl => ?_)
      obtain ⟨b26, e27, hf⟩ := zb_some hf
      refine wlX10_choosing_27 C h (lv_sub hl [1, 0] rfl) b26 e27 ?_
      intro H locs ls h hl
      refine lv_aload_n C.ex C.by dX10_choosing_123 rfl (lv_at hl 0 rfl) ?_
      obtain ⟨q28, e29, hf⟩ := zb_some hf
      refine z_callVv (As := []) C h (ctX10_endRun e29) (zgV lkM93 lkM94 lkM95 lkM2 lkM96) ⟨rfl, rfl⟩ hdX10_endRun ⟨Nat.le_of_ble_eq_true rfl, Nat.le_of_ble_eq_true rfl⟩ 0 (wM_at0 κ _) rfl hl rfl rfl (Nat.le_of_ble_eq_true rfl) dX10_choosing_124 ⟨Nat.zero_le _, Nat.zero_le _⟩ (fun H locs h => ?_)
      refine lv_iconst (v := 0) C.ex C.by dX10_choosing_127 (by decide) ?_
      refine lv_istore_n (lv' := [(2, .int 0), (0, .ref (κ.2.1 0))]) C.ex C.by dX10_choosing_128 rfl hl (by decide) rfl (fun ls hl => ?_)
      obtain ⟨b32, e33, hf⟩ := zb_some hf
      refine wlX10_choosing_129 C h (lv_sub hl [1, 0] rfl) b32 e33 ?_
      intro H locs ls h hl
      refine lv_goto (tgt := 4) C.ex C.by dX10_choosing_150 (by decide) ?_
      exact Kc _ (Option.some.inj hf).symm _ _ _ h hl
theorem wlX10_choosing_4 {p : Program} {l : Launch} {e : Env} {s : State} {m : MethodId} {args : Array Value} {below : List Frame} {meth : Method} {c : Code} {A : Nat → Prop} {κ : zG} {H : Heap} {locs : List Loc} {ls : Array Slot} {Q : State → Prop} {n : Nat} {k0 : Nat} {σ1 : zS} (C : zC cX10_choosing 4 none RX10 κ A p s m args meth c) (h : zH wM κ A s σ1 H locs) (hl : lv_has ls 4 [(0, .ref (κ.2.1 0))]) (b : zS) (hb : zlp (fX10_choosing_L4_4 n) k0 σ1 = some b) (K : (fun b : zS => ∀ (H : Heap) (locs : List Loc) (ls : Array Slot), zH wM κ A s b H locs → lv_has ls 4 [(0, .ref (κ.2.1 0))] → W p l e rmX10_choosing s m args below meth c H locs 0 0 Q (F0 m 153 ls [])) b) : W p l e rmX10_choosing s m args below meth c H locs 0 0 Q (F0 m 4 ls []) :=
  z_loop (body := fX10_choosing_L4_4 n) (Wd := (fun a : zS => ∀ (H : Heap) (locs : List Loc) (ls : Array Slot), zH wM κ A s a H locs → lv_has ls 4 [(0, .ref (κ.2.1 0))] → W p l e rmX10_choosing s m args below meth c H locs 0 0 Q (F0 m 4 ls []))) (Ex := (fun b : zS => (fun b : zS => ∀ (H : Heap) (locs : List Loc) (ls : Array Slot), zH wM κ A s b H locs → lv_has ls 4 [(0, .ref (κ.2.1 0))] → W p l e rmX10_choosing s m args below meth c H locs 0 0 Q (F0 m 153 ls [])) b)) (fun a r hr Kc Ke H locs ls h hl => wX10_choosing_L4_4 C h hl hr (fun σ1 e => Kc σ1 e) (fun σ1 e => Ke σ1 e)) k0 σ1 b hb K H locs ls h hl
set_option maxRecDepth 20000 in
set_option maxHeartbeats 4000000 in
theorem wX10_choosing_0 {p : Program} {l : Launch} {e : Env} {s : State} {m : MethodId} {args : Array Value} {below : List Frame} {meth : Method} {c : Code} {A : Nat → Prop} {κ : zG} {H : Heap} {locs : List Loc} {ls : Array Slot} {n : Nat} {σ : zS} {r : zS} (C : zC cX10_choosing 4 none RX10 κ A p s m args meth c) (h : zH wM κ A s σ H locs) (hl : lv_has ls 4 [(0, .ref (κ.2.1 0))]) (hf : fX10_choosing_0 n σ = some r) : W p l e rmX10_choosing s m args below meth c H locs 0 0 (MQ below (zQv wM κ A r) args s 0 0 A) (F0 m 0 ls []) := by
  unfold fX10_choosing_0 at hf
  refine lv_aload_n C.ex C.by dX10_choosing_0 rfl (lv_at hl 0 rfl) ?_
  obtain ⟨q1, e2, hf⟩ := zb_some hf
  refine z_callVv (As := []) C h (ctX10_fill e2) (zgV lkM126 lkM127 lkM128 lkM2 lkM129) ⟨rfl, rfl⟩ hdX10_fill ⟨Nat.le_of_ble_eq_true rfl, Nat.le_of_ble_eq_true rfl⟩ 0 (wM_at0 κ _) rfl hl rfl rfl (Nat.le_of_ble_eq_true rfl) dX10_choosing_1 ⟨Nat.zero_le _, Nat.zero_le _⟩ (fun H locs h => ?_)
  obtain ⟨b34, e35, hf⟩ := zb_some hf
  refine wlX10_choosing_4 C h hl b34 e35 ?_
  intro H locs ls h hl
  cases hf
  exact z_vret C h dX10_choosing_153
theorem ctX10_choosing {l : Launch} {κ : zG} {n : Nat} {σ : zS} {r : zS} (hf : fX10_choosing_0 n σ = some r) : zMv l yX10_choosing (Cond.code yX10_choosing cX10_choosing 4 none) rmX10_choosing wM κ [.ref (κ.2.1 0)] σ r :=
  zMv_of (by decide) (Nat.le_of_ble_eq_true rfl) (fun p e s m below meth c A C h ls hl => wX10_choosing_0 C h hl hf)
theorem hdX10_loading : yX10_loading.cls = RX10 ∧ yX10_loading.cls ≠ "java/lang/invoke/MethodHandle" ∧ yX10_loading.cls ≠ "java/lang/invoke/VarHandle" ∧ (parseMethodDescriptor yX10_loading.desc).map (fun d => d.parameters.length) = some 0 := by decide +kernel
abbrev rmX10_loading : Room := { frames := 5, cells := 0, slots := 0, locals := 112 }
set_option maxRecDepth 20000 in
set_option maxHeartbeats 4000000 in
theorem wX10_loading_L27_27 {p : Program} {l : Launch} {e : Env} {s : State} {m : MethodId} {args : Array Value} {below : List Frame} {meth : Method} {c : Code} {A : Nat → Prop} {κ : zG} {H : Heap} {locs : List Loc} {ls : Array Slot} {Q : State → Prop} {n : Nat} {a : Int32 × zS} {r : (Int32 × zS) ⊕ (zS)} (C : zC cX10_loading 2 none RX10 κ A p s m args meth c) (h : zH wM κ A s a.2 H locs) (hl : lv_has ls 2 [(0, .ref (κ.2.1 0)), (1, .int a.1)]) (hf : fX10_loading_L27_27 n a = some r) (Kc : ∀ (v1 : Int32) (σ1 : zS), r = .inl (v1, σ1) → ∀ (H : Heap) (locs : List Loc) (ls : Array Slot), zH wM κ A s σ1 H locs → lv_has ls 2 [(0, .ref (κ.2.1 0)), (1, .int v1)] → W p l e rmX10_loading s m args below meth c H locs 0 0 Q (F0 m 27 ls [])) (Ke0 : ∀ (σ1 : zS), r = .inr σ1 → ∀ (H : Heap) (locs : List Loc) (ls : Array Slot), zH wM κ A s σ1 H locs → lv_has ls 2 [(0, .ref (κ.2.1 0))] → W p l e rmX10_loading s m args below meth c H locs 0 0 Q (F0 m 56 ls [])) : W p l e rmX10_loading s m args below meth c H locs 0 0 Q (F0 m 27 ls []) := by
  unfold fX10_loading_L27_27 at hf
  refine lv_iload_n C.ex C.by dX10_loading_27 rfl (lv_at hl 1 rfl) ?_
  refine lv_if_lt (tgt := 56) C.ex C.by dX10_loading_28 (by decide) (fun c9 => ?_) (fun c9 => ?_)
  · have hf := zif_t c9 hf
    exact Ke0 _ (Option.some.inj hf).symm _ _ _ h (lv_sub hl [0] rfl)
  · have hf := zif_f c9 hf
    refine lv_aload_n C.ex C.by dX10_loading_31 rfl (lv_at hl 0 rfl) ?_
    refine lv_aload_n C.ex C.by dX10_loading_32 rfl (lv_at hl 0 rfl) ?_
    refine z_get (v := .ref (κ.2.1 16)) C h iwX10 0 (wM_at0 κ _) rfl 39 (by decide) lkM124 rfl dX10_loading_33 ?_
    refine lv_iload_n C.ex C.by dX10_loading_36 rfl (lv_at hl 1 rfl) ?_
    obtain ⟨h10, hf⟩ := zg_some hf
    refine z_iald (f := (zA a.2 10)) C h 16 (wM_at16 κ _) h10 dX10_loading_37 ?_
    obtain ⟨q11, e12, hf⟩ := zb_some hf
    refine z_callVv (As := [.int ((zA a.2 10) (Int32.toNatClampNeg a.1))]) C h (ctX10_out e12) (zgV lkM115 lkM116 lkM117 lkM2 lkM118) ⟨rfl, rfl⟩ hdX10_out ⟨Nat.le_of_ble_eq_true rfl, Nat.le_of_ble_eq_true rfl⟩ 0 (wM_at0 κ _) rfl hl rfl rfl (Nat.le_of_ble_eq_true rfl) dX10_loading_38 ⟨Nat.zero_le _, Nat.zero_le _⟩ (fun H locs h => ?_)
    refine lv_aload_n C.ex C.by dX10_loading_41 rfl (lv_at hl 0 rfl) ?_
    refine z_get (v := .ref (κ.2.1 17)) C h iwX10 0 (wM_at0 κ _) rfl 40 (by decide) lkM125 rfl dX10_loading_42 ?_
    refine lv_iload_n C.ex C.by dX10_loading_45 rfl (lv_at hl 1 rfl) ?_
    refine lv_iconst (v := 1) C.ex C.by dX10_loading_46 (by decide) ?_
    obtain ⟨h13, hf⟩ := zg_some hf
    refine z_zast (f := (zA q11 11)) C h 17 (wM_at17 κ _) h13 (sA q11 11 (upd (zA q11 11) (Int32.toNatClampNeg a.1) (vp_nar .boolean 1))) (wM_s17 κ _ _) dX10_loading_47 (fun H locs h => ?_)
    refine lv_aload_n C.ex C.by dX10_loading_48 rfl (lv_at hl 0 rfl) ?_
    obtain ⟨q14, e15, hf⟩ := zb_some hf
    refine z_callVi (As := []) C h (ctX10_firstHeld e15) (zgV lkM130 lkM131 lkM132 lkM2 lkM133) ⟨rfl, rfl⟩ hdX10_firstHeld ⟨Nat.le_of_ble_eq_true rfl, Nat.le_of_ble_eq_true rfl⟩ 0 (wM_at0 κ _) rfl hl rfl rfl (Nat.le_of_ble_eq_true rfl) dX10_loading_49 ⟨Nat.zero_le _, Nat.zero_le _⟩ (fun H locs h => ?_)
    refine lv_istore_n (lv' := [(1, .int q14), (0, .ref (κ.2.1 0))]) C.ex C.by dX10_loading_52 rfl hl (by decide) rfl (fun ls hl => ?_)
    refine lv_goto (tgt := 27) C.ex C.by dX10_loading_53 (by decide) ?_
    exact Kc _ _ (Option.some.inj hf).symm _ _ _ h (lv_sub hl [1, 0] rfl)
theorem wlX10_loading_27 {p : Program} {l : Launch} {e : Env} {s : State} {m : MethodId} {args : Array Value} {below : List Frame} {meth : Method} {c : Code} {A : Nat → Prop} {κ : zG} {H : Heap} {locs : List Loc} {ls : Array Slot} {Q : State → Prop} {n : Nat} {k0 : Nat} {u1 : Int32} {σ1 : zS} (C : zC cX10_loading 2 none RX10 κ A p s m args meth c) (h : zH wM κ A s σ1 H locs) (hl : lv_has ls 2 [(0, .ref (κ.2.1 0)), (1, .int u1)]) (b : zS) (hb : zlp (fX10_loading_L27_27 n) k0 (u1, σ1) = some b) (K : (fun b : zS => ∀ (H : Heap) (locs : List Loc) (ls : Array Slot), zH wM κ A s b H locs → lv_has ls 2 [(0, .ref (κ.2.1 0))] → W p l e rmX10_loading s m args below meth c H locs 0 0 Q (F0 m 56 ls [])) b) : W p l e rmX10_loading s m args below meth c H locs 0 0 Q (F0 m 27 ls []) :=
  z_loop (body := fX10_loading_L27_27 n) (Wd := (fun a : Int32 × zS => ∀ (H : Heap) (locs : List Loc) (ls : Array Slot), zH wM κ A s a.2 H locs → lv_has ls 2 [(0, .ref (κ.2.1 0)), (1, .int a.1)] → W p l e rmX10_loading s m args below meth c H locs 0 0 Q (F0 m 27 ls []))) (Ex := (fun b : zS => (fun b : zS => ∀ (H : Heap) (locs : List Loc) (ls : Array Slot), zH wM κ A s b H locs → lv_has ls 2 [(0, .ref (κ.2.1 0))] → W p l e rmX10_loading s m args below meth c H locs 0 0 Q (F0 m 56 ls [])) b)) (fun a r hr Kc Ke H locs ls h hl => wX10_loading_L27_27 C h hl hr (fun v1 σ1 e => Kc (v1, σ1) e) (fun σ1 e => Ke σ1 e)) k0 (u1, σ1) b hb K H locs ls h hl
set_option maxRecDepth 20000 in
set_option maxHeartbeats 4000000 in
theorem wX10_loading_L0_0 {p : Program} {l : Launch} {e : Env} {s : State} {m : MethodId} {args : Array Value} {below : List Frame} {meth : Method} {c : Code} {A : Nat → Prop} {κ : zG} {H : Heap} {locs : List Loc} {ls : Array Slot} {Q : State → Prop} {n : Nat} {a : zS} {r : (zS) ⊕ (zS)} (C : zC cX10_loading 2 none RX10 κ A p s m args meth c) (h : zH wM κ A s a H locs) (hl : lv_has ls 2 [(0, .ref (κ.2.1 0))]) (hf : fX10_loading_L0_0 n a = some r) (Kc : ∀ (σ1 : zS), r = .inl σ1 → ∀ (H : Heap) (locs : List Loc) (ls : Array Slot), zH wM κ A s σ1 H locs → lv_has ls 2 [(0, .ref (κ.2.1 0))] → W p l e rmX10_loading s m args below meth c H locs 0 0 Q (F0 m 0 ls [])) (Ke0 : ∀ (σ1 : zS), r = .inr σ1 → ∀ (H : Heap) (locs : List Loc) (ls : Array Slot), zH wM κ A s σ1 H locs → lv_has ls 2 [(0, .ref (κ.2.1 0))] → W p l e rmX10_loading s m args below meth c H locs 0 0 Q (F0 m 63 ls [])) : W p l e rmX10_loading s m args below meth c H locs 0 0 Q (F0 m 0 ls []) := by
  unfold fX10_loading_L0_0 at hf
  refine lv_aload_n C.ex C.by dX10_loading_0 rfl (lv_at hl 0 rfl) ?_
  refine z_get (v := .int (zI a 23)) C h iwX10 0 (wM_at0 κ _) rfl 38 (by decide) lkM61 rfl dX10_loading_1 ?_
  refine lv_if_le (tgt := 63) C.ex C.by dX10_loading_4 (by decide) (fun c1 => ?_) (fun c1 => ?_)
  · have hf := zif_t c1 hf
    exact Ke0 _ (Option.some.inj hf).symm _ _ _ h hl
  · have hf := zif_f c1 hf
    refine lv_aload_n C.ex C.by dX10_loading_7 rfl (lv_at hl 0 rfl) ?_
    refine z_get (v := .int (zI a 17)) C h iwX10 0 (wM_at0 κ _) rfl 29 (by decide) lkM17 rfl dX10_loading_8 ?_
    refine lv_if_ne (tgt := 63) C.ex C.by dX10_loading_11 (by decide) (fun c2 => ?_) (fun c2 => ?_)
    · have hf := zif_f c2 hf
      exact Ke0 _ (Option.some.inj hf).symm _ _ _ h hl
    · have hf := zif_t c2 hf
      refine lv_aload_n C.ex C.by dX10_loading_14 rfl (lv_at hl 0 rfl) ?_
      obtain ⟨q3, e4, hf⟩ := zb_some hf
      refine z_callVv (As := []) C h (ctX10_fill e4) (zgV lkM126 lkM127 lkM128 lkM2 lkM129) ⟨rfl, rfl⟩ hdX10_fill ⟨Nat.le_of_ble_eq_true rfl, Nat.le_of_ble_eq_true rfl⟩ 0 (wM_at0 κ _) rfl hl rfl rfl (Nat.le_of_ble_eq_true rfl) dX10_loading_15 ⟨Nat.zero_le _, Nat.zero_le _⟩ (fun H locs h => ?_)
      refine lv_aload_n C.ex C.by dX10_loading_18 rfl (lv_at hl 0 rfl) ?_
      obtain ⟨q5, e6, hf⟩ := zb_some hf
      refine z_callVv (As := []) C h (ctX10_nextRun e6) (zgV lkM107 lkM108 lkM109 lkM2 lkM110) ⟨rfl, rfl⟩ hdX10_nextRun ⟨Nat.le_of_ble_eq_true rfl, Nat.le_of_ble_eq_true rfl⟩ 0 (wM_at0 κ _) rfl hl rfl rfl (Nat.le_of_ble_eq_true rfl) dX10_loading_19 ⟨Nat.zero_le _, Nat.zero_le _⟩ (fun H locs h => ?_)
      refine lv_aload_n C.ex C.by dX10_loading_22 rfl (lv_at hl 0 rfl) ?_
      obtain ⟨q7, e8, hf⟩ := zb_some hf
      refine z_callVi (As := []) C h (ctX10_firstHeld e8) (zgV lkM130 lkM131 lkM132 lkM2 lkM133) ⟨rfl, rfl⟩ hdX10_firstHeld ⟨Nat.le_of_ble_eq_true rfl, Nat.le_of_ble_eq_true rfl⟩ 0 (wM_at0 κ _) rfl hl rfl rfl (Nat.le_of_ble_eq_true rfl) dX10_loading_23 ⟨Nat.zero_le _, Nat.zero_le _⟩ (fun H locs h => ?_)
      refine lv_istore_n (lv' := [(1, .int q7), (0, .ref (κ.2.1 0))]) C.ex C.by dX10_loading_26 rfl hl (by decide) rfl (fun ls hl => ?_)
      obtain ⟨b16, e17, hf⟩ := zb_some hf
      refine wlX10_loading_27 C h (lv_sub hl [1, 0] rfl) b16 e17 ?_
      intro H locs ls h hl
      refine lv_aload_n C.ex C.by dX10_loading_56 rfl (lv_at hl 0 rfl) ?_
      obtain ⟨q18, e19, hf⟩ := zb_some hf
      refine z_callVv (As := []) C h (ctX10_endRun e19) (zgV lkM93 lkM94 lkM95 lkM2 lkM96) ⟨rfl, rfl⟩ hdX10_endRun ⟨Nat.le_of_ble_eq_true rfl, Nat.le_of_ble_eq_true rfl⟩ 0 (wM_at0 κ _) rfl hl rfl rfl (Nat.le_of_ble_eq_true rfl) dX10_loading_57 ⟨Nat.zero_le _, Nat.zero_le _⟩ (fun H locs h => ?_)
      refine lv_goto (tgt := 0) C.ex C.by dX10_loading_60 (by decide) ?_
      exact Kc _ (Option.some.inj hf).symm _ _ _ h hl
theorem wlX10_loading_0 {p : Program} {l : Launch} {e : Env} {s : State} {m : MethodId} {args : Array Value} {below : List Frame} {meth : Method} {c : Code} {A : Nat → Prop} {κ : zG} {H : Heap} {locs : List Loc} {ls : Array Slot} {Q : State → Prop} {n : Nat} {k0 : Nat} {σ1 : zS} (C : zC cX10_loading 2 none RX10 κ A p s m args meth c) (h : zH wM κ A s σ1 H locs) (hl : lv_has ls 2 [(0, .ref (κ.2.1 0))]) (b : zS) (hb : zlp (fX10_loading_L0_0 n) k0 σ1 = some b) (K : (fun b : zS => ∀ (H : Heap) (locs : List Loc) (ls : Array Slot), zH wM κ A s b H locs → lv_has ls 2 [(0, .ref (κ.2.1 0))] → W p l e rmX10_loading s m args below meth c H locs 0 0 Q (F0 m 63 ls [])) b) : W p l e rmX10_loading s m args below meth c H locs 0 0 Q (F0 m 0 ls []) :=
  z_loop (body := fX10_loading_L0_0 n) (Wd := (fun a : zS => ∀ (H : Heap) (locs : List Loc) (ls : Array Slot), zH wM κ A s a H locs → lv_has ls 2 [(0, .ref (κ.2.1 0))] → W p l e rmX10_loading s m args below meth c H locs 0 0 Q (F0 m 0 ls []))) (Ex := (fun b : zS => (fun b : zS => ∀ (H : Heap) (locs : List Loc) (ls : Array Slot), zH wM κ A s b H locs → lv_has ls 2 [(0, .ref (κ.2.1 0))] → W p l e rmX10_loading s m args below meth c H locs 0 0 Q (F0 m 63 ls [])) b)) (fun a r hr Kc Ke H locs ls h hl => wX10_loading_L0_0 C h hl hr (fun σ1 e => Kc σ1 e) (fun σ1 e => Ke σ1 e)) k0 σ1 b hb K H locs ls h hl
set_option maxRecDepth 20000 in
set_option maxHeartbeats 4000000 in
theorem wX10_loading_0 {p : Program} {l : Launch} {e : Env} {s : State} {m : MethodId} {args : Array Value} {below : List Frame} {meth : Method} {c : Code} {A : Nat → Prop} {κ : zG} {H : Heap} {locs : List Loc} {ls : Array Slot} {n : Nat} {σ : zS} {r : zS} (C : zC cX10_loading 2 none RX10 κ A p s m args meth c) (h : zH wM κ A s σ H locs) (hl : lv_has ls 2 [(0, .ref (κ.2.1 0))]) (hf : fX10_loading_0 n σ = some r) : W p l e rmX10_loading s m args below meth c H locs 0 0 (MQ below (zQv wM κ A r) args s 0 0 A) (F0 m 0 ls []) := by
  unfold fX10_loading_0 at hf
  obtain ⟨b20, e21, hf⟩ := zb_some hf
  refine wlX10_loading_0 C h hl b20 e21 ?_
  intro H locs ls h hl
  cases hf
  exact z_vret C h dX10_loading_63
theorem ctX10_loading {l : Launch} {κ : zG} {n : Nat} {σ : zS} {r : zS} (hf : fX10_loading_0 n σ = some r) : zMv l yX10_loading (Cond.code yX10_loading cX10_loading 2 none) rmX10_loading wM κ [.ref (κ.2.1 0)] σ r :=
  zMv_of (by decide) (Nat.le_of_ble_eq_true rfl) (fun p e s m below meth c A C h ls hl => wX10_loading_0 C h hl hf)
