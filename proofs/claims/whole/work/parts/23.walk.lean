theorem hdX10_run : yX10_run.cls = RX10 ∧ yX10_run.cls ≠ "java/lang/invoke/MethodHandle" ∧ yX10_run.cls ≠ "java/lang/invoke/VarHandle" ∧ (parseMethodDescriptor yX10_run.desc).map (fun d => d.parameters.length) = some 3 := by decide +kernel
abbrev rmX10_run : Room := { frames := 3, cells := 0, slots := 0, locals := 67 }
set_option maxRecDepth 20000 in
set_option maxHeartbeats 4000000 in
theorem wX10_run_L75_75 {p : Program} {l : Launch} {e : Env} {s : State} {m : MethodId} {args : Array Value} {below : List Frame} {meth : Method} {c : Code} {A : Nat → Prop} {κ : zG} {H : Heap} {locs : List Loc} {ls : Array Slot} {Q : State → Prop} {n : Nat} {k3 : Int32} {k4 : Int32} {k7 : Int32} {a : Int64 × Int32 × zS} {r : (Int64 × Int32 × zS) ⊕ (Int64 × zS)} (C : zC cX10_run 10 (some .int) RX10 κ A p s m args meth c) (h : zH wM κ A s a.2.2 H locs) (hl : lv_has ls 10 [(0, .ref (κ.2.1 0)), (3, .int k3), (4, .int k4), (5, .long a.1), (7, .int k7), (9, .int a.2.1)]) (hf : fX10_run_L75_75 n k3 k4 k7 a = some r) (Kc : ∀ (v5 : Int64) (v9 : Int32) (σ1 : zS), r = .inl (v5, v9, σ1) → ∀ (H : Heap) (locs : List Loc) (ls : Array Slot), zH wM κ A s σ1 H locs → lv_has ls 10 [(0, .ref (κ.2.1 0)), (3, .int k3), (4, .int k4), (5, .long v5), (7, .int k7), (9, .int v9)] → W p l e rmX10_run s m args below meth c H locs 0 0 Q (F0 m 75 ls [])) (Ke0 : ∀ (v5 : Int64) (σ1 : zS), r = .inr (v5, σ1) → ∀ (H : Heap) (locs : List Loc) (ls : Array Slot), zH wM κ A s σ1 H locs → lv_has ls 10 [(0, .ref (κ.2.1 0)), (3, .int k3), (4, .int k4), (5, .long v5), (7, .int k7)] → W p l e rmX10_run s m args below meth c H locs 0 0 Q (F0 m 117 ls [])) : W p l e rmX10_run s m args below meth c H locs 0 0 Q (F0 m 75 ls []) := by
  unfold fX10_run_L75_75 at hf
  refine lv_iload C.ex C.by dX10_run_75 (lv_at hl 5 rfl) ?_
  refine lv_aload_n C.ex C.by dX10_run_77 rfl (lv_at hl 0 rfl) ?_
  refine z_get (v := .int (zI a.2.2 6)) C h iwX10 0 (wM_at0 κ _) rfl 16 (by decide) lkM9 rfl dX10_run_78 ?_
  refine lv_icmp_ge (tgt := 117) C.ex C.by dX10_run_81 (by decide) (fun c11 => ?_) (fun c11 => ?_)
  · have hf := zif_t c11 hf
    exact Ke0 _ _ (Option.some.inj hf).symm _ _ _ h (lv_sub hl [0, 1, 2, 3, 4] rfl)
  · have hf := zif_f c11 hf
    refine lv_lload C.ex C.by dX10_run_84 (lv_at hl 3 rfl) ?_
    refine lv_ldc2 (v := 6364136223846793005) C.ex C.by C.ow (C.ts _ lkM56) dX10_run_86 ?_
    refine lv_lmul C.ex C.by dX10_run_89 ?_
    refine lv_ldc2 (v := 1442695040888963407) C.ex C.by C.ow (C.ts _ lkM57) dX10_run_90 ?_
    refine lv_ladd C.ex C.by dX10_run_93 ?_
    refine lv_lstore (lv' := [(5, .long ((a.1 * 6364136223846793005) + 1442695040888963407)), (0, .ref (κ.2.1 0)), (3, .int k3), (4, .int k4), (7, .int k7), (9, .int a.2.1)]) C.ex C.by dX10_run_94 hl (by decide) rfl (fun ls hl => ?_)
    refine lv_aload_n C.ex C.by dX10_run_96 rfl (lv_at hl 1 rfl) ?_
    refine z_get (v := .ref (κ.2.1 15)) C h iwX10 0 (wM_at0 κ _) rfl 35 (by decide) lkM14 rfl dX10_run_97 ?_
    refine lv_iload C.ex C.by dX10_run_100 (lv_at hl 5 rfl) ?_
    refine lv_lload C.ex C.by dX10_run_102 (lv_at hl 0 rfl) ?_
    refine lv_bipush (v := 33) C.ex C.by dX10_run_104 (by decide) ?_
    refine lv_lushr (v := ((Int64.toUInt64 ((a.1 * 6364136223846793005) + 1442695040888963407) >>> (Int64.toUInt64 (Int32.toInt64 33) &&& Int64.toUInt64 63)).toInt64)) C.ex C.by dX10_run_106 rfl ?_
    refine lv_iload_n C.ex C.by dX10_run_107 rfl (lv_at hl 2 rfl) ?_
    refine lv_i2l (v := k3.toInt64) C.ex C.by dX10_run_108 rfl ?_
    obtain ⟨h12, hf⟩ := zg_some hf
    refine lv_lrem C.ex C.by dX10_run_109 (znzL_ne h12) ?_
    obtain ⟨h13, hf⟩ := zg_some hf
    refine z_last (f := (zL a.2.2 4)) C h 15 (wM_at15 κ _) h13 (sL a.2.2 4 (vp_updL (zL a.2.2 4) (Int32.toNatClampNeg a.2.1) (((Int64.toUInt64 ((a.1 * 6364136223846793005) + 1442695040888963407) >>> (Int64.toUInt64 (Int32.toInt64 33) &&& Int64.toUInt64 63)).toInt64) - ((Int64.toUInt64 ((a.1 * 6364136223846793005) + 1442695040888963407) >>> (Int64.toUInt64 (Int32.toInt64 33) &&& Int64.toUInt64 63)).toInt64) / k3.toInt64 * k3.toInt64))) (wM_s15 κ _ _) dX10_run_110 (fun H locs h => ?_)
    refine lv_iinc (v := (a.2.1 + 1)) (lv' := [(9, .int (a.2.1 + 1)), (5, .long ((a.1 * 6364136223846793005) + 1442695040888963407)), (0, .ref (κ.2.1 0)), (3, .int k3), (4, .int k4), (7, .int k7)]) C.ex C.by dX10_run_111 hl (k := 5) rfl rfl (by decide) rfl (fun ls hl => ?_)
    refine lv_goto (tgt := 75) C.ex C.by dX10_run_114 (by decide) ?_
    exact Kc _ _ _ (Option.some.inj hf).symm _ _ _ h (lv_sub hl [2, 3, 4, 1, 5, 0] rfl)
theorem wlX10_run_75 {p : Program} {l : Launch} {e : Env} {s : State} {m : MethodId} {args : Array Value} {below : List Frame} {meth : Method} {c : Code} {A : Nat → Prop} {κ : zG} {H : Heap} {locs : List Loc} {ls : Array Slot} {Q : State → Prop} {n : Nat} {k3 : Int32} {k4 : Int32} {k7 : Int32} {k0 : Nat} {u5 : Int64} {u9 : Int32} {σ1 : zS} (C : zC cX10_run 10 (some .int) RX10 κ A p s m args meth c) (h : zH wM κ A s σ1 H locs) (hl : lv_has ls 10 [(0, .ref (κ.2.1 0)), (3, .int k3), (4, .int k4), (5, .long u5), (7, .int k7), (9, .int u9)]) (b : Int64 × zS) (hb : zlp (fX10_run_L75_75 n k3 k4 k7) k0 (u5, u9, σ1) = some b) (K : (fun b : Int64 × zS => ∀ (H : Heap) (locs : List Loc) (ls : Array Slot), zH wM κ A s b.2 H locs → lv_has ls 10 [(0, .ref (κ.2.1 0)), (3, .int k3), (4, .int k4), (5, .long b.1), (7, .int k7)] → W p l e rmX10_run s m args below meth c H locs 0 0 Q (F0 m 117 ls [])) b) : W p l e rmX10_run s m args below meth c H locs 0 0 Q (F0 m 75 ls []) :=
  z_loop (body := fX10_run_L75_75 n k3 k4 k7) (Wd := (fun a : Int64 × Int32 × zS => ∀ (H : Heap) (locs : List Loc) (ls : Array Slot), zH wM κ A s a.2.2 H locs → lv_has ls 10 [(0, .ref (κ.2.1 0)), (3, .int k3), (4, .int k4), (5, .long a.1), (7, .int k7), (9, .int a.2.1)] → W p l e rmX10_run s m args below meth c H locs 0 0 Q (F0 m 75 ls []))) (Ex := (fun b : Int64 × zS => (fun b : Int64 × zS => ∀ (H : Heap) (locs : List Loc) (ls : Array Slot), zH wM κ A s b.2 H locs → lv_has ls 10 [(0, .ref (κ.2.1 0)), (3, .int k3), (4, .int k4), (5, .long b.1), (7, .int k7)] → W p l e rmX10_run s m args below meth c H locs 0 0 Q (F0 m 117 ls [])) b)) (fun a r hr Kc Ke H locs ls h hl => wX10_run_L75_75 C h hl hr (fun v5 v9 σ1 e => Kc (v5, v9, σ1) e) (fun v5 σ1 e => Ke (v5, σ1) e)) k0 (u5, u9, σ1) b hb K H locs ls h hl
set_option maxRecDepth 20000 in
set_option maxHeartbeats 4000000 in
theorem wX10_run_L60_137 {p : Program} {l : Launch} {e : Env} {s : State} {m : MethodId} {args : Array Value} {below : List Frame} {meth : Method} {c : Code} {A : Nat → Prop} {κ : zG} {H : Heap} {locs : List Loc} {ls : Array Slot} {Q : State → Prop} {n : Nat} {σ : zS} {k3 : Int32} {k4 : Int32} {x5 : Int64} {x8 : Int32} {y0 : Int32} {r : (Int64 × Int32 × Int32 × zS) ⊕ (Int32 × zS)} (C : zC cX10_run 10 (some .int) RX10 κ A p s m args meth c) (h : zH wM κ A s σ H locs) (hl : lv_has ls 10 [(0, .ref (κ.2.1 0)), (3, .int k3), (4, .int k4), (5, .long x5), (8, .int x8)]) (hf : fX10_run_L60_137 n σ k3 k4 x5 x8 y0 = some r) (Kc : ∀ (v5 : Int64) (v7 : Int32) (v8 : Int32) (σ1 : zS), r = .inl (v5, v7, v8, σ1) → ∀ (H : Heap) (locs : List Loc) (ls : Array Slot), zH wM κ A s σ1 H locs → lv_has ls 10 [(0, .ref (κ.2.1 0)), (3, .int k3), (4, .int k4), (5, .long v5), (7, .int v7), (8, .int v8)] → W p l e rmX10_run s m args below meth c H locs 0 0 Q (F0 m 60 ls [])) (Ke0 : ∀ (v7 : Int32) (σ1 : zS), r = .inr (v7, σ1) → ∀ (H : Heap) (locs : List Loc) (ls : Array Slot), zH wM κ A s σ1 H locs → lv_has ls 10 [(0, .ref (κ.2.1 0)), (7, .int v7)] → W p l e rmX10_run s m args below meth c H locs 0 0 Q (F0 m 142 ls [])) : W p l e rmX10_run s m args below meth c H locs 0 0 Q (F0 m 137 ls [.int y0]) := by
  unfold fX10_run_L60_137 at hf
  refine lv_istore (lv' := [(7, .int y0), (0, .ref (κ.2.1 0)), (3, .int k3), (4, .int k4), (5, .long x5), (8, .int x8)]) C.ex C.by dX10_run_137 hl (by decide) rfl (fun ls hl => ?_)
  refine lv_goto (tgt := 60) C.ex C.by dX10_run_139 (by decide) ?_
  exact Kc _ _ _ _ (Option.some.inj hf).symm _ _ _ h (lv_sub hl [1, 2, 3, 4, 0, 5] rfl)
set_option maxRecDepth 20000 in
set_option maxHeartbeats 4000000 in
theorem wX10_run_L60_60 {p : Program} {l : Launch} {e : Env} {s : State} {m : MethodId} {args : Array Value} {below : List Frame} {meth : Method} {c : Code} {A : Nat → Prop} {κ : zG} {H : Heap} {locs : List Loc} {ls : Array Slot} {Q : State → Prop} {n : Nat} {k3 : Int32} {k4 : Int32} {a : Int64 × Int32 × Int32 × zS} {r : (Int64 × Int32 × Int32 × zS) ⊕ (Int32 × zS)} (C : zC cX10_run 10 (some .int) RX10 κ A p s m args meth c) (h : zH wM κ A s a.2.2.2 H locs) (hl : lv_has ls 10 [(0, .ref (κ.2.1 0)), (3, .int k3), (4, .int k4), (5, .long a.1), (7, .int a.2.1), (8, .int a.2.2.1)]) (hf : fX10_run_L60_60 n k3 k4 a = some r) (Kc : ∀ (v5 : Int64) (v7 : Int32) (v8 : Int32) (σ1 : zS), r = .inl (v5, v7, v8, σ1) → ∀ (H : Heap) (locs : List Loc) (ls : Array Slot), zH wM κ A s σ1 H locs → lv_has ls 10 [(0, .ref (κ.2.1 0)), (3, .int k3), (4, .int k4), (5, .long v5), (7, .int v7), (8, .int v8)] → W p l e rmX10_run s m args below meth c H locs 0 0 Q (F0 m 60 ls [])) (Ke0 : ∀ (v7 : Int32) (σ1 : zS), r = .inr (v7, σ1) → ∀ (H : Heap) (locs : List Loc) (ls : Array Slot), zH wM κ A s σ1 H locs → lv_has ls 10 [(0, .ref (κ.2.1 0)), (7, .int v7)] → W p l e rmX10_run s m args below meth c H locs 0 0 Q (F0 m 142 ls [])) : W p l e rmX10_run s m args below meth c H locs 0 0 Q (F0 m 60 ls []) := by
  unfold fX10_run_L60_60 at hf
  refine lv_iload C.ex C.by dX10_run_60 (lv_at hl 4 rfl) ?_
  refine lv_iload C.ex C.by dX10_run_62 (lv_at hl 2 rfl) ?_
  refine lv_icmp_ge (tgt := 142) C.ex C.by dX10_run_64 (by decide) (fun c9 => ?_) (fun c9 => ?_)
  · have hf := zif_t c9 hf
    exact Ke0 _ _ (Option.some.inj hf).symm _ _ _ h (lv_sub hl [0, 4] rfl)
  · have hf := zif_f c9 hf
    refine lv_iload C.ex C.by dX10_run_67 (lv_at hl 5 rfl) ?_
    refine lv_if_eq (tgt := 142) C.ex C.by dX10_run_69 (by decide) (fun c10 => ?_) (fun c10 => ?_)
    · have hf := zif_t c10 hf
      exact Ke0 _ _ (Option.some.inj hf).symm _ _ _ h (lv_sub hl [0, 4] rfl)
    · have hf := zif_f c10 hf
      refine lv_iconst (v := 0) C.ex C.by dX10_run_72 (by decide) ?_
      refine lv_istore (lv' := [(9, .int 0), (0, .ref (κ.2.1 0)), (3, .int k3), (4, .int k4), (5, .long a.1), (7, .int a.2.1), (8, .int a.2.2.1)]) C.ex C.by dX10_run_73 hl (by decide) rfl (fun ls hl => ?_)
      obtain ⟨b14, e15, hf⟩ := zb_some hf
      refine wlX10_run_75 C h (lv_sub hl [1, 2, 3, 4, 5, 0] rfl) b14 e15 ?_
      intro H locs ls h hl
      refine lv_aload_n C.ex C.by dX10_run_117 rfl (lv_at hl 0 rfl) ?_
      obtain ⟨q16, e17, hf⟩ := zb_some hf
      refine z_callVi (As := []) C h (ctX10_come (r1 := q16.1) (r2 := q16.2) e17) (zgV lkM51 lkM52 lkM53 lkM2 lkM54) ⟨rfl, rfl⟩ hdX10_come ⟨Nat.le_of_ble_eq_true rfl, Nat.le_of_ble_eq_true rfl⟩ 0 (wM_at0 κ _) rfl hl rfl rfl (Nat.le_of_ble_eq_true rfl) dX10_run_118 ⟨Nat.zero_le _, Nat.zero_le _⟩ (fun H locs h => ?_)
      refine lv_istore (lv' := [(8, .int q16.1), (0, .ref (κ.2.1 0)), (3, .int k3), (4, .int k4), (5, .long b14.1), (7, .int a.2.1)]) C.ex C.by dX10_run_121 hl (by decide) rfl (fun ls hl => ?_)
      refine lv_iload C.ex C.by dX10_run_123 (lv_at hl 0 rfl) ?_
      refine lv_if_eq (tgt := 135) C.ex C.by dX10_run_125 (by decide) (fun c18 => ?_) (fun c18 => ?_)
      · have hf := zif_t c18 hf
        refine lv_iload C.ex C.by dX10_run_135 (lv_at hl 5 rfl) ?_
        exact wX10_run_L60_137 C h (lv_sub hl [1, 2, 3, 4, 0] rfl) hf Kc Ke0
      · have hf := zif_f c18 hf
        refine lv_iload C.ex C.by dX10_run_128 (lv_at hl 5 rfl) ?_
        refine lv_iconst (v := 1) C.ex C.by dX10_run_130 (by decide) ?_
        refine lv_iadd C.ex C.by dX10_run_131 ?_
        refine lv_goto (tgt := 137) C.ex C.by dX10_run_132 (by decide) ?_
        exact wX10_run_L60_137 C h (lv_sub hl [1, 2, 3, 4, 0] rfl) hf Kc Ke0
theorem wlX10_run_60 {p : Program} {l : Launch} {e : Env} {s : State} {m : MethodId} {args : Array Value} {below : List Frame} {meth : Method} {c : Code} {A : Nat → Prop} {κ : zG} {H : Heap} {locs : List Loc} {ls : Array Slot} {Q : State → Prop} {n : Nat} {k3 : Int32} {k4 : Int32} {k0 : Nat} {u5 : Int64} {u7 : Int32} {u8 : Int32} {σ1 : zS} (C : zC cX10_run 10 (some .int) RX10 κ A p s m args meth c) (h : zH wM κ A s σ1 H locs) (hl : lv_has ls 10 [(0, .ref (κ.2.1 0)), (3, .int k3), (4, .int k4), (5, .long u5), (7, .int u7), (8, .int u8)]) (b : Int32 × zS) (hb : zlp (fX10_run_L60_60 n k3 k4) k0 (u5, u7, u8, σ1) = some b) (K : (fun b : Int32 × zS => ∀ (H : Heap) (locs : List Loc) (ls : Array Slot), zH wM κ A s b.2 H locs → lv_has ls 10 [(0, .ref (κ.2.1 0)), (7, .int b.1)] → W p l e rmX10_run s m args below meth c H locs 0 0 Q (F0 m 142 ls [])) b) : W p l e rmX10_run s m args below meth c H locs 0 0 Q (F0 m 60 ls []) :=
  z_loop (body := fX10_run_L60_60 n k3 k4) (Wd := (fun a : Int64 × Int32 × Int32 × zS => ∀ (H : Heap) (locs : List Loc) (ls : Array Slot), zH wM κ A s a.2.2.2 H locs → lv_has ls 10 [(0, .ref (κ.2.1 0)), (3, .int k3), (4, .int k4), (5, .long a.1), (7, .int a.2.1), (8, .int a.2.2.1)] → W p l e rmX10_run s m args below meth c H locs 0 0 Q (F0 m 60 ls []))) (Ex := (fun b : Int32 × zS => (fun b : Int32 × zS => ∀ (H : Heap) (locs : List Loc) (ls : Array Slot), zH wM κ A s b.2 H locs → lv_has ls 10 [(0, .ref (κ.2.1 0)), (7, .int b.1)] → W p l e rmX10_run s m args below meth c H locs 0 0 Q (F0 m 142 ls [])) b)) (fun a r hr Kc Ke H locs ls h hl => wX10_run_L60_60 C h hl hr (fun v5 v7 v8 σ1 e => Kc (v5, v7, v8, σ1) e) (fun v7 σ1 e => Ke (v7, σ1) e)) k0 (u5, u7, u8, σ1) b hb K H locs ls h hl
set_option maxRecDepth 20000 in
set_option maxHeartbeats 4000000 in
theorem wX10_run_39 {p : Program} {l : Launch} {e : Env} {s : State} {m : MethodId} {args : Array Value} {below : List Frame} {meth : Method} {c : Code} {A : Nat → Prop} {κ : zG} {H : Heap} {locs : List Loc} {ls : Array Slot} {n : Nat} {σ : zS} {x1 : Int64} {x3 : Int32} {x4 : Int32} {y0 : Int32} {r1 : Int32} {r2 : zS} (C : zC cX10_run 10 (some .int) RX10 κ A p s m args meth c) (h : zH wM κ A s σ H locs) (hl : lv_has ls 10 [(0, .ref (κ.2.1 0)), (1, .long x1), (3, .int x3), (4, .int x4)]) (hf : fX10_run_39 n σ x1 x3 x4 y0 = some (r1, r2)) : W p l e rmX10_run s m args below meth c H locs 0 0 (MQ below (zQi wM κ A r1 r2) args s 0 0 A) (F0 m 39 ls [.int y0, .ref (κ.2.1 0)]) := by
  unfold fX10_run_39 at hf
  refine z_put C h iwX10 tyX10_ok nmX10 0 (wM_at0 κ _) rfl 0 (by decide) lkM8 rfl rfl rfl (Nat.le_of_ble_eq_true rfl) (sI σ 0 y0) (wM_s0_0 κ _ _) dX10_run_39 (fun H locs h => ?_)
  refine lv_aload_n C.ex C.by dX10_run_42 rfl (lv_at hl 0 rfl) ?_
  refine z_get (v := .int y0) C h iwX10 0 (wM_at0 κ _) rfl 0 (by decide) lkM8 rfl dX10_run_43 ?_
  refine lv_if_le (tgt := 51) C.ex C.by dX10_run_46 (by decide) (fun c8 => ?_) (fun c8 => ?_)
  · have hf := zif_t c8 hf
    refine lv_lload_n C.ex C.by dX10_run_51 rfl (lv_at hl 1 rfl) ?_
    refine lv_lstore (lv' := [(5, .long x1), (0, .ref (κ.2.1 0)), (1, .long x1), (3, .int x3), (4, .int x4)]) C.ex C.by dX10_run_52 hl (by decide) rfl (fun ls hl => ?_)
    refine lv_iconst (v := 0) C.ex C.by dX10_run_54 (by decide) ?_
    refine lv_istore (lv' := [(7, .int 0), (5, .long x1), (0, .ref (κ.2.1 0)), (1, .long x1), (3, .int x3), (4, .int x4)]) C.ex C.by dX10_run_55 hl (by decide) rfl (fun ls hl => ?_)
    refine lv_iconst (v := 1) C.ex C.by dX10_run_57 (by decide) ?_
    refine lv_istore (lv' := [(8, .int 1), (7, .int 0), (5, .long x1), (0, .ref (κ.2.1 0)), (1, .long x1), (3, .int x3), (4, .int x4)]) C.ex C.by dX10_run_58 hl (by decide) rfl (fun ls hl => ?_)
    obtain ⟨b19, e20, hf⟩ := zb_some hf
    refine wlX10_run_60 C h (lv_sub hl [3, 5, 6, 2, 1, 0] rfl) b19 e20 ?_
    intro H locs ls h hl
    refine lv_iload C.ex C.by dX10_run_142 (lv_at hl 1 rfl) ?_
    cases hf
    exact z_iret C h dX10_run_144
  · have hf := zif_f c8 hf
    refine lv_iconst (v := 0) C.ex C.by dX10_run_49 (by decide) ?_
    cases hf
    exact z_iret C h dX10_run_50
set_option maxRecDepth 20000 in
set_option maxHeartbeats 4000000 in
theorem wX10_run_23 {p : Program} {l : Launch} {e : Env} {s : State} {m : MethodId} {args : Array Value} {below : List Frame} {meth : Method} {c : Code} {A : Nat → Prop} {κ : zG} {H : Heap} {locs : List Loc} {ls : Array Slot} {n : Nat} {σ : zS} {x1 : Int64} {x3 : Int32} {x4 : Int32} {r1 : Int32} {r2 : zS} (C : zC cX10_run 10 (some .int) RX10 κ A p s m args meth c) (h : zH wM κ A s σ H locs) (hl : lv_has ls 10 [(0, .ref (κ.2.1 0)), (1, .long x1), (3, .int x3), (4, .int x4)]) (hf : fX10_run_23 n σ x1 x3 x4 = some (r1, r2)) : W p l e rmX10_run s m args below meth c H locs 0 0 (MQ below (zQi wM κ A r1 r2) args s 0 0 A) (F0 m 23 ls [.ref (κ.2.1 0)]) := by
  unfold fX10_run_23 at hf
  refine lv_iconst (v := 1) C.ex C.by dX10_run_23 (by decide) ?_
  refine lv_goto (tgt := 39) C.ex C.by dX10_run_24 (by decide) ?_
  exact wX10_run_39 C h hl hf
set_option maxRecDepth 20000 in
set_option maxHeartbeats 4000000 in
theorem wX10_run_0 {p : Program} {l : Launch} {e : Env} {s : State} {m : MethodId} {args : Array Value} {below : List Frame} {meth : Method} {c : Code} {A : Nat → Prop} {κ : zG} {H : Heap} {locs : List Loc} {ls : Array Slot} {n : Nat} {σ : zS} {x1 : Int64} {x3 : Int32} {x4 : Int32} {r1 : Int32} {r2 : zS} (C : zC cX10_run 10 (some .int) RX10 κ A p s m args meth c) (h : zH wM κ A s σ H locs) (hl : lv_has ls 10 [(0, .ref (κ.2.1 0)), (1, .long x1), (3, .int x3), (4, .int x4)]) (hf : fX10_run_0 n σ x1 x3 x4 = some (r1, r2)) : W p l e rmX10_run s m args below meth c H locs 0 0 (MQ below (zQi wM κ A r1 r2) args s 0 0 A) (F0 m 0 ls []) := by
  unfold fX10_run_0 at hf
  refine lv_aload_n C.ex C.by dX10_run_0 rfl (lv_at hl 0 rfl) ?_
  refine lv_iload_n C.ex C.by dX10_run_1 rfl (lv_at hl 2 rfl) ?_
  refine lv_iconst (v := 1) C.ex C.by dX10_run_2 (by decide) ?_
  refine lv_ldc (v := 1000000000) C.ex C.by C.ow (C.ts _ lkM55) dX10_run_3 ?_
  obtain ⟨q1, e2, hf⟩ := zb_some hf
  refine z_callSi (As := [.int x3, .int 1, .int 1000000000]) C h (ctX10_isIn e2) (zgS lkM0 lkM1 lkM2 lkM3) ⟨rfl, rfl⟩ hdX10_isIn ⟨Nat.le_of_ble_eq_true rfl, Nat.le_of_ble_eq_true rfl⟩ hl rfl rfl (Nat.le_of_ble_eq_true rfl) dX10_run_5 ⟨Nat.zero_le _, Nat.zero_le _⟩ (fun H locs h => ?_)
  refine lv_if_eq (tgt := 23) C.ex C.by dX10_run_8 (by decide) (fun c3 => ?_) (fun c3 => ?_)
  · have hf := zif_t c3 hf
    exact wX10_run_23 C h hl hf
  · have hf := zif_f c3 hf
    refine lv_iload C.ex C.by dX10_run_11 (lv_at hl 3 rfl) ?_
    refine lv_iconst (v := 0) C.ex C.by dX10_run_13 (by decide) ?_
    refine lv_sipush (v := 300) C.ex C.by dX10_run_14 (by decide) ?_
    obtain ⟨q4, e5, hf⟩ := zb_some hf
    refine z_callSi (As := [.int x4, .int 0, .int 300]) C h (ctX10_isIn e5) (zgS lkM0 lkM1 lkM2 lkM3) ⟨rfl, rfl⟩ hdX10_isIn ⟨Nat.le_of_ble_eq_true rfl, Nat.le_of_ble_eq_true rfl⟩ hl rfl rfl (Nat.le_of_ble_eq_true rfl) dX10_run_17 ⟨Nat.zero_le _, Nat.zero_le _⟩ (fun H locs h => ?_)
    refine lv_if_ne (tgt := 27) C.ex C.by dX10_run_20 (by decide) (fun c6 => ?_) (fun c6 => ?_)
    · have hf := zif_f c6 hf
      refine lv_aload_n C.ex C.by dX10_run_27 rfl (lv_at hl 0 rfl) ?_
      refine z_get (v := .int (zI σ 16)) C h iwX10 0 (wM_at0 κ _) rfl 28 (by decide) lkM4 rfl dX10_run_28 ?_
      refine lv_if_eq (tgt := 38) C.ex C.by dX10_run_31 (by decide) (fun c7 => ?_) (fun c7 => ?_)
      · have hf := zif_t c7 hf
        refine lv_iconst (v := 0) C.ex C.by dX10_run_38 (by decide) ?_
        exact wX10_run_39 C h hl hf
      · have hf := zif_f c7 hf
        refine lv_iconst (v := 2) C.ex C.by dX10_run_34 (by decide) ?_
        refine lv_goto (tgt := 39) C.ex C.by dX10_run_35 (by decide) ?_
        exact wX10_run_39 C h hl hf
    · have hf := zif_t c6 hf
      exact wX10_run_23 C h hl hf
theorem ctX10_run {l : Launch} {κ : zG} {n : Nat} {σ : zS} {x1 : Int64} {x3 : Int32} {x4 : Int32} {r1 : Int32} {r2 : zS} (hf : fX10_run_0 n σ x1 x3 x4 = some (r1, r2)) : zMi l yX10_run (Cond.code yX10_run cX10_run 10 (some .int)) rmX10_run wM κ [.ref (κ.2.1 0), .long x1, .int x3, .int x4] σ r1 r2 :=
  zMi_of (by decide) (Nat.le_of_ble_eq_true rfl) (fun p e s m below meth c A C h ls hl => wX10_run_0 C h hl hf)
theorem hdX10_read : yX10_read.cls = RX10 ∧ yX10_read.cls ≠ "java/lang/invoke/MethodHandle" ∧ yX10_read.cls ≠ "java/lang/invoke/VarHandle" ∧ (parseMethodDescriptor yX10_read.desc).map (fun d => d.parameters.length) = some 1 := by decide +kernel
abbrev rmX10_read : Room := { frames := 1, cells := 0, slots := 0, locals := 21 }
set_option maxRecDepth 20000 in
set_option maxHeartbeats 4000000 in
theorem wX10_read_0 {p : Program} {l : Launch} {e : Env} {s : State} {m : MethodId} {args : Array Value} {below : List Frame} {meth : Method} {c : Code} {A : Nat → Prop} {κ : zG} {H : Heap} {locs : List Loc} {ls : Array Slot} {n : Nat} {σ : zS} {x1 : Int32} {r : zS} (C : zC cX10_read 2 none RX10 κ A p s m args meth c) (h : zH wM κ A s σ H locs) (hl : lv_has ls 2 [(0, .ref (κ.2.1 0)), (1, .int x1)]) (hf : fX10_read_0 n σ x1 = some r) : W p l e rmX10_read s m args below meth c H locs 0 0 (MQ below (zQv wM κ A r) args s 0 0 A) (F0 m 0 ls []) := by
  unfold fX10_read_0 at hf
  refine lv_aload_n C.ex C.by dX10_read_0 rfl (lv_at hl 0 rfl) ?_
  refine z_get (v := .int (zI σ 17)) C h iwX10 0 (wM_at0 κ _) rfl 29 (by decide) lkM17 rfl dX10_read_1 ?_
  refine lv_if_ne (tgt := 22) C.ex C.by dX10_read_4 (by decide) (fun c1 => ?_) (fun c1 => ?_)
  · have hf := zif_f c1 hf
    cases hf
    exact z_vret C h dX10_read_22
  · have hf := zif_t c1 hf
    refine lv_aload_n C.ex C.by dX10_read_7 rfl (lv_at hl 0 rfl) ?_
    refine lv_dup C.ex C.by dX10_read_8 rfl ?_
    refine z_get (v := .int (zI σ 10)) C h iwX10 0 (wM_at0 κ _) rfl 22 (by decide) lkM63 rfl dX10_read_9 ?_
    refine lv_iconst (v := 1) C.ex C.by dX10_read_12 (by decide) ?_
    refine lv_iadd C.ex C.by dX10_read_13 ?_
    refine z_put C h iwX10 tyX10_ok nmX10 0 (wM_at0 κ _) rfl 22 (by decide) lkM63 rfl rfl rfl (Nat.le_of_ble_eq_true rfl) (sI σ 10 ((zI σ 10) + 1)) (wM_s0_22 κ _ _) dX10_read_14 (fun H locs h => ?_)
    refine lv_aload_n C.ex C.by dX10_read_17 rfl (lv_at hl 0 rfl) ?_
    refine lv_iload_n C.ex C.by dX10_read_18 rfl (lv_at hl 1 rfl) ?_
    obtain ⟨q2, e3, hf⟩ := zb_some hf
    refine z_callVv (As := [.int x1]) C h (ctX10_go e3) (zgV lkM36 lkM37 lkM38 lkM2 lkM39) ⟨rfl, rfl⟩ hdX10_go ⟨Nat.le_of_ble_eq_true rfl, Nat.le_of_ble_eq_true rfl⟩ 0 (wM_at0 κ _) rfl hl rfl rfl (Nat.le_of_ble_eq_true rfl) dX10_read_19 ⟨Nat.zero_le _, Nat.zero_le _⟩ (fun H locs h => ?_)
    cases hf
    exact z_vret C h dX10_read_22
theorem ctX10_read {l : Launch} {κ : zG} {n : Nat} {σ : zS} {x1 : Int32} {r : zS} (hf : fX10_read_0 n σ x1 = some r) : zMv l yX10_read (Cond.code yX10_read cX10_read 2 none) rmX10_read wM κ [.ref (κ.2.1 0), .int x1] σ r :=
  zMv_of (by decide) (Nat.le_of_ble_eq_true rfl) (fun p e s m below meth c A C h ls hl => wX10_read_0 C h hl hf)
theorem hdX10_nextRecord : yX10_nextRecord.cls = RX10 ∧ yX10_nextRecord.cls ≠ "java/lang/invoke/MethodHandle" ∧ yX10_nextRecord.cls ≠ "java/lang/invoke/VarHandle" ∧ (parseMethodDescriptor yX10_nextRecord.desc).map (fun d => d.parameters.length) = some 0 := by decide +kernel
abbrev rmX10_nextRecord : Room := { frames := 2, cells := 0, slots := 0, locals := 42 }
set_option maxRecDepth 20000 in
set_option maxHeartbeats 4000000 in
theorem wX10_nextRecord_60 {p : Program} {l : Launch} {e : Env} {s : State} {m : MethodId} {args : Array Value} {below : List Frame} {meth : Method} {c : Code} {A : Nat → Prop} {κ : zG} {H : Heap} {locs : List Loc} {ls : Array Slot} {n : Nat} {σ : zS} {r1 : Int32} {r2 : zS} (C : zC cX10_nextRecord 2 (some .int) RX10 κ A p s m args meth c) (h : zH wM κ A s σ H locs) (hl : lv_has ls 2 [(0, .ref (κ.2.1 0))]) (hf : fX10_nextRecord_60 n σ = some (r1, r2)) : W p l e rmX10_nextRecord s m args below meth c H locs 0 0 (MQ below (zQi wM κ A r1 r2) args s 0 0 A) (F0 m 60 ls []) := by
  unfold fX10_nextRecord_60 at hf
  refine lv_bipush (v := 64) C.ex C.by dX10_nextRecord_60 (by decide) ?_
  refine lv_aload_n C.ex C.by dX10_nextRecord_62 rfl (lv_at hl 0 rfl) ?_
  refine z_get (v := .int (zI σ 21)) C h iwX10 0 (wM_at0 κ _) rfl 36 (by decide) lkM59 rfl dX10_nextRecord_63 ?_
  refine lv_imul C.ex C.by dX10_nextRecord_66 ?_
  refine lv_aload_n C.ex C.by dX10_nextRecord_67 rfl (lv_at hl 0 rfl) ?_
  refine z_get (v := .int (zI σ 22)) C h iwX10 0 (wM_at0 κ _) rfl 37 (by decide) lkM60 rfl dX10_nextRecord_68 ?_
  refine lv_aload_n C.ex C.by dX10_nextRecord_71 rfl (lv_at hl 0 rfl) ?_
  refine z_get (v := .int (zI σ 6)) C h iwX10 0 (wM_at0 κ _) rfl 16 (by decide) lkM9 rfl dX10_nextRecord_72 ?_
  refine lv_iconst (v := 1) C.ex C.by dX10_nextRecord_75 (by decide) ?_
  refine lv_iadd C.ex C.by dX10_nextRecord_76 ?_
  refine lv_imul C.ex C.by dX10_nextRecord_77 ?_
  refine lv_iadd C.ex C.by dX10_nextRecord_78 ?_
  refine lv_istore_n (lv' := [(1, .int ((64 * (zI σ 21)) + ((zI σ 22) * ((zI σ 6) + 1)))), (0, .ref (κ.2.1 0))]) C.ex C.by dX10_nextRecord_79 rfl hl (by decide) rfl (fun ls hl => ?_)
  refine lv_aload_n C.ex C.by dX10_nextRecord_80 rfl (lv_at hl 1 rfl) ?_
  refine lv_dup C.ex C.by dX10_nextRecord_81 rfl ?_
  refine z_get (v := .int (zI σ 22)) C h iwX10 0 (wM_at0 κ _) rfl 37 (by decide) lkM60 rfl dX10_nextRecord_82 ?_
  refine lv_iconst (v := 1) C.ex C.by dX10_nextRecord_85 (by decide) ?_
  refine lv_iadd C.ex C.by dX10_nextRecord_86 ?_
  refine z_put C h iwX10 tyX10_ok nmX10 0 (wM_at0 κ _) rfl 37 (by decide) lkM60 rfl rfl rfl (Nat.le_of_ble_eq_true rfl) (sI σ 22 ((zI σ 22) + 1)) (wM_s0_37 κ _ _) dX10_nextRecord_87 (fun H locs h => ?_)
  refine lv_aload_n C.ex C.by dX10_nextRecord_90 rfl (lv_at hl 1 rfl) ?_
  refine lv_dup C.ex C.by dX10_nextRecord_91 rfl ?_
  refine z_get (v := .int (zI σ 23)) C h iwX10 0 (wM_at0 κ _) rfl 38 (by decide) lkM61 rfl dX10_nextRecord_92 ?_
  refine lv_iconst (v := 1) C.ex C.by dX10_nextRecord_95 (by decide) ?_
  refine lv_isub C.ex C.by dX10_nextRecord_96 ?_
  refine z_put C h iwX10 tyX10_ok nmX10 0 (wM_at0 κ _) rfl 38 (by decide) lkM61 rfl rfl rfl (Nat.le_of_ble_eq_true rfl) (sI (sI σ 22 ((zI σ 22) + 1)) 23 ((zI σ 23) - 1)) (wM_s0_38 κ _ _) dX10_nextRecord_97 (fun H locs h => ?_)
  refine lv_iload_n C.ex C.by dX10_nextRecord_100 rfl (lv_at hl 0 rfl) ?_
  cases hf
  exact z_iret C h dX10_nextRecord_101
set_option maxRecDepth 20000 in
set_option maxHeartbeats 4000000 in
theorem wX10_nextRecord_45 {p : Program} {l : Launch} {e : Env} {s : State} {m : MethodId} {args : Array Value} {below : List Frame} {meth : Method} {c : Code} {A : Nat → Prop} {κ : zG} {H : Heap} {locs : List Loc} {ls : Array Slot} {n : Nat} {σ : zS} {r1 : Int32} {r2 : zS} (C : zC cX10_nextRecord 2 (some .int) RX10 κ A p s m args meth c) (h : zH wM κ A s σ H locs) (hl : lv_has ls 2 [(0, .ref (κ.2.1 0))]) (hf : fX10_nextRecord_45 n σ = some (r1, r2)) : W p l e rmX10_nextRecord s m args below meth c H locs 0 0 (MQ below (zQi wM κ A r1 r2) args s 0 0 A) (F0 m 45 ls []) := by
  unfold fX10_nextRecord_45 at hf
  refine lv_aload_n C.ex C.by dX10_nextRecord_45 rfl (lv_at hl 0 rfl) ?_
  refine z_get (v := .int (zI σ 22)) C h iwX10 0 (wM_at0 κ _) rfl 37 (by decide) lkM60 rfl dX10_nextRecord_46 ?_
  refine lv_if_ne (tgt := 60) C.ex C.by dX10_nextRecord_49 (by decide) (fun c7 => ?_) (fun c7 => ?_)
  · have hf := zif_f c7 hf
    exact wX10_nextRecord_60 C h hl hf
  · have hf := zif_t c7 hf
    refine lv_aload_n C.ex C.by dX10_nextRecord_52 rfl (lv_at hl 0 rfl) ?_
    refine lv_aload_n C.ex C.by dX10_nextRecord_53 rfl (lv_at hl 0 rfl) ?_
    refine z_get (v := .int (zI σ 21)) C h iwX10 0 (wM_at0 κ _) rfl 36 (by decide) lkM59 rfl dX10_nextRecord_54 ?_
    obtain ⟨q8, e9, hf⟩ := zb_some hf
    refine z_callVv (As := [.int (zI σ 21)]) C h (ctX10_read e9) (zgV lkM64 lkM65 lkM66 lkM2 lkM67) ⟨rfl, rfl⟩ hdX10_read ⟨Nat.le_of_ble_eq_true rfl, Nat.le_of_ble_eq_true rfl⟩ 0 (wM_at0 κ _) rfl hl rfl rfl (Nat.le_of_ble_eq_true rfl) dX10_nextRecord_57 ⟨Nat.zero_le _, Nat.zero_le _⟩ (fun H locs h => ?_)
    exact wX10_nextRecord_60 C h hl hf
set_option maxRecDepth 20000 in
set_option maxHeartbeats 4000000 in
theorem wX10_nextRecord_0 {p : Program} {l : Launch} {e : Env} {s : State} {m : MethodId} {args : Array Value} {below : List Frame} {meth : Method} {c : Code} {A : Nat → Prop} {κ : zG} {H : Heap} {locs : List Loc} {ls : Array Slot} {n : Nat} {σ : zS} {r1 : Int32} {r2 : zS} (C : zC cX10_nextRecord 2 (some .int) RX10 κ A p s m args meth c) (h : zH wM κ A s σ H locs) (hl : lv_has ls 2 [(0, .ref (κ.2.1 0))]) (hf : fX10_nextRecord_0 n σ = some (r1, r2)) : W p l e rmX10_nextRecord s m args below meth c H locs 0 0 (MQ below (zQi wM κ A r1 r2) args s 0 0 A) (F0 m 0 ls []) := by
  unfold fX10_nextRecord_0 at hf
  refine lv_aload_n C.ex C.by dX10_nextRecord_0 rfl (lv_at hl 0 rfl) ?_
  refine z_get (v := .int (zI σ 23)) C h iwX10 0 (wM_at0 κ _) rfl 38 (by decide) lkM61 rfl dX10_nextRecord_1 ?_
  refine lv_if_eq (tgt := 14) C.ex C.by dX10_nextRecord_4 (by decide) (fun c1 => ?_) (fun c1 => ?_)
  · have hf := zif_t c1 hf
    refine lv_iconst (v := (-1)) C.ex C.by dX10_nextRecord_14 (by decide) ?_
    cases hf
    exact z_iret C h dX10_nextRecord_15
  · have hf := zif_f c1 hf
    refine lv_aload_n C.ex C.by dX10_nextRecord_7 rfl (lv_at hl 0 rfl) ?_
    refine z_get (v := .int (zI σ 17)) C h iwX10 0 (wM_at0 κ _) rfl 29 (by decide) lkM17 rfl dX10_nextRecord_8 ?_
    refine lv_if_le (tgt := 16) C.ex C.by dX10_nextRecord_11 (by decide) (fun c2 => ?_) (fun c2 => ?_)
    · have hf := zif_t c2 hf
      refine lv_aload_n C.ex C.by dX10_nextRecord_16 rfl (lv_at hl 0 rfl) ?_
      refine z_get (v := .int (zI σ 22)) C h iwX10 0 (wM_at0 κ _) rfl 37 (by decide) lkM60 rfl dX10_nextRecord_17 ?_
      refine lv_aload_n C.ex C.by dX10_nextRecord_20 rfl (lv_at hl 0 rfl) ?_
      obtain ⟨q3, e4, hf⟩ := zb_some hf
      refine z_callVi (As := []) C h (ctX10_per e4) (zgV lkM25 lkM26 lkM27 lkM2 lkM28) ⟨rfl, rfl⟩ hdX10_per ⟨Nat.le_of_ble_eq_true rfl, Nat.le_of_ble_eq_true rfl⟩ 0 (wM_at0 κ _) rfl hl rfl rfl (Nat.le_of_ble_eq_true rfl) dX10_nextRecord_21 ⟨Nat.zero_le _, Nat.zero_le _⟩ (fun H locs h => ?_)
      refine lv_icmp_ne (tgt := 45) C.ex C.by dX10_nextRecord_24 (by decide) (fun c5 => ?_) (fun c5 => ?_)
      · have hf := zif_f c5 hf
        exact wX10_nextRecord_45 C h hl hf
      · have hf := zif_t c5 hf
        refine lv_aload_n C.ex C.by dX10_nextRecord_27 rfl (lv_at hl 0 rfl) ?_
        refine lv_aload_n C.ex C.by dX10_nextRecord_28 rfl (lv_at hl 0 rfl) ?_
        refine z_get (v := .ref (κ.2.1 4)) C h iwX10 0 (wM_at0 κ _) rfl 7 (by decide) lkM31 rfl dX10_nextRecord_29 ?_
        refine lv_aload_n C.ex C.by dX10_nextRecord_32 rfl (lv_at hl 0 rfl) ?_
        refine z_get (v := .int (zI σ 21)) C h iwX10 0 (wM_at0 κ _) rfl 36 (by decide) lkM59 rfl dX10_nextRecord_33 ?_
        obtain ⟨h6, hf⟩ := zg_some hf
        refine z_iald (f := (zA σ 2)) C h 4 (wM_at4 κ _) h6 dX10_nextRecord_36 ?_
        refine z_put C h iwX10 tyX10_ok nmX10 0 (wM_at0 κ _) rfl 36 (by decide) lkM59 rfl rfl rfl (Nat.le_of_ble_eq_true rfl) (sI σ 21 ((zA σ 2) (Int32.toNatClampNeg (zI σ 21)))) (wM_s0_36 κ _ _) dX10_nextRecord_37 (fun H locs h => ?_)
        refine lv_aload_n C.ex C.by dX10_nextRecord_40 rfl (lv_at hl 0 rfl) ?_
        refine lv_iconst (v := 0) C.ex C.by dX10_nextRecord_41 (by decide) ?_
        refine z_put C h iwX10 tyX10_ok nmX10 0 (wM_at0 κ _) rfl 37 (by decide) lkM60 rfl rfl rfl (Nat.le_of_ble_eq_true rfl) (sI (sI σ 21 ((zA σ 2) (Int32.toNatClampNeg (zI σ 21)))) 22 0) (wM_s0_37 κ _ _) dX10_nextRecord_42 (fun H locs h => ?_)
        exact wX10_nextRecord_45 C h hl hf
    · have hf := zif_f c2 hf
      refine lv_iconst (v := (-1)) C.ex C.by dX10_nextRecord_14 (by decide) ?_
      cases hf
      exact z_iret C h dX10_nextRecord_15
theorem ctX10_nextRecord {l : Launch} {κ : zG} {n : Nat} {σ : zS} {r1 : Int32} {r2 : zS} (hf : fX10_nextRecord_0 n σ = some (r1, r2)) : zMi l yX10_nextRecord (Cond.code yX10_nextRecord cX10_nextRecord 2 (some .int)) rmX10_nextRecord wM κ [.ref (κ.2.1 0)] σ r1 r2 :=
  zMi_of (by decide) (Nat.le_of_ble_eq_true rfl) (fun p e s m below meth c A C h ls hl => wX10_nextRecord_0 C h hl hf)
theorem hdX10_byKeys : yX10_byKeys.cls = RX10 ∧ yX10_byKeys.cls ≠ "java/lang/invoke/MethodHandle" ∧ yX10_byKeys.cls ≠ "java/lang/invoke/VarHandle" ∧ (parseMethodDescriptor yX10_byKeys.desc).map (fun d => d.parameters.length) = some 3 := by decide +kernel
abbrev rmX10_byKeys_p1 : Room := { frames := 0, cells := 0, slots := 0, locals := 0 }
set_option maxRecDepth 20000 in
set_option maxHeartbeats 4000000 in
theorem wX10_byKeys_p1_L23_49 {p : Program} {l : Launch} {e : Env} {s : State} {m : MethodId} {args : Array Value} {below : List Frame} {meth : Method} {c : Code} {A : Nat → Prop} {κ : zG} {H : Heap} {locs : List Loc} {ls : Array Slot} {Q : State → Prop} {n : Nat} {σ : zS} {k2 : Int32} {k3 : Int32} {k4 : Int32} {x5 : Int32} {y0 : Int32} {r : (Int32) ⊕ ((Unit) ⊕ (Int32 × Int64 × Int64))} (C : zC cX10_byKeys 11 (some .int) RX10 κ A p s m args meth c) (h : zH wM κ A s σ H locs) (hl : lv_has ls 11 [(0, .ref (κ.2.1 0)), (1, .ref (κ.2.1 1)), (2, .int k2), (3, .int k3), (4, .int k4), (5, .int x5)]) (hf : fX10_byKeys_p1_L23_49 n σ k2 k3 k4 x5 y0 = some r) (Kc : ∀ (v5 : Int32), r = .inl v5 → ∀ (H : Heap) (locs : List Loc) (ls : Array Slot), zH wM κ A s σ H locs → lv_has ls 11 [(0, .ref (κ.2.1 0)), (1, .ref (κ.2.1 1)), (2, .int k2), (3, .int k3), (4, .int k4), (5, .int v5)] → W p l e rmX10_byKeys_p1 s m args below meth c H locs 0 0 Q (F0 m 23 ls [])) (Ke0 : ∀ (_ : Unit), r = .inr (.inl ()) → ∀ (H : Heap) (locs : List Loc) (ls : Array Slot), zH wM κ A s σ H locs → lv_has ls 11 [(0, .ref (κ.2.1 0))] → W p l e rmX10_byKeys_p1 s m args below meth c H locs 0 0 Q (F0 m 128 ls [])) (Ke1 : ∀ (v5 : Int32) (v7 : Int64) (v9 : Int64), r = .inr (.inr (v5, v7, v9)) → ∀ (H : Heap) (locs : List Loc) (ls : Array Slot), zH wM κ A s σ H locs → lv_has ls 11 [(0, .ref (κ.2.1 0)), (5, .int v5), (7, .long v7), (9, .long v9)] → W p l e rmX10_byKeys_p1 s m args below meth c H locs 0 0 Q (F0 m 78 ls [])) : W p l e rmX10_byKeys_p1 s m args below meth c H locs 0 0 Q (F0 m 49 ls [.int y0]) := by
  unfold fX10_byKeys_p1_L23_49 at hf
  refine lv_istore (lv' := [(6, .int y0), (0, .ref (κ.2.1 0)), (1, .ref (κ.2.1 1)), (2, .int k2), (3, .int k3), (4, .int k4), (5, .int x5)]) C.ex C.by dX10_byKeys_49 hl (by decide) rfl (fun ls hl => ?_)
  refine lv_aload_n C.ex C.by dX10_byKeys_51 rfl (lv_at hl 2 rfl) ?_
  refine lv_iload_n C.ex C.by dX10_byKeys_52 rfl (lv_at hl 3 rfl) ?_
  refine lv_iload C.ex C.by dX10_byKeys_53 (lv_at hl 0 rfl) ?_
  refine lv_iadd C.ex C.by dX10_byKeys_55 ?_
  obtain ⟨h5, hf⟩ := zg_some hf
  refine z_lald (f := (zL σ 0)) C h 1 (wM_at1 κ _) h5 dX10_byKeys_56 ?_
  refine lv_lstore (lv' := [(7, .long ((zL σ 0) (Int32.toNatClampNeg (k2 + y0)))), (6, .int y0), (0, .ref (κ.2.1 0)), (1, .ref (κ.2.1 1)), (2, .int k2), (3, .int k3), (4, .int k4), (5, .int x5)]) C.ex C.by dX10_byKeys_57 hl (by decide) rfl (fun ls hl => ?_)
  refine lv_aload_n C.ex C.by dX10_byKeys_59 rfl (lv_at hl 2 rfl) ?_
  refine z_get (v := .ref (κ.2.1 1)) C h iwX10 0 (wM_at0 κ _) rfl 4 (by decide) lkM40 rfl dX10_byKeys_60 ?_
  refine lv_iload_n C.ex C.by dX10_byKeys_63 rfl (lv_at hl 5 rfl) ?_
  refine lv_iload C.ex C.by dX10_byKeys_64 (lv_at hl 1 rfl) ?_
  refine lv_iadd C.ex C.by dX10_byKeys_66 ?_
  obtain ⟨h6, hf⟩ := zg_some hf
  refine z_lald (f := (zL σ 0)) C h 1 (wM_at1 κ _) h6 dX10_byKeys_67 ?_
  refine lv_lstore (lv' := [(9, .long ((zL σ 0) (Int32.toNatClampNeg (k3 + y0)))), (7, .long ((zL σ 0) (Int32.toNatClampNeg (k2 + y0)))), (6, .int y0), (0, .ref (κ.2.1 0)), (1, .ref (κ.2.1 1)), (2, .int k2), (3, .int k3), (4, .int k4), (5, .int x5)]) C.ex C.by dX10_byKeys_68 hl (by decide) rfl (fun ls hl => ?_)
  refine lv_lload C.ex C.by dX10_byKeys_70 (lv_at hl 1 rfl) ?_
  refine lv_lload C.ex C.by dX10_byKeys_72 (lv_at hl 0 rfl) ?_
  refine W.lcmp C.ex C.by dX10_byKeys_74 ?_
  refine lv_if_eq (tgt := 122) C.ex C.by dX10_byKeys_75 (by decide) (fun c7 => ?_) (fun c7 => ?_)
  · have hf := zif_t c7 hf
    refine lv_iinc (v := (x5 + 1)) (lv' := [(5, .int (x5 + 1)), (9, .long ((zL σ 0) (Int32.toNatClampNeg (k3 + y0)))), (7, .long ((zL σ 0) (Int32.toNatClampNeg (k2 + y0)))), (6, .int y0), (0, .ref (κ.2.1 0)), (1, .ref (κ.2.1 1)), (2, .int k2), (3, .int k3), (4, .int k4)]) C.ex C.by dX10_byKeys_122 hl (k := 8) rfl rfl (by decide) rfl (fun ls hl => ?_)
    refine lv_goto (tgt := 23) C.ex C.by dX10_byKeys_125 (by decide) ?_
    exact Kc _ (Option.some.inj hf).symm _ _ _ h (lv_sub hl [4, 5, 6, 7, 8, 0] rfl)
  · have hf := zif_f c7 hf
    exact Ke1 _ _ _ (Option.some.inj hf).symm _ _ _ h (lv_sub hl [3, 8, 1, 0] rfl)
set_option maxRecDepth 20000 in
set_option maxHeartbeats 4000000 in
theorem wX10_byKeys_p1_L23_23 {p : Program} {l : Launch} {e : Env} {s : State} {m : MethodId} {args : Array Value} {below : List Frame} {meth : Method} {c : Code} {A : Nat → Prop} {κ : zG} {H : Heap} {locs : List Loc} {ls : Array Slot} {Q : State → Prop} {n : Nat} {σ : zS} {k2 : Int32} {k3 : Int32} {k4 : Int32} {a : Int32} {r : (Int32) ⊕ ((Unit) ⊕ (Int32 × Int64 × Int64))} (C : zC cX10_byKeys 11 (some .int) RX10 κ A p s m args meth c) (h : zH wM κ A s σ H locs) (hl : lv_has ls 11 [(0, .ref (κ.2.1 0)), (1, .ref (κ.2.1 1)), (2, .int k2), (3, .int k3), (4, .int k4), (5, .int a)]) (hf : fX10_byKeys_p1_L23_23 n σ k2 k3 k4 a = some r) (Kc : ∀ (v5 : Int32), r = .inl v5 → ∀ (H : Heap) (locs : List Loc) (ls : Array Slot), zH wM κ A s σ H locs → lv_has ls 11 [(0, .ref (κ.2.1 0)), (1, .ref (κ.2.1 1)), (2, .int k2), (3, .int k3), (4, .int k4), (5, .int v5)] → W p l e rmX10_byKeys_p1 s m args below meth c H locs 0 0 Q (F0 m 23 ls [])) (Ke0 : ∀ (_ : Unit), r = .inr (.inl ()) → ∀ (H : Heap) (locs : List Loc) (ls : Array Slot), zH wM κ A s σ H locs → lv_has ls 11 [(0, .ref (κ.2.1 0))] → W p l e rmX10_byKeys_p1 s m args below meth c H locs 0 0 Q (F0 m 128 ls [])) (Ke1 : ∀ (v5 : Int32) (v7 : Int64) (v9 : Int64), r = .inr (.inr (v5, v7, v9)) → ∀ (H : Heap) (locs : List Loc) (ls : Array Slot), zH wM κ A s σ H locs → lv_has ls 11 [(0, .ref (κ.2.1 0)), (5, .int v5), (7, .long v7), (9, .long v9)] → W p l e rmX10_byKeys_p1 s m args below meth c H locs 0 0 Q (F0 m 78 ls [])) : W p l e rmX10_byKeys_p1 s m args below meth c H locs 0 0 Q (F0 m 23 ls []) := by
  unfold fX10_byKeys_p1_L23_23 at hf
  refine lv_iload C.ex C.by dX10_byKeys_23 (lv_at hl 5 rfl) ?_
  refine lv_iload C.ex C.by dX10_byKeys_25 (lv_at hl 4 rfl) ?_
  refine lv_icmp_ge (tgt := 128) C.ex C.by dX10_byKeys_27 (by decide) (fun c2 => ?_) (fun c2 => ?_)
  · have hf := zif_t c2 hf
    exact Ke0 () (Option.some.inj hf).symm _ _ _ h (lv_sub hl [0] rfl)
  · have hf := zif_f c2 hf
    refine lv_aload_n C.ex C.by dX10_byKeys_30 rfl (lv_at hl 0 rfl) ?_
    refine z_get (v := .int (zI σ 7)) C h iwX10 0 (wM_at0 κ _) rfl 19 (by decide) lkM10 rfl dX10_byKeys_31 ?_
    refine lv_if_ne (tgt := 42) C.ex C.by dX10_byKeys_34 (by decide) (fun c3 => ?_) (fun c3 => ?_)
    · have hf := zif_f c3 hf
      refine lv_aload_n C.ex C.by dX10_byKeys_42 rfl (lv_at hl 0 rfl) ?_
      refine z_get (v := .ref (κ.2.1 11)) C h iwX10 0 (wM_at0 κ _) rfl 17 (by decide) lkM11 rfl dX10_byKeys_43 ?_
      refine lv_iload C.ex C.by dX10_byKeys_46 (lv_at hl 5 rfl) ?_
      obtain ⟨h4, hf⟩ := zg_some hf
      refine z_iald (f := (zA σ 8)) C h 11 (wM_at11 κ _) h4 dX10_byKeys_48 ?_
      exact wX10_byKeys_p1_L23_49 C h hl hf Kc Ke0 Ke1
    · have hf := zif_t c3 hf
      refine lv_iload C.ex C.by dX10_byKeys_37 (lv_at hl 5 rfl) ?_
      refine lv_goto (tgt := 49) C.ex C.by dX10_byKeys_39 (by decide) ?_
      exact wX10_byKeys_p1_L23_49 C h hl hf Kc Ke0 Ke1
theorem wlX10_byKeys_p1_23 {p : Program} {l : Launch} {e : Env} {s : State} {m : MethodId} {args : Array Value} {below : List Frame} {meth : Method} {c : Code} {A : Nat → Prop} {κ : zG} {H : Heap} {locs : List Loc} {ls : Array Slot} {Q : State → Prop} {n : Nat} {σ : zS} {k2 : Int32} {k3 : Int32} {k4 : Int32} {k0 : Nat} {u5 : Int32} (C : zC cX10_byKeys 11 (some .int) RX10 κ A p s m args meth c) (h : zH wM κ A s σ H locs) (hl : lv_has ls 11 [(0, .ref (κ.2.1 0)), (1, .ref (κ.2.1 1)), (2, .int k2), (3, .int k3), (4, .int k4), (5, .int u5)]) (b : (Unit) ⊕ (Int32 × Int64 × Int64)) (hb : zlp (fX10_byKeys_p1_L23_23 n σ k2 k3 k4) k0 u5 = some b) (K : (fun b => Sum.elim (fun b : Unit => ∀ (H : Heap) (locs : List Loc) (ls : Array Slot), zH wM κ A s σ H locs → lv_has ls 11 [(0, .ref (κ.2.1 0))] → W p l e rmX10_byKeys_p1 s m args below meth c H locs 0 0 Q (F0 m 128 ls [])) (fun b : Int32 × Int64 × Int64 => ∀ (H : Heap) (locs : List Loc) (ls : Array Slot), zH wM κ A s σ H locs → lv_has ls 11 [(0, .ref (κ.2.1 0)), (5, .int b.1), (7, .long b.2.1), (9, .long b.2.2)] → W p l e rmX10_byKeys_p1 s m args below meth c H locs 0 0 Q (F0 m 78 ls [])) b) b) : W p l e rmX10_byKeys_p1 s m args below meth c H locs 0 0 Q (F0 m 23 ls []) :=
  z_loop (body := fX10_byKeys_p1_L23_23 n σ k2 k3 k4) (Wd := (fun a : Int32 => ∀ (H : Heap) (locs : List Loc) (ls : Array Slot), zH wM κ A s σ H locs → lv_has ls 11 [(0, .ref (κ.2.1 0)), (1, .ref (κ.2.1 1)), (2, .int k2), (3, .int k3), (4, .int k4), (5, .int a)] → W p l e rmX10_byKeys_p1 s m args below meth c H locs 0 0 Q (F0 m 23 ls []))) (Ex := (fun b : (Unit) ⊕ (Int32 × Int64 × Int64) => (fun b => Sum.elim (fun b : Unit => ∀ (H : Heap) (locs : List Loc) (ls : Array Slot), zH wM κ A s σ H locs → lv_has ls 11 [(0, .ref (κ.2.1 0))] → W p l e rmX10_byKeys_p1 s m args below meth c H locs 0 0 Q (F0 m 128 ls [])) (fun b : Int32 × Int64 × Int64 => ∀ (H : Heap) (locs : List Loc) (ls : Array Slot), zH wM κ A s σ H locs → lv_has ls 11 [(0, .ref (κ.2.1 0)), (5, .int b.1), (7, .long b.2.1), (9, .long b.2.2)] → W p l e rmX10_byKeys_p1 s m args below meth c H locs 0 0 Q (F0 m 78 ls [])) b) b)) (fun a r hr Kc Ke H locs ls h hl => wX10_byKeys_p1_L23_23 C h hl hr (fun v5 e => Kc v5 e) (fun _ e => Ke (.inl ()) e) (fun v5 v7 v9 e => Ke (.inr (v5, v7, v9)) e)) k0 u5 b hb K H locs ls h hl
set_option maxRecDepth 20000 in
set_option maxHeartbeats 4000000 in
theorem wX10_byKeys_p1_113 {p : Program} {l : Launch} {e : Env} {s : State} {m : MethodId} {args : Array Value} {below : List Frame} {meth : Method} {c : Code} {A : Nat → Prop} {κ : zG} {H : Heap} {locs : List Loc} {ls : Array Slot} {n : Nat} {σ : zS} {y0 : Int32} {y1 : Int32} {r : Int32} (C : zC cX10_byKeys 11 (some .int) RX10 κ A p s m args meth c) (h : zH wM κ A s σ H locs) (hl : lv_has ls 11 [(0, .ref (κ.2.1 0))]) (hf : fX10_byKeys_p1_113 n σ y0 y1 = some r) : W p l e rmX10_byKeys_p1 s m args below meth c H locs 0 0 (MQ below (zQi wM κ A r σ) args s 0 0 A) (F0 m 113 ls [.int y0, .int y1]) := by
  unfold fX10_byKeys_p1_113 at hf
  refine lv_icmp_ne (tgt := 120) C.ex C.by dX10_byKeys_113 (by decide) (fun c14 => ?_) (fun c14 => ?_)
  · have hf := zif_f c14 hf
    refine lv_iconst (v := (-1)) C.ex C.by dX10_byKeys_120 (by decide) ?_
    cases hf
    exact z_iret C h dX10_byKeys_121
  · have hf := zif_t c14 hf
    refine lv_iconst (v := 1) C.ex C.by dX10_byKeys_116 (by decide) ?_
    refine lv_goto (tgt := 121) C.ex C.by dX10_byKeys_117 (by decide) ?_
    cases hf
    exact z_iret C h dX10_byKeys_121
set_option maxRecDepth 20000 in
set_option maxHeartbeats 4000000 in
theorem wX10_byKeys_p1_112 {p : Program} {l : Launch} {e : Env} {s : State} {m : MethodId} {args : Array Value} {below : List Frame} {meth : Method} {c : Code} {A : Nat → Prop} {κ : zG} {H : Heap} {locs : List Loc} {ls : Array Slot} {n : Nat} {σ : zS} {y0 : Int32} {r : Int32} (C : zC cX10_byKeys 11 (some .int) RX10 κ A p s m args meth c) (h : zH wM κ A s σ H locs) (hl : lv_has ls 11 [(0, .ref (κ.2.1 0))]) (hf : fX10_byKeys_p1_112 n σ y0 = some r) : W p l e rmX10_byKeys_p1 s m args below meth c H locs 0 0 (MQ below (zQi wM κ A r σ) args s 0 0 A) (F0 m 112 ls [.int y0]) := by
  unfold fX10_byKeys_p1_112 at hf
  refine lv_iconst (v := 0) C.ex C.by dX10_byKeys_112 (by decide) ?_
  exact wX10_byKeys_p1_113 C h hl hf
set_option maxRecDepth 20000 in
set_option maxHeartbeats 4000000 in
theorem wX10_byKeys_p1_91 {p : Program} {l : Launch} {e : Env} {s : State} {m : MethodId} {args : Array Value} {below : List Frame} {meth : Method} {c : Code} {A : Nat → Prop} {κ : zG} {H : Heap} {locs : List Loc} {ls : Array Slot} {n : Nat} {σ : zS} {x5 : Int32} {y0 : Int32} {r : Int32} (C : zC cX10_byKeys 11 (some .int) RX10 κ A p s m args meth c) (h : zH wM κ A s σ H locs) (hl : lv_has ls 11 [(0, .ref (κ.2.1 0)), (5, .int x5)]) (hf : fX10_byKeys_p1_91 n σ x5 y0 = some r) : W p l e rmX10_byKeys_p1 s m args below meth c H locs 0 0 (MQ below (zQi wM κ A r σ) args s 0 0 A) (F0 m 91 ls [.int y0]) := by
  unfold fX10_byKeys_p1_91 at hf
  refine lv_aload_n C.ex C.by dX10_byKeys_91 rfl (lv_at hl 0 rfl) ?_
  refine z_get (v := .int (zI σ 7)) C h iwX10 0 (wM_at0 κ _) rfl 19 (by decide) lkM10 rfl dX10_byKeys_92 ?_
  refine lv_if_le (tgt := 112) C.ex C.by dX10_byKeys_95 (by decide) (fun c11 => ?_) (fun c11 => ?_)
  · have hf := zif_t c11 hf
    exact wX10_byKeys_p1_112 C h (lv_sub hl [0] rfl) hf
  · have hf := zif_f c11 hf
    refine lv_aload_n C.ex C.by dX10_byKeys_98 rfl (lv_at hl 0 rfl) ?_
    refine z_get (v := .ref (κ.2.1 12)) C h iwX10 0 (wM_at0 κ _) rfl 18 (by decide) lkM12 rfl dX10_byKeys_99 ?_
    refine lv_iload C.ex C.by dX10_byKeys_102 (lv_at hl 1 rfl) ?_
    obtain ⟨h12, hf⟩ := zg_some hf
    refine z_zald (f := (zA σ 9)) C h 12 (wM_at12 κ _) h12 dX10_byKeys_104 ?_
    refine lv_if_eq (tgt := 112) C.ex C.by dX10_byKeys_105 (by decide) (fun c13 => ?_) (fun c13 => ?_)
    · have hf := zif_t c13 hf
      exact wX10_byKeys_p1_112 C h (lv_sub hl [0] rfl) hf
    · have hf := zif_f c13 hf
      refine lv_iconst (v := 1) C.ex C.by dX10_byKeys_108 (by decide) ?_
      refine lv_goto (tgt := 113) C.ex C.by dX10_byKeys_109 (by decide) ?_
      exact wX10_byKeys_p1_113 C h (lv_sub hl [0] rfl) hf
set_option maxRecDepth 20000 in
set_option maxHeartbeats 4000000 in
theorem wX10_byKeys_p1_18 {p : Program} {l : Launch} {e : Env} {s : State} {m : MethodId} {args : Array Value} {below : List Frame} {meth : Method} {c : Code} {A : Nat → Prop} {κ : zG} {H : Heap} {locs : List Loc} {ls : Array Slot} {n : Nat} {σ : zS} {x2 : Int32} {x3 : Int32} {y0 : Int32} {r : Int32} (C : zC cX10_byKeys 11 (some .int) RX10 κ A p s m args meth c) (h : zH wM κ A s σ H locs) (hl : lv_has ls 11 [(0, .ref (κ.2.1 0)), (1, .ref (κ.2.1 1)), (2, .int x2), (3, .int x3)]) (hf : fX10_byKeys_p1_18 n σ x2 x3 y0 = some r) : W p l e rmX10_byKeys_p1 s m args below meth c H locs 0 0 (MQ below (zQi wM κ A r σ) args s 0 0 A) (F0 m 18 ls [.int y0]) := by
  unfold fX10_byKeys_p1_18 at hf
  refine lv_istore (lv' := [(4, .int y0), (0, .ref (κ.2.1 0)), (1, .ref (κ.2.1 1)), (2, .int x2), (3, .int x3)]) C.ex C.by dX10_byKeys_18 hl (by decide) rfl (fun ls hl => ?_)
  refine lv_iconst (v := 0) C.ex C.by dX10_byKeys_20 (by decide) ?_
  refine lv_istore (lv' := [(5, .int 0), (4, .int y0), (0, .ref (κ.2.1 0)), (1, .ref (κ.2.1 1)), (2, .int x2), (3, .int x3)]) C.ex C.by dX10_byKeys_21 hl (by decide) rfl (fun ls hl => ?_)
  obtain ⟨b8, e9, hf⟩ := zb_some hf
  refine wlX10_byKeys_p1_23 C h (lv_sub hl [2, 3, 4, 5, 1, 0] rfl) b8 e9 ?_
  rcases b8 with b8 | b8
  · dsimp only [Sum.elim_inl] at hf
    intro H locs ls h hl
    refine lv_iconst (v := 0) C.ex C.by dX10_byKeys_128 (by decide) ?_
    cases hf
    exact z_iret C h dX10_byKeys_129
  · dsimp only [Sum.elim_inr] at hf
    intro H locs ls h hl
    refine lv_lload C.ex C.by dX10_byKeys_78 (lv_at hl 2 rfl) ?_
    refine lv_lload C.ex C.by dX10_byKeys_80 (lv_at hl 3 rfl) ?_
    refine W.lcmp C.ex C.by dX10_byKeys_82 ?_
    refine lv_if_ge (tgt := 90) C.ex C.by dX10_byKeys_83 (by decide) (fun c10 => ?_) (fun c10 => ?_)
    · have hf := zif_t c10 hf
      refine lv_iconst (v := 0) C.ex C.by dX10_byKeys_90 (by decide) ?_
      exact wX10_byKeys_p1_91 C h (lv_sub hl [0, 1] rfl) hf
    · have hf := zif_f c10 hf
      refine lv_iconst (v := 1) C.ex C.by dX10_byKeys_86 (by decide) ?_
      refine lv_goto (tgt := 91) C.ex C.by dX10_byKeys_87 (by decide) ?_
      exact wX10_byKeys_p1_91 C h (lv_sub hl [0, 1] rfl) hf
set_option maxRecDepth 20000 in
set_option maxHeartbeats 4000000 in
theorem wX10_byKeys_p1_0 {p : Program} {l : Launch} {e : Env} {s : State} {m : MethodId} {args : Array Value} {below : List Frame} {meth : Method} {c : Code} {A : Nat → Prop} {κ : zG} {H : Heap} {locs : List Loc} {ls : Array Slot} {n : Nat} {σ : zS} {x2 : Int32} {x3 : Int32} {r : Int32} (C : zC cX10_byKeys 11 (some .int) RX10 κ A p s m args meth c) (h : zH wM κ A s σ H locs) (hl : lv_has ls 11 [(0, .ref (κ.2.1 0)), (1, .ref (κ.2.1 1)), (2, .int x2), (3, .int x3)]) (hf : fX10_byKeys_p1_0 n σ x2 x3 = some r) : W p l e rmX10_byKeys_p1 s m args below meth c H locs 0 0 (MQ below (zQi wM κ A r σ) args s 0 0 A) (F0 m 0 ls []) := by
  unfold fX10_byKeys_p1_0 at hf
  refine lv_aload_n C.ex C.by dX10_byKeys_0 rfl (lv_at hl 0 rfl) ?_
  refine z_get (v := .int (zI σ 7)) C h iwX10 0 (wM_at0 κ _) rfl 19 (by decide) lkM10 rfl dX10_byKeys_1 ?_
  refine lv_if_ne (tgt := 14) C.ex C.by dX10_byKeys_4 (by decide) (fun c1 => ?_) (fun c1 => ?_)
  · have hf := zif_f c1 hf
    refine lv_aload_n C.ex C.by dX10_byKeys_14 rfl (lv_at hl 0 rfl) ?_
    refine z_get (v := .int (zI σ 7)) C h iwX10 0 (wM_at0 κ _) rfl 19 (by decide) lkM10 rfl dX10_byKeys_15 ?_
    exact wX10_byKeys_p1_18 C h hl hf
  · have hf := zif_t c1 hf
    refine lv_aload_n C.ex C.by dX10_byKeys_7 rfl (lv_at hl 0 rfl) ?_
    refine z_get (v := .int (zI σ 6)) C h iwX10 0 (wM_at0 κ _) rfl 16 (by decide) lkM9 rfl dX10_byKeys_8 ?_
    refine lv_goto (tgt := 18) C.ex C.by dX10_byKeys_11 (by decide) ?_
    exact wX10_byKeys_p1_18 C h hl hf
theorem ctX10_byKeys_p1 {l : Launch} {κ : zG} {n : Nat} {σ : zS} {x2 : Int32} {x3 : Int32} {r : Int32} (hf : fX10_byKeys_p1_0 n σ x2 x3 = some r) : zMi l yX10_byKeys (Cond.code yX10_byKeys cX10_byKeys 11 (some .int)) rmX10_byKeys_p1 wM κ [.ref (κ.2.1 0), .ref (κ.2.1 1), .int x2, .int x3] σ r σ :=
  zMi_of (by decide) (Nat.le_of_ble_eq_true rfl) (fun p e s m below meth c A C h ls hl => wX10_byKeys_p1_0 C h hl hf)
theorem hdX10_before : yX10_before.cls = RX10 ∧ yX10_before.cls ≠ "java/lang/invoke/MethodHandle" ∧ yX10_before.cls ≠ "java/lang/invoke/VarHandle" ∧ (parseMethodDescriptor yX10_before.desc).map (fun d => d.parameters.length) = some 2 := by decide +kernel
abbrev rmX10_before : Room := { frames := 1, cells := 0, slots := 0, locals := 30 }
set_option maxRecDepth 20000 in
set_option maxHeartbeats 4000000 in
theorem wX10_before_0 {p : Program} {l : Launch} {e : Env} {s : State} {m : MethodId} {args : Array Value} {below : List Frame} {meth : Method} {c : Code} {A : Nat → Prop} {κ : zG} {H : Heap} {locs : List Loc} {ls : Array Slot} {n : Nat} {σ : zS} {x1 : Int32} {x2 : Int32} {r : Int32} (C : zC cX10_before 4 (some .boolean) RX10 κ A p s m args meth c) (h : zH wM κ A s σ H locs) (hl : lv_has ls 4 [(0, .ref (κ.2.1 0)), (1, .int x1), (2, .int x2)]) (hf : fX10_before_0 n σ x1 x2 = some r) : W p l e rmX10_before s m args below meth c H locs 0 0 (MQ below (zQi wM κ A r σ) args s 0 0 A) (F0 m 0 ls []) := by
  unfold fX10_before_0 at hf
  refine lv_aload_n C.ex C.by dX10_before_0 rfl (lv_at hl 0 rfl) ?_
  refine lv_aload_n C.ex C.by dX10_before_1 rfl (lv_at hl 0 rfl) ?_
  refine z_get (v := .ref (κ.2.1 1)) C h iwX10 0 (wM_at0 κ _) rfl 4 (by decide) lkM40 rfl dX10_before_2 ?_
  refine lv_iload_n C.ex C.by dX10_before_5 rfl (lv_at hl 1 rfl) ?_
  refine lv_iload_n C.ex C.by dX10_before_6 rfl (lv_at hl 2 rfl) ?_
  obtain ⟨q1, e2, hf⟩ := zb_some hf
  refine z_callVi (As := [.ref (κ.2.1 1), .int x1, .int x2]) C h (ctX10_byKeys_p1 e2) (zgV lkM72 lkM73 lkM74 lkM2 lkM75) ⟨rfl, rfl⟩ hdX10_byKeys ⟨Nat.le_of_ble_eq_true rfl, Nat.le_of_ble_eq_true rfl⟩ 0 (wM_at0 κ _) rfl hl rfl rfl (Nat.le_of_ble_eq_true rfl) dX10_before_7 ⟨Nat.zero_le _, Nat.zero_le _⟩ (fun H locs h => ?_)
  refine lv_istore_n (lv' := [(3, .int q1), (0, .ref (κ.2.1 0)), (1, .int x1), (2, .int x2)]) C.ex C.by dX10_before_10 rfl hl (by decide) rfl (fun ls hl => ?_)
  refine lv_iload_n C.ex C.by dX10_before_11 rfl (lv_at hl 0 rfl) ?_
  refine lv_if_eq (tgt := 27) C.ex C.by dX10_before_12 (by decide) (fun c3 => ?_) (fun c3 => ?_)
  · have hf := zif_t c3 hf
    refine lv_aload_n C.ex C.by dX10_before_27 rfl (lv_at hl 1 rfl) ?_
    refine z_get (v := .ref (κ.2.1 1)) C h iwX10 0 (wM_at0 κ _) rfl 4 (by decide) lkM40 rfl dX10_before_28 ?_
    refine lv_iload_n C.ex C.by dX10_before_31 rfl (lv_at hl 2 rfl) ?_
    refine lv_aload_n C.ex C.by dX10_before_32 rfl (lv_at hl 1 rfl) ?_
    refine z_get (v := .int (zI σ 6)) C h iwX10 0 (wM_at0 κ _) rfl 16 (by decide) lkM9 rfl dX10_before_33 ?_
    refine lv_iadd C.ex C.by dX10_before_36 ?_
    obtain ⟨h4, hf⟩ := zg_some hf
    refine z_lald (f := (zL σ 0)) C h 1 (wM_at1 κ _) h4 dX10_before_37 ?_
    refine lv_aload_n C.ex C.by dX10_before_38 rfl (lv_at hl 1 rfl) ?_
    refine z_get (v := .ref (κ.2.1 1)) C h iwX10 0 (wM_at0 κ _) rfl 4 (by decide) lkM40 rfl dX10_before_39 ?_
    refine lv_iload_n C.ex C.by dX10_before_42 rfl (lv_at hl 3 rfl) ?_
    refine lv_aload_n C.ex C.by dX10_before_43 rfl (lv_at hl 1 rfl) ?_
    refine z_get (v := .int (zI σ 6)) C h iwX10 0 (wM_at0 κ _) rfl 16 (by decide) lkM9 rfl dX10_before_44 ?_
    refine lv_iadd C.ex C.by dX10_before_47 ?_
    obtain ⟨h5, hf⟩ := zg_some hf
    refine z_lald (f := (zL σ 0)) C h 1 (wM_at1 κ _) h5 dX10_before_48 ?_
    refine W.lcmp C.ex C.by dX10_before_49 ?_
    refine lv_if_ge (tgt := 57) C.ex C.by dX10_before_50 (by decide) (fun c6 => ?_) (fun c6 => ?_)
    · have hf := zif_t c6 hf
      refine lv_iconst (v := 0) C.ex C.by dX10_before_57 (by decide) ?_
      cases hf
      exact z_zret (r := 0) C h rfl dX10_before_58
    · have hf := zif_f c6 hf
      refine lv_iconst (v := 1) C.ex C.by dX10_before_53 (by decide) ?_
      refine lv_goto (tgt := 58) C.ex C.by dX10_before_54 (by decide) ?_
      cases hf
      exact z_zret (r := 1) C h rfl dX10_before_58
  · have hf := zif_f c3 hf
    refine lv_iload_n C.ex C.by dX10_before_15 rfl (lv_at hl 0 rfl) ?_
    refine lv_if_ge (tgt := 23) C.ex C.by dX10_before_16 (by decide) (fun c7 => ?_) (fun c7 => ?_)
    · have hf := zif_t c7 hf
      refine lv_iconst (v := 0) C.ex C.by dX10_before_23 (by decide) ?_
      refine lv_goto (tgt := 58) C.ex C.by dX10_before_24 (by decide) ?_
      cases hf
      exact z_zret (r := 0) C h rfl dX10_before_58
    · have hf := zif_f c7 hf
      refine lv_iconst (v := 1) C.ex C.by dX10_before_19 (by decide) ?_
      refine lv_goto (tgt := 58) C.ex C.by dX10_before_20 (by decide) ?_
      cases hf
      exact z_zret (r := 1) C h rfl dX10_before_58
theorem ctX10_before {l : Launch} {κ : zG} {n : Nat} {σ : zS} {x1 : Int32} {x2 : Int32} {r : Int32} (hf : fX10_before_0 n σ x1 x2 = some r) : zMi l yX10_before (Cond.code yX10_before cX10_before 4 (some .boolean)) rmX10_before wM κ [.ref (κ.2.1 0), .int x1, .int x2] σ r σ :=
  zMi_of (by decide) (Nat.le_of_ble_eq_true rfl) (fun p e s m below meth c A C h ls hl => wX10_before_0 C h hl hf)
abbrev rmX10_write_p13 : Room := { frames := 1, cells := 0, slots := 0, locals := 21 }
set_option maxRecDepth 20000 in
set_option maxHeartbeats 4000000 in
theorem wX10_write_p13_L2_2 {p : Program} {l : Launch} {e : Env} {s : State} {m : MethodId} {args : Array Value} {below : List Frame} {meth : Method} {c : Code} {A : Nat → Prop} {κ : zG} {H : Heap} {locs : List Loc} {ls : Array Slot} {Q : State → Prop} {n : Nat} {σ : zS} {k2 : Int32} {a : Int32} {r : (Int32) ⊕ (Int32)} (C : zC cX10_write 5 (some .int) RX10 κ A p s m args meth c) (h : zH wM κ A s σ H locs) (hl : lv_has ls 5 [(0, .ref (κ.2.1 0)), (1, .ref (κ.2.1 13)), (2, .int k2), (3, .int a)]) (hf : fX10_write_p13_L2_2 n σ k2 a = some r) (Kc : ∀ (v3 : Int32), r = .inl v3 → ∀ (H : Heap) (locs : List Loc) (ls : Array Slot), zH wM κ A s σ H locs → lv_has ls 5 [(0, .ref (κ.2.1 0)), (1, .ref (κ.2.1 13)), (2, .int k2), (3, .int v3)] → W p l e rmX10_write_p13 s m args below meth c H locs 0 0 Q (F0 m 2 ls [])) (Ke0 : ∀ (v3 : Int32), r = .inr v3 → ∀ (H : Heap) (locs : List Loc) (ls : Array Slot), zH wM κ A s σ H locs → lv_has ls 5 [(0, .ref (κ.2.1 0)), (1, .ref (κ.2.1 13)), (2, .int k2), (3, .int v3)] → W p l e rmX10_write_p13 s m args below meth c H locs 0 0 Q (F0 m 25 ls [])) : W p l e rmX10_write_p13 s m args below meth c H locs 0 0 Q (F0 m 2 ls []) := by
  unfold fX10_write_p13_L2_2 at hf
  refine lv_iload_n C.ex C.by dX10_write_2 rfl (lv_at hl 3 rfl) ?_
  refine lv_aload_n C.ex C.by dX10_write_3 rfl (lv_at hl 0 rfl) ?_
  refine z_get (v := .int (zI σ 1)) C h iwX10 0 (wM_at0 κ _) rfl 1 (by decide) lkM18 rfl dX10_write_4 ?_
  refine lv_icmp_ge (tgt := 25) C.ex C.by dX10_write_7 (by decide) (fun c1 => ?_) (fun c1 => ?_)
  · have hf := zif_t c1 hf
    exact Ke0 _ (Option.some.inj hf).symm _ _ _ h hl
  · have hf := zif_f c1 hf
    refine lv_aload_n C.ex C.by dX10_write_10 rfl (lv_at hl 0 rfl) ?_
    refine z_get (v := .ref (κ.2.1 2)) C h iwX10 0 (wM_at0 κ _) rfl 5 (by decide) lkM29 rfl dX10_write_11 ?_
    refine lv_iload_n C.ex C.by dX10_write_14 rfl (lv_at hl 3 rfl) ?_
    obtain ⟨h2, hf⟩ := zg_some hf
    refine z_zald (f := (zA σ 0)) C h 2 (wM_at2 κ _) h2 dX10_write_15 ?_
    refine lv_if_eq (tgt := 25) C.ex C.by dX10_write_16 (by decide) (fun c3 => ?_) (fun c3 => ?_)
    · have hf := zif_t c3 hf
      exact Ke0 _ (Option.some.inj hf).symm _ _ _ h hl
    · have hf := zif_f c3 hf
      refine lv_iinc (v := (a + 1)) (lv' := [(3, .int (a + 1)), (0, .ref (κ.2.1 0)), (1, .ref (κ.2.1 13)), (2, .int k2)]) C.ex C.by dX10_write_19 hl (k := 3) rfl rfl (by decide) rfl (fun ls hl => ?_)
      refine lv_goto (tgt := 2) C.ex C.by dX10_write_22 (by decide) ?_
      exact Kc _ (Option.some.inj hf).symm _ _ _ h (lv_sub hl [1, 2, 3, 0] rfl)
theorem wlX10_write_p13_2 {p : Program} {l : Launch} {e : Env} {s : State} {m : MethodId} {args : Array Value} {below : List Frame} {meth : Method} {c : Code} {A : Nat → Prop} {κ : zG} {H : Heap} {locs : List Loc} {ls : Array Slot} {Q : State → Prop} {n : Nat} {σ : zS} {k2 : Int32} {k0 : Nat} {u3 : Int32} (C : zC cX10_write 5 (some .int) RX10 κ A p s m args meth c) (h : zH wM κ A s σ H locs) (hl : lv_has ls 5 [(0, .ref (κ.2.1 0)), (1, .ref (κ.2.1 13)), (2, .int k2), (3, .int u3)]) (b : Int32) (hb : zlp (fX10_write_p13_L2_2 n σ k2) k0 u3 = some b) (K : (fun b : Int32 => ∀ (H : Heap) (locs : List Loc) (ls : Array Slot), zH wM κ A s σ H locs → lv_has ls 5 [(0, .ref (κ.2.1 0)), (1, .ref (κ.2.1 13)), (2, .int k2), (3, .int b)] → W p l e rmX10_write_p13 s m args below meth c H locs 0 0 Q (F0 m 25 ls [])) b) : W p l e rmX10_write_p13 s m args below meth c H locs 0 0 Q (F0 m 2 ls []) :=
  z_loop (body := fX10_write_p13_L2_2 n σ k2) (Wd := (fun a : Int32 => ∀ (H : Heap) (locs : List Loc) (ls : Array Slot), zH wM κ A s σ H locs → lv_has ls 5 [(0, .ref (κ.2.1 0)), (1, .ref (κ.2.1 13)), (2, .int k2), (3, .int a)] → W p l e rmX10_write_p13 s m args below meth c H locs 0 0 Q (F0 m 2 ls []))) (Ex := (fun b : Int32 => (fun b : Int32 => ∀ (H : Heap) (locs : List Loc) (ls : Array Slot), zH wM κ A s σ H locs → lv_has ls 5 [(0, .ref (κ.2.1 0)), (1, .ref (κ.2.1 13)), (2, .int k2), (3, .int b)] → W p l e rmX10_write_p13 s m args below meth c H locs 0 0 Q (F0 m 25 ls [])) b)) (fun a r hr Kc Ke H locs ls h hl => wX10_write_p13_L2_2 C h hl hr (fun v3 e => Kc v3 e) (fun v3 e => Ke v3 e)) k0 u3 b hb K H locs ls h hl
set_option maxRecDepth 20000 in
set_option maxHeartbeats 4000000 in
theorem wX10_write_p13_L132_132 {p : Program} {l : Launch} {e : Env} {s : State} {m : MethodId} {args : Array Value} {below : List Frame} {meth : Method} {c : Code} {A : Nat → Prop} {κ : zG} {H : Heap} {locs : List Loc} {ls : Array Slot} {Q : State → Prop} {n : Nat} {k2 : Int32} {k3 : Int32} {a : Int32 × zS} {r : (Int32 × zS) ⊕ (zS)} (C : zC cX10_write 5 (some .int) RX10 κ A p s m args meth c) (h : zH wM κ A s a.2 H locs) (hl : lv_has ls 5 [(0, .ref (κ.2.1 0)), (1, .ref (κ.2.1 13)), (2, .int k2), (3, .int k3), (4, .int a.1)]) (hf : fX10_write_p13_L132_132 n k2 k3 a = some r) (Kc : ∀ (v4 : Int32) (σ1 : zS), r = .inl (v4, σ1) → ∀ (H : Heap) (locs : List Loc) (ls : Array Slot), zH wM κ A s σ1 H locs → lv_has ls 5 [(0, .ref (κ.2.1 0)), (1, .ref (κ.2.1 13)), (2, .int k2), (3, .int k3), (4, .int v4)] → W p l e rmX10_write_p13 s m args below meth c H locs 0 0 Q (F0 m 132 ls [])) (Ke0 : ∀ (σ1 : zS), r = .inr σ1 → ∀ (H : Heap) (locs : List Loc) (ls : Array Slot), zH wM κ A s σ1 H locs → lv_has ls 5 [(0, .ref (κ.2.1 0)), (3, .int k3)] → W p l e rmX10_write_p13 s m args below meth c H locs 0 0 Q (F0 m 167 ls [])) : W p l e rmX10_write_p13 s m args below meth c H locs 0 0 Q (F0 m 132 ls []) := by
  unfold fX10_write_p13_L132_132 at hf
  refine lv_iload C.ex C.by dX10_write_132 (lv_at hl 4 rfl) ?_
  refine lv_iload_n C.ex C.by dX10_write_134 rfl (lv_at hl 2 rfl) ?_
  refine lv_aload_n C.ex C.by dX10_write_135 rfl (lv_at hl 0 rfl) ?_
  refine z_get (v := .int (zI a.2 6)) C h iwX10 0 (wM_at0 κ _) rfl 16 (by decide) lkM9 rfl dX10_write_136 ?_
  refine lv_iconst (v := 1) C.ex C.by dX10_write_139 (by decide) ?_
  refine lv_iadd C.ex C.by dX10_write_140 ?_
  refine lv_imul C.ex C.by dX10_write_141 ?_
  refine lv_icmp_ge (tgt := 167) C.ex C.by dX10_write_142 (by decide) (fun c16 => ?_) (fun c16 => ?_)
  · have hf := zif_t c16 hf
    exact Ke0 _ (Option.some.inj hf).symm _ _ _ h (lv_sub hl [0, 3] rfl)
  · have hf := zif_f c16 hf
    refine lv_aload_n C.ex C.by dX10_write_145 rfl (lv_at hl 0 rfl) ?_
    refine z_get (v := .ref (κ.2.1 1)) C h iwX10 0 (wM_at0 κ _) rfl 4 (by decide) lkM40 rfl dX10_write_146 ?_
    refine lv_bipush (v := 64) C.ex C.by dX10_write_149 (by decide) ?_
    refine lv_iload_n C.ex C.by dX10_write_151 rfl (lv_at hl 3 rfl) ?_
    refine lv_imul C.ex C.by dX10_write_152 ?_
    refine lv_iload C.ex C.by dX10_write_153 (lv_at hl 4 rfl) ?_
    refine lv_iadd C.ex C.by dX10_write_155 ?_
    refine lv_aload_n C.ex C.by dX10_write_156 rfl (lv_at hl 1 rfl) ?_
    refine lv_iload C.ex C.by dX10_write_157 (lv_at hl 4 rfl) ?_
    obtain ⟨h17, hf⟩ := zg_some hf
    refine z_lald (f := (zL a.2 2)) C h 13 (wM_at13 κ _) h17 dX10_write_159 ?_
    obtain ⟨h18, hf⟩ := zg_some hf
    refine z_last (f := (zL a.2 0)) C h 1 (wM_at1 κ _) h18 (sL a.2 0 (vp_updL (zL a.2 0) (Int32.toNatClampNeg ((64 * k3) + a.1)) ((zL a.2 2) (Int32.toNatClampNeg a.1)))) (wM_s1 κ _ _) dX10_write_160 (fun H locs h => ?_)
    refine lv_iinc (v := (a.1 + 1)) (lv' := [(4, .int (a.1 + 1)), (0, .ref (κ.2.1 0)), (1, .ref (κ.2.1 13)), (2, .int k2), (3, .int k3)]) C.ex C.by dX10_write_161 hl (k := 4) rfl rfl (by decide) rfl (fun ls hl => ?_)
    refine lv_goto (tgt := 132) C.ex C.by dX10_write_164 (by decide) ?_
    exact Kc _ _ (Option.some.inj hf).symm _ _ _ h (lv_sub hl [1, 2, 3, 4, 0] rfl)
theorem wlX10_write_p13_132 {p : Program} {l : Launch} {e : Env} {s : State} {m : MethodId} {args : Array Value} {below : List Frame} {meth : Method} {c : Code} {A : Nat → Prop} {κ : zG} {H : Heap} {locs : List Loc} {ls : Array Slot} {Q : State → Prop} {n : Nat} {k2 : Int32} {k3 : Int32} {k0 : Nat} {u4 : Int32} {σ1 : zS} (C : zC cX10_write 5 (some .int) RX10 κ A p s m args meth c) (h : zH wM κ A s σ1 H locs) (hl : lv_has ls 5 [(0, .ref (κ.2.1 0)), (1, .ref (κ.2.1 13)), (2, .int k2), (3, .int k3), (4, .int u4)]) (b : zS) (hb : zlp (fX10_write_p13_L132_132 n k2 k3) k0 (u4, σ1) = some b) (K : (fun b : zS => ∀ (H : Heap) (locs : List Loc) (ls : Array Slot), zH wM κ A s b H locs → lv_has ls 5 [(0, .ref (κ.2.1 0)), (3, .int k3)] → W p l e rmX10_write_p13 s m args below meth c H locs 0 0 Q (F0 m 167 ls [])) b) : W p l e rmX10_write_p13 s m args below meth c H locs 0 0 Q (F0 m 132 ls []) :=
  z_loop (body := fX10_write_p13_L132_132 n k2 k3) (Wd := (fun a : Int32 × zS => ∀ (H : Heap) (locs : List Loc) (ls : Array Slot), zH wM κ A s a.2 H locs → lv_has ls 5 [(0, .ref (κ.2.1 0)), (1, .ref (κ.2.1 13)), (2, .int k2), (3, .int k3), (4, .int a.1)] → W p l e rmX10_write_p13 s m args below meth c H locs 0 0 Q (F0 m 132 ls []))) (Ex := (fun b : zS => (fun b : zS => ∀ (H : Heap) (locs : List Loc) (ls : Array Slot), zH wM κ A s b H locs → lv_has ls 5 [(0, .ref (κ.2.1 0)), (3, .int k3)] → W p l e rmX10_write_p13 s m args below meth c H locs 0 0 Q (F0 m 167 ls [])) b)) (fun a r hr Kc Ke H locs ls h hl => wX10_write_p13_L132_132 C h hl hr (fun v4 σ1 e => Kc (v4, σ1) e) (fun σ1 e => Ke σ1 e)) k0 (u4, σ1) b hb K H locs ls h hl
set_option maxRecDepth 20000 in
set_option maxHeartbeats 4000000 in
theorem wX10_write_p13_90 {p : Program} {l : Launch} {e : Env} {s : State} {m : MethodId} {args : Array Value} {below : List Frame} {meth : Method} {c : Code} {A : Nat → Prop} {κ : zG} {H : Heap} {locs : List Loc} {ls : Array Slot} {n : Nat} {σ : zS} {x2 : Int32} {x3 : Int32} {y0 : Int32} {r1 : Int32} {r2 : zS} (C : zC cX10_write 5 (some .int) RX10 κ A p s m args meth c) (h : zH wM κ A s σ H locs) (hl : lv_has ls 5 [(0, .ref (κ.2.1 0)), (1, .ref (κ.2.1 13)), (2, .int x2), (3, .int x3)]) (hf : fX10_write_p13_90 n σ x2 x3 y0 = some (r1, r2)) : W p l e rmX10_write_p13 s m args below meth c H locs 0 0 (MQ below (zQi wM κ A r1 r2) args s 0 0 A) (F0 m 90 ls [.int y0, .ref (κ.2.1 0)]) := by
  unfold fX10_write_p13_90 at hf
  refine z_put C h iwX10 tyX10_ok nmX10 0 (wM_at0 κ _) rfl 27 (by decide) lkM30 rfl rfl rfl (Nat.le_of_ble_eq_true rfl) (sI σ 15 y0) (wM_s0_27 κ _ _) dX10_write_90 (fun H locs h => ?_)
  refine lv_aload_n C.ex C.by dX10_write_93 rfl (lv_at hl 0 rfl) ?_
  refine z_get (v := .ref (κ.2.1 2)) C h iwX10 0 (wM_at0 κ _) rfl 5 (by decide) lkM29 rfl dX10_write_94 ?_
  refine lv_iload_n C.ex C.by dX10_write_97 rfl (lv_at hl 3 rfl) ?_
  refine lv_iconst (v := 1) C.ex C.by dX10_write_98 (by decide) ?_
  obtain ⟨h11, hf⟩ := zg_some hf
  refine z_zast (f := (zA σ 0)) C h 2 (wM_at2 κ _) h11 (sA (sI σ 15 y0) 0 (upd (zA σ 0) (Int32.toNatClampNeg x3) (vp_nar .boolean 1))) (wM_s2 κ _ _) dX10_write_99 (fun H locs h => ?_)
  refine lv_aload_n C.ex C.by dX10_write_100 rfl (lv_at hl 0 rfl) ?_
  refine z_get (v := .ref (κ.2.1 3)) C h iwX10 0 (wM_at0 κ _) rfl 6 (by decide) lkM19 rfl dX10_write_101 ?_
  refine lv_iload_n C.ex C.by dX10_write_104 rfl (lv_at hl 3 rfl) ?_
  refine lv_iconst (v := 1) C.ex C.by dX10_write_105 (by decide) ?_
  obtain ⟨h12, hf⟩ := zg_some hf
  refine z_zast (f := (zA σ 1)) C h 3 (wM_at3 κ _) h12 (sA (sA (sI σ 15 y0) 0 (upd (zA σ 0) (Int32.toNatClampNeg x3) (vp_nar .boolean 1))) 1 (upd (zA σ 1) (Int32.toNatClampNeg x3) (vp_nar .boolean 1))) (wM_s3 κ _ _) dX10_write_106 (fun H locs h => ?_)
  refine lv_aload_n C.ex C.by dX10_write_107 rfl (lv_at hl 0 rfl) ?_
  refine z_get (v := .ref (κ.2.1 4)) C h iwX10 0 (wM_at0 κ _) rfl 7 (by decide) lkM31 rfl dX10_write_108 ?_
  refine lv_iload_n C.ex C.by dX10_write_111 rfl (lv_at hl 3 rfl) ?_
  refine lv_iconst (v := (-1)) C.ex C.by dX10_write_112 (by decide) ?_
  obtain ⟨h13, hf⟩ := zg_some hf
  refine z_iast (f := (zA σ 2)) C h 4 (wM_at4 κ _) h13 (sA (sA (sA (sI σ 15 y0) 0 (upd (zA σ 0) (Int32.toNatClampNeg x3) (vp_nar .boolean 1))) 1 (upd (zA σ 1) (Int32.toNatClampNeg x3) (vp_nar .boolean 1))) 2 (upd (zA σ 2) (Int32.toNatClampNeg x3) (-1))) (wM_s4 κ _ _) dX10_write_113 (fun H locs h => ?_)
  refine lv_aload_n C.ex C.by dX10_write_114 rfl (lv_at hl 0 rfl) ?_
  refine lv_dup C.ex C.by dX10_write_115 rfl ?_
  refine z_get (v := .int (zI σ 11)) C h iwX10 0 (wM_at0 κ _) rfl 23 (by decide) lkM32 rfl dX10_write_116 ?_
  refine lv_iconst (v := 1) C.ex C.by dX10_write_119 (by decide) ?_
  refine lv_iadd C.ex C.by dX10_write_120 ?_
  refine z_put C h iwX10 tyX10_ok nmX10 0 (wM_at0 κ _) rfl 23 (by decide) lkM32 rfl rfl rfl (Nat.le_of_ble_eq_true rfl) (sI (sA (sA (sA (sI σ 15 y0) 0 (upd (zA σ 0) (Int32.toNatClampNeg x3) (vp_nar .boolean 1))) 1 (upd (zA σ 1) (Int32.toNatClampNeg x3) (vp_nar .boolean 1))) 2 (upd (zA σ 2) (Int32.toNatClampNeg x3) (-1))) 11 ((zI σ 11) + 1)) (wM_s0_23 κ _ _) dX10_write_121 (fun H locs h => ?_)
  refine lv_aload_n C.ex C.by dX10_write_124 rfl (lv_at hl 0 rfl) ?_
  refine lv_iload_n C.ex C.by dX10_write_125 rfl (lv_at hl 3 rfl) ?_
  obtain ⟨q14, e15, hf⟩ := zb_some hf
  refine z_callVv (As := [.int x3]) C h (ctX10_go e15) (zgV lkM36 lkM37 lkM38 lkM2 lkM39) ⟨rfl, rfl⟩ hdX10_go ⟨Nat.le_of_ble_eq_true rfl, Nat.le_of_ble_eq_true rfl⟩ 0 (wM_at0 κ _) rfl hl rfl rfl (Nat.le_of_ble_eq_true rfl) dX10_write_126 ⟨Nat.zero_le _, Nat.zero_le _⟩ (fun H locs h => ?_)
  refine lv_iconst (v := 0) C.ex C.by dX10_write_129 (by decide) ?_
  refine lv_istore (lv' := [(4, .int 0), (0, .ref (κ.2.1 0)), (1, .ref (κ.2.1 13)), (2, .int x2), (3, .int x3)]) C.ex C.by dX10_write_130 hl (by decide) rfl (fun ls hl => ?_)
  obtain ⟨b19, e20, hf⟩ := zb_some hf
  refine wlX10_write_p13_132 C h (lv_sub hl [1, 2, 3, 4, 0] rfl) b19 e20 ?_
  intro H locs ls h hl
  refine lv_iload_n C.ex C.by dX10_write_167 rfl (lv_at hl 1 rfl) ?_
  cases hf
  exact z_iret C h dX10_write_168
set_option maxRecDepth 20000 in
set_option maxHeartbeats 4000000 in
theorem wX10_write_p13_60 {p : Program} {l : Launch} {e : Env} {s : State} {m : MethodId} {args : Array Value} {below : List Frame} {meth : Method} {c : Code} {A : Nat → Prop} {κ : zG} {H : Heap} {locs : List Loc} {ls : Array Slot} {n : Nat} {σ : zS} {x2 : Int32} {x3 : Int32} {r1 : Int32} {r2 : zS} (C : zC cX10_write 5 (some .int) RX10 κ A p s m args meth c) (h : zH wM κ A s σ H locs) (hl : lv_has ls 5 [(0, .ref (κ.2.1 0)), (1, .ref (κ.2.1 13)), (2, .int x2), (3, .int x3)]) (hf : fX10_write_p13_60 n σ x2 x3 = some (r1, r2)) : W p l e rmX10_write_p13 s m args below meth c H locs 0 0 (MQ below (zQi wM κ A r1 r2) args s 0 0 A) (F0 m 60 ls []) := by
  unfold fX10_write_p13_60 at hf
  refine lv_aload_n C.ex C.by dX10_write_60 rfl (lv_at hl 0 rfl) ?_
  refine z_get (v := .int (zI σ 17)) C h iwX10 0 (wM_at0 κ _) rfl 29 (by decide) lkM17 rfl dX10_write_61 ?_
  refine lv_if_le (tgt := 69) C.ex C.by dX10_write_64 (by decide) (fun c9 => ?_) (fun c9 => ?_)
  · have hf := zif_t c9 hf
    refine lv_aload_n C.ex C.by dX10_write_69 rfl (lv_at hl 0 rfl) ?_
    refine lv_aload_n C.ex C.by dX10_write_70 rfl (lv_at hl 0 rfl) ?_
    refine z_get (v := .int (zI σ 15)) C h iwX10 0 (wM_at0 κ _) rfl 27 (by decide) lkM30 rfl dX10_write_71 ?_
    refine lv_if_le (tgt := 86) C.ex C.by dX10_write_74 (by decide) (fun c10 => ?_) (fun c10 => ?_)
    · have hf := zif_t c10 hf
      refine lv_aload_n C.ex C.by dX10_write_86 rfl (lv_at hl 0 rfl) ?_
      refine z_get (v := .int (zI σ 15)) C h iwX10 0 (wM_at0 κ _) rfl 27 (by decide) lkM30 rfl dX10_write_87 ?_
      exact wX10_write_p13_90 C h hl hf
    · have hf := zif_f c10 hf
      refine lv_aload_n C.ex C.by dX10_write_77 rfl (lv_at hl 0 rfl) ?_
      refine z_get (v := .int (zI σ 15)) C h iwX10 0 (wM_at0 κ _) rfl 27 (by decide) lkM30 rfl dX10_write_78 ?_
      refine lv_iconst (v := 1) C.ex C.by dX10_write_81 (by decide) ?_
      refine lv_isub C.ex C.by dX10_write_82 ?_
      refine lv_goto (tgt := 90) C.ex C.by dX10_write_83 (by decide) ?_
      exact wX10_write_p13_90 C h hl hf
  · have hf := zif_f c9 hf
    refine lv_iconst (v := (-1)) C.ex C.by dX10_write_67 (by decide) ?_
    cases hf
    exact z_iret C h dX10_write_68
set_option maxRecDepth 20000 in
set_option maxHeartbeats 4000000 in
theorem wX10_write_p13_57 {p : Program} {l : Launch} {e : Env} {s : State} {m : MethodId} {args : Array Value} {below : List Frame} {meth : Method} {c : Code} {A : Nat → Prop} {κ : zG} {H : Heap} {locs : List Loc} {ls : Array Slot} {n : Nat} {σ : zS} {x2 : Int32} {x3 : Int32} {y0 : Int32} {r1 : Int32} {r2 : zS} (C : zC cX10_write 5 (some .int) RX10 κ A p s m args meth c) (h : zH wM κ A s σ H locs) (hl : lv_has ls 5 [(0, .ref (κ.2.1 0)), (1, .ref (κ.2.1 13)), (2, .int x2), (3, .int x3)]) (hf : fX10_write_p13_57 n σ x2 x3 y0 = some (r1, r2)) : W p l e rmX10_write_p13 s m args below meth c H locs 0 0 (MQ below (zQi wM κ A r1 r2) args s 0 0 A) (F0 m 57 ls [.int y0, .ref (κ.2.1 0)]) := by
  unfold fX10_write_p13_57 at hf
  refine z_put C h iwX10 tyX10_ok nmX10 0 (wM_at0 κ _) rfl 29 (by decide) lkM17 rfl rfl rfl (Nat.le_of_ble_eq_true rfl) (sI σ 17 y0) (wM_s0_29 κ _ _) dX10_write_57 (fun H locs h => ?_)
  exact wX10_write_p13_60 C h hl hf
set_option maxRecDepth 20000 in
set_option maxHeartbeats 4000000 in
theorem wX10_write_p13_0 {p : Program} {l : Launch} {e : Env} {s : State} {m : MethodId} {args : Array Value} {below : List Frame} {meth : Method} {c : Code} {A : Nat → Prop} {κ : zG} {H : Heap} {locs : List Loc} {ls : Array Slot} {n : Nat} {σ : zS} {x2 : Int32} {r1 : Int32} {r2 : zS} (C : zC cX10_write 5 (some .int) RX10 κ A p s m args meth c) (h : zH wM κ A s σ H locs) (hl : lv_has ls 5 [(0, .ref (κ.2.1 0)), (1, .ref (κ.2.1 13)), (2, .int x2)]) (hf : fX10_write_p13_0 n σ x2 = some (r1, r2)) : W p l e rmX10_write_p13 s m args below meth c H locs 0 0 (MQ below (zQi wM κ A r1 r2) args s 0 0 A) (F0 m 0 ls []) := by
  unfold fX10_write_p13_0 at hf
  refine lv_iconst (v := 0) C.ex C.by dX10_write_0 (by decide) ?_
  refine lv_istore_n (lv' := [(3, .int 0), (0, .ref (κ.2.1 0)), (1, .ref (κ.2.1 13)), (2, .int x2)]) C.ex C.by dX10_write_1 rfl hl (by decide) rfl (fun ls hl => ?_)
  obtain ⟨b4, e5, hf⟩ := zb_some hf
  refine wlX10_write_p13_2 C h (lv_sub hl [1, 2, 3, 0] rfl) b4 e5 ?_
  intro H locs ls h hl
  refine lv_aload_n C.ex C.by dX10_write_25 rfl (lv_at hl 0 rfl) ?_
  refine z_get (v := .int (zI σ 17)) C h iwX10 0 (wM_at0 κ _) rfl 29 (by decide) lkM17 rfl dX10_write_26 ?_
  refine lv_if_ne (tgt := 60) C.ex C.by dX10_write_29 (by decide) (fun c6 => ?_) (fun c6 => ?_)
  · have hf := zif_f c6 hf
    exact wX10_write_p13_60 C h hl hf
  · have hf := zif_t c6 hf
    refine lv_aload_n C.ex C.by dX10_write_32 rfl (lv_at hl 0 rfl) ?_
    refine lv_iload_n C.ex C.by dX10_write_33 rfl (lv_at hl 3 rfl) ?_
    refine lv_aload_n C.ex C.by dX10_write_34 rfl (lv_at hl 0 rfl) ?_
    refine z_get (v := .int (zI σ 1)) C h iwX10 0 (wM_at0 κ _) rfl 1 (by decide) lkM18 rfl dX10_write_35 ?_
    refine lv_icmp_ne (tgt := 45) C.ex C.by dX10_write_38 (by decide) (fun c7 => ?_) (fun c7 => ?_)
    · have hf := zif_f c7 hf
      refine lv_aload_n C.ex C.by dX10_write_45 rfl (lv_at hl 0 rfl) ?_
      refine z_get (v := .int (zI σ 15)) C h iwX10 0 (wM_at0 κ _) rfl 27 (by decide) lkM30 rfl dX10_write_46 ?_
      refine lv_if_ne (tgt := 56) C.ex C.by dX10_write_49 (by decide) (fun c8 => ?_) (fun c8 => ?_)
      · have hf := zif_f c8 hf
        refine lv_iconst (v := 0) C.ex C.by dX10_write_56 (by decide) ?_
        exact wX10_write_p13_57 C h hl hf
      · have hf := zif_t c8 hf
        refine lv_iconst (v := 1) C.ex C.by dX10_write_52 (by decide) ?_
        refine lv_goto (tgt := 57) C.ex C.by dX10_write_53 (by decide) ?_
        exact wX10_write_p13_57 C h hl hf
    · have hf := zif_t c7 hf
      refine lv_iconst (v := 2) C.ex C.by dX10_write_41 (by decide) ?_
      refine lv_goto (tgt := 57) C.ex C.by dX10_write_42 (by decide) ?_
      exact wX10_write_p13_57 C h hl hf
theorem ctX10_write_p13 {l : Launch} {κ : zG} {n : Nat} {σ : zS} {x2 : Int32} {r1 : Int32} {r2 : zS} (hf : fX10_write_p13_0 n σ x2 = some (r1, r2)) : zMi l yX10_write (Cond.code yX10_write cX10_write 5 (some .int)) rmX10_write_p13 wM κ [.ref (κ.2.1 0), .ref (κ.2.1 13), .int x2] σ r1 r2 :=
  zMi_of (by decide) (Nat.le_of_ble_eq_true rfl) (fun p e s m below meth c A C h ls hl => wX10_write_p13_0 C h hl hf)
theorem hdX10_writePage : yX10_writePage.cls = RX10 ∧ yX10_writePage.cls ≠ "java/lang/invoke/MethodHandle" ∧ yX10_writePage.cls ≠ "java/lang/invoke/VarHandle" ∧ (parseMethodDescriptor yX10_writePage.desc).map (fun d => d.parameters.length) = some 0 := by decide +kernel
abbrev rmX10_writePage : Room := { frames := 2, cells := 0, slots := 0, locals := 45 }
set_option maxRecDepth 20000 in
set_option maxHeartbeats 4000000 in
theorem wX10_writePage_0 {p : Program} {l : Launch} {e : Env} {s : State} {m : MethodId} {args : Array Value} {below : List Frame} {meth : Method} {c : Code} {A : Nat → Prop} {κ : zG} {H : Heap} {locs : List Loc} {ls : Array Slot} {n : Nat} {σ : zS} {r : zS} (C : zC cX10_writePage 3 none RX10 κ A p s m args meth c) (h : zH wM κ A s σ H locs) (hl : lv_has ls 3 [(0, .ref (κ.2.1 0))]) (hf : fX10_writePage_0 n σ = some r) : W p l e rmX10_writePage s m args below meth c H locs 0 0 (MQ below (zQv wM κ A r) args s 0 0 A) (F0 m 0 ls []) := by
  unfold fX10_writePage_0 at hf
  refine lv_aload_n C.ex C.by dX10_writePage_0 rfl (lv_at hl 0 rfl) ?_
  refine z_get (v := .int (zI σ 19)) C h iwX10 0 (wM_at0 κ _) rfl 32 (by decide) lkM83 rfl dX10_writePage_1 ?_
  refine lv_istore_n (lv' := [(1, .int (zI σ 19)), (0, .ref (κ.2.1 0))]) C.ex C.by dX10_writePage_4 rfl hl (by decide) rfl (fun ls hl => ?_)
  refine lv_aload_n C.ex C.by dX10_writePage_5 rfl (lv_at hl 1 rfl) ?_
  refine lv_aload_n C.ex C.by dX10_writePage_6 rfl (lv_at hl 1 rfl) ?_
  refine z_get (v := .ref (κ.2.1 13)) C h iwX10 0 (wM_at0 κ _) rfl 31 (by decide) lkM82 rfl dX10_writePage_7 ?_
  refine lv_iload_n C.ex C.by dX10_writePage_10 rfl (lv_at hl 0 rfl) ?_
  obtain ⟨q1, e2, hf⟩ := zb_some hf
  refine z_callVi (As := [.ref (κ.2.1 13), .int (zI σ 19)]) C h (ctX10_write_p13 (r1 := q1.1) (r2 := q1.2) e2) (zgV lkM41 lkM42 lkM43 lkM2 lkM44) ⟨rfl, rfl⟩ hdX10_write ⟨Nat.le_of_ble_eq_true rfl, Nat.le_of_ble_eq_true rfl⟩ 0 (wM_at0 κ _) rfl hl rfl rfl (Nat.le_of_ble_eq_true rfl) dX10_writePage_11 ⟨Nat.zero_le _, Nat.zero_le _⟩ (fun H locs h => ?_)
  refine lv_istore_n (lv' := [(2, .int q1.1), (1, .int (zI σ 19)), (0, .ref (κ.2.1 0))]) C.ex C.by dX10_writePage_14 rfl hl (by decide) rfl (fun ls hl => ?_)
  refine lv_aload_n C.ex C.by dX10_writePage_15 rfl (lv_at hl 2 rfl) ?_
  refine lv_aload_n C.ex C.by dX10_writePage_16 rfl (lv_at hl 2 rfl) ?_
  refine z_get (v := .int (zI q1.2 18)) C h iwX10 0 (wM_at0 κ _) rfl 30 (by decide) lkM84 rfl dX10_writePage_17 ?_
  refine lv_iload_n C.ex C.by dX10_writePage_20 rfl (lv_at hl 0 rfl) ?_
  refine lv_iload_n C.ex C.by dX10_writePage_21 rfl (lv_at hl 1 rfl) ?_
  obtain ⟨q3, e4, hf⟩ := zb_some hf
  refine z_callVv (As := [.int (zI q1.2 18), .int q1.1, .int (zI σ 19)]) C h (ctX10_hang e4) (zgV lkM47 lkM48 lkM49 lkM2 lkM50) ⟨rfl, rfl⟩ hdX10_hang ⟨Nat.le_of_ble_eq_true rfl, Nat.le_of_ble_eq_true rfl⟩ 0 (wM_at0 κ _) rfl hl rfl rfl (Nat.le_of_ble_eq_true rfl) dX10_writePage_22 ⟨Nat.zero_le _, Nat.zero_le _⟩ (fun H locs h => ?_)
  refine lv_aload_n C.ex C.by dX10_writePage_25 rfl (lv_at hl 2 rfl) ?_
  refine lv_iconst (v := 0) C.ex C.by dX10_writePage_26 (by decide) ?_
  refine z_put C h iwX10 tyX10_ok nmX10 0 (wM_at0 κ _) rfl 32 (by decide) lkM83 rfl rfl rfl (Nat.le_of_ble_eq_true rfl) (sI q3 19 0) (wM_s0_32 κ _ _) dX10_writePage_27 (fun H locs h => ?_)
  cases hf
  exact z_vret C h dX10_writePage_30
theorem ctX10_writePage {l : Launch} {κ : zG} {n : Nat} {σ : zS} {r : zS} (hf : fX10_writePage_0 n σ = some r) : zMv l yX10_writePage (Cond.code yX10_writePage cX10_writePage 3 none) rmX10_writePage wM κ [.ref (κ.2.1 0)] σ r :=
  zMv_of (by decide) (Nat.le_of_ble_eq_true rfl) (fun p e s m below meth c A C h ls hl => wX10_writePage_0 C h hl hf)
theorem hdX10_toPage : yX10_toPage.cls = RX10 ∧ yX10_toPage.cls ≠ "java/lang/invoke/MethodHandle" ∧ yX10_toPage.cls ≠ "java/lang/invoke/VarHandle" ∧ (parseMethodDescriptor yX10_toPage.desc).map (fun d => d.parameters.length) = some 2 := by decide +kernel
abbrev rmX10_toPage_p14 : Room := { frames := 3, cells := 0, slots := 0, locals := 67 }
set_option maxRecDepth 20000 in
set_option maxHeartbeats 4000000 in
theorem wX10_toPage_p14_L2_2 {p : Program} {l : Launch} {e : Env} {s : State} {m : MethodId} {args : Array Value} {below : List Frame} {meth : Method} {c : Code} {A : Nat → Prop} {κ : zG} {H : Heap} {locs : List Loc} {ls : Array Slot} {Q : State → Prop} {n : Nat} {k2 : Int32} {a : Int32 × zS} {r : (Int32 × zS) ⊕ (zS)} (C : zC cX10_toPage 4 none RX10 κ A p s m args meth c) (h : zH wM κ A s a.2 H locs) (hl : lv_has ls 4 [(0, .ref (κ.2.1 0)), (1, .ref (κ.2.1 14)), (2, .int k2), (3, .int a.1)]) (hf : fX10_toPage_p14_L2_2 n k2 a = some r) (Kc : ∀ (v3 : Int32) (σ1 : zS), r = .inl (v3, σ1) → ∀ (H : Heap) (locs : List Loc) (ls : Array Slot), zH wM κ A s σ1 H locs → lv_has ls 4 [(0, .ref (κ.2.1 0)), (1, .ref (κ.2.1 14)), (2, .int k2), (3, .int v3)] → W p l e rmX10_toPage_p14 s m args below meth c H locs 0 0 Q (F0 m 2 ls [])) (Ke0 : ∀ (σ1 : zS), r = .inr σ1 → ∀ (H : Heap) (locs : List Loc) (ls : Array Slot), zH wM κ A s σ1 H locs → lv_has ls 4 [(0, .ref (κ.2.1 0))] → W p l e rmX10_toPage_p14 s m args below meth c H locs 0 0 Q (F0 m 39 ls [])) : W p l e rmX10_toPage_p14 s m args below meth c H locs 0 0 Q (F0 m 2 ls []) := by
  unfold fX10_toPage_p14_L2_2 at hf
  refine lv_iload_n C.ex C.by dX10_toPage_2 rfl (lv_at hl 3 rfl) ?_
  refine lv_aload_n C.ex C.by dX10_toPage_3 rfl (lv_at hl 0 rfl) ?_
  refine z_get (v := .int (zI a.2 6)) C h iwX10 0 (wM_at0 κ _) rfl 16 (by decide) lkM9 rfl dX10_toPage_4 ?_
  refine lv_icmp_gt (tgt := 39) C.ex C.by dX10_toPage_7 (by decide) (fun c1 => ?_) (fun c1 => ?_)
  · have hf := zif_t c1 hf
    exact Ke0 _ (Option.some.inj hf).symm _ _ _ h (lv_sub hl [0] rfl)
  · have hf := zif_f c1 hf
    refine lv_aload_n C.ex C.by dX10_toPage_10 rfl (lv_at hl 0 rfl) ?_
    refine z_get (v := .ref (κ.2.1 13)) C h iwX10 0 (wM_at0 κ _) rfl 31 (by decide) lkM82 rfl dX10_toPage_11 ?_
    refine lv_aload_n C.ex C.by dX10_toPage_14 rfl (lv_at hl 0 rfl) ?_
    refine z_get (v := .int (zI a.2 19)) C h iwX10 0 (wM_at0 κ _) rfl 32 (by decide) lkM83 rfl dX10_toPage_15 ?_
    refine lv_aload_n C.ex C.by dX10_toPage_18 rfl (lv_at hl 0 rfl) ?_
    refine z_get (v := .int (zI a.2 6)) C h iwX10 0 (wM_at0 κ _) rfl 16 (by decide) lkM9 rfl dX10_toPage_19 ?_
    refine lv_iconst (v := 1) C.ex C.by dX10_toPage_22 (by decide) ?_
    refine lv_iadd C.ex C.by dX10_toPage_23 ?_
    refine lv_imul C.ex C.by dX10_toPage_24 ?_
    refine lv_iload_n C.ex C.by dX10_toPage_25 rfl (lv_at hl 3 rfl) ?_
    refine lv_iadd C.ex C.by dX10_toPage_26 ?_
    refine lv_aload_n C.ex C.by dX10_toPage_27 rfl (lv_at hl 1 rfl) ?_
    refine lv_iload_n C.ex C.by dX10_toPage_28 rfl (lv_at hl 2 rfl) ?_
    refine lv_iload_n C.ex C.by dX10_toPage_29 rfl (lv_at hl 3 rfl) ?_
    refine lv_iadd C.ex C.by dX10_toPage_30 ?_
    obtain ⟨h2, hf⟩ := zg_some hf
    refine z_lald (f := (zL a.2 3)) C h 14 (wM_at14 κ _) h2 dX10_toPage_31 ?_
    obtain ⟨h3, hf⟩ := zg_some hf
    refine z_last (f := (zL a.2 2)) C h 13 (wM_at13 κ _) h3 (sL a.2 2 (vp_updL (zL a.2 2) (Int32.toNatClampNeg (((zI a.2 19) * ((zI a.2 6) + 1)) + a.1)) ((zL a.2 3) (Int32.toNatClampNeg (k2 + a.1))))) (wM_s13 κ _ _) dX10_toPage_32 (fun H locs h => ?_)
    refine lv_iinc (v := (a.1 + 1)) (lv' := [(3, .int (a.1 + 1)), (0, .ref (κ.2.1 0)), (1, .ref (κ.2.1 14)), (2, .int k2)]) C.ex C.by dX10_toPage_33 hl (k := 3) rfl rfl (by decide) rfl (fun ls hl => ?_)
    refine lv_goto (tgt := 2) C.ex C.by dX10_toPage_36 (by decide) ?_
    exact Kc _ _ (Option.some.inj hf).symm _ _ _ h (lv_sub hl [1, 2, 3, 0] rfl)
theorem wlX10_toPage_p14_2 {p : Program} {l : Launch} {e : Env} {s : State} {m : MethodId} {args : Array Value} {below : List Frame} {meth : Method} {c : Code} {A : Nat → Prop} {κ : zG} {H : Heap} {locs : List Loc} {ls : Array Slot} {Q : State → Prop} {n : Nat} {k2 : Int32} {k0 : Nat} {u3 : Int32} {σ1 : zS} (C : zC cX10_toPage 4 none RX10 κ A p s m args meth c) (h : zH wM κ A s σ1 H locs) (hl : lv_has ls 4 [(0, .ref (κ.2.1 0)), (1, .ref (κ.2.1 14)), (2, .int k2), (3, .int u3)]) (b : zS) (hb : zlp (fX10_toPage_p14_L2_2 n k2) k0 (u3, σ1) = some b) (K : (fun b : zS => ∀ (H : Heap) (locs : List Loc) (ls : Array Slot), zH wM κ A s b H locs → lv_has ls 4 [(0, .ref (κ.2.1 0))] → W p l e rmX10_toPage_p14 s m args below meth c H locs 0 0 Q (F0 m 39 ls [])) b) : W p l e rmX10_toPage_p14 s m args below meth c H locs 0 0 Q (F0 m 2 ls []) :=
  z_loop (body := fX10_toPage_p14_L2_2 n k2) (Wd := (fun a : Int32 × zS => ∀ (H : Heap) (locs : List Loc) (ls : Array Slot), zH wM κ A s a.2 H locs → lv_has ls 4 [(0, .ref (κ.2.1 0)), (1, .ref (κ.2.1 14)), (2, .int k2), (3, .int a.1)] → W p l e rmX10_toPage_p14 s m args below meth c H locs 0 0 Q (F0 m 2 ls []))) (Ex := (fun b : zS => (fun b : zS => ∀ (H : Heap) (locs : List Loc) (ls : Array Slot), zH wM κ A s b H locs → lv_has ls 4 [(0, .ref (κ.2.1 0))] → W p l e rmX10_toPage_p14 s m args below meth c H locs 0 0 Q (F0 m 39 ls [])) b)) (fun a r hr Kc Ke H locs ls h hl => wX10_toPage_p14_L2_2 C h hl hr (fun v3 σ1 e => Kc (v3, σ1) e) (fun σ1 e => Ke σ1 e)) k0 (u3, σ1) b hb K H locs ls h hl
set_option maxRecDepth 20000 in
set_option maxHeartbeats 4000000 in
theorem wX10_toPage_p14_0 {p : Program} {l : Launch} {e : Env} {s : State} {m : MethodId} {args : Array Value} {below : List Frame} {meth : Method} {c : Code} {A : Nat → Prop} {κ : zG} {H : Heap} {locs : List Loc} {ls : Array Slot} {n : Nat} {σ : zS} {x2 : Int32} {r : zS} (C : zC cX10_toPage 4 none RX10 κ A p s m args meth c) (h : zH wM κ A s σ H locs) (hl : lv_has ls 4 [(0, .ref (κ.2.1 0)), (1, .ref (κ.2.1 14)), (2, .int x2)]) (hf : fX10_toPage_p14_0 n σ x2 = some r) : W p l e rmX10_toPage_p14 s m args below meth c H locs 0 0 (MQ below (zQv wM κ A r) args s 0 0 A) (F0 m 0 ls []) := by
  unfold fX10_toPage_p14_0 at hf
  refine lv_iconst (v := 0) C.ex C.by dX10_toPage_0 (by decide) ?_
  refine lv_istore_n (lv' := [(3, .int 0), (0, .ref (κ.2.1 0)), (1, .ref (κ.2.1 14)), (2, .int x2)]) C.ex C.by dX10_toPage_1 rfl hl (by decide) rfl (fun ls hl => ?_)
  obtain ⟨b4, e5, hf⟩ := zb_some hf
  refine wlX10_toPage_p14_2 C h (lv_sub hl [1, 2, 3, 0] rfl) b4 e5 ?_
  intro H locs ls h hl
  refine lv_aload_n C.ex C.by dX10_toPage_39 rfl (lv_at hl 0 rfl) ?_
  refine lv_dup C.ex C.by dX10_toPage_40 rfl ?_
  refine z_get (v := .int (zI b4 19)) C h iwX10 0 (wM_at0 κ _) rfl 32 (by decide) lkM83 rfl dX10_toPage_41 ?_
  refine lv_iconst (v := 1) C.ex C.by dX10_toPage_44 (by decide) ?_
  refine lv_iadd C.ex C.by dX10_toPage_45 ?_
  refine z_put C h iwX10 tyX10_ok nmX10 0 (wM_at0 κ _) rfl 32 (by decide) lkM83 rfl rfl rfl (Nat.le_of_ble_eq_true rfl) (sI b4 19 ((zI b4 19) + 1)) (wM_s0_32 κ _ _) dX10_toPage_46 (fun H locs h => ?_)
  refine lv_aload_n C.ex C.by dX10_toPage_49 rfl (lv_at hl 0 rfl) ?_
  refine z_get (v := .int ((zI b4 19) + 1)) C h iwX10 0 (wM_at0 κ _) rfl 32 (by decide) lkM83 rfl dX10_toPage_50 ?_
  refine lv_aload_n C.ex C.by dX10_toPage_53 rfl (lv_at hl 0 rfl) ?_
  obtain ⟨q6, e7, hf⟩ := zb_some hf
  refine z_callVi (As := []) C h (ctX10_per e7) (zgV lkM25 lkM26 lkM27 lkM2 lkM28) ⟨rfl, rfl⟩ hdX10_per ⟨Nat.le_of_ble_eq_true rfl, Nat.le_of_ble_eq_true rfl⟩ 0 (wM_at0 κ _) rfl hl rfl rfl (Nat.le_of_ble_eq_true rfl) dX10_toPage_54 ⟨Nat.zero_le _, Nat.zero_le _⟩ (fun H locs h => ?_)
  refine lv_icmp_ne (tgt := 64) C.ex C.by dX10_toPage_57 (by decide) (fun c8 => ?_) (fun c8 => ?_)
  · have hf := zif_f c8 hf
    cases hf
    exact z_vret C h dX10_toPage_64
  · have hf := zif_t c8 hf
    refine lv_aload_n C.ex C.by dX10_toPage_60 rfl (lv_at hl 0 rfl) ?_
    obtain ⟨q9, e10, hf⟩ := zb_some hf
    refine z_callVv (As := []) C h (ctX10_writePage e10) (zgV lkM85 lkM86 lkM87 lkM2 lkM88) ⟨rfl, rfl⟩ hdX10_writePage ⟨Nat.le_of_ble_eq_true rfl, Nat.le_of_ble_eq_true rfl⟩ 0 (wM_at0 κ _) rfl hl rfl rfl (Nat.le_of_ble_eq_true rfl) dX10_toPage_61 ⟨Nat.zero_le _, Nat.zero_le _⟩ (fun H locs h => ?_)
    cases hf
    exact z_vret C h dX10_toPage_64
theorem ctX10_toPage_p14 {l : Launch} {κ : zG} {n : Nat} {σ : zS} {x2 : Int32} {r : zS} (hf : fX10_toPage_p14_0 n σ x2 = some r) : zMv l yX10_toPage (Cond.code yX10_toPage cX10_toPage 4 none) rmX10_toPage_p14 wM κ [.ref (κ.2.1 0), .ref (κ.2.1 14), .int x2] σ r :=
  zMv_of (by decide) (Nat.le_of_ble_eq_true rfl) (fun p e s m below meth c A C h ls hl => wX10_toPage_p14_0 C h hl hf)
theorem hdX10_endRun : yX10_endRun.cls = RX10 ∧ yX10_endRun.cls ≠ "java/lang/invoke/MethodHandle" ∧ yX10_endRun.cls ≠ "java/lang/invoke/VarHandle" ∧ (parseMethodDescriptor yX10_endRun.desc).map (fun d => d.parameters.length) = some 0 := by decide +kernel
abbrev rmX10_endRun : Room := { frames := 4, cells := 0, slots := 0, locals := 90 }
set_option maxRecDepth 20000 in
set_option maxHeartbeats 4000000 in
theorem wX10_endRun_16 {p : Program} {l : Launch} {e : Env} {s : State} {m : MethodId} {args : Array Value} {below : List Frame} {meth : Method} {c : Code} {A : Nat → Prop} {κ : zG} {H : Heap} {locs : List Loc} {ls : Array Slot} {n : Nat} {σ : zS} {r : zS} (C : zC cX10_endRun 1 none RX10 κ A p s m args meth c) (h : zH wM κ A s σ H locs) (hl : lv_has ls 1 [(0, .ref (κ.2.1 0))]) (hf : fX10_endRun_16 n σ = some r) : W p l e rmX10_endRun s m args below meth c H locs 0 0 (MQ below (zQv wM κ A r) args s 0 0 A) (F0 m 16 ls []) := by
  unfold fX10_endRun_16 at hf
  refine lv_aload_n C.ex C.by dX10_endRun_16 rfl (lv_at hl 0 rfl) ?_
  refine lv_iconst (v := 0) C.ex C.by dX10_endRun_17 (by decide) ?_
  refine z_put C h iwX10 tyX10_ok nmX10 0 (wM_at0 κ _) rfl 34 (by decide) lkM80 rfl rfl rfl (Nat.le_of_ble_eq_true rfl) (sI σ 20 0) (wM_s0_34 κ _ _) dX10_endRun_18 (fun H locs h => ?_)
  refine lv_aload_n C.ex C.by dX10_endRun_21 rfl (lv_at hl 0 rfl) ?_
  refine z_get (v := .int (zI σ 19)) C h iwX10 0 (wM_at0 κ _) rfl 32 (by decide) lkM83 rfl dX10_endRun_22 ?_
  refine lv_if_le (tgt := 32) C.ex C.by dX10_endRun_25 (by decide) (fun c4 => ?_) (fun c4 => ?_)
  · have hf := zif_t c4 hf
    cases hf
    exact z_vret C h dX10_endRun_32
  · have hf := zif_f c4 hf
    refine lv_aload_n C.ex C.by dX10_endRun_28 rfl (lv_at hl 0 rfl) ?_
    obtain ⟨q5, e6, hf⟩ := zb_some hf
    refine z_callVv (As := []) C h (ctX10_writePage e6) (zgV lkM85 lkM86 lkM87 lkM2 lkM88) ⟨rfl, rfl⟩ hdX10_writePage ⟨Nat.le_of_ble_eq_true rfl, Nat.le_of_ble_eq_true rfl⟩ 0 (wM_at0 κ _) rfl hl rfl rfl (Nat.le_of_ble_eq_true rfl) dX10_endRun_29 ⟨Nat.zero_le _, Nat.zero_le _⟩ (fun H locs h => ?_)
    cases hf
    exact z_vret C h dX10_endRun_32
set_option maxRecDepth 20000 in
set_option maxHeartbeats 4000000 in
theorem wX10_endRun_0 {p : Program} {l : Launch} {e : Env} {s : State} {m : MethodId} {args : Array Value} {below : List Frame} {meth : Method} {c : Code} {A : Nat → Prop} {κ : zG} {H : Heap} {locs : List Loc} {ls : Array Slot} {n : Nat} {σ : zS} {r : zS} (C : zC cX10_endRun 1 none RX10 κ A p s m args meth c) (h : zH wM κ A s σ H locs) (hl : lv_has ls 1 [(0, .ref (κ.2.1 0))]) (hf : fX10_endRun_0 n σ = some r) : W p l e rmX10_endRun s m args below meth c H locs 0 0 (MQ below (zQv wM κ A r) args s 0 0 A) (F0 m 0 ls []) := by
  unfold fX10_endRun_0 at hf
  refine lv_aload_n C.ex C.by dX10_endRun_0 rfl (lv_at hl 0 rfl) ?_
  refine z_get (v := .int (zI σ 20)) C h iwX10 0 (wM_at0 κ _) rfl 34 (by decide) lkM80 rfl dX10_endRun_1 ?_
  refine lv_if_eq (tgt := 16) C.ex C.by dX10_endRun_4 (by decide) (fun c1 => ?_) (fun c1 => ?_)
  · have hf := zif_t c1 hf
    exact wX10_endRun_16 C h hl hf
  · have hf := zif_f c1 hf
    refine lv_aload_n C.ex C.by dX10_endRun_7 rfl (lv_at hl 0 rfl) ?_
    refine lv_aload_n C.ex C.by dX10_endRun_8 rfl (lv_at hl 0 rfl) ?_
    refine z_get (v := .ref (κ.2.1 14)) C h iwX10 0 (wM_at0 κ _) rfl 33 (by decide) lkM81 rfl dX10_endRun_9 ?_
    refine lv_iconst (v := 0) C.ex C.by dX10_endRun_12 (by decide) ?_
    obtain ⟨q2, e3, hf⟩ := zb_some hf
    refine z_callVv (As := [.ref (κ.2.1 14), .int 0]) C h (ctX10_toPage_p14 e3) (zgV lkM89 lkM90 lkM91 lkM2 lkM92) ⟨rfl, rfl⟩ hdX10_toPage ⟨Nat.le_of_ble_eq_true rfl, Nat.le_of_ble_eq_true rfl⟩ 0 (wM_at0 κ _) rfl hl rfl rfl (Nat.le_of_ble_eq_true rfl) dX10_endRun_13 ⟨Nat.zero_le _, Nat.zero_le _⟩ (fun H locs h => ?_)
    exact wX10_endRun_16 C h hl hf
theorem ctX10_endRun {l : Launch} {κ : zG} {n : Nat} {σ : zS} {r : zS} (hf : fX10_endRun_0 n σ = some r) : zMv l yX10_endRun (Cond.code yX10_endRun cX10_endRun 1 none) rmX10_endRun wM κ [.ref (κ.2.1 0)] σ r :=
  zMv_of (by decide) (Nat.le_of_ble_eq_true rfl) (fun p e s m below meth c A C h ls hl => wX10_endRun_0 C h hl hf)
theorem hdX10_newFile : yX10_newFile.cls = RX10 ∧ yX10_newFile.cls ≠ "java/lang/invoke/MethodHandle" ∧ yX10_newFile.cls ≠ "java/lang/invoke/VarHandle" ∧ (parseMethodDescriptor yX10_newFile.desc).map (fun d => d.parameters.length) = some 0 := by decide +kernel
abbrev rmX10_newFile : Room := { frames := 0, cells := 0, slots := 0, locals := 0 }
set_option maxRecDepth 20000 in
set_option maxHeartbeats 4000000 in
theorem wX10_newFile_L2_2 {p : Program} {l : Launch} {e : Env} {s : State} {m : MethodId} {args : Array Value} {below : List Frame} {meth : Method} {c : Code} {A : Nat → Prop} {κ : zG} {H : Heap} {locs : List Loc} {ls : Array Slot} {Q : State → Prop} {n : Nat} {σ : zS} {a : Int32} {r : (Int32) ⊕ (Int32)} (C : zC cX10_newFile 2 (some .int) RX10 κ A p s m args meth c) (h : zH wM κ A s σ H locs) (hl : lv_has ls 2 [(0, .ref (κ.2.1 0)), (1, .int a)]) (hf : fX10_newFile_L2_2 n σ a = some r) (Kc : ∀ (v1 : Int32), r = .inl v1 → ∀ (H : Heap) (locs : List Loc) (ls : Array Slot), zH wM κ A s σ H locs → lv_has ls 2 [(0, .ref (κ.2.1 0)), (1, .int v1)] → W p l e rmX10_newFile s m args below meth c H locs 0 0 Q (F0 m 2 ls [])) (Ke0 : ∀ (v1 : Int32), r = .inr v1 → ∀ (H : Heap) (locs : List Loc) (ls : Array Slot), zH wM κ A s σ H locs → lv_has ls 2 [(0, .ref (κ.2.1 0)), (1, .int v1)] → W p l e rmX10_newFile s m args below meth c H locs 0 0 Q (F0 m 17 ls [])) : W p l e rmX10_newFile s m args below meth c H locs 0 0 Q (F0 m 2 ls []) := by
  unfold fX10_newFile_L2_2 at hf
  refine lv_aload_n C.ex C.by dX10_newFile_2 rfl (lv_at hl 0 rfl) ?_
  refine z_get (v := .ref (κ.2.1 8)) C h iwX10 0 (wM_at0 κ _) rfl 11 (by decide) lkM97 rfl dX10_newFile_3 ?_
  refine lv_iload_n C.ex C.by dX10_newFile_6 rfl (lv_at hl 1 rfl) ?_
  obtain ⟨h1, hf⟩ := zg_some hf
  refine z_zald (f := (zA σ 6)) C h 8 (wM_at8 κ _) h1 dX10_newFile_7 ?_
  refine lv_if_eq (tgt := 17) C.ex C.by dX10_newFile_8 (by decide) (fun c2 => ?_) (fun c2 => ?_)
  · have hf := zif_t c2 hf
    exact Ke0 _ (Option.some.inj hf).symm _ _ _ h hl
  · have hf := zif_f c2 hf
    refine lv_iinc (v := (a + 1)) (lv' := [(1, .int (a + 1)), (0, .ref (κ.2.1 0))]) C.ex C.by dX10_newFile_11 hl (k := 1) rfl rfl (by decide) rfl (fun ls hl => ?_)
    refine lv_goto (tgt := 2) C.ex C.by dX10_newFile_14 (by decide) ?_
    exact Kc _ (Option.some.inj hf).symm _ _ _ h (lv_sub hl [1, 0] rfl)
theorem wlX10_newFile_2 {p : Program} {l : Launch} {e : Env} {s : State} {m : MethodId} {args : Array Value} {below : List Frame} {meth : Method} {c : Code} {A : Nat → Prop} {κ : zG} {H : Heap} {locs : List Loc} {ls : Array Slot} {Q : State → Prop} {n : Nat} {σ : zS} {k0 : Nat} {u1 : Int32} (C : zC cX10_newFile 2 (some .int) RX10 κ A p s m args meth c) (h : zH wM κ A s σ H locs) (hl : lv_has ls 2 [(0, .ref (κ.2.1 0)), (1, .int u1)]) (b : Int32) (hb : zlp (fX10_newFile_L2_2 n σ) k0 u1 = some b) (K : (fun b : Int32 => ∀ (H : Heap) (locs : List Loc) (ls : Array Slot), zH wM κ A s σ H locs → lv_has ls 2 [(0, .ref (κ.2.1 0)), (1, .int b)] → W p l e rmX10_newFile s m args below meth c H locs 0 0 Q (F0 m 17 ls [])) b) : W p l e rmX10_newFile s m args below meth c H locs 0 0 Q (F0 m 2 ls []) :=
  z_loop (body := fX10_newFile_L2_2 n σ) (Wd := (fun a : Int32 => ∀ (H : Heap) (locs : List Loc) (ls : Array Slot), zH wM κ A s σ H locs → lv_has ls 2 [(0, .ref (κ.2.1 0)), (1, .int a)] → W p l e rmX10_newFile s m args below meth c H locs 0 0 Q (F0 m 2 ls []))) (Ex := (fun b : Int32 => (fun b : Int32 => ∀ (H : Heap) (locs : List Loc) (ls : Array Slot), zH wM κ A s σ H locs → lv_has ls 2 [(0, .ref (κ.2.1 0)), (1, .int b)] → W p l e rmX10_newFile s m args below meth c H locs 0 0 Q (F0 m 17 ls [])) b)) (fun a r hr Kc Ke H locs ls h hl => wX10_newFile_L2_2 C h hl hr (fun v1 e => Kc v1 e) (fun v1 e => Ke v1 e)) k0 u1 b hb K H locs ls h hl
set_option maxRecDepth 20000 in
set_option maxHeartbeats 4000000 in
theorem wX10_newFile_0 {p : Program} {l : Launch} {e : Env} {s : State} {m : MethodId} {args : Array Value} {below : List Frame} {meth : Method} {c : Code} {A : Nat → Prop} {κ : zG} {H : Heap} {locs : List Loc} {ls : Array Slot} {n : Nat} {σ : zS} {r1 : Int32} {r2 : zS} (C : zC cX10_newFile 2 (some .int) RX10 κ A p s m args meth c) (h : zH wM κ A s σ H locs) (hl : lv_has ls 2 [(0, .ref (κ.2.1 0))]) (hf : fX10_newFile_0 n σ = some (r1, r2)) : W p l e rmX10_newFile s m args below meth c H locs 0 0 (MQ below (zQi wM κ A r1 r2) args s 0 0 A) (F0 m 0 ls []) := by
  unfold fX10_newFile_0 at hf
  refine lv_iconst (v := 1) C.ex C.by dX10_newFile_0 (by decide) ?_
  refine lv_istore_n (lv' := [(1, .int 1), (0, .ref (κ.2.1 0))]) C.ex C.by dX10_newFile_1 rfl hl (by decide) rfl (fun ls hl => ?_)
  obtain ⟨b3, e4, hf⟩ := zb_some hf
  refine wlX10_newFile_2 C h (lv_sub hl [1, 0] rfl) b3 e4 ?_
  intro H locs ls h hl
  refine lv_aload_n C.ex C.by dX10_newFile_17 rfl (lv_at hl 0 rfl) ?_
  refine z_get (v := .ref (κ.2.1 8)) C h iwX10 0 (wM_at0 κ _) rfl 11 (by decide) lkM97 rfl dX10_newFile_18 ?_
  refine lv_iload_n C.ex C.by dX10_newFile_21 rfl (lv_at hl 1 rfl) ?_
  refine lv_iconst (v := 1) C.ex C.by dX10_newFile_22 (by decide) ?_
  obtain ⟨h5, hf⟩ := zg_some hf
  refine z_zast (f := (zA σ 6)) C h 8 (wM_at8 κ _) h5 (sA σ 6 (upd (zA σ 6) (Int32.toNatClampNeg b3) (vp_nar .boolean 1))) (wM_s8 κ _ _) dX10_newFile_23 (fun H locs h => ?_)
  refine lv_aload_n C.ex C.by dX10_newFile_24 rfl (lv_at hl 0 rfl) ?_
  refine z_get (v := .ref (κ.2.1 5)) C h iwX10 0 (wM_at0 κ _) rfl 8 (by decide) lkM45 rfl dX10_newFile_25 ?_
  refine lv_iload_n C.ex C.by dX10_newFile_28 rfl (lv_at hl 1 rfl) ?_
  refine lv_iconst (v := (-1)) C.ex C.by dX10_newFile_29 (by decide) ?_
  obtain ⟨h6, hf⟩ := zg_some hf
  refine z_iast (f := (zA σ 3)) C h 5 (wM_at5 κ _) h6 (sA (sA σ 6 (upd (zA σ 6) (Int32.toNatClampNeg b3) (vp_nar .boolean 1))) 3 (upd (zA σ 3) (Int32.toNatClampNeg b3) (-1))) (wM_s5 κ _ _) dX10_newFile_30 (fun H locs h => ?_)
  refine lv_aload_n C.ex C.by dX10_newFile_31 rfl (lv_at hl 0 rfl) ?_
  refine z_get (v := .ref (κ.2.1 6)) C h iwX10 0 (wM_at0 κ _) rfl 9 (by decide) lkM46 rfl dX10_newFile_32 ?_
  refine lv_iload_n C.ex C.by dX10_newFile_35 rfl (lv_at hl 1 rfl) ?_
  refine lv_iconst (v := (-1)) C.ex C.by dX10_newFile_36 (by decide) ?_
  obtain ⟨h7, hf⟩ := zg_some hf
  refine z_iast (f := (zA σ 4)) C h 6 (wM_at6 κ _) h7 (sA (sA (sA σ 6 (upd (zA σ 6) (Int32.toNatClampNeg b3) (vp_nar .boolean 1))) 3 (upd (zA σ 3) (Int32.toNatClampNeg b3) (-1))) 4 (upd (zA σ 4) (Int32.toNatClampNeg b3) (-1))) (wM_s6 κ _ _) dX10_newFile_37 (fun H locs h => ?_)
  refine lv_aload_n C.ex C.by dX10_newFile_38 rfl (lv_at hl 0 rfl) ?_
  refine z_get (v := .ref (κ.2.1 7)) C h iwX10 0 (wM_at0 κ _) rfl 10 (by decide) lkM6 rfl dX10_newFile_39 ?_
  refine lv_iload_n C.ex C.by dX10_newFile_42 rfl (lv_at hl 1 rfl) ?_
  refine lv_iconst (v := 0) C.ex C.by dX10_newFile_43 (by decide) ?_
  obtain ⟨h8, hf⟩ := zg_some hf
  refine z_iast (f := (zA σ 5)) C h 7 (wM_at7 κ _) h8 (sA (sA (sA (sA σ 6 (upd (zA σ 6) (Int32.toNatClampNeg b3) (vp_nar .boolean 1))) 3 (upd (zA σ 3) (Int32.toNatClampNeg b3) (-1))) 4 (upd (zA σ 4) (Int32.toNatClampNeg b3) (-1))) 5 (upd (zA σ 5) (Int32.toNatClampNeg b3) 0)) (wM_s7 κ _ _) dX10_newFile_44 (fun H locs h => ?_)
  refine lv_iload_n C.ex C.by dX10_newFile_45 rfl (lv_at hl 1 rfl) ?_
  cases hf
  exact z_iret C h dX10_newFile_46
theorem ctX10_newFile {l : Launch} {κ : zG} {n : Nat} {σ : zS} {r1 : Int32} {r2 : zS} (hf : fX10_newFile_0 n σ = some (r1, r2)) : zMi l yX10_newFile (Cond.code yX10_newFile cX10_newFile 2 (some .int)) rmX10_newFile wM κ [.ref (κ.2.1 0)] σ r1 r2 :=
  zMi_of (by decide) (Nat.le_of_ble_eq_true rfl) (fun p e s m below meth c A C h ls hl => wX10_newFile_0 C h hl hf)
theorem hdX10_beginRun : yX10_beginRun.cls = RX10 ∧ yX10_beginRun.cls ≠ "java/lang/invoke/MethodHandle" ∧ yX10_beginRun.cls ≠ "java/lang/invoke/VarHandle" ∧ (parseMethodDescriptor yX10_beginRun.desc).map (fun d => d.parameters.length) = some 0 := by decide +kernel
abbrev rmX10_beginRun : Room := { frames := 1, cells := 0, slots := 0, locals := 21 }
set_option maxRecDepth 20000 in
set_option maxHeartbeats 4000000 in
theorem wX10_beginRun_0 {p : Program} {l : Launch} {e : Env} {s : State} {m : MethodId} {args : Array Value} {below : List Frame} {meth : Method} {c : Code} {A : Nat → Prop} {κ : zG} {H : Heap} {locs : List Loc} {ls : Array Slot} {n : Nat} {σ : zS} {r : zS} (C : zC cX10_beginRun 1 none RX10 κ A p s m args meth c) (h : zH wM κ A s σ H locs) (hl : lv_has ls 1 [(0, .ref (κ.2.1 0))]) (hf : fX10_beginRun_0 n σ = some r) : W p l e rmX10_beginRun s m args below meth c H locs 0 0 (MQ below (zQv wM κ A r) args s 0 0 A) (F0 m 0 ls []) := by
  unfold fX10_beginRun_0 at hf
  refine lv_aload_n C.ex C.by dX10_beginRun_0 rfl (lv_at hl 0 rfl) ?_
  refine lv_aload_n C.ex C.by dX10_beginRun_1 rfl (lv_at hl 0 rfl) ?_
  obtain ⟨q1, e2, hf⟩ := zb_some hf
  refine z_callVi (As := []) C h (ctX10_newFile (r1 := q1.1) (r2 := q1.2) e2) (zgV lkM98 lkM99 lkM100 lkM2 lkM101) ⟨rfl, rfl⟩ hdX10_newFile ⟨Nat.le_of_ble_eq_true rfl, Nat.le_of_ble_eq_true rfl⟩ 0 (wM_at0 κ _) rfl hl rfl rfl (Nat.le_of_ble_eq_true rfl) dX10_beginRun_2 ⟨Nat.zero_le _, Nat.zero_le _⟩ (fun H locs h => ?_)
  refine z_put C h iwX10 tyX10_ok nmX10 0 (wM_at0 κ _) rfl 30 (by decide) lkM84 rfl rfl rfl (Nat.le_of_ble_eq_true rfl) (sI q1.2 18 q1.1) (wM_s0_30 κ _ _) dX10_beginRun_5 (fun H locs h => ?_)
  refine lv_aload_n C.ex C.by dX10_beginRun_8 rfl (lv_at hl 0 rfl) ?_
  refine lv_iconst (v := 0) C.ex C.by dX10_beginRun_9 (by decide) ?_
  refine z_put C h iwX10 tyX10_ok nmX10 0 (wM_at0 κ _) rfl 32 (by decide) lkM83 rfl rfl rfl (Nat.le_of_ble_eq_true rfl) (sI (sI q1.2 18 q1.1) 19 0) (wM_s0_32 κ _ _) dX10_beginRun_10 (fun H locs h => ?_)
  refine lv_aload_n C.ex C.by dX10_beginRun_13 rfl (lv_at hl 0 rfl) ?_
  refine lv_iconst (v := 0) C.ex C.by dX10_beginRun_14 (by decide) ?_
  refine z_put C h iwX10 tyX10_ok nmX10 0 (wM_at0 κ _) rfl 34 (by decide) lkM80 rfl rfl rfl (Nat.le_of_ble_eq_true rfl) (sI (sI (sI q1.2 18 q1.1) 19 0) 20 0) (wM_s0_34 κ _ _) dX10_beginRun_15 (fun H locs h => ?_)
  cases hf
  exact z_vret C h dX10_beginRun_18
theorem ctX10_beginRun {l : Launch} {κ : zG} {n : Nat} {σ : zS} {r : zS} (hf : fX10_beginRun_0 n σ = some r) : zMv l yX10_beginRun (Cond.code yX10_beginRun cX10_beginRun 1 none) rmX10_beginRun wM κ [.ref (κ.2.1 0)] σ r :=
  zMv_of (by decide) (Nat.le_of_ble_eq_true rfl) (fun p e s m below meth c A C h ls hl => wX10_beginRun_0 C h hl hf)
