theorem hdX8_gatherFronts : yX8_gatherFronts.cls = RX8 ∧ yX8_gatherFronts.cls ≠ "java/lang/invoke/MethodHandle" ∧ yX8_gatherFronts.cls ≠ "java/lang/invoke/VarHandle" ∧ (parseMethodDescriptor yX8_gatherFronts.desc).map (fun d => d.parameters.length) = some 1 := by decide +kernel
abbrev rmX8_gatherFronts_p24 : Room := { frames := 1, cells := 0, slots := 0, locals := 21 }
set_option maxRecDepth 20000 in
set_option maxHeartbeats 4000000 in
theorem wX8_gatherFronts_p24_L6_43 {p : Program} {l : Launch} {e : Env} {s : State} {m : MethodId} {args : Array Value} {below : List Frame} {meth : Method} {c : Code} {A : Nat → Prop} {κ : zG} {H : Heap} {locs : List Loc} {ls : Array Slot} {Q : State → Prop} {n : Nat} {σ : zS} {x2 : Int32} {r : (Int32 × zS) ⊕ (zS)} (C : zC cX8_gatherFronts 3 none RX8 κ A p s m args meth c) (h : zH wC κ A s σ H locs) (hl : lv_has ls 3 [(0, .ref (κ.2.1 29)), (1, .ref (κ.2.1 24)), (2, .int x2)]) (hf : fX8_gatherFronts_p24_L6_43 n (κ.2.2.2 0) (κ.2.2.2 1) (κ.2.2.2 2) σ x2 = some r) (Kc : ∀ (v2 : Int32) (σ1 : zS), r = .inl (v2, σ1) → ∀ (H : Heap) (locs : List Loc) (ls : Array Slot), zH wC κ A s σ1 H locs → lv_has ls 3 [(0, .ref (κ.2.1 29)), (1, .ref (κ.2.1 24)), (2, .int v2)] → W p l e rmX8_gatherFronts_p24 s m args below meth c H locs 0 0 Q (F0 m 6 ls [])) (Ke0 : ∀ (σ1 : zS), r = .inr σ1 → ∀ (H : Heap) (locs : List Loc) (ls : Array Slot), zH wC κ A s σ1 H locs → lv_has ls 3 [(0, .ref (κ.2.1 29))] → W p l e rmX8_gatherFronts_p24 s m args below meth c H locs 0 0 Q (F0 m 49 ls [])) : W p l e rmX8_gatherFronts_p24 s m args below meth c H locs 0 0 Q (F0 m 43 ls []) := by
  unfold fX8_gatherFronts_p24_L6_43 at hf
  refine lv_iinc (v := (x2 + 1)) (lv' := [(2, .int (x2 + 1)), (0, .ref (κ.2.1 29)), (1, .ref (κ.2.1 24))]) C.ex C.by dX8_gatherFronts_43 hl (k := 2) rfl rfl (by decide) rfl (fun ls hl => ?_)
  refine lv_goto (tgt := 6) C.ex C.by dX8_gatherFronts_46 (by decide) ?_
  exact Kc _ _ (Option.some.inj hf).symm _ _ _ h (lv_sub hl [1, 2, 0] rfl)
set_option maxRecDepth 20000 in
set_option maxHeartbeats 4000000 in
theorem wX8_gatherFronts_p24_L6_6 {p : Program} {l : Launch} {e : Env} {s : State} {m : MethodId} {args : Array Value} {below : List Frame} {meth : Method} {c : Code} {A : Nat → Prop} {κ : zG} {H : Heap} {locs : List Loc} {ls : Array Slot} {Q : State → Prop} {n : Nat} {a : Int32 × zS} {r : (Int32 × zS) ⊕ (zS)} (C : zC cX8_gatherFronts 3 none RX8 κ A p s m args meth c) (h : zH wC κ A s a.2 H locs) (hl : lv_has ls 3 [(0, .ref (κ.2.1 29)), (1, .ref (κ.2.1 24)), (2, .int a.1)]) (hf : fX8_gatherFronts_p24_L6_6 n (κ.2.2.2 0) (κ.2.2.2 1) (κ.2.2.2 2) a = some r) (Kc : ∀ (v2 : Int32) (σ1 : zS), r = .inl (v2, σ1) → ∀ (H : Heap) (locs : List Loc) (ls : Array Slot), zH wC κ A s σ1 H locs → lv_has ls 3 [(0, .ref (κ.2.1 29)), (1, .ref (κ.2.1 24)), (2, .int v2)] → W p l e rmX8_gatherFronts_p24 s m args below meth c H locs 0 0 Q (F0 m 6 ls [])) (Ke0 : ∀ (σ1 : zS), r = .inr σ1 → ∀ (H : Heap) (locs : List Loc) (ls : Array Slot), zH wC κ A s σ1 H locs → lv_has ls 3 [(0, .ref (κ.2.1 29))] → W p l e rmX8_gatherFronts_p24 s m args below meth c H locs 0 0 Q (F0 m 49 ls [])) : W p l e rmX8_gatherFronts_p24 s m args below meth c H locs 0 0 Q (F0 m 6 ls []) := by
  unfold fX8_gatherFronts_p24_L6_6 at hf
  refine lv_iload_n C.ex C.by dX8_gatherFronts_6 rfl (lv_at hl 2 rfl) ?_
  refine lv_aload_n C.ex C.by dX8_gatherFronts_7 rfl (lv_at hl 0 rfl) ?_
  refine z_get (v := .int (zI a.2 30)) C h iwX8 29 (wC_at29 κ _) rfl 3 (by decide) lkC277 rfl dX8_gatherFronts_8 ?_
  refine lv_icmp_ge (tgt := 49) C.ex C.by dX8_gatherFronts_11 (by decide) (fun c3 => ?_) (fun c3 => ?_)
  · have hf := zif_t c3 hf
    exact Ke0 _ (Option.some.inj hf).symm _ _ _ h (lv_sub hl [0] rfl)
  · have hf := zif_f c3 hf
    refine lv_iload_n C.ex C.by dX8_gatherFronts_14 rfl (lv_at hl 2 rfl) ?_
    refine lv_bipush (v := 6) C.ex C.by dX8_gatherFronts_15 (by decide) ?_
    refine lv_icmp_ge (tgt := 49) C.ex C.by dX8_gatherFronts_17 (by decide) (fun c4 => ?_) (fun c4 => ?_)
    · have hf := zif_t c4 hf
      exact Ke0 _ (Option.some.inj hf).symm _ _ _ h (lv_sub hl [0] rfl)
    · have hf := zif_f c4 hf
      refine lv_aload_n C.ex C.by dX8_gatherFronts_20 rfl (lv_at hl 0 rfl) ?_
      refine z_get (v := .ref (κ.2.1 32)) C h iwX8 29 (wC_at29 κ _) rfl 2 (by decide) lkC285 rfl dX8_gatherFronts_21 ?_
      refine lv_iload_n C.ex C.by dX8_gatherFronts_24 rfl (lv_at hl 2 rfl) ?_
      obtain ⟨h5, hf⟩ := zg_some hf
      refine z_iald (f := (zA a.2 15)) C h 32 (wC_at32 κ _) h5 dX8_gatherFronts_25 ?_
      refine lv_if_ne (tgt := 43) C.ex C.by dX8_gatherFronts_26 (by decide) (fun c6 => ?_) (fun c6 => ?_)
      · have hf := zif_f c6 hf
        exact wX8_gatherFronts_p24_L6_43 C h hl hf Kc Ke0
      · have hf := zif_t c6 hf
        refine lv_aload_n C.ex C.by dX8_gatherFronts_29 rfl (lv_at hl 1 rfl) ?_
        refine lv_aload_n C.ex C.by dX8_gatherFronts_30 rfl (lv_at hl 0 rfl) ?_
        refine z_get (v := .ref (κ.2.1 30)) C h iwX8 29 (wC_at29 κ _) rfl 0 (by decide) lkC286 rfl dX8_gatherFronts_31 ?_
        refine lv_iload_n C.ex C.by dX8_gatherFronts_34 rfl (lv_at hl 2 rfl) ?_
        obtain ⟨h7, hf⟩ := zg_some hf
        refine z_aald (g := fun j => κ.2.1 (38 + 2 * zT a.2 j)) C h 30 (wC_at30 κ _) h7 dX8_gatherFronts_35 ?_
        refine lv_iconst (v := 0) C.ex C.by dX8_gatherFronts_36 (by decide) ?_
        obtain ⟨h10, hf⟩ := zg_some hf
        obtain ⟨q8, e9, hf⟩ := zb_some hf
        refine z_callRi (As := [.int 0]) (x := (zU a.2 (zT a.2 (Int32.toNatClampNeg a.1)))) (f := (zV a.2 (zT a.2 (Int32.toNatClampNeg a.1)))) C h (ctX6_get (κ := zκR κ (κ.2.1 (38 + 2 * (zT a.2 (Int32.toNatClampNeg a.1)))) (κ.2.1 (39 + 2 * (zT a.2 (Int32.toNatClampNeg a.1)))) (κ.2.2.2 0)) e9) (zgV lkC287 lkC50 lkC51 lkC52 lkC53) ⟨rfl, rfl⟩ hdX6_get ⟨Nat.le_of_ble_eq_true rfl, Nat.le_of_ble_eq_true rfl⟩ (38 + 2 * (zT a.2 (Int32.toNatClampNeg a.1))) (39 + 2 * (zT a.2 (Int32.toNatClampNeg a.1))) (by omega) (wC_tr κ _ (z7_lt h10)) (wC_ti κ _ (z7_lt h10)) a.2 (zset2 (wC_tr κ _ (z7_lt h10)) (wC_ti κ _ (z7_lt h10))) hl rfl rfl (Nat.le_of_ble_eq_true rfl) dX8_gatherFronts_37 ⟨Nat.zero_le _, Nat.zero_le _⟩ (fun H locs h => ?_)
        obtain ⟨q11, e12, hf⟩ := zb_some hf
        refine z_callRv (As := [.int q8]) (x := (zI a.2 29)) (f := (zA a.2 10)) C h (ctX6_add (κ := zκR κ (κ.2.1 24) (κ.2.1 25) 8) e12) (zgV lkC288 lkC139 lkC140 lkC52 lkC141) ⟨rfl, rfl⟩ hdX6_add ⟨Nat.le_of_ble_eq_true rfl, Nat.le_of_ble_eq_true rfl⟩ 24 25 (by decide) (wC_at24 κ _) (wC_at25 κ _) (sA (sI a.2 29 (zI q11 0)) 10 (zA q11 0)) (wC_sr24 κ _ _ _) hl rfl rfl (Nat.le_of_ble_eq_true rfl) dX8_gatherFronts_40 ⟨Nat.zero_le _, Nat.zero_le _⟩ (fun H locs h => ?_)
        exact wX8_gatherFronts_p24_L6_43 C h hl hf Kc Ke0
theorem wlX8_gatherFronts_p24_6 {p : Program} {l : Launch} {e : Env} {s : State} {m : MethodId} {args : Array Value} {below : List Frame} {meth : Method} {c : Code} {A : Nat → Prop} {κ : zG} {H : Heap} {locs : List Loc} {ls : Array Slot} {Q : State → Prop} {n : Nat} {k0 : Nat} {u2 : Int32} {σ1 : zS} (C : zC cX8_gatherFronts 3 none RX8 κ A p s m args meth c) (h : zH wC κ A s σ1 H locs) (hl : lv_has ls 3 [(0, .ref (κ.2.1 29)), (1, .ref (κ.2.1 24)), (2, .int u2)]) (b : zS) (hb : zlp (fX8_gatherFronts_p24_L6_6 n (κ.2.2.2 0) (κ.2.2.2 1) (κ.2.2.2 2)) k0 (u2, σ1) = some b) (K : (fun b : zS => ∀ (H : Heap) (locs : List Loc) (ls : Array Slot), zH wC κ A s b H locs → lv_has ls 3 [(0, .ref (κ.2.1 29))] → W p l e rmX8_gatherFronts_p24 s m args below meth c H locs 0 0 Q (F0 m 49 ls [])) b) : W p l e rmX8_gatherFronts_p24 s m args below meth c H locs 0 0 Q (F0 m 6 ls []) :=
  z_loop (body := fX8_gatherFronts_p24_L6_6 n (κ.2.2.2 0) (κ.2.2.2 1) (κ.2.2.2 2)) (Wd := (fun a : Int32 × zS => ∀ (H : Heap) (locs : List Loc) (ls : Array Slot), zH wC κ A s a.2 H locs → lv_has ls 3 [(0, .ref (κ.2.1 29)), (1, .ref (κ.2.1 24)), (2, .int a.1)] → W p l e rmX8_gatherFronts_p24 s m args below meth c H locs 0 0 Q (F0 m 6 ls []))) (Ex := (fun b : zS => (fun b : zS => ∀ (H : Heap) (locs : List Loc) (ls : Array Slot), zH wC κ A s b H locs → lv_has ls 3 [(0, .ref (κ.2.1 29))] → W p l e rmX8_gatherFronts_p24 s m args below meth c H locs 0 0 Q (F0 m 49 ls [])) b)) (fun a r hr Kc Ke H locs ls h hl => wX8_gatherFronts_p24_L6_6 C h hl hr (fun v2 σ1 e => Kc (v2, σ1) e) (fun σ1 e => Ke σ1 e)) k0 (u2, σ1) b hb K H locs ls h hl
set_option maxRecDepth 20000 in
set_option maxHeartbeats 4000000 in
theorem wX8_gatherFronts_p24_0 {p : Program} {l : Launch} {e : Env} {s : State} {m : MethodId} {args : Array Value} {below : List Frame} {meth : Method} {c : Code} {A : Nat → Prop} {κ : zG} {H : Heap} {locs : List Loc} {ls : Array Slot} {n : Nat} {σ : zS} {r : zS} (C : zC cX8_gatherFronts 3 none RX8 κ A p s m args meth c) (h : zH wC κ A s σ H locs) (hl : lv_has ls 3 [(0, .ref (κ.2.1 29)), (1, .ref (κ.2.1 24))]) (hf : fX8_gatherFronts_p24_0 n (κ.2.2.2 0) (κ.2.2.2 1) (κ.2.2.2 2) σ = some r) : W p l e rmX8_gatherFronts_p24 s m args below meth c H locs 0 0 (MQ below (zQv wC κ A r) args s 0 0 A) (F0 m 0 ls []) := by
  unfold fX8_gatherFronts_p24_0 at hf
  refine lv_aload_n C.ex C.by dX8_gatherFronts_0 rfl (lv_at hl 1 rfl) ?_
  obtain ⟨q1, e2, hf⟩ := zb_some hf
  refine z_callRv (As := []) (x := (zI σ 29)) (f := (zA σ 10)) C h (ctX6_clear (κ := zκR κ (κ.2.1 24) (κ.2.1 25) 8) e2) (zgV lkC284 lkC190 lkC191 lkC52 lkC192) ⟨rfl, rfl⟩ hdX6_clear ⟨Nat.le_of_ble_eq_true rfl, Nat.le_of_ble_eq_true rfl⟩ 24 25 (by decide) (wC_at24 κ _) (wC_at25 κ _) (sA (sI σ 29 (zI q1 0)) 10 (zA q1 0)) (wC_sr24 κ _ _ _) hl rfl rfl (Nat.le_of_ble_eq_true rfl) dX8_gatherFronts_1 ⟨Nat.zero_le _, Nat.zero_le _⟩ (fun H locs h => ?_)
  refine lv_iconst (v := 1) C.ex C.by dX8_gatherFronts_4 (by decide) ?_
  refine lv_istore_n (lv' := [(2, .int 1), (0, .ref (κ.2.1 29)), (1, .ref (κ.2.1 24))]) C.ex C.by dX8_gatherFronts_5 rfl hl (by decide) rfl (fun ls hl => ?_)
  obtain ⟨b13, e14, hf⟩ := zb_some hf
  refine wlX8_gatherFronts_p24_6 C h (lv_sub hl [1, 2, 0] rfl) b13 e14 ?_
  intro H locs ls h hl
  cases hf
  exact z_vret C h dX8_gatherFronts_49
theorem ctX8_gatherFronts_p24 {l : Launch} {κ : zG} {n : Nat} {σ : zS} {r : zS} (hf : fX8_gatherFronts_p24_0 n (κ.2.2.2 0) (κ.2.2.2 1) (κ.2.2.2 2) σ = some r) : zMv l yX8_gatherFronts (Cond.code yX8_gatherFronts cX8_gatherFronts 3 none) rmX8_gatherFronts_p24 wC κ [.ref (κ.2.1 29), .ref (κ.2.1 24)] σ r :=
  zMv_of (by decide) (Nat.le_of_ble_eq_true rfl) (fun p e s m below meth c A C h ls hl => wX8_gatherFronts_p24_0 C h hl hf)
theorem hdX8_shift : yX8_shift.cls = RX8 ∧ yX8_shift.cls ≠ "java/lang/invoke/MethodHandle" ∧ yX8_shift.cls ≠ "java/lang/invoke/VarHandle" ∧ (parseMethodDescriptor yX8_shift.desc).map (fun d => d.parameters.length) = some 1 := by decide +kernel
abbrev rmX8_shift : Room := { frames := 1, cells := 0, slots := 0, locals := 22 }
set_option maxRecDepth 20000 in
set_option maxHeartbeats 4000000 in
theorem wX8_shift_L2_48 {p : Program} {l : Launch} {e : Env} {s : State} {m : MethodId} {args : Array Value} {below : List Frame} {meth : Method} {c : Code} {A : Nat → Prop} {κ : zG} {H : Heap} {locs : List Loc} {ls : Array Slot} {Q : State → Prop} {n : Nat} {σ : zS} {k1 : Int32} {x2 : Int32} {r : (Int32 × zS) ⊕ (zS)} (C : zC cX8_shift 3 none RX8 κ A p s m args meth c) (h : zH wC κ A s σ H locs) (hl : lv_has ls 3 [(0, .ref (κ.2.1 29)), (1, .int k1), (2, .int x2)]) (hf : fX8_shift_L2_48 n (κ.2.2.2 0) (κ.2.2.2 1) (κ.2.2.2 2) σ k1 x2 = some r) (Kc : ∀ (v2 : Int32) (σ1 : zS), r = .inl (v2, σ1) → ∀ (H : Heap) (locs : List Loc) (ls : Array Slot), zH wC κ A s σ1 H locs → lv_has ls 3 [(0, .ref (κ.2.1 29)), (1, .int k1), (2, .int v2)] → W p l e rmX8_shift s m args below meth c H locs 0 0 Q (F0 m 2 ls [])) (Ke0 : ∀ (σ1 : zS), r = .inr σ1 → ∀ (H : Heap) (locs : List Loc) (ls : Array Slot), zH wC κ A s σ1 H locs → lv_has ls 3 [(0, .ref (κ.2.1 29)), (1, .int k1)] → W p l e rmX8_shift s m args below meth c H locs 0 0 Q (F0 m 54 ls [])) : W p l e rmX8_shift s m args below meth c H locs 0 0 Q (F0 m 48 ls []) := by
  unfold fX8_shift_L2_48 at hf
  refine lv_iinc (v := (x2 + 1)) (lv' := [(2, .int (x2 + 1)), (0, .ref (κ.2.1 29)), (1, .int k1)]) C.ex C.by dX8_shift_48 hl (k := 2) rfl rfl (by decide) rfl (fun ls hl => ?_)
  refine lv_goto (tgt := 2) C.ex C.by dX8_shift_51 (by decide) ?_
  exact Kc _ _ (Option.some.inj hf).symm _ _ _ h (lv_sub hl [1, 2, 0] rfl)
set_option maxRecDepth 20000 in
set_option maxHeartbeats 4000000 in
theorem wX8_shift_L2_2 {p : Program} {l : Launch} {e : Env} {s : State} {m : MethodId} {args : Array Value} {below : List Frame} {meth : Method} {c : Code} {A : Nat → Prop} {κ : zG} {H : Heap} {locs : List Loc} {ls : Array Slot} {Q : State → Prop} {n : Nat} {k1 : Int32} {a : Int32 × zS} {r : (Int32 × zS) ⊕ (zS)} (C : zC cX8_shift 3 none RX8 κ A p s m args meth c) (h : zH wC κ A s a.2 H locs) (hl : lv_has ls 3 [(0, .ref (κ.2.1 29)), (1, .int k1), (2, .int a.1)]) (hf : fX8_shift_L2_2 n (κ.2.2.2 0) (κ.2.2.2 1) (κ.2.2.2 2) k1 a = some r) (Kc : ∀ (v2 : Int32) (σ1 : zS), r = .inl (v2, σ1) → ∀ (H : Heap) (locs : List Loc) (ls : Array Slot), zH wC κ A s σ1 H locs → lv_has ls 3 [(0, .ref (κ.2.1 29)), (1, .int k1), (2, .int v2)] → W p l e rmX8_shift s m args below meth c H locs 0 0 Q (F0 m 2 ls [])) (Ke0 : ∀ (σ1 : zS), r = .inr σ1 → ∀ (H : Heap) (locs : List Loc) (ls : Array Slot), zH wC κ A s σ1 H locs → lv_has ls 3 [(0, .ref (κ.2.1 29)), (1, .int k1)] → W p l e rmX8_shift s m args below meth c H locs 0 0 Q (F0 m 54 ls [])) : W p l e rmX8_shift s m args below meth c H locs 0 0 Q (F0 m 2 ls []) := by
  unfold fX8_shift_L2_2 at hf
  refine lv_iload_n C.ex C.by dX8_shift_2 rfl (lv_at hl 2 rfl) ?_
  refine lv_aload_n C.ex C.by dX8_shift_3 rfl (lv_at hl 0 rfl) ?_
  refine z_get (v := .int (zI a.2 30)) C h iwX8 29 (wC_at29 κ _) rfl 3 (by decide) lkC277 rfl dX8_shift_4 ?_
  refine lv_icmp_ge (tgt := 54) C.ex C.by dX8_shift_7 (by decide) (fun c1 => ?_) (fun c1 => ?_)
  · have hf := zif_t c1 hf
    exact Ke0 _ (Option.some.inj hf).symm _ _ _ h (lv_sub hl [0, 1] rfl)
  · have hf := zif_f c1 hf
    refine lv_iload_n C.ex C.by dX8_shift_10 rfl (lv_at hl 2 rfl) ?_
    refine lv_bipush (v := 6) C.ex C.by dX8_shift_11 (by decide) ?_
    refine lv_icmp_ge (tgt := 54) C.ex C.by dX8_shift_13 (by decide) (fun c2 => ?_) (fun c2 => ?_)
    · have hf := zif_t c2 hf
      exact Ke0 _ (Option.some.inj hf).symm _ _ _ h (lv_sub hl [0, 1] rfl)
    · have hf := zif_f c2 hf
      refine lv_aload_n C.ex C.by dX8_shift_16 rfl (lv_at hl 0 rfl) ?_
      refine z_get (v := .ref (κ.2.1 32)) C h iwX8 29 (wC_at29 κ _) rfl 2 (by decide) lkC285 rfl dX8_shift_17 ?_
      refine lv_iload_n C.ex C.by dX8_shift_20 rfl (lv_at hl 2 rfl) ?_
      obtain ⟨h3, hf⟩ := zg_some hf
      refine z_iald (f := (zA a.2 15)) C h 32 (wC_at32 κ _) h3 dX8_shift_21 ?_
      refine lv_if_le (tgt := 38) C.ex C.by dX8_shift_22 (by decide) (fun c4 => ?_) (fun c4 => ?_)
      · have hf := zif_t c4 hf
        refine lv_aload_n C.ex C.by dX8_shift_38 rfl (lv_at hl 0 rfl) ?_
        refine z_get (v := .ref (κ.2.1 30)) C h iwX8 29 (wC_at29 κ _) rfl 0 (by decide) lkC286 rfl dX8_shift_39 ?_
        refine lv_iload_n C.ex C.by dX8_shift_42 rfl (lv_at hl 2 rfl) ?_
        obtain ⟨h5, hf⟩ := zg_some hf
        refine z_aald (g := fun j => κ.2.1 (38 + 2 * zT a.2 j)) C h 30 (wC_at30 κ _) h5 dX8_shift_43 ?_
        refine lv_iconst (v := 0) C.ex C.by dX8_shift_44 (by decide) ?_
        obtain ⟨h8, hf⟩ := zg_some hf
        obtain ⟨q6, e7, hf⟩ := zb_some hf
        refine z_callRv (As := [.int 0]) (x := (zU a.2 (zT a.2 (Int32.toNatClampNeg a.1)))) (f := (zV a.2 (zT a.2 (Int32.toNatClampNeg a.1)))) C h (ctX6_removeAt (κ := zκR κ (κ.2.1 (38 + 2 * (zT a.2 (Int32.toNatClampNeg a.1)))) (κ.2.1 (39 + 2 * (zT a.2 (Int32.toNatClampNeg a.1)))) (κ.2.2.2 0)) e7) (zgV lkC293 lkC267 lkC268 lkC52 lkC269) ⟨rfl, rfl⟩ hdX6_removeAt ⟨Nat.le_of_ble_eq_true rfl, Nat.le_of_ble_eq_true rfl⟩ (38 + 2 * (zT a.2 (Int32.toNatClampNeg a.1))) (39 + 2 * (zT a.2 (Int32.toNatClampNeg a.1))) (by omega) (wC_tr κ _ (z7_lt h8)) (wC_ti κ _ (z7_lt h8)) (sV (sU a.2 (zT a.2 (Int32.toNatClampNeg a.1)) (zI q6 0)) (zT a.2 (Int32.toNatClampNeg a.1)) (zA q6 0)) (wC_st κ _ (z7_lt h8) _ _) hl rfl rfl (Nat.le_of_ble_eq_true rfl) dX8_shift_45 ⟨Nat.zero_le _, Nat.zero_le _⟩ (fun H locs h => ?_)
        exact wX8_shift_L2_48 C h hl hf Kc Ke0
      · have hf := zif_f c4 hf
        refine lv_aload_n C.ex C.by dX8_shift_25 rfl (lv_at hl 0 rfl) ?_
        refine z_get (v := .ref (κ.2.1 32)) C h iwX8 29 (wC_at29 κ _) rfl 2 (by decide) lkC285 rfl dX8_shift_26 ?_
        refine lv_iload_n C.ex C.by dX8_shift_29 rfl (lv_at hl 2 rfl) ?_
        refine lv_dup2_11 C.ex C.by dX8_shift_30 rfl rfl ?_
        obtain ⟨h9, hf⟩ := zg_some hf
        refine z_iald (f := (zA a.2 15)) C h 32 (wC_at32 κ _) h9 dX8_shift_31 ?_
        refine lv_iconst (v := 1) C.ex C.by dX8_shift_32 (by decide) ?_
        refine lv_isub C.ex C.by dX8_shift_33 ?_
        obtain ⟨h10, hf⟩ := zg_some hf
        refine z_iast (f := (zA a.2 15)) C h 32 (wC_at32 κ _) h10 (sA a.2 15 (upd (zA a.2 15) (Int32.toNatClampNeg a.1) (((zA a.2 15) (Int32.toNatClampNeg a.1)) - 1))) (wC_s32 κ _ _) dX8_shift_34 (fun H locs h => ?_)
        refine lv_goto (tgt := 48) C.ex C.by dX8_shift_35 (by decide) ?_
        exact wX8_shift_L2_48 C h hl hf Kc Ke0
theorem wlX8_shift_2 {p : Program} {l : Launch} {e : Env} {s : State} {m : MethodId} {args : Array Value} {below : List Frame} {meth : Method} {c : Code} {A : Nat → Prop} {κ : zG} {H : Heap} {locs : List Loc} {ls : Array Slot} {Q : State → Prop} {n : Nat} {k1 : Int32} {k0 : Nat} {u2 : Int32} {σ1 : zS} (C : zC cX8_shift 3 none RX8 κ A p s m args meth c) (h : zH wC κ A s σ1 H locs) (hl : lv_has ls 3 [(0, .ref (κ.2.1 29)), (1, .int k1), (2, .int u2)]) (b : zS) (hb : zlp (fX8_shift_L2_2 n (κ.2.2.2 0) (κ.2.2.2 1) (κ.2.2.2 2) k1) k0 (u2, σ1) = some b) (K : (fun b : zS => ∀ (H : Heap) (locs : List Loc) (ls : Array Slot), zH wC κ A s b H locs → lv_has ls 3 [(0, .ref (κ.2.1 29)), (1, .int k1)] → W p l e rmX8_shift s m args below meth c H locs 0 0 Q (F0 m 54 ls [])) b) : W p l e rmX8_shift s m args below meth c H locs 0 0 Q (F0 m 2 ls []) :=
  z_loop (body := fX8_shift_L2_2 n (κ.2.2.2 0) (κ.2.2.2 1) (κ.2.2.2 2) k1) (Wd := (fun a : Int32 × zS => ∀ (H : Heap) (locs : List Loc) (ls : Array Slot), zH wC κ A s a.2 H locs → lv_has ls 3 [(0, .ref (κ.2.1 29)), (1, .int k1), (2, .int a.1)] → W p l e rmX8_shift s m args below meth c H locs 0 0 Q (F0 m 2 ls []))) (Ex := (fun b : zS => (fun b : zS => ∀ (H : Heap) (locs : List Loc) (ls : Array Slot), zH wC κ A s b H locs → lv_has ls 3 [(0, .ref (κ.2.1 29)), (1, .int k1)] → W p l e rmX8_shift s m args below meth c H locs 0 0 Q (F0 m 54 ls [])) b)) (fun a r hr Kc Ke H locs ls h hl => wX8_shift_L2_2 C h hl hr (fun v2 σ1 e => Kc (v2, σ1) e) (fun σ1 e => Ke σ1 e)) k0 (u2, σ1) b hb K H locs ls h hl
set_option maxRecDepth 20000 in
set_option maxHeartbeats 4000000 in
theorem wX8_shift_0 {p : Program} {l : Launch} {e : Env} {s : State} {m : MethodId} {args : Array Value} {below : List Frame} {meth : Method} {c : Code} {A : Nat → Prop} {κ : zG} {H : Heap} {locs : List Loc} {ls : Array Slot} {n : Nat} {σ : zS} {x1 : Int32} {r : zS} (C : zC cX8_shift 3 none RX8 κ A p s m args meth c) (h : zH wC κ A s σ H locs) (hl : lv_has ls 3 [(0, .ref (κ.2.1 29)), (1, .int x1)]) (hf : fX8_shift_0 n (κ.2.2.2 0) (κ.2.2.2 1) (κ.2.2.2 2) σ x1 = some r) : W p l e rmX8_shift s m args below meth c H locs 0 0 (MQ below (zQv wC κ A r) args s 0 0 A) (F0 m 0 ls []) := by
  unfold fX8_shift_0 at hf
  refine lv_iconst (v := 1) C.ex C.by dX8_shift_0 (by decide) ?_
  refine lv_istore_n (lv' := [(2, .int 1), (0, .ref (κ.2.1 29)), (1, .int x1)]) C.ex C.by dX8_shift_1 rfl hl (by decide) rfl (fun ls hl => ?_)
  obtain ⟨b11, e12, hf⟩ := zb_some hf
  refine wlX8_shift_2 C h (lv_sub hl [1, 2, 0] rfl) b11 e12 ?_
  intro H locs ls h hl
  refine lv_aload_n C.ex C.by dX8_shift_54 rfl (lv_at hl 0 rfl) ?_
  refine z_get (v := .int (zI b11 30)) C h iwX8 29 (wC_at29 κ _) rfl 3 (by decide) lkC277 rfl dX8_shift_55 ?_
  refine lv_iconst (v := 1) C.ex C.by dX8_shift_58 (by decide) ?_
  refine lv_icmp_lt (tgt := 71) C.ex C.by dX8_shift_59 (by decide) (fun c13 => ?_) (fun c13 => ?_)
  · have hf := zif_t c13 hf
    cases hf
    exact z_vret C h dX8_shift_71
  · have hf := zif_f c13 hf
    refine lv_aload_n C.ex C.by dX8_shift_62 rfl (lv_at hl 0 rfl) ?_
    refine z_get (v := .int (zI b11 30)) C h iwX8 29 (wC_at29 κ _) rfl 3 (by decide) lkC277 rfl dX8_shift_63 ?_
    refine lv_bipush (v := 6) C.ex C.by dX8_shift_66 (by decide) ?_
    refine lv_icmp_le (tgt := 72) C.ex C.by dX8_shift_68 (by decide) (fun c14 => ?_) (fun c14 => ?_)
    · have hf := zif_t c14 hf
      refine lv_iload_n C.ex C.by dX8_shift_72 rfl (lv_at hl 1 rfl) ?_
      refine lv_iconst (v := (-1)) C.ex C.by dX8_shift_73 (by decide) ?_
      refine lv_icmp_ne (tgt := 93) C.ex C.by dX8_shift_74 (by decide) (fun c15 => ?_) (fun c15 => ?_)
      · have hf := zif_f c15 hf
        refine lv_aload_n C.ex C.by dX8_shift_93 rfl (lv_at hl 0 rfl) ?_
        refine z_get (v := .ref (κ.2.1 30)) C h iwX8 29 (wC_at29 κ _) rfl 0 (by decide) lkC286 rfl dX8_shift_94 ?_
        refine lv_aload_n C.ex C.by dX8_shift_97 rfl (lv_at hl 0 rfl) ?_
        refine z_get (v := .int (zI b11 30)) C h iwX8 29 (wC_at29 κ _) rfl 3 (by decide) lkC277 rfl dX8_shift_98 ?_
        obtain ⟨h16, hf⟩ := zg_some hf
        refine z_aald (g := fun j => κ.2.1 (38 + 2 * zT b11 j)) C h 30 (wC_at30 κ _) h16 dX8_shift_101 ?_
        refine lv_iload_n C.ex C.by dX8_shift_102 rfl (lv_at hl 1 rfl) ?_
        obtain ⟨h19, hf⟩ := zg_some hf
        obtain ⟨q17, e18, hf⟩ := zb_some hf
        refine z_callRv (As := [.int x1]) (x := (zU b11 (zT b11 (Int32.toNatClampNeg (zI b11 30))))) (f := (zV b11 (zT b11 (Int32.toNatClampNeg (zI b11 30))))) C h (ctX6_add (κ := zκR κ (κ.2.1 (38 + 2 * (zT b11 (Int32.toNatClampNeg (zI b11 30))))) (κ.2.1 (39 + 2 * (zT b11 (Int32.toNatClampNeg (zI b11 30))))) (κ.2.2.2 0)) e18) (zgV lkC288 lkC139 lkC140 lkC52 lkC141) ⟨rfl, rfl⟩ hdX6_add ⟨Nat.le_of_ble_eq_true rfl, Nat.le_of_ble_eq_true rfl⟩ (38 + 2 * (zT b11 (Int32.toNatClampNeg (zI b11 30)))) (39 + 2 * (zT b11 (Int32.toNatClampNeg (zI b11 30)))) (by omega) (wC_tr κ _ (z7_lt h19)) (wC_ti κ _ (z7_lt h19)) (sV (sU b11 (zT b11 (Int32.toNatClampNeg (zI b11 30))) (zI q17 0)) (zT b11 (Int32.toNatClampNeg (zI b11 30))) (zA q17 0)) (wC_st κ _ (z7_lt h19) _ _) hl rfl rfl (Nat.le_of_ble_eq_true rfl) dX8_shift_103 ⟨Nat.zero_le _, Nat.zero_le _⟩ (fun H locs h => ?_)
        cases hf
        exact z_vret C h dX8_shift_106
      · have hf := zif_t c15 hf
        refine lv_aload_n C.ex C.by dX8_shift_77 rfl (lv_at hl 0 rfl) ?_
        refine z_get (v := .ref (κ.2.1 32)) C h iwX8 29 (wC_at29 κ _) rfl 2 (by decide) lkC285 rfl dX8_shift_78 ?_
        refine lv_aload_n C.ex C.by dX8_shift_81 rfl (lv_at hl 0 rfl) ?_
        refine z_get (v := .int (zI b11 30)) C h iwX8 29 (wC_at29 κ _) rfl 3 (by decide) lkC277 rfl dX8_shift_82 ?_
        refine lv_dup2_11 C.ex C.by dX8_shift_85 rfl rfl ?_
        obtain ⟨h20, hf⟩ := zg_some hf
        refine z_iald (f := (zA b11 15)) C h 32 (wC_at32 κ _) h20 dX8_shift_86 ?_
        refine lv_iconst (v := 1) C.ex C.by dX8_shift_87 (by decide) ?_
        refine lv_iadd C.ex C.by dX8_shift_88 ?_
        obtain ⟨h21, hf⟩ := zg_some hf
        refine z_iast (f := (zA b11 15)) C h 32 (wC_at32 κ _) h21 (sA b11 15 (upd (zA b11 15) (Int32.toNatClampNeg (zI b11 30)) (((zA b11 15) (Int32.toNatClampNeg (zI b11 30))) + 1))) (wC_s32 κ _ _) dX8_shift_89 (fun H locs h => ?_)
        refine lv_goto (tgt := 106) C.ex C.by dX8_shift_90 (by decide) ?_
        cases hf
        exact z_vret C h dX8_shift_106
    · have hf := zif_f c14 hf
      cases hf
      exact z_vret C h dX8_shift_71
theorem ctX8_shift {l : Launch} {κ : zG} {n : Nat} {σ : zS} {x1 : Int32} {r : zS} (hf : fX8_shift_0 n (κ.2.2.2 0) (κ.2.2.2 1) (κ.2.2.2 2) σ x1 = some r) : zMv l yX8_shift (Cond.code yX8_shift cX8_shift 3 none) rmX8_shift wC κ [.ref (κ.2.1 29), .int x1] σ r :=
  zMv_of (by decide) (Nat.le_of_ble_eq_true rfl) (fun p e s m below meth c A C h ls hl => wX8_shift_0 C h hl hf)
theorem hdX9_mergeLevel : yX9_mergeLevel.cls = RX9 ∧ yX9_mergeLevel.cls ≠ "java/lang/invoke/MethodHandle" ∧ yX9_mergeLevel.cls ≠ "java/lang/invoke/VarHandle" ∧ (parseMethodDescriptor yX9_mergeLevel.desc).map (fun d => d.parameters.length) = some 0 := by decide +kernel
abbrev rmX9_mergeLevel : Room := { frames := 6, cells := 0, slots := 0, locals := 134 }
set_option maxRecDepth 20000 in
set_option maxHeartbeats 4000000 in
theorem wX9_mergeLevel_L8_71 {p : Program} {l : Launch} {e : Env} {s : State} {m : MethodId} {args : Array Value} {below : List Frame} {meth : Method} {c : Code} {A : Nat → Prop} {κ : zG} {H : Heap} {locs : List Loc} {ls : Array Slot} {Q : State → Prop} {n : Nat} {σ : zS} {x1 : Int32} {x2 : Int32} {r : (Int32 × zS) ⊕ ((zS) ⊕ (zS))} (C : zC cX9_mergeLevel 3 (some .boolean) RX9 κ A p s m args meth c) (h : zH wC κ A s σ H locs) (hl : lv_has ls 3 [(0, .ref (κ.2.1 0)), (1, .int x1), (2, .int x2)]) (hf : fX9_mergeLevel_L8_71 n (κ.2.2.2 0) (κ.2.2.2 1) (κ.2.2.2 2) σ x1 x2 = some r) (Kc : ∀ (v1 : Int32) (σ1 : zS), r = .inl (v1, σ1) → ∀ (H : Heap) (locs : List Loc) (ls : Array Slot), zH wC κ A s σ1 H locs → lv_has ls 3 [(0, .ref (κ.2.1 0)), (1, .int v1)] → W p l e rmX9_mergeLevel s m args below meth c H locs 0 0 Q (F0 m 8 ls [])) (Ke0 : ∀ (σ1 : zS), r = .inr (.inl σ1) → ∀ (H : Heap) (locs : List Loc) (ls : Array Slot), zH wC κ A s σ1 H locs → lv_has ls 3 [(0, .ref (κ.2.1 0))] → W p l e rmX9_mergeLevel s m args below meth c H locs 0 0 Q (F0 m 85 ls [])) (Ke1 : ∀ (σ1 : zS), r = .inr (.inr σ1) → ∀ (H : Heap) (locs : List Loc) (ls : Array Slot), zH wC κ A s σ1 H locs → lv_has ls 3 [(0, .ref (κ.2.1 0))] → W p l e rmX9_mergeLevel s m args below meth c H locs 0 0 Q (F0 m 69 ls [])) : W p l e rmX9_mergeLevel s m args below meth c H locs 0 0 Q (F0 m 71 ls []) := by
  unfold fX9_mergeLevel_L8_71 at hf
  refine lv_aload_n C.ex C.by dX9_mergeLevel_71 rfl (lv_at hl 0 rfl) ?_
  refine z_get (v := .ref (κ.2.1 29)) C h iwX9 0 (wC_at0 κ _) rfl 7 (by decide) lkC276 rfl dX9_mergeLevel_72 ?_
  refine lv_iload_n C.ex C.by dX9_mergeLevel_75 rfl (lv_at hl 2 rfl) ?_
  obtain ⟨q14, e15, hf⟩ := zb_some hf
  refine z_callVv (As := [.int x2]) C h (ctX8_shift e15) (zgV lkC294 lkC295 lkC296 lkC282 lkC297) ⟨rfl, rfl⟩ hdX8_shift ⟨Nat.le_of_ble_eq_true rfl, Nat.le_of_ble_eq_true rfl⟩ 29 (wC_at29 κ _) rfl hl rfl rfl (Nat.le_of_ble_eq_true rfl) dX9_mergeLevel_76 ⟨Nat.zero_le _, Nat.zero_le _⟩ (fun H locs h => ?_)
  refine lv_iinc (v := (x1 + (-1))) (lv' := [(1, .int (x1 + (-1))), (0, .ref (κ.2.1 0)), (2, .int x2)]) C.ex C.by dX9_mergeLevel_79 hl (k := 1) rfl rfl (by decide) rfl (fun ls hl => ?_)
  refine lv_goto (tgt := 8) C.ex C.by dX9_mergeLevel_82 (by decide) ?_
  exact Kc _ _ (Option.some.inj hf).symm _ _ _ h (lv_sub hl [1, 0] rfl)
set_option maxRecDepth 20000 in
set_option maxHeartbeats 4000000 in
theorem wX9_mergeLevel_L8_8 {p : Program} {l : Launch} {e : Env} {s : State} {m : MethodId} {args : Array Value} {below : List Frame} {meth : Method} {c : Code} {A : Nat → Prop} {κ : zG} {H : Heap} {locs : List Loc} {ls : Array Slot} {Q : State → Prop} {n : Nat} {a : Int32 × zS} {r : (Int32 × zS) ⊕ ((zS) ⊕ (zS))} (C : zC cX9_mergeLevel 3 (some .boolean) RX9 κ A p s m args meth c) (h : zH wC κ A s a.2 H locs) (hl : lv_has ls 3 [(0, .ref (κ.2.1 0)), (1, .int a.1)]) (hf : fX9_mergeLevel_L8_8 n (κ.2.2.2 0) (κ.2.2.2 1) (κ.2.2.2 2) a = some r) (Kc : ∀ (v1 : Int32) (σ1 : zS), r = .inl (v1, σ1) → ∀ (H : Heap) (locs : List Loc) (ls : Array Slot), zH wC κ A s σ1 H locs → lv_has ls 3 [(0, .ref (κ.2.1 0)), (1, .int v1)] → W p l e rmX9_mergeLevel s m args below meth c H locs 0 0 Q (F0 m 8 ls [])) (Ke0 : ∀ (σ1 : zS), r = .inr (.inl σ1) → ∀ (H : Heap) (locs : List Loc) (ls : Array Slot), zH wC κ A s σ1 H locs → lv_has ls 3 [(0, .ref (κ.2.1 0))] → W p l e rmX9_mergeLevel s m args below meth c H locs 0 0 Q (F0 m 85 ls [])) (Ke1 : ∀ (σ1 : zS), r = .inr (.inr σ1) → ∀ (H : Heap) (locs : List Loc) (ls : Array Slot), zH wC κ A s σ1 H locs → lv_has ls 3 [(0, .ref (κ.2.1 0))] → W p l e rmX9_mergeLevel s m args below meth c H locs 0 0 Q (F0 m 69 ls [])) : W p l e rmX9_mergeLevel s m args below meth c H locs 0 0 Q (F0 m 8 ls []) := by
  unfold fX9_mergeLevel_L8_8 at hf
  refine lv_iload_n C.ex C.by dX9_mergeLevel_8 rfl (lv_at hl 1 rfl) ?_
  refine lv_if_le (tgt := 85) C.ex C.by dX9_mergeLevel_9 (by decide) (fun c3 => ?_) (fun c3 => ?_)
  · have hf := zif_t c3 hf
    exact Ke0 _ (Option.some.inj hf).symm _ _ _ h (lv_sub hl [0] rfl)
  · have hf := zif_f c3 hf
    refine lv_aload_n C.ex C.by dX9_mergeLevel_12 rfl (lv_at hl 0 rfl) ?_
    refine z_get (v := .ref (κ.2.1 29)) C h iwX9 0 (wC_at0 κ _) rfl 7 (by decide) lkC276 rfl dX9_mergeLevel_13 ?_
    refine lv_aload_n C.ex C.by dX9_mergeLevel_16 rfl (lv_at hl 0 rfl) ?_
    refine z_get (v := .ref (κ.2.1 23)) C h iwX9 0 (wC_at0 κ _) rfl 6 (by decide) lkC188 rfl dX9_mergeLevel_17 ?_
    refine z_getN (v := .ref (κ.2.1 24)) C h iwX4 23 (wC_at23 κ _) rfl 4 (by decide) nkC13 rfl dX9_mergeLevel_20 ?_
    obtain ⟨q4, e5, hf⟩ := zb_some hf
    refine z_callVv (As := [.ref (κ.2.1 24)]) C h (ctX8_gatherFronts_p24 e5) (zgV lkC289 lkC290 lkC291 lkC282 lkC292) ⟨rfl, rfl⟩ hdX8_gatherFronts ⟨Nat.le_of_ble_eq_true rfl, Nat.le_of_ble_eq_true rfl⟩ 29 (wC_at29 κ _) rfl hl rfl rfl (Nat.le_of_ble_eq_true rfl) dX9_mergeLevel_23 ⟨Nat.zero_le _, Nat.zero_le _⟩ (fun H locs h => ?_)
    refine lv_aload_n C.ex C.by dX9_mergeLevel_26 rfl (lv_at hl 0 rfl) ?_
    refine z_get (v := .ref (κ.2.1 23)) C h iwX9 0 (wC_at0 κ _) rfl 6 (by decide) lkC188 rfl dX9_mergeLevel_27 ?_
    refine z_getN (v := .ref (κ.2.1 24)) C h iwX4 23 (wC_at23 κ _) rfl 4 (by decide) nkC13 rfl dX9_mergeLevel_30 ?_
    refine lv_iconst (v := 0) C.ex C.by dX9_mergeLevel_33 (by decide) ?_
    obtain ⟨q6, e7, hf⟩ := zb_some hf
    refine z_callRi (As := [.int 0]) (x := (zI q4 29)) (f := (zA q4 10)) C h (ctX6_get (κ := zκR κ (κ.2.1 24) (κ.2.1 25) 8) e7) (zgV lkC193 lkC50 lkC51 lkC52 lkC53) ⟨rfl, rfl⟩ hdX6_get ⟨Nat.le_of_ble_eq_true rfl, Nat.le_of_ble_eq_true rfl⟩ 24 25 (by decide) (wC_at24 κ _) (wC_at25 κ _) q4 (zset2 (wC_at24 κ _) (wC_at25 κ _)) hl rfl rfl (Nat.le_of_ble_eq_true rfl) dX9_mergeLevel_34 ⟨Nat.zero_le _, Nat.zero_le _⟩ (fun H locs h => ?_)
    refine lv_istore_n (lv' := [(2, .int q6), (0, .ref (κ.2.1 0)), (1, .int a.1)]) C.ex C.by dX9_mergeLevel_37 rfl hl (by decide) rfl (fun ls hl => ?_)
    refine lv_aload_n C.ex C.by dX9_mergeLevel_38 rfl (lv_at hl 1 rfl) ?_
    refine z_get (v := .ref (κ.2.1 23)) C h iwX9 0 (wC_at0 κ _) rfl 6 (by decide) lkC188 rfl dX9_mergeLevel_39 ?_
    refine z_getN (v := .ref (κ.2.1 24)) C h iwX4 23 (wC_at23 κ _) rfl 4 (by decide) nkC13 rfl dX9_mergeLevel_42 ?_
    obtain ⟨q8, e9, hf⟩ := zb_some hf
    refine z_callRi (As := []) (x := (zI q4 29)) (f := (zA q4 10)) C h (ctX6_size (κ := zκR κ (κ.2.1 24) (κ.2.1 25) 8) e9) (zgV lkC181 lkC182 lkC183 lkC52 lkC184) ⟨rfl, rfl⟩ hdX6_size ⟨Nat.le_of_ble_eq_true rfl, Nat.le_of_ble_eq_true rfl⟩ 24 25 (by decide) (wC_at24 κ _) (wC_at25 κ _) q4 (zset2 (wC_at24 κ _) (wC_at25 κ _)) hl rfl rfl (Nat.le_of_ble_eq_true rfl) dX9_mergeLevel_45 ⟨Nat.zero_le _, Nat.zero_le _⟩ (fun H locs h => ?_)
    refine lv_iconst (v := 1) C.ex C.by dX9_mergeLevel_48 (by decide) ?_
    refine lv_icmp_le (tgt := 71) C.ex C.by dX9_mergeLevel_49 (by decide) (fun c10 => ?_) (fun c10 => ?_)
    · have hf := zif_t c10 hf
      exact wX9_mergeLevel_L8_71 C h (lv_sub hl [1, 2, 0] rfl) hf Kc Ke0 Ke1
    · have hf := zif_f c10 hf
      refine lv_aload_n C.ex C.by dX9_mergeLevel_52 rfl (lv_at hl 1 rfl) ?_
      refine z_get (v := .ref (κ.2.1 23)) C h iwX9 0 (wC_at0 κ _) rfl 6 (by decide) lkC188 rfl dX9_mergeLevel_53 ?_
      refine lv_aload_n C.ex C.by dX9_mergeLevel_56 rfl (lv_at hl 1 rfl) ?_
      refine z_get (v := .int (zI q4 0)) C h iwX9 0 (wC_at0 κ _) rfl 12 (by decide) lkC195 rfl dX9_mergeLevel_57 ?_
      obtain ⟨q11, e12, hf⟩ := zb_some hf
      refine z_callVi (As := [.int (zI q4 0)]) C h (ctX4_merge (r1 := q11.1) (r2 := q11.2) e12) (zgV lkC258 lkC259 lkC260 lkC226 lkC261) ⟨rfl, rfl⟩ hdX4_merge ⟨Nat.le_of_ble_eq_true rfl, Nat.le_of_ble_eq_true rfl⟩ 23 (wC_at23 κ _) rfl hl rfl rfl (Nat.le_of_ble_eq_true rfl) dX9_mergeLevel_60 ⟨Nat.zero_le _, Nat.zero_le _⟩ (fun H locs h => ?_)
      refine lv_istore_n (lv' := [(2, .int q11.1), (0, .ref (κ.2.1 0)), (1, .int a.1)]) C.ex C.by dX9_mergeLevel_63 rfl hl (by decide) rfl (fun ls hl => ?_)
      refine lv_iload_n C.ex C.by dX9_mergeLevel_64 rfl (lv_at hl 0 rfl) ?_
      refine lv_iconst (v := (-1)) C.ex C.by dX9_mergeLevel_65 (by decide) ?_
      refine lv_icmp_ne (tgt := 71) C.ex C.by dX9_mergeLevel_66 (by decide) (fun c13 => ?_) (fun c13 => ?_)
      · have hf := zif_f c13 hf
        exact wX9_mergeLevel_L8_71 C h (lv_sub hl [1, 2, 0] rfl) hf Kc Ke0 Ke1
      · have hf := zif_t c13 hf
        exact Ke1 _ (Option.some.inj hf).symm _ _ _ h (lv_sub hl [1] rfl)
theorem wlX9_mergeLevel_8 {p : Program} {l : Launch} {e : Env} {s : State} {m : MethodId} {args : Array Value} {below : List Frame} {meth : Method} {c : Code} {A : Nat → Prop} {κ : zG} {H : Heap} {locs : List Loc} {ls : Array Slot} {Q : State → Prop} {n : Nat} {k0 : Nat} {u1 : Int32} {σ1 : zS} (C : zC cX9_mergeLevel 3 (some .boolean) RX9 κ A p s m args meth c) (h : zH wC κ A s σ1 H locs) (hl : lv_has ls 3 [(0, .ref (κ.2.1 0)), (1, .int u1)]) (b : (zS) ⊕ (zS)) (hb : zlp (fX9_mergeLevel_L8_8 n (κ.2.2.2 0) (κ.2.2.2 1) (κ.2.2.2 2)) k0 (u1, σ1) = some b) (K : (fun b => Sum.elim (fun b : zS => ∀ (H : Heap) (locs : List Loc) (ls : Array Slot), zH wC κ A s b H locs → lv_has ls 3 [(0, .ref (κ.2.1 0))] → W p l e rmX9_mergeLevel s m args below meth c H locs 0 0 Q (F0 m 85 ls [])) (fun b : zS => ∀ (H : Heap) (locs : List Loc) (ls : Array Slot), zH wC κ A s b H locs → lv_has ls 3 [(0, .ref (κ.2.1 0))] → W p l e rmX9_mergeLevel s m args below meth c H locs 0 0 Q (F0 m 69 ls [])) b) b) : W p l e rmX9_mergeLevel s m args below meth c H locs 0 0 Q (F0 m 8 ls []) :=
  z_loop (body := fX9_mergeLevel_L8_8 n (κ.2.2.2 0) (κ.2.2.2 1) (κ.2.2.2 2)) (Wd := (fun a : Int32 × zS => ∀ (H : Heap) (locs : List Loc) (ls : Array Slot), zH wC κ A s a.2 H locs → lv_has ls 3 [(0, .ref (κ.2.1 0)), (1, .int a.1)] → W p l e rmX9_mergeLevel s m args below meth c H locs 0 0 Q (F0 m 8 ls []))) (Ex := (fun b : (zS) ⊕ (zS) => (fun b => Sum.elim (fun b : zS => ∀ (H : Heap) (locs : List Loc) (ls : Array Slot), zH wC κ A s b H locs → lv_has ls 3 [(0, .ref (κ.2.1 0))] → W p l e rmX9_mergeLevel s m args below meth c H locs 0 0 Q (F0 m 85 ls [])) (fun b : zS => ∀ (H : Heap) (locs : List Loc) (ls : Array Slot), zH wC κ A s b H locs → lv_has ls 3 [(0, .ref (κ.2.1 0))] → W p l e rmX9_mergeLevel s m args below meth c H locs 0 0 Q (F0 m 69 ls [])) b) b)) (fun a r hr Kc Ke H locs ls h hl => wX9_mergeLevel_L8_8 C h hl hr (fun v1 σ1 e => Kc (v1, σ1) e) (fun σ1 e => Ke (.inl σ1) e) (fun σ1 e => Ke (.inr σ1) e)) k0 (u1, σ1) b hb K H locs ls h hl
set_option maxRecDepth 20000 in
set_option maxHeartbeats 4000000 in
theorem wX9_mergeLevel_0 {p : Program} {l : Launch} {e : Env} {s : State} {m : MethodId} {args : Array Value} {below : List Frame} {meth : Method} {c : Code} {A : Nat → Prop} {κ : zG} {H : Heap} {locs : List Loc} {ls : Array Slot} {n : Nat} {σ : zS} {r1 : Int32} {r2 : zS} (C : zC cX9_mergeLevel 3 (some .boolean) RX9 κ A p s m args meth c) (h : zH wC κ A s σ H locs) (hl : lv_has ls 3 [(0, .ref (κ.2.1 0))]) (hf : fX9_mergeLevel_0 n (κ.2.2.2 0) (κ.2.2.2 1) (κ.2.2.2 2) σ = some (r1, r2)) : W p l e rmX9_mergeLevel s m args below meth c H locs 0 0 (MQ below (zQi wC κ A r1 r2) args s 0 0 A) (F0 m 0 ls []) := by
  unfold fX9_mergeLevel_0 at hf
  refine lv_aload_n C.ex C.by dX9_mergeLevel_0 rfl (lv_at hl 0 rfl) ?_
  refine z_get (v := .ref (κ.2.1 29)) C h iwX9 0 (wC_at0 κ _) rfl 7 (by decide) lkC276 rfl dX9_mergeLevel_1 ?_
  obtain ⟨q1, e2, hf⟩ := zb_some hf
  refine z_callVi (As := []) C h (ctX8_stepsOfLevel e2) (zgV lkC279 lkC280 lkC281 lkC282 lkC283) ⟨rfl, rfl⟩ hdX8_stepsOfLevel ⟨Nat.le_of_ble_eq_true rfl, Nat.le_of_ble_eq_true rfl⟩ 29 (wC_at29 κ _) rfl hl rfl rfl (Nat.le_of_ble_eq_true rfl) dX9_mergeLevel_4 ⟨Nat.zero_le _, Nat.zero_le _⟩ (fun H locs h => ?_)
  refine lv_istore_n (lv' := [(1, .int q1), (0, .ref (κ.2.1 0))]) C.ex C.by dX9_mergeLevel_7 rfl hl (by decide) rfl (fun ls hl => ?_)
  obtain ⟨b16, e17, hf⟩ := zb_some hf
  refine wlX9_mergeLevel_8 C h (lv_sub hl [1, 0] rfl) b16 e17 ?_
  rcases b16 with b16 | b16
  · dsimp only [Sum.elim_inl] at hf
    intro H locs ls h hl
    refine lv_iconst (v := 1) C.ex C.by dX9_mergeLevel_85 (by decide) ?_
    cases hf
    exact z_zret (r := 1) C h rfl dX9_mergeLevel_86
  · dsimp only [Sum.elim_inr] at hf
    intro H locs ls h hl
    refine lv_iconst (v := 0) C.ex C.by dX9_mergeLevel_69 (by decide) ?_
    cases hf
    exact z_zret (r := 0) C h rfl dX9_mergeLevel_70
theorem ctX9_mergeLevel {l : Launch} {κ : zG} {n : Nat} {σ : zS} {r1 : Int32} {r2 : zS} (hf : fX9_mergeLevel_0 n (κ.2.2.2 0) (κ.2.2.2 1) (κ.2.2.2 2) σ = some (r1, r2)) : zMi l yX9_mergeLevel (Cond.code yX9_mergeLevel cX9_mergeLevel 3 (some .boolean)) rmX9_mergeLevel wC κ [.ref (κ.2.1 0)] σ r1 r2 :=
  zMi_of (by decide) (Nat.le_of_ble_eq_true rfl) (fun p e s m below meth c A C h ls hl => wX9_mergeLevel_0 C h hl hf)
theorem hdX5_blocksFor : yX5_blocksFor.cls = RX5 ∧ yX5_blocksFor.cls ≠ "java/lang/invoke/MethodHandle" ∧ yX5_blocksFor.cls ≠ "java/lang/invoke/VarHandle" ∧ (parseMethodDescriptor yX5_blocksFor.desc).map (fun d => d.parameters.length) = some 1 := by decide +kernel
abbrev rmX5_blocksFor : Room := { frames := 1, cells := 0, slots := 0, locals := 14 }
set_option maxRecDepth 20000 in
set_option maxHeartbeats 4000000 in
theorem wX5_blocksFor_0 {p : Program} {l : Launch} {e : Env} {s : State} {m : MethodId} {args : Array Value} {below : List Frame} {meth : Method} {c : Code} {A : Nat → Prop} {κ : zG} {H : Heap} {locs : List Loc} {ls : Array Slot} {n : Nat} {σ : zS} {x1 : Int32} {r : Int32} (C : zC cX5_blocksFor 2 (some .int) RX5 κ A p s m args meth c) (h : zH wC κ A s σ H locs) (hl : lv_has ls 2 [(0, .ref (κ.2.1 4)), (1, .int x1)]) (hf : fX5_blocksFor_0 n (κ.2.2.2 0) (κ.2.2.2 1) (κ.2.2.2 2) σ x1 = some r) : W p l e rmX5_blocksFor s m args below meth c H locs 0 0 (MQ below (zQi wC κ A r σ) args s 0 0 A) (F0 m 0 ls []) := by
  unfold fX5_blocksFor_0 at hf
  refine lv_iload_n C.ex C.by dX5_blocksFor_0 rfl (lv_at hl 1 rfl) ?_
  refine lv_aload_n C.ex C.by dX5_blocksFor_1 rfl (lv_at hl 0 rfl) ?_
  refine z_get (v := .int (zI σ 11)) C h iwX5 4 (wC_at4 κ _) rfl 6 (by decide) lkC299 rfl dX5_blocksFor_2 ?_
  refine lv_iadd C.ex C.by dX5_blocksFor_5 ?_
  refine lv_iconst (v := 1) C.ex C.by dX5_blocksFor_6 (by decide) ?_
  refine lv_isub C.ex C.by dX5_blocksFor_7 ?_
  refine lv_iconst (v := 1) C.ex C.by dX5_blocksFor_8 (by decide) ?_
  refine lv_aload_n C.ex C.by dX5_blocksFor_9 rfl (lv_at hl 0 rfl) ?_
  refine z_get (v := .int (zI σ 11)) C h iwX5 4 (wC_at4 κ _) rfl 6 (by decide) lkC299 rfl dX5_blocksFor_10 ?_
  refine z_mmax C hl lkC300 lkC3 lkC4 lkC5 ⟨Nat.le_of_ble_eq_true rfl, Nat.le_of_ble_eq_true rfl⟩ ⟨Nat.zero_le _, Nat.zero_le _⟩ dX5_blocksFor_13 ?_
  obtain ⟨h1, hf⟩ := zg_some hf
  refine lv_idiv C.ex C.by dX5_blocksFor_16 (znz_ne h1) ?_
  cases hf
  exact z_iret C h dX5_blocksFor_17
theorem ctX5_blocksFor {l : Launch} {κ : zG} {n : Nat} {σ : zS} {x1 : Int32} {r : Int32} (hf : fX5_blocksFor_0 n (κ.2.2.2 0) (κ.2.2.2 1) (κ.2.2.2 2) σ x1 = some r) : zMi l yX5_blocksFor (Cond.code yX5_blocksFor cX5_blocksFor 2 (some .int)) rmX5_blocksFor wC κ [.ref (κ.2.1 4), .int x1] σ r σ :=
  zMi_of (by decide) (Nat.le_of_ble_eq_true rfl) (fun p e s m below meth c A C h ls hl => wX5_blocksFor_0 C h hl hf)
theorem hdX9_blocksBetween : yX9_blocksBetween.cls = RX9 ∧ yX9_blocksBetween.cls ≠ "java/lang/invoke/MethodHandle" ∧ yX9_blocksBetween.cls ≠ "java/lang/invoke/VarHandle" ∧ (parseMethodDescriptor yX9_blocksBetween.desc).map (fun d => d.parameters.length) = some 2 := by decide +kernel
abbrev rmX9_blocksBetween : Room := { frames := 2, cells := 0, slots := 0, locals := 35 }
set_option maxRecDepth 20000 in
set_option maxHeartbeats 4000000 in
theorem wX9_blocksBetween_L5_5 {p : Program} {l : Launch} {e : Env} {s : State} {m : MethodId} {args : Array Value} {below : List Frame} {meth : Method} {c : Code} {A : Nat → Prop} {κ : zG} {H : Heap} {locs : List Loc} {ls : Array Slot} {Q : State → Prop} {n : Nat} {σ : zS} {k2 : Int32} {a : Int32 × Int32} {r : (Int32 × Int32) ⊕ (Int32)} (C : zC cX9_blocksBetween 5 (some .int) RX9 κ A p s m args meth c) (h : zH wC κ A s σ H locs) (hl : lv_has ls 5 [(0, .ref (κ.2.1 0)), (2, .int k2), (3, .int a.1), (4, .int a.2)]) (hf : fX9_blocksBetween_L5_5 n (κ.2.2.2 0) (κ.2.2.2 1) (κ.2.2.2 2) σ k2 a = some r) (Kc : ∀ (v3 : Int32) (v4 : Int32), r = .inl (v3, v4) → ∀ (H : Heap) (locs : List Loc) (ls : Array Slot), zH wC κ A s σ H locs → lv_has ls 5 [(0, .ref (κ.2.1 0)), (2, .int k2), (3, .int v3), (4, .int v4)] → W p l e rmX9_blocksBetween s m args below meth c H locs 0 0 Q (F0 m 5 ls [])) (Ke0 : ∀ (v3 : Int32), r = .inr v3 → ∀ (H : Heap) (locs : List Loc) (ls : Array Slot), zH wC κ A s σ H locs → lv_has ls 5 [(0, .ref (κ.2.1 0)), (3, .int v3)] → W p l e rmX9_blocksBetween s m args below meth c H locs 0 0 Q (F0 m 49 ls [])) : W p l e rmX9_blocksBetween s m args below meth c H locs 0 0 Q (F0 m 5 ls []) := by
  unfold fX9_blocksBetween_L5_5 at hf
  refine lv_iload C.ex C.by dX9_blocksBetween_5 (lv_at hl 3 rfl) ?_
  refine lv_iload_n C.ex C.by dX9_blocksBetween_7 rfl (lv_at hl 1 rfl) ?_
  refine lv_icmp_ge (tgt := 49) C.ex C.by dX9_blocksBetween_8 (by decide) (fun c1 => ?_) (fun c1 => ?_)
  · have hf := zif_t c1 hf
    exact Ke0 _ (Option.some.inj hf).symm _ _ _ h (lv_sub hl [0, 2] rfl)
  · have hf := zif_f c1 hf
    refine lv_iload C.ex C.by dX9_blocksBetween_11 (lv_at hl 3 rfl) ?_
    refine lv_if_lt (tgt := 49) C.ex C.by dX9_blocksBetween_13 (by decide) (fun c2 => ?_) (fun c2 => ?_)
    · have hf := zif_t c2 hf
      exact Ke0 _ (Option.some.inj hf).symm _ _ _ h (lv_sub hl [0, 2] rfl)
    · have hf := zif_f c2 hf
      refine lv_iload C.ex C.by dX9_blocksBetween_16 (lv_at hl 3 rfl) ?_
      refine lv_aload_n C.ex C.by dX9_blocksBetween_18 rfl (lv_at hl 0 rfl) ?_
      refine z_get (v := .ref (κ.2.1 37)) C h iwX9 0 (wC_at0 κ _) rfl 11 (by decide) lkC298 rfl dX9_blocksBetween_19 ?_
      refine z_alen (t0 := 0) C h 37 (wC_at37 κ _) rfl dX9_blocksBetween_22 ?_
      refine lv_icmp_ge (tgt := 49) C.ex C.by dX9_blocksBetween_23 (by decide) (fun c3 => ?_) (fun c3 => ?_)
      · have hf := zif_t c3 hf
        exact Ke0 _ (Option.some.inj hf).symm _ _ _ h (lv_sub hl [0, 2] rfl)
      · have hf := zif_f c3 hf
        refine lv_iload_n C.ex C.by dX9_blocksBetween_26 rfl (lv_at hl 2 rfl) ?_
        refine lv_aload_n C.ex C.by dX9_blocksBetween_27 rfl (lv_at hl 0 rfl) ?_
        refine z_get (v := .ref (κ.2.1 4)) C h iwX9 0 (wC_at0 κ _) rfl 1 (by decide) lkC1 rfl dX9_blocksBetween_28 ?_
        refine lv_aload_n C.ex C.by dX9_blocksBetween_31 rfl (lv_at hl 0 rfl) ?_
        refine z_get (v := .ref (κ.2.1 37)) C h iwX9 0 (wC_at0 κ _) rfl 11 (by decide) lkC298 rfl dX9_blocksBetween_32 ?_
        refine lv_iload C.ex C.by dX9_blocksBetween_35 (lv_at hl 3 rfl) ?_
        obtain ⟨h4, hf⟩ := zg_some hf
        refine z_iald (f := (zA σ 18)) C h 37 (wC_at37 κ _) h4 dX9_blocksBetween_37 ?_
        obtain ⟨q5, e6, hf⟩ := zb_some hf
        refine z_callVi (As := [.int ((zA σ 18) (Int32.toNatClampNeg a.2))]) C h (ctX5_blocksFor e6) (zgV lkC301 lkC302 lkC303 lkC74 lkC304) ⟨rfl, rfl⟩ hdX5_blocksFor ⟨Nat.le_of_ble_eq_true rfl, Nat.le_of_ble_eq_true rfl⟩ 4 (wC_at4 κ _) rfl hl rfl rfl (Nat.le_of_ble_eq_true rfl) dX9_blocksBetween_38 ⟨Nat.zero_le _, Nat.zero_le _⟩ (fun H locs h => ?_)
        refine lv_iadd C.ex C.by dX9_blocksBetween_41 ?_
        refine lv_istore_n (lv' := [(3, .int (a.1 + q5)), (0, .ref (κ.2.1 0)), (2, .int k2), (4, .int a.2)]) C.ex C.by dX9_blocksBetween_42 rfl hl (by decide) rfl (fun ls hl => ?_)
        refine lv_iinc (v := (a.2 + 1)) (lv' := [(4, .int (a.2 + 1)), (3, .int (a.1 + q5)), (0, .ref (κ.2.1 0)), (2, .int k2)]) C.ex C.by dX9_blocksBetween_43 hl (k := 3) rfl rfl (by decide) rfl (fun ls hl => ?_)
        refine lv_goto (tgt := 5) C.ex C.by dX9_blocksBetween_46 (by decide) ?_
        exact Kc _ _ (Option.some.inj hf).symm _ _ _ h (lv_sub hl [2, 3, 1, 0] rfl)
theorem wlX9_blocksBetween_5 {p : Program} {l : Launch} {e : Env} {s : State} {m : MethodId} {args : Array Value} {below : List Frame} {meth : Method} {c : Code} {A : Nat → Prop} {κ : zG} {H : Heap} {locs : List Loc} {ls : Array Slot} {Q : State → Prop} {n : Nat} {σ : zS} {k2 : Int32} {k0 : Nat} {u3 : Int32} {u4 : Int32} (C : zC cX9_blocksBetween 5 (some .int) RX9 κ A p s m args meth c) (h : zH wC κ A s σ H locs) (hl : lv_has ls 5 [(0, .ref (κ.2.1 0)), (2, .int k2), (3, .int u3), (4, .int u4)]) (b : Int32) (hb : zlp (fX9_blocksBetween_L5_5 n (κ.2.2.2 0) (κ.2.2.2 1) (κ.2.2.2 2) σ k2) k0 (u3, u4) = some b) (K : (fun b : Int32 => ∀ (H : Heap) (locs : List Loc) (ls : Array Slot), zH wC κ A s σ H locs → lv_has ls 5 [(0, .ref (κ.2.1 0)), (3, .int b)] → W p l e rmX9_blocksBetween s m args below meth c H locs 0 0 Q (F0 m 49 ls [])) b) : W p l e rmX9_blocksBetween s m args below meth c H locs 0 0 Q (F0 m 5 ls []) :=
  z_loop (body := fX9_blocksBetween_L5_5 n (κ.2.2.2 0) (κ.2.2.2 1) (κ.2.2.2 2) σ k2) (Wd := (fun a : Int32 × Int32 => ∀ (H : Heap) (locs : List Loc) (ls : Array Slot), zH wC κ A s σ H locs → lv_has ls 5 [(0, .ref (κ.2.1 0)), (2, .int k2), (3, .int a.1), (4, .int a.2)] → W p l e rmX9_blocksBetween s m args below meth c H locs 0 0 Q (F0 m 5 ls []))) (Ex := (fun b : Int32 => (fun b : Int32 => ∀ (H : Heap) (locs : List Loc) (ls : Array Slot), zH wC κ A s σ H locs → lv_has ls 5 [(0, .ref (κ.2.1 0)), (3, .int b)] → W p l e rmX9_blocksBetween s m args below meth c H locs 0 0 Q (F0 m 49 ls [])) b)) (fun a r hr Kc Ke H locs ls h hl => wX9_blocksBetween_L5_5 C h hl hr (fun v3 v4 e => Kc (v3, v4) e) (fun v3 e => Ke v3 e)) k0 (u3, u4) b hb K H locs ls h hl
set_option maxRecDepth 20000 in
set_option maxHeartbeats 4000000 in
theorem wX9_blocksBetween_0 {p : Program} {l : Launch} {e : Env} {s : State} {m : MethodId} {args : Array Value} {below : List Frame} {meth : Method} {c : Code} {A : Nat → Prop} {κ : zG} {H : Heap} {locs : List Loc} {ls : Array Slot} {n : Nat} {σ : zS} {x1 : Int32} {x2 : Int32} {r : Int32} (C : zC cX9_blocksBetween 5 (some .int) RX9 κ A p s m args meth c) (h : zH wC κ A s σ H locs) (hl : lv_has ls 5 [(0, .ref (κ.2.1 0)), (1, .int x1), (2, .int x2)]) (hf : fX9_blocksBetween_0 n (κ.2.2.2 0) (κ.2.2.2 1) (κ.2.2.2 2) σ x1 x2 = some r) : W p l e rmX9_blocksBetween s m args below meth c H locs 0 0 (MQ below (zQi wC κ A r σ) args s 0 0 A) (F0 m 0 ls []) := by
  unfold fX9_blocksBetween_0 at hf
  refine lv_iconst (v := 0) C.ex C.by dX9_blocksBetween_0 (by decide) ?_
  refine lv_istore_n (lv' := [(3, .int 0), (0, .ref (κ.2.1 0)), (1, .int x1), (2, .int x2)]) C.ex C.by dX9_blocksBetween_1 rfl hl (by decide) rfl (fun ls hl => ?_)
  refine lv_iload_n C.ex C.by dX9_blocksBetween_2 rfl (lv_at hl 2 rfl) ?_
  refine lv_istore (lv' := [(4, .int x1), (3, .int 0), (0, .ref (κ.2.1 0)), (1, .int x1), (2, .int x2)]) C.ex C.by dX9_blocksBetween_3 hl (by decide) rfl (fun ls hl => ?_)
  obtain ⟨b7, e8, hf⟩ := zb_some hf
  refine wlX9_blocksBetween_5 C h (lv_sub hl [2, 4, 1, 0] rfl) b7 e8 ?_
  intro H locs ls h hl
  refine lv_iload_n C.ex C.by dX9_blocksBetween_49 rfl (lv_at hl 1 rfl) ?_
  cases hf
  exact z_iret C h dX9_blocksBetween_50
theorem ctX9_blocksBetween {l : Launch} {κ : zG} {n : Nat} {σ : zS} {x1 : Int32} {x2 : Int32} {r : Int32} (hf : fX9_blocksBetween_0 n (κ.2.2.2 0) (κ.2.2.2 1) (κ.2.2.2 2) σ x1 x2 = some r) : zMi l yX9_blocksBetween (Cond.code yX9_blocksBetween cX9_blocksBetween 5 (some .int)) rmX9_blocksBetween wC κ [.ref (κ.2.1 0), .int x1, .int x2] σ r σ :=
  zMi_of (by decide) (Nat.le_of_ble_eq_true rfl) (fun p e s m below meth c A C h ls hl => wX9_blocksBetween_0 C h hl hf)
theorem hdX9_lengthBetween : yX9_lengthBetween.cls = RX9 ∧ yX9_lengthBetween.cls ≠ "java/lang/invoke/MethodHandle" ∧ yX9_lengthBetween.cls ≠ "java/lang/invoke/VarHandle" ∧ (parseMethodDescriptor yX9_lengthBetween.desc).map (fun d => d.parameters.length) = some 2 := by decide +kernel
abbrev rmX9_lengthBetween : Room := { frames := 0, cells := 0, slots := 0, locals := 0 }
set_option maxRecDepth 20000 in
set_option maxHeartbeats 4000000 in
theorem wX9_lengthBetween_L5_5 {p : Program} {l : Launch} {e : Env} {s : State} {m : MethodId} {args : Array Value} {below : List Frame} {meth : Method} {c : Code} {A : Nat → Prop} {κ : zG} {H : Heap} {locs : List Loc} {ls : Array Slot} {Q : State → Prop} {n : Nat} {σ : zS} {k2 : Int32} {a : Int32 × Int32} {r : (Int32 × Int32) ⊕ (Int32)} (C : zC cX9_lengthBetween 5 (some .int) RX9 κ A p s m args meth c) (h : zH wC κ A s σ H locs) (hl : lv_has ls 5 [(0, .ref (κ.2.1 0)), (2, .int k2), (3, .int a.1), (4, .int a.2)]) (hf : fX9_lengthBetween_L5_5 n (κ.2.2.2 0) (κ.2.2.2 1) (κ.2.2.2 2) σ k2 a = some r) (Kc : ∀ (v3 : Int32) (v4 : Int32), r = .inl (v3, v4) → ∀ (H : Heap) (locs : List Loc) (ls : Array Slot), zH wC κ A s σ H locs → lv_has ls 5 [(0, .ref (κ.2.1 0)), (2, .int k2), (3, .int v3), (4, .int v4)] → W p l e rmX9_lengthBetween s m args below meth c H locs 0 0 Q (F0 m 5 ls [])) (Ke0 : ∀ (v3 : Int32), r = .inr v3 → ∀ (H : Heap) (locs : List Loc) (ls : Array Slot), zH wC κ A s σ H locs → lv_has ls 5 [(0, .ref (κ.2.1 0)), (3, .int v3)] → W p l e rmX9_lengthBetween s m args below meth c H locs 0 0 Q (F0 m 42 ls [])) : W p l e rmX9_lengthBetween s m args below meth c H locs 0 0 Q (F0 m 5 ls []) := by
  unfold fX9_lengthBetween_L5_5 at hf
  refine lv_iload C.ex C.by dX9_lengthBetween_5 (lv_at hl 3 rfl) ?_
  refine lv_iload_n C.ex C.by dX9_lengthBetween_7 rfl (lv_at hl 1 rfl) ?_
  refine lv_icmp_ge (tgt := 42) C.ex C.by dX9_lengthBetween_8 (by decide) (fun c1 => ?_) (fun c1 => ?_)
  · have hf := zif_t c1 hf
    exact Ke0 _ (Option.some.inj hf).symm _ _ _ h (lv_sub hl [0, 2] rfl)
  · have hf := zif_f c1 hf
    refine lv_iload C.ex C.by dX9_lengthBetween_11 (lv_at hl 3 rfl) ?_
    refine lv_if_lt (tgt := 42) C.ex C.by dX9_lengthBetween_13 (by decide) (fun c2 => ?_) (fun c2 => ?_)
    · have hf := zif_t c2 hf
      exact Ke0 _ (Option.some.inj hf).symm _ _ _ h (lv_sub hl [0, 2] rfl)
    · have hf := zif_f c2 hf
      refine lv_iload C.ex C.by dX9_lengthBetween_16 (lv_at hl 3 rfl) ?_
      refine lv_aload_n C.ex C.by dX9_lengthBetween_18 rfl (lv_at hl 0 rfl) ?_
      refine z_get (v := .ref (κ.2.1 37)) C h iwX9 0 (wC_at0 κ _) rfl 11 (by decide) lkC298 rfl dX9_lengthBetween_19 ?_
      refine z_alen (t0 := 0) C h 37 (wC_at37 κ _) rfl dX9_lengthBetween_22 ?_
      refine lv_icmp_ge (tgt := 42) C.ex C.by dX9_lengthBetween_23 (by decide) (fun c3 => ?_) (fun c3 => ?_)
      · have hf := zif_t c3 hf
        exact Ke0 _ (Option.some.inj hf).symm _ _ _ h (lv_sub hl [0, 2] rfl)
      · have hf := zif_f c3 hf
        refine lv_iload_n C.ex C.by dX9_lengthBetween_26 rfl (lv_at hl 2 rfl) ?_
        refine lv_aload_n C.ex C.by dX9_lengthBetween_27 rfl (lv_at hl 0 rfl) ?_
        refine z_get (v := .ref (κ.2.1 37)) C h iwX9 0 (wC_at0 κ _) rfl 11 (by decide) lkC298 rfl dX9_lengthBetween_28 ?_
        refine lv_iload C.ex C.by dX9_lengthBetween_31 (lv_at hl 3 rfl) ?_
        obtain ⟨h4, hf⟩ := zg_some hf
        refine z_iald (f := (zA σ 18)) C h 37 (wC_at37 κ _) h4 dX9_lengthBetween_33 ?_
        refine lv_iadd C.ex C.by dX9_lengthBetween_34 ?_
        refine lv_istore_n (lv' := [(3, .int (a.1 + ((zA σ 18) (Int32.toNatClampNeg a.2)))), (0, .ref (κ.2.1 0)), (2, .int k2), (4, .int a.2)]) C.ex C.by dX9_lengthBetween_35 rfl hl (by decide) rfl (fun ls hl => ?_)
        refine lv_iinc (v := (a.2 + 1)) (lv' := [(4, .int (a.2 + 1)), (3, .int (a.1 + ((zA σ 18) (Int32.toNatClampNeg a.2)))), (0, .ref (κ.2.1 0)), (2, .int k2)]) C.ex C.by dX9_lengthBetween_36 hl (k := 3) rfl rfl (by decide) rfl (fun ls hl => ?_)
        refine lv_goto (tgt := 5) C.ex C.by dX9_lengthBetween_39 (by decide) ?_
        exact Kc _ _ (Option.some.inj hf).symm _ _ _ h (lv_sub hl [2, 3, 1, 0] rfl)
theorem wlX9_lengthBetween_5 {p : Program} {l : Launch} {e : Env} {s : State} {m : MethodId} {args : Array Value} {below : List Frame} {meth : Method} {c : Code} {A : Nat → Prop} {κ : zG} {H : Heap} {locs : List Loc} {ls : Array Slot} {Q : State → Prop} {n : Nat} {σ : zS} {k2 : Int32} {k0 : Nat} {u3 : Int32} {u4 : Int32} (C : zC cX9_lengthBetween 5 (some .int) RX9 κ A p s m args meth c) (h : zH wC κ A s σ H locs) (hl : lv_has ls 5 [(0, .ref (κ.2.1 0)), (2, .int k2), (3, .int u3), (4, .int u4)]) (b : Int32) (hb : zlp (fX9_lengthBetween_L5_5 n (κ.2.2.2 0) (κ.2.2.2 1) (κ.2.2.2 2) σ k2) k0 (u3, u4) = some b) (K : (fun b : Int32 => ∀ (H : Heap) (locs : List Loc) (ls : Array Slot), zH wC κ A s σ H locs → lv_has ls 5 [(0, .ref (κ.2.1 0)), (3, .int b)] → W p l e rmX9_lengthBetween s m args below meth c H locs 0 0 Q (F0 m 42 ls [])) b) : W p l e rmX9_lengthBetween s m args below meth c H locs 0 0 Q (F0 m 5 ls []) :=
  z_loop (body := fX9_lengthBetween_L5_5 n (κ.2.2.2 0) (κ.2.2.2 1) (κ.2.2.2 2) σ k2) (Wd := (fun a : Int32 × Int32 => ∀ (H : Heap) (locs : List Loc) (ls : Array Slot), zH wC κ A s σ H locs → lv_has ls 5 [(0, .ref (κ.2.1 0)), (2, .int k2), (3, .int a.1), (4, .int a.2)] → W p l e rmX9_lengthBetween s m args below meth c H locs 0 0 Q (F0 m 5 ls []))) (Ex := (fun b : Int32 => (fun b : Int32 => ∀ (H : Heap) (locs : List Loc) (ls : Array Slot), zH wC κ A s σ H locs → lv_has ls 5 [(0, .ref (κ.2.1 0)), (3, .int b)] → W p l e rmX9_lengthBetween s m args below meth c H locs 0 0 Q (F0 m 42 ls [])) b)) (fun a r hr Kc Ke H locs ls h hl => wX9_lengthBetween_L5_5 C h hl hr (fun v3 v4 e => Kc (v3, v4) e) (fun v3 e => Ke v3 e)) k0 (u3, u4) b hb K H locs ls h hl
set_option maxRecDepth 20000 in
set_option maxHeartbeats 4000000 in
theorem wX9_lengthBetween_0 {p : Program} {l : Launch} {e : Env} {s : State} {m : MethodId} {args : Array Value} {below : List Frame} {meth : Method} {c : Code} {A : Nat → Prop} {κ : zG} {H : Heap} {locs : List Loc} {ls : Array Slot} {n : Nat} {σ : zS} {x1 : Int32} {x2 : Int32} {r : Int32} (C : zC cX9_lengthBetween 5 (some .int) RX9 κ A p s m args meth c) (h : zH wC κ A s σ H locs) (hl : lv_has ls 5 [(0, .ref (κ.2.1 0)), (1, .int x1), (2, .int x2)]) (hf : fX9_lengthBetween_0 n (κ.2.2.2 0) (κ.2.2.2 1) (κ.2.2.2 2) σ x1 x2 = some r) : W p l e rmX9_lengthBetween s m args below meth c H locs 0 0 (MQ below (zQi wC κ A r σ) args s 0 0 A) (F0 m 0 ls []) := by
  unfold fX9_lengthBetween_0 at hf
  refine lv_iconst (v := 0) C.ex C.by dX9_lengthBetween_0 (by decide) ?_
  refine lv_istore_n (lv' := [(3, .int 0), (0, .ref (κ.2.1 0)), (1, .int x1), (2, .int x2)]) C.ex C.by dX9_lengthBetween_1 rfl hl (by decide) rfl (fun ls hl => ?_)
  refine lv_iload_n C.ex C.by dX9_lengthBetween_2 rfl (lv_at hl 2 rfl) ?_
  refine lv_istore (lv' := [(4, .int x1), (3, .int 0), (0, .ref (κ.2.1 0)), (1, .int x1), (2, .int x2)]) C.ex C.by dX9_lengthBetween_3 hl (by decide) rfl (fun ls hl => ?_)
  obtain ⟨b5, e6, hf⟩ := zb_some hf
  refine wlX9_lengthBetween_5 C h (lv_sub hl [2, 4, 1, 0] rfl) b5 e6 ?_
  intro H locs ls h hl
  refine lv_iload_n C.ex C.by dX9_lengthBetween_42 rfl (lv_at hl 1 rfl) ?_
  cases hf
  exact z_iret C h dX9_lengthBetween_43
theorem ctX9_lengthBetween {l : Launch} {κ : zG} {n : Nat} {σ : zS} {x1 : Int32} {x2 : Int32} {r : Int32} (hf : fX9_lengthBetween_0 n (κ.2.2.2 0) (κ.2.2.2 1) (κ.2.2.2 2) σ x1 x2 = some r) : zMi l yX9_lengthBetween (Cond.code yX9_lengthBetween cX9_lengthBetween 5 (some .int)) rmX9_lengthBetween wC κ [.ref (κ.2.1 0), .int x1, .int x2] σ r σ :=
  zMi_of (by decide) (Nat.le_of_ble_eq_true rfl) (fun p e s m below meth c A C h ls hl => wX9_lengthBetween_0 C h hl hf)
theorem hdX9_setLength : yX9_setLength.cls = RX9 ∧ yX9_setLength.cls ≠ "java/lang/invoke/MethodHandle" ∧ yX9_setLength.cls ≠ "java/lang/invoke/VarHandle" ∧ (parseMethodDescriptor yX9_setLength.desc).map (fun d => d.parameters.length) = some 2 := by decide +kernel
abbrev rmX9_setLength : Room := { frames := 0, cells := 0, slots := 0, locals := 0 }
set_option maxRecDepth 20000 in
set_option maxHeartbeats 4000000 in
theorem wX9_setLength_0 {p : Program} {l : Launch} {e : Env} {s : State} {m : MethodId} {args : Array Value} {below : List Frame} {meth : Method} {c : Code} {A : Nat → Prop} {κ : zG} {H : Heap} {locs : List Loc} {ls : Array Slot} {n : Nat} {σ : zS} {x1 : Int32} {x2 : Int32} {r : zS} (C : zC cX9_setLength 3 none RX9 κ A p s m args meth c) (h : zH wC κ A s σ H locs) (hl : lv_has ls 3 [(0, .ref (κ.2.1 0)), (1, .int x1), (2, .int x2)]) (hf : fX9_setLength_0 n (κ.2.2.2 0) (κ.2.2.2 1) (κ.2.2.2 2) σ x1 x2 = some r) : W p l e rmX9_setLength s m args below meth c H locs 0 0 (MQ below (zQv wC κ A r) args s 0 0 A) (F0 m 0 ls []) := by
  unfold fX9_setLength_0 at hf
  refine lv_iload_n C.ex C.by dX9_setLength_0 rfl (lv_at hl 1 rfl) ?_
  refine lv_if_lt (tgt := 20) C.ex C.by dX9_setLength_1 (by decide) (fun c1 => ?_) (fun c1 => ?_)
  · have hf := zif_t c1 hf
    cases hf
    exact z_vret C h dX9_setLength_20
  · have hf := zif_f c1 hf
    refine lv_iload_n C.ex C.by dX9_setLength_4 rfl (lv_at hl 1 rfl) ?_
    refine lv_aload_n C.ex C.by dX9_setLength_5 rfl (lv_at hl 0 rfl) ?_
    refine z_get (v := .ref (κ.2.1 37)) C h iwX9 0 (wC_at0 κ _) rfl 11 (by decide) lkC298 rfl dX9_setLength_6 ?_
    refine z_alen (t0 := 0) C h 37 (wC_at37 κ _) rfl dX9_setLength_9 ?_
    refine lv_icmp_ge (tgt := 20) C.ex C.by dX9_setLength_10 (by decide) (fun c2 => ?_) (fun c2 => ?_)
    · have hf := zif_t c2 hf
      cases hf
      exact z_vret C h dX9_setLength_20
    · have hf := zif_f c2 hf
      refine lv_aload_n C.ex C.by dX9_setLength_13 rfl (lv_at hl 0 rfl) ?_
      refine z_get (v := .ref (κ.2.1 37)) C h iwX9 0 (wC_at0 κ _) rfl 11 (by decide) lkC298 rfl dX9_setLength_14 ?_
      refine lv_iload_n C.ex C.by dX9_setLength_17 rfl (lv_at hl 1 rfl) ?_
      refine lv_iload_n C.ex C.by dX9_setLength_18 rfl (lv_at hl 2 rfl) ?_
      obtain ⟨h3, hf⟩ := zg_some hf
      refine z_iast (f := (zA σ 18)) C h 37 (wC_at37 κ _) h3 (sA σ 18 (upd (zA σ 18) (Int32.toNatClampNeg x1) x2)) (wC_s37 κ _ _) dX9_setLength_19 (fun H locs h => ?_)
      cases hf
      exact z_vret C h dX9_setLength_20
theorem ctX9_setLength {l : Launch} {κ : zG} {n : Nat} {σ : zS} {x1 : Int32} {x2 : Int32} {r : zS} (hf : fX9_setLength_0 n (κ.2.2.2 0) (κ.2.2.2 1) (κ.2.2.2 2) σ x1 x2 = some r) : zMv l yX9_setLength (Cond.code yX9_setLength cX9_setLength 3 none) rmX9_setLength wC κ [.ref (κ.2.1 0), .int x1, .int x2] σ r :=
  zMv_of (by decide) (Nat.le_of_ble_eq_true rfl) (fun p e s m below meth c A C h ls hl => wX9_setLength_0 C h hl hf)
theorem hdX9_runs : yX9_runs.cls = RX9 ∧ yX9_runs.cls ≠ "java/lang/invoke/MethodHandle" ∧ yX9_runs.cls ≠ "java/lang/invoke/VarHandle" ∧ (parseMethodDescriptor yX9_runs.desc).map (fun d => d.parameters.length) = some 0 := by decide +kernel
abbrev rmX9_runs : Room := { frames := 1, cells := 0, slots := 0, locals := 20 }
set_option maxRecDepth 20000 in
set_option maxHeartbeats 4000000 in
theorem wX9_runs_0 {p : Program} {l : Launch} {e : Env} {s : State} {m : MethodId} {args : Array Value} {below : List Frame} {meth : Method} {c : Code} {A : Nat → Prop} {κ : zG} {H : Heap} {locs : List Loc} {ls : Array Slot} {n : Nat} {σ : zS} {r : Int32} (C : zC cX9_runs 1 (some .int) RX9 κ A p s m args meth c) (h : zH wC κ A s σ H locs) (hl : lv_has ls 1 [(0, .ref (κ.2.1 0))]) (hf : fX9_runs_0 n (κ.2.2.2 0) (κ.2.2.2 1) (κ.2.2.2 2) σ = some r) : W p l e rmX9_runs s m args below meth c H locs 0 0 (MQ below (zQi wC κ A r σ) args s 0 0 A) (F0 m 0 ls []) := by
  unfold fX9_runs_0 at hf
  refine lv_aload_n C.ex C.by dX9_runs_0 rfl (lv_at hl 0 rfl) ?_
  refine z_get (v := .ref (κ.2.1 33)) C h iwX9 0 (wC_at0 κ _) rfl 8 (by decide) lkC180 rfl dX9_runs_1 ?_
  obtain ⟨q1, e2, hf⟩ := zb_some hf
  refine z_callRi (As := []) (x := (zI σ 32)) (f := (zA σ 16)) C h (ctX6_size (κ := zκR κ (κ.2.1 33) (κ.2.1 34) (κ.2.2.2 0)) e2) (zgV lkC181 lkC182 lkC183 lkC52 lkC184) ⟨rfl, rfl⟩ hdX6_size ⟨Nat.le_of_ble_eq_true rfl, Nat.le_of_ble_eq_true rfl⟩ 33 34 (by decide) (wC_at33 κ _) (wC_at34 κ _) σ (zset2 (wC_at33 κ _) (wC_at34 κ _)) hl rfl rfl (Nat.le_of_ble_eq_true rfl) dX9_runs_4 ⟨Nat.zero_le _, Nat.zero_le _⟩ (fun H locs h => ?_)
  cases hf
  exact z_iret C h dX9_runs_7
theorem ctX9_runs {l : Launch} {κ : zG} {n : Nat} {σ : zS} {r : Int32} (hf : fX9_runs_0 n (κ.2.2.2 0) (κ.2.2.2 1) (κ.2.2.2 2) σ = some r) : zMi l yX9_runs (Cond.code yX9_runs cX9_runs 1 (some .int)) rmX9_runs wC κ [.ref (κ.2.1 0)] σ r σ :=
  zMi_of (by decide) (Nat.le_of_ble_eq_true rfl) (fun p e s m below meth c A C h ls hl => wX9_runs_0 C h hl hf)
theorem hdX2_setDesk : yX2_setDesk.cls = RX2 ∧ yX2_setDesk.cls ≠ "java/lang/invoke/MethodHandle" ∧ yX2_setDesk.cls ≠ "java/lang/invoke/VarHandle" ∧ (parseMethodDescriptor yX2_setDesk.desc).map (fun d => d.parameters.length) = some 2 := by decide +kernel
abbrev rmX2_setDesk : Room := { frames := 0, cells := 0, slots := 0, locals := 0 }
set_option maxRecDepth 20000 in
set_option maxHeartbeats 4000000 in
theorem wX2_setDesk_0 {p : Program} {l : Launch} {e : Env} {s : State} {m : MethodId} {args : Array Value} {below : List Frame} {meth : Method} {c : Code} {A : Nat → Prop} {κ : zG} {H : Heap} {locs : List Loc} {ls : Array Slot} {n : Nat} {σ : zS} {x1 : Int32} {x2 : Int64} {r : zS} (C : zC cX2_setDesk 4 none RX2 κ A p s m args meth c) (h : zH wC κ A s σ H locs) (hl : lv_has ls 4 [(0, .ref (κ.2.1 10)), (1, .int x1), (2, .long x2)]) (hf : fX2_setDesk_0 n (κ.2.2.2 0) (κ.2.2.2 1) (κ.2.2.2 2) σ x1 x2 = some r) : W p l e rmX2_setDesk s m args below meth c H locs 0 0 (MQ below (zQv wC κ A r) args s 0 0 A) (F0 m 0 ls []) := by
  unfold fX2_setDesk_0 at hf
  refine lv_iload_n C.ex C.by dX2_setDesk_0 rfl (lv_at hl 1 rfl) ?_
  refine lv_if_lt (tgt := 20) C.ex C.by dX2_setDesk_1 (by decide) (fun c1 => ?_) (fun c1 => ?_)
  · have hf := zif_t c1 hf
    cases hf
    exact z_vret C h dX2_setDesk_20
  · have hf := zif_f c1 hf
    refine lv_iload_n C.ex C.by dX2_setDesk_4 rfl (lv_at hl 1 rfl) ?_
    refine lv_aload_n C.ex C.by dX2_setDesk_5 rfl (lv_at hl 0 rfl) ?_
    refine z_get (v := .ref (κ.2.1 13)) C h iwX2 10 (wC_at10 κ _) rfl 3 (by decide) lkC306 rfl dX2_setDesk_6 ?_
    refine z_alen (t0 := 1) C h 13 (wC_at13 κ _) rfl dX2_setDesk_9 ?_
    refine lv_icmp_ge (tgt := 20) C.ex C.by dX2_setDesk_10 (by decide) (fun c2 => ?_) (fun c2 => ?_)
    · have hf := zif_t c2 hf
      cases hf
      exact z_vret C h dX2_setDesk_20
    · have hf := zif_f c2 hf
      refine lv_aload_n C.ex C.by dX2_setDesk_13 rfl (lv_at hl 0 rfl) ?_
      refine z_get (v := .ref (κ.2.1 13)) C h iwX2 10 (wC_at10 κ _) rfl 3 (by decide) lkC306 rfl dX2_setDesk_14 ?_
      refine lv_iload_n C.ex C.by dX2_setDesk_17 rfl (lv_at hl 1 rfl) ?_
      refine lv_lload_n C.ex C.by dX2_setDesk_18 rfl (lv_at hl 2 rfl) ?_
      obtain ⟨h3, hf⟩ := zg_some hf
      refine z_last (f := (zL σ 1)) C h 13 (wC_at13 κ _) h3 (sL σ 1 (vp_updL (zL σ 1) (Int32.toNatClampNeg x1) x2)) (wC_s13 κ _ _) dX2_setDesk_19 (fun H locs h => ?_)
      cases hf
      exact z_vret C h dX2_setDesk_20
theorem ctX2_setDesk {l : Launch} {κ : zG} {n : Nat} {σ : zS} {x1 : Int32} {x2 : Int64} {r : zS} (hf : fX2_setDesk_0 n (κ.2.2.2 0) (κ.2.2.2 1) (κ.2.2.2 2) σ x1 x2 = some r) : zMv l yX2_setDesk (Cond.code yX2_setDesk cX2_setDesk 4 none) rmX2_setDesk wC κ [.ref (κ.2.1 10), .int x1, .long x2] σ r :=
  zMv_of (by decide) (Nat.le_of_ble_eq_true rfl) (fun p e s m below meth c A C h ls hl => wX2_setDesk_0 C h hl hf)
abbrev rmX0_store_p13 : Room := { frames := 1, cells := 0, slots := 0, locals := 21 }
set_option maxRecDepth 20000 in
set_option maxHeartbeats 4000000 in
theorem wX0_store_p13_L84_84 {p : Program} {l : Launch} {e : Env} {s : State} {m : MethodId} {args : Array Value} {below : List Frame} {meth : Method} {c : Code} {A : Nat → Prop} {κ : zG} {H : Heap} {locs : List Loc} {ls : Array Slot} {Q : State → Prop} {n : Nat} {k2 : Int32} {k3 : Int32} {k4 : Int32} {a : Int32 × zS} {r : (Int32 × zS) ⊕ (zS)} (C : zC cX0_store 6 (some .int) RX0 κ A p s m args meth c) (h : zH wC κ A s a.2 H locs) (hl : lv_has ls 6 [(0, .ref (κ.2.1 1)), (1, .ref (κ.2.1 13)), (2, .int k2), (3, .int k3), (4, .int k4), (5, .int a.1)]) (hf : fX0_store_p13_L84_84 n (κ.2.2.2 0) (κ.2.2.2 1) (κ.2.2.2 2) k2 k3 k4 a = some r) (Kc : ∀ (v5 : Int32) (σ1 : zS), r = .inl (v5, σ1) → ∀ (H : Heap) (locs : List Loc) (ls : Array Slot), zH wC κ A s σ1 H locs → lv_has ls 6 [(0, .ref (κ.2.1 1)), (1, .ref (κ.2.1 13)), (2, .int k2), (3, .int k3), (4, .int k4), (5, .int v5)] → W p l e rmX0_store_p13 s m args below meth c H locs 0 0 Q (F0 m 84 ls [])) (Ke0 : ∀ (σ1 : zS), r = .inr σ1 → ∀ (H : Heap) (locs : List Loc) (ls : Array Slot), zH wC κ A s σ1 H locs → lv_has ls 6 [(0, .ref (κ.2.1 1)), (3, .int k3)] → W p l e rmX0_store_p13 s m args below meth c H locs 0 0 Q (F0 m 130 ls [])) : W p l e rmX0_store_p13 s m args below meth c H locs 0 0 Q (F0 m 84 ls []) := by
  unfold fX0_store_p13_L84_84 at hf
  refine lv_iload C.ex C.by dX0_store_84 (lv_at hl 5 rfl) ?_
  refine lv_iload_n C.ex C.by dX0_store_86 rfl (lv_at hl 2 rfl) ?_
  refine lv_icmp_ge (tgt := 130) C.ex C.by dX0_store_87 (by decide) (fun c10 => ?_) (fun c10 => ?_)
  · have hf := zif_t c10 hf
    exact Ke0 _ (Option.some.inj hf).symm _ _ _ h (lv_sub hl [0, 3] rfl)
  · have hf := zif_f c10 hf
    refine lv_iload C.ex C.by dX0_store_90 (lv_at hl 5 rfl) ?_
    refine lv_aload_n C.ex C.by dX0_store_92 rfl (lv_at hl 1 rfl) ?_
    refine z_alen (t0 := 1) C h 13 (wC_at13 κ _) rfl dX0_store_93 ?_
    refine lv_icmp_ge (tgt := 130) C.ex C.by dX0_store_94 (by decide) (fun c11 => ?_) (fun c11 => ?_)
    · have hf := zif_t c11 hf
      exact Ke0 _ (Option.some.inj hf).symm _ _ _ h (lv_sub hl [0, 3] rfl)
    · have hf := zif_f c11 hf
      refine lv_iload C.ex C.by dX0_store_97 (lv_at hl 4 rfl) ?_
      refine lv_iload C.ex C.by dX0_store_99 (lv_at hl 5 rfl) ?_
      refine lv_iadd C.ex C.by dX0_store_101 ?_
      refine lv_aload_n C.ex C.by dX0_store_102 rfl (lv_at hl 0 rfl) ?_
      refine z_get (v := .ref (κ.2.1 2)) C h iwX0 1 (wC_at1 κ _) rfl 1 (by decide) lkC30 rfl dX0_store_103 ?_
      refine z_alen (t0 := 1) C h 2 (wC_at2 κ _) rfl dX0_store_106 ?_
      refine lv_icmp_ge (tgt := 130) C.ex C.by dX0_store_107 (by decide) (fun c12 => ?_) (fun c12 => ?_)
      · have hf := zif_t c12 hf
        exact Ke0 _ (Option.some.inj hf).symm _ _ _ h (lv_sub hl [0, 3] rfl)
      · have hf := zif_f c12 hf
        refine lv_aload_n C.ex C.by dX0_store_110 rfl (lv_at hl 0 rfl) ?_
        refine z_get (v := .ref (κ.2.1 2)) C h iwX0 1 (wC_at1 κ _) rfl 1 (by decide) lkC30 rfl dX0_store_111 ?_
        refine lv_iload C.ex C.by dX0_store_114 (lv_at hl 4 rfl) ?_
        refine lv_iload C.ex C.by dX0_store_116 (lv_at hl 5 rfl) ?_
        refine lv_iadd C.ex C.by dX0_store_118 ?_
        refine lv_aload_n C.ex C.by dX0_store_119 rfl (lv_at hl 1 rfl) ?_
        refine lv_iload C.ex C.by dX0_store_120 (lv_at hl 5 rfl) ?_
        obtain ⟨h13, hf⟩ := zg_some hf
        refine z_lald (f := (zL a.2 1)) C h 13 (wC_at13 κ _) h13 dX0_store_122 ?_
        obtain ⟨h14, hf⟩ := zg_some hf
        refine z_last (f := (zL a.2 0)) C h 2 (wC_at2 κ _) h14 (sL a.2 0 (vp_updL (zL a.2 0) (Int32.toNatClampNeg (k4 + a.1)) ((zL a.2 1) (Int32.toNatClampNeg a.1)))) (wC_s2 κ _ _) dX0_store_123 (fun H locs h => ?_)
        refine lv_iinc (v := (a.1 + 1)) (lv' := [(5, .int (a.1 + 1)), (0, .ref (κ.2.1 1)), (1, .ref (κ.2.1 13)), (2, .int k2), (3, .int k3), (4, .int k4)]) C.ex C.by dX0_store_124 hl (k := 5) rfl rfl (by decide) rfl (fun ls hl => ?_)
        refine lv_goto (tgt := 84) C.ex C.by dX0_store_127 (by decide) ?_
        exact Kc _ _ (Option.some.inj hf).symm _ _ _ h (lv_sub hl [1, 2, 3, 4, 5, 0] rfl)
theorem wlX0_store_p13_84 {p : Program} {l : Launch} {e : Env} {s : State} {m : MethodId} {args : Array Value} {below : List Frame} {meth : Method} {c : Code} {A : Nat → Prop} {κ : zG} {H : Heap} {locs : List Loc} {ls : Array Slot} {Q : State → Prop} {n : Nat} {k2 : Int32} {k3 : Int32} {k4 : Int32} {k0 : Nat} {u5 : Int32} {σ1 : zS} (C : zC cX0_store 6 (some .int) RX0 κ A p s m args meth c) (h : zH wC κ A s σ1 H locs) (hl : lv_has ls 6 [(0, .ref (κ.2.1 1)), (1, .ref (κ.2.1 13)), (2, .int k2), (3, .int k3), (4, .int k4), (5, .int u5)]) (b : zS) (hb : zlp (fX0_store_p13_L84_84 n (κ.2.2.2 0) (κ.2.2.2 1) (κ.2.2.2 2) k2 k3 k4) k0 (u5, σ1) = some b) (K : (fun b : zS => ∀ (H : Heap) (locs : List Loc) (ls : Array Slot), zH wC κ A s b H locs → lv_has ls 6 [(0, .ref (κ.2.1 1)), (3, .int k3)] → W p l e rmX0_store_p13 s m args below meth c H locs 0 0 Q (F0 m 130 ls [])) b) : W p l e rmX0_store_p13 s m args below meth c H locs 0 0 Q (F0 m 84 ls []) :=
  z_loop (body := fX0_store_p13_L84_84 n (κ.2.2.2 0) (κ.2.2.2 1) (κ.2.2.2 2) k2 k3 k4) (Wd := (fun a : Int32 × zS => ∀ (H : Heap) (locs : List Loc) (ls : Array Slot), zH wC κ A s a.2 H locs → lv_has ls 6 [(0, .ref (κ.2.1 1)), (1, .ref (κ.2.1 13)), (2, .int k2), (3, .int k3), (4, .int k4), (5, .int a.1)] → W p l e rmX0_store_p13 s m args below meth c H locs 0 0 Q (F0 m 84 ls []))) (Ex := (fun b : zS => (fun b : zS => ∀ (H : Heap) (locs : List Loc) (ls : Array Slot), zH wC κ A s b H locs → lv_has ls 6 [(0, .ref (κ.2.1 1)), (3, .int k3)] → W p l e rmX0_store_p13 s m args below meth c H locs 0 0 Q (F0 m 130 ls [])) b)) (fun a r hr Kc Ke H locs ls h hl => wX0_store_p13_L84_84 C h hl hr (fun v5 σ1 e => Kc (v5, σ1) e) (fun σ1 e => Ke σ1 e)) k0 (u5, σ1) b hb K H locs ls h hl
set_option maxRecDepth 20000 in
set_option maxHeartbeats 4000000 in
theorem wX0_store_p13_51 {p : Program} {l : Launch} {e : Env} {s : State} {m : MethodId} {args : Array Value} {below : List Frame} {meth : Method} {c : Code} {A : Nat → Prop} {κ : zG} {H : Heap} {locs : List Loc} {ls : Array Slot} {n : Nat} {σ : zS} {x2 : Int32} {x3 : Int32} {r1 : Int32} {r2 : zS} (C : zC cX0_store 6 (some .int) RX0 κ A p s m args meth c) (h : zH wC κ A s σ H locs) (hl : lv_has ls 6 [(0, .ref (κ.2.1 1)), (1, .ref (κ.2.1 13)), (2, .int x2), (3, .int x3)]) (hf : fX0_store_p13_51 n (κ.2.2.2 0) (κ.2.2.2 1) (κ.2.2.2 2) σ x2 x3 = some (r1, r2)) : W p l e rmX0_store_p13 s m args below meth c H locs 0 0 (MQ below (zQi wC κ A r1 r2) args s 0 0 A) (F0 m 51 ls []) := by
  unfold fX0_store_p13_51 at hf
  refine lv_aload_n C.ex C.by dX0_store_51 rfl (lv_at hl 0 rfl) ?_
  refine z_get (v := .ref (κ.2.1 3)) C h iwX0 1 (wC_at1 κ _) rfl 2 (by decide) lkC124 rfl dX0_store_52 ?_
  refine lv_iload_n C.ex C.by dX0_store_55 rfl (lv_at hl 3 rfl) ?_
  refine lv_iconst (v := 1) C.ex C.by dX0_store_56 (by decide) ?_
  obtain ⟨h7, hf⟩ := zg_some hf
  refine z_zast (f := (zA σ 0)) C h 3 (wC_at3 κ _) h7 (sA σ 0 (upd (zA σ 0) (Int32.toNatClampNeg x3) (vp_nar .boolean 1))) (wC_s3 κ _ _) dX0_store_57 (fun H locs h => ?_)
  refine lv_aload_n C.ex C.by dX0_store_58 rfl (lv_at hl 0 rfl) ?_
  refine lv_dup C.ex C.by dX0_store_59 rfl ?_
  refine z_get (v := .int (zI σ 3)) C h iwX0 1 (wC_at1 κ _) rfl 4 (by decide) lkC131 rfl dX0_store_60 ?_
  refine lv_iconst (v := 1) C.ex C.by dX0_store_63 (by decide) ?_
  refine lv_iadd C.ex C.by dX0_store_64 ?_
  refine z_put C h iwX0 tyX0_ok nmX0 1 (wC_at1 κ _) rfl 4 (by decide) lkC131 rfl rfl rfl (Nat.le_of_ble_eq_true rfl) (sI (sA σ 0 (upd (zA σ 0) (Int32.toNatClampNeg x3) (vp_nar .boolean 1))) 3 ((zI σ 3) + 1)) (wC_s1_4 κ _ _) dX0_store_65 (fun H locs h => ?_)
  refine lv_aload_n C.ex C.by dX0_store_68 rfl (lv_at hl 0 rfl) ?_
  refine lv_iload_n C.ex C.by dX0_store_69 rfl (lv_at hl 3 rfl) ?_
  obtain ⟨q8, e9, hf⟩ := zb_some hf
  refine z_callVv (As := [.int x3]) C h (ctX0_moveArm e9) (zgV lkC21 lkC22 lkC23 lkC24 lkC25) ⟨rfl, rfl⟩ hdX0_moveArm ⟨Nat.le_of_ble_eq_true rfl, Nat.le_of_ble_eq_true rfl⟩ 1 (wC_at1 κ _) rfl hl rfl rfl (Nat.le_of_ble_eq_true rfl) dX0_store_70 ⟨Nat.zero_le _, Nat.zero_le _⟩ (fun H locs h => ?_)
  refine lv_iload_n C.ex C.by dX0_store_73 rfl (lv_at hl 3 rfl) ?_
  refine lv_aload_n C.ex C.by dX0_store_74 rfl (lv_at hl 0 rfl) ?_
  refine z_get (v := .int (zI q8 1)) C h iwX0 1 (wC_at1 κ _) rfl 0 (by decide) lkC132 rfl dX0_store_75 ?_
  refine lv_imul C.ex C.by dX0_store_78 ?_
  refine lv_istore (lv' := [(4, .int (x3 * (zI q8 1))), (0, .ref (κ.2.1 1)), (1, .ref (κ.2.1 13)), (2, .int x2), (3, .int x3)]) C.ex C.by dX0_store_79 hl (by decide) rfl (fun ls hl => ?_)
  refine lv_iconst (v := 0) C.ex C.by dX0_store_81 (by decide) ?_
  refine lv_istore (lv' := [(5, .int 0), (4, .int (x3 * (zI q8 1))), (0, .ref (κ.2.1 1)), (1, .ref (κ.2.1 13)), (2, .int x2), (3, .int x3)]) C.ex C.by dX0_store_82 hl (by decide) rfl (fun ls hl => ?_)
  obtain ⟨b15, e16, hf⟩ := zb_some hf
  refine wlX0_store_p13_84 C h (lv_sub hl [2, 3, 4, 5, 1, 0] rfl) b15 e16 ?_
  intro H locs ls h hl
  refine lv_iload_n C.ex C.by dX0_store_130 rfl (lv_at hl 1 rfl) ?_
  cases hf
  exact z_iret C h dX0_store_131
set_option maxRecDepth 20000 in
set_option maxHeartbeats 4000000 in
theorem wX0_store_p13_0 {p : Program} {l : Launch} {e : Env} {s : State} {m : MethodId} {args : Array Value} {below : List Frame} {meth : Method} {c : Code} {A : Nat → Prop} {κ : zG} {H : Heap} {locs : List Loc} {ls : Array Slot} {n : Nat} {σ : zS} {x2 : Int32} {r1 : Int32} {r2 : zS} (C : zC cX0_store 6 (some .int) RX0 κ A p s m args meth c) (h : zH wC κ A s σ H locs) (hl : lv_has ls 6 [(0, .ref (κ.2.1 1)), (1, .ref (κ.2.1 13)), (2, .int x2)]) (hf : fX0_store_p13_0 n (κ.2.2.2 0) (κ.2.2.2 1) (κ.2.2.2 2) σ x2 = some (r1, r2)) : W p l e rmX0_store_p13 s m args below meth c H locs 0 0 (MQ below (zQi wC κ A r1 r2) args s 0 0 A) (F0 m 0 ls []) := by
  unfold fX0_store_p13_0 at hf
  refine lv_aload_n C.ex C.by dX0_store_0 rfl (lv_at hl 0 rfl) ?_
  obtain ⟨q1, e2, hf⟩ := zb_some hf
  refine z_callVi (As := []) C h (ctX0_leastFree e2) (zgV lkC125 lkC126 lkC127 lkC24 lkC128) ⟨rfl, rfl⟩ hdX0_leastFree ⟨Nat.le_of_ble_eq_true rfl, Nat.le_of_ble_eq_true rfl⟩ 1 (wC_at1 κ _) rfl hl rfl rfl (Nat.le_of_ble_eq_true rfl) dX0_store_1 ⟨Nat.zero_le _, Nat.zero_le _⟩ (fun H locs h => ?_)
  refine lv_istore_n (lv' := [(3, .int q1), (0, .ref (κ.2.1 1)), (1, .ref (κ.2.1 13)), (2, .int x2)]) C.ex C.by dX0_store_4 rfl hl (by decide) rfl (fun ls hl => ?_)
  refine lv_iload_n C.ex C.by dX0_store_5 rfl (lv_at hl 0 rfl) ?_
  refine lv_if_lt (tgt := 18) C.ex C.by dX0_store_6 (by decide) (fun c3 => ?_) (fun c3 => ?_)
  · have hf := zif_t c3 hf
    refine lv_iconst (v := (-1)) C.ex C.by dX0_store_18 (by decide) ?_
    cases hf
    exact z_iret C h dX0_store_19
  · have hf := zif_f c3 hf
    refine lv_iload_n C.ex C.by dX0_store_9 rfl (lv_at hl 0 rfl) ?_
    refine lv_aload_n C.ex C.by dX0_store_10 rfl (lv_at hl 1 rfl) ?_
    refine z_get (v := .ref (κ.2.1 3)) C h iwX0 1 (wC_at1 κ _) rfl 2 (by decide) lkC124 rfl dX0_store_11 ?_
    refine z_alen (t0 := 2) C h 3 (wC_at3 κ _) rfl dX0_store_14 ?_
    refine lv_icmp_lt (tgt := 20) C.ex C.by dX0_store_15 (by decide) (fun c4 => ?_) (fun c4 => ?_)
    · have hf := zif_t c4 hf
      refine lv_aload_n C.ex C.by dX0_store_20 rfl (lv_at hl 1 rfl) ?_
      refine z_get (v := .int (zI σ 6)) C h iwX0 1 (wC_at1 κ _) rfl 7 (by decide) lkC129 rfl dX0_store_21 ?_
      refine lv_if_ne (tgt := 34) C.ex C.by dX0_store_24 (by decide) (fun c5 => ?_) (fun c5 => ?_)
      · have hf := zif_f c5 hf
        refine lv_aload_n C.ex C.by dX0_store_34 rfl (lv_at hl 1 rfl) ?_
        refine z_get (v := .int (zI σ 6)) C h iwX0 1 (wC_at1 κ _) rfl 7 (by decide) lkC129 rfl dX0_store_35 ?_
        refine lv_if_le (tgt := 51) C.ex C.by dX0_store_38 (by decide) (fun c6 => ?_) (fun c6 => ?_)
        · have hf := zif_t c6 hf
          exact wX0_store_p13_51 C h (lv_sub hl [1, 2, 3, 0] rfl) hf
        · have hf := zif_f c6 hf
          refine lv_aload_n C.ex C.by dX0_store_41 rfl (lv_at hl 1 rfl) ?_
          refine lv_dup C.ex C.by dX0_store_42 rfl ?_
          refine z_get (v := .int (zI σ 6)) C h iwX0 1 (wC_at1 κ _) rfl 7 (by decide) lkC129 rfl dX0_store_43 ?_
          refine lv_iconst (v := 1) C.ex C.by dX0_store_46 (by decide) ?_
          refine lv_isub C.ex C.by dX0_store_47 ?_
          refine z_put C h iwX0 tyX0_ok nmX0 1 (wC_at1 κ _) rfl 7 (by decide) lkC129 rfl rfl rfl (Nat.le_of_ble_eq_true rfl) (sI σ 6 ((zI σ 6) - 1)) (wC_s1_7 κ _ _) dX0_store_48 (fun H locs h => ?_)
          exact wX0_store_p13_51 C h (lv_sub hl [1, 2, 3, 0] rfl) hf
      · have hf := zif_t c5 hf
        refine lv_aload_n C.ex C.by dX0_store_27 rfl (lv_at hl 1 rfl) ?_
        refine lv_iconst (v := 1) C.ex C.by dX0_store_28 (by decide) ?_
        refine z_put C h iwX0 tyX0_ok nmX0 1 (wC_at1 κ _) rfl 8 (by decide) lkC130 rfl rfl rfl (Nat.le_of_ble_eq_true rfl) (sI σ 7 1) (wC_s1_8 κ _ _) dX0_store_29 (fun H locs h => ?_)
        refine lv_iconst (v := (-1)) C.ex C.by dX0_store_32 (by decide) ?_
        cases hf
        exact z_iret C h dX0_store_33
    · have hf := zif_f c4 hf
      refine lv_iconst (v := (-1)) C.ex C.by dX0_store_18 (by decide) ?_
      cases hf
      exact z_iret C h dX0_store_19
theorem ctX0_store_p13 {l : Launch} {κ : zG} {n : Nat} {σ : zS} {x2 : Int32} {r1 : Int32} {r2 : zS} (hf : fX0_store_p13_0 n (κ.2.2.2 0) (κ.2.2.2 1) (κ.2.2.2 2) σ x2 = some (r1, r2)) : zMi l yX0_store (Cond.code yX0_store cX0_store 6 (some .int)) rmX0_store_p13 wC κ [.ref (κ.2.1 1), .ref (κ.2.1 13), .int x2] σ r1 r2 :=
  zMi_of (by decide) (Nat.le_of_ble_eq_true rfl) (fun p e s m below meth c A C h ls hl => wX0_store_p13_0 C h hl hf)
theorem hdX2_bring : yX2_bring.cls = RX2 ∧ yX2_bring.cls ≠ "java/lang/invoke/MethodHandle" ∧ yX2_bring.cls ≠ "java/lang/invoke/VarHandle" ∧ (parseMethodDescriptor yX2_bring.desc).map (fun d => d.parameters.length) = some 1 := by decide +kernel
abbrev rmX2_bring_p35 : Room := { frames := 2, cells := 0, slots := 0, locals := 46 }
set_option maxRecDepth 20000 in
set_option maxHeartbeats 4000000 in
theorem wX2_bring_p35_L15_15 {p : Program} {l : Launch} {e : Env} {s : State} {m : MethodId} {args : Array Value} {below : List Frame} {meth : Method} {c : Code} {A : Nat → Prop} {κ : zG} {H : Heap} {locs : List Loc} {ls : Array Slot} {Q : State → Prop} {n : Nat} {k2 : Int32} {a : Int32 × zS} {r : (Int32 × zS) ⊕ (zS)} (C : zC cX2_bring 4 (some .int) RX2 κ A p s m args meth c) (h : zH wC κ A s a.2 H locs) (hl : lv_has ls 4 [(0, .ref (κ.2.1 10)), (1, .ref (κ.2.1 35)), (2, .int k2), (3, .int a.1)]) (hf : fX2_bring_p35_L15_15 n (κ.2.2.2 0) (κ.2.2.2 1) (κ.2.2.2 2) k2 a = some r) (Kc : ∀ (v3 : Int32) (σ1 : zS), r = .inl (v3, σ1) → ∀ (H : Heap) (locs : List Loc) (ls : Array Slot), zH wC κ A s σ1 H locs → lv_has ls 4 [(0, .ref (κ.2.1 10)), (1, .ref (κ.2.1 35)), (2, .int k2), (3, .int v3)] → W p l e rmX2_bring_p35 s m args below meth c H locs 0 0 Q (F0 m 15 ls [])) (Ke0 : ∀ (σ1 : zS), r = .inr σ1 → ∀ (H : Heap) (locs : List Loc) (ls : Array Slot), zH wC κ A s σ1 H locs → lv_has ls 4 [(0, .ref (κ.2.1 10)), (2, .int k2)] → W p l e rmX2_bring_p35 s m args below meth c H locs 0 0 Q (F0 m 48 ls [])) : W p l e rmX2_bring_p35 s m args below meth c H locs 0 0 Q (F0 m 15 ls []) := by
  unfold fX2_bring_p35_L15_15 at hf
  refine lv_iload_n C.ex C.by dX2_bring_15 rfl (lv_at hl 3 rfl) ?_
  refine lv_aload_n C.ex C.by dX2_bring_16 rfl (lv_at hl 0 rfl) ?_
  refine z_get (v := .ref (κ.2.1 4)) C h iwX2 10 (wC_at10 κ _) rfl 1 (by decide) lkC43 rfl dX2_bring_17 ?_
  refine z_getN (v := .int (zI a.2 9)) C h iwX5 4 (wC_at4 κ _) rfl 4 (by decide) nkC18 rfl dX2_bring_20 ?_
  refine lv_icmp_ge (tgt := 48) C.ex C.by dX2_bring_23 (by decide) (fun c1 => ?_) (fun c1 => ?_)
  · have hf := zif_t c1 hf
    exact Ke0 _ (Option.some.inj hf).symm _ _ _ h (lv_sub hl [0, 2] rfl)
  · have hf := zif_f c1 hf
    refine lv_iload_n C.ex C.by dX2_bring_26 rfl (lv_at hl 3 rfl) ?_
    refine lv_aload_n C.ex C.by dX2_bring_27 rfl (lv_at hl 1 rfl) ?_
    refine z_alen (t0 := 1) C h 35 (wC_at35 κ _) rfl dX2_bring_28 ?_
    refine lv_icmp_ge (tgt := 48) C.ex C.by dX2_bring_29 (by decide) (fun c2 => ?_) (fun c2 => ?_)
    · have hf := zif_t c2 hf
      exact Ke0 _ (Option.some.inj hf).symm _ _ _ h (lv_sub hl [0, 2] rfl)
    · have hf := zif_f c2 hf
      refine lv_aload_n C.ex C.by dX2_bring_32 rfl (lv_at hl 0 rfl) ?_
      refine lv_iload_n C.ex C.by dX2_bring_33 rfl (lv_at hl 2 rfl) ?_
      refine lv_iload_n C.ex C.by dX2_bring_34 rfl (lv_at hl 3 rfl) ?_
      refine lv_iadd C.ex C.by dX2_bring_35 ?_
      refine lv_aload_n C.ex C.by dX2_bring_36 rfl (lv_at hl 1 rfl) ?_
      refine lv_iload_n C.ex C.by dX2_bring_37 rfl (lv_at hl 3 rfl) ?_
      obtain ⟨h3, hf⟩ := zg_some hf
      refine z_lald (f := (zL a.2 3)) C h 35 (wC_at35 κ _) h3 dX2_bring_38 ?_
      obtain ⟨q4, e5, hf⟩ := zb_some hf
      refine z_callVv (As := [.int (k2 + a.1), .long ((zL a.2 3) (Int32.toNatClampNeg a.1))]) C h (ctX2_setDesk e5) (zgV lkC307 lkC308 lkC309 lkC60 lkC310) ⟨rfl, rfl⟩ hdX2_setDesk ⟨Nat.le_of_ble_eq_true rfl, Nat.le_of_ble_eq_true rfl⟩ 10 (wC_at10 κ _) rfl hl rfl rfl (Nat.le_of_ble_eq_true rfl) dX2_bring_39 ⟨Nat.zero_le _, Nat.zero_le _⟩ (fun H locs h => ?_)
      refine lv_iinc (v := (a.1 + 1)) (lv' := [(3, .int (a.1 + 1)), (0, .ref (κ.2.1 10)), (1, .ref (κ.2.1 35)), (2, .int k2)]) C.ex C.by dX2_bring_42 hl (k := 3) rfl rfl (by decide) rfl (fun ls hl => ?_)
      refine lv_goto (tgt := 15) C.ex C.by dX2_bring_45 (by decide) ?_
      exact Kc _ _ (Option.some.inj hf).symm _ _ _ h (lv_sub hl [1, 2, 3, 0] rfl)
theorem wlX2_bring_p35_15 {p : Program} {l : Launch} {e : Env} {s : State} {m : MethodId} {args : Array Value} {below : List Frame} {meth : Method} {c : Code} {A : Nat → Prop} {κ : zG} {H : Heap} {locs : List Loc} {ls : Array Slot} {Q : State → Prop} {n : Nat} {k2 : Int32} {k0 : Nat} {u3 : Int32} {σ1 : zS} (C : zC cX2_bring 4 (some .int) RX2 κ A p s m args meth c) (h : zH wC κ A s σ1 H locs) (hl : lv_has ls 4 [(0, .ref (κ.2.1 10)), (1, .ref (κ.2.1 35)), (2, .int k2), (3, .int u3)]) (b : zS) (hb : zlp (fX2_bring_p35_L15_15 n (κ.2.2.2 0) (κ.2.2.2 1) (κ.2.2.2 2) k2) k0 (u3, σ1) = some b) (K : (fun b : zS => ∀ (H : Heap) (locs : List Loc) (ls : Array Slot), zH wC κ A s b H locs → lv_has ls 4 [(0, .ref (κ.2.1 10)), (2, .int k2)] → W p l e rmX2_bring_p35 s m args below meth c H locs 0 0 Q (F0 m 48 ls [])) b) : W p l e rmX2_bring_p35 s m args below meth c H locs 0 0 Q (F0 m 15 ls []) :=
  z_loop (body := fX2_bring_p35_L15_15 n (κ.2.2.2 0) (κ.2.2.2 1) (κ.2.2.2 2) k2) (Wd := (fun a : Int32 × zS => ∀ (H : Heap) (locs : List Loc) (ls : Array Slot), zH wC κ A s a.2 H locs → lv_has ls 4 [(0, .ref (κ.2.1 10)), (1, .ref (κ.2.1 35)), (2, .int k2), (3, .int a.1)] → W p l e rmX2_bring_p35 s m args below meth c H locs 0 0 Q (F0 m 15 ls []))) (Ex := (fun b : zS => (fun b : zS => ∀ (H : Heap) (locs : List Loc) (ls : Array Slot), zH wC κ A s b H locs → lv_has ls 4 [(0, .ref (κ.2.1 10)), (2, .int k2)] → W p l e rmX2_bring_p35 s m args below meth c H locs 0 0 Q (F0 m 48 ls [])) b)) (fun a r hr Kc Ke H locs ls h hl => wX2_bring_p35_L15_15 C h hl hr (fun v3 σ1 e => Kc (v3, σ1) e) (fun σ1 e => Ke σ1 e)) k0 (u3, σ1) b hb K H locs ls h hl
set_option maxRecDepth 20000 in
set_option maxHeartbeats 4000000 in
theorem wX2_bring_p35_142 {p : Program} {l : Launch} {e : Env} {s : State} {m : MethodId} {args : Array Value} {below : List Frame} {meth : Method} {c : Code} {A : Nat → Prop} {κ : zG} {H : Heap} {locs : List Loc} {ls : Array Slot} {n : Nat} {σ : zS} {r1 : Int32} {r2 : zS} (C : zC cX2_bring 4 (some .int) RX2 κ A p s m args meth c) (h : zH wC κ A s σ H locs) (hl : lv_has ls 4 [(0, .ref (κ.2.1 10))]) (hf : fX2_bring_p35_142 n (κ.2.2.2 0) (κ.2.2.2 1) (κ.2.2.2 2) σ = some (r1, r2)) : W p l e rmX2_bring_p35 s m args below meth c H locs 0 0 (MQ below (zQi wC κ A r1 r2) args s 0 0 A) (F0 m 142 ls []) := by
  unfold fX2_bring_p35_142 at hf
  refine lv_aload_n C.ex C.by dX2_bring_142 rfl (lv_at hl 0 rfl) ?_
  refine lv_dup C.ex C.by dX2_bring_143 rfl ?_
  refine z_get (v := .int (zI σ 13)) C h iwX2 10 (wC_at10 κ _) rfl 5 (by decide) lkC311 rfl dX2_bring_144 ?_
  refine lv_iconst (v := 1) C.ex C.by dX2_bring_147 (by decide) ?_
  refine lv_iadd C.ex C.by dX2_bring_148 ?_
  refine z_put C h iwX2 tyX2_ok nmX2 10 (wC_at10 κ _) rfl 5 (by decide) lkC311 rfl rfl rfl (Nat.le_of_ble_eq_true rfl) (sI σ 13 ((zI σ 13) + 1)) (wC_s10_5 κ _ _) dX2_bring_149 (fun H locs h => ?_)
  refine lv_aload_n C.ex C.by dX2_bring_152 rfl (lv_at hl 0 rfl) ?_
  refine z_get (v := .int ((zI σ 13) + 1)) C h iwX2 10 (wC_at10 κ _) rfl 5 (by decide) lkC311 rfl dX2_bring_153 ?_
  refine lv_iconst (v := 1) C.ex C.by dX2_bring_156 (by decide) ?_
  refine lv_isub C.ex C.by dX2_bring_157 ?_
  cases hf
  exact z_iret C h dX2_bring_158
set_option maxRecDepth 20000 in
set_option maxHeartbeats 4000000 in
theorem wX2_bring_p35_0 {p : Program} {l : Launch} {e : Env} {s : State} {m : MethodId} {args : Array Value} {below : List Frame} {meth : Method} {c : Code} {A : Nat → Prop} {κ : zG} {H : Heap} {locs : List Loc} {ls : Array Slot} {n : Nat} {σ : zS} {r1 : Int32} {r2 : zS} (C : zC cX2_bring 4 (some .int) RX2 κ A p s m args meth c) (h : zH wC κ A s σ H locs) (hl : lv_has ls 4 [(0, .ref (κ.2.1 10)), (1, .ref (κ.2.1 35))]) (hf : fX2_bring_p35_0 n (κ.2.2.2 0) (κ.2.2.2 1) (κ.2.2.2 2) σ = some (r1, r2)) : W p l e rmX2_bring_p35 s m args below meth c H locs 0 0 (MQ below (zQi wC κ A r1 r2) args s 0 0 A) (F0 m 0 ls []) := by
  unfold fX2_bring_p35_0 at hf
  refine lv_aload_n C.ex C.by dX2_bring_0 rfl (lv_at hl 0 rfl) ?_
  refine z_get (v := .int (zI σ 12)) C h iwX2 10 (wC_at10 κ _) rfl 4 (by decide) lkC305 rfl dX2_bring_1 ?_
  refine lv_aload_n C.ex C.by dX2_bring_4 rfl (lv_at hl 0 rfl) ?_
  refine z_get (v := .ref (κ.2.1 4)) C h iwX2 10 (wC_at10 κ _) rfl 1 (by decide) lkC43 rfl dX2_bring_5 ?_
  refine z_getN (v := .int (zI σ 10)) C h iwX5 4 (wC_at4 κ _) rfl 5 (by decide) nkC8 rfl dX2_bring_8 ?_
  refine lv_imul C.ex C.by dX2_bring_11 ?_
  refine lv_istore_n (lv' := [(2, .int ((zI σ 12) * (zI σ 10))), (0, .ref (κ.2.1 10)), (1, .ref (κ.2.1 35))]) C.ex C.by dX2_bring_12 rfl hl (by decide) rfl (fun ls hl => ?_)
  refine lv_iconst (v := 0) C.ex C.by dX2_bring_13 (by decide) ?_
  refine lv_istore_n (lv' := [(3, .int 0), (2, .int ((zI σ 12) * (zI σ 10))), (0, .ref (κ.2.1 10)), (1, .ref (κ.2.1 35))]) C.ex C.by dX2_bring_14 rfl hl (by decide) rfl (fun ls hl => ?_)
  obtain ⟨b6, e7, hf⟩ := zb_some hf
  refine wlX2_bring_p35_15 C h (lv_sub hl [2, 3, 1, 0] rfl) b6 e7 ?_
  intro H locs ls h hl
  refine lv_aload_n C.ex C.by dX2_bring_48 rfl (lv_at hl 0 rfl) ?_
  refine lv_iload_n C.ex C.by dX2_bring_49 rfl (lv_at hl 1 rfl) ?_
  refine lv_aload_n C.ex C.by dX2_bring_50 rfl (lv_at hl 0 rfl) ?_
  refine z_get (v := .ref (κ.2.1 4)) C h iwX2 10 (wC_at10 κ _) rfl 1 (by decide) lkC43 rfl dX2_bring_51 ?_
  refine z_getN (v := .int (zI b6 9)) C h iwX5 4 (wC_at4 κ _) rfl 4 (by decide) nkC18 rfl dX2_bring_54 ?_
  refine lv_iadd C.ex C.by dX2_bring_57 ?_
  refine lv_aload_n C.ex C.by dX2_bring_58 rfl (lv_at hl 0 rfl) ?_
  refine z_get (v := .int (zI b6 13)) C h iwX2 10 (wC_at10 κ _) rfl 5 (by decide) lkC311 rfl dX2_bring_59 ?_
  refine lv_i2l (v := (Int32.toInt64 (zI b6 13))) C.ex C.by dX2_bring_62 rfl ?_
  obtain ⟨q8, e9, hf⟩ := zb_some hf
  refine z_callVv (As := [.int (((zI σ 12) * (zI σ 10)) + (zI b6 9)), .long (Int32.toInt64 (zI b6 13))]) C h (ctX2_setDesk e9) (zgV lkC307 lkC308 lkC309 lkC60 lkC310) ⟨rfl, rfl⟩ hdX2_setDesk ⟨Nat.le_of_ble_eq_true rfl, Nat.le_of_ble_eq_true rfl⟩ 10 (wC_at10 κ _) rfl hl rfl rfl (Nat.le_of_ble_eq_true rfl) dX2_bring_63 ⟨Nat.zero_le _, Nat.zero_le _⟩ (fun H locs h => ?_)
  refine lv_aload_n C.ex C.by dX2_bring_66 rfl (lv_at hl 0 rfl) ?_
  refine z_get (v := .int (zI q8 12)) C h iwX2 10 (wC_at10 κ _) rfl 4 (by decide) lkC305 rfl dX2_bring_67 ?_
  refine lv_iconst (v := 1) C.ex C.by dX2_bring_70 (by decide) ?_
  refine lv_iadd C.ex C.by dX2_bring_71 ?_
  refine lv_aload_n C.ex C.by dX2_bring_72 rfl (lv_at hl 0 rfl) ?_
  refine z_get (v := .ref (κ.2.1 4)) C h iwX2 10 (wC_at10 κ _) rfl 1 (by decide) lkC43 rfl dX2_bring_73 ?_
  refine z_getN (v := .int (zI q8 11)) C h iwX5 4 (wC_at4 κ _) rfl 6 (by decide) nkC6 rfl dX2_bring_76 ?_
  refine lv_icmp_ge (tgt := 95) C.ex C.by dX2_bring_79 (by decide) (fun c10 => ?_) (fun c10 => ?_)
  · have hf := zif_t c10 hf
    refine lv_aload_n C.ex C.by dX2_bring_95 rfl (lv_at hl 0 rfl) ?_
    refine z_get (v := .ref (κ.2.1 1)) C h iwX2 10 (wC_at10 κ _) rfl 0 (by decide) lkC54 rfl dX2_bring_96 ?_
    refine lv_aload_n C.ex C.by dX2_bring_99 rfl (lv_at hl 0 rfl) ?_
    refine z_get (v := .ref (κ.2.1 13)) C h iwX2 10 (wC_at10 κ _) rfl 3 (by decide) lkC306 rfl dX2_bring_100 ?_
    refine lv_aload_n C.ex C.by dX2_bring_103 rfl (lv_at hl 0 rfl) ?_
    refine z_get (v := .ref (κ.2.1 4)) C h iwX2 10 (wC_at10 κ _) rfl 1 (by decide) lkC43 rfl dX2_bring_104 ?_
    refine z_getN (v := .int (zI q8 11)) C h iwX5 4 (wC_at4 κ _) rfl 6 (by decide) nkC6 rfl dX2_bring_107 ?_
    refine lv_aload_n C.ex C.by dX2_bring_110 rfl (lv_at hl 0 rfl) ?_
    refine z_get (v := .ref (κ.2.1 4)) C h iwX2 10 (wC_at10 κ _) rfl 1 (by decide) lkC43 rfl dX2_bring_111 ?_
    refine z_getN (v := .int (zI q8 10)) C h iwX5 4 (wC_at4 κ _) rfl 5 (by decide) nkC8 rfl dX2_bring_114 ?_
    refine lv_imul C.ex C.by dX2_bring_117 ?_
    obtain ⟨q11, e12, hf⟩ := zb_some hf
    refine z_callVi (As := [.ref (κ.2.1 13), .int ((zI q8 11) * (zI q8 10))]) C h (ctX0_store_p13 (r1 := q11.1) (r2 := q11.2) e12) (zgV lkC312 lkC134 lkC135 lkC24 lkC136) ⟨rfl, rfl⟩ hdX0_store ⟨Nat.le_of_ble_eq_true rfl, Nat.le_of_ble_eq_true rfl⟩ 1 (wC_at1 κ _) rfl hl rfl rfl (Nat.le_of_ble_eq_true rfl) dX2_bring_118 ⟨Nat.zero_le _, Nat.zero_le _⟩ (fun H locs h => ?_)
    refine lv_istore_n (lv' := [(3, .int q11.1), (0, .ref (κ.2.1 10)), (2, .int ((zI σ 12) * (zI σ 10)))]) C.ex C.by dX2_bring_121 rfl hl (by decide) rfl (fun ls hl => ?_)
    refine lv_iload_n C.ex C.by dX2_bring_122 rfl (lv_at hl 0 rfl) ?_
    refine lv_iconst (v := (-1)) C.ex C.by dX2_bring_123 (by decide) ?_
    refine lv_icmp_ne (tgt := 129) C.ex C.by dX2_bring_124 (by decide) (fun c13 => ?_) (fun c13 => ?_)
    · have hf := zif_f c13 hf
      refine lv_aload_n C.ex C.by dX2_bring_129 rfl (lv_at hl 1 rfl) ?_
      refine z_get (v := .ref (κ.2.1 11)) C h iwX2 10 (wC_at10 κ _) rfl 2 (by decide) lkC45 rfl dX2_bring_130 ?_
      refine lv_iload_n C.ex C.by dX2_bring_133 rfl (lv_at hl 0 rfl) ?_
      obtain ⟨q14, e15, hf⟩ := zb_some hf
      refine z_callRv (As := [.int q11.1]) (x := (zI q11.2 17)) (f := (zA q11.2 5)) C h (ctX6_add (κ := zκR κ (κ.2.1 11) (κ.2.1 12) (κ.2.2.2 0)) e15) (zgV lkC313 lkC139 lkC140 lkC52 lkC141) ⟨rfl, rfl⟩ hdX6_add ⟨Nat.le_of_ble_eq_true rfl, Nat.le_of_ble_eq_true rfl⟩ 11 12 (by decide) (wC_at11 κ _) (wC_at12 κ _) (sA (sI q11.2 17 (zI q14 0)) 5 (zA q14 0)) (wC_sr11 κ _ _ _) hl rfl rfl (Nat.le_of_ble_eq_true rfl) dX2_bring_134 ⟨Nat.zero_le _, Nat.zero_le _⟩ (fun H locs h => ?_)
      refine lv_aload_n C.ex C.by dX2_bring_137 rfl (lv_at hl 1 rfl) ?_
      refine lv_iconst (v := 0) C.ex C.by dX2_bring_138 (by decide) ?_
      refine z_put C h iwX2 tyX2_ok nmX2 10 (wC_at10 κ _) rfl 4 (by decide) lkC305 rfl rfl rfl (Nat.le_of_ble_eq_true rfl) (sI (sA (sI q11.2 17 (zI q14 0)) 5 (zA q14 0)) 12 0) (wC_s10_4 κ _ _) dX2_bring_139 (fun H locs h => ?_)
      exact wX2_bring_p35_142 C h (lv_sub hl [1] rfl) hf
    · have hf := zif_t c13 hf
      refine lv_iconst (v := (-1)) C.ex C.by dX2_bring_127 (by decide) ?_
      cases hf
      exact z_iret C h dX2_bring_128
  · have hf := zif_f c10 hf
    refine lv_aload_n C.ex C.by dX2_bring_82 rfl (lv_at hl 0 rfl) ?_
    refine lv_dup C.ex C.by dX2_bring_83 rfl ?_
    refine z_get (v := .int (zI q8 12)) C h iwX2 10 (wC_at10 κ _) rfl 4 (by decide) lkC305 rfl dX2_bring_84 ?_
    refine lv_iconst (v := 1) C.ex C.by dX2_bring_87 (by decide) ?_
    refine lv_iadd C.ex C.by dX2_bring_88 ?_
    refine z_put C h iwX2 tyX2_ok nmX2 10 (wC_at10 κ _) rfl 4 (by decide) lkC305 rfl rfl rfl (Nat.le_of_ble_eq_true rfl) (sI q8 12 ((zI q8 12) + 1)) (wC_s10_4 κ _ _) dX2_bring_89 (fun H locs h => ?_)
    refine lv_goto (tgt := 142) C.ex C.by dX2_bring_92 (by decide) ?_
    exact wX2_bring_p35_142 C h (lv_sub hl [0] rfl) hf
theorem ctX2_bring_p35 {l : Launch} {κ : zG} {n : Nat} {σ : zS} {r1 : Int32} {r2 : zS} (hf : fX2_bring_p35_0 n (κ.2.2.2 0) (κ.2.2.2 1) (κ.2.2.2 2) σ = some (r1, r2)) : zMi l yX2_bring (Cond.code yX2_bring cX2_bring 4 (some .int)) rmX2_bring_p35 wC κ [.ref (κ.2.1 10), .ref (κ.2.1 35)] σ r1 r2 :=
  zMi_of (by decide) (Nat.le_of_ble_eq_true rfl) (fun p e s m below meth c A C h ls hl => wX2_bring_p35_0 C h hl hf)
theorem hdX2_heldRecords : yX2_heldRecords.cls = RX2 ∧ yX2_heldRecords.cls ≠ "java/lang/invoke/MethodHandle" ∧ yX2_heldRecords.cls ≠ "java/lang/invoke/VarHandle" ∧ (parseMethodDescriptor yX2_heldRecords.desc).map (fun d => d.parameters.length) = some 0 := by decide +kernel
abbrev rmX2_heldRecords : Room := { frames := 1, cells := 0, slots := 0, locals := 20 }
set_option maxRecDepth 20000 in
set_option maxHeartbeats 4000000 in
theorem wX2_heldRecords_0 {p : Program} {l : Launch} {e : Env} {s : State} {m : MethodId} {args : Array Value} {below : List Frame} {meth : Method} {c : Code} {A : Nat → Prop} {κ : zG} {H : Heap} {locs : List Loc} {ls : Array Slot} {n : Nat} {σ : zS} {r : Int32} (C : zC cX2_heldRecords 1 (some .int) RX2 κ A p s m args meth c) (h : zH wC κ A s σ H locs) (hl : lv_has ls 1 [(0, .ref (κ.2.1 10))]) (hf : fX2_heldRecords_0 n (κ.2.2.2 0) (κ.2.2.2 1) (κ.2.2.2 2) σ = some r) : W p l e rmX2_heldRecords s m args below meth c H locs 0 0 (MQ below (zQi wC κ A r σ) args s 0 0 A) (F0 m 0 ls []) := by
  unfold fX2_heldRecords_0 at hf
  refine lv_aload_n C.ex C.by dX2_heldRecords_0 rfl (lv_at hl 0 rfl) ?_
  refine z_get (v := .ref (κ.2.1 11)) C h iwX2 10 (wC_at10 κ _) rfl 2 (by decide) lkC45 rfl dX2_heldRecords_1 ?_
  obtain ⟨q1, e2, hf⟩ := zb_some hf
  refine z_callRi (As := []) (x := (zI σ 17)) (f := (zA σ 5)) C h (ctX6_size (κ := zκR κ (κ.2.1 11) (κ.2.1 12) (κ.2.2.2 0)) e2) (zgV lkC314 lkC182 lkC183 lkC52 lkC184) ⟨rfl, rfl⟩ hdX6_size ⟨Nat.le_of_ble_eq_true rfl, Nat.le_of_ble_eq_true rfl⟩ 11 12 (by decide) (wC_at11 κ _) (wC_at12 κ _) σ (zset2 (wC_at11 κ _) (wC_at12 κ _)) hl rfl rfl (Nat.le_of_ble_eq_true rfl) dX2_heldRecords_4 ⟨Nat.zero_le _, Nat.zero_le _⟩ (fun H locs h => ?_)
  refine lv_aload_n C.ex C.by dX2_heldRecords_7 rfl (lv_at hl 0 rfl) ?_
  refine z_get (v := .ref (κ.2.1 4)) C h iwX2 10 (wC_at10 κ _) rfl 1 (by decide) lkC43 rfl dX2_heldRecords_8 ?_
  refine z_getN (v := .int (zI σ 11)) C h iwX5 4 (wC_at4 κ _) rfl 6 (by decide) nkC6 rfl dX2_heldRecords_11 ?_
  refine lv_imul C.ex C.by dX2_heldRecords_14 ?_
  refine lv_aload_n C.ex C.by dX2_heldRecords_15 rfl (lv_at hl 0 rfl) ?_
  refine z_get (v := .int (zI σ 12)) C h iwX2 10 (wC_at10 κ _) rfl 4 (by decide) lkC305 rfl dX2_heldRecords_16 ?_
  refine lv_iadd C.ex C.by dX2_heldRecords_19 ?_
  cases hf
  exact z_iret C h dX2_heldRecords_20
theorem ctX2_heldRecords {l : Launch} {κ : zG} {n : Nat} {σ : zS} {r : Int32} (hf : fX2_heldRecords_0 n (κ.2.2.2 0) (κ.2.2.2 1) (κ.2.2.2 2) σ = some r) : zMi l yX2_heldRecords (Cond.code yX2_heldRecords cX2_heldRecords 1 (some .int)) rmX2_heldRecords wC κ [.ref (κ.2.1 10)] σ r σ :=
  zMi_of (by decide) (Nat.le_of_ble_eq_true rfl) (fun p e s m below meth c A C h ls hl => wX2_heldRecords_0 C h hl hf)
theorem hdX2_open : yX2_open.cls = RX2 ∧ yX2_open.cls ≠ "java/lang/invoke/MethodHandle" ∧ yX2_open.cls ≠ "java/lang/invoke/VarHandle" ∧ (parseMethodDescriptor yX2_open.desc).map (fun d => d.parameters.length) = some 0 := by decide +kernel
abbrev rmX2_open : Room := { frames := 2, cells := 0, slots := 0, locals := 46 }
set_option maxRecDepth 20000 in
set_option maxHeartbeats 4000000 in
theorem wX2_open_0 {p : Program} {l : Launch} {e : Env} {s : State} {m : MethodId} {args : Array Value} {below : List Frame} {meth : Method} {c : Code} {A : Nat → Prop} {κ : zG} {H : Heap} {locs : List Loc} {ls : Array Slot} {n : Nat} {σ : zS} {r1 : Int32} {r2 : zS} (C : zC cX2_open 1 (some .boolean) RX2 κ A p s m args meth c) (h : zH wC κ A s σ H locs) (hl : lv_has ls 1 [(0, .ref (κ.2.1 10))]) (hf : fX2_open_0 n (κ.2.2.2 0) (κ.2.2.2 1) (κ.2.2.2 2) σ = some (r1, r2)) : W p l e rmX2_open s m args below meth c H locs 0 0 (MQ below (zQi wC κ A r1 r2) args s 0 0 A) (F0 m 0 ls []) := by
  unfold fX2_open_0 at hf
  refine lv_aload_n C.ex C.by dX2_open_0 rfl (lv_at hl 0 rfl) ?_
  refine lv_iconst (v := 0) C.ex C.by dX2_open_1 (by decide) ?_
  refine z_put C h iwX2 tyX2_ok nmX2 10 (wC_at10 κ _) rfl 7 (by decide) lkC46 rfl rfl rfl (Nat.le_of_ble_eq_true rfl) (sI σ 15 0) (wC_s10_7 κ _ _) dX2_open_2 (fun H locs h => ?_)
  refine lv_aload_n C.ex C.by dX2_open_5 rfl (lv_at hl 0 rfl) ?_
  refine lv_aload_n C.ex C.by dX2_open_6 rfl (lv_at hl 0 rfl) ?_
  obtain ⟨q1, e2, hf⟩ := zb_some hf
  refine z_callVi (As := []) C h (ctX2_heldRecords e2) (zgV lkC315 lkC316 lkC317 lkC60 lkC318) ⟨rfl, rfl⟩ hdX2_heldRecords ⟨Nat.le_of_ble_eq_true rfl, Nat.le_of_ble_eq_true rfl⟩ 10 (wC_at10 κ _) rfl hl rfl rfl (Nat.le_of_ble_eq_true rfl) dX2_open_7 ⟨Nat.zero_le _, Nat.zero_le _⟩ (fun H locs h => ?_)
  refine z_put C h iwX2 tyX2_ok nmX2 10 (wC_at10 κ _) rfl 8 (by decide) lkC56 rfl rfl rfl (Nat.le_of_ble_eq_true rfl) (sI (sI σ 15 0) 16 q1) (wC_s10_8 κ _ _) dX2_open_10 (fun H locs h => ?_)
  refine lv_aload_n C.ex C.by dX2_open_13 rfl (lv_at hl 0 rfl) ?_
  refine lv_iconst (v := (-1)) C.ex C.by dX2_open_14 (by decide) ?_
  refine z_put C h iwX2 tyX2_ok nmX2 10 (wC_at10 κ _) rfl 6 (by decide) lkC319 rfl rfl rfl (Nat.le_of_ble_eq_true rfl) (sI (sI (sI σ 15 0) 16 q1) 14 (-1)) (wC_s10_6 κ _ _) dX2_open_15 (fun H locs h => ?_)
  refine lv_aload_n C.ex C.by dX2_open_18 rfl (lv_at hl 0 rfl) ?_
  refine z_get (v := .int (zI σ 12)) C h iwX2 10 (wC_at10 κ _) rfl 4 (by decide) lkC305 rfl dX2_open_19 ?_
  refine lv_if_ne (tgt := 27) C.ex C.by dX2_open_22 (by decide) (fun c3 => ?_) (fun c3 => ?_)
  · have hf := zif_f c3 hf
    refine lv_aload_n C.ex C.by dX2_open_27 rfl (lv_at hl 0 rfl) ?_
    refine lv_aload_n C.ex C.by dX2_open_28 rfl (lv_at hl 0 rfl) ?_
    refine z_get (v := .ref (κ.2.1 1)) C h iwX2 10 (wC_at10 κ _) rfl 0 (by decide) lkC54 rfl dX2_open_29 ?_
    refine lv_aload_n C.ex C.by dX2_open_32 rfl (lv_at hl 0 rfl) ?_
    refine z_get (v := .ref (κ.2.1 13)) C h iwX2 10 (wC_at10 κ _) rfl 3 (by decide) lkC306 rfl dX2_open_33 ?_
    refine lv_aload_n C.ex C.by dX2_open_36 rfl (lv_at hl 0 rfl) ?_
    refine z_get (v := .int (zI σ 12)) C h iwX2 10 (wC_at10 κ _) rfl 4 (by decide) lkC305 rfl dX2_open_37 ?_
    refine lv_aload_n C.ex C.by dX2_open_40 rfl (lv_at hl 0 rfl) ?_
    refine z_get (v := .ref (κ.2.1 4)) C h iwX2 10 (wC_at10 κ _) rfl 1 (by decide) lkC43 rfl dX2_open_41 ?_
    refine z_getN (v := .int (zI σ 10)) C h iwX5 4 (wC_at4 κ _) rfl 5 (by decide) nkC8 rfl dX2_open_44 ?_
    refine lv_imul C.ex C.by dX2_open_47 ?_
    obtain ⟨q4, e5, hf⟩ := zb_some hf
    refine z_callVi (As := [.ref (κ.2.1 13), .int ((zI σ 12) * (zI σ 10))]) C h (ctX0_store_p13 (r1 := q4.1) (r2 := q4.2) e5) (zgV lkC312 lkC134 lkC135 lkC24 lkC136) ⟨rfl, rfl⟩ hdX0_store ⟨Nat.le_of_ble_eq_true rfl, Nat.le_of_ble_eq_true rfl⟩ 1 (wC_at1 κ _) rfl hl rfl rfl (Nat.le_of_ble_eq_true rfl) dX2_open_48 ⟨Nat.zero_le _, Nat.zero_le _⟩ (fun H locs h => ?_)
    refine z_put C h iwX2 tyX2_ok nmX2 10 (wC_at10 κ _) rfl 6 (by decide) lkC319 rfl rfl rfl (Nat.le_of_ble_eq_true rfl) (sI q4.2 14 q4.1) (wC_s10_6 κ _ _) dX2_open_51 (fun H locs h => ?_)
    refine lv_aload_n C.ex C.by dX2_open_54 rfl (lv_at hl 0 rfl) ?_
    refine z_get (v := .int q4.1) C h iwX2 10 (wC_at10 κ _) rfl 6 (by decide) lkC319 rfl dX2_open_55 ?_
    refine lv_iconst (v := (-1)) C.ex C.by dX2_open_58 (by decide) ?_
    refine lv_icmp_ne (tgt := 64) C.ex C.by dX2_open_59 (by decide) (fun c6 => ?_) (fun c6 => ?_)
    · have hf := zif_f c6 hf
      refine lv_aload_n C.ex C.by dX2_open_64 rfl (lv_at hl 0 rfl) ?_
      refine z_get (v := .ref (κ.2.1 11)) C h iwX2 10 (wC_at10 κ _) rfl 2 (by decide) lkC45 rfl dX2_open_65 ?_
      refine lv_aload_n C.ex C.by dX2_open_68 rfl (lv_at hl 0 rfl) ?_
      refine z_get (v := .int q4.1) C h iwX2 10 (wC_at10 κ _) rfl 6 (by decide) lkC319 rfl dX2_open_69 ?_
      obtain ⟨q7, e8, hf⟩ := zb_some hf
      refine z_callRv (As := [.int q4.1]) (x := (zI q4.2 17)) (f := (zA q4.2 5)) C h (ctX6_add (κ := zκR κ (κ.2.1 11) (κ.2.1 12) (κ.2.2.2 0)) e8) (zgV lkC313 lkC139 lkC140 lkC52 lkC141) ⟨rfl, rfl⟩ hdX6_add ⟨Nat.le_of_ble_eq_true rfl, Nat.le_of_ble_eq_true rfl⟩ 11 12 (by decide) (wC_at11 κ _) (wC_at12 κ _) (sA (sI (sI q4.2 14 q4.1) 17 (zI q7 0)) 5 (zA q7 0)) (wC_sr11 κ _ _ _) hl rfl rfl (Nat.le_of_ble_eq_true rfl) dX2_open_72 ⟨Nat.zero_le _, Nat.zero_le _⟩ (fun H locs h => ?_)
      refine lv_iconst (v := 1) C.ex C.by dX2_open_75 (by decide) ?_
      cases hf
      exact z_zret (r := 1) C h rfl dX2_open_76
    · have hf := zif_t c6 hf
      refine lv_iconst (v := 0) C.ex C.by dX2_open_62 (by decide) ?_
      cases hf
      exact z_zret (r := 0) C h rfl dX2_open_63
  · have hf := zif_t c3 hf
    refine lv_iconst (v := 1) C.ex C.by dX2_open_25 (by decide) ?_
    cases hf
    exact z_zret (r := 1) C h rfl dX2_open_26
theorem ctX2_open {l : Launch} {κ : zG} {n : Nat} {σ : zS} {r1 : Int32} {r2 : zS} (hf : fX2_open_0 n (κ.2.2.2 0) (κ.2.2.2 1) (κ.2.2.2 2) σ = some (r1, r2)) : zMi l yX2_open (Cond.code yX2_open cX2_open 1 (some .boolean)) rmX2_open wC κ [.ref (κ.2.1 10)] σ r1 r2 :=
  zMi_of (by decide) (Nat.le_of_ble_eq_true rfl) (fun p e s m below meth c A C h ls hl => wX2_open_0 C h hl hf)
theorem hdX2_removeAll : yX2_removeAll.cls = RX2 ∧ yX2_removeAll.cls ≠ "java/lang/invoke/MethodHandle" ∧ yX2_removeAll.cls ≠ "java/lang/invoke/VarHandle" ∧ (parseMethodDescriptor yX2_removeAll.desc).map (fun d => d.parameters.length) = some 0 := by decide +kernel
abbrev rmX2_removeAll : Room := { frames := 1, cells := 0, slots := 0, locals := 21 }
set_option maxRecDepth 20000 in
set_option maxHeartbeats 4000000 in
theorem wX2_removeAll_L2_2 {p : Program} {l : Launch} {e : Env} {s : State} {m : MethodId} {args : Array Value} {below : List Frame} {meth : Method} {c : Code} {A : Nat → Prop} {κ : zG} {H : Heap} {locs : List Loc} {ls : Array Slot} {Q : State → Prop} {n : Nat} {a : Int32 × zS} {r : (Int32 × zS) ⊕ (zS)} (C : zC cX2_removeAll 2 none RX2 κ A p s m args meth c) (h : zH wC κ A s a.2 H locs) (hl : lv_has ls 2 [(0, .ref (κ.2.1 10)), (1, .int a.1)]) (hf : fX2_removeAll_L2_2 n (κ.2.2.2 0) (κ.2.2.2 1) (κ.2.2.2 2) a = some r) (Kc : ∀ (v1 : Int32) (σ1 : zS), r = .inl (v1, σ1) → ∀ (H : Heap) (locs : List Loc) (ls : Array Slot), zH wC κ A s σ1 H locs → lv_has ls 2 [(0, .ref (κ.2.1 10)), (1, .int v1)] → W p l e rmX2_removeAll s m args below meth c H locs 0 0 Q (F0 m 2 ls [])) (Ke0 : ∀ (σ1 : zS), r = .inr σ1 → ∀ (H : Heap) (locs : List Loc) (ls : Array Slot), zH wC κ A s σ1 H locs → lv_has ls 2 [(0, .ref (κ.2.1 10))] → W p l e rmX2_removeAll s m args below meth c H locs 0 0 Q (F0 m 34 ls [])) : W p l e rmX2_removeAll s m args below meth c H locs 0 0 Q (F0 m 2 ls []) := by
  unfold fX2_removeAll_L2_2 at hf
  refine lv_iload_n C.ex C.by dX2_removeAll_2 rfl (lv_at hl 1 rfl) ?_
  refine lv_aload_n C.ex C.by dX2_removeAll_3 rfl (lv_at hl 0 rfl) ?_
  refine z_get (v := .ref (κ.2.1 11)) C h iwX2 10 (wC_at10 κ _) rfl 2 (by decide) lkC45 rfl dX2_removeAll_4 ?_
  obtain ⟨q1, e2, hf⟩ := zb_some hf
  refine z_callRi (As := []) (x := (zI a.2 17)) (f := (zA a.2 5)) C h (ctX6_size (κ := zκR κ (κ.2.1 11) (κ.2.1 12) (κ.2.2.2 0)) e2) (zgV lkC314 lkC182 lkC183 lkC52 lkC184) ⟨rfl, rfl⟩ hdX6_size ⟨Nat.le_of_ble_eq_true rfl, Nat.le_of_ble_eq_true rfl⟩ 11 12 (by decide) (wC_at11 κ _) (wC_at12 κ _) a.2 (zset2 (wC_at11 κ _) (wC_at12 κ _)) hl rfl rfl (Nat.le_of_ble_eq_true rfl) dX2_removeAll_7 ⟨Nat.zero_le _, Nat.zero_le _⟩ (fun H locs h => ?_)
  refine lv_icmp_ge (tgt := 34) C.ex C.by dX2_removeAll_10 (by decide) (fun c3 => ?_) (fun c3 => ?_)
  · have hf := zif_t c3 hf
    exact Ke0 _ (Option.some.inj hf).symm _ _ _ h (lv_sub hl [0] rfl)
  · have hf := zif_f c3 hf
    refine lv_aload_n C.ex C.by dX2_removeAll_13 rfl (lv_at hl 0 rfl) ?_
    refine z_get (v := .ref (κ.2.1 1)) C h iwX2 10 (wC_at10 κ _) rfl 0 (by decide) lkC54 rfl dX2_removeAll_14 ?_
    refine lv_aload_n C.ex C.by dX2_removeAll_17 rfl (lv_at hl 0 rfl) ?_
    refine z_get (v := .ref (κ.2.1 11)) C h iwX2 10 (wC_at10 κ _) rfl 2 (by decide) lkC45 rfl dX2_removeAll_18 ?_
    refine lv_iload_n C.ex C.by dX2_removeAll_21 rfl (lv_at hl 1 rfl) ?_
    obtain ⟨q4, e5, hf⟩ := zb_some hf
    refine z_callRi (As := [.int a.1]) (x := (zI a.2 17)) (f := (zA a.2 5)) C h (ctX6_get (κ := zκR κ (κ.2.1 11) (κ.2.1 12) (κ.2.2.2 0)) e5) (zgV lkC49 lkC50 lkC51 lkC52 lkC53) ⟨rfl, rfl⟩ hdX6_get ⟨Nat.le_of_ble_eq_true rfl, Nat.le_of_ble_eq_true rfl⟩ 11 12 (by decide) (wC_at11 κ _) (wC_at12 κ _) a.2 (zset2 (wC_at11 κ _) (wC_at12 κ _)) hl rfl rfl (Nat.le_of_ble_eq_true rfl) dX2_removeAll_22 ⟨Nat.zero_le _, Nat.zero_le _⟩ (fun H locs h => ?_)
    obtain ⟨q6, e7, hf⟩ := zb_some hf
    refine z_callVv (As := [.int q4]) C h (ctX0_release e7) (zgV lkC320 lkC244 lkC245 lkC24 lkC246) ⟨rfl, rfl⟩ hdX0_release ⟨Nat.le_of_ble_eq_true rfl, Nat.le_of_ble_eq_true rfl⟩ 1 (wC_at1 κ _) rfl hl rfl rfl (Nat.le_of_ble_eq_true rfl) dX2_removeAll_25 ⟨Nat.zero_le _, Nat.zero_le _⟩ (fun H locs h => ?_)
    refine lv_iinc (v := (a.1 + 1)) (lv' := [(1, .int (a.1 + 1)), (0, .ref (κ.2.1 10))]) C.ex C.by dX2_removeAll_28 hl (k := 1) rfl rfl (by decide) rfl (fun ls hl => ?_)
    refine lv_goto (tgt := 2) C.ex C.by dX2_removeAll_31 (by decide) ?_
    exact Kc _ _ (Option.some.inj hf).symm _ _ _ h (lv_sub hl [1, 0] rfl)
theorem wlX2_removeAll_2 {p : Program} {l : Launch} {e : Env} {s : State} {m : MethodId} {args : Array Value} {below : List Frame} {meth : Method} {c : Code} {A : Nat → Prop} {κ : zG} {H : Heap} {locs : List Loc} {ls : Array Slot} {Q : State → Prop} {n : Nat} {k0 : Nat} {u1 : Int32} {σ1 : zS} (C : zC cX2_removeAll 2 none RX2 κ A p s m args meth c) (h : zH wC κ A s σ1 H locs) (hl : lv_has ls 2 [(0, .ref (κ.2.1 10)), (1, .int u1)]) (b : zS) (hb : zlp (fX2_removeAll_L2_2 n (κ.2.2.2 0) (κ.2.2.2 1) (κ.2.2.2 2)) k0 (u1, σ1) = some b) (K : (fun b : zS => ∀ (H : Heap) (locs : List Loc) (ls : Array Slot), zH wC κ A s b H locs → lv_has ls 2 [(0, .ref (κ.2.1 10))] → W p l e rmX2_removeAll s m args below meth c H locs 0 0 Q (F0 m 34 ls [])) b) : W p l e rmX2_removeAll s m args below meth c H locs 0 0 Q (F0 m 2 ls []) :=
  z_loop (body := fX2_removeAll_L2_2 n (κ.2.2.2 0) (κ.2.2.2 1) (κ.2.2.2 2)) (Wd := (fun a : Int32 × zS => ∀ (H : Heap) (locs : List Loc) (ls : Array Slot), zH wC κ A s a.2 H locs → lv_has ls 2 [(0, .ref (κ.2.1 10)), (1, .int a.1)] → W p l e rmX2_removeAll s m args below meth c H locs 0 0 Q (F0 m 2 ls []))) (Ex := (fun b : zS => (fun b : zS => ∀ (H : Heap) (locs : List Loc) (ls : Array Slot), zH wC κ A s b H locs → lv_has ls 2 [(0, .ref (κ.2.1 10))] → W p l e rmX2_removeAll s m args below meth c H locs 0 0 Q (F0 m 34 ls [])) b)) (fun a r hr Kc Ke H locs ls h hl => wX2_removeAll_L2_2 C h hl hr (fun v1 σ1 e => Kc (v1, σ1) e) (fun σ1 e => Ke σ1 e)) k0 (u1, σ1) b hb K H locs ls h hl
set_option maxRecDepth 20000 in
set_option maxHeartbeats 4000000 in
theorem wX2_removeAll_0 {p : Program} {l : Launch} {e : Env} {s : State} {m : MethodId} {args : Array Value} {below : List Frame} {meth : Method} {c : Code} {A : Nat → Prop} {κ : zG} {H : Heap} {locs : List Loc} {ls : Array Slot} {n : Nat} {σ : zS} {r : zS} (C : zC cX2_removeAll 2 none RX2 κ A p s m args meth c) (h : zH wC κ A s σ H locs) (hl : lv_has ls 2 [(0, .ref (κ.2.1 10))]) (hf : fX2_removeAll_0 n (κ.2.2.2 0) (κ.2.2.2 1) (κ.2.2.2 2) σ = some r) : W p l e rmX2_removeAll s m args below meth c H locs 0 0 (MQ below (zQv wC κ A r) args s 0 0 A) (F0 m 0 ls []) := by
  unfold fX2_removeAll_0 at hf
  refine lv_iconst (v := 0) C.ex C.by dX2_removeAll_0 (by decide) ?_
  refine lv_istore_n (lv' := [(1, .int 0), (0, .ref (κ.2.1 10))]) C.ex C.by dX2_removeAll_1 rfl hl (by decide) rfl (fun ls hl => ?_)
  obtain ⟨b8, e9, hf⟩ := zb_some hf
  refine wlX2_removeAll_2 C h (lv_sub hl [1, 0] rfl) b8 e9 ?_
  intro H locs ls h hl
  refine lv_aload_n C.ex C.by dX2_removeAll_34 rfl (lv_at hl 0 rfl) ?_
  refine z_get (v := .ref (κ.2.1 11)) C h iwX2 10 (wC_at10 κ _) rfl 2 (by decide) lkC45 rfl dX2_removeAll_35 ?_
  obtain ⟨q10, e11, hf⟩ := zb_some hf
  refine z_callRv (As := []) (x := (zI b8 17)) (f := (zA b8 5)) C h (ctX6_clear (κ := zκR κ (κ.2.1 11) (κ.2.1 12) (κ.2.2.2 0)) e11) (zgV lkC321 lkC190 lkC191 lkC52 lkC192) ⟨rfl, rfl⟩ hdX6_clear ⟨Nat.le_of_ble_eq_true rfl, Nat.le_of_ble_eq_true rfl⟩ 11 12 (by decide) (wC_at11 κ _) (wC_at12 κ _) (sA (sI b8 17 (zI q10 0)) 5 (zA q10 0)) (wC_sr11 κ _ _ _) hl rfl rfl (Nat.le_of_ble_eq_true rfl) dX2_removeAll_38 ⟨Nat.zero_le _, Nat.zero_le _⟩ (fun H locs h => ?_)
  refine lv_aload_n C.ex C.by dX2_removeAll_41 rfl (lv_at hl 0 rfl) ?_
  refine lv_iconst (v := 0) C.ex C.by dX2_removeAll_42 (by decide) ?_
  refine z_put C h iwX2 tyX2_ok nmX2 10 (wC_at10 κ _) rfl 4 (by decide) lkC305 rfl rfl rfl (Nat.le_of_ble_eq_true rfl) (sI (sA (sI b8 17 (zI q10 0)) 5 (zA q10 0)) 12 0) (wC_s10_4 κ _ _) dX2_removeAll_43 (fun H locs h => ?_)
  refine lv_aload_n C.ex C.by dX2_removeAll_46 rfl (lv_at hl 0 rfl) ?_
  refine lv_iconst (v := (-1)) C.ex C.by dX2_removeAll_47 (by decide) ?_
  refine z_put C h iwX2 tyX2_ok nmX2 10 (wC_at10 κ _) rfl 6 (by decide) lkC319 rfl rfl rfl (Nat.le_of_ble_eq_true rfl) (sI (sI (sA (sI b8 17 (zI q10 0)) 5 (zA q10 0)) 12 0) 14 (-1)) (wC_s10_6 κ _ _) dX2_removeAll_48 (fun H locs h => ?_)
  cases hf
  exact z_vret C h dX2_removeAll_51
theorem ctX2_removeAll {l : Launch} {κ : zG} {n : Nat} {σ : zS} {r : zS} (hf : fX2_removeAll_0 n (κ.2.2.2 0) (κ.2.2.2 1) (κ.2.2.2 2) σ = some r) : zMv l yX2_removeAll (Cond.code yX2_removeAll cX2_removeAll 2 none) rmX2_removeAll wC κ [.ref (κ.2.1 10)] σ r :=
  zMv_of (by decide) (Nat.le_of_ble_eq_true rfl) (fun p e s m below meth c A C h ls hl => wX2_removeAll_0 C h hl hf)
