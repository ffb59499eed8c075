theorem hdX10_runs : yX10_runs.cls = RX10 ∧ yX10_runs.cls ≠ "java/lang/invoke/MethodHandle" ∧ yX10_runs.cls ≠ "java/lang/invoke/VarHandle" ∧ (parseMethodDescriptor yX10_runs.desc).map (fun d => d.parameters.length) = some 0 := by decide +kernel
abbrev rmX10_runs : Room := { frames := 0, cells := 0, slots := 0, locals := 0 }
set_option maxRecDepth 20000 in
set_option maxHeartbeats 4000000 in
theorem wX10_runs_0 {p : Program} {l : Launch} {e : Env} {s : State} {m : MethodId} {args : Array Value} {below : List Frame} {meth : Method} {c : Code} {A : Nat → Prop} {κ : zG} {H : Heap} {locs : List Loc} {ls : Array Slot} {n : Nat} {σ : zS} {r1 : Int32} {r2 : zS} (C : zC cX10_runs 1 (some .int) RX10 κ A p s m args meth c) (h : zH wM κ A s σ H locs) (hl : lv_has ls 1 [(0, .ref (κ.2.1 0))]) (hf : fX10_runs_0 n σ = some (r1, r2)) : W p l e rmX10_runs s m args below meth c H locs 0 0 (MQ below (zQi wM κ A r1 r2) args s 0 0 A) (F0 m 0 ls []) := by
  unfold fX10_runs_0 at hf
  refine lv_aload_n C.ex C.by dX10_runs_0 rfl (lv_at hl 0 rfl) ?_
  refine lv_iconst (v := 0) C.ex C.by dX10_runs_1 (by decide) ?_
  refine z_put C h iwX10 tyX10_ok nmX10 0 (wM_at0 κ _) rfl 0 (by decide) lkM8 rfl rfl rfl (Nat.le_of_ble_eq_true rfl) (sI σ 0 0) (wM_s0_0 κ _ _) dX10_runs_2 (fun H locs h => ?_)
  refine lv_aload_n C.ex C.by dX10_runs_5 rfl (lv_at hl 0 rfl) ?_
  refine z_get (v := .int (zI σ 4)) C h iwX10 0 (wM_at0 κ _) rfl 13 (by decide) lkM5 rfl dX10_runs_6 ?_
  cases hf
  exact z_iret C h dX10_runs_9
theorem ctX10_runs {l : Launch} {κ : zG} {n : Nat} {σ : zS} {r1 : Int32} {r2 : zS} (hf : fX10_runs_0 n σ = some (r1, r2)) : zMi l yX10_runs (Cond.code yX10_runs cX10_runs 1 (some .int)) rmX10_runs wM κ [.ref (κ.2.1 0)] σ r1 r2 :=
  zMi_of (by decide) (Nat.le_of_ble_eq_true rfl) (fun p e s m below meth c A C h ls hl => wX10_runs_0 C h hl hf)
theorem hdX10_records : yX10_records.cls = RX10 ∧ yX10_records.cls ≠ "java/lang/invoke/MethodHandle" ∧ yX10_records.cls ≠ "java/lang/invoke/VarHandle" ∧ (parseMethodDescriptor yX10_records.desc).map (fun d => d.parameters.length) = some 1 := by decide +kernel
abbrev rmX10_records : Room := { frames := 1, cells := 0, slots := 0, locals := 22 }
set_option maxRecDepth 20000 in
set_option maxHeartbeats 4000000 in
theorem wX10_records_20 {p : Program} {l : Launch} {e : Env} {s : State} {m : MethodId} {args : Array Value} {below : List Frame} {meth : Method} {c : Code} {A : Nat → Prop} {κ : zG} {H : Heap} {locs : List Loc} {ls : Array Slot} {n : Nat} {σ : zS} {x1 : Int32} {y0 : Int32} {r1 : Int32} {r2 : zS} (C : zC cX10_records 2 (some .int) RX10 κ A p s m args meth c) (h : zH wM κ A s σ H locs) (hl : lv_has ls 2 [(0, .ref (κ.2.1 0)), (1, .int x1)]) (hf : fX10_records_20 n σ x1 y0 = some (r1, r2)) : W p l e rmX10_records s m args below meth c H locs 0 0 (MQ below (zQi wM κ A r1 r2) args s 0 0 A) (F0 m 20 ls [.int y0, .ref (κ.2.1 0)]) := by
  unfold fX10_records_20 at hf
  refine z_put C h iwX10 tyX10_ok nmX10 0 (wM_at0 κ _) rfl 0 (by decide) lkM8 rfl rfl rfl (Nat.le_of_ble_eq_true rfl) (sI σ 0 y0) (wM_s0_0 κ _ _) dX10_records_20 (fun H locs h => ?_)
  refine lv_aload_n C.ex C.by dX10_records_23 rfl (lv_at hl 0 rfl) ?_
  refine z_get (v := .int y0) C h iwX10 0 (wM_at0 κ _) rfl 0 (by decide) lkM8 rfl dX10_records_24 ?_
  refine lv_if_le (tgt := 32) C.ex C.by dX10_records_27 (by decide) (fun c4 => ?_) (fun c4 => ?_)
  · have hf := zif_t c4 hf
    refine lv_iload_n C.ex C.by dX10_records_32 rfl (lv_at hl 1 rfl) ?_
    refine lv_iconst (v := (-1)) C.ex C.by dX10_records_33 (by decide) ?_
    refine lv_icmp_ne (tgt := 51) C.ex C.by dX10_records_34 (by decide) (fun c5 => ?_) (fun c5 => ?_)
    · have hf := zif_f c5 hf
      refine lv_aload_n C.ex C.by dX10_records_51 rfl (lv_at hl 0 rfl) ?_
      refine z_get (v := .ref (κ.2.1 7)) C h iwX10 0 (wM_at0 κ _) rfl 10 (by decide) lkM6 rfl dX10_records_52 ?_
      refine lv_aload_n C.ex C.by dX10_records_55 rfl (lv_at hl 0 rfl) ?_
      refine z_get (v := .ref (κ.2.1 9)) C h iwX10 0 (wM_at0 κ _) rfl 12 (by decide) lkM146 rfl dX10_records_56 ?_
      refine lv_iload_n C.ex C.by dX10_records_59 rfl (lv_at hl 1 rfl) ?_
      obtain ⟨h6, hf⟩ := zg_some hf
      refine z_iald (f := (zA σ 7)) C h 9 (wM_at9 κ _) h6 dX10_records_60 ?_
      obtain ⟨h7, hf⟩ := zg_some hf
      refine z_iald (f := (zA σ 5)) C h 7 (wM_at7 κ _) h7 dX10_records_61 ?_
      cases hf
      exact z_iret C h dX10_records_62
    · have hf := zif_t c5 hf
      refine lv_aload_n C.ex C.by dX10_records_37 rfl (lv_at hl 0 rfl) ?_
      refine z_get (v := .ref (κ.2.1 7)) C h iwX10 0 (wM_at0 κ _) rfl 10 (by decide) lkM6 rfl dX10_records_38 ?_
      refine lv_iconst (v := 0) C.ex C.by dX10_records_41 (by decide) ?_
      obtain ⟨h8, hf⟩ := zg_some hf
      refine z_iald (f := (zA σ 5)) C h 7 (wM_at7 κ _) h8 dX10_records_42 ?_
      refine lv_aload_n C.ex C.by dX10_records_43 rfl (lv_at hl 0 rfl) ?_
      refine z_get (v := .int (zI σ 5)) C h iwX10 0 (wM_at0 κ _) rfl 15 (by decide) lkM7 rfl dX10_records_44 ?_
      refine lv_iadd C.ex C.by dX10_records_47 ?_
      refine lv_goto (tgt := 62) C.ex C.by dX10_records_48 (by decide) ?_
      cases hf
      exact z_iret C h dX10_records_62
  · have hf := zif_f c4 hf
    refine lv_iconst (v := 0) C.ex C.by dX10_records_30 (by decide) ?_
    cases hf
    exact z_iret C h dX10_records_31
set_option maxRecDepth 20000 in
set_option maxHeartbeats 4000000 in
theorem wX10_records_0 {p : Program} {l : Launch} {e : Env} {s : State} {m : MethodId} {args : Array Value} {below : List Frame} {meth : Method} {c : Code} {A : Nat → Prop} {κ : zG} {H : Heap} {locs : List Loc} {ls : Array Slot} {n : Nat} {σ : zS} {x1 : Int32} {r1 : Int32} {r2 : zS} (C : zC cX10_records 2 (some .int) RX10 κ A p s m args meth c) (h : zH wM κ A s σ H locs) (hl : lv_has ls 2 [(0, .ref (κ.2.1 0)), (1, .int x1)]) (hf : fX10_records_0 n σ x1 = some (r1, r2)) : W p l e rmX10_records s m args below meth c H locs 0 0 (MQ below (zQi wM κ A r1 r2) args s 0 0 A) (F0 m 0 ls []) := by
  unfold fX10_records_0 at hf
  refine lv_aload_n C.ex C.by dX10_records_0 rfl (lv_at hl 0 rfl) ?_
  refine lv_iload_n C.ex C.by dX10_records_1 rfl (lv_at hl 1 rfl) ?_
  refine lv_iconst (v := (-1)) C.ex C.by dX10_records_2 (by decide) ?_
  refine lv_aload_n C.ex C.by dX10_records_3 rfl (lv_at hl 0 rfl) ?_
  refine z_get (v := .int (zI σ 4)) C h iwX10 0 (wM_at0 κ _) rfl 13 (by decide) lkM5 rfl dX10_records_4 ?_
  refine lv_iconst (v := 1) C.ex C.by dX10_records_7 (by decide) ?_
  refine lv_isub C.ex C.by dX10_records_8 ?_
  obtain ⟨q1, e2, hf⟩ := zb_some hf
  refine z_callSi (As := [.int x1, .int (-1), .int ((zI σ 4) - 1)]) C h (ctX10_isIn e2) (zgS lkM0 lkM1 lkM2 lkM3) ⟨rfl, rfl⟩ hdX10_isIn ⟨Nat.le_of_ble_eq_true rfl, Nat.le_of_ble_eq_true rfl⟩ hl rfl rfl (Nat.le_of_ble_eq_true rfl) dX10_records_9 ⟨Nat.zero_le _, Nat.zero_le _⟩ (fun H locs h => ?_)
  refine lv_if_eq (tgt := 19) C.ex C.by dX10_records_12 (by decide) (fun c3 => ?_) (fun c3 => ?_)
  · have hf := zif_t c3 hf
    refine lv_iconst (v := 1) C.ex C.by dX10_records_19 (by decide) ?_
    exact wX10_records_20 C h hl hf
  · have hf := zif_f c3 hf
    refine lv_iconst (v := 0) C.ex C.by dX10_records_15 (by decide) ?_
    refine lv_goto (tgt := 20) C.ex C.by dX10_records_16 (by decide) ?_
    exact wX10_records_20 C h hl hf
theorem ctX10_records {l : Launch} {κ : zG} {n : Nat} {σ : zS} {x1 : Int32} {r1 : Int32} {r2 : zS} (hf : fX10_records_0 n σ x1 = some (r1, r2)) : zMi l yX10_records (Cond.code yX10_records cX10_records 2 (some .int)) rmX10_records wM κ [.ref (κ.2.1 0), .int x1] σ r1 r2 :=
  zMi_of (by decide) (Nat.le_of_ble_eq_true rfl) (fun p e s m below meth c A C h ls hl => wX10_records_0 C h hl hf)
theorem hdX10_blockOf : yX10_blockOf.cls = RX10 ∧ yX10_blockOf.cls ≠ "java/lang/invoke/MethodHandle" ∧ yX10_blockOf.cls ≠ "java/lang/invoke/VarHandle" ∧ (parseMethodDescriptor yX10_blockOf.desc).map (fun d => d.parameters.length) = some 2 := by decide +kernel
abbrev rmX10_blockOf : Room := { frames := 0, cells := 0, slots := 0, locals := 0 }
set_option maxRecDepth 20000 in
set_option maxHeartbeats 4000000 in
theorem wX10_blockOf_L10_10 {p : Program} {l : Launch} {e : Env} {s : State} {m : MethodId} {args : Array Value} {below : List Frame} {meth : Method} {c : Code} {A : Nat → Prop} {κ : zG} {H : Heap} {locs : List Loc} {ls : Array Slot} {Q : State → Prop} {n : Nat} {σ : zS} {k2 : Int32} {a : Int32 × Int32} {r : (Int32 × Int32) ⊕ (Int32)} (C : zC cX10_blockOf 5 (some .int) RX10 κ A p s m args meth c) (h : zH wM κ A s σ H locs) (hl : lv_has ls 5 [(0, .ref (κ.2.1 0)), (2, .int k2), (3, .int a.1), (4, .int a.2)]) (hf : fX10_blockOf_L10_10 n σ k2 a = some r) (Kc : ∀ (v3 : Int32) (v4 : Int32), r = .inl (v3, v4) → ∀ (H : Heap) (locs : List Loc) (ls : Array Slot), zH wM κ A s σ H locs → lv_has ls 5 [(0, .ref (κ.2.1 0)), (2, .int k2), (3, .int v3), (4, .int v4)] → W p l e rmX10_blockOf s m args below meth c H locs 0 0 Q (F0 m 10 ls [])) (Ke0 : ∀ (v3 : Int32), r = .inr v3 → ∀ (H : Heap) (locs : List Loc) (ls : Array Slot), zH wM κ A s σ H locs → lv_has ls 5 [(0, .ref (κ.2.1 0)), (3, .int v3)] → W p l e rmX10_blockOf s m args below meth c H locs 0 0 Q (F0 m 34 ls [])) : W p l e rmX10_blockOf s m args below meth c H locs 0 0 Q (F0 m 10 ls []) := by
  unfold fX10_blockOf_L10_10 at hf
  refine lv_iload C.ex C.by dX10_blockOf_10 (lv_at hl 3 rfl) ?_
  refine lv_iload_n C.ex C.by dX10_blockOf_12 rfl (lv_at hl 1 rfl) ?_
  refine lv_icmp_ge (tgt := 34) C.ex C.by dX10_blockOf_13 (by decide) (fun c2 => ?_) (fun c2 => ?_)
  · have hf := zif_t c2 hf
    exact Ke0 _ (Option.some.inj hf).symm _ _ _ h (lv_sub hl [0, 2] rfl)
  · have hf := zif_f c2 hf
    refine lv_iload_n C.ex C.by dX10_blockOf_16 rfl (lv_at hl 2 rfl) ?_
    refine lv_iconst (v := (-1)) C.ex C.by dX10_blockOf_17 (by decide) ?_
    refine lv_icmp_eq (tgt := 34) C.ex C.by dX10_blockOf_18 (by decide) (fun c3 => ?_) (fun c3 => ?_)
    · have hf := zif_t c3 hf
      exact Ke0 _ (Option.some.inj hf).symm _ _ _ h (lv_sub hl [0, 2] rfl)
    · have hf := zif_f c3 hf
      refine lv_aload_n C.ex C.by dX10_blockOf_21 rfl (lv_at hl 0 rfl) ?_
      refine z_get (v := .ref (κ.2.1 4)) C h iwX10 0 (wM_at0 κ _) rfl 7 (by decide) lkM31 rfl dX10_blockOf_22 ?_
      refine lv_iload_n C.ex C.by dX10_blockOf_25 rfl (lv_at hl 2 rfl) ?_
      obtain ⟨h4, hf⟩ := zg_some hf
      refine z_iald (f := (zA σ 2)) C h 4 (wM_at4 κ _) h4 dX10_blockOf_26 ?_
      refine lv_istore_n (lv' := [(3, .int ((zA σ 2) (Int32.toNatClampNeg a.1))), (0, .ref (κ.2.1 0)), (2, .int k2), (4, .int a.2)]) C.ex C.by dX10_blockOf_27 rfl hl (by decide) rfl (fun ls hl => ?_)
      refine lv_iinc (v := (a.2 + 1)) (lv' := [(4, .int (a.2 + 1)), (3, .int ((zA σ 2) (Int32.toNatClampNeg a.1))), (0, .ref (κ.2.1 0)), (2, .int k2)]) C.ex C.by dX10_blockOf_28 hl (k := 3) rfl rfl (by decide) rfl (fun ls hl => ?_)
      refine lv_goto (tgt := 10) C.ex C.by dX10_blockOf_31 (by decide) ?_
      exact Kc _ _ (Option.some.inj hf).symm _ _ _ h (lv_sub hl [2, 3, 1, 0] rfl)
theorem wlX10_blockOf_10 {p : Program} {l : Launch} {e : Env} {s : State} {m : MethodId} {args : Array Value} {below : List Frame} {meth : Method} {c : Code} {A : Nat → Prop} {κ : zG} {H : Heap} {locs : List Loc} {ls : Array Slot} {Q : State → Prop} {n : Nat} {σ : zS} {k2 : Int32} {k0 : Nat} {u3 : Int32} {u4 : Int32} (C : zC cX10_blockOf 5 (some .int) RX10 κ A p s m args meth c) (h : zH wM κ A s σ H locs) (hl : lv_has ls 5 [(0, .ref (κ.2.1 0)), (2, .int k2), (3, .int u3), (4, .int u4)]) (b : Int32) (hb : zlp (fX10_blockOf_L10_10 n σ k2) k0 (u3, u4) = some b) (K : (fun b : Int32 => ∀ (H : Heap) (locs : List Loc) (ls : Array Slot), zH wM κ A s σ H locs → lv_has ls 5 [(0, .ref (κ.2.1 0)), (3, .int b)] → W p l e rmX10_blockOf s m args below meth c H locs 0 0 Q (F0 m 34 ls [])) b) : W p l e rmX10_blockOf s m args below meth c H locs 0 0 Q (F0 m 10 ls []) :=
  z_loop (body := fX10_blockOf_L10_10 n σ k2) (Wd := (fun a : Int32 × Int32 => ∀ (H : Heap) (locs : List Loc) (ls : Array Slot), zH wM κ A s σ H locs → lv_has ls 5 [(0, .ref (κ.2.1 0)), (2, .int k2), (3, .int a.1), (4, .int a.2)] → W p l e rmX10_blockOf s m args below meth c H locs 0 0 Q (F0 m 10 ls []))) (Ex := (fun b : Int32 => (fun b : Int32 => ∀ (H : Heap) (locs : List Loc) (ls : Array Slot), zH wM κ A s σ H locs → lv_has ls 5 [(0, .ref (κ.2.1 0)), (3, .int b)] → W p l e rmX10_blockOf s m args below meth c H locs 0 0 Q (F0 m 34 ls [])) b)) (fun a r hr Kc Ke H locs ls h hl => wX10_blockOf_L10_10 C h hl hr (fun v3 v4 e => Kc (v3, v4) e) (fun v3 e => Ke v3 e)) k0 (u3, u4) b hb K H locs ls h hl
set_option maxRecDepth 20000 in
set_option maxHeartbeats 4000000 in
theorem wX10_blockOf_0 {p : Program} {l : Launch} {e : Env} {s : State} {m : MethodId} {args : Array Value} {below : List Frame} {meth : Method} {c : Code} {A : Nat → Prop} {κ : zG} {H : Heap} {locs : List Loc} {ls : Array Slot} {n : Nat} {σ : zS} {x1 : Int32} {x2 : Int32} {r : Int32} (C : zC cX10_blockOf 5 (some .int) RX10 κ A p s m args meth c) (h : zH wM κ A s σ H locs) (hl : lv_has ls 5 [(0, .ref (κ.2.1 0)), (1, .int x1), (2, .int x2)]) (hf : fX10_blockOf_0 n σ x1 x2 = some r) : W p l e rmX10_blockOf s m args below meth c H locs 0 0 (MQ below (zQi wM κ A r σ) args s 0 0 A) (F0 m 0 ls []) := by
  unfold fX10_blockOf_0 at hf
  refine lv_aload_n C.ex C.by dX10_blockOf_0 rfl (lv_at hl 0 rfl) ?_
  refine z_get (v := .ref (κ.2.1 5)) C h iwX10 0 (wM_at0 κ _) rfl 8 (by decide) lkM45 rfl dX10_blockOf_1 ?_
  refine lv_iload_n C.ex C.by dX10_blockOf_4 rfl (lv_at hl 1 rfl) ?_
  obtain ⟨h1, hf⟩ := zg_some hf
  refine z_iald (f := (zA σ 3)) C h 5 (wM_at5 κ _) h1 dX10_blockOf_5 ?_
  refine lv_istore_n (lv' := [(3, .int ((zA σ 3) (Int32.toNatClampNeg x1))), (0, .ref (κ.2.1 0)), (1, .int x1), (2, .int x2)]) C.ex C.by dX10_blockOf_6 rfl hl (by decide) rfl (fun ls hl => ?_)
  refine lv_iconst (v := 0) C.ex C.by dX10_blockOf_7 (by decide) ?_
  refine lv_istore (lv' := [(4, .int 0), (3, .int ((zA σ 3) (Int32.toNatClampNeg x1))), (0, .ref (κ.2.1 0)), (1, .int x1), (2, .int x2)]) C.ex C.by dX10_blockOf_8 hl (by decide) rfl (fun ls hl => ?_)
  obtain ⟨b5, e6, hf⟩ := zb_some hf
  refine wlX10_blockOf_10 C h (lv_sub hl [2, 4, 1, 0] rfl) b5 e6 ?_
  intro H locs ls h hl
  refine lv_iload_n C.ex C.by dX10_blockOf_34 rfl (lv_at hl 1 rfl) ?_
  cases hf
  exact z_iret C h dX10_blockOf_35
theorem ctX10_blockOf {l : Launch} {κ : zG} {n : Nat} {σ : zS} {x1 : Int32} {x2 : Int32} {r : Int32} (hf : fX10_blockOf_0 n σ x1 x2 = some r) : zMi l yX10_blockOf (Cond.code yX10_blockOf cX10_blockOf 5 (some .int)) rmX10_blockOf wM κ [.ref (κ.2.1 0), .int x1, .int x2] σ r σ :=
  zMi_of (by decide) (Nat.le_of_ble_eq_true rfl) (fun p e s m below meth c A C h ls hl => wX10_blockOf_0 C h hl hf)
theorem hdX10_block : yX10_block.cls = RX10 ∧ yX10_block.cls ≠ "java/lang/invoke/MethodHandle" ∧ yX10_block.cls ≠ "java/lang/invoke/VarHandle" ∧ (parseMethodDescriptor yX10_block.desc).map (fun d => d.parameters.length) = some 2 := by decide +kernel
abbrev rmX10_block : Room := { frames := 1, cells := 0, slots := 0, locals := 24 }
set_option maxRecDepth 20000 in
set_option maxHeartbeats 4000000 in
theorem wX10_block_75 {p : Program} {l : Launch} {e : Env} {s : State} {m : MethodId} {args : Array Value} {below : List Frame} {meth : Method} {c : Code} {A : Nat → Prop} {κ : zG} {H : Heap} {locs : List Loc} {ls : Array Slot} {n : Nat} {σ : zS} {x3 : Int32} {y0 : Int32} {r1 : Int32} {r2 : zS} (C : zC cX10_block 4 (some .int) RX10 κ A p s m args meth c) (h : zH wM κ A s σ H locs) (hl : lv_has ls 4 [(0, .ref (κ.2.1 0)), (3, .int x3)]) (hf : fX10_block_75 n σ x3 y0 = some (r1, r2)) : W p l e rmX10_block s m args below meth c H locs 0 0 (MQ below (zQi wM κ A r1 r2) args s 0 0 A) (F0 m 75 ls [.int y0, .ref (κ.2.1 0)]) := by
  unfold fX10_block_75 at hf
  refine z_put C h iwX10 tyX10_ok nmX10 0 (wM_at0 κ _) rfl 0 (by decide) lkM8 rfl rfl rfl (Nat.le_of_ble_eq_true rfl) (sI σ 0 y0) (wM_s0_0 κ _ _) dX10_block_75 (fun H locs h => ?_)
  refine lv_iload_n C.ex C.by dX10_block_78 rfl (lv_at hl 1 rfl) ?_
  cases hf
  exact z_iret C h dX10_block_79
set_option maxRecDepth 20000 in
set_option maxHeartbeats 4000000 in
theorem wX10_block_59 {p : Program} {l : Launch} {e : Env} {s : State} {m : MethodId} {args : Array Value} {below : List Frame} {meth : Method} {c : Code} {A : Nat → Prop} {κ : zG} {H : Heap} {locs : List Loc} {ls : Array Slot} {n : Nat} {σ : zS} {x2 : Int32} {y0 : Int32} {r1 : Int32} {r2 : zS} (C : zC cX10_block 4 (some .int) RX10 κ A p s m args meth c) (h : zH wM κ A s σ H locs) (hl : lv_has ls 4 [(0, .ref (κ.2.1 0)), (2, .int x2)]) (hf : fX10_block_59 n σ x2 y0 = some (r1, r2)) : W p l e rmX10_block s m args below meth c H locs 0 0 (MQ below (zQi wM κ A r1 r2) args s 0 0 A) (F0 m 59 ls [.int y0, .ref (κ.2.1 0)]) := by
  unfold fX10_block_59 at hf
  refine lv_iload_n C.ex C.by dX10_block_59 rfl (lv_at hl 1 rfl) ?_
  obtain ⟨q10, e11, hf⟩ := zb_some hf
  refine z_callVi (As := [.int y0, .int x2]) C h (ctX10_blockOf e11) (zgV lkM228 lkM229 lkM230 lkM2 lkM231) ⟨rfl, rfl⟩ hdX10_blockOf ⟨Nat.le_of_ble_eq_true rfl, Nat.le_of_ble_eq_true rfl⟩ 0 (wM_at0 κ _) rfl hl rfl rfl (Nat.le_of_ble_eq_true rfl) dX10_block_60 ⟨Nat.zero_le _, Nat.zero_le _⟩ (fun H locs h => ?_)
  refine lv_istore_n (lv' := [(3, .int q10), (0, .ref (κ.2.1 0)), (2, .int x2)]) C.ex C.by dX10_block_63 rfl hl (by decide) rfl (fun ls hl => ?_)
  refine lv_aload_n C.ex C.by dX10_block_64 rfl (lv_at hl 1 rfl) ?_
  refine lv_iload_n C.ex C.by dX10_block_65 rfl (lv_at hl 0 rfl) ?_
  refine lv_iconst (v := (-1)) C.ex C.by dX10_block_66 (by decide) ?_
  refine lv_icmp_ne (tgt := 74) C.ex C.by dX10_block_67 (by decide) (fun c12 => ?_) (fun c12 => ?_)
  · have hf := zif_f c12 hf
    refine lv_iconst (v := 0) C.ex C.by dX10_block_74 (by decide) ?_
    exact wX10_block_75 C h (lv_sub hl [1, 0] rfl) hf
  · have hf := zif_t c12 hf
    refine lv_iconst (v := 1) C.ex C.by dX10_block_70 (by decide) ?_
    refine lv_goto (tgt := 75) C.ex C.by dX10_block_71 (by decide) ?_
    exact wX10_block_75 C h (lv_sub hl [1, 0] rfl) hf
set_option maxRecDepth 20000 in
set_option maxHeartbeats 4000000 in
theorem wX10_block_31 {p : Program} {l : Launch} {e : Env} {s : State} {m : MethodId} {args : Array Value} {below : List Frame} {meth : Method} {c : Code} {A : Nat → Prop} {κ : zG} {H : Heap} {locs : List Loc} {ls : Array Slot} {n : Nat} {σ : zS} {x1 : Int32} {x2 : Int32} {y0 : Int32} {r1 : Int32} {r2 : zS} (C : zC cX10_block 4 (some .int) RX10 κ A p s m args meth c) (h : zH wM κ A s σ H locs) (hl : lv_has ls 4 [(0, .ref (κ.2.1 0)), (1, .int x1), (2, .int x2)]) (hf : fX10_block_31 n σ x1 x2 y0 = some (r1, r2)) : W p l e rmX10_block s m args below meth c H locs 0 0 (MQ below (zQi wM κ A r1 r2) args s 0 0 A) (F0 m 31 ls [.int y0, .ref (κ.2.1 0)]) := by
  unfold fX10_block_31 at hf
  refine z_put C h iwX10 tyX10_ok nmX10 0 (wM_at0 κ _) rfl 0 (by decide) lkM8 rfl rfl rfl (Nat.le_of_ble_eq_true rfl) (sI σ 0 y0) (wM_s0_0 κ _ _) dX10_block_31 (fun H locs h => ?_)
  refine lv_aload_n C.ex C.by dX10_block_34 rfl (lv_at hl 0 rfl) ?_
  refine z_get (v := .int y0) C h iwX10 0 (wM_at0 κ _) rfl 0 (by decide) lkM8 rfl dX10_block_35 ?_
  refine lv_if_le (tgt := 43) C.ex C.by dX10_block_38 (by decide) (fun c7 => ?_) (fun c7 => ?_)
  · have hf := zif_t c7 hf
    refine lv_aload_n C.ex C.by dX10_block_43 rfl (lv_at hl 0 rfl) ?_
    refine lv_iload_n C.ex C.by dX10_block_44 rfl (lv_at hl 1 rfl) ?_
    refine lv_iconst (v := (-1)) C.ex C.by dX10_block_45 (by decide) ?_
    refine lv_icmp_ne (tgt := 53) C.ex C.by dX10_block_46 (by decide) (fun c8 => ?_) (fun c8 => ?_)
    · have hf := zif_f c8 hf
      refine lv_aload_n C.ex C.by dX10_block_53 rfl (lv_at hl 0 rfl) ?_
      refine z_get (v := .ref (κ.2.1 9)) C h iwX10 0 (wM_at0 κ _) rfl 12 (by decide) lkM146 rfl dX10_block_54 ?_
      refine lv_iload_n C.ex C.by dX10_block_57 rfl (lv_at hl 1 rfl) ?_
      obtain ⟨h9, hf⟩ := zg_some hf
      refine z_iald (f := (zA σ 7)) C h 9 (wM_at9 κ _) h9 dX10_block_58 ?_
      exact wX10_block_59 C h (lv_sub hl [0, 2] rfl) hf
    · have hf := zif_t c8 hf
      refine lv_iconst (v := 0) C.ex C.by dX10_block_49 (by decide) ?_
      refine lv_goto (tgt := 59) C.ex C.by dX10_block_50 (by decide) ?_
      exact wX10_block_59 C h (lv_sub hl [0, 2] rfl) hf
  · have hf := zif_f c7 hf
    refine lv_iconst (v := 0) C.ex C.by dX10_block_41 (by decide) ?_
    cases hf
    exact z_iret C h dX10_block_42
set_option maxRecDepth 20000 in
set_option maxHeartbeats 4000000 in
theorem wX10_block_30 {p : Program} {l : Launch} {e : Env} {s : State} {m : MethodId} {args : Array Value} {below : List Frame} {meth : Method} {c : Code} {A : Nat → Prop} {κ : zG} {H : Heap} {locs : List Loc} {ls : Array Slot} {n : Nat} {σ : zS} {x1 : Int32} {x2 : Int32} {r1 : Int32} {r2 : zS} (C : zC cX10_block 4 (some .int) RX10 κ A p s m args meth c) (h : zH wM κ A s σ H locs) (hl : lv_has ls 4 [(0, .ref (κ.2.1 0)), (1, .int x1), (2, .int x2)]) (hf : fX10_block_30 n σ x1 x2 = some (r1, r2)) : W p l e rmX10_block s m args below meth c H locs 0 0 (MQ below (zQi wM κ A r1 r2) args s 0 0 A) (F0 m 30 ls [.ref (κ.2.1 0)]) := by
  unfold fX10_block_30 at hf
  refine lv_iconst (v := 1) C.ex C.by dX10_block_30 (by decide) ?_
  exact wX10_block_31 C h hl hf
set_option maxRecDepth 20000 in
set_option maxHeartbeats 4000000 in
theorem wX10_block_0 {p : Program} {l : Launch} {e : Env} {s : State} {m : MethodId} {args : Array Value} {below : List Frame} {meth : Method} {c : Code} {A : Nat → Prop} {κ : zG} {H : Heap} {locs : List Loc} {ls : Array Slot} {n : Nat} {σ : zS} {x1 : Int32} {x2 : Int32} {r1 : Int32} {r2 : zS} (C : zC cX10_block 4 (some .int) RX10 κ A p s m args meth c) (h : zH wM κ A s σ H locs) (hl : lv_has ls 4 [(0, .ref (κ.2.1 0)), (1, .int x1), (2, .int x2)]) (hf : fX10_block_0 n σ x1 x2 = some (r1, r2)) : W p l e rmX10_block s m args below meth c H locs 0 0 (MQ below (zQi wM κ A r1 r2) args s 0 0 A) (F0 m 0 ls []) := by
  unfold fX10_block_0 at hf
  refine lv_aload_n C.ex C.by dX10_block_0 rfl (lv_at hl 0 rfl) ?_
  refine lv_iload_n C.ex C.by dX10_block_1 rfl (lv_at hl 1 rfl) ?_
  refine lv_iconst (v := (-1)) C.ex C.by dX10_block_2 (by decide) ?_
  refine lv_aload_n C.ex C.by dX10_block_3 rfl (lv_at hl 0 rfl) ?_
  refine z_get (v := .int (zI σ 4)) C h iwX10 0 (wM_at0 κ _) rfl 13 (by decide) lkM5 rfl dX10_block_4 ?_
  refine lv_iconst (v := 1) C.ex C.by dX10_block_7 (by decide) ?_
  refine lv_isub C.ex C.by dX10_block_8 ?_
  obtain ⟨q1, e2, hf⟩ := zb_some hf
  refine z_callSi (As := [.int x1, .int (-1), .int ((zI σ 4) - 1)]) C h (ctX10_isIn e2) (zgS lkM0 lkM1 lkM2 lkM3) ⟨rfl, rfl⟩ hdX10_isIn ⟨Nat.le_of_ble_eq_true rfl, Nat.le_of_ble_eq_true rfl⟩ hl rfl rfl (Nat.le_of_ble_eq_true rfl) dX10_block_9 ⟨Nat.zero_le _, Nat.zero_le _⟩ (fun H locs h => ?_)
  refine lv_if_eq (tgt := 30) C.ex C.by dX10_block_12 (by decide) (fun c3 => ?_) (fun c3 => ?_)
  · have hf := zif_t c3 hf
    exact wX10_block_30 C h hl hf
  · have hf := zif_f c3 hf
    refine lv_iload_n C.ex C.by dX10_block_15 rfl (lv_at hl 2 rfl) ?_
    refine lv_iconst (v := 0) C.ex C.by dX10_block_16 (by decide) ?_
    refine lv_sipush (v := 199) C.ex C.by dX10_block_17 (by decide) ?_
    obtain ⟨q4, e5, hf⟩ := zb_some hf
    refine z_callSi (As := [.int x2, .int 0, .int 199]) C h (ctX10_isIn e5) (zgS lkM0 lkM1 lkM2 lkM3) ⟨rfl, rfl⟩ hdX10_isIn ⟨Nat.le_of_ble_eq_true rfl, Nat.le_of_ble_eq_true rfl⟩ hl rfl rfl (Nat.le_of_ble_eq_true rfl) dX10_block_20 ⟨Nat.zero_le _, Nat.zero_le _⟩ (fun H locs h => ?_)
    refine lv_if_eq (tgt := 30) C.ex C.by dX10_block_23 (by decide) (fun c6 => ?_) (fun c6 => ?_)
    · have hf := zif_t c6 hf
      exact wX10_block_30 C h hl hf
    · have hf := zif_f c6 hf
      refine lv_iconst (v := 0) C.ex C.by dX10_block_26 (by decide) ?_
      refine lv_goto (tgt := 31) C.ex C.by dX10_block_27 (by decide) ?_
      exact wX10_block_31 C h hl hf
theorem ctX10_block {l : Launch} {κ : zG} {n : Nat} {σ : zS} {x1 : Int32} {x2 : Int32} {r1 : Int32} {r2 : zS} (hf : fX10_block_0 n σ x1 x2 = some (r1, r2)) : zMi l yX10_block (Cond.code yX10_block cX10_block 4 (some .int)) rmX10_block wM κ [.ref (κ.2.1 0), .int x1, .int x2] σ r1 r2 :=
  zMi_of (by decide) (Nat.le_of_ble_eq_true rfl) (fun p e s m below meth c A C h ls hl => wX10_block_0 C h hl hf)
theorem hdX10_look : yX10_look.cls = RX10 ∧ yX10_look.cls ≠ "java/lang/invoke/MethodHandle" ∧ yX10_look.cls ≠ "java/lang/invoke/VarHandle" ∧ (parseMethodDescriptor yX10_look.desc).map (fun d => d.parameters.length) = some 2 := by decide +kernel
abbrev rmX10_look : Room := { frames := 1, cells := 0, slots := 0, locals := 24 }
set_option maxRecDepth 20000 in
set_option maxHeartbeats 4000000 in
theorem wX10_look_40 {p : Program} {l : Launch} {e : Env} {s : State} {m : MethodId} {args : Array Value} {below : List Frame} {meth : Method} {c : Code} {A : Nat → Prop} {κ : zG} {H : Heap} {locs : List Loc} {ls : Array Slot} {n : Nat} {σ : zS} {x2 : Int32} {x3 : Int32} {r1 : Int32} {r2 : zS} (C : zC cX10_look 4 (some .int) RX10 κ A p s m args meth c) (h : zH wM κ A s σ H locs) (hl : lv_has ls 4 [(0, .ref (κ.2.1 0)), (2, .int x2), (3, .int x3)]) (hf : fX10_look_40 n σ x2 x3 = some (r1, r2)) : W p l e rmX10_look s m args below meth c H locs 0 0 (MQ below (zQi wM κ A r1 r2) args s 0 0 A) (F0 m 40 ls []) := by
  unfold fX10_look_40 at hf
  refine lv_bipush (v := 64) C.ex C.by dX10_look_40 (by decide) ?_
  refine lv_iload_n C.ex C.by dX10_look_42 rfl (lv_at hl 2 rfl) ?_
  refine lv_imul C.ex C.by dX10_look_43 ?_
  refine lv_iload_n C.ex C.by dX10_look_44 rfl (lv_at hl 1 rfl) ?_
  refine lv_aload_n C.ex C.by dX10_look_45 rfl (lv_at hl 0 rfl) ?_
  obtain ⟨q10, e11, hf⟩ := zb_some hf
  refine z_callVi (As := []) C h (ctX10_per e11) (zgV lkM25 lkM26 lkM27 lkM2 lkM28) ⟨rfl, rfl⟩ hdX10_per ⟨Nat.le_of_ble_eq_true rfl, Nat.le_of_ble_eq_true rfl⟩ 0 (wM_at0 κ _) rfl hl rfl rfl (Nat.le_of_ble_eq_true rfl) dX10_look_46 ⟨Nat.zero_le _, Nat.zero_le _⟩ (fun H locs h => ?_)
  obtain ⟨h12, hf⟩ := zg_some hf
  refine lv_irem C.ex C.by dX10_look_49 (znz_ne h12) ?_
  refine lv_aload_n C.ex C.by dX10_look_50 rfl (lv_at hl 0 rfl) ?_
  refine z_get (v := .int (zI σ 6)) C h iwX10 0 (wM_at0 κ _) rfl 16 (by decide) lkM9 rfl dX10_look_51 ?_
  refine lv_iconst (v := 1) C.ex C.by dX10_look_54 (by decide) ?_
  refine lv_iadd C.ex C.by dX10_look_55 ?_
  refine lv_imul C.ex C.by dX10_look_56 ?_
  refine lv_iadd C.ex C.by dX10_look_57 ?_
  cases hf
  exact z_iret C h dX10_look_58
set_option maxRecDepth 20000 in
set_option maxHeartbeats 4000000 in
theorem wX10_look_0 {p : Program} {l : Launch} {e : Env} {s : State} {m : MethodId} {args : Array Value} {below : List Frame} {meth : Method} {c : Code} {A : Nat → Prop} {κ : zG} {H : Heap} {locs : List Loc} {ls : Array Slot} {n : Nat} {σ : zS} {x1 : Int32} {x2 : Int32} {r1 : Int32} {r2 : zS} (C : zC cX10_look 4 (some .int) RX10 κ A p s m args meth c) (h : zH wM κ A s σ H locs) (hl : lv_has ls 4 [(0, .ref (κ.2.1 0)), (1, .int x1), (2, .int x2)]) (hf : fX10_look_0 n σ x1 x2 = some (r1, r2)) : W p l e rmX10_look s m args below meth c H locs 0 0 (MQ below (zQi wM κ A r1 r2) args s 0 0 A) (F0 m 0 ls []) := by
  unfold fX10_look_0 at hf
  refine lv_aload_n C.ex C.by dX10_look_0 rfl (lv_at hl 0 rfl) ?_
  refine lv_aload_n C.ex C.by dX10_look_1 rfl (lv_at hl 0 rfl) ?_
  refine z_get (v := .ref (κ.2.1 9)) C h iwX10 0 (wM_at0 κ _) rfl 12 (by decide) lkM146 rfl dX10_look_2 ?_
  refine lv_iload_n C.ex C.by dX10_look_5 rfl (lv_at hl 1 rfl) ?_
  obtain ⟨h1, hf⟩ := zg_some hf
  refine z_iald (f := (zA σ 7)) C h 9 (wM_at9 κ _) h1 dX10_look_6 ?_
  refine lv_iload_n C.ex C.by dX10_look_7 rfl (lv_at hl 2 rfl) ?_
  refine lv_aload_n C.ex C.by dX10_look_8 rfl (lv_at hl 0 rfl) ?_
  obtain ⟨q2, e3, hf⟩ := zb_some hf
  refine z_callVi (As := []) C h (ctX10_per e3) (zgV lkM25 lkM26 lkM27 lkM2 lkM28) ⟨rfl, rfl⟩ hdX10_per ⟨Nat.le_of_ble_eq_true rfl, Nat.le_of_ble_eq_true rfl⟩ 0 (wM_at0 κ _) rfl hl rfl rfl (Nat.le_of_ble_eq_true rfl) dX10_look_9 ⟨Nat.zero_le _, Nat.zero_le _⟩ (fun H locs h => ?_)
  obtain ⟨h4, hf⟩ := zg_some hf
  refine lv_idiv C.ex C.by dX10_look_12 (znz_ne h4) ?_
  obtain ⟨q5, e6, hf⟩ := zb_some hf
  refine z_callVi (As := [.int ((zA σ 7) (Int32.toNatClampNeg x1)), .int (x2 / q2)]) C h (ctX10_blockOf e6) (zgV lkM228 lkM229 lkM230 lkM2 lkM231) ⟨rfl, rfl⟩ hdX10_blockOf ⟨Nat.le_of_ble_eq_true rfl, Nat.le_of_ble_eq_true rfl⟩ 0 (wM_at0 κ _) rfl hl rfl rfl (Nat.le_of_ble_eq_true rfl) dX10_look_13 ⟨Nat.zero_le _, Nat.zero_le _⟩ (fun H locs h => ?_)
  refine lv_istore_n (lv' := [(3, .int q5), (0, .ref (κ.2.1 0)), (1, .int x1), (2, .int x2)]) C.ex C.by dX10_look_16 rfl hl (by decide) rfl (fun ls hl => ?_)
  refine lv_iload_n C.ex C.by dX10_look_17 rfl (lv_at hl 0 rfl) ?_
  refine lv_aload_n C.ex C.by dX10_look_18 rfl (lv_at hl 1 rfl) ?_
  refine z_get (v := .int (zI σ 14)) C h iwX10 0 (wM_at0 κ _) rfl 26 (by decide) lkM35 rfl dX10_look_19 ?_
  refine lv_icmp_eq (tgt := 40) C.ex C.by dX10_look_22 (by decide) (fun c7 => ?_) (fun c7 => ?_)
  · have hf := zif_t c7 hf
    exact wX10_look_40 C h (lv_sub hl [1, 3, 0] rfl) hf
  · have hf := zif_f c7 hf
    refine lv_aload_n C.ex C.by dX10_look_25 rfl (lv_at hl 1 rfl) ?_
    refine lv_dup C.ex C.by dX10_look_26 rfl ?_
    refine z_get (v := .int (zI σ 10)) C h iwX10 0 (wM_at0 κ _) rfl 22 (by decide) lkM63 rfl dX10_look_27 ?_
    refine lv_iconst (v := 1) C.ex C.by dX10_look_30 (by decide) ?_
    refine lv_iadd C.ex C.by dX10_look_31 ?_
    refine z_put C h iwX10 tyX10_ok nmX10 0 (wM_at0 κ _) rfl 22 (by decide) lkM63 rfl rfl rfl (Nat.le_of_ble_eq_true rfl) (sI σ 10 ((zI σ 10) + 1)) (wM_s0_22 κ _ _) dX10_look_32 (fun H locs h => ?_)
    refine lv_aload_n C.ex C.by dX10_look_35 rfl (lv_at hl 1 rfl) ?_
    refine lv_iload_n C.ex C.by dX10_look_36 rfl (lv_at hl 0 rfl) ?_
    obtain ⟨q8, e9, hf⟩ := zb_some hf
    refine z_callVv (As := [.int q5]) C h (ctX10_go e9) (zgV lkM36 lkM37 lkM38 lkM2 lkM39) ⟨rfl, rfl⟩ hdX10_go ⟨Nat.le_of_ble_eq_true rfl, Nat.le_of_ble_eq_true rfl⟩ 0 (wM_at0 κ _) rfl hl rfl rfl (Nat.le_of_ble_eq_true rfl) dX10_look_37 ⟨Nat.zero_le _, Nat.zero_le _⟩ (fun H locs h => ?_)
    exact wX10_look_40 C h (lv_sub hl [1, 3, 0] rfl) hf
theorem ctX10_look {l : Launch} {κ : zG} {n : Nat} {σ : zS} {x1 : Int32} {x2 : Int32} {r1 : Int32} {r2 : zS} (hf : fX10_look_0 n σ x1 x2 = some (r1, r2)) : zMi l yX10_look (Cond.code yX10_look cX10_look 4 (some .int)) rmX10_look wM κ [.ref (κ.2.1 0), .int x1, .int x2] σ r1 r2 :=
  zMi_of (by decide) (Nat.le_of_ble_eq_true rfl) (fun p e s m below meth c A C h ls hl => wX10_look_0 C h hl hf)
theorem hdX10_told : yX10_told.cls = RX10 ∧ yX10_told.cls ≠ "java/lang/invoke/MethodHandle" ∧ yX10_told.cls ≠ "java/lang/invoke/VarHandle" ∧ (parseMethodDescriptor yX10_told.desc).map (fun d => d.parameters.length) = some 3 := by decide +kernel
abbrev rmX10_told : Room := { frames := 2, cells := 0, slots := 0, locals := 47 }
set_option maxRecDepth 20000 in
set_option maxHeartbeats 4000000 in
theorem wX10_told_88 {p : Program} {l : Launch} {e : Env} {s : State} {m : MethodId} {args : Array Value} {below : List Frame} {meth : Method} {c : Code} {A : Nat → Prop} {κ : zG} {H : Heap} {locs : List Loc} {ls : Array Slot} {n : Nat} {σ : zS} {x1 : Int32} {x2 : Int32} {x3 : Int32} {y0 : Int32} {r1 : Int64} {r2 : zS} (C : zC cX10_told 5 (some .long) RX10 κ A p s m args meth c) (h : zH wM κ A s σ H locs) (hl : lv_has ls 5 [(0, .ref (κ.2.1 0)), (1, .int x1), (2, .int x2), (3, .int x3)]) (hf : fX10_told_88 n σ x1 x2 x3 y0 = some (r1, r2)) : W p l e rmX10_told s m args below meth c H locs 0 0 (MQ below (zQl wM κ A r1 r2) args s 0 0 A) (F0 m 88 ls [.int y0, .ref (κ.2.1 0)]) := by
  unfold fX10_told_88 at hf
  refine z_put C h iwX10 tyX10_ok nmX10 0 (wM_at0 κ _) rfl 0 (by decide) lkM8 rfl rfl rfl (Nat.le_of_ble_eq_true rfl) (sI σ 0 y0) (wM_s0_0 κ _ _) dX10_told_88 (fun H locs h => ?_)
  refine lv_aload_n C.ex C.by dX10_told_91 rfl (lv_at hl 0 rfl) ?_
  refine z_get (v := .int y0) C h iwX10 0 (wM_at0 κ _) rfl 0 (by decide) lkM8 rfl dX10_told_92 ?_
  refine lv_if_le (tgt := 102) C.ex C.by dX10_told_95 (by decide) (fun c15 => ?_) (fun c15 => ?_)
  · have hf := zif_t c15 hf
    refine lv_aload_n C.ex C.by dX10_told_102 rfl (lv_at hl 0 rfl) ?_
    refine z_get (v := .ref (κ.2.1 1)) C h iwX10 0 (wM_at0 κ _) rfl 4 (by decide) lkM40 rfl dX10_told_103 ?_
    refine lv_aload_n C.ex C.by dX10_told_106 rfl (lv_at hl 0 rfl) ?_
    refine lv_iload_n C.ex C.by dX10_told_107 rfl (lv_at hl 1 rfl) ?_
    refine lv_iload_n C.ex C.by dX10_told_108 rfl (lv_at hl 2 rfl) ?_
    obtain ⟨q16, e17, hf⟩ := zb_some hf
    refine z_callVi (As := [.int x1, .int x2]) C h (ctX10_look (r1 := q16.1) (r2 := q16.2) e17) (zgV lkM232 lkM233 lkM234 lkM2 lkM235) ⟨rfl, rfl⟩ hdX10_look ⟨Nat.le_of_ble_eq_true rfl, Nat.le_of_ble_eq_true rfl⟩ 0 (wM_at0 κ _) rfl hl rfl rfl (Nat.le_of_ble_eq_true rfl) dX10_told_109 ⟨Nat.zero_le _, Nat.zero_le _⟩ (fun H locs h => ?_)
    refine lv_iload_n C.ex C.by dX10_told_112 rfl (lv_at hl 3 rfl) ?_
    refine lv_iadd C.ex C.by dX10_told_113 ?_
    obtain ⟨h18, hf⟩ := zg_some hf
    refine z_lald (f := (zL q16.2 0)) C h 1 (wM_at1 κ _) h18 dX10_told_114 ?_
    cases hf
    exact z_lret C h dX10_told_115
  · have hf := zif_f c15 hf
    refine lv_lconst (v := 0) C.ex C.by dX10_told_98 (by decide) ?_
    refine lv_goto (tgt := 115) C.ex C.by dX10_told_99 (by decide) ?_
    cases hf
    exact z_lret C h dX10_told_115
set_option maxRecDepth 20000 in
set_option maxHeartbeats 4000000 in
theorem wX10_told_64 {p : Program} {l : Launch} {e : Env} {s : State} {m : MethodId} {args : Array Value} {below : List Frame} {meth : Method} {c : Code} {A : Nat → Prop} {κ : zG} {H : Heap} {locs : List Loc} {ls : Array Slot} {n : Nat} {σ : zS} {x1 : Int32} {x2 : Int32} {x3 : Int32} {y0 : Int32} {r1 : Int64} {r2 : zS} (C : zC cX10_told 5 (some .long) RX10 κ A p s m args meth c) (h : zH wM κ A s σ H locs) (hl : lv_has ls 5 [(0, .ref (κ.2.1 0)), (1, .int x1), (2, .int x2), (3, .int x3)]) (hf : fX10_told_64 n σ x1 x2 x3 y0 = some (r1, r2)) : W p l e rmX10_told s m args below meth c H locs 0 0 (MQ below (zQl wM κ A r1 r2) args s 0 0 A) (F0 m 64 ls [.int y0]) := by
  unfold fX10_told_64 at hf
  refine lv_istore (lv' := [(4, .int y0), (0, .ref (κ.2.1 0)), (1, .int x1), (2, .int x2), (3, .int x3)]) C.ex C.by dX10_told_64 hl (by decide) rfl (fun ls hl => ?_)
  refine lv_aload_n C.ex C.by dX10_told_66 rfl (lv_at hl 1 rfl) ?_
  refine lv_iload C.ex C.by dX10_told_67 (lv_at hl 0 rfl) ?_
  refine lv_if_ne (tgt := 76) C.ex C.by dX10_told_69 (by decide) (fun c13 => ?_) (fun c13 => ?_)
  · have hf := zif_f c13 hf
    refine lv_aload_n C.ex C.by dX10_told_76 rfl (lv_at hl 1 rfl) ?_
    refine z_get (v := .int (zI σ 16)) C h iwX10 0 (wM_at0 κ _) rfl 28 (by decide) lkM4 rfl dX10_told_77 ?_
    refine lv_if_eq (tgt := 87) C.ex C.by dX10_told_80 (by decide) (fun c14 => ?_) (fun c14 => ?_)
    · have hf := zif_t c14 hf
      refine lv_iconst (v := 0) C.ex C.by dX10_told_87 (by decide) ?_
      exact wX10_told_88 C h (lv_sub hl [1, 2, 3, 4] rfl) hf
    · have hf := zif_f c14 hf
      refine lv_iconst (v := 2) C.ex C.by dX10_told_83 (by decide) ?_
      refine lv_goto (tgt := 88) C.ex C.by dX10_told_84 (by decide) ?_
      exact wX10_told_88 C h (lv_sub hl [1, 2, 3, 4] rfl) hf
  · have hf := zif_t c13 hf
    refine lv_iconst (v := 1) C.ex C.by dX10_told_72 (by decide) ?_
    refine lv_goto (tgt := 88) C.ex C.by dX10_told_73 (by decide) ?_
    exact wX10_told_88 C h (lv_sub hl [1, 2, 3, 4] rfl) hf
set_option maxRecDepth 20000 in
set_option maxHeartbeats 4000000 in
theorem wX10_told_63 {p : Program} {l : Launch} {e : Env} {s : State} {m : MethodId} {args : Array Value} {below : List Frame} {meth : Method} {c : Code} {A : Nat → Prop} {κ : zG} {H : Heap} {locs : List Loc} {ls : Array Slot} {n : Nat} {σ : zS} {x1 : Int32} {x2 : Int32} {x3 : Int32} {r1 : Int64} {r2 : zS} (C : zC cX10_told 5 (some .long) RX10 κ A p s m args meth c) (h : zH wM κ A s σ H locs) (hl : lv_has ls 5 [(0, .ref (κ.2.1 0)), (1, .int x1), (2, .int x2), (3, .int x3)]) (hf : fX10_told_63 n σ x1 x2 x3 = some (r1, r2)) : W p l e rmX10_told s m args below meth c H locs 0 0 (MQ below (zQl wM κ A r1 r2) args s 0 0 A) (F0 m 63 ls []) := by
  unfold fX10_told_63 at hf
  refine lv_iconst (v := 0) C.ex C.by dX10_told_63 (by decide) ?_
  exact wX10_told_64 C h hl hf
set_option maxRecDepth 20000 in
set_option maxHeartbeats 4000000 in
theorem wX10_told_31 {p : Program} {l : Launch} {e : Env} {s : State} {m : MethodId} {args : Array Value} {below : List Frame} {meth : Method} {c : Code} {A : Nat → Prop} {κ : zG} {H : Heap} {locs : List Loc} {ls : Array Slot} {n : Nat} {σ : zS} {x1 : Int32} {x2 : Int32} {x3 : Int32} {y0 : Int32} {r1 : Int64} {r2 : zS} (C : zC cX10_told 5 (some .long) RX10 κ A p s m args meth c) (h : zH wM κ A s σ H locs) (hl : lv_has ls 5 [(0, .ref (κ.2.1 0)), (1, .int x1), (2, .int x2), (3, .int x3)]) (hf : fX10_told_31 n σ x1 x2 x3 y0 = some (r1, r2)) : W p l e rmX10_told s m args below meth c H locs 0 0 (MQ below (zQl wM κ A r1 r2) args s 0 0 A) (F0 m 31 ls [.int y0]) := by
  unfold fX10_told_31 at hf
  refine lv_istore (lv' := [(4, .int y0), (0, .ref (κ.2.1 0)), (1, .int x1), (2, .int x2), (3, .int x3)]) C.ex C.by dX10_told_31 hl (by decide) rfl (fun ls hl => ?_)
  refine lv_iload C.ex C.by dX10_told_33 (lv_at hl 0 rfl) ?_
  refine lv_if_eq (tgt := 63) C.ex C.by dX10_told_35 (by decide) (fun c7 => ?_) (fun c7 => ?_)
  · have hf := zif_t c7 hf
    exact wX10_told_63 C h (lv_sub hl [1, 2, 3, 4] rfl) hf
  · have hf := zif_f c7 hf
    refine lv_iload_n C.ex C.by dX10_told_38 rfl (lv_at hl 3 rfl) ?_
    refine lv_iconst (v := 0) C.ex C.by dX10_told_39 (by decide) ?_
    refine lv_aload_n C.ex C.by dX10_told_40 rfl (lv_at hl 1 rfl) ?_
    refine z_get (v := .ref (κ.2.1 7)) C h iwX10 0 (wM_at0 κ _) rfl 10 (by decide) lkM6 rfl dX10_told_41 ?_
    refine lv_aload_n C.ex C.by dX10_told_44 rfl (lv_at hl 1 rfl) ?_
    refine z_get (v := .ref (κ.2.1 9)) C h iwX10 0 (wM_at0 κ _) rfl 12 (by decide) lkM146 rfl dX10_told_45 ?_
    refine lv_iload_n C.ex C.by dX10_told_48 rfl (lv_at hl 2 rfl) ?_
    obtain ⟨h8, hf⟩ := zg_some hf
    refine z_iald (f := (zA σ 7)) C h 9 (wM_at9 κ _) h8 dX10_told_49 ?_
    obtain ⟨h9, hf⟩ := zg_some hf
    refine z_iald (f := (zA σ 5)) C h 7 (wM_at7 κ _) h9 dX10_told_50 ?_
    refine lv_iconst (v := 1) C.ex C.by dX10_told_51 (by decide) ?_
    refine lv_isub C.ex C.by dX10_told_52 ?_
    obtain ⟨q10, e11, hf⟩ := zb_some hf
    refine z_callSi (As := [.int x2, .int 0, .int (((zA σ 5) (Int32.toNatClampNeg ((zA σ 7) (Int32.toNatClampNeg x1)))) - 1)]) C h (ctX10_isIn e11) (zgS lkM0 lkM1 lkM2 lkM3) ⟨rfl, rfl⟩ hdX10_isIn ⟨Nat.le_of_ble_eq_true rfl, Nat.le_of_ble_eq_true rfl⟩ hl rfl rfl (Nat.le_of_ble_eq_true rfl) dX10_told_53 ⟨Nat.zero_le _, Nat.zero_le _⟩ (fun H locs h => ?_)
    refine lv_if_eq (tgt := 63) C.ex C.by dX10_told_56 (by decide) (fun c12 => ?_) (fun c12 => ?_)
    · have hf := zif_t c12 hf
      exact wX10_told_63 C h (lv_sub hl [1, 2, 3, 4] rfl) hf
    · have hf := zif_f c12 hf
      refine lv_iconst (v := 1) C.ex C.by dX10_told_59 (by decide) ?_
      refine lv_goto (tgt := 64) C.ex C.by dX10_told_60 (by decide) ?_
      exact wX10_told_64 C h (lv_sub hl [1, 2, 3, 4] rfl) hf
set_option maxRecDepth 20000 in
set_option maxHeartbeats 4000000 in
theorem wX10_told_30 {p : Program} {l : Launch} {e : Env} {s : State} {m : MethodId} {args : Array Value} {below : List Frame} {meth : Method} {c : Code} {A : Nat → Prop} {κ : zG} {H : Heap} {locs : List Loc} {ls : Array Slot} {n : Nat} {σ : zS} {x1 : Int32} {x2 : Int32} {x3 : Int32} {r1 : Int64} {r2 : zS} (C : zC cX10_told 5 (some .long) RX10 κ A p s m args meth c) (h : zH wM κ A s σ H locs) (hl : lv_has ls 5 [(0, .ref (κ.2.1 0)), (1, .int x1), (2, .int x2), (3, .int x3)]) (hf : fX10_told_30 n σ x1 x2 x3 = some (r1, r2)) : W p l e rmX10_told s m args below meth c H locs 0 0 (MQ below (zQl wM κ A r1 r2) args s 0 0 A) (F0 m 30 ls []) := by
  unfold fX10_told_30 at hf
  refine lv_iconst (v := 0) C.ex C.by dX10_told_30 (by decide) ?_
  exact wX10_told_31 C h hl hf
set_option maxRecDepth 20000 in
set_option maxHeartbeats 4000000 in
theorem wX10_told_0 {p : Program} {l : Launch} {e : Env} {s : State} {m : MethodId} {args : Array Value} {below : List Frame} {meth : Method} {c : Code} {A : Nat → Prop} {κ : zG} {H : Heap} {locs : List Loc} {ls : Array Slot} {n : Nat} {σ : zS} {x1 : Int32} {x2 : Int32} {x3 : Int32} {r1 : Int64} {r2 : zS} (C : zC cX10_told 5 (some .long) RX10 κ A p s m args meth c) (h : zH wM κ A s σ H locs) (hl : lv_has ls 5 [(0, .ref (κ.2.1 0)), (1, .int x1), (2, .int x2), (3, .int x3)]) (hf : fX10_told_0 n σ x1 x2 x3 = some (r1, r2)) : W p l e rmX10_told s m args below meth c H locs 0 0 (MQ below (zQl wM κ A r1 r2) args s 0 0 A) (F0 m 0 ls []) := by
  unfold fX10_told_0 at hf
  refine lv_iload_n C.ex C.by dX10_told_0 rfl (lv_at hl 1 rfl) ?_
  refine lv_iconst (v := 0) C.ex C.by dX10_told_1 (by decide) ?_
  refine lv_aload_n C.ex C.by dX10_told_2 rfl (lv_at hl 0 rfl) ?_
  refine z_get (v := .int (zI σ 4)) C h iwX10 0 (wM_at0 κ _) rfl 13 (by decide) lkM5 rfl dX10_told_3 ?_
  refine lv_iconst (v := 1) C.ex C.by dX10_told_6 (by decide) ?_
  refine lv_isub C.ex C.by dX10_told_7 ?_
  obtain ⟨q1, e2, hf⟩ := zb_some hf
  refine z_callSi (As := [.int x1, .int 0, .int ((zI σ 4) - 1)]) C h (ctX10_isIn e2) (zgS lkM0 lkM1 lkM2 lkM3) ⟨rfl, rfl⟩ hdX10_isIn ⟨Nat.le_of_ble_eq_true rfl, Nat.le_of_ble_eq_true rfl⟩ hl rfl rfl (Nat.le_of_ble_eq_true rfl) dX10_told_8 ⟨Nat.zero_le _, Nat.zero_le _⟩ (fun H locs h => ?_)
  refine lv_if_eq (tgt := 30) C.ex C.by dX10_told_11 (by decide) (fun c3 => ?_) (fun c3 => ?_)
  · have hf := zif_t c3 hf
    exact wX10_told_30 C h hl hf
  · have hf := zif_f c3 hf
    refine lv_iload_n C.ex C.by dX10_told_14 rfl (lv_at hl 3 rfl) ?_
    refine lv_iconst (v := 0) C.ex C.by dX10_told_15 (by decide) ?_
    refine lv_aload_n C.ex C.by dX10_told_16 rfl (lv_at hl 0 rfl) ?_
    refine z_get (v := .int (zI σ 6)) C h iwX10 0 (wM_at0 κ _) rfl 16 (by decide) lkM9 rfl dX10_told_17 ?_
    obtain ⟨q4, e5, hf⟩ := zb_some hf
    refine z_callSi (As := [.int x3, .int 0, .int (zI σ 6)]) C h (ctX10_isIn e5) (zgS lkM0 lkM1 lkM2 lkM3) ⟨rfl, rfl⟩ hdX10_isIn ⟨Nat.le_of_ble_eq_true rfl, Nat.le_of_ble_eq_true rfl⟩ hl rfl rfl (Nat.le_of_ble_eq_true rfl) dX10_told_20 ⟨Nat.zero_le _, Nat.zero_le _⟩ (fun H locs h => ?_)
    refine lv_if_eq (tgt := 30) C.ex C.by dX10_told_23 (by decide) (fun c6 => ?_) (fun c6 => ?_)
    · have hf := zif_t c6 hf
      exact wX10_told_30 C h hl hf
    · have hf := zif_f c6 hf
      refine lv_iconst (v := 1) C.ex C.by dX10_told_26 (by decide) ?_
      refine lv_goto (tgt := 31) C.ex C.by dX10_told_27 (by decide) ?_
      exact wX10_told_31 C h hl hf
theorem ctX10_told {l : Launch} {κ : zG} {n : Nat} {σ : zS} {x1 : Int32} {x2 : Int32} {x3 : Int32} {r1 : Int64} {r2 : zS} (hf : fX10_told_0 n σ x1 x2 x3 = some (r1, r2)) : zMl l yX10_told (Cond.code yX10_told cX10_told 5 (some .long)) rmX10_told wM κ [.ref (κ.2.1 0), .int x1, .int x2, .int x3] σ r1 r2 :=
  zMl_of (by decide) (Nat.le_of_ble_eq_true rfl) (fun p e s m below meth c A C h ls hl => wX10_told_0 C h hl hf)
theorem hdX10_rank : yX10_rank.cls = RX10 ∧ yX10_rank.cls ≠ "java/lang/invoke/MethodHandle" ∧ yX10_rank.cls ≠ "java/lang/invoke/VarHandle" ∧ (parseMethodDescriptor yX10_rank.desc).map (fun d => d.parameters.length) = some 2 := by decide +kernel
abbrev rmX10_rank : Room := { frames := 2, cells := 0, slots := 0, locals := 47 }
set_option maxRecDepth 20000 in
set_option maxHeartbeats 4000000 in
theorem wX10_rank_L101_196 {p : Program} {l : Launch} {e : Env} {s : State} {m : MethodId} {args : Array Value} {below : List Frame} {meth : Method} {c : Code} {A : Nat → Prop} {κ : zG} {H : Heap} {locs : List Loc} {ls : Array Slot} {Q : State → Prop} {n : Nat} {σ : zS} {k1 : Int32} {k2 : Int64} {k4 : Int32} {k5 : Int32} {x6 : Int32} {y0 : Int32} {r : (Int32 × Int32 × zS) ⊕ (Int32 × zS)} (C : zC cX10_rank 12 (some .int) RX10 κ A p s m args meth c) (h : zH wM κ A s σ H locs) (hl : lv_has ls 12 [(0, .ref (κ.2.1 0)), (1, .int k1), (2, .long k2), (4, .int k4), (5, .int k5), (6, .int x6)]) (hf : fX10_rank_L101_196 n σ k1 k2 k4 k5 x6 y0 = some r) (Kc : ∀ (v6 : Int32) (v7 : Int32) (σ1 : zS), r = .inl (v6, v7, σ1) → ∀ (H : Heap) (locs : List Loc) (ls : Array Slot), zH wM κ A s σ1 H locs → lv_has ls 12 [(0, .ref (κ.2.1 0)), (1, .int k1), (2, .long k2), (4, .int k4), (5, .int k5), (6, .int v6), (7, .int v7)] → W p l e rmX10_rank s m args below meth c H locs 0 0 Q (F0 m 101 ls [])) (Ke0 : ∀ (v6 : Int32) (σ1 : zS), r = .inr (v6, σ1) → ∀ (H : Heap) (locs : List Loc) (ls : Array Slot), zH wM κ A s σ1 H locs → lv_has ls 12 [(0, .ref (κ.2.1 0)), (6, .int v6)] → W p l e rmX10_rank s m args below meth c H locs 0 0 Q (F0 m 201 ls [])) : W p l e rmX10_rank s m args below meth c H locs 0 0 Q (F0 m 196 ls [.int y0]) := by
  unfold fX10_rank_L101_196 at hf
  refine lv_istore (lv' := [(7, .int y0), (0, .ref (κ.2.1 0)), (1, .int k1), (2, .long k2), (4, .int k4), (5, .int k5), (6, .int x6)]) C.ex C.by dX10_rank_196 hl (by decide) rfl (fun ls hl => ?_)
  refine lv_goto (tgt := 101) C.ex C.by dX10_rank_198 (by decide) ?_
  exact Kc _ _ _ (Option.some.inj hf).symm _ _ _ h (lv_sub hl [1, 2, 3, 4, 5, 6, 0] rfl)
set_option maxRecDepth 20000 in
set_option maxHeartbeats 4000000 in
theorem wX10_rank_L101_182 {p : Program} {l : Launch} {e : Env} {s : State} {m : MethodId} {args : Array Value} {below : List Frame} {meth : Method} {c : Code} {A : Nat → Prop} {κ : zG} {H : Heap} {locs : List Loc} {ls : Array Slot} {Q : State → Prop} {n : Nat} {σ : zS} {k1 : Int32} {k2 : Int64} {k4 : Int32} {k5 : Int32} {x7 : Int32} {x8 : Int32} {x11 : Int32} {y0 : Int32} {r : (Int32 × Int32 × zS) ⊕ (Int32 × zS)} (C : zC cX10_rank 12 (some .int) RX10 κ A p s m args meth c) (h : zH wM κ A s σ H locs) (hl : lv_has ls 12 [(0, .ref (κ.2.1 0)), (1, .int k1), (2, .long k2), (4, .int k4), (5, .int k5), (7, .int x7), (8, .int x8), (11, .int x11)]) (hf : fX10_rank_L101_182 n σ k1 k2 k4 k5 x7 x8 x11 y0 = some r) (Kc : ∀ (v6 : Int32) (v7 : Int32) (σ1 : zS), r = .inl (v6, v7, σ1) → ∀ (H : Heap) (locs : List Loc) (ls : Array Slot), zH wM κ A s σ1 H locs → lv_has ls 12 [(0, .ref (κ.2.1 0)), (1, .int k1), (2, .long k2), (4, .int k4), (5, .int k5), (6, .int v6), (7, .int v7)] → W p l e rmX10_rank s m args below meth c H locs 0 0 Q (F0 m 101 ls [])) (Ke0 : ∀ (v6 : Int32) (σ1 : zS), r = .inr (v6, σ1) → ∀ (H : Heap) (locs : List Loc) (ls : Array Slot), zH wM κ A s σ1 H locs → lv_has ls 12 [(0, .ref (κ.2.1 0)), (6, .int v6)] → W p l e rmX10_rank s m args below meth c H locs 0 0 Q (F0 m 201 ls [])) : W p l e rmX10_rank s m args below meth c H locs 0 0 Q (F0 m 182 ls [.int y0]) := by
  unfold fX10_rank_L101_182 at hf
  refine lv_istore (lv' := [(6, .int y0), (0, .ref (κ.2.1 0)), (1, .int k1), (2, .long k2), (4, .int k4), (5, .int k5), (7, .int x7), (8, .int x8), (11, .int x11)]) C.ex C.by dX10_rank_182 hl (by decide) rfl (fun ls hl => ?_)
  refine lv_iload C.ex C.by dX10_rank_184 (lv_at hl 8 rfl) ?_
  refine lv_if_eq (tgt := 194) C.ex C.by dX10_rank_186 (by decide) (fun c22 => ?_) (fun c22 => ?_)
  · have hf := zif_t c22 hf
    refine lv_iload C.ex C.by dX10_rank_194 (lv_at hl 7 rfl) ?_
    exact wX10_rank_L101_196 C h (lv_sub hl [1, 2, 3, 4, 5, 0] rfl) hf Kc Ke0
  · have hf := zif_f c22 hf
    refine lv_iload C.ex C.by dX10_rank_189 (lv_at hl 6 rfl) ?_
    refine lv_goto (tgt := 196) C.ex C.by dX10_rank_191 (by decide) ?_
    exact wX10_rank_L101_196 C h (lv_sub hl [1, 2, 3, 4, 5, 0] rfl) hf Kc Ke0
set_option maxRecDepth 20000 in
set_option maxHeartbeats 4000000 in
theorem wX10_rank_L101_166 {p : Program} {l : Launch} {e : Env} {s : State} {m : MethodId} {args : Array Value} {below : List Frame} {meth : Method} {c : Code} {A : Nat → Prop} {κ : zG} {H : Heap} {locs : List Loc} {ls : Array Slot} {Q : State → Prop} {n : Nat} {σ : zS} {k1 : Int32} {k2 : Int64} {k4 : Int32} {k5 : Int32} {x6 : Int32} {x7 : Int32} {x8 : Int32} {y0 : Int32} {r : (Int32 × Int32 × zS) ⊕ (Int32 × zS)} (C : zC cX10_rank 12 (some .int) RX10 κ A p s m args meth c) (h : zH wM κ A s σ H locs) (hl : lv_has ls 12 [(0, .ref (κ.2.1 0)), (1, .int k1), (2, .long k2), (4, .int k4), (5, .int k5), (6, .int x6), (7, .int x7), (8, .int x8)]) (hf : fX10_rank_L101_166 n σ k1 k2 k4 k5 x6 x7 x8 y0 = some r) (Kc : ∀ (v6 : Int32) (v7 : Int32) (σ1 : zS), r = .inl (v6, v7, σ1) → ∀ (H : Heap) (locs : List Loc) (ls : Array Slot), zH wM κ A s σ1 H locs → lv_has ls 12 [(0, .ref (κ.2.1 0)), (1, .int k1), (2, .long k2), (4, .int k4), (5, .int k5), (6, .int v6), (7, .int v7)] → W p l e rmX10_rank s m args below meth c H locs 0 0 Q (F0 m 101 ls [])) (Ke0 : ∀ (v6 : Int32) (σ1 : zS), r = .inr (v6, σ1) → ∀ (H : Heap) (locs : List Loc) (ls : Array Slot), zH wM κ A s σ1 H locs → lv_has ls 12 [(0, .ref (κ.2.1 0)), (6, .int v6)] → W p l e rmX10_rank s m args below meth c H locs 0 0 Q (F0 m 201 ls [])) : W p l e rmX10_rank s m args below meth c H locs 0 0 Q (F0 m 166 ls [.int y0]) := by
  unfold fX10_rank_L101_166 at hf
  refine lv_istore (lv' := [(11, .int y0), (0, .ref (κ.2.1 0)), (1, .int k1), (2, .long k2), (4, .int k4), (5, .int k5), (6, .int x6), (7, .int x7), (8, .int x8)]) C.ex C.by dX10_rank_166 hl (by decide) rfl (fun ls hl => ?_)
  refine lv_iload C.ex C.by dX10_rank_168 (lv_at hl 0 rfl) ?_
  refine lv_if_eq (tgt := 180) C.ex C.by dX10_rank_170 (by decide) (fun c21 => ?_) (fun c21 => ?_)
  · have hf := zif_t c21 hf
    refine lv_iload C.ex C.by dX10_rank_180 (lv_at hl 6 rfl) ?_
    exact wX10_rank_L101_182 C h (lv_sub hl [1, 2, 3, 4, 5, 7, 8, 0] rfl) hf Kc Ke0
  · have hf := zif_f c21 hf
    refine lv_iload C.ex C.by dX10_rank_173 (lv_at hl 8 rfl) ?_
    refine lv_iconst (v := 1) C.ex C.by dX10_rank_175 (by decide) ?_
    refine lv_iadd C.ex C.by dX10_rank_176 ?_
    refine lv_goto (tgt := 182) C.ex C.by dX10_rank_177 (by decide) ?_
    exact wX10_rank_L101_182 C h (lv_sub hl [1, 2, 3, 4, 5, 7, 8, 0] rfl) hf Kc Ke0
set_option maxRecDepth 20000 in
set_option maxHeartbeats 4000000 in
theorem wX10_rank_L101_101 {p : Program} {l : Launch} {e : Env} {s : State} {m : MethodId} {args : Array Value} {below : List Frame} {meth : Method} {c : Code} {A : Nat → Prop} {κ : zG} {H : Heap} {locs : List Loc} {ls : Array Slot} {Q : State → Prop} {n : Nat} {k1 : Int32} {k2 : Int64} {k4 : Int32} {k5 : Int32} {a : Int32 × Int32 × zS} {r : (Int32 × Int32 × zS) ⊕ (Int32 × zS)} (C : zC cX10_rank 12 (some .int) RX10 κ A p s m args meth c) (h : zH wM κ A s a.2.2 H locs) (hl : lv_has ls 12 [(0, .ref (κ.2.1 0)), (1, .int k1), (2, .long k2), (4, .int k4), (5, .int k5), (6, .int a.1), (7, .int a.2.1)]) (hf : fX10_rank_L101_101 n k1 k2 k4 k5 a = some r) (Kc : ∀ (v6 : Int32) (v7 : Int32) (σ1 : zS), r = .inl (v6, v7, σ1) → ∀ (H : Heap) (locs : List Loc) (ls : Array Slot), zH wM κ A s σ1 H locs → lv_has ls 12 [(0, .ref (κ.2.1 0)), (1, .int k1), (2, .long k2), (4, .int k4), (5, .int k5), (6, .int v6), (7, .int v7)] → W p l e rmX10_rank s m args below meth c H locs 0 0 Q (F0 m 101 ls [])) (Ke0 : ∀ (v6 : Int32) (σ1 : zS), r = .inr (v6, σ1) → ∀ (H : Heap) (locs : List Loc) (ls : Array Slot), zH wM κ A s σ1 H locs → lv_has ls 12 [(0, .ref (κ.2.1 0)), (6, .int v6)] → W p l e rmX10_rank s m args below meth c H locs 0 0 Q (F0 m 201 ls [])) : W p l e rmX10_rank s m args below meth c H locs 0 0 Q (F0 m 101 ls []) := by
  unfold fX10_rank_L101_101 at hf
  refine lv_iload C.ex C.by dX10_rank_101 (lv_at hl 5 rfl) ?_
  refine lv_iload C.ex C.by dX10_rank_103 (lv_at hl 6 rfl) ?_
  refine lv_icmp_ge (tgt := 201) C.ex C.by dX10_rank_105 (by decide) (fun c13 => ?_) (fun c13 => ?_)
  · have hf := zif_t c13 hf
    exact Ke0 _ _ (Option.some.inj hf).symm _ _ _ h (lv_sub hl [0, 5] rfl)
  · have hf := zif_f c13 hf
    refine lv_iload C.ex C.by dX10_rank_108 (lv_at hl 5 rfl) ?_
    refine lv_iload C.ex C.by dX10_rank_110 (lv_at hl 6 rfl) ?_
    refine lv_iadd C.ex C.by dX10_rank_112 ?_
    refine lv_iconst (v := 2) C.ex C.by dX10_rank_113 (by decide) ?_
    obtain ⟨h14, hf⟩ := zg_some hf
    refine lv_idiv C.ex C.by dX10_rank_114 (znz_ne h14) ?_
    refine lv_istore (lv' := [(8, .int ((a.1 + a.2.1) / 2)), (0, .ref (κ.2.1 0)), (1, .int k1), (2, .long k2), (4, .int k4), (5, .int k5), (6, .int a.1), (7, .int a.2.1)]) C.ex C.by dX10_rank_115 hl (by decide) rfl (fun ls hl => ?_)
    refine lv_aload_n C.ex C.by dX10_rank_117 rfl (lv_at hl 1 rfl) ?_
    refine z_get (v := .ref (κ.2.1 1)) C h iwX10 0 (wM_at0 κ _) rfl 4 (by decide) lkM40 rfl dX10_rank_118 ?_
    refine lv_aload_n C.ex C.by dX10_rank_121 rfl (lv_at hl 1 rfl) ?_
    refine lv_iload_n C.ex C.by dX10_rank_122 rfl (lv_at hl 2 rfl) ?_
    refine lv_iload C.ex C.by dX10_rank_123 (lv_at hl 0 rfl) ?_
    obtain ⟨q15, e16, hf⟩ := zb_some hf
    refine z_callVi (As := [.int k1, .int ((a.1 + a.2.1) / 2)]) C h (ctX10_look (r1 := q15.1) (r2 := q15.2) e16) (zgV lkM232 lkM233 lkM234 lkM2 lkM235) ⟨rfl, rfl⟩ hdX10_look ⟨Nat.le_of_ble_eq_true rfl, Nat.le_of_ble_eq_true rfl⟩ 0 (wM_at0 κ _) rfl hl rfl rfl (Nat.le_of_ble_eq_true rfl) dX10_rank_125 ⟨Nat.zero_le _, Nat.zero_le _⟩ (fun H locs h => ?_)
    refine lv_iload C.ex C.by dX10_rank_128 (lv_at hl 4 rfl) ?_
    refine lv_iadd C.ex C.by dX10_rank_130 ?_
    obtain ⟨h17, hf⟩ := zg_some hf
    refine z_lald (f := (zL q15.2 0)) C h 1 (wM_at1 κ _) h17 dX10_rank_131 ?_
    refine lv_lstore (lv' := [(9, .long ((zL q15.2 0) (Int32.toNatClampNeg (q15.1 + k4)))), (8, .int ((a.1 + a.2.1) / 2)), (0, .ref (κ.2.1 0)), (1, .int k1), (2, .long k2), (4, .int k4), (5, .int k5), (6, .int a.1), (7, .int a.2.1)]) C.ex C.by dX10_rank_132 hl (by decide) rfl (fun ls hl => ?_)
    refine lv_iload C.ex C.by dX10_rank_134 (lv_at hl 6 rfl) ?_
    refine lv_if_eq (tgt := 154) C.ex C.by dX10_rank_136 (by decide) (fun c18 => ?_) (fun c18 => ?_)
    · have hf := zif_t c18 hf
      refine lv_lload C.ex C.by dX10_rank_154 (lv_at hl 0 rfl) ?_
      refine lv_lload_n C.ex C.by dX10_rank_156 rfl (lv_at hl 4 rfl) ?_
      refine W.lcmp C.ex C.by dX10_rank_157 ?_
      refine lv_if_ge (tgt := 165) C.ex C.by dX10_rank_158 (by decide) (fun c19 => ?_) (fun c19 => ?_)
      · have hf := zif_t c19 hf
        refine lv_iconst (v := 0) C.ex C.by dX10_rank_165 (by decide) ?_
        exact wX10_rank_L101_166 C h (lv_sub hl [2, 3, 4, 5, 6, 7, 8, 1] rfl) hf Kc Ke0
      · have hf := zif_f c19 hf
        refine lv_iconst (v := 1) C.ex C.by dX10_rank_161 (by decide) ?_
        refine lv_goto (tgt := 166) C.ex C.by dX10_rank_162 (by decide) ?_
        exact wX10_rank_L101_166 C h (lv_sub hl [2, 3, 4, 5, 6, 7, 8, 1] rfl) hf Kc Ke0
    · have hf := zif_f c18 hf
      refine lv_lload C.ex C.by dX10_rank_139 (lv_at hl 0 rfl) ?_
      refine lv_lload_n C.ex C.by dX10_rank_141 rfl (lv_at hl 4 rfl) ?_
      refine W.lcmp C.ex C.by dX10_rank_142 ?_
      refine lv_if_le (tgt := 150) C.ex C.by dX10_rank_143 (by decide) (fun c20 => ?_) (fun c20 => ?_)
      · have hf := zif_t c20 hf
        refine lv_iconst (v := 0) C.ex C.by dX10_rank_150 (by decide) ?_
        refine lv_goto (tgt := 166) C.ex C.by dX10_rank_151 (by decide) ?_
        exact wX10_rank_L101_166 C h (lv_sub hl [2, 3, 4, 5, 6, 7, 8, 1] rfl) hf Kc Ke0
      · have hf := zif_f c20 hf
        refine lv_iconst (v := 1) C.ex C.by dX10_rank_146 (by decide) ?_
        refine lv_goto (tgt := 166) C.ex C.by dX10_rank_147 (by decide) ?_
        exact wX10_rank_L101_166 C h (lv_sub hl [2, 3, 4, 5, 6, 7, 8, 1] rfl) hf Kc Ke0
theorem wlX10_rank_101 {p : Program} {l : Launch} {e : Env} {s : State} {m : MethodId} {args : Array Value} {below : List Frame} {meth : Method} {c : Code} {A : Nat → Prop} {κ : zG} {H : Heap} {locs : List Loc} {ls : Array Slot} {Q : State → Prop} {n : Nat} {k1 : Int32} {k2 : Int64} {k4 : Int32} {k5 : Int32} {k0 : Nat} {u6 : Int32} {u7 : Int32} {σ1 : zS} (C : zC cX10_rank 12 (some .int) RX10 κ A p s m args meth c) (h : zH wM κ A s σ1 H locs) (hl : lv_has ls 12 [(0, .ref (κ.2.1 0)), (1, .int k1), (2, .long k2), (4, .int k4), (5, .int k5), (6, .int u6), (7, .int u7)]) (b : Int32 × zS) (hb : zlp (fX10_rank_L101_101 n k1 k2 k4 k5) k0 (u6, u7, σ1) = some b) (K : (fun b : Int32 × zS => ∀ (H : Heap) (locs : List Loc) (ls : Array Slot), zH wM κ A s b.2 H locs → lv_has ls 12 [(0, .ref (κ.2.1 0)), (6, .int b.1)] → W p l e rmX10_rank s m args below meth c H locs 0 0 Q (F0 m 201 ls [])) b) : W p l e rmX10_rank s m args below meth c H locs 0 0 Q (F0 m 101 ls []) :=
  z_loop (body := fX10_rank_L101_101 n k1 k2 k4 k5) (Wd := (fun a : Int32 × Int32 × zS => ∀ (H : Heap) (locs : List Loc) (ls : Array Slot), zH wM κ A s a.2.2 H locs → lv_has ls 12 [(0, .ref (κ.2.1 0)), (1, .int k1), (2, .long k2), (4, .int k4), (5, .int k5), (6, .int a.1), (7, .int a.2.1)] → W p l e rmX10_rank s m args below meth c H locs 0 0 Q (F0 m 101 ls []))) (Ex := (fun b : Int32 × zS => (fun b : Int32 × zS => ∀ (H : Heap) (locs : List Loc) (ls : Array Slot), zH wM κ A s b.2 H locs → lv_has ls 12 [(0, .ref (κ.2.1 0)), (6, .int b.1)] → W p l e rmX10_rank s m args below meth c H locs 0 0 Q (F0 m 201 ls [])) b)) (fun a r hr Kc Ke H locs ls h hl => wX10_rank_L101_101 C h hl hr (fun v6 v7 σ1 e => Kc (v6, v7, σ1) e) (fun v6 σ1 e => Ke (v6, σ1) e)) k0 (u6, u7, σ1) b hb K H locs ls h hl
set_option maxRecDepth 20000 in
set_option maxHeartbeats 4000000 in
theorem wX10_rank_83 {p : Program} {l : Launch} {e : Env} {s : State} {m : MethodId} {args : Array Value} {below : List Frame} {meth : Method} {c : Code} {A : Nat → Prop} {κ : zG} {H : Heap} {locs : List Loc} {ls : Array Slot} {n : Nat} {σ : zS} {x1 : Int32} {x2 : Int64} {x4 : Int32} {y0 : Int32} {r1 : Int32} {r2 : zS} (C : zC cX10_rank 12 (some .int) RX10 κ A p s m args meth c) (h : zH wM κ A s σ H locs) (hl : lv_has ls 12 [(0, .ref (κ.2.1 0)), (1, .int x1), (2, .long x2), (4, .int x4)]) (hf : fX10_rank_83 n σ x1 x2 x4 y0 = some (r1, r2)) : W p l e rmX10_rank s m args below meth c H locs 0 0 (MQ below (zQi wM κ A r1 r2) args s 0 0 A) (F0 m 83 ls [.int y0]) := by
  unfold fX10_rank_83 at hf
  refine lv_istore (lv' := [(5, .int y0), (0, .ref (κ.2.1 0)), (1, .int x1), (2, .long x2), (4, .int x4)]) C.ex C.by dX10_rank_83 hl (by decide) rfl (fun ls hl => ?_)
  refine lv_iconst (v := 0) C.ex C.by dX10_rank_85 (by decide) ?_
  refine lv_istore (lv' := [(6, .int 0), (5, .int y0), (0, .ref (κ.2.1 0)), (1, .int x1), (2, .long x2), (4, .int x4)]) C.ex C.by dX10_rank_86 hl (by decide) rfl (fun ls hl => ?_)
  refine lv_aload_n C.ex C.by dX10_rank_88 rfl (lv_at hl 2 rfl) ?_
  refine z_get (v := .ref (κ.2.1 7)) C h iwX10 0 (wM_at0 κ _) rfl 10 (by decide) lkM6 rfl dX10_rank_89 ?_
  refine lv_aload_n C.ex C.by dX10_rank_92 rfl (lv_at hl 2 rfl) ?_
  refine z_get (v := .ref (κ.2.1 9)) C h iwX10 0 (wM_at0 κ _) rfl 12 (by decide) lkM146 rfl dX10_rank_93 ?_
  refine lv_iload_n C.ex C.by dX10_rank_96 rfl (lv_at hl 3 rfl) ?_
  obtain ⟨h11, hf⟩ := zg_some hf
  refine z_iald (f := (zA σ 7)) C h 9 (wM_at9 κ _) h11 dX10_rank_97 ?_
  obtain ⟨h12, hf⟩ := zg_some hf
  refine z_iald (f := (zA σ 5)) C h 7 (wM_at7 κ _) h12 dX10_rank_98 ?_
  refine lv_istore (lv' := [(7, .int ((zA σ 5) (Int32.toNatClampNeg ((zA σ 7) (Int32.toNatClampNeg x1))))), (6, .int 0), (5, .int y0), (0, .ref (κ.2.1 0)), (1, .int x1), (2, .long x2), (4, .int x4)]) C.ex C.by dX10_rank_99 hl (by decide) rfl (fun ls hl => ?_)
  obtain ⟨b23, e24, hf⟩ := zb_some hf
  refine wlX10_rank_101 C h (lv_sub hl [3, 4, 5, 6, 2, 1, 0] rfl) b23 e24 ?_
  intro H locs ls h hl
  refine lv_iload C.ex C.by dX10_rank_201 (lv_at hl 1 rfl) ?_
  cases hf
  exact z_iret C h dX10_rank_203
set_option maxRecDepth 20000 in
set_option maxHeartbeats 4000000 in
theorem wX10_rank_82 {p : Program} {l : Launch} {e : Env} {s : State} {m : MethodId} {args : Array Value} {below : List Frame} {meth : Method} {c : Code} {A : Nat → Prop} {κ : zG} {H : Heap} {locs : List Loc} {ls : Array Slot} {n : Nat} {σ : zS} {x1 : Int32} {x2 : Int64} {x4 : Int32} {r1 : Int32} {r2 : zS} (C : zC cX10_rank 12 (some .int) RX10 κ A p s m args meth c) (h : zH wM κ A s σ H locs) (hl : lv_has ls 12 [(0, .ref (κ.2.1 0)), (1, .int x1), (2, .long x2), (4, .int x4)]) (hf : fX10_rank_82 n σ x1 x2 x4 = some (r1, r2)) : W p l e rmX10_rank s m args below meth c H locs 0 0 (MQ below (zQi wM κ A r1 r2) args s 0 0 A) (F0 m 82 ls []) := by
  unfold fX10_rank_82 at hf
  refine lv_iconst (v := 0) C.ex C.by dX10_rank_82 (by decide) ?_
  exact wX10_rank_83 C h hl hf
set_option maxRecDepth 20000 in
set_option maxHeartbeats 4000000 in
theorem wX10_rank_60 {p : Program} {l : Launch} {e : Env} {s : State} {m : MethodId} {args : Array Value} {below : List Frame} {meth : Method} {c : Code} {A : Nat → Prop} {κ : zG} {H : Heap} {locs : List Loc} {ls : Array Slot} {n : Nat} {σ : zS} {x1 : Int32} {x2 : Int64} {y0 : Int32} {r1 : Int32} {r2 : zS} (C : zC cX10_rank 12 (some .int) RX10 κ A p s m args meth c) (h : zH wM κ A s σ H locs) (hl : lv_has ls 12 [(0, .ref (κ.2.1 0)), (1, .int x1), (2, .long x2)]) (hf : fX10_rank_60 n σ x1 x2 y0 = some (r1, r2)) : W p l e rmX10_rank s m args below meth c H locs 0 0 (MQ below (zQi wM κ A r1 r2) args s 0 0 A) (F0 m 60 ls [.int y0]) := by
  unfold fX10_rank_60 at hf
  refine lv_istore (lv' := [(4, .int y0), (0, .ref (κ.2.1 0)), (1, .int x1), (2, .long x2)]) C.ex C.by dX10_rank_60 hl (by decide) rfl (fun ls hl => ?_)
  refine lv_aload_n C.ex C.by dX10_rank_62 rfl (lv_at hl 1 rfl) ?_
  refine z_get (v := .int (zI σ 7)) C h iwX10 0 (wM_at0 κ _) rfl 19 (by decide) lkM10 rfl dX10_rank_63 ?_
  refine lv_if_le (tgt := 82) C.ex C.by dX10_rank_66 (by decide) (fun c8 => ?_) (fun c8 => ?_)
  · have hf := zif_t c8 hf
    exact wX10_rank_82 C h (lv_sub hl [1, 2, 3, 0] rfl) hf
  · have hf := zif_f c8 hf
    refine lv_aload_n C.ex C.by dX10_rank_69 rfl (lv_at hl 1 rfl) ?_
    refine z_get (v := .ref (κ.2.1 12)) C h iwX10 0 (wM_at0 κ _) rfl 18 (by decide) lkM12 rfl dX10_rank_70 ?_
    refine lv_iconst (v := 0) C.ex C.by dX10_rank_73 (by decide) ?_
    obtain ⟨h9, hf⟩ := zg_some hf
    refine z_zald (f := (zA σ 9)) C h 12 (wM_at12 κ _) h9 dX10_rank_74 ?_
    refine lv_if_eq (tgt := 82) C.ex C.by dX10_rank_75 (by decide) (fun c10 => ?_) (fun c10 => ?_)
    · have hf := zif_t c10 hf
      exact wX10_rank_82 C h (lv_sub hl [1, 2, 3, 0] rfl) hf
    · have hf := zif_f c10 hf
      refine lv_iconst (v := 1) C.ex C.by dX10_rank_78 (by decide) ?_
      refine lv_goto (tgt := 83) C.ex C.by dX10_rank_79 (by decide) ?_
      exact wX10_rank_83 C h (lv_sub hl [1, 2, 3, 0] rfl) hf
set_option maxRecDepth 20000 in
set_option maxHeartbeats 4000000 in
theorem wX10_rank_31 {p : Program} {l : Launch} {e : Env} {s : State} {m : MethodId} {args : Array Value} {below : List Frame} {meth : Method} {c : Code} {A : Nat → Prop} {κ : zG} {H : Heap} {locs : List Loc} {ls : Array Slot} {n : Nat} {σ : zS} {x1 : Int32} {x2 : Int64} {y0 : Int32} {r1 : Int32} {r2 : zS} (C : zC cX10_rank 12 (some .int) RX10 κ A p s m args meth c) (h : zH wM κ A s σ H locs) (hl : lv_has ls 12 [(0, .ref (κ.2.1 0)), (1, .int x1), (2, .long x2)]) (hf : fX10_rank_31 n σ x1 x2 y0 = some (r1, r2)) : W p l e rmX10_rank s m args below meth c H locs 0 0 (MQ below (zQi wM κ A r1 r2) args s 0 0 A) (F0 m 31 ls [.int y0, .ref (κ.2.1 0)]) := by
  unfold fX10_rank_31 at hf
  refine z_put C h iwX10 tyX10_ok nmX10 0 (wM_at0 κ _) rfl 0 (by decide) lkM8 rfl rfl rfl (Nat.le_of_ble_eq_true rfl) (sI σ 0 y0) (wM_s0_0 κ _ _) dX10_rank_31 (fun H locs h => ?_)
  refine lv_aload_n C.ex C.by dX10_rank_34 rfl (lv_at hl 0 rfl) ?_
  refine z_get (v := .int y0) C h iwX10 0 (wM_at0 κ _) rfl 0 (by decide) lkM8 rfl dX10_rank_35 ?_
  refine lv_if_le (tgt := 43) C.ex C.by dX10_rank_38 (by decide) (fun c5 => ?_) (fun c5 => ?_)
  · have hf := zif_t c5 hf
    refine lv_aload_n C.ex C.by dX10_rank_43 rfl (lv_at hl 0 rfl) ?_
    refine z_get (v := .int (zI σ 7)) C h iwX10 0 (wM_at0 κ _) rfl 19 (by decide) lkM10 rfl dX10_rank_44 ?_
    refine lv_if_le (tgt := 59) C.ex C.by dX10_rank_47 (by decide) (fun c6 => ?_) (fun c6 => ?_)
    · have hf := zif_t c6 hf
      refine lv_iconst (v := 0) C.ex C.by dX10_rank_59 (by decide) ?_
      exact wX10_rank_60 C h hl hf
    · have hf := zif_f c6 hf
      refine lv_aload_n C.ex C.by dX10_rank_50 rfl (lv_at hl 0 rfl) ?_
      refine z_get (v := .ref (κ.2.1 11)) C h iwX10 0 (wM_at0 κ _) rfl 17 (by decide) lkM11 rfl dX10_rank_51 ?_
      refine lv_iconst (v := 0) C.ex C.by dX10_rank_54 (by decide) ?_
      obtain ⟨h7, hf⟩ := zg_some hf
      refine z_iald (f := (zA σ 8)) C h 11 (wM_at11 κ _) h7 dX10_rank_55 ?_
      refine lv_goto (tgt := 60) C.ex C.by dX10_rank_56 (by decide) ?_
      exact wX10_rank_60 C h hl hf
  · have hf := zif_f c5 hf
    refine lv_iconst (v := 0) C.ex C.by dX10_rank_41 (by decide) ?_
    cases hf
    exact z_iret C h dX10_rank_42
set_option maxRecDepth 20000 in
set_option maxHeartbeats 4000000 in
theorem wX10_rank_0 {p : Program} {l : Launch} {e : Env} {s : State} {m : MethodId} {args : Array Value} {below : List Frame} {meth : Method} {c : Code} {A : Nat → Prop} {κ : zG} {H : Heap} {locs : List Loc} {ls : Array Slot} {n : Nat} {σ : zS} {x1 : Int32} {x2 : Int64} {r1 : Int32} {r2 : zS} (C : zC cX10_rank 12 (some .int) RX10 κ A p s m args meth c) (h : zH wM κ A s σ H locs) (hl : lv_has ls 12 [(0, .ref (κ.2.1 0)), (1, .int x1), (2, .long x2)]) (hf : fX10_rank_0 n σ x1 x2 = some (r1, r2)) : W p l e rmX10_rank s m args below meth c H locs 0 0 (MQ below (zQi wM κ A r1 r2) args s 0 0 A) (F0 m 0 ls []) := by
  unfold fX10_rank_0 at hf
  refine lv_aload_n C.ex C.by dX10_rank_0 rfl (lv_at hl 0 rfl) ?_
  refine lv_iload_n C.ex C.by dX10_rank_1 rfl (lv_at hl 1 rfl) ?_
  refine lv_iconst (v := 0) C.ex C.by dX10_rank_2 (by decide) ?_
  refine lv_aload_n C.ex C.by dX10_rank_3 rfl (lv_at hl 0 rfl) ?_
  refine z_get (v := .int (zI σ 4)) C h iwX10 0 (wM_at0 κ _) rfl 13 (by decide) lkM5 rfl dX10_rank_4 ?_
  refine lv_iconst (v := 1) C.ex C.by dX10_rank_7 (by decide) ?_
  refine lv_isub C.ex C.by dX10_rank_8 ?_
  obtain ⟨q1, e2, hf⟩ := zb_some hf
  refine z_callSi (As := [.int x1, .int 0, .int ((zI σ 4) - 1)]) C h (ctX10_isIn e2) (zgS lkM0 lkM1 lkM2 lkM3) ⟨rfl, rfl⟩ hdX10_isIn ⟨Nat.le_of_ble_eq_true rfl, Nat.le_of_ble_eq_true rfl⟩ hl rfl rfl (Nat.le_of_ble_eq_true rfl) dX10_rank_9 ⟨Nat.zero_le _, Nat.zero_le _⟩ (fun H locs h => ?_)
  refine lv_if_ne (tgt := 19) C.ex C.by dX10_rank_12 (by decide) (fun c3 => ?_) (fun c3 => ?_)
  · have hf := zif_f c3 hf
    refine lv_aload_n C.ex C.by dX10_rank_19 rfl (lv_at hl 0 rfl) ?_
    refine z_get (v := .int (zI σ 16)) C h iwX10 0 (wM_at0 κ _) rfl 28 (by decide) lkM4 rfl dX10_rank_20 ?_
    refine lv_if_eq (tgt := 30) C.ex C.by dX10_rank_23 (by decide) (fun c4 => ?_) (fun c4 => ?_)
    · have hf := zif_t c4 hf
      refine lv_iconst (v := 0) C.ex C.by dX10_rank_30 (by decide) ?_
      exact wX10_rank_31 C h hl hf
    · have hf := zif_f c4 hf
      refine lv_iconst (v := 2) C.ex C.by dX10_rank_26 (by decide) ?_
      refine lv_goto (tgt := 31) C.ex C.by dX10_rank_27 (by decide) ?_
      exact wX10_rank_31 C h hl hf
  · have hf := zif_t c3 hf
    refine lv_iconst (v := 1) C.ex C.by dX10_rank_15 (by decide) ?_
    refine lv_goto (tgt := 31) C.ex C.by dX10_rank_16 (by decide) ?_
    exact wX10_rank_31 C h hl hf
theorem ctX10_rank {l : Launch} {κ : zG} {n : Nat} {σ : zS} {x1 : Int32} {x2 : Int64} {r1 : Int32} {r2 : zS} (hf : fX10_rank_0 n σ x1 x2 = some (r1, r2)) : zMi l yX10_rank (Cond.code yX10_rank cX10_rank 12 (some .int)) rmX10_rank wM κ [.ref (κ.2.1 0), .int x1, .long x2] σ r1 r2 :=
  zMi_of (by decide) (Nat.le_of_ble_eq_true rfl) (fun p e s m below meth c A C h ls hl => wX10_rank_0 C h hl hf)
theorem hdX10_drop : yX10_drop.cls = RX10 ∧ yX10_drop.cls ≠ "java/lang/invoke/MethodHandle" ∧ yX10_drop.cls ≠ "java/lang/invoke/VarHandle" ∧ (parseMethodDescriptor yX10_drop.desc).map (fun d => d.parameters.length) = some 1 := by decide +kernel
abbrev rmX10_drop : Room := { frames := 1, cells := 0, slots := 0, locals := 22 }
set_option maxRecDepth 20000 in
set_option maxHeartbeats 4000000 in
theorem wX10_drop_L57_57 {p : Program} {l : Launch} {e : Env} {s : State} {m : MethodId} {args : Array Value} {below : List Frame} {meth : Method} {c : Code} {A : Nat → Prop} {κ : zG} {H : Heap} {locs : List Loc} {ls : Array Slot} {Q : State → Prop} {n : Nat} {a : Int32 × zS} {r : (Int32 × zS) ⊕ (zS)} (C : zC cX10_drop 3 (some .int) RX10 κ A p s m args meth c) (h : zH wM κ A s a.2 H locs) (hl : lv_has ls 3 [(0, .ref (κ.2.1 0)), (2, .int a.1)]) (hf : fX10_drop_L57_57 n a = some r) (Kc : ∀ (v2 : Int32) (σ1 : zS), r = .inl (v2, σ1) → ∀ (H : Heap) (locs : List Loc) (ls : Array Slot), zH wM κ A s σ1 H locs → lv_has ls 3 [(0, .ref (κ.2.1 0)), (2, .int v2)] → W p l e rmX10_drop s m args below meth c H locs 0 0 Q (F0 m 57 ls [])) (Ke0 : ∀ (σ1 : zS), r = .inr σ1 → ∀ (H : Heap) (locs : List Loc) (ls : Array Slot), zH wM κ A s σ1 H locs → lv_has ls 3 [(0, .ref (κ.2.1 0))] → W p l e rmX10_drop s m args below meth c H locs 0 0 Q (F0 m 85 ls [])) : W p l e rmX10_drop s m args below meth c H locs 0 0 Q (F0 m 57 ls []) := by
  unfold fX10_drop_L57_57 at hf
  refine lv_iload_n C.ex C.by dX10_drop_57 rfl (lv_at hl 1 rfl) ?_
  refine lv_aload_n C.ex C.by dX10_drop_58 rfl (lv_at hl 0 rfl) ?_
  refine z_get (v := .int (zI a.2 4)) C h iwX10 0 (wM_at0 κ _) rfl 13 (by decide) lkM5 rfl dX10_drop_59 ?_
  refine lv_icmp_ge (tgt := 85) C.ex C.by dX10_drop_62 (by decide) (fun c9 => ?_) (fun c9 => ?_)
  · have hf := zif_t c9 hf
    exact Ke0 _ (Option.some.inj hf).symm _ _ _ h (lv_sub hl [0] rfl)
  · have hf := zif_f c9 hf
    refine lv_aload_n C.ex C.by dX10_drop_65 rfl (lv_at hl 0 rfl) ?_
    refine z_get (v := .ref (κ.2.1 9)) C h iwX10 0 (wM_at0 κ _) rfl 12 (by decide) lkM146 rfl dX10_drop_66 ?_
    refine lv_iload_n C.ex C.by dX10_drop_69 rfl (lv_at hl 1 rfl) ?_
    refine lv_iconst (v := 1) C.ex C.by dX10_drop_70 (by decide) ?_
    refine lv_isub C.ex C.by dX10_drop_71 ?_
    refine lv_aload_n C.ex C.by dX10_drop_72 rfl (lv_at hl 0 rfl) ?_
    refine z_get (v := .ref (κ.2.1 9)) C h iwX10 0 (wM_at0 κ _) rfl 12 (by decide) lkM146 rfl dX10_drop_73 ?_
    refine lv_iload_n C.ex C.by dX10_drop_76 rfl (lv_at hl 1 rfl) ?_
    obtain ⟨h10, hf⟩ := zg_some hf
    refine z_iald (f := (zA a.2 7)) C h 9 (wM_at9 κ _) h10 dX10_drop_77 ?_
    obtain ⟨h11, hf⟩ := zg_some hf
    refine z_iast (f := (zA a.2 7)) C h 9 (wM_at9 κ _) h11 (sA a.2 7 (upd (zA a.2 7) (Int32.toNatClampNeg (a.1 - 1)) ((zA a.2 7) (Int32.toNatClampNeg a.1)))) (wM_s9 κ _ _) dX10_drop_78 (fun H locs h => ?_)
    refine lv_iinc (v := (a.1 + 1)) (lv' := [(2, .int (a.1 + 1)), (0, .ref (κ.2.1 0))]) C.ex C.by dX10_drop_79 hl (k := 1) rfl rfl (by decide) rfl (fun ls hl => ?_)
    refine lv_goto (tgt := 57) C.ex C.by dX10_drop_82 (by decide) ?_
    exact Kc _ _ (Option.some.inj hf).symm _ _ _ h (lv_sub hl [1, 0] rfl)
theorem wlX10_drop_57 {p : Program} {l : Launch} {e : Env} {s : State} {m : MethodId} {args : Array Value} {below : List Frame} {meth : Method} {c : Code} {A : Nat → Prop} {κ : zG} {H : Heap} {locs : List Loc} {ls : Array Slot} {Q : State → Prop} {n : Nat} {k0 : Nat} {u2 : Int32} {σ1 : zS} (C : zC cX10_drop 3 (some .int) RX10 κ A p s m args meth c) (h : zH wM κ A s σ1 H locs) (hl : lv_has ls 3 [(0, .ref (κ.2.1 0)), (2, .int u2)]) (b : zS) (hb : zlp (fX10_drop_L57_57 n) k0 (u2, σ1) = some b) (K : (fun b : zS => ∀ (H : Heap) (locs : List Loc) (ls : Array Slot), zH wM κ A s b H locs → lv_has ls 3 [(0, .ref (κ.2.1 0))] → W p l e rmX10_drop s m args below meth c H locs 0 0 Q (F0 m 85 ls [])) b) : W p l e rmX10_drop s m args below meth c H locs 0 0 Q (F0 m 57 ls []) :=
  z_loop (body := fX10_drop_L57_57 n) (Wd := (fun a : Int32 × zS => ∀ (H : Heap) (locs : List Loc) (ls : Array Slot), zH wM κ A s a.2 H locs → lv_has ls 3 [(0, .ref (κ.2.1 0)), (2, .int a.1)] → W p l e rmX10_drop s m args below meth c H locs 0 0 Q (F0 m 57 ls []))) (Ex := (fun b : zS => (fun b : zS => ∀ (H : Heap) (locs : List Loc) (ls : Array Slot), zH wM κ A s b H locs → lv_has ls 3 [(0, .ref (κ.2.1 0))] → W p l e rmX10_drop s m args below meth c H locs 0 0 Q (F0 m 85 ls [])) b)) (fun a r hr Kc Ke H locs ls h hl => wX10_drop_L57_57 C h hl hr (fun v2 σ1 e => Kc (v2, σ1) e) (fun σ1 e => Ke σ1 e)) k0 (u2, σ1) b hb K H locs ls h hl
set_option maxRecDepth 20000 in
set_option maxHeartbeats 4000000 in
theorem wX10_drop_31 {p : Program} {l : Launch} {e : Env} {s : State} {m : MethodId} {args : Array Value} {below : List Frame} {meth : Method} {c : Code} {A : Nat → Prop} {κ : zG} {H : Heap} {locs : List Loc} {ls : Array Slot} {n : Nat} {σ : zS} {x1 : Int32} {y0 : Int32} {r1 : Int32} {r2 : zS} (C : zC cX10_drop 3 (some .int) RX10 κ A p s m args meth c) (h : zH wM κ A s σ H locs) (hl : lv_has ls 3 [(0, .ref (κ.2.1 0)), (1, .int x1)]) (hf : fX10_drop_31 n σ x1 y0 = some (r1, r2)) : W p l e rmX10_drop s m args below meth c H locs 0 0 (MQ below (zQi wM κ A r1 r2) args s 0 0 A) (F0 m 31 ls [.int y0, .ref (κ.2.1 0)]) := by
  unfold fX10_drop_31 at hf
  refine z_put C h iwX10 tyX10_ok nmX10 0 (wM_at0 κ _) rfl 0 (by decide) lkM8 rfl rfl rfl (Nat.le_of_ble_eq_true rfl) (sI σ 0 y0) (wM_s0_0 κ _ _) dX10_drop_31 (fun H locs h => ?_)
  refine lv_aload_n C.ex C.by dX10_drop_34 rfl (lv_at hl 0 rfl) ?_
  refine z_get (v := .int y0) C h iwX10 0 (wM_at0 κ _) rfl 0 (by decide) lkM8 rfl dX10_drop_35 ?_
  refine lv_if_le (tgt := 43) C.ex C.by dX10_drop_38 (by decide) (fun c5 => ?_) (fun c5 => ?_)
  · have hf := zif_t c5 hf
    refine lv_aload_n C.ex C.by dX10_drop_43 rfl (lv_at hl 0 rfl) ?_
    refine lv_aload_n C.ex C.by dX10_drop_44 rfl (lv_at hl 0 rfl) ?_
    refine z_get (v := .ref (κ.2.1 9)) C h iwX10 0 (wM_at0 κ _) rfl 12 (by decide) lkM146 rfl dX10_drop_45 ?_
    refine lv_iload_n C.ex C.by dX10_drop_48 rfl (lv_at hl 1 rfl) ?_
    obtain ⟨h6, hf⟩ := zg_some hf
    refine z_iald (f := (zA σ 7)) C h 9 (wM_at9 κ _) h6 dX10_drop_49 ?_
    obtain ⟨q7, e8, hf⟩ := zb_some hf
    refine z_callVv (As := [.int ((zA σ 7) (Int32.toNatClampNeg x1))]) C h (ctX10_free e8) (zgV lkM142 lkM143 lkM144 lkM2 lkM145) ⟨rfl, rfl⟩ hdX10_free ⟨Nat.le_of_ble_eq_true rfl, Nat.le_of_ble_eq_true rfl⟩ 0 (wM_at0 κ _) rfl hl rfl rfl (Nat.le_of_ble_eq_true rfl) dX10_drop_50 ⟨Nat.zero_le _, Nat.zero_le _⟩ (fun H locs h => ?_)
    refine lv_iload_n C.ex C.by dX10_drop_53 rfl (lv_at hl 1 rfl) ?_
    refine lv_iconst (v := 1) C.ex C.by dX10_drop_54 (by decide) ?_
    refine lv_iadd C.ex C.by dX10_drop_55 ?_
    refine lv_istore_n (lv' := [(2, .int (x1 + 1)), (0, .ref (κ.2.1 0)), (1, .int x1)]) C.ex C.by dX10_drop_56 rfl hl (by decide) rfl (fun ls hl => ?_)
    obtain ⟨b12, e13, hf⟩ := zb_some hf
    refine wlX10_drop_57 C h (lv_sub hl [1, 0] rfl) b12 e13 ?_
    intro H locs ls h hl
    refine lv_aload_n C.ex C.by dX10_drop_85 rfl (lv_at hl 0 rfl) ?_
    refine lv_dup C.ex C.by dX10_drop_86 rfl ?_
    refine z_get (v := .int (zI b12 4)) C h iwX10 0 (wM_at0 κ _) rfl 13 (by decide) lkM5 rfl dX10_drop_87 ?_
    refine lv_iconst (v := 1) C.ex C.by dX10_drop_90 (by decide) ?_
    refine lv_isub C.ex C.by dX10_drop_91 ?_
    refine z_put C h iwX10 tyX10_ok nmX10 0 (wM_at0 κ _) rfl 13 (by decide) lkM5 rfl rfl rfl (Nat.le_of_ble_eq_true rfl) (sI b12 4 ((zI b12 4) - 1)) (wM_s0_13 κ _ _) dX10_drop_92 (fun H locs h => ?_)
    refine lv_aload_n C.ex C.by dX10_drop_95 rfl (lv_at hl 0 rfl) ?_
    refine z_get (v := .int ((zI b12 4) - 1)) C h iwX10 0 (wM_at0 κ _) rfl 13 (by decide) lkM5 rfl dX10_drop_96 ?_
    cases hf
    exact z_iret C h dX10_drop_99
  · have hf := zif_f c5 hf
    refine lv_iconst (v := 0) C.ex C.by dX10_drop_41 (by decide) ?_
    cases hf
    exact z_iret C h dX10_drop_42
set_option maxRecDepth 20000 in
set_option maxHeartbeats 4000000 in
theorem wX10_drop_0 {p : Program} {l : Launch} {e : Env} {s : State} {m : MethodId} {args : Array Value} {below : List Frame} {meth : Method} {c : Code} {A : Nat → Prop} {κ : zG} {H : Heap} {locs : List Loc} {ls : Array Slot} {n : Nat} {σ : zS} {x1 : Int32} {r1 : Int32} {r2 : zS} (C : zC cX10_drop 3 (some .int) RX10 κ A p s m args meth c) (h : zH wM κ A s σ H locs) (hl : lv_has ls 3 [(0, .ref (κ.2.1 0)), (1, .int x1)]) (hf : fX10_drop_0 n σ x1 = some (r1, r2)) : W p l e rmX10_drop s m args below meth c H locs 0 0 (MQ below (zQi wM κ A r1 r2) args s 0 0 A) (F0 m 0 ls []) := by
  unfold fX10_drop_0 at hf
  refine lv_aload_n C.ex C.by dX10_drop_0 rfl (lv_at hl 0 rfl) ?_
  refine lv_iload_n C.ex C.by dX10_drop_1 rfl (lv_at hl 1 rfl) ?_
  refine lv_iconst (v := 0) C.ex C.by dX10_drop_2 (by decide) ?_
  refine lv_aload_n C.ex C.by dX10_drop_3 rfl (lv_at hl 0 rfl) ?_
  refine z_get (v := .int (zI σ 4)) C h iwX10 0 (wM_at0 κ _) rfl 13 (by decide) lkM5 rfl dX10_drop_4 ?_
  refine lv_iconst (v := 1) C.ex C.by dX10_drop_7 (by decide) ?_
  refine lv_isub C.ex C.by dX10_drop_8 ?_
  obtain ⟨q1, e2, hf⟩ := zb_some hf
  refine z_callSi (As := [.int x1, .int 0, .int ((zI σ 4) - 1)]) C h (ctX10_isIn e2) (zgS lkM0 lkM1 lkM2 lkM3) ⟨rfl, rfl⟩ hdX10_isIn ⟨Nat.le_of_ble_eq_true rfl, Nat.le_of_ble_eq_true rfl⟩ hl rfl rfl (Nat.le_of_ble_eq_true rfl) dX10_drop_9 ⟨Nat.zero_le _, Nat.zero_le _⟩ (fun H locs h => ?_)
  refine lv_if_ne (tgt := 19) C.ex C.by dX10_drop_12 (by decide) (fun c3 => ?_) (fun c3 => ?_)
  · have hf := zif_f c3 hf
    refine lv_aload_n C.ex C.by dX10_drop_19 rfl (lv_at hl 0 rfl) ?_
    refine z_get (v := .int (zI σ 16)) C h iwX10 0 (wM_at0 κ _) rfl 28 (by decide) lkM4 rfl dX10_drop_20 ?_
    refine lv_if_eq (tgt := 30) C.ex C.by dX10_drop_23 (by decide) (fun c4 => ?_) (fun c4 => ?_)
    · have hf := zif_t c4 hf
      refine lv_iconst (v := 0) C.ex C.by dX10_drop_30 (by decide) ?_
      exact wX10_drop_31 C h hl hf
    · have hf := zif_f c4 hf
      refine lv_iconst (v := 2) C.ex C.by dX10_drop_26 (by decide) ?_
      refine lv_goto (tgt := 31) C.ex C.by dX10_drop_27 (by decide) ?_
      exact wX10_drop_31 C h hl hf
  · have hf := zif_t c3 hf
    refine lv_iconst (v := 1) C.ex C.by dX10_drop_15 (by decide) ?_
    refine lv_goto (tgt := 31) C.ex C.by dX10_drop_16 (by decide) ?_
    exact wX10_drop_31 C h hl hf
theorem ctX10_drop {l : Launch} {κ : zG} {n : Nat} {σ : zS} {x1 : Int32} {r1 : Int32} {r2 : zS} (hf : fX10_drop_0 n σ x1 = some (r1, r2)) : zMi l yX10_drop (Cond.code yX10_drop cX10_drop 3 (some .int)) rmX10_drop wM κ [.ref (κ.2.1 0), .int x1] σ r1 r2 :=
  zMi_of (by decide) (Nat.le_of_ble_eq_true rfl) (fun p e s m below meth c A C h ls hl => wX10_drop_0 C h hl hf)
theorem hdX10_freeBlocks : yX10_freeBlocks.cls = RX10 ∧ yX10_freeBlocks.cls ≠ "java/lang/invoke/MethodHandle" ∧ yX10_freeBlocks.cls ≠ "java/lang/invoke/VarHandle" ∧ (parseMethodDescriptor yX10_freeBlocks.desc).map (fun d => d.parameters.length) = some 0 := by decide +kernel
abbrev rmX10_freeBlocks : Room := { frames := 0, cells := 0, slots := 0, locals := 0 }
set_option maxRecDepth 20000 in
set_option maxHeartbeats 4000000 in
theorem wX10_freeBlocks_L4_27 {p : Program} {l : Launch} {e : Env} {s : State} {m : MethodId} {args : Array Value} {below : List Frame} {meth : Method} {c : Code} {A : Nat → Prop} {κ : zG} {H : Heap} {locs : List Loc} {ls : Array Slot} {Q : State → Prop} {n : Nat} {σ : zS} {x2 : Int32} {y0 : Int32} {y1 : Int32} {r : (Int32 × Int32) ⊕ (Int32)} (C : zC cX10_freeBlocks 3 (some .int) RX10 κ A p s m args meth c) (h : zH wM κ A s σ H locs) (hl : lv_has ls 3 [(0, .ref (κ.2.1 0)), (2, .int x2)]) (hf : fX10_freeBlocks_L4_27 n σ x2 y0 y1 = some r) (Kc : ∀ (v1 : Int32) (v2 : Int32), r = .inl (v1, v2) → ∀ (H : Heap) (locs : List Loc) (ls : Array Slot), zH wM κ A s σ H locs → lv_has ls 3 [(0, .ref (κ.2.1 0)), (1, .int v1), (2, .int v2)] → W p l e rmX10_freeBlocks s m args below meth c H locs 0 0 Q (F0 m 4 ls [])) (Ke0 : ∀ (v1 : Int32), r = .inr v1 → ∀ (H : Heap) (locs : List Loc) (ls : Array Slot), zH wM κ A s σ H locs → lv_has ls 3 [(0, .ref (κ.2.1 0)), (1, .int v1)] → W p l e rmX10_freeBlocks s m args below meth c H locs 0 0 Q (F0 m 35 ls [])) : W p l e rmX10_freeBlocks s m args below meth c H locs 0 0 Q (F0 m 27 ls [.int y0, .int y1]) := by
  unfold fX10_freeBlocks_L4_27 at hf
  refine lv_iadd C.ex C.by dX10_freeBlocks_27 ?_
  refine lv_istore_n (lv' := [(1, .int (y1 + y0)), (0, .ref (κ.2.1 0)), (2, .int x2)]) C.ex C.by dX10_freeBlocks_28 rfl hl (by decide) rfl (fun ls hl => ?_)
  refine lv_iinc (v := (x2 + 1)) (lv' := [(2, .int (x2 + 1)), (1, .int (y1 + y0)), (0, .ref (κ.2.1 0))]) C.ex C.by dX10_freeBlocks_29 hl (k := 2) rfl rfl (by decide) rfl (fun ls hl => ?_)
  refine lv_goto (tgt := 4) C.ex C.by dX10_freeBlocks_32 (by decide) ?_
  exact Kc _ _ (Option.some.inj hf).symm _ _ _ h (lv_sub hl [2, 1, 0] rfl)
set_option maxRecDepth 20000 in
set_option maxHeartbeats 4000000 in
theorem wX10_freeBlocks_L4_4 {p : Program} {l : Launch} {e : Env} {s : State} {m : MethodId} {args : Array Value} {below : List Frame} {meth : Method} {c : Code} {A : Nat → Prop} {κ : zG} {H : Heap} {locs : List Loc} {ls : Array Slot} {Q : State → Prop} {n : Nat} {σ : zS} {a : Int32 × Int32} {r : (Int32 × Int32) ⊕ (Int32)} (C : zC cX10_freeBlocks 3 (some .int) RX10 κ A p s m args meth c) (h : zH wM κ A s σ H locs) (hl : lv_has ls 3 [(0, .ref (κ.2.1 0)), (1, .int a.1), (2, .int a.2)]) (hf : fX10_freeBlocks_L4_4 n σ a = some r) (Kc : ∀ (v1 : Int32) (v2 : Int32), r = .inl (v1, v2) → ∀ (H : Heap) (locs : List Loc) (ls : Array Slot), zH wM κ A s σ H locs → lv_has ls 3 [(0, .ref (κ.2.1 0)), (1, .int v1), (2, .int v2)] → W p l e rmX10_freeBlocks s m args below meth c H locs 0 0 Q (F0 m 4 ls [])) (Ke0 : ∀ (v1 : Int32), r = .inr v1 → ∀ (H : Heap) (locs : List Loc) (ls : Array Slot), zH wM κ A s σ H locs → lv_has ls 3 [(0, .ref (κ.2.1 0)), (1, .int v1)] → W p l e rmX10_freeBlocks s m args below meth c H locs 0 0 Q (F0 m 35 ls [])) : W p l e rmX10_freeBlocks s m args below meth c H locs 0 0 Q (F0 m 4 ls []) := by
  unfold fX10_freeBlocks_L4_4 at hf
  refine lv_iload_n C.ex C.by dX10_freeBlocks_4 rfl (lv_at hl 2 rfl) ?_
  refine lv_aload_n C.ex C.by dX10_freeBlocks_5 rfl (lv_at hl 0 rfl) ?_
  refine z_get (v := .int (zI σ 1)) C h iwX10 0 (wM_at0 κ _) rfl 1 (by decide) lkM18 rfl dX10_freeBlocks_6 ?_
  refine lv_icmp_ge (tgt := 35) C.ex C.by dX10_freeBlocks_9 (by decide) (fun c1 => ?_) (fun c1 => ?_)
  · have hf := zif_t c1 hf
    exact Ke0 _ (Option.some.inj hf).symm _ _ _ h (lv_sub hl [0, 1] rfl)
  · have hf := zif_f c1 hf
    refine lv_iload_n C.ex C.by dX10_freeBlocks_12 rfl (lv_at hl 1 rfl) ?_
    refine lv_aload_n C.ex C.by dX10_freeBlocks_13 rfl (lv_at hl 0 rfl) ?_
    refine z_get (v := .ref (κ.2.1 2)) C h iwX10 0 (wM_at0 κ _) rfl 5 (by decide) lkM29 rfl dX10_freeBlocks_14 ?_
    refine lv_iload_n C.ex C.by dX10_freeBlocks_17 rfl (lv_at hl 2 rfl) ?_
    obtain ⟨h2, hf⟩ := zg_some hf
    refine z_zald (f := (zA σ 0)) C h 2 (wM_at2 κ _) h2 dX10_freeBlocks_18 ?_
    refine lv_if_eq (tgt := 26) C.ex C.by dX10_freeBlocks_19 (by decide) (fun c3 => ?_) (fun c3 => ?_)
    · have hf := zif_t c3 hf
      refine lv_iconst (v := 1) C.ex C.by dX10_freeBlocks_26 (by decide) ?_
      exact wX10_freeBlocks_L4_27 C h (lv_sub hl [0, 2] rfl) hf Kc Ke0
    · have hf := zif_f c3 hf
      refine lv_iconst (v := 0) C.ex C.by dX10_freeBlocks_22 (by decide) ?_
      refine lv_goto (tgt := 27) C.ex C.by dX10_freeBlocks_23 (by decide) ?_
      exact wX10_freeBlocks_L4_27 C h (lv_sub hl [0, 2] rfl) hf Kc Ke0
theorem wlX10_freeBlocks_4 {p : Program} {l : Launch} {e : Env} {s : State} {m : MethodId} {args : Array Value} {below : List Frame} {meth : Method} {c : Code} {A : Nat → Prop} {κ : zG} {H : Heap} {locs : List Loc} {ls : Array Slot} {Q : State → Prop} {n : Nat} {σ : zS} {k0 : Nat} {u1 : Int32} {u2 : Int32} (C : zC cX10_freeBlocks 3 (some .int) RX10 κ A p s m args meth c) (h : zH wM κ A s σ H locs) (hl : lv_has ls 3 [(0, .ref (κ.2.1 0)), (1, .int u1), (2, .int u2)]) (b : Int32) (hb : zlp (fX10_freeBlocks_L4_4 n σ) k0 (u1, u2) = some b) (K : (fun b : Int32 => ∀ (H : Heap) (locs : List Loc) (ls : Array Slot), zH wM κ A s σ H locs → lv_has ls 3 [(0, .ref (κ.2.1 0)), (1, .int b)] → W p l e rmX10_freeBlocks s m args below meth c H locs 0 0 Q (F0 m 35 ls [])) b) : W p l e rmX10_freeBlocks s m args below meth c H locs 0 0 Q (F0 m 4 ls []) :=
  z_loop (body := fX10_freeBlocks_L4_4 n σ) (Wd := (fun a : Int32 × Int32 => ∀ (H : Heap) (locs : List Loc) (ls : Array Slot), zH wM κ A s σ H locs → lv_has ls 3 [(0, .ref (κ.2.1 0)), (1, .int a.1), (2, .int a.2)] → W p l e rmX10_freeBlocks s m args below meth c H locs 0 0 Q (F0 m 4 ls []))) (Ex := (fun b : Int32 => (fun b : Int32 => ∀ (H : Heap) (locs : List Loc) (ls : Array Slot), zH wM κ A s σ H locs → lv_has ls 3 [(0, .ref (κ.2.1 0)), (1, .int b)] → W p l e rmX10_freeBlocks s m args below meth c H locs 0 0 Q (F0 m 35 ls [])) b)) (fun a r hr Kc Ke H locs ls h hl => wX10_freeBlocks_L4_4 C h hl hr (fun v1 v2 e => Kc (v1, v2) e) (fun v1 e => Ke v1 e)) k0 (u1, u2) b hb K H locs ls h hl
set_option maxRecDepth 20000 in
set_option maxHeartbeats 4000000 in
theorem wX10_freeBlocks_0 {p : Program} {l : Launch} {e : Env} {s : State} {m : MethodId} {args : Array Value} {below : List Frame} {meth : Method} {c : Code} {A : Nat → Prop} {κ : zG} {H : Heap} {locs : List Loc} {ls : Array Slot} {n : Nat} {σ : zS} {r : Int32} (C : zC cX10_freeBlocks 3 (some .int) RX10 κ A p s m args meth c) (h : zH wM κ A s σ H locs) (hl : lv_has ls 3 [(0, .ref (κ.2.1 0))]) (hf : fX10_freeBlocks_0 n σ = some r) : W p l e rmX10_freeBlocks s m args below meth c H locs 0 0 (MQ below (zQi wM κ A r σ) args s 0 0 A) (F0 m 0 ls []) := by
  unfold fX10_freeBlocks_0 at hf
  refine lv_iconst (v := 0) C.ex C.by dX10_freeBlocks_0 (by decide) ?_
  refine lv_istore_n (lv' := [(1, .int 0), (0, .ref (κ.2.1 0))]) C.ex C.by dX10_freeBlocks_1 rfl hl (by decide) rfl (fun ls hl => ?_)
  refine lv_iconst (v := 0) C.ex C.by dX10_freeBlocks_2 (by decide) ?_
  refine lv_istore_n (lv' := [(2, .int 0), (1, .int 0), (0, .ref (κ.2.1 0))]) C.ex C.by dX10_freeBlocks_3 rfl hl (by decide) rfl (fun ls hl => ?_)
  obtain ⟨b4, e5, hf⟩ := zb_some hf
  refine wlX10_freeBlocks_4 C h (lv_sub hl [2, 1, 0] rfl) b4 e5 ?_
  intro H locs ls h hl
  refine lv_iload_n C.ex C.by dX10_freeBlocks_35 rfl (lv_at hl 1 rfl) ?_
  cases hf
  exact z_iret C h dX10_freeBlocks_36
theorem ctX10_freeBlocks {l : Launch} {κ : zG} {n : Nat} {σ : zS} {r : Int32} (hf : fX10_freeBlocks_0 n σ = some r) : zMi l yX10_freeBlocks (Cond.code yX10_freeBlocks cX10_freeBlocks 3 (some .int)) rmX10_freeBlocks wM κ [.ref (κ.2.1 0)] σ r σ :=
  zMi_of (by decide) (Nat.le_of_ble_eq_true rfl) (fun p e s m below meth c A C h ls hl => wX10_freeBlocks_0 C h hl hf)
theorem hdX10_count : yX10_count.cls = RX10 ∧ yX10_count.cls ≠ "java/lang/invoke/MethodHandle" ∧ yX10_count.cls ≠ "java/lang/invoke/VarHandle" ∧ (parseMethodDescriptor yX10_count.desc).map (fun d => d.parameters.length) = some 1 := by decide +kernel
abbrev rmX10_count : Room := { frames := 1, cells := 0, slots := 0, locals := 22 }
set_option maxRecDepth 20000 in
set_option maxHeartbeats 4000000 in
theorem wX10_count_16 {p : Program} {l : Launch} {e : Env} {s : State} {m : MethodId} {args : Array Value} {below : List Frame} {meth : Method} {c : Code} {A : Nat → Prop} {κ : zG} {H : Heap} {locs : List Loc} {ls : Array Slot} {n : Nat} {σ : zS} {x1 : Int32} {y0 : Int32} {r1 : Int32} {r2 : zS} (C : zC cX10_count 2 (some .int) RX10 κ A p s m args meth c) (h : zH wM κ A s σ H locs) (hl : lv_has ls 2 [(0, .ref (κ.2.1 0)), (1, .int x1)]) (hf : fX10_count_16 n σ x1 y0 = some (r1, r2)) : W p l e rmX10_count s m args below meth c H locs 0 0 (MQ below (zQi wM κ A r1 r2) args s 0 0 A) (F0 m 16 ls [.int y0, .ref (κ.2.1 0)]) := by
  unfold fX10_count_16 at hf
  refine z_put C h iwX10 tyX10_ok nmX10 0 (wM_at0 κ _) rfl 0 (by decide) lkM8 rfl rfl rfl (Nat.le_of_ble_eq_true rfl) (sI σ 0 y0) (wM_s0_0 κ _ _) dX10_count_16 (fun H locs h => ?_)
  refine lv_iload_n C.ex C.by dX10_count_19 rfl (lv_at hl 1 rfl) ?_
  by_cases c4 : x1 = 0
  · have hf := zif_t c4 hf
    refine lv_tableIn (off := 64) (tgt := 84) C.ex C.by dX10_count_20 (by rw [c4]; decide) (by rw [c4]; decide) (by rw [c4]; decide) (by decide) ?_
    refine lv_aload_n C.ex C.by dX10_count_84 rfl (lv_at hl 0 rfl) ?_
    refine z_get (v := .int (zI σ 10)) C h iwX10 0 (wM_at0 κ _) rfl 22 (by decide) lkM63 rfl dX10_count_85 ?_
    cases hf
    exact z_iret C h dX10_count_88
  have hf := zif_f c4 hf
  by_cases c5 : x1 = 1
  · have hf := zif_t c5 hf
    refine lv_tableIn (off := 69) (tgt := 89) C.ex C.by dX10_count_20 (by rw [c5]; decide) (by rw [c5]; decide) (by rw [c5]; decide) (by decide) ?_
    refine lv_aload_n C.ex C.by dX10_count_89 rfl (lv_at hl 0 rfl) ?_
    refine z_get (v := .int (zI σ 11)) C h iwX10 0 (wM_at0 κ _) rfl 23 (by decide) lkM32 rfl dX10_count_90 ?_
    cases hf
    exact z_iret C h dX10_count_93
  have hf := zif_f c5 hf
  by_cases c6 : x1 = 2
  · have hf := zif_t c6 hf
    refine lv_tableIn (off := 74) (tgt := 94) C.ex C.by dX10_count_20 (by rw [c6]; decide) (by rw [c6]; decide) (by rw [c6]; decide) (by decide) ?_
    refine lv_aload_n C.ex C.by dX10_count_94 rfl (lv_at hl 0 rfl) ?_
    refine z_get (v := .int (zI σ 12)) C h iwX10 0 (wM_at0 κ _) rfl 24 (by decide) lkM33 rfl dX10_count_95 ?_
    cases hf
    exact z_iret C h dX10_count_98
  have hf := zif_f c6 hf
  by_cases c7 : x1 = 3
  · have hf := zif_t c7 hf
    refine lv_tableIn (off := 79) (tgt := 99) C.ex C.by dX10_count_20 (by rw [c7]; decide) (by rw [c7]; decide) (by rw [c7]; decide) (by decide) ?_
    refine lv_aload_n C.ex C.by dX10_count_99 rfl (lv_at hl 0 rfl) ?_
    refine z_get (v := .int (zI σ 13)) C h iwX10 0 (wM_at0 κ _) rfl 25 (by decide) lkM34 rfl dX10_count_100 ?_
    cases hf
    exact z_iret C h dX10_count_103
  have hf := zif_f c7 hf
  by_cases c8 : x1 = 4
  · have hf := zif_t c8 hf
    refine lv_tableIn (off := 84) (tgt := 104) C.ex C.by dX10_count_20 (by rw [c8]; decide) (by rw [c8]; decide) (by rw [c8]; decide) (by decide) ?_
    refine lv_aload_n C.ex C.by dX10_count_104 rfl (lv_at hl 0 rfl) ?_
    obtain ⟨q9, e10, hf⟩ := zb_some hf
    refine z_callVi (As := []) C h (ctX10_freeBlocks e10) (zgV lkM236 lkM237 lkM238 lkM2 lkM239) ⟨rfl, rfl⟩ hdX10_freeBlocks ⟨Nat.le_of_ble_eq_true rfl, Nat.le_of_ble_eq_true rfl⟩ 0 (wM_at0 κ _) rfl hl rfl rfl (Nat.le_of_ble_eq_true rfl) dX10_count_105 ⟨Nat.zero_le _, Nat.zero_le _⟩ (fun H locs h => ?_)
    cases hf
    exact z_iret C h dX10_count_108
  have hf := zif_f c8 hf
  by_cases c11 : x1 = 5
  · have hf := zif_t c11 hf
    refine lv_tableIn (off := 89) (tgt := 109) C.ex C.by dX10_count_20 (by rw [c11]; decide) (by rw [c11]; decide) (by rw [c11]; decide) (by decide) ?_
    refine lv_aload_n C.ex C.by dX10_count_109 rfl (lv_at hl 0 rfl) ?_
    refine z_get (v := .int (zI σ 9)) C h iwX10 0 (wM_at0 κ _) rfl 21 (by decide) lkM16 rfl dX10_count_110 ?_
    cases hf
    exact z_iret C h dX10_count_113
  have hf := zif_f c11 hf
  by_cases c12 : x1 = 6
  · have hf := zif_t c12 hf
    refine lv_tableIn (off := 94) (tgt := 114) C.ex C.by dX10_count_20 (by rw [c12]; decide) (by rw [c12]; decide) (by rw [c12]; decide) (by decide) ?_
    refine lv_aload_n C.ex C.by dX10_count_114 rfl (lv_at hl 0 rfl) ?_
    obtain ⟨q13, e14, hf⟩ := zb_some hf
    refine z_callVi (As := []) C h (ctX10_per e14) (zgV lkM25 lkM26 lkM27 lkM2 lkM28) ⟨rfl, rfl⟩ hdX10_per ⟨Nat.le_of_ble_eq_true rfl, Nat.le_of_ble_eq_true rfl⟩ 0 (wM_at0 κ _) rfl hl rfl rfl (Nat.le_of_ble_eq_true rfl) dX10_count_115 ⟨Nat.zero_le _, Nat.zero_le _⟩ (fun H locs h => ?_)
    cases hf
    exact z_iret C h dX10_count_118
  have hf := zif_f c12 hf
  by_cases c15 : x1 = 7
  · have hf := zif_t c15 hf
    refine lv_tableIn (off := 99) (tgt := 119) C.ex C.by dX10_count_20 (by rw [c15]; decide) (by rw [c15]; decide) (by rw [c15]; decide) (by decide) ?_
    refine lv_aload_n C.ex C.by dX10_count_119 rfl (lv_at hl 0 rfl) ?_
    refine z_get (v := .int (zI σ 5)) C h iwX10 0 (wM_at0 κ _) rfl 15 (by decide) lkM7 rfl dX10_count_120 ?_
    cases hf
    exact z_iret C h dX10_count_123
  have hf := zif_f c15 hf
  by_cases c16 : x1 = 8
  · have hf := zif_t c16 hf
    refine lv_tableIn (off := 104) (tgt := 124) C.ex C.by dX10_count_20 (by rw [c16]; decide) (by rw [c16]; decide) (by rw [c16]; decide) (by decide) ?_
    refine lv_aload_n C.ex C.by dX10_count_124 rfl (lv_at hl 0 rfl) ?_
    refine z_get (v := .int (zI σ 7)) C h iwX10 0 (wM_at0 κ _) rfl 19 (by decide) lkM10 rfl dX10_count_125 ?_
    cases hf
    exact z_iret C h dX10_count_128
  have hf := zif_f c16 hf
  by_cases c17 : x1 = 9
  · have hf := zif_t c17 hf
    refine lv_tableIn (off := 109) (tgt := 129) C.ex C.by dX10_count_20 (by rw [c17]; decide) (by rw [c17]; decide) (by rw [c17]; decide) (by decide) ?_
    refine lv_aload_n C.ex C.by dX10_count_129 rfl (lv_at hl 0 rfl) ?_
    refine z_get (v := .int (zI σ 8)) C h iwX10 0 (wM_at0 κ _) rfl 20 (by decide) lkM13 rfl dX10_count_130 ?_
    cases hf
    exact z_iret C h dX10_count_133
  have hf := zif_f c17 hf
  by_cases c18 : x1 = 10
  · have hf := zif_t c18 hf
    refine lv_tableIn (off := 114) (tgt := 134) C.ex C.by dX10_count_20 (by rw [c18]; decide) (by rw [c18]; decide) (by rw [c18]; decide) (by decide) ?_
    refine lv_aload_n C.ex C.by dX10_count_134 rfl (lv_at hl 0 rfl) ?_
    refine z_get (v := .int (zI σ 6)) C h iwX10 0 (wM_at0 κ _) rfl 16 (by decide) lkM9 rfl dX10_count_135 ?_
    cases hf
    exact z_iret C h dX10_count_138
  have hf := zif_f c18 hf
  by_cases c19 : x1 = 11
  · have hf := zif_t c19 hf
    refine lv_tableIn (off := 119) (tgt := 139) C.ex C.by dX10_count_20 (by rw [c19]; decide) (by rw [c19]; decide) (by rw [c19]; decide) (by decide) ?_
    refine lv_aload_n C.ex C.by dX10_count_139 rfl (lv_at hl 0 rfl) ?_
    refine z_get (v := .int (zI σ 16)) C h iwX10 0 (wM_at0 κ _) rfl 28 (by decide) lkM4 rfl dX10_count_140 ?_
    refine lv_if_eq (tgt := 150) C.ex C.by dX10_count_143 (by decide) (fun c20 => ?_) (fun c20 => ?_)
    · have hf := zif_t c20 hf
      refine lv_iconst (v := 0) C.ex C.by dX10_count_150 (by decide) ?_
      cases hf
      exact z_iret C h dX10_count_151
    · have hf := zif_f c20 hf
      refine lv_iconst (v := 1) C.ex C.by dX10_count_146 (by decide) ?_
      refine lv_goto (tgt := 151) C.ex C.by dX10_count_147 (by decide) ?_
      cases hf
      exact z_iret C h dX10_count_151
  have hf := zif_f c19 hf
  refine lv_tableOut (tgt := 152) C.ex C.by dX10_count_20 (zout (fun k hk1 hk2 => by rcases (show k = 0 ∨ k = 1 ∨ k = 2 ∨ k = 3 ∨ k = 4 ∨ k = 5 ∨ k = 6 ∨ k = 7 ∨ k = 8 ∨ k = 9 ∨ k = 10 ∨ k = 11 by omega) with rfl | rfl | rfl | rfl | rfl | rfl | rfl | rfl | rfl | rfl | rfl | rfl; exact lv_neT c4 (by decide); exact lv_neT c5 (by decide); exact lv_neT c6 (by decide); exact lv_neT c7 (by decide); exact lv_neT c8 (by decide); exact lv_neT c11 (by decide); exact lv_neT c12 (by decide); exact lv_neT c15 (by decide); exact lv_neT c16 (by decide); exact lv_neT c17 (by decide); exact lv_neT c18 (by decide); exact lv_neT c19 (by decide))) (by decide) ?_
  refine lv_iconst (v := 0) C.ex C.by dX10_count_152 (by decide) ?_
  cases hf
  exact z_iret C h dX10_count_153
set_option maxRecDepth 20000 in
set_option maxHeartbeats 4000000 in
theorem wX10_count_0 {p : Program} {l : Launch} {e : Env} {s : State} {m : MethodId} {args : Array Value} {below : List Frame} {meth : Method} {c : Code} {A : Nat → Prop} {κ : zG} {H : Heap} {locs : List Loc} {ls : Array Slot} {n : Nat} {σ : zS} {x1 : Int32} {r1 : Int32} {r2 : zS} (C : zC cX10_count 2 (some .int) RX10 κ A p s m args meth c) (h : zH wM κ A s σ H locs) (hl : lv_has ls 2 [(0, .ref (κ.2.1 0)), (1, .int x1)]) (hf : fX10_count_0 n σ x1 = some (r1, r2)) : W p l e rmX10_count s m args below meth c H locs 0 0 (MQ below (zQi wM κ A r1 r2) args s 0 0 A) (F0 m 0 ls []) := by
  unfold fX10_count_0 at hf
  refine lv_aload_n C.ex C.by dX10_count_0 rfl (lv_at hl 0 rfl) ?_
  refine lv_iload_n C.ex C.by dX10_count_1 rfl (lv_at hl 1 rfl) ?_
  refine lv_iconst (v := 0) C.ex C.by dX10_count_2 (by decide) ?_
  refine lv_bipush (v := 11) C.ex C.by dX10_count_3 (by decide) ?_
  obtain ⟨q1, e2, hf⟩ := zb_some hf
  refine z_callSi (As := [.int x1, .int 0, .int 11]) C h (ctX10_isIn e2) (zgS lkM0 lkM1 lkM2 lkM3) ⟨rfl, rfl⟩ hdX10_isIn ⟨Nat.le_of_ble_eq_true rfl, Nat.le_of_ble_eq_true rfl⟩ hl rfl rfl (Nat.le_of_ble_eq_true rfl) dX10_count_5 ⟨Nat.zero_le _, Nat.zero_le _⟩ (fun H locs h => ?_)
  refine lv_if_eq (tgt := 15) C.ex C.by dX10_count_8 (by decide) (fun c3 => ?_) (fun c3 => ?_)
  · have hf := zif_t c3 hf
    refine lv_iconst (v := 1) C.ex C.by dX10_count_15 (by decide) ?_
    exact wX10_count_16 C h hl hf
  · have hf := zif_f c3 hf
    refine lv_iconst (v := 0) C.ex C.by dX10_count_11 (by decide) ?_
    refine lv_goto (tgt := 16) C.ex C.by dX10_count_12 (by decide) ?_
    exact wX10_count_16 C h hl hf
theorem ctX10_count {l : Launch} {κ : zG} {n : Nat} {σ : zS} {x1 : Int32} {r1 : Int32} {r2 : zS} (hf : fX10_count_0 n σ x1 = some (r1, r2)) : zMi l yX10_count (Cond.code yX10_count cX10_count 2 (some .int)) rmX10_count wM κ [.ref (κ.2.1 0), .int x1] σ r1 r2 :=
  zMi_of (by decide) (Nat.le_of_ble_eq_true rfl) (fun p e s m below meth c A C h ls hl => wX10_count_0 C h hl hf)
