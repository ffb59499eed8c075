theorem hdX10_mergeRow : yX10_mergeRow.cls = RX10 ∧ yX10_mergeRow.cls ≠ "java/lang/invoke/MethodHandle" ∧ yX10_mergeRow.cls ≠ "java/lang/invoke/VarHandle" ∧ (parseMethodDescriptor yX10_mergeRow.desc).map (fun d => d.parameters.length) = some 2 := by decide +kernel
abbrev rmX10_mergeRow : Room := { frames := 6, cells := 0, slots := 0, locals := 135 }
set_option maxRecDepth 20000 in
set_option maxHeartbeats 4000000 in
theorem wX10_mergeRow_L2_2 {p : Program} {l : Launch} {e : Env} {s : State} {m : MethodId} {args : Array Value} {below : List Frame} {meth : Method} {c : Code} {A : Nat → Prop} {κ : zG} {H : Heap} {locs : List Loc} {ls : Array Slot} {Q : State → Prop} {n : Nat} {k1 : Int32} {k2 : Int32} {a : Int32 × zS} {r : (Int32 × zS) ⊕ (zS)} (C : zC cX10_mergeRow 5 none RX10 κ A p s m args meth c) (h : zH wM κ A s a.2 H locs) (hl : lv_has ls 5 [(0, .ref (κ.2.1 0)), (1, .int k1), (2, .int k2), (3, .int a.1)]) (hf : fX10_mergeRow_L2_2 n k1 k2 a = some r) (Kc : ∀ (v3 : Int32) (σ1 : zS), r = .inl (v3, σ1) → ∀ (H : Heap) (locs : List Loc) (ls : Array Slot), zH wM κ A s σ1 H locs → lv_has ls 5 [(0, .ref (κ.2.1 0)), (1, .int k1), (2, .int k2), (3, .int v3)] → W p l e rmX10_mergeRow s m args below meth c H locs 0 0 Q (F0 m 2 ls [])) (Ke0 : ∀ (σ1 : zS), r = .inr σ1 → ∀ (H : Heap) (locs : List Loc) (ls : Array Slot), zH wM κ A s σ1 H locs → lv_has ls 5 [(0, .ref (κ.2.1 0)), (1, .int k1), (2, .int k2)] → W p l e rmX10_mergeRow s m args below meth c H locs 0 0 Q (F0 m 27 ls [])) : W p l e rmX10_mergeRow s m args below meth c H locs 0 0 Q (F0 m 2 ls []) := by
  unfold fX10_mergeRow_L2_2 at hf
  refine lv_iload_n C.ex C.by dX10_mergeRow_2 rfl (lv_at hl 3 rfl) ?_
  refine lv_iload_n C.ex C.by dX10_mergeRow_3 rfl (lv_at hl 2 rfl) ?_
  refine lv_icmp_ge (tgt := 27) C.ex C.by dX10_mergeRow_4 (by decide) (fun c1 => ?_) (fun c1 => ?_)
  · have hf := zif_t c1 hf
    exact Ke0 _ (Option.some.inj hf).symm _ _ _ h (lv_sub hl [0, 1, 2] rfl)
  · have hf := zif_f c1 hf
    refine lv_aload_n C.ex C.by dX10_mergeRow_7 rfl (lv_at hl 0 rfl) ?_
    refine z_get (v := .ref (κ.2.1 19)) C h iwX10 0 (wM_at0 κ _) rfl 44 (by decide) lkM155 rfl dX10_mergeRow_8 ?_
    refine lv_iload_n C.ex C.by dX10_mergeRow_11 rfl (lv_at hl 3 rfl) ?_
    refine lv_aload_n C.ex C.by dX10_mergeRow_12 rfl (lv_at hl 0 rfl) ?_
    refine z_get (v := .ref (κ.2.1 9)) C h iwX10 0 (wM_at0 κ _) rfl 12 (by decide) lkM146 rfl dX10_mergeRow_13 ?_
    refine lv_iload_n C.ex C.by dX10_mergeRow_16 rfl (lv_at hl 1 rfl) ?_
    refine lv_iload_n C.ex C.by dX10_mergeRow_17 rfl (lv_at hl 3 rfl) ?_
    refine lv_iadd C.ex C.by dX10_mergeRow_18 ?_
    obtain ⟨h2, hf⟩ := zg_some hf
    refine z_iald (f := (zA a.2 7)) C h 9 (wM_at9 κ _) h2 dX10_mergeRow_19 ?_
    obtain ⟨h3, hf⟩ := zg_some hf
    refine z_iast (f := (zA a.2 13)) C h 19 (wM_at19 κ _) h3 (sA a.2 13 (upd (zA a.2 13) (Int32.toNatClampNeg a.1) ((zA a.2 7) (Int32.toNatClampNeg (k1 + a.1))))) (wM_s19 κ _ _) dX10_mergeRow_20 (fun H locs h => ?_)
    refine lv_iinc (v := (a.1 + 1)) (lv' := [(3, .int (a.1 + 1)), (0, .ref (κ.2.1 0)), (1, .int k1), (2, .int k2)]) C.ex C.by dX10_mergeRow_21 hl (k := 3) rfl rfl (by decide) rfl (fun ls hl => ?_)
    refine lv_goto (tgt := 2) C.ex C.by dX10_mergeRow_24 (by decide) ?_
    exact Kc _ _ (Option.some.inj hf).symm _ _ _ h (lv_sub hl [1, 2, 3, 0] rfl)
theorem wlX10_mergeRow_2 {p : Program} {l : Launch} {e : Env} {s : State} {m : MethodId} {args : Array Value} {below : List Frame} {meth : Method} {c : Code} {A : Nat → Prop} {κ : zG} {H : Heap} {locs : List Loc} {ls : Array Slot} {Q : State → Prop} {n : Nat} {k1 : Int32} {k2 : Int32} {k0 : Nat} {u3 : Int32} {σ1 : zS} (C : zC cX10_mergeRow 5 none RX10 κ A p s m args meth c) (h : zH wM κ A s σ1 H locs) (hl : lv_has ls 5 [(0, .ref (κ.2.1 0)), (1, .int k1), (2, .int k2), (3, .int u3)]) (b : zS) (hb : zlp (fX10_mergeRow_L2_2 n k1 k2) k0 (u3, σ1) = some b) (K : (fun b : zS => ∀ (H : Heap) (locs : List Loc) (ls : Array Slot), zH wM κ A s b H locs → lv_has ls 5 [(0, .ref (κ.2.1 0)), (1, .int k1), (2, .int k2)] → W p l e rmX10_mergeRow s m args below meth c H locs 0 0 Q (F0 m 27 ls [])) b) : W p l e rmX10_mergeRow s m args below meth c H locs 0 0 Q (F0 m 2 ls []) :=
  z_loop (body := fX10_mergeRow_L2_2 n k1 k2) (Wd := (fun a : Int32 × zS => ∀ (H : Heap) (locs : List Loc) (ls : Array Slot), zH wM κ A s a.2 H locs → lv_has ls 5 [(0, .ref (κ.2.1 0)), (1, .int k1), (2, .int k2), (3, .int a.1)] → W p l e rmX10_mergeRow s m args below meth c H locs 0 0 Q (F0 m 2 ls []))) (Ex := (fun b : zS => (fun b : zS => ∀ (H : Heap) (locs : List Loc) (ls : Array Slot), zH wM κ A s b H locs → lv_has ls 5 [(0, .ref (κ.2.1 0)), (1, .int k1), (2, .int k2)] → W p l e rmX10_mergeRow s m args below meth c H locs 0 0 Q (F0 m 27 ls [])) b)) (fun a r hr Kc Ke H locs ls h hl => wX10_mergeRow_L2_2 C h hl hr (fun v3 σ1 e => Kc (v3, σ1) e) (fun σ1 e => Ke σ1 e)) k0 (u3, σ1) b hb K H locs ls h hl
set_option maxRecDepth 20000 in
set_option maxHeartbeats 4000000 in
theorem wX10_mergeRow_L51_51 {p : Program} {l : Launch} {e : Env} {s : State} {m : MethodId} {args : Array Value} {below : List Frame} {meth : Method} {c : Code} {A : Nat → Prop} {κ : zG} {H : Heap} {locs : List Loc} {ls : Array Slot} {Q : State → Prop} {n : Nat} {k2 : Int32} {a : Int32 × zS} {r : (Int32 × zS) ⊕ (zS)} (C : zC cX10_mergeRow 5 none RX10 κ A p s m args meth c) (h : zH wM κ A s a.2 H locs) (hl : lv_has ls 5 [(0, .ref (κ.2.1 0)), (2, .int k2), (4, .int a.1)]) (hf : fX10_mergeRow_L51_51 n k2 a = some r) (Kc : ∀ (v4 : Int32) (σ1 : zS), r = .inl (v4, σ1) → ∀ (H : Heap) (locs : List Loc) (ls : Array Slot), zH wM κ A s σ1 H locs → lv_has ls 5 [(0, .ref (κ.2.1 0)), (2, .int k2), (4, .int v4)] → W p l e rmX10_mergeRow s m args below meth c H locs 0 0 Q (F0 m 51 ls [])) (Ke0 : ∀ (σ1 : zS), r = .inr σ1 → ∀ (H : Heap) (locs : List Loc) (ls : Array Slot), zH wM κ A s σ1 H locs → lv_has ls 5 [(0, .ref (κ.2.1 0)), (2, .int k2)] → W p l e rmX10_mergeRow s m args below meth c H locs 0 0 Q (F0 m 84 ls [])) : W p l e rmX10_mergeRow s m args below meth c H locs 0 0 Q (F0 m 51 ls []) := by
  unfold fX10_mergeRow_L51_51 at hf
  refine lv_iload C.ex C.by dX10_mergeRow_51 (lv_at hl 2 rfl) ?_
  refine lv_aload_n C.ex C.by dX10_mergeRow_53 rfl (lv_at hl 0 rfl) ?_
  refine z_get (v := .int (zI a.2 4)) C h iwX10 0 (wM_at0 κ _) rfl 13 (by decide) lkM5 rfl dX10_mergeRow_54 ?_
  refine lv_icmp_ge (tgt := 84) C.ex C.by dX10_mergeRow_57 (by decide) (fun c10 => ?_) (fun c10 => ?_)
  · have hf := zif_t c10 hf
    exact Ke0 _ (Option.some.inj hf).symm _ _ _ h (lv_sub hl [0, 1] rfl)
  · have hf := zif_f c10 hf
    refine lv_aload_n C.ex C.by dX10_mergeRow_60 rfl (lv_at hl 0 rfl) ?_
    refine z_get (v := .ref (κ.2.1 9)) C h iwX10 0 (wM_at0 κ _) rfl 12 (by decide) lkM146 rfl dX10_mergeRow_61 ?_
    refine lv_iload C.ex C.by dX10_mergeRow_64 (lv_at hl 2 rfl) ?_
    refine lv_iload_n C.ex C.by dX10_mergeRow_66 rfl (lv_at hl 1 rfl) ?_
    refine lv_isub C.ex C.by dX10_mergeRow_67 ?_
    refine lv_iconst (v := 1) C.ex C.by dX10_mergeRow_68 (by decide) ?_
    refine lv_iadd C.ex C.by dX10_mergeRow_69 ?_
    refine lv_aload_n C.ex C.by dX10_mergeRow_70 rfl (lv_at hl 0 rfl) ?_
    refine z_get (v := .ref (κ.2.1 9)) C h iwX10 0 (wM_at0 κ _) rfl 12 (by decide) lkM146 rfl dX10_mergeRow_71 ?_
    refine lv_iload C.ex C.by dX10_mergeRow_74 (lv_at hl 2 rfl) ?_
    obtain ⟨h11, hf⟩ := zg_some hf
    refine z_iald (f := (zA a.2 7)) C h 9 (wM_at9 κ _) h11 dX10_mergeRow_76 ?_
    obtain ⟨h12, hf⟩ := zg_some hf
    refine z_iast (f := (zA a.2 7)) C h 9 (wM_at9 κ _) h12 (sA a.2 7 (upd (zA a.2 7) (Int32.toNatClampNeg ((a.1 - k2) + 1)) ((zA a.2 7) (Int32.toNatClampNeg a.1)))) (wM_s9 κ _ _) dX10_mergeRow_77 (fun H locs h => ?_)
    refine lv_iinc (v := (a.1 + 1)) (lv' := [(4, .int (a.1 + 1)), (0, .ref (κ.2.1 0)), (2, .int k2)]) C.ex C.by dX10_mergeRow_78 hl (k := 2) rfl rfl (by decide) rfl (fun ls hl => ?_)
    refine lv_goto (tgt := 51) C.ex C.by dX10_mergeRow_81 (by decide) ?_
    exact Kc _ _ (Option.some.inj hf).symm _ _ _ h (lv_sub hl [1, 2, 0] rfl)
theorem wlX10_mergeRow_51 {p : Program} {l : Launch} {e : Env} {s : State} {m : MethodId} {args : Array Value} {below : List Frame} {meth : Method} {c : Code} {A : Nat → Prop} {κ : zG} {H : Heap} {locs : List Loc} {ls : Array Slot} {Q : State → Prop} {n : Nat} {k2 : Int32} {k0 : Nat} {u4 : Int32} {σ1 : zS} (C : zC cX10_mergeRow 5 none RX10 κ A p s m args meth c) (h : zH wM κ A s σ1 H locs) (hl : lv_has ls 5 [(0, .ref (κ.2.1 0)), (2, .int k2), (4, .int u4)]) (b : zS) (hb : zlp (fX10_mergeRow_L51_51 n k2) k0 (u4, σ1) = some b) (K : (fun b : zS => ∀ (H : Heap) (locs : List Loc) (ls : Array Slot), zH wM κ A s b H locs → lv_has ls 5 [(0, .ref (κ.2.1 0)), (2, .int k2)] → W p l e rmX10_mergeRow s m args below meth c H locs 0 0 Q (F0 m 84 ls [])) b) : W p l e rmX10_mergeRow s m args below meth c H locs 0 0 Q (F0 m 51 ls []) :=
  z_loop (body := fX10_mergeRow_L51_51 n k2) (Wd := (fun a : Int32 × zS => ∀ (H : Heap) (locs : List Loc) (ls : Array Slot), zH wM κ A s a.2 H locs → lv_has ls 5 [(0, .ref (κ.2.1 0)), (2, .int k2), (4, .int a.1)] → W p l e rmX10_mergeRow s m args below meth c H locs 0 0 Q (F0 m 51 ls []))) (Ex := (fun b : zS => (fun b : zS => ∀ (H : Heap) (locs : List Loc) (ls : Array Slot), zH wM κ A s b H locs → lv_has ls 5 [(0, .ref (κ.2.1 0)), (2, .int k2)] → W p l e rmX10_mergeRow s m args below meth c H locs 0 0 Q (F0 m 84 ls [])) b)) (fun a r hr Kc Ke H locs ls h hl => wX10_mergeRow_L51_51 C h hl hr (fun v4 σ1 e => Kc (v4, σ1) e) (fun σ1 e => Ke σ1 e)) k0 (u4, σ1) b hb K H locs ls h hl
set_option maxRecDepth 20000 in
set_option maxHeartbeats 4000000 in
theorem wX10_mergeRow_0 {p : Program} {l : Launch} {e : Env} {s : State} {m : MethodId} {args : Array Value} {below : List Frame} {meth : Method} {c : Code} {A : Nat → Prop} {κ : zG} {H : Heap} {locs : List Loc} {ls : Array Slot} {n : Nat} {σ : zS} {x1 : Int32} {x2 : Int32} {r : zS} (C : zC cX10_mergeRow 5 none RX10 κ A p s m args meth c) (h : zH wM κ A s σ H locs) (hl : lv_has ls 5 [(0, .ref (κ.2.1 0)), (1, .int x1), (2, .int x2)]) (hf : fX10_mergeRow_0 n σ x1 x2 = some r) : W p l e rmX10_mergeRow s m args below meth c H locs 0 0 (MQ below (zQv wM κ A r) args s 0 0 A) (F0 m 0 ls []) := by
  unfold fX10_mergeRow_0 at hf
  refine lv_iconst (v := 0) C.ex C.by dX10_mergeRow_0 (by decide) ?_
  refine lv_istore_n (lv' := [(3, .int 0), (0, .ref (κ.2.1 0)), (1, .int x1), (2, .int x2)]) C.ex C.by dX10_mergeRow_1 rfl hl (by decide) rfl (fun ls hl => ?_)
  obtain ⟨b4, e5, hf⟩ := zb_some hf
  refine wlX10_mergeRow_2 C h (lv_sub hl [1, 2, 3, 0] rfl) b4 e5 ?_
  intro H locs ls h hl
  refine lv_aload_n C.ex C.by dX10_mergeRow_27 rfl (lv_at hl 0 rfl) ?_
  refine lv_iload_n C.ex C.by dX10_mergeRow_28 rfl (lv_at hl 2 rfl) ?_
  obtain ⟨q6, e7, hf⟩ := zb_some hf
  refine z_callVi (As := [.int x2]) C h (ctX10_merge (r1 := q6.1) (r2 := q6.2) e7) (zgV lkM171 lkM172 lkM173 lkM2 lkM174) ⟨rfl, rfl⟩ hdX10_merge ⟨Nat.le_of_ble_eq_true rfl, Nat.le_of_ble_eq_true rfl⟩ 0 (wM_at0 κ _) rfl hl rfl rfl (Nat.le_of_ble_eq_true rfl) dX10_mergeRow_29 ⟨Nat.zero_le _, Nat.zero_le _⟩ (fun H locs h => ?_)
  refine lv_istore_n (lv' := [(3, .int q6.1), (0, .ref (κ.2.1 0)), (1, .int x1), (2, .int x2)]) C.ex C.by dX10_mergeRow_32 rfl hl (by decide) rfl (fun ls hl => ?_)
  refine lv_iload_n C.ex C.by dX10_mergeRow_33 rfl (lv_at hl 0 rfl) ?_
  refine lv_iconst (v := (-1)) C.ex C.by dX10_mergeRow_34 (by decide) ?_
  refine lv_icmp_ne (tgt := 39) C.ex C.by dX10_mergeRow_35 (by decide) (fun c8 => ?_) (fun c8 => ?_)
  · have hf := zif_f c8 hf
    refine lv_aload_n C.ex C.by dX10_mergeRow_39 rfl (lv_at hl 1 rfl) ?_
    refine z_get (v := .ref (κ.2.1 9)) C h iwX10 0 (wM_at0 κ _) rfl 12 (by decide) lkM146 rfl dX10_mergeRow_40 ?_
    refine lv_iload_n C.ex C.by dX10_mergeRow_43 rfl (lv_at hl 2 rfl) ?_
    refine lv_iload_n C.ex C.by dX10_mergeRow_44 rfl (lv_at hl 0 rfl) ?_
    obtain ⟨h9, hf⟩ := zg_some hf
    refine z_iast (f := (zA q6.2 7)) C h 9 (wM_at9 κ _) h9 (sA q6.2 7 (upd (zA q6.2 7) (Int32.toNatClampNeg x1) q6.1)) (wM_s9 κ _ _) dX10_mergeRow_45 (fun H locs h => ?_)
    refine lv_iload_n C.ex C.by dX10_mergeRow_46 rfl (lv_at hl 2 rfl) ?_
    refine lv_iload_n C.ex C.by dX10_mergeRow_47 rfl (lv_at hl 3 rfl) ?_
    refine lv_iadd C.ex C.by dX10_mergeRow_48 ?_
    refine lv_istore (lv' := [(4, .int (x1 + x2)), (3, .int q6.1), (0, .ref (κ.2.1 0)), (1, .int x1), (2, .int x2)]) C.ex C.by dX10_mergeRow_49 hl (by decide) rfl (fun ls hl => ?_)
    obtain ⟨b13, e14, hf⟩ := zb_some hf
    refine wlX10_mergeRow_51 C h (lv_sub hl [2, 4, 0] rfl) b13 e14 ?_
    intro H locs ls h hl
    refine lv_aload_n C.ex C.by dX10_mergeRow_84 rfl (lv_at hl 0 rfl) ?_
    refine lv_dup C.ex C.by dX10_mergeRow_85 rfl ?_
    refine z_get (v := .int (zI b13 4)) C h iwX10 0 (wM_at0 κ _) rfl 13 (by decide) lkM5 rfl dX10_mergeRow_86 ?_
    refine lv_iload_n C.ex C.by dX10_mergeRow_89 rfl (lv_at hl 1 rfl) ?_
    refine lv_iconst (v := 1) C.ex C.by dX10_mergeRow_90 (by decide) ?_
    refine lv_isub C.ex C.by dX10_mergeRow_91 ?_
    refine lv_isub C.ex C.by dX10_mergeRow_92 ?_
    refine z_put C h iwX10 tyX10_ok nmX10 0 (wM_at0 κ _) rfl 13 (by decide) lkM5 rfl rfl rfl (Nat.le_of_ble_eq_true rfl) (sI b13 4 ((zI b13 4) - (x2 - 1))) (wM_s0_13 κ _ _) dX10_mergeRow_93 (fun H locs h => ?_)
    cases hf
    exact z_vret C h dX10_mergeRow_96
  · have hf := zif_t c8 hf
    cases hf
    exact z_vret C h dX10_mergeRow_38
theorem ctX10_mergeRow {l : Launch} {κ : zG} {n : Nat} {σ : zS} {x1 : Int32} {x2 : Int32} {r : zS} (hf : fX10_mergeRow_0 n σ x1 x2 = some r) : zMv l yX10_mergeRow (Cond.code yX10_mergeRow cX10_mergeRow 5 none) rmX10_mergeRow wM κ [.ref (κ.2.1 0), .int x1, .int x2] σ r :=
  zMv_of (by decide) (Nat.le_of_ble_eq_true rfl) (fun p e s m below meth c A C h ls hl => wX10_mergeRow_0 C h hl hf)
theorem hdX10_pass : yX10_pass.cls = RX10 ∧ yX10_pass.cls ≠ "java/lang/invoke/MethodHandle" ∧ yX10_pass.cls ≠ "java/lang/invoke/VarHandle" ∧ (parseMethodDescriptor yX10_pass.desc).map (fun d => d.parameters.length) = some 1 := by decide +kernel
abbrev rmX10_pass : Room := { frames := 7, cells := 0, slots := 0, locals := 159 }
set_option maxRecDepth 20000 in
set_option maxHeartbeats 4000000 in
theorem wX10_pass_L51_87 {p : Program} {l : Launch} {e : Env} {s : State} {m : MethodId} {args : Array Value} {below : List Frame} {meth : Method} {c : Code} {A : Nat → Prop} {κ : zG} {H : Heap} {locs : List Loc} {ls : Array Slot} {Q : State → Prop} {n : Nat} {σ : zS} {k1 : Int32} {x2 : Int32} {x3 : Int32} {x4 : Int32} {r : (Int32 × Int32 × zS) ⊕ (zS)} (C : zC cX10_pass 5 (some .int) RX10 κ A p s m args meth c) (h : zH wM κ A s σ H locs) (hl : lv_has ls 5 [(0, .ref (κ.2.1 0)), (1, .int k1), (2, .int x2), (3, .int x3), (4, .int x4)]) (hf : fX10_pass_L51_87 n σ k1 x2 x3 x4 = some r) (Kc : ∀ (v2 : Int32) (v3 : Int32) (σ1 : zS), r = .inl (v2, v3, σ1) → ∀ (H : Heap) (locs : List Loc) (ls : Array Slot), zH wM κ A s σ1 H locs → lv_has ls 5 [(0, .ref (κ.2.1 0)), (1, .int k1), (2, .int v2), (3, .int v3)] → W p l e rmX10_pass s m args below meth c H locs 0 0 Q (F0 m 51 ls [])) (Ke0 : ∀ (σ1 : zS), r = .inr σ1 → ∀ (H : Heap) (locs : List Loc) (ls : Array Slot), zH wM κ A s σ1 H locs → lv_has ls 5 [(0, .ref (κ.2.1 0))] → W p l e rmX10_pass s m args below meth c H locs 0 0 Q (F0 m 98 ls [])) : W p l e rmX10_pass s m args below meth c H locs 0 0 Q (F0 m 87 ls []) := by
  unfold fX10_pass_L51_87 at hf
  refine lv_iload_n C.ex C.by dX10_pass_87 rfl (lv_at hl 2 rfl) ?_
  refine lv_iload C.ex C.by dX10_pass_88 (lv_at hl 4 rfl) ?_
  refine lv_isub C.ex C.by dX10_pass_90 ?_
  refine lv_istore_n (lv' := [(2, .int (x2 - x4)), (0, .ref (κ.2.1 0)), (1, .int k1), (3, .int x3), (4, .int x4)]) C.ex C.by dX10_pass_91 rfl hl (by decide) rfl (fun ls hl => ?_)
  refine lv_iinc (v := (x3 + 1)) (lv' := [(3, .int (x3 + 1)), (2, .int (x2 - x4)), (0, .ref (κ.2.1 0)), (1, .int k1), (4, .int x4)]) C.ex C.by dX10_pass_92 hl (k := 3) rfl rfl (by decide) rfl (fun ls hl => ?_)
  refine lv_goto (tgt := 51) C.ex C.by dX10_pass_95 (by decide) ?_
  exact Kc _ _ _ (Option.some.inj hf).symm _ _ _ h (lv_sub hl [2, 3, 1, 0] rfl)
set_option maxRecDepth 20000 in
set_option maxHeartbeats 4000000 in
theorem wX10_pass_L51_72 {p : Program} {l : Launch} {e : Env} {s : State} {m : MethodId} {args : Array Value} {below : List Frame} {meth : Method} {c : Code} {A : Nat → Prop} {κ : zG} {H : Heap} {locs : List Loc} {ls : Array Slot} {Q : State → Prop} {n : Nat} {σ : zS} {k1 : Int32} {x2 : Int32} {x3 : Int32} {y0 : Int32} {r : (Int32 × Int32 × zS) ⊕ (zS)} (C : zC cX10_pass 5 (some .int) RX10 κ A p s m args meth c) (h : zH wM κ A s σ H locs) (hl : lv_has ls 5 [(0, .ref (κ.2.1 0)), (1, .int k1), (2, .int x2), (3, .int x3)]) (hf : fX10_pass_L51_72 n σ k1 x2 x3 y0 = some r) (Kc : ∀ (v2 : Int32) (v3 : Int32) (σ1 : zS), r = .inl (v2, v3, σ1) → ∀ (H : Heap) (locs : List Loc) (ls : Array Slot), zH wM κ A s σ1 H locs → lv_has ls 5 [(0, .ref (κ.2.1 0)), (1, .int k1), (2, .int v2), (3, .int v3)] → W p l e rmX10_pass s m args below meth c H locs 0 0 Q (F0 m 51 ls [])) (Ke0 : ∀ (σ1 : zS), r = .inr σ1 → ∀ (H : Heap) (locs : List Loc) (ls : Array Slot), zH wM κ A s σ1 H locs → lv_has ls 5 [(0, .ref (κ.2.1 0))] → W p l e rmX10_pass s m args below meth c H locs 0 0 Q (F0 m 98 ls [])) : W p l e rmX10_pass s m args below meth c H locs 0 0 Q (F0 m 72 ls [.int y0]) := by
  unfold fX10_pass_L51_72 at hf
  refine lv_istore (lv' := [(4, .int y0), (0, .ref (κ.2.1 0)), (1, .int k1), (2, .int x2), (3, .int x3)]) C.ex C.by dX10_pass_72 hl (by decide) rfl (fun ls hl => ?_)
  refine lv_iload C.ex C.by dX10_pass_74 (lv_at hl 0 rfl) ?_
  refine lv_iconst (v := 1) C.ex C.by dX10_pass_76 (by decide) ?_
  refine lv_icmp_le (tgt := 87) C.ex C.by dX10_pass_77 (by decide) (fun c9 => ?_) (fun c9 => ?_)
  · have hf := zif_t c9 hf
    exact wX10_pass_L51_87 C h (lv_sub hl [1, 2, 3, 4, 0] rfl) hf Kc Ke0
  · have hf := zif_f c9 hf
    refine lv_aload_n C.ex C.by dX10_pass_80 rfl (lv_at hl 1 rfl) ?_
    refine lv_iload_n C.ex C.by dX10_pass_81 rfl (lv_at hl 4 rfl) ?_
    refine lv_iload C.ex C.by dX10_pass_82 (lv_at hl 0 rfl) ?_
    obtain ⟨q10, e11, hf⟩ := zb_some hf
    refine z_callVv (As := [.int x3, .int y0]) C h (ctX10_mergeRow e11) (zgV lkM175 lkM176 lkM177 lkM2 lkM178) ⟨rfl, rfl⟩ hdX10_mergeRow ⟨Nat.le_of_ble_eq_true rfl, Nat.le_of_ble_eq_true rfl⟩ 0 (wM_at0 κ _) rfl hl rfl rfl (Nat.le_of_ble_eq_true rfl) dX10_pass_84 ⟨Nat.zero_le _, Nat.zero_le _⟩ (fun H locs h => ?_)
    exact wX10_pass_L51_87 C h (lv_sub hl [1, 2, 3, 4, 0] rfl) hf Kc Ke0
set_option maxRecDepth 20000 in
set_option maxHeartbeats 4000000 in
theorem wX10_pass_L51_51 {p : Program} {l : Launch} {e : Env} {s : State} {m : MethodId} {args : Array Value} {below : List Frame} {meth : Method} {c : Code} {A : Nat → Prop} {κ : zG} {H : Heap} {locs : List Loc} {ls : Array Slot} {Q : State → Prop} {n : Nat} {k1 : Int32} {a : Int32 × Int32 × zS} {r : (Int32 × Int32 × zS) ⊕ (zS)} (C : zC cX10_pass 5 (some .int) RX10 κ A p s m args meth c) (h : zH wM κ A s a.2.2 H locs) (hl : lv_has ls 5 [(0, .ref (κ.2.1 0)), (1, .int k1), (2, .int a.1), (3, .int a.2.1)]) (hf : fX10_pass_L51_51 n k1 a = some r) (Kc : ∀ (v2 : Int32) (v3 : Int32) (σ1 : zS), r = .inl (v2, v3, σ1) → ∀ (H : Heap) (locs : List Loc) (ls : Array Slot), zH wM κ A s σ1 H locs → lv_has ls 5 [(0, .ref (κ.2.1 0)), (1, .int k1), (2, .int v2), (3, .int v3)] → W p l e rmX10_pass s m args below meth c H locs 0 0 Q (F0 m 51 ls [])) (Ke0 : ∀ (σ1 : zS), r = .inr σ1 → ∀ (H : Heap) (locs : List Loc) (ls : Array Slot), zH wM κ A s σ1 H locs → lv_has ls 5 [(0, .ref (κ.2.1 0))] → W p l e rmX10_pass s m args below meth c H locs 0 0 Q (F0 m 98 ls [])) : W p l e rmX10_pass s m args below meth c H locs 0 0 Q (F0 m 51 ls []) := by
  unfold fX10_pass_L51_51 at hf
  refine lv_iload_n C.ex C.by dX10_pass_51 rfl (lv_at hl 2 rfl) ?_
  refine lv_if_le (tgt := 98) C.ex C.by dX10_pass_52 (by decide) (fun c6 => ?_) (fun c6 => ?_)
  · have hf := zif_t c6 hf
    exact Ke0 _ (Option.some.inj hf).symm _ _ _ h (lv_sub hl [0] rfl)
  · have hf := zif_f c6 hf
    refine lv_aload_n C.ex C.by dX10_pass_55 rfl (lv_at hl 0 rfl) ?_
    refine z_get (v := .int (zI a.2.2 17)) C h iwX10 0 (wM_at0 κ _) rfl 29 (by decide) lkM17 rfl dX10_pass_56 ?_
    refine lv_if_ne (tgt := 98) C.ex C.by dX10_pass_59 (by decide) (fun c7 => ?_) (fun c7 => ?_)
    · have hf := zif_f c7 hf
      exact Ke0 _ (Option.some.inj hf).symm _ _ _ h (lv_sub hl [0] rfl)
    · have hf := zif_t c7 hf
      refine lv_iload_n C.ex C.by dX10_pass_62 rfl (lv_at hl 2 rfl) ?_
      refine lv_iload_n C.ex C.by dX10_pass_63 rfl (lv_at hl 1 rfl) ?_
      refine lv_icmp_ge (tgt := 71) C.ex C.by dX10_pass_64 (by decide) (fun c8 => ?_) (fun c8 => ?_)
      · have hf := zif_t c8 hf
        refine lv_iload_n C.ex C.by dX10_pass_71 rfl (lv_at hl 1 rfl) ?_
        exact wX10_pass_L51_72 C h hl hf Kc Ke0
      · have hf := zif_f c8 hf
        refine lv_iload_n C.ex C.by dX10_pass_67 rfl (lv_at hl 2 rfl) ?_
        refine lv_goto (tgt := 72) C.ex C.by dX10_pass_68 (by decide) ?_
        exact wX10_pass_L51_72 C h hl hf Kc Ke0
theorem wlX10_pass_51 {p : Program} {l : Launch} {e : Env} {s : State} {m : MethodId} {args : Array Value} {below : List Frame} {meth : Method} {c : Code} {A : Nat → Prop} {κ : zG} {H : Heap} {locs : List Loc} {ls : Array Slot} {Q : State → Prop} {n : Nat} {k1 : Int32} {k0 : Nat} {u2 : Int32} {u3 : Int32} {σ1 : zS} (C : zC cX10_pass 5 (some .int) RX10 κ A p s m args meth c) (h : zH wM κ A s σ1 H locs) (hl : lv_has ls 5 [(0, .ref (κ.2.1 0)), (1, .int k1), (2, .int u2), (3, .int u3)]) (b : zS) (hb : zlp (fX10_pass_L51_51 n k1) k0 (u2, u3, σ1) = some b) (K : (fun b : zS => ∀ (H : Heap) (locs : List Loc) (ls : Array Slot), zH wM κ A s b H locs → lv_has ls 5 [(0, .ref (κ.2.1 0))] → W p l e rmX10_pass s m args below meth c H locs 0 0 Q (F0 m 98 ls [])) b) : W p l e rmX10_pass s m args below meth c H locs 0 0 Q (F0 m 51 ls []) :=
  z_loop (body := fX10_pass_L51_51 n k1) (Wd := (fun a : Int32 × Int32 × zS => ∀ (H : Heap) (locs : List Loc) (ls : Array Slot), zH wM κ A s a.2.2 H locs → lv_has ls 5 [(0, .ref (κ.2.1 0)), (1, .int k1), (2, .int a.1), (3, .int a.2.1)] → W p l e rmX10_pass s m args below meth c H locs 0 0 Q (F0 m 51 ls []))) (Ex := (fun b : zS => (fun b : zS => ∀ (H : Heap) (locs : List Loc) (ls : Array Slot), zH wM κ A s b H locs → lv_has ls 5 [(0, .ref (κ.2.1 0))] → W p l e rmX10_pass s m args below meth c H locs 0 0 Q (F0 m 98 ls [])) b)) (fun a r hr Kc Ke H locs ls h hl => wX10_pass_L51_51 C h hl hr (fun v2 v3 σ1 e => Kc (v2, v3, σ1) e) (fun σ1 e => Ke σ1 e)) k0 (u2, u3, σ1) b hb K H locs ls h hl
set_option maxRecDepth 20000 in
set_option maxHeartbeats 4000000 in
theorem wX10_pass_27 {p : Program} {l : Launch} {e : Env} {s : State} {m : MethodId} {args : Array Value} {below : List Frame} {meth : Method} {c : Code} {A : Nat → Prop} {κ : zG} {H : Heap} {locs : List Loc} {ls : Array Slot} {n : Nat} {σ : zS} {x1 : Int32} {y0 : Int32} {r1 : Int32} {r2 : zS} (C : zC cX10_pass 5 (some .int) RX10 κ A p s m args meth c) (h : zH wM κ A s σ H locs) (hl : lv_has ls 5 [(0, .ref (κ.2.1 0)), (1, .int x1)]) (hf : fX10_pass_27 n σ x1 y0 = some (r1, r2)) : W p l e rmX10_pass s m args below meth c H locs 0 0 (MQ below (zQi wM κ A r1 r2) args s 0 0 A) (F0 m 27 ls [.int y0, .ref (κ.2.1 0)]) := by
  unfold fX10_pass_27 at hf
  refine z_put C h iwX10 tyX10_ok nmX10 0 (wM_at0 κ _) rfl 0 (by decide) lkM8 rfl rfl rfl (Nat.le_of_ble_eq_true rfl) (sI σ 0 y0) (wM_s0_0 κ _ _) dX10_pass_27 (fun H locs h => ?_)
  refine lv_aload_n C.ex C.by dX10_pass_30 rfl (lv_at hl 0 rfl) ?_
  refine z_get (v := .int y0) C h iwX10 0 (wM_at0 κ _) rfl 0 (by decide) lkM8 rfl dX10_pass_31 ?_
  refine lv_if_le (tgt := 39) C.ex C.by dX10_pass_34 (by decide) (fun c5 => ?_) (fun c5 => ?_)
  · have hf := zif_t c5 hf
    refine lv_aload_n C.ex C.by dX10_pass_39 rfl (lv_at hl 0 rfl) ?_
    refine z_get (v := .int (zI σ 4)) C h iwX10 0 (wM_at0 κ _) rfl 13 (by decide) lkM5 rfl dX10_pass_40 ?_
    refine lv_istore_n (lv' := [(2, .int (zI σ 4)), (0, .ref (κ.2.1 0)), (1, .int x1)]) C.ex C.by dX10_pass_43 rfl hl (by decide) rfl (fun ls hl => ?_)
    refine lv_iconst (v := 0) C.ex C.by dX10_pass_44 (by decide) ?_
    refine lv_istore_n (lv' := [(3, .int 0), (2, .int (zI σ 4)), (0, .ref (κ.2.1 0)), (1, .int x1)]) C.ex C.by dX10_pass_45 rfl hl (by decide) rfl (fun ls hl => ?_)
    refine lv_aload_n C.ex C.by dX10_pass_46 rfl (lv_at hl 2 rfl) ?_
    refine lv_iconst (v := 0) C.ex C.by dX10_pass_47 (by decide) ?_
    refine z_put C h iwX10 tyX10_ok nmX10 0 (wM_at0 κ _) rfl 29 (by decide) lkM17 rfl rfl rfl (Nat.le_of_ble_eq_true rfl) (sI (sI σ 0 y0) 17 0) (wM_s0_29 κ _ _) dX10_pass_48 (fun H locs h => ?_)
    obtain ⟨b12, e13, hf⟩ := zb_some hf
    refine wlX10_pass_51 C h (lv_sub hl [2, 3, 1, 0] rfl) b12 e13 ?_
    intro H locs ls h hl
    refine lv_aload_n C.ex C.by dX10_pass_98 rfl (lv_at hl 0 rfl) ?_
    refine lv_iconst (v := 3) C.ex C.by dX10_pass_99 (by decide) ?_
    obtain ⟨q14, e15, hf⟩ := zb_some hf
    refine z_callVi (As := [.int 3]) C h (ctX10_ended (r1 := q14.1) (r2 := q14.2) e15) (zgV lkM147 lkM148 lkM149 lkM2 lkM150) ⟨rfl, rfl⟩ hdX10_ended ⟨Nat.le_of_ble_eq_true rfl, Nat.le_of_ble_eq_true rfl⟩ 0 (wM_at0 κ _) rfl hl rfl rfl (Nat.le_of_ble_eq_true rfl) dX10_pass_100 ⟨Nat.zero_le _, Nat.zero_le _⟩ (fun H locs h => ?_)
    cases hf
    exact z_iret C h dX10_pass_103
  · have hf := zif_f c5 hf
    refine lv_iconst (v := 0) C.ex C.by dX10_pass_37 (by decide) ?_
    cases hf
    exact z_iret C h dX10_pass_38
set_option maxRecDepth 20000 in
set_option maxHeartbeats 4000000 in
theorem wX10_pass_0 {p : Program} {l : Launch} {e : Env} {s : State} {m : MethodId} {args : Array Value} {below : List Frame} {meth : Method} {c : Code} {A : Nat → Prop} {κ : zG} {H : Heap} {locs : List Loc} {ls : Array Slot} {n : Nat} {σ : zS} {x1 : Int32} {r1 : Int32} {r2 : zS} (C : zC cX10_pass 5 (some .int) RX10 κ A p s m args meth c) (h : zH wM κ A s σ H locs) (hl : lv_has ls 5 [(0, .ref (κ.2.1 0)), (1, .int x1)]) (hf : fX10_pass_0 n σ x1 = some (r1, r2)) : W p l e rmX10_pass s m args below meth c H locs 0 0 (MQ below (zQi wM κ A r1 r2) args s 0 0 A) (F0 m 0 ls []) := by
  unfold fX10_pass_0 at hf
  refine lv_aload_n C.ex C.by dX10_pass_0 rfl (lv_at hl 0 rfl) ?_
  refine lv_iload_n C.ex C.by dX10_pass_1 rfl (lv_at hl 1 rfl) ?_
  refine lv_iconst (v := 2) C.ex C.by dX10_pass_2 (by decide) ?_
  refine lv_bipush (v := 8) C.ex C.by dX10_pass_3 (by decide) ?_
  obtain ⟨q1, e2, hf⟩ := zb_some hf
  refine z_callSi (As := [.int x1, .int 2, .int 8]) C h (ctX10_isIn e2) (zgS lkM0 lkM1 lkM2 lkM3) ⟨rfl, rfl⟩ hdX10_isIn ⟨Nat.le_of_ble_eq_true rfl, Nat.le_of_ble_eq_true rfl⟩ hl rfl rfl (Nat.le_of_ble_eq_true rfl) dX10_pass_5 ⟨Nat.zero_le _, Nat.zero_le _⟩ (fun H locs h => ?_)
  refine lv_if_ne (tgt := 15) C.ex C.by dX10_pass_8 (by decide) (fun c3 => ?_) (fun c3 => ?_)
  · have hf := zif_f c3 hf
    refine lv_aload_n C.ex C.by dX10_pass_15 rfl (lv_at hl 0 rfl) ?_
    refine z_get (v := .int (zI σ 16)) C h iwX10 0 (wM_at0 κ _) rfl 28 (by decide) lkM4 rfl dX10_pass_16 ?_
    refine lv_if_eq (tgt := 26) C.ex C.by dX10_pass_19 (by decide) (fun c4 => ?_) (fun c4 => ?_)
    · have hf := zif_t c4 hf
      refine lv_iconst (v := 0) C.ex C.by dX10_pass_26 (by decide) ?_
      exact wX10_pass_27 C h hl hf
    · have hf := zif_f c4 hf
      refine lv_iconst (v := 2) C.ex C.by dX10_pass_22 (by decide) ?_
      refine lv_goto (tgt := 27) C.ex C.by dX10_pass_23 (by decide) ?_
      exact wX10_pass_27 C h hl hf
  · have hf := zif_t c3 hf
    refine lv_iconst (v := 1) C.ex C.by dX10_pass_11 (by decide) ?_
    refine lv_goto (tgt := 27) C.ex C.by dX10_pass_12 (by decide) ?_
    exact wX10_pass_27 C h hl hf
theorem ctX10_pass {l : Launch} {κ : zG} {n : Nat} {σ : zS} {x1 : Int32} {r1 : Int32} {r2 : zS} (hf : fX10_pass_0 n σ x1 = some (r1, r2)) : zMi l yX10_pass (Cond.code yX10_pass cX10_pass 5 (some .int)) rmX10_pass wM κ [.ref (κ.2.1 0), .int x1] σ r1 r2 :=
  zMi_of (by decide) (Nat.le_of_ble_eq_true rfl) (fun p e s m below meth c A C h ls hl => wX10_pass_0 C h hl hf)
theorem hdX10_choose : yX10_choose.cls = RX10 ∧ yX10_choose.cls ≠ "java/lang/invoke/MethodHandle" ∧ yX10_choose.cls ≠ "java/lang/invoke/VarHandle" ∧ (parseMethodDescriptor yX10_choose.desc).map (fun d => d.parameters.length) = some 1 := by decide +kernel
abbrev rmX10_choose : Room := { frames := 0, cells := 0, slots := 0, locals := 0 }
set_option maxRecDepth 20000 in
set_option maxHeartbeats 4000000 in
theorem wX10_choose_L2_2 {p : Program} {l : Launch} {e : Env} {s : State} {m : MethodId} {args : Array Value} {below : List Frame} {meth : Method} {c : Code} {A : Nat → Prop} {κ : zG} {H : Heap} {locs : List Loc} {ls : Array Slot} {Q : State → Prop} {n : Nat} {k1 : Int32} {a : Int32 × zS} {r : (Int32 × zS) ⊕ (zS)} (C : zC cX10_choose 5 none RX10 κ A p s m args meth c) (h : zH wM κ A s a.2 H locs) (hl : lv_has ls 5 [(0, .ref (κ.2.1 0)), (1, .int k1), (2, .int a.1)]) (hf : fX10_choose_L2_2 n k1 a = some r) (Kc : ∀ (v2 : Int32) (σ1 : zS), r = .inl (v2, σ1) → ∀ (H : Heap) (locs : List Loc) (ls : Array Slot), zH wM κ A s σ1 H locs → lv_has ls 5 [(0, .ref (κ.2.1 0)), (1, .int k1), (2, .int v2)] → W p l e rmX10_choose s m args below meth c H locs 0 0 Q (F0 m 2 ls [])) (Ke0 : ∀ (σ1 : zS), r = .inr σ1 → ∀ (H : Heap) (locs : List Loc) (ls : Array Slot), zH wM κ A s σ1 H locs → lv_has ls 5 [(0, .ref (κ.2.1 0)), (1, .int k1)] → W p l e rmX10_choose s m args below meth c H locs 0 0 Q (F0 m 23 ls [])) : W p l e rmX10_choose s m args below meth c H locs 0 0 Q (F0 m 2 ls []) := by
  unfold fX10_choose_L2_2 at hf
  refine lv_iload_n C.ex C.by dX10_choose_2 rfl (lv_at hl 2 rfl) ?_
  refine lv_aload_n C.ex C.by dX10_choose_3 rfl (lv_at hl 0 rfl) ?_
  refine z_get (v := .int (zI a.2 4)) C h iwX10 0 (wM_at0 κ _) rfl 13 (by decide) lkM5 rfl dX10_choose_4 ?_
  refine lv_icmp_ge (tgt := 23) C.ex C.by dX10_choose_7 (by decide) (fun c1 => ?_) (fun c1 => ?_)
  · have hf := zif_t c1 hf
    exact Ke0 _ (Option.some.inj hf).symm _ _ _ h (lv_sub hl [0, 1] rfl)
  · have hf := zif_f c1 hf
    refine lv_aload_n C.ex C.by dX10_choose_10 rfl (lv_at hl 0 rfl) ?_
    refine z_get (v := .ref (κ.2.1 23)) C h iwX10 0 (wM_at0 κ _) rfl 48 (by decide) lkM179 rfl dX10_choose_11 ?_
    refine lv_iload_n C.ex C.by dX10_choose_14 rfl (lv_at hl 2 rfl) ?_
    refine lv_iconst (v := 0) C.ex C.by dX10_choose_15 (by decide) ?_
    obtain ⟨h2, hf⟩ := zg_some hf
    refine z_zast (f := (zA a.2 17)) C h 23 (wM_at23 κ _) h2 (sA a.2 17 (upd (zA a.2 17) (Int32.toNatClampNeg a.1) (vp_nar .boolean 0))) (wM_s23 κ _ _) dX10_choose_16 (fun H locs h => ?_)
    refine lv_iinc (v := (a.1 + 1)) (lv' := [(2, .int (a.1 + 1)), (0, .ref (κ.2.1 0)), (1, .int k1)]) C.ex C.by dX10_choose_17 hl (k := 2) rfl rfl (by decide) rfl (fun ls hl => ?_)
    refine lv_goto (tgt := 2) C.ex C.by dX10_choose_20 (by decide) ?_
    exact Kc _ _ (Option.some.inj hf).symm _ _ _ h (lv_sub hl [1, 2, 0] rfl)
theorem wlX10_choose_2 {p : Program} {l : Launch} {e : Env} {s : State} {m : MethodId} {args : Array Value} {below : List Frame} {meth : Method} {c : Code} {A : Nat → Prop} {κ : zG} {H : Heap} {locs : List Loc} {ls : Array Slot} {Q : State → Prop} {n : Nat} {k1 : Int32} {k0 : Nat} {u2 : Int32} {σ1 : zS} (C : zC cX10_choose 5 none RX10 κ A p s m args meth c) (h : zH wM κ A s σ1 H locs) (hl : lv_has ls 5 [(0, .ref (κ.2.1 0)), (1, .int k1), (2, .int u2)]) (b : zS) (hb : zlp (fX10_choose_L2_2 n k1) k0 (u2, σ1) = some b) (K : (fun b : zS => ∀ (H : Heap) (locs : List Loc) (ls : Array Slot), zH wM κ A s b H locs → lv_has ls 5 [(0, .ref (κ.2.1 0)), (1, .int k1)] → W p l e rmX10_choose s m args below meth c H locs 0 0 Q (F0 m 23 ls [])) b) : W p l e rmX10_choose s m args below meth c H locs 0 0 Q (F0 m 2 ls []) :=
  z_loop (body := fX10_choose_L2_2 n k1) (Wd := (fun a : Int32 × zS => ∀ (H : Heap) (locs : List Loc) (ls : Array Slot), zH wM κ A s a.2 H locs → lv_has ls 5 [(0, .ref (κ.2.1 0)), (1, .int k1), (2, .int a.1)] → W p l e rmX10_choose s m args below meth c H locs 0 0 Q (F0 m 2 ls []))) (Ex := (fun b : zS => (fun b : zS => ∀ (H : Heap) (locs : List Loc) (ls : Array Slot), zH wM κ A s b H locs → lv_has ls 5 [(0, .ref (κ.2.1 0)), (1, .int k1)] → W p l e rmX10_choose s m args below meth c H locs 0 0 Q (F0 m 23 ls [])) b)) (fun a r hr Kc Ke H locs ls h hl => wX10_choose_L2_2 C h hl hr (fun v2 σ1 e => Kc (v2, σ1) e) (fun σ1 e => Ke σ1 e)) k0 (u2, σ1) b hb K H locs ls h hl
set_option maxRecDepth 20000 in
set_option maxHeartbeats 4000000 in
theorem wX10_choose_L35_87 {p : Program} {l : Launch} {e : Env} {s : State} {m : MethodId} {args : Array Value} {below : List Frame} {meth : Method} {c : Code} {A : Nat → Prop} {κ : zG} {H : Heap} {locs : List Loc} {ls : Array Slot} {Q : State → Prop} {n : Nat} {σ : zS} {k1 : Int32} {k2 : Int32} {x3 : Int32} {x4 : Int32} {r : (Int32 × Int32) ⊕ (Int32)} (C : zC cX10_choose 5 none RX10 κ A p s m args meth c) (h : zH wM κ A s σ H locs) (hl : lv_has ls 5 [(0, .ref (κ.2.1 0)), (1, .int k1), (2, .int k2), (3, .int x3), (4, .int x4)]) (hf : fX10_choose_L35_87 n σ k1 k2 x3 x4 = some r) (Kc : ∀ (v3 : Int32) (v4 : Int32), r = .inl (v3, v4) → ∀ (H : Heap) (locs : List Loc) (ls : Array Slot), zH wM κ A s σ H locs → lv_has ls 5 [(0, .ref (κ.2.1 0)), (1, .int k1), (2, .int k2), (3, .int v3), (4, .int v4)] → W p l e rmX10_choose s m args below meth c H locs 0 0 Q (F0 m 35 ls [])) (Ke0 : ∀ (v3 : Int32), r = .inr v3 → ∀ (H : Heap) (locs : List Loc) (ls : Array Slot), zH wM κ A s σ H locs → lv_has ls 5 [(0, .ref (κ.2.1 0)), (1, .int k1), (2, .int k2), (3, .int v3)] → W p l e rmX10_choose s m args below meth c H locs 0 0 Q (F0 m 93 ls [])) : W p l e rmX10_choose s m args below meth c H locs 0 0 Q (F0 m 87 ls []) := by
  unfold fX10_choose_L35_87 at hf
  refine lv_iinc (v := (x4 + 1)) (lv' := [(4, .int (x4 + 1)), (0, .ref (κ.2.1 0)), (1, .int k1), (2, .int k2), (3, .int x3)]) C.ex C.by dX10_choose_87 hl (k := 4) rfl rfl (by decide) rfl (fun ls hl => ?_)
  refine lv_goto (tgt := 35) C.ex C.by dX10_choose_90 (by decide) ?_
  exact Kc _ _ (Option.some.inj hf).symm _ _ _ h (lv_sub hl [1, 2, 3, 4, 0] rfl)
set_option maxRecDepth 20000 in
set_option maxHeartbeats 4000000 in
theorem wX10_choose_L35_84 {p : Program} {l : Launch} {e : Env} {s : State} {m : MethodId} {args : Array Value} {below : List Frame} {meth : Method} {c : Code} {A : Nat → Prop} {κ : zG} {H : Heap} {locs : List Loc} {ls : Array Slot} {Q : State → Prop} {n : Nat} {σ : zS} {k1 : Int32} {k2 : Int32} {x4 : Int32} {r : (Int32 × Int32) ⊕ (Int32)} (C : zC cX10_choose 5 none RX10 κ A p s m args meth c) (h : zH wM κ A s σ H locs) (hl : lv_has ls 5 [(0, .ref (κ.2.1 0)), (1, .int k1), (2, .int k2), (4, .int x4)]) (hf : fX10_choose_L35_84 n σ k1 k2 x4 = some r) (Kc : ∀ (v3 : Int32) (v4 : Int32), r = .inl (v3, v4) → ∀ (H : Heap) (locs : List Loc) (ls : Array Slot), zH wM κ A s σ H locs → lv_has ls 5 [(0, .ref (κ.2.1 0)), (1, .int k1), (2, .int k2), (3, .int v3), (4, .int v4)] → W p l e rmX10_choose s m args below meth c H locs 0 0 Q (F0 m 35 ls [])) (Ke0 : ∀ (v3 : Int32), r = .inr v3 → ∀ (H : Heap) (locs : List Loc) (ls : Array Slot), zH wM κ A s σ H locs → lv_has ls 5 [(0, .ref (κ.2.1 0)), (1, .int k1), (2, .int k2), (3, .int v3)] → W p l e rmX10_choose s m args below meth c H locs 0 0 Q (F0 m 93 ls [])) : W p l e rmX10_choose s m args below meth c H locs 0 0 Q (F0 m 84 ls []) := by
  unfold fX10_choose_L35_84 at hf
  refine lv_iload C.ex C.by dX10_choose_84 (lv_at hl 3 rfl) ?_
  refine lv_istore_n (lv' := [(3, .int x4), (0, .ref (κ.2.1 0)), (1, .int k1), (2, .int k2), (4, .int x4)]) C.ex C.by dX10_choose_86 rfl hl (by decide) rfl (fun ls hl => ?_)
  exact wX10_choose_L35_87 C h (lv_sub hl [1, 2, 3, 0, 4] rfl) hf Kc Ke0
set_option maxRecDepth 20000 in
set_option maxHeartbeats 4000000 in
theorem wX10_choose_L35_35 {p : Program} {l : Launch} {e : Env} {s : State} {m : MethodId} {args : Array Value} {below : List Frame} {meth : Method} {c : Code} {A : Nat → Prop} {κ : zG} {H : Heap} {locs : List Loc} {ls : Array Slot} {Q : State → Prop} {n : Nat} {σ : zS} {k1 : Int32} {k2 : Int32} {a : Int32 × Int32} {r : (Int32 × Int32) ⊕ (Int32)} (C : zC cX10_choose 5 none RX10 κ A p s m args meth c) (h : zH wM κ A s σ H locs) (hl : lv_has ls 5 [(0, .ref (κ.2.1 0)), (1, .int k1), (2, .int k2), (3, .int a.1), (4, .int a.2)]) (hf : fX10_choose_L35_35 n σ k1 k2 a = some r) (Kc : ∀ (v3 : Int32) (v4 : Int32), r = .inl (v3, v4) → ∀ (H : Heap) (locs : List Loc) (ls : Array Slot), zH wM κ A s σ H locs → lv_has ls 5 [(0, .ref (κ.2.1 0)), (1, .int k1), (2, .int k2), (3, .int v3), (4, .int v4)] → W p l e rmX10_choose s m args below meth c H locs 0 0 Q (F0 m 35 ls [])) (Ke0 : ∀ (v3 : Int32), r = .inr v3 → ∀ (H : Heap) (locs : List Loc) (ls : Array Slot), zH wM κ A s σ H locs → lv_has ls 5 [(0, .ref (κ.2.1 0)), (1, .int k1), (2, .int k2), (3, .int v3)] → W p l e rmX10_choose s m args below meth c H locs 0 0 Q (F0 m 93 ls [])) : W p l e rmX10_choose s m args below meth c H locs 0 0 Q (F0 m 35 ls []) := by
  unfold fX10_choose_L35_35 at hf
  refine lv_iload C.ex C.by dX10_choose_35 (lv_at hl 4 rfl) ?_
  refine lv_aload_n C.ex C.by dX10_choose_37 rfl (lv_at hl 0 rfl) ?_
  refine z_get (v := .int (zI σ 4)) C h iwX10 0 (wM_at0 κ _) rfl 13 (by decide) lkM5 rfl dX10_choose_38 ?_
  refine lv_icmp_ge (tgt := 93) C.ex C.by dX10_choose_41 (by decide) (fun c6 => ?_) (fun c6 => ?_)
  · have hf := zif_t c6 hf
    exact Ke0 _ (Option.some.inj hf).symm _ _ _ h (lv_sub hl [0, 1, 2, 3] rfl)
  · have hf := zif_f c6 hf
    refine lv_aload_n C.ex C.by dX10_choose_44 rfl (lv_at hl 0 rfl) ?_
    refine z_get (v := .ref (κ.2.1 23)) C h iwX10 0 (wM_at0 κ _) rfl 48 (by decide) lkM179 rfl dX10_choose_45 ?_
    refine lv_iload C.ex C.by dX10_choose_48 (lv_at hl 4 rfl) ?_
    obtain ⟨h7, hf⟩ := zg_some hf
    refine z_zald (f := (zA σ 17)) C h 23 (wM_at23 κ _) h7 dX10_choose_50 ?_
    refine lv_if_ne (tgt := 87) C.ex C.by dX10_choose_51 (by decide) (fun c8 => ?_) (fun c8 => ?_)
    · have hf := zif_f c8 hf
      exact wX10_choose_L35_87 C h hl hf Kc Ke0
    · have hf := zif_t c8 hf
      refine lv_iload_n C.ex C.by dX10_choose_54 rfl (lv_at hl 3 rfl) ?_
      refine lv_if_lt (tgt := 84) C.ex C.by dX10_choose_55 (by decide) (fun c9 => ?_) (fun c9 => ?_)
      · have hf := zif_t c9 hf
        exact wX10_choose_L35_84 C h (lv_sub hl [0, 1, 2, 4] rfl) hf Kc Ke0
      · have hf := zif_f c9 hf
        refine lv_aload_n C.ex C.by dX10_choose_58 rfl (lv_at hl 0 rfl) ?_
        refine z_get (v := .ref (κ.2.1 7)) C h iwX10 0 (wM_at0 κ _) rfl 10 (by decide) lkM6 rfl dX10_choose_59 ?_
        refine lv_aload_n C.ex C.by dX10_choose_62 rfl (lv_at hl 0 rfl) ?_
        refine z_get (v := .ref (κ.2.1 9)) C h iwX10 0 (wM_at0 κ _) rfl 12 (by decide) lkM146 rfl dX10_choose_63 ?_
        refine lv_iload C.ex C.by dX10_choose_66 (lv_at hl 4 rfl) ?_
        obtain ⟨h10, hf⟩ := zg_some hf
        refine z_iald (f := (zA σ 7)) C h 9 (wM_at9 κ _) h10 dX10_choose_68 ?_
        obtain ⟨h11, hf⟩ := zg_some hf
        refine z_iald (f := (zA σ 5)) C h 7 (wM_at7 κ _) h11 dX10_choose_69 ?_
        refine lv_aload_n C.ex C.by dX10_choose_70 rfl (lv_at hl 0 rfl) ?_
        refine z_get (v := .ref (κ.2.1 7)) C h iwX10 0 (wM_at0 κ _) rfl 10 (by decide) lkM6 rfl dX10_choose_71 ?_
        refine lv_aload_n C.ex C.by dX10_choose_74 rfl (lv_at hl 0 rfl) ?_
        refine z_get (v := .ref (κ.2.1 9)) C h iwX10 0 (wM_at0 κ _) rfl 12 (by decide) lkM146 rfl dX10_choose_75 ?_
        refine lv_iload_n C.ex C.by dX10_choose_78 rfl (lv_at hl 3 rfl) ?_
        obtain ⟨h12, hf⟩ := zg_some hf
        refine z_iald (f := (zA σ 7)) C h 9 (wM_at9 κ _) h12 dX10_choose_79 ?_
        obtain ⟨h13, hf⟩ := zg_some hf
        refine z_iald (f := (zA σ 5)) C h 7 (wM_at7 κ _) h13 dX10_choose_80 ?_
        refine lv_icmp_ge (tgt := 87) C.ex C.by dX10_choose_81 (by decide) (fun c14 => ?_) (fun c14 => ?_)
        · have hf := zif_t c14 hf
          exact wX10_choose_L35_87 C h hl hf Kc Ke0
        · have hf := zif_f c14 hf
          exact wX10_choose_L35_84 C h (lv_sub hl [0, 1, 2, 4] rfl) hf Kc Ke0
theorem wlX10_choose_35 {p : Program} {l : Launch} {e : Env} {s : State} {m : MethodId} {args : Array Value} {below : List Frame} {meth : Method} {c : Code} {A : Nat → Prop} {κ : zG} {H : Heap} {locs : List Loc} {ls : Array Slot} {Q : State → Prop} {n : Nat} {σ : zS} {k1 : Int32} {k2 : Int32} {k0 : Nat} {u3 : Int32} {u4 : Int32} (C : zC cX10_choose 5 none RX10 κ A p s m args meth c) (h : zH wM κ A s σ H locs) (hl : lv_has ls 5 [(0, .ref (κ.2.1 0)), (1, .int k1), (2, .int k2), (3, .int u3), (4, .int u4)]) (b : Int32) (hb : zlp (fX10_choose_L35_35 n σ k1 k2) k0 (u3, u4) = some b) (K : (fun b : Int32 => ∀ (H : Heap) (locs : List Loc) (ls : Array Slot), zH wM κ A s σ H locs → lv_has ls 5 [(0, .ref (κ.2.1 0)), (1, .int k1), (2, .int k2), (3, .int b)] → W p l e rmX10_choose s m args below meth c H locs 0 0 Q (F0 m 93 ls [])) b) : W p l e rmX10_choose s m args below meth c H locs 0 0 Q (F0 m 35 ls []) :=
  z_loop (body := fX10_choose_L35_35 n σ k1 k2) (Wd := (fun a : Int32 × Int32 => ∀ (H : Heap) (locs : List Loc) (ls : Array Slot), zH wM κ A s σ H locs → lv_has ls 5 [(0, .ref (κ.2.1 0)), (1, .int k1), (2, .int k2), (3, .int a.1), (4, .int a.2)] → W p l e rmX10_choose s m args below meth c H locs 0 0 Q (F0 m 35 ls []))) (Ex := (fun b : Int32 => (fun b : Int32 => ∀ (H : Heap) (locs : List Loc) (ls : Array Slot), zH wM κ A s σ H locs → lv_has ls 5 [(0, .ref (κ.2.1 0)), (1, .int k1), (2, .int k2), (3, .int b)] → W p l e rmX10_choose s m args below meth c H locs 0 0 Q (F0 m 93 ls [])) b)) (fun a r hr Kc Ke H locs ls h hl => wX10_choose_L35_35 C h hl hr (fun v3 v4 e => Kc (v3, v4) e) (fun v3 e => Ke v3 e)) k0 (u3, u4) b hb K H locs ls h hl
set_option maxRecDepth 20000 in
set_option maxHeartbeats 4000000 in
theorem wX10_choose_L25_25 {p : Program} {l : Launch} {e : Env} {s : State} {m : MethodId} {args : Array Value} {below : List Frame} {meth : Method} {c : Code} {A : Nat → Prop} {κ : zG} {H : Heap} {locs : List Loc} {ls : Array Slot} {Q : State → Prop} {n : Nat} {k1 : Int32} {a : Int32 × zS} {r : (Int32 × zS) ⊕ (zS)} (C : zC cX10_choose 5 none RX10 κ A p s m args meth c) (h : zH wM κ A s a.2 H locs) (hl : lv_has ls 5 [(0, .ref (κ.2.1 0)), (1, .int k1), (2, .int a.1)]) (hf : fX10_choose_L25_25 n k1 a = some r) (Kc : ∀ (v2 : Int32) (σ1 : zS), r = .inl (v2, σ1) → ∀ (H : Heap) (locs : List Loc) (ls : Array Slot), zH wM κ A s σ1 H locs → lv_has ls 5 [(0, .ref (κ.2.1 0)), (1, .int k1), (2, .int v2)] → W p l e rmX10_choose s m args below meth c H locs 0 0 Q (F0 m 25 ls [])) (Ke0 : ∀ (σ1 : zS), r = .inr σ1 → ∀ (H : Heap) (locs : List Loc) (ls : Array Slot), zH wM κ A s σ1 H locs → lv_has ls 5 [(0, .ref (κ.2.1 0))] → W p l e rmX10_choose s m args below meth c H locs 0 0 Q (F0 m 106 ls [])) : W p l e rmX10_choose s m args below meth c H locs 0 0 Q (F0 m 25 ls []) := by
  unfold fX10_choose_L25_25 at hf
  refine lv_iload_n C.ex C.by dX10_choose_25 rfl (lv_at hl 2 rfl) ?_
  refine lv_iload_n C.ex C.by dX10_choose_26 rfl (lv_at hl 1 rfl) ?_
  refine lv_icmp_ge (tgt := 106) C.ex C.by dX10_choose_27 (by decide) (fun c5 => ?_) (fun c5 => ?_)
  · have hf := zif_t c5 hf
    exact Ke0 _ (Option.some.inj hf).symm _ _ _ h (lv_sub hl [0] rfl)
  · have hf := zif_f c5 hf
    refine lv_iconst (v := (-1)) C.ex C.by dX10_choose_30 (by decide) ?_
    refine lv_istore_n (lv' := [(3, .int (-1)), (0, .ref (κ.2.1 0)), (1, .int k1), (2, .int a.1)]) C.ex C.by dX10_choose_31 rfl hl (by decide) rfl (fun ls hl => ?_)
    refine lv_iconst (v := 0) C.ex C.by dX10_choose_32 (by decide) ?_
    refine lv_istore (lv' := [(4, .int 0), (3, .int (-1)), (0, .ref (κ.2.1 0)), (1, .int k1), (2, .int a.1)]) C.ex C.by dX10_choose_33 hl (by decide) rfl (fun ls hl => ?_)
    obtain ⟨b15, e16, hf⟩ := zb_some hf
    refine wlX10_choose_35 C h (lv_sub hl [2, 3, 4, 1, 0] rfl) b15 e16 ?_
    intro H locs ls h hl
    refine lv_aload_n C.ex C.by dX10_choose_93 rfl (lv_at hl 0 rfl) ?_
    refine z_get (v := .ref (κ.2.1 23)) C h iwX10 0 (wM_at0 κ _) rfl 48 (by decide) lkM179 rfl dX10_choose_94 ?_
    refine lv_iload_n C.ex C.by dX10_choose_97 rfl (lv_at hl 3 rfl) ?_
    refine lv_iconst (v := 1) C.ex C.by dX10_choose_98 (by decide) ?_
    obtain ⟨h17, hf⟩ := zg_some hf
    refine z_zast (f := (zA a.2 17)) C h 23 (wM_at23 κ _) h17 (sA a.2 17 (upd (zA a.2 17) (Int32.toNatClampNeg b15) (vp_nar .boolean 1))) (wM_s23 κ _ _) dX10_choose_99 (fun H locs h => ?_)
    refine lv_iinc (v := (a.1 + 1)) (lv' := [(2, .int (a.1 + 1)), (0, .ref (κ.2.1 0)), (1, .int k1), (3, .int b15)]) C.ex C.by dX10_choose_100 hl (k := 2) rfl rfl (by decide) rfl (fun ls hl => ?_)
    refine lv_goto (tgt := 25) C.ex C.by dX10_choose_103 (by decide) ?_
    exact Kc _ _ (Option.some.inj hf).symm _ _ _ h (lv_sub hl [1, 2, 0] rfl)
theorem wlX10_choose_25 {p : Program} {l : Launch} {e : Env} {s : State} {m : MethodId} {args : Array Value} {below : List Frame} {meth : Method} {c : Code} {A : Nat → Prop} {κ : zG} {H : Heap} {locs : List Loc} {ls : Array Slot} {Q : State → Prop} {n : Nat} {k1 : Int32} {k0 : Nat} {u2 : Int32} {σ1 : zS} (C : zC cX10_choose 5 none RX10 κ A p s m args meth c) (h : zH wM κ A s σ1 H locs) (hl : lv_has ls 5 [(0, .ref (κ.2.1 0)), (1, .int k1), (2, .int u2)]) (b : zS) (hb : zlp (fX10_choose_L25_25 n k1) k0 (u2, σ1) = some b) (K : (fun b : zS => ∀ (H : Heap) (locs : List Loc) (ls : Array Slot), zH wM κ A s b H locs → lv_has ls 5 [(0, .ref (κ.2.1 0))] → W p l e rmX10_choose s m args below meth c H locs 0 0 Q (F0 m 106 ls [])) b) : W p l e rmX10_choose s m args below meth c H locs 0 0 Q (F0 m 25 ls []) :=
  z_loop (body := fX10_choose_L25_25 n k1) (Wd := (fun a : Int32 × zS => ∀ (H : Heap) (locs : List Loc) (ls : Array Slot), zH wM κ A s a.2 H locs → lv_has ls 5 [(0, .ref (κ.2.1 0)), (1, .int k1), (2, .int a.1)] → W p l e rmX10_choose s m args below meth c H locs 0 0 Q (F0 m 25 ls []))) (Ex := (fun b : zS => (fun b : zS => ∀ (H : Heap) (locs : List Loc) (ls : Array Slot), zH wM κ A s b H locs → lv_has ls 5 [(0, .ref (κ.2.1 0))] → W p l e rmX10_choose s m args below meth c H locs 0 0 Q (F0 m 106 ls [])) b)) (fun a r hr Kc Ke H locs ls h hl => wX10_choose_L25_25 C h hl hr (fun v2 σ1 e => Kc (v2, σ1) e) (fun σ1 e => Ke σ1 e)) k0 (u2, σ1) b hb K H locs ls h hl
set_option maxRecDepth 20000 in
set_option maxHeartbeats 4000000 in
theorem wX10_choose_0 {p : Program} {l : Launch} {e : Env} {s : State} {m : MethodId} {args : Array Value} {below : List Frame} {meth : Method} {c : Code} {A : Nat → Prop} {κ : zG} {H : Heap} {locs : List Loc} {ls : Array Slot} {n : Nat} {σ : zS} {x1 : Int32} {r : zS} (C : zC cX10_choose 5 none RX10 κ A p s m args meth c) (h : zH wM κ A s σ H locs) (hl : lv_has ls 5 [(0, .ref (κ.2.1 0)), (1, .int x1)]) (hf : fX10_choose_0 n σ x1 = some r) : W p l e rmX10_choose s m args below meth c H locs 0 0 (MQ below (zQv wM κ A r) args s 0 0 A) (F0 m 0 ls []) := by
  unfold fX10_choose_0 at hf
  refine lv_iconst (v := 0) C.ex C.by dX10_choose_0 (by decide) ?_
  refine lv_istore_n (lv' := [(2, .int 0), (0, .ref (κ.2.1 0)), (1, .int x1)]) C.ex C.by dX10_choose_1 rfl hl (by decide) rfl (fun ls hl => ?_)
  obtain ⟨b3, e4, hf⟩ := zb_some hf
  refine wlX10_choose_2 C h (lv_sub hl [1, 2, 0] rfl) b3 e4 ?_
  intro H locs ls h hl
  refine lv_iconst (v := 0) C.ex C.by dX10_choose_23 (by decide) ?_
  refine lv_istore_n (lv' := [(2, .int 0), (0, .ref (κ.2.1 0)), (1, .int x1)]) C.ex C.by dX10_choose_24 rfl hl (by decide) rfl (fun ls hl => ?_)
  obtain ⟨b18, e19, hf⟩ := zb_some hf
  refine wlX10_choose_25 C h (lv_sub hl [1, 2, 0] rfl) b18 e19 ?_
  intro H locs ls h hl
  cases hf
  exact z_vret C h dX10_choose_106
theorem ctX10_choose {l : Launch} {κ : zG} {n : Nat} {σ : zS} {x1 : Int32} {r : zS} (hf : fX10_choose_0 n σ x1 = some r) : zMv l yX10_choose (Cond.code yX10_choose cX10_choose 5 none) rmX10_choose wM κ [.ref (κ.2.1 0), .int x1] σ r :=
  zMv_of (by decide) (Nat.le_of_ble_eq_true rfl) (fun p e s m below meth c A C h ls hl => wX10_choose_0 C h hl hf)
theorem hdX10_mergeChosen : yX10_mergeChosen.cls = RX10 ∧ yX10_mergeChosen.cls ≠ "java/lang/invoke/MethodHandle" ∧ yX10_mergeChosen.cls ≠ "java/lang/invoke/VarHandle" ∧ (parseMethodDescriptor yX10_mergeChosen.desc).map (fun d => d.parameters.length) = some 1 := by decide +kernel
abbrev rmX10_mergeChosen : Room := { frames := 6, cells := 0, slots := 0, locals := 135 }
set_option maxRecDepth 20000 in
set_option maxHeartbeats 4000000 in
theorem wX10_mergeChosen_L9_41 {p : Program} {l : Launch} {e : Env} {s : State} {m : MethodId} {args : Array Value} {below : List Frame} {meth : Method} {c : Code} {A : Nat → Prop} {κ : zG} {H : Heap} {locs : List Loc} {ls : Array Slot} {Q : State → Prop} {n : Nat} {σ : zS} {k1 : Int32} {x2 : Int32} {x3 : Int32} {r : (Int32 × Int32 × zS) ⊕ (zS)} (C : zC cX10_mergeChosen 6 none RX10 κ A p s m args meth c) (h : zH wM κ A s σ H locs) (hl : lv_has ls 6 [(0, .ref (κ.2.1 0)), (1, .int k1), (2, .int x2), (3, .int x3)]) (hf : fX10_mergeChosen_L9_41 n σ k1 x2 x3 = some r) (Kc : ∀ (v2 : Int32) (v3 : Int32) (σ1 : zS), r = .inl (v2, v3, σ1) → ∀ (H : Heap) (locs : List Loc) (ls : Array Slot), zH wM κ A s σ1 H locs → lv_has ls 6 [(0, .ref (κ.2.1 0)), (1, .int k1), (2, .int v2), (3, .int v3)] → W p l e rmX10_mergeChosen s m args below meth c H locs 0 0 Q (F0 m 9 ls [])) (Ke0 : ∀ (σ1 : zS), r = .inr σ1 → ∀ (H : Heap) (locs : List Loc) (ls : Array Slot), zH wM κ A s σ1 H locs → lv_has ls 6 [(0, .ref (κ.2.1 0)), (1, .int k1)] → W p l e rmX10_mergeChosen s m args below meth c H locs 0 0 Q (F0 m 47 ls [])) : W p l e rmX10_mergeChosen s m args below meth c H locs 0 0 Q (F0 m 41 ls []) := by
  unfold fX10_mergeChosen_L9_41 at hf
  refine lv_iinc (v := (x3 + 1)) (lv' := [(3, .int (x3 + 1)), (0, .ref (κ.2.1 0)), (1, .int k1), (2, .int x2)]) C.ex C.by dX10_mergeChosen_41 hl (k := 3) rfl rfl (by decide) rfl (fun ls hl => ?_)
  refine lv_goto (tgt := 9) C.ex C.by dX10_mergeChosen_44 (by decide) ?_
  exact Kc _ _ _ (Option.some.inj hf).symm _ _ _ h (lv_sub hl [1, 2, 3, 0] rfl)
set_option maxRecDepth 20000 in
set_option maxHeartbeats 4000000 in
theorem wX10_mergeChosen_L9_9 {p : Program} {l : Launch} {e : Env} {s : State} {m : MethodId} {args : Array Value} {below : List Frame} {meth : Method} {c : Code} {A : Nat → Prop} {κ : zG} {H : Heap} {locs : List Loc} {ls : Array Slot} {Q : State → Prop} {n : Nat} {k1 : Int32} {a : Int32 × Int32 × zS} {r : (Int32 × Int32 × zS) ⊕ (zS)} (C : zC cX10_mergeChosen 6 none RX10 κ A p s m args meth c) (h : zH wM κ A s a.2.2 H locs) (hl : lv_has ls 6 [(0, .ref (κ.2.1 0)), (1, .int k1), (2, .int a.1), (3, .int a.2.1)]) (hf : fX10_mergeChosen_L9_9 n k1 a = some r) (Kc : ∀ (v2 : Int32) (v3 : Int32) (σ1 : zS), r = .inl (v2, v3, σ1) → ∀ (H : Heap) (locs : List Loc) (ls : Array Slot), zH wM κ A s σ1 H locs → lv_has ls 6 [(0, .ref (κ.2.1 0)), (1, .int k1), (2, .int v2), (3, .int v3)] → W p l e rmX10_mergeChosen s m args below meth c H locs 0 0 Q (F0 m 9 ls [])) (Ke0 : ∀ (σ1 : zS), r = .inr σ1 → ∀ (H : Heap) (locs : List Loc) (ls : Array Slot), zH wM κ A s σ1 H locs → lv_has ls 6 [(0, .ref (κ.2.1 0)), (1, .int k1)] → W p l e rmX10_mergeChosen s m args below meth c H locs 0 0 Q (F0 m 47 ls [])) : W p l e rmX10_mergeChosen s m args below meth c H locs 0 0 Q (F0 m 9 ls []) := by
  unfold fX10_mergeChosen_L9_9 at hf
  refine lv_iload_n C.ex C.by dX10_mergeChosen_9 rfl (lv_at hl 3 rfl) ?_
  refine lv_aload_n C.ex C.by dX10_mergeChosen_10 rfl (lv_at hl 0 rfl) ?_
  refine z_get (v := .int (zI a.2.2 4)) C h iwX10 0 (wM_at0 κ _) rfl 13 (by decide) lkM5 rfl dX10_mergeChosen_11 ?_
  refine lv_icmp_ge (tgt := 47) C.ex C.by dX10_mergeChosen_14 (by decide) (fun c3 => ?_) (fun c3 => ?_)
  · have hf := zif_t c3 hf
    exact Ke0 _ (Option.some.inj hf).symm _ _ _ h (lv_sub hl [0, 1] rfl)
  · have hf := zif_f c3 hf
    refine lv_aload_n C.ex C.by dX10_mergeChosen_17 rfl (lv_at hl 0 rfl) ?_
    refine z_get (v := .ref (κ.2.1 23)) C h iwX10 0 (wM_at0 κ _) rfl 48 (by decide) lkM179 rfl dX10_mergeChosen_18 ?_
    refine lv_iload_n C.ex C.by dX10_mergeChosen_21 rfl (lv_at hl 3 rfl) ?_
    obtain ⟨h4, hf⟩ := zg_some hf
    refine z_zald (f := (zA a.2.2 17)) C h 23 (wM_at23 κ _) h4 dX10_mergeChosen_22 ?_
    refine lv_if_eq (tgt := 41) C.ex C.by dX10_mergeChosen_23 (by decide) (fun c5 => ?_) (fun c5 => ?_)
    · have hf := zif_t c5 hf
      exact wX10_mergeChosen_L9_41 C h hl hf Kc Ke0
    · have hf := zif_f c5 hf
      refine lv_aload_n C.ex C.by dX10_mergeChosen_26 rfl (lv_at hl 0 rfl) ?_
      refine z_get (v := .ref (κ.2.1 19)) C h iwX10 0 (wM_at0 κ _) rfl 44 (by decide) lkM155 rfl dX10_mergeChosen_27 ?_
      refine lv_iload_n C.ex C.by dX10_mergeChosen_30 rfl (lv_at hl 2 rfl) ?_
      refine lv_aload_n C.ex C.by dX10_mergeChosen_31 rfl (lv_at hl 0 rfl) ?_
      refine z_get (v := .ref (κ.2.1 9)) C h iwX10 0 (wM_at0 κ _) rfl 12 (by decide) lkM146 rfl dX10_mergeChosen_32 ?_
      refine lv_iload_n C.ex C.by dX10_mergeChosen_35 rfl (lv_at hl 3 rfl) ?_
      obtain ⟨h6, hf⟩ := zg_some hf
      refine z_iald (f := (zA a.2.2 7)) C h 9 (wM_at9 κ _) h6 dX10_mergeChosen_36 ?_
      obtain ⟨h7, hf⟩ := zg_some hf
      refine z_iast (f := (zA a.2.2 13)) C h 19 (wM_at19 κ _) h7 (sA a.2.2 13 (upd (zA a.2.2 13) (Int32.toNatClampNeg a.1) ((zA a.2.2 7) (Int32.toNatClampNeg a.2.1)))) (wM_s19 κ _ _) dX10_mergeChosen_37 (fun H locs h => ?_)
      refine lv_iinc (v := (a.1 + 1)) (lv' := [(2, .int (a.1 + 1)), (0, .ref (κ.2.1 0)), (1, .int k1), (3, .int a.2.1)]) C.ex C.by dX10_mergeChosen_38 hl (k := 2) rfl rfl (by decide) rfl (fun ls hl => ?_)
      exact wX10_mergeChosen_L9_41 C h (lv_sub hl [1, 2, 0, 3] rfl) hf Kc Ke0
theorem wlX10_mergeChosen_9 {p : Program} {l : Launch} {e : Env} {s : State} {m : MethodId} {args : Array Value} {below : List Frame} {meth : Method} {c : Code} {A : Nat → Prop} {κ : zG} {H : Heap} {locs : List Loc} {ls : Array Slot} {Q : State → Prop} {n : Nat} {k1 : Int32} {k0 : Nat} {u2 : Int32} {u3 : Int32} {σ1 : zS} (C : zC cX10_mergeChosen 6 none RX10 κ A p s m args meth c) (h : zH wM κ A s σ1 H locs) (hl : lv_has ls 6 [(0, .ref (κ.2.1 0)), (1, .int k1), (2, .int u2), (3, .int u3)]) (b : zS) (hb : zlp (fX10_mergeChosen_L9_9 n k1) k0 (u2, u3, σ1) = some b) (K : (fun b : zS => ∀ (H : Heap) (locs : List Loc) (ls : Array Slot), zH wM κ A s b H locs → lv_has ls 6 [(0, .ref (κ.2.1 0)), (1, .int k1)] → W p l e rmX10_mergeChosen s m args below meth c H locs 0 0 Q (F0 m 47 ls [])) b) : W p l e rmX10_mergeChosen s m args below meth c H locs 0 0 Q (F0 m 9 ls []) :=
  z_loop (body := fX10_mergeChosen_L9_9 n k1) (Wd := (fun a : Int32 × Int32 × zS => ∀ (H : Heap) (locs : List Loc) (ls : Array Slot), zH wM κ A s a.2.2 H locs → lv_has ls 6 [(0, .ref (κ.2.1 0)), (1, .int k1), (2, .int a.1), (3, .int a.2.1)] → W p l e rmX10_mergeChosen s m args below meth c H locs 0 0 Q (F0 m 9 ls []))) (Ex := (fun b : zS => (fun b : zS => ∀ (H : Heap) (locs : List Loc) (ls : Array Slot), zH wM κ A s b H locs → lv_has ls 6 [(0, .ref (κ.2.1 0)), (1, .int k1)] → W p l e rmX10_mergeChosen s m args below meth c H locs 0 0 Q (F0 m 47 ls [])) b)) (fun a r hr Kc Ke H locs ls h hl => wX10_mergeChosen_L9_9 C h hl hr (fun v2 v3 σ1 e => Kc (v2, v3, σ1) e) (fun σ1 e => Ke σ1 e)) k0 (u2, u3, σ1) b hb K H locs ls h hl
set_option maxRecDepth 20000 in
set_option maxHeartbeats 4000000 in
theorem wX10_mergeChosen_L65_101 {p : Program} {l : Launch} {e : Env} {s : State} {m : MethodId} {args : Array Value} {below : List Frame} {meth : Method} {c : Code} {A : Nat → Prop} {κ : zG} {H : Heap} {locs : List Loc} {ls : Array Slot} {Q : State → Prop} {n : Nat} {σ : zS} {k3 : Int32} {x4 : Int32} {x5 : Int32} {r : (Int32 × Int32 × zS) ⊕ (Int32 × zS)} (C : zC cX10_mergeChosen 6 none RX10 κ A p s m args meth c) (h : zH wM κ A s σ H locs) (hl : lv_has ls 6 [(0, .ref (κ.2.1 0)), (3, .int k3), (4, .int x4), (5, .int x5)]) (hf : fX10_mergeChosen_L65_101 n σ k3 x4 x5 = some r) (Kc : ∀ (v4 : Int32) (v5 : Int32) (σ1 : zS), r = .inl (v4, v5, σ1) → ∀ (H : Heap) (locs : List Loc) (ls : Array Slot), zH wM κ A s σ1 H locs → lv_has ls 6 [(0, .ref (κ.2.1 0)), (3, .int k3), (4, .int v4), (5, .int v5)] → W p l e rmX10_mergeChosen s m args below meth c H locs 0 0 Q (F0 m 65 ls [])) (Ke0 : ∀ (v4 : Int32) (σ1 : zS), r = .inr (v4, σ1) → ∀ (H : Heap) (locs : List Loc) (ls : Array Slot), zH wM κ A s σ1 H locs → lv_has ls 6 [(0, .ref (κ.2.1 0)), (3, .int k3), (4, .int v4)] → W p l e rmX10_mergeChosen s m args below meth c H locs 0 0 Q (F0 m 107 ls [])) : W p l e rmX10_mergeChosen s m args below meth c H locs 0 0 Q (F0 m 101 ls []) := by
  unfold fX10_mergeChosen_L65_101 at hf
  refine lv_iinc (v := (x5 + 1)) (lv' := [(5, .int (x5 + 1)), (0, .ref (κ.2.1 0)), (3, .int k3), (4, .int x4)]) C.ex C.by dX10_mergeChosen_101 hl (k := 3) rfl rfl (by decide) rfl (fun ls hl => ?_)
  refine lv_goto (tgt := 65) C.ex C.by dX10_mergeChosen_104 (by decide) ?_
  exact Kc _ _ _ (Option.some.inj hf).symm _ _ _ h (lv_sub hl [1, 2, 3, 0] rfl)
set_option maxRecDepth 20000 in
set_option maxHeartbeats 4000000 in
theorem wX10_mergeChosen_L65_65 {p : Program} {l : Launch} {e : Env} {s : State} {m : MethodId} {args : Array Value} {below : List Frame} {meth : Method} {c : Code} {A : Nat → Prop} {κ : zG} {H : Heap} {locs : List Loc} {ls : Array Slot} {Q : State → Prop} {n : Nat} {k3 : Int32} {a : Int32 × Int32 × zS} {r : (Int32 × Int32 × zS) ⊕ (Int32 × zS)} (C : zC cX10_mergeChosen 6 none RX10 κ A p s m args meth c) (h : zH wM κ A s a.2.2 H locs) (hl : lv_has ls 6 [(0, .ref (κ.2.1 0)), (3, .int k3), (4, .int a.1), (5, .int a.2.1)]) (hf : fX10_mergeChosen_L65_65 n k3 a = some r) (Kc : ∀ (v4 : Int32) (v5 : Int32) (σ1 : zS), r = .inl (v4, v5, σ1) → ∀ (H : Heap) (locs : List Loc) (ls : Array Slot), zH wM κ A s σ1 H locs → lv_has ls 6 [(0, .ref (κ.2.1 0)), (3, .int k3), (4, .int v4), (5, .int v5)] → W p l e rmX10_mergeChosen s m args below meth c H locs 0 0 Q (F0 m 65 ls [])) (Ke0 : ∀ (v4 : Int32) (σ1 : zS), r = .inr (v4, σ1) → ∀ (H : Heap) (locs : List Loc) (ls : Array Slot), zH wM κ A s σ1 H locs → lv_has ls 6 [(0, .ref (κ.2.1 0)), (3, .int k3), (4, .int v4)] → W p l e rmX10_mergeChosen s m args below meth c H locs 0 0 Q (F0 m 107 ls [])) : W p l e rmX10_mergeChosen s m args below meth c H locs 0 0 Q (F0 m 65 ls []) := by
  unfold fX10_mergeChosen_L65_65 at hf
  refine lv_iload C.ex C.by dX10_mergeChosen_65 (lv_at hl 3 rfl) ?_
  refine lv_aload_n C.ex C.by dX10_mergeChosen_67 rfl (lv_at hl 0 rfl) ?_
  refine z_get (v := .int (zI a.2.2 4)) C h iwX10 0 (wM_at0 κ _) rfl 13 (by decide) lkM5 rfl dX10_mergeChosen_68 ?_
  refine lv_icmp_ge (tgt := 107) C.ex C.by dX10_mergeChosen_71 (by decide) (fun c13 => ?_) (fun c13 => ?_)
  · have hf := zif_t c13 hf
    exact Ke0 _ _ (Option.some.inj hf).symm _ _ _ h (lv_sub hl [0, 1, 2] rfl)
  · have hf := zif_f c13 hf
    refine lv_aload_n C.ex C.by dX10_mergeChosen_74 rfl (lv_at hl 0 rfl) ?_
    refine z_get (v := .ref (κ.2.1 23)) C h iwX10 0 (wM_at0 κ _) rfl 48 (by decide) lkM179 rfl dX10_mergeChosen_75 ?_
    refine lv_iload C.ex C.by dX10_mergeChosen_78 (lv_at hl 3 rfl) ?_
    obtain ⟨h14, hf⟩ := zg_some hf
    refine z_zald (f := (zA a.2.2 17)) C h 23 (wM_at23 κ _) h14 dX10_mergeChosen_80 ?_
    refine lv_if_ne (tgt := 101) C.ex C.by dX10_mergeChosen_81 (by decide) (fun c15 => ?_) (fun c15 => ?_)
    · have hf := zif_f c15 hf
      exact wX10_mergeChosen_L65_101 C h hl hf Kc Ke0
    · have hf := zif_t c15 hf
      refine lv_aload_n C.ex C.by dX10_mergeChosen_84 rfl (lv_at hl 0 rfl) ?_
      refine z_get (v := .ref (κ.2.1 9)) C h iwX10 0 (wM_at0 κ _) rfl 12 (by decide) lkM146 rfl dX10_mergeChosen_85 ?_
      refine lv_iload C.ex C.by dX10_mergeChosen_88 (lv_at hl 2 rfl) ?_
      refine lv_aload_n C.ex C.by dX10_mergeChosen_90 rfl (lv_at hl 0 rfl) ?_
      refine z_get (v := .ref (κ.2.1 9)) C h iwX10 0 (wM_at0 κ _) rfl 12 (by decide) lkM146 rfl dX10_mergeChosen_91 ?_
      refine lv_iload C.ex C.by dX10_mergeChosen_94 (lv_at hl 3 rfl) ?_
      obtain ⟨h16, hf⟩ := zg_some hf
      refine z_iald (f := (zA a.2.2 7)) C h 9 (wM_at9 κ _) h16 dX10_mergeChosen_96 ?_
      obtain ⟨h17, hf⟩ := zg_some hf
      refine z_iast (f := (zA a.2.2 7)) C h 9 (wM_at9 κ _) h17 (sA a.2.2 7 (upd (zA a.2.2 7) (Int32.toNatClampNeg a.1) ((zA a.2.2 7) (Int32.toNatClampNeg a.2.1)))) (wM_s9 κ _ _) dX10_mergeChosen_97 (fun H locs h => ?_)
      refine lv_iinc (v := (a.1 + 1)) (lv' := [(4, .int (a.1 + 1)), (0, .ref (κ.2.1 0)), (3, .int k3), (5, .int a.2.1)]) C.ex C.by dX10_mergeChosen_98 hl (k := 2) rfl rfl (by decide) rfl (fun ls hl => ?_)
      exact wX10_mergeChosen_L65_101 C h (lv_sub hl [1, 2, 0, 3] rfl) hf Kc Ke0
theorem wlX10_mergeChosen_65 {p : Program} {l : Launch} {e : Env} {s : State} {m : MethodId} {args : Array Value} {below : List Frame} {meth : Method} {c : Code} {A : Nat → Prop} {κ : zG} {H : Heap} {locs : List Loc} {ls : Array Slot} {Q : State → Prop} {n : Nat} {k3 : Int32} {k0 : Nat} {u4 : Int32} {u5 : Int32} {σ1 : zS} (C : zC cX10_mergeChosen 6 none RX10 κ A p s m args meth c) (h : zH wM κ A s σ1 H locs) (hl : lv_has ls 6 [(0, .ref (κ.2.1 0)), (3, .int k3), (4, .int u4), (5, .int u5)]) (b : Int32 × zS) (hb : zlp (fX10_mergeChosen_L65_65 n k3) k0 (u4, u5, σ1) = some b) (K : (fun b : Int32 × zS => ∀ (H : Heap) (locs : List Loc) (ls : Array Slot), zH wM κ A s b.2 H locs → lv_has ls 6 [(0, .ref (κ.2.1 0)), (3, .int k3), (4, .int b.1)] → W p l e rmX10_mergeChosen s m args below meth c H locs 0 0 Q (F0 m 107 ls [])) b) : W p l e rmX10_mergeChosen s m args below meth c H locs 0 0 Q (F0 m 65 ls []) :=
  z_loop (body := fX10_mergeChosen_L65_65 n k3) (Wd := (fun a : Int32 × Int32 × zS => ∀ (H : Heap) (locs : List Loc) (ls : Array Slot), zH wM κ A s a.2.2 H locs → lv_has ls 6 [(0, .ref (κ.2.1 0)), (3, .int k3), (4, .int a.1), (5, .int a.2.1)] → W p l e rmX10_mergeChosen s m args below meth c H locs 0 0 Q (F0 m 65 ls []))) (Ex := (fun b : Int32 × zS => (fun b : Int32 × zS => ∀ (H : Heap) (locs : List Loc) (ls : Array Slot), zH wM κ A s b.2 H locs → lv_has ls 6 [(0, .ref (κ.2.1 0)), (3, .int k3), (4, .int b.1)] → W p l e rmX10_mergeChosen s m args below meth c H locs 0 0 Q (F0 m 107 ls [])) b)) (fun a r hr Kc Ke H locs ls h hl => wX10_mergeChosen_L65_65 C h hl hr (fun v4 v5 σ1 e => Kc (v4, v5, σ1) e) (fun v4 σ1 e => Ke (v4, σ1) e)) k0 (u4, u5, σ1) b hb K H locs ls h hl
set_option maxRecDepth 20000 in
set_option maxHeartbeats 4000000 in
theorem wX10_mergeChosen_0 {p : Program} {l : Launch} {e : Env} {s : State} {m : MethodId} {args : Array Value} {below : List Frame} {meth : Method} {c : Code} {A : Nat → Prop} {κ : zG} {H : Heap} {locs : List Loc} {ls : Array Slot} {n : Nat} {σ : zS} {x1 : Int32} {r : zS} (C : zC cX10_mergeChosen 6 none RX10 κ A p s m args meth c) (h : zH wM κ A s σ H locs) (hl : lv_has ls 6 [(0, .ref (κ.2.1 0)), (1, .int x1)]) (hf : fX10_mergeChosen_0 n σ x1 = some r) : W p l e rmX10_mergeChosen s m args below meth c H locs 0 0 (MQ below (zQv wM κ A r) args s 0 0 A) (F0 m 0 ls []) := by
  unfold fX10_mergeChosen_0 at hf
  refine lv_aload_n C.ex C.by dX10_mergeChosen_0 rfl (lv_at hl 0 rfl) ?_
  refine lv_iload_n C.ex C.by dX10_mergeChosen_1 rfl (lv_at hl 1 rfl) ?_
  obtain ⟨q1, e2, hf⟩ := zb_some hf
  refine z_callVv (As := [.int x1]) C h (ctX10_choose e2) (zgV lkM180 lkM181 lkM182 lkM2 lkM183) ⟨rfl, rfl⟩ hdX10_choose ⟨Nat.le_of_ble_eq_true rfl, Nat.le_of_ble_eq_true rfl⟩ 0 (wM_at0 κ _) rfl hl rfl rfl (Nat.le_of_ble_eq_true rfl) dX10_mergeChosen_2 ⟨Nat.zero_le _, Nat.zero_le _⟩ (fun H locs h => ?_)
  refine lv_iconst (v := 0) C.ex C.by dX10_mergeChosen_5 (by decide) ?_
  refine lv_istore_n (lv' := [(2, .int 0), (0, .ref (κ.2.1 0)), (1, .int x1)]) C.ex C.by dX10_mergeChosen_6 rfl hl (by decide) rfl (fun ls hl => ?_)
  refine lv_iconst (v := 0) C.ex C.by dX10_mergeChosen_7 (by decide) ?_
  refine lv_istore_n (lv' := [(3, .int 0), (2, .int 0), (0, .ref (κ.2.1 0)), (1, .int x1)]) C.ex C.by dX10_mergeChosen_8 rfl hl (by decide) rfl (fun ls hl => ?_)
  obtain ⟨b8, e9, hf⟩ := zb_some hf
  refine wlX10_mergeChosen_9 C h (lv_sub hl [2, 3, 1, 0] rfl) b8 e9 ?_
  intro H locs ls h hl
  refine lv_aload_n C.ex C.by dX10_mergeChosen_47 rfl (lv_at hl 0 rfl) ?_
  refine lv_iload_n C.ex C.by dX10_mergeChosen_48 rfl (lv_at hl 1 rfl) ?_
  obtain ⟨q10, e11, hf⟩ := zb_some hf
  refine z_callVi (As := [.int x1]) C h (ctX10_merge (r1 := q10.1) (r2 := q10.2) e11) (zgV lkM171 lkM172 lkM173 lkM2 lkM174) ⟨rfl, rfl⟩ hdX10_merge ⟨Nat.le_of_ble_eq_true rfl, Nat.le_of_ble_eq_true rfl⟩ 0 (wM_at0 κ _) rfl hl rfl rfl (Nat.le_of_ble_eq_true rfl) dX10_mergeChosen_49 ⟨Nat.zero_le _, Nat.zero_le _⟩ (fun H locs h => ?_)
  refine lv_istore_n (lv' := [(3, .int q10.1), (0, .ref (κ.2.1 0)), (1, .int x1)]) C.ex C.by dX10_mergeChosen_52 rfl hl (by decide) rfl (fun ls hl => ?_)
  refine lv_iload_n C.ex C.by dX10_mergeChosen_53 rfl (lv_at hl 0 rfl) ?_
  refine lv_iconst (v := (-1)) C.ex C.by dX10_mergeChosen_54 (by decide) ?_
  refine lv_icmp_ne (tgt := 59) C.ex C.by dX10_mergeChosen_55 (by decide) (fun c12 => ?_) (fun c12 => ?_)
  · have hf := zif_f c12 hf
    refine lv_iconst (v := 0) C.ex C.by dX10_mergeChosen_59 (by decide) ?_
    refine lv_istore (lv' := [(4, .int 0), (3, .int q10.1), (0, .ref (κ.2.1 0)), (1, .int x1)]) C.ex C.by dX10_mergeChosen_60 hl (by decide) rfl (fun ls hl => ?_)
    refine lv_iconst (v := 0) C.ex C.by dX10_mergeChosen_62 (by decide) ?_
    refine lv_istore (lv' := [(5, .int 0), (4, .int 0), (3, .int q10.1), (0, .ref (κ.2.1 0)), (1, .int x1)]) C.ex C.by dX10_mergeChosen_63 hl (by decide) rfl (fun ls hl => ?_)
    obtain ⟨b18, e19, hf⟩ := zb_some hf
    refine wlX10_mergeChosen_65 C h (lv_sub hl [3, 2, 1, 0] rfl) b18 e19 ?_
    intro H locs ls h hl
    refine lv_aload_n C.ex C.by dX10_mergeChosen_107 rfl (lv_at hl 0 rfl) ?_
    refine z_get (v := .ref (κ.2.1 9)) C h iwX10 0 (wM_at0 κ _) rfl 12 (by decide) lkM146 rfl dX10_mergeChosen_108 ?_
    refine lv_iload C.ex C.by dX10_mergeChosen_111 (lv_at hl 2 rfl) ?_
    refine lv_iload_n C.ex C.by dX10_mergeChosen_113 rfl (lv_at hl 1 rfl) ?_
    obtain ⟨h20, hf⟩ := zg_some hf
    refine z_iast (f := (zA b18.2 7)) C h 9 (wM_at9 κ _) h20 (sA b18.2 7 (upd (zA b18.2 7) (Int32.toNatClampNeg b18.1) q10.1)) (wM_s9 κ _ _) dX10_mergeChosen_114 (fun H locs h => ?_)
    refine lv_aload_n C.ex C.by dX10_mergeChosen_115 rfl (lv_at hl 0 rfl) ?_
    refine lv_iload C.ex C.by dX10_mergeChosen_116 (lv_at hl 2 rfl) ?_
    refine lv_iconst (v := 1) C.ex C.by dX10_mergeChosen_118 (by decide) ?_
    refine lv_iadd C.ex C.by dX10_mergeChosen_119 ?_
    refine z_put C h iwX10 tyX10_ok nmX10 0 (wM_at0 κ _) rfl 13 (by decide) lkM5 rfl rfl rfl (Nat.le_of_ble_eq_true rfl) (sI (sA b18.2 7 (upd (zA b18.2 7) (Int32.toNatClampNeg b18.1) q10.1)) 4 (b18.1 + 1)) (wM_s0_13 κ _ _) dX10_mergeChosen_120 (fun H locs h => ?_)
    cases hf
    exact z_vret C h dX10_mergeChosen_123
  · have hf := zif_t c12 hf
    cases hf
    exact z_vret C h dX10_mergeChosen_58
theorem ctX10_mergeChosen {l : Launch} {κ : zG} {n : Nat} {σ : zS} {x1 : Int32} {r : zS} (hf : fX10_mergeChosen_0 n σ x1 = some r) : zMv l yX10_mergeChosen (Cond.code yX10_mergeChosen cX10_mergeChosen 6 none) rmX10_mergeChosen wM κ [.ref (κ.2.1 0), .int x1] σ r :=
  zMv_of (by decide) (Nat.le_of_ble_eq_true rfl) (fun p e s m below meth c A C h ls hl => wX10_mergeChosen_0 C h hl hf)
theorem hdX10_best : yX10_best.cls = RX10 ∧ yX10_best.cls ≠ "java/lang/invoke/MethodHandle" ∧ yX10_best.cls ≠ "java/lang/invoke/VarHandle" ∧ (parseMethodDescriptor yX10_best.desc).map (fun d => d.parameters.length) = some 1 := by decide +kernel
abbrev rmX10_best : Room := { frames := 7, cells := 0, slots := 0, locals := 160 }
set_option maxRecDepth 20000 in
set_option maxHeartbeats 4000000 in
theorem wX10_best_L69_69 {p : Program} {l : Launch} {e : Env} {s : State} {m : MethodId} {args : Array Value} {below : List Frame} {meth : Method} {c : Code} {A : Nat → Prop} {κ : zG} {H : Heap} {locs : List Loc} {ls : Array Slot} {Q : State → Prop} {n : Nat} {k1 : Int32} {a : Int32 × zS} {r : (Int32 × zS) ⊕ (zS)} (C : zC cX10_best 3 (some .int) RX10 κ A p s m args meth c) (h : zH wM κ A s a.2 H locs) (hl : lv_has ls 3 [(0, .ref (κ.2.1 0)), (1, .int k1), (2, .int a.1)]) (hf : fX10_best_L69_69 n k1 a = some r) (Kc : ∀ (v2 : Int32) (σ1 : zS), r = .inl (v2, σ1) → ∀ (H : Heap) (locs : List Loc) (ls : Array Slot), zH wM κ A s σ1 H locs → lv_has ls 3 [(0, .ref (κ.2.1 0)), (1, .int k1), (2, .int v2)] → W p l e rmX10_best s m args below meth c H locs 0 0 Q (F0 m 69 ls [])) (Ke0 : ∀ (σ1 : zS), r = .inr σ1 → ∀ (H : Heap) (locs : List Loc) (ls : Array Slot), zH wM κ A s σ1 H locs → lv_has ls 3 [(0, .ref (κ.2.1 0))] → W p l e rmX10_best s m args below meth c H locs 0 0 Q (F0 m 94 ls [])) : W p l e rmX10_best s m args below meth c H locs 0 0 Q (F0 m 69 ls []) := by
  unfold fX10_best_L69_69 at hf
  refine lv_aload_n C.ex C.by dX10_best_69 rfl (lv_at hl 0 rfl) ?_
  refine z_get (v := .int (zI a.2 4)) C h iwX10 0 (wM_at0 κ _) rfl 13 (by decide) lkM5 rfl dX10_best_70 ?_
  refine lv_iconst (v := 1) C.ex C.by dX10_best_73 (by decide) ?_
  refine lv_icmp_le (tgt := 94) C.ex C.by dX10_best_74 (by decide) (fun c8 => ?_) (fun c8 => ?_)
  · have hf := zif_t c8 hf
    exact Ke0 _ (Option.some.inj hf).symm _ _ _ h (lv_sub hl [0] rfl)
  · have hf := zif_f c8 hf
    refine lv_aload_n C.ex C.by dX10_best_77 rfl (lv_at hl 0 rfl) ?_
    refine z_get (v := .int (zI a.2 17)) C h iwX10 0 (wM_at0 κ _) rfl 29 (by decide) lkM17 rfl dX10_best_78 ?_
    refine lv_if_ne (tgt := 94) C.ex C.by dX10_best_81 (by decide) (fun c9 => ?_) (fun c9 => ?_)
    · have hf := zif_f c9 hf
      exact Ke0 _ (Option.some.inj hf).symm _ _ _ h (lv_sub hl [0] rfl)
    · have hf := zif_t c9 hf
      refine lv_aload_n C.ex C.by dX10_best_84 rfl (lv_at hl 0 rfl) ?_
      refine lv_iload_n C.ex C.by dX10_best_85 rfl (lv_at hl 2 rfl) ?_
      obtain ⟨q10, e11, hf⟩ := zb_some hf
      refine z_callVv (As := [.int a.1]) C h (ctX10_mergeChosen e11) (zgV lkM184 lkM185 lkM186 lkM2 lkM187) ⟨rfl, rfl⟩ hdX10_mergeChosen ⟨Nat.le_of_ble_eq_true rfl, Nat.le_of_ble_eq_true rfl⟩ 0 (wM_at0 κ _) rfl hl rfl rfl (Nat.le_of_ble_eq_true rfl) dX10_best_86 ⟨Nat.zero_le _, Nat.zero_le _⟩ (fun H locs h => ?_)
      refine lv_iload_n C.ex C.by dX10_best_89 rfl (lv_at hl 1 rfl) ?_
      refine lv_istore_n (lv' := [(2, .int k1), (0, .ref (κ.2.1 0)), (1, .int k1)]) C.ex C.by dX10_best_90 rfl hl (by decide) rfl (fun ls hl => ?_)
      refine lv_goto (tgt := 69) C.ex C.by dX10_best_91 (by decide) ?_
      exact Kc _ _ (Option.some.inj hf).symm _ _ _ h (lv_sub hl [1, 2, 0] rfl)
theorem wlX10_best_69 {p : Program} {l : Launch} {e : Env} {s : State} {m : MethodId} {args : Array Value} {below : List Frame} {meth : Method} {c : Code} {A : Nat → Prop} {κ : zG} {H : Heap} {locs : List Loc} {ls : Array Slot} {Q : State → Prop} {n : Nat} {k1 : Int32} {k0 : Nat} {u2 : Int32} {σ1 : zS} (C : zC cX10_best 3 (some .int) RX10 κ A p s m args meth c) (h : zH wM κ A s σ1 H locs) (hl : lv_has ls 3 [(0, .ref (κ.2.1 0)), (1, .int k1), (2, .int u2)]) (b : zS) (hb : zlp (fX10_best_L69_69 n k1) k0 (u2, σ1) = some b) (K : (fun b : zS => ∀ (H : Heap) (locs : List Loc) (ls : Array Slot), zH wM κ A s b H locs → lv_has ls 3 [(0, .ref (κ.2.1 0))] → W p l e rmX10_best s m args below meth c H locs 0 0 Q (F0 m 94 ls [])) b) : W p l e rmX10_best s m args below meth c H locs 0 0 Q (F0 m 69 ls []) :=
  z_loop (body := fX10_best_L69_69 n k1) (Wd := (fun a : Int32 × zS => ∀ (H : Heap) (locs : List Loc) (ls : Array Slot), zH wM κ A s a.2 H locs → lv_has ls 3 [(0, .ref (κ.2.1 0)), (1, .int k1), (2, .int a.1)] → W p l e rmX10_best s m args below meth c H locs 0 0 Q (F0 m 69 ls []))) (Ex := (fun b : zS => (fun b : zS => ∀ (H : Heap) (locs : List Loc) (ls : Array Slot), zH wM κ A s b H locs → lv_has ls 3 [(0, .ref (κ.2.1 0))] → W p l e rmX10_best s m args below meth c H locs 0 0 Q (F0 m 94 ls [])) b)) (fun a r hr Kc Ke H locs ls h hl => wX10_best_L69_69 C h hl hr (fun v2 σ1 e => Kc (v2, σ1) e) (fun σ1 e => Ke σ1 e)) k0 (u2, σ1) b hb K H locs ls h hl
set_option maxRecDepth 20000 in
set_option maxHeartbeats 4000000 in
theorem wX10_best_68 {p : Program} {l : Launch} {e : Env} {s : State} {m : MethodId} {args : Array Value} {below : List Frame} {meth : Method} {c : Code} {A : Nat → Prop} {κ : zG} {H : Heap} {locs : List Loc} {ls : Array Slot} {n : Nat} {σ : zS} {x1 : Int32} {y0 : Int32} {r1 : Int32} {r2 : zS} (C : zC cX10_best 3 (some .int) RX10 κ A p s m args meth c) (h : zH wM κ A s σ H locs) (hl : lv_has ls 3 [(0, .ref (κ.2.1 0)), (1, .int x1)]) (hf : fX10_best_68 n σ x1 y0 = some (r1, r2)) : W p l e rmX10_best s m args below meth c H locs 0 0 (MQ below (zQi wM κ A r1 r2) args s 0 0 A) (F0 m 68 ls [.int y0]) := by
  unfold fX10_best_68 at hf
  refine lv_istore_n (lv' := [(2, .int y0), (0, .ref (κ.2.1 0)), (1, .int x1)]) C.ex C.by dX10_best_68 rfl hl (by decide) rfl (fun ls hl => ?_)
  obtain ⟨b12, e13, hf⟩ := zb_some hf
  refine wlX10_best_69 C h (lv_sub hl [1, 2, 0] rfl) b12 e13 ?_
  intro H locs ls h hl
  refine lv_aload_n C.ex C.by dX10_best_94 rfl (lv_at hl 0 rfl) ?_
  refine lv_iconst (v := 3) C.ex C.by dX10_best_95 (by decide) ?_
  obtain ⟨q14, e15, hf⟩ := zb_some hf
  refine z_callVi (As := [.int 3]) C h (ctX10_ended (r1 := q14.1) (r2 := q14.2) e15) (zgV lkM147 lkM148 lkM149 lkM2 lkM150) ⟨rfl, rfl⟩ hdX10_ended ⟨Nat.le_of_ble_eq_true rfl, Nat.le_of_ble_eq_true rfl⟩ 0 (wM_at0 κ _) rfl hl rfl rfl (Nat.le_of_ble_eq_true rfl) dX10_best_96 ⟨Nat.zero_le _, Nat.zero_le _⟩ (fun H locs h => ?_)
  cases hf
  exact z_iret C h dX10_best_99
set_option maxRecDepth 20000 in
set_option maxHeartbeats 4000000 in
theorem wX10_best_27 {p : Program} {l : Launch} {e : Env} {s : State} {m : MethodId} {args : Array Value} {below : List Frame} {meth : Method} {c : Code} {A : Nat → Prop} {κ : zG} {H : Heap} {locs : List Loc} {ls : Array Slot} {n : Nat} {σ : zS} {x1 : Int32} {y0 : Int32} {r1 : Int32} {r2 : zS} (C : zC cX10_best 3 (some .int) RX10 κ A p s m args meth c) (h : zH wM κ A s σ H locs) (hl : lv_has ls 3 [(0, .ref (κ.2.1 0)), (1, .int x1)]) (hf : fX10_best_27 n σ x1 y0 = some (r1, r2)) : W p l e rmX10_best s m args below meth c H locs 0 0 (MQ below (zQi wM κ A r1 r2) args s 0 0 A) (F0 m 27 ls [.int y0, .ref (κ.2.1 0)]) := by
  unfold fX10_best_27 at hf
  refine z_put C h iwX10 tyX10_ok nmX10 0 (wM_at0 κ _) rfl 0 (by decide) lkM8 rfl rfl rfl (Nat.le_of_ble_eq_true rfl) (sI σ 0 y0) (wM_s0_0 κ _ _) dX10_best_27 (fun H locs h => ?_)
  refine lv_aload_n C.ex C.by dX10_best_30 rfl (lv_at hl 0 rfl) ?_
  refine z_get (v := .int y0) C h iwX10 0 (wM_at0 κ _) rfl 0 (by decide) lkM8 rfl dX10_best_31 ?_
  refine lv_if_le (tgt := 39) C.ex C.by dX10_best_34 (by decide) (fun c5 => ?_) (fun c5 => ?_)
  · have hf := zif_t c5 hf
    refine lv_aload_n C.ex C.by dX10_best_39 rfl (lv_at hl 0 rfl) ?_
    refine lv_iconst (v := 0) C.ex C.by dX10_best_40 (by decide) ?_
    refine z_put C h iwX10 tyX10_ok nmX10 0 (wM_at0 κ _) rfl 29 (by decide) lkM17 rfl rfl rfl (Nat.le_of_ble_eq_true rfl) (sI (sI σ 0 y0) 17 0) (wM_s0_29 κ _ _) dX10_best_41 (fun H locs h => ?_)
    refine lv_aload_n C.ex C.by dX10_best_44 rfl (lv_at hl 0 rfl) ?_
    refine z_get (v := .int (zI σ 4)) C h iwX10 0 (wM_at0 κ _) rfl 13 (by decide) lkM5 rfl dX10_best_45 ?_
    refine lv_iconst (v := 2) C.ex C.by dX10_best_48 (by decide) ?_
    refine lv_icmp_ge (tgt := 56) C.ex C.by dX10_best_49 (by decide) (fun c6 => ?_) (fun c6 => ?_)
    · have hf := zif_t c6 hf
      refine lv_iconst (v := 2) C.ex C.by dX10_best_56 (by decide) ?_
      refine lv_aload_n C.ex C.by dX10_best_57 rfl (lv_at hl 0 rfl) ?_
      refine z_get (v := .int (zI σ 4)) C h iwX10 0 (wM_at0 κ _) rfl 13 (by decide) lkM5 rfl dX10_best_58 ?_
      refine lv_iconst (v := 2) C.ex C.by dX10_best_61 (by decide) ?_
      refine lv_isub C.ex C.by dX10_best_62 ?_
      refine lv_iload_n C.ex C.by dX10_best_63 rfl (lv_at hl 1 rfl) ?_
      refine lv_iconst (v := 1) C.ex C.by dX10_best_64 (by decide) ?_
      refine lv_isub C.ex C.by dX10_best_65 ?_
      obtain ⟨h7, hf⟩ := zg_some hf
      refine lv_irem C.ex C.by dX10_best_66 (znz_ne h7) ?_
      refine lv_iadd C.ex C.by dX10_best_67 ?_
      exact wX10_best_68 C h hl hf
    · have hf := zif_f c6 hf
      refine lv_iconst (v := 0) C.ex C.by dX10_best_52 (by decide) ?_
      refine lv_goto (tgt := 68) C.ex C.by dX10_best_53 (by decide) ?_
      exact wX10_best_68 C h hl hf
  · have hf := zif_f c5 hf
    refine lv_iconst (v := 0) C.ex C.by dX10_best_37 (by decide) ?_
    cases hf
    exact z_iret C h dX10_best_38
set_option maxRecDepth 20000 in
set_option maxHeartbeats 4000000 in
theorem wX10_best_0 {p : Program} {l : Launch} {e : Env} {s : State} {m : MethodId} {args : Array Value} {below : List Frame} {meth : Method} {c : Code} {A : Nat → Prop} {κ : zG} {H : Heap} {locs : List Loc} {ls : Array Slot} {n : Nat} {σ : zS} {x1 : Int32} {r1 : Int32} {r2 : zS} (C : zC cX10_best 3 (some .int) RX10 κ A p s m args meth c) (h : zH wM κ A s σ H locs) (hl : lv_has ls 3 [(0, .ref (κ.2.1 0)), (1, .int x1)]) (hf : fX10_best_0 n σ x1 = some (r1, r2)) : W p l e rmX10_best s m args below meth c H locs 0 0 (MQ below (zQi wM κ A r1 r2) args s 0 0 A) (F0 m 0 ls []) := by
  unfold fX10_best_0 at hf
  refine lv_aload_n C.ex C.by dX10_best_0 rfl (lv_at hl 0 rfl) ?_
  refine lv_iload_n C.ex C.by dX10_best_1 rfl (lv_at hl 1 rfl) ?_
  refine lv_iconst (v := 2) C.ex C.by dX10_best_2 (by decide) ?_
  refine lv_bipush (v := 8) C.ex C.by dX10_best_3 (by decide) ?_
  obtain ⟨q1, e2, hf⟩ := zb_some hf
  refine z_callSi (As := [.int x1, .int 2, .int 8]) C h (ctX10_isIn e2) (zgS lkM0 lkM1 lkM2 lkM3) ⟨rfl, rfl⟩ hdX10_isIn ⟨Nat.le_of_ble_eq_true rfl, Nat.le_of_ble_eq_true rfl⟩ hl rfl rfl (Nat.le_of_ble_eq_true rfl) dX10_best_5 ⟨Nat.zero_le _, Nat.zero_le _⟩ (fun H locs h => ?_)
  refine lv_if_ne (tgt := 15) C.ex C.by dX10_best_8 (by decide) (fun c3 => ?_) (fun c3 => ?_)
  · have hf := zif_f c3 hf
    refine lv_aload_n C.ex C.by dX10_best_15 rfl (lv_at hl 0 rfl) ?_
    refine z_get (v := .int (zI σ 16)) C h iwX10 0 (wM_at0 κ _) rfl 28 (by decide) lkM4 rfl dX10_best_16 ?_
    refine lv_if_eq (tgt := 26) C.ex C.by dX10_best_19 (by decide) (fun c4 => ?_) (fun c4 => ?_)
    · have hf := zif_t c4 hf
      refine lv_iconst (v := 0) C.ex C.by dX10_best_26 (by decide) ?_
      exact wX10_best_27 C h hl hf
    · have hf := zif_f c4 hf
      refine lv_iconst (v := 2) C.ex C.by dX10_best_22 (by decide) ?_
      refine lv_goto (tgt := 27) C.ex C.by dX10_best_23 (by decide) ?_
      exact wX10_best_27 C h hl hf
  · have hf := zif_t c3 hf
    refine lv_iconst (v := 1) C.ex C.by dX10_best_11 (by decide) ?_
    refine lv_goto (tgt := 27) C.ex C.by dX10_best_12 (by decide) ?_
    exact wX10_best_27 C h hl hf
theorem ctX10_best {l : Launch} {κ : zG} {n : Nat} {σ : zS} {x1 : Int32} {r1 : Int32} {r2 : zS} (hf : fX10_best_0 n σ x1 = some (r1, r2)) : zMi l yX10_best (Cond.code yX10_best cX10_best 3 (some .int)) rmX10_best wM κ [.ref (κ.2.1 0), .int x1] σ r1 r2 :=
  zMi_of (by decide) (Nat.le_of_ble_eq_true rfl) (fun p e s m below meth c A C h ls hl => wX10_best_0 C h hl hf)
theorem hdX10_append : yX10_append.cls = RX10 ∧ yX10_append.cls ≠ "java/lang/invoke/MethodHandle" ∧ yX10_append.cls ≠ "java/lang/invoke/VarHandle" ∧ (parseMethodDescriptor yX10_append.desc).map (fun d => d.parameters.length) = some 2 := by decide +kernel
abbrev rmX10_append : Room := { frames := 0, cells := 0, slots := 0, locals := 0 }
set_option maxRecDepth 20000 in
set_option maxHeartbeats 4000000 in
theorem wX10_append_0 {p : Program} {l : Launch} {e : Env} {s : State} {m : MethodId} {args : Array Value} {below : List Frame} {meth : Method} {c : Code} {A : Nat → Prop} {κ : zG} {H : Heap} {locs : List Loc} {ls : Array Slot} {n : Nat} {σ : zS} {x1 : Int32} {x2 : Int32} {r : zS} (C : zC cX10_append 3 none RX10 κ A p s m args meth c) (h : zH wM κ A s σ H locs) (hl : lv_has ls 3 [(0, .ref (κ.2.1 0)), (1, .int x1), (2, .int x2)]) (hf : fX10_append_0 n σ x1 x2 = some r) : W p l e rmX10_append s m args below meth c H locs 0 0 (MQ below (zQv wM κ A r) args s 0 0 A) (F0 m 0 ls []) := by
  unfold fX10_append_0 at hf
  refine lv_aload_n C.ex C.by dX10_append_0 rfl (lv_at hl 0 rfl) ?_
  refine z_get (v := .ref (κ.2.1 24)) C h iwX10 0 (wM_at0 κ _) rfl 49 (by decide) lkM194 rfl dX10_append_1 ?_
  refine lv_sipush (v := 208) C.ex C.by dX10_append_4 (by decide) ?_
  refine lv_iload_n C.ex C.by dX10_append_7 rfl (lv_at hl 1 rfl) ?_
  refine lv_imul C.ex C.by dX10_append_8 ?_
  refine lv_aload_n C.ex C.by dX10_append_9 rfl (lv_at hl 0 rfl) ?_
  refine z_get (v := .ref (κ.2.1 26)) C h iwX10 0 (wM_at0 κ _) rfl 51 (by decide) lkM190 rfl dX10_append_10 ?_
  refine lv_iload_n C.ex C.by dX10_append_13 rfl (lv_at hl 1 rfl) ?_
  obtain ⟨h1, hf⟩ := zg_some hf
  refine z_iald (f := (zA σ 20)) C h 26 (wM_at26 κ _) h1 dX10_append_14 ?_
  refine lv_iadd C.ex C.by dX10_append_15 ?_
  refine lv_iload_n C.ex C.by dX10_append_16 rfl (lv_at hl 2 rfl) ?_
  obtain ⟨h2, hf⟩ := zg_some hf
  refine z_iast (f := (zA σ 18)) C h 24 (wM_at24 κ _) h2 (sA σ 18 (upd (zA σ 18) (Int32.toNatClampNeg ((208 * x1) + ((zA σ 20) (Int32.toNatClampNeg x1)))) x2)) (wM_s24 κ _ _) dX10_append_17 (fun H locs h => ?_)
  refine lv_aload_n C.ex C.by dX10_append_18 rfl (lv_at hl 0 rfl) ?_
  refine z_get (v := .ref (κ.2.1 26)) C h iwX10 0 (wM_at0 κ _) rfl 51 (by decide) lkM190 rfl dX10_append_19 ?_
  refine lv_iload_n C.ex C.by dX10_append_22 rfl (lv_at hl 1 rfl) ?_
  refine lv_dup2_11 C.ex C.by dX10_append_23 rfl rfl ?_
  obtain ⟨h3, hf⟩ := zg_some hf
  refine z_iald (f := (zA σ 20)) C h 26 (wM_at26 κ _) h3 dX10_append_24 ?_
  refine lv_iconst (v := 1) C.ex C.by dX10_append_25 (by decide) ?_
  refine lv_iadd C.ex C.by dX10_append_26 ?_
  obtain ⟨h4, hf⟩ := zg_some hf
  refine z_iast (f := (zA σ 20)) C h 26 (wM_at26 κ _) h4 (sA (sA σ 18 (upd (zA σ 18) (Int32.toNatClampNeg ((208 * x1) + ((zA σ 20) (Int32.toNatClampNeg x1)))) x2)) 20 (upd (zA σ 20) (Int32.toNatClampNeg x1) (((zA σ 20) (Int32.toNatClampNeg x1)) + 1))) (wM_s26 κ _ _) dX10_append_27 (fun H locs h => ?_)
  cases hf
  exact z_vret C h dX10_append_28
theorem ctX10_append {l : Launch} {κ : zG} {n : Nat} {σ : zS} {x1 : Int32} {x2 : Int32} {r : zS} (hf : fX10_append_0 n σ x1 x2 = some r) : zMv l yX10_append (Cond.code yX10_append cX10_append 3 none) rmX10_append wM κ [.ref (κ.2.1 0), .int x1, .int x2] σ r :=
  zMv_of (by decide) (Nat.le_of_ble_eq_true rfl) (fun p e s m below meth c A C h ls hl => wX10_append_0 C h hl hf)
theorem hdX10_raise : yX10_raise.cls = RX10 ∧ yX10_raise.cls ≠ "java/lang/invoke/MethodHandle" ∧ yX10_raise.cls ≠ "java/lang/invoke/VarHandle" ∧ (parseMethodDescriptor yX10_raise.desc).map (fun d => d.parameters.length) = some 1 := by decide +kernel
abbrev rmX10_raise : Room := { frames := 0, cells := 0, slots := 0, locals := 0 }
set_option maxRecDepth 20000 in
set_option maxHeartbeats 4000000 in
theorem wX10_raise_L19_19 {p : Program} {l : Launch} {e : Env} {s : State} {m : MethodId} {args : Array Value} {below : List Frame} {meth : Method} {c : Code} {A : Nat → Prop} {κ : zG} {H : Heap} {locs : List Loc} {ls : Array Slot} {Q : State → Prop} {n : Nat} {k1 : Int32} {k2 : Int32} {a : Int32 × zS} {r : (Int32 × zS) ⊕ (zS)} (C : zC cX10_raise 4 none RX10 κ A p s m args meth c) (h : zH wM κ A s a.2 H locs) (hl : lv_has ls 4 [(0, .ref (κ.2.1 0)), (1, .int k1), (2, .int k2), (3, .int a.1)]) (hf : fX10_raise_L19_19 n k1 k2 a = some r) (Kc : ∀ (v3 : Int32) (σ1 : zS), r = .inl (v3, σ1) → ∀ (H : Heap) (locs : List Loc) (ls : Array Slot), zH wM κ A s σ1 H locs → lv_has ls 4 [(0, .ref (κ.2.1 0)), (1, .int k1), (2, .int k2), (3, .int v3)] → W p l e rmX10_raise s m args below meth c H locs 0 0 Q (F0 m 19 ls [])) (Ke0 : ∀ (σ1 : zS), r = .inr σ1 → ∀ (H : Heap) (locs : List Loc) (ls : Array Slot), zH wM κ A s σ1 H locs → lv_has ls 4 [(0, .ref (κ.2.1 0))] → W p l e rmX10_raise s m args below meth c H locs 0 0 Q (F0 m 69 ls [])) : W p l e rmX10_raise s m args below meth c H locs 0 0 Q (F0 m 19 ls []) := by
  unfold fX10_raise_L19_19 at hf
  refine lv_iload_n C.ex C.by dX10_raise_19 rfl (lv_at hl 3 rfl) ?_
  refine lv_iload_n C.ex C.by dX10_raise_20 rfl (lv_at hl 1 rfl) ?_
  refine lv_icmp_gt (tgt := 69) C.ex C.by dX10_raise_21 (by decide) (fun c2 => ?_) (fun c2 => ?_)
  · have hf := zif_t c2 hf
    exact Ke0 _ (Option.some.inj hf).symm _ _ _ h (lv_sub hl [0] rfl)
  · have hf := zif_f c2 hf
    refine lv_aload_n C.ex C.by dX10_raise_24 rfl (lv_at hl 0 rfl) ?_
    refine z_get (v := .ref (κ.2.1 27)) C h iwX10 0 (wM_at0 κ _) rfl 52 (by decide) lkM191 rfl dX10_raise_25 ?_
    refine lv_iload_n C.ex C.by dX10_raise_28 rfl (lv_at hl 3 rfl) ?_
    refine lv_iload_n C.ex C.by dX10_raise_29 rfl (lv_at hl 2 rfl) ?_
    refine lv_aload_n C.ex C.by dX10_raise_30 rfl (lv_at hl 0 rfl) ?_
    refine z_get (v := .ref (κ.2.1 29)) C h iwX10 0 (wM_at0 κ _) rfl 54 (by decide) lkM192 rfl dX10_raise_31 ?_
    refine lv_iload_n C.ex C.by dX10_raise_34 rfl (lv_at hl 3 rfl) ?_
    refine lv_iconst (v := 1) C.ex C.by dX10_raise_35 (by decide) ?_
    refine lv_iadd C.ex C.by dX10_raise_36 ?_
    obtain ⟨h3, hf⟩ := zg_some hf
    refine z_iald (f := (zA a.2 23)) C h 29 (wM_at29 κ _) h3 dX10_raise_37 ?_
    refine lv_iadd C.ex C.by dX10_raise_38 ?_
    refine lv_aload_n C.ex C.by dX10_raise_39 rfl (lv_at hl 0 rfl) ?_
    refine z_get (v := .ref (κ.2.1 29)) C h iwX10 0 (wM_at0 κ _) rfl 54 (by decide) lkM192 rfl dX10_raise_40 ?_
    refine lv_iload_n C.ex C.by dX10_raise_43 rfl (lv_at hl 3 rfl) ?_
    obtain ⟨h4, hf⟩ := zg_some hf
    refine z_iald (f := (zA a.2 23)) C h 29 (wM_at29 κ _) h4 dX10_raise_44 ?_
    refine lv_isub C.ex C.by dX10_raise_45 ?_
    obtain ⟨h5, hf⟩ := zg_some hf
    refine z_iast (f := (zA a.2 21)) C h 27 (wM_at27 κ _) h5 (sA a.2 21 (upd (zA a.2 21) (Int32.toNatClampNeg a.1) ((k2 + ((zA a.2 23) (Int32.toNatClampNeg (a.1 + 1)))) - ((zA a.2 23) (Int32.toNatClampNeg a.1))))) (wM_s27 κ _ _) dX10_raise_46 (fun H locs h => ?_)
    refine lv_aload_n C.ex C.by dX10_raise_47 rfl (lv_at hl 0 rfl) ?_
    refine z_get (v := .ref (κ.2.1 29)) C h iwX10 0 (wM_at0 κ _) rfl 54 (by decide) lkM192 rfl dX10_raise_48 ?_
    refine lv_iload_n C.ex C.by dX10_raise_51 rfl (lv_at hl 3 rfl) ?_
    refine lv_iload_n C.ex C.by dX10_raise_52 rfl (lv_at hl 2 rfl) ?_
    refine lv_aload_n C.ex C.by dX10_raise_53 rfl (lv_at hl 0 rfl) ?_
    refine z_get (v := .ref (κ.2.1 29)) C h iwX10 0 (wM_at0 κ _) rfl 54 (by decide) lkM192 rfl dX10_raise_54 ?_
    refine lv_iload_n C.ex C.by dX10_raise_57 rfl (lv_at hl 3 rfl) ?_
    refine lv_iconst (v := 1) C.ex C.by dX10_raise_58 (by decide) ?_
    refine lv_iadd C.ex C.by dX10_raise_59 ?_
    obtain ⟨h6, hf⟩ := zg_some hf
    refine z_iald (f := (zA a.2 23)) C h 29 (wM_at29 κ _) h6 dX10_raise_60 ?_
    refine lv_iadd C.ex C.by dX10_raise_61 ?_
    obtain ⟨h7, hf⟩ := zg_some hf
    refine z_iast (f := (zA a.2 23)) C h 29 (wM_at29 κ _) h7 (sA (sA a.2 21 (upd (zA a.2 21) (Int32.toNatClampNeg a.1) ((k2 + ((zA a.2 23) (Int32.toNatClampNeg (a.1 + 1)))) - ((zA a.2 23) (Int32.toNatClampNeg a.1))))) 23 (upd (zA a.2 23) (Int32.toNatClampNeg a.1) (k2 + ((zA a.2 23) (Int32.toNatClampNeg (a.1 + 1)))))) (wM_s29 κ _ _) dX10_raise_62 (fun H locs h => ?_)
    refine lv_iinc (v := (a.1 + 1)) (lv' := [(3, .int (a.1 + 1)), (0, .ref (κ.2.1 0)), (1, .int k1), (2, .int k2)]) C.ex C.by dX10_raise_63 hl (k := 3) rfl rfl (by decide) rfl (fun ls hl => ?_)
    refine lv_goto (tgt := 19) C.ex C.by dX10_raise_66 (by decide) ?_
    exact Kc _ _ (Option.some.inj hf).symm _ _ _ h (lv_sub hl [1, 2, 3, 0] rfl)
theorem wlX10_raise_19 {p : Program} {l : Launch} {e : Env} {s : State} {m : MethodId} {args : Array Value} {below : List Frame} {meth : Method} {c : Code} {A : Nat → Prop} {κ : zG} {H : Heap} {locs : List Loc} {ls : Array Slot} {Q : State → Prop} {n : Nat} {k1 : Int32} {k2 : Int32} {k0 : Nat} {u3 : Int32} {σ1 : zS} (C : zC cX10_raise 4 none RX10 κ A p s m args meth c) (h : zH wM κ A s σ1 H locs) (hl : lv_has ls 4 [(0, .ref (κ.2.1 0)), (1, .int k1), (2, .int k2), (3, .int u3)]) (b : zS) (hb : zlp (fX10_raise_L19_19 n k1 k2) k0 (u3, σ1) = some b) (K : (fun b : zS => ∀ (H : Heap) (locs : List Loc) (ls : Array Slot), zH wM κ A s b H locs → lv_has ls 4 [(0, .ref (κ.2.1 0))] → W p l e rmX10_raise s m args below meth c H locs 0 0 Q (F0 m 69 ls [])) b) : W p l e rmX10_raise s m args below meth c H locs 0 0 Q (F0 m 19 ls []) :=
  z_loop (body := fX10_raise_L19_19 n k1 k2) (Wd := (fun a : Int32 × zS => ∀ (H : Heap) (locs : List Loc) (ls : Array Slot), zH wM κ A s a.2 H locs → lv_has ls 4 [(0, .ref (κ.2.1 0)), (1, .int k1), (2, .int k2), (3, .int a.1)] → W p l e rmX10_raise s m args below meth c H locs 0 0 Q (F0 m 19 ls []))) (Ex := (fun b : zS => (fun b : zS => ∀ (H : Heap) (locs : List Loc) (ls : Array Slot), zH wM κ A s b H locs → lv_has ls 4 [(0, .ref (κ.2.1 0))] → W p l e rmX10_raise s m args below meth c H locs 0 0 Q (F0 m 69 ls [])) b)) (fun a r hr Kc Ke H locs ls h hl => wX10_raise_L19_19 C h hl hr (fun v3 σ1 e => Kc (v3, σ1) e) (fun σ1 e => Ke σ1 e)) k0 (u3, σ1) b hb K H locs ls h hl
set_option maxRecDepth 20000 in
set_option maxHeartbeats 4000000 in
theorem wX10_raise_0 {p : Program} {l : Launch} {e : Env} {s : State} {m : MethodId} {args : Array Value} {below : List Frame} {meth : Method} {c : Code} {A : Nat → Prop} {κ : zG} {H : Heap} {locs : List Loc} {ls : Array Slot} {n : Nat} {σ : zS} {x1 : Int32} {r : zS} (C : zC cX10_raise 4 none RX10 κ A p s m args meth c) (h : zH wM κ A s σ H locs) (hl : lv_has ls 4 [(0, .ref (κ.2.1 0)), (1, .int x1)]) (hf : fX10_raise_0 n σ x1 = some r) : W p l e rmX10_raise s m args below meth c H locs 0 0 (MQ below (zQv wM κ A r) args s 0 0 A) (F0 m 0 ls []) := by
  unfold fX10_raise_0 at hf
  refine lv_aload_n C.ex C.by dX10_raise_0 rfl (lv_at hl 0 rfl) ?_
  refine lv_dup C.ex C.by dX10_raise_1 rfl ?_
  refine z_get (v := .int (zI σ 26)) C h iwX10 0 (wM_at0 κ _) rfl 55 (by decide) lkM193 rfl dX10_raise_2 ?_
  refine lv_iconst (v := 1) C.ex C.by dX10_raise_5 (by decide) ?_
  refine lv_iadd C.ex C.by dX10_raise_6 ?_
  refine z_put C h iwX10 tyX10_ok nmX10 0 (wM_at0 κ _) rfl 55 (by decide) lkM193 rfl rfl rfl (Nat.le_of_ble_eq_true rfl) (sI σ 26 ((zI σ 26) + 1)) (wM_s0_55 κ _ _) dX10_raise_7 (fun H locs h => ?_)
  refine lv_aload_n C.ex C.by dX10_raise_10 rfl (lv_at hl 0 rfl) ?_
  refine z_get (v := .ref (κ.2.1 29)) C h iwX10 0 (wM_at0 κ _) rfl 54 (by decide) lkM192 rfl dX10_raise_11 ?_
  refine lv_iconst (v := 1) C.ex C.by dX10_raise_14 (by decide) ?_
  obtain ⟨h1, hf⟩ := zg_some hf
  refine z_iald (f := (zA σ 23)) C h 29 (wM_at29 κ _) h1 dX10_raise_15 ?_
  refine lv_istore_n (lv' := [(2, .int ((zA σ 23) (Int32.toNatClampNeg 1))), (0, .ref (κ.2.1 0)), (1, .int x1)]) C.ex C.by dX10_raise_16 rfl hl (by decide) rfl (fun ls hl => ?_)
  refine lv_iconst (v := 1) C.ex C.by dX10_raise_17 (by decide) ?_
  refine lv_istore_n (lv' := [(3, .int 1), (2, .int ((zA σ 23) (Int32.toNatClampNeg 1))), (0, .ref (κ.2.1 0)), (1, .int x1)]) C.ex C.by dX10_raise_18 rfl hl (by decide) rfl (fun ls hl => ?_)
  obtain ⟨b8, e9, hf⟩ := zb_some hf
  refine wlX10_raise_19 C h (lv_sub hl [2, 3, 1, 0] rfl) b8 e9 ?_
  intro H locs ls h hl
  cases hf
  exact z_vret C h dX10_raise_69
theorem ctX10_raise {l : Launch} {κ : zG} {n : Nat} {σ : zS} {x1 : Int32} {r : zS} (hf : fX10_raise_0 n σ x1 = some r) : zMv l yX10_raise (Cond.code yX10_raise cX10_raise 4 none) rmX10_raise wM κ [.ref (κ.2.1 0), .int x1] σ r :=
  zMv_of (by decide) (Nat.le_of_ble_eq_true rfl) (fun p e s m below meth c A C h ls hl => wX10_raise_0 C h hl hf)
theorem hdX10_lay : yX10_lay.cls = RX10 ∧ yX10_lay.cls ≠ "java/lang/invoke/MethodHandle" ∧ yX10_lay.cls ≠ "java/lang/invoke/VarHandle" ∧ (parseMethodDescriptor yX10_lay.desc).map (fun d => d.parameters.length) = some 1 := by decide +kernel
abbrev rmX10_lay : Room := { frames := 1, cells := 0, slots := 0, locals := 23 }
set_option maxRecDepth 20000 in
set_option maxHeartbeats 4000000 in
theorem wX10_lay_L2_43 {p : Program} {l : Launch} {e : Env} {s : State} {m : MethodId} {args : Array Value} {below : List Frame} {meth : Method} {c : Code} {A : Nat → Prop} {κ : zG} {H : Heap} {locs : List Loc} {ls : Array Slot} {Q : State → Prop} {n : Nat} {σ : zS} {k1 : Int32} {x2 : Int32} {y0 : Int32} {y1 : Int32} {r : (Int32 × zS) ⊕ (zS)} (C : zC cX10_lay 5 none RX10 κ A p s m args meth c) (h : zH wM κ A s σ H locs) (hl : lv_has ls 5 [(0, .ref (κ.2.1 0)), (1, .int k1), (2, .int x2)]) (hf : fX10_lay_L2_43 n σ k1 x2 y0 y1 = some r) (Kc : ∀ (v2 : Int32) (σ1 : zS), r = .inl (v2, σ1) → ∀ (H : Heap) (locs : List Loc) (ls : Array Slot), zH wM κ A s σ1 H locs → lv_has ls 5 [(0, .ref (κ.2.1 0)), (1, .int k1), (2, .int v2)] → W p l e rmX10_lay s m args below meth c H locs 0 0 Q (F0 m 2 ls [])) (Ke0 : ∀ (σ1 : zS), r = .inr σ1 → ∀ (H : Heap) (locs : List Loc) (ls : Array Slot), zH wM κ A s σ1 H locs → lv_has ls 5 [(0, .ref (κ.2.1 0)), (1, .int k1)] → W p l e rmX10_lay s m args below meth c H locs 0 0 Q (F0 m 62 ls [])) : W p l e rmX10_lay s m args below meth c H locs 0 0 Q (F0 m 43 ls [.int y0, .int y1, .ref (κ.2.1 27)]) := by
  unfold fX10_lay_L2_43 at hf
  obtain ⟨h6, hf⟩ := zg_some hf
  refine z_iast (f := (zA σ 21)) C h 27 (wM_at27 κ _) h6 (sA σ 21 (upd (zA σ 21) (Int32.toNatClampNeg y1) y0)) (wM_s27 κ _ _) dX10_lay_43 (fun H locs h => ?_)
  refine lv_aload_n C.ex C.by dX10_lay_44 rfl (lv_at hl 0 rfl) ?_
  refine z_get (v := .ref (κ.2.1 29)) C h iwX10 0 (wM_at0 κ _) rfl 54 (by decide) lkM192 rfl dX10_lay_45 ?_
  refine lv_iload_n C.ex C.by dX10_lay_48 rfl (lv_at hl 2 rfl) ?_
  refine lv_aload_n C.ex C.by dX10_lay_49 rfl (lv_at hl 0 rfl) ?_
  refine z_get (v := .ref (κ.2.1 27)) C h iwX10 0 (wM_at0 κ _) rfl 52 (by decide) lkM191 rfl dX10_lay_50 ?_
  refine lv_iload_n C.ex C.by dX10_lay_53 rfl (lv_at hl 2 rfl) ?_
  obtain ⟨h7, hf⟩ := zg_some hf
  refine z_iald (f := (upd (zA σ 21) (Int32.toNatClampNeg y1) y0)) C h 27 (wM_at27 κ _) h7 dX10_lay_54 ?_
  obtain ⟨h8, hf⟩ := zg_some hf
  refine z_iast (f := (zA σ 23)) C h 29 (wM_at29 κ _) h8 (sA (sA σ 21 (upd (zA σ 21) (Int32.toNatClampNeg y1) y0)) 23 (upd (zA σ 23) (Int32.toNatClampNeg x2) ((upd (zA σ 21) (Int32.toNatClampNeg y1) y0) (Int32.toNatClampNeg x2)))) (wM_s29 κ _ _) dX10_lay_55 (fun H locs h => ?_)
  refine lv_iinc (v := (x2 + 1)) (lv' := [(2, .int (x2 + 1)), (0, .ref (κ.2.1 0)), (1, .int k1)]) C.ex C.by dX10_lay_56 hl (k := 2) rfl rfl (by decide) rfl (fun ls hl => ?_)
  refine lv_goto (tgt := 2) C.ex C.by dX10_lay_59 (by decide) ?_
  exact Kc _ _ (Option.some.inj hf).symm _ _ _ h (lv_sub hl [1, 2, 0] rfl)
set_option maxRecDepth 20000 in
set_option maxHeartbeats 4000000 in
theorem wX10_lay_L2_2 {p : Program} {l : Launch} {e : Env} {s : State} {m : MethodId} {args : Array Value} {below : List Frame} {meth : Method} {c : Code} {A : Nat → Prop} {κ : zG} {H : Heap} {locs : List Loc} {ls : Array Slot} {Q : State → Prop} {n : Nat} {k1 : Int32} {a : Int32 × zS} {r : (Int32 × zS) ⊕ (zS)} (C : zC cX10_lay 5 none RX10 κ A p s m args meth c) (h : zH wM κ A s a.2 H locs) (hl : lv_has ls 5 [(0, .ref (κ.2.1 0)), (1, .int k1), (2, .int a.1)]) (hf : fX10_lay_L2_2 n k1 a = some r) (Kc : ∀ (v2 : Int32) (σ1 : zS), r = .inl (v2, σ1) → ∀ (H : Heap) (locs : List Loc) (ls : Array Slot), zH wM κ A s σ1 H locs → lv_has ls 5 [(0, .ref (κ.2.1 0)), (1, .int k1), (2, .int v2)] → W p l e rmX10_lay s m args below meth c H locs 0 0 Q (F0 m 2 ls [])) (Ke0 : ∀ (σ1 : zS), r = .inr σ1 → ∀ (H : Heap) (locs : List Loc) (ls : Array Slot), zH wM κ A s σ1 H locs → lv_has ls 5 [(0, .ref (κ.2.1 0)), (1, .int k1)] → W p l e rmX10_lay s m args below meth c H locs 0 0 Q (F0 m 62 ls [])) : W p l e rmX10_lay s m args below meth c H locs 0 0 Q (F0 m 2 ls []) := by
  unfold fX10_lay_L2_2 at hf
  refine lv_iload_n C.ex C.by dX10_lay_2 rfl (lv_at hl 2 rfl) ?_
  refine lv_iload_n C.ex C.by dX10_lay_3 rfl (lv_at hl 1 rfl) ?_
  refine lv_icmp_gt (tgt := 62) C.ex C.by dX10_lay_4 (by decide) (fun c1 => ?_) (fun c1 => ?_)
  · have hf := zif_t c1 hf
    exact Ke0 _ (Option.some.inj hf).symm _ _ _ h (lv_sub hl [0, 1] rfl)
  · have hf := zif_f c1 hf
    refine lv_aload_n C.ex C.by dX10_lay_7 rfl (lv_at hl 0 rfl) ?_
    refine z_get (v := .ref (κ.2.1 28)) C h iwX10 0 (wM_at0 κ _) rfl 53 (by decide) lkM188 rfl dX10_lay_8 ?_
    refine lv_iload_n C.ex C.by dX10_lay_11 rfl (lv_at hl 2 rfl) ?_
    refine lv_iload_n C.ex C.by dX10_lay_12 rfl (lv_at hl 2 rfl) ?_
    obtain ⟨h2, hf⟩ := zg_some hf
    refine z_iast (f := (zA a.2 22)) C h 28 (wM_at28 κ _) h2 (sA a.2 22 (upd (zA a.2 22) (Int32.toNatClampNeg a.1) a.1)) (wM_s28 κ _ _) dX10_lay_13 (fun H locs h => ?_)
    refine lv_aload_n C.ex C.by dX10_lay_14 rfl (lv_at hl 0 rfl) ?_
    refine z_get (v := .ref (κ.2.1 25)) C h iwX10 0 (wM_at0 κ _) rfl 50 (by decide) lkM189 rfl dX10_lay_15 ?_
    refine lv_iload_n C.ex C.by dX10_lay_18 rfl (lv_at hl 2 rfl) ?_
    refine lv_iconst (v := 0) C.ex C.by dX10_lay_19 (by decide) ?_
    obtain ⟨h3, hf⟩ := zg_some hf
    refine z_iast (f := (zA a.2 19)) C h 25 (wM_at25 κ _) h3 (sA (sA a.2 22 (upd (zA a.2 22) (Int32.toNatClampNeg a.1) a.1)) 19 (upd (zA a.2 19) (Int32.toNatClampNeg a.1) 0)) (wM_s25 κ _ _) dX10_lay_20 (fun H locs h => ?_)
    refine lv_aload_n C.ex C.by dX10_lay_21 rfl (lv_at hl 0 rfl) ?_
    refine z_get (v := .ref (κ.2.1 26)) C h iwX10 0 (wM_at0 κ _) rfl 51 (by decide) lkM190 rfl dX10_lay_22 ?_
    refine lv_iload_n C.ex C.by dX10_lay_25 rfl (lv_at hl 2 rfl) ?_
    refine lv_iconst (v := 0) C.ex C.by dX10_lay_26 (by decide) ?_
    obtain ⟨h4, hf⟩ := zg_some hf
    refine z_iast (f := (zA a.2 20)) C h 26 (wM_at26 κ _) h4 (sA (sA (sA a.2 22 (upd (zA a.2 22) (Int32.toNatClampNeg a.1) a.1)) 19 (upd (zA a.2 19) (Int32.toNatClampNeg a.1) 0)) 20 (upd (zA a.2 20) (Int32.toNatClampNeg a.1) 0)) (wM_s26 κ _ _) dX10_lay_27 (fun H locs h => ?_)
    refine lv_aload_n C.ex C.by dX10_lay_28 rfl (lv_at hl 0 rfl) ?_
    refine z_get (v := .ref (κ.2.1 27)) C h iwX10 0 (wM_at0 κ _) rfl 52 (by decide) lkM191 rfl dX10_lay_29 ?_
    refine lv_iload_n C.ex C.by dX10_lay_32 rfl (lv_at hl 2 rfl) ?_
    refine lv_iload_n C.ex C.by dX10_lay_33 rfl (lv_at hl 2 rfl) ?_
    refine lv_iload_n C.ex C.by dX10_lay_34 rfl (lv_at hl 1 rfl) ?_
    refine lv_icmp_ge (tgt := 42) C.ex C.by dX10_lay_35 (by decide) (fun c5 => ?_) (fun c5 => ?_)
    · have hf := zif_t c5 hf
      refine lv_iconst (v := 0) C.ex C.by dX10_lay_42 (by decide) ?_
      exact wX10_lay_L2_43 C h hl hf Kc Ke0
    · have hf := zif_f c5 hf
      refine lv_iconst (v := 1) C.ex C.by dX10_lay_38 (by decide) ?_
      refine lv_goto (tgt := 43) C.ex C.by dX10_lay_39 (by decide) ?_
      exact wX10_lay_L2_43 C h hl hf Kc Ke0
theorem wlX10_lay_2 {p : Program} {l : Launch} {e : Env} {s : State} {m : MethodId} {args : Array Value} {below : List Frame} {meth : Method} {c : Code} {A : Nat → Prop} {κ : zG} {H : Heap} {locs : List Loc} {ls : Array Slot} {Q : State → Prop} {n : Nat} {k1 : Int32} {k0 : Nat} {u2 : Int32} {σ1 : zS} (C : zC cX10_lay 5 none RX10 κ A p s m args meth c) (h : zH wM κ A s σ1 H locs) (hl : lv_has ls 5 [(0, .ref (κ.2.1 0)), (1, .int k1), (2, .int u2)]) (b : zS) (hb : zlp (fX10_lay_L2_2 n k1) k0 (u2, σ1) = some b) (K : (fun b : zS => ∀ (H : Heap) (locs : List Loc) (ls : Array Slot), zH wM κ A s b H locs → lv_has ls 5 [(0, .ref (κ.2.1 0)), (1, .int k1)] → W p l e rmX10_lay s m args below meth c H locs 0 0 Q (F0 m 62 ls [])) b) : W p l e rmX10_lay s m args below meth c H locs 0 0 Q (F0 m 2 ls []) :=
  z_loop (body := fX10_lay_L2_2 n k1) (Wd := (fun a : Int32 × zS => ∀ (H : Heap) (locs : List Loc) (ls : Array Slot), zH wM κ A s a.2 H locs → lv_has ls 5 [(0, .ref (κ.2.1 0)), (1, .int k1), (2, .int a.1)] → W p l e rmX10_lay s m args below meth c H locs 0 0 Q (F0 m 2 ls []))) (Ex := (fun b : zS => (fun b : zS => ∀ (H : Heap) (locs : List Loc) (ls : Array Slot), zH wM κ A s b H locs → lv_has ls 5 [(0, .ref (κ.2.1 0)), (1, .int k1)] → W p l e rmX10_lay s m args below meth c H locs 0 0 Q (F0 m 62 ls [])) b)) (fun a r hr Kc Ke H locs ls h hl => wX10_lay_L2_2 C h hl hr (fun v2 σ1 e => Kc (v2, σ1) e) (fun σ1 e => Ke σ1 e)) k0 (u2, σ1) b hb K H locs ls h hl
set_option maxRecDepth 20000 in
set_option maxHeartbeats 4000000 in
theorem wX10_lay_L80_176 {p : Program} {l : Launch} {e : Env} {s : State} {m : MethodId} {args : Array Value} {below : List Frame} {meth : Method} {c : Code} {A : Nat → Prop} {κ : zG} {H : Heap} {locs : List Loc} {ls : Array Slot} {Q : State → Prop} {n : Nat} {σ : zS} {k1 : Int32} {x3 : Int32} {y0 : Int32} {r : (Int32 × Int32 × zS) ⊕ (zS)} (C : zC cX10_lay 5 none RX10 κ A p s m args meth c) (h : zH wM κ A s σ H locs) (hl : lv_has ls 5 [(0, .ref (κ.2.1 0)), (1, .int k1), (3, .int x3)]) (hf : fX10_lay_L80_176 n σ k1 x3 y0 = some r) (Kc : ∀ (v2 : Int32) (v3 : Int32) (σ1 : zS), r = .inl (v2, v3, σ1) → ∀ (H : Heap) (locs : List Loc) (ls : Array Slot), zH wM κ A s σ1 H locs → lv_has ls 5 [(0, .ref (κ.2.1 0)), (1, .int k1), (2, .int v2), (3, .int v3)] → W p l e rmX10_lay s m args below meth c H locs 0 0 Q (F0 m 80 ls [])) (Ke0 : ∀ (σ1 : zS), r = .inr σ1 → ∀ (H : Heap) (locs : List Loc) (ls : Array Slot), zH wM κ A s σ1 H locs → lv_has ls 5 [(0, .ref (κ.2.1 0))] → W p l e rmX10_lay s m args below meth c H locs 0 0 Q (F0 m 183 ls [])) : W p l e rmX10_lay s m args below meth c H locs 0 0 Q (F0 m 176 ls [.int y0]) := by
  unfold fX10_lay_L80_176 at hf
  refine lv_istore_n (lv' := [(2, .int y0), (0, .ref (κ.2.1 0)), (1, .int k1), (3, .int x3)]) C.ex C.by dX10_lay_176 rfl hl (by decide) rfl (fun ls hl => ?_)
  refine lv_iinc (v := (x3 + 1)) (lv' := [(3, .int (x3 + 1)), (2, .int y0), (0, .ref (κ.2.1 0)), (1, .int k1)]) C.ex C.by dX10_lay_177 hl (k := 3) rfl rfl (by decide) rfl (fun ls hl => ?_)
  refine lv_goto (tgt := 80) C.ex C.by dX10_lay_180 (by decide) ?_
  exact Kc _ _ _ (Option.some.inj hf).symm _ _ _ h (lv_sub hl [2, 3, 1, 0] rfl)
set_option maxRecDepth 20000 in
set_option maxHeartbeats 4000000 in
theorem wX10_lay_L80_164 {p : Program} {l : Launch} {e : Env} {s : State} {m : MethodId} {args : Array Value} {below : List Frame} {meth : Method} {c : Code} {A : Nat → Prop} {κ : zG} {H : Heap} {locs : List Loc} {ls : Array Slot} {Q : State → Prop} {n : Nat} {σ : zS} {k1 : Int32} {x2 : Int32} {x3 : Int32} {x4 : Int32} {r : (Int32 × Int32 × zS) ⊕ (zS)} (C : zC cX10_lay 5 none RX10 κ A p s m args meth c) (h : zH wM κ A s σ H locs) (hl : lv_has ls 5 [(0, .ref (κ.2.1 0)), (1, .int k1), (2, .int x2), (3, .int x3), (4, .int x4)]) (hf : fX10_lay_L80_164 n σ k1 x2 x3 x4 = some r) (Kc : ∀ (v2 : Int32) (v3 : Int32) (σ1 : zS), r = .inl (v2, v3, σ1) → ∀ (H : Heap) (locs : List Loc) (ls : Array Slot), zH wM κ A s σ1 H locs → lv_has ls 5 [(0, .ref (κ.2.1 0)), (1, .int k1), (2, .int v2), (3, .int v3)] → W p l e rmX10_lay s m args below meth c H locs 0 0 Q (F0 m 80 ls [])) (Ke0 : ∀ (σ1 : zS), r = .inr σ1 → ∀ (H : Heap) (locs : List Loc) (ls : Array Slot), zH wM κ A s σ1 H locs → lv_has ls 5 [(0, .ref (κ.2.1 0))] → W p l e rmX10_lay s m args below meth c H locs 0 0 Q (F0 m 183 ls [])) : W p l e rmX10_lay s m args below meth c H locs 0 0 Q (F0 m 164 ls []) := by
  unfold fX10_lay_L80_164 at hf
  refine lv_iload C.ex C.by dX10_lay_164 (lv_at hl 4 rfl) ?_
  refine lv_if_eq (tgt := 175) C.ex C.by dX10_lay_166 (by decide) (fun c27 => ?_) (fun c27 => ?_)
  · have hf := zif_t c27 hf
    refine lv_iconst (v := 1) C.ex C.by dX10_lay_175 (by decide) ?_
    exact wX10_lay_L80_176 C h (lv_sub hl [0, 1, 3] rfl) hf Kc Ke0
  · have hf := zif_f c27 hf
    refine lv_iload_n C.ex C.by dX10_lay_169 rfl (lv_at hl 2 rfl) ?_
    refine lv_iconst (v := 1) C.ex C.by dX10_lay_170 (by decide) ?_
    refine lv_iadd C.ex C.by dX10_lay_171 ?_
    refine lv_goto (tgt := 176) C.ex C.by dX10_lay_172 (by decide) ?_
    exact wX10_lay_L80_176 C h (lv_sub hl [0, 1, 3] rfl) hf Kc Ke0
set_option maxRecDepth 20000 in
set_option maxHeartbeats 4000000 in
theorem wX10_lay_L80_131 {p : Program} {l : Launch} {e : Env} {s : State} {m : MethodId} {args : Array Value} {below : List Frame} {meth : Method} {c : Code} {A : Nat → Prop} {κ : zG} {H : Heap} {locs : List Loc} {ls : Array Slot} {Q : State → Prop} {n : Nat} {σ : zS} {k1 : Int32} {x2 : Int32} {x3 : Int32} {y0 : Int32} {r : (Int32 × Int32 × zS) ⊕ (zS)} (C : zC cX10_lay 5 none RX10 κ A p s m args meth c) (h : zH wM κ A s σ H locs) (hl : lv_has ls 5 [(0, .ref (κ.2.1 0)), (1, .int k1), (2, .int x2), (3, .int x3)]) (hf : fX10_lay_L80_131 n σ k1 x2 x3 y0 = some r) (Kc : ∀ (v2 : Int32) (v3 : Int32) (σ1 : zS), r = .inl (v2, v3, σ1) → ∀ (H : Heap) (locs : List Loc) (ls : Array Slot), zH wM κ A s σ1 H locs → lv_has ls 5 [(0, .ref (κ.2.1 0)), (1, .int k1), (2, .int v2), (3, .int v3)] → W p l e rmX10_lay s m args below meth c H locs 0 0 Q (F0 m 80 ls [])) (Ke0 : ∀ (σ1 : zS), r = .inr σ1 → ∀ (H : Heap) (locs : List Loc) (ls : Array Slot), zH wM κ A s σ1 H locs → lv_has ls 5 [(0, .ref (κ.2.1 0))] → W p l e rmX10_lay s m args below meth c H locs 0 0 Q (F0 m 183 ls [])) : W p l e rmX10_lay s m args below meth c H locs 0 0 Q (F0 m 131 ls [.int y0]) := by
  unfold fX10_lay_L80_131 at hf
  refine lv_istore (lv' := [(4, .int y0), (0, .ref (κ.2.1 0)), (1, .int k1), (2, .int x2), (3, .int x3)]) C.ex C.by dX10_lay_131 hl (by decide) rfl (fun ls hl => ?_)
  refine lv_iload C.ex C.by dX10_lay_133 (lv_at hl 0 rfl) ?_
  refine lv_if_ne (tgt := 164) C.ex C.by dX10_lay_135 (by decide) (fun c21 => ?_) (fun c21 => ?_)
  · have hf := zif_f c21 hf
    exact wX10_lay_L80_164 C h (lv_sub hl [1, 2, 3, 4, 0] rfl) hf Kc Ke0
  · have hf := zif_t c21 hf
    refine lv_aload_n C.ex C.by dX10_lay_138 rfl (lv_at hl 1 rfl) ?_
    refine z_get (v := .ref (κ.2.1 27)) C h iwX10 0 (wM_at0 κ _) rfl 52 (by decide) lkM191 rfl dX10_lay_139 ?_
    refine lv_iload_n C.ex C.by dX10_lay_142 rfl (lv_at hl 3 rfl) ?_
    obtain ⟨h22, hf⟩ := zg_some hf
    refine z_iald (f := (zA σ 21)) C h 27 (wM_at27 κ _) h22 dX10_lay_143 ?_
    refine lv_if_ne (tgt := 164) C.ex C.by dX10_lay_144 (by decide) (fun c23 => ?_) (fun c23 => ?_)
    · have hf := zif_f c23 hf
      exact wX10_lay_L80_164 C h (lv_sub hl [1, 2, 3, 4, 0] rfl) hf Kc Ke0
    · have hf := zif_t c23 hf
      refine lv_iload_n C.ex C.by dX10_lay_147 rfl (lv_at hl 4 rfl) ?_
      refine lv_aload_n C.ex C.by dX10_lay_148 rfl (lv_at hl 1 rfl) ?_
      refine z_get (v := .int (zI σ 4)) C h iwX10 0 (wM_at0 κ _) rfl 13 (by decide) lkM5 rfl dX10_lay_149 ?_
      refine lv_iconst (v := 1) C.ex C.by dX10_lay_152 (by decide) ?_
      refine lv_isub C.ex C.by dX10_lay_153 ?_
      refine lv_icmp_ge (tgt := 164) C.ex C.by dX10_lay_154 (by decide) (fun c24 => ?_) (fun c24 => ?_)
      · have hf := zif_t c24 hf
        exact wX10_lay_L80_164 C h (lv_sub hl [1, 2, 3, 4, 0] rfl) hf Kc Ke0
      · have hf := zif_f c24 hf
        refine lv_aload_n C.ex C.by dX10_lay_157 rfl (lv_at hl 1 rfl) ?_
        refine lv_iload_n C.ex C.by dX10_lay_158 rfl (lv_at hl 2 rfl) ?_
        refine lv_iconst (v := 1) C.ex C.by dX10_lay_159 (by decide) ?_
        refine lv_isub C.ex C.by dX10_lay_160 ?_
        obtain ⟨q25, e26, hf⟩ := zb_some hf
        refine z_callVv (As := [.int (k1 - 1)]) C h (ctX10_raise e26) (zgV lkM199 lkM200 lkM201 lkM2 lkM202) ⟨rfl, rfl⟩ hdX10_raise ⟨Nat.le_of_ble_eq_true rfl, Nat.le_of_ble_eq_true rfl⟩ 0 (wM_at0 κ _) rfl hl rfl rfl (Nat.le_of_ble_eq_true rfl) dX10_lay_161 ⟨Nat.zero_le _, Nat.zero_le _⟩ (fun H locs h => ?_)
        exact wX10_lay_L80_164 C h (lv_sub hl [1, 2, 3, 4, 0] rfl) hf Kc Ke0
set_option maxRecDepth 20000 in
set_option maxHeartbeats 4000000 in
theorem wX10_lay_L80_80 {p : Program} {l : Launch} {e : Env} {s : State} {m : MethodId} {args : Array Value} {below : List Frame} {meth : Method} {c : Code} {A : Nat → Prop} {κ : zG} {H : Heap} {locs : List Loc} {ls : Array Slot} {Q : State → Prop} {n : Nat} {k1 : Int32} {a : Int32 × Int32 × zS} {r : (Int32 × Int32 × zS) ⊕ (zS)} (C : zC cX10_lay 5 none RX10 κ A p s m args meth c) (h : zH wM κ A s a.2.2 H locs) (hl : lv_has ls 5 [(0, .ref (κ.2.1 0)), (1, .int k1), (2, .int a.1), (3, .int a.2.1)]) (hf : fX10_lay_L80_80 n k1 a = some r) (Kc : ∀ (v2 : Int32) (v3 : Int32) (σ1 : zS), r = .inl (v2, v3, σ1) → ∀ (H : Heap) (locs : List Loc) (ls : Array Slot), zH wM κ A s σ1 H locs → lv_has ls 5 [(0, .ref (κ.2.1 0)), (1, .int k1), (2, .int v2), (3, .int v3)] → W p l e rmX10_lay s m args below meth c H locs 0 0 Q (F0 m 80 ls [])) (Ke0 : ∀ (σ1 : zS), r = .inr σ1 → ∀ (H : Heap) (locs : List Loc) (ls : Array Slot), zH wM κ A s σ1 H locs → lv_has ls 5 [(0, .ref (κ.2.1 0))] → W p l e rmX10_lay s m args below meth c H locs 0 0 Q (F0 m 183 ls [])) : W p l e rmX10_lay s m args below meth c H locs 0 0 Q (F0 m 80 ls []) := by
  unfold fX10_lay_L80_80 at hf
  refine lv_iload_n C.ex C.by dX10_lay_80 rfl (lv_at hl 3 rfl) ?_
  refine lv_aload_n C.ex C.by dX10_lay_81 rfl (lv_at hl 0 rfl) ?_
  refine z_get (v := .int (zI a.2.2 4)) C h iwX10 0 (wM_at0 κ _) rfl 13 (by decide) lkM5 rfl dX10_lay_82 ?_
  refine lv_icmp_ge (tgt := 183) C.ex C.by dX10_lay_85 (by decide) (fun c12 => ?_) (fun c12 => ?_)
  · have hf := zif_t c12 hf
    exact Ke0 _ (Option.some.inj hf).symm _ _ _ h (lv_sub hl [0] rfl)
  · have hf := zif_f c12 hf
    refine lv_aload_n C.ex C.by dX10_lay_88 rfl (lv_at hl 0 rfl) ?_
    refine lv_iload_n C.ex C.by dX10_lay_89 rfl (lv_at hl 2 rfl) ?_
    refine lv_aload_n C.ex C.by dX10_lay_90 rfl (lv_at hl 0 rfl) ?_
    refine z_get (v := .ref (κ.2.1 9)) C h iwX10 0 (wM_at0 κ _) rfl 12 (by decide) lkM146 rfl dX10_lay_91 ?_
    refine lv_iload_n C.ex C.by dX10_lay_94 rfl (lv_at hl 3 rfl) ?_
    obtain ⟨h13, hf⟩ := zg_some hf
    refine z_iald (f := (zA a.2.2 7)) C h 9 (wM_at9 κ _) h13 dX10_lay_95 ?_
    obtain ⟨q14, e15, hf⟩ := zb_some hf
    refine z_callVv (As := [.int a.1, .int ((zA a.2.2 7) (Int32.toNatClampNeg a.2.1))]) C h (ctX10_append e15) (zgV lkM195 lkM196 lkM197 lkM2 lkM198) ⟨rfl, rfl⟩ hdX10_append ⟨Nat.le_of_ble_eq_true rfl, Nat.le_of_ble_eq_true rfl⟩ 0 (wM_at0 κ _) rfl hl rfl rfl (Nat.le_of_ble_eq_true rfl) dX10_lay_96 ⟨Nat.zero_le _, Nat.zero_le _⟩ (fun H locs h => ?_)
    refine lv_aload_n C.ex C.by dX10_lay_99 rfl (lv_at hl 0 rfl) ?_
    refine z_get (v := .ref (κ.2.1 27)) C h iwX10 0 (wM_at0 κ _) rfl 52 (by decide) lkM191 rfl dX10_lay_100 ?_
    refine lv_iload_n C.ex C.by dX10_lay_103 rfl (lv_at hl 2 rfl) ?_
    refine lv_dup2_11 C.ex C.by dX10_lay_104 rfl rfl ?_
    obtain ⟨h16, hf⟩ := zg_some hf
    refine z_iald (f := (zA q14 21)) C h 27 (wM_at27 κ _) h16 dX10_lay_105 ?_
    refine lv_iconst (v := 1) C.ex C.by dX10_lay_106 (by decide) ?_
    refine lv_isub C.ex C.by dX10_lay_107 ?_
    obtain ⟨h17, hf⟩ := zg_some hf
    refine z_iast (f := (zA q14 21)) C h 27 (wM_at27 κ _) h17 (sA q14 21 (upd (zA q14 21) (Int32.toNatClampNeg a.1) (((zA q14 21) (Int32.toNatClampNeg a.1)) - 1))) (wM_s27 κ _ _) dX10_lay_108 (fun H locs h => ?_)
    refine lv_aload_n C.ex C.by dX10_lay_109 rfl (lv_at hl 0 rfl) ?_
    refine z_get (v := .ref (κ.2.1 27)) C h iwX10 0 (wM_at0 κ _) rfl 52 (by decide) lkM191 rfl dX10_lay_110 ?_
    refine lv_iload_n C.ex C.by dX10_lay_113 rfl (lv_at hl 2 rfl) ?_
    obtain ⟨h18, hf⟩ := zg_some hf
    refine z_iald (f := (upd (zA q14 21) (Int32.toNatClampNeg a.1) (((zA q14 21) (Int32.toNatClampNeg a.1)) - 1))) C h 27 (wM_at27 κ _) h18 dX10_lay_114 ?_
    refine lv_aload_n C.ex C.by dX10_lay_115 rfl (lv_at hl 0 rfl) ?_
    refine z_get (v := .ref (κ.2.1 27)) C h iwX10 0 (wM_at0 κ _) rfl 52 (by decide) lkM191 rfl dX10_lay_116 ?_
    refine lv_iload_n C.ex C.by dX10_lay_119 rfl (lv_at hl 2 rfl) ?_
    refine lv_iconst (v := 1) C.ex C.by dX10_lay_120 (by decide) ?_
    refine lv_iadd C.ex C.by dX10_lay_121 ?_
    obtain ⟨h19, hf⟩ := zg_some hf
    refine z_iald (f := (upd (zA q14 21) (Int32.toNatClampNeg a.1) (((zA q14 21) (Int32.toNatClampNeg a.1)) - 1))) C h 27 (wM_at27 κ _) h19 dX10_lay_122 ?_
    refine lv_icmp_ge (tgt := 130) C.ex C.by dX10_lay_123 (by decide) (fun c20 => ?_) (fun c20 => ?_)
    · have hf := zif_t c20 hf
      refine lv_iconst (v := 0) C.ex C.by dX10_lay_130 (by decide) ?_
      exact wX10_lay_L80_131 C h hl hf Kc Ke0
    · have hf := zif_f c20 hf
      refine lv_iconst (v := 1) C.ex C.by dX10_lay_126 (by decide) ?_
      refine lv_goto (tgt := 131) C.ex C.by dX10_lay_127 (by decide) ?_
      exact wX10_lay_L80_131 C h hl hf Kc Ke0
theorem wlX10_lay_80 {p : Program} {l : Launch} {e : Env} {s : State} {m : MethodId} {args : Array Value} {below : List Frame} {meth : Method} {c : Code} {A : Nat → Prop} {κ : zG} {H : Heap} {locs : List Loc} {ls : Array Slot} {Q : State → Prop} {n : Nat} {k1 : Int32} {k0 : Nat} {u2 : Int32} {u3 : Int32} {σ1 : zS} (C : zC cX10_lay 5 none RX10 κ A p s m args meth c) (h : zH wM κ A s σ1 H locs) (hl : lv_has ls 5 [(0, .ref (κ.2.1 0)), (1, .int k1), (2, .int u2), (3, .int u3)]) (b : zS) (hb : zlp (fX10_lay_L80_80 n k1) k0 (u2, u3, σ1) = some b) (K : (fun b : zS => ∀ (H : Heap) (locs : List Loc) (ls : Array Slot), zH wM κ A s b H locs → lv_has ls 5 [(0, .ref (κ.2.1 0))] → W p l e rmX10_lay s m args below meth c H locs 0 0 Q (F0 m 183 ls [])) b) : W p l e rmX10_lay s m args below meth c H locs 0 0 Q (F0 m 80 ls []) :=
  z_loop (body := fX10_lay_L80_80 n k1) (Wd := (fun a : Int32 × Int32 × zS => ∀ (H : Heap) (locs : List Loc) (ls : Array Slot), zH wM κ A s a.2.2 H locs → lv_has ls 5 [(0, .ref (κ.2.1 0)), (1, .int k1), (2, .int a.1), (3, .int a.2.1)] → W p l e rmX10_lay s m args below meth c H locs 0 0 Q (F0 m 80 ls []))) (Ex := (fun b : zS => (fun b : zS => ∀ (H : Heap) (locs : List Loc) (ls : Array Slot), zH wM κ A s b H locs → lv_has ls 5 [(0, .ref (κ.2.1 0))] → W p l e rmX10_lay s m args below meth c H locs 0 0 Q (F0 m 183 ls [])) b)) (fun a r hr Kc Ke H locs ls h hl => wX10_lay_L80_80 C h hl hr (fun v2 v3 σ1 e => Kc (v2, v3, σ1) e) (fun σ1 e => Ke σ1 e)) k0 (u2, u3, σ1) b hb K H locs ls h hl
set_option maxRecDepth 20000 in
set_option maxHeartbeats 4000000 in
theorem wX10_lay_0 {p : Program} {l : Launch} {e : Env} {s : State} {m : MethodId} {args : Array Value} {below : List Frame} {meth : Method} {c : Code} {A : Nat → Prop} {κ : zG} {H : Heap} {locs : List Loc} {ls : Array Slot} {n : Nat} {σ : zS} {x1 : Int32} {r : zS} (C : zC cX10_lay 5 none RX10 κ A p s m args meth c) (h : zH wM κ A s σ H locs) (hl : lv_has ls 5 [(0, .ref (κ.2.1 0)), (1, .int x1)]) (hf : fX10_lay_0 n σ x1 = some r) : W p l e rmX10_lay s m args below meth c H locs 0 0 (MQ below (zQv wM κ A r) args s 0 0 A) (F0 m 0 ls []) := by
  unfold fX10_lay_0 at hf
  refine lv_iconst (v := 1) C.ex C.by dX10_lay_0 (by decide) ?_
  refine lv_istore_n (lv' := [(2, .int 1), (0, .ref (κ.2.1 0)), (1, .int x1)]) C.ex C.by dX10_lay_1 rfl hl (by decide) rfl (fun ls hl => ?_)
  obtain ⟨b9, e10, hf⟩ := zb_some hf
  refine wlX10_lay_2 C h (lv_sub hl [1, 2, 0] rfl) b9 e10 ?_
  intro H locs ls h hl
  refine lv_aload_n C.ex C.by dX10_lay_62 rfl (lv_at hl 0 rfl) ?_
  refine z_get (v := .ref (κ.2.1 29)) C h iwX10 0 (wM_at0 κ _) rfl 54 (by decide) lkM192 rfl dX10_lay_63 ?_
  refine lv_iload_n C.ex C.by dX10_lay_66 rfl (lv_at hl 1 rfl) ?_
  refine lv_iconst (v := 1) C.ex C.by dX10_lay_67 (by decide) ?_
  refine lv_iadd C.ex C.by dX10_lay_68 ?_
  refine lv_iconst (v := 0) C.ex C.by dX10_lay_69 (by decide) ?_
  obtain ⟨h11, hf⟩ := zg_some hf
  refine z_iast (f := (zA b9 23)) C h 29 (wM_at29 κ _) h11 (sA b9 23 (upd (zA b9 23) (Int32.toNatClampNeg (x1 + 1)) 0)) (wM_s29 κ _ _) dX10_lay_70 (fun H locs h => ?_)
  refine lv_aload_n C.ex C.by dX10_lay_71 rfl (lv_at hl 0 rfl) ?_
  refine lv_iconst (v := 1) C.ex C.by dX10_lay_72 (by decide) ?_
  refine z_put C h iwX10 tyX10_ok nmX10 0 (wM_at0 κ _) rfl 55 (by decide) lkM193 rfl rfl rfl (Nat.le_of_ble_eq_true rfl) (sI (sA b9 23 (upd (zA b9 23) (Int32.toNatClampNeg (x1 + 1)) 0)) 26 1) (wM_s0_55 κ _ _) dX10_lay_73 (fun H locs h => ?_)
  refine lv_iconst (v := 1) C.ex C.by dX10_lay_76 (by decide) ?_
  refine lv_istore_n (lv' := [(2, .int 1), (0, .ref (κ.2.1 0)), (1, .int x1)]) C.ex C.by dX10_lay_77 rfl hl (by decide) rfl (fun ls hl => ?_)
  refine lv_iconst (v := 0) C.ex C.by dX10_lay_78 (by decide) ?_
  refine lv_istore_n (lv' := [(3, .int 0), (2, .int 1), (0, .ref (κ.2.1 0)), (1, .int x1)]) C.ex C.by dX10_lay_79 rfl hl (by decide) rfl (fun ls hl => ?_)
  obtain ⟨b28, e29, hf⟩ := zb_some hf
  refine wlX10_lay_80 C h (lv_sub hl [2, 3, 1, 0] rfl) b28 e29 ?_
  intro H locs ls h hl
  cases hf
  exact z_vret C h dX10_lay_183
theorem ctX10_lay {l : Launch} {κ : zG} {n : Nat} {σ : zS} {x1 : Int32} {r : zS} (hf : fX10_lay_0 n σ x1 = some r) : zMv l yX10_lay (Cond.code yX10_lay cX10_lay 5 none) rmX10_lay wM κ [.ref (κ.2.1 0), .int x1] σ r :=
  zMv_of (by decide) (Nat.le_of_ble_eq_true rfl) (fun p e s m below meth c A C h ls hl => wX10_lay_0 C h hl hf)
