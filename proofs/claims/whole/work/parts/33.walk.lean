theorem hdX9_fillMemory : yX9_fillMemory.cls = RX9 ∧ yX9_fillMemory.cls ≠ "java/lang/invoke/MethodHandle" ∧ yX9_fillMemory.cls ≠ "java/lang/invoke/VarHandle" ∧ (parseMethodDescriptor yX9_fillMemory.desc).map (fun d => d.parameters.length) = some 0 := by decide +kernel
abbrev rmX9_fillMemory : Room := { frames := 5, cells := 0, slots := 0, locals := 122 }
set_option maxRecDepth 20000 in
set_option maxHeartbeats 4000000 in
theorem wX9_fillMemory_L2_2 {p : Program} {l : Launch} {e : Env} {s : State} {m : MethodId} {args : Array Value} {below : List Frame} {meth : Method} {c : Code} {A : Nat → Prop} {κ : zG} {H : Heap} {locs : List Loc} {ls : Array Slot} {Q : State → Prop} {n : Nat} {a : Int32 × zS} {r : (Int32 × zS) ⊕ (zS)} (C : zC cX9_fillMemory 2 none RX9 κ A p s m args meth c) (h : zH wC κ A s a.2 H locs) (hl : lv_has ls 2 [(0, .ref (κ.2.1 0)), (1, .int a.1)]) (hf : fX9_fillMemory_L2_2 n (κ.2.2.2 0) (κ.2.2.2 1) (κ.2.2.2 2) a = some r) (Kc : ∀ (v1 : Int32) (σ1 : zS), r = .inl (v1, σ1) → ∀ (H : Heap) (locs : List Loc) (ls : Array Slot), zH wC κ A s σ1 H locs → lv_has ls 2 [(0, .ref (κ.2.1 0)), (1, .int v1)] → W p l e rmX9_fillMemory s m args below meth c H locs 0 0 Q (F0 m 2 ls [])) (Ke0 : ∀ (σ1 : zS), r = .inr σ1 → ∀ (H : Heap) (locs : List Loc) (ls : Array Slot), zH wC κ A s σ1 H locs → lv_has ls 2 [(0, .ref (κ.2.1 0))] → W p l e rmX9_fillMemory s m args below meth c H locs 0 0 Q (F0 m 44 ls [])) : W p l e rmX9_fillMemory s m args below meth c H locs 0 0 Q (F0 m 2 ls []) := by
  unfold fX9_fillMemory_L2_2 at hf
  refine lv_iload_n C.ex C.by dX9_fillMemory_2 rfl (lv_at hl 1 rfl) ?_
  refine lv_aload_n C.ex C.by dX9_fillMemory_3 rfl (lv_at hl 0 rfl) ?_
  refine z_get (v := .ref (κ.2.1 20)) C h iwX9 0 (wC_at0 κ _) rfl 5 (by decide) lkC35 rfl dX9_fillMemory_4 ?_
  refine z_getN (v := .int (zI a.2 27)) C h iwX3 20 (wC_at20 κ _) rfl 1 (by decide) nkC5 rfl dX9_fillMemory_7 ?_
  refine lv_icmp_ge (tgt := 44) C.ex C.by dX9_fillMemory_10 (by decide) (fun c1 => ?_) (fun c1 => ?_)
  · have hf := zif_t c1 hf
    exact Ke0 _ (Option.some.inj hf).symm _ _ _ h (lv_sub hl [0] rfl)
  · have hf := zif_f c1 hf
    refine lv_aload_n C.ex C.by dX9_fillMemory_13 rfl (lv_at hl 0 rfl) ?_
    refine z_get (v := .ref (κ.2.1 10)) C h iwX9 0 (wC_at0 κ _) rfl 3 (by decide) lkC42 rfl dX9_fillMemory_14 ?_
    refine z_getN (v := .int (zI a.2 16)) C h iwX2 10 (wC_at10 κ _) rfl 8 (by decide) nkC4 rfl dX9_fillMemory_17 ?_
    refine lv_if_le (tgt := 44) C.ex C.by dX9_fillMemory_20 (by decide) (fun c2 => ?_) (fun c2 => ?_)
    · have hf := zif_t c2 hf
      exact Ke0 _ (Option.some.inj hf).symm _ _ _ h (lv_sub hl [0] rfl)
    · have hf := zif_f c2 hf
      refine lv_aload_n C.ex C.by dX9_fillMemory_23 rfl (lv_at hl 0 rfl) ?_
      refine z_get (v := .ref (κ.2.1 20)) C h iwX9 0 (wC_at0 κ _) rfl 5 (by decide) lkC35 rfl dX9_fillMemory_24 ?_
      refine lv_aload_n C.ex C.by dX9_fillMemory_27 rfl (lv_at hl 0 rfl) ?_
      refine z_get (v := .ref (κ.2.1 10)) C h iwX9 0 (wC_at0 κ _) rfl 3 (by decide) lkC42 rfl dX9_fillMemory_28 ?_
      obtain ⟨q3, e4, hf⟩ := zb_some hf
      refine z_callVi (As := []) C h (ctX2_next (r1 := q3.1) (r2 := q3.2) e4) (zgV lkC57 lkC58 lkC59 lkC60 lkC61) ⟨rfl, rfl⟩ hdX2_next ⟨Nat.le_of_ble_eq_true rfl, Nat.le_of_ble_eq_true rfl⟩ 10 (wC_at10 κ _) rfl hl rfl rfl (Nat.le_of_ble_eq_true rfl) dX9_fillMemory_31 ⟨Nat.zero_le _, Nat.zero_le _⟩ (fun H locs h => ?_)
      refine lv_iconst (v := 0) C.ex C.by dX9_fillMemory_34 (by decide) ?_
      obtain ⟨q5, e6, hf⟩ := zb_some hf
      refine z_callVv (As := [.int q3.1, .int 0]) C h (ctX3_add e6) (zgV lkC92 lkC93 lkC94 lkC40 lkC95) ⟨rfl, rfl⟩ hdX3_add ⟨Nat.le_of_ble_eq_true rfl, Nat.le_of_ble_eq_true rfl⟩ 20 (wC_at20 κ _) rfl hl rfl rfl (Nat.le_of_ble_eq_true rfl) dX9_fillMemory_35 ⟨Nat.zero_le _, Nat.zero_le _⟩ (fun H locs h => ?_)
      refine lv_iinc (v := (a.1 + 1)) (lv' := [(1, .int (a.1 + 1)), (0, .ref (κ.2.1 0))]) C.ex C.by dX9_fillMemory_38 hl (k := 1) rfl rfl (by decide) rfl (fun ls hl => ?_)
      refine lv_goto (tgt := 2) C.ex C.by dX9_fillMemory_41 (by decide) ?_
      exact Kc _ _ (Option.some.inj hf).symm _ _ _ h (lv_sub hl [1, 0] rfl)
theorem wlX9_fillMemory_2 {p : Program} {l : Launch} {e : Env} {s : State} {m : MethodId} {args : Array Value} {below : List Frame} {meth : Method} {c : Code} {A : Nat → Prop} {κ : zG} {H : Heap} {locs : List Loc} {ls : Array Slot} {Q : State → Prop} {n : Nat} {k0 : Nat} {u1 : Int32} {σ1 : zS} (C : zC cX9_fillMemory 2 none RX9 κ A p s m args meth c) (h : zH wC κ A s σ1 H locs) (hl : lv_has ls 2 [(0, .ref (κ.2.1 0)), (1, .int u1)]) (b : zS) (hb : zlp (fX9_fillMemory_L2_2 n (κ.2.2.2 0) (κ.2.2.2 1) (κ.2.2.2 2)) k0 (u1, σ1) = some b) (K : (fun b : zS => ∀ (H : Heap) (locs : List Loc) (ls : Array Slot), zH wC κ A s b H locs → lv_has ls 2 [(0, .ref (κ.2.1 0))] → W p l e rmX9_fillMemory s m args below meth c H locs 0 0 Q (F0 m 44 ls [])) b) : W p l e rmX9_fillMemory s m args below meth c H locs 0 0 Q (F0 m 2 ls []) :=
  z_loop (body := fX9_fillMemory_L2_2 n (κ.2.2.2 0) (κ.2.2.2 1) (κ.2.2.2 2)) (Wd := (fun a : Int32 × zS => ∀ (H : Heap) (locs : List Loc) (ls : Array Slot), zH wC κ A s a.2 H locs → lv_has ls 2 [(0, .ref (κ.2.1 0)), (1, .int a.1)] → W p l e rmX9_fillMemory s m args below meth c H locs 0 0 Q (F0 m 2 ls []))) (Ex := (fun b : zS => (fun b : zS => ∀ (H : Heap) (locs : List Loc) (ls : Array Slot), zH wC κ A s b H locs → lv_has ls 2 [(0, .ref (κ.2.1 0))] → W p l e rmX9_fillMemory s m args below meth c H locs 0 0 Q (F0 m 44 ls [])) b)) (fun a r hr Kc Ke H locs ls h hl => wX9_fillMemory_L2_2 C h hl hr (fun v1 σ1 e => Kc (v1, σ1) e) (fun σ1 e => Ke σ1 e)) k0 (u1, σ1) b hb K H locs ls h hl
set_option maxRecDepth 20000 in
set_option maxHeartbeats 4000000 in
theorem wX9_fillMemory_0 {p : Program} {l : Launch} {e : Env} {s : State} {m : MethodId} {args : Array Value} {below : List Frame} {meth : Method} {c : Code} {A : Nat → Prop} {κ : zG} {H : Heap} {locs : List Loc} {ls : Array Slot} {n : Nat} {σ : zS} {r : zS} (C : zC cX9_fillMemory 2 none RX9 κ A p s m args meth c) (h : zH wC κ A s σ H locs) (hl : lv_has ls 2 [(0, .ref (κ.2.1 0))]) (hf : fX9_fillMemory_0 n (κ.2.2.2 0) (κ.2.2.2 1) (κ.2.2.2 2) σ = some r) : W p l e rmX9_fillMemory s m args below meth c H locs 0 0 (MQ below (zQv wC κ A r) args s 0 0 A) (F0 m 0 ls []) := by
  unfold fX9_fillMemory_0 at hf
  refine lv_iconst (v := 0) C.ex C.by dX9_fillMemory_0 (by decide) ?_
  refine lv_istore_n (lv' := [(1, .int 0), (0, .ref (κ.2.1 0))]) C.ex C.by dX9_fillMemory_1 rfl hl (by decide) rfl (fun ls hl => ?_)
  obtain ⟨b7, e8, hf⟩ := zb_some hf
  refine wlX9_fillMemory_2 C h (lv_sub hl [1, 0] rfl) b7 e8 ?_
  intro H locs ls h hl
  cases hf
  exact z_vret C h dX9_fillMemory_44
theorem ctX9_fillMemory {l : Launch} {κ : zG} {n : Nat} {σ : zS} {r : zS} (hf : fX9_fillMemory_0 n (κ.2.2.2 0) (κ.2.2.2 1) (κ.2.2.2 2) σ = some r) : zMv l yX9_fillMemory (Cond.code yX9_fillMemory cX9_fillMemory 2 none) rmX9_fillMemory wC κ [.ref (κ.2.1 0)] σ r :=
  zMv_of (by decide) (Nat.le_of_ble_eq_true rfl) (fun p e s m below meth c A C h ls hl => wX9_fillMemory_0 C h hl hf)
theorem hdX3_takeFirst : yX3_takeFirst.cls = RX3 ∧ yX3_takeFirst.cls ≠ "java/lang/invoke/MethodHandle" ∧ yX3_takeFirst.cls ≠ "java/lang/invoke/VarHandle" ∧ (parseMethodDescriptor yX3_takeFirst.desc).map (fun d => d.parameters.length) = some 0 := by decide +kernel
abbrev rmX3_takeFirst : Room := { frames := 4, cells := 0, slots := 0, locals := 97 }
set_option maxRecDepth 20000 in
set_option maxHeartbeats 4000000 in
theorem wX3_takeFirst_L77_133 {p : Program} {l : Launch} {e : Env} {s : State} {m : MethodId} {args : Array Value} {below : List Frame} {meth : Method} {c : Code} {A : Nat → Prop} {κ : zG} {H : Heap} {locs : List Loc} {ls : Array Slot} {Q : State → Prop} {n : Nat} {σ : zS} {k1 : Int32} {k2 : Int32} {k3 : Int32} {x4 : Int32} {y0 : Int32} {r : (Int32 × Int32 × zS) ⊕ ((Int32 × zS) ⊕ (Int32 × zS))} (C : zC cX3_takeFirst 7 (some .int) RX3 κ A p s m args meth c) (h : zH wC κ A s σ H locs) (hl : lv_has ls 7 [(0, .ref (κ.2.1 20)), (1, .int k1), (2, .int k2), (3, .int k3), (4, .int x4)]) (hf : fX3_takeFirst_L77_133 n (κ.2.2.2 0) (κ.2.2.2 1) (κ.2.2.2 2) σ k1 k2 k3 x4 y0 = some r) (Kc : ∀ (v4 : Int32) (v5 : Int32) (σ1 : zS), r = .inl (v4, v5, σ1) → ∀ (H : Heap) (locs : List Loc) (ls : Array Slot), zH wC κ A s σ1 H locs → lv_has ls 7 [(0, .ref (κ.2.1 20)), (1, .int k1), (2, .int k2), (3, .int k3), (4, .int v4), (5, .int v5)] → W p l e rmX3_takeFirst s m args below meth c H locs 0 0 Q (F0 m 77 ls [])) (Ke0 : ∀ (v4 : Int32) (σ1 : zS), r = .inr (.inl (v4, σ1)) → ∀ (H : Heap) (locs : List Loc) (ls : Array Slot), zH wC κ A s σ1 H locs → lv_has ls 7 [(0, .ref (κ.2.1 20)), (1, .int k1), (2, .int k2), (3, .int k3), (4, .int v4)] → W p l e rmX3_takeFirst s m args below meth c H locs 0 0 Q (F0 m 172 ls [])) (Ke1 : ∀ (v4 : Int32) (σ1 : zS), r = .inr (.inr (v4, σ1)) → ∀ (H : Heap) (locs : List Loc) (ls : Array Slot), zH wC κ A s σ1 H locs → lv_has ls 7 [(0, .ref (κ.2.1 20)), (1, .int k1), (2, .int k2), (3, .int k3), (4, .int v4)] → W p l e rmX3_takeFirst s m args below meth c H locs 0 0 Q (F0 m 146 ls [])) : W p l e rmX3_takeFirst s m args below meth c H locs 0 0 Q (F0 m 133 ls [.int y0]) := by
  unfold fX3_takeFirst_L77_133 at hf
  refine lv_istore (lv' := [(6, .int y0), (0, .ref (κ.2.1 20)), (1, .int k1), (2, .int k2), (3, .int k3), (4, .int x4)]) C.ex C.by dX3_takeFirst_133 hl (by decide) rfl (fun ls hl => ?_)
  refine lv_aload_n C.ex C.by dX3_takeFirst_135 rfl (lv_at hl 1 rfl) ?_
  refine lv_iload_n C.ex C.by dX3_takeFirst_136 rfl (lv_at hl 3 rfl) ?_
  refine lv_iload_n C.ex C.by dX3_takeFirst_137 rfl (lv_at hl 4 rfl) ?_
  refine lv_iload C.ex C.by dX3_takeFirst_138 (lv_at hl 0 rfl) ?_
  obtain ⟨q14, e15, hf⟩ := zb_some hf
  refine z_callVi (As := [.int k2, .int k3, .int y0]) C h (ctX3_isAhead e15) (zgV lkC80 lkC81 lkC82 lkC40 lkC83) ⟨rfl, rfl⟩ hdX3_isAhead ⟨Nat.le_of_ble_eq_true rfl, Nat.le_of_ble_eq_true rfl⟩ 20 (wC_at20 κ _) rfl hl rfl rfl (Nat.le_of_ble_eq_true rfl) dX3_takeFirst_140 ⟨Nat.zero_le _, Nat.zero_le _⟩ (fun H locs h => ?_)
  refine lv_if_eq (tgt := 149) C.ex C.by dX3_takeFirst_143 (by decide) (fun c16 => ?_) (fun c16 => ?_)
  · have hf := zif_t c16 hf
    refine lv_aload_n C.ex C.by dX3_takeFirst_149 rfl (lv_at hl 1 rfl) ?_
    refine lv_iload C.ex C.by dX3_takeFirst_150 (lv_at hl 5 rfl) ?_
    refine lv_iload C.ex C.by dX3_takeFirst_152 (lv_at hl 0 rfl) ?_
    obtain ⟨q17, e18, hf⟩ := zb_some hf
    refine z_callVv (As := [.int x4, .int y0]) C h (ctX3_copyTo e18) (zgV lkC88 lkC89 lkC90 lkC40 lkC91) ⟨rfl, rfl⟩ hdX3_copyTo ⟨Nat.le_of_ble_eq_true rfl, Nat.le_of_ble_eq_true rfl⟩ 20 (wC_at20 κ _) rfl hl rfl rfl (Nat.le_of_ble_eq_true rfl) dX3_takeFirst_154 ⟨Nat.zero_le _, Nat.zero_le _⟩ (fun H locs h => ?_)
    refine lv_iload C.ex C.by dX3_takeFirst_157 (lv_at hl 0 rfl) ?_
    refine lv_istore (lv' := [(4, .int y0), (6, .int y0), (0, .ref (κ.2.1 20)), (1, .int k1), (2, .int k2), (3, .int k3)]) C.ex C.by dX3_takeFirst_159 hl (by decide) rfl (fun ls hl => ?_)
    refine lv_iconst (v := 2) C.ex C.by dX3_takeFirst_161 (by decide) ?_
    refine lv_iload C.ex C.by dX3_takeFirst_162 (lv_at hl 0 rfl) ?_
    refine lv_imul C.ex C.by dX3_takeFirst_164 ?_
    refine lv_iconst (v := 1) C.ex C.by dX3_takeFirst_165 (by decide) ?_
    refine lv_iadd C.ex C.by dX3_takeFirst_166 ?_
    refine lv_istore (lv' := [(5, .int ((2 * y0) + 1)), (4, .int y0), (6, .int y0), (0, .ref (κ.2.1 20)), (1, .int k1), (2, .int k2), (3, .int k3)]) C.ex C.by dX3_takeFirst_167 hl (by decide) rfl (fun ls hl => ?_)
    refine lv_goto (tgt := 77) C.ex C.by dX3_takeFirst_169 (by decide) ?_
    exact Kc _ _ _ (Option.some.inj hf).symm _ _ _ h (lv_sub hl [3, 4, 5, 6, 1, 0] rfl)
  · have hf := zif_f c16 hf
    exact Ke1 _ _ (Option.some.inj hf).symm _ _ _ h (lv_sub hl [1, 2, 3, 4, 5] rfl)
set_option maxRecDepth 20000 in
set_option maxHeartbeats 4000000 in
theorem wX3_takeFirst_L77_131 {p : Program} {l : Launch} {e : Env} {s : State} {m : MethodId} {args : Array Value} {below : List Frame} {meth : Method} {c : Code} {A : Nat → Prop} {κ : zG} {H : Heap} {locs : List Loc} {ls : Array Slot} {Q : State → Prop} {n : Nat} {σ : zS} {k1 : Int32} {k2 : Int32} {k3 : Int32} {x4 : Int32} {x5 : Int32} {r : (Int32 × Int32 × zS) ⊕ ((Int32 × zS) ⊕ (Int32 × zS))} (C : zC cX3_takeFirst 7 (some .int) RX3 κ A p s m args meth c) (h : zH wC κ A s σ H locs) (hl : lv_has ls 7 [(0, .ref (κ.2.1 20)), (1, .int k1), (2, .int k2), (3, .int k3), (4, .int x4), (5, .int x5)]) (hf : fX3_takeFirst_L77_131 n (κ.2.2.2 0) (κ.2.2.2 1) (κ.2.2.2 2) σ k1 k2 k3 x4 x5 = some r) (Kc : ∀ (v4 : Int32) (v5 : Int32) (σ1 : zS), r = .inl (v4, v5, σ1) → ∀ (H : Heap) (locs : List Loc) (ls : Array Slot), zH wC κ A s σ1 H locs → lv_has ls 7 [(0, .ref (κ.2.1 20)), (1, .int k1), (2, .int k2), (3, .int k3), (4, .int v4), (5, .int v5)] → W p l e rmX3_takeFirst s m args below meth c H locs 0 0 Q (F0 m 77 ls [])) (Ke0 : ∀ (v4 : Int32) (σ1 : zS), r = .inr (.inl (v4, σ1)) → ∀ (H : Heap) (locs : List Loc) (ls : Array Slot), zH wC κ A s σ1 H locs → lv_has ls 7 [(0, .ref (κ.2.1 20)), (1, .int k1), (2, .int k2), (3, .int k3), (4, .int v4)] → W p l e rmX3_takeFirst s m args below meth c H locs 0 0 Q (F0 m 172 ls [])) (Ke1 : ∀ (v4 : Int32) (σ1 : zS), r = .inr (.inr (v4, σ1)) → ∀ (H : Heap) (locs : List Loc) (ls : Array Slot), zH wC κ A s σ1 H locs → lv_has ls 7 [(0, .ref (κ.2.1 20)), (1, .int k1), (2, .int k2), (3, .int k3), (4, .int v4)] → W p l e rmX3_takeFirst s m args below meth c H locs 0 0 Q (F0 m 146 ls [])) : W p l e rmX3_takeFirst s m args below meth c H locs 0 0 Q (F0 m 131 ls []) := by
  unfold fX3_takeFirst_L77_131 at hf
  refine lv_iload C.ex C.by dX3_takeFirst_131 (lv_at hl 5 rfl) ?_
  exact wX3_takeFirst_L77_133 C h (lv_sub hl [0, 1, 2, 3, 4] rfl) hf Kc Ke0 Ke1
set_option maxRecDepth 20000 in
set_option maxHeartbeats 4000000 in
theorem wX3_takeFirst_L77_77 {p : Program} {l : Launch} {e : Env} {s : State} {m : MethodId} {args : Array Value} {below : List Frame} {meth : Method} {c : Code} {A : Nat → Prop} {κ : zG} {H : Heap} {locs : List Loc} {ls : Array Slot} {Q : State → Prop} {n : Nat} {k1 : Int32} {k2 : Int32} {k3 : Int32} {a : Int32 × Int32 × zS} {r : (Int32 × Int32 × zS) ⊕ ((Int32 × zS) ⊕ (Int32 × zS))} (C : zC cX3_takeFirst 7 (some .int) RX3 κ A p s m args meth c) (h : zH wC κ A s a.2.2 H locs) (hl : lv_has ls 7 [(0, .ref (κ.2.1 20)), (1, .int k1), (2, .int k2), (3, .int k3), (4, .int a.1), (5, .int a.2.1)]) (hf : fX3_takeFirst_L77_77 n (κ.2.2.2 0) (κ.2.2.2 1) (κ.2.2.2 2) k1 k2 k3 a = some r) (Kc : ∀ (v4 : Int32) (v5 : Int32) (σ1 : zS), r = .inl (v4, v5, σ1) → ∀ (H : Heap) (locs : List Loc) (ls : Array Slot), zH wC κ A s σ1 H locs → lv_has ls 7 [(0, .ref (κ.2.1 20)), (1, .int k1), (2, .int k2), (3, .int k3), (4, .int v4), (5, .int v5)] → W p l e rmX3_takeFirst s m args below meth c H locs 0 0 Q (F0 m 77 ls [])) (Ke0 : ∀ (v4 : Int32) (σ1 : zS), r = .inr (.inl (v4, σ1)) → ∀ (H : Heap) (locs : List Loc) (ls : Array Slot), zH wC κ A s σ1 H locs → lv_has ls 7 [(0, .ref (κ.2.1 20)), (1, .int k1), (2, .int k2), (3, .int k3), (4, .int v4)] → W p l e rmX3_takeFirst s m args below meth c H locs 0 0 Q (F0 m 172 ls [])) (Ke1 : ∀ (v4 : Int32) (σ1 : zS), r = .inr (.inr (v4, σ1)) → ∀ (H : Heap) (locs : List Loc) (ls : Array Slot), zH wC κ A s σ1 H locs → lv_has ls 7 [(0, .ref (κ.2.1 20)), (1, .int k1), (2, .int k2), (3, .int k3), (4, .int v4)] → W p l e rmX3_takeFirst s m args below meth c H locs 0 0 Q (F0 m 146 ls [])) : W p l e rmX3_takeFirst s m args below meth c H locs 0 0 Q (F0 m 77 ls []) := by
  unfold fX3_takeFirst_L77_77 at hf
  refine lv_iload C.ex C.by dX3_takeFirst_77 (lv_at hl 5 rfl) ?_
  refine lv_aload_n C.ex C.by dX3_takeFirst_79 rfl (lv_at hl 0 rfl) ?_
  refine z_get (v := .int (zI a.2.2 28)) C h iwX3 20 (wC_at20 κ _) rfl 4 (by decide) lkC36 rfl dX3_takeFirst_80 ?_
  refine lv_icmp_ge (tgt := 172) C.ex C.by dX3_takeFirst_83 (by decide) (fun c7 => ?_) (fun c7 => ?_)
  · have hf := zif_t c7 hf
    exact Ke0 _ _ (Option.some.inj hf).symm _ _ _ h (lv_sub hl [0, 1, 2, 3, 4] rfl)
  · have hf := zif_f c7 hf
    refine lv_iload C.ex C.by dX3_takeFirst_86 (lv_at hl 5 rfl) ?_
    refine lv_iconst (v := 1) C.ex C.by dX3_takeFirst_88 (by decide) ?_
    refine lv_iadd C.ex C.by dX3_takeFirst_89 ?_
    refine lv_aload_n C.ex C.by dX3_takeFirst_90 rfl (lv_at hl 0 rfl) ?_
    refine z_get (v := .int (zI a.2.2 28)) C h iwX3 20 (wC_at20 κ _) rfl 4 (by decide) lkC36 rfl dX3_takeFirst_91 ?_
    refine lv_icmp_ge (tgt := 131) C.ex C.by dX3_takeFirst_94 (by decide) (fun c8 => ?_) (fun c8 => ?_)
    · have hf := zif_t c8 hf
      exact wX3_takeFirst_L77_131 C h hl hf Kc Ke0 Ke1
    · have hf := zif_f c8 hf
      refine lv_aload_n C.ex C.by dX3_takeFirst_97 rfl (lv_at hl 0 rfl) ?_
      refine lv_aload_n C.ex C.by dX3_takeFirst_98 rfl (lv_at hl 0 rfl) ?_
      refine z_get (v := .ref (κ.2.1 21)) C h iwX3 20 (wC_at20 κ _) rfl 2 (by decide) lkC62 rfl dX3_takeFirst_99 ?_
      refine lv_iload C.ex C.by dX3_takeFirst_102 (lv_at hl 5 rfl) ?_
      refine lv_iconst (v := 1) C.ex C.by dX3_takeFirst_104 (by decide) ?_
      refine lv_iadd C.ex C.by dX3_takeFirst_105 ?_
      obtain ⟨h9, hf⟩ := zg_some hf
      refine z_iald (f := (zA a.2.2 8)) C h 21 (wC_at21 κ _) h9 dX3_takeFirst_106 ?_
      refine lv_aload_n C.ex C.by dX3_takeFirst_107 rfl (lv_at hl 0 rfl) ?_
      refine z_get (v := .ref (κ.2.1 22)) C h iwX3 20 (wC_at20 κ _) rfl 3 (by decide) lkC63 rfl dX3_takeFirst_108 ?_
      refine lv_iload C.ex C.by dX3_takeFirst_111 (lv_at hl 5 rfl) ?_
      refine lv_iconst (v := 1) C.ex C.by dX3_takeFirst_113 (by decide) ?_
      refine lv_iadd C.ex C.by dX3_takeFirst_114 ?_
      obtain ⟨h10, hf⟩ := zg_some hf
      refine z_iald (f := (zA a.2.2 9)) C h 22 (wC_at22 κ _) h10 dX3_takeFirst_115 ?_
      refine lv_iload C.ex C.by dX3_takeFirst_116 (lv_at hl 5 rfl) ?_
      obtain ⟨q11, e12, hf⟩ := zb_some hf
      refine z_callVi (As := [.int ((zA a.2.2 8) (Int32.toNatClampNeg (a.2.1 + 1))), .int ((zA a.2.2 9) (Int32.toNatClampNeg (a.2.1 + 1))), .int a.2.1]) C h (ctX3_isAhead e12) (zgV lkC80 lkC81 lkC82 lkC40 lkC83) ⟨rfl, rfl⟩ hdX3_isAhead ⟨Nat.le_of_ble_eq_true rfl, Nat.le_of_ble_eq_true rfl⟩ 20 (wC_at20 κ _) rfl hl rfl rfl (Nat.le_of_ble_eq_true rfl) dX3_takeFirst_118 ⟨Nat.zero_le _, Nat.zero_le _⟩ (fun H locs h => ?_)
      refine lv_if_eq (tgt := 131) C.ex C.by dX3_takeFirst_121 (by decide) (fun c13 => ?_) (fun c13 => ?_)
      · have hf := zif_t c13 hf
        exact wX3_takeFirst_L77_131 C h hl hf Kc Ke0 Ke1
      · have hf := zif_f c13 hf
        refine lv_iload C.ex C.by dX3_takeFirst_124 (lv_at hl 5 rfl) ?_
        refine lv_iconst (v := 1) C.ex C.by dX3_takeFirst_126 (by decide) ?_
        refine lv_iadd C.ex C.by dX3_takeFirst_127 ?_
        refine lv_goto (tgt := 133) C.ex C.by dX3_takeFirst_128 (by decide) ?_
        exact wX3_takeFirst_L77_133 C h (lv_sub hl [0, 1, 2, 3, 4] rfl) hf Kc Ke0 Ke1
theorem wlX3_takeFirst_77 {p : Program} {l : Launch} {e : Env} {s : State} {m : MethodId} {args : Array Value} {below : List Frame} {meth : Method} {c : Code} {A : Nat → Prop} {κ : zG} {H : Heap} {locs : List Loc} {ls : Array Slot} {Q : State → Prop} {n : Nat} {k1 : Int32} {k2 : Int32} {k3 : Int32} {k0 : Nat} {u4 : Int32} {u5 : Int32} {σ1 : zS} (C : zC cX3_takeFirst 7 (some .int) RX3 κ A p s m args meth c) (h : zH wC κ A s σ1 H locs) (hl : lv_has ls 7 [(0, .ref (κ.2.1 20)), (1, .int k1), (2, .int k2), (3, .int k3), (4, .int u4), (5, .int u5)]) (b : (Int32 × zS) ⊕ (Int32 × zS)) (hb : zlp (fX3_takeFirst_L77_77 n (κ.2.2.2 0) (κ.2.2.2 1) (κ.2.2.2 2) k1 k2 k3) k0 (u4, u5, σ1) = some b) (K : (fun b => Sum.elim (fun b : Int32 × zS => ∀ (H : Heap) (locs : List Loc) (ls : Array Slot), zH wC κ A s b.2 H locs → lv_has ls 7 [(0, .ref (κ.2.1 20)), (1, .int k1), (2, .int k2), (3, .int k3), (4, .int b.1)] → W p l e rmX3_takeFirst s m args below meth c H locs 0 0 Q (F0 m 172 ls [])) (fun b : Int32 × zS => ∀ (H : Heap) (locs : List Loc) (ls : Array Slot), zH wC κ A s b.2 H locs → lv_has ls 7 [(0, .ref (κ.2.1 20)), (1, .int k1), (2, .int k2), (3, .int k3), (4, .int b.1)] → W p l e rmX3_takeFirst s m args below meth c H locs 0 0 Q (F0 m 146 ls [])) b) b) : W p l e rmX3_takeFirst s m args below meth c H locs 0 0 Q (F0 m 77 ls []) :=
  z_loop (body := fX3_takeFirst_L77_77 n (κ.2.2.2 0) (κ.2.2.2 1) (κ.2.2.2 2) k1 k2 k3) (Wd := (fun a : Int32 × Int32 × zS => ∀ (H : Heap) (locs : List Loc) (ls : Array Slot), zH wC κ A s a.2.2 H locs → lv_has ls 7 [(0, .ref (κ.2.1 20)), (1, .int k1), (2, .int k2), (3, .int k3), (4, .int a.1), (5, .int a.2.1)] → W p l e rmX3_takeFirst s m args below meth c H locs 0 0 Q (F0 m 77 ls []))) (Ex := (fun b : (Int32 × zS) ⊕ (Int32 × zS) => (fun b => Sum.elim (fun b : Int32 × zS => ∀ (H : Heap) (locs : List Loc) (ls : Array Slot), zH wC κ A s b.2 H locs → lv_has ls 7 [(0, .ref (κ.2.1 20)), (1, .int k1), (2, .int k2), (3, .int k3), (4, .int b.1)] → W p l e rmX3_takeFirst s m args below meth c H locs 0 0 Q (F0 m 172 ls [])) (fun b : Int32 × zS => ∀ (H : Heap) (locs : List Loc) (ls : Array Slot), zH wC κ A s b.2 H locs → lv_has ls 7 [(0, .ref (κ.2.1 20)), (1, .int k1), (2, .int k2), (3, .int k3), (4, .int b.1)] → W p l e rmX3_takeFirst s m args below meth c H locs 0 0 Q (F0 m 146 ls [])) b) b)) (fun a r hr Kc Ke H locs ls h hl => wX3_takeFirst_L77_77 C h hl hr (fun v4 v5 σ1 e => Kc (v4, v5, σ1) e) (fun v4 σ1 e => Ke (.inl (v4, σ1)) e) (fun v4 σ1 e => Ke (.inr (v4, σ1)) e)) k0 (u4, u5, σ1) b hb K H locs ls h hl
set_option maxRecDepth 20000 in
set_option maxHeartbeats 4000000 in
theorem wX3_takeFirst_172 {p : Program} {l : Launch} {e : Env} {s : State} {m : MethodId} {args : Array Value} {below : List Frame} {meth : Method} {c : Code} {A : Nat → Prop} {κ : zG} {H : Heap} {locs : List Loc} {ls : Array Slot} {n : Nat} {σ : zS} {x1 : Int32} {x2 : Int32} {x3 : Int32} {x4 : Int32} {r1 : Int32} {r2 : zS} (C : zC cX3_takeFirst 7 (some .int) RX3 κ A p s m args meth c) (h : zH wC κ A s σ H locs) (hl : lv_has ls 7 [(0, .ref (κ.2.1 20)), (1, .int x1), (2, .int x2), (3, .int x3), (4, .int x4)]) (hf : fX3_takeFirst_172 n (κ.2.2.2 0) (κ.2.2.2 1) (κ.2.2.2 2) σ x1 x2 x3 x4 = some (r1, r2)) : W p l e rmX3_takeFirst s m args below meth c H locs 0 0 (MQ below (zQi wC κ A r1 r2) args s 0 0 A) (F0 m 172 ls []) := by
  unfold fX3_takeFirst_172 at hf
  refine lv_aload_n C.ex C.by dX3_takeFirst_172 rfl (lv_at hl 0 rfl) ?_
  refine lv_iload C.ex C.by dX3_takeFirst_173 (lv_at hl 4 rfl) ?_
  refine lv_iload_n C.ex C.by dX3_takeFirst_175 rfl (lv_at hl 2 rfl) ?_
  refine lv_iload_n C.ex C.by dX3_takeFirst_176 rfl (lv_at hl 3 rfl) ?_
  obtain ⟨q21, e22, hf⟩ := zb_some hf
  refine z_callVv (As := [.int x4, .int x2, .int x3]) C h (ctX3_put e22) (zgV lkC84 lkC85 lkC86 lkC40 lkC87) ⟨rfl, rfl⟩ hdX3_put ⟨Nat.le_of_ble_eq_true rfl, Nat.le_of_ble_eq_true rfl⟩ 20 (wC_at20 κ _) rfl hl rfl rfl (Nat.le_of_ble_eq_true rfl) dX3_takeFirst_177 ⟨Nat.zero_le _, Nat.zero_le _⟩ (fun H locs h => ?_)
  refine lv_iload_n C.ex C.by dX3_takeFirst_180 rfl (lv_at hl 1 rfl) ?_
  cases hf
  exact z_iret C h dX3_takeFirst_181
set_option maxRecDepth 20000 in
set_option maxHeartbeats 4000000 in
theorem wX3_takeFirst_0 {p : Program} {l : Launch} {e : Env} {s : State} {m : MethodId} {args : Array Value} {below : List Frame} {meth : Method} {c : Code} {A : Nat → Prop} {κ : zG} {H : Heap} {locs : List Loc} {ls : Array Slot} {n : Nat} {σ : zS} {r1 : Int32} {r2 : zS} (C : zC cX3_takeFirst 7 (some .int) RX3 κ A p s m args meth c) (h : zH wC κ A s σ H locs) (hl : lv_has ls 7 [(0, .ref (κ.2.1 20))]) (hf : fX3_takeFirst_0 n (κ.2.2.2 0) (κ.2.2.2 1) (κ.2.2.2 2) σ = some (r1, r2)) : W p l e rmX3_takeFirst s m args below meth c H locs 0 0 (MQ below (zQi wC κ A r1 r2) args s 0 0 A) (F0 m 0 ls []) := by
  unfold fX3_takeFirst_0 at hf
  refine lv_aload_n C.ex C.by dX3_takeFirst_0 rfl (lv_at hl 0 rfl) ?_
  refine z_get (v := .int (zI σ 28)) C h iwX3 20 (wC_at20 κ _) rfl 4 (by decide) lkC36 rfl dX3_takeFirst_1 ?_
  refine lv_iconst (v := 1) C.ex C.by dX3_takeFirst_4 (by decide) ?_
  refine lv_icmp_lt (tgt := 32) C.ex C.by dX3_takeFirst_5 (by decide) (fun c1 => ?_) (fun c1 => ?_)
  · have hf := zif_t c1 hf
    refine lv_iconst (v := (-1)) C.ex C.by dX3_takeFirst_32 (by decide) ?_
    cases hf
    exact z_iret C h dX3_takeFirst_33
  · have hf := zif_f c1 hf
    refine lv_aload_n C.ex C.by dX3_takeFirst_8 rfl (lv_at hl 0 rfl) ?_
    refine z_get (v := .int (zI σ 28)) C h iwX3 20 (wC_at20 κ _) rfl 4 (by decide) lkC36 rfl dX3_takeFirst_9 ?_
    refine lv_aload_n C.ex C.by dX3_takeFirst_12 rfl (lv_at hl 0 rfl) ?_
    refine z_get (v := .ref (κ.2.1 21)) C h iwX3 20 (wC_at20 κ _) rfl 2 (by decide) lkC62 rfl dX3_takeFirst_13 ?_
    refine z_alen (t0 := 0) C h 21 (wC_at21 κ _) rfl dX3_takeFirst_16 ?_
    refine lv_icmp_gt (tgt := 32) C.ex C.by dX3_takeFirst_17 (by decide) (fun c2 => ?_) (fun c2 => ?_)
    · have hf := zif_t c2 hf
      refine lv_iconst (v := (-1)) C.ex C.by dX3_takeFirst_32 (by decide) ?_
      cases hf
      exact z_iret C h dX3_takeFirst_33
    · have hf := zif_f c2 hf
      refine lv_aload_n C.ex C.by dX3_takeFirst_20 rfl (lv_at hl 0 rfl) ?_
      refine z_get (v := .int (zI σ 28)) C h iwX3 20 (wC_at20 κ _) rfl 4 (by decide) lkC36 rfl dX3_takeFirst_21 ?_
      refine lv_aload_n C.ex C.by dX3_takeFirst_24 rfl (lv_at hl 0 rfl) ?_
      refine z_get (v := .ref (κ.2.1 22)) C h iwX3 20 (wC_at20 κ _) rfl 3 (by decide) lkC63 rfl dX3_takeFirst_25 ?_
      refine z_alen (t0 := 0) C h 22 (wC_at22 κ _) rfl dX3_takeFirst_28 ?_
      refine lv_icmp_le (tgt := 34) C.ex C.by dX3_takeFirst_29 (by decide) (fun c3 => ?_) (fun c3 => ?_)
      · have hf := zif_t c3 hf
        refine lv_aload_n C.ex C.by dX3_takeFirst_34 rfl (lv_at hl 0 rfl) ?_
        refine z_get (v := .ref (κ.2.1 21)) C h iwX3 20 (wC_at20 κ _) rfl 2 (by decide) lkC62 rfl dX3_takeFirst_35 ?_
        refine lv_iconst (v := 0) C.ex C.by dX3_takeFirst_38 (by decide) ?_
        obtain ⟨h4, hf⟩ := zg_some hf
        refine z_iald (f := (zA σ 8)) C h 21 (wC_at21 κ _) h4 dX3_takeFirst_39 ?_
        refine lv_istore_n (lv' := [(1, .int ((zA σ 8) (Int32.toNatClampNeg 0))), (0, .ref (κ.2.1 20))]) C.ex C.by dX3_takeFirst_40 rfl hl (by decide) rfl (fun ls hl => ?_)
        refine lv_aload_n C.ex C.by dX3_takeFirst_41 rfl (lv_at hl 1 rfl) ?_
        refine lv_dup C.ex C.by dX3_takeFirst_42 rfl ?_
        refine z_get (v := .int (zI σ 28)) C h iwX3 20 (wC_at20 κ _) rfl 4 (by decide) lkC36 rfl dX3_takeFirst_43 ?_
        refine lv_iconst (v := 1) C.ex C.by dX3_takeFirst_46 (by decide) ?_
        refine lv_isub C.ex C.by dX3_takeFirst_47 ?_
        refine z_put C h iwX3 tyX3_ok nmX3 20 (wC_at20 κ _) rfl 4 (by decide) lkC36 rfl rfl rfl (Nat.le_of_ble_eq_true rfl) (sI σ 28 ((zI σ 28) - 1)) (wC_s20_4 κ _ _) dX3_takeFirst_48 (fun H locs h => ?_)
        refine lv_aload_n C.ex C.by dX3_takeFirst_51 rfl (lv_at hl 1 rfl) ?_
        refine z_get (v := .ref (κ.2.1 21)) C h iwX3 20 (wC_at20 κ _) rfl 2 (by decide) lkC62 rfl dX3_takeFirst_52 ?_
        refine lv_aload_n C.ex C.by dX3_takeFirst_55 rfl (lv_at hl 1 rfl) ?_
        refine z_get (v := .int ((zI σ 28) - 1)) C h iwX3 20 (wC_at20 κ _) rfl 4 (by decide) lkC36 rfl dX3_takeFirst_56 ?_
        obtain ⟨h5, hf⟩ := zg_some hf
        refine z_iald (f := (zA σ 8)) C h 21 (wC_at21 κ _) h5 dX3_takeFirst_59 ?_
        refine lv_istore_n (lv' := [(2, .int ((zA σ 8) (Int32.toNatClampNeg ((zI σ 28) - 1)))), (1, .int ((zA σ 8) (Int32.toNatClampNeg 0))), (0, .ref (κ.2.1 20))]) C.ex C.by dX3_takeFirst_60 rfl hl (by decide) rfl (fun ls hl => ?_)
        refine lv_aload_n C.ex C.by dX3_takeFirst_61 rfl (lv_at hl 2 rfl) ?_
        refine z_get (v := .ref (κ.2.1 22)) C h iwX3 20 (wC_at20 κ _) rfl 3 (by decide) lkC63 rfl dX3_takeFirst_62 ?_
        refine lv_aload_n C.ex C.by dX3_takeFirst_65 rfl (lv_at hl 2 rfl) ?_
        refine z_get (v := .int ((zI σ 28) - 1)) C h iwX3 20 (wC_at20 κ _) rfl 4 (by decide) lkC36 rfl dX3_takeFirst_66 ?_
        obtain ⟨h6, hf⟩ := zg_some hf
        refine z_iald (f := (zA σ 9)) C h 22 (wC_at22 κ _) h6 dX3_takeFirst_69 ?_
        refine lv_istore_n (lv' := [(3, .int ((zA σ 9) (Int32.toNatClampNeg ((zI σ 28) - 1)))), (2, .int ((zA σ 8) (Int32.toNatClampNeg ((zI σ 28) - 1)))), (1, .int ((zA σ 8) (Int32.toNatClampNeg 0))), (0, .ref (κ.2.1 20))]) C.ex C.by dX3_takeFirst_70 rfl hl (by decide) rfl (fun ls hl => ?_)
        refine lv_iconst (v := 0) C.ex C.by dX3_takeFirst_71 (by decide) ?_
        refine lv_istore (lv' := [(4, .int 0), (3, .int ((zA σ 9) (Int32.toNatClampNeg ((zI σ 28) - 1)))), (2, .int ((zA σ 8) (Int32.toNatClampNeg ((zI σ 28) - 1)))), (1, .int ((zA σ 8) (Int32.toNatClampNeg 0))), (0, .ref (κ.2.1 20))]) C.ex C.by dX3_takeFirst_72 hl (by decide) rfl (fun ls hl => ?_)
        refine lv_iconst (v := 1) C.ex C.by dX3_takeFirst_74 (by decide) ?_
        refine lv_istore (lv' := [(5, .int 1), (4, .int 0), (3, .int ((zA σ 9) (Int32.toNatClampNeg ((zI σ 28) - 1)))), (2, .int ((zA σ 8) (Int32.toNatClampNeg ((zI σ 28) - 1)))), (1, .int ((zA σ 8) (Int32.toNatClampNeg 0))), (0, .ref (κ.2.1 20))]) C.ex C.by dX3_takeFirst_75 hl (by decide) rfl (fun ls hl => ?_)
        obtain ⟨b19, e20, hf⟩ := zb_some hf
        refine wlX3_takeFirst_77 C h (lv_sub hl [5, 4, 3, 2, 1, 0] rfl) b19 e20 ?_
        rcases b19 with b19 | b19
        · dsimp only [Sum.elim_inl] at hf
          intro H locs ls h hl
          exact wX3_takeFirst_172 C h hl hf
        · dsimp only [Sum.elim_inr] at hf
          intro H locs ls h hl
          refine lv_goto (tgt := 172) C.ex C.by dX3_takeFirst_146 (by decide) ?_
          exact wX3_takeFirst_172 C h hl hf
      · have hf := zif_f c3 hf
        refine lv_iconst (v := (-1)) C.ex C.by dX3_takeFirst_32 (by decide) ?_
        cases hf
        exact z_iret C h dX3_takeFirst_33
theorem ctX3_takeFirst {l : Launch} {κ : zG} {n : Nat} {σ : zS} {r1 : Int32} {r2 : zS} (hf : fX3_takeFirst_0 n (κ.2.2.2 0) (κ.2.2.2 1) (κ.2.2.2 2) σ = some (r1, r2)) : zMi l yX3_takeFirst (Cond.code yX3_takeFirst cX3_takeFirst 7 (some .int)) rmX3_takeFirst wC κ [.ref (κ.2.1 20)] σ r1 r2 :=
  zMi_of (by decide) (Nat.le_of_ble_eq_true rfl) (fun p e s m below meth c A C h ls hl => wX3_takeFirst_0 C h hl hf)
theorem hdX5_isAlike : yX5_isAlike.cls = RX5 ∧ yX5_isAlike.cls ≠ "java/lang/invoke/MethodHandle" ∧ yX5_isAlike.cls ≠ "java/lang/invoke/VarHandle" ∧ (parseMethodDescriptor yX5_isAlike.desc).map (fun d => d.parameters.length) = some 2 := by decide +kernel
abbrev rmX5_isAlike : Room := { frames := 2, cells := 0, slots := 0, locals := 51 }
set_option maxRecDepth 20000 in
set_option maxHeartbeats 4000000 in
theorem wX5_isAlike_0 {p : Program} {l : Launch} {e : Env} {s : State} {m : MethodId} {args : Array Value} {below : List Frame} {meth : Method} {c : Code} {A : Nat → Prop} {κ : zG} {H : Heap} {locs : List Loc} {ls : Array Slot} {n : Nat} {σ : zS} {x1 : Int32} {x2 : Int32} {r : Int32} (C : zC cX5_isAlike 3 (some .boolean) RX5 κ A p s m args meth c) (h : zH wC κ A s σ H locs) (hl : lv_has ls 3 [(0, .ref (κ.2.1 4)), (1, .int x1), (2, .int x2)]) (hf : fX5_isAlike_0 n (κ.2.2.2 0) (κ.2.2.2 1) (κ.2.2.2 2) σ x1 x2 = some r) : W p l e rmX5_isAlike s m args below meth c H locs 0 0 (MQ below (zQi wC κ A r σ) args s 0 0 A) (F0 m 0 ls []) := by
  unfold fX5_isAlike_0 at hf
  refine lv_aload_n C.ex C.by dX5_isAlike_0 rfl (lv_at hl 0 rfl) ?_
  refine lv_iload_n C.ex C.by dX5_isAlike_1 rfl (lv_at hl 1 rfl) ?_
  refine lv_iload_n C.ex C.by dX5_isAlike_2 rfl (lv_at hl 2 rfl) ?_
  obtain ⟨q1, e2, hf⟩ := zb_some hf
  refine z_callVi (As := [.int x1, .int x2]) C h (ctX5_compareKeys e2) (zgV lkC71 lkC72 lkC73 lkC74 lkC75) ⟨rfl, rfl⟩ hdX5_compareKeys ⟨Nat.le_of_ble_eq_true rfl, Nat.le_of_ble_eq_true rfl⟩ 4 (wC_at4 κ _) rfl hl rfl rfl (Nat.le_of_ble_eq_true rfl) dX5_isAlike_3 ⟨Nat.zero_le _, Nat.zero_le _⟩ (fun H locs h => ?_)
  refine lv_if_ne (tgt := 13) C.ex C.by dX5_isAlike_6 (by decide) (fun c3 => ?_) (fun c3 => ?_)
  · have hf := zif_f c3 hf
    refine lv_iconst (v := 0) C.ex C.by dX5_isAlike_13 (by decide) ?_
    cases hf
    exact z_zret (r := 0) C h rfl dX5_isAlike_14
  · have hf := zif_t c3 hf
    refine lv_iconst (v := 1) C.ex C.by dX5_isAlike_9 (by decide) ?_
    refine lv_goto (tgt := 14) C.ex C.by dX5_isAlike_10 (by decide) ?_
    cases hf
    exact z_zret (r := 1) C h rfl dX5_isAlike_14
theorem ctX5_isAlike {l : Launch} {κ : zG} {n : Nat} {σ : zS} {x1 : Int32} {x2 : Int32} {r : Int32} (hf : fX5_isAlike_0 n (κ.2.2.2 0) (κ.2.2.2 1) (κ.2.2.2 2) σ x1 x2 = some r) : zMi l yX5_isAlike (Cond.code yX5_isAlike cX5_isAlike 3 (some .boolean)) rmX5_isAlike wC κ [.ref (κ.2.1 4), .int x1, .int x2] σ r σ :=
  zMi_of (by decide) (Nat.le_of_ble_eq_true rfl) (fun p e s m below meth c A C h ls hl => wX5_isAlike_0 C h hl hf)
theorem hdX7_addToWaiting : yX7_addToWaiting.cls = RX7 ∧ yX7_addToWaiting.cls ≠ "java/lang/invoke/MethodHandle" ∧ yX7_addToWaiting.cls ≠ "java/lang/invoke/VarHandle" ∧ (parseMethodDescriptor yX7_addToWaiting.desc).map (fun d => d.parameters.length) = some 1 := by decide +kernel
abbrev rmX7_addToWaiting : Room := { frames := 0, cells := 0, slots := 0, locals := 0 }
set_option maxRecDepth 20000 in
set_option maxHeartbeats 4000000 in
theorem wX7_addToWaiting_0 {p : Program} {l : Launch} {e : Env} {s : State} {m : MethodId} {args : Array Value} {below : List Frame} {meth : Method} {c : Code} {A : Nat → Prop} {κ : zG} {H : Heap} {locs : List Loc} {ls : Array Slot} {n : Nat} {σ : zS} {x1 : Int64} {r : zS} (C : zC cX7_addToWaiting 4 none RX7 κ A p s m args meth c) (h : zH wC κ A s σ H locs) (hl : lv_has ls 4 [(0, .ref (κ.2.1 14)), (1, .long x1)]) (hf : fX7_addToWaiting_0 n (κ.2.2.2 0) (κ.2.2.2 1) (κ.2.2.2 2) σ x1 = some r) : W p l e rmX7_addToWaiting s m args below meth c H locs 0 0 (MQ below (zQv wC κ A r) args s 0 0 A) (F0 m 0 ls []) := by
  unfold fX7_addToWaiting_0 at hf
  refine lv_aload_n C.ex C.by dX7_addToWaiting_0 rfl (lv_at hl 0 rfl) ?_
  refine z_get (v := .int (zI σ 20)) C h iwX7 14 (wC_at14 κ _) rfl 8 (by decide) lkC116 rfl dX7_addToWaiting_1 ?_
  refine lv_aload_n C.ex C.by dX7_addToWaiting_4 rfl (lv_at hl 0 rfl) ?_
  refine z_get (v := .ref (κ.2.1 4)) C h iwX7 14 (wC_at14 κ _) rfl 1 (by decide) lkC108 rfl dX7_addToWaiting_5 ?_
  refine z_getN (v := .int (zI σ 10)) C h iwX5 4 (wC_at4 κ _) rfl 5 (by decide) nkC11 rfl dX7_addToWaiting_8 ?_
  refine lv_imul C.ex C.by dX7_addToWaiting_11 ?_
  refine lv_aload_n C.ex C.by dX7_addToWaiting_12 rfl (lv_at hl 0 rfl) ?_
  refine z_get (v := .ref (κ.2.1 4)) C h iwX7 14 (wC_at14 κ _) rfl 1 (by decide) lkC108 rfl dX7_addToWaiting_13 ?_
  refine z_getN (v := .int (zI σ 9)) C h iwX5 4 (wC_at4 κ _) rfl 4 (by decide) nkC10 rfl dX7_addToWaiting_16 ?_
  refine lv_iadd C.ex C.by dX7_addToWaiting_19 ?_
  refine lv_iconst (v := 1) C.ex C.by dX7_addToWaiting_20 (by decide) ?_
  refine lv_isub C.ex C.by dX7_addToWaiting_21 ?_
  refine lv_istore_n (lv' := [(3, .int ((((zI σ 20) * (zI σ 10)) + (zI σ 9)) - 1)), (0, .ref (κ.2.1 14)), (1, .long x1)]) C.ex C.by dX7_addToWaiting_22 rfl hl (by decide) rfl (fun ls hl => ?_)
  refine lv_iload_n C.ex C.by dX7_addToWaiting_23 rfl (lv_at hl 0 rfl) ?_
  refine lv_if_lt (tgt := 46) C.ex C.by dX7_addToWaiting_24 (by decide) (fun c1 => ?_) (fun c1 => ?_)
  · have hf := zif_t c1 hf
    cases hf
    exact z_vret C h dX7_addToWaiting_46
  · have hf := zif_f c1 hf
    refine lv_iload_n C.ex C.by dX7_addToWaiting_27 rfl (lv_at hl 0 rfl) ?_
    refine lv_aload_n C.ex C.by dX7_addToWaiting_28 rfl (lv_at hl 1 rfl) ?_
    refine z_get (v := .ref (κ.2.1 15)) C h iwX7 14 (wC_at14 κ _) rfl 3 (by decide) lkC117 rfl dX7_addToWaiting_29 ?_
    refine z_alen (t0 := 1) C h 15 (wC_at15 κ _) rfl dX7_addToWaiting_32 ?_
    refine lv_icmp_ge (tgt := 46) C.ex C.by dX7_addToWaiting_33 (by decide) (fun c2 => ?_) (fun c2 => ?_)
    · have hf := zif_t c2 hf
      cases hf
      exact z_vret C h dX7_addToWaiting_46
    · have hf := zif_f c2 hf
      refine lv_aload_n C.ex C.by dX7_addToWaiting_36 rfl (lv_at hl 1 rfl) ?_
      refine z_get (v := .ref (κ.2.1 15)) C h iwX7 14 (wC_at14 κ _) rfl 3 (by decide) lkC117 rfl dX7_addToWaiting_37 ?_
      refine lv_iload_n C.ex C.by dX7_addToWaiting_40 rfl (lv_at hl 0 rfl) ?_
      refine lv_dup2_11 C.ex C.by dX7_addToWaiting_41 rfl rfl ?_
      obtain ⟨h3, hf⟩ := zg_some hf
      refine z_lald (f := (zL σ 2)) C h 15 (wC_at15 κ _) h3 dX7_addToWaiting_42 ?_
      refine lv_lload_n C.ex C.by dX7_addToWaiting_43 rfl (lv_at hl 2 rfl) ?_
      refine lv_ladd C.ex C.by dX7_addToWaiting_44 ?_
      obtain ⟨h4, hf⟩ := zg_some hf
      refine z_last (f := (zL σ 2)) C h 15 (wC_at15 κ _) h4 (sL σ 2 (vp_updL (zL σ 2) (Int32.toNatClampNeg ((((zI σ 20) * (zI σ 10)) + (zI σ 9)) - 1)) (((zL σ 2) (Int32.toNatClampNeg ((((zI σ 20) * (zI σ 10)) + (zI σ 9)) - 1))) + x1))) (wC_s15 κ _ _) dX7_addToWaiting_45 (fun H locs h => ?_)
      cases hf
      exact z_vret C h dX7_addToWaiting_46
theorem ctX7_addToWaiting {l : Launch} {κ : zG} {n : Nat} {σ : zS} {x1 : Int64} {r : zS} (hf : fX7_addToWaiting_0 n (κ.2.2.2 0) (κ.2.2.2 1) (κ.2.2.2 2) σ x1 = some r) : zMv l yX7_addToWaiting (Cond.code yX7_addToWaiting cX7_addToWaiting 4 none) rmX7_addToWaiting wC κ [.ref (κ.2.1 14), .long x1] σ r :=
  zMv_of (by decide) (Nat.le_of_ble_eq_true rfl) (fun p e s m below meth c A C h ls hl => wX7_addToWaiting_0 C h hl hf)
theorem hdX0_leastFree : yX0_leastFree.cls = RX0 ∧ yX0_leastFree.cls ≠ "java/lang/invoke/MethodHandle" ∧ yX0_leastFree.cls ≠ "java/lang/invoke/VarHandle" ∧ (parseMethodDescriptor yX0_leastFree.desc).map (fun d => d.parameters.length) = some 0 := by decide +kernel
abbrev rmX0_leastFree : Room := { frames := 0, cells := 0, slots := 0, locals := 0 }
set_option maxRecDepth 20000 in
set_option maxHeartbeats 4000000 in
theorem wX0_leastFree_L2_2 {p : Program} {l : Launch} {e : Env} {s : State} {m : MethodId} {args : Array Value} {below : List Frame} {meth : Method} {c : Code} {A : Nat → Prop} {κ : zG} {H : Heap} {locs : List Loc} {ls : Array Slot} {Q : State → Prop} {n : Nat} {σ : zS} {a : Int32} {r : (Int32) ⊕ ((Unit) ⊕ (Int32))} (C : zC cX0_leastFree 2 (some .int) RX0 κ A p s m args meth c) (h : zH wC κ A s σ H locs) (hl : lv_has ls 2 [(0, .ref (κ.2.1 1)), (1, .int a)]) (hf : fX0_leastFree_L2_2 n (κ.2.2.2 0) (κ.2.2.2 1) (κ.2.2.2 2) σ a = some r) (Kc : ∀ (v1 : Int32), r = .inl v1 → ∀ (H : Heap) (locs : List Loc) (ls : Array Slot), zH wC κ A s σ H locs → lv_has ls 2 [(0, .ref (κ.2.1 1)), (1, .int v1)] → W p l e rmX0_leastFree s m args below meth c H locs 0 0 Q (F0 m 2 ls [])) (Ke0 : ∀ (_ : Unit), r = .inr (.inl ()) → ∀ (H : Heap) (locs : List Loc) (ls : Array Slot), zH wC κ A s σ H locs → lv_has ls 2 [(0, .ref (κ.2.1 1))] → W p l e rmX0_leastFree s m args below meth c H locs 0 0 Q (F0 m 28 ls [])) (Ke1 : ∀ (v1 : Int32), r = .inr (.inr v1) → ∀ (H : Heap) (locs : List Loc) (ls : Array Slot), zH wC κ A s σ H locs → lv_has ls 2 [(0, .ref (κ.2.1 1)), (1, .int v1)] → W p l e rmX0_leastFree s m args below meth c H locs 0 0 Q (F0 m 20 ls [])) : W p l e rmX0_leastFree s m args below meth c H locs 0 0 Q (F0 m 2 ls []) := by
  unfold fX0_leastFree_L2_2 at hf
  refine lv_iload_n C.ex C.by dX0_leastFree_2 rfl (lv_at hl 1 rfl) ?_
  refine lv_aload_n C.ex C.by dX0_leastFree_3 rfl (lv_at hl 0 rfl) ?_
  refine z_get (v := .ref (κ.2.1 3)) C h iwX0 1 (wC_at1 κ _) rfl 2 (by decide) lkC124 rfl dX0_leastFree_4 ?_
  refine z_alen (t0 := 2) C h 3 (wC_at3 κ _) rfl dX0_leastFree_7 ?_
  refine lv_icmp_ge (tgt := 28) C.ex C.by dX0_leastFree_8 (by decide) (fun c1 => ?_) (fun c1 => ?_)
  · have hf := zif_t c1 hf
    exact Ke0 () (Option.some.inj hf).symm _ _ _ h (lv_sub hl [0] rfl)
  · have hf := zif_f c1 hf
    refine lv_aload_n C.ex C.by dX0_leastFree_11 rfl (lv_at hl 0 rfl) ?_
    refine z_get (v := .ref (κ.2.1 3)) C h iwX0 1 (wC_at1 κ _) rfl 2 (by decide) lkC124 rfl dX0_leastFree_12 ?_
    refine lv_iload_n C.ex C.by dX0_leastFree_15 rfl (lv_at hl 1 rfl) ?_
    obtain ⟨h2, hf⟩ := zg_some hf
    refine z_zald (f := (zA σ 0)) C h 3 (wC_at3 κ _) h2 dX0_leastFree_16 ?_
    refine lv_if_ne (tgt := 22) C.ex C.by dX0_leastFree_17 (by decide) (fun c3 => ?_) (fun c3 => ?_)
    · have hf := zif_f c3 hf
      refine lv_iinc (v := (a + 1)) (lv' := [(1, .int (a + 1)), (0, .ref (κ.2.1 1))]) C.ex C.by dX0_leastFree_22 hl (k := 1) rfl rfl (by decide) rfl (fun ls hl => ?_)
      refine lv_goto (tgt := 2) C.ex C.by dX0_leastFree_25 (by decide) ?_
      exact Kc _ (Option.some.inj hf).symm _ _ _ h (lv_sub hl [1, 0] rfl)
    · have hf := zif_t c3 hf
      exact Ke1 _ (Option.some.inj hf).symm _ _ _ h hl
theorem wlX0_leastFree_2 {p : Program} {l : Launch} {e : Env} {s : State} {m : MethodId} {args : Array Value} {below : List Frame} {meth : Method} {c : Code} {A : Nat → Prop} {κ : zG} {H : Heap} {locs : List Loc} {ls : Array Slot} {Q : State → Prop} {n : Nat} {σ : zS} {k0 : Nat} {u1 : Int32} (C : zC cX0_leastFree 2 (some .int) RX0 κ A p s m args meth c) (h : zH wC κ A s σ H locs) (hl : lv_has ls 2 [(0, .ref (κ.2.1 1)), (1, .int u1)]) (b : (Unit) ⊕ (Int32)) (hb : zlp (fX0_leastFree_L2_2 n (κ.2.2.2 0) (κ.2.2.2 1) (κ.2.2.2 2) σ) k0 u1 = some b) (K : (fun b => Sum.elim (fun b : Unit => ∀ (H : Heap) (locs : List Loc) (ls : Array Slot), zH wC κ A s σ H locs → lv_has ls 2 [(0, .ref (κ.2.1 1))] → W p l e rmX0_leastFree s m args below meth c H locs 0 0 Q (F0 m 28 ls [])) (fun b : Int32 => ∀ (H : Heap) (locs : List Loc) (ls : Array Slot), zH wC κ A s σ H locs → lv_has ls 2 [(0, .ref (κ.2.1 1)), (1, .int b)] → W p l e rmX0_leastFree s m args below meth c H locs 0 0 Q (F0 m 20 ls [])) b) b) : W p l e rmX0_leastFree s m args below meth c H locs 0 0 Q (F0 m 2 ls []) :=
  z_loop (body := fX0_leastFree_L2_2 n (κ.2.2.2 0) (κ.2.2.2 1) (κ.2.2.2 2) σ) (Wd := (fun a : Int32 => ∀ (H : Heap) (locs : List Loc) (ls : Array Slot), zH wC κ A s σ H locs → lv_has ls 2 [(0, .ref (κ.2.1 1)), (1, .int a)] → W p l e rmX0_leastFree s m args below meth c H locs 0 0 Q (F0 m 2 ls []))) (Ex := (fun b : (Unit) ⊕ (Int32) => (fun b => Sum.elim (fun b : Unit => ∀ (H : Heap) (locs : List Loc) (ls : Array Slot), zH wC κ A s σ H locs → lv_has ls 2 [(0, .ref (κ.2.1 1))] → W p l e rmX0_leastFree s m args below meth c H locs 0 0 Q (F0 m 28 ls [])) (fun b : Int32 => ∀ (H : Heap) (locs : List Loc) (ls : Array Slot), zH wC κ A s σ H locs → lv_has ls 2 [(0, .ref (κ.2.1 1)), (1, .int b)] → W p l e rmX0_leastFree s m args below meth c H locs 0 0 Q (F0 m 20 ls [])) b) b)) (fun a r hr Kc Ke H locs ls h hl => wX0_leastFree_L2_2 C h hl hr (fun v1 e => Kc v1 e) (fun _ e => Ke (.inl ()) e) (fun v1 e => Ke (.inr v1) e)) k0 u1 b hb K H locs ls h hl
set_option maxRecDepth 20000 in
set_option maxHeartbeats 4000000 in
theorem wX0_leastFree_0 {p : Program} {l : Launch} {e : Env} {s : State} {m : MethodId} {args : Array Value} {below : List Frame} {meth : Method} {c : Code} {A : Nat → Prop} {κ : zG} {H : Heap} {locs : List Loc} {ls : Array Slot} {n : Nat} {σ : zS} {r : Int32} (C : zC cX0_leastFree 2 (some .int) RX0 κ A p s m args meth c) (h : zH wC κ A s σ H locs) (hl : lv_has ls 2 [(0, .ref (κ.2.1 1))]) (hf : fX0_leastFree_0 n (κ.2.2.2 0) (κ.2.2.2 1) (κ.2.2.2 2) σ = some r) : W p l e rmX0_leastFree s m args below meth c H locs 0 0 (MQ below (zQi wC κ A r σ) args s 0 0 A) (F0 m 0 ls []) := by
  unfold fX0_leastFree_0 at hf
  refine lv_iconst (v := 0) C.ex C.by dX0_leastFree_0 (by decide) ?_
  refine lv_istore_n (lv' := [(1, .int 0), (0, .ref (κ.2.1 1))]) C.ex C.by dX0_leastFree_1 rfl hl (by decide) rfl (fun ls hl => ?_)
  obtain ⟨b4, e5, hf⟩ := zb_some hf
  refine wlX0_leastFree_2 C h (lv_sub hl [1, 0] rfl) b4 e5 ?_
  rcases b4 with b4 | b4
  · dsimp only [Sum.elim_inl] at hf
    intro H locs ls h hl
    refine lv_iconst (v := (-1)) C.ex C.by dX0_leastFree_28 (by decide) ?_
    cases hf
    exact z_iret C h dX0_leastFree_29
  · dsimp only [Sum.elim_inr] at hf
    intro H locs ls h hl
    refine lv_iload_n C.ex C.by dX0_leastFree_20 rfl (lv_at hl 1 rfl) ?_
    cases hf
    exact z_iret C h dX0_leastFree_21
theorem ctX0_leastFree {l : Launch} {κ : zG} {n : Nat} {σ : zS} {r : Int32} (hf : fX0_leastFree_0 n (κ.2.2.2 0) (κ.2.2.2 1) (κ.2.2.2 2) σ = some r) : zMi l yX0_leastFree (Cond.code yX0_leastFree cX0_leastFree 2 (some .int)) rmX0_leastFree wC κ [.ref (κ.2.1 1)] σ r σ :=
  zMi_of (by decide) (Nat.le_of_ble_eq_true rfl) (fun p e s m below meth c A C h ls hl => wX0_leastFree_0 C h hl hf)
theorem hdX0_store : yX0_store.cls = RX0 ∧ yX0_store.cls ≠ "java/lang/invoke/MethodHandle" ∧ yX0_store.cls ≠ "java/lang/invoke/VarHandle" ∧ (parseMethodDescriptor yX0_store.desc).map (fun d => d.parameters.length) = some 2 := by decide +kernel
abbrev rmX0_store_p15 : Room := { frames := 1, cells := 0, slots := 0, locals := 21 }
set_option maxRecDepth 20000 in
set_option maxHeartbeats 4000000 in
theorem wX0_store_p15_L84_84 {p : Program} {l : Launch} {e : Env} {s : State} {m : MethodId} {args : Array Value} {below : List Frame} {meth : Method} {c : Code} {A : Nat → Prop} {κ : zG} {H : Heap} {locs : List Loc} {ls : Array Slot} {Q : State → Prop} {n : Nat} {k2 : Int32} {k3 : Int32} {k4 : Int32} {a : Int32 × zS} {r : (Int32 × zS) ⊕ (zS)} (C : zC cX0_store 6 (some .int) RX0 κ A p s m args meth c) (h : zH wC κ A s a.2 H locs) (hl : lv_has ls 6 [(0, .ref (κ.2.1 1)), (1, .ref (κ.2.1 15)), (2, .int k2), (3, .int k3), (4, .int k4), (5, .int a.1)]) (hf : fX0_store_p15_L84_84 n (κ.2.2.2 0) (κ.2.2.2 1) (κ.2.2.2 2) k2 k3 k4 a = some r) (Kc : ∀ (v5 : Int32) (σ1 : zS), r = .inl (v5, σ1) → ∀ (H : Heap) (locs : List Loc) (ls : Array Slot), zH wC κ A s σ1 H locs → lv_has ls 6 [(0, .ref (κ.2.1 1)), (1, .ref (κ.2.1 15)), (2, .int k2), (3, .int k3), (4, .int k4), (5, .int v5)] → W p l e rmX0_store_p15 s m args below meth c H locs 0 0 Q (F0 m 84 ls [])) (Ke0 : ∀ (σ1 : zS), r = .inr σ1 → ∀ (H : Heap) (locs : List Loc) (ls : Array Slot), zH wC κ A s σ1 H locs → lv_has ls 6 [(0, .ref (κ.2.1 1)), (3, .int k3)] → W p l e rmX0_store_p15 s m args below meth c H locs 0 0 Q (F0 m 130 ls [])) : W p l e rmX0_store_p15 s m args below meth c H locs 0 0 Q (F0 m 84 ls []) := by
  unfold fX0_store_p15_L84_84 at hf
  refine lv_iload C.ex C.by dX0_store_84 (lv_at hl 5 rfl) ?_
  refine lv_iload_n C.ex C.by dX0_store_86 rfl (lv_at hl 2 rfl) ?_
  refine lv_icmp_ge (tgt := 130) C.ex C.by dX0_store_87 (by decide) (fun c10 => ?_) (fun c10 => ?_)
  · have hf := zif_t c10 hf
    exact Ke0 _ (Option.some.inj hf).symm _ _ _ h (lv_sub hl [0, 3] rfl)
  · have hf := zif_f c10 hf
    refine lv_iload C.ex C.by dX0_store_90 (lv_at hl 5 rfl) ?_
    refine lv_aload_n C.ex C.by dX0_store_92 rfl (lv_at hl 1 rfl) ?_
    refine z_alen (t0 := 1) C h 15 (wC_at15 κ _) rfl dX0_store_93 ?_
    refine lv_icmp_ge (tgt := 130) C.ex C.by dX0_store_94 (by decide) (fun c11 => ?_) (fun c11 => ?_)
    · have hf := zif_t c11 hf
      exact Ke0 _ (Option.some.inj hf).symm _ _ _ h (lv_sub hl [0, 3] rfl)
    · have hf := zif_f c11 hf
      refine lv_iload C.ex C.by dX0_store_97 (lv_at hl 4 rfl) ?_
      refine lv_iload C.ex C.by dX0_store_99 (lv_at hl 5 rfl) ?_
      refine lv_iadd C.ex C.by dX0_store_101 ?_
      refine lv_aload_n C.ex C.by dX0_store_102 rfl (lv_at hl 0 rfl) ?_
      refine z_get (v := .ref (κ.2.1 2)) C h iwX0 1 (wC_at1 κ _) rfl 1 (by decide) lkC30 rfl dX0_store_103 ?_
      refine z_alen (t0 := 1) C h 2 (wC_at2 κ _) rfl dX0_store_106 ?_
      refine lv_icmp_ge (tgt := 130) C.ex C.by dX0_store_107 (by decide) (fun c12 => ?_) (fun c12 => ?_)
      · have hf := zif_t c12 hf
        exact Ke0 _ (Option.some.inj hf).symm _ _ _ h (lv_sub hl [0, 3] rfl)
      · have hf := zif_f c12 hf
        refine lv_aload_n C.ex C.by dX0_store_110 rfl (lv_at hl 0 rfl) ?_
        refine z_get (v := .ref (κ.2.1 2)) C h iwX0 1 (wC_at1 κ _) rfl 1 (by decide) lkC30 rfl dX0_store_111 ?_
        refine lv_iload C.ex C.by dX0_store_114 (lv_at hl 4 rfl) ?_
        refine lv_iload C.ex C.by dX0_store_116 (lv_at hl 5 rfl) ?_
        refine lv_iadd C.ex C.by dX0_store_118 ?_
        refine lv_aload_n C.ex C.by dX0_store_119 rfl (lv_at hl 1 rfl) ?_
        refine lv_iload C.ex C.by dX0_store_120 (lv_at hl 5 rfl) ?_
        obtain ⟨h13, hf⟩ := zg_some hf
        refine z_lald (f := (zL a.2 2)) C h 15 (wC_at15 κ _) h13 dX0_store_122 ?_
        obtain ⟨h14, hf⟩ := zg_some hf
        refine z_last (f := (zL a.2 0)) C h 2 (wC_at2 κ _) h14 (sL a.2 0 (vp_updL (zL a.2 0) (Int32.toNatClampNeg (k4 + a.1)) ((zL a.2 2) (Int32.toNatClampNeg a.1)))) (wC_s2 κ _ _) dX0_store_123 (fun H locs h => ?_)
        refine lv_iinc (v := (a.1 + 1)) (lv' := [(5, .int (a.1 + 1)), (0, .ref (κ.2.1 1)), (1, .ref (κ.2.1 15)), (2, .int k2), (3, .int k3), (4, .int k4)]) C.ex C.by dX0_store_124 hl (k := 5) rfl rfl (by decide) rfl (fun ls hl => ?_)
        refine lv_goto (tgt := 84) C.ex C.by dX0_store_127 (by decide) ?_
        exact Kc _ _ (Option.some.inj hf).symm _ _ _ h (lv_sub hl [1, 2, 3, 4, 5, 0] rfl)
theorem wlX0_store_p15_84 {p : Program} {l : Launch} {e : Env} {s : State} {m : MethodId} {args : Array Value} {below : List Frame} {meth : Method} {c : Code} {A : Nat → Prop} {κ : zG} {H : Heap} {locs : List Loc} {ls : Array Slot} {Q : State → Prop} {n : Nat} {k2 : Int32} {k3 : Int32} {k4 : Int32} {k0 : Nat} {u5 : Int32} {σ1 : zS} (C : zC cX0_store 6 (some .int) RX0 κ A p s m args meth c) (h : zH wC κ A s σ1 H locs) (hl : lv_has ls 6 [(0, .ref (κ.2.1 1)), (1, .ref (κ.2.1 15)), (2, .int k2), (3, .int k3), (4, .int k4), (5, .int u5)]) (b : zS) (hb : zlp (fX0_store_p15_L84_84 n (κ.2.2.2 0) (κ.2.2.2 1) (κ.2.2.2 2) k2 k3 k4) k0 (u5, σ1) = some b) (K : (fun b : zS => ∀ (H : Heap) (locs : List Loc) (ls : Array Slot), zH wC κ A s b H locs → lv_has ls 6 [(0, .ref (κ.2.1 1)), (3, .int k3)] → W p l e rmX0_store_p15 s m args below meth c H locs 0 0 Q (F0 m 130 ls [])) b) : W p l e rmX0_store_p15 s m args below meth c H locs 0 0 Q (F0 m 84 ls []) :=
  z_loop (body := fX0_store_p15_L84_84 n (κ.2.2.2 0) (κ.2.2.2 1) (κ.2.2.2 2) k2 k3 k4) (Wd := (fun a : Int32 × zS => ∀ (H : Heap) (locs : List Loc) (ls : Array Slot), zH wC κ A s a.2 H locs → lv_has ls 6 [(0, .ref (κ.2.1 1)), (1, .ref (κ.2.1 15)), (2, .int k2), (3, .int k3), (4, .int k4), (5, .int a.1)] → W p l e rmX0_store_p15 s m args below meth c H locs 0 0 Q (F0 m 84 ls []))) (Ex := (fun b : zS => (fun b : zS => ∀ (H : Heap) (locs : List Loc) (ls : Array Slot), zH wC κ A s b H locs → lv_has ls 6 [(0, .ref (κ.2.1 1)), (3, .int k3)] → W p l e rmX0_store_p15 s m args below meth c H locs 0 0 Q (F0 m 130 ls [])) b)) (fun a r hr Kc Ke H locs ls h hl => wX0_store_p15_L84_84 C h hl hr (fun v5 σ1 e => Kc (v5, σ1) e) (fun σ1 e => Ke σ1 e)) k0 (u5, σ1) b hb K H locs ls h hl
set_option maxRecDepth 20000 in
set_option maxHeartbeats 4000000 in
theorem wX0_store_p15_51 {p : Program} {l : Launch} {e : Env} {s : State} {m : MethodId} {args : Array Value} {below : List Frame} {meth : Method} {c : Code} {A : Nat → Prop} {κ : zG} {H : Heap} {locs : List Loc} {ls : Array Slot} {n : Nat} {σ : zS} {x2 : Int32} {x3 : Int32} {r1 : Int32} {r2 : zS} (C : zC cX0_store 6 (some .int) RX0 κ A p s m args meth c) (h : zH wC κ A s σ H locs) (hl : lv_has ls 6 [(0, .ref (κ.2.1 1)), (1, .ref (κ.2.1 15)), (2, .int x2), (3, .int x3)]) (hf : fX0_store_p15_51 n (κ.2.2.2 0) (κ.2.2.2 1) (κ.2.2.2 2) σ x2 x3 = some (r1, r2)) : W p l e rmX0_store_p15 s m args below meth c H locs 0 0 (MQ below (zQi wC κ A r1 r2) args s 0 0 A) (F0 m 51 ls []) := by
  unfold fX0_store_p15_51 at hf
  refine lv_aload_n C.ex C.by dX0_store_51 rfl (lv_at hl 0 rfl) ?_
  refine z_get (v := .ref (κ.2.1 3)) C h iwX0 1 (wC_at1 κ _) rfl 2 (by decide) lkC124 rfl dX0_store_52 ?_
  refine lv_iload_n C.ex C.by dX0_store_55 rfl (lv_at hl 3 rfl) ?_
  refine lv_iconst (v := 1) C.ex C.by dX0_store_56 (by decide) ?_
  obtain ⟨h7, hf⟩ := zg_some hf
  refine z_zast (f := (zA σ 0)) C h 3 (wC_at3 κ _) h7 (sA σ 0 (upd (zA σ 0) (Int32.toNatClampNeg x3) (vp_nar .boolean 1))) (wC_s3 κ _ _) dX0_store_57 (fun H locs h => ?_)
  refine lv_aload_n C.ex C.by dX0_store_58 rfl (lv_at hl 0 rfl) ?_
  refine lv_dup C.ex C.by dX0_store_59 rfl ?_
  refine z_get (v := .int (zI σ 3)) C h iwX0 1 (wC_at1 κ _) rfl 4 (by decide) lkC131 rfl dX0_store_60 ?_
  refine lv_iconst (v := 1) C.ex C.by dX0_store_63 (by decide) ?_
  refine lv_iadd C.ex C.by dX0_store_64 ?_
  refine z_put C h iwX0 tyX0_ok nmX0 1 (wC_at1 κ _) rfl 4 (by decide) lkC131 rfl rfl rfl (Nat.le_of_ble_eq_true rfl) (sI (sA σ 0 (upd (zA σ 0) (Int32.toNatClampNeg x3) (vp_nar .boolean 1))) 3 ((zI σ 3) + 1)) (wC_s1_4 κ _ _) dX0_store_65 (fun H locs h => ?_)
  refine lv_aload_n C.ex C.by dX0_store_68 rfl (lv_at hl 0 rfl) ?_
  refine lv_iload_n C.ex C.by dX0_store_69 rfl (lv_at hl 3 rfl) ?_
  obtain ⟨q8, e9, hf⟩ := zb_some hf
  refine z_callVv (As := [.int x3]) C h (ctX0_moveArm e9) (zgV lkC21 lkC22 lkC23 lkC24 lkC25) ⟨rfl, rfl⟩ hdX0_moveArm ⟨Nat.le_of_ble_eq_true rfl, Nat.le_of_ble_eq_true rfl⟩ 1 (wC_at1 κ _) rfl hl rfl rfl (Nat.le_of_ble_eq_true rfl) dX0_store_70 ⟨Nat.zero_le _, Nat.zero_le _⟩ (fun H locs h => ?_)
  refine lv_iload_n C.ex C.by dX0_store_73 rfl (lv_at hl 3 rfl) ?_
  refine lv_aload_n C.ex C.by dX0_store_74 rfl (lv_at hl 0 rfl) ?_
  refine z_get (v := .int (zI q8 1)) C h iwX0 1 (wC_at1 κ _) rfl 0 (by decide) lkC132 rfl dX0_store_75 ?_
  refine lv_imul C.ex C.by dX0_store_78 ?_
  refine lv_istore (lv' := [(4, .int (x3 * (zI q8 1))), (0, .ref (κ.2.1 1)), (1, .ref (κ.2.1 15)), (2, .int x2), (3, .int x3)]) C.ex C.by dX0_store_79 hl (by decide) rfl (fun ls hl => ?_)
  refine lv_iconst (v := 0) C.ex C.by dX0_store_81 (by decide) ?_
  refine lv_istore (lv' := [(5, .int 0), (4, .int (x3 * (zI q8 1))), (0, .ref (κ.2.1 1)), (1, .ref (κ.2.1 15)), (2, .int x2), (3, .int x3)]) C.ex C.by dX0_store_82 hl (by decide) rfl (fun ls hl => ?_)
  obtain ⟨b15, e16, hf⟩ := zb_some hf
  refine wlX0_store_p15_84 C h (lv_sub hl [2, 3, 4, 5, 1, 0] rfl) b15 e16 ?_
  intro H locs ls h hl
  refine lv_iload_n C.ex C.by dX0_store_130 rfl (lv_at hl 1 rfl) ?_
  cases hf
  exact z_iret C h dX0_store_131
set_option maxRecDepth 20000 in
set_option maxHeartbeats 4000000 in
theorem wX0_store_p15_0 {p : Program} {l : Launch} {e : Env} {s : State} {m : MethodId} {args : Array Value} {below : List Frame} {meth : Method} {c : Code} {A : Nat → Prop} {κ : zG} {H : Heap} {locs : List Loc} {ls : Array Slot} {n : Nat} {σ : zS} {x2 : Int32} {r1 : Int32} {r2 : zS} (C : zC cX0_store 6 (some .int) RX0 κ A p s m args meth c) (h : zH wC κ A s σ H locs) (hl : lv_has ls 6 [(0, .ref (κ.2.1 1)), (1, .ref (κ.2.1 15)), (2, .int x2)]) (hf : fX0_store_p15_0 n (κ.2.2.2 0) (κ.2.2.2 1) (κ.2.2.2 2) σ x2 = some (r1, r2)) : W p l e rmX0_store_p15 s m args below meth c H locs 0 0 (MQ below (zQi wC κ A r1 r2) args s 0 0 A) (F0 m 0 ls []) := by
  unfold fX0_store_p15_0 at hf
  refine lv_aload_n C.ex C.by dX0_store_0 rfl (lv_at hl 0 rfl) ?_
  obtain ⟨q1, e2, hf⟩ := zb_some hf
  refine z_callVi (As := []) C h (ctX0_leastFree e2) (zgV lkC125 lkC126 lkC127 lkC24 lkC128) ⟨rfl, rfl⟩ hdX0_leastFree ⟨Nat.le_of_ble_eq_true rfl, Nat.le_of_ble_eq_true rfl⟩ 1 (wC_at1 κ _) rfl hl rfl rfl (Nat.le_of_ble_eq_true rfl) dX0_store_1 ⟨Nat.zero_le _, Nat.zero_le _⟩ (fun H locs h => ?_)
  refine lv_istore_n (lv' := [(3, .int q1), (0, .ref (κ.2.1 1)), (1, .ref (κ.2.1 15)), (2, .int x2)]) C.ex C.by dX0_store_4 rfl hl (by decide) rfl (fun ls hl => ?_)
  refine lv_iload_n C.ex C.by dX0_store_5 rfl (lv_at hl 0 rfl) ?_
  refine lv_if_lt (tgt := 18) C.ex C.by dX0_store_6 (by decide) (fun c3 => ?_) (fun c3 => ?_)
  · have hf := zif_t c3 hf
    refine lv_iconst (v := (-1)) C.ex C.by dX0_store_18 (by decide) ?_
    cases hf
    exact z_iret C h dX0_store_19
  · have hf := zif_f c3 hf
    refine lv_iload_n C.ex C.by dX0_store_9 rfl (lv_at hl 0 rfl) ?_
    refine lv_aload_n C.ex C.by dX0_store_10 rfl (lv_at hl 1 rfl) ?_
    refine z_get (v := .ref (κ.2.1 3)) C h iwX0 1 (wC_at1 κ _) rfl 2 (by decide) lkC124 rfl dX0_store_11 ?_
    refine z_alen (t0 := 2) C h 3 (wC_at3 κ _) rfl dX0_store_14 ?_
    refine lv_icmp_lt (tgt := 20) C.ex C.by dX0_store_15 (by decide) (fun c4 => ?_) (fun c4 => ?_)
    · have hf := zif_t c4 hf
      refine lv_aload_n C.ex C.by dX0_store_20 rfl (lv_at hl 1 rfl) ?_
      refine z_get (v := .int (zI σ 6)) C h iwX0 1 (wC_at1 κ _) rfl 7 (by decide) lkC129 rfl dX0_store_21 ?_
      refine lv_if_ne (tgt := 34) C.ex C.by dX0_store_24 (by decide) (fun c5 => ?_) (fun c5 => ?_)
      · have hf := zif_f c5 hf
        refine lv_aload_n C.ex C.by dX0_store_34 rfl (lv_at hl 1 rfl) ?_
        refine z_get (v := .int (zI σ 6)) C h iwX0 1 (wC_at1 κ _) rfl 7 (by decide) lkC129 rfl dX0_store_35 ?_
        refine lv_if_le (tgt := 51) C.ex C.by dX0_store_38 (by decide) (fun c6 => ?_) (fun c6 => ?_)
        · have hf := zif_t c6 hf
          exact wX0_store_p15_51 C h (lv_sub hl [1, 2, 3, 0] rfl) hf
        · have hf := zif_f c6 hf
          refine lv_aload_n C.ex C.by dX0_store_41 rfl (lv_at hl 1 rfl) ?_
          refine lv_dup C.ex C.by dX0_store_42 rfl ?_
          refine z_get (v := .int (zI σ 6)) C h iwX0 1 (wC_at1 κ _) rfl 7 (by decide) lkC129 rfl dX0_store_43 ?_
          refine lv_iconst (v := 1) C.ex C.by dX0_store_46 (by decide) ?_
          refine lv_isub C.ex C.by dX0_store_47 ?_
          refine z_put C h iwX0 tyX0_ok nmX0 1 (wC_at1 κ _) rfl 7 (by decide) lkC129 rfl rfl rfl (Nat.le_of_ble_eq_true rfl) (sI σ 6 ((zI σ 6) - 1)) (wC_s1_7 κ _ _) dX0_store_48 (fun H locs h => ?_)
          exact wX0_store_p15_51 C h (lv_sub hl [1, 2, 3, 0] rfl) hf
      · have hf := zif_t c5 hf
        refine lv_aload_n C.ex C.by dX0_store_27 rfl (lv_at hl 1 rfl) ?_
        refine lv_iconst (v := 1) C.ex C.by dX0_store_28 (by decide) ?_
        refine z_put C h iwX0 tyX0_ok nmX0 1 (wC_at1 κ _) rfl 8 (by decide) lkC130 rfl rfl rfl (Nat.le_of_ble_eq_true rfl) (sI σ 7 1) (wC_s1_8 κ _ _) dX0_store_29 (fun H locs h => ?_)
        refine lv_iconst (v := (-1)) C.ex C.by dX0_store_32 (by decide) ?_
        cases hf
        exact z_iret C h dX0_store_33
    · have hf := zif_f c4 hf
      refine lv_iconst (v := (-1)) C.ex C.by dX0_store_18 (by decide) ?_
      cases hf
      exact z_iret C h dX0_store_19
theorem ctX0_store_p15 {l : Launch} {κ : zG} {n : Nat} {σ : zS} {x2 : Int32} {r1 : Int32} {r2 : zS} (hf : fX0_store_p15_0 n (κ.2.2.2 0) (κ.2.2.2 1) (κ.2.2.2 2) σ x2 = some (r1, r2)) : zMi l yX0_store (Cond.code yX0_store cX0_store 6 (some .int)) rmX0_store_p15 wC κ [.ref (κ.2.1 1), .ref (κ.2.1 15), .int x2] σ r1 r2 :=
  zMi_of (by decide) (Nat.le_of_ble_eq_true rfl) (fun p e s m below meth c A C h ls hl => wX0_store_p15_0 C h hl hf)
theorem hdX6_add : yX6_add.cls = RX6 ∧ yX6_add.cls ≠ "java/lang/invoke/MethodHandle" ∧ yX6_add.cls ≠ "java/lang/invoke/VarHandle" ∧ (parseMethodDescriptor yX6_add.desc).map (fun d => d.parameters.length) = some 1 := by decide +kernel
abbrev rmX6_add : Room := { frames := 0, cells := 0, slots := 0, locals := 0 }
set_option maxRecDepth 20000 in
set_option maxHeartbeats 4000000 in
theorem wX6_add_0 {p : Program} {l : Launch} {e : Env} {s : State} {m : MethodId} {args : Array Value} {below : List Frame} {meth : Method} {c : Code} {A : Nat → Prop} {κ : zG} {H : Heap} {locs : List Loc} {ls : Array Slot} {n : Nat} {σ : zS} {x1 : Int32} {r : zS} (C : zC cX6_add 2 none RX6 κ A p s m args meth c) (h : zH wR κ A s σ H locs) (hl : lv_has ls 2 [(0, .ref (κ.2.1 0)), (1, .int x1)]) (hf : fX6_add_0 n (κ.2.2.2 0) σ x1 = some r) : W p l e rmX6_add s m args below meth c H locs 0 0 (MQ below (zQv wR κ A r) args s 0 0 A) (F0 m 0 ls []) := by
  unfold fX6_add_0 at hf
  refine lv_aload_n C.ex C.by dX6_add_0 rfl (lv_at hl 0 rfl) ?_
  refine z_get (v := .int (zI σ 0)) C h iwX6 0 (wR_at0 κ _) rfl 1 (by decide) lkC47 rfl dX6_add_1 ?_
  refine lv_if_lt (tgt := 39) C.ex C.by dX6_add_4 (by decide) (fun c1 => ?_) (fun c1 => ?_)
  · have hf := zif_t c1 hf
    cases hf
    exact z_vret C h dX6_add_39
  · have hf := zif_f c1 hf
    refine lv_aload_n C.ex C.by dX6_add_7 rfl (lv_at hl 0 rfl) ?_
    refine z_get (v := .int (zI σ 0)) C h iwX6 0 (wR_at0 κ _) rfl 1 (by decide) lkC47 rfl dX6_add_8 ?_
    refine lv_aload_n C.ex C.by dX6_add_11 rfl (lv_at hl 0 rfl) ?_
    refine z_get (v := .ref (κ.2.1 1)) C h iwX6 0 (wR_at0 κ _) rfl 0 (by decide) lkC48 rfl dX6_add_12 ?_
    refine z_alen (t0 := 0) C h 1 (wR_at1 κ _) rfl dX6_add_15 ?_
    refine lv_icmp_ge (tgt := 39) C.ex C.by dX6_add_16 (by decide) (fun c2 => ?_) (fun c2 => ?_)
    · have hf := zif_t c2 hf
      cases hf
      exact z_vret C h dX6_add_39
    · have hf := zif_f c2 hf
      refine lv_aload_n C.ex C.by dX6_add_19 rfl (lv_at hl 0 rfl) ?_
      refine z_get (v := .ref (κ.2.1 1)) C h iwX6 0 (wR_at0 κ _) rfl 0 (by decide) lkC48 rfl dX6_add_20 ?_
      refine lv_aload_n C.ex C.by dX6_add_23 rfl (lv_at hl 0 rfl) ?_
      refine z_get (v := .int (zI σ 0)) C h iwX6 0 (wR_at0 κ _) rfl 1 (by decide) lkC47 rfl dX6_add_24 ?_
      refine lv_iload_n C.ex C.by dX6_add_27 rfl (lv_at hl 1 rfl) ?_
      obtain ⟨h3, hf⟩ := zg_some hf
      refine z_iast (f := (zA σ 0)) C h 1 (wR_at1 κ _) h3 (sA σ 0 (upd (zA σ 0) (Int32.toNatClampNeg (zI σ 0)) x1)) (wR_s1 κ _ _) dX6_add_28 (fun H locs h => ?_)
      refine lv_aload_n C.ex C.by dX6_add_29 rfl (lv_at hl 0 rfl) ?_
      refine lv_dup C.ex C.by dX6_add_30 rfl ?_
      refine z_get (v := .int (zI σ 0)) C h iwX6 0 (wR_at0 κ _) rfl 1 (by decide) lkC47 rfl dX6_add_31 ?_
      refine lv_iconst (v := 1) C.ex C.by dX6_add_34 (by decide) ?_
      refine lv_iadd C.ex C.by dX6_add_35 ?_
      refine z_put C h iwX6 tyX6_ok nmX6 0 (wR_at0 κ _) rfl 1 (by decide) lkC47 rfl rfl rfl (Nat.le_of_ble_eq_true rfl) (sI (sA σ 0 (upd (zA σ 0) (Int32.toNatClampNeg (zI σ 0)) x1)) 0 ((zI σ 0) + 1)) (wR_s0_1 κ _ _) dX6_add_36 (fun H locs h => ?_)
      cases hf
      exact z_vret C h dX6_add_39
theorem ctX6_add {l : Launch} {κ : zG} {n : Nat} {σ : zS} {x1 : Int32} {r : zS} (hf : fX6_add_0 n (κ.2.2.2 0) σ x1 = some r) : zMv l yX6_add (Cond.code yX6_add cX6_add 2 none) rmX6_add wR κ [.ref (κ.2.1 0), .int x1] σ r :=
  zMv_of (by decide) (Nat.le_of_ble_eq_true rfl) (fun p e s m below meth c A C h ls hl => wX6_add_0 C h hl hf)
theorem hdX1_join : yX1_join.cls = RX1 ∧ yX1_join.cls ≠ "java/lang/invoke/MethodHandle" ∧ yX1_join.cls ≠ "java/lang/invoke/VarHandle" ∧ (parseMethodDescriptor yX1_join.desc).map (fun d => d.parameters.length) = some 2 := by decide +kernel
abbrev rmX1_join : Room := { frames := 0, cells := 0, slots := 0, locals := 0 }
set_option maxRecDepth 20000 in
set_option maxHeartbeats 4000000 in
theorem wX1_join_20 {p : Program} {l : Launch} {e : Env} {s : State} {m : MethodId} {args : Array Value} {below : List Frame} {meth : Method} {c : Code} {A : Nat → Prop} {κ : zG} {H : Heap} {locs : List Loc} {ls : Array Slot} {n : Nat} {σ : zS} {x2 : Int32} {r : zS} (C : zC cX1_join 3 none RX1 κ A p s m args meth c) (h : zH wC κ A s σ H locs) (hl : lv_has ls 3 [(0, .ref (κ.2.1 7)), (2, .int x2)]) (hf : fX1_join_20 n (κ.2.2.2 0) (κ.2.2.2 1) (κ.2.2.2 2) σ x2 = some r) : W p l e rmX1_join s m args below meth c H locs 0 0 (MQ below (zQv wC κ A r) args s 0 0 A) (F0 m 20 ls []) := by
  unfold fX1_join_20 at hf
  refine lv_iload_n C.ex C.by dX1_join_20 rfl (lv_at hl 1 rfl) ?_
  refine lv_if_lt (tgt := 40) C.ex C.by dX1_join_21 (by decide) (fun c4 => ?_) (fun c4 => ?_)
  · have hf := zif_t c4 hf
    cases hf
    exact z_vret C h dX1_join_40
  · have hf := zif_f c4 hf
    refine lv_iload_n C.ex C.by dX1_join_24 rfl (lv_at hl 1 rfl) ?_
    refine lv_aload_n C.ex C.by dX1_join_25 rfl (lv_at hl 0 rfl) ?_
    refine z_get (v := .ref (κ.2.1 8)) C h iwX1 7 (wC_at7 κ _) rfl 1 (by decide) lkC7 rfl dX1_join_26 ?_
    refine z_alen (t0 := 0) C h 8 (wC_at8 κ _) rfl dX1_join_29 ?_
    refine lv_icmp_ge (tgt := 40) C.ex C.by dX1_join_30 (by decide) (fun c5 => ?_) (fun c5 => ?_)
    · have hf := zif_t c5 hf
      cases hf
      exact z_vret C h dX1_join_40
    · have hf := zif_f c5 hf
      refine lv_aload_n C.ex C.by dX1_join_33 rfl (lv_at hl 0 rfl) ?_
      refine z_get (v := .ref (κ.2.1 8)) C h iwX1 7 (wC_at7 κ _) rfl 1 (by decide) lkC7 rfl dX1_join_34 ?_
      refine lv_iload_n C.ex C.by dX1_join_37 rfl (lv_at hl 1 rfl) ?_
      refine lv_iconst (v := (-1)) C.ex C.by dX1_join_38 (by decide) ?_
      obtain ⟨h6, hf⟩ := zg_some hf
      refine z_iast (f := (zA σ 3)) C h 8 (wC_at8 κ _) h6 (sA σ 3 (upd (zA σ 3) (Int32.toNatClampNeg x2) (-1))) (wC_s8 κ _ _) dX1_join_39 (fun H locs h => ?_)
      cases hf
      exact z_vret C h dX1_join_40
set_option maxRecDepth 20000 in
set_option maxHeartbeats 4000000 in
theorem wX1_join_0 {p : Program} {l : Launch} {e : Env} {s : State} {m : MethodId} {args : Array Value} {below : List Frame} {meth : Method} {c : Code} {A : Nat → Prop} {κ : zG} {H : Heap} {locs : List Loc} {ls : Array Slot} {n : Nat} {σ : zS} {x1 : Int32} {x2 : Int32} {r : zS} (C : zC cX1_join 3 none RX1 κ A p s m args meth c) (h : zH wC κ A s σ H locs) (hl : lv_has ls 3 [(0, .ref (κ.2.1 7)), (1, .int x1), (2, .int x2)]) (hf : fX1_join_0 n (κ.2.2.2 0) (κ.2.2.2 1) (κ.2.2.2 2) σ x1 x2 = some r) : W p l e rmX1_join s m args below meth c H locs 0 0 (MQ below (zQv wC κ A r) args s 0 0 A) (F0 m 0 ls []) := by
  unfold fX1_join_0 at hf
  refine lv_iload_n C.ex C.by dX1_join_0 rfl (lv_at hl 1 rfl) ?_
  refine lv_if_lt (tgt := 20) C.ex C.by dX1_join_1 (by decide) (fun c1 => ?_) (fun c1 => ?_)
  · have hf := zif_t c1 hf
    exact wX1_join_20 C h (lv_sub hl [0, 2] rfl) hf
  · have hf := zif_f c1 hf
    refine lv_iload_n C.ex C.by dX1_join_4 rfl (lv_at hl 1 rfl) ?_
    refine lv_aload_n C.ex C.by dX1_join_5 rfl (lv_at hl 0 rfl) ?_
    refine z_get (v := .ref (κ.2.1 8)) C h iwX1 7 (wC_at7 κ _) rfl 1 (by decide) lkC7 rfl dX1_join_6 ?_
    refine z_alen (t0 := 0) C h 8 (wC_at8 κ _) rfl dX1_join_9 ?_
    refine lv_icmp_ge (tgt := 20) C.ex C.by dX1_join_10 (by decide) (fun c2 => ?_) (fun c2 => ?_)
    · have hf := zif_t c2 hf
      exact wX1_join_20 C h (lv_sub hl [0, 2] rfl) hf
    · have hf := zif_f c2 hf
      refine lv_aload_n C.ex C.by dX1_join_13 rfl (lv_at hl 0 rfl) ?_
      refine z_get (v := .ref (κ.2.1 8)) C h iwX1 7 (wC_at7 κ _) rfl 1 (by decide) lkC7 rfl dX1_join_14 ?_
      refine lv_iload_n C.ex C.by dX1_join_17 rfl (lv_at hl 1 rfl) ?_
      refine lv_iload_n C.ex C.by dX1_join_18 rfl (lv_at hl 2 rfl) ?_
      obtain ⟨h3, hf⟩ := zg_some hf
      refine z_iast (f := (zA σ 3)) C h 8 (wC_at8 κ _) h3 (sA σ 3 (upd (zA σ 3) (Int32.toNatClampNeg x1) x2)) (wC_s8 κ _ _) dX1_join_19 (fun H locs h => ?_)
      exact wX1_join_20 C h (lv_sub hl [0, 2] rfl) hf
theorem ctX1_join {l : Launch} {κ : zG} {n : Nat} {σ : zS} {x1 : Int32} {x2 : Int32} {r : zS} (hf : fX1_join_0 n (κ.2.2.2 0) (κ.2.2.2 1) (κ.2.2.2 2) σ x1 x2 = some r) : zMv l yX1_join (Cond.code yX1_join cX1_join 3 none) rmX1_join wC κ [.ref (κ.2.1 7), .int x1, .int x2] σ r :=
  zMv_of (by decide) (Nat.le_of_ble_eq_true rfl) (fun p e s m below meth c A C h ls hl => wX1_join_0 C h hl hf)
theorem hdX7_writePage : yX7_writePage.cls = RX7 ∧ yX7_writePage.cls ≠ "java/lang/invoke/MethodHandle" ∧ yX7_writePage.cls ≠ "java/lang/invoke/VarHandle" ∧ (parseMethodDescriptor yX7_writePage.desc).map (fun d => d.parameters.length) = some 0 := by decide +kernel
abbrev rmX7_writePage : Room := { frames := 2, cells := 0, slots := 0, locals := 46 }
set_option maxRecDepth 20000 in
set_option maxHeartbeats 4000000 in
theorem wX7_writePage_68 {p : Program} {l : Launch} {e : Env} {s : State} {m : MethodId} {args : Array Value} {below : List Frame} {meth : Method} {c : Code} {A : Nat → Prop} {κ : zG} {H : Heap} {locs : List Loc} {ls : Array Slot} {n : Nat} {σ : zS} {x1 : Int32} {y0 : Int32} {r1 : Int32} {r2 : zS} (C : zC cX7_writePage 2 (some .boolean) RX7 κ A p s m args meth c) (h : zH wC κ A s σ H locs) (hl : lv_has ls 2 [(0, .ref (κ.2.1 14)), (1, .int x1)]) (hf : fX7_writePage_68 n (κ.2.2.2 0) (κ.2.2.2 1) (κ.2.2.2 2) σ x1 y0 = some (r1, r2)) : W p l e rmX7_writePage s m args below meth c H locs 0 0 (MQ below (zQi wC κ A r1 r2) args s 0 0 A) (F0 m 68 ls [.int y0, .ref (κ.2.1 14)]) := by
  unfold fX7_writePage_68 at hf
  refine z_put C h iwX7 tyX7_ok nmX7 14 (wC_at14 κ _) rfl 10 (by decide) lkC148 rfl rfl rfl (Nat.le_of_ble_eq_true rfl) (sI σ 22 y0) (wC_s14_10 κ _ _) dX7_writePage_68 (fun H locs h => ?_)
  refine lv_aload_n C.ex C.by dX7_writePage_71 rfl (lv_at hl 0 rfl) ?_
  refine lv_iload_n C.ex C.by dX7_writePage_72 rfl (lv_at hl 1 rfl) ?_
  refine z_put C h iwX7 tyX7_ok nmX7 14 (wC_at14 κ _) rfl 11 (by decide) lkC143 rfl rfl rfl (Nat.le_of_ble_eq_true rfl) (sI (sI σ 22 y0) 23 x1) (wC_s14_11 κ _ _) dX7_writePage_73 (fun H locs h => ?_)
  refine lv_aload_n C.ex C.by dX7_writePage_76 rfl (lv_at hl 0 rfl) ?_
  refine lv_iconst (v := 0) C.ex C.by dX7_writePage_77 (by decide) ?_
  refine z_put C h iwX7 tyX7_ok nmX7 14 (wC_at14 κ _) rfl 8 (by decide) lkC116 rfl rfl rfl (Nat.le_of_ble_eq_true rfl) (sI (sI (sI σ 22 y0) 23 x1) 20 0) (wC_s14_8 κ _ _) dX7_writePage_78 (fun H locs h => ?_)
  refine lv_iconst (v := 1) C.ex C.by dX7_writePage_81 (by decide) ?_
  cases hf
  exact z_zret (r := 1) C h rfl dX7_writePage_82
set_option maxRecDepth 20000 in
set_option maxHeartbeats 4000000 in
theorem wX7_writePage_0 {p : Program} {l : Launch} {e : Env} {s : State} {m : MethodId} {args : Array Value} {below : List Frame} {meth : Method} {c : Code} {A : Nat → Prop} {κ : zG} {H : Heap} {locs : List Loc} {ls : Array Slot} {n : Nat} {σ : zS} {r1 : Int32} {r2 : zS} (C : zC cX7_writePage 2 (some .boolean) RX7 κ A p s m args meth c) (h : zH wC κ A s σ H locs) (hl : lv_has ls 2 [(0, .ref (κ.2.1 14))]) (hf : fX7_writePage_0 n (κ.2.2.2 0) (κ.2.2.2 1) (κ.2.2.2 2) σ = some (r1, r2)) : W p l e rmX7_writePage s m args below meth c H locs 0 0 (MQ below (zQi wC κ A r1 r2) args s 0 0 A) (F0 m 0 ls []) := by
  unfold fX7_writePage_0 at hf
  refine lv_aload_n C.ex C.by dX7_writePage_0 rfl (lv_at hl 0 rfl) ?_
  refine z_get (v := .ref (κ.2.1 1)) C h iwX7 14 (wC_at14 κ _) rfl 0 (by decide) lkC114 rfl dX7_writePage_1 ?_
  refine lv_aload_n C.ex C.by dX7_writePage_4 rfl (lv_at hl 0 rfl) ?_
  refine z_get (v := .ref (κ.2.1 15)) C h iwX7 14 (wC_at14 κ _) rfl 3 (by decide) lkC117 rfl dX7_writePage_5 ?_
  refine lv_aload_n C.ex C.by dX7_writePage_8 rfl (lv_at hl 0 rfl) ?_
  refine z_get (v := .int (zI σ 20)) C h iwX7 14 (wC_at14 κ _) rfl 8 (by decide) lkC116 rfl dX7_writePage_9 ?_
  refine lv_aload_n C.ex C.by dX7_writePage_12 rfl (lv_at hl 0 rfl) ?_
  refine z_get (v := .ref (κ.2.1 4)) C h iwX7 14 (wC_at14 κ _) rfl 1 (by decide) lkC108 rfl dX7_writePage_13 ?_
  refine z_getN (v := .int (zI σ 10)) C h iwX5 4 (wC_at4 κ _) rfl 5 (by decide) nkC11 rfl dX7_writePage_16 ?_
  refine lv_imul C.ex C.by dX7_writePage_19 ?_
  obtain ⟨q1, e2, hf⟩ := zb_some hf
  refine z_callVi (As := [.ref (κ.2.1 15), .int ((zI σ 20) * (zI σ 10))]) C h (ctX0_store_p15 (r1 := q1.1) (r2 := q1.2) e2) (zgV lkC133 lkC134 lkC135 lkC24 lkC136) ⟨rfl, rfl⟩ hdX0_store ⟨Nat.le_of_ble_eq_true rfl, Nat.le_of_ble_eq_true rfl⟩ 1 (wC_at1 κ _) rfl hl rfl rfl (Nat.le_of_ble_eq_true rfl) dX7_writePage_20 ⟨Nat.zero_le _, Nat.zero_le _⟩ (fun H locs h => ?_)
  refine lv_istore_n (lv' := [(1, .int q1.1), (0, .ref (κ.2.1 14))]) C.ex C.by dX7_writePage_23 rfl hl (by decide) rfl (fun ls hl => ?_)
  refine lv_iload_n C.ex C.by dX7_writePage_24 rfl (lv_at hl 0 rfl) ?_
  refine lv_iconst (v := (-1)) C.ex C.by dX7_writePage_25 (by decide) ?_
  refine lv_icmp_ne (tgt := 31) C.ex C.by dX7_writePage_26 (by decide) (fun c3 => ?_) (fun c3 => ?_)
  · have hf := zif_f c3 hf
    refine lv_aload_n C.ex C.by dX7_writePage_31 rfl (lv_at hl 1 rfl) ?_
    refine z_get (v := .ref (κ.2.1 16)) C h iwX7 14 (wC_at14 κ _) rfl 4 (by decide) lkC137 rfl dX7_writePage_32 ?_
    refine lv_iload_n C.ex C.by dX7_writePage_35 rfl (lv_at hl 0 rfl) ?_
    obtain ⟨q4, e5, hf⟩ := zb_some hf
    refine z_callRv (As := [.int q1.1]) (x := (zI q1.2 25)) (f := (zA q1.2 6)) C h (ctX6_add (κ := zκR κ (κ.2.1 16) (κ.2.1 17) (κ.2.2.2 0)) e5) (zgV lkC138 lkC139 lkC140 lkC52 lkC141) ⟨rfl, rfl⟩ hdX6_add ⟨Nat.le_of_ble_eq_true rfl, Nat.le_of_ble_eq_true rfl⟩ 16 17 (by decide) (wC_at16 κ _) (wC_at17 κ _) (sA (sI q1.2 25 (zI q4 0)) 6 (zA q4 0)) (wC_sr16 κ _ _ _) hl rfl rfl (Nat.le_of_ble_eq_true rfl) dX7_writePage_36 ⟨Nat.zero_le _, Nat.zero_le _⟩ (fun H locs h => ?_)
    refine lv_aload_n C.ex C.by dX7_writePage_39 rfl (lv_at hl 1 rfl) ?_
    refine z_get (v := .ref (κ.2.1 7)) C h iwX7 14 (wC_at14 κ _) rfl 2 (by decide) lkC142 rfl dX7_writePage_40 ?_
    refine lv_aload_n C.ex C.by dX7_writePage_43 rfl (lv_at hl 1 rfl) ?_
    refine z_get (v := .int (zI q1.2 23)) C h iwX7 14 (wC_at14 κ _) rfl 11 (by decide) lkC143 rfl dX7_writePage_44 ?_
    refine lv_iload_n C.ex C.by dX7_writePage_47 rfl (lv_at hl 0 rfl) ?_
    obtain ⟨q6, e7, hf⟩ := zb_some hf
    refine z_callVv (As := [.int (zI q1.2 23), .int q1.1]) C h (ctX1_join e7) (zgV lkC144 lkC145 lkC146 lkC11 lkC147) ⟨rfl, rfl⟩ hdX1_join ⟨Nat.le_of_ble_eq_true rfl, Nat.le_of_ble_eq_true rfl⟩ 7 (wC_at7 κ _) rfl hl rfl rfl (Nat.le_of_ble_eq_true rfl) dX7_writePage_48 ⟨Nat.zero_le _, Nat.zero_le _⟩ (fun H locs h => ?_)
    refine lv_aload_n C.ex C.by dX7_writePage_51 rfl (lv_at hl 1 rfl) ?_
    refine lv_aload_n C.ex C.by dX7_writePage_52 rfl (lv_at hl 1 rfl) ?_
    refine z_get (v := .int (zI q6 22)) C h iwX7 14 (wC_at14 κ _) rfl 10 (by decide) lkC148 rfl dX7_writePage_53 ?_
    refine lv_iconst (v := (-1)) C.ex C.by dX7_writePage_56 (by decide) ?_
    refine lv_icmp_ne (tgt := 64) C.ex C.by dX7_writePage_57 (by decide) (fun c8 => ?_) (fun c8 => ?_)
    · have hf := zif_f c8 hf
      refine lv_aload_n C.ex C.by dX7_writePage_64 rfl (lv_at hl 1 rfl) ?_
      refine z_get (v := .int (zI q6 22)) C h iwX7 14 (wC_at14 κ _) rfl 10 (by decide) lkC148 rfl dX7_writePage_65 ?_
      exact wX7_writePage_68 C h (lv_sub hl [1, 0] rfl) hf
    · have hf := zif_t c8 hf
      refine lv_iload_n C.ex C.by dX7_writePage_60 rfl (lv_at hl 0 rfl) ?_
      refine lv_goto (tgt := 68) C.ex C.by dX7_writePage_61 (by decide) ?_
      exact wX7_writePage_68 C h (lv_sub hl [1, 0] rfl) hf
  · have hf := zif_t c3 hf
    refine lv_iconst (v := 0) C.ex C.by dX7_writePage_29 (by decide) ?_
    cases hf
    exact z_zret (r := 0) C h rfl dX7_writePage_30
theorem ctX7_writePage {l : Launch} {κ : zG} {n : Nat} {σ : zS} {r1 : Int32} {r2 : zS} (hf : fX7_writePage_0 n (κ.2.2.2 0) (κ.2.2.2 1) (κ.2.2.2 2) σ = some (r1, r2)) : zMi l yX7_writePage (Cond.code yX7_writePage cX7_writePage 2 (some .boolean)) rmX7_writePage wC κ [.ref (κ.2.1 14)] σ r1 r2 :=
  zMi_of (by decide) (Nat.le_of_ble_eq_true rfl) (fun p e s m below meth c A C h ls hl => wX7_writePage_0 C h hl hf)
theorem hdX7_settleWaiting : yX7_settleWaiting.cls = RX7 ∧ yX7_settleWaiting.cls ≠ "java/lang/invoke/MethodHandle" ∧ yX7_settleWaiting.cls ≠ "java/lang/invoke/VarHandle" ∧ (parseMethodDescriptor yX7_settleWaiting.desc).map (fun d => d.parameters.length) = some 0 := by decide +kernel
abbrev rmX7_settleWaiting : Room := { frames := 3, cells := 0, slots := 0, locals := 67 }
set_option maxRecDepth 20000 in
set_option maxHeartbeats 4000000 in
theorem wX7_settleWaiting_56 {p : Program} {l : Launch} {e : Env} {s : State} {m : MethodId} {args : Array Value} {below : List Frame} {meth : Method} {c : Code} {A : Nat → Prop} {κ : zG} {H : Heap} {locs : List Loc} {ls : Array Slot} {n : Nat} {σ : zS} {r1 : Int32} {r2 : zS} (C : zC cX7_settleWaiting 1 (some .boolean) RX7 κ A p s m args meth c) (h : zH wC κ A s σ H locs) (hl : lv_has ls 1 [(0, .ref (κ.2.1 14))]) (hf : fX7_settleWaiting_56 n (κ.2.2.2 0) (κ.2.2.2 1) (κ.2.2.2 2) σ = some (r1, r2)) : W p l e rmX7_settleWaiting s m args below meth c H locs 0 0 (MQ below (zQi wC κ A r1 r2) args s 0 0 A) (F0 m 56 ls []) := by
  unfold fX7_settleWaiting_56 at hf
  refine lv_iconst (v := 1) C.ex C.by dX7_settleWaiting_56 (by decide) ?_
  refine lv_goto (tgt := 61) C.ex C.by dX7_settleWaiting_57 (by decide) ?_
  cases hf
  exact z_zret (r := 1) C h rfl dX7_settleWaiting_61
set_option maxRecDepth 20000 in
set_option maxHeartbeats 4000000 in
theorem wX7_settleWaiting_0 {p : Program} {l : Launch} {e : Env} {s : State} {m : MethodId} {args : Array Value} {below : List Frame} {meth : Method} {c : Code} {A : Nat → Prop} {κ : zG} {H : Heap} {locs : List Loc} {ls : Array Slot} {n : Nat} {σ : zS} {r1 : Int32} {r2 : zS} (C : zC cX7_settleWaiting 1 (some .boolean) RX7 κ A p s m args meth c) (h : zH wC κ A s σ H locs) (hl : lv_has ls 1 [(0, .ref (κ.2.1 14))]) (hf : fX7_settleWaiting_0 n (κ.2.2.2 0) (κ.2.2.2 1) (κ.2.2.2 2) σ = some (r1, r2)) : W p l e rmX7_settleWaiting s m args below meth c H locs 0 0 (MQ below (zQi wC κ A r1 r2) args s 0 0 A) (F0 m 0 ls []) := by
  unfold fX7_settleWaiting_0 at hf
  refine lv_aload_n C.ex C.by dX7_settleWaiting_0 rfl (lv_at hl 0 rfl) ?_
  refine z_get (v := .int (zI σ 21)) C h iwX7 14 (wC_at14 κ _) rfl 9 (by decide) lkC107 rfl dX7_settleWaiting_1 ?_
  refine lv_iconst (v := (-1)) C.ex C.by dX7_settleWaiting_4 (by decide) ?_
  refine lv_icmp_ne (tgt := 10) C.ex C.by dX7_settleWaiting_5 (by decide) (fun c1 => ?_) (fun c1 => ?_)
  · have hf := zif_f c1 hf
    refine lv_aload_n C.ex C.by dX7_settleWaiting_10 rfl (lv_at hl 0 rfl) ?_
    refine lv_iconst (v := (-1)) C.ex C.by dX7_settleWaiting_11 (by decide) ?_
    refine z_put C h iwX7 tyX7_ok nmX7 14 (wC_at14 κ _) rfl 9 (by decide) lkC107 rfl rfl rfl (Nat.le_of_ble_eq_true rfl) (sI σ 21 (-1)) (wC_s14_9 κ _ _) dX7_settleWaiting_12 (fun H locs h => ?_)
    refine lv_aload_n C.ex C.by dX7_settleWaiting_15 rfl (lv_at hl 0 rfl) ?_
    refine lv_dup C.ex C.by dX7_settleWaiting_16 rfl ?_
    refine z_get (v := .int (zI σ 20)) C h iwX7 14 (wC_at14 κ _) rfl 8 (by decide) lkC116 rfl dX7_settleWaiting_17 ?_
    refine lv_iconst (v := 1) C.ex C.by dX7_settleWaiting_20 (by decide) ?_
    refine lv_iadd C.ex C.by dX7_settleWaiting_21 ?_
    refine z_put C h iwX7 tyX7_ok nmX7 14 (wC_at14 κ _) rfl 8 (by decide) lkC116 rfl rfl rfl (Nat.le_of_ble_eq_true rfl) (sI (sI σ 21 (-1)) 20 ((zI σ 20) + 1)) (wC_s14_8 κ _ _) dX7_settleWaiting_22 (fun H locs h => ?_)
    refine lv_aload_n C.ex C.by dX7_settleWaiting_25 rfl (lv_at hl 0 rfl) ?_
    refine lv_dup C.ex C.by dX7_settleWaiting_26 rfl ?_
    refine z_get (v := .int (zI σ 24)) C h iwX7 14 (wC_at14 κ _) rfl 12 (by decide) lkC123 rfl dX7_settleWaiting_27 ?_
    refine lv_iconst (v := 1) C.ex C.by dX7_settleWaiting_30 (by decide) ?_
    refine lv_iadd C.ex C.by dX7_settleWaiting_31 ?_
    refine z_put C h iwX7 tyX7_ok nmX7 14 (wC_at14 κ _) rfl 12 (by decide) lkC123 rfl rfl rfl (Nat.le_of_ble_eq_true rfl) (sI (sI (sI σ 21 (-1)) 20 ((zI σ 20) + 1)) 24 ((zI σ 24) + 1)) (wC_s14_12 κ _ _) dX7_settleWaiting_32 (fun H locs h => ?_)
    refine lv_aload_n C.ex C.by dX7_settleWaiting_35 rfl (lv_at hl 0 rfl) ?_
    refine z_get (v := .int ((zI σ 20) + 1)) C h iwX7 14 (wC_at14 κ _) rfl 8 (by decide) lkC116 rfl dX7_settleWaiting_36 ?_
    refine lv_aload_n C.ex C.by dX7_settleWaiting_39 rfl (lv_at hl 0 rfl) ?_
    refine z_get (v := .ref (κ.2.1 4)) C h iwX7 14 (wC_at14 κ _) rfl 1 (by decide) lkC108 rfl dX7_settleWaiting_40 ?_
    refine z_getN (v := .int (zI σ 11)) C h iwX5 4 (wC_at4 κ _) rfl 6 (by decide) nkC12 rfl dX7_settleWaiting_43 ?_
    refine lv_icmp_lt (tgt := 56) C.ex C.by dX7_settleWaiting_46 (by decide) (fun c2 => ?_) (fun c2 => ?_)
    · have hf := zif_t c2 hf
      exact wX7_settleWaiting_56 C h hl hf
    · have hf := zif_f c2 hf
      refine lv_aload_n C.ex C.by dX7_settleWaiting_49 rfl (lv_at hl 0 rfl) ?_
      obtain ⟨q3, e4, hf⟩ := zb_some hf
      refine z_callVi (As := []) C h (ctX7_writePage (r1 := q3.1) (r2 := q3.2) e4) (zgV lkC149 lkC150 lkC151 lkC121 lkC152) ⟨rfl, rfl⟩ hdX7_writePage ⟨Nat.le_of_ble_eq_true rfl, Nat.le_of_ble_eq_true rfl⟩ 14 (wC_at14 κ _) rfl hl rfl rfl (Nat.le_of_ble_eq_true rfl) dX7_settleWaiting_50 ⟨Nat.zero_le _, Nat.zero_le _⟩ (fun H locs h => ?_)
      refine lv_if_eq (tgt := 60) C.ex C.by dX7_settleWaiting_53 (by decide) (fun c5 => ?_) (fun c5 => ?_)
      · have hf := zif_t c5 hf
        refine lv_iconst (v := 0) C.ex C.by dX7_settleWaiting_60 (by decide) ?_
        cases hf
        exact z_zret (r := 0) C h rfl dX7_settleWaiting_61
      · have hf := zif_f c5 hf
        exact wX7_settleWaiting_56 C h hl hf
  · have hf := zif_t c1 hf
    refine lv_iconst (v := 1) C.ex C.by dX7_settleWaiting_8 (by decide) ?_
    cases hf
    exact z_zret (r := 1) C h rfl dX7_settleWaiting_9
theorem ctX7_settleWaiting {l : Launch} {κ : zG} {n : Nat} {σ : zS} {r1 : Int32} {r2 : zS} (hf : fX7_settleWaiting_0 n (κ.2.2.2 0) (κ.2.2.2 1) (κ.2.2.2 2) σ = some (r1, r2)) : zMi l yX7_settleWaiting (Cond.code yX7_settleWaiting cX7_settleWaiting 1 (some .boolean)) rmX7_settleWaiting wC κ [.ref (κ.2.1 14)] σ r1 r2 :=
  zMi_of (by decide) (Nat.le_of_ble_eq_true rfl) (fun p e s m below meth c A C h ls hl => wX7_settleWaiting_0 C h hl hf)
theorem hdX7_goOut : yX7_goOut.cls = RX7 ∧ yX7_goOut.cls ≠ "java/lang/invoke/MethodHandle" ∧ yX7_goOut.cls ≠ "java/lang/invoke/VarHandle" ∧ (parseMethodDescriptor yX7_goOut.desc).map (fun d => d.parameters.length) = some 1 := by decide +kernel
abbrev rmX7_goOut : Room := { frames := 4, cells := 0, slots := 0, locals := 87 }
set_option maxRecDepth 20000 in
set_option maxHeartbeats 4000000 in
theorem wX7_goOut_L85_85 {p : Program} {l : Launch} {e : Env} {s : State} {m : MethodId} {args : Array Value} {below : List Frame} {meth : Method} {c : Code} {A : Nat → Prop} {κ : zG} {H : Heap} {locs : List Loc} {ls : Array Slot} {Q : State → Prop} {n : Nat} {k1 : Int32} {k2 : Int32} {a : Int32 × zS} {r : (Int32 × zS) ⊕ (zS)} (C : zC cX7_goOut 4 (some .boolean) RX7 κ A p s m args meth c) (h : zH wC κ A s a.2 H locs) (hl : lv_has ls 4 [(0, .ref (κ.2.1 14)), (1, .int k1), (2, .int k2), (3, .int a.1)]) (hf : fX7_goOut_L85_85 n (κ.2.2.2 0) (κ.2.2.2 1) (κ.2.2.2 2) k1 k2 a = some r) (Kc : ∀ (v3 : Int32) (σ1 : zS), r = .inl (v3, σ1) → ∀ (H : Heap) (locs : List Loc) (ls : Array Slot), zH wC κ A s σ1 H locs → lv_has ls 4 [(0, .ref (κ.2.1 14)), (1, .int k1), (2, .int k2), (3, .int v3)] → W p l e rmX7_goOut s m args below meth c H locs 0 0 Q (F0 m 85 ls [])) (Ke0 : ∀ (σ1 : zS), r = .inr σ1 → ∀ (H : Heap) (locs : List Loc) (ls : Array Slot), zH wC κ A s σ1 H locs → lv_has ls 4 [(0, .ref (κ.2.1 14)), (1, .int k1)] → W p l e rmX7_goOut s m args below meth c H locs 0 0 Q (F0 m 135 ls [])) : W p l e rmX7_goOut s m args below meth c H locs 0 0 Q (F0 m 85 ls []) := by
  unfold fX7_goOut_L85_85 at hf
  refine lv_iload_n C.ex C.by dX7_goOut_85 rfl (lv_at hl 3 rfl) ?_
  refine lv_aload_n C.ex C.by dX7_goOut_86 rfl (lv_at hl 0 rfl) ?_
  refine z_get (v := .ref (κ.2.1 4)) C h iwX7 14 (wC_at14 κ _) rfl 1 (by decide) lkC108 rfl dX7_goOut_87 ?_
  refine z_getN (v := .int (zI a.2 10)) C h iwX5 4 (wC_at4 κ _) rfl 5 (by decide) nkC11 rfl dX7_goOut_90 ?_
  refine lv_icmp_ge (tgt := 135) C.ex C.by dX7_goOut_93 (by decide) (fun c14 => ?_) (fun c14 => ?_)
  · have hf := zif_t c14 hf
    exact Ke0 _ (Option.some.inj hf).symm _ _ _ h (lv_sub hl [0, 1] rfl)
  · have hf := zif_f c14 hf
    refine lv_iload_n C.ex C.by dX7_goOut_96 rfl (lv_at hl 2 rfl) ?_
    refine lv_if_lt (tgt := 135) C.ex C.by dX7_goOut_97 (by decide) (fun c15 => ?_) (fun c15 => ?_)
    · have hf := zif_t c15 hf
      exact Ke0 _ (Option.some.inj hf).symm _ _ _ h (lv_sub hl [0, 1] rfl)
    · have hf := zif_f c15 hf
      refine lv_iload_n C.ex C.by dX7_goOut_100 rfl (lv_at hl 2 rfl) ?_
      refine lv_iload_n C.ex C.by dX7_goOut_101 rfl (lv_at hl 3 rfl) ?_
      refine lv_iadd C.ex C.by dX7_goOut_102 ?_
      refine lv_aload_n C.ex C.by dX7_goOut_103 rfl (lv_at hl 0 rfl) ?_
      refine z_get (v := .ref (κ.2.1 15)) C h iwX7 14 (wC_at14 κ _) rfl 3 (by decide) lkC117 rfl dX7_goOut_104 ?_
      refine z_alen (t0 := 1) C h 15 (wC_at15 κ _) rfl dX7_goOut_107 ?_
      refine lv_icmp_ge (tgt := 135) C.ex C.by dX7_goOut_108 (by decide) (fun c16 => ?_) (fun c16 => ?_)
      · have hf := zif_t c16 hf
        exact Ke0 _ (Option.some.inj hf).symm _ _ _ h (lv_sub hl [0, 1] rfl)
      · have hf := zif_f c16 hf
        refine lv_aload_n C.ex C.by dX7_goOut_111 rfl (lv_at hl 0 rfl) ?_
        refine z_get (v := .ref (κ.2.1 15)) C h iwX7 14 (wC_at14 κ _) rfl 3 (by decide) lkC117 rfl dX7_goOut_112 ?_
        refine lv_iload_n C.ex C.by dX7_goOut_115 rfl (lv_at hl 2 rfl) ?_
        refine lv_iload_n C.ex C.by dX7_goOut_116 rfl (lv_at hl 3 rfl) ?_
        refine lv_iadd C.ex C.by dX7_goOut_117 ?_
        refine lv_aload_n C.ex C.by dX7_goOut_118 rfl (lv_at hl 0 rfl) ?_
        refine z_get (v := .ref (κ.2.1 1)) C h iwX7 14 (wC_at14 κ _) rfl 0 (by decide) lkC114 rfl dX7_goOut_119 ?_
        refine lv_iload_n C.ex C.by dX7_goOut_122 rfl (lv_at hl 1 rfl) ?_
        refine lv_iload_n C.ex C.by dX7_goOut_123 rfl (lv_at hl 3 rfl) ?_
        refine lv_iadd C.ex C.by dX7_goOut_124 ?_
        obtain ⟨q17, e18, hf⟩ := zb_some hf
        refine z_callVl (As := [.int (k1 + a.1)]) C h (ctX0_cell e18) (zgV lkC115 lkC32 lkC33 lkC24 lkC34) ⟨rfl, rfl⟩ hdX0_cell ⟨Nat.le_of_ble_eq_true rfl, Nat.le_of_ble_eq_true rfl⟩ 1 (wC_at1 κ _) rfl hl rfl rfl (Nat.le_of_ble_eq_true rfl) dX7_goOut_125 ⟨Nat.zero_le _, Nat.zero_le _⟩ (fun H locs h => ?_)
        obtain ⟨h19, hf⟩ := zg_some hf
        refine z_last (f := (zL a.2 2)) C h 15 (wC_at15 κ _) h19 (sL a.2 2 (vp_updL (zL a.2 2) (Int32.toNatClampNeg (k2 + a.1)) q17)) (wC_s15 κ _ _) dX7_goOut_128 (fun H locs h => ?_)
        refine lv_iinc (v := (a.1 + 1)) (lv' := [(3, .int (a.1 + 1)), (0, .ref (κ.2.1 14)), (1, .int k1), (2, .int k2)]) C.ex C.by dX7_goOut_129 hl (k := 3) rfl rfl (by decide) rfl (fun ls hl => ?_)
        refine lv_goto (tgt := 85) C.ex C.by dX7_goOut_132 (by decide) ?_
        exact Kc _ _ (Option.some.inj hf).symm _ _ _ h (lv_sub hl [1, 2, 3, 0] rfl)
theorem wlX7_goOut_85 {p : Program} {l : Launch} {e : Env} {s : State} {m : MethodId} {args : Array Value} {below : List Frame} {meth : Method} {c : Code} {A : Nat → Prop} {κ : zG} {H : Heap} {locs : List Loc} {ls : Array Slot} {Q : State → Prop} {n : Nat} {k1 : Int32} {k2 : Int32} {k0 : Nat} {u3 : Int32} {σ1 : zS} (C : zC cX7_goOut 4 (some .boolean) RX7 κ A p s m args meth c) (h : zH wC κ A s σ1 H locs) (hl : lv_has ls 4 [(0, .ref (κ.2.1 14)), (1, .int k1), (2, .int k2), (3, .int u3)]) (b : zS) (hb : zlp (fX7_goOut_L85_85 n (κ.2.2.2 0) (κ.2.2.2 1) (κ.2.2.2 2) k1 k2) k0 (u3, σ1) = some b) (K : (fun b : zS => ∀ (H : Heap) (locs : List Loc) (ls : Array Slot), zH wC κ A s b H locs → lv_has ls 4 [(0, .ref (κ.2.1 14)), (1, .int k1)] → W p l e rmX7_goOut s m args below meth c H locs 0 0 Q (F0 m 135 ls [])) b) : W p l e rmX7_goOut s m args below meth c H locs 0 0 Q (F0 m 85 ls []) :=
  z_loop (body := fX7_goOut_L85_85 n (κ.2.2.2 0) (κ.2.2.2 1) (κ.2.2.2 2) k1 k2) (Wd := (fun a : Int32 × zS => ∀ (H : Heap) (locs : List Loc) (ls : Array Slot), zH wC κ A s a.2 H locs → lv_has ls 4 [(0, .ref (κ.2.1 14)), (1, .int k1), (2, .int k2), (3, .int a.1)] → W p l e rmX7_goOut s m args below meth c H locs 0 0 Q (F0 m 85 ls []))) (Ex := (fun b : zS => (fun b : zS => ∀ (H : Heap) (locs : List Loc) (ls : Array Slot), zH wC κ A s b H locs → lv_has ls 4 [(0, .ref (κ.2.1 14)), (1, .int k1)] → W p l e rmX7_goOut s m args below meth c H locs 0 0 Q (F0 m 135 ls [])) b)) (fun a r hr Kc Ke H locs ls h hl => wX7_goOut_L85_85 C h hl hr (fun v3 σ1 e => Kc (v3, σ1) e) (fun σ1 e => Ke σ1 e)) k0 (u3, σ1) b hb K H locs ls h hl
set_option maxRecDepth 20000 in
set_option maxHeartbeats 4000000 in
theorem wX7_goOut_154 {p : Program} {l : Launch} {e : Env} {s : State} {m : MethodId} {args : Array Value} {below : List Frame} {meth : Method} {c : Code} {A : Nat → Prop} {κ : zG} {H : Heap} {locs : List Loc} {ls : Array Slot} {n : Nat} {σ : zS} {r1 : Int32} {r2 : zS} (C : zC cX7_goOut 4 (some .boolean) RX7 κ A p s m args meth c) (h : zH wC κ A s σ H locs) (hl : lv_has ls 4 [(0, .ref (κ.2.1 14))]) (hf : fX7_goOut_154 n (κ.2.2.2 0) (κ.2.2.2 1) (κ.2.2.2 2) σ = some (r1, r2)) : W p l e rmX7_goOut s m args below meth c H locs 0 0 (MQ below (zQi wC κ A r1 r2) args s 0 0 A) (F0 m 154 ls []) := by
  unfold fX7_goOut_154 at hf
  refine lv_iconst (v := 1) C.ex C.by dX7_goOut_154 (by decide) ?_
  refine lv_goto (tgt := 159) C.ex C.by dX7_goOut_155 (by decide) ?_
  cases hf
  exact z_zret (r := 1) C h rfl dX7_goOut_159
set_option maxRecDepth 20000 in
set_option maxHeartbeats 4000000 in
theorem wX7_goOut_61 {p : Program} {l : Launch} {e : Env} {s : State} {m : MethodId} {args : Array Value} {below : List Frame} {meth : Method} {c : Code} {A : Nat → Prop} {κ : zG} {H : Heap} {locs : List Loc} {ls : Array Slot} {n : Nat} {σ : zS} {x1 : Int32} {r1 : Int32} {r2 : zS} (C : zC cX7_goOut 4 (some .boolean) RX7 κ A p s m args meth c) (h : zH wC κ A s σ H locs) (hl : lv_has ls 4 [(0, .ref (κ.2.1 14)), (1, .int x1)]) (hf : fX7_goOut_61 n (κ.2.2.2 0) (κ.2.2.2 1) (κ.2.2.2 2) σ x1 = some (r1, r2)) : W p l e rmX7_goOut s m args below meth c H locs 0 0 (MQ below (zQi wC κ A r1 r2) args s 0 0 A) (F0 m 61 ls []) := by
  unfold fX7_goOut_61 at hf
  refine lv_aload_n C.ex C.by dX7_goOut_61 rfl (lv_at hl 0 rfl) ?_
  obtain ⟨q11, e12, hf⟩ := zb_some hf
  refine z_callVi (As := []) C h (ctX7_settleWaiting (r1 := q11.1) (r2 := q11.2) e12) (zgV lkC153 lkC154 lkC155 lkC121 lkC156) ⟨rfl, rfl⟩ hdX7_settleWaiting ⟨Nat.le_of_ble_eq_true rfl, Nat.le_of_ble_eq_true rfl⟩ 14 (wC_at14 κ _) rfl hl rfl rfl (Nat.le_of_ble_eq_true rfl) dX7_goOut_62 ⟨Nat.zero_le _, Nat.zero_le _⟩ (fun H locs h => ?_)
  refine lv_if_ne (tgt := 70) C.ex C.by dX7_goOut_65 (by decide) (fun c13 => ?_) (fun c13 => ?_)
  · have hf := zif_f c13 hf
    refine lv_aload_n C.ex C.by dX7_goOut_70 rfl (lv_at hl 0 rfl) ?_
    refine z_get (v := .int (zI q11.2 20)) C h iwX7 14 (wC_at14 κ _) rfl 8 (by decide) lkC116 rfl dX7_goOut_71 ?_
    refine lv_aload_n C.ex C.by dX7_goOut_74 rfl (lv_at hl 0 rfl) ?_
    refine z_get (v := .ref (κ.2.1 4)) C h iwX7 14 (wC_at14 κ _) rfl 1 (by decide) lkC108 rfl dX7_goOut_75 ?_
    refine z_getN (v := .int (zI q11.2 10)) C h iwX5 4 (wC_at4 κ _) rfl 5 (by decide) nkC11 rfl dX7_goOut_78 ?_
    refine lv_imul C.ex C.by dX7_goOut_81 ?_
    refine lv_istore_n (lv' := [(2, .int ((zI q11.2 20) * (zI q11.2 10))), (0, .ref (κ.2.1 14)), (1, .int x1)]) C.ex C.by dX7_goOut_82 rfl hl (by decide) rfl (fun ls hl => ?_)
    refine lv_iconst (v := 0) C.ex C.by dX7_goOut_83 (by decide) ?_
    refine lv_istore_n (lv' := [(3, .int 0), (2, .int ((zI q11.2 20) * (zI q11.2 10))), (0, .ref (κ.2.1 14)), (1, .int x1)]) C.ex C.by dX7_goOut_84 rfl hl (by decide) rfl (fun ls hl => ?_)
    obtain ⟨b20, e21, hf⟩ := zb_some hf
    refine wlX7_goOut_85 C h (lv_sub hl [2, 3, 1, 0] rfl) b20 e21 ?_
    intro H locs ls h hl
    refine lv_aload_n C.ex C.by dX7_goOut_135 rfl (lv_at hl 0 rfl) ?_
    refine lv_iload_n C.ex C.by dX7_goOut_136 rfl (lv_at hl 1 rfl) ?_
    refine z_put C h iwX7 tyX7_ok nmX7 14 (wC_at14 κ _) rfl 9 (by decide) lkC107 rfl rfl rfl (Nat.le_of_ble_eq_true rfl) (sI b20 21 x1) (wC_s14_9 κ _ _) dX7_goOut_137 (fun H locs h => ?_)
    refine lv_aload_n C.ex C.by dX7_goOut_140 rfl (lv_at hl 0 rfl) ?_
    refine z_get (v := .int (zI b20 18)) C h iwX7 14 (wC_at14 κ _) rfl 6 (by decide) lkC106 rfl dX7_goOut_141 ?_
    refine lv_if_ne (tgt := 154) C.ex C.by dX7_goOut_144 (by decide) (fun c22 => ?_) (fun c22 => ?_)
    · have hf := zif_f c22 hf
      exact wX7_goOut_154 C h (lv_sub hl [0] rfl) hf
    · have hf := zif_t c22 hf
      refine lv_aload_n C.ex C.by dX7_goOut_147 rfl (lv_at hl 0 rfl) ?_
      obtain ⟨q23, e24, hf⟩ := zb_some hf
      refine z_callVi (As := []) C h (ctX7_settleWaiting (r1 := q23.1) (r2 := q23.2) e24) (zgV lkC153 lkC154 lkC155 lkC121 lkC156) ⟨rfl, rfl⟩ hdX7_settleWaiting ⟨Nat.le_of_ble_eq_true rfl, Nat.le_of_ble_eq_true rfl⟩ 14 (wC_at14 κ _) rfl hl rfl rfl (Nat.le_of_ble_eq_true rfl) dX7_goOut_148 ⟨Nat.zero_le _, Nat.zero_le _⟩ (fun H locs h => ?_)
      refine lv_if_eq (tgt := 158) C.ex C.by dX7_goOut_151 (by decide) (fun c25 => ?_) (fun c25 => ?_)
      · have hf := zif_t c25 hf
        refine lv_iconst (v := 0) C.ex C.by dX7_goOut_158 (by decide) ?_
        cases hf
        exact z_zret (r := 0) C h rfl dX7_goOut_159
      · have hf := zif_f c25 hf
        exact wX7_goOut_154 C h (lv_sub hl [0] rfl) hf
  · have hf := zif_t c13 hf
    refine lv_iconst (v := 0) C.ex C.by dX7_goOut_68 (by decide) ?_
    cases hf
    exact z_zret (r := 0) C h rfl dX7_goOut_69
set_option maxRecDepth 20000 in
set_option maxHeartbeats 4000000 in
theorem wX7_goOut_0 {p : Program} {l : Launch} {e : Env} {s : State} {m : MethodId} {args : Array Value} {below : List Frame} {meth : Method} {c : Code} {A : Nat → Prop} {κ : zG} {H : Heap} {locs : List Loc} {ls : Array Slot} {n : Nat} {σ : zS} {x1 : Int32} {r1 : Int32} {r2 : zS} (C : zC cX7_goOut 4 (some .boolean) RX7 κ A p s m args meth c) (h : zH wC κ A s σ H locs) (hl : lv_has ls 4 [(0, .ref (κ.2.1 14)), (1, .int x1)]) (hf : fX7_goOut_0 n (κ.2.2.2 0) (κ.2.2.2 1) (κ.2.2.2 2) σ x1 = some (r1, r2)) : W p l e rmX7_goOut s m args below meth c H locs 0 0 (MQ below (zQi wC κ A r1 r2) args s 0 0 A) (F0 m 0 ls []) := by
  unfold fX7_goOut_0 at hf
  refine lv_aload_n C.ex C.by dX7_goOut_0 rfl (lv_at hl 0 rfl) ?_
  refine z_get (v := .int (zI σ 18)) C h iwX7 14 (wC_at14 κ _) rfl 6 (by decide) lkC106 rfl dX7_goOut_1 ?_
  refine lv_if_eq (tgt := 61) C.ex C.by dX7_goOut_4 (by decide) (fun c1 => ?_) (fun c1 => ?_)
  · have hf := zif_t c1 hf
    exact wX7_goOut_61 C h hl hf
  · have hf := zif_f c1 hf
    refine lv_aload_n C.ex C.by dX7_goOut_7 rfl (lv_at hl 0 rfl) ?_
    refine z_get (v := .int (zI σ 21)) C h iwX7 14 (wC_at14 κ _) rfl 9 (by decide) lkC107 rfl dX7_goOut_8 ?_
    refine lv_iconst (v := (-1)) C.ex C.by dX7_goOut_11 (by decide) ?_
    refine lv_icmp_eq (tgt := 61) C.ex C.by dX7_goOut_12 (by decide) (fun c2 => ?_) (fun c2 => ?_)
    · have hf := zif_t c2 hf
      exact wX7_goOut_61 C h hl hf
    · have hf := zif_f c2 hf
      refine lv_aload_n C.ex C.by dX7_goOut_15 rfl (lv_at hl 0 rfl) ?_
      refine z_get (v := .ref (κ.2.1 4)) C h iwX7 14 (wC_at14 κ _) rfl 1 (by decide) lkC108 rfl dX7_goOut_16 ?_
      refine lv_aload_n C.ex C.by dX7_goOut_19 rfl (lv_at hl 0 rfl) ?_
      refine z_get (v := .int (zI σ 21)) C h iwX7 14 (wC_at14 κ _) rfl 9 (by decide) lkC107 rfl dX7_goOut_20 ?_
      refine lv_iload_n C.ex C.by dX7_goOut_23 rfl (lv_at hl 1 rfl) ?_
      obtain ⟨q3, e4, hf⟩ := zb_some hf
      refine z_callVi (As := [.int (zI σ 21), .int x1]) C h (ctX5_isAlike e4) (zgV lkC109 lkC110 lkC111 lkC74 lkC112) ⟨rfl, rfl⟩ hdX5_isAlike ⟨Nat.le_of_ble_eq_true rfl, Nat.le_of_ble_eq_true rfl⟩ 4 (wC_at4 κ _) rfl hl rfl rfl (Nat.le_of_ble_eq_true rfl) dX7_goOut_24 ⟨Nat.zero_le _, Nat.zero_le _⟩ (fun H locs h => ?_)
      refine lv_if_eq (tgt := 61) C.ex C.by dX7_goOut_27 (by decide) (fun c5 => ?_) (fun c5 => ?_)
      · have hf := zif_t c5 hf
        exact wX7_goOut_61 C h hl hf
      · have hf := zif_f c5 hf
        refine lv_aload_n C.ex C.by dX7_goOut_30 rfl (lv_at hl 0 rfl) ?_
        refine z_get (v := .int (zI σ 19)) C h iwX7 14 (wC_at14 κ _) rfl 7 (by decide) lkC113 rfl dX7_goOut_31 ?_
        refine lv_if_eq (tgt := 59) C.ex C.by dX7_goOut_34 (by decide) (fun c6 => ?_) (fun c6 => ?_)
        · have hf := zif_t c6 hf
          refine lv_iconst (v := 1) C.ex C.by dX7_goOut_59 (by decide) ?_
          cases hf
          exact z_zret (r := 1) C h rfl dX7_goOut_60
        · have hf := zif_f c6 hf
          refine lv_aload_n C.ex C.by dX7_goOut_37 rfl (lv_at hl 0 rfl) ?_
          refine lv_aload_n C.ex C.by dX7_goOut_38 rfl (lv_at hl 0 rfl) ?_
          refine z_get (v := .ref (κ.2.1 1)) C h iwX7 14 (wC_at14 κ _) rfl 0 (by decide) lkC114 rfl dX7_goOut_39 ?_
          refine lv_iload_n C.ex C.by dX7_goOut_42 rfl (lv_at hl 1 rfl) ?_
          refine lv_aload_n C.ex C.by dX7_goOut_43 rfl (lv_at hl 0 rfl) ?_
          refine z_get (v := .ref (κ.2.1 4)) C h iwX7 14 (wC_at14 κ _) rfl 1 (by decide) lkC108 rfl dX7_goOut_44 ?_
          refine z_getN (v := .int (zI σ 9)) C h iwX5 4 (wC_at4 κ _) rfl 4 (by decide) nkC10 rfl dX7_goOut_47 ?_
          refine lv_iadd C.ex C.by dX7_goOut_50 ?_
          refine lv_iconst (v := 1) C.ex C.by dX7_goOut_51 (by decide) ?_
          refine lv_isub C.ex C.by dX7_goOut_52 ?_
          obtain ⟨q7, e8, hf⟩ := zb_some hf
          refine z_callVl (As := [.int ((x1 + (zI σ 9)) - 1)]) C h (ctX0_cell e8) (zgV lkC115 lkC32 lkC33 lkC24 lkC34) ⟨rfl, rfl⟩ hdX0_cell ⟨Nat.le_of_ble_eq_true rfl, Nat.le_of_ble_eq_true rfl⟩ 1 (wC_at1 κ _) rfl hl rfl rfl (Nat.le_of_ble_eq_true rfl) dX7_goOut_53 ⟨Nat.zero_le _, Nat.zero_le _⟩ (fun H locs h => ?_)
          obtain ⟨q9, e10, hf⟩ := zb_some hf
          refine z_callVv (As := [.long q7]) C h (ctX7_addToWaiting e10) (zgV lkC118 lkC119 lkC120 lkC121 lkC122) ⟨rfl, rfl⟩ hdX7_addToWaiting ⟨Nat.le_of_ble_eq_true rfl, Nat.le_of_ble_eq_true rfl⟩ 14 (wC_at14 κ _) rfl hl rfl rfl (Nat.le_of_ble_eq_true rfl) dX7_goOut_56 ⟨Nat.zero_le _, Nat.zero_le _⟩ (fun H locs h => ?_)
          refine lv_iconst (v := 1) C.ex C.by dX7_goOut_59 (by decide) ?_
          cases hf
          exact z_zret (r := 1) C h rfl dX7_goOut_60
theorem ctX7_goOut {l : Launch} {κ : zG} {n : Nat} {σ : zS} {x1 : Int32} {r1 : Int32} {r2 : zS} (hf : fX7_goOut_0 n (κ.2.2.2 0) (κ.2.2.2 1) (κ.2.2.2 2) σ x1 = some (r1, r2)) : zMi l yX7_goOut (Cond.code yX7_goOut cX7_goOut 4 (some .boolean)) rmX7_goOut wC κ [.ref (κ.2.1 14), .int x1] σ r1 r2 :=
  zMi_of (by decide) (Nat.le_of_ble_eq_true rfl) (fun p e s m below meth c A C h ls hl => wX7_goOut_0 C h hl hf)
