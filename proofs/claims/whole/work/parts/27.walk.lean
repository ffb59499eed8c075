theorem hdX10_allThought : yX10_allThought.cls = RX10 ∧ yX10_allThought.cls ≠ "java/lang/invoke/MethodHandle" ∧ yX10_allThought.cls ≠ "java/lang/invoke/VarHandle" ∧ (parseMethodDescriptor yX10_allThought.desc).map (fun d => d.parameters.length) = some 1 := by decide +kernel
abbrev rmX10_allThought : Room := { frames := 0, cells := 0, slots := 0, locals := 0 }
set_option maxRecDepth 20000 in
set_option maxHeartbeats 4000000 in
theorem wX10_allThought_L4_32 {p : Program} {l : Launch} {e : Env} {s : State} {m : MethodId} {args : Array Value} {below : List Frame} {meth : Method} {c : Code} {A : Nat → Prop} {κ : zG} {H : Heap} {locs : List Loc} {ls : Array Slot} {Q : State → Prop} {n : Nat} {σ : zS} {k1 : Int32} {x3 : Int32} {y0 : Int32} {r : (Int32 × Int32) ⊕ (Int32)} (C : zC cX10_allThought 4 (some .boolean) RX10 κ A p s m args meth c) (h : zH wM κ A s σ H locs) (hl : lv_has ls 4 [(0, .ref (κ.2.1 0)), (1, .int k1), (3, .int x3)]) (hf : fX10_allThought_L4_32 n σ k1 x3 y0 = some r) (Kc : ∀ (v2 : Int32) (v3 : Int32), r = .inl (v2, v3) → ∀ (H : Heap) (locs : List Loc) (ls : Array Slot), zH wM κ A s σ H locs → lv_has ls 4 [(0, .ref (κ.2.1 0)), (1, .int k1), (2, .int v2), (3, .int v3)] → W p l e rmX10_allThought s m args below meth c H locs 0 0 Q (F0 m 4 ls [])) (Ke0 : ∀ (v2 : Int32), r = .inr v2 → ∀ (H : Heap) (locs : List Loc) (ls : Array Slot), zH wM κ A s σ H locs → lv_has ls 4 [(0, .ref (κ.2.1 0)), (2, .int v2)] → W p l e rmX10_allThought s m args below meth c H locs 0 0 Q (F0 m 39 ls [])) : W p l e rmX10_allThought s m args below meth c H locs 0 0 Q (F0 m 32 ls [.int y0]) := by
  unfold fX10_allThought_L4_32 at hf
  refine lv_istore_n (lv' := [(2, .int y0), (0, .ref (κ.2.1 0)), (1, .int k1), (3, .int x3)]) C.ex C.by dX10_allThought_32 rfl hl (by decide) rfl (fun ls hl => ?_)
  refine lv_iinc (v := (x3 + 1)) (lv' := [(3, .int (x3 + 1)), (2, .int y0), (0, .ref (κ.2.1 0)), (1, .int k1)]) C.ex C.by dX10_allThought_33 hl (k := 3) rfl rfl (by decide) rfl (fun ls hl => ?_)
  refine lv_goto (tgt := 4) C.ex C.by dX10_allThought_36 (by decide) ?_
  exact Kc _ _ (Option.some.inj hf).symm _ _ _ h (lv_sub hl [2, 3, 1, 0] rfl)
set_option maxRecDepth 20000 in
set_option maxHeartbeats 4000000 in
theorem wX10_allThought_L4_31 {p : Program} {l : Launch} {e : Env} {s : State} {m : MethodId} {args : Array Value} {below : List Frame} {meth : Method} {c : Code} {A : Nat → Prop} {κ : zG} {H : Heap} {locs : List Loc} {ls : Array Slot} {Q : State → Prop} {n : Nat} {σ : zS} {k1 : Int32} {x3 : Int32} {r : (Int32 × Int32) ⊕ (Int32)} (C : zC cX10_allThought 4 (some .boolean) RX10 κ A p s m args meth c) (h : zH wM κ A s σ H locs) (hl : lv_has ls 4 [(0, .ref (κ.2.1 0)), (1, .int k1), (3, .int x3)]) (hf : fX10_allThought_L4_31 n σ k1 x3 = some r) (Kc : ∀ (v2 : Int32) (v3 : Int32), r = .inl (v2, v3) → ∀ (H : Heap) (locs : List Loc) (ls : Array Slot), zH wM κ A s σ H locs → lv_has ls 4 [(0, .ref (κ.2.1 0)), (1, .int k1), (2, .int v2), (3, .int v3)] → W p l e rmX10_allThought s m args below meth c H locs 0 0 Q (F0 m 4 ls [])) (Ke0 : ∀ (v2 : Int32), r = .inr v2 → ∀ (H : Heap) (locs : List Loc) (ls : Array Slot), zH wM κ A s σ H locs → lv_has ls 4 [(0, .ref (κ.2.1 0)), (2, .int v2)] → W p l e rmX10_allThought s m args below meth c H locs 0 0 Q (F0 m 39 ls [])) : W p l e rmX10_allThought s m args below meth c H locs 0 0 Q (F0 m 31 ls []) := by
  unfold fX10_allThought_L4_31 at hf
  refine lv_iconst (v := 0) C.ex C.by dX10_allThought_31 (by decide) ?_
  exact wX10_allThought_L4_32 C h hl hf Kc Ke0
set_option maxRecDepth 20000 in
set_option maxHeartbeats 4000000 in
theorem wX10_allThought_L4_4 {p : Program} {l : Launch} {e : Env} {s : State} {m : MethodId} {args : Array Value} {below : List Frame} {meth : Method} {c : Code} {A : Nat → Prop} {κ : zG} {H : Heap} {locs : List Loc} {ls : Array Slot} {Q : State → Prop} {n : Nat} {σ : zS} {k1 : Int32} {a : Int32 × Int32} {r : (Int32 × Int32) ⊕ (Int32)} (C : zC cX10_allThought 4 (some .boolean) RX10 κ A p s m args meth c) (h : zH wM κ A s σ H locs) (hl : lv_has ls 4 [(0, .ref (κ.2.1 0)), (1, .int k1), (2, .int a.1), (3, .int a.2)]) (hf : fX10_allThought_L4_4 n σ k1 a = some r) (Kc : ∀ (v2 : Int32) (v3 : Int32), r = .inl (v2, v3) → ∀ (H : Heap) (locs : List Loc) (ls : Array Slot), zH wM κ A s σ H locs → lv_has ls 4 [(0, .ref (κ.2.1 0)), (1, .int k1), (2, .int v2), (3, .int v3)] → W p l e rmX10_allThought s m args below meth c H locs 0 0 Q (F0 m 4 ls [])) (Ke0 : ∀ (v2 : Int32), r = .inr v2 → ∀ (H : Heap) (locs : List Loc) (ls : Array Slot), zH wM κ A s σ H locs → lv_has ls 4 [(0, .ref (κ.2.1 0)), (2, .int v2)] → W p l e rmX10_allThought s m args below meth c H locs 0 0 Q (F0 m 39 ls [])) : W p l e rmX10_allThought s m args below meth c H locs 0 0 Q (F0 m 4 ls []) := by
  unfold fX10_allThought_L4_4 at hf
  refine lv_iload_n C.ex C.by dX10_allThought_4 rfl (lv_at hl 3 rfl) ?_
  refine lv_iload_n C.ex C.by dX10_allThought_5 rfl (lv_at hl 1 rfl) ?_
  refine lv_icmp_gt (tgt := 39) C.ex C.by dX10_allThought_6 (by decide) (fun c1 => ?_) (fun c1 => ?_)
  · have hf := zif_t c1 hf
    exact Ke0 _ (Option.some.inj hf).symm _ _ _ h (lv_sub hl [0, 2] rfl)
  · have hf := zif_f c1 hf
    refine lv_iload_n C.ex C.by dX10_allThought_9 rfl (lv_at hl 2 rfl) ?_
    refine lv_if_eq (tgt := 31) C.ex C.by dX10_allThought_10 (by decide) (fun c2 => ?_) (fun c2 => ?_)
    · have hf := zif_t c2 hf
      exact wX10_allThought_L4_31 C h (lv_sub hl [0, 1, 3] rfl) hf Kc Ke0
    · have hf := zif_f c2 hf
      refine lv_aload_n C.ex C.by dX10_allThought_13 rfl (lv_at hl 0 rfl) ?_
      refine z_get (v := .ref (κ.2.1 27)) C h iwX10 0 (wM_at0 κ _) rfl 52 (by decide) lkM191 rfl dX10_allThought_14 ?_
      refine lv_aload_n C.ex C.by dX10_allThought_17 rfl (lv_at hl 0 rfl) ?_
      refine z_get (v := .ref (κ.2.1 28)) C h iwX10 0 (wM_at0 κ _) rfl 53 (by decide) lkM188 rfl dX10_allThought_18 ?_
      refine lv_iload_n C.ex C.by dX10_allThought_21 rfl (lv_at hl 3 rfl) ?_
      obtain ⟨h3, hf⟩ := zg_some hf
      refine z_iald (f := (zA σ 22)) C h 28 (wM_at28 κ _) h3 dX10_allThought_22 ?_
      obtain ⟨h4, hf⟩ := zg_some hf
      refine z_iald (f := (zA σ 21)) C h 27 (wM_at27 κ _) h4 dX10_allThought_23 ?_
      refine lv_if_le (tgt := 31) C.ex C.by dX10_allThought_24 (by decide) (fun c5 => ?_) (fun c5 => ?_)
      · have hf := zif_t c5 hf
        exact wX10_allThought_L4_31 C h (lv_sub hl [0, 1, 3] rfl) hf Kc Ke0
      · have hf := zif_f c5 hf
        refine lv_iconst (v := 1) C.ex C.by dX10_allThought_27 (by decide) ?_
        refine lv_goto (tgt := 32) C.ex C.by dX10_allThought_28 (by decide) ?_
        exact wX10_allThought_L4_32 C h (lv_sub hl [0, 1, 3] rfl) hf Kc Ke0
theorem wlX10_allThought_4 {p : Program} {l : Launch} {e : Env} {s : State} {m : MethodId} {args : Array Value} {below : List Frame} {meth : Method} {c : Code} {A : Nat → Prop} {κ : zG} {H : Heap} {locs : List Loc} {ls : Array Slot} {Q : State → Prop} {n : Nat} {σ : zS} {k1 : Int32} {k0 : Nat} {u2 : Int32} {u3 : Int32} (C : zC cX10_allThought 4 (some .boolean) RX10 κ A p s m args meth c) (h : zH wM κ A s σ H locs) (hl : lv_has ls 4 [(0, .ref (κ.2.1 0)), (1, .int k1), (2, .int u2), (3, .int u3)]) (b : Int32) (hb : zlp (fX10_allThought_L4_4 n σ k1) k0 (u2, u3) = some b) (K : (fun b : Int32 => ∀ (H : Heap) (locs : List Loc) (ls : Array Slot), zH wM κ A s σ H locs → lv_has ls 4 [(0, .ref (κ.2.1 0)), (2, .int b)] → W p l e rmX10_allThought s m args below meth c H locs 0 0 Q (F0 m 39 ls [])) b) : W p l e rmX10_allThought s m args below meth c H locs 0 0 Q (F0 m 4 ls []) :=
  z_loop (body := fX10_allThought_L4_4 n σ k1) (Wd := (fun a : Int32 × Int32 => ∀ (H : Heap) (locs : List Loc) (ls : Array Slot), zH wM κ A s σ H locs → lv_has ls 4 [(0, .ref (κ.2.1 0)), (1, .int k1), (2, .int a.1), (3, .int a.2)] → W p l e rmX10_allThought s m args below meth c H locs 0 0 Q (F0 m 4 ls []))) (Ex := (fun b : Int32 => (fun b : Int32 => ∀ (H : Heap) (locs : List Loc) (ls : Array Slot), zH wM κ A s σ H locs → lv_has ls 4 [(0, .ref (κ.2.1 0)), (2, .int b)] → W p l e rmX10_allThought s m args below meth c H locs 0 0 Q (F0 m 39 ls [])) b)) (fun a r hr Kc Ke H locs ls h hl => wX10_allThought_L4_4 C h hl hr (fun v2 v3 e => Kc (v2, v3) e) (fun v2 e => Ke v2 e)) k0 (u2, u3) b hb K H locs ls h hl
set_option maxRecDepth 20000 in
set_option maxHeartbeats 4000000 in
theorem wX10_allThought_0 {p : Program} {l : Launch} {e : Env} {s : State} {m : MethodId} {args : Array Value} {below : List Frame} {meth : Method} {c : Code} {A : Nat → Prop} {κ : zG} {H : Heap} {locs : List Loc} {ls : Array Slot} {n : Nat} {σ : zS} {x1 : Int32} {r : Int32} (C : zC cX10_allThought 4 (some .boolean) RX10 κ A p s m args meth c) (h : zH wM κ A s σ H locs) (hl : lv_has ls 4 [(0, .ref (κ.2.1 0)), (1, .int x1)]) (hf : fX10_allThought_0 n σ x1 = some r) : W p l e rmX10_allThought s m args below meth c H locs 0 0 (MQ below (zQi wM κ A r σ) args s 0 0 A) (F0 m 0 ls []) := by
  unfold fX10_allThought_0 at hf
  refine lv_iconst (v := 1) C.ex C.by dX10_allThought_0 (by decide) ?_
  refine lv_istore_n (lv' := [(2, .int 1), (0, .ref (κ.2.1 0)), (1, .int x1)]) C.ex C.by dX10_allThought_1 rfl hl (by decide) rfl (fun ls hl => ?_)
  refine lv_iconst (v := 1) C.ex C.by dX10_allThought_2 (by decide) ?_
  refine lv_istore_n (lv' := [(3, .int 1), (2, .int 1), (0, .ref (κ.2.1 0)), (1, .int x1)]) C.ex C.by dX10_allThought_3 rfl hl (by decide) rfl (fun ls hl => ?_)
  obtain ⟨b6, e7, hf⟩ := zb_some hf
  refine wlX10_allThought_4 C h (lv_sub hl [2, 3, 1, 0] rfl) b6 e7 ?_
  intro H locs ls h hl
  refine lv_iload_n C.ex C.by dX10_allThought_39 rfl (lv_at hl 1 rfl) ?_
  obtain ⟨h8, hf⟩ := zg_some hf
  cases hf
  exact z_zret C h (zbo_n h8) dX10_allThought_40
theorem ctX10_allThought {l : Launch} {κ : zG} {n : Nat} {σ : zS} {x1 : Int32} {r : Int32} (hf : fX10_allThought_0 n σ x1 = some r) : zMi l yX10_allThought (Cond.code yX10_allThought cX10_allThought 4 (some .boolean)) rmX10_allThought wM κ [.ref (κ.2.1 0), .int x1] σ r σ :=
  zMi_of (by decide) (Nat.le_of_ble_eq_true rfl) (fun p e s m below meth c A C h ls hl => wX10_allThought_0 C h hl hf)
theorem hdX10_together : yX10_together.cls = RX10 ∧ yX10_together.cls ≠ "java/lang/invoke/MethodHandle" ∧ yX10_together.cls ≠ "java/lang/invoke/VarHandle" ∧ (parseMethodDescriptor yX10_together.desc).map (fun d => d.parameters.length) = some 1 := by decide +kernel
abbrev rmX10_together : Room := { frames := 6, cells := 0, slots := 0, locals := 135 }
set_option maxRecDepth 20000 in
set_option maxHeartbeats 4000000 in
theorem wX10_together_L21_92 {p : Program} {l : Launch} {e : Env} {s : State} {m : MethodId} {args : Array Value} {below : List Frame} {meth : Method} {c : Code} {A : Nat → Prop} {κ : zG} {H : Heap} {locs : List Loc} {ls : Array Slot} {Q : State → Prop} {n : Nat} {σ : zS} {k1 : Int32} {k2 : Int32} {k3 : Int32} {x4 : Int32} {x5 : Int32} {r : (Int32 × Int32 × zS) ⊕ (Int32 × zS)} (C : zC cX10_together 8 none RX10 κ A p s m args meth c) (h : zH wM κ A s σ H locs) (hl : lv_has ls 8 [(0, .ref (κ.2.1 0)), (1, .int k1), (2, .int k2), (3, .int k3), (4, .int x4), (5, .int x5)]) (hf : fX10_together_L21_92 n σ k1 k2 k3 x4 x5 = some r) (Kc : ∀ (v4 : Int32) (v5 : Int32) (σ1 : zS), r = .inl (v4, v5, σ1) → ∀ (H : Heap) (locs : List Loc) (ls : Array Slot), zH wM κ A s σ1 H locs → lv_has ls 8 [(0, .ref (κ.2.1 0)), (1, .int k1), (2, .int k2), (3, .int k3), (4, .int v4), (5, .int v5)] → W p l e rmX10_together s m args below meth c H locs 0 0 Q (F0 m 21 ls [])) (Ke0 : ∀ (v4 : Int32) (σ1 : zS), r = .inr (v4, σ1) → ∀ (H : Heap) (locs : List Loc) (ls : Array Slot), zH wM κ A s σ1 H locs → lv_has ls 8 [(0, .ref (κ.2.1 0)), (1, .int k1), (2, .int k2), (3, .int k3), (4, .int v4)] → W p l e rmX10_together s m args below meth c H locs 0 0 Q (F0 m 98 ls [])) : W p l e rmX10_together s m args below meth c H locs 0 0 Q (F0 m 92 ls []) := by
  unfold fX10_together_L21_92 at hf
  refine lv_iinc (v := (x5 + 1)) (lv' := [(5, .int (x5 + 1)), (0, .ref (κ.2.1 0)), (1, .int k1), (2, .int k2), (3, .int k3), (4, .int x4)]) C.ex C.by dX10_together_92 hl (k := 5) rfl rfl (by decide) rfl (fun ls hl => ?_)
  refine lv_goto (tgt := 21) C.ex C.by dX10_together_95 (by decide) ?_
  exact Kc _ _ _ (Option.some.inj hf).symm _ _ _ h (lv_sub hl [1, 2, 3, 4, 5, 0] rfl)
set_option maxRecDepth 20000 in
set_option maxHeartbeats 4000000 in
theorem wX10_together_L21_21 {p : Program} {l : Launch} {e : Env} {s : State} {m : MethodId} {args : Array Value} {below : List Frame} {meth : Method} {c : Code} {A : Nat → Prop} {κ : zG} {H : Heap} {locs : List Loc} {ls : Array Slot} {Q : State → Prop} {n : Nat} {k1 : Int32} {k2 : Int32} {k3 : Int32} {a : Int32 × Int32 × zS} {r : (Int32 × Int32 × zS) ⊕ (Int32 × zS)} (C : zC cX10_together 8 none RX10 κ A p s m args meth c) (h : zH wM κ A s a.2.2 H locs) (hl : lv_has ls 8 [(0, .ref (κ.2.1 0)), (1, .int k1), (2, .int k2), (3, .int k3), (4, .int a.1), (5, .int a.2.1)]) (hf : fX10_together_L21_21 n k1 k2 k3 a = some r) (Kc : ∀ (v4 : Int32) (v5 : Int32) (σ1 : zS), r = .inl (v4, v5, σ1) → ∀ (H : Heap) (locs : List Loc) (ls : Array Slot), zH wM κ A s σ1 H locs → lv_has ls 8 [(0, .ref (κ.2.1 0)), (1, .int k1), (2, .int k2), (3, .int k3), (4, .int v4), (5, .int v5)] → W p l e rmX10_together s m args below meth c H locs 0 0 Q (F0 m 21 ls [])) (Ke0 : ∀ (v4 : Int32) (σ1 : zS), r = .inr (v4, σ1) → ∀ (H : Heap) (locs : List Loc) (ls : Array Slot), zH wM κ A s σ1 H locs → lv_has ls 8 [(0, .ref (κ.2.1 0)), (1, .int k1), (2, .int k2), (3, .int k3), (4, .int v4)] → W p l e rmX10_together s m args below meth c H locs 0 0 Q (F0 m 98 ls [])) : W p l e rmX10_together s m args below meth c H locs 0 0 Q (F0 m 21 ls []) := by
  unfold fX10_together_L21_21 at hf
  refine lv_iload C.ex C.by dX10_together_21 (lv_at hl 5 rfl) ?_
  refine lv_iload_n C.ex C.by dX10_together_23 rfl (lv_at hl 1 rfl) ?_
  refine lv_icmp_gt (tgt := 98) C.ex C.by dX10_together_24 (by decide) (fun c4 => ?_) (fun c4 => ?_)
  · have hf := zif_t c4 hf
    exact Ke0 _ _ (Option.some.inj hf).symm _ _ _ h (lv_sub hl [0, 1, 2, 3, 4] rfl)
  · have hf := zif_f c4 hf
    refine lv_aload_n C.ex C.by dX10_together_27 rfl (lv_at hl 0 rfl) ?_
    refine z_get (v := .ref (κ.2.1 28)) C h iwX10 0 (wM_at0 κ _) rfl 53 (by decide) lkM188 rfl dX10_together_28 ?_
    refine lv_iload C.ex C.by dX10_together_31 (lv_at hl 5 rfl) ?_
    obtain ⟨h5, hf⟩ := zg_some hf
    refine z_iald (f := (zA a.2.2 22)) C h 28 (wM_at28 κ _) h5 dX10_together_33 ?_
    refine lv_istore (lv' := [(6, .int ((zA a.2.2 22) (Int32.toNatClampNeg a.2.1))), (0, .ref (κ.2.1 0)), (1, .int k1), (2, .int k2), (3, .int k3), (4, .int a.1), (5, .int a.2.1)]) C.ex C.by dX10_together_34 hl (by decide) rfl (fun ls hl => ?_)
    refine lv_aload_n C.ex C.by dX10_together_36 rfl (lv_at hl 1 rfl) ?_
    refine z_get (v := .ref (κ.2.1 27)) C h iwX10 0 (wM_at0 κ _) rfl 52 (by decide) lkM191 rfl dX10_together_37 ?_
    refine lv_iload C.ex C.by dX10_together_40 (lv_at hl 0 rfl) ?_
    obtain ⟨h6, hf⟩ := zg_some hf
    refine z_iald (f := (zA a.2.2 21)) C h 27 (wM_at27 κ _) h6 dX10_together_42 ?_
    refine lv_if_ne (tgt := 92) C.ex C.by dX10_together_43 (by decide) (fun c7 => ?_) (fun c7 => ?_)
    · have hf := zif_f c7 hf
      exact wX10_together_L21_92 C h (lv_sub hl [1, 2, 3, 4, 5, 6] rfl) hf Kc Ke0
    · have hf := zif_t c7 hf
      refine lv_aload_n C.ex C.by dX10_together_46 rfl (lv_at hl 1 rfl) ?_
      refine z_get (v := .ref (κ.2.1 25)) C h iwX10 0 (wM_at0 κ _) rfl 50 (by decide) lkM189 rfl dX10_together_47 ?_
      refine lv_iload C.ex C.by dX10_together_50 (lv_at hl 0 rfl) ?_
      obtain ⟨h8, hf⟩ := zg_some hf
      refine z_iald (f := (zA a.2.2 19)) C h 25 (wM_at25 κ _) h8 dX10_together_52 ?_
      refine lv_aload_n C.ex C.by dX10_together_53 rfl (lv_at hl 1 rfl) ?_
      refine z_get (v := .ref (κ.2.1 26)) C h iwX10 0 (wM_at0 κ _) rfl 51 (by decide) lkM190 rfl dX10_together_54 ?_
      refine lv_iload C.ex C.by dX10_together_57 (lv_at hl 0 rfl) ?_
      obtain ⟨h9, hf⟩ := zg_some hf
      refine z_iald (f := (zA a.2.2 20)) C h 26 (wM_at26 κ _) h9 dX10_together_59 ?_
      refine lv_icmp_ge (tgt := 92) C.ex C.by dX10_together_60 (by decide) (fun c10 => ?_) (fun c10 => ?_)
      · have hf := zif_t c10 hf
        exact wX10_together_L21_92 C h (lv_sub hl [1, 2, 3, 4, 5, 6] rfl) hf Kc Ke0
      · have hf := zif_f c10 hf
        refine lv_aload_n C.ex C.by dX10_together_63 rfl (lv_at hl 1 rfl) ?_
        refine z_get (v := .ref (κ.2.1 19)) C h iwX10 0 (wM_at0 κ _) rfl 44 (by decide) lkM155 rfl dX10_together_64 ?_
        refine lv_iload C.ex C.by dX10_together_67 (lv_at hl 5 rfl) ?_
        refine lv_aload_n C.ex C.by dX10_together_69 rfl (lv_at hl 1 rfl) ?_
        refine z_get (v := .ref (κ.2.1 24)) C h iwX10 0 (wM_at0 κ _) rfl 49 (by decide) lkM194 rfl dX10_together_70 ?_
        refine lv_sipush (v := 208) C.ex C.by dX10_together_73 (by decide) ?_
        refine lv_iload C.ex C.by dX10_together_76 (lv_at hl 0 rfl) ?_
        refine lv_imul C.ex C.by dX10_together_78 ?_
        refine lv_aload_n C.ex C.by dX10_together_79 rfl (lv_at hl 1 rfl) ?_
        refine z_get (v := .ref (κ.2.1 25)) C h iwX10 0 (wM_at0 κ _) rfl 50 (by decide) lkM189 rfl dX10_together_80 ?_
        refine lv_iload C.ex C.by dX10_together_83 (lv_at hl 0 rfl) ?_
        obtain ⟨h11, hf⟩ := zg_some hf
        refine z_iald (f := (zA a.2.2 19)) C h 25 (wM_at25 κ _) h11 dX10_together_85 ?_
        refine lv_iadd C.ex C.by dX10_together_86 ?_
        obtain ⟨h12, hf⟩ := zg_some hf
        refine z_iald (f := (zA a.2.2 18)) C h 24 (wM_at24 κ _) h12 dX10_together_87 ?_
        obtain ⟨h13, hf⟩ := zg_some hf
        refine z_iast (f := (zA a.2.2 13)) C h 19 (wM_at19 κ _) h13 (sA a.2.2 13 (upd (zA a.2.2 13) (Int32.toNatClampNeg a.1) ((zA a.2.2 18) (Int32.toNatClampNeg ((208 * ((zA a.2.2 22) (Int32.toNatClampNeg a.2.1))) + ((zA a.2.2 19) (Int32.toNatClampNeg ((zA a.2.2 22) (Int32.toNatClampNeg a.2.1))))))))) (wM_s19 κ _ _) dX10_together_88 (fun H locs h => ?_)
        refine lv_iinc (v := (a.1 + 1)) (lv' := [(4, .int (a.1 + 1)), (6, .int ((zA a.2.2 22) (Int32.toNatClampNeg a.2.1))), (0, .ref (κ.2.1 0)), (1, .int k1), (2, .int k2), (3, .int k3), (5, .int a.2.1)]) C.ex C.by dX10_together_89 hl (k := 5) rfl rfl (by decide) rfl (fun ls hl => ?_)
        exact wX10_together_L21_92 C h (lv_sub hl [2, 3, 4, 5, 0, 6] rfl) hf Kc Ke0
theorem wlX10_together_21 {p : Program} {l : Launch} {e : Env} {s : State} {m : MethodId} {args : Array Value} {below : List Frame} {meth : Method} {c : Code} {A : Nat → Prop} {κ : zG} {H : Heap} {locs : List Loc} {ls : Array Slot} {Q : State → Prop} {n : Nat} {k1 : Int32} {k2 : Int32} {k3 : Int32} {k0 : Nat} {u4 : Int32} {u5 : Int32} {σ1 : zS} (C : zC cX10_together 8 none RX10 κ A p s m args meth c) (h : zH wM κ A s σ1 H locs) (hl : lv_has ls 8 [(0, .ref (κ.2.1 0)), (1, .int k1), (2, .int k2), (3, .int k3), (4, .int u4), (5, .int u5)]) (b : Int32 × zS) (hb : zlp (fX10_together_L21_21 n k1 k2 k3) k0 (u4, u5, σ1) = some b) (K : (fun b : Int32 × zS => ∀ (H : Heap) (locs : List Loc) (ls : Array Slot), zH wM κ A s b.2 H locs → lv_has ls 8 [(0, .ref (κ.2.1 0)), (1, .int k1), (2, .int k2), (3, .int k3), (4, .int b.1)] → W p l e rmX10_together s m args below meth c H locs 0 0 Q (F0 m 98 ls [])) b) : W p l e rmX10_together s m args below meth c H locs 0 0 Q (F0 m 21 ls []) :=
  z_loop (body := fX10_together_L21_21 n k1 k2 k3) (Wd := (fun a : Int32 × Int32 × zS => ∀ (H : Heap) (locs : List Loc) (ls : Array Slot), zH wM κ A s a.2.2 H locs → lv_has ls 8 [(0, .ref (κ.2.1 0)), (1, .int k1), (2, .int k2), (3, .int k3), (4, .int a.1), (5, .int a.2.1)] → W p l e rmX10_together s m args below meth c H locs 0 0 Q (F0 m 21 ls []))) (Ex := (fun b : Int32 × zS => (fun b : Int32 × zS => ∀ (H : Heap) (locs : List Loc) (ls : Array Slot), zH wM κ A s b.2 H locs → lv_has ls 8 [(0, .ref (κ.2.1 0)), (1, .int k1), (2, .int k2), (3, .int k3), (4, .int b.1)] → W p l e rmX10_together s m args below meth c H locs 0 0 Q (F0 m 98 ls [])) b)) (fun a r hr Kc Ke H locs ls h hl => wX10_together_L21_21 C h hl hr (fun v4 v5 σ1 e => Kc (v4, v5, σ1) e) (fun v4 σ1 e => Ke (v4, σ1) e)) k0 (u4, u5, σ1) b hb K H locs ls h hl
set_option maxRecDepth 20000 in
set_option maxHeartbeats 4000000 in
theorem wX10_together_L141_191 {p : Program} {l : Launch} {e : Env} {s : State} {m : MethodId} {args : Array Value} {below : List Frame} {meth : Method} {c : Code} {A : Nat → Prop} {κ : zG} {H : Heap} {locs : List Loc} {ls : Array Slot} {Q : State → Prop} {n : Nat} {σ : zS} {k1 : Int32} {k2 : Int32} {k3 : Int32} {k5 : Int32} {x6 : Int32} {r : (Int32 × zS) ⊕ (zS)} (C : zC cX10_together 8 none RX10 κ A p s m args meth c) (h : zH wM κ A s σ H locs) (hl : lv_has ls 8 [(0, .ref (κ.2.1 0)), (1, .int k1), (2, .int k2), (3, .int k3), (5, .int k5), (6, .int x6)]) (hf : fX10_together_L141_191 n σ k1 k2 k3 k5 x6 = some r) (Kc : ∀ (v6 : Int32) (σ1 : zS), r = .inl (v6, σ1) → ∀ (H : Heap) (locs : List Loc) (ls : Array Slot), zH wM κ A s σ1 H locs → lv_has ls 8 [(0, .ref (κ.2.1 0)), (1, .int k1), (2, .int k2), (3, .int k3), (5, .int k5), (6, .int v6)] → W p l e rmX10_together s m args below meth c H locs 0 0 Q (F0 m 141 ls [])) (Ke0 : ∀ (σ1 : zS), r = .inr σ1 → ∀ (H : Heap) (locs : List Loc) (ls : Array Slot), zH wM κ A s σ1 H locs → lv_has ls 8 [(0, .ref (κ.2.1 0)), (2, .int k2), (3, .int k3), (5, .int k5)] → W p l e rmX10_together s m args below meth c H locs 0 0 Q (F0 m 197 ls [])) : W p l e rmX10_together s m args below meth c H locs 0 0 Q (F0 m 191 ls []) := by
  unfold fX10_together_L141_191 at hf
  refine lv_iinc (v := (x6 + 1)) (lv' := [(6, .int (x6 + 1)), (0, .ref (κ.2.1 0)), (1, .int k1), (2, .int k2), (3, .int k3), (5, .int k5)]) C.ex C.by dX10_together_191 hl (k := 5) rfl rfl (by decide) rfl (fun ls hl => ?_)
  refine lv_goto (tgt := 141) C.ex C.by dX10_together_194 (by decide) ?_
  exact Kc _ _ (Option.some.inj hf).symm _ _ _ h (lv_sub hl [1, 2, 3, 4, 5, 0] rfl)
set_option maxRecDepth 20000 in
set_option maxHeartbeats 4000000 in
theorem wX10_together_L141_141 {p : Program} {l : Launch} {e : Env} {s : State} {m : MethodId} {args : Array Value} {below : List Frame} {meth : Method} {c : Code} {A : Nat → Prop} {κ : zG} {H : Heap} {locs : List Loc} {ls : Array Slot} {Q : State → Prop} {n : Nat} {k1 : Int32} {k2 : Int32} {k3 : Int32} {k5 : Int32} {a : Int32 × zS} {r : (Int32 × zS) ⊕ (zS)} (C : zC cX10_together 8 none RX10 κ A p s m args meth c) (h : zH wM κ A s a.2 H locs) (hl : lv_has ls 8 [(0, .ref (κ.2.1 0)), (1, .int k1), (2, .int k2), (3, .int k3), (5, .int k5), (6, .int a.1)]) (hf : fX10_together_L141_141 n k1 k2 k3 k5 a = some r) (Kc : ∀ (v6 : Int32) (σ1 : zS), r = .inl (v6, σ1) → ∀ (H : Heap) (locs : List Loc) (ls : Array Slot), zH wM κ A s σ1 H locs → lv_has ls 8 [(0, .ref (κ.2.1 0)), (1, .int k1), (2, .int k2), (3, .int k3), (5, .int k5), (6, .int v6)] → W p l e rmX10_together s m args below meth c H locs 0 0 Q (F0 m 141 ls [])) (Ke0 : ∀ (σ1 : zS), r = .inr σ1 → ∀ (H : Heap) (locs : List Loc) (ls : Array Slot), zH wM κ A s σ1 H locs → lv_has ls 8 [(0, .ref (κ.2.1 0)), (2, .int k2), (3, .int k3), (5, .int k5)] → W p l e rmX10_together s m args below meth c H locs 0 0 Q (F0 m 197 ls [])) : W p l e rmX10_together s m args below meth c H locs 0 0 Q (F0 m 141 ls []) := by
  unfold fX10_together_L141_141 at hf
  refine lv_iload C.ex C.by dX10_together_141 (lv_at hl 5 rfl) ?_
  refine lv_iload_n C.ex C.by dX10_together_143 rfl (lv_at hl 1 rfl) ?_
  refine lv_icmp_gt (tgt := 197) C.ex C.by dX10_together_144 (by decide) (fun c22 => ?_) (fun c22 => ?_)
  · have hf := zif_t c22 hf
    exact Ke0 _ (Option.some.inj hf).symm _ _ _ h (lv_sub hl [0, 2, 3, 4] rfl)
  · have hf := zif_f c22 hf
    refine lv_aload_n C.ex C.by dX10_together_147 rfl (lv_at hl 0 rfl) ?_
    refine z_get (v := .ref (κ.2.1 28)) C h iwX10 0 (wM_at0 κ _) rfl 53 (by decide) lkM188 rfl dX10_together_148 ?_
    refine lv_iload C.ex C.by dX10_together_151 (lv_at hl 5 rfl) ?_
    obtain ⟨h23, hf⟩ := zg_some hf
    refine z_iald (f := (zA a.2 22)) C h 28 (wM_at28 κ _) h23 dX10_together_153 ?_
    refine lv_istore (lv' := [(7, .int ((zA a.2 22) (Int32.toNatClampNeg a.1))), (0, .ref (κ.2.1 0)), (1, .int k1), (2, .int k2), (3, .int k3), (5, .int k5), (6, .int a.1)]) C.ex C.by dX10_together_154 hl (by decide) rfl (fun ls hl => ?_)
    refine lv_aload_n C.ex C.by dX10_together_156 rfl (lv_at hl 1 rfl) ?_
    refine z_get (v := .ref (κ.2.1 27)) C h iwX10 0 (wM_at0 κ _) rfl 52 (by decide) lkM191 rfl dX10_together_157 ?_
    refine lv_iload C.ex C.by dX10_together_160 (lv_at hl 0 rfl) ?_
    obtain ⟨h24, hf⟩ := zg_some hf
    refine z_iald (f := (zA a.2 21)) C h 27 (wM_at27 κ _) h24 dX10_together_162 ?_
    refine lv_if_le (tgt := 180) C.ex C.by dX10_together_163 (by decide) (fun c25 => ?_) (fun c25 => ?_)
    · have hf := zif_t c25 hf
      refine lv_aload_n C.ex C.by dX10_together_180 rfl (lv_at hl 1 rfl) ?_
      refine z_get (v := .ref (κ.2.1 25)) C h iwX10 0 (wM_at0 κ _) rfl 50 (by decide) lkM189 rfl dX10_together_181 ?_
      refine lv_iload C.ex C.by dX10_together_184 (lv_at hl 0 rfl) ?_
      refine lv_dup2_11 C.ex C.by dX10_together_186 rfl rfl ?_
      obtain ⟨h26, hf⟩ := zg_some hf
      refine z_iald (f := (zA a.2 19)) C h 25 (wM_at25 κ _) h26 dX10_together_187 ?_
      refine lv_iconst (v := 1) C.ex C.by dX10_together_188 (by decide) ?_
      refine lv_iadd C.ex C.by dX10_together_189 ?_
      obtain ⟨h27, hf⟩ := zg_some hf
      refine z_iast (f := (zA a.2 19)) C h 25 (wM_at25 κ _) h27 (sA a.2 19 (upd (zA a.2 19) (Int32.toNatClampNeg ((zA a.2 22) (Int32.toNatClampNeg a.1))) (((zA a.2 19) (Int32.toNatClampNeg ((zA a.2 22) (Int32.toNatClampNeg a.1)))) + 1))) (wM_s25 κ _ _) dX10_together_190 (fun H locs h => ?_)
      exact wX10_together_L141_191 C h (lv_sub hl [1, 2, 3, 4, 5, 6] rfl) hf Kc Ke0
    · have hf := zif_f c25 hf
      refine lv_aload_n C.ex C.by dX10_together_166 rfl (lv_at hl 1 rfl) ?_
      refine z_get (v := .ref (κ.2.1 27)) C h iwX10 0 (wM_at0 κ _) rfl 52 (by decide) lkM191 rfl dX10_together_167 ?_
      refine lv_iload C.ex C.by dX10_together_170 (lv_at hl 0 rfl) ?_
      refine lv_dup2_11 C.ex C.by dX10_together_172 rfl rfl ?_
      obtain ⟨h28, hf⟩ := zg_some hf
      refine z_iald (f := (zA a.2 21)) C h 27 (wM_at27 κ _) h28 dX10_together_173 ?_
      refine lv_iconst (v := 1) C.ex C.by dX10_together_174 (by decide) ?_
      refine lv_isub C.ex C.by dX10_together_175 ?_
      obtain ⟨h29, hf⟩ := zg_some hf
      refine z_iast (f := (zA a.2 21)) C h 27 (wM_at27 κ _) h29 (sA a.2 21 (upd (zA a.2 21) (Int32.toNatClampNeg ((zA a.2 22) (Int32.toNatClampNeg a.1))) (((zA a.2 21) (Int32.toNatClampNeg ((zA a.2 22) (Int32.toNatClampNeg a.1)))) - 1))) (wM_s27 κ _ _) dX10_together_176 (fun H locs h => ?_)
      refine lv_goto (tgt := 191) C.ex C.by dX10_together_177 (by decide) ?_
      exact wX10_together_L141_191 C h (lv_sub hl [1, 2, 3, 4, 5, 6] rfl) hf Kc Ke0
theorem wlX10_together_141 {p : Program} {l : Launch} {e : Env} {s : State} {m : MethodId} {args : Array Value} {below : List Frame} {meth : Method} {c : Code} {A : Nat → Prop} {κ : zG} {H : Heap} {locs : List Loc} {ls : Array Slot} {Q : State → Prop} {n : Nat} {k1 : Int32} {k2 : Int32} {k3 : Int32} {k5 : Int32} {k0 : Nat} {u6 : Int32} {σ1 : zS} (C : zC cX10_together 8 none RX10 κ A p s m args meth c) (h : zH wM κ A s σ1 H locs) (hl : lv_has ls 8 [(0, .ref (κ.2.1 0)), (1, .int k1), (2, .int k2), (3, .int k3), (5, .int k5), (6, .int u6)]) (b : zS) (hb : zlp (fX10_together_L141_141 n k1 k2 k3 k5) k0 (u6, σ1) = some b) (K : (fun b : zS => ∀ (H : Heap) (locs : List Loc) (ls : Array Slot), zH wM κ A s b H locs → lv_has ls 8 [(0, .ref (κ.2.1 0)), (2, .int k2), (3, .int k3), (5, .int k5)] → W p l e rmX10_together s m args below meth c H locs 0 0 Q (F0 m 197 ls [])) b) : W p l e rmX10_together s m args below meth c H locs 0 0 Q (F0 m 141 ls []) :=
  z_loop (body := fX10_together_L141_141 n k1 k2 k3 k5) (Wd := (fun a : Int32 × zS => ∀ (H : Heap) (locs : List Loc) (ls : Array Slot), zH wM κ A s a.2 H locs → lv_has ls 8 [(0, .ref (κ.2.1 0)), (1, .int k1), (2, .int k2), (3, .int k3), (5, .int k5), (6, .int a.1)] → W p l e rmX10_together s m args below meth c H locs 0 0 Q (F0 m 141 ls []))) (Ex := (fun b : zS => (fun b : zS => ∀ (H : Heap) (locs : List Loc) (ls : Array Slot), zH wM κ A s b H locs → lv_has ls 8 [(0, .ref (κ.2.1 0)), (2, .int k2), (3, .int k3), (5, .int k5)] → W p l e rmX10_together s m args below meth c H locs 0 0 Q (F0 m 197 ls [])) b)) (fun a r hr Kc Ke H locs ls h hl => wX10_together_L141_141 C h hl hr (fun v6 σ1 e => Kc (v6, σ1) e) (fun σ1 e => Ke σ1 e)) k0 (u6, σ1) b hb K H locs ls h hl
set_option maxRecDepth 20000 in
set_option maxHeartbeats 4000000 in
theorem wX10_together_128 {p : Program} {l : Launch} {e : Env} {s : State} {m : MethodId} {args : Array Value} {below : List Frame} {meth : Method} {c : Code} {A : Nat → Prop} {κ : zG} {H : Heap} {locs : List Loc} {ls : Array Slot} {n : Nat} {σ : zS} {x1 : Int32} {x2 : Int32} {x3 : Int32} {y0 : Int32} {r : zS} (C : zC cX10_together 8 none RX10 κ A p s m args meth c) (h : zH wM κ A s σ H locs) (hl : lv_has ls 8 [(0, .ref (κ.2.1 0)), (1, .int x1), (2, .int x2), (3, .int x3)]) (hf : fX10_together_128 n σ x1 x2 x3 y0 = some r) : W p l e rmX10_together s m args below meth c H locs 0 0 (MQ below (zQv wM κ A r) args s 0 0 A) (F0 m 128 ls [.int y0]) := by
  unfold fX10_together_128 at hf
  refine lv_istore (lv' := [(5, .int y0), (0, .ref (κ.2.1 0)), (1, .int x1), (2, .int x2), (3, .int x3)]) C.ex C.by dX10_together_128 hl (by decide) rfl (fun ls hl => ?_)
  refine lv_aload_n C.ex C.by dX10_together_130 rfl (lv_at hl 1 rfl) ?_
  refine z_get (v := .int (zI σ 17)) C h iwX10 0 (wM_at0 κ _) rfl 29 (by decide) lkM17 rfl dX10_together_131 ?_
  refine lv_if_le (tgt := 138) C.ex C.by dX10_together_134 (by decide) (fun c21 => ?_) (fun c21 => ?_)
  · have hf := zif_t c21 hf
    refine lv_iconst (v := 1) C.ex C.by dX10_together_138 (by decide) ?_
    refine lv_istore (lv' := [(6, .int 1), (5, .int y0), (0, .ref (κ.2.1 0)), (1, .int x1), (2, .int x2), (3, .int x3)]) C.ex C.by dX10_together_139 hl (by decide) rfl (fun ls hl => ?_)
    obtain ⟨b30, e31, hf⟩ := zb_some hf
    refine wlX10_together_141 C h (lv_sub hl [2, 3, 4, 5, 1, 0] rfl) b30 e31 ?_
    intro H locs ls h hl
    refine lv_iload_n C.ex C.by dX10_together_197 rfl (lv_at hl 2 rfl) ?_
    refine lv_if_eq (tgt := 214) C.ex C.by dX10_together_198 (by decide) (fun c32 => ?_) (fun c32 => ?_)
    · have hf := zif_t c32 hf
      refine lv_aload_n C.ex C.by dX10_together_214 rfl (lv_at hl 0 rfl) ?_
      refine lv_iload_n C.ex C.by dX10_together_215 rfl (lv_at hl 1 rfl) ?_
      refine lv_iload C.ex C.by dX10_together_216 (lv_at hl 3 rfl) ?_
      obtain ⟨q33, e34, hf⟩ := zb_some hf
      refine z_callVv (As := [.int x2, .int y0]) C h (ctX10_append e34) (zgV lkM195 lkM196 lkM197 lkM2 lkM198) ⟨rfl, rfl⟩ hdX10_append ⟨Nat.le_of_ble_eq_true rfl, Nat.le_of_ble_eq_true rfl⟩ 0 (wM_at0 κ _) rfl hl rfl rfl (Nat.le_of_ble_eq_true rfl) dX10_together_218 ⟨Nat.zero_le _, Nat.zero_le _⟩ (fun H locs h => ?_)
      cases hf
      exact z_vret C h dX10_together_221
    · have hf := zif_f c32 hf
      refine lv_aload_n C.ex C.by dX10_together_201 rfl (lv_at hl 0 rfl) ?_
      refine z_get (v := .ref (κ.2.1 27)) C h iwX10 0 (wM_at0 κ _) rfl 52 (by decide) lkM191 rfl dX10_together_202 ?_
      refine lv_iload_n C.ex C.by dX10_together_205 rfl (lv_at hl 1 rfl) ?_
      refine lv_dup2_11 C.ex C.by dX10_together_206 rfl rfl ?_
      obtain ⟨h35, hf⟩ := zg_some hf
      refine z_iald (f := (zA b30 21)) C h 27 (wM_at27 κ _) h35 dX10_together_207 ?_
      refine lv_iconst (v := 1) C.ex C.by dX10_together_208 (by decide) ?_
      refine lv_iadd C.ex C.by dX10_together_209 ?_
      obtain ⟨h36, hf⟩ := zg_some hf
      refine z_iast (f := (zA b30 21)) C h 27 (wM_at27 κ _) h36 (sA b30 21 (upd (zA b30 21) (Int32.toNatClampNeg x2) (((zA b30 21) (Int32.toNatClampNeg x2)) + 1))) (wM_s27 κ _ _) dX10_together_210 (fun H locs h => ?_)
      refine lv_goto (tgt := 221) C.ex C.by dX10_together_211 (by decide) ?_
      cases hf
      exact z_vret C h dX10_together_221
  · have hf := zif_f c21 hf
    cases hf
    exact z_vret C h dX10_together_137
set_option maxRecDepth 20000 in
set_option maxHeartbeats 4000000 in
theorem wX10_together_0 {p : Program} {l : Launch} {e : Env} {s : State} {m : MethodId} {args : Array Value} {below : List Frame} {meth : Method} {c : Code} {A : Nat → Prop} {κ : zG} {H : Heap} {locs : List Loc} {ls : Array Slot} {n : Nat} {σ : zS} {x1 : Int32} {r : zS} (C : zC cX10_together 8 none RX10 κ A p s m args meth c) (h : zH wM κ A s σ H locs) (hl : lv_has ls 8 [(0, .ref (κ.2.1 0)), (1, .int x1)]) (hf : fX10_together_0 n σ x1 = some r) : W p l e rmX10_together s m args below meth c H locs 0 0 (MQ below (zQv wM κ A r) args s 0 0 A) (F0 m 0 ls []) := by
  unfold fX10_together_0 at hf
  refine lv_aload_n C.ex C.by dX10_together_0 rfl (lv_at hl 0 rfl) ?_
  refine z_get (v := .ref (κ.2.1 28)) C h iwX10 0 (wM_at0 κ _) rfl 53 (by decide) lkM188 rfl dX10_together_1 ?_
  refine lv_iload_n C.ex C.by dX10_together_4 rfl (lv_at hl 1 rfl) ?_
  refine lv_iconst (v := 1) C.ex C.by dX10_together_5 (by decide) ?_
  refine lv_iadd C.ex C.by dX10_together_6 ?_
  obtain ⟨h1, hf⟩ := zg_some hf
  refine z_iald (f := (zA σ 22)) C h 28 (wM_at28 κ _) h1 dX10_together_7 ?_
  refine lv_istore_n (lv' := [(2, .int ((zA σ 22) (Int32.toNatClampNeg (x1 + 1)))), (0, .ref (κ.2.1 0)), (1, .int x1)]) C.ex C.by dX10_together_8 rfl hl (by decide) rfl (fun ls hl => ?_)
  refine lv_aload_n C.ex C.by dX10_together_9 rfl (lv_at hl 1 rfl) ?_
  refine lv_iload_n C.ex C.by dX10_together_10 rfl (lv_at hl 2 rfl) ?_
  obtain ⟨q2, e3, hf⟩ := zb_some hf
  refine z_callVi (As := [.int x1]) C h (ctX10_allThought e3) (zgV lkM207 lkM208 lkM209 lkM2 lkM210) ⟨rfl, rfl⟩ hdX10_allThought ⟨Nat.le_of_ble_eq_true rfl, Nat.le_of_ble_eq_true rfl⟩ 0 (wM_at0 κ _) rfl hl rfl rfl (Nat.le_of_ble_eq_true rfl) dX10_together_11 ⟨Nat.zero_le _, Nat.zero_le _⟩ (fun H locs h => ?_)
  refine lv_istore_n (lv' := [(3, .int q2), (2, .int ((zA σ 22) (Int32.toNatClampNeg (x1 + 1)))), (0, .ref (κ.2.1 0)), (1, .int x1)]) C.ex C.by dX10_together_14 rfl hl (by decide) rfl (fun ls hl => ?_)
  refine lv_iconst (v := 0) C.ex C.by dX10_together_15 (by decide) ?_
  refine lv_istore (lv' := [(4, .int 0), (3, .int q2), (2, .int ((zA σ 22) (Int32.toNatClampNeg (x1 + 1)))), (0, .ref (κ.2.1 0)), (1, .int x1)]) C.ex C.by dX10_together_16 hl (by decide) rfl (fun ls hl => ?_)
  refine lv_iconst (v := 1) C.ex C.by dX10_together_18 (by decide) ?_
  refine lv_istore (lv' := [(5, .int 1), (4, .int 0), (3, .int q2), (2, .int ((zA σ 22) (Int32.toNatClampNeg (x1 + 1)))), (0, .ref (κ.2.1 0)), (1, .int x1)]) C.ex C.by dX10_together_19 hl (by decide) rfl (fun ls hl => ?_)
  obtain ⟨b14, e15, hf⟩ := zb_some hf
  refine wlX10_together_21 C h (lv_sub hl [4, 5, 3, 2, 1, 0] rfl) b14 e15 ?_
  intro H locs ls h hl
  refine lv_iload C.ex C.by dX10_together_98 (lv_at hl 4 rfl) ?_
  refine lv_if_ne (tgt := 107) C.ex C.by dX10_together_100 (by decide) (fun c16 => ?_) (fun c16 => ?_)
  · have hf := zif_f c16 hf
    refine lv_iload C.ex C.by dX10_together_107 (lv_at hl 4 rfl) ?_
    refine lv_iconst (v := 1) C.ex C.by dX10_together_109 (by decide) ?_
    refine lv_icmp_ne (tgt := 122) C.ex C.by dX10_together_110 (by decide) (fun c17 => ?_) (fun c17 => ?_)
    · have hf := zif_f c17 hf
      refine lv_aload_n C.ex C.by dX10_together_122 rfl (lv_at hl 0 rfl) ?_
      refine lv_iload C.ex C.by dX10_together_123 (lv_at hl 4 rfl) ?_
      obtain ⟨q18, e19, hf⟩ := zb_some hf
      refine z_callVi (As := [.int b14.1]) C h (ctX10_merge (r1 := q18.1) (r2 := q18.2) e19) (zgV lkM171 lkM172 lkM173 lkM2 lkM174) ⟨rfl, rfl⟩ hdX10_merge ⟨Nat.le_of_ble_eq_true rfl, Nat.le_of_ble_eq_true rfl⟩ 0 (wM_at0 κ _) rfl hl rfl rfl (Nat.le_of_ble_eq_true rfl) dX10_together_125 ⟨Nat.zero_le _, Nat.zero_le _⟩ (fun H locs h => ?_)
      exact wX10_together_128 C h (lv_sub hl [0, 1, 2, 3] rfl) hf
    · have hf := zif_t c17 hf
      refine lv_aload_n C.ex C.by dX10_together_113 rfl (lv_at hl 0 rfl) ?_
      refine z_get (v := .ref (κ.2.1 19)) C h iwX10 0 (wM_at0 κ _) rfl 44 (by decide) lkM155 rfl dX10_together_114 ?_
      refine lv_iconst (v := 0) C.ex C.by dX10_together_117 (by decide) ?_
      obtain ⟨h20, hf⟩ := zg_some hf
      refine z_iald (f := (zA b14.2 13)) C h 19 (wM_at19 κ _) h20 dX10_together_118 ?_
      refine lv_goto (tgt := 128) C.ex C.by dX10_together_119 (by decide) ?_
      exact wX10_together_128 C h (lv_sub hl [0, 1, 2, 3] rfl) hf
  · have hf := zif_t c16 hf
    refine lv_iconst (v := (-1)) C.ex C.by dX10_together_103 (by decide) ?_
    refine lv_goto (tgt := 128) C.ex C.by dX10_together_104 (by decide) ?_
    exact wX10_together_128 C h (lv_sub hl [0, 1, 2, 3] rfl) hf
theorem ctX10_together {l : Launch} {κ : zG} {n : Nat} {σ : zS} {x1 : Int32} {r : zS} (hf : fX10_together_0 n σ x1 = some r) : zMv l yX10_together (Cond.code yX10_together cX10_together 8 none) rmX10_together wM κ [.ref (κ.2.1 0), .int x1] σ r :=
  zMv_of (by decide) (Nat.le_of_ble_eq_true rfl) (fun p e s m below meth c A C h ls hl => wX10_together_0 C h hl hf)
theorem hdX10_lower : yX10_lower.cls = RX10 ∧ yX10_lower.cls ≠ "java/lang/invoke/MethodHandle" ∧ yX10_lower.cls ≠ "java/lang/invoke/VarHandle" ∧ (parseMethodDescriptor yX10_lower.desc).map (fun d => d.parameters.length) = some 1 := by decide +kernel
abbrev rmX10_lower : Room := { frames := 0, cells := 0, slots := 0, locals := 0 }
set_option maxRecDepth 20000 in
set_option maxHeartbeats 4000000 in
theorem wX10_lower_L9_9 {p : Program} {l : Launch} {e : Env} {s : State} {m : MethodId} {args : Array Value} {below : List Frame} {meth : Method} {c : Code} {A : Nat → Prop} {κ : zG} {H : Heap} {locs : List Loc} {ls : Array Slot} {Q : State → Prop} {n : Nat} {k2 : Int32} {a : Int32 × zS} {r : (Int32 × zS) ⊕ (zS)} (C : zC cX10_lower 4 none RX10 κ A p s m args meth c) (h : zH wM κ A s a.2 H locs) (hl : lv_has ls 4 [(0, .ref (κ.2.1 0)), (2, .int k2), (3, .int a.1)]) (hf : fX10_lower_L9_9 n k2 a = some r) (Kc : ∀ (v3 : Int32) (σ1 : zS), r = .inl (v3, σ1) → ∀ (H : Heap) (locs : List Loc) (ls : Array Slot), zH wM κ A s σ1 H locs → lv_has ls 4 [(0, .ref (κ.2.1 0)), (2, .int k2), (3, .int v3)] → W p l e rmX10_lower s m args below meth c H locs 0 0 Q (F0 m 9 ls [])) (Ke0 : ∀ (σ1 : zS), r = .inr σ1 → ∀ (H : Heap) (locs : List Loc) (ls : Array Slot), zH wM κ A s σ1 H locs → lv_has ls 4 [(0, .ref (κ.2.1 0)), (2, .int k2)] → W p l e rmX10_lower s m args below meth c H locs 0 0 Q (F0 m 36 ls [])) : W p l e rmX10_lower s m args below meth c H locs 0 0 Q (F0 m 9 ls []) := by
  unfold fX10_lower_L9_9 at hf
  refine lv_iload_n C.ex C.by dX10_lower_9 rfl (lv_at hl 2 rfl) ?_
  refine lv_iconst (v := 1) C.ex C.by dX10_lower_10 (by decide) ?_
  refine lv_icmp_le (tgt := 36) C.ex C.by dX10_lower_11 (by decide) (fun c2 => ?_) (fun c2 => ?_)
  · have hf := zif_t c2 hf
    exact Ke0 _ (Option.some.inj hf).symm _ _ _ h (lv_sub hl [0, 1] rfl)
  · have hf := zif_f c2 hf
    refine lv_aload_n C.ex C.by dX10_lower_14 rfl (lv_at hl 0 rfl) ?_
    refine z_get (v := .ref (κ.2.1 29)) C h iwX10 0 (wM_at0 κ _) rfl 54 (by decide) lkM192 rfl dX10_lower_15 ?_
    refine lv_iload_n C.ex C.by dX10_lower_18 rfl (lv_at hl 2 rfl) ?_
    refine lv_aload_n C.ex C.by dX10_lower_19 rfl (lv_at hl 0 rfl) ?_
    refine z_get (v := .ref (κ.2.1 29)) C h iwX10 0 (wM_at0 κ _) rfl 54 (by decide) lkM192 rfl dX10_lower_20 ?_
    refine lv_iload_n C.ex C.by dX10_lower_23 rfl (lv_at hl 2 rfl) ?_
    refine lv_iconst (v := 1) C.ex C.by dX10_lower_24 (by decide) ?_
    refine lv_isub C.ex C.by dX10_lower_25 ?_
    obtain ⟨h3, hf⟩ := zg_some hf
    refine z_iald (f := (zA a.2 23)) C h 29 (wM_at29 κ _) h3 dX10_lower_26 ?_
    refine lv_iload_n C.ex C.by dX10_lower_27 rfl (lv_at hl 1 rfl) ?_
    refine lv_isub C.ex C.by dX10_lower_28 ?_
    obtain ⟨h4, hf⟩ := zg_some hf
    refine z_iast (f := (zA a.2 23)) C h 29 (wM_at29 κ _) h4 (sA a.2 23 (upd (zA a.2 23) (Int32.toNatClampNeg a.1) (((zA a.2 23) (Int32.toNatClampNeg (a.1 - 1))) - k2))) (wM_s29 κ _ _) dX10_lower_29 (fun H locs h => ?_)
    refine lv_iinc (v := (a.1 + (-1))) (lv' := [(3, .int (a.1 + (-1))), (0, .ref (κ.2.1 0)), (2, .int k2)]) C.ex C.by dX10_lower_30 hl (k := 2) rfl rfl (by decide) rfl (fun ls hl => ?_)
    refine lv_goto (tgt := 9) C.ex C.by dX10_lower_33 (by decide) ?_
    exact Kc _ _ (Option.some.inj hf).symm _ _ _ h (lv_sub hl [1, 2, 0] rfl)
theorem wlX10_lower_9 {p : Program} {l : Launch} {e : Env} {s : State} {m : MethodId} {args : Array Value} {below : List Frame} {meth : Method} {c : Code} {A : Nat → Prop} {κ : zG} {H : Heap} {locs : List Loc} {ls : Array Slot} {Q : State → Prop} {n : Nat} {k2 : Int32} {k0 : Nat} {u3 : Int32} {σ1 : zS} (C : zC cX10_lower 4 none RX10 κ A p s m args meth c) (h : zH wM κ A s σ1 H locs) (hl : lv_has ls 4 [(0, .ref (κ.2.1 0)), (2, .int k2), (3, .int u3)]) (b : zS) (hb : zlp (fX10_lower_L9_9 n k2) k0 (u3, σ1) = some b) (K : (fun b : zS => ∀ (H : Heap) (locs : List Loc) (ls : Array Slot), zH wM κ A s b H locs → lv_has ls 4 [(0, .ref (κ.2.1 0)), (2, .int k2)] → W p l e rmX10_lower s m args below meth c H locs 0 0 Q (F0 m 36 ls [])) b) : W p l e rmX10_lower s m args below meth c H locs 0 0 Q (F0 m 9 ls []) :=
  z_loop (body := fX10_lower_L9_9 n k2) (Wd := (fun a : Int32 × zS => ∀ (H : Heap) (locs : List Loc) (ls : Array Slot), zH wM κ A s a.2 H locs → lv_has ls 4 [(0, .ref (κ.2.1 0)), (2, .int k2), (3, .int a.1)] → W p l e rmX10_lower s m args below meth c H locs 0 0 Q (F0 m 9 ls []))) (Ex := (fun b : zS => (fun b : zS => ∀ (H : Heap) (locs : List Loc) (ls : Array Slot), zH wM κ A s b H locs → lv_has ls 4 [(0, .ref (κ.2.1 0)), (2, .int k2)] → W p l e rmX10_lower s m args below meth c H locs 0 0 Q (F0 m 36 ls [])) b)) (fun a r hr Kc Ke H locs ls h hl => wX10_lower_L9_9 C h hl hr (fun v3 σ1 e => Kc (v3, σ1) e) (fun σ1 e => Ke σ1 e)) k0 (u3, σ1) b hb K H locs ls h hl
set_option maxRecDepth 20000 in
set_option maxHeartbeats 4000000 in
theorem wX10_lower_0 {p : Program} {l : Launch} {e : Env} {s : State} {m : MethodId} {args : Array Value} {below : List Frame} {meth : Method} {c : Code} {A : Nat → Prop} {κ : zG} {H : Heap} {locs : List Loc} {ls : Array Slot} {n : Nat} {σ : zS} {x1 : Int32} {r : zS} (C : zC cX10_lower 4 none RX10 κ A p s m args meth c) (h : zH wM κ A s σ H locs) (hl : lv_has ls 4 [(0, .ref (κ.2.1 0)), (1, .int x1)]) (hf : fX10_lower_0 n σ x1 = some r) : W p l e rmX10_lower s m args below meth c H locs 0 0 (MQ below (zQv wM κ A r) args s 0 0 A) (F0 m 0 ls []) := by
  unfold fX10_lower_0 at hf
  refine lv_aload_n C.ex C.by dX10_lower_0 rfl (lv_at hl 0 rfl) ?_
  refine z_get (v := .ref (κ.2.1 29)) C h iwX10 0 (wM_at0 κ _) rfl 54 (by decide) lkM192 rfl dX10_lower_1 ?_
  refine lv_iload_n C.ex C.by dX10_lower_4 rfl (lv_at hl 1 rfl) ?_
  obtain ⟨h1, hf⟩ := zg_some hf
  refine z_iald (f := (zA σ 23)) C h 29 (wM_at29 κ _) h1 dX10_lower_5 ?_
  refine lv_istore_n (lv' := [(2, .int ((zA σ 23) (Int32.toNatClampNeg x1))), (0, .ref (κ.2.1 0)), (1, .int x1)]) C.ex C.by dX10_lower_6 rfl hl (by decide) rfl (fun ls hl => ?_)
  refine lv_iload_n C.ex C.by dX10_lower_7 rfl (lv_at hl 2 rfl) ?_
  refine lv_istore_n (lv' := [(3, .int x1), (2, .int ((zA σ 23) (Int32.toNatClampNeg x1))), (0, .ref (κ.2.1 0)), (1, .int x1)]) C.ex C.by dX10_lower_8 rfl hl (by decide) rfl (fun ls hl => ?_)
  obtain ⟨b5, e6, hf⟩ := zb_some hf
  refine wlX10_lower_9 C h (lv_sub hl [2, 1, 0] rfl) b5 e6 ?_
  intro H locs ls h hl
  refine lv_aload_n C.ex C.by dX10_lower_36 rfl (lv_at hl 0 rfl) ?_
  refine z_get (v := .ref (κ.2.1 29)) C h iwX10 0 (wM_at0 κ _) rfl 54 (by decide) lkM192 rfl dX10_lower_37 ?_
  refine lv_iconst (v := 1) C.ex C.by dX10_lower_40 (by decide) ?_
  refine lv_iload_n C.ex C.by dX10_lower_41 rfl (lv_at hl 1 rfl) ?_
  obtain ⟨h7, hf⟩ := zg_some hf
  refine z_iast (f := (zA b5 23)) C h 29 (wM_at29 κ _) h7 (sA b5 23 (upd (zA b5 23) (Int32.toNatClampNeg 1) ((zA σ 23) (Int32.toNatClampNeg x1)))) (wM_s29 κ _ _) dX10_lower_42 (fun H locs h => ?_)
  cases hf
  exact z_vret C h dX10_lower_43
theorem ctX10_lower {l : Launch} {κ : zG} {n : Nat} {σ : zS} {x1 : Int32} {r : zS} (hf : fX10_lower_0 n σ x1 = some r) : zMv l yX10_lower (Cond.code yX10_lower cX10_lower 4 none) rmX10_lower wM κ [.ref (κ.2.1 0), .int x1] σ r :=
  zMv_of (by decide) (Nat.le_of_ble_eq_true rfl) (fun p e s m below meth c A C h ls hl => wX10_lower_0 C h hl hf)
theorem hdX10_rotate : yX10_rotate.cls = RX10 ∧ yX10_rotate.cls ≠ "java/lang/invoke/MethodHandle" ∧ yX10_rotate.cls ≠ "java/lang/invoke/VarHandle" ∧ (parseMethodDescriptor yX10_rotate.desc).map (fun d => d.parameters.length) = some 1 := by decide +kernel
abbrev rmX10_rotate : Room := { frames := 0, cells := 0, slots := 0, locals := 0 }
set_option maxRecDepth 20000 in
set_option maxHeartbeats 4000000 in
theorem wX10_rotate_L9_9 {p : Program} {l : Launch} {e : Env} {s : State} {m : MethodId} {args : Array Value} {below : List Frame} {meth : Method} {c : Code} {A : Nat → Prop} {κ : zG} {H : Heap} {locs : List Loc} {ls : Array Slot} {Q : State → Prop} {n : Nat} {k1 : Int32} {k2 : Int32} {a : Int32 × zS} {r : (Int32 × zS) ⊕ (zS)} (C : zC cX10_rotate 4 none RX10 κ A p s m args meth c) (h : zH wM κ A s a.2 H locs) (hl : lv_has ls 4 [(0, .ref (κ.2.1 0)), (1, .int k1), (2, .int k2), (3, .int a.1)]) (hf : fX10_rotate_L9_9 n k1 k2 a = some r) (Kc : ∀ (v3 : Int32) (σ1 : zS), r = .inl (v3, σ1) → ∀ (H : Heap) (locs : List Loc) (ls : Array Slot), zH wM κ A s σ1 H locs → lv_has ls 4 [(0, .ref (κ.2.1 0)), (1, .int k1), (2, .int k2), (3, .int v3)] → W p l e rmX10_rotate s m args below meth c H locs 0 0 Q (F0 m 9 ls [])) (Ke0 : ∀ (σ1 : zS), r = .inr σ1 → ∀ (H : Heap) (locs : List Loc) (ls : Array Slot), zH wM κ A s σ1 H locs → lv_has ls 4 [(0, .ref (κ.2.1 0)), (1, .int k1), (2, .int k2)] → W p l e rmX10_rotate s m args below meth c H locs 0 0 Q (F0 m 34 ls [])) : W p l e rmX10_rotate s m args below meth c H locs 0 0 Q (F0 m 9 ls []) := by
  unfold fX10_rotate_L9_9 at hf
  refine lv_iload_n C.ex C.by dX10_rotate_9 rfl (lv_at hl 3 rfl) ?_
  refine lv_iconst (v := 1) C.ex C.by dX10_rotate_10 (by decide) ?_
  refine lv_icmp_le (tgt := 34) C.ex C.by dX10_rotate_11 (by decide) (fun c2 => ?_) (fun c2 => ?_)
  · have hf := zif_t c2 hf
    exact Ke0 _ (Option.some.inj hf).symm _ _ _ h (lv_sub hl [0, 1, 2] rfl)
  · have hf := zif_f c2 hf
    refine lv_aload_n C.ex C.by dX10_rotate_14 rfl (lv_at hl 0 rfl) ?_
    refine z_get (v := .ref (κ.2.1 28)) C h iwX10 0 (wM_at0 κ _) rfl 53 (by decide) lkM188 rfl dX10_rotate_15 ?_
    refine lv_iload_n C.ex C.by dX10_rotate_18 rfl (lv_at hl 3 rfl) ?_
    refine lv_aload_n C.ex C.by dX10_rotate_19 rfl (lv_at hl 0 rfl) ?_
    refine z_get (v := .ref (κ.2.1 28)) C h iwX10 0 (wM_at0 κ _) rfl 53 (by decide) lkM188 rfl dX10_rotate_20 ?_
    refine lv_iload_n C.ex C.by dX10_rotate_23 rfl (lv_at hl 3 rfl) ?_
    refine lv_iconst (v := 1) C.ex C.by dX10_rotate_24 (by decide) ?_
    refine lv_isub C.ex C.by dX10_rotate_25 ?_
    obtain ⟨h3, hf⟩ := zg_some hf
    refine z_iald (f := (zA a.2 22)) C h 28 (wM_at28 κ _) h3 dX10_rotate_26 ?_
    obtain ⟨h4, hf⟩ := zg_some hf
    refine z_iast (f := (zA a.2 22)) C h 28 (wM_at28 κ _) h4 (sA a.2 22 (upd (zA a.2 22) (Int32.toNatClampNeg a.1) ((zA a.2 22) (Int32.toNatClampNeg (a.1 - 1))))) (wM_s28 κ _ _) dX10_rotate_27 (fun H locs h => ?_)
    refine lv_iinc (v := (a.1 + (-1))) (lv' := [(3, .int (a.1 + (-1))), (0, .ref (κ.2.1 0)), (1, .int k1), (2, .int k2)]) C.ex C.by dX10_rotate_28 hl (k := 3) rfl rfl (by decide) rfl (fun ls hl => ?_)
    refine lv_goto (tgt := 9) C.ex C.by dX10_rotate_31 (by decide) ?_
    exact Kc _ _ (Option.some.inj hf).symm _ _ _ h (lv_sub hl [1, 2, 3, 0] rfl)
theorem wlX10_rotate_9 {p : Program} {l : Launch} {e : Env} {s : State} {m : MethodId} {args : Array Value} {below : List Frame} {meth : Method} {c : Code} {A : Nat → Prop} {κ : zG} {H : Heap} {locs : List Loc} {ls : Array Slot} {Q : State → Prop} {n : Nat} {k1 : Int32} {k2 : Int32} {k0 : Nat} {u3 : Int32} {σ1 : zS} (C : zC cX10_rotate 4 none RX10 κ A p s m args meth c) (h : zH wM κ A s σ1 H locs) (hl : lv_has ls 4 [(0, .ref (κ.2.1 0)), (1, .int k1), (2, .int k2), (3, .int u3)]) (b : zS) (hb : zlp (fX10_rotate_L9_9 n k1 k2) k0 (u3, σ1) = some b) (K : (fun b : zS => ∀ (H : Heap) (locs : List Loc) (ls : Array Slot), zH wM κ A s b H locs → lv_has ls 4 [(0, .ref (κ.2.1 0)), (1, .int k1), (2, .int k2)] → W p l e rmX10_rotate s m args below meth c H locs 0 0 Q (F0 m 34 ls [])) b) : W p l e rmX10_rotate s m args below meth c H locs 0 0 Q (F0 m 9 ls []) :=
  z_loop (body := fX10_rotate_L9_9 n k1 k2) (Wd := (fun a : Int32 × zS => ∀ (H : Heap) (locs : List Loc) (ls : Array Slot), zH wM κ A s a.2 H locs → lv_has ls 4 [(0, .ref (κ.2.1 0)), (1, .int k1), (2, .int k2), (3, .int a.1)] → W p l e rmX10_rotate s m args below meth c H locs 0 0 Q (F0 m 9 ls []))) (Ex := (fun b : zS => (fun b : zS => ∀ (H : Heap) (locs : List Loc) (ls : Array Slot), zH wM κ A s b H locs → lv_has ls 4 [(0, .ref (κ.2.1 0)), (1, .int k1), (2, .int k2)] → W p l e rmX10_rotate s m args below meth c H locs 0 0 Q (F0 m 34 ls [])) b)) (fun a r hr Kc Ke H locs ls h hl => wX10_rotate_L9_9 C h hl hr (fun v3 σ1 e => Kc (v3, σ1) e) (fun σ1 e => Ke σ1 e)) k0 (u3, σ1) b hb K H locs ls h hl
set_option maxRecDepth 20000 in
set_option maxHeartbeats 4000000 in
theorem wX10_rotate_0 {p : Program} {l : Launch} {e : Env} {s : State} {m : MethodId} {args : Array Value} {below : List Frame} {meth : Method} {c : Code} {A : Nat → Prop} {κ : zG} {H : Heap} {locs : List Loc} {ls : Array Slot} {n : Nat} {σ : zS} {x1 : Int32} {r : zS} (C : zC cX10_rotate 4 none RX10 κ A p s m args meth c) (h : zH wM κ A s σ H locs) (hl : lv_has ls 4 [(0, .ref (κ.2.1 0)), (1, .int x1)]) (hf : fX10_rotate_0 n σ x1 = some r) : W p l e rmX10_rotate s m args below meth c H locs 0 0 (MQ below (zQv wM κ A r) args s 0 0 A) (F0 m 0 ls []) := by
  unfold fX10_rotate_0 at hf
  refine lv_aload_n C.ex C.by dX10_rotate_0 rfl (lv_at hl 0 rfl) ?_
  refine z_get (v := .ref (κ.2.1 28)) C h iwX10 0 (wM_at0 κ _) rfl 53 (by decide) lkM188 rfl dX10_rotate_1 ?_
  refine lv_iload_n C.ex C.by dX10_rotate_4 rfl (lv_at hl 1 rfl) ?_
  obtain ⟨h1, hf⟩ := zg_some hf
  refine z_iald (f := (zA σ 22)) C h 28 (wM_at28 κ _) h1 dX10_rotate_5 ?_
  refine lv_istore_n (lv' := [(2, .int ((zA σ 22) (Int32.toNatClampNeg x1))), (0, .ref (κ.2.1 0)), (1, .int x1)]) C.ex C.by dX10_rotate_6 rfl hl (by decide) rfl (fun ls hl => ?_)
  refine lv_iload_n C.ex C.by dX10_rotate_7 rfl (lv_at hl 2 rfl) ?_
  refine lv_istore_n (lv' := [(3, .int x1), (2, .int ((zA σ 22) (Int32.toNatClampNeg x1))), (0, .ref (κ.2.1 0)), (1, .int x1)]) C.ex C.by dX10_rotate_8 rfl hl (by decide) rfl (fun ls hl => ?_)
  obtain ⟨b5, e6, hf⟩ := zb_some hf
  refine wlX10_rotate_9 C h (lv_sub hl [2, 3, 1, 0] rfl) b5 e6 ?_
  intro H locs ls h hl
  refine lv_aload_n C.ex C.by dX10_rotate_34 rfl (lv_at hl 0 rfl) ?_
  refine z_get (v := .ref (κ.2.1 28)) C h iwX10 0 (wM_at0 κ _) rfl 53 (by decide) lkM188 rfl dX10_rotate_35 ?_
  refine lv_iconst (v := 1) C.ex C.by dX10_rotate_38 (by decide) ?_
  refine lv_iload_n C.ex C.by dX10_rotate_39 rfl (lv_at hl 2 rfl) ?_
  obtain ⟨h7, hf⟩ := zg_some hf
  refine z_iast (f := (zA b5 22)) C h 28 (wM_at28 κ _) h7 (sA b5 22 (upd (zA b5 22) (Int32.toNatClampNeg 1) ((zA σ 22) (Int32.toNatClampNeg x1)))) (wM_s28 κ _ _) dX10_rotate_40 (fun H locs h => ?_)
  refine lv_aload_n C.ex C.by dX10_rotate_41 rfl (lv_at hl 0 rfl) ?_
  refine z_get (v := .ref (κ.2.1 28)) C h iwX10 0 (wM_at0 κ _) rfl 53 (by decide) lkM188 rfl dX10_rotate_42 ?_
  refine lv_iload_n C.ex C.by dX10_rotate_45 rfl (lv_at hl 1 rfl) ?_
  obtain ⟨h8, hf⟩ := zg_some hf
  refine z_iald (f := (upd (zA b5 22) (Int32.toNatClampNeg 1) ((zA σ 22) (Int32.toNatClampNeg x1)))) C h 28 (wM_at28 κ _) h8 dX10_rotate_46 ?_
  refine lv_istore_n (lv' := [(3, .int ((upd (zA b5 22) (Int32.toNatClampNeg 1) ((zA σ 22) (Int32.toNatClampNeg x1))) (Int32.toNatClampNeg x1))), (0, .ref (κ.2.1 0)), (1, .int x1), (2, .int ((zA σ 22) (Int32.toNatClampNeg x1)))]) C.ex C.by dX10_rotate_47 rfl hl (by decide) rfl (fun ls hl => ?_)
  refine lv_aload_n C.ex C.by dX10_rotate_48 rfl (lv_at hl 1 rfl) ?_
  refine z_get (v := .ref (κ.2.1 25)) C h iwX10 0 (wM_at0 κ _) rfl 50 (by decide) lkM189 rfl dX10_rotate_49 ?_
  refine lv_iload_n C.ex C.by dX10_rotate_52 rfl (lv_at hl 0 rfl) ?_
  refine lv_iconst (v := 0) C.ex C.by dX10_rotate_53 (by decide) ?_
  obtain ⟨h9, hf⟩ := zg_some hf
  refine z_iast (f := (zA b5 19)) C h 25 (wM_at25 κ _) h9 (sA (sA b5 22 (upd (zA b5 22) (Int32.toNatClampNeg 1) ((zA σ 22) (Int32.toNatClampNeg x1)))) 19 (upd (zA b5 19) (Int32.toNatClampNeg ((upd (zA b5 22) (Int32.toNatClampNeg 1) ((zA σ 22) (Int32.toNatClampNeg x1))) (Int32.toNatClampNeg x1))) 0)) (wM_s25 κ _ _) dX10_rotate_54 (fun H locs h => ?_)
  refine lv_aload_n C.ex C.by dX10_rotate_55 rfl (lv_at hl 1 rfl) ?_
  refine z_get (v := .ref (κ.2.1 26)) C h iwX10 0 (wM_at0 κ _) rfl 51 (by decide) lkM190 rfl dX10_rotate_56 ?_
  refine lv_iload_n C.ex C.by dX10_rotate_59 rfl (lv_at hl 0 rfl) ?_
  refine lv_iconst (v := 0) C.ex C.by dX10_rotate_60 (by decide) ?_
  obtain ⟨h10, hf⟩ := zg_some hf
  refine z_iast (f := (zA b5 20)) C h 26 (wM_at26 κ _) h10 (sA (sA (sA b5 22 (upd (zA b5 22) (Int32.toNatClampNeg 1) ((zA σ 22) (Int32.toNatClampNeg x1)))) 19 (upd (zA b5 19) (Int32.toNatClampNeg ((upd (zA b5 22) (Int32.toNatClampNeg 1) ((zA σ 22) (Int32.toNatClampNeg x1))) (Int32.toNatClampNeg x1))) 0)) 20 (upd (zA b5 20) (Int32.toNatClampNeg ((upd (zA b5 22) (Int32.toNatClampNeg 1) ((zA σ 22) (Int32.toNatClampNeg x1))) (Int32.toNatClampNeg x1))) 0)) (wM_s26 κ _ _) dX10_rotate_61 (fun H locs h => ?_)
  cases hf
  exact z_vret C h dX10_rotate_62
theorem ctX10_rotate {l : Launch} {κ : zG} {n : Nat} {σ : zS} {x1 : Int32} {r : zS} (hf : fX10_rotate_0 n σ x1 = some r) : zMv l yX10_rotate (Cond.code yX10_rotate cX10_rotate 4 none) rmX10_rotate wM κ [.ref (κ.2.1 0), .int x1] σ r :=
  zMv_of (by decide) (Nat.le_of_ble_eq_true rfl) (fun p e s m below meth c A C h ls hl => wX10_rotate_0 C h hl hf)
theorem hdX10_gather : yX10_gather.cls = RX10 ∧ yX10_gather.cls ≠ "java/lang/invoke/MethodHandle" ∧ yX10_gather.cls ≠ "java/lang/invoke/VarHandle" ∧ (parseMethodDescriptor yX10_gather.desc).map (fun d => d.parameters.length) = some 1 := by decide +kernel
abbrev rmX10_gather : Room := { frames := 0, cells := 0, slots := 0, locals := 0 }
set_option maxRecDepth 20000 in
set_option maxHeartbeats 4000000 in
theorem wX10_gather_L27_27 {p : Program} {l : Launch} {e : Env} {s : State} {m : MethodId} {args : Array Value} {below : List Frame} {meth : Method} {c : Code} {A : Nat → Prop} {κ : zG} {H : Heap} {locs : List Loc} {ls : Array Slot} {Q : State → Prop} {n : Nat} {k1 : Int32} {k2 : Int32} {k3 : Int32} {a : Int32 × zS} {r : (Int32 × zS) ⊕ (zS)} (C : zC cX10_gather 5 none RX10 κ A p s m args meth c) (h : zH wM κ A s a.2 H locs) (hl : lv_has ls 5 [(0, .ref (κ.2.1 0)), (1, .int k1), (2, .int k2), (3, .int k3), (4, .int a.1)]) (hf : fX10_gather_L27_27 n k1 k2 k3 a = some r) (Kc : ∀ (v4 : Int32) (σ1 : zS), r = .inl (v4, σ1) → ∀ (H : Heap) (locs : List Loc) (ls : Array Slot), zH wM κ A s σ1 H locs → lv_has ls 5 [(0, .ref (κ.2.1 0)), (1, .int k1), (2, .int k2), (3, .int k3), (4, .int v4)] → W p l e rmX10_gather s m args below meth c H locs 0 0 Q (F0 m 27 ls [])) (Ke0 : ∀ (σ1 : zS), r = .inr σ1 → ∀ (H : Heap) (locs : List Loc) (ls : Array Slot), zH wM κ A s σ1 H locs → lv_has ls 5 [(0, .ref (κ.2.1 0)), (1, .int k1), (2, .int k2)] → W p l e rmX10_gather s m args below meth c H locs 0 0 Q (F0 m 76 ls [])) : W p l e rmX10_gather s m args below meth c H locs 0 0 Q (F0 m 27 ls []) := by
  unfold fX10_gather_L27_27 at hf
  refine lv_iload C.ex C.by dX10_gather_27 (lv_at hl 4 rfl) ?_
  refine lv_aload_n C.ex C.by dX10_gather_29 rfl (lv_at hl 0 rfl) ?_
  refine z_get (v := .ref (κ.2.1 26)) C h iwX10 0 (wM_at0 κ _) rfl 51 (by decide) lkM190 rfl dX10_gather_30 ?_
  refine lv_iload_n C.ex C.by dX10_gather_33 rfl (lv_at hl 3 rfl) ?_
  obtain ⟨h4, hf⟩ := zg_some hf
  refine z_iald (f := (zA a.2 20)) C h 26 (wM_at26 κ _) h4 dX10_gather_34 ?_
  refine lv_icmp_ge (tgt := 76) C.ex C.by dX10_gather_35 (by decide) (fun c5 => ?_) (fun c5 => ?_)
  · have hf := zif_t c5 hf
    exact Ke0 _ (Option.some.inj hf).symm _ _ _ h (lv_sub hl [0, 1, 2] rfl)
  · have hf := zif_f c5 hf
    refine lv_aload_n C.ex C.by dX10_gather_38 rfl (lv_at hl 0 rfl) ?_
    refine z_get (v := .ref (κ.2.1 9)) C h iwX10 0 (wM_at0 κ _) rfl 12 (by decide) lkM146 rfl dX10_gather_39 ?_
    refine lv_aload_n C.ex C.by dX10_gather_42 rfl (lv_at hl 0 rfl) ?_
    refine z_get (v := .int (zI a.2 4)) C h iwX10 0 (wM_at0 κ _) rfl 13 (by decide) lkM5 rfl dX10_gather_43 ?_
    refine lv_aload_n C.ex C.by dX10_gather_46 rfl (lv_at hl 0 rfl) ?_
    refine z_get (v := .ref (κ.2.1 24)) C h iwX10 0 (wM_at0 κ _) rfl 49 (by decide) lkM194 rfl dX10_gather_47 ?_
    refine lv_sipush (v := 208) C.ex C.by dX10_gather_50 (by decide) ?_
    refine lv_iload_n C.ex C.by dX10_gather_53 rfl (lv_at hl 3 rfl) ?_
    refine lv_imul C.ex C.by dX10_gather_54 ?_
    refine lv_iload C.ex C.by dX10_gather_55 (lv_at hl 4 rfl) ?_
    refine lv_iadd C.ex C.by dX10_gather_57 ?_
    obtain ⟨h6, hf⟩ := zg_some hf
    refine z_iald (f := (zA a.2 18)) C h 24 (wM_at24 κ _) h6 dX10_gather_58 ?_
    obtain ⟨h7, hf⟩ := zg_some hf
    refine z_iast (f := (zA a.2 7)) C h 9 (wM_at9 κ _) h7 (sA a.2 7 (upd (zA a.2 7) (Int32.toNatClampNeg (zI a.2 4)) ((zA a.2 18) (Int32.toNatClampNeg ((208 * k3) + a.1))))) (wM_s9 κ _ _) dX10_gather_59 (fun H locs h => ?_)
    refine lv_aload_n C.ex C.by dX10_gather_60 rfl (lv_at hl 0 rfl) ?_
    refine lv_dup C.ex C.by dX10_gather_61 rfl ?_
    refine z_get (v := .int (zI a.2 4)) C h iwX10 0 (wM_at0 κ _) rfl 13 (by decide) lkM5 rfl dX10_gather_62 ?_
    refine lv_iconst (v := 1) C.ex C.by dX10_gather_65 (by decide) ?_
    refine lv_iadd C.ex C.by dX10_gather_66 ?_
    refine z_put C h iwX10 tyX10_ok nmX10 0 (wM_at0 κ _) rfl 13 (by decide) lkM5 rfl rfl rfl (Nat.le_of_ble_eq_true rfl) (sI (sA a.2 7 (upd (zA a.2 7) (Int32.toNatClampNeg (zI a.2 4)) ((zA a.2 18) (Int32.toNatClampNeg ((208 * k3) + a.1))))) 4 ((zI a.2 4) + 1)) (wM_s0_13 κ _ _) dX10_gather_67 (fun H locs h => ?_)
    refine lv_iinc (v := (a.1 + 1)) (lv' := [(4, .int (a.1 + 1)), (0, .ref (κ.2.1 0)), (1, .int k1), (2, .int k2), (3, .int k3)]) C.ex C.by dX10_gather_70 hl (k := 4) rfl rfl (by decide) rfl (fun ls hl => ?_)
    refine lv_goto (tgt := 27) C.ex C.by dX10_gather_73 (by decide) ?_
    exact Kc _ _ (Option.some.inj hf).symm _ _ _ h (lv_sub hl [1, 2, 3, 4, 0] rfl)
theorem wlX10_gather_27 {p : Program} {l : Launch} {e : Env} {s : State} {m : MethodId} {args : Array Value} {below : List Frame} {meth : Method} {c : Code} {A : Nat → Prop} {κ : zG} {H : Heap} {locs : List Loc} {ls : Array Slot} {Q : State → Prop} {n : Nat} {k1 : Int32} {k2 : Int32} {k3 : Int32} {k0 : Nat} {u4 : Int32} {σ1 : zS} (C : zC cX10_gather 5 none RX10 κ A p s m args meth c) (h : zH wM κ A s σ1 H locs) (hl : lv_has ls 5 [(0, .ref (κ.2.1 0)), (1, .int k1), (2, .int k2), (3, .int k3), (4, .int u4)]) (b : zS) (hb : zlp (fX10_gather_L27_27 n k1 k2 k3) k0 (u4, σ1) = some b) (K : (fun b : zS => ∀ (H : Heap) (locs : List Loc) (ls : Array Slot), zH wM κ A s b H locs → lv_has ls 5 [(0, .ref (κ.2.1 0)), (1, .int k1), (2, .int k2)] → W p l e rmX10_gather s m args below meth c H locs 0 0 Q (F0 m 76 ls [])) b) : W p l e rmX10_gather s m args below meth c H locs 0 0 Q (F0 m 27 ls []) :=
  z_loop (body := fX10_gather_L27_27 n k1 k2 k3) (Wd := (fun a : Int32 × zS => ∀ (H : Heap) (locs : List Loc) (ls : Array Slot), zH wM κ A s a.2 H locs → lv_has ls 5 [(0, .ref (κ.2.1 0)), (1, .int k1), (2, .int k2), (3, .int k3), (4, .int a.1)] → W p l e rmX10_gather s m args below meth c H locs 0 0 Q (F0 m 27 ls []))) (Ex := (fun b : zS => (fun b : zS => ∀ (H : Heap) (locs : List Loc) (ls : Array Slot), zH wM κ A s b H locs → lv_has ls 5 [(0, .ref (κ.2.1 0)), (1, .int k1), (2, .int k2)] → W p l e rmX10_gather s m args below meth c H locs 0 0 Q (F0 m 76 ls [])) b)) (fun a r hr Kc Ke H locs ls h hl => wX10_gather_L27_27 C h hl hr (fun v4 σ1 e => Kc (v4, σ1) e) (fun σ1 e => Ke σ1 e)) k0 (u4, σ1) b hb K H locs ls h hl
set_option maxRecDepth 20000 in
set_option maxHeartbeats 4000000 in
theorem wX10_gather_L7_7 {p : Program} {l : Launch} {e : Env} {s : State} {m : MethodId} {args : Array Value} {below : List Frame} {meth : Method} {c : Code} {A : Nat → Prop} {κ : zG} {H : Heap} {locs : List Loc} {ls : Array Slot} {Q : State → Prop} {n : Nat} {k1 : Int32} {a : Int32 × zS} {r : (Int32 × zS) ⊕ (zS)} (C : zC cX10_gather 5 none RX10 κ A p s m args meth c) (h : zH wM κ A s a.2 H locs) (hl : lv_has ls 5 [(0, .ref (κ.2.1 0)), (1, .int k1), (2, .int a.1)]) (hf : fX10_gather_L7_7 n k1 a = some r) (Kc : ∀ (v2 : Int32) (σ1 : zS), r = .inl (v2, σ1) → ∀ (H : Heap) (locs : List Loc) (ls : Array Slot), zH wM κ A s σ1 H locs → lv_has ls 5 [(0, .ref (κ.2.1 0)), (1, .int k1), (2, .int v2)] → W p l e rmX10_gather s m args below meth c H locs 0 0 Q (F0 m 7 ls [])) (Ke0 : ∀ (σ1 : zS), r = .inr σ1 → ∀ (H : Heap) (locs : List Loc) (ls : Array Slot), zH wM κ A s σ1 H locs → lv_has ls 5 [(0, .ref (κ.2.1 0))] → W p l e rmX10_gather s m args below meth c H locs 0 0 Q (F0 m 82 ls [])) : W p l e rmX10_gather s m args below meth c H locs 0 0 Q (F0 m 7 ls []) := by
  unfold fX10_gather_L7_7 at hf
  refine lv_iload_n C.ex C.by dX10_gather_7 rfl (lv_at hl 2 rfl) ?_
  refine lv_iload_n C.ex C.by dX10_gather_8 rfl (lv_at hl 1 rfl) ?_
  refine lv_icmp_gt (tgt := 82) C.ex C.by dX10_gather_9 (by decide) (fun c1 => ?_) (fun c1 => ?_)
  · have hf := zif_t c1 hf
    exact Ke0 _ (Option.some.inj hf).symm _ _ _ h (lv_sub hl [0] rfl)
  · have hf := zif_f c1 hf
    refine lv_aload_n C.ex C.by dX10_gather_12 rfl (lv_at hl 0 rfl) ?_
    refine z_get (v := .ref (κ.2.1 28)) C h iwX10 0 (wM_at0 κ _) rfl 53 (by decide) lkM188 rfl dX10_gather_13 ?_
    refine lv_iload_n C.ex C.by dX10_gather_16 rfl (lv_at hl 2 rfl) ?_
    obtain ⟨h2, hf⟩ := zg_some hf
    refine z_iald (f := (zA a.2 22)) C h 28 (wM_at28 κ _) h2 dX10_gather_17 ?_
    refine lv_istore_n (lv' := [(3, .int ((zA a.2 22) (Int32.toNatClampNeg a.1))), (0, .ref (κ.2.1 0)), (1, .int k1), (2, .int a.1)]) C.ex C.by dX10_gather_18 rfl hl (by decide) rfl (fun ls hl => ?_)
    refine lv_aload_n C.ex C.by dX10_gather_19 rfl (lv_at hl 1 rfl) ?_
    refine z_get (v := .ref (κ.2.1 25)) C h iwX10 0 (wM_at0 κ _) rfl 50 (by decide) lkM189 rfl dX10_gather_20 ?_
    refine lv_iload_n C.ex C.by dX10_gather_23 rfl (lv_at hl 0 rfl) ?_
    obtain ⟨h3, hf⟩ := zg_some hf
    refine z_iald (f := (zA a.2 19)) C h 25 (wM_at25 κ _) h3 dX10_gather_24 ?_
    refine lv_istore (lv' := [(4, .int ((zA a.2 19) (Int32.toNatClampNeg ((zA a.2 22) (Int32.toNatClampNeg a.1))))), (3, .int ((zA a.2 22) (Int32.toNatClampNeg a.1))), (0, .ref (κ.2.1 0)), (1, .int k1), (2, .int a.1)]) C.ex C.by dX10_gather_25 hl (by decide) rfl (fun ls hl => ?_)
    obtain ⟨b8, e9, hf⟩ := zb_some hf
    refine wlX10_gather_27 C h (lv_sub hl [2, 3, 4, 1, 0] rfl) b8 e9 ?_
    intro H locs ls h hl
    refine lv_iinc (v := (a.1 + 1)) (lv' := [(2, .int (a.1 + 1)), (0, .ref (κ.2.1 0)), (1, .int k1)]) C.ex C.by dX10_gather_76 hl (k := 2) rfl rfl (by decide) rfl (fun ls hl => ?_)
    refine lv_goto (tgt := 7) C.ex C.by dX10_gather_79 (by decide) ?_
    exact Kc _ _ (Option.some.inj hf).symm _ _ _ h (lv_sub hl [1, 2, 0] rfl)
theorem wlX10_gather_7 {p : Program} {l : Launch} {e : Env} {s : State} {m : MethodId} {args : Array Value} {below : List Frame} {meth : Method} {c : Code} {A : Nat → Prop} {κ : zG} {H : Heap} {locs : List Loc} {ls : Array Slot} {Q : State → Prop} {n : Nat} {k1 : Int32} {k0 : Nat} {u2 : Int32} {σ1 : zS} (C : zC cX10_gather 5 none RX10 κ A p s m args meth c) (h : zH wM κ A s σ1 H locs) (hl : lv_has ls 5 [(0, .ref (κ.2.1 0)), (1, .int k1), (2, .int u2)]) (b : zS) (hb : zlp (fX10_gather_L7_7 n k1) k0 (u2, σ1) = some b) (K : (fun b : zS => ∀ (H : Heap) (locs : List Loc) (ls : Array Slot), zH wM κ A s b H locs → lv_has ls 5 [(0, .ref (κ.2.1 0))] → W p l e rmX10_gather s m args below meth c H locs 0 0 Q (F0 m 82 ls [])) b) : W p l e rmX10_gather s m args below meth c H locs 0 0 Q (F0 m 7 ls []) :=
  z_loop (body := fX10_gather_L7_7 n k1) (Wd := (fun a : Int32 × zS => ∀ (H : Heap) (locs : List Loc) (ls : Array Slot), zH wM κ A s a.2 H locs → lv_has ls 5 [(0, .ref (κ.2.1 0)), (1, .int k1), (2, .int a.1)] → W p l e rmX10_gather s m args below meth c H locs 0 0 Q (F0 m 7 ls []))) (Ex := (fun b : zS => (fun b : zS => ∀ (H : Heap) (locs : List Loc) (ls : Array Slot), zH wM κ A s b H locs → lv_has ls 5 [(0, .ref (κ.2.1 0))] → W p l e rmX10_gather s m args below meth c H locs 0 0 Q (F0 m 82 ls [])) b)) (fun a r hr Kc Ke H locs ls h hl => wX10_gather_L7_7 C h hl hr (fun v2 σ1 e => Kc (v2, σ1) e) (fun σ1 e => Ke σ1 e)) k0 (u2, σ1) b hb K H locs ls h hl
set_option maxRecDepth 20000 in
set_option maxHeartbeats 4000000 in
theorem wX10_gather_0 {p : Program} {l : Launch} {e : Env} {s : State} {m : MethodId} {args : Array Value} {below : List Frame} {meth : Method} {c : Code} {A : Nat → Prop} {κ : zG} {H : Heap} {locs : List Loc} {ls : Array Slot} {n : Nat} {σ : zS} {x1 : Int32} {r : zS} (C : zC cX10_gather 5 none RX10 κ A p s m args meth c) (h : zH wM κ A s σ H locs) (hl : lv_has ls 5 [(0, .ref (κ.2.1 0)), (1, .int x1)]) (hf : fX10_gather_0 n σ x1 = some r) : W p l e rmX10_gather s m args below meth c H locs 0 0 (MQ below (zQv wM κ A r) args s 0 0 A) (F0 m 0 ls []) := by
  unfold fX10_gather_0 at hf
  refine lv_aload_n C.ex C.by dX10_gather_0 rfl (lv_at hl 0 rfl) ?_
  refine lv_iconst (v := 0) C.ex C.by dX10_gather_1 (by decide) ?_
  refine z_put C h iwX10 tyX10_ok nmX10 0 (wM_at0 κ _) rfl 13 (by decide) lkM5 rfl rfl rfl (Nat.le_of_ble_eq_true rfl) (sI σ 4 0) (wM_s0_13 κ _ _) dX10_gather_2 (fun H locs h => ?_)
  refine lv_iconst (v := 1) C.ex C.by dX10_gather_5 (by decide) ?_
  refine lv_istore_n (lv' := [(2, .int 1), (0, .ref (κ.2.1 0)), (1, .int x1)]) C.ex C.by dX10_gather_6 rfl hl (by decide) rfl (fun ls hl => ?_)
  obtain ⟨b10, e11, hf⟩ := zb_some hf
  refine wlX10_gather_7 C h (lv_sub hl [1, 2, 0] rfl) b10 e11 ?_
  intro H locs ls h hl
  cases hf
  exact z_vret C h dX10_gather_82
theorem ctX10_gather {l : Launch} {κ : zG} {n : Nat} {σ : zS} {x1 : Int32} {r : zS} (hf : fX10_gather_0 n σ x1 = some r) : zMv l yX10_gather (Cond.code yX10_gather cX10_gather 5 none) rmX10_gather wM κ [.ref (κ.2.1 0), .int x1] σ r :=
  zMv_of (by decide) (Nat.le_of_ble_eq_true rfl) (fun p e s m below meth c A C h ls hl => wX10_gather_0 C h hl hf)
theorem hdX10_poly : yX10_poly.cls = RX10 ∧ yX10_poly.cls ≠ "java/lang/invoke/MethodHandle" ∧ yX10_poly.cls ≠ "java/lang/invoke/VarHandle" ∧ (parseMethodDescriptor yX10_poly.desc).map (fun d => d.parameters.length) = some 1 := by decide +kernel
abbrev rmX10_poly : Room := { frames := 7, cells := 0, slots := 0, locals := 162 }
set_option maxRecDepth 20000 in
set_option maxHeartbeats 4000000 in
theorem wX10_poly_L81_81 {p : Program} {l : Launch} {e : Env} {s : State} {m : MethodId} {args : Array Value} {below : List Frame} {meth : Method} {c : Code} {A : Nat → Prop} {κ : zG} {H : Heap} {locs : List Loc} {ls : Array Slot} {Q : State → Prop} {n : Nat} {k1 : Int32} {k2 : Int32} {a : Int32 × zS} {r : (Int32 × zS) ⊕ (zS)} (C : zC cX10_poly 4 (some .int) RX10 κ A p s m args meth c) (h : zH wM κ A s a.2 H locs) (hl : lv_has ls 4 [(0, .ref (κ.2.1 0)), (1, .int k1), (2, .int k2), (3, .int a.1)]) (hf : fX10_poly_L81_81 n k1 k2 a = some r) (Kc : ∀ (v3 : Int32) (σ1 : zS), r = .inl (v3, σ1) → ∀ (H : Heap) (locs : List Loc) (ls : Array Slot), zH wM κ A s σ1 H locs → lv_has ls 4 [(0, .ref (κ.2.1 0)), (1, .int k1), (2, .int k2), (3, .int v3)] → W p l e rmX10_poly s m args below meth c H locs 0 0 Q (F0 m 81 ls [])) (Ke0 : ∀ (σ1 : zS), r = .inr σ1 → ∀ (H : Heap) (locs : List Loc) (ls : Array Slot), zH wM κ A s σ1 H locs → lv_has ls 4 [(0, .ref (κ.2.1 0)), (1, .int k1), (2, .int k2)] → W p l e rmX10_poly s m args below meth c H locs 0 0 Q (F0 m 103 ls [])) : W p l e rmX10_poly s m args below meth c H locs 0 0 Q (F0 m 81 ls []) := by
  unfold fX10_poly_L81_81 at hf
  refine lv_iload_n C.ex C.by dX10_poly_81 rfl (lv_at hl 3 rfl) ?_
  refine lv_if_le (tgt := 103) C.ex C.by dX10_poly_82 (by decide) (fun c12 => ?_) (fun c12 => ?_)
  · have hf := zif_t c12 hf
    exact Ke0 _ (Option.some.inj hf).symm _ _ _ h (lv_sub hl [0, 1, 2] rfl)
  · have hf := zif_f c12 hf
    refine lv_aload_n C.ex C.by dX10_poly_85 rfl (lv_at hl 0 rfl) ?_
    refine z_get (v := .int (zI a.2 17)) C h iwX10 0 (wM_at0 κ _) rfl 29 (by decide) lkM17 rfl dX10_poly_86 ?_
    refine lv_if_ne (tgt := 103) C.ex C.by dX10_poly_89 (by decide) (fun c13 => ?_) (fun c13 => ?_)
    · have hf := zif_f c13 hf
      exact Ke0 _ (Option.some.inj hf).symm _ _ _ h (lv_sub hl [0, 1, 2] rfl)
    · have hf := zif_t c13 hf
      refine lv_aload_n C.ex C.by dX10_poly_92 rfl (lv_at hl 0 rfl) ?_
      refine lv_iload_n C.ex C.by dX10_poly_93 rfl (lv_at hl 2 rfl) ?_
      obtain ⟨q14, e15, hf⟩ := zb_some hf
      refine z_callVv (As := [.int k2]) C h (ctX10_together e15) (zgV lkM211 lkM212 lkM213 lkM2 lkM214) ⟨rfl, rfl⟩ hdX10_together ⟨Nat.le_of_ble_eq_true rfl, Nat.le_of_ble_eq_true rfl⟩ 0 (wM_at0 κ _) rfl hl rfl rfl (Nat.le_of_ble_eq_true rfl) dX10_poly_94 ⟨Nat.zero_le _, Nat.zero_le _⟩ (fun H locs h => ?_)
      refine lv_iinc (v := (a.1 + (-1))) (lv' := [(3, .int (a.1 + (-1))), (0, .ref (κ.2.1 0)), (1, .int k1), (2, .int k2)]) C.ex C.by dX10_poly_97 hl (k := 3) rfl rfl (by decide) rfl (fun ls hl => ?_)
      refine lv_goto (tgt := 81) C.ex C.by dX10_poly_100 (by decide) ?_
      exact Kc _ _ (Option.some.inj hf).symm _ _ _ h (lv_sub hl [1, 2, 3, 0] rfl)
theorem wlX10_poly_81 {p : Program} {l : Launch} {e : Env} {s : State} {m : MethodId} {args : Array Value} {below : List Frame} {meth : Method} {c : Code} {A : Nat → Prop} {κ : zG} {H : Heap} {locs : List Loc} {ls : Array Slot} {Q : State → Prop} {n : Nat} {k1 : Int32} {k2 : Int32} {k0 : Nat} {u3 : Int32} {σ1 : zS} (C : zC cX10_poly 4 (some .int) RX10 κ A p s m args meth c) (h : zH wM κ A s σ1 H locs) (hl : lv_has ls 4 [(0, .ref (κ.2.1 0)), (1, .int k1), (2, .int k2), (3, .int u3)]) (b : zS) (hb : zlp (fX10_poly_L81_81 n k1 k2) k0 (u3, σ1) = some b) (K : (fun b : zS => ∀ (H : Heap) (locs : List Loc) (ls : Array Slot), zH wM κ A s b H locs → lv_has ls 4 [(0, .ref (κ.2.1 0)), (1, .int k1), (2, .int k2)] → W p l e rmX10_poly s m args below meth c H locs 0 0 Q (F0 m 103 ls [])) b) : W p l e rmX10_poly s m args below meth c H locs 0 0 Q (F0 m 81 ls []) :=
  z_loop (body := fX10_poly_L81_81 n k1 k2) (Wd := (fun a : Int32 × zS => ∀ (H : Heap) (locs : List Loc) (ls : Array Slot), zH wM κ A s a.2 H locs → lv_has ls 4 [(0, .ref (κ.2.1 0)), (1, .int k1), (2, .int k2), (3, .int a.1)] → W p l e rmX10_poly s m args below meth c H locs 0 0 Q (F0 m 81 ls []))) (Ex := (fun b : zS => (fun b : zS => ∀ (H : Heap) (locs : List Loc) (ls : Array Slot), zH wM κ A s b H locs → lv_has ls 4 [(0, .ref (κ.2.1 0)), (1, .int k1), (2, .int k2)] → W p l e rmX10_poly s m args below meth c H locs 0 0 Q (F0 m 103 ls [])) b)) (fun a r hr Kc Ke H locs ls h hl => wX10_poly_L81_81 C h hl hr (fun v3 σ1 e => Kc (v3, σ1) e) (fun σ1 e => Ke σ1 e)) k0 (u3, σ1) b hb K H locs ls h hl
set_option maxRecDepth 20000 in
set_option maxHeartbeats 4000000 in
theorem wX10_poly_L60_130 {p : Program} {l : Launch} {e : Env} {s : State} {m : MethodId} {args : Array Value} {below : List Frame} {meth : Method} {c : Code} {A : Nat → Prop} {κ : zG} {H : Heap} {locs : List Loc} {ls : Array Slot} {Q : State → Prop} {n : Nat} {σ : zS} {k1 : Int32} {k2 : Int32} {r : (zS) ⊕ (zS)} (C : zC cX10_poly 4 (some .int) RX10 κ A p s m args meth c) (h : zH wM κ A s σ H locs) (hl : lv_has ls 4 [(0, .ref (κ.2.1 0)), (1, .int k1), (2, .int k2)]) (hf : fX10_poly_L60_130 n σ k1 k2 = some r) (Kc : ∀ (σ1 : zS), r = .inl σ1 → ∀ (H : Heap) (locs : List Loc) (ls : Array Slot), zH wM κ A s σ1 H locs → lv_has ls 4 [(0, .ref (κ.2.1 0)), (1, .int k1), (2, .int k2)] → W p l e rmX10_poly s m args below meth c H locs 0 0 Q (F0 m 60 ls [])) (Ke0 : ∀ (σ1 : zS), r = .inr σ1 → ∀ (H : Heap) (locs : List Loc) (ls : Array Slot), zH wM κ A s σ1 H locs → lv_has ls 4 [(0, .ref (κ.2.1 0)), (1, .int k1)] → W p l e rmX10_poly s m args below meth c H locs 0 0 Q (F0 m 133 ls [])) : W p l e rmX10_poly s m args below meth c H locs 0 0 Q (F0 m 130 ls []) := by
  unfold fX10_poly_L60_130 at hf
  refine lv_goto (tgt := 60) C.ex C.by dX10_poly_130 (by decide) ?_
  exact Kc _ (Option.some.inj hf).symm _ _ _ h hl
set_option maxRecDepth 20000 in
set_option maxHeartbeats 4000000 in
theorem wX10_poly_L60_60 {p : Program} {l : Launch} {e : Env} {s : State} {m : MethodId} {args : Array Value} {below : List Frame} {meth : Method} {c : Code} {A : Nat → Prop} {κ : zG} {H : Heap} {locs : List Loc} {ls : Array Slot} {Q : State → Prop} {n : Nat} {k1 : Int32} {k2 : Int32} {a : zS} {r : (zS) ⊕ (zS)} (C : zC cX10_poly 4 (some .int) RX10 κ A p s m args meth c) (h : zH wM κ A s a H locs) (hl : lv_has ls 4 [(0, .ref (κ.2.1 0)), (1, .int k1), (2, .int k2)]) (hf : fX10_poly_L60_60 n k1 k2 a = some r) (Kc : ∀ (σ1 : zS), r = .inl σ1 → ∀ (H : Heap) (locs : List Loc) (ls : Array Slot), zH wM κ A s σ1 H locs → lv_has ls 4 [(0, .ref (κ.2.1 0)), (1, .int k1), (2, .int k2)] → W p l e rmX10_poly s m args below meth c H locs 0 0 Q (F0 m 60 ls [])) (Ke0 : ∀ (σ1 : zS), r = .inr σ1 → ∀ (H : Heap) (locs : List Loc) (ls : Array Slot), zH wM κ A s σ1 H locs → lv_has ls 4 [(0, .ref (κ.2.1 0)), (1, .int k1)] → W p l e rmX10_poly s m args below meth c H locs 0 0 Q (F0 m 133 ls [])) : W p l e rmX10_poly s m args below meth c H locs 0 0 Q (F0 m 60 ls []) := by
  unfold fX10_poly_L60_60 at hf
  refine lv_aload_n C.ex C.by dX10_poly_60 rfl (lv_at hl 0 rfl) ?_
  refine z_get (v := .int (zI a 26)) C h iwX10 0 (wM_at0 κ _) rfl 55 (by decide) lkM193 rfl dX10_poly_61 ?_
  refine lv_if_le (tgt := 133) C.ex C.by dX10_poly_64 (by decide) (fun c9 => ?_) (fun c9 => ?_)
  · have hf := zif_t c9 hf
    exact Ke0 _ (Option.some.inj hf).symm _ _ _ h (lv_sub hl [0, 1] rfl)
  · have hf := zif_f c9 hf
    refine lv_aload_n C.ex C.by dX10_poly_67 rfl (lv_at hl 0 rfl) ?_
    refine z_get (v := .int (zI a 17)) C h iwX10 0 (wM_at0 κ _) rfl 29 (by decide) lkM17 rfl dX10_poly_68 ?_
    refine lv_if_ne (tgt := 133) C.ex C.by dX10_poly_71 (by decide) (fun c10 => ?_) (fun c10 => ?_)
    · have hf := zif_f c10 hf
      exact Ke0 _ (Option.some.inj hf).symm _ _ _ h (lv_sub hl [0, 1] rfl)
    · have hf := zif_t c10 hf
      refine lv_aload_n C.ex C.by dX10_poly_74 rfl (lv_at hl 0 rfl) ?_
      refine z_get (v := .ref (κ.2.1 29)) C h iwX10 0 (wM_at0 κ _) rfl 54 (by decide) lkM192 rfl dX10_poly_75 ?_
      refine lv_iload_n C.ex C.by dX10_poly_78 rfl (lv_at hl 2 rfl) ?_
      obtain ⟨h11, hf⟩ := zg_some hf
      refine z_iald (f := (zA a 23)) C h 29 (wM_at29 κ _) h11 dX10_poly_79 ?_
      refine lv_istore_n (lv' := [(3, .int ((zA a 23) (Int32.toNatClampNeg k2))), (0, .ref (κ.2.1 0)), (1, .int k1), (2, .int k2)]) C.ex C.by dX10_poly_80 rfl hl (by decide) rfl (fun ls hl => ?_)
      obtain ⟨b16, e17, hf⟩ := zb_some hf
      refine wlX10_poly_81 C h (lv_sub hl [1, 2, 3, 0] rfl) b16 e17 ?_
      intro H locs ls h hl
      refine lv_aload_n C.ex C.by dX10_poly_103 rfl (lv_at hl 0 rfl) ?_
      refine z_get (v := .int (zI b16 17)) C h iwX10 0 (wM_at0 κ _) rfl 29 (by decide) lkM17 rfl dX10_poly_104 ?_
      refine lv_if_ne (tgt := 130) C.ex C.by dX10_poly_107 (by decide) (fun c18 => ?_) (fun c18 => ?_)
      · have hf := zif_f c18 hf
        exact wX10_poly_L60_130 C h hl hf Kc Ke0
      · have hf := zif_t c18 hf
        refine lv_aload_n C.ex C.by dX10_poly_110 rfl (lv_at hl 0 rfl) ?_
        refine lv_dup C.ex C.by dX10_poly_111 rfl ?_
        refine z_get (v := .int (zI b16 26)) C h iwX10 0 (wM_at0 κ _) rfl 55 (by decide) lkM193 rfl dX10_poly_112 ?_
        refine lv_iconst (v := 1) C.ex C.by dX10_poly_115 (by decide) ?_
        refine lv_isub C.ex C.by dX10_poly_116 ?_
        refine z_put C h iwX10 tyX10_ok nmX10 0 (wM_at0 κ _) rfl 55 (by decide) lkM193 rfl rfl rfl (Nat.le_of_ble_eq_true rfl) (sI b16 26 ((zI b16 26) - 1)) (wM_s0_55 κ _ _) dX10_poly_117 (fun H locs h => ?_)
        refine lv_aload_n C.ex C.by dX10_poly_120 rfl (lv_at hl 0 rfl) ?_
        refine lv_iload_n C.ex C.by dX10_poly_121 rfl (lv_at hl 2 rfl) ?_
        obtain ⟨q19, e20, hf⟩ := zb_some hf
        refine z_callVv (As := [.int k2]) C h (ctX10_lower e20) (zgV lkM215 lkM216 lkM217 lkM2 lkM218) ⟨rfl, rfl⟩ hdX10_lower ⟨Nat.le_of_ble_eq_true rfl, Nat.le_of_ble_eq_true rfl⟩ 0 (wM_at0 κ _) rfl hl rfl rfl (Nat.le_of_ble_eq_true rfl) dX10_poly_122 ⟨Nat.zero_le _, Nat.zero_le _⟩ (fun H locs h => ?_)
        refine lv_aload_n C.ex C.by dX10_poly_125 rfl (lv_at hl 0 rfl) ?_
        refine lv_iload_n C.ex C.by dX10_poly_126 rfl (lv_at hl 1 rfl) ?_
        obtain ⟨q21, e22, hf⟩ := zb_some hf
        refine z_callVv (As := [.int k1]) C h (ctX10_rotate e22) (zgV lkM219 lkM220 lkM221 lkM2 lkM222) ⟨rfl, rfl⟩ hdX10_rotate ⟨Nat.le_of_ble_eq_true rfl, Nat.le_of_ble_eq_true rfl⟩ 0 (wM_at0 κ _) rfl hl rfl rfl (Nat.le_of_ble_eq_true rfl) dX10_poly_127 ⟨Nat.zero_le _, Nat.zero_le _⟩ (fun H locs h => ?_)
        exact wX10_poly_L60_130 C h hl hf Kc Ke0
theorem wlX10_poly_60 {p : Program} {l : Launch} {e : Env} {s : State} {m : MethodId} {args : Array Value} {below : List Frame} {meth : Method} {c : Code} {A : Nat → Prop} {κ : zG} {H : Heap} {locs : List Loc} {ls : Array Slot} {Q : State → Prop} {n : Nat} {k1 : Int32} {k2 : Int32} {k0 : Nat} {σ1 : zS} (C : zC cX10_poly 4 (some .int) RX10 κ A p s m args meth c) (h : zH wM κ A s σ1 H locs) (hl : lv_has ls 4 [(0, .ref (κ.2.1 0)), (1, .int k1), (2, .int k2)]) (b : zS) (hb : zlp (fX10_poly_L60_60 n k1 k2) k0 σ1 = some b) (K : (fun b : zS => ∀ (H : Heap) (locs : List Loc) (ls : Array Slot), zH wM κ A s b H locs → lv_has ls 4 [(0, .ref (κ.2.1 0)), (1, .int k1)] → W p l e rmX10_poly s m args below meth c H locs 0 0 Q (F0 m 133 ls [])) b) : W p l e rmX10_poly s m args below meth c H locs 0 0 Q (F0 m 60 ls []) :=
  z_loop (body := fX10_poly_L60_60 n k1 k2) (Wd := (fun a : zS => ∀ (H : Heap) (locs : List Loc) (ls : Array Slot), zH wM κ A s a H locs → lv_has ls 4 [(0, .ref (κ.2.1 0)), (1, .int k1), (2, .int k2)] → W p l e rmX10_poly s m args below meth c H locs 0 0 Q (F0 m 60 ls []))) (Ex := (fun b : zS => (fun b : zS => ∀ (H : Heap) (locs : List Loc) (ls : Array Slot), zH wM κ A s b H locs → lv_has ls 4 [(0, .ref (κ.2.1 0)), (1, .int k1)] → W p l e rmX10_poly s m args below meth c H locs 0 0 Q (F0 m 133 ls [])) b)) (fun a r hr Kc Ke H locs ls h hl => wX10_poly_L60_60 C h hl hr (fun σ1 e => Kc σ1 e) (fun σ1 e => Ke σ1 e)) k0 σ1 b hb K H locs ls h hl
set_option maxRecDepth 20000 in
set_option maxHeartbeats 4000000 in
theorem wX10_poly_27 {p : Program} {l : Launch} {e : Env} {s : State} {m : MethodId} {args : Array Value} {below : List Frame} {meth : Method} {c : Code} {A : Nat → Prop} {κ : zG} {H : Heap} {locs : List Loc} {ls : Array Slot} {n : Nat} {σ : zS} {x1 : Int32} {y0 : Int32} {r1 : Int32} {r2 : zS} (C : zC cX10_poly 4 (some .int) RX10 κ A p s m args meth c) (h : zH wM κ A s σ H locs) (hl : lv_has ls 4 [(0, .ref (κ.2.1 0)), (1, .int x1)]) (hf : fX10_poly_27 n σ x1 y0 = some (r1, r2)) : W p l e rmX10_poly s m args below meth c H locs 0 0 (MQ below (zQi wM κ A r1 r2) args s 0 0 A) (F0 m 27 ls [.int y0, .ref (κ.2.1 0)]) := by
  unfold fX10_poly_27 at hf
  refine z_put C h iwX10 tyX10_ok nmX10 0 (wM_at0 κ _) rfl 0 (by decide) lkM8 rfl rfl rfl (Nat.le_of_ble_eq_true rfl) (sI σ 0 y0) (wM_s0_0 κ _ _) dX10_poly_27 (fun H locs h => ?_)
  refine lv_aload_n C.ex C.by dX10_poly_30 rfl (lv_at hl 0 rfl) ?_
  refine z_get (v := .int y0) C h iwX10 0 (wM_at0 κ _) rfl 0 (by decide) lkM8 rfl dX10_poly_31 ?_
  refine lv_if_gt (tgt := 44) C.ex C.by dX10_poly_34 (by decide) (fun c5 => ?_) (fun c5 => ?_)
  · have hf := zif_t c5 hf
    refine lv_iconst (v := 0) C.ex C.by dX10_poly_44 (by decide) ?_
    cases hf
    exact z_iret C h dX10_poly_45
  · have hf := zif_f c5 hf
    refine lv_aload_n C.ex C.by dX10_poly_37 rfl (lv_at hl 0 rfl) ?_
    refine z_get (v := .int (zI σ 4)) C h iwX10 0 (wM_at0 κ _) rfl 13 (by decide) lkM5 rfl dX10_poly_38 ?_
    refine lv_if_ne (tgt := 46) C.ex C.by dX10_poly_41 (by decide) (fun c6 => ?_) (fun c6 => ?_)
    · have hf := zif_f c6 hf
      refine lv_iload_n C.ex C.by dX10_poly_46 rfl (lv_at hl 1 rfl) ?_
      refine lv_iconst (v := 1) C.ex C.by dX10_poly_47 (by decide) ?_
      refine lv_isub C.ex C.by dX10_poly_48 ?_
      refine lv_istore_n (lv' := [(2, .int (x1 - 1)), (0, .ref (κ.2.1 0)), (1, .int x1)]) C.ex C.by dX10_poly_49 rfl hl (by decide) rfl (fun ls hl => ?_)
      refine lv_aload_n C.ex C.by dX10_poly_50 rfl (lv_at hl 1 rfl) ?_
      refine lv_iconst (v := 0) C.ex C.by dX10_poly_51 (by decide) ?_
      refine z_put C h iwX10 tyX10_ok nmX10 0 (wM_at0 κ _) rfl 29 (by decide) lkM17 rfl rfl rfl (Nat.le_of_ble_eq_true rfl) (sI (sI σ 0 y0) 17 0) (wM_s0_29 κ _ _) dX10_poly_52 (fun H locs h => ?_)
      refine lv_aload_n C.ex C.by dX10_poly_55 rfl (lv_at hl 1 rfl) ?_
      refine lv_iload_n C.ex C.by dX10_poly_56 rfl (lv_at hl 2 rfl) ?_
      obtain ⟨q7, e8, hf⟩ := zb_some hf
      refine z_callVv (As := [.int x1]) C h (ctX10_lay e8) (zgV lkM203 lkM204 lkM205 lkM2 lkM206) ⟨rfl, rfl⟩ hdX10_lay ⟨Nat.le_of_ble_eq_true rfl, Nat.le_of_ble_eq_true rfl⟩ 0 (wM_at0 κ _) rfl hl rfl rfl (Nat.le_of_ble_eq_true rfl) dX10_poly_57 ⟨Nat.zero_le _, Nat.zero_le _⟩ (fun H locs h => ?_)
      obtain ⟨b23, e24, hf⟩ := zb_some hf
      refine wlX10_poly_60 C h (lv_sub hl [1, 2, 0] rfl) b23 e24 ?_
      intro H locs ls h hl
      refine lv_aload_n C.ex C.by dX10_poly_133 rfl (lv_at hl 0 rfl) ?_
      refine lv_iload_n C.ex C.by dX10_poly_134 rfl (lv_at hl 1 rfl) ?_
      obtain ⟨q25, e26, hf⟩ := zb_some hf
      refine z_callVv (As := [.int x1]) C h (ctX10_gather e26) (zgV lkM223 lkM224 lkM225 lkM2 lkM226) ⟨rfl, rfl⟩ hdX10_gather ⟨Nat.le_of_ble_eq_true rfl, Nat.le_of_ble_eq_true rfl⟩ 0 (wM_at0 κ _) rfl hl rfl rfl (Nat.le_of_ble_eq_true rfl) dX10_poly_135 ⟨Nat.zero_le _, Nat.zero_le _⟩ (fun H locs h => ?_)
      refine lv_aload_n C.ex C.by dX10_poly_138 rfl (lv_at hl 0 rfl) ?_
      refine lv_iconst (v := 3) C.ex C.by dX10_poly_139 (by decide) ?_
      obtain ⟨q27, e28, hf⟩ := zb_some hf
      refine z_callVi (As := [.int 3]) C h (ctX10_ended (r1 := q27.1) (r2 := q27.2) e28) (zgV lkM147 lkM148 lkM149 lkM2 lkM150) ⟨rfl, rfl⟩ hdX10_ended ⟨Nat.le_of_ble_eq_true rfl, Nat.le_of_ble_eq_true rfl⟩ 0 (wM_at0 κ _) rfl hl rfl rfl (Nat.le_of_ble_eq_true rfl) dX10_poly_140 ⟨Nat.zero_le _, Nat.zero_le _⟩ (fun H locs h => ?_)
      cases hf
      exact z_iret C h dX10_poly_143
    · have hf := zif_t c6 hf
      refine lv_iconst (v := 0) C.ex C.by dX10_poly_44 (by decide) ?_
      cases hf
      exact z_iret C h dX10_poly_45
set_option maxRecDepth 20000 in
set_option maxHeartbeats 4000000 in
theorem wX10_poly_0 {p : Program} {l : Launch} {e : Env} {s : State} {m : MethodId} {args : Array Value} {below : List Frame} {meth : Method} {c : Code} {A : Nat → Prop} {κ : zG} {H : Heap} {locs : List Loc} {ls : Array Slot} {n : Nat} {σ : zS} {x1 : Int32} {r1 : Int32} {r2 : zS} (C : zC cX10_poly 4 (some .int) RX10 κ A p s m args meth c) (h : zH wM κ A s σ H locs) (hl : lv_has ls 4 [(0, .ref (κ.2.1 0)), (1, .int x1)]) (hf : fX10_poly_0 n σ x1 = some (r1, r2)) : W p l e rmX10_poly s m args below meth c H locs 0 0 (MQ below (zQi wM κ A r1 r2) args s 0 0 A) (F0 m 0 ls []) := by
  unfold fX10_poly_0 at hf
  refine lv_aload_n C.ex C.by dX10_poly_0 rfl (lv_at hl 0 rfl) ?_
  refine lv_iload_n C.ex C.by dX10_poly_1 rfl (lv_at hl 1 rfl) ?_
  refine lv_iconst (v := 3) C.ex C.by dX10_poly_2 (by decide) ?_
  refine lv_bipush (v := 6) C.ex C.by dX10_poly_3 (by decide) ?_
  obtain ⟨q1, e2, hf⟩ := zb_some hf
  refine z_callSi (As := [.int x1, .int 3, .int 6]) C h (ctX10_isIn e2) (zgS lkM0 lkM1 lkM2 lkM3) ⟨rfl, rfl⟩ hdX10_isIn ⟨Nat.le_of_ble_eq_true rfl, Nat.le_of_ble_eq_true rfl⟩ hl rfl rfl (Nat.le_of_ble_eq_true rfl) dX10_poly_5 ⟨Nat.zero_le _, Nat.zero_le _⟩ (fun H locs h => ?_)
  refine lv_if_ne (tgt := 15) C.ex C.by dX10_poly_8 (by decide) (fun c3 => ?_) (fun c3 => ?_)
  · have hf := zif_f c3 hf
    refine lv_aload_n C.ex C.by dX10_poly_15 rfl (lv_at hl 0 rfl) ?_
    refine z_get (v := .int (zI σ 16)) C h iwX10 0 (wM_at0 κ _) rfl 28 (by decide) lkM4 rfl dX10_poly_16 ?_
    refine lv_if_eq (tgt := 26) C.ex C.by dX10_poly_19 (by decide) (fun c4 => ?_) (fun c4 => ?_)
    · have hf := zif_t c4 hf
      refine lv_iconst (v := 0) C.ex C.by dX10_poly_26 (by decide) ?_
      exact wX10_poly_27 C h hl hf
    · have hf := zif_f c4 hf
      refine lv_iconst (v := 2) C.ex C.by dX10_poly_22 (by decide) ?_
      refine lv_goto (tgt := 27) C.ex C.by dX10_poly_23 (by decide) ?_
      exact wX10_poly_27 C h hl hf
  · have hf := zif_t c3 hf
    refine lv_iconst (v := 1) C.ex C.by dX10_poly_11 (by decide) ?_
    refine lv_goto (tgt := 27) C.ex C.by dX10_poly_12 (by decide) ?_
    exact wX10_poly_27 C h hl hf
theorem ctX10_poly {l : Launch} {κ : zG} {n : Nat} {σ : zS} {x1 : Int32} {r1 : Int32} {r2 : zS} (hf : fX10_poly_0 n σ x1 = some (r1, r2)) : zMi l yX10_poly (Cond.code yX10_poly cX10_poly 4 (some .int)) rmX10_poly wM κ [.ref (κ.2.1 0), .int x1] σ r1 r2 :=
  zMi_of (by decide) (Nat.le_of_ble_eq_true rfl) (fun p e s m below meth c A C h ls hl => wX10_poly_0 C h hl hf)
theorem hdX10_plan : yX10_plan.cls = RX10 ∧ yX10_plan.cls ≠ "java/lang/invoke/MethodHandle" ∧ yX10_plan.cls ≠ "java/lang/invoke/VarHandle" ∧ (parseMethodDescriptor yX10_plan.desc).map (fun d => d.parameters.length) = some 1 := by decide +kernel
abbrev rmX10_plan : Room := { frames := 1, cells := 0, slots := 0, locals := 22 }
set_option maxRecDepth 20000 in
set_option maxHeartbeats 4000000 in
theorem wX10_plan_L35_35 {p : Program} {l : Launch} {e : Env} {s : State} {m : MethodId} {args : Array Value} {below : List Frame} {meth : Method} {c : Code} {A : Nat → Prop} {κ : zG} {H : Heap} {locs : List Loc} {ls : Array Slot} {Q : State → Prop} {n : Nat} {k1 : Int32} {k2 : Int32} {a : Int32 × zS} {r : (Int32 × zS) ⊕ (zS)} (C : zC cX10_plan 10 (some .int) RX10 κ A p s m args meth c) (h : zH wM κ A s a.2 H locs) (hl : lv_has ls 10 [(0, .ref (κ.2.1 0)), (1, .int k1), (2, .int k2), (3, .int a.1)]) (hf : fX10_plan_L35_35 n k1 k2 a = some r) (Kc : ∀ (v3 : Int32) (σ1 : zS), r = .inl (v3, σ1) → ∀ (H : Heap) (locs : List Loc) (ls : Array Slot), zH wM κ A s σ1 H locs → lv_has ls 10 [(0, .ref (κ.2.1 0)), (1, .int k1), (2, .int k2), (3, .int v3)] → W p l e rmX10_plan s m args below meth c H locs 0 0 Q (F0 m 35 ls [])) (Ke0 : ∀ (σ1 : zS), r = .inr σ1 → ∀ (H : Heap) (locs : List Loc) (ls : Array Slot), zH wM κ A s σ1 H locs → lv_has ls 10 [(0, .ref (κ.2.1 0)), (1, .int k1), (2, .int k2)] → W p l e rmX10_plan s m args below meth c H locs 0 0 Q (F0 m 63 ls [])) : W p l e rmX10_plan s m args below meth c H locs 0 0 Q (F0 m 35 ls []) := by
  unfold fX10_plan_L35_35 at hf
  refine lv_iload_n C.ex C.by dX10_plan_35 rfl (lv_at hl 3 rfl) ?_
  refine lv_iload_n C.ex C.by dX10_plan_36 rfl (lv_at hl 2 rfl) ?_
  refine lv_icmp_ge (tgt := 63) C.ex C.by dX10_plan_37 (by decide) (fun c5 => ?_) (fun c5 => ?_)
  · have hf := zif_t c5 hf
    exact Ke0 _ (Option.some.inj hf).symm _ _ _ h (lv_sub hl [0, 1, 2] rfl)
  · have hf := zif_f c5 hf
    refine lv_aload_n C.ex C.by dX10_plan_40 rfl (lv_at hl 0 rfl) ?_
    refine z_get (v := .ref (κ.2.1 30)) C h iwX10 0 (wM_at0 κ _) rfl 56 (by decide) lkM227 rfl dX10_plan_41 ?_
    refine lv_iload_n C.ex C.by dX10_plan_44 rfl (lv_at hl 3 rfl) ?_
    refine lv_aload_n C.ex C.by dX10_plan_45 rfl (lv_at hl 0 rfl) ?_
    refine z_get (v := .ref (κ.2.1 7)) C h iwX10 0 (wM_at0 κ _) rfl 10 (by decide) lkM6 rfl dX10_plan_46 ?_
    refine lv_aload_n C.ex C.by dX10_plan_49 rfl (lv_at hl 0 rfl) ?_
    refine z_get (v := .ref (κ.2.1 9)) C h iwX10 0 (wM_at0 κ _) rfl 12 (by decide) lkM146 rfl dX10_plan_50 ?_
    refine lv_iload_n C.ex C.by dX10_plan_53 rfl (lv_at hl 3 rfl) ?_
    obtain ⟨h6, hf⟩ := zg_some hf
    refine z_iald (f := (zA a.2 7)) C h 9 (wM_at9 κ _) h6 dX10_plan_54 ?_
    obtain ⟨h7, hf⟩ := zg_some hf
    refine z_iald (f := (zA a.2 5)) C h 7 (wM_at7 κ _) h7 dX10_plan_55 ?_
    obtain ⟨h8, hf⟩ := zg_some hf
    refine z_iast (f := (zA a.2 24)) C h 30 (wM_at30 κ _) h8 (sA a.2 24 (upd (zA a.2 24) (Int32.toNatClampNeg a.1) ((zA a.2 5) (Int32.toNatClampNeg ((zA a.2 7) (Int32.toNatClampNeg a.1)))))) (wM_s30 κ _ _) dX10_plan_56 (fun H locs h => ?_)
    refine lv_iinc (v := (a.1 + 1)) (lv' := [(3, .int (a.1 + 1)), (0, .ref (κ.2.1 0)), (1, .int k1), (2, .int k2)]) C.ex C.by dX10_plan_57 hl (k := 3) rfl rfl (by decide) rfl (fun ls hl => ?_)
    refine lv_goto (tgt := 35) C.ex C.by dX10_plan_60 (by decide) ?_
    exact Kc _ _ (Option.some.inj hf).symm _ _ _ h (lv_sub hl [1, 2, 3, 0] rfl)
theorem wlX10_plan_35 {p : Program} {l : Launch} {e : Env} {s : State} {m : MethodId} {args : Array Value} {below : List Frame} {meth : Method} {c : Code} {A : Nat → Prop} {κ : zG} {H : Heap} {locs : List Loc} {ls : Array Slot} {Q : State → Prop} {n : Nat} {k1 : Int32} {k2 : Int32} {k0 : Nat} {u3 : Int32} {σ1 : zS} (C : zC cX10_plan 10 (some .int) RX10 κ A p s m args meth c) (h : zH wM κ A s σ1 H locs) (hl : lv_has ls 10 [(0, .ref (κ.2.1 0)), (1, .int k1), (2, .int k2), (3, .int u3)]) (b : zS) (hb : zlp (fX10_plan_L35_35 n k1 k2) k0 (u3, σ1) = some b) (K : (fun b : zS => ∀ (H : Heap) (locs : List Loc) (ls : Array Slot), zH wM κ A s b H locs → lv_has ls 10 [(0, .ref (κ.2.1 0)), (1, .int k1), (2, .int k2)] → W p l e rmX10_plan s m args below meth c H locs 0 0 Q (F0 m 63 ls [])) b) : W p l e rmX10_plan s m args below meth c H locs 0 0 Q (F0 m 35 ls []) :=
  z_loop (body := fX10_plan_L35_35 n k1 k2) (Wd := (fun a : Int32 × zS => ∀ (H : Heap) (locs : List Loc) (ls : Array Slot), zH wM κ A s a.2 H locs → lv_has ls 10 [(0, .ref (κ.2.1 0)), (1, .int k1), (2, .int k2), (3, .int a.1)] → W p l e rmX10_plan s m args below meth c H locs 0 0 Q (F0 m 35 ls []))) (Ex := (fun b : zS => (fun b : zS => ∀ (H : Heap) (locs : List Loc) (ls : Array Slot), zH wM κ A s b H locs → lv_has ls 10 [(0, .ref (κ.2.1 0)), (1, .int k1), (2, .int k2)] → W p l e rmX10_plan s m args below meth c H locs 0 0 Q (F0 m 63 ls [])) b)) (fun a r hr Kc Ke H locs ls h hl => wX10_plan_L35_35 C h hl hr (fun v3 σ1 e => Kc (v3, σ1) e) (fun σ1 e => Ke σ1 e)) k0 (u3, σ1) b hb K H locs ls h hl
set_option maxRecDepth 20000 in
set_option maxHeartbeats 4000000 in
theorem wX10_plan_L106_157 {p : Program} {l : Launch} {e : Env} {s : State} {m : MethodId} {args : Array Value} {below : List Frame} {meth : Method} {c : Code} {A : Nat → Prop} {κ : zG} {H : Heap} {locs : List Loc} {ls : Array Slot} {Q : State → Prop} {n : Nat} {σ : zS} {k1 : Int32} {k2 : Int32} {k4 : Int32} {k5 : Int32} {k6 : Int32} {x7 : Int32} {x8 : Int32} {y0 : Int32} {y1 : Int32} {r : (Int32 × Int32 × Int32) ⊕ (Int32 × Int32)} (C : zC cX10_plan 10 (some .int) RX10 κ A p s m args meth c) (h : zH wM κ A s σ H locs) (hl : lv_has ls 10 [(0, .ref (κ.2.1 0)), (1, .int k1), (2, .int k2), (4, .int k4), (5, .int k5), (6, .int k6), (7, .int x7), (8, .int x8)]) (hf : fX10_plan_L106_157 n σ k1 k2 k4 k5 k6 x7 x8 y0 y1 = some r) (Kc : ∀ (v3 : Int32) (v7 : Int32) (v8 : Int32), r = .inl (v3, v7, v8) → ∀ (H : Heap) (locs : List Loc) (ls : Array Slot), zH wM κ A s σ H locs → lv_has ls 10 [(0, .ref (κ.2.1 0)), (1, .int k1), (2, .int k2), (3, .int v3), (4, .int k4), (5, .int k5), (6, .int k6), (7, .int v7), (8, .int v8)] → W p l e rmX10_plan s m args below meth c H locs 0 0 Q (F0 m 106 ls [])) (Ke0 : ∀ (v3 : Int32) (v7 : Int32), r = .inr (v3, v7) → ∀ (H : Heap) (locs : List Loc) (ls : Array Slot), zH wM κ A s σ H locs → lv_has ls 10 [(0, .ref (κ.2.1 0)), (1, .int k1), (2, .int k2), (3, .int v3), (4, .int k4), (5, .int k5), (6, .int k6), (7, .int v7)] → W p l e rmX10_plan s m args below meth c H locs 0 0 Q (F0 m 165 ls [])) : W p l e rmX10_plan s m args below meth c H locs 0 0 Q (F0 m 157 ls [.int y0, .int y1]) := by
  unfold fX10_plan_L106_157 at hf
  refine lv_iadd C.ex C.by dX10_plan_157 ?_
  refine lv_istore_n (lv' := [(3, .int (y1 + y0)), (0, .ref (κ.2.1 0)), (1, .int k1), (2, .int k2), (4, .int k4), (5, .int k5), (6, .int k6), (7, .int x7), (8, .int x8)]) C.ex C.by dX10_plan_158 rfl hl (by decide) rfl (fun ls hl => ?_)
  refine lv_iinc (v := (x8 + 1)) (lv' := [(8, .int (x8 + 1)), (3, .int (y1 + y0)), (0, .ref (κ.2.1 0)), (1, .int k1), (2, .int k2), (4, .int k4), (5, .int k5), (6, .int k6), (7, .int x7)]) C.ex C.by dX10_plan_159 hl (k := 8) rfl rfl (by decide) rfl (fun ls hl => ?_)
  refine lv_goto (tgt := 106) C.ex C.by dX10_plan_162 (by decide) ?_
  exact Kc _ _ _ (Option.some.inj hf).symm _ _ _ h (lv_sub hl [2, 3, 4, 1, 5, 6, 7, 8, 0] rfl)
set_option maxRecDepth 20000 in
set_option maxHeartbeats 4000000 in
theorem wX10_plan_L106_106 {p : Program} {l : Launch} {e : Env} {s : State} {m : MethodId} {args : Array Value} {below : List Frame} {meth : Method} {c : Code} {A : Nat → Prop} {κ : zG} {H : Heap} {locs : List Loc} {ls : Array Slot} {Q : State → Prop} {n : Nat} {σ : zS} {k1 : Int32} {k2 : Int32} {k4 : Int32} {k5 : Int32} {k6 : Int32} {a : Int32 × Int32 × Int32} {r : (Int32 × Int32 × Int32) ⊕ (Int32 × Int32)} (C : zC cX10_plan 10 (some .int) RX10 κ A p s m args meth c) (h : zH wM κ A s σ H locs) (hl : lv_has ls 10 [(0, .ref (κ.2.1 0)), (1, .int k1), (2, .int k2), (3, .int a.1), (4, .int k4), (5, .int k5), (6, .int k6), (7, .int a.2.1), (8, .int a.2.2)]) (hf : fX10_plan_L106_106 n σ k1 k2 k4 k5 k6 a = some r) (Kc : ∀ (v3 : Int32) (v7 : Int32) (v8 : Int32), r = .inl (v3, v7, v8) → ∀ (H : Heap) (locs : List Loc) (ls : Array Slot), zH wM κ A s σ H locs → lv_has ls 10 [(0, .ref (κ.2.1 0)), (1, .int k1), (2, .int k2), (3, .int v3), (4, .int k4), (5, .int k5), (6, .int k6), (7, .int v7), (8, .int v8)] → W p l e rmX10_plan s m args below meth c H locs 0 0 Q (F0 m 106 ls [])) (Ke0 : ∀ (v3 : Int32) (v7 : Int32), r = .inr (v3, v7) → ∀ (H : Heap) (locs : List Loc) (ls : Array Slot), zH wM κ A s σ H locs → lv_has ls 10 [(0, .ref (κ.2.1 0)), (1, .int k1), (2, .int k2), (3, .int v3), (4, .int k4), (5, .int k5), (6, .int k6), (7, .int v7)] → W p l e rmX10_plan s m args below meth c H locs 0 0 Q (F0 m 165 ls [])) : W p l e rmX10_plan s m args below meth c H locs 0 0 Q (F0 m 106 ls []) := by
  unfold fX10_plan_L106_106 at hf
  refine lv_iload C.ex C.by dX10_plan_106 (lv_at hl 8 rfl) ?_
  refine lv_iload C.ex C.by dX10_plan_108 (lv_at hl 6 rfl) ?_
  refine lv_icmp_ge (tgt := 165) C.ex C.by dX10_plan_110 (by decide) (fun c14 => ?_) (fun c14 => ?_)
  · have hf := zif_t c14 hf
    exact Ke0 _ _ (Option.some.inj hf).symm _ _ _ h (lv_sub hl [0, 1, 2, 3, 4, 5, 6, 7] rfl)
  · have hf := zif_f c14 hf
    refine lv_aload_n C.ex C.by dX10_plan_113 rfl (lv_at hl 0 rfl) ?_
    refine z_get (v := .ref (κ.2.1 30)) C h iwX10 0 (wM_at0 κ _) rfl 56 (by decide) lkM227 rfl dX10_plan_114 ?_
    refine lv_iload C.ex C.by dX10_plan_117 (lv_at hl 5 rfl) ?_
    refine lv_iload C.ex C.by dX10_plan_119 (lv_at hl 8 rfl) ?_
    refine lv_iadd C.ex C.by dX10_plan_121 ?_
    obtain ⟨h15, hf⟩ := zg_some hf
    refine z_iald (f := (zA σ 24)) C h 30 (wM_at30 κ _) h15 dX10_plan_122 ?_
    refine lv_istore (lv' := [(9, .int ((zA σ 24) (Int32.toNatClampNeg (k5 + a.2.2)))), (0, .ref (κ.2.1 0)), (1, .int k1), (2, .int k2), (3, .int a.1), (4, .int k4), (5, .int k5), (6, .int k6), (7, .int a.2.1), (8, .int a.2.2)]) C.ex C.by dX10_plan_123 hl (by decide) rfl (fun ls hl => ?_)
    refine lv_iload C.ex C.by dX10_plan_125 (lv_at hl 8 rfl) ?_
    refine lv_iload C.ex C.by dX10_plan_127 (lv_at hl 0 rfl) ?_
    refine lv_iadd C.ex C.by dX10_plan_129 ?_
    refine lv_istore (lv' := [(7, .int (a.2.1 + ((zA σ 24) (Int32.toNatClampNeg (k5 + a.2.2))))), (9, .int ((zA σ 24) (Int32.toNatClampNeg (k5 + a.2.2)))), (0, .ref (κ.2.1 0)), (1, .int k1), (2, .int k2), (3, .int a.1), (4, .int k4), (5, .int k5), (6, .int k6), (8, .int a.2.2)]) C.ex C.by dX10_plan_130 hl (by decide) rfl (fun ls hl => ?_)
    refine lv_iload_n C.ex C.by dX10_plan_132 rfl (lv_at hl 5 rfl) ?_
    refine lv_iload C.ex C.by dX10_plan_133 (lv_at hl 8 rfl) ?_
    refine lv_iconst (v := 1) C.ex C.by dX10_plan_135 (by decide) ?_
    refine lv_icmp_le (tgt := 156) C.ex C.by dX10_plan_136 (by decide) (fun c16 => ?_) (fun c16 => ?_)
    · have hf := zif_t c16 hf
      refine lv_iconst (v := 0) C.ex C.by dX10_plan_156 (by decide) ?_
      exact wX10_plan_L106_157 C h (lv_sub hl [2, 3, 4, 6, 7, 8, 0, 9] rfl) hf Kc Ke0
    · have hf := zif_f c16 hf
      refine lv_iload C.ex C.by dX10_plan_139 (lv_at hl 1 rfl) ?_
      refine lv_aload_n C.ex C.by dX10_plan_141 rfl (lv_at hl 2 rfl) ?_
      obtain ⟨q17, e18, hf⟩ := zb_some hf
      refine z_callVi (As := []) C h (ctX10_per e18) (zgV lkM25 lkM26 lkM27 lkM2 lkM28) ⟨rfl, rfl⟩ hdX10_per ⟨Nat.le_of_ble_eq_true rfl, Nat.le_of_ble_eq_true rfl⟩ 0 (wM_at0 κ _) rfl hl rfl rfl (Nat.le_of_ble_eq_true rfl) dX10_plan_142 ⟨Nat.zero_le _, Nat.zero_le _⟩ (fun H locs h => ?_)
      refine lv_iadd C.ex C.by dX10_plan_145 ?_
      refine lv_iconst (v := 1) C.ex C.by dX10_plan_146 (by decide) ?_
      refine lv_isub C.ex C.by dX10_plan_147 ?_
      refine lv_aload_n C.ex C.by dX10_plan_148 rfl (lv_at hl 2 rfl) ?_
      obtain ⟨q19, e20, hf⟩ := zb_some hf
      refine z_callVi (As := []) C h (ctX10_per e20) (zgV lkM25 lkM26 lkM27 lkM2 lkM28) ⟨rfl, rfl⟩ hdX10_per ⟨Nat.le_of_ble_eq_true rfl, Nat.le_of_ble_eq_true rfl⟩ 0 (wM_at0 κ _) rfl hl rfl rfl (Nat.le_of_ble_eq_true rfl) dX10_plan_149 ⟨Nat.zero_le _, Nat.zero_le _⟩ (fun H locs h => ?_)
      obtain ⟨h21, hf⟩ := zg_some hf
      refine lv_idiv C.ex C.by dX10_plan_152 (znz_ne h21) ?_
      refine lv_goto (tgt := 157) C.ex C.by dX10_plan_153 (by decide) ?_
      exact wX10_plan_L106_157 C h (lv_sub hl [2, 3, 4, 6, 7, 8, 0, 9] rfl) hf Kc Ke0
theorem wlX10_plan_106 {p : Program} {l : Launch} {e : Env} {s : State} {m : MethodId} {args : Array Value} {below : List Frame} {meth : Method} {c : Code} {A : Nat → Prop} {κ : zG} {H : Heap} {locs : List Loc} {ls : Array Slot} {Q : State → Prop} {n : Nat} {σ : zS} {k1 : Int32} {k2 : Int32} {k4 : Int32} {k5 : Int32} {k6 : Int32} {k0 : Nat} {u3 : Int32} {u7 : Int32} {u8 : Int32} (C : zC cX10_plan 10 (some .int) RX10 κ A p s m args meth c) (h : zH wM κ A s σ H locs) (hl : lv_has ls 10 [(0, .ref (κ.2.1 0)), (1, .int k1), (2, .int k2), (3, .int u3), (4, .int k4), (5, .int k5), (6, .int k6), (7, .int u7), (8, .int u8)]) (b : Int32 × Int32) (hb : zlp (fX10_plan_L106_106 n σ k1 k2 k4 k5 k6) k0 (u3, u7, u8) = some b) (K : (fun b : Int32 × Int32 => ∀ (H : Heap) (locs : List Loc) (ls : Array Slot), zH wM κ A s σ H locs → lv_has ls 10 [(0, .ref (κ.2.1 0)), (1, .int k1), (2, .int k2), (3, .int b.1), (4, .int k4), (5, .int k5), (6, .int k6), (7, .int b.2)] → W p l e rmX10_plan s m args below meth c H locs 0 0 Q (F0 m 165 ls [])) b) : W p l e rmX10_plan s m args below meth c H locs 0 0 Q (F0 m 106 ls []) :=
  z_loop (body := fX10_plan_L106_106 n σ k1 k2 k4 k5 k6) (Wd := (fun a : Int32 × Int32 × Int32 => ∀ (H : Heap) (locs : List Loc) (ls : Array Slot), zH wM κ A s σ H locs → lv_has ls 10 [(0, .ref (κ.2.1 0)), (1, .int k1), (2, .int k2), (3, .int a.1), (4, .int k4), (5, .int k5), (6, .int k6), (7, .int a.2.1), (8, .int a.2.2)] → W p l e rmX10_plan s m args below meth c H locs 0 0 Q (F0 m 106 ls []))) (Ex := (fun b : Int32 × Int32 => (fun b : Int32 × Int32 => ∀ (H : Heap) (locs : List Loc) (ls : Array Slot), zH wM κ A s σ H locs → lv_has ls 10 [(0, .ref (κ.2.1 0)), (1, .int k1), (2, .int k2), (3, .int b.1), (4, .int k4), (5, .int k5), (6, .int k6), (7, .int b.2)] → W p l e rmX10_plan s m args below meth c H locs 0 0 Q (F0 m 165 ls [])) b)) (fun a r hr Kc Ke H locs ls h hl => wX10_plan_L106_106 C h hl hr (fun v3 v7 v8 e => Kc (v3, v7, v8) e) (fun v3 v7 e => Ke (v3, v7) e)) k0 (u3, u7, u8) b hb K H locs ls h hl
set_option maxRecDepth 20000 in
set_option maxHeartbeats 4000000 in
theorem wX10_plan_L76_98 {p : Program} {l : Launch} {e : Env} {s : State} {m : MethodId} {args : Array Value} {below : List Frame} {meth : Method} {c : Code} {A : Nat → Prop} {κ : zG} {H : Heap} {locs : List Loc} {ls : Array Slot} {Q : State → Prop} {n : Nat} {σ : zS} {k1 : Int32} {k2 : Int32} {x3 : Int32} {x4 : Int32} {x5 : Int32} {y0 : Int32} {r : (Int32 × Int32 × Int32 × zS) ⊕ (Int32 × Int32 × zS)} (C : zC cX10_plan 10 (some .int) RX10 κ A p s m args meth c) (h : zH wM κ A s σ H locs) (hl : lv_has ls 10 [(0, .ref (κ.2.1 0)), (1, .int k1), (2, .int k2), (3, .int x3), (4, .int x4), (5, .int x5)]) (hf : fX10_plan_L76_98 n σ k1 k2 x3 x4 x5 y0 = some r) (Kc : ∀ (v3 : Int32) (v4 : Int32) (v5 : Int32) (σ1 : zS), r = .inl (v3, v4, v5, σ1) → ∀ (H : Heap) (locs : List Loc) (ls : Array Slot), zH wM κ A s σ1 H locs → lv_has ls 10 [(0, .ref (κ.2.1 0)), (1, .int k1), (2, .int k2), (3, .int v3), (4, .int v4), (5, .int v5)] → W p l e rmX10_plan s m args below meth c H locs 0 0 Q (F0 m 76 ls [])) (Ke0 : ∀ (v3 : Int32) (v4 : Int32) (σ1 : zS), r = .inr (v3, v4, σ1) → ∀ (H : Heap) (locs : List Loc) (ls : Array Slot), zH wM κ A s σ1 H locs → lv_has ls 10 [(0, .ref (κ.2.1 0)), (1, .int k1), (3, .int v3), (4, .int v4)] → W p l e rmX10_plan s m args below meth c H locs 0 0 Q (F0 m 187 ls [])) : W p l e rmX10_plan s m args below meth c H locs 0 0 Q (F0 m 98 ls [.int y0]) := by
  unfold fX10_plan_L76_98 at hf
  refine lv_istore (lv' := [(6, .int y0), (0, .ref (κ.2.1 0)), (1, .int k1), (2, .int k2), (3, .int x3), (4, .int x4), (5, .int x5)]) C.ex C.by dX10_plan_98 hl (by decide) rfl (fun ls hl => ?_)
  refine lv_iconst (v := 0) C.ex C.by dX10_plan_100 (by decide) ?_
  refine lv_istore (lv' := [(7, .int 0), (6, .int y0), (0, .ref (κ.2.1 0)), (1, .int k1), (2, .int k2), (3, .int x3), (4, .int x4), (5, .int x5)]) C.ex C.by dX10_plan_101 hl (by decide) rfl (fun ls hl => ?_)
  refine lv_iconst (v := 0) C.ex C.by dX10_plan_103 (by decide) ?_
  refine lv_istore (lv' := [(8, .int 0), (7, .int 0), (6, .int y0), (0, .ref (κ.2.1 0)), (1, .int k1), (2, .int k2), (3, .int x3), (4, .int x4), (5, .int x5)]) C.ex C.by dX10_plan_104 hl (by decide) rfl (fun ls hl => ?_)
  obtain ⟨b22, e23, hf⟩ := zb_some hf
  refine wlX10_plan_106 C h (lv_sub hl [3, 4, 5, 6, 7, 8, 2, 1, 0] rfl) b22 e23 ?_
  intro H locs ls h hl
  refine lv_aload_n C.ex C.by dX10_plan_165 rfl (lv_at hl 0 rfl) ?_
  refine z_get (v := .ref (κ.2.1 30)) C h iwX10 0 (wM_at0 κ _) rfl 56 (by decide) lkM227 rfl dX10_plan_166 ?_
  refine lv_iload C.ex C.by dX10_plan_169 (lv_at hl 4 rfl) ?_
  refine lv_iload C.ex C.by dX10_plan_171 (lv_at hl 7 rfl) ?_
  obtain ⟨h24, hf⟩ := zg_some hf
  refine z_iast (f := (zA σ 24)) C h 30 (wM_at30 κ _) h24 (sA σ 24 (upd (zA σ 24) (Int32.toNatClampNeg x4) b22.2)) (wM_s30 κ _ _) dX10_plan_173 (fun H locs h => ?_)
  refine lv_iinc (v := (x4 + 1)) (lv' := [(4, .int (x4 + 1)), (0, .ref (κ.2.1 0)), (1, .int k1), (2, .int k2), (3, .int b22.1), (5, .int x5), (6, .int y0), (7, .int b22.2)]) C.ex C.by dX10_plan_174 hl (k := 4) rfl rfl (by decide) rfl (fun ls hl => ?_)
  refine lv_iload C.ex C.by dX10_plan_177 (lv_at hl 5 rfl) ?_
  refine lv_iload C.ex C.by dX10_plan_179 (lv_at hl 6 rfl) ?_
  refine lv_iadd C.ex C.by dX10_plan_181 ?_
  refine lv_istore (lv' := [(5, .int (x5 + y0)), (4, .int (x4 + 1)), (0, .ref (κ.2.1 0)), (1, .int k1), (2, .int k2), (3, .int b22.1), (6, .int y0), (7, .int b22.2)]) C.ex C.by dX10_plan_182 hl (by decide) rfl (fun ls hl => ?_)
  refine lv_goto (tgt := 76) C.ex C.by dX10_plan_184 (by decide) ?_
  exact Kc _ _ _ _ (Option.some.inj hf).symm _ _ _ h (lv_sub hl [2, 3, 4, 5, 1, 0] rfl)
set_option maxRecDepth 20000 in
set_option maxHeartbeats 4000000 in
theorem wX10_plan_L76_76 {p : Program} {l : Launch} {e : Env} {s : State} {m : MethodId} {args : Array Value} {below : List Frame} {meth : Method} {c : Code} {A : Nat → Prop} {κ : zG} {H : Heap} {locs : List Loc} {ls : Array Slot} {Q : State → Prop} {n : Nat} {k1 : Int32} {k2 : Int32} {a : Int32 × Int32 × Int32 × zS} {r : (Int32 × Int32 × Int32 × zS) ⊕ (Int32 × Int32 × zS)} (C : zC cX10_plan 10 (some .int) RX10 κ A p s m args meth c) (h : zH wM κ A s a.2.2.2 H locs) (hl : lv_has ls 10 [(0, .ref (κ.2.1 0)), (1, .int k1), (2, .int k2), (3, .int a.1), (4, .int a.2.1), (5, .int a.2.2.1)]) (hf : fX10_plan_L76_76 n k1 k2 a = some r) (Kc : ∀ (v3 : Int32) (v4 : Int32) (v5 : Int32) (σ1 : zS), r = .inl (v3, v4, v5, σ1) → ∀ (H : Heap) (locs : List Loc) (ls : Array Slot), zH wM κ A s σ1 H locs → lv_has ls 10 [(0, .ref (κ.2.1 0)), (1, .int k1), (2, .int k2), (3, .int v3), (4, .int v4), (5, .int v5)] → W p l e rmX10_plan s m args below meth c H locs 0 0 Q (F0 m 76 ls [])) (Ke0 : ∀ (v3 : Int32) (v4 : Int32) (σ1 : zS), r = .inr (v3, v4, σ1) → ∀ (H : Heap) (locs : List Loc) (ls : Array Slot), zH wM κ A s σ1 H locs → lv_has ls 10 [(0, .ref (κ.2.1 0)), (1, .int k1), (3, .int v3), (4, .int v4)] → W p l e rmX10_plan s m args below meth c H locs 0 0 Q (F0 m 187 ls [])) : W p l e rmX10_plan s m args below meth c H locs 0 0 Q (F0 m 76 ls []) := by
  unfold fX10_plan_L76_76 at hf
  refine lv_iload C.ex C.by dX10_plan_76 (lv_at hl 5 rfl) ?_
  refine lv_iload_n C.ex C.by dX10_plan_78 rfl (lv_at hl 2 rfl) ?_
  refine lv_icmp_ge (tgt := 187) C.ex C.by dX10_plan_79 (by decide) (fun c12 => ?_) (fun c12 => ?_)
  · have hf := zif_t c12 hf
    exact Ke0 _ _ _ (Option.some.inj hf).symm _ _ _ h (lv_sub hl [0, 1, 3, 4] rfl)
  · have hf := zif_f c12 hf
    refine lv_iload_n C.ex C.by dX10_plan_82 rfl (lv_at hl 2 rfl) ?_
    refine lv_iload C.ex C.by dX10_plan_83 (lv_at hl 5 rfl) ?_
    refine lv_isub C.ex C.by dX10_plan_85 ?_
    refine lv_iload_n C.ex C.by dX10_plan_86 rfl (lv_at hl 1 rfl) ?_
    refine lv_icmp_ge (tgt := 97) C.ex C.by dX10_plan_87 (by decide) (fun c13 => ?_) (fun c13 => ?_)
    · have hf := zif_t c13 hf
      refine lv_iload_n C.ex C.by dX10_plan_97 rfl (lv_at hl 1 rfl) ?_
      exact wX10_plan_L76_98 C h hl hf Kc Ke0
    · have hf := zif_f c13 hf
      refine lv_iload_n C.ex C.by dX10_plan_90 rfl (lv_at hl 2 rfl) ?_
      refine lv_iload C.ex C.by dX10_plan_91 (lv_at hl 5 rfl) ?_
      refine lv_isub C.ex C.by dX10_plan_93 ?_
      refine lv_goto (tgt := 98) C.ex C.by dX10_plan_94 (by decide) ?_
      exact wX10_plan_L76_98 C h hl hf Kc Ke0
theorem wlX10_plan_76 {p : Program} {l : Launch} {e : Env} {s : State} {m : MethodId} {args : Array Value} {below : List Frame} {meth : Method} {c : Code} {A : Nat → Prop} {κ : zG} {H : Heap} {locs : List Loc} {ls : Array Slot} {Q : State → Prop} {n : Nat} {k1 : Int32} {k2 : Int32} {k0 : Nat} {u3 : Int32} {u4 : Int32} {u5 : Int32} {σ1 : zS} (C : zC cX10_plan 10 (some .int) RX10 κ A p s m args meth c) (h : zH wM κ A s σ1 H locs) (hl : lv_has ls 10 [(0, .ref (κ.2.1 0)), (1, .int k1), (2, .int k2), (3, .int u3), (4, .int u4), (5, .int u5)]) (b : Int32 × Int32 × zS) (hb : zlp (fX10_plan_L76_76 n k1 k2) k0 (u3, u4, u5, σ1) = some b) (K : (fun b : Int32 × Int32 × zS => ∀ (H : Heap) (locs : List Loc) (ls : Array Slot), zH wM κ A s b.2.2 H locs → lv_has ls 10 [(0, .ref (κ.2.1 0)), (1, .int k1), (3, .int b.1), (4, .int b.2.1)] → W p l e rmX10_plan s m args below meth c H locs 0 0 Q (F0 m 187 ls [])) b) : W p l e rmX10_plan s m args below meth c H locs 0 0 Q (F0 m 76 ls []) :=
  z_loop (body := fX10_plan_L76_76 n k1 k2) (Wd := (fun a : Int32 × Int32 × Int32 × zS => ∀ (H : Heap) (locs : List Loc) (ls : Array Slot), zH wM κ A s a.2.2.2 H locs → lv_has ls 10 [(0, .ref (κ.2.1 0)), (1, .int k1), (2, .int k2), (3, .int a.1), (4, .int a.2.1), (5, .int a.2.2.1)] → W p l e rmX10_plan s m args below meth c H locs 0 0 Q (F0 m 76 ls []))) (Ex := (fun b : Int32 × Int32 × zS => (fun b : Int32 × Int32 × zS => ∀ (H : Heap) (locs : List Loc) (ls : Array Slot), zH wM κ A s b.2.2 H locs → lv_has ls 10 [(0, .ref (κ.2.1 0)), (1, .int k1), (3, .int b.1), (4, .int b.2.1)] → W p l e rmX10_plan s m args below meth c H locs 0 0 Q (F0 m 187 ls [])) b)) (fun a r hr Kc Ke H locs ls h hl => wX10_plan_L76_76 C h hl hr (fun v3 v4 v5 σ1 e => Kc (v3, v4, v5, σ1) e) (fun v3 v4 σ1 e => Ke (v3, v4, σ1) e)) k0 (u3, u4, u5, σ1) b hb K H locs ls h hl
set_option maxRecDepth 20000 in
set_option maxHeartbeats 4000000 in
theorem wX10_plan_L65_65 {p : Program} {l : Launch} {e : Env} {s : State} {m : MethodId} {args : Array Value} {below : List Frame} {meth : Method} {c : Code} {A : Nat → Prop} {κ : zG} {H : Heap} {locs : List Loc} {ls : Array Slot} {Q : State → Prop} {n : Nat} {k1 : Int32} {a : Int32 × Int32 × zS} {r : (Int32 × Int32 × zS) ⊕ (Int32 × zS)} (C : zC cX10_plan 10 (some .int) RX10 κ A p s m args meth c) (h : zH wM κ A s a.2.2 H locs) (hl : lv_has ls 10 [(0, .ref (κ.2.1 0)), (1, .int k1), (2, .int a.1), (3, .int a.2.1)]) (hf : fX10_plan_L65_65 n k1 a = some r) (Kc : ∀ (v2 : Int32) (v3 : Int32) (σ1 : zS), r = .inl (v2, v3, σ1) → ∀ (H : Heap) (locs : List Loc) (ls : Array Slot), zH wM κ A s σ1 H locs → lv_has ls 10 [(0, .ref (κ.2.1 0)), (1, .int k1), (2, .int v2), (3, .int v3)] → W p l e rmX10_plan s m args below meth c H locs 0 0 Q (F0 m 65 ls [])) (Ke0 : ∀ (v3 : Int32) (σ1 : zS), r = .inr (v3, σ1) → ∀ (H : Heap) (locs : List Loc) (ls : Array Slot), zH wM κ A s σ1 H locs → lv_has ls 10 [(0, .ref (κ.2.1 0)), (3, .int v3)] → W p l e rmX10_plan s m args below meth c H locs 0 0 Q (F0 m 193 ls [])) : W p l e rmX10_plan s m args below meth c H locs 0 0 Q (F0 m 65 ls []) := by
  unfold fX10_plan_L65_65 at hf
  refine lv_iload_n C.ex C.by dX10_plan_65 rfl (lv_at hl 2 rfl) ?_
  refine lv_iconst (v := 1) C.ex C.by dX10_plan_66 (by decide) ?_
  refine lv_icmp_le (tgt := 193) C.ex C.by dX10_plan_67 (by decide) (fun c11 => ?_) (fun c11 => ?_)
  · have hf := zif_t c11 hf
    exact Ke0 _ _ (Option.some.inj hf).symm _ _ _ h (lv_sub hl [0, 3] rfl)
  · have hf := zif_f c11 hf
    refine lv_iconst (v := 0) C.ex C.by dX10_plan_70 (by decide) ?_
    refine lv_istore (lv' := [(4, .int 0), (0, .ref (κ.2.1 0)), (1, .int k1), (2, .int a.1), (3, .int a.2.1)]) C.ex C.by dX10_plan_71 hl (by decide) rfl (fun ls hl => ?_)
    refine lv_iconst (v := 0) C.ex C.by dX10_plan_73 (by decide) ?_
    refine lv_istore (lv' := [(5, .int 0), (4, .int 0), (0, .ref (κ.2.1 0)), (1, .int k1), (2, .int a.1), (3, .int a.2.1)]) C.ex C.by dX10_plan_74 hl (by decide) rfl (fun ls hl => ?_)
    obtain ⟨b25, e26, hf⟩ := zb_some hf
    refine wlX10_plan_76 C h (lv_sub hl [2, 3, 4, 5, 1, 0] rfl) b25 e26 ?_
    intro H locs ls h hl
    refine lv_iload C.ex C.by dX10_plan_187 (lv_at hl 3 rfl) ?_
    refine lv_istore_n (lv' := [(2, .int b25.2.1), (0, .ref (κ.2.1 0)), (1, .int k1), (3, .int b25.1), (4, .int b25.2.1)]) C.ex C.by dX10_plan_189 rfl hl (by decide) rfl (fun ls hl => ?_)
    refine lv_goto (tgt := 65) C.ex C.by dX10_plan_190 (by decide) ?_
    exact Kc _ _ _ (Option.some.inj hf).symm _ _ _ h (lv_sub hl [1, 2, 0, 3] rfl)
theorem wlX10_plan_65 {p : Program} {l : Launch} {e : Env} {s : State} {m : MethodId} {args : Array Value} {below : List Frame} {meth : Method} {c : Code} {A : Nat → Prop} {κ : zG} {H : Heap} {locs : List Loc} {ls : Array Slot} {Q : State → Prop} {n : Nat} {k1 : Int32} {k0 : Nat} {u2 : Int32} {u3 : Int32} {σ1 : zS} (C : zC cX10_plan 10 (some .int) RX10 κ A p s m args meth c) (h : zH wM κ A s σ1 H locs) (hl : lv_has ls 10 [(0, .ref (κ.2.1 0)), (1, .int k1), (2, .int u2), (3, .int u3)]) (b : Int32 × zS) (hb : zlp (fX10_plan_L65_65 n k1) k0 (u2, u3, σ1) = some b) (K : (fun b : Int32 × zS => ∀ (H : Heap) (locs : List Loc) (ls : Array Slot), zH wM κ A s b.2 H locs → lv_has ls 10 [(0, .ref (κ.2.1 0)), (3, .int b.1)] → W p l e rmX10_plan s m args below meth c H locs 0 0 Q (F0 m 193 ls [])) b) : W p l e rmX10_plan s m args below meth c H locs 0 0 Q (F0 m 65 ls []) :=
  z_loop (body := fX10_plan_L65_65 n k1) (Wd := (fun a : Int32 × Int32 × zS => ∀ (H : Heap) (locs : List Loc) (ls : Array Slot), zH wM κ A s a.2.2 H locs → lv_has ls 10 [(0, .ref (κ.2.1 0)), (1, .int k1), (2, .int a.1), (3, .int a.2.1)] → W p l e rmX10_plan s m args below meth c H locs 0 0 Q (F0 m 65 ls []))) (Ex := (fun b : Int32 × zS => (fun b : Int32 × zS => ∀ (H : Heap) (locs : List Loc) (ls : Array Slot), zH wM κ A s b.2 H locs → lv_has ls 10 [(0, .ref (κ.2.1 0)), (3, .int b.1)] → W p l e rmX10_plan s m args below meth c H locs 0 0 Q (F0 m 193 ls [])) b)) (fun a r hr Kc Ke H locs ls h hl => wX10_plan_L65_65 C h hl hr (fun v2 v3 σ1 e => Kc (v2, v3, σ1) e) (fun v3 σ1 e => Ke (v3, σ1) e)) k0 (u2, u3, σ1) b hb K H locs ls h hl
set_option maxRecDepth 20000 in
set_option maxHeartbeats 4000000 in
theorem wX10_plan_16 {p : Program} {l : Launch} {e : Env} {s : State} {m : MethodId} {args : Array Value} {below : List Frame} {meth : Method} {c : Code} {A : Nat → Prop} {κ : zG} {H : Heap} {locs : List Loc} {ls : Array Slot} {n : Nat} {σ : zS} {x1 : Int32} {y0 : Int32} {r1 : Int32} {r2 : zS} (C : zC cX10_plan 10 (some .int) RX10 κ A p s m args meth c) (h : zH wM κ A s σ H locs) (hl : lv_has ls 10 [(0, .ref (κ.2.1 0)), (1, .int x1)]) (hf : fX10_plan_16 n σ x1 y0 = some (r1, r2)) : W p l e rmX10_plan s m args below meth c H locs 0 0 (MQ below (zQi wM κ A r1 r2) args s 0 0 A) (F0 m 16 ls [.int y0, .ref (κ.2.1 0)]) := by
  unfold fX10_plan_16 at hf
  refine z_put C h iwX10 tyX10_ok nmX10 0 (wM_at0 κ _) rfl 0 (by decide) lkM8 rfl rfl rfl (Nat.le_of_ble_eq_true rfl) (sI σ 0 y0) (wM_s0_0 κ _ _) dX10_plan_16 (fun H locs h => ?_)
  refine lv_aload_n C.ex C.by dX10_plan_19 rfl (lv_at hl 0 rfl) ?_
  refine z_get (v := .int y0) C h iwX10 0 (wM_at0 κ _) rfl 0 (by decide) lkM8 rfl dX10_plan_20 ?_
  refine lv_if_le (tgt := 28) C.ex C.by dX10_plan_23 (by decide) (fun c4 => ?_) (fun c4 => ?_)
  · have hf := zif_t c4 hf
    refine lv_aload_n C.ex C.by dX10_plan_28 rfl (lv_at hl 0 rfl) ?_
    refine z_get (v := .int (zI σ 4)) C h iwX10 0 (wM_at0 κ _) rfl 13 (by decide) lkM5 rfl dX10_plan_29 ?_
    refine lv_istore_n (lv' := [(2, .int (zI σ 4)), (0, .ref (κ.2.1 0)), (1, .int x1)]) C.ex C.by dX10_plan_32 rfl hl (by decide) rfl (fun ls hl => ?_)
    refine lv_iconst (v := 0) C.ex C.by dX10_plan_33 (by decide) ?_
    refine lv_istore_n (lv' := [(3, .int 0), (2, .int (zI σ 4)), (0, .ref (κ.2.1 0)), (1, .int x1)]) C.ex C.by dX10_plan_34 rfl hl (by decide) rfl (fun ls hl => ?_)
    obtain ⟨b9, e10, hf⟩ := zb_some hf
    refine wlX10_plan_35 C h (lv_sub hl [2, 3, 1, 0] rfl) b9 e10 ?_
    intro H locs ls h hl
    refine lv_iconst (v := 0) C.ex C.by dX10_plan_63 (by decide) ?_
    refine lv_istore_n (lv' := [(3, .int 0), (0, .ref (κ.2.1 0)), (1, .int x1), (2, .int (zI σ 4))]) C.ex C.by dX10_plan_64 rfl hl (by decide) rfl (fun ls hl => ?_)
    obtain ⟨b27, e28, hf⟩ := zb_some hf
    refine wlX10_plan_65 C h (lv_sub hl [1, 2, 3, 0] rfl) b27 e28 ?_
    intro H locs ls h hl
    refine lv_iload_n C.ex C.by dX10_plan_193 rfl (lv_at hl 1 rfl) ?_
    cases hf
    exact z_iret C h dX10_plan_194
  · have hf := zif_f c4 hf
    refine lv_iconst (v := 0) C.ex C.by dX10_plan_26 (by decide) ?_
    cases hf
    exact z_iret C h dX10_plan_27
set_option maxRecDepth 20000 in
set_option maxHeartbeats 4000000 in
theorem wX10_plan_0 {p : Program} {l : Launch} {e : Env} {s : State} {m : MethodId} {args : Array Value} {below : List Frame} {meth : Method} {c : Code} {A : Nat → Prop} {κ : zG} {H : Heap} {locs : List Loc} {ls : Array Slot} {n : Nat} {σ : zS} {x1 : Int32} {r1 : Int32} {r2 : zS} (C : zC cX10_plan 10 (some .int) RX10 κ A p s m args meth c) (h : zH wM κ A s σ H locs) (hl : lv_has ls 10 [(0, .ref (κ.2.1 0)), (1, .int x1)]) (hf : fX10_plan_0 n σ x1 = some (r1, r2)) : W p l e rmX10_plan s m args below meth c H locs 0 0 (MQ below (zQi wM κ A r1 r2) args s 0 0 A) (F0 m 0 ls []) := by
  unfold fX10_plan_0 at hf
  refine lv_aload_n C.ex C.by dX10_plan_0 rfl (lv_at hl 0 rfl) ?_
  refine lv_iload_n C.ex C.by dX10_plan_1 rfl (lv_at hl 1 rfl) ?_
  refine lv_iconst (v := 2) C.ex C.by dX10_plan_2 (by decide) ?_
  refine lv_bipush (v := 8) C.ex C.by dX10_plan_3 (by decide) ?_
  obtain ⟨q1, e2, hf⟩ := zb_some hf
  refine z_callSi (As := [.int x1, .int 2, .int 8]) C h (ctX10_isIn e2) (zgS lkM0 lkM1 lkM2 lkM3) ⟨rfl, rfl⟩ hdX10_isIn ⟨Nat.le_of_ble_eq_true rfl, Nat.le_of_ble_eq_true rfl⟩ hl rfl rfl (Nat.le_of_ble_eq_true rfl) dX10_plan_5 ⟨Nat.zero_le _, Nat.zero_le _⟩ (fun H locs h => ?_)
  refine lv_if_eq (tgt := 15) C.ex C.by dX10_plan_8 (by decide) (fun c3 => ?_) (fun c3 => ?_)
  · have hf := zif_t c3 hf
    refine lv_iconst (v := 1) C.ex C.by dX10_plan_15 (by decide) ?_
    exact wX10_plan_16 C h hl hf
  · have hf := zif_f c3 hf
    refine lv_iconst (v := 0) C.ex C.by dX10_plan_11 (by decide) ?_
    refine lv_goto (tgt := 16) C.ex C.by dX10_plan_12 (by decide) ?_
    exact wX10_plan_16 C h hl hf
theorem ctX10_plan {l : Launch} {κ : zG} {n : Nat} {σ : zS} {x1 : Int32} {r1 : Int32} {r2 : zS} (hf : fX10_plan_0 n σ x1 = some (r1, r2)) : zMi l yX10_plan (Cond.code yX10_plan cX10_plan 10 (some .int)) rmX10_plan wM κ [.ref (κ.2.1 0), .int x1] σ r1 r2 :=
  zMi_of (by decide) (Nat.le_of_ble_eq_true rfl) (fun p e s m below meth c A C h ls hl => wX10_plan_0 C h hl hf)
