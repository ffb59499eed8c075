theorem hdX9_told : yX9_told.cls = RX9 ∧ yX9_told.cls ≠ "java/lang/invoke/MethodHandle" ∧ yX9_told.cls ≠ "java/lang/invoke/VarHandle" ∧ (parseMethodDescriptor yX9_told.desc).map (fun d => d.parameters.length) = some 3 := by decide +kernel
abbrev rmX9_told : Room := { frames := 7, cells := 2, slots := 12, locals := 103 }
set_option maxRecDepth 20000 in
set_option maxHeartbeats 4000000 in
theorem wX9_told_43 {p : Program} {l : Launch} {e : Env} {s : State} {m : MethodId} {args : Array Value} {below : List Frame} {meth : Method} {c : Code} {A : Nat → Prop} {κ : zG} {H : Heap} {locs : List Loc} {ls : Array Slot} {n : Nat} {σ : zS} {r1 : String ⊕ Int64} {r2 : zS} (CX : zCX cX9_told 4 (some .long) RX9 κ A p l s m args meth c) (h : zH wC κ A s σ H locs) (hl : lv_has ls 4 [(0, .ref (κ.2.1 0))]) (hf : fX9_told_43 n (κ.2.2.2 0) (κ.2.2.2 1) (κ.2.2.2 2) σ = some (r1, r2)) : W p l e rmX9_told s m args below meth c H locs 1 (6 * 1) (vx_MQ below (zQtl wC κ A r1 r2) (zXc wC κ A r1 r2) args s 2 (6 * 2) A) (F0 m 43 ls []) := by
  unfold fX9_told_43 at hf
  have C := CX.1
  cases hf
  exact z_throwSW (k := 1) (text := "no such record or column") CX h (by decide) lkC354 lkC355 (by decide) (by decide) tg137 tb137 to137 hl dX9_told_43 dX9_told_46 dX9_told_47 dX9_told_50 dX9_told_53 ⟨Nat.le_of_ble_eq_true rfl, Nat.le_of_ble_eq_true rfl, Nat.le_of_ble_eq_true rfl, Nat.le_of_ble_eq_true rfl⟩ (by decide)
set_option maxRecDepth 20000 in
set_option maxHeartbeats 4000000 in
theorem wX9_told_0 {p : Program} {l : Launch} {e : Env} {s : State} {m : MethodId} {args : Array Value} {below : List Frame} {meth : Method} {c : Code} {A : Nat → Prop} {κ : zG} {H : Heap} {locs : List Loc} {ls : Array Slot} {n : Nat} {σ : zS} {x1 : Int32} {x2 : Int32} {x3 : Int32} {r1 : String ⊕ Int64} {r2 : zS} (CX : zCX cX9_told 4 (some .long) RX9 κ A p l s m args meth c) (h : zH wC κ A s σ H locs) (hl : lv_has ls 4 [(0, .ref (κ.2.1 0)), (1, .int x1), (2, .int x2), (3, .int x3)]) (hf : fX9_told_0 n (κ.2.2.2 0) (κ.2.2.2 1) (κ.2.2.2 2) σ x1 x2 x3 = some (r1, r2)) : W p l e rmX9_told s m args below meth c H locs 0 (6 * 0) (vx_MQ below (zQtl wC κ A r1 r2) (zXc wC κ A r1 r2) args s 2 (6 * 2) A) (F0 m 0 ls []) := by
  unfold fX9_told_0 at hf
  have C := CX.1
  refine lv_aload_n C.ex C.by dX9_told_0 rfl (lv_at hl 0 rfl) ?_
  refine lv_iload_n C.ex C.by dX9_told_1 rfl (lv_at hl 1 rfl) ?_
  obtain ⟨q1, e2, hf⟩ := zb_some hf
  rcases q1 with E | q1
  · dsimp only [Sum.elim_inl] at hf
    cases hf
    exact z_callTv_x (k := 0) (mc' := 1) (As := [.int x1]) CX h (ctX9_needRun CX.2.1 e2) (zgV lkC427 lkC428 lkC429 lkC99 lkC430) ⟨rfl, rfl⟩ hdX9_needRun ⟨Nat.le_of_ble_eq_true rfl, Nat.le_of_ble_eq_true rfl⟩ 0 (wC_at0 κ _) rfl hl rfl rfl (Nat.le_of_ble_eq_true rfl) dX9_told_2 ⟨Nat.le_of_ble_eq_true rfl, Nat.le_of_ble_eq_true rfl⟩ (by decide)
  · dsimp only [Sum.elim_inr] at hf
    refine z_callTv (k := 0) (mc' := 1) (As := [.int x1]) CX h (ctX9_needRun CX.2.1 e2) (zgV lkC427 lkC428 lkC429 lkC99 lkC430) ⟨rfl, rfl⟩ hdX9_needRun ⟨Nat.le_of_ble_eq_true rfl, Nat.le_of_ble_eq_true rfl⟩ 0 (wC_at0 κ _) rfl hl rfl rfl (Nat.le_of_ble_eq_true rfl) dX9_told_2 ⟨Nat.le_of_ble_eq_true rfl, Nat.le_of_ble_eq_true rfl⟩ (fun H locs h => ?_)
    refine W.widen (k := 1) (n := 6 * 1) (by decide) (by decide) ?_
    refine lv_iload_n C.ex C.by dX9_told_5 rfl (lv_at hl 2 rfl) ?_
    refine lv_if_lt (tgt := 43) C.ex C.by dX9_told_6 (by decide) (fun c3 => ?_) (fun c3 => ?_)
    · have hf := zif_t c3 hf
      exact wX9_told_43 CX h (lv_sub hl [0] rfl) hf
    · have hf := zif_f c3 hf
      refine lv_iload_n C.ex C.by dX9_told_9 rfl (lv_at hl 2 rfl) ?_
      refine lv_aload_n C.ex C.by dX9_told_10 rfl (lv_at hl 0 rfl) ?_
      refine z_get (v := .ref (κ.2.1 7)) C h iwX9 0 (wC_at0 κ _) rfl 2 (by decide) lkC6 rfl dX9_told_11 ?_
      refine lv_aload_n C.ex C.by dX9_told_14 rfl (lv_at hl 0 rfl) ?_
      refine z_get (v := .ref (κ.2.1 33)) C h iwX9 0 (wC_at0 κ _) rfl 8 (by decide) lkC180 rfl dX9_told_15 ?_
      refine lv_iload_n C.ex C.by dX9_told_18 rfl (lv_at hl 1 rfl) ?_
      obtain ⟨q4, e5, hf⟩ := zb_some hf
      refine z_callRi (As := [.int x1]) (x := (zI σ 32)) (f := (zA σ 16)) C h (ctX6_get (κ := zκR κ (κ.2.1 33) (κ.2.1 34) (κ.2.2.2 0)) e5) (zgV lkC193 lkC50 lkC51 lkC52 lkC53) ⟨rfl, rfl⟩ hdX6_get ⟨Nat.le_of_ble_eq_true rfl, Nat.le_of_ble_eq_true rfl⟩ 33 34 (by decide) (wC_at33 κ _) (wC_at34 κ _) σ (zset2 (wC_at33 κ _) (wC_at34 κ _)) hl rfl rfl (Nat.le_of_ble_eq_true rfl) dX9_told_19 ⟨Nat.le_of_ble_eq_true rfl, Nat.le_of_ble_eq_true rfl⟩ (fun H locs h => ?_)
      obtain ⟨q6, e7, hf⟩ := zb_some hf
      refine z_callVi (As := [.int q4]) C h (ctX1_heldBy e7) (zgV lkC271 lkC220 lkC221 lkC11 lkC222) ⟨rfl, rfl⟩ hdX1_heldBy ⟨Nat.le_of_ble_eq_true rfl, Nat.le_of_ble_eq_true rfl⟩ 7 (wC_at7 κ _) rfl hl rfl rfl (Nat.le_of_ble_eq_true rfl) dX9_told_22 ⟨Nat.le_of_ble_eq_true rfl, Nat.le_of_ble_eq_true rfl⟩ (fun H locs h => ?_)
      refine lv_icmp_ge (tgt := 43) C.ex C.by dX9_told_25 (by decide) (fun c8 => ?_) (fun c8 => ?_)
      · have hf := zif_t c8 hf
        exact wX9_told_43 CX h (lv_sub hl [0] rfl) hf
      · have hf := zif_f c8 hf
        refine lv_iload_n C.ex C.by dX9_told_28 rfl (lv_at hl 3 rfl) ?_
        refine lv_if_lt (tgt := 43) C.ex C.by dX9_told_29 (by decide) (fun c9 => ?_) (fun c9 => ?_)
        · have hf := zif_t c9 hf
          exact wX9_told_43 CX h (lv_sub hl [0] rfl) hf
        · have hf := zif_f c9 hf
          refine lv_iload_n C.ex C.by dX9_told_32 rfl (lv_at hl 3 rfl) ?_
          refine lv_aload_n C.ex C.by dX9_told_33 rfl (lv_at hl 0 rfl) ?_
          refine z_get (v := .ref (κ.2.1 4)) C h iwX9 0 (wC_at0 κ _) rfl 1 (by decide) lkC1 rfl dX9_told_34 ?_
          refine z_getN (v := .int (zI σ 9)) C h iwX5 4 (wC_at4 κ _) rfl 4 (by decide) nkC21 rfl dX9_told_37 ?_
          refine lv_icmp_le (tgt := 54) C.ex C.by dX9_told_40 (by decide) (fun c10 => ?_) (fun c10 => ?_)
          · have hf := zif_t c10 hf
            refine lv_aload_n C.ex C.by dX9_told_54 rfl (lv_at hl 0 rfl) ?_
            obtain ⟨q11, e12, hf⟩ := zb_some hf
            rcases q11 with E | q11
            · dsimp only [Sum.elim_inl] at hf
              cases hf
              exact z_callTv_x (k := 1) (mc' := 1) (As := []) CX h (ctX9_needPower CX.2.1 e12) (zgV lkC338 lkC339 lkC340 lkC99 lkC341) ⟨rfl, rfl⟩ hdX9_needPower ⟨Nat.le_of_ble_eq_true rfl, Nat.le_of_ble_eq_true rfl⟩ 0 (wC_at0 κ _) rfl hl rfl rfl (Nat.le_of_ble_eq_true rfl) dX9_told_55 ⟨Nat.le_of_ble_eq_true rfl, Nat.le_of_ble_eq_true rfl⟩ (by decide)
            · dsimp only [Sum.elim_inr] at hf
              refine z_callTv (k := 1) (mc' := 1) (As := []) CX h (ctX9_needPower CX.2.1 e12) (zgV lkC338 lkC339 lkC340 lkC99 lkC341) ⟨rfl, rfl⟩ hdX9_needPower ⟨Nat.le_of_ble_eq_true rfl, Nat.le_of_ble_eq_true rfl⟩ 0 (wC_at0 κ _) rfl hl rfl rfl (Nat.le_of_ble_eq_true rfl) dX9_told_55 ⟨Nat.le_of_ble_eq_true rfl, Nat.le_of_ble_eq_true rfl⟩ (fun H locs h => ?_)
              refine W.widen (k := 2) (n := 6 * 2) (by decide) (by decide) ?_
              refine lv_aload_n C.ex C.by dX9_told_58 rfl (lv_at hl 0 rfl) ?_
              refine lv_aload_n C.ex C.by dX9_told_59 rfl (lv_at hl 0 rfl) ?_
              refine z_get (v := .ref (κ.2.1 33)) C h iwX9 0 (wC_at0 κ _) rfl 8 (by decide) lkC180 rfl dX9_told_60 ?_
              refine lv_iload_n C.ex C.by dX9_told_63 rfl (lv_at hl 1 rfl) ?_
              obtain ⟨q13, e14, hf⟩ := zb_some hf
              refine z_callRi (As := [.int x1]) (x := (zI σ 32)) (f := (zA σ 16)) C h (ctX6_get (κ := zκR κ (κ.2.1 33) (κ.2.1 34) (κ.2.2.2 0)) e14) (zgV lkC193 lkC50 lkC51 lkC52 lkC53) ⟨rfl, rfl⟩ hdX6_get ⟨Nat.le_of_ble_eq_true rfl, Nat.le_of_ble_eq_true rfl⟩ 33 34 (by decide) (wC_at33 κ _) (wC_at34 κ _) σ (zset2 (wC_at33 κ _) (wC_at34 κ _)) hl rfl rfl (Nat.le_of_ble_eq_true rfl) dX9_told_64 ⟨Nat.le_of_ble_eq_true rfl, Nat.le_of_ble_eq_true rfl⟩ (fun H locs h => ?_)
              refine lv_iload_n C.ex C.by dX9_told_67 rfl (lv_at hl 2 rfl) ?_
              refine lv_iload_n C.ex C.by dX9_told_68 rfl (lv_at hl 3 rfl) ?_
              obtain ⟨q15, e16, hf⟩ := zb_some hf
              refine z_callVl (As := [.int q13, .int x2, .int x3]) C h (ctX9_look (r1 := q15.1) (r2 := q15.2) e16) (zgV lkC431 lkC432 lkC433 lkC99 lkC434) ⟨rfl, rfl⟩ hdX9_look ⟨Nat.le_of_ble_eq_true rfl, Nat.le_of_ble_eq_true rfl⟩ 0 (wC_at0 κ _) rfl hl rfl rfl (Nat.le_of_ble_eq_true rfl) dX9_told_69 ⟨Nat.le_of_ble_eq_true rfl, Nat.le_of_ble_eq_true rfl⟩ (fun H locs h => ?_)
              cases hf
              exact z_tlret (k := 2) CX h (by decide) dX9_told_72
          · have hf := zif_f c10 hf
            exact wX9_told_43 CX h (lv_sub hl [0] rfl) hf
theorem ctX9_told {l : Launch} {κ : zG} {n : Nat} {σ : zS} {x1 : Int32} {x2 : Int32} {x3 : Int32} {r1 : String ⊕ Int64} {r2 : zS} (hl9 : l.stackTraces = false) (hf : fX9_told_0 n (κ.2.2.2 0) (κ.2.2.2 1) (κ.2.2.2 2) σ x1 x2 x3 = some (r1, r2)) : zTl l yX9_told (Cond.code yX9_told cX9_told 4 (some .long)) rmX9_told wC κ [.ref (κ.2.1 0), .int x1, .int x2, .int x3] σ 2 r1 r2 :=
  zbodyX (Qz := fun A => zQtl wC κ A r1 r2) (Xz := fun A => zXc wC κ A r1 r2) (by decide) (Nat.le_of_ble_eq_true rfl) hl9 (fun p e s m below meth c A C h ls hl => wX9_told_0 C h hl hf)
theorem hdX9_rank : yX9_rank.cls = RX9 ∧ yX9_rank.cls ≠ "java/lang/invoke/MethodHandle" ∧ yX9_rank.cls ≠ "java/lang/invoke/VarHandle" ∧ (parseMethodDescriptor yX9_rank.desc).map (fun d => d.parameters.length) = some 2 := by decide +kernel
abbrev rmX9_rank : Room := { frames := 7, cells := 2, slots := 12, locals := 103 }
set_option maxRecDepth 20000 in
set_option maxHeartbeats 4000000 in
theorem wX9_rank_L33_103 {p : Program} {l : Launch} {e : Env} {s : State} {m : MethodId} {args : Array Value} {below : List Frame} {meth : Method} {c : Code} {A : Nat → Prop} {κ : zG} {H : Heap} {locs : List Loc} {ls : Array Slot} {Q : State → Prop} {n : Nat} {σ : zS} {k1 : Int32} {k2 : Int64} {x4 : Int32} {x5 : Int32} {x6 : Int32} {r : (Int32 × Int32 × Int32 × zS) ⊕ (Int32 × zS)} (CX : zCX cX9_rank 10 (some .int) RX9 κ A p l s m args meth c) (h : zH wC κ A s σ H locs) (hl : lv_has ls 10 [(0, .ref (κ.2.1 0)), (1, .int k1), (2, .long k2), (4, .int x4), (5, .int x5), (6, .int x6)]) (hf : fX9_rank_L33_103 n (κ.2.2.2 0) (κ.2.2.2 1) (κ.2.2.2 2) σ k1 k2 x4 x5 x6 = some r) (Kc : ∀ (v4 : Int32) (v5 : Int32) (v6 : Int32) (σ1 : zS), r = .inl (v4, v5, v6, σ1) → ∀ (H : Heap) (locs : List Loc) (ls : Array Slot), zH wC κ A s σ1 H locs → lv_has ls 10 [(0, .ref (κ.2.1 0)), (1, .int k1), (2, .long k2), (4, .int v4), (5, .int v5), (6, .int v6)] → W p l e rmX9_rank s m args below meth c H locs 2 (6 * 2) Q (F0 m 33 ls [])) (Ke0 : ∀ (v4 : Int32) (σ1 : zS), r = .inr (v4, σ1) → ∀ (H : Heap) (locs : List Loc) (ls : Array Slot), zH wC κ A s σ1 H locs → lv_has ls 10 [(0, .ref (κ.2.1 0)), (4, .int v4)] → W p l e rmX9_rank s m args below meth c H locs 2 (6 * 2) Q (F0 m 109 ls [])) : W p l e rmX9_rank s m args below meth c H locs 2 (6 * 2) Q (F0 m 103 ls []) := by
  unfold fX9_rank_L33_103 at hf
  have C := CX.1
  refine lv_iinc (v := (x6 + (-1))) (lv' := [(6, .int (x6 + (-1))), (0, .ref (κ.2.1 0)), (1, .int k1), (2, .long k2), (4, .int x4), (5, .int x5)]) C.ex C.by dX9_rank_103 hl (k := 5) rfl rfl (by decide) rfl (fun ls hl => ?_)
  refine lv_goto (tgt := 33) C.ex C.by dX9_rank_106 (by decide) ?_
  exact Kc _ _ _ _ (Option.some.inj hf).symm _ _ _ h (lv_sub hl [1, 2, 3, 4, 5, 0] rfl)
set_option maxRecDepth 20000 in
set_option maxHeartbeats 4000000 in
theorem wX9_rank_L33_33 {p : Program} {l : Launch} {e : Env} {s : State} {m : MethodId} {args : Array Value} {below : List Frame} {meth : Method} {c : Code} {A : Nat → Prop} {κ : zG} {H : Heap} {locs : List Loc} {ls : Array Slot} {Q : State → Prop} {n : Nat} {k1 : Int32} {k2 : Int64} {a : Int32 × Int32 × Int32 × zS} {r : (Int32 × Int32 × Int32 × zS) ⊕ (Int32 × zS)} (CX : zCX cX9_rank 10 (some .int) RX9 κ A p l s m args meth c) (h : zH wC κ A s a.2.2.2 H locs) (hl : lv_has ls 10 [(0, .ref (κ.2.1 0)), (1, .int k1), (2, .long k2), (4, .int a.1), (5, .int a.2.1), (6, .int a.2.2.1)]) (hf : fX9_rank_L33_33 n (κ.2.2.2 0) (κ.2.2.2 1) (κ.2.2.2 2) k1 k2 a = some r) (Kc : ∀ (v4 : Int32) (v5 : Int32) (v6 : Int32) (σ1 : zS), r = .inl (v4, v5, v6, σ1) → ∀ (H : Heap) (locs : List Loc) (ls : Array Slot), zH wC κ A s σ1 H locs → lv_has ls 10 [(0, .ref (κ.2.1 0)), (1, .int k1), (2, .long k2), (4, .int v4), (5, .int v5), (6, .int v6)] → W p l e rmX9_rank s m args below meth c H locs 2 (6 * 2) Q (F0 m 33 ls [])) (Ke0 : ∀ (v4 : Int32) (σ1 : zS), r = .inr (v4, σ1) → ∀ (H : Heap) (locs : List Loc) (ls : Array Slot), zH wC κ A s σ1 H locs → lv_has ls 10 [(0, .ref (κ.2.1 0)), (4, .int v4)] → W p l e rmX9_rank s m args below meth c H locs 2 (6 * 2) Q (F0 m 109 ls [])) : W p l e rmX9_rank s m args below meth c H locs 2 (6 * 2) Q (F0 m 33 ls []) := by
  unfold fX9_rank_L33_33 at hf
  have C := CX.1
  refine lv_iload C.ex C.by dX9_rank_33 (lv_at hl 5 rfl) ?_
  refine lv_if_le (tgt := 109) C.ex C.by dX9_rank_35 (by decide) (fun c9 => ?_) (fun c9 => ?_)
  · have hf := zif_t c9 hf
    exact Ke0 _ _ (Option.some.inj hf).symm _ _ _ h (lv_sub hl [0, 3] rfl)
  · have hf := zif_f c9 hf
    refine lv_iload C.ex C.by dX9_rank_38 (lv_at hl 3 rfl) ?_
    refine lv_iload C.ex C.by dX9_rank_40 (lv_at hl 4 rfl) ?_
    refine lv_icmp_ge (tgt := 109) C.ex C.by dX9_rank_42 (by decide) (fun c10 => ?_) (fun c10 => ?_)
    · have hf := zif_t c10 hf
      exact Ke0 _ _ (Option.some.inj hf).symm _ _ _ h (lv_sub hl [0, 3] rfl)
    · have hf := zif_f c10 hf
      refine lv_iload C.ex C.by dX9_rank_45 (lv_at hl 3 rfl) ?_
      refine lv_iload C.ex C.by dX9_rank_47 (lv_at hl 4 rfl) ?_
      refine lv_iadd C.ex C.by dX9_rank_49 ?_
      refine lv_iconst (v := 2) C.ex C.by dX9_rank_50 (by decide) ?_
      obtain ⟨h11, hf⟩ := zg_some hf
      refine lv_idiv C.ex C.by dX9_rank_51 (znz_ne h11) ?_
      refine lv_istore (lv' := [(7, .int ((a.1 + a.2.1) / 2)), (0, .ref (κ.2.1 0)), (1, .int k1), (2, .long k2), (4, .int a.1), (5, .int a.2.1), (6, .int a.2.2.1)]) C.ex C.by dX9_rank_52 hl (by decide) rfl (fun ls hl => ?_)
      refine lv_aload_n C.ex C.by dX9_rank_54 rfl (lv_at hl 1 rfl) ?_
      refine lv_aload_n C.ex C.by dX9_rank_55 rfl (lv_at hl 1 rfl) ?_
      refine z_get (v := .ref (κ.2.1 33)) C h iwX9 0 (wC_at0 κ _) rfl 8 (by decide) lkC180 rfl dX9_rank_56 ?_
      refine lv_iload_n C.ex C.by dX9_rank_59 rfl (lv_at hl 2 rfl) ?_
      obtain ⟨q12, e13, hf⟩ := zb_some hf
      refine z_callRi (As := [.int k1]) (x := (zI a.2.2.2 32)) (f := (zA a.2.2.2 16)) C h (ctX6_get (κ := zκR κ (κ.2.1 33) (κ.2.1 34) (κ.2.2.2 0)) e13) (zgV lkC193 lkC50 lkC51 lkC52 lkC53) ⟨rfl, rfl⟩ hdX6_get ⟨Nat.le_of_ble_eq_true rfl, Nat.le_of_ble_eq_true rfl⟩ 33 34 (by decide) (wC_at33 κ _) (wC_at34 κ _) a.2.2.2 (zset2 (wC_at33 κ _) (wC_at34 κ _)) hl rfl rfl (Nat.le_of_ble_eq_true rfl) dX9_rank_60 ⟨Nat.le_of_ble_eq_true rfl, Nat.le_of_ble_eq_true rfl⟩ (fun H locs h => ?_)
      refine lv_iload C.ex C.by dX9_rank_63 (lv_at hl 0 rfl) ?_
      refine lv_aload_n C.ex C.by dX9_rank_65 rfl (lv_at hl 1 rfl) ?_
      refine z_get (v := .ref (κ.2.1 4)) C h iwX9 0 (wC_at0 κ _) rfl 1 (by decide) lkC1 rfl dX9_rank_66 ?_
      obtain ⟨q14, e15, hf⟩ := zb_some hf
      refine z_callVi (As := []) C h (ctX5_firstColumn e15) (zgV lkC435 lkC436 lkC437 lkC74 lkC438) ⟨rfl, rfl⟩ hdX5_firstColumn ⟨Nat.le_of_ble_eq_true rfl, Nat.le_of_ble_eq_true rfl⟩ 4 (wC_at4 κ _) rfl hl rfl rfl (Nat.le_of_ble_eq_true rfl) dX9_rank_69 ⟨Nat.le_of_ble_eq_true rfl, Nat.le_of_ble_eq_true rfl⟩ (fun H locs h => ?_)
      obtain ⟨q16, e17, hf⟩ := zb_some hf
      refine z_callVl (As := [.int q12, .int ((a.1 + a.2.1) / 2), .int q14]) C h (ctX9_look (r1 := q16.1) (r2 := q16.2) e17) (zgV lkC431 lkC432 lkC433 lkC99 lkC434) ⟨rfl, rfl⟩ hdX9_look ⟨Nat.le_of_ble_eq_true rfl, Nat.le_of_ble_eq_true rfl⟩ 0 (wC_at0 κ _) rfl hl rfl rfl (Nat.le_of_ble_eq_true rfl) dX9_rank_72 ⟨Nat.le_of_ble_eq_true rfl, Nat.le_of_ble_eq_true rfl⟩ (fun H locs h => ?_)
      refine lv_lstore (lv' := [(8, .long q16.1), (7, .int ((a.1 + a.2.1) / 2)), (0, .ref (κ.2.1 0)), (1, .int k1), (2, .long k2), (4, .int a.1), (5, .int a.2.1), (6, .int a.2.2.1)]) C.ex C.by dX9_rank_75 hl (by decide) rfl (fun ls hl => ?_)
      refine lv_aload_n C.ex C.by dX9_rank_77 rfl (lv_at hl 2 rfl) ?_
      refine z_get (v := .ref (κ.2.1 4)) C h iwX9 0 (wC_at0 κ _) rfl 1 (by decide) lkC1 rfl dX9_rank_78 ?_
      refine lv_lload C.ex C.by dX9_rank_81 (lv_at hl 0 rfl) ?_
      refine lv_lload_n C.ex C.by dX9_rank_83 rfl (lv_at hl 4 rfl) ?_
      obtain ⟨q18, e19, hf⟩ := zb_some hf
      refine z_callVi (As := [.long q16.1, .long k2]) C h (ctX5_isBeforeInFirstKey e19) (zgV lkC439 lkC440 lkC441 lkC74 lkC442) ⟨rfl, rfl⟩ hdX5_isBeforeInFirstKey ⟨Nat.le_of_ble_eq_true rfl, Nat.le_of_ble_eq_true rfl⟩ 4 (wC_at4 κ _) rfl hl rfl rfl (Nat.le_of_ble_eq_true rfl) dX9_rank_84 ⟨Nat.le_of_ble_eq_true rfl, Nat.le_of_ble_eq_true rfl⟩ (fun H locs h => ?_)
      refine lv_if_eq (tgt := 99) C.ex C.by dX9_rank_87 (by decide) (fun c20 => ?_) (fun c20 => ?_)
      · have hf := zif_t c20 hf
        refine lv_iload C.ex C.by dX9_rank_99 (lv_at hl 1 rfl) ?_
        refine lv_istore (lv' := [(5, .int ((a.1 + a.2.1) / 2)), (8, .long q16.1), (7, .int ((a.1 + a.2.1) / 2)), (0, .ref (κ.2.1 0)), (1, .int k1), (2, .long k2), (4, .int a.1), (6, .int a.2.2.1)]) C.ex C.by dX9_rank_101 hl (by decide) rfl (fun ls hl => ?_)
        exact wX9_rank_L33_103 CX h (lv_sub hl [3, 4, 5, 6, 0, 7] rfl) hf Kc Ke0
      · have hf := zif_f c20 hf
        refine lv_iload C.ex C.by dX9_rank_90 (lv_at hl 1 rfl) ?_
        refine lv_iconst (v := 1) C.ex C.by dX9_rank_92 (by decide) ?_
        refine lv_iadd C.ex C.by dX9_rank_93 ?_
        refine lv_istore (lv' := [(4, .int (((a.1 + a.2.1) / 2) + 1)), (8, .long q16.1), (7, .int ((a.1 + a.2.1) / 2)), (0, .ref (κ.2.1 0)), (1, .int k1), (2, .long k2), (5, .int a.2.1), (6, .int a.2.2.1)]) C.ex C.by dX9_rank_94 hl (by decide) rfl (fun ls hl => ?_)
        refine lv_goto (tgt := 103) C.ex C.by dX9_rank_96 (by decide) ?_
        exact wX9_rank_L33_103 CX h (lv_sub hl [3, 4, 5, 0, 6, 7] rfl) hf Kc Ke0
theorem wlX9_rank_33 {p : Program} {l : Launch} {e : Env} {s : State} {m : MethodId} {args : Array Value} {below : List Frame} {meth : Method} {c : Code} {A : Nat → Prop} {κ : zG} {H : Heap} {locs : List Loc} {ls : Array Slot} {Q : State → Prop} {n : Nat} {k1 : Int32} {k2 : Int64} {k0 : Nat} {u4 : Int32} {u5 : Int32} {u6 : Int32} {σ1 : zS} (CX : zCX cX9_rank 10 (some .int) RX9 κ A p l s m args meth c) (h : zH wC κ A s σ1 H locs) (hl : lv_has ls 10 [(0, .ref (κ.2.1 0)), (1, .int k1), (2, .long k2), (4, .int u4), (5, .int u5), (6, .int u6)]) (b : Int32 × zS) (hb : zlp (fX9_rank_L33_33 n (κ.2.2.2 0) (κ.2.2.2 1) (κ.2.2.2 2) k1 k2) k0 (u4, u5, u6, σ1) = some b) (K : (fun b : Int32 × zS => ∀ (H : Heap) (locs : List Loc) (ls : Array Slot), zH wC κ A s b.2 H locs → lv_has ls 10 [(0, .ref (κ.2.1 0)), (4, .int b.1)] → W p l e rmX9_rank s m args below meth c H locs 2 (6 * 2) Q (F0 m 109 ls [])) b) : W p l e rmX9_rank s m args below meth c H locs 2 (6 * 2) Q (F0 m 33 ls []) :=
  z_loop (body := fX9_rank_L33_33 n (κ.2.2.2 0) (κ.2.2.2 1) (κ.2.2.2 2) k1 k2) (Wd := (fun a : Int32 × Int32 × Int32 × zS => ∀ (H : Heap) (locs : List Loc) (ls : Array Slot), zH wC κ A s a.2.2.2 H locs → lv_has ls 10 [(0, .ref (κ.2.1 0)), (1, .int k1), (2, .long k2), (4, .int a.1), (5, .int a.2.1), (6, .int a.2.2.1)] → W p l e rmX9_rank s m args below meth c H locs 2 (6 * 2) Q (F0 m 33 ls []))) (Ex := (fun b : Int32 × zS => (fun b : Int32 × zS => ∀ (H : Heap) (locs : List Loc) (ls : Array Slot), zH wC κ A s b.2 H locs → lv_has ls 10 [(0, .ref (κ.2.1 0)), (4, .int b.1)] → W p l e rmX9_rank s m args below meth c H locs 2 (6 * 2) Q (F0 m 109 ls [])) b)) (fun a r hr Kc Ke H locs ls h hl => wX9_rank_L33_33 CX h hl hr (fun v4 v5 v6 σ1 e => Kc (v4, v5, v6, σ1) e) (fun v4 σ1 e => Ke (v4, σ1) e)) k0 (u4, u5, u6, σ1) b hb K H locs ls h hl
set_option maxRecDepth 20000 in
set_option maxHeartbeats 4000000 in
theorem wX9_rank_0 {p : Program} {l : Launch} {e : Env} {s : State} {m : MethodId} {args : Array Value} {below : List Frame} {meth : Method} {c : Code} {A : Nat → Prop} {κ : zG} {H : Heap} {locs : List Loc} {ls : Array Slot} {n : Nat} {σ : zS} {x1 : Int32} {x2 : Int64} {r1 : String ⊕ Int32} {r2 : zS} (CX : zCX cX9_rank 10 (some .int) RX9 κ A p l s m args meth c) (h : zH wC κ A s σ H locs) (hl : lv_has ls 10 [(0, .ref (κ.2.1 0)), (1, .int x1), (2, .long x2)]) (hf : fX9_rank_0 n (κ.2.2.2 0) (κ.2.2.2 1) (κ.2.2.2 2) σ x1 x2 = some (r1, r2)) : W p l e rmX9_rank s m args below meth c H locs 0 (6 * 0) (vx_MQ below (zQti wC κ A r1 r2) (zXc wC κ A r1 r2) args s 2 (6 * 2) A) (F0 m 0 ls []) := by
  unfold fX9_rank_0 at hf
  have C := CX.1
  refine lv_aload_n C.ex C.by dX9_rank_0 rfl (lv_at hl 0 rfl) ?_
  refine lv_iload_n C.ex C.by dX9_rank_1 rfl (lv_at hl 1 rfl) ?_
  obtain ⟨q1, e2, hf⟩ := zb_some hf
  rcases q1 with E | q1
  · dsimp only [Sum.elim_inl] at hf
    cases hf
    exact z_callTv_x (k := 0) (mc' := 1) (As := [.int x1]) CX h (ctX9_needRun CX.2.1 e2) (zgV lkC427 lkC428 lkC429 lkC99 lkC430) ⟨rfl, rfl⟩ hdX9_needRun ⟨Nat.le_of_ble_eq_true rfl, Nat.le_of_ble_eq_true rfl⟩ 0 (wC_at0 κ _) rfl hl rfl rfl (Nat.le_of_ble_eq_true rfl) dX9_rank_2 ⟨Nat.le_of_ble_eq_true rfl, Nat.le_of_ble_eq_true rfl⟩ (by decide)
  · dsimp only [Sum.elim_inr] at hf
    refine z_callTv (k := 0) (mc' := 1) (As := [.int x1]) CX h (ctX9_needRun CX.2.1 e2) (zgV lkC427 lkC428 lkC429 lkC99 lkC430) ⟨rfl, rfl⟩ hdX9_needRun ⟨Nat.le_of_ble_eq_true rfl, Nat.le_of_ble_eq_true rfl⟩ 0 (wC_at0 κ _) rfl hl rfl rfl (Nat.le_of_ble_eq_true rfl) dX9_rank_2 ⟨Nat.le_of_ble_eq_true rfl, Nat.le_of_ble_eq_true rfl⟩ (fun H locs h => ?_)
    refine W.widen (k := 1) (n := 6 * 1) (by decide) (by decide) ?_
    refine lv_aload_n C.ex C.by dX9_rank_5 rfl (lv_at hl 0 rfl) ?_
    obtain ⟨q3, e4, hf⟩ := zb_some hf
    rcases q3 with E | q3
    · dsimp only [Sum.elim_inl] at hf
      cases hf
      exact z_callTv_x (k := 1) (mc' := 1) (As := []) CX h (ctX9_needPower CX.2.1 e4) (zgV lkC338 lkC339 lkC340 lkC99 lkC341) ⟨rfl, rfl⟩ hdX9_needPower ⟨Nat.le_of_ble_eq_true rfl, Nat.le_of_ble_eq_true rfl⟩ 0 (wC_at0 κ _) rfl hl rfl rfl (Nat.le_of_ble_eq_true rfl) dX9_rank_6 ⟨Nat.le_of_ble_eq_true rfl, Nat.le_of_ble_eq_true rfl⟩ (by decide)
    · dsimp only [Sum.elim_inr] at hf
      refine z_callTv (k := 1) (mc' := 1) (As := []) CX h (ctX9_needPower CX.2.1 e4) (zgV lkC338 lkC339 lkC340 lkC99 lkC341) ⟨rfl, rfl⟩ hdX9_needPower ⟨Nat.le_of_ble_eq_true rfl, Nat.le_of_ble_eq_true rfl⟩ 0 (wC_at0 κ _) rfl hl rfl rfl (Nat.le_of_ble_eq_true rfl) dX9_rank_6 ⟨Nat.le_of_ble_eq_true rfl, Nat.le_of_ble_eq_true rfl⟩ (fun H locs h => ?_)
      refine W.widen (k := 2) (n := 6 * 2) (by decide) (by decide) ?_
      refine lv_iconst (v := 0) C.ex C.by dX9_rank_9 (by decide) ?_
      refine lv_istore (lv' := [(4, .int 0), (0, .ref (κ.2.1 0)), (1, .int x1), (2, .long x2)]) C.ex C.by dX9_rank_10 hl (by decide) rfl (fun ls hl => ?_)
      refine lv_aload_n C.ex C.by dX9_rank_12 rfl (lv_at hl 1 rfl) ?_
      refine z_get (v := .ref (κ.2.1 7)) C h iwX9 0 (wC_at0 κ _) rfl 2 (by decide) lkC6 rfl dX9_rank_13 ?_
      refine lv_aload_n C.ex C.by dX9_rank_16 rfl (lv_at hl 1 rfl) ?_
      refine z_get (v := .ref (κ.2.1 33)) C h iwX9 0 (wC_at0 κ _) rfl 8 (by decide) lkC180 rfl dX9_rank_17 ?_
      refine lv_iload_n C.ex C.by dX9_rank_20 rfl (lv_at hl 2 rfl) ?_
      obtain ⟨q5, e6, hf⟩ := zb_some hf
      refine z_callRi (As := [.int x1]) (x := (zI σ 32)) (f := (zA σ 16)) C h (ctX6_get (κ := zκR κ (κ.2.1 33) (κ.2.1 34) (κ.2.2.2 0)) e6) (zgV lkC193 lkC50 lkC51 lkC52 lkC53) ⟨rfl, rfl⟩ hdX6_get ⟨Nat.le_of_ble_eq_true rfl, Nat.le_of_ble_eq_true rfl⟩ 33 34 (by decide) (wC_at33 κ _) (wC_at34 κ _) σ (zset2 (wC_at33 κ _) (wC_at34 κ _)) hl rfl rfl (Nat.le_of_ble_eq_true rfl) dX9_rank_21 ⟨Nat.le_of_ble_eq_true rfl, Nat.le_of_ble_eq_true rfl⟩ (fun H locs h => ?_)
      obtain ⟨q7, e8, hf⟩ := zb_some hf
      refine z_callVi (As := [.int q5]) C h (ctX1_heldBy e8) (zgV lkC271 lkC220 lkC221 lkC11 lkC222) ⟨rfl, rfl⟩ hdX1_heldBy ⟨Nat.le_of_ble_eq_true rfl, Nat.le_of_ble_eq_true rfl⟩ 7 (wC_at7 κ _) rfl hl rfl rfl (Nat.le_of_ble_eq_true rfl) dX9_rank_24 ⟨Nat.le_of_ble_eq_true rfl, Nat.le_of_ble_eq_true rfl⟩ (fun H locs h => ?_)
      refine lv_istore (lv' := [(5, .int q7), (4, .int 0), (0, .ref (κ.2.1 0)), (1, .int x1), (2, .long x2)]) C.ex C.by dX9_rank_27 hl (by decide) rfl (fun ls hl => ?_)
      refine lv_iload C.ex C.by dX9_rank_29 (lv_at hl 0 rfl) ?_
      refine lv_istore (lv' := [(6, .int q7), (5, .int q7), (4, .int 0), (0, .ref (κ.2.1 0)), (1, .int x1), (2, .long x2)]) C.ex C.by dX9_rank_31 hl (by decide) rfl (fun ls hl => ?_)
      obtain ⟨b21, e22, hf⟩ := zb_some hf
      refine wlX9_rank_33 CX h (lv_sub hl [3, 4, 5, 2, 1, 0] rfl) b21 e22 ?_
      intro H locs ls h hl
      refine lv_iload C.ex C.by dX9_rank_109 (lv_at hl 1 rfl) ?_
      cases hf
      exact z_tiret (k := 2) CX h (by decide) dX9_rank_111
theorem ctX9_rank {l : Launch} {κ : zG} {n : Nat} {σ : zS} {x1 : Int32} {x2 : Int64} {r1 : String ⊕ Int32} {r2 : zS} (hl9 : l.stackTraces = false) (hf : fX9_rank_0 n (κ.2.2.2 0) (κ.2.2.2 1) (κ.2.2.2 2) σ x1 x2 = some (r1, r2)) : zTi l yX9_rank (Cond.code yX9_rank cX9_rank 10 (some .int)) rmX9_rank wC κ [.ref (κ.2.1 0), .int x1, .long x2] σ 2 r1 r2 :=
  zbodyX (Qz := fun A => zQti wC κ A r1 r2) (Xz := fun A => zXc wC κ A r1 r2) (by decide) (Nat.le_of_ble_eq_true rfl) hl9 (fun p e s m below meth c A C h ls hl => wX9_rank_0 C h hl hf)
theorem hdX9_drop : yX9_drop.cls = RX9 ∧ yX9_drop.cls ≠ "java/lang/invoke/MethodHandle" ∧ yX9_drop.cls ≠ "java/lang/invoke/VarHandle" ∧ (parseMethodDescriptor yX9_drop.desc).map (fun d => d.parameters.length) = some 1 := by decide +kernel
abbrev rmX9_drop : Room := { frames := 7, cells := 2, slots := 12, locals := 103 }
set_option maxRecDepth 20000 in
set_option maxHeartbeats 4000000 in
theorem wX9_drop_0 {p : Program} {l : Launch} {e : Env} {s : State} {m : MethodId} {args : Array Value} {below : List Frame} {meth : Method} {c : Code} {A : Nat → Prop} {κ : zG} {H : Heap} {locs : List Loc} {ls : Array Slot} {n : Nat} {σ : zS} {x1 : Int32} {r1 : String ⊕ Int32} {r2 : zS} (CX : zCX cX9_drop 2 (some .int) RX9 κ A p l s m args meth c) (h : zH wC κ A s σ H locs) (hl : lv_has ls 2 [(0, .ref (κ.2.1 0)), (1, .int x1)]) (hf : fX9_drop_0 n (κ.2.2.2 0) (κ.2.2.2 1) (κ.2.2.2 2) σ x1 = some (r1, r2)) : W p l e rmX9_drop s m args below meth c H locs 0 (6 * 0) (vx_MQ below (zQti wC κ A r1 r2) (zXc wC κ A r1 r2) args s 2 (6 * 2) A) (F0 m 0 ls []) := by
  unfold fX9_drop_0 at hf
  have C := CX.1
  refine lv_aload_n C.ex C.by dX9_drop_0 rfl (lv_at hl 0 rfl) ?_
  refine lv_iload_n C.ex C.by dX9_drop_1 rfl (lv_at hl 1 rfl) ?_
  obtain ⟨q1, e2, hf⟩ := zb_some hf
  rcases q1 with E | q1
  · dsimp only [Sum.elim_inl] at hf
    cases hf
    exact z_callTv_x (k := 0) (mc' := 1) (As := [.int x1]) CX h (ctX9_needRun CX.2.1 e2) (zgV lkC427 lkC428 lkC429 lkC99 lkC430) ⟨rfl, rfl⟩ hdX9_needRun ⟨Nat.le_of_ble_eq_true rfl, Nat.le_of_ble_eq_true rfl⟩ 0 (wC_at0 κ _) rfl hl rfl rfl (Nat.le_of_ble_eq_true rfl) dX9_drop_2 ⟨Nat.le_of_ble_eq_true rfl, Nat.le_of_ble_eq_true rfl⟩ (by decide)
  · dsimp only [Sum.elim_inr] at hf
    refine z_callTv (k := 0) (mc' := 1) (As := [.int x1]) CX h (ctX9_needRun CX.2.1 e2) (zgV lkC427 lkC428 lkC429 lkC99 lkC430) ⟨rfl, rfl⟩ hdX9_needRun ⟨Nat.le_of_ble_eq_true rfl, Nat.le_of_ble_eq_true rfl⟩ 0 (wC_at0 κ _) rfl hl rfl rfl (Nat.le_of_ble_eq_true rfl) dX9_drop_2 ⟨Nat.le_of_ble_eq_true rfl, Nat.le_of_ble_eq_true rfl⟩ (fun H locs h => ?_)
    refine W.widen (k := 1) (n := 6 * 1) (by decide) (by decide) ?_
    refine lv_aload_n C.ex C.by dX9_drop_5 rfl (lv_at hl 0 rfl) ?_
    obtain ⟨q3, e4, hf⟩ := zb_some hf
    rcases q3 with E | q3
    · dsimp only [Sum.elim_inl] at hf
      cases hf
      exact z_callTv_x (k := 1) (mc' := 1) (As := []) CX h (ctX9_needPower CX.2.1 e4) (zgV lkC338 lkC339 lkC340 lkC99 lkC341) ⟨rfl, rfl⟩ hdX9_needPower ⟨Nat.le_of_ble_eq_true rfl, Nat.le_of_ble_eq_true rfl⟩ 0 (wC_at0 κ _) rfl hl rfl rfl (Nat.le_of_ble_eq_true rfl) dX9_drop_6 ⟨Nat.le_of_ble_eq_true rfl, Nat.le_of_ble_eq_true rfl⟩ (by decide)
    · dsimp only [Sum.elim_inr] at hf
      refine z_callTv (k := 1) (mc' := 1) (As := []) CX h (ctX9_needPower CX.2.1 e4) (zgV lkC338 lkC339 lkC340 lkC99 lkC341) ⟨rfl, rfl⟩ hdX9_needPower ⟨Nat.le_of_ble_eq_true rfl, Nat.le_of_ble_eq_true rfl⟩ 0 (wC_at0 κ _) rfl hl rfl rfl (Nat.le_of_ble_eq_true rfl) dX9_drop_6 ⟨Nat.le_of_ble_eq_true rfl, Nat.le_of_ble_eq_true rfl⟩ (fun H locs h => ?_)
      refine W.widen (k := 2) (n := 6 * 2) (by decide) (by decide) ?_
      refine lv_aload_n C.ex C.by dX9_drop_9 rfl (lv_at hl 0 rfl) ?_
      refine z_get (v := .ref (κ.2.1 7)) C h iwX9 0 (wC_at0 κ _) rfl 2 (by decide) lkC6 rfl dX9_drop_10 ?_
      refine lv_aload_n C.ex C.by dX9_drop_13 rfl (lv_at hl 0 rfl) ?_
      refine z_get (v := .ref (κ.2.1 33)) C h iwX9 0 (wC_at0 κ _) rfl 8 (by decide) lkC180 rfl dX9_drop_14 ?_
      refine lv_iload_n C.ex C.by dX9_drop_17 rfl (lv_at hl 1 rfl) ?_
      obtain ⟨q5, e6, hf⟩ := zb_some hf
      refine z_callRi (As := [.int x1]) (x := (zI σ 32)) (f := (zA σ 16)) C h (ctX6_get (κ := zκR κ (κ.2.1 33) (κ.2.1 34) (κ.2.2.2 0)) e6) (zgV lkC193 lkC50 lkC51 lkC52 lkC53) ⟨rfl, rfl⟩ hdX6_get ⟨Nat.le_of_ble_eq_true rfl, Nat.le_of_ble_eq_true rfl⟩ 33 34 (by decide) (wC_at33 κ _) (wC_at34 κ _) σ (zset2 (wC_at33 κ _) (wC_at34 κ _)) hl rfl rfl (Nat.le_of_ble_eq_true rfl) dX9_drop_18 ⟨Nat.le_of_ble_eq_true rfl, Nat.le_of_ble_eq_true rfl⟩ (fun H locs h => ?_)
      obtain ⟨q7, e8, hf⟩ := zb_some hf
      refine z_callVv (As := [.int q5]) C h (ctX1_remove e8) (zgV lkC443 lkC248 lkC249 lkC11 lkC250) ⟨rfl, rfl⟩ hdX1_remove ⟨Nat.le_of_ble_eq_true rfl, Nat.le_of_ble_eq_true rfl⟩ 7 (wC_at7 κ _) rfl hl rfl rfl (Nat.le_of_ble_eq_true rfl) dX9_drop_21 ⟨Nat.le_of_ble_eq_true rfl, Nat.le_of_ble_eq_true rfl⟩ (fun H locs h => ?_)
      refine lv_aload_n C.ex C.by dX9_drop_24 rfl (lv_at hl 0 rfl) ?_
      refine z_get (v := .ref (κ.2.1 33)) C h iwX9 0 (wC_at0 κ _) rfl 8 (by decide) lkC180 rfl dX9_drop_25 ?_
      refine lv_iload_n C.ex C.by dX9_drop_28 rfl (lv_at hl 1 rfl) ?_
      obtain ⟨q9, e10, hf⟩ := zb_some hf
      refine z_callRv (As := [.int x1]) (x := (zI q7 32)) (f := (zA q7 16)) C h (ctX6_removeAt (κ := zκR κ (κ.2.1 33) (κ.2.1 34) (κ.2.2.2 0)) e10) (zgV lkC266 lkC267 lkC268 lkC52 lkC269) ⟨rfl, rfl⟩ hdX6_removeAt ⟨Nat.le_of_ble_eq_true rfl, Nat.le_of_ble_eq_true rfl⟩ 33 34 (by decide) (wC_at33 κ _) (wC_at34 κ _) (sA (sI q7 32 (zI q9 0)) 16 (zA q9 0)) (wC_sr33 κ _ _ _) hl rfl rfl (Nat.le_of_ble_eq_true rfl) dX9_drop_29 ⟨Nat.le_of_ble_eq_true rfl, Nat.le_of_ble_eq_true rfl⟩ (fun H locs h => ?_)
      refine lv_aload_n C.ex C.by dX9_drop_32 rfl (lv_at hl 0 rfl) ?_
      refine z_get (v := .ref (κ.2.1 33)) C h iwX9 0 (wC_at0 κ _) rfl 8 (by decide) lkC180 rfl dX9_drop_33 ?_
      obtain ⟨q11, e12, hf⟩ := zb_some hf
      refine z_callRi (As := []) (x := (zI q9 0)) (f := (zA q9 0)) C h (ctX6_size (κ := zκR κ (κ.2.1 33) (κ.2.1 34) (κ.2.2.2 0)) e12) (zgV lkC181 lkC182 lkC183 lkC52 lkC184) ⟨rfl, rfl⟩ hdX6_size ⟨Nat.le_of_ble_eq_true rfl, Nat.le_of_ble_eq_true rfl⟩ 33 34 (by decide) (wC_at33 κ _) (wC_at34 κ _) (sA (sI q7 32 (zI q9 0)) 16 (zA q9 0)) (zset2 (wC_at33 κ _) (wC_at34 κ _)) hl rfl rfl (Nat.le_of_ble_eq_true rfl) dX9_drop_36 ⟨Nat.le_of_ble_eq_true rfl, Nat.le_of_ble_eq_true rfl⟩ (fun H locs h => ?_)
      cases hf
      exact z_tiret (k := 2) CX h (by decide) dX9_drop_39
theorem ctX9_drop {l : Launch} {κ : zG} {n : Nat} {σ : zS} {x1 : Int32} {r1 : String ⊕ Int32} {r2 : zS} (hl9 : l.stackTraces = false) (hf : fX9_drop_0 n (κ.2.2.2 0) (κ.2.2.2 1) (κ.2.2.2 2) σ x1 = some (r1, r2)) : zTi l yX9_drop (Cond.code yX9_drop cX9_drop 2 (some .int)) rmX9_drop wC κ [.ref (κ.2.1 0), .int x1] σ 2 r1 r2 :=
  zbodyX (Qz := fun A => zQti wC κ A r1 r2) (Xz := fun A => zXc wC κ A r1 r2) (by decide) (Nat.le_of_ble_eq_true rfl) hl9 (fun p e s m below meth c A C h ls hl => wX9_drop_0 C h hl hf)
theorem hdX9_count : yX9_count.cls = RX9 ∧ yX9_count.cls ≠ "java/lang/invoke/MethodHandle" ∧ yX9_count.cls ≠ "java/lang/invoke/VarHandle" ∧ (parseMethodDescriptor yX9_count.desc).map (fun d => d.parameters.length) = some 1 := by decide +kernel
abbrev rmX9_count : Room := { frames := 6, cells := 1, slots := 6, locals := 82 }
set_option maxRecDepth 20000 in
set_option maxHeartbeats 4000000 in
theorem wX9_count_0 {p : Program} {l : Launch} {e : Env} {s : State} {m : MethodId} {args : Array Value} {below : List Frame} {meth : Method} {c : Code} {A : Nat → Prop} {κ : zG} {H : Heap} {locs : List Loc} {ls : Array Slot} {n : Nat} {σ : zS} {x1 : Int32} {r : (String ⊕ Int32)} (CX : zCX cX9_count 2 (some .int) RX9 κ A p l s m args meth c) (h : zH wC κ A s σ H locs) (hl : lv_has ls 2 [(0, .ref (κ.2.1 0)), (1, .int x1)]) (hf : fX9_count_0 n (κ.2.2.2 0) (κ.2.2.2 1) (κ.2.2.2 2) σ x1 = some r) : W p l e rmX9_count s m args below meth c H locs 0 (6 * 0) (vx_MQ below (zQti wC κ A r σ) (zXc wC κ A r σ) args s 1 (6 * 1) A) (F0 m 0 ls []) := by
  unfold fX9_count_0 at hf
  have C := CX.1
  refine lv_iload_n C.ex C.by dX9_count_0 rfl (lv_at hl 1 rfl) ?_
  by_cases c1 : x1 = 0
  · have hf := zif_t c1 hf
    refine lv_tableIn (off := 63) (tgt := 64) C.ex C.by dX9_count_1 (by rw [c1]; decide) (by rw [c1]; decide) (by rw [c1]; decide) (by decide) ?_
    refine lv_aload_n C.ex C.by dX9_count_64 rfl (lv_at hl 0 rfl) ?_
    refine z_get (v := .ref (κ.2.1 1)) C h iwX9 0 (wC_at0 κ _) rfl 0 (by decide) lkC17 rfl dX9_count_65 ?_
    refine z_getN (v := .int (zI σ 2)) C h iwX0 1 (wC_at1 κ _) rfl 3 (by decide) nkC23 rfl dX9_count_68 ?_
    cases hf
    exact z_tiret (k := 0) CX h (by decide) dX9_count_71
  have hf := zif_f c1 hf
  by_cases c2 : x1 = 1
  · have hf := zif_t c2 hf
    refine lv_tableIn (off := 71) (tgt := 72) C.ex C.by dX9_count_1 (by rw [c2]; decide) (by rw [c2]; decide) (by rw [c2]; decide) (by decide) ?_
    refine lv_aload_n C.ex C.by dX9_count_72 rfl (lv_at hl 0 rfl) ?_
    refine z_get (v := .ref (κ.2.1 1)) C h iwX9 0 (wC_at0 κ _) rfl 0 (by decide) lkC17 rfl dX9_count_73 ?_
    refine z_getN (v := .int (zI σ 3)) C h iwX0 1 (wC_at1 κ _) rfl 4 (by decide) nkC24 rfl dX9_count_76 ?_
    cases hf
    exact z_tiret (k := 0) CX h (by decide) dX9_count_79
  have hf := zif_f c2 hf
  by_cases c3 : x1 = 2
  · have hf := zif_t c3 hf
    refine lv_tableIn (off := 79) (tgt := 80) C.ex C.by dX9_count_1 (by rw [c3]; decide) (by rw [c3]; decide) (by rw [c3]; decide) (by decide) ?_
    refine lv_aload_n C.ex C.by dX9_count_80 rfl (lv_at hl 0 rfl) ?_
    refine z_get (v := .ref (κ.2.1 1)) C h iwX9 0 (wC_at0 κ _) rfl 0 (by decide) lkC17 rfl dX9_count_81 ?_
    refine z_getN (v := .int (zI σ 4)) C h iwX0 1 (wC_at1 κ _) rfl 5 (by decide) nkC25 rfl dX9_count_84 ?_
    cases hf
    exact z_tiret (k := 0) CX h (by decide) dX9_count_87
  have hf := zif_f c3 hf
  by_cases c4 : x1 = 3
  · have hf := zif_t c4 hf
    refine lv_tableIn (off := 87) (tgt := 88) C.ex C.by dX9_count_1 (by rw [c4]; decide) (by rw [c4]; decide) (by rw [c4]; decide) (by decide) ?_
    refine lv_aload_n C.ex C.by dX9_count_88 rfl (lv_at hl 0 rfl) ?_
    refine z_get (v := .ref (κ.2.1 1)) C h iwX9 0 (wC_at0 κ _) rfl 0 (by decide) lkC17 rfl dX9_count_89 ?_
    refine z_getN (v := .int (zI σ 5)) C h iwX0 1 (wC_at1 κ _) rfl 6 (by decide) nkC1 rfl dX9_count_92 ?_
    cases hf
    exact z_tiret (k := 0) CX h (by decide) dX9_count_95
  have hf := zif_f c4 hf
  by_cases c5 : x1 = 4
  · have hf := zif_t c5 hf
    refine lv_tableIn (off := 95) (tgt := 96) C.ex C.by dX9_count_1 (by rw [c5]; decide) (by rw [c5]; decide) (by rw [c5]; decide) (by decide) ?_
    refine lv_aload_n C.ex C.by dX9_count_96 rfl (lv_at hl 0 rfl) ?_
    refine z_get (v := .ref (κ.2.1 1)) C h iwX9 0 (wC_at0 κ _) rfl 0 (by decide) lkC17 rfl dX9_count_97 ?_
    obtain ⟨q6, e7, hf⟩ := zb_some hf
    refine z_callVi (As := []) C h (ctX0_freeBlocks e7) (zgV lkC444 lkC445 lkC446 lkC24 lkC447) ⟨rfl, rfl⟩ hdX0_freeBlocks ⟨Nat.le_of_ble_eq_true rfl, Nat.le_of_ble_eq_true rfl⟩ 1 (wC_at1 κ _) rfl hl rfl rfl (Nat.le_of_ble_eq_true rfl) dX9_count_100 ⟨Nat.le_of_ble_eq_true rfl, Nat.le_of_ble_eq_true rfl⟩ (fun H locs h => ?_)
    cases hf
    exact z_tiret (k := 0) CX h (by decide) dX9_count_103
  have hf := zif_f c5 hf
  by_cases c8 : x1 = 5
  · have hf := zif_t c8 hf
    refine lv_tableIn (off := 103) (tgt := 104) C.ex C.by dX9_count_1 (by rw [c8]; decide) (by rw [c8]; decide) (by rw [c8]; decide) (by decide) ?_
    refine lv_aload_n C.ex C.by dX9_count_104 rfl (lv_at hl 0 rfl) ?_
    refine z_get (v := .ref (κ.2.1 10)) C h iwX9 0 (wC_at0 κ _) rfl 3 (by decide) lkC42 rfl dX9_count_105 ?_
    refine z_getN (v := .int (zI σ 13)) C h iwX2 10 (wC_at10 κ _) rfl 5 (by decide) nkC26 rfl dX9_count_108 ?_
    cases hf
    exact z_tiret (k := 0) CX h (by decide) dX9_count_111
  have hf := zif_f c8 hf
  by_cases c9 : x1 = 6
  · have hf := zif_t c9 hf
    refine lv_tableIn (off := 111) (tgt := 112) C.ex C.by dX9_count_1 (by rw [c9]; decide) (by rw [c9]; decide) (by rw [c9]; decide) (by decide) ?_
    refine lv_aload_n C.ex C.by dX9_count_112 rfl (lv_at hl 0 rfl) ?_
    refine z_get (v := .ref (κ.2.1 4)) C h iwX9 0 (wC_at0 κ _) rfl 1 (by decide) lkC1 rfl dX9_count_113 ?_
    refine z_getN (v := .int (zI σ 11)) C h iwX5 4 (wC_at4 κ _) rfl 6 (by decide) nkC0 rfl dX9_count_116 ?_
    cases hf
    exact z_tiret (k := 0) CX h (by decide) dX9_count_119
  have hf := zif_f c9 hf
  by_cases c10 : x1 = 7
  · have hf := zif_t c10 hf
    refine lv_tableIn (off := 119) (tgt := 120) C.ex C.by dX9_count_1 (by rw [c10]; decide) (by rw [c10]; decide) (by rw [c10]; decide) (by decide) ?_
    refine lv_aload_n C.ex C.by dX9_count_120 rfl (lv_at hl 0 rfl) ?_
    refine z_get (v := .ref (κ.2.1 10)) C h iwX9 0 (wC_at0 κ _) rfl 3 (by decide) lkC42 rfl dX9_count_121 ?_
    refine z_getN (v := .int (zI σ 12)) C h iwX2 10 (wC_at10 κ _) rfl 4 (by decide) nkC27 rfl dX9_count_124 ?_
    cases hf
    exact z_tiret (k := 0) CX h (by decide) dX9_count_127
  have hf := zif_f c10 hf
  by_cases c11 : x1 = 8
  · have hf := zif_t c11 hf
    refine lv_tableIn (off := 127) (tgt := 128) C.ex C.by dX9_count_1 (by rw [c11]; decide) (by rw [c11]; decide) (by rw [c11]; decide) (by decide) ?_
    refine lv_aload_n C.ex C.by dX9_count_128 rfl (lv_at hl 0 rfl) ?_
    refine z_get (v := .ref (κ.2.1 4)) C h iwX9 0 (wC_at0 κ _) rfl 1 (by decide) lkC1 rfl dX9_count_129 ?_
    refine z_getN (v := .int (zI σ 8)) C h iwX5 4 (wC_at4 κ _) rfl 3 (by decide) nkC28 rfl dX9_count_132 ?_
    cases hf
    exact z_tiret (k := 0) CX h (by decide) dX9_count_135
  have hf := zif_f c11 hf
  by_cases c12 : x1 = 9
  · have hf := zif_t c12 hf
    refine lv_tableIn (off := 135) (tgt := 136) C.ex C.by dX9_count_1 (by rw [c12]; decide) (by rw [c12]; decide) (by rw [c12]; decide) (by decide) ?_
    refine lv_aload_n C.ex C.by dX9_count_136 rfl (lv_at hl 0 rfl) ?_
    refine z_get (v := .int (zI σ 0)) C h iwX9 0 (wC_at0 κ _) rfl 12 (by decide) lkC195 rfl dX9_count_137 ?_
    cases hf
    exact z_tiret (k := 0) CX h (by decide) dX9_count_140
  have hf := zif_f c12 hf
  by_cases c13 : x1 = 10
  · have hf := zif_t c13 hf
    refine lv_tableIn (off := 140) (tgt := 141) C.ex C.by dX9_count_1 (by rw [c13]; decide) (by rw [c13]; decide) (by rw [c13]; decide) (by decide) ?_
    refine lv_aload_n C.ex C.by dX9_count_141 rfl (lv_at hl 0 rfl) ?_
    refine z_get (v := .ref (κ.2.1 4)) C h iwX9 0 (wC_at0 κ _) rfl 1 (by decide) lkC1 rfl dX9_count_142 ?_
    refine z_getN (v := .int (zI σ 9)) C h iwX5 4 (wC_at4 κ _) rfl 4 (by decide) nkC21 rfl dX9_count_145 ?_
    cases hf
    exact z_tiret (k := 0) CX h (by decide) dX9_count_148
  have hf := zif_f c13 hf
  by_cases c14 : x1 = 11
  · have hf := zif_t c14 hf
    refine lv_tableIn (off := 148) (tgt := 149) C.ex C.by dX9_count_1 (by rw [c14]; decide) (by rw [c14]; decide) (by rw [c14]; decide) (by decide) ?_
    refine lv_aload_n C.ex C.by dX9_count_149 rfl (lv_at hl 0 rfl) ?_
    refine z_get (v := .ref (κ.2.1 1)) C h iwX9 0 (wC_at0 κ _) rfl 0 (by decide) lkC17 rfl dX9_count_150 ?_
    refine z_getN (v := .int (zI σ 7)) C h iwX0 1 (wC_at1 κ _) rfl 8 (by decide) nkC20 rfl dX9_count_153 ?_
    refine lv_if_eq (tgt := 163) C.ex C.by dX9_count_156 (by decide) (fun c15 => ?_) (fun c15 => ?_)
    · have hf := zif_t c15 hf
      refine lv_iconst (v := 0) C.ex C.by dX9_count_163 (by decide) ?_
      cases hf
      exact z_tiret (k := 0) CX h (by decide) dX9_count_164
    · have hf := zif_f c15 hf
      refine lv_iconst (v := 1) C.ex C.by dX9_count_159 (by decide) ?_
      refine lv_goto (tgt := 164) C.ex C.by dX9_count_160 (by decide) ?_
      cases hf
      exact z_tiret (k := 0) CX h (by decide) dX9_count_164
  have hf := zif_f c14 hf
  refine lv_tableOut (tgt := 165) C.ex C.by dX9_count_1 (zout (fun k hk1 hk2 => by rcases (show k = 0 ∨ k = 1 ∨ k = 2 ∨ k = 3 ∨ k = 4 ∨ k = 5 ∨ k = 6 ∨ k = 7 ∨ k = 8 ∨ k = 9 ∨ k = 10 ∨ k = 11 by omega) with rfl | rfl | rfl | rfl | rfl | rfl | rfl | rfl | rfl | rfl | rfl | rfl; exact lv_neT c1 (by decide); exact lv_neT c2 (by decide); exact lv_neT c3 (by decide); exact lv_neT c4 (by decide); exact lv_neT c5 (by decide); exact lv_neT c8 (by decide); exact lv_neT c9 (by decide); exact lv_neT c10 (by decide); exact lv_neT c11 (by decide); exact lv_neT c12 (by decide); exact lv_neT c13 (by decide); exact lv_neT c14 (by decide))) (by decide) ?_
  cases hf
  exact z_throwSW (k := 0) (text := "nothing of this number is counted") CX h (by decide) lkC347 lkC348 (by decide) (by decide) tg108 tb108 to108 hl dX9_count_165 dX9_count_168 dX9_count_169 dX9_count_172 dX9_count_175 ⟨Nat.le_of_ble_eq_true rfl, Nat.le_of_ble_eq_true rfl, Nat.le_of_ble_eq_true rfl, Nat.le_of_ble_eq_true rfl⟩ (by decide)
theorem ctX9_count {l : Launch} {κ : zG} {n : Nat} {σ : zS} {x1 : Int32} {r : (String ⊕ Int32)} (hl9 : l.stackTraces = false) (hf : fX9_count_0 n (κ.2.2.2 0) (κ.2.2.2 1) (κ.2.2.2 2) σ x1 = some r) : zTi l yX9_count (Cond.code yX9_count cX9_count 2 (some .int)) rmX9_count wC κ [.ref (κ.2.1 0), .int x1] σ 1 r σ :=
  zbodyX (Qz := fun A => zQti wC κ A r σ) (Xz := fun A => zXc wC κ A r σ) (by decide) (Nat.le_of_ble_eq_true rfl) hl9 (fun p e s m below meth c A C h ls hl => wX9_count_0 C h hl hf)
theorem hdX9_crash : yX9_crash.cls = RX9 ∧ yX9_crash.cls ≠ "java/lang/invoke/MethodHandle" ∧ yX9_crash.cls ≠ "java/lang/invoke/VarHandle" ∧ (parseMethodDescriptor yX9_crash.desc).map (fun d => d.parameters.length) = some 1 := by decide +kernel
abbrev rmX9_crash : Room := { frames := 7, cells := 1, slots := 6, locals := 102 }
set_option maxRecDepth 20000 in
set_option maxHeartbeats 4000000 in
theorem wX9_crash_12 {p : Program} {l : Launch} {e : Env} {s : State} {m : MethodId} {args : Array Value} {below : List Frame} {meth : Method} {c : Code} {A : Nat → Prop} {κ : zG} {H : Heap} {locs : List Loc} {ls : Array Slot} {n : Nat} {σ : zS} {r1 : String ⊕ Unit} {r2 : zS} (CX : zCX cX9_crash 2 none RX9 κ A p l s m args meth c) (h : zH wC κ A s σ H locs) (hl : lv_has ls 2 [(0, .ref (κ.2.1 0))]) (hf : fX9_crash_12 n (κ.2.2.2 0) (κ.2.2.2 1) (κ.2.2.2 2) σ = some (r1, r2)) : W p l e rmX9_crash s m args below meth c H locs 0 (6 * 0) (vx_MQ below (zQtv wC κ A r1 r2) (zXc wC κ A r1 r2) args s 1 (6 * 1) A) (F0 m 12 ls []) := by
  unfold fX9_crash_12 at hf
  have C := CX.1
  cases hf
  exact z_throwSW (k := 0) (text := "no such number of writes") CX h (by decide) lkC347 lkC348 (by decide) (by decide) tg108 tb108 to108 hl dX9_crash_12 dX9_crash_15 dX9_crash_16 dX9_crash_19 dX9_crash_22 ⟨Nat.le_of_ble_eq_true rfl, Nat.le_of_ble_eq_true rfl, Nat.le_of_ble_eq_true rfl, Nat.le_of_ble_eq_true rfl⟩ (by decide)
set_option maxRecDepth 20000 in
set_option maxHeartbeats 4000000 in
theorem wX9_crash_0 {p : Program} {l : Launch} {e : Env} {s : State} {m : MethodId} {args : Array Value} {below : List Frame} {meth : Method} {c : Code} {A : Nat → Prop} {κ : zG} {H : Heap} {locs : List Loc} {ls : Array Slot} {n : Nat} {σ : zS} {x1 : Int32} {r1 : String ⊕ Unit} {r2 : zS} (CX : zCX cX9_crash 2 none RX9 κ A p l s m args meth c) (h : zH wC κ A s σ H locs) (hl : lv_has ls 2 [(0, .ref (κ.2.1 0)), (1, .int x1)]) (hf : fX9_crash_0 n (κ.2.2.2 0) (κ.2.2.2 1) (κ.2.2.2 2) σ x1 = some (r1, r2)) : W p l e rmX9_crash s m args below meth c H locs 0 (6 * 0) (vx_MQ below (zQtv wC κ A r1 r2) (zXc wC κ A r1 r2) args s 1 (6 * 1) A) (F0 m 0 ls []) := by
  unfold fX9_crash_0 at hf
  have C := CX.1
  refine lv_iload_n C.ex C.by dX9_crash_0 rfl (lv_at hl 1 rfl) ?_
  refine lv_iconst (v := (-1)) C.ex C.by dX9_crash_1 (by decide) ?_
  refine lv_icmp_lt (tgt := 12) C.ex C.by dX9_crash_2 (by decide) (fun c1 => ?_) (fun c1 => ?_)
  · have hf := zif_t c1 hf
    exact wX9_crash_12 CX h (lv_sub hl [0] rfl) hf
  · have hf := zif_f c1 hf
    refine lv_iload_n C.ex C.by dX9_crash_5 rfl (lv_at hl 1 rfl) ?_
    refine lv_ldcw (v := 100000) C.ex C.by C.ow (C.ts _ lkC448) dX9_crash_6 ?_
    refine lv_icmp_le (tgt := 23) C.ex C.by dX9_crash_9 (by decide) (fun c2 => ?_) (fun c2 => ?_)
    · have hf := zif_t c2 hf
      refine lv_aload_n C.ex C.by dX9_crash_23 rfl (lv_at hl 0 rfl) ?_
      obtain ⟨q3, e4, hf⟩ := zb_some hf
      rcases q3 with E | q3
      · dsimp only [Sum.elim_inl] at hf
        cases hf
        exact z_callTv_x (k := 0) (mc' := 1) (As := []) CX h (ctX9_needPower CX.2.1 e4) (zgV lkC338 lkC339 lkC340 lkC99 lkC341) ⟨rfl, rfl⟩ hdX9_needPower ⟨Nat.le_of_ble_eq_true rfl, Nat.le_of_ble_eq_true rfl⟩ 0 (wC_at0 κ _) rfl hl rfl rfl (Nat.le_of_ble_eq_true rfl) dX9_crash_24 ⟨Nat.le_of_ble_eq_true rfl, Nat.le_of_ble_eq_true rfl⟩ (by decide)
      · dsimp only [Sum.elim_inr] at hf
        refine z_callTv (k := 0) (mc' := 1) (As := []) CX h (ctX9_needPower CX.2.1 e4) (zgV lkC338 lkC339 lkC340 lkC99 lkC341) ⟨rfl, rfl⟩ hdX9_needPower ⟨Nat.le_of_ble_eq_true rfl, Nat.le_of_ble_eq_true rfl⟩ 0 (wC_at0 κ _) rfl hl rfl rfl (Nat.le_of_ble_eq_true rfl) dX9_crash_24 ⟨Nat.le_of_ble_eq_true rfl, Nat.le_of_ble_eq_true rfl⟩ (fun H locs h => ?_)
        refine W.widen (k := 1) (n := 6 * 1) (by decide) (by decide) ?_
        refine lv_aload_n C.ex C.by dX9_crash_27 rfl (lv_at hl 0 rfl) ?_
        refine z_get (v := .ref (κ.2.1 1)) C h iwX9 0 (wC_at0 κ _) rfl 0 (by decide) lkC17 rfl dX9_crash_28 ?_
        refine lv_iload_n C.ex C.by dX9_crash_31 rfl (lv_at hl 1 rfl) ?_
        refine z_putN C h iwX0 tyX0_ok nmX0 1 (wC_at1 κ _) rfl 7 (by decide) nkC29 rfl rfl rfl (Nat.le_of_ble_eq_true rfl) (sI σ 6 x1) (wC_s1_7 κ _ _) dX9_crash_32 (fun H locs h => ?_)
        cases hf
        exact z_tvret (k := 1) CX h (by decide) dX9_crash_35
    · have hf := zif_f c2 hf
      exact wX9_crash_12 CX h (lv_sub hl [0] rfl) hf
theorem ctX9_crash {l : Launch} {κ : zG} {n : Nat} {σ : zS} {x1 : Int32} {r1 : String ⊕ Unit} {r2 : zS} (hl9 : l.stackTraces = false) (hf : fX9_crash_0 n (κ.2.2.2 0) (κ.2.2.2 1) (κ.2.2.2 2) σ x1 = some (r1, r2)) : zTv l yX9_crash (Cond.code yX9_crash cX9_crash 2 none) rmX9_crash wC κ [.ref (κ.2.1 0), .int x1] σ 1 r1 r2 :=
  zbodyX (Qz := fun A => zQtv wC κ A r1 r2) (Xz := fun A => zXc wC κ A r1 r2) (by decide) (Nat.le_of_ble_eq_true rfl) hl9 (fun p e s m below meth c A C h ls hl => wX9_crash_0 C h hl hf)
theorem hdX9_up : yX9_up.cls = RX9 ∧ yX9_up.cls ≠ "java/lang/invoke/MethodHandle" ∧ yX9_up.cls ≠ "java/lang/invoke/VarHandle" ∧ (parseMethodDescriptor yX9_up.desc).map (fun d => d.parameters.length) = some 0 := by decide +kernel
abbrev rmX9_up : Room := { frames := 6, cells := 1, slots := 6, locals := 82 }
set_option maxRecDepth 20000 in
set_option maxHeartbeats 4000000 in
theorem wX9_up_0 {p : Program} {l : Launch} {e : Env} {s : State} {m : MethodId} {args : Array Value} {below : List Frame} {meth : Method} {c : Code} {A : Nat → Prop} {κ : zG} {H : Heap} {locs : List Loc} {ls : Array Slot} {n : Nat} {σ : zS} {r1 : String ⊕ Int32} {r2 : zS} (CX : zCX cX9_up 1 (some .int) RX9 κ A p l s m args meth c) (h : zH wC κ A s σ H locs) (hl : lv_has ls 1 [(0, .ref (κ.2.1 0))]) (hf : fX9_up_0 n (κ.2.2.2 0) (κ.2.2.2 1) (κ.2.2.2 2) σ = some (r1, r2)) : W p l e rmX9_up s m args below meth c H locs 0 (6 * 0) (vx_MQ below (zQti wC κ A r1 r2) (zXc wC κ A r1 r2) args s 1 (6 * 1) A) (F0 m 0 ls []) := by
  unfold fX9_up_0 at hf
  have C := CX.1
  refine lv_aload_n C.ex C.by dX9_up_0 rfl (lv_at hl 0 rfl) ?_
  refine z_get (v := .ref (κ.2.1 1)) C h iwX9 0 (wC_at0 κ _) rfl 0 (by decide) lkC17 rfl dX9_up_1 ?_
  refine z_getN (v := .int (zI σ 7)) C h iwX0 1 (wC_at1 κ _) rfl 8 (by decide) nkC20 rfl dX9_up_4 ?_
  refine lv_if_ne (tgt := 21) C.ex C.by dX9_up_7 (by decide) (fun c1 => ?_) (fun c1 => ?_)
  · have hf := zif_f c1 hf
    refine lv_aload_n C.ex C.by dX9_up_21 rfl (lv_at hl 0 rfl) ?_
    refine z_get (v := .ref (κ.2.1 1)) C h iwX9 0 (wC_at0 κ _) rfl 0 (by decide) lkC17 rfl dX9_up_22 ?_
    refine lv_iconst (v := 0) C.ex C.by dX9_up_25 (by decide) ?_
    refine z_putN C h iwX0 tyX0_ok nmX0 1 (wC_at1 κ _) rfl 8 (by decide) nkC20 rfl rfl rfl (Nat.le_of_ble_eq_true rfl) (sI σ 7 0) (wC_s1_8 κ _ _) dX9_up_26 (fun H locs h => ?_)
    refine lv_aload_n C.ex C.by dX9_up_29 rfl (lv_at hl 0 rfl) ?_
    refine z_get (v := .ref (κ.2.1 1)) C h iwX9 0 (wC_at0 κ _) rfl 0 (by decide) lkC17 rfl dX9_up_30 ?_
    refine lv_iconst (v := (-1)) C.ex C.by dX9_up_33 (by decide) ?_
    refine z_putN C h iwX0 tyX0_ok nmX0 1 (wC_at1 κ _) rfl 7 (by decide) nkC29 rfl rfl rfl (Nat.le_of_ble_eq_true rfl) (sI (sI σ 7 0) 6 (-1)) (wC_s1_7 κ _ _) dX9_up_34 (fun H locs h => ?_)
    refine lv_aload_n C.ex C.by dX9_up_37 rfl (lv_at hl 0 rfl) ?_
    refine z_get (v := .ref (κ.2.1 33)) C h iwX9 0 (wC_at0 κ _) rfl 8 (by decide) lkC180 rfl dX9_up_38 ?_
    obtain ⟨q2, e3, hf⟩ := zb_some hf
    refine z_callRi (As := []) (x := (zI σ 32)) (f := (zA σ 16)) C h (ctX6_size (κ := zκR κ (κ.2.1 33) (κ.2.1 34) (κ.2.2.2 0)) e3) (zgV lkC181 lkC182 lkC183 lkC52 lkC184) ⟨rfl, rfl⟩ hdX6_size ⟨Nat.le_of_ble_eq_true rfl, Nat.le_of_ble_eq_true rfl⟩ 33 34 (by decide) (wC_at33 κ _) (wC_at34 κ _) (sI (sI σ 7 0) 6 (-1)) (zset2 (wC_at33 κ _) (wC_at34 κ _)) hl rfl rfl (Nat.le_of_ble_eq_true rfl) dX9_up_41 ⟨Nat.le_of_ble_eq_true rfl, Nat.le_of_ble_eq_true rfl⟩ (fun H locs h => ?_)
    cases hf
    exact z_tiret (k := 0) CX h (by decide) dX9_up_44
  · have hf := zif_t c1 hf
    cases hf
    exact z_throwSW (k := 0) (text := "it is not down") CX h (by decide) lkC336 lkC337 (by decide) (by decide) tg125 tb125 to125 hl dX9_up_10 dX9_up_13 dX9_up_14 dX9_up_17 dX9_up_20 ⟨Nat.le_of_ble_eq_true rfl, Nat.le_of_ble_eq_true rfl, Nat.le_of_ble_eq_true rfl, Nat.le_of_ble_eq_true rfl⟩ (by decide)
theorem ctX9_up {l : Launch} {κ : zG} {n : Nat} {σ : zS} {r1 : String ⊕ Int32} {r2 : zS} (hl9 : l.stackTraces = false) (hf : fX9_up_0 n (κ.2.2.2 0) (κ.2.2.2 1) (κ.2.2.2 2) σ = some (r1, r2)) : zTi l yX9_up (Cond.code yX9_up cX9_up 1 (some .int)) rmX9_up wC κ [.ref (κ.2.1 0)] σ 1 r1 r2 :=
  zbodyX (Qz := fun A => zQti wC κ A r1 r2) (Xz := fun A => zXc wC κ A r1 r2) (by decide) (Nat.le_of_ble_eq_true rfl) hl9 (fun p e s m below meth c A C h ls hl => wX9_up_0 C h hl hf)
theorem hdX9_poly : yX9_poly.cls = RX9 ∧ yX9_poly.cls ≠ "java/lang/invoke/MethodHandle" ∧ yX9_poly.cls ≠ "java/lang/invoke/VarHandle" ∧ (parseMethodDescriptor yX9_poly.desc).map (fun d => d.parameters.length) = some 1 := by decide +kernel
abbrev rmX9_poly : Room := { frames := 7, cells := 2, slots := 12, locals := 156 }
set_option maxRecDepth 20000 in
set_option maxHeartbeats 4000000 in
theorem wX9_poly_L47_71 {p : Program} {l : Launch} {e : Env} {s : State} {m : MethodId} {args : Array Value} {below : List Frame} {meth : Method} {c : Code} {A : Nat → Prop} {κ : zG} {H : Heap} {locs : List Loc} {ls : Array Slot} {Q : State → Prop} {n : Nat} {σ : zS} {x2 : Int32} {x3 : Int32} {r : (Int32 × Int32 × zS) ⊕ (Int32 × zS)} (CX : zCX cX9_poly 4 (some .int) RX9 κ A p l s m args meth c) (h : zH wC κ A s σ H locs) (hl : lv_has ls 4 [(0, .ref (κ.2.1 0)), (2, .int x2), (3, .int x3)]) (hf : fX9_poly_L47_71 n (κ.2.2.2 0) (κ.2.2.2 1) (κ.2.2.2 2) σ x2 x3 = some r) (Kc : ∀ (v2 : Int32) (v3 : Int32) (σ1 : zS), r = .inl (v2, v3, σ1) → ∀ (H : Heap) (locs : List Loc) (ls : Array Slot), zH wC κ A s σ1 H locs → lv_has ls 4 [(0, .ref (κ.2.1 0)), (2, .int v2), (3, .int v3)] → W p l e rmX9_poly s m args below meth c H locs 1 (6 * 1) Q (F0 m 47 ls [])) (Ke0 : ∀ (v2 : Int32) (σ1 : zS), r = .inr (v2, σ1) → ∀ (H : Heap) (locs : List Loc) (ls : Array Slot), zH wC κ A s σ1 H locs → lv_has ls 4 [(0, .ref (κ.2.1 0)), (2, .int v2)] → W p l e rmX9_poly s m args below meth c H locs 1 (6 * 1) Q (F0 m 77 ls [])) : W p l e rmX9_poly s m args below meth c H locs 1 (6 * 1) Q (F0 m 71 ls []) := by
  unfold fX9_poly_L47_71 at hf
  have C := CX.1
  refine lv_iinc (v := (x3 + (-1))) (lv' := [(3, .int (x3 + (-1))), (0, .ref (κ.2.1 0)), (2, .int x2)]) C.ex C.by dX9_poly_71 hl (k := 2) rfl rfl (by decide) rfl (fun ls hl => ?_)
  refine lv_goto (tgt := 47) C.ex C.by dX9_poly_74 (by decide) ?_
  exact Kc _ _ _ (Option.some.inj hf).symm _ _ _ h (lv_sub hl [1, 2, 0] rfl)
set_option maxRecDepth 20000 in
set_option maxHeartbeats 4000000 in
theorem wX9_poly_L47_47 {p : Program} {l : Launch} {e : Env} {s : State} {m : MethodId} {args : Array Value} {below : List Frame} {meth : Method} {c : Code} {A : Nat → Prop} {κ : zG} {H : Heap} {locs : List Loc} {ls : Array Slot} {Q : State → Prop} {n : Nat} {a : Int32 × Int32 × zS} {r : (Int32 × Int32 × zS) ⊕ (Int32 × zS)} (CX : zCX cX9_poly 4 (some .int) RX9 κ A p l s m args meth c) (h : zH wC κ A s a.2.2 H locs) (hl : lv_has ls 4 [(0, .ref (κ.2.1 0)), (2, .int a.1), (3, .int a.2.1)]) (hf : fX9_poly_L47_47 n (κ.2.2.2 0) (κ.2.2.2 1) (κ.2.2.2 2) a = some r) (Kc : ∀ (v2 : Int32) (v3 : Int32) (σ1 : zS), r = .inl (v2, v3, σ1) → ∀ (H : Heap) (locs : List Loc) (ls : Array Slot), zH wC κ A s σ1 H locs → lv_has ls 4 [(0, .ref (κ.2.1 0)), (2, .int v2), (3, .int v3)] → W p l e rmX9_poly s m args below meth c H locs 1 (6 * 1) Q (F0 m 47 ls [])) (Ke0 : ∀ (v2 : Int32) (σ1 : zS), r = .inr (v2, σ1) → ∀ (H : Heap) (locs : List Loc) (ls : Array Slot), zH wC κ A s σ1 H locs → lv_has ls 4 [(0, .ref (κ.2.1 0)), (2, .int v2)] → W p l e rmX9_poly s m args below meth c H locs 1 (6 * 1) Q (F0 m 77 ls [])) : W p l e rmX9_poly s m args below meth c H locs 1 (6 * 1) Q (F0 m 47 ls []) := by
  unfold fX9_poly_L47_47 at hf
  have C := CX.1
  refine lv_iload_n C.ex C.by dX9_poly_47 rfl (lv_at hl 2 rfl) ?_
  refine lv_if_le (tgt := 77) C.ex C.by dX9_poly_48 (by decide) (fun c7 => ?_) (fun c7 => ?_)
  · have hf := zif_t c7 hf
    exact Ke0 _ _ (Option.some.inj hf).symm _ _ _ h (lv_sub hl [0, 1] rfl)
  · have hf := zif_f c7 hf
    refine lv_iload_n C.ex C.by dX9_poly_51 rfl (lv_at hl 1 rfl) ?_
    refine lv_if_eq (tgt := 77) C.ex C.by dX9_poly_52 (by decide) (fun c8 => ?_) (fun c8 => ?_)
    · have hf := zif_t c8 hf
      exact Ke0 _ _ (Option.some.inj hf).symm _ _ _ h (lv_sub hl [0, 1] rfl)
    · have hf := zif_f c8 hf
      refine lv_aload_n C.ex C.by dX9_poly_55 rfl (lv_at hl 0 rfl) ?_
      obtain ⟨q9, e10, hf⟩ := zb_some hf
      refine z_callVi (As := []) C h (ctX9_mergeLevel (r1 := q9.1) (r2 := q9.2) e10) (zgV lkC453 lkC454 lkC455 lkC99 lkC456) ⟨rfl, rfl⟩ hdX9_mergeLevel ⟨Nat.le_of_ble_eq_true rfl, Nat.le_of_ble_eq_true rfl⟩ 0 (wC_at0 κ _) rfl hl rfl rfl (Nat.le_of_ble_eq_true rfl) dX9_poly_56 ⟨Nat.le_of_ble_eq_true rfl, Nat.le_of_ble_eq_true rfl⟩ (fun H locs h => ?_)
      refine lv_istore_n (lv' := [(2, .int q9.1), (0, .ref (κ.2.1 0)), (3, .int a.2.1)]) C.ex C.by dX9_poly_59 rfl hl (by decide) rfl (fun ls hl => ?_)
      refine lv_iload_n C.ex C.by dX9_poly_60 rfl (lv_at hl 0 rfl) ?_
      refine lv_if_eq (tgt := 71) C.ex C.by dX9_poly_61 (by decide) (fun c11 => ?_) (fun c11 => ?_)
      · have hf := zif_t c11 hf
        exact wX9_poly_L47_71 CX h (lv_sub hl [1, 0, 2] rfl) hf Kc Ke0
      · have hf := zif_f c11 hf
        refine lv_aload_n C.ex C.by dX9_poly_64 rfl (lv_at hl 1 rfl) ?_
        refine z_get (v := .ref (κ.2.1 29)) C h iwX9 0 (wC_at0 κ _) rfl 7 (by decide) lkC276 rfl dX9_poly_65 ?_
        obtain ⟨q12, e13, hf⟩ := zb_some hf
        refine z_callVv (As := []) C h (ctX8_goDown e13) (zgV lkC457 lkC458 lkC459 lkC282 lkC460) ⟨rfl, rfl⟩ hdX8_goDown ⟨Nat.le_of_ble_eq_true rfl, Nat.le_of_ble_eq_true rfl⟩ 29 (wC_at29 κ _) rfl hl rfl rfl (Nat.le_of_ble_eq_true rfl) dX9_poly_68 ⟨Nat.le_of_ble_eq_true rfl, Nat.le_of_ble_eq_true rfl⟩ (fun H locs h => ?_)
        exact wX9_poly_L47_71 CX h (lv_sub hl [1, 0, 2] rfl) hf Kc Ke0
theorem wlX9_poly_47 {p : Program} {l : Launch} {e : Env} {s : State} {m : MethodId} {args : Array Value} {below : List Frame} {meth : Method} {c : Code} {A : Nat → Prop} {κ : zG} {H : Heap} {locs : List Loc} {ls : Array Slot} {Q : State → Prop} {n : Nat} {k0 : Nat} {u2 : Int32} {u3 : Int32} {σ1 : zS} (CX : zCX cX9_poly 4 (some .int) RX9 κ A p l s m args meth c) (h : zH wC κ A s σ1 H locs) (hl : lv_has ls 4 [(0, .ref (κ.2.1 0)), (2, .int u2), (3, .int u3)]) (b : Int32 × zS) (hb : zlp (fX9_poly_L47_47 n (κ.2.2.2 0) (κ.2.2.2 1) (κ.2.2.2 2)) k0 (u2, u3, σ1) = some b) (K : (fun b : Int32 × zS => ∀ (H : Heap) (locs : List Loc) (ls : Array Slot), zH wC κ A s b.2 H locs → lv_has ls 4 [(0, .ref (κ.2.1 0)), (2, .int b.1)] → W p l e rmX9_poly s m args below meth c H locs 1 (6 * 1) Q (F0 m 77 ls [])) b) : W p l e rmX9_poly s m args below meth c H locs 1 (6 * 1) Q (F0 m 47 ls []) :=
  z_loop (body := fX9_poly_L47_47 n (κ.2.2.2 0) (κ.2.2.2 1) (κ.2.2.2 2)) (Wd := (fun a : Int32 × Int32 × zS => ∀ (H : Heap) (locs : List Loc) (ls : Array Slot), zH wC κ A s a.2.2 H locs → lv_has ls 4 [(0, .ref (κ.2.1 0)), (2, .int a.1), (3, .int a.2.1)] → W p l e rmX9_poly s m args below meth c H locs 1 (6 * 1) Q (F0 m 47 ls []))) (Ex := (fun b : Int32 × zS => (fun b : Int32 × zS => ∀ (H : Heap) (locs : List Loc) (ls : Array Slot), zH wC κ A s b.2 H locs → lv_has ls 4 [(0, .ref (κ.2.1 0)), (2, .int b.1)] → W p l e rmX9_poly s m args below meth c H locs 1 (6 * 1) Q (F0 m 77 ls [])) b)) (fun a r hr Kc Ke H locs ls h hl => wX9_poly_L47_47 CX h hl hr (fun v2 v3 σ1 e => Kc (v2, v3, σ1) e) (fun v2 σ1 e => Ke (v2, σ1) e)) k0 (u2, u3, σ1) b hb K H locs ls h hl
set_option maxRecDepth 20000 in
set_option maxHeartbeats 4000000 in
theorem wX9_poly_11 {p : Program} {l : Launch} {e : Env} {s : State} {m : MethodId} {args : Array Value} {below : List Frame} {meth : Method} {c : Code} {A : Nat → Prop} {κ : zG} {H : Heap} {locs : List Loc} {ls : Array Slot} {n : Nat} {σ : zS} {r1 : String ⊕ Int32} {r2 : zS} (CX : zCX cX9_poly 4 (some .int) RX9 κ A p l s m args meth c) (h : zH wC κ A s σ H locs) (hl : lv_has ls 4 [(0, .ref (κ.2.1 0))]) (hf : fX9_poly_11 n (κ.2.2.2 0) (κ.2.2.2 1) (κ.2.2.2 2) σ = some (r1, r2)) : W p l e rmX9_poly s m args below meth c H locs 0 (6 * 0) (vx_MQ below (zQti wC κ A r1 r2) (zXc wC κ A r1 r2) args s 2 (6 * 2) A) (F0 m 11 ls []) := by
  unfold fX9_poly_11 at hf
  have C := CX.1
  cases hf
  exact z_throwS (k := 0) (text := "there are 3 to 6 tapes") CX h (by decide) lkC347 lkC348 (by decide) (by decide) tg108 tb108 to108 hl dX9_poly_11 dX9_poly_14 dX9_poly_15 dX9_poly_17 dX9_poly_20 ⟨Nat.le_of_ble_eq_true rfl, Nat.le_of_ble_eq_true rfl, Nat.le_of_ble_eq_true rfl, Nat.le_of_ble_eq_true rfl⟩ (by decide)
set_option maxRecDepth 20000 in
set_option maxHeartbeats 4000000 in
theorem wX9_poly_0 {p : Program} {l : Launch} {e : Env} {s : State} {m : MethodId} {args : Array Value} {below : List Frame} {meth : Method} {c : Code} {A : Nat → Prop} {κ : zG} {H : Heap} {locs : List Loc} {ls : Array Slot} {n : Nat} {σ : zS} {x1 : Int32} {r1 : String ⊕ Int32} {r2 : zS} (CX : zCX cX9_poly 4 (some .int) RX9 κ A p l s m args meth c) (h : zH wC κ A s σ H locs) (hl : lv_has ls 4 [(0, .ref (κ.2.1 0)), (1, .int x1)]) (hf : fX9_poly_0 n (κ.2.2.2 0) (κ.2.2.2 1) (κ.2.2.2 2) σ x1 = some (r1, r2)) : W p l e rmX9_poly s m args below meth c H locs 0 (6 * 0) (vx_MQ below (zQti wC κ A r1 r2) (zXc wC κ A r1 r2) args s 2 (6 * 2) A) (F0 m 0 ls []) := by
  unfold fX9_poly_0 at hf
  have C := CX.1
  refine lv_iload_n C.ex C.by dX9_poly_0 rfl (lv_at hl 1 rfl) ?_
  refine lv_iconst (v := 3) C.ex C.by dX9_poly_1 (by decide) ?_
  refine lv_icmp_lt (tgt := 11) C.ex C.by dX9_poly_2 (by decide) (fun c1 => ?_) (fun c1 => ?_)
  · have hf := zif_t c1 hf
    exact wX9_poly_11 CX h (lv_sub hl [0] rfl) hf
  · have hf := zif_f c1 hf
    refine lv_iload_n C.ex C.by dX9_poly_5 rfl (lv_at hl 1 rfl) ?_
    refine lv_bipush (v := 6) C.ex C.by dX9_poly_6 (by decide) ?_
    refine lv_icmp_le (tgt := 21) C.ex C.by dX9_poly_8 (by decide) (fun c2 => ?_) (fun c2 => ?_)
    · have hf := zif_t c2 hf
      refine lv_aload_n C.ex C.by dX9_poly_21 rfl (lv_at hl 0 rfl) ?_
      obtain ⟨q3, e4, hf⟩ := zb_some hf
      rcases q3 with E | q3
      · dsimp only [Sum.elim_inl] at hf
        cases hf
        exact z_callTv_x (k := 0) (mc' := 1) (As := []) CX h (ctX9_needPower CX.2.1 e4) (zgV lkC338 lkC339 lkC340 lkC99 lkC341) ⟨rfl, rfl⟩ hdX9_needPower ⟨Nat.le_of_ble_eq_true rfl, Nat.le_of_ble_eq_true rfl⟩ 0 (wC_at0 κ _) rfl hl rfl rfl (Nat.le_of_ble_eq_true rfl) dX9_poly_22 ⟨Nat.le_of_ble_eq_true rfl, Nat.le_of_ble_eq_true rfl⟩ (by decide)
      · dsimp only [Sum.elim_inr] at hf
        refine z_callTv (k := 0) (mc' := 1) (As := []) CX h (ctX9_needPower CX.2.1 e4) (zgV lkC338 lkC339 lkC340 lkC99 lkC341) ⟨rfl, rfl⟩ hdX9_needPower ⟨Nat.le_of_ble_eq_true rfl, Nat.le_of_ble_eq_true rfl⟩ 0 (wC_at0 κ _) rfl hl rfl rfl (Nat.le_of_ble_eq_true rfl) dX9_poly_22 ⟨Nat.le_of_ble_eq_true rfl, Nat.le_of_ble_eq_true rfl⟩ (fun H locs h => ?_)
        refine W.widen (k := 1) (n := 6 * 1) (by decide) (by decide) ?_
        refine lv_aload_n C.ex C.by dX9_poly_25 rfl (lv_at hl 0 rfl) ?_
        refine z_get (v := .ref (κ.2.1 29)) C h iwX9 0 (wC_at0 κ _) rfl 7 (by decide) lkC276 rfl dX9_poly_26 ?_
        refine lv_aload_n C.ex C.by dX9_poly_29 rfl (lv_at hl 0 rfl) ?_
        refine z_get (v := .ref (κ.2.1 33)) C h iwX9 0 (wC_at0 κ _) rfl 8 (by decide) lkC180 rfl dX9_poly_30 ?_
        refine lv_iload_n C.ex C.by dX9_poly_33 rfl (lv_at hl 1 rfl) ?_
        obtain ⟨q5, e6, hf⟩ := zb_some hf
        refine z_callVv (As := [.ref (κ.2.1 33), .int x1]) C h (ctX8_lay_p33 e6) (zgV lkC449 lkC450 lkC451 lkC282 lkC452) ⟨rfl, rfl⟩ hdX8_lay ⟨Nat.le_of_ble_eq_true rfl, Nat.le_of_ble_eq_true rfl⟩ 29 (wC_at29 κ _) rfl hl rfl rfl (Nat.le_of_ble_eq_true rfl) dX9_poly_34 ⟨Nat.le_of_ble_eq_true rfl, Nat.le_of_ble_eq_true rfl⟩ (fun H locs h => ?_)
        refine lv_iconst (v := 1) C.ex C.by dX9_poly_37 (by decide) ?_
        refine lv_istore_n (lv' := [(2, .int 1), (0, .ref (κ.2.1 0)), (1, .int x1)]) C.ex C.by dX9_poly_38 rfl hl (by decide) rfl (fun ls hl => ?_)
        refine lv_aload_n C.ex C.by dX9_poly_39 rfl (lv_at hl 1 rfl) ?_
        refine z_get (v := .ref (κ.2.1 29)) C h iwX9 0 (wC_at0 κ _) rfl 7 (by decide) lkC276 rfl dX9_poly_40 ?_
        refine z_getN (v := .int (zI q5 31)) C h iwX8 29 (wC_at29 κ _) rfl 4 (by decide) nkC30 rfl dX9_poly_43 ?_
        refine lv_istore_n (lv' := [(3, .int (zI q5 31)), (2, .int 1), (0, .ref (κ.2.1 0)), (1, .int x1)]) C.ex C.by dX9_poly_46 rfl hl (by decide) rfl (fun ls hl => ?_)
        obtain ⟨b14, e15, hf⟩ := zb_some hf
        refine wlX9_poly_47 CX h (lv_sub hl [2, 1, 0] rfl) b14 e15 ?_
        intro H locs ls h hl
        refine lv_aload_n C.ex C.by dX9_poly_77 rfl (lv_at hl 0 rfl) ?_
        refine z_get (v := .ref (κ.2.1 29)) C h iwX9 0 (wC_at0 κ _) rfl 7 (by decide) lkC276 rfl dX9_poly_78 ?_
        refine lv_aload_n C.ex C.by dX9_poly_81 rfl (lv_at hl 0 rfl) ?_
        refine z_get (v := .ref (κ.2.1 33)) C h iwX9 0 (wC_at0 κ _) rfl 8 (by decide) lkC180 rfl dX9_poly_82 ?_
        obtain ⟨q16, e17, hf⟩ := zb_some hf
        refine z_callVv (As := [.ref (κ.2.1 33)]) C h (ctX8_collect_p33 e17) (zgV lkC461 lkC462 lkC463 lkC282 lkC464) ⟨rfl, rfl⟩ hdX8_collect ⟨Nat.le_of_ble_eq_true rfl, Nat.le_of_ble_eq_true rfl⟩ 29 (wC_at29 κ _) rfl hl rfl rfl (Nat.le_of_ble_eq_true rfl) dX9_poly_85 ⟨Nat.le_of_ble_eq_true rfl, Nat.le_of_ble_eq_true rfl⟩ (fun H locs h => ?_)
        refine lv_aload_n C.ex C.by dX9_poly_88 rfl (lv_at hl 0 rfl) ?_
        refine lv_iload_n C.ex C.by dX9_poly_89 rfl (lv_at hl 1 rfl) ?_
        obtain ⟨q18, e19, hf⟩ := zb_some hf
        rcases q18 with E | q18
        · dsimp only [Sum.elim_inl] at hf
          cases hf
          exact z_callTi_x (k := 1) (mc' := 1) (As := [.int b14.1]) CX h (ctX9_answerFor CX.2.1 e19) (zgV lkC366 lkC367 lkC368 lkC99 lkC369) ⟨rfl, rfl⟩ hdX9_answerFor ⟨Nat.le_of_ble_eq_true rfl, Nat.le_of_ble_eq_true rfl⟩ 0 (wC_at0 κ _) rfl hl rfl rfl (Nat.le_of_ble_eq_true rfl) dX9_poly_90 ⟨Nat.le_of_ble_eq_true rfl, Nat.le_of_ble_eq_true rfl⟩ (by decide)
        · dsimp only [Sum.elim_inr] at hf
          refine z_callTi (k := 1) (mc' := 1) (As := [.int b14.1]) CX h (ctX9_answerFor CX.2.1 e19) (zgV lkC366 lkC367 lkC368 lkC99 lkC369) ⟨rfl, rfl⟩ hdX9_answerFor ⟨Nat.le_of_ble_eq_true rfl, Nat.le_of_ble_eq_true rfl⟩ 0 (wC_at0 κ _) rfl hl rfl rfl (Nat.le_of_ble_eq_true rfl) dX9_poly_90 ⟨Nat.le_of_ble_eq_true rfl, Nat.le_of_ble_eq_true rfl⟩ (fun H locs h => ?_)
          refine W.widen (k := 2) (n := 6 * 2) (by decide) (by decide) ?_
          cases hf
          exact z_tiret (k := 2) CX h (by decide) dX9_poly_93
    · have hf := zif_f c2 hf
      exact wX9_poly_11 CX h (lv_sub hl [0] rfl) hf
theorem ctX9_poly {l : Launch} {κ : zG} {n : Nat} {σ : zS} {x1 : Int32} {r1 : String ⊕ Int32} {r2 : zS} (hl9 : l.stackTraces = false) (hf : fX9_poly_0 n (κ.2.2.2 0) (κ.2.2.2 1) (κ.2.2.2 2) σ x1 = some (r1, r2)) : zTi l yX9_poly (Cond.code yX9_poly cX9_poly 4 (some .int)) rmX9_poly wC κ [.ref (κ.2.1 0), .int x1] σ 2 r1 r2 :=
  zbodyX (Qz := fun A => zQti wC κ A r1 r2) (Xz := fun A => zXc wC κ A r1 r2) (by decide) (Nat.le_of_ble_eq_true rfl) hl9 (fun p e s m below meth c A C h ls hl => wX9_poly_0 C h hl hf)
