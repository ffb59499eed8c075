theorem lkL0 : Cond.methodLink RL 7 yX9_width ∈ zW := zw (zt2 (List.mem_of_getElem? (i := 150) rfl)) rfl
theorem lkL1 : Cond.instanceMethod yX9_width ∈ zW := zw (zt2 (List.mem_of_getElem? (i := 151) rfl)) rfl
theorem lkL2 : Cond.selects RX9 yX9_width yX9_width ∈ zW := zw (zt2 (List.mem_of_getElem? (i := 152) rfl)) rfl
theorem lkL3 : Cond.initialized RX9 ∈ zW := zw (zt1 (List.mem_of_getElem? (i := 1) rfl)) rfl
theorem lkL4 : Cond.code yX9_width cX9_width 2 none ∈ zW := zw (zt2 (List.mem_of_getElem? (i := 153) rfl)) rfl
theorem lkL5 : Cond.classLink RL 13 "java/lang/IllegalArgumentException" ∈ zW := zw (zt2 (List.mem_of_getElem? (i := 148) rfl)) rfl
theorem lkL6 : Cond.classLink RL 15 "java/lang/IllegalStateException" ∈ zW := zw (zt2 (List.mem_of_getElem? (i := 149) rfl)) rfl
theorem lkL7 : Cond.methodLink RL 17 yX9_key ∈ zW := zw (zt3 (List.mem_of_getElem? (i := 18) rfl)) rfl
theorem lkL8 : Cond.instanceMethod yX9_key ∈ zW := zw (zt3 (List.mem_of_getElem? (i := 19) rfl)) rfl
theorem lkL9 : Cond.selects RX9 yX9_key yX9_key ∈ zW := zw (zt3 (List.mem_of_getElem? (i := 20) rfl)) rfl
theorem lkL10 : Cond.code yX9_key cX9_key 3 (some .int) ∈ zW := zw (zt3 (List.mem_of_getElem? (i := 21) rfl)) rfl
theorem lkL11 : Cond.classLink RL 21 "java/lang/IndexOutOfBoundsException" ∈ zW := zw (zt3 (List.mem_of_getElem? (i := 17) rfl)) rfl
theorem lkL12 : Cond.methodLink RL 23 yX9_mode ∈ zW := zw (zt3 (List.mem_of_getElem? (i := 51) rfl)) rfl
theorem lkL13 : Cond.instanceMethod yX9_mode ∈ zW := zw (zt3 (List.mem_of_getElem? (i := 52) rfl)) rfl
theorem lkL14 : Cond.selects RX9 yX9_mode yX9_mode ∈ zW := zw (zt3 (List.mem_of_getElem? (i := 53) rfl)) rfl
theorem lkL15 : Cond.code yX9_mode cX9_mode 3 (some .int) ∈ zW := zw (zt3 (List.mem_of_getElem? (i := 54) rfl)) rfl
theorem lkL16 : Cond.methodLink RL 27 yX9_feed ∈ zW := zw (zt3 (List.mem_of_getElem? (i := 60) rfl)) rfl
theorem lkL17 : Cond.instanceMethod yX9_feed ∈ zW := zw (zt3 (List.mem_of_getElem? (i := 61) rfl)) rfl
theorem lkL18 : Cond.selects RX9 yX9_feed yX9_feed ∈ zW := zw (zt3 (List.mem_of_getElem? (i := 62) rfl)) rfl
theorem lkL19 : Cond.code yX9_feed cX9_feed 10 (some .int) ∈ zW := zw (zt3 (List.mem_of_getElem? (i := 63) rfl)) rfl
theorem lkL20 : Cond.classLink RL 31 "java/lang/UnsupportedOperationException" ∈ zW := zw (zt3 (List.mem_of_getElem? (i := 59) rfl)) rfl
theorem lkL21 : Cond.methodLink RL 33 yX9_run ∈ zW := zw (zt3 (List.mem_of_getElem? (i := 115) rfl)) rfl
theorem lkL22 : Cond.instanceMethod yX9_run ∈ zW := zw (zt3 (List.mem_of_getElem? (i := 116) rfl)) rfl
theorem lkL23 : Cond.selects RX9 yX9_run yX9_run ∈ zW := zw (zt3 (List.mem_of_getElem? (i := 117) rfl)) rfl
theorem lkL24 : Cond.code yX9_run cX9_run 9 (some .int) ∈ zW := zw (zt3 (List.mem_of_getElem? (i := 118) rfl)) rfl
theorem lkL25 : Cond.methodLink RL 37 yX9_form ∈ zW := zw (zt3 (List.mem_of_getElem? (i := 126) rfl)) rfl
theorem lkL26 : Cond.instanceMethod yX9_form ∈ zW := zw (zt3 (List.mem_of_getElem? (i := 127) rfl)) rfl
theorem lkL27 : Cond.selects RX9 yX9_form yX9_form ∈ zW := zw (zt3 (List.mem_of_getElem? (i := 128) rfl)) rfl
theorem lkL28 : Cond.code yX9_form cX9_form 3 (some .int) ∈ zW := zw (zt3 (List.mem_of_getElem? (i := 129) rfl)) rfl
theorem lkL29 : Cond.methodLink RL 40 yX9_pass ∈ zW := zw (zt4 (List.mem_of_getElem? (i := 48) rfl)) rfl
theorem lkL30 : Cond.instanceMethod yX9_pass ∈ zW := zw (zt4 (List.mem_of_getElem? (i := 49) rfl)) rfl
theorem lkL31 : Cond.selects RX9 yX9_pass yX9_pass ∈ zW := zw (zt4 (List.mem_of_getElem? (i := 50) rfl)) rfl
theorem lkL32 : Cond.code yX9_pass cX9_pass 2 (some .int) ∈ zW := zw (zt4 (List.mem_of_getElem? (i := 51) rfl)) rfl
theorem lkL33 : Cond.methodLink RL 43 yX9_best ∈ zW := zw (zt4 (List.mem_of_getElem? (i := 111) rfl)) rfl
theorem lkL34 : Cond.instanceMethod yX9_best ∈ zW := zw (zt4 (List.mem_of_getElem? (i := 112) rfl)) rfl
theorem lkL35 : Cond.selects RX9 yX9_best yX9_best ∈ zW := zw (zt4 (List.mem_of_getElem? (i := 113) rfl)) rfl
theorem lkL36 : Cond.code yX9_best cX9_best 2 (some .int) ∈ zW := zw (zt4 (List.mem_of_getElem? (i := 114) rfl)) rfl
theorem lkL37 : Cond.methodLink RL 46 yX9_poly ∈ zW := zw (zt4 (List.mem_of_getElem? (i := 127) rfl)) rfl
theorem lkL38 : Cond.instanceMethod yX9_poly ∈ zW := zw (zt4 (List.mem_of_getElem? (i := 128) rfl)) rfl
theorem lkL39 : Cond.selects RX9 yX9_poly yX9_poly ∈ zW := zw (zt4 (List.mem_of_getElem? (i := 129) rfl)) rfl
theorem lkL40 : Cond.code yX9_poly cX9_poly 4 (some .int) ∈ zW := zw (zt4 (List.mem_of_getElem? (i := 130) rfl)) rfl
theorem lkL41 : Cond.methodLink RL 49 yX9_plan ∈ zW := zw (zt4 (List.mem_of_getElem? (i := 177) rfl)) rfl
theorem lkL42 : Cond.instanceMethod yX9_plan ∈ zW := zw (zt4 (List.mem_of_getElem? (i := 178) rfl)) rfl
theorem lkL43 : Cond.selects RX9 yX9_plan yX9_plan ∈ zW := zw (zt4 (List.mem_of_getElem? (i := 179) rfl)) rfl
theorem lkL44 : Cond.code yX9_plan cX9_plan 8 (some .int) ∈ zW := zw (zt4 (List.mem_of_getElem? (i := 180) rfl)) rfl
theorem lkL45 : Cond.methodLink RL 52 yX9_records ∈ zW := zw (zt4 (List.mem_of_getElem? (i := 200) rfl)) rfl
theorem lkL46 : Cond.instanceMethod yX9_records ∈ zW := zw (zt4 (List.mem_of_getElem? (i := 201) rfl)) rfl
theorem lkL47 : Cond.selects RX9 yX9_records yX9_records ∈ zW := zw (zt4 (List.mem_of_getElem? (i := 202) rfl)) rfl
theorem lkL48 : Cond.code yX9_records cX9_records 2 (some .int) ∈ zW := zw (zt4 (List.mem_of_getElem? (i := 203) rfl)) rfl
theorem lkL49 : Cond.methodLink RL 55 yX9_block ∈ zW := zw (zt4 (List.mem_of_getElem? (i := 212) rfl)) rfl
theorem lkL50 : Cond.instanceMethod yX9_block ∈ zW := zw (zt4 (List.mem_of_getElem? (i := 213) rfl)) rfl
theorem lkL51 : Cond.selects RX9 yX9_block yX9_block ∈ zW := zw (zt4 (List.mem_of_getElem? (i := 214) rfl)) rfl
theorem lkL52 : Cond.code yX9_block cX9_block 4 (some .int) ∈ zW := zw (zt4 (List.mem_of_getElem? (i := 215) rfl)) rfl
theorem lkL53 : Cond.methodLink RL 59 yX9_told ∈ zW := zw (zt4 (List.mem_of_getElem? (i := 224) rfl)) rfl
theorem lkL54 : Cond.instanceMethod yX9_told ∈ zW := zw (zt4 (List.mem_of_getElem? (i := 225) rfl)) rfl
theorem lkL55 : Cond.selects RX9 yX9_told yX9_told ∈ zW := zw (zt4 (List.mem_of_getElem? (i := 226) rfl)) rfl
theorem lkL56 : Cond.code yX9_told cX9_told 4 (some .long) ∈ zW := zw (zt4 (List.mem_of_getElem? (i := 227) rfl)) rfl
theorem lkL57 : Cond.methodLink RL 63 yX9_rank ∈ zW := zw (zt4 (List.mem_of_getElem? (i := 238) rfl)) rfl
theorem lkL58 : Cond.instanceMethod yX9_rank ∈ zW := zw (zt4 (List.mem_of_getElem? (i := 239) rfl)) rfl
theorem lkL59 : Cond.selects RX9 yX9_rank yX9_rank ∈ zW := zw (zt5 (List.mem_of_getElem? (i := 0) rfl)) rfl
theorem lkL60 : Cond.code yX9_rank cX9_rank 10 (some .int) ∈ zW := zw (zt5 (List.mem_of_getElem? (i := 1) rfl)) rfl
theorem lkL61 : Cond.methodLink RL 67 yX9_drop ∈ zW := zw (zt5 (List.mem_of_getElem? (i := 13) rfl)) rfl
theorem lkL62 : Cond.instanceMethod yX9_drop ∈ zW := zw (zt5 (List.mem_of_getElem? (i := 14) rfl)) rfl
theorem lkL63 : Cond.selects RX9 yX9_drop yX9_drop ∈ zW := zw (zt5 (List.mem_of_getElem? (i := 15) rfl)) rfl
theorem lkL64 : Cond.code yX9_drop cX9_drop 2 (some .int) ∈ zW := zw (zt5 (List.mem_of_getElem? (i := 16) rfl)) rfl
theorem lkL65 : Cond.methodLink RL 70 yX9_count ∈ zW := zw (zt5 (List.mem_of_getElem? (i := 21) rfl)) rfl
theorem lkL66 : Cond.instanceMethod yX9_count ∈ zW := zw (zt5 (List.mem_of_getElem? (i := 22) rfl)) rfl
theorem lkL67 : Cond.selects RX9 yX9_count yX9_count ∈ zW := zw (zt5 (List.mem_of_getElem? (i := 23) rfl)) rfl
theorem lkL68 : Cond.code yX9_count cX9_count 2 (some .int) ∈ zW := zw (zt5 (List.mem_of_getElem? (i := 24) rfl)) rfl
theorem lkL69 : Cond.methodLink RL 73 yX9_crash ∈ zW := zw (zt5 (List.mem_of_getElem? (i := 33) rfl)) rfl
theorem lkL70 : Cond.instanceMethod yX9_crash ∈ zW := zw (zt5 (List.mem_of_getElem? (i := 34) rfl)) rfl
theorem lkL71 : Cond.selects RX9 yX9_crash yX9_crash ∈ zW := zw (zt5 (List.mem_of_getElem? (i := 35) rfl)) rfl
theorem lkL72 : Cond.code yX9_crash cX9_crash 2 none ∈ zW := zw (zt5 (List.mem_of_getElem? (i := 36) rfl)) rfl
theorem lkL73 : Cond.methodLink RL 76 yX9_up ∈ zW := zw (zt5 (List.mem_of_getElem? (i := 42) rfl)) rfl
theorem lkL74 : Cond.instanceMethod yX9_up ∈ zW := zw (zt5 (List.mem_of_getElem? (i := 43) rfl)) rfl
theorem lkL75 : Cond.selects RX9 yX9_up yX9_up ∈ zW := zw (zt5 (List.mem_of_getElem? (i := 44) rfl)) rfl
theorem lkL76 : Cond.code yX9_up cX9_up 1 (some .int) ∈ zW := zw (zt5 (List.mem_of_getElem? (i := 45) rfl)) rfl
def fL_width (r : String ⊕ Unit) (o : Nat → Int64) : Option (Int32 × (Nat → Int64)) :=
  Sum.elim (fun E => if E = "java/lang/IllegalArgumentException" then some (1, o) else if E = "java/lang/IllegalStateException" then some (2, o) else none) (fun _ => some (0, o)) r
abbrev rmL_width : Room := { frames := 8, cells := 2, slots := 12, locals := 123 }
set_option maxRecDepth 20000 in
set_option maxHeartbeats 4000000 in
theorem wr_width {l : Launch} {κ : zG} {n : Nat} {σ : zS} {o o' : Nat → Int64} {x1 : Int32} {r1 : String ⊕ Unit} {r2 : zS} {k : Int32} (hl9 : l.stackTraces = false) (hf : fX9_width_0 n (κ.2.2.2 0) (κ.2.2.2 1) (κ.2.2.2 2) σ x1 = some (r1, r2)) (hg : fL_width r1 o = some (k, o')) : zWi l yL_width (Cond.codeWith yL_width cL_width 3 (some .int) [(0, 5, 8, 13), (0, 5, 11, 15)]) rmL_width κ [.ref (κ.2.1 0), .int x1] (σ, o) 2 k (r2, o') := by
  refine zWi_of (by decide) rfl (Nat.le_of_ble_eq_true rfl) hl9 ?_
  intro p e s m below meth c A C h ls hl
  have hl : lv_has ls 3 [(0, .ref (κ.2.1 0)), (1, .int x1)] := hl
  refine lv_aload_n C.1.ex C.1.by dL_width_0 rfl (lv_at hl 0 rfl) ?_
  refine lv_iload_n C.1.ex C.1.by dL_width_1 rfl (lv_at hl 1 rfl) ?_
  rcases r1 with E | v
  · unfold fL_width at hg
    dsimp only [Sum.elim_inl] at hg
    by_cases e0 : E = "java/lang/IllegalArgumentException"
    · have hg := zif_t e0 hg
      subst e0
      cases hg
      refine z_callWv_x (As := [.int x1]) C h (ctX9_width hl9 hf) (ztk_y C (by decide) (by decide) (by decide) lkL5) (zgV lkL0 lkL1 lkL2 lkL3 lkL4) ⟨rfl, rfl⟩ hdX9_width ⟨Nat.le_of_ble_eq_true rfl, Nat.le_of_ble_eq_true rfl⟩ hl rfl rfl (Nat.le_of_ble_eq_true rfl) dL_width_2 ⟨Nat.le_of_ble_eq_true rfl, Nat.le_of_ble_eq_true rfl⟩ (fun q9 H locs h => ?_)
      refine W.widen (k := 2) (n := 6 * 2) (by decide) (by decide) ?_
      refine lv_astore_n (lv' := [(2, .ref q9), (0, .ref (κ.2.1 0)), (1, .int x1)]) C.1.ex C.1.by dL_width_8 rfl hl (by decide) rfl (fun ls hl => ?_)
      refine lv_iconst (v := 1) C.1.ex C.1.by dL_width_9 (by decide) ?_
      exact z_wret (k := 2) C h (by decide) dL_width_10
    have hg := zif_f e0 hg
    by_cases e1 : E = "java/lang/IllegalStateException"
    · have hg := zif_t e1 hg
      subst e1
      cases hg
      refine z_callWv_x (As := [.int x1]) C h (ctX9_width hl9 hf) (ztk_n C (nm := "java/lang/IllegalArgumentException") (by decide) (by decide) (by decide) lkL5 (ztk_y C (by decide) (by decide) (by decide) lkL6)) (zgV lkL0 lkL1 lkL2 lkL3 lkL4) ⟨rfl, rfl⟩ hdX9_width ⟨Nat.le_of_ble_eq_true rfl, Nat.le_of_ble_eq_true rfl⟩ hl rfl rfl (Nat.le_of_ble_eq_true rfl) dL_width_2 ⟨Nat.le_of_ble_eq_true rfl, Nat.le_of_ble_eq_true rfl⟩ (fun q9 H locs h => ?_)
      refine W.widen (k := 2) (n := 6 * 2) (by decide) (by decide) ?_
      refine lv_astore_n (lv' := [(2, .ref q9), (0, .ref (κ.2.1 0)), (1, .int x1)]) C.1.ex C.1.by dL_width_11 rfl hl (by decide) rfl (fun ls hl => ?_)
      refine lv_iconst (v := 2) C.1.ex C.1.by dL_width_12 (by decide) ?_
      exact z_wret (k := 2) C h (by decide) dL_width_13
    have hg := zif_f e1 hg
    cases hg
  · unfold fL_width at hg
    dsimp only [Sum.elim_inr] at hg
    cases hg
    refine z_callWv (As := [.int x1]) C h (ctX9_width hl9 hf) (zgV lkL0 lkL1 lkL2 lkL3 lkL4) ⟨rfl, rfl⟩ hdX9_width ⟨Nat.le_of_ble_eq_true rfl, Nat.le_of_ble_eq_true rfl⟩ hl rfl rfl (Nat.le_of_ble_eq_true rfl) dL_width_2 ⟨Nat.le_of_ble_eq_true rfl, Nat.le_of_ble_eq_true rfl⟩ (fun H locs h => ?_)
    refine W.widen (k := 2) (n := 6 * 2) (by decide) (by decide) ?_
    refine lv_goto (tgt := 14) C.1.ex C.1.by dL_width_5 (by decide) ?_
    refine lv_iconst (v := 0) C.1.ex C.1.by dL_width_14 (by decide) ?_
    exact z_wret (k := 2) C h (by decide) dL_width_15
def fL_key (r : String ⊕ Int32) (o : Nat → Int64) : Option (Int32 × (Nat → Int64)) :=
  Sum.elim (fun E => if E = "java/lang/IndexOutOfBoundsException" then some (1, o) else if E = "java/lang/IllegalArgumentException" then some (2, o) else if E = "java/lang/IllegalStateException" then some (3, o) else none) (fun v => some (0, vp_updL o (Int32.toNatClampNeg 0) v.toInt64)) r
abbrev rmL_key : Room := { frames := 8, cells := 2, slots := 12, locals := 124 }
set_option maxRecDepth 20000 in
set_option maxHeartbeats 4000000 in
theorem wr_key {l : Launch} {κ : zG} {n : Nat} {σ : zS} {o o' : Nat → Int64} {x1 : Int32} {x2 : Int32} {r1 : String ⊕ Int32} {r2 : zS} {k : Int32} (hl9 : l.stackTraces = false) (hf : fX9_key_0 n (κ.2.2.2 0) (κ.2.2.2 1) (κ.2.2.2 2) σ x1 x2 = some (r1, r2)) (hg : fL_key r1 o = some (k, o')) : zWi l yL_key (Cond.codeWith yL_key cL_key 5 (some .int) [(0, 10, 13, 21), (0, 10, 17, 13), (0, 10, 21, 15)]) rmL_key κ [.ref (κ.2.1 0), .int x1, .int x2, .ref (κ.2.1 60)] (σ, o) 2 k (r2, o') := by
  refine zWi_of (by decide) rfl (Nat.le_of_ble_eq_true rfl) hl9 ?_
  intro p e s m below meth c A C h ls hl
  have hl : lv_has ls 5 [(0, .ref (κ.2.1 0)), (1, .int x1), (2, .int x2), (3, .ref (κ.2.1 60))] := hl
  refine lv_aload_n C.1.ex C.1.by dL_key_0 rfl (lv_at hl 3 rfl) ?_
  refine lv_iconst (v := 0) C.1.ex C.1.by dL_key_1 (by decide) ?_
  refine lv_aload_n C.1.ex C.1.by dL_key_2 rfl (lv_at hl 0 rfl) ?_
  refine lv_iload_n C.1.ex C.1.by dL_key_3 rfl (lv_at hl 1 rfl) ?_
  refine lv_iload_n C.1.ex C.1.by dL_key_4 rfl (lv_at hl 2 rfl) ?_
  rcases r1 with E | v
  · unfold fL_key at hg
    dsimp only [Sum.elim_inl] at hg
    by_cases e0 : E = "java/lang/IndexOutOfBoundsException"
    · have hg := zif_t e0 hg
      subst e0
      cases hg
      refine z_callWi_x (As := [.int x1, .int x2]) C h (ctX9_key hl9 hf) (ztk_y C (by decide) (by decide) (by decide) lkL11) (zgV lkL7 lkL8 lkL9 lkL3 lkL10) ⟨rfl, rfl⟩ hdX9_key ⟨Nat.le_of_ble_eq_true rfl, Nat.le_of_ble_eq_true rfl⟩ hl rfl rfl (Nat.le_of_ble_eq_true rfl) dL_key_5 ⟨Nat.le_of_ble_eq_true rfl, Nat.le_of_ble_eq_true rfl⟩ (fun q9 H locs h => ?_)
      refine W.widen (k := 2) (n := 6 * 2) (by decide) (by decide) ?_
      refine lv_astore (lv' := [(4, .ref q9), (0, .ref (κ.2.1 0)), (1, .int x1), (2, .int x2), (3, .ref (κ.2.1 60))]) C.1.ex C.1.by dL_key_13 hl (by decide) rfl (fun ls hl => ?_)
      refine lv_iconst (v := 1) C.1.ex C.1.by dL_key_15 (by decide) ?_
      exact z_wret (k := 2) C h (by decide) dL_key_16
    have hg := zif_f e0 hg
    by_cases e1 : E = "java/lang/IllegalArgumentException"
    · have hg := zif_t e1 hg
      subst e1
      cases hg
      refine z_callWi_x (As := [.int x1, .int x2]) C h (ctX9_key hl9 hf) (ztk_n C (nm := "java/lang/IndexOutOfBoundsException") (by decide) (by decide) (by decide) lkL11 (ztk_y C (by decide) (by decide) (by decide) lkL5)) (zgV lkL7 lkL8 lkL9 lkL3 lkL10) ⟨rfl, rfl⟩ hdX9_key ⟨Nat.le_of_ble_eq_true rfl, Nat.le_of_ble_eq_true rfl⟩ hl rfl rfl (Nat.le_of_ble_eq_true rfl) dL_key_5 ⟨Nat.le_of_ble_eq_true rfl, Nat.le_of_ble_eq_true rfl⟩ (fun q9 H locs h => ?_)
      refine W.widen (k := 2) (n := 6 * 2) (by decide) (by decide) ?_
      refine lv_astore (lv' := [(4, .ref q9), (0, .ref (κ.2.1 0)), (1, .int x1), (2, .int x2), (3, .ref (κ.2.1 60))]) C.1.ex C.1.by dL_key_17 hl (by decide) rfl (fun ls hl => ?_)
      refine lv_iconst (v := 2) C.1.ex C.1.by dL_key_19 (by decide) ?_
      exact z_wret (k := 2) C h (by decide) dL_key_20
    have hg := zif_f e1 hg
    by_cases e2 : E = "java/lang/IllegalStateException"
    · have hg := zif_t e2 hg
      subst e2
      cases hg
      refine z_callWi_x (As := [.int x1, .int x2]) C h (ctX9_key hl9 hf) (ztk_n C (nm := "java/lang/IndexOutOfBoundsException") (by decide) (by decide) (by decide) lkL11 (ztk_n C (nm := "java/lang/IllegalArgumentException") (by decide) (by decide) (by decide) lkL5 (ztk_y C (by decide) (by decide) (by decide) lkL6))) (zgV lkL7 lkL8 lkL9 lkL3 lkL10) ⟨rfl, rfl⟩ hdX9_key ⟨Nat.le_of_ble_eq_true rfl, Nat.le_of_ble_eq_true rfl⟩ hl rfl rfl (Nat.le_of_ble_eq_true rfl) dL_key_5 ⟨Nat.le_of_ble_eq_true rfl, Nat.le_of_ble_eq_true rfl⟩ (fun q9 H locs h => ?_)
      refine W.widen (k := 2) (n := 6 * 2) (by decide) (by decide) ?_
      refine lv_astore (lv' := [(4, .ref q9), (0, .ref (κ.2.1 0)), (1, .int x1), (2, .int x2), (3, .ref (κ.2.1 60))]) C.1.ex C.1.by dL_key_21 hl (by decide) rfl (fun ls hl => ?_)
      refine lv_iconst (v := 3) C.1.ex C.1.by dL_key_23 (by decide) ?_
      exact z_wret (k := 2) C h (by decide) dL_key_24
    have hg := zif_f e2 hg
    cases hg
  · unfold fL_key at hg
    dsimp only [Sum.elim_inr] at hg
    cases hg
    refine z_callWi (As := [.int x1, .int x2]) C h (ctX9_key hl9 hf) (zgV lkL7 lkL8 lkL9 lkL3 lkL10) ⟨rfl, rfl⟩ hdX9_key ⟨Nat.le_of_ble_eq_true rfl, Nat.le_of_ble_eq_true rfl⟩ hl rfl rfl (Nat.le_of_ble_eq_true rfl) dL_key_5 ⟨Nat.le_of_ble_eq_true rfl, Nat.le_of_ble_eq_true rfl⟩ (fun H locs h => ?_)
    refine W.widen (k := 2) (n := 6 * 2) (by decide) (by decide) ?_
    refine lv_i2l (v := v.toInt64) C.1.ex C.1.by dL_key_8 rfl ?_
    refine z_last (w := w2) C.1 h 52 (w2_at52 κ _) (by decide) _ (w2_s52 κ _ _) dL_key_9 (fun H locs h => ?_)
    refine lv_goto (tgt := 25) C.1.ex C.1.by dL_key_10 (by decide) ?_
    refine lv_iconst (v := 0) C.1.ex C.1.by dL_key_25 (by decide) ?_
    exact z_wret (k := 2) C h (by decide) dL_key_26
def fL_mode (r : String ⊕ Int32) (o : Nat → Int64) : Option (Int32 × (Nat → Int64)) :=
  Sum.elim (fun E => if E = "java/lang/IllegalArgumentException" then some (1, o) else if E = "java/lang/IllegalStateException" then some (2, o) else none) (fun v => some (0, vp_updL o (Int32.toNatClampNeg 0) v.toInt64)) r
abbrev rmL_mode : Room := { frames := 8, cells := 1, slots := 6, locals := 124 }
set_option maxRecDepth 20000 in
set_option maxHeartbeats 4000000 in
theorem wr_mode {l : Launch} {κ : zG} {n : Nat} {σ : zS} {o o' : Nat → Int64} {x1 : Int32} {r1 : String ⊕ Int32} {r2 : zS} {k : Int32} (hl9 : l.stackTraces = false) (hf : fX9_mode_0 n (κ.2.2.2 0) (κ.2.2.2 1) (κ.2.2.2 2) σ x1 = some (r1, r2)) (hg : fL_mode r1 o = some (k, o')) : zWi l yL_mode (Cond.codeWith yL_mode cL_mode 4 (some .int) [(0, 9, 12, 13), (0, 9, 15, 15)]) rmL_mode κ [.ref (κ.2.1 0), .int x1, .ref (κ.2.1 60)] (σ, o) 1 k (r2, o') := by
  refine zWi_of (by decide) rfl (Nat.le_of_ble_eq_true rfl) hl9 ?_
  intro p e s m below meth c A C h ls hl
  have hl : lv_has ls 4 [(0, .ref (κ.2.1 0)), (1, .int x1), (2, .ref (κ.2.1 60))] := hl
  refine lv_aload_n C.1.ex C.1.by dL_mode_0 rfl (lv_at hl 2 rfl) ?_
  refine lv_iconst (v := 0) C.1.ex C.1.by dL_mode_1 (by decide) ?_
  refine lv_aload_n C.1.ex C.1.by dL_mode_2 rfl (lv_at hl 0 rfl) ?_
  refine lv_iload_n C.1.ex C.1.by dL_mode_3 rfl (lv_at hl 1 rfl) ?_
  rcases r1 with E | v
  · unfold fL_mode at hg
    dsimp only [Sum.elim_inl] at hg
    by_cases e0 : E = "java/lang/IllegalArgumentException"
    · have hg := zif_t e0 hg
      subst e0
      cases hg
      refine z_callWi_x (As := [.int x1]) C h (ctX9_mode hl9 hf) (ztk_y C (by decide) (by decide) (by decide) lkL5) (zgV lkL12 lkL13 lkL14 lkL3 lkL15) ⟨rfl, rfl⟩ hdX9_mode ⟨Nat.le_of_ble_eq_true rfl, Nat.le_of_ble_eq_true rfl⟩ hl rfl rfl (Nat.le_of_ble_eq_true rfl) dL_mode_4 ⟨Nat.le_of_ble_eq_true rfl, Nat.le_of_ble_eq_true rfl⟩ (fun q9 H locs h => ?_)
      refine W.widen (k := 1) (n := 6 * 1) (by decide) (by decide) ?_
      refine lv_astore_n (lv' := [(3, .ref q9), (0, .ref (κ.2.1 0)), (1, .int x1), (2, .ref (κ.2.1 60))]) C.1.ex C.1.by dL_mode_12 rfl hl (by decide) rfl (fun ls hl => ?_)
      refine lv_iconst (v := 1) C.1.ex C.1.by dL_mode_13 (by decide) ?_
      exact z_wret (k := 1) C h (by decide) dL_mode_14
    have hg := zif_f e0 hg
    by_cases e1 : E = "java/lang/IllegalStateException"
    · have hg := zif_t e1 hg
      subst e1
      cases hg
      refine z_callWi_x (As := [.int x1]) C h (ctX9_mode hl9 hf) (ztk_n C (nm := "java/lang/IllegalArgumentException") (by decide) (by decide) (by decide) lkL5 (ztk_y C (by decide) (by decide) (by decide) lkL6)) (zgV lkL12 lkL13 lkL14 lkL3 lkL15) ⟨rfl, rfl⟩ hdX9_mode ⟨Nat.le_of_ble_eq_true rfl, Nat.le_of_ble_eq_true rfl⟩ hl rfl rfl (Nat.le_of_ble_eq_true rfl) dL_mode_4 ⟨Nat.le_of_ble_eq_true rfl, Nat.le_of_ble_eq_true rfl⟩ (fun q9 H locs h => ?_)
      refine W.widen (k := 1) (n := 6 * 1) (by decide) (by decide) ?_
      refine lv_astore_n (lv' := [(3, .ref q9), (0, .ref (κ.2.1 0)), (1, .int x1), (2, .ref (κ.2.1 60))]) C.1.ex C.1.by dL_mode_15 rfl hl (by decide) rfl (fun ls hl => ?_)
      refine lv_iconst (v := 2) C.1.ex C.1.by dL_mode_16 (by decide) ?_
      exact z_wret (k := 1) C h (by decide) dL_mode_17
    have hg := zif_f e1 hg
    cases hg
  · unfold fL_mode at hg
    dsimp only [Sum.elim_inr] at hg
    cases hg
    refine z_callWi (As := [.int x1]) C h (ctX9_mode hl9 hf) (zgV lkL12 lkL13 lkL14 lkL3 lkL15) ⟨rfl, rfl⟩ hdX9_mode ⟨Nat.le_of_ble_eq_true rfl, Nat.le_of_ble_eq_true rfl⟩ hl rfl rfl (Nat.le_of_ble_eq_true rfl) dL_mode_4 ⟨Nat.le_of_ble_eq_true rfl, Nat.le_of_ble_eq_true rfl⟩ (fun H locs h => ?_)
    refine W.widen (k := 1) (n := 6 * 1) (by decide) (by decide) ?_
    refine lv_i2l (v := v.toInt64) C.1.ex C.1.by dL_mode_7 rfl ?_
    refine z_last (w := w2) C.1 h 52 (w2_at52 κ _) (by decide) _ (w2_s52 κ _ _) dL_mode_8 (fun H locs h => ?_)
    refine lv_goto (tgt := 18) C.1.ex C.1.by dL_mode_9 (by decide) ?_
    refine lv_iconst (v := 0) C.1.ex C.1.by dL_mode_18 (by decide) ?_
    exact z_wret (k := 1) C h (by decide) dL_mode_19
def fL_feed (r : String ⊕ Int32) (o : Nat → Int64) : Option (Int32 × (Nat → Int64)) :=
  Sum.elim (fun E => if E = "java/lang/IllegalStateException" then some (1, o) else if E = "java/lang/UnsupportedOperationException" then some (2, o) else none) (fun v => some (0, vp_updL o (Int32.toNatClampNeg 0) v.toInt64)) r
abbrev rmL_feed : Room := { frames := 8, cells := 2, slots := 12, locals := 132 }
set_option maxRecDepth 20000 in
set_option maxHeartbeats 4000000 in
theorem wr_feed {l : Launch} {κ : zG} {n : Nat} {σ : zS} {o o' : Nat → Int64} {x1 : Int64} {x3 : Int64} {x5 : Int64} {x7 : Int64} {r1 : String ⊕ Int32} {r2 : zS} {k : Int32} (hl9 : l.stackTraces = false) (hf : fX9_feed_0 n (κ.2.2.2 0) (κ.2.2.2 1) (κ.2.2.2 2) σ x1 x3 x5 x7 = some (r1, r2)) (hg : fL_feed r1 o = some (k, o')) : zWi l yL_feed (Cond.codeWith yL_feed cL_feed 11 (some .int) [(0, 15, 18, 15), (0, 15, 22, 31)]) rmL_feed κ [.ref (κ.2.1 0), .long x1, .long x3, .long x5, .long x7, .ref (κ.2.1 60)] (σ, o) 2 k (r2, o') := by
  refine zWi_of (by decide) rfl (Nat.le_of_ble_eq_true rfl) hl9 ?_
  intro p e s m below meth c A C h ls hl
  have hl : lv_has ls 11 [(0, .ref (κ.2.1 0)), (1, .long x1), (3, .long x3), (5, .long x5), (7, .long x7), (9, .ref (κ.2.1 60))] := hl
  refine lv_aload C.1.ex C.1.by dL_feed_0 (lv_at hl 5 rfl) ?_
  refine lv_iconst (v := 0) C.1.ex C.1.by dL_feed_2 (by decide) ?_
  refine lv_aload_n C.1.ex C.1.by dL_feed_3 rfl (lv_at hl 0 rfl) ?_
  refine lv_lload_n C.1.ex C.1.by dL_feed_4 rfl (lv_at hl 1 rfl) ?_
  refine lv_lload_n C.1.ex C.1.by dL_feed_5 rfl (lv_at hl 2 rfl) ?_
  refine lv_lload C.1.ex C.1.by dL_feed_6 (lv_at hl 3 rfl) ?_
  refine lv_lload C.1.ex C.1.by dL_feed_8 (lv_at hl 4 rfl) ?_
  rcases r1 with E | v
  · unfold fL_feed at hg
    dsimp only [Sum.elim_inl] at hg
    by_cases e0 : E = "java/lang/IllegalStateException"
    · have hg := zif_t e0 hg
      subst e0
      cases hg
      refine z_callWi_x (As := [.long x1, .long x3, .long x5, .long x7]) C h (ctX9_feed hl9 hf) (ztk_y C (by decide) (by decide) (by decide) lkL6) (zgV lkL16 lkL17 lkL18 lkL3 lkL19) ⟨rfl, rfl⟩ hdX9_feed ⟨Nat.le_of_ble_eq_true rfl, Nat.le_of_ble_eq_true rfl⟩ hl rfl rfl (Nat.le_of_ble_eq_true rfl) dL_feed_10 ⟨Nat.le_of_ble_eq_true rfl, Nat.le_of_ble_eq_true rfl⟩ (fun q9 H locs h => ?_)
      refine W.widen (k := 2) (n := 6 * 2) (by decide) (by decide) ?_
      refine lv_astore (lv' := [(10, .ref q9), (0, .ref (κ.2.1 0)), (1, .long x1), (3, .long x3), (5, .long x5), (7, .long x7), (9, .ref (κ.2.1 60))]) C.1.ex C.1.by dL_feed_18 hl (by decide) rfl (fun ls hl => ?_)
      refine lv_iconst (v := 1) C.1.ex C.1.by dL_feed_20 (by decide) ?_
      exact z_wret (k := 2) C h (by decide) dL_feed_21
    have hg := zif_f e0 hg
    by_cases e1 : E = "java/lang/UnsupportedOperationException"
    · have hg := zif_t e1 hg
      subst e1
      cases hg
      refine z_callWi_x (As := [.long x1, .long x3, .long x5, .long x7]) C h (ctX9_feed hl9 hf) (ztk_n C (nm := "java/lang/IllegalStateException") (by decide) (by decide) (by decide) lkL6 (ztk_y C (by decide) (by decide) (by decide) lkL20)) (zgV lkL16 lkL17 lkL18 lkL3 lkL19) ⟨rfl, rfl⟩ hdX9_feed ⟨Nat.le_of_ble_eq_true rfl, Nat.le_of_ble_eq_true rfl⟩ hl rfl rfl (Nat.le_of_ble_eq_true rfl) dL_feed_10 ⟨Nat.le_of_ble_eq_true rfl, Nat.le_of_ble_eq_true rfl⟩ (fun q9 H locs h => ?_)
      refine W.widen (k := 2) (n := 6 * 2) (by decide) (by decide) ?_
      refine lv_astore (lv' := [(10, .ref q9), (0, .ref (κ.2.1 0)), (1, .long x1), (3, .long x3), (5, .long x5), (7, .long x7), (9, .ref (κ.2.1 60))]) C.1.ex C.1.by dL_feed_22 hl (by decide) rfl (fun ls hl => ?_)
      refine lv_iconst (v := 2) C.1.ex C.1.by dL_feed_24 (by decide) ?_
      exact z_wret (k := 2) C h (by decide) dL_feed_25
    have hg := zif_f e1 hg
    cases hg
  · unfold fL_feed at hg
    dsimp only [Sum.elim_inr] at hg
    cases hg
    refine z_callWi (As := [.long x1, .long x3, .long x5, .long x7]) C h (ctX9_feed hl9 hf) (zgV lkL16 lkL17 lkL18 lkL3 lkL19) ⟨rfl, rfl⟩ hdX9_feed ⟨Nat.le_of_ble_eq_true rfl, Nat.le_of_ble_eq_true rfl⟩ hl rfl rfl (Nat.le_of_ble_eq_true rfl) dL_feed_10 ⟨Nat.le_of_ble_eq_true rfl, Nat.le_of_ble_eq_true rfl⟩ (fun H locs h => ?_)
    refine W.widen (k := 2) (n := 6 * 2) (by decide) (by decide) ?_
    refine lv_i2l (v := v.toInt64) C.1.ex C.1.by dL_feed_13 rfl ?_
    refine z_last (w := w2) C.1 h 52 (w2_at52 κ _) (by decide) _ (w2_s52 κ _ _) dL_feed_14 (fun H locs h => ?_)
    refine lv_goto (tgt := 26) C.1.ex C.1.by dL_feed_15 (by decide) ?_
    refine lv_iconst (v := 0) C.1.ex C.1.by dL_feed_26 (by decide) ?_
    exact z_wret (k := 2) C h (by decide) dL_feed_27
def fL_run (r : String ⊕ Int32) (o : Nat → Int64) : Option (Int32 × (Nat → Int64)) :=
  Sum.elim (fun E => if E = "java/lang/IllegalArgumentException" then some (1, o) else if E = "java/lang/IllegalStateException" then some (2, o) else none) (fun v => some (0, vp_updL o (Int32.toNatClampNeg 0) v.toInt64)) r
abbrev rmL_run : Room := { frames := 8, cells := 1, slots := 6, locals := 130 }
set_option maxRecDepth 20000 in
set_option maxHeartbeats 4000000 in
theorem wr_run {l : Launch} {κ : zG} {n : Nat} {σ : zS} {o o' : Nat → Int64} {x1 : Int64} {x3 : Int32} {x4 : Int32} {r1 : String ⊕ Int32} {r2 : zS} {k : Int32} (hl9 : l.stackTraces = false) (hf : fX9_run_0 n (κ.2.2.2 0) (κ.2.2.2 1) (κ.2.2.2 2) σ x1 x3 x4 = some (r1, r2)) (hg : fL_run r1 o = some (k, o')) : zWi l yL_run (Cond.codeWith yL_run cL_run 7 (some .int) [(0, 13, 16, 13), (0, 13, 20, 15)]) rmL_run κ [.ref (κ.2.1 0), .long x1, .int x3, .int x4, .ref (κ.2.1 60)] (σ, o) 1 k (r2, o') := by
  refine zWi_of (by decide) rfl (Nat.le_of_ble_eq_true rfl) hl9 ?_
  intro p e s m below meth c A C h ls hl
  have hl : lv_has ls 7 [(0, .ref (κ.2.1 0)), (1, .long x1), (3, .int x3), (4, .int x4), (5, .ref (κ.2.1 60))] := hl
  refine lv_aload C.1.ex C.1.by dL_run_0 (lv_at hl 4 rfl) ?_
  refine lv_iconst (v := 0) C.1.ex C.1.by dL_run_2 (by decide) ?_
  refine lv_aload_n C.1.ex C.1.by dL_run_3 rfl (lv_at hl 0 rfl) ?_
  refine lv_lload_n C.1.ex C.1.by dL_run_4 rfl (lv_at hl 1 rfl) ?_
  refine lv_iload_n C.1.ex C.1.by dL_run_5 rfl (lv_at hl 2 rfl) ?_
  refine lv_iload C.1.ex C.1.by dL_run_6 (lv_at hl 3 rfl) ?_
  rcases r1 with E | v
  · unfold fL_run at hg
    dsimp only [Sum.elim_inl] at hg
    by_cases e0 : E = "java/lang/IllegalArgumentException"
    · have hg := zif_t e0 hg
      subst e0
      cases hg
      refine z_callWi_x (As := [.long x1, .int x3, .int x4]) C h (ctX9_run hl9 hf) (ztk_y C (by decide) (by decide) (by decide) lkL5) (zgV lkL21 lkL22 lkL23 lkL3 lkL24) ⟨rfl, rfl⟩ hdX9_run ⟨Nat.le_of_ble_eq_true rfl, Nat.le_of_ble_eq_true rfl⟩ hl rfl rfl (Nat.le_of_ble_eq_true rfl) dL_run_8 ⟨Nat.le_of_ble_eq_true rfl, Nat.le_of_ble_eq_true rfl⟩ (fun q9 H locs h => ?_)
      refine W.widen (k := 1) (n := 6 * 1) (by decide) (by decide) ?_
      refine lv_astore (lv' := [(6, .ref q9), (0, .ref (κ.2.1 0)), (1, .long x1), (3, .int x3), (4, .int x4), (5, .ref (κ.2.1 60))]) C.1.ex C.1.by dL_run_16 hl (by decide) rfl (fun ls hl => ?_)
      refine lv_iconst (v := 1) C.1.ex C.1.by dL_run_18 (by decide) ?_
      exact z_wret (k := 1) C h (by decide) dL_run_19
    have hg := zif_f e0 hg
    by_cases e1 : E = "java/lang/IllegalStateException"
    · have hg := zif_t e1 hg
      subst e1
      cases hg
      refine z_callWi_x (As := [.long x1, .int x3, .int x4]) C h (ctX9_run hl9 hf) (ztk_n C (nm := "java/lang/IllegalArgumentException") (by decide) (by decide) (by decide) lkL5 (ztk_y C (by decide) (by decide) (by decide) lkL6)) (zgV lkL21 lkL22 lkL23 lkL3 lkL24) ⟨rfl, rfl⟩ hdX9_run ⟨Nat.le_of_ble_eq_true rfl, Nat.le_of_ble_eq_true rfl⟩ hl rfl rfl (Nat.le_of_ble_eq_true rfl) dL_run_8 ⟨Nat.le_of_ble_eq_true rfl, Nat.le_of_ble_eq_true rfl⟩ (fun q9 H locs h => ?_)
      refine W.widen (k := 1) (n := 6 * 1) (by decide) (by decide) ?_
      refine lv_astore (lv' := [(6, .ref q9), (0, .ref (κ.2.1 0)), (1, .long x1), (3, .int x3), (4, .int x4), (5, .ref (κ.2.1 60))]) C.1.ex C.1.by dL_run_20 hl (by decide) rfl (fun ls hl => ?_)
      refine lv_iconst (v := 2) C.1.ex C.1.by dL_run_22 (by decide) ?_
      exact z_wret (k := 1) C h (by decide) dL_run_23
    have hg := zif_f e1 hg
    cases hg
  · unfold fL_run at hg
    dsimp only [Sum.elim_inr] at hg
    cases hg
    refine z_callWi (As := [.long x1, .int x3, .int x4]) C h (ctX9_run hl9 hf) (zgV lkL21 lkL22 lkL23 lkL3 lkL24) ⟨rfl, rfl⟩ hdX9_run ⟨Nat.le_of_ble_eq_true rfl, Nat.le_of_ble_eq_true rfl⟩ hl rfl rfl (Nat.le_of_ble_eq_true rfl) dL_run_8 ⟨Nat.le_of_ble_eq_true rfl, Nat.le_of_ble_eq_true rfl⟩ (fun H locs h => ?_)
    refine W.widen (k := 1) (n := 6 * 1) (by decide) (by decide) ?_
    refine lv_i2l (v := v.toInt64) C.1.ex C.1.by dL_run_11 rfl ?_
    refine z_last (w := w2) C.1 h 52 (w2_at52 κ _) (by decide) _ (w2_s52 κ _ _) dL_run_12 (fun H locs h => ?_)
    refine lv_goto (tgt := 24) C.1.ex C.1.by dL_run_13 (by decide) ?_
    refine lv_iconst (v := 0) C.1.ex C.1.by dL_run_24 (by decide) ?_
    exact z_wret (k := 1) C h (by decide) dL_run_25
def fL_form (r : String ⊕ Int32) (o : Nat → Int64) : Option (Int32 × (Nat → Int64)) :=
  Sum.elim (fun E => if E = "java/lang/IllegalArgumentException" then some (1, o) else if E = "java/lang/IllegalStateException" then some (2, o) else if E = "java/lang/UnsupportedOperationException" then some (3, o) else none) (fun v => some (0, vp_updL o (Int32.toNatClampNeg 0) v.toInt64)) r
abbrev rmL_form : Room := { frames := 8, cells := 2, slots := 12, locals := 190 }
set_option maxRecDepth 20000 in
set_option maxHeartbeats 4000000 in
theorem wr_form {l : Launch} {κ : zG} {n : Nat} {σ : zS} {o o' : Nat → Int64} {x1 : Int32} {r1 : String ⊕ Int32} {r2 : zS} {k : Int32} (hl9 : l.stackTraces = false) (hf : fX9_form_0 n (κ.2.2.2 0) (κ.2.2.2 1) (κ.2.2.2 2) σ x1 = some (r1, r2)) (hg : fL_form r1 o = some (k, o')) : zWi l yL_form (Cond.codeWith yL_form cL_form 4 (some .int) [(0, 9, 12, 13), (0, 9, 15, 15), (0, 9, 18, 31)]) rmL_form κ [.ref (κ.2.1 0), .int x1, .ref (κ.2.1 60)] (σ, o) 2 k (r2, o') := by
  refine zWi_of (by decide) rfl (Nat.le_of_ble_eq_true rfl) hl9 ?_
  intro p e s m below meth c A C h ls hl
  have hl : lv_has ls 4 [(0, .ref (κ.2.1 0)), (1, .int x1), (2, .ref (κ.2.1 60))] := hl
  refine lv_aload_n C.1.ex C.1.by dL_form_0 rfl (lv_at hl 2 rfl) ?_
  refine lv_iconst (v := 0) C.1.ex C.1.by dL_form_1 (by decide) ?_
  refine lv_aload_n C.1.ex C.1.by dL_form_2 rfl (lv_at hl 0 rfl) ?_
  refine lv_iload_n C.1.ex C.1.by dL_form_3 rfl (lv_at hl 1 rfl) ?_
  rcases r1 with E | v
  · unfold fL_form at hg
    dsimp only [Sum.elim_inl] at hg
    by_cases e0 : E = "java/lang/IllegalArgumentException"
    · have hg := zif_t e0 hg
      subst e0
      cases hg
      refine z_callWi_x (As := [.int x1]) C h (ctX9_form hl9 hf) (ztk_y C (by decide) (by decide) (by decide) lkL5) (zgV lkL25 lkL26 lkL27 lkL3 lkL28) ⟨rfl, rfl⟩ hdX9_form ⟨Nat.le_of_ble_eq_true rfl, Nat.le_of_ble_eq_true rfl⟩ hl rfl rfl (Nat.le_of_ble_eq_true rfl) dL_form_4 ⟨Nat.le_of_ble_eq_true rfl, Nat.le_of_ble_eq_true rfl⟩ (fun q9 H locs h => ?_)
      refine W.widen (k := 2) (n := 6 * 2) (by decide) (by decide) ?_
      refine lv_astore_n (lv' := [(3, .ref q9), (0, .ref (κ.2.1 0)), (1, .int x1), (2, .ref (κ.2.1 60))]) C.1.ex C.1.by dL_form_12 rfl hl (by decide) rfl (fun ls hl => ?_)
      refine lv_iconst (v := 1) C.1.ex C.1.by dL_form_13 (by decide) ?_
      exact z_wret (k := 2) C h (by decide) dL_form_14
    have hg := zif_f e0 hg
    by_cases e1 : E = "java/lang/IllegalStateException"
    · have hg := zif_t e1 hg
      subst e1
      cases hg
      refine z_callWi_x (As := [.int x1]) C h (ctX9_form hl9 hf) (ztk_n C (nm := "java/lang/IllegalArgumentException") (by decide) (by decide) (by decide) lkL5 (ztk_y C (by decide) (by decide) (by decide) lkL6)) (zgV lkL25 lkL26 lkL27 lkL3 lkL28) ⟨rfl, rfl⟩ hdX9_form ⟨Nat.le_of_ble_eq_true rfl, Nat.le_of_ble_eq_true rfl⟩ hl rfl rfl (Nat.le_of_ble_eq_true rfl) dL_form_4 ⟨Nat.le_of_ble_eq_true rfl, Nat.le_of_ble_eq_true rfl⟩ (fun q9 H locs h => ?_)
      refine W.widen (k := 2) (n := 6 * 2) (by decide) (by decide) ?_
      refine lv_astore_n (lv' := [(3, .ref q9), (0, .ref (κ.2.1 0)), (1, .int x1), (2, .ref (κ.2.1 60))]) C.1.ex C.1.by dL_form_15 rfl hl (by decide) rfl (fun ls hl => ?_)
      refine lv_iconst (v := 2) C.1.ex C.1.by dL_form_16 (by decide) ?_
      exact z_wret (k := 2) C h (by decide) dL_form_17
    have hg := zif_f e1 hg
    by_cases e2 : E = "java/lang/UnsupportedOperationException"
    · have hg := zif_t e2 hg
      subst e2
      cases hg
      refine z_callWi_x (As := [.int x1]) C h (ctX9_form hl9 hf) (ztk_n C (nm := "java/lang/IllegalArgumentException") (by decide) (by decide) (by decide) lkL5 (ztk_n C (nm := "java/lang/IllegalStateException") (by decide) (by decide) (by decide) lkL6 (ztk_y C (by decide) (by decide) (by decide) lkL20))) (zgV lkL25 lkL26 lkL27 lkL3 lkL28) ⟨rfl, rfl⟩ hdX9_form ⟨Nat.le_of_ble_eq_true rfl, Nat.le_of_ble_eq_true rfl⟩ hl rfl rfl (Nat.le_of_ble_eq_true rfl) dL_form_4 ⟨Nat.le_of_ble_eq_true rfl, Nat.le_of_ble_eq_true rfl⟩ (fun q9 H locs h => ?_)
      refine W.widen (k := 2) (n := 6 * 2) (by decide) (by decide) ?_
      refine lv_astore_n (lv' := [(3, .ref q9), (0, .ref (κ.2.1 0)), (1, .int x1), (2, .ref (κ.2.1 60))]) C.1.ex C.1.by dL_form_18 rfl hl (by decide) rfl (fun ls hl => ?_)
      refine lv_iconst (v := 3) C.1.ex C.1.by dL_form_19 (by decide) ?_
      exact z_wret (k := 2) C h (by decide) dL_form_20
    have hg := zif_f e2 hg
    cases hg
  · unfold fL_form at hg
    dsimp only [Sum.elim_inr] at hg
    cases hg
    refine z_callWi (As := [.int x1]) C h (ctX9_form hl9 hf) (zgV lkL25 lkL26 lkL27 lkL3 lkL28) ⟨rfl, rfl⟩ hdX9_form ⟨Nat.le_of_ble_eq_true rfl, Nat.le_of_ble_eq_true rfl⟩ hl rfl rfl (Nat.le_of_ble_eq_true rfl) dL_form_4 ⟨Nat.le_of_ble_eq_true rfl, Nat.le_of_ble_eq_true rfl⟩ (fun H locs h => ?_)
    refine W.widen (k := 2) (n := 6 * 2) (by decide) (by decide) ?_
    refine lv_i2l (v := v.toInt64) C.1.ex C.1.by dL_form_7 rfl ?_
    refine z_last (w := w2) C.1 h 52 (w2_at52 κ _) (by decide) _ (w2_s52 κ _ _) dL_form_8 (fun H locs h => ?_)
    refine lv_goto (tgt := 21) C.1.ex C.1.by dL_form_9 (by decide) ?_
    refine lv_iconst (v := 0) C.1.ex C.1.by dL_form_21 (by decide) ?_
    exact z_wret (k := 2) C h (by decide) dL_form_22
def fL_pass (r : String ⊕ Int32) (o : Nat → Int64) : Option (Int32 × (Nat → Int64)) :=
  Sum.elim (fun E => if E = "java/lang/IllegalArgumentException" then some (1, o) else if E = "java/lang/IllegalStateException" then some (2, o) else if E = "java/lang/UnsupportedOperationException" then some (3, o) else none) (fun v => some (0, vp_updL o (Int32.toNatClampNeg 0) v.toInt64)) r
abbrev rmL_pass : Room := { frames := 8, cells := 3, slots := 18, locals := 180 }
set_option maxRecDepth 20000 in
set_option maxHeartbeats 4000000 in
theorem wr_pass {l : Launch} {κ : zG} {n : Nat} {σ : zS} {o o' : Nat → Int64} {x1 : Int32} {r1 : String ⊕ Int32} {r2 : zS} {k : Int32} (hl9 : l.stackTraces = false) (hf : fX9_pass_0 n (κ.2.2.2 0) (κ.2.2.2 1) (κ.2.2.2 2) σ x1 = some (r1, r2)) (hg : fL_pass r1 o = some (k, o')) : zWi l yL_pass (Cond.codeWith yL_pass cL_pass 4 (some .int) [(0, 9, 12, 13), (0, 9, 15, 15), (0, 9, 18, 31)]) rmL_pass κ [.ref (κ.2.1 0), .int x1, .ref (κ.2.1 60)] (σ, o) 3 k (r2, o') := by
  refine zWi_of (by decide) rfl (Nat.le_of_ble_eq_true rfl) hl9 ?_
  intro p e s m below meth c A C h ls hl
  have hl : lv_has ls 4 [(0, .ref (κ.2.1 0)), (1, .int x1), (2, .ref (κ.2.1 60))] := hl
  refine lv_aload_n C.1.ex C.1.by dL_pass_0 rfl (lv_at hl 2 rfl) ?_
  refine lv_iconst (v := 0) C.1.ex C.1.by dL_pass_1 (by decide) ?_
  refine lv_aload_n C.1.ex C.1.by dL_pass_2 rfl (lv_at hl 0 rfl) ?_
  refine lv_iload_n C.1.ex C.1.by dL_pass_3 rfl (lv_at hl 1 rfl) ?_
  rcases r1 with E | v
  · unfold fL_pass at hg
    dsimp only [Sum.elim_inl] at hg
    by_cases e0 : E = "java/lang/IllegalArgumentException"
    · have hg := zif_t e0 hg
      subst e0
      cases hg
      refine z_callWi_x (As := [.int x1]) C h (ctX9_pass hl9 hf) (ztk_y C (by decide) (by decide) (by decide) lkL5) (zgV lkL29 lkL30 lkL31 lkL3 lkL32) ⟨rfl, rfl⟩ hdX9_pass ⟨Nat.le_of_ble_eq_true rfl, Nat.le_of_ble_eq_true rfl⟩ hl rfl rfl (Nat.le_of_ble_eq_true rfl) dL_pass_4 ⟨Nat.le_of_ble_eq_true rfl, Nat.le_of_ble_eq_true rfl⟩ (fun q9 H locs h => ?_)
      refine W.widen (k := 3) (n := 6 * 3) (by decide) (by decide) ?_
      refine lv_astore_n (lv' := [(3, .ref q9), (0, .ref (κ.2.1 0)), (1, .int x1), (2, .ref (κ.2.1 60))]) C.1.ex C.1.by dL_pass_12 rfl hl (by decide) rfl (fun ls hl => ?_)
      refine lv_iconst (v := 1) C.1.ex C.1.by dL_pass_13 (by decide) ?_
      exact z_wret (k := 3) C h (by decide) dL_pass_14
    have hg := zif_f e0 hg
    by_cases e1 : E = "java/lang/IllegalStateException"
    · have hg := zif_t e1 hg
      subst e1
      cases hg
      refine z_callWi_x (As := [.int x1]) C h (ctX9_pass hl9 hf) (ztk_n C (nm := "java/lang/IllegalArgumentException") (by decide) (by decide) (by decide) lkL5 (ztk_y C (by decide) (by decide) (by decide) lkL6)) (zgV lkL29 lkL30 lkL31 lkL3 lkL32) ⟨rfl, rfl⟩ hdX9_pass ⟨Nat.le_of_ble_eq_true rfl, Nat.le_of_ble_eq_true rfl⟩ hl rfl rfl (Nat.le_of_ble_eq_true rfl) dL_pass_4 ⟨Nat.le_of_ble_eq_true rfl, Nat.le_of_ble_eq_true rfl⟩ (fun q9 H locs h => ?_)
      refine W.widen (k := 3) (n := 6 * 3) (by decide) (by decide) ?_
      refine lv_astore_n (lv' := [(3, .ref q9), (0, .ref (κ.2.1 0)), (1, .int x1), (2, .ref (κ.2.1 60))]) C.1.ex C.1.by dL_pass_15 rfl hl (by decide) rfl (fun ls hl => ?_)
      refine lv_iconst (v := 2) C.1.ex C.1.by dL_pass_16 (by decide) ?_
      exact z_wret (k := 3) C h (by decide) dL_pass_17
    have hg := zif_f e1 hg
    by_cases e2 : E = "java/lang/UnsupportedOperationException"
    · have hg := zif_t e2 hg
      subst e2
      cases hg
      refine z_callWi_x (As := [.int x1]) C h (ctX9_pass hl9 hf) (ztk_n C (nm := "java/lang/IllegalArgumentException") (by decide) (by decide) (by decide) lkL5 (ztk_n C (nm := "java/lang/IllegalStateException") (by decide) (by decide) (by decide) lkL6 (ztk_y C (by decide) (by decide) (by decide) lkL20))) (zgV lkL29 lkL30 lkL31 lkL3 lkL32) ⟨rfl, rfl⟩ hdX9_pass ⟨Nat.le_of_ble_eq_true rfl, Nat.le_of_ble_eq_true rfl⟩ hl rfl rfl (Nat.le_of_ble_eq_true rfl) dL_pass_4 ⟨Nat.le_of_ble_eq_true rfl, Nat.le_of_ble_eq_true rfl⟩ (fun q9 H locs h => ?_)
      refine W.widen (k := 3) (n := 6 * 3) (by decide) (by decide) ?_
      refine lv_astore_n (lv' := [(3, .ref q9), (0, .ref (κ.2.1 0)), (1, .int x1), (2, .ref (κ.2.1 60))]) C.1.ex C.1.by dL_pass_18 rfl hl (by decide) rfl (fun ls hl => ?_)
      refine lv_iconst (v := 3) C.1.ex C.1.by dL_pass_19 (by decide) ?_
      exact z_wret (k := 3) C h (by decide) dL_pass_20
    have hg := zif_f e2 hg
    cases hg
  · unfold fL_pass at hg
    dsimp only [Sum.elim_inr] at hg
    cases hg
    refine z_callWi (As := [.int x1]) C h (ctX9_pass hl9 hf) (zgV lkL29 lkL30 lkL31 lkL3 lkL32) ⟨rfl, rfl⟩ hdX9_pass ⟨Nat.le_of_ble_eq_true rfl, Nat.le_of_ble_eq_true rfl⟩ hl rfl rfl (Nat.le_of_ble_eq_true rfl) dL_pass_4 ⟨Nat.le_of_ble_eq_true rfl, Nat.le_of_ble_eq_true rfl⟩ (fun H locs h => ?_)
    refine W.widen (k := 3) (n := 6 * 3) (by decide) (by decide) ?_
    refine lv_i2l (v := v.toInt64) C.1.ex C.1.by dL_pass_7 rfl ?_
    refine z_last (w := w2) C.1 h 52 (w2_at52 κ _) (by decide) _ (w2_s52 κ _ _) dL_pass_8 (fun H locs h => ?_)
    refine lv_goto (tgt := 21) C.1.ex C.1.by dL_pass_9 (by decide) ?_
    refine lv_iconst (v := 0) C.1.ex C.1.by dL_pass_21 (by decide) ?_
    exact z_wret (k := 3) C h (by decide) dL_pass_22
def fL_best (r : String ⊕ Int32) (o : Nat → Int64) : Option (Int32 × (Nat → Int64)) :=
  Sum.elim (fun E => if E = "java/lang/IllegalArgumentException" then some (1, o) else if E = "java/lang/IllegalStateException" then some (2, o) else if E = "java/lang/UnsupportedOperationException" then some (3, o) else none) (fun v => some (0, vp_updL o (Int32.toNatClampNeg 0) v.toInt64)) r
abbrev rmL_best : Room := { frames := 8, cells := 3, slots := 18, locals := 182 }
set_option maxRecDepth 20000 in
set_option maxHeartbeats 4000000 in
theorem wr_best {l : Launch} {κ : zG} {n : Nat} {σ : zS} {o o' : Nat → Int64} {x1 : Int32} {r1 : String ⊕ Int32} {r2 : zS} {k : Int32} (hl9 : l.stackTraces = false) (hf : fX9_best_0 n (κ.2.2.2 0) (κ.2.2.2 1) (κ.2.2.2 2) σ x1 = some (r1, r2)) (hg : fL_best r1 o = some (k, o')) : zWi l yL_best (Cond.codeWith yL_best cL_best 4 (some .int) [(0, 9, 12, 13), (0, 9, 15, 15), (0, 9, 18, 31)]) rmL_best κ [.ref (κ.2.1 0), .int x1, .ref (κ.2.1 60)] (σ, o) 3 k (r2, o') := by
  refine zWi_of (by decide) rfl (Nat.le_of_ble_eq_true rfl) hl9 ?_
  intro p e s m below meth c A C h ls hl
  have hl : lv_has ls 4 [(0, .ref (κ.2.1 0)), (1, .int x1), (2, .ref (κ.2.1 60))] := hl
  refine lv_aload_n C.1.ex C.1.by dL_best_0 rfl (lv_at hl 2 rfl) ?_
  refine lv_iconst (v := 0) C.1.ex C.1.by dL_best_1 (by decide) ?_
  refine lv_aload_n C.1.ex C.1.by dL_best_2 rfl (lv_at hl 0 rfl) ?_
  refine lv_iload_n C.1.ex C.1.by dL_best_3 rfl (lv_at hl 1 rfl) ?_
  rcases r1 with E | v
  · unfold fL_best at hg
    dsimp only [Sum.elim_inl] at hg
    by_cases e0 : E = "java/lang/IllegalArgumentException"
    · have hg := zif_t e0 hg
      subst e0
      cases hg
      refine z_callWi_x (As := [.int x1]) C h (ctX9_best hl9 hf) (ztk_y C (by decide) (by decide) (by decide) lkL5) (zgV lkL33 lkL34 lkL35 lkL3 lkL36) ⟨rfl, rfl⟩ hdX9_best ⟨Nat.le_of_ble_eq_true rfl, Nat.le_of_ble_eq_true rfl⟩ hl rfl rfl (Nat.le_of_ble_eq_true rfl) dL_best_4 ⟨Nat.le_of_ble_eq_true rfl, Nat.le_of_ble_eq_true rfl⟩ (fun q9 H locs h => ?_)
      refine W.widen (k := 3) (n := 6 * 3) (by decide) (by decide) ?_
      refine lv_astore_n (lv' := [(3, .ref q9), (0, .ref (κ.2.1 0)), (1, .int x1), (2, .ref (κ.2.1 60))]) C.1.ex C.1.by dL_best_12 rfl hl (by decide) rfl (fun ls hl => ?_)
      refine lv_iconst (v := 1) C.1.ex C.1.by dL_best_13 (by decide) ?_
      exact z_wret (k := 3) C h (by decide) dL_best_14
    have hg := zif_f e0 hg
    by_cases e1 : E = "java/lang/IllegalStateException"
    · have hg := zif_t e1 hg
      subst e1
      cases hg
      refine z_callWi_x (As := [.int x1]) C h (ctX9_best hl9 hf) (ztk_n C (nm := "java/lang/IllegalArgumentException") (by decide) (by decide) (by decide) lkL5 (ztk_y C (by decide) (by decide) (by decide) lkL6)) (zgV lkL33 lkL34 lkL35 lkL3 lkL36) ⟨rfl, rfl⟩ hdX9_best ⟨Nat.le_of_ble_eq_true rfl, Nat.le_of_ble_eq_true rfl⟩ hl rfl rfl (Nat.le_of_ble_eq_true rfl) dL_best_4 ⟨Nat.le_of_ble_eq_true rfl, Nat.le_of_ble_eq_true rfl⟩ (fun q9 H locs h => ?_)
      refine W.widen (k := 3) (n := 6 * 3) (by decide) (by decide) ?_
      refine lv_astore_n (lv' := [(3, .ref q9), (0, .ref (κ.2.1 0)), (1, .int x1), (2, .ref (κ.2.1 60))]) C.1.ex C.1.by dL_best_15 rfl hl (by decide) rfl (fun ls hl => ?_)
      refine lv_iconst (v := 2) C.1.ex C.1.by dL_best_16 (by decide) ?_
      exact z_wret (k := 3) C h (by decide) dL_best_17
    have hg := zif_f e1 hg
    by_cases e2 : E = "java/lang/UnsupportedOperationException"
    · have hg := zif_t e2 hg
      subst e2
      cases hg
      refine z_callWi_x (As := [.int x1]) C h (ctX9_best hl9 hf) (ztk_n C (nm := "java/lang/IllegalArgumentException") (by decide) (by decide) (by decide) lkL5 (ztk_n C (nm := "java/lang/IllegalStateException") (by decide) (by decide) (by decide) lkL6 (ztk_y C (by decide) (by decide) (by decide) lkL20))) (zgV lkL33 lkL34 lkL35 lkL3 lkL36) ⟨rfl, rfl⟩ hdX9_best ⟨Nat.le_of_ble_eq_true rfl, Nat.le_of_ble_eq_true rfl⟩ hl rfl rfl (Nat.le_of_ble_eq_true rfl) dL_best_4 ⟨Nat.le_of_ble_eq_true rfl, Nat.le_of_ble_eq_true rfl⟩ (fun q9 H locs h => ?_)
      refine W.widen (k := 3) (n := 6 * 3) (by decide) (by decide) ?_
      refine lv_astore_n (lv' := [(3, .ref q9), (0, .ref (κ.2.1 0)), (1, .int x1), (2, .ref (κ.2.1 60))]) C.1.ex C.1.by dL_best_18 rfl hl (by decide) rfl (fun ls hl => ?_)
      refine lv_iconst (v := 3) C.1.ex C.1.by dL_best_19 (by decide) ?_
      exact z_wret (k := 3) C h (by decide) dL_best_20
    have hg := zif_f e2 hg
    cases hg
  · unfold fL_best at hg
    dsimp only [Sum.elim_inr] at hg
    cases hg
    refine z_callWi (As := [.int x1]) C h (ctX9_best hl9 hf) (zgV lkL33 lkL34 lkL35 lkL3 lkL36) ⟨rfl, rfl⟩ hdX9_best ⟨Nat.le_of_ble_eq_true rfl, Nat.le_of_ble_eq_true rfl⟩ hl rfl rfl (Nat.le_of_ble_eq_true rfl) dL_best_4 ⟨Nat.le_of_ble_eq_true rfl, Nat.le_of_ble_eq_true rfl⟩ (fun H locs h => ?_)
    refine W.widen (k := 3) (n := 6 * 3) (by decide) (by decide) ?_
    refine lv_i2l (v := v.toInt64) C.1.ex C.1.by dL_best_7 rfl ?_
    refine z_last (w := w2) C.1 h 52 (w2_at52 κ _) (by decide) _ (w2_s52 κ _ _) dL_best_8 (fun H locs h => ?_)
    refine lv_goto (tgt := 21) C.1.ex C.1.by dL_best_9 (by decide) ?_
    refine lv_iconst (v := 0) C.1.ex C.1.by dL_best_21 (by decide) ?_
    exact z_wret (k := 3) C h (by decide) dL_best_22
def fL_poly (r : String ⊕ Int32) (o : Nat → Int64) : Option (Int32 × (Nat → Int64)) :=
  Sum.elim (fun E => if E = "java/lang/IllegalArgumentException" then some (1, o) else if E = "java/lang/IllegalStateException" then some (2, o) else if E = "java/lang/UnsupportedOperationException" then some (3, o) else none) (fun v => some (0, vp_updL o (Int32.toNatClampNeg 0) v.toInt64)) r
abbrev rmL_poly : Room := { frames := 8, cells := 2, slots := 12, locals := 179 }
set_option maxRecDepth 20000 in
set_option maxHeartbeats 4000000 in
theorem wr_poly {l : Launch} {κ : zG} {n : Nat} {σ : zS} {o o' : Nat → Int64} {x1 : Int32} {r1 : String ⊕ Int32} {r2 : zS} {k : Int32} (hl9 : l.stackTraces = false) (hf : fX9_poly_0 n (κ.2.2.2 0) (κ.2.2.2 1) (κ.2.2.2 2) σ x1 = some (r1, r2)) (hg : fL_poly r1 o = some (k, o')) : zWi l yL_poly (Cond.codeWith yL_poly cL_poly 4 (some .int) [(0, 9, 12, 13), (0, 9, 15, 15), (0, 9, 18, 31)]) rmL_poly κ [.ref (κ.2.1 0), .int x1, .ref (κ.2.1 60)] (σ, o) 2 k (r2, o') := by
  refine zWi_of (by decide) rfl (Nat.le_of_ble_eq_true rfl) hl9 ?_
  intro p e s m below meth c A C h ls hl
  have hl : lv_has ls 4 [(0, .ref (κ.2.1 0)), (1, .int x1), (2, .ref (κ.2.1 60))] := hl
  refine lv_aload_n C.1.ex C.1.by dL_poly_0 rfl (lv_at hl 2 rfl) ?_
  refine lv_iconst (v := 0) C.1.ex C.1.by dL_poly_1 (by decide) ?_
  refine lv_aload_n C.1.ex C.1.by dL_poly_2 rfl (lv_at hl 0 rfl) ?_
  refine lv_iload_n C.1.ex C.1.by dL_poly_3 rfl (lv_at hl 1 rfl) ?_
  rcases r1 with E | v
  · unfold fL_poly at hg
    dsimp only [Sum.elim_inl] at hg
    by_cases e0 : E = "java/lang/IllegalArgumentException"
    · have hg := zif_t e0 hg
      subst e0
      cases hg
      refine z_callWi_x (As := [.int x1]) C h (ctX9_poly hl9 hf) (ztk_y C (by decide) (by decide) (by decide) lkL5) (zgV lkL37 lkL38 lkL39 lkL3 lkL40) ⟨rfl, rfl⟩ hdX9_poly ⟨Nat.le_of_ble_eq_true rfl, Nat.le_of_ble_eq_true rfl⟩ hl rfl rfl (Nat.le_of_ble_eq_true rfl) dL_poly_4 ⟨Nat.le_of_ble_eq_true rfl, Nat.le_of_ble_eq_true rfl⟩ (fun q9 H locs h => ?_)
      refine W.widen (k := 2) (n := 6 * 2) (by decide) (by decide) ?_
      refine lv_astore_n (lv' := [(3, .ref q9), (0, .ref (κ.2.1 0)), (1, .int x1), (2, .ref (κ.2.1 60))]) C.1.ex C.1.by dL_poly_12 rfl hl (by decide) rfl (fun ls hl => ?_)
      refine lv_iconst (v := 1) C.1.ex C.1.by dL_poly_13 (by decide) ?_
      exact z_wret (k := 2) C h (by decide) dL_poly_14
    have hg := zif_f e0 hg
    by_cases e1 : E = "java/lang/IllegalStateException"
    · have hg := zif_t e1 hg
      subst e1
      cases hg
      refine z_callWi_x (As := [.int x1]) C h (ctX9_poly hl9 hf) (ztk_n C (nm := "java/lang/IllegalArgumentException") (by decide) (by decide) (by decide) lkL5 (ztk_y C (by decide) (by decide) (by decide) lkL6)) (zgV lkL37 lkL38 lkL39 lkL3 lkL40) ⟨rfl, rfl⟩ hdX9_poly ⟨Nat.le_of_ble_eq_true rfl, Nat.le_of_ble_eq_true rfl⟩ hl rfl rfl (Nat.le_of_ble_eq_true rfl) dL_poly_4 ⟨Nat.le_of_ble_eq_true rfl, Nat.le_of_ble_eq_true rfl⟩ (fun q9 H locs h => ?_)
      refine W.widen (k := 2) (n := 6 * 2) (by decide) (by decide) ?_
      refine lv_astore_n (lv' := [(3, .ref q9), (0, .ref (κ.2.1 0)), (1, .int x1), (2, .ref (κ.2.1 60))]) C.1.ex C.1.by dL_poly_15 rfl hl (by decide) rfl (fun ls hl => ?_)
      refine lv_iconst (v := 2) C.1.ex C.1.by dL_poly_16 (by decide) ?_
      exact z_wret (k := 2) C h (by decide) dL_poly_17
    have hg := zif_f e1 hg
    by_cases e2 : E = "java/lang/UnsupportedOperationException"
    · have hg := zif_t e2 hg
      subst e2
      cases hg
      refine z_callWi_x (As := [.int x1]) C h (ctX9_poly hl9 hf) (ztk_n C (nm := "java/lang/IllegalArgumentException") (by decide) (by decide) (by decide) lkL5 (ztk_n C (nm := "java/lang/IllegalStateException") (by decide) (by decide) (by decide) lkL6 (ztk_y C (by decide) (by decide) (by decide) lkL20))) (zgV lkL37 lkL38 lkL39 lkL3 lkL40) ⟨rfl, rfl⟩ hdX9_poly ⟨Nat.le_of_ble_eq_true rfl, Nat.le_of_ble_eq_true rfl⟩ hl rfl rfl (Nat.le_of_ble_eq_true rfl) dL_poly_4 ⟨Nat.le_of_ble_eq_true rfl, Nat.le_of_ble_eq_true rfl⟩ (fun q9 H locs h => ?_)
      refine W.widen (k := 2) (n := 6 * 2) (by decide) (by decide) ?_
      refine lv_astore_n (lv' := [(3, .ref q9), (0, .ref (κ.2.1 0)), (1, .int x1), (2, .ref (κ.2.1 60))]) C.1.ex C.1.by dL_poly_18 rfl hl (by decide) rfl (fun ls hl => ?_)
      refine lv_iconst (v := 3) C.1.ex C.1.by dL_poly_19 (by decide) ?_
      exact z_wret (k := 2) C h (by decide) dL_poly_20
    have hg := zif_f e2 hg
    cases hg
  · unfold fL_poly at hg
    dsimp only [Sum.elim_inr] at hg
    cases hg
    refine z_callWi (As := [.int x1]) C h (ctX9_poly hl9 hf) (zgV lkL37 lkL38 lkL39 lkL3 lkL40) ⟨rfl, rfl⟩ hdX9_poly ⟨Nat.le_of_ble_eq_true rfl, Nat.le_of_ble_eq_true rfl⟩ hl rfl rfl (Nat.le_of_ble_eq_true rfl) dL_poly_4 ⟨Nat.le_of_ble_eq_true rfl, Nat.le_of_ble_eq_true rfl⟩ (fun H locs h => ?_)
    refine W.widen (k := 2) (n := 6 * 2) (by decide) (by decide) ?_
    refine lv_i2l (v := v.toInt64) C.1.ex C.1.by dL_poly_7 rfl ?_
    refine z_last (w := w2) C.1 h 52 (w2_at52 κ _) (by decide) _ (w2_s52 κ _ _) dL_poly_8 (fun H locs h => ?_)
    refine lv_goto (tgt := 21) C.1.ex C.1.by dL_poly_9 (by decide) ?_
    refine lv_iconst (v := 0) C.1.ex C.1.by dL_poly_21 (by decide) ?_
    exact z_wret (k := 2) C h (by decide) dL_poly_22
def fL_plan (r : String ⊕ Int32) (o : Nat → Int64) : Option (Int32 × (Nat → Int64)) :=
  Sum.elim (fun E => if E = "java/lang/IllegalArgumentException" then some (1, o) else none) (fun v => some (0, vp_updL o (Int32.toNatClampNeg 0) v.toInt64)) r
abbrev rmL_plan : Room := { frames := 8, cells := 1, slots := 6, locals := 130 }
set_option maxRecDepth 20000 in
set_option maxHeartbeats 4000000 in
theorem wr_plan {l : Launch} {κ : zG} {n : Nat} {σ : zS} {o o' : Nat → Int64} {x1 : Int32} {r1 : String ⊕ Int32} {r2 : zS} {k : Int32} (hl9 : l.stackTraces = false) (hf : fX9_plan_0 n (κ.2.2.2 0) (κ.2.2.2 1) (κ.2.2.2 2) σ x1 = some (r1, r2)) (hg : fL_plan r1 o = some (k, o')) : zWi l yL_plan (Cond.codeWith yL_plan cL_plan 4 (some .int) [(0, 9, 12, 13)]) rmL_plan κ [.ref (κ.2.1 0), .int x1, .ref (κ.2.1 60)] (σ, o) 1 k (r2, o') := by
  refine zWi_of (by decide) rfl (Nat.le_of_ble_eq_true rfl) hl9 ?_
  intro p e s m below meth c A C h ls hl
  have hl : lv_has ls 4 [(0, .ref (κ.2.1 0)), (1, .int x1), (2, .ref (κ.2.1 60))] := hl
  refine lv_aload_n C.1.ex C.1.by dL_plan_0 rfl (lv_at hl 2 rfl) ?_
  refine lv_iconst (v := 0) C.1.ex C.1.by dL_plan_1 (by decide) ?_
  refine lv_aload_n C.1.ex C.1.by dL_plan_2 rfl (lv_at hl 0 rfl) ?_
  refine lv_iload_n C.1.ex C.1.by dL_plan_3 rfl (lv_at hl 1 rfl) ?_
  rcases r1 with E | v
  · unfold fL_plan at hg
    dsimp only [Sum.elim_inl] at hg
    by_cases e0 : E = "java/lang/IllegalArgumentException"
    · have hg := zif_t e0 hg
      subst e0
      cases hg
      refine z_callWi_x (As := [.int x1]) C h (ctX9_plan hl9 hf) (ztk_y C (by decide) (by decide) (by decide) lkL5) (zgV lkL41 lkL42 lkL43 lkL3 lkL44) ⟨rfl, rfl⟩ hdX9_plan ⟨Nat.le_of_ble_eq_true rfl, Nat.le_of_ble_eq_true rfl⟩ hl rfl rfl (Nat.le_of_ble_eq_true rfl) dL_plan_4 ⟨Nat.le_of_ble_eq_true rfl, Nat.le_of_ble_eq_true rfl⟩ (fun q9 H locs h => ?_)
      refine W.widen (k := 1) (n := 6 * 1) (by decide) (by decide) ?_
      refine lv_astore_n (lv' := [(3, .ref q9), (0, .ref (κ.2.1 0)), (1, .int x1), (2, .ref (κ.2.1 60))]) C.1.ex C.1.by dL_plan_12 rfl hl (by decide) rfl (fun ls hl => ?_)
      refine lv_iconst (v := 1) C.1.ex C.1.by dL_plan_13 (by decide) ?_
      exact z_wret (k := 1) C h (by decide) dL_plan_14
    have hg := zif_f e0 hg
    cases hg
  · unfold fL_plan at hg
    dsimp only [Sum.elim_inr] at hg
    cases hg
    refine z_callWi (As := [.int x1]) C h (ctX9_plan hl9 hf) (zgV lkL41 lkL42 lkL43 lkL3 lkL44) ⟨rfl, rfl⟩ hdX9_plan ⟨Nat.le_of_ble_eq_true rfl, Nat.le_of_ble_eq_true rfl⟩ hl rfl rfl (Nat.le_of_ble_eq_true rfl) dL_plan_4 ⟨Nat.le_of_ble_eq_true rfl, Nat.le_of_ble_eq_true rfl⟩ (fun H locs h => ?_)
    refine W.widen (k := 1) (n := 6 * 1) (by decide) (by decide) ?_
    refine lv_i2l (v := v.toInt64) C.1.ex C.1.by dL_plan_7 rfl ?_
    refine z_last (w := w2) C.1 h 52 (w2_at52 κ _) (by decide) _ (w2_s52 κ _ _) dL_plan_8 (fun H locs h => ?_)
    refine lv_goto (tgt := 15) C.1.ex C.1.by dL_plan_9 (by decide) ?_
    refine lv_iconst (v := 0) C.1.ex C.1.by dL_plan_15 (by decide) ?_
    exact z_wret (k := 1) C h (by decide) dL_plan_16
def fL_records (r : String ⊕ Int32) (o : Nat → Int64) : Option (Int32 × (Nat → Int64)) :=
  Sum.elim (fun E => if E = "java/lang/IndexOutOfBoundsException" then some (1, o) else none) (fun v => some (0, vp_updL o (Int32.toNatClampNeg 0) v.toInt64)) r
abbrev rmL_records : Room := { frames := 8, cells := 1, slots := 6, locals := 124 }
set_option maxRecDepth 20000 in
set_option maxHeartbeats 4000000 in
theorem wr_records {l : Launch} {κ : zG} {n : Nat} {σ : zS} {o o' : Nat → Int64} {x1 : Int32} {r1 : String ⊕ Int32} {k : Int32} (hl9 : l.stackTraces = false) (hf : fX9_records_0 n (κ.2.2.2 0) (κ.2.2.2 1) (κ.2.2.2 2) σ x1 = some r1) (hg : fL_records r1 o = some (k, o')) : zWi l yL_records (Cond.codeWith yL_records cL_records 4 (some .int) [(0, 9, 12, 21)]) rmL_records κ [.ref (κ.2.1 0), .int x1, .ref (κ.2.1 60)] (σ, o) 1 k (σ, o') := by
  refine zWi_of (by decide) rfl (Nat.le_of_ble_eq_true rfl) hl9 ?_
  intro p e s m below meth c A C h ls hl
  have hl : lv_has ls 4 [(0, .ref (κ.2.1 0)), (1, .int x1), (2, .ref (κ.2.1 60))] := hl
  refine lv_aload_n C.1.ex C.1.by dL_records_0 rfl (lv_at hl 2 rfl) ?_
  refine lv_iconst (v := 0) C.1.ex C.1.by dL_records_1 (by decide) ?_
  refine lv_aload_n C.1.ex C.1.by dL_records_2 rfl (lv_at hl 0 rfl) ?_
  refine lv_iload_n C.1.ex C.1.by dL_records_3 rfl (lv_at hl 1 rfl) ?_
  rcases r1 with E | v
  · unfold fL_records at hg
    dsimp only [Sum.elim_inl] at hg
    by_cases e0 : E = "java/lang/IndexOutOfBoundsException"
    · have hg := zif_t e0 hg
      subst e0
      cases hg
      refine z_callWi_x (As := [.int x1]) C h (ctX9_records hl9 hf) (ztk_y C (by decide) (by decide) (by decide) lkL11) (zgV lkL45 lkL46 lkL47 lkL3 lkL48) ⟨rfl, rfl⟩ hdX9_records ⟨Nat.le_of_ble_eq_true rfl, Nat.le_of_ble_eq_true rfl⟩ hl rfl rfl (Nat.le_of_ble_eq_true rfl) dL_records_4 ⟨Nat.le_of_ble_eq_true rfl, Nat.le_of_ble_eq_true rfl⟩ (fun q9 H locs h => ?_)
      refine W.widen (k := 1) (n := 6 * 1) (by decide) (by decide) ?_
      refine lv_astore_n (lv' := [(3, .ref q9), (0, .ref (κ.2.1 0)), (1, .int x1), (2, .ref (κ.2.1 60))]) C.1.ex C.1.by dL_records_12 rfl hl (by decide) rfl (fun ls hl => ?_)
      refine lv_iconst (v := 1) C.1.ex C.1.by dL_records_13 (by decide) ?_
      exact z_wret (k := 1) C h (by decide) dL_records_14
    have hg := zif_f e0 hg
    cases hg
  · unfold fL_records at hg
    dsimp only [Sum.elim_inr] at hg
    cases hg
    refine z_callWi (As := [.int x1]) C h (ctX9_records hl9 hf) (zgV lkL45 lkL46 lkL47 lkL3 lkL48) ⟨rfl, rfl⟩ hdX9_records ⟨Nat.le_of_ble_eq_true rfl, Nat.le_of_ble_eq_true rfl⟩ hl rfl rfl (Nat.le_of_ble_eq_true rfl) dL_records_4 ⟨Nat.le_of_ble_eq_true rfl, Nat.le_of_ble_eq_true rfl⟩ (fun H locs h => ?_)
    refine W.widen (k := 1) (n := 6 * 1) (by decide) (by decide) ?_
    refine lv_i2l (v := v.toInt64) C.1.ex C.1.by dL_records_7 rfl ?_
    refine z_last (w := w2) C.1 h 52 (w2_at52 κ _) (by decide) _ (w2_s52 κ _ _) dL_records_8 (fun H locs h => ?_)
    refine lv_goto (tgt := 15) C.1.ex C.1.by dL_records_9 (by decide) ?_
    refine lv_iconst (v := 0) C.1.ex C.1.by dL_records_15 (by decide) ?_
    exact z_wret (k := 1) C h (by decide) dL_records_16
def fL_block (r : String ⊕ Int32) (o : Nat → Int64) : Option (Int32 × (Nat → Int64)) :=
  Sum.elim (fun E => if E = "java/lang/IndexOutOfBoundsException" then some (1, o) else none) (fun v => some (0, vp_updL o (Int32.toNatClampNeg 0) v.toInt64)) r
abbrev rmL_block : Room := { frames := 8, cells := 2, slots := 12, locals := 126 }
set_option maxRecDepth 20000 in
set_option maxHeartbeats 4000000 in
theorem wr_block {l : Launch} {κ : zG} {n : Nat} {σ : zS} {o o' : Nat → Int64} {x1 : Int32} {x2 : Int32} {r1 : String ⊕ Int32} {k : Int32} (hl9 : l.stackTraces = false) (hf : fX9_block_0 n (κ.2.2.2 0) (κ.2.2.2 1) (κ.2.2.2 2) σ x1 x2 = some r1) (hg : fL_block r1 o = some (k, o')) : zWi l yL_block (Cond.codeWith yL_block cL_block 5 (some .int) [(0, 10, 13, 21)]) rmL_block κ [.ref (κ.2.1 0), .int x1, .int x2, .ref (κ.2.1 60)] (σ, o) 2 k (σ, o') := by
  refine zWi_of (by decide) rfl (Nat.le_of_ble_eq_true rfl) hl9 ?_
  intro p e s m below meth c A C h ls hl
  have hl : lv_has ls 5 [(0, .ref (κ.2.1 0)), (1, .int x1), (2, .int x2), (3, .ref (κ.2.1 60))] := hl
  refine lv_aload_n C.1.ex C.1.by dL_block_0 rfl (lv_at hl 3 rfl) ?_
  refine lv_iconst (v := 0) C.1.ex C.1.by dL_block_1 (by decide) ?_
  refine lv_aload_n C.1.ex C.1.by dL_block_2 rfl (lv_at hl 0 rfl) ?_
  refine lv_iload_n C.1.ex C.1.by dL_block_3 rfl (lv_at hl 1 rfl) ?_
  refine lv_iload_n C.1.ex C.1.by dL_block_4 rfl (lv_at hl 2 rfl) ?_
  rcases r1 with E | v
  · unfold fL_block at hg
    dsimp only [Sum.elim_inl] at hg
    by_cases e0 : E = "java/lang/IndexOutOfBoundsException"
    · have hg := zif_t e0 hg
      subst e0
      cases hg
      refine z_callWi_x (As := [.int x1, .int x2]) C h (ctX9_block hl9 hf) (ztk_y C (by decide) (by decide) (by decide) lkL11) (zgV lkL49 lkL50 lkL51 lkL3 lkL52) ⟨rfl, rfl⟩ hdX9_block ⟨Nat.le_of_ble_eq_true rfl, Nat.le_of_ble_eq_true rfl⟩ hl rfl rfl (Nat.le_of_ble_eq_true rfl) dL_block_5 ⟨Nat.le_of_ble_eq_true rfl, Nat.le_of_ble_eq_true rfl⟩ (fun q9 H locs h => ?_)
      refine W.widen (k := 2) (n := 6 * 2) (by decide) (by decide) ?_
      refine lv_astore (lv' := [(4, .ref q9), (0, .ref (κ.2.1 0)), (1, .int x1), (2, .int x2), (3, .ref (κ.2.1 60))]) C.1.ex C.1.by dL_block_13 hl (by decide) rfl (fun ls hl => ?_)
      refine lv_iconst (v := 1) C.1.ex C.1.by dL_block_15 (by decide) ?_
      exact z_wret (k := 2) C h (by decide) dL_block_16
    have hg := zif_f e0 hg
    cases hg
  · unfold fL_block at hg
    dsimp only [Sum.elim_inr] at hg
    cases hg
    refine z_callWi (As := [.int x1, .int x2]) C h (ctX9_block hl9 hf) (zgV lkL49 lkL50 lkL51 lkL3 lkL52) ⟨rfl, rfl⟩ hdX9_block ⟨Nat.le_of_ble_eq_true rfl, Nat.le_of_ble_eq_true rfl⟩ hl rfl rfl (Nat.le_of_ble_eq_true rfl) dL_block_5 ⟨Nat.le_of_ble_eq_true rfl, Nat.le_of_ble_eq_true rfl⟩ (fun H locs h => ?_)
    refine W.widen (k := 2) (n := 6 * 2) (by decide) (by decide) ?_
    refine lv_i2l (v := v.toInt64) C.1.ex C.1.by dL_block_8 rfl ?_
    refine z_last (w := w2) C.1 h 52 (w2_at52 κ _) (by decide) _ (w2_s52 κ _ _) dL_block_9 (fun H locs h => ?_)
    refine lv_goto (tgt := 17) C.1.ex C.1.by dL_block_10 (by decide) ?_
    refine lv_iconst (v := 0) C.1.ex C.1.by dL_block_17 (by decide) ?_
    exact z_wret (k := 2) C h (by decide) dL_block_18
def fL_told (r : String ⊕ Int64) (o : Nat → Int64) : Option (Int32 × (Nat → Int64)) :=
  Sum.elim (fun E => if E = "java/lang/IndexOutOfBoundsException" then some (1, o) else if E = "java/lang/IllegalStateException" then some (2, o) else none) (fun v => some (0, vp_updL o (Int32.toNatClampNeg 0) v)) r
abbrev rmL_told : Room := { frames := 8, cells := 2, slots := 12, locals := 126 }
set_option maxRecDepth 20000 in
set_option maxHeartbeats 4000000 in
theorem wr_told {l : Launch} {κ : zG} {n : Nat} {σ : zS} {o o' : Nat → Int64} {x1 : Int32} {x2 : Int32} {x3 : Int32} {r1 : String ⊕ Int64} {r2 : zS} {k : Int32} (hl9 : l.stackTraces = false) (hf : fX9_told_0 n (κ.2.2.2 0) (κ.2.2.2 1) (κ.2.2.2 2) σ x1 x2 x3 = some (r1, r2)) (hg : fL_told r1 o = some (k, o')) : zWi l yL_told (Cond.codeWith yL_told cL_told 6 (some .int) [(0, 11, 14, 21), (0, 11, 18, 15)]) rmL_told κ [.ref (κ.2.1 0), .int x1, .int x2, .int x3, .ref (κ.2.1 60)] (σ, o) 2 k (r2, o') := by
  refine zWi_of (by decide) rfl (Nat.le_of_ble_eq_true rfl) hl9 ?_
  intro p e s m below meth c A C h ls hl
  have hl : lv_has ls 6 [(0, .ref (κ.2.1 0)), (1, .int x1), (2, .int x2), (3, .int x3), (4, .ref (κ.2.1 60))] := hl
  refine lv_aload C.1.ex C.1.by dL_told_0 (lv_at hl 4 rfl) ?_
  refine lv_iconst (v := 0) C.1.ex C.1.by dL_told_2 (by decide) ?_
  refine lv_aload_n C.1.ex C.1.by dL_told_3 rfl (lv_at hl 0 rfl) ?_
  refine lv_iload_n C.1.ex C.1.by dL_told_4 rfl (lv_at hl 1 rfl) ?_
  refine lv_iload_n C.1.ex C.1.by dL_told_5 rfl (lv_at hl 2 rfl) ?_
  refine lv_iload_n C.1.ex C.1.by dL_told_6 rfl (lv_at hl 3 rfl) ?_
  rcases r1 with E | v
  · unfold fL_told at hg
    dsimp only [Sum.elim_inl] at hg
    by_cases e0 : E = "java/lang/IndexOutOfBoundsException"
    · have hg := zif_t e0 hg
      subst e0
      cases hg
      refine z_callWl_x (As := [.int x1, .int x2, .int x3]) C h (ctX9_told hl9 hf) (ztk_y C (by decide) (by decide) (by decide) lkL11) (zgV lkL53 lkL54 lkL55 lkL3 lkL56) ⟨rfl, rfl⟩ hdX9_told ⟨Nat.le_of_ble_eq_true rfl, Nat.le_of_ble_eq_true rfl⟩ hl rfl rfl (Nat.le_of_ble_eq_true rfl) dL_told_7 ⟨Nat.le_of_ble_eq_true rfl, Nat.le_of_ble_eq_true rfl⟩ (fun q9 H locs h => ?_)
      refine W.widen (k := 2) (n := 6 * 2) (by decide) (by decide) ?_
      refine lv_astore (lv' := [(5, .ref q9), (0, .ref (κ.2.1 0)), (1, .int x1), (2, .int x2), (3, .int x3), (4, .ref (κ.2.1 60))]) C.1.ex C.1.by dL_told_14 hl (by decide) rfl (fun ls hl => ?_)
      refine lv_iconst (v := 1) C.1.ex C.1.by dL_told_16 (by decide) ?_
      exact z_wret (k := 2) C h (by decide) dL_told_17
    have hg := zif_f e0 hg
    by_cases e1 : E = "java/lang/IllegalStateException"
    · have hg := zif_t e1 hg
      subst e1
      cases hg
      refine z_callWl_x (As := [.int x1, .int x2, .int x3]) C h (ctX9_told hl9 hf) (ztk_n C (nm := "java/lang/IndexOutOfBoundsException") (by decide) (by decide) (by decide) lkL11 (ztk_y C (by decide) (by decide) (by decide) lkL6)) (zgV lkL53 lkL54 lkL55 lkL3 lkL56) ⟨rfl, rfl⟩ hdX9_told ⟨Nat.le_of_ble_eq_true rfl, Nat.le_of_ble_eq_true rfl⟩ hl rfl rfl (Nat.le_of_ble_eq_true rfl) dL_told_7 ⟨Nat.le_of_ble_eq_true rfl, Nat.le_of_ble_eq_true rfl⟩ (fun q9 H locs h => ?_)
      refine W.widen (k := 2) (n := 6 * 2) (by decide) (by decide) ?_
      refine lv_astore (lv' := [(5, .ref q9), (0, .ref (κ.2.1 0)), (1, .int x1), (2, .int x2), (3, .int x3), (4, .ref (κ.2.1 60))]) C.1.ex C.1.by dL_told_18 hl (by decide) rfl (fun ls hl => ?_)
      refine lv_iconst (v := 2) C.1.ex C.1.by dL_told_20 (by decide) ?_
      exact z_wret (k := 2) C h (by decide) dL_told_21
    have hg := zif_f e1 hg
    cases hg
  · unfold fL_told at hg
    dsimp only [Sum.elim_inr] at hg
    cases hg
    refine z_callWl (As := [.int x1, .int x2, .int x3]) C h (ctX9_told hl9 hf) (zgV lkL53 lkL54 lkL55 lkL3 lkL56) ⟨rfl, rfl⟩ hdX9_told ⟨Nat.le_of_ble_eq_true rfl, Nat.le_of_ble_eq_true rfl⟩ hl rfl rfl (Nat.le_of_ble_eq_true rfl) dL_told_7 ⟨Nat.le_of_ble_eq_true rfl, Nat.le_of_ble_eq_true rfl⟩ (fun H locs h => ?_)
    refine W.widen (k := 2) (n := 6 * 2) (by decide) (by decide) ?_
    refine z_last (w := w2) C.1 h 52 (w2_at52 κ _) (by decide) _ (w2_s52 κ _ _) dL_told_10 (fun H locs h => ?_)
    refine lv_goto (tgt := 22) C.1.ex C.1.by dL_told_11 (by decide) ?_
    refine lv_iconst (v := 0) C.1.ex C.1.by dL_told_22 (by decide) ?_
    exact z_wret (k := 2) C h (by decide) dL_told_23
def fL_rank (r : String ⊕ Int32) (o : Nat → Int64) : Option (Int32 × (Nat → Int64)) :=
  Sum.elim (fun E => if E = "java/lang/IndexOutOfBoundsException" then some (1, o) else if E = "java/lang/IllegalStateException" then some (2, o) else none) (fun v => some (0, vp_updL o (Int32.toNatClampNeg 0) v.toInt64)) r
abbrev rmL_rank : Room := { frames := 8, cells := 2, slots := 12, locals := 132 }
set_option maxRecDepth 20000 in
set_option maxHeartbeats 4000000 in
theorem wr_rank {l : Launch} {κ : zG} {n : Nat} {σ : zS} {o o' : Nat → Int64} {x1 : Int32} {x2 : Int64} {r1 : String ⊕ Int32} {r2 : zS} {k : Int32} (hl9 : l.stackTraces = false) (hf : fX9_rank_0 n (κ.2.2.2 0) (κ.2.2.2 1) (κ.2.2.2 2) σ x1 x2 = some (r1, r2)) (hg : fL_rank r1 o = some (k, o')) : zWi l yL_rank (Cond.codeWith yL_rank cL_rank 6 (some .int) [(0, 11, 14, 21), (0, 11, 18, 15)]) rmL_rank κ [.ref (κ.2.1 0), .int x1, .long x2, .ref (κ.2.1 60)] (σ, o) 2 k (r2, o') := by
  refine zWi_of (by decide) rfl (Nat.le_of_ble_eq_true rfl) hl9 ?_
  intro p e s m below meth c A C h ls hl
  have hl : lv_has ls 6 [(0, .ref (κ.2.1 0)), (1, .int x1), (2, .long x2), (4, .ref (κ.2.1 60))] := hl
  refine lv_aload C.1.ex C.1.by dL_rank_0 (lv_at hl 3 rfl) ?_
  refine lv_iconst (v := 0) C.1.ex C.1.by dL_rank_2 (by decide) ?_
  refine lv_aload_n C.1.ex C.1.by dL_rank_3 rfl (lv_at hl 0 rfl) ?_
  refine lv_iload_n C.1.ex C.1.by dL_rank_4 rfl (lv_at hl 1 rfl) ?_
  refine lv_lload_n C.1.ex C.1.by dL_rank_5 rfl (lv_at hl 2 rfl) ?_
  rcases r1 with E | v
  · unfold fL_rank at hg
    dsimp only [Sum.elim_inl] at hg
    by_cases e0 : E = "java/lang/IndexOutOfBoundsException"
    · have hg := zif_t e0 hg
      subst e0
      cases hg
      refine z_callWi_x (As := [.int x1, .long x2]) C h (ctX9_rank hl9 hf) (ztk_y C (by decide) (by decide) (by decide) lkL11) (zgV lkL57 lkL58 lkL59 lkL3 lkL60) ⟨rfl, rfl⟩ hdX9_rank ⟨Nat.le_of_ble_eq_true rfl, Nat.le_of_ble_eq_true rfl⟩ hl rfl rfl (Nat.le_of_ble_eq_true rfl) dL_rank_6 ⟨Nat.le_of_ble_eq_true rfl, Nat.le_of_ble_eq_true rfl⟩ (fun q9 H locs h => ?_)
      refine W.widen (k := 2) (n := 6 * 2) (by decide) (by decide) ?_
      refine lv_astore (lv' := [(5, .ref q9), (0, .ref (κ.2.1 0)), (1, .int x1), (2, .long x2), (4, .ref (κ.2.1 60))]) C.1.ex C.1.by dL_rank_14 hl (by decide) rfl (fun ls hl => ?_)
      refine lv_iconst (v := 1) C.1.ex C.1.by dL_rank_16 (by decide) ?_
      exact z_wret (k := 2) C h (by decide) dL_rank_17
    have hg := zif_f e0 hg
    by_cases e1 : E = "java/lang/IllegalStateException"
    · have hg := zif_t e1 hg
      subst e1
      cases hg
      refine z_callWi_x (As := [.int x1, .long x2]) C h (ctX9_rank hl9 hf) (ztk_n C (nm := "java/lang/IndexOutOfBoundsException") (by decide) (by decide) (by decide) lkL11 (ztk_y C (by decide) (by decide) (by decide) lkL6)) (zgV lkL57 lkL58 lkL59 lkL3 lkL60) ⟨rfl, rfl⟩ hdX9_rank ⟨Nat.le_of_ble_eq_true rfl, Nat.le_of_ble_eq_true rfl⟩ hl rfl rfl (Nat.le_of_ble_eq_true rfl) dL_rank_6 ⟨Nat.le_of_ble_eq_true rfl, Nat.le_of_ble_eq_true rfl⟩ (fun q9 H locs h => ?_)
      refine W.widen (k := 2) (n := 6 * 2) (by decide) (by decide) ?_
      refine lv_astore (lv' := [(5, .ref q9), (0, .ref (κ.2.1 0)), (1, .int x1), (2, .long x2), (4, .ref (κ.2.1 60))]) C.1.ex C.1.by dL_rank_18 hl (by decide) rfl (fun ls hl => ?_)
      refine lv_iconst (v := 2) C.1.ex C.1.by dL_rank_20 (by decide) ?_
      exact z_wret (k := 2) C h (by decide) dL_rank_21
    have hg := zif_f e1 hg
    cases hg
  · unfold fL_rank at hg
    dsimp only [Sum.elim_inr] at hg
    cases hg
    refine z_callWi (As := [.int x1, .long x2]) C h (ctX9_rank hl9 hf) (zgV lkL57 lkL58 lkL59 lkL3 lkL60) ⟨rfl, rfl⟩ hdX9_rank ⟨Nat.le_of_ble_eq_true rfl, Nat.le_of_ble_eq_true rfl⟩ hl rfl rfl (Nat.le_of_ble_eq_true rfl) dL_rank_6 ⟨Nat.le_of_ble_eq_true rfl, Nat.le_of_ble_eq_true rfl⟩ (fun H locs h => ?_)
    refine W.widen (k := 2) (n := 6 * 2) (by decide) (by decide) ?_
    refine lv_i2l (v := v.toInt64) C.1.ex C.1.by dL_rank_9 rfl ?_
    refine z_last (w := w2) C.1 h 52 (w2_at52 κ _) (by decide) _ (w2_s52 κ _ _) dL_rank_10 (fun H locs h => ?_)
    refine lv_goto (tgt := 22) C.1.ex C.1.by dL_rank_11 (by decide) ?_
    refine lv_iconst (v := 0) C.1.ex C.1.by dL_rank_22 (by decide) ?_
    exact z_wret (k := 2) C h (by decide) dL_rank_23
def fL_drop (r : String ⊕ Int32) (o : Nat → Int64) : Option (Int32 × (Nat → Int64)) :=
  Sum.elim (fun E => if E = "java/lang/IndexOutOfBoundsException" then some (1, o) else if E = "java/lang/IllegalStateException" then some (2, o) else none) (fun v => some (0, vp_updL o (Int32.toNatClampNeg 0) v.toInt64)) r
abbrev rmL_drop : Room := { frames := 8, cells := 2, slots := 12, locals := 124 }
set_option maxRecDepth 20000 in
set_option maxHeartbeats 4000000 in
theorem wr_drop {l : Launch} {κ : zG} {n : Nat} {σ : zS} {o o' : Nat → Int64} {x1 : Int32} {r1 : String ⊕ Int32} {r2 : zS} {k : Int32} (hl9 : l.stackTraces = false) (hf : fX9_drop_0 n (κ.2.2.2 0) (κ.2.2.2 1) (κ.2.2.2 2) σ x1 = some (r1, r2)) (hg : fL_drop r1 o = some (k, o')) : zWi l yL_drop (Cond.codeWith yL_drop cL_drop 4 (some .int) [(0, 9, 12, 21), (0, 9, 15, 15)]) rmL_drop κ [.ref (κ.2.1 0), .int x1, .ref (κ.2.1 60)] (σ, o) 2 k (r2, o') := by
  refine zWi_of (by decide) rfl (Nat.le_of_ble_eq_true rfl) hl9 ?_
  intro p e s m below meth c A C h ls hl
  have hl : lv_has ls 4 [(0, .ref (κ.2.1 0)), (1, .int x1), (2, .ref (κ.2.1 60))] := hl
  refine lv_aload_n C.1.ex C.1.by dL_drop_0 rfl (lv_at hl 2 rfl) ?_
  refine lv_iconst (v := 0) C.1.ex C.1.by dL_drop_1 (by decide) ?_
  refine lv_aload_n C.1.ex C.1.by dL_drop_2 rfl (lv_at hl 0 rfl) ?_
  refine lv_iload_n C.1.ex C.1.by dL_drop_3 rfl (lv_at hl 1 rfl) ?_
  rcases r1 with E | v
  · unfold fL_drop at hg
    dsimp only [Sum.elim_inl] at hg
    by_cases e0 : E = "java/lang/IndexOutOfBoundsException"
    · have hg := zif_t e0 hg
      subst e0
      cases hg
      refine z_callWi_x (As := [.int x1]) C h (ctX9_drop hl9 hf) (ztk_y C (by decide) (by decide) (by decide) lkL11) (zgV lkL61 lkL62 lkL63 lkL3 lkL64) ⟨rfl, rfl⟩ hdX9_drop ⟨Nat.le_of_ble_eq_true rfl, Nat.le_of_ble_eq_true rfl⟩ hl rfl rfl (Nat.le_of_ble_eq_true rfl) dL_drop_4 ⟨Nat.le_of_ble_eq_true rfl, Nat.le_of_ble_eq_true rfl⟩ (fun q9 H locs h => ?_)
      refine W.widen (k := 2) (n := 6 * 2) (by decide) (by decide) ?_
      refine lv_astore_n (lv' := [(3, .ref q9), (0, .ref (κ.2.1 0)), (1, .int x1), (2, .ref (κ.2.1 60))]) C.1.ex C.1.by dL_drop_12 rfl hl (by decide) rfl (fun ls hl => ?_)
      refine lv_iconst (v := 1) C.1.ex C.1.by dL_drop_13 (by decide) ?_
      exact z_wret (k := 2) C h (by decide) dL_drop_14
    have hg := zif_f e0 hg
    by_cases e1 : E = "java/lang/IllegalStateException"
    · have hg := zif_t e1 hg
      subst e1
      cases hg
      refine z_callWi_x (As := [.int x1]) C h (ctX9_drop hl9 hf) (ztk_n C (nm := "java/lang/IndexOutOfBoundsException") (by decide) (by decide) (by decide) lkL11 (ztk_y C (by decide) (by decide) (by decide) lkL6)) (zgV lkL61 lkL62 lkL63 lkL3 lkL64) ⟨rfl, rfl⟩ hdX9_drop ⟨Nat.le_of_ble_eq_true rfl, Nat.le_of_ble_eq_true rfl⟩ hl rfl rfl (Nat.le_of_ble_eq_true rfl) dL_drop_4 ⟨Nat.le_of_ble_eq_true rfl, Nat.le_of_ble_eq_true rfl⟩ (fun q9 H locs h => ?_)
      refine W.widen (k := 2) (n := 6 * 2) (by decide) (by decide) ?_
      refine lv_astore_n (lv' := [(3, .ref q9), (0, .ref (κ.2.1 0)), (1, .int x1), (2, .ref (κ.2.1 60))]) C.1.ex C.1.by dL_drop_15 rfl hl (by decide) rfl (fun ls hl => ?_)
      refine lv_iconst (v := 2) C.1.ex C.1.by dL_drop_16 (by decide) ?_
      exact z_wret (k := 2) C h (by decide) dL_drop_17
    have hg := zif_f e1 hg
    cases hg
  · unfold fL_drop at hg
    dsimp only [Sum.elim_inr] at hg
    cases hg
    refine z_callWi (As := [.int x1]) C h (ctX9_drop hl9 hf) (zgV lkL61 lkL62 lkL63 lkL3 lkL64) ⟨rfl, rfl⟩ hdX9_drop ⟨Nat.le_of_ble_eq_true rfl, Nat.le_of_ble_eq_true rfl⟩ hl rfl rfl (Nat.le_of_ble_eq_true rfl) dL_drop_4 ⟨Nat.le_of_ble_eq_true rfl, Nat.le_of_ble_eq_true rfl⟩ (fun H locs h => ?_)
    refine W.widen (k := 2) (n := 6 * 2) (by decide) (by decide) ?_
    refine lv_i2l (v := v.toInt64) C.1.ex C.1.by dL_drop_7 rfl ?_
    refine z_last (w := w2) C.1 h 52 (w2_at52 κ _) (by decide) _ (w2_s52 κ _ _) dL_drop_8 (fun H locs h => ?_)
    refine lv_goto (tgt := 18) C.1.ex C.1.by dL_drop_9 (by decide) ?_
    refine lv_iconst (v := 0) C.1.ex C.1.by dL_drop_18 (by decide) ?_
    exact z_wret (k := 2) C h (by decide) dL_drop_19
def fL_count (r : String ⊕ Int32) (o : Nat → Int64) : Option (Int32 × (Nat → Int64)) :=
  Sum.elim (fun E => if E = "java/lang/IllegalArgumentException" then some (1, o) else none) (fun v => some (0, vp_updL o (Int32.toNatClampNeg 0) v.toInt64)) r
abbrev rmL_count : Room := { frames := 7, cells := 1, slots := 6, locals := 103 }
set_option maxRecDepth 20000 in
set_option maxHeartbeats 4000000 in
theorem wr_count {l : Launch} {κ : zG} {n : Nat} {σ : zS} {o o' : Nat → Int64} {x1 : Int32} {r1 : String ⊕ Int32} {k : Int32} (hl9 : l.stackTraces = false) (hf : fX9_count_0 n (κ.2.2.2 0) (κ.2.2.2 1) (κ.2.2.2 2) σ x1 = some r1) (hg : fL_count r1 o = some (k, o')) : zWi l yL_count (Cond.codeWith yL_count cL_count 4 (some .int) [(0, 9, 12, 13)]) rmL_count κ [.ref (κ.2.1 0), .int x1, .ref (κ.2.1 60)] (σ, o) 1 k (σ, o') := by
  refine zWi_of (by decide) rfl (Nat.le_of_ble_eq_true rfl) hl9 ?_
  intro p e s m below meth c A C h ls hl
  have hl : lv_has ls 4 [(0, .ref (κ.2.1 0)), (1, .int x1), (2, .ref (κ.2.1 60))] := hl
  refine lv_aload_n C.1.ex C.1.by dL_count_0 rfl (lv_at hl 2 rfl) ?_
  refine lv_iconst (v := 0) C.1.ex C.1.by dL_count_1 (by decide) ?_
  refine lv_aload_n C.1.ex C.1.by dL_count_2 rfl (lv_at hl 0 rfl) ?_
  refine lv_iload_n C.1.ex C.1.by dL_count_3 rfl (lv_at hl 1 rfl) ?_
  rcases r1 with E | v
  · unfold fL_count at hg
    dsimp only [Sum.elim_inl] at hg
    by_cases e0 : E = "java/lang/IllegalArgumentException"
    · have hg := zif_t e0 hg
      subst e0
      cases hg
      refine z_callWi_x (As := [.int x1]) C h (ctX9_count hl9 hf) (ztk_y C (by decide) (by decide) (by decide) lkL5) (zgV lkL65 lkL66 lkL67 lkL3 lkL68) ⟨rfl, rfl⟩ hdX9_count ⟨Nat.le_of_ble_eq_true rfl, Nat.le_of_ble_eq_true rfl⟩ hl rfl rfl (Nat.le_of_ble_eq_true rfl) dL_count_4 ⟨Nat.le_of_ble_eq_true rfl, Nat.le_of_ble_eq_true rfl⟩ (fun q9 H locs h => ?_)
      refine W.widen (k := 1) (n := 6 * 1) (by decide) (by decide) ?_
      refine lv_astore_n (lv' := [(3, .ref q9), (0, .ref (κ.2.1 0)), (1, .int x1), (2, .ref (κ.2.1 60))]) C.1.ex C.1.by dL_count_12 rfl hl (by decide) rfl (fun ls hl => ?_)
      refine lv_iconst (v := 1) C.1.ex C.1.by dL_count_13 (by decide) ?_
      exact z_wret (k := 1) C h (by decide) dL_count_14
    have hg := zif_f e0 hg
    cases hg
  · unfold fL_count at hg
    dsimp only [Sum.elim_inr] at hg
    cases hg
    refine z_callWi (As := [.int x1]) C h (ctX9_count hl9 hf) (zgV lkL65 lkL66 lkL67 lkL3 lkL68) ⟨rfl, rfl⟩ hdX9_count ⟨Nat.le_of_ble_eq_true rfl, Nat.le_of_ble_eq_true rfl⟩ hl rfl rfl (Nat.le_of_ble_eq_true rfl) dL_count_4 ⟨Nat.le_of_ble_eq_true rfl, Nat.le_of_ble_eq_true rfl⟩ (fun H locs h => ?_)
    refine W.widen (k := 1) (n := 6 * 1) (by decide) (by decide) ?_
    refine lv_i2l (v := v.toInt64) C.1.ex C.1.by dL_count_7 rfl ?_
    refine z_last (w := w2) C.1 h 52 (w2_at52 κ _) (by decide) _ (w2_s52 κ _ _) dL_count_8 (fun H locs h => ?_)
    refine lv_goto (tgt := 15) C.1.ex C.1.by dL_count_9 (by decide) ?_
    refine lv_iconst (v := 0) C.1.ex C.1.by dL_count_15 (by decide) ?_
    exact z_wret (k := 1) C h (by decide) dL_count_16
def fL_crash (r : String ⊕ Unit) (o : Nat → Int64) : Option (Int32 × (Nat → Int64)) :=
  Sum.elim (fun E => if E = "java/lang/IllegalArgumentException" then some (1, o) else if E = "java/lang/IllegalStateException" then some (2, o) else none) (fun _ => some (0, o)) r
abbrev rmL_crash : Room := { frames := 8, cells := 1, slots := 6, locals := 123 }
set_option maxRecDepth 20000 in
set_option maxHeartbeats 4000000 in
theorem wr_crash {l : Launch} {κ : zG} {n : Nat} {σ : zS} {o o' : Nat → Int64} {x1 : Int32} {r1 : String ⊕ Unit} {r2 : zS} {k : Int32} (hl9 : l.stackTraces = false) (hf : fX9_crash_0 n (κ.2.2.2 0) (κ.2.2.2 1) (κ.2.2.2 2) σ x1 = some (r1, r2)) (hg : fL_crash r1 o = some (k, o')) : zWi l yL_crash (Cond.codeWith yL_crash cL_crash 3 (some .int) [(0, 5, 8, 13), (0, 5, 11, 15)]) rmL_crash κ [.ref (κ.2.1 0), .int x1] (σ, o) 1 k (r2, o') := by
  refine zWi_of (by decide) rfl (Nat.le_of_ble_eq_true rfl) hl9 ?_
  intro p e s m below meth c A C h ls hl
  have hl : lv_has ls 3 [(0, .ref (κ.2.1 0)), (1, .int x1)] := hl
  refine lv_aload_n C.1.ex C.1.by dL_crash_0 rfl (lv_at hl 0 rfl) ?_
  refine lv_iload_n C.1.ex C.1.by dL_crash_1 rfl (lv_at hl 1 rfl) ?_
  rcases r1 with E | v
  · unfold fL_crash at hg
    dsimp only [Sum.elim_inl] at hg
    by_cases e0 : E = "java/lang/IllegalArgumentException"
    · have hg := zif_t e0 hg
      subst e0
      cases hg
      refine z_callWv_x (As := [.int x1]) C h (ctX9_crash hl9 hf) (ztk_y C (by decide) (by decide) (by decide) lkL5) (zgV lkL69 lkL70 lkL71 lkL3 lkL72) ⟨rfl, rfl⟩ hdX9_crash ⟨Nat.le_of_ble_eq_true rfl, Nat.le_of_ble_eq_true rfl⟩ hl rfl rfl (Nat.le_of_ble_eq_true rfl) dL_crash_2 ⟨Nat.le_of_ble_eq_true rfl, Nat.le_of_ble_eq_true rfl⟩ (fun q9 H locs h => ?_)
      refine W.widen (k := 1) (n := 6 * 1) (by decide) (by decide) ?_
      refine lv_astore_n (lv' := [(2, .ref q9), (0, .ref (κ.2.1 0)), (1, .int x1)]) C.1.ex C.1.by dL_crash_8 rfl hl (by decide) rfl (fun ls hl => ?_)
      refine lv_iconst (v := 1) C.1.ex C.1.by dL_crash_9 (by decide) ?_
      exact z_wret (k := 1) C h (by decide) dL_crash_10
    have hg := zif_f e0 hg
    by_cases e1 : E = "java/lang/IllegalStateException"
    · have hg := zif_t e1 hg
      subst e1
      cases hg
      refine z_callWv_x (As := [.int x1]) C h (ctX9_crash hl9 hf) (ztk_n C (nm := "java/lang/IllegalArgumentException") (by decide) (by decide) (by decide) lkL5 (ztk_y C (by decide) (by decide) (by decide) lkL6)) (zgV lkL69 lkL70 lkL71 lkL3 lkL72) ⟨rfl, rfl⟩ hdX9_crash ⟨Nat.le_of_ble_eq_true rfl, Nat.le_of_ble_eq_true rfl⟩ hl rfl rfl (Nat.le_of_ble_eq_true rfl) dL_crash_2 ⟨Nat.le_of_ble_eq_true rfl, Nat.le_of_ble_eq_true rfl⟩ (fun q9 H locs h => ?_)
      refine W.widen (k := 1) (n := 6 * 1) (by decide) (by decide) ?_
      refine lv_astore_n (lv' := [(2, .ref q9), (0, .ref (κ.2.1 0)), (1, .int x1)]) C.1.ex C.1.by dL_crash_11 rfl hl (by decide) rfl (fun ls hl => ?_)
      refine lv_iconst (v := 2) C.1.ex C.1.by dL_crash_12 (by decide) ?_
      exact z_wret (k := 1) C h (by decide) dL_crash_13
    have hg := zif_f e1 hg
    cases hg
  · unfold fL_crash at hg
    dsimp only [Sum.elim_inr] at hg
    cases hg
    refine z_callWv (As := [.int x1]) C h (ctX9_crash hl9 hf) (zgV lkL69 lkL70 lkL71 lkL3 lkL72) ⟨rfl, rfl⟩ hdX9_crash ⟨Nat.le_of_ble_eq_true rfl, Nat.le_of_ble_eq_true rfl⟩ hl rfl rfl (Nat.le_of_ble_eq_true rfl) dL_crash_2 ⟨Nat.le_of_ble_eq_true rfl, Nat.le_of_ble_eq_true rfl⟩ (fun H locs h => ?_)
    refine W.widen (k := 1) (n := 6 * 1) (by decide) (by decide) ?_
    refine lv_goto (tgt := 14) C.1.ex C.1.by dL_crash_5 (by decide) ?_
    refine lv_iconst (v := 0) C.1.ex C.1.by dL_crash_14 (by decide) ?_
    exact z_wret (k := 1) C h (by decide) dL_crash_15
def fL_up (r : String ⊕ Int32) (o : Nat → Int64) : Option (Int32 × (Nat → Int64)) :=
  Sum.elim (fun E => if E = "java/lang/IllegalStateException" then some (1, o) else none) (fun v => some (0, vp_updL o (Int32.toNatClampNeg 0) v.toInt64)) r
abbrev rmL_up : Room := { frames := 7, cells := 1, slots := 6, locals := 102 }
set_option maxRecDepth 20000 in
set_option maxHeartbeats 4000000 in
theorem wr_up {l : Launch} {κ : zG} {n : Nat} {σ : zS} {o o' : Nat → Int64} {r1 : String ⊕ Int32} {r2 : zS} {k : Int32} (hl9 : l.stackTraces = false) (hf : fX9_up_0 n (κ.2.2.2 0) (κ.2.2.2 1) (κ.2.2.2 2) σ = some (r1, r2)) (hg : fL_up r1 o = some (k, o')) : zWi l yL_up (Cond.codeWith yL_up cL_up 3 (some .int) [(0, 8, 11, 15)]) rmL_up κ [.ref (κ.2.1 0), .ref (κ.2.1 60)] (σ, o) 1 k (r2, o') := by
  refine zWi_of (by decide) rfl (Nat.le_of_ble_eq_true rfl) hl9 ?_
  intro p e s m below meth c A C h ls hl
  have hl : lv_has ls 3 [(0, .ref (κ.2.1 0)), (1, .ref (κ.2.1 60))] := hl
  refine lv_aload_n C.1.ex C.1.by dL_up_0 rfl (lv_at hl 1 rfl) ?_
  refine lv_iconst (v := 0) C.1.ex C.1.by dL_up_1 (by decide) ?_
  refine lv_aload_n C.1.ex C.1.by dL_up_2 rfl (lv_at hl 0 rfl) ?_
  rcases r1 with E | v
  · unfold fL_up at hg
    dsimp only [Sum.elim_inl] at hg
    by_cases e0 : E = "java/lang/IllegalStateException"
    · have hg := zif_t e0 hg
      subst e0
      cases hg
      refine z_callWi_x (As := []) C h (ctX9_up hl9 hf) (ztk_y C (by decide) (by decide) (by decide) lkL6) (zgV lkL73 lkL74 lkL75 lkL3 lkL76) ⟨rfl, rfl⟩ hdX9_up ⟨Nat.le_of_ble_eq_true rfl, Nat.le_of_ble_eq_true rfl⟩ hl rfl rfl (Nat.le_of_ble_eq_true rfl) dL_up_3 ⟨Nat.le_of_ble_eq_true rfl, Nat.le_of_ble_eq_true rfl⟩ (fun q9 H locs h => ?_)
      refine W.widen (k := 1) (n := 6 * 1) (by decide) (by decide) ?_
      refine lv_astore_n (lv' := [(2, .ref q9), (0, .ref (κ.2.1 0)), (1, .ref (κ.2.1 60))]) C.1.ex C.1.by dL_up_11 rfl hl (by decide) rfl (fun ls hl => ?_)
      refine lv_iconst (v := 1) C.1.ex C.1.by dL_up_12 (by decide) ?_
      exact z_wret (k := 1) C h (by decide) dL_up_13
    have hg := zif_f e0 hg
    cases hg
  · unfold fL_up at hg
    dsimp only [Sum.elim_inr] at hg
    cases hg
    refine z_callWi (As := []) C h (ctX9_up hl9 hf) (zgV lkL73 lkL74 lkL75 lkL3 lkL76) ⟨rfl, rfl⟩ hdX9_up ⟨Nat.le_of_ble_eq_true rfl, Nat.le_of_ble_eq_true rfl⟩ hl rfl rfl (Nat.le_of_ble_eq_true rfl) dL_up_3 ⟨Nat.le_of_ble_eq_true rfl, Nat.le_of_ble_eq_true rfl⟩ (fun H locs h => ?_)
    refine W.widen (k := 1) (n := 6 * 1) (by decide) (by decide) ?_
    refine lv_i2l (v := v.toInt64) C.1.ex C.1.by dL_up_6 rfl ?_
    refine z_last (w := w2) C.1 h 52 (w2_at52 κ _) (by decide) _ (w2_s52 κ _ _) dL_up_7 (fun H locs h => ?_)
    refine lv_goto (tgt := 14) C.1.ex C.1.by dL_up_8 (by decide) ?_
    refine lv_iconst (v := 0) C.1.ex C.1.by dL_up_14 (by decide) ?_
    exact z_wret (k := 1) C h (by decide) dL_up_15
