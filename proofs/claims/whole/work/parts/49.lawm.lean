def sim_width (n nb sz mm : Nat) (J : Nat → zS → zS → Prop) : Prop := ∀ (j : Nat) (σ τ : zS) (o : Nat → Int64) (a1 : Int32), j < 600 → J j σ τ → ∃ (r1 : String ⊕ Unit) (σ' : zS) (k : Int32) (o' : Nat → Int64) (τ' : zS), fX9_width_0 n nb sz mm σ a1 = some (r1, σ') ∧ fL_width r1 o = some (k, o') ∧ fX10_width_0 n τ a1 = some τ' ∧ fX10_thrown_0 n τ' = some k ∧ J (j + 1) σ' τ'
def sim_key (n nb sz mm : Nat) (J : Nat → zS → zS → Prop) : Prop := ∀ (j : Nat) (σ τ : zS) (o : Nat → Int64) (a1 : Int32) (a2 : Int32), (a2 = 0 ∨ a2 = 1) → j < 600 → J j σ τ → ∃ (r1 : String ⊕ Int32) (σ' : zS) (k : Int32) (o' : Nat → Int64) (rb : Int32) (τ' : zS), fX9_key_0 n nb sz mm σ a1 a2 = some (r1, σ') ∧ fL_key r1 o = some (k, o') ∧ fX10_key_0 n τ a1 a2 = some (rb, τ') ∧ fX10_thrown_0 n τ' = some k ∧ (k = 0 → o' (Int32.toNatClampNeg 0) = rb.toInt64) ∧ J (j + 1) σ' τ'
def sim_mode (n nb sz mm : Nat) (J : Nat → zS → zS → Prop) : Prop := ∀ (j : Nat) (σ τ : zS) (o : Nat → Int64) (a1 : Int32), j < 600 → J j σ τ → ∃ (r1 : String ⊕ Int32) (σ' : zS) (k : Int32) (o' : Nat → Int64) (rb : Int32) (τ' : zS), fX9_mode_0 n nb sz mm σ a1 = some (r1, σ') ∧ fL_mode r1 o = some (k, o') ∧ fX10_mode_0 n τ a1 = some (rb, τ') ∧ fX10_thrown_0 n τ' = some k ∧ (k = 0 → o' (Int32.toNatClampNeg 0) = rb.toInt64) ∧ J (j + 1) σ' τ'
def sim_feed (n nb sz mm : Nat) (J : Nat → zS → zS → Prop) : Prop := ∀ (j : Nat) (σ τ : zS) (o : Nat → Int64) (a1 : Int64) (a2 : Int64) (a3 : Int64) (a4 : Int64), j < 600 → J j σ τ → ∃ (r1 : String ⊕ Int32) (σ' : zS) (k : Int32) (o' : Nat → Int64) (rb : Int32) (τ' : zS), fX9_feed_0 n nb sz mm σ a1 a2 a3 a4 = some (r1, σ') ∧ fL_feed r1 o = some (k, o') ∧ fX10_feed_0 n τ a1 a2 a3 a4 = some (rb, τ') ∧ fX10_thrown_0 n τ' = some k ∧ (k = 0 → o' (Int32.toNatClampNeg 0) = rb.toInt64) ∧ J (j + 1) σ' τ'
def sim_run (n nb sz mm : Nat) (J : Nat → zS → zS → Prop) : Prop := ∀ (j : Nat) (σ τ : zS) (o : Nat → Int64) (a1 : Int64) (a2 : Int32) (a3 : Int32), j < 600 → J j σ τ → ∃ (r1 : String ⊕ Int32) (σ' : zS) (k : Int32) (o' : Nat → Int64) (rb : Int32) (τ' : zS), fX9_run_0 n nb sz mm σ a1 a2 a3 = some (r1, σ') ∧ fL_run r1 o = some (k, o') ∧ fX10_run_0 n τ a1 a2 a3 = some (rb, τ') ∧ fX10_thrown_0 n τ' = some k ∧ (k = 0 → o' (Int32.toNatClampNeg 0) = rb.toInt64) ∧ J (j + 1) σ' τ'
def sim_form (n nb sz mm : Nat) (J : Nat → zS → zS → Prop) : Prop := ∀ (j : Nat) (σ τ : zS) (o : Nat → Int64) (a1 : Int32), j < 600 → J j σ τ → ∃ (r1 : String ⊕ Int32) (σ' : zS) (k : Int32) (o' : Nat → Int64) (rb : Int32) (τ' : zS), fX9_form_0 n nb sz mm σ a1 = some (r1, σ') ∧ fL_form r1 o = some (k, o') ∧ fX10_form_0 n τ a1 = some (rb, τ') ∧ fX10_thrown_0 n τ' = some k ∧ (k = 0 → o' (Int32.toNatClampNeg 0) = rb.toInt64) ∧ J (j + 1) σ' τ'
def sim_pass (n nb sz mm : Nat) (J : Nat → zS → zS → Prop) : Prop := ∀ (j : Nat) (σ τ : zS) (o : Nat → Int64) (a1 : Int32), j < 600 → J j σ τ → ∃ (r1 : String ⊕ Int32) (σ' : zS) (k : Int32) (o' : Nat → Int64) (rb : Int32) (τ' : zS), fX9_pass_0 n nb sz mm σ a1 = some (r1, σ') ∧ fL_pass r1 o = some (k, o') ∧ fX10_pass_0 n τ a1 = some (rb, τ') ∧ fX10_thrown_0 n τ' = some k ∧ (k = 0 → o' (Int32.toNatClampNeg 0) = rb.toInt64) ∧ J (j + 1) σ' τ'
def sim_best (n nb sz mm : Nat) (J : Nat → zS → zS → Prop) : Prop := ∀ (j : Nat) (σ τ : zS) (o : Nat → Int64) (a1 : Int32), j < 600 → J j σ τ → ∃ (r1 : String ⊕ Int32) (σ' : zS) (k : Int32) (o' : Nat → Int64) (rb : Int32) (τ' : zS), fX9_best_0 n nb sz mm σ a1 = some (r1, σ') ∧ fL_best r1 o = some (k, o') ∧ fX10_best_0 n τ a1 = some (rb, τ') ∧ fX10_thrown_0 n τ' = some k ∧ (k = 0 → o' (Int32.toNatClampNeg 0) = rb.toInt64) ∧ J (j + 1) σ' τ'
def sim_poly (n nb sz mm : Nat) (J : Nat → zS → zS → Prop) : Prop := ∀ (j : Nat) (σ τ : zS) (o : Nat → Int64) (a1 : Int32), j < 600 → J j σ τ → ∃ (r1 : String ⊕ Int32) (σ' : zS) (k : Int32) (o' : Nat → Int64) (rb : Int32) (τ' : zS), fX9_poly_0 n nb sz mm σ a1 = some (r1, σ') ∧ fL_poly r1 o = some (k, o') ∧ fX10_poly_0 n τ a1 = some (rb, τ') ∧ fX10_thrown_0 n τ' = some k ∧ (k = 0 → o' (Int32.toNatClampNeg 0) = rb.toInt64) ∧ J (j + 1) σ' τ'
def sim_plan (n nb sz mm : Nat) (J : Nat → zS → zS → Prop) : Prop := ∀ (j : Nat) (σ τ : zS) (o : Nat → Int64) (a1 : Int32), j < 600 → J j σ τ → ∃ (r1 : String ⊕ Int32) (σ' : zS) (k : Int32) (o' : Nat → Int64) (rb : Int32) (τ' : zS), fX9_plan_0 n nb sz mm σ a1 = some (r1, σ') ∧ fL_plan r1 o = some (k, o') ∧ fX10_plan_0 n τ a1 = some (rb, τ') ∧ fX10_thrown_0 n τ' = some k ∧ (k = 0 → o' (Int32.toNatClampNeg 0) = rb.toInt64) ∧ J (j + 1) σ' τ'
def sim_runs (n nb sz mm : Nat) (J : Nat → zS → zS → Prop) : Prop := ∀ (j : Nat) (σ τ : zS), j < 600 → J j σ τ → ∃ (k : Int32) (τ' : zS), fX9_runs_0 n nb sz mm σ = some k ∧ fX10_runs_0 n τ = some (k, τ') ∧ J (j + 1) σ τ'
def sim_records (n nb sz mm : Nat) (J : Nat → zS → zS → Prop) : Prop := ∀ (j : Nat) (σ τ : zS) (o : Nat → Int64) (a1 : Int32), j < 600 → J j σ τ → ∃ (r1 : String ⊕ Int32) (k : Int32) (o' : Nat → Int64) (rb : Int32) (τ' : zS), fX9_records_0 n nb sz mm σ a1 = some r1 ∧ fL_records r1 o = some (k, o') ∧ fX10_records_0 n τ a1 = some (rb, τ') ∧ fX10_thrown_0 n τ' = some k ∧ (k = 0 → o' (Int32.toNatClampNeg 0) = rb.toInt64) ∧ J (j + 1) σ τ'
def sim_block (n nb sz mm : Nat) (J : Nat → zS → zS → Prop) : Prop := ∀ (j : Nat) (σ τ : zS) (o : Nat → Int64) (a1 : Int32) (a2 : Int32), j < 600 → J j σ τ → ∃ (r1 : String ⊕ Int32) (k : Int32) (o' : Nat → Int64) (rb : Int32) (τ' : zS), fX9_block_0 n nb sz mm σ a1 a2 = some r1 ∧ fL_block r1 o = some (k, o') ∧ fX10_block_0 n τ a1 a2 = some (rb, τ') ∧ fX10_thrown_0 n τ' = some k ∧ (k = 0 → o' (Int32.toNatClampNeg 0) = rb.toInt64) ∧ J (j + 1) σ τ'
def sim_told (n nb sz mm : Nat) (J : Nat → zS → zS → Prop) : Prop := ∀ (j : Nat) (σ τ : zS) (o : Nat → Int64) (a1 : Int32) (a2 : Int32) (a3 : Int32), j < 600 → J j σ τ → ∃ (r1 : String ⊕ Int64) (σ' : zS) (k : Int32) (o' : Nat → Int64) (rb : Int64) (τ' : zS), fX9_told_0 n nb sz mm σ a1 a2 a3 = some (r1, σ') ∧ fL_told r1 o = some (k, o') ∧ fX10_told_0 n τ a1 a2 a3 = some (rb, τ') ∧ fX10_thrown_0 n τ' = some k ∧ (k = 0 → o' (Int32.toNatClampNeg 0) = rb) ∧ J (j + 1) σ' τ'
def sim_rank (n nb sz mm : Nat) (J : Nat → zS → zS → Prop) : Prop := ∀ (j : Nat) (σ τ : zS) (o : Nat → Int64) (a1 : Int32) (a2 : Int64), j < 600 → J j σ τ → ∃ (r1 : String ⊕ Int32) (σ' : zS) (k : Int32) (o' : Nat → Int64) (rb : Int32) (τ' : zS), fX9_rank_0 n nb sz mm σ a1 a2 = some (r1, σ') ∧ fL_rank r1 o = some (k, o') ∧ fX10_rank_0 n τ a1 a2 = some (rb, τ') ∧ fX10_thrown_0 n τ' = some k ∧ (k = 0 → o' (Int32.toNatClampNeg 0) = rb.toInt64) ∧ J (j + 1) σ' τ'
def sim_drop (n nb sz mm : Nat) (J : Nat → zS → zS → Prop) : Prop := ∀ (j : Nat) (σ τ : zS) (o : Nat → Int64) (a1 : Int32), j < 600 → J j σ τ → ∃ (r1 : String ⊕ Int32) (σ' : zS) (k : Int32) (o' : Nat → Int64) (rb : Int32) (τ' : zS), fX9_drop_0 n nb sz mm σ a1 = some (r1, σ') ∧ fL_drop r1 o = some (k, o') ∧ fX10_drop_0 n τ a1 = some (rb, τ') ∧ fX10_thrown_0 n τ' = some k ∧ (k = 0 → o' (Int32.toNatClampNeg 0) = rb.toInt64) ∧ J (j + 1) σ' τ'
def sim_count (n nb sz mm : Nat) (J : Nat → zS → zS → Prop) : Prop := ∀ (j : Nat) (σ τ : zS) (o : Nat → Int64) (a1 : Int32), j < 600 → J j σ τ → ∃ (r1 : String ⊕ Int32) (k : Int32) (o' : Nat → Int64) (rb : Int32) (τ' : zS), fX9_count_0 n nb sz mm σ a1 = some r1 ∧ fL_count r1 o = some (k, o') ∧ fX10_count_0 n τ a1 = some (rb, τ') ∧ fX10_thrown_0 n τ' = some k ∧ (k = 0 → o' (Int32.toNatClampNeg 0) = rb.toInt64) ∧ J (j + 1) σ τ'
def sim_crash (n nb sz mm : Nat) (J : Nat → zS → zS → Prop) : Prop := ∀ (j : Nat) (σ τ : zS) (o : Nat → Int64) (a1 : Int32), j < 600 → J j σ τ → ∃ (r1 : String ⊕ Unit) (σ' : zS) (k : Int32) (o' : Nat → Int64) (τ' : zS), fX9_crash_0 n nb sz mm σ a1 = some (r1, σ') ∧ fL_crash r1 o = some (k, o') ∧ fX10_crash_0 n τ a1 = some τ' ∧ fX10_thrown_0 n τ' = some k ∧ J (j + 1) σ' τ'
def sim_up (n nb sz mm : Nat) (J : Nat → zS → zS → Prop) : Prop := ∀ (j : Nat) (σ τ : zS) (o : Nat → Int64), j < 600 → J j σ τ → ∃ (r1 : String ⊕ Int32) (σ' : zS) (k : Int32) (o' : Nat → Int64) (rb : Int32) (τ' : zS), fX9_up_0 n nb sz mm σ = some (r1, σ') ∧ fL_up r1 o = some (k, o') ∧ fX10_up_0 n τ = some (rb, τ') ∧ fX10_thrown_0 n τ' = some k ∧ (k = 0 → o' (Int32.toNatClampNeg 0) = rb.toInt64) ∧ J (j + 1) σ' τ'
def zSIM (n nb sz mm : Nat) (J : Nat → zS → zS → Prop) : Prop := (∀ (j : Nat) (σ τ : zS), J j σ τ → J (j + 1) σ τ) ∧ sim_width n nb sz mm J ∧ sim_key n nb sz mm J ∧ sim_mode n nb sz mm J ∧ sim_feed n nb sz mm J ∧ sim_run n nb sz mm J ∧ sim_form n nb sz mm J ∧ sim_pass n nb sz mm J ∧ sim_best n nb sz mm J ∧ sim_poly n nb sz mm J ∧ sim_plan n nb sz mm J ∧ sim_runs n nb sz mm J ∧ sim_records n nb sz mm J ∧ sim_block n nb sz mm J ∧ sim_told n nb sz mm J ∧ sim_rank n nb sz mm J ∧ sim_drop n nb sz mm J ∧ sim_count n nb sz mm J ∧ sim_crash n nb sz mm J ∧ sim_up n nb sz mm J
theorem lp_gt {L a : Nat} (hL : L ≤ 4611) (ha : a < 2 ^ 30) (h : ¬ (Int32.ofNat L - 9) < nI a) : a + 9 ≤ L := by
  rw [Int32.lt_iff_toInt_lt, Int32.toInt_sub, nI_toInt (by omega)] at h
  have e1 : (Int32.ofNat L).toInt = (L : Int) := nI_toInt (n := L) (by omega)
  have e2 : (9 : Int32).toInt = 9 := by decide
  rw [e1, e2, Int.bmod_eq_of_le (by omega) (by omega)] at h
  omega
theorem lp_in {L j : Nat} {d : Int32} (hL : L ≤ 4611) (h : 3 + 9 * j + 9 ≤ L) (hd : d ∈ ([1, 2, 3, 4, 5, 6, 7, 8] : List Int32)) : zin (nI (3 + 9 * j) + d) L = true := by
  have key : ∀ k : Nat, k ≤ 8 → d = nI k → zin (nI (3 + 9 * j) + d) L = true := by
    intro k hk e
    rw [e, nI_add]
    exact zin_iff.mpr (nI_in (by omega) (by omega))
  simp only [List.mem_cons, List.not_mem_nil, or_false] at hd
  rcases hd with e | e | e | e | e | e | e | e
  · exact key 1 (by decide) (by rw [e]; decide)
  · exact key 2 (by decide) (by rw [e]; decide)
  · exact key 3 (by decide) (by rw [e]; decide)
  · exact key 4 (by decide) (by rw [e]; decide)
  · exact key 5 (by decide) (by rw [e]; decide)
  · exact key 6 (by decide) (by rw [e]; decide)
  · exact key 7 (by decide) (by rw [e]; decide)
  · exact key 8 (by decide) (by rw [e]; decide)
set_option maxRecDepth 20000 in
set_option maxHeartbeats 8000000 in
theorem law_loop {p : Program} {l : Launch} {e : Env} {s : State} {m : MethodId} {below : List Frame} {meth : Method} {c : Code} {κ : zG} {A : Nat → Prop} {b L n c0 s0 : Nat} {xs : Nat → Int32} {J : Nat → zS → zS → Prop} (hS : zSIM n (κ.2.2.2 0) (κ.2.2.2 1) (κ.2.2.2 2) J) (hL : L ≤ 4611) (hc0 : c0 ≤ 500000) (hs0 : s0 ≤ 7000000) (C : zCL κ A b L xs p l s m #[Value.ref b] meth c) (hA0 : ∀ q, A q → s.heap.size ≤ q) : ∀ (k j : Nat) (σ τ : zS) (o : Nat → Int64) (H : Heap) (locs : List Loc) (ls : Array Slot), 600 < j + k → j ≤ 520 → J j σ τ → zH wL κ A s ((σ, o), τ) H locs → lv_has ls 8 [(0, .ref b), (1, .ref (κ.2.1 0)), (2, .ref (κ.2.1 100)), (3, .ref (κ.2.1 60)), (4, .int (nI (3 + 9 * j)))] → W p l e room_1 s m #[Value.ref b] below meth c H locs (c0 + 3 * j) (s0 + 18 * j) (lw_Z below #[Value.ref b] s) (F0 m 53 ls []) := by
  intro k
  induction k with
  | zero => intro j σ τ o H locs ls hk; omega
  | succ k ih =>
    intro j σ τ o H locs ls hk hj hJ h hl
    refine lv_iload C.1.ex C.1.by dL_law_53 (lv_at hl 4 rfl) ?_
    refine lv_aload_n C.1.ex C.1.by dL_law_55 rfl (lv_at hl 0 rfl) ?_
    refine z_slen C h dL_law_56 ?_
    refine lv_bipush (v := 9) C.1.ex C.1.by dL_law_57 (by decide) ?_
    refine lv_isub C.1.ex C.1.by dL_law_59 ?_
    refine lv_icmp_gt (tgt := 1468) C.1.ex C.1.by dL_law_60 (by decide) (fun _ => ?_) (fun hg => ?_)
    · refine lv_iconst (v := 1) C.1.ex C.1.by dL_law_1468 (by decide) ?_
      refine va_forget (fun q hq => hA0 _ (h.2.2.2.2 q hq)) ?_
      exact W.widen (k := 601024) (n := 7293000) (by omega) (by omega) (lw_ret C.1.ex C.1.by C.1.2.1 C.1.2.2.1 dL_law_1469)
    have hg9 := lp_gt (a := 3 + 9 * j) hL (by omega) hg
    have hi : ∀ d : Int32, d ∈ ([1, 2, 3, 4, 5, 6, 7, 8] : List Int32) → zin (nI (3 + 9 * j) + d) L = true := fun d hd => lp_in hL hg9 hd
    have hc1 : c0 + 3 * j + 3 ≤ 601024 := by omega
    have hc2 : s0 + 18 * j + 18 ≤ 7293000 := by omega
    have step : ∀ (σ τ : zS) (o : Nat → Int64) (H : Heap) (locs : List Loc) (ls : Array Slot), J (j + 1) σ τ → zH wL κ A s ((σ, o), τ) H locs → lv_has ls 8 [(0, .ref b), (1, .ref (κ.2.1 0)), (2, .ref (κ.2.1 100)), (3, .ref (κ.2.1 60)), (4, .int (nI (3 + 9 * j)))] → W p l e room_1 s m #[Value.ref b] below meth c H locs (c0 + 3 * (j + 1)) (s0 + 18 * (j + 1)) (lw_Z below #[Value.ref b] s) (F0 m 1462 ls []) := by
      intro σ τ o H locs ls hJ h hl
      refine lv_iinc (k := 4) (v := nI (3 + 9 * (j + 1))) (lv' := [(4, .int (nI (3 + 9 * (j + 1)))), (0, .ref b), (1, .ref (κ.2.1 0)), (2, .ref (κ.2.1 100)), (3, .ref (κ.2.1 60))]) C.1.ex C.1.by dL_law_1462 hl rfl (show nI (3 + 9 * j) + nI 9 = _ by rw [nI_add]; rfl) (by decide) rfl (fun ls hl => ?_)
      refine lv_goto (tgt := 53) C.1.ex C.1.by dL_law_1465 (by decide) ?_
      exact ih (j + 1) σ τ o H locs ls (by omega) (by omega) hJ h (lv_sub hl [1, 2, 3, 4, 0] rfl)
    refine lv_aload_n C.1.ex C.1.by dL_law_63 rfl (lv_at hl 0 rfl) ?_
    refine lv_iload C.1.ex C.1.by dL_law_64 (lv_at hl 4 rfl) ?_
    refine z_sld C h (zin_iff.mpr (nI_in (by omega) (by omega))) dL_law_66 ?_
    refine lv_bipush (v := 31) C.1.ex C.1.by dL_law_67 (by decide) ?_
    refine lv_iand C.1.ex C.1.by dL_law_69 ?_
    refine lv_topi (fun y _ => ?_)
    by_cases e0 : y = 0
    · refine lv_tableIn (off := 90) (tgt := 160) C.1.ex C.1.by dL_law_70 (by rw [e0]; decide) (by rw [e0]; decide) (by rw [e0]; decide) (by decide) ?_
      obtain ⟨r1, σ9, k9, o9, τ9, hf, hg, hm, ht, hJ⟩ := hS.2.1 j σ τ o (xs (nI (3 + 9 * j) + 1).toNatClampNeg) (by omega) hJ
      exact lk_width C h hl hi ⟨by show _ ≤ 601024; omega, by show _ ≤ 7293000; omega⟩ hf hg hm ht (fun H locs ls h hl => by exact W.widen (k := c0 + 3 * (j + 1)) (n := s0 + 18 * (j + 1)) (by omega) (by omega) (step _ _ _ H locs ls hJ h hl))
    by_cases e1 : y = 1
    · refine lv_tableIn (off := 126) (tgt := 196) C.1.ex C.1.by dL_law_70 (by rw [e1]; decide) (by rw [e1]; decide) (by rw [e1]; decide) (by decide) ?_
      by_cases hv : xs (nI (3 + 9 * j) + 2).toNatClampNeg = 0
      · obtain ⟨r1, σ9, k9, o9, rb, τ9, hf, hg, hm, ht, hb, hJ⟩ := hS.2.2.1 j σ τ o (xs (nI (3 + 9 * j) + 1).toNatClampNeg) 0 (by simp) (by omega) hJ
        exact lk_key C h hl hi ⟨by show _ ≤ 601024; omega, by show _ ≤ 7293000; omega⟩ (Or.inl ⟨hv, rfl⟩) hf hg hm ht hb (fun H locs ls h hl => by exact W.widen (k := c0 + 3 * (j + 1)) (n := s0 + 18 * (j + 1)) (by omega) (by omega) (step _ _ _ H locs ls hJ h hl))
      · obtain ⟨r1, σ9, k9, o9, rb, τ9, hf, hg, hm, ht, hb, hJ⟩ := hS.2.2.1 j σ τ o (xs (nI (3 + 9 * j) + 1).toNatClampNeg) 1 (by simp) (by omega) hJ
        exact lk_key C h hl hi ⟨by show _ ≤ 601024; omega, by show _ ≤ 7293000; omega⟩ (Or.inr ⟨hv, rfl⟩) hf hg hm ht hb (fun H locs ls h hl => by exact W.widen (k := c0 + 3 * (j + 1)) (n := s0 + 18 * (j + 1)) (by omega) (by omega) (step _ _ _ H locs ls hJ h hl))
    by_cases e2 : y = 2
    · refine lv_tableIn (off := 210) (tgt := 280) C.1.ex C.1.by dL_law_70 (by rw [e2]; decide) (by rw [e2]; decide) (by rw [e2]; decide) (by decide) ?_
      obtain ⟨r1, σ9, k9, o9, rb, τ9, hf, hg, hm, ht, hb, hJ⟩ := hS.2.2.2.1 j σ τ o (xs (nI (3 + 9 * j) + 1).toNatClampNeg) (by omega) hJ
      exact lk_mode C h hl hi ⟨by show _ ≤ 601024; omega, by show _ ≤ 7293000; omega⟩ hf hg hm ht hb (fun H locs ls h hl => by exact W.widen (k := c0 + 3 * (j + 1)) (n := s0 + 18 * (j + 1)) (by omega) (by omega) (step _ _ _ H locs ls hJ h hl))
    by_cases e3 : y = 3
    · refine lv_tableIn (off := 266) (tgt := 336) C.1.ex C.1.by dL_law_70 (by rw [e3]; decide) (by rw [e3]; decide) (by rw [e3]; decide) (by decide) ?_
      obtain ⟨r1, σ9, k9, o9, rb, τ9, hf, hg, hm, ht, hb, hJ⟩ := hS.2.2.2.2.1 j σ τ o (zJ (xs (nI (3 + 9 * j) + 1).toNatClampNeg) (xs (nI (3 + 9 * j) + 2).toNatClampNeg)) (zJ (xs (nI (3 + 9 * j) + 3).toNatClampNeg) (xs (nI (3 + 9 * j) + 4).toNatClampNeg)) (zJ (xs (nI (3 + 9 * j) + 5).toNatClampNeg) (xs (nI (3 + 9 * j) + 6).toNatClampNeg)) (zJ (xs (nI (3 + 9 * j) + 7).toNatClampNeg) (xs (nI (3 + 9 * j) + 8).toNatClampNeg)) (by omega) hJ
      exact lk_feed C h hl hi ⟨by show _ ≤ 601024; omega, by show _ ≤ 7293000; omega⟩ hf hg hm ht hb (fun H locs ls h hl => by exact W.widen (k := c0 + 3 * (j + 1)) (n := s0 + 18 * (j + 1)) (by omega) (by omega) (step _ _ _ H locs ls hJ h hl))
    by_cases e4 : y = 4
    · refine lv_tableIn (off := 492) (tgt := 562) C.1.ex C.1.by dL_law_70 (by rw [e4]; decide) (by rw [e4]; decide) (by rw [e4]; decide) (by decide) ?_
      obtain ⟨r1, σ9, k9, o9, rb, τ9, hf, hg, hm, ht, hb, hJ⟩ := hS.2.2.2.2.2.1 j σ τ o (zJ (xs (nI (3 + 9 * j) + 1).toNatClampNeg) (xs (nI (3 + 9 * j) + 2).toNatClampNeg)) (xs (nI (3 + 9 * j) + 3).toNatClampNeg) (xs (nI (3 + 9 * j) + 4).toNatClampNeg) (by omega) hJ
      exact lk_run C h hl hi ⟨by show _ ≤ 601024; omega, by show _ ≤ 7293000; omega⟩ hf hg hm ht hb (fun H locs ls h hl => by exact W.widen (k := c0 + 3 * (j + 1)) (n := s0 + 18 * (j + 1)) (by omega) (by omega) (step _ _ _ H locs ls hJ h hl))
    by_cases e5 : y = 5
    · refine lv_tableIn (off := 604) (tgt := 674) C.1.ex C.1.by dL_law_70 (by rw [e5]; decide) (by rw [e5]; decide) (by rw [e5]; decide) (by decide) ?_
      obtain ⟨r1, σ9, k9, o9, rb, τ9, hf, hg, hm, ht, hb, hJ⟩ := hS.2.2.2.2.2.2.1 j σ τ o (xs (nI (3 + 9 * j) + 1).toNatClampNeg) (by omega) hJ
      exact lk_form C h hl hi ⟨by show _ ≤ 601024; omega, by show _ ≤ 7293000; omega⟩ hf hg hm ht hb (fun H locs ls h hl => by exact W.widen (k := c0 + 3 * (j + 1)) (n := s0 + 18 * (j + 1)) (by omega) (by omega) (step _ _ _ H locs ls hJ h hl))
    by_cases e6 : y = 6
    · refine lv_tableIn (off := 660) (tgt := 730) C.1.ex C.1.by dL_law_70 (by rw [e6]; decide) (by rw [e6]; decide) (by rw [e6]; decide) (by decide) ?_
      obtain ⟨r1, σ9, k9, o9, rb, τ9, hf, hg, hm, ht, hb, hJ⟩ := hS.2.2.2.2.2.2.2.1 j σ τ o (xs (nI (3 + 9 * j) + 1).toNatClampNeg) (by omega) hJ
      exact lk_pass C h hl hi ⟨by show _ ≤ 601024; omega, by show _ ≤ 7293000; omega⟩ hf hg hm ht hb (fun H locs ls h hl => by exact W.widen (k := c0 + 3 * (j + 1)) (n := s0 + 18 * (j + 1)) (by omega) (by omega) (step _ _ _ H locs ls hJ h hl))
    by_cases e7 : y = 7
    · refine lv_tableIn (off := 716) (tgt := 786) C.1.ex C.1.by dL_law_70 (by rw [e7]; decide) (by rw [e7]; decide) (by rw [e7]; decide) (by decide) ?_
      obtain ⟨r1, σ9, k9, o9, rb, τ9, hf, hg, hm, ht, hb, hJ⟩ := hS.2.2.2.2.2.2.2.2.1 j σ τ o (xs (nI (3 + 9 * j) + 1).toNatClampNeg) (by omega) hJ
      exact lk_best C h hl hi ⟨by show _ ≤ 601024; omega, by show _ ≤ 7293000; omega⟩ hf hg hm ht hb (fun H locs ls h hl => by exact W.widen (k := c0 + 3 * (j + 1)) (n := s0 + 18 * (j + 1)) (by omega) (by omega) (step _ _ _ H locs ls hJ h hl))
    by_cases e8 : y = 8
    · refine lv_tableIn (off := 772) (tgt := 842) C.1.ex C.1.by dL_law_70 (by rw [e8]; decide) (by rw [e8]; decide) (by rw [e8]; decide) (by decide) ?_
      obtain ⟨r1, σ9, k9, o9, rb, τ9, hf, hg, hm, ht, hb, hJ⟩ := hS.2.2.2.2.2.2.2.2.2.1 j σ τ o (xs (nI (3 + 9 * j) + 1).toNatClampNeg) (by omega) hJ
      exact lk_poly C h hl hi ⟨by show _ ≤ 601024; omega, by show _ ≤ 7293000; omega⟩ hf hg hm ht hb (fun H locs ls h hl => by exact W.widen (k := c0 + 3 * (j + 1)) (n := s0 + 18 * (j + 1)) (by omega) (by omega) (step _ _ _ H locs ls hJ h hl))
    by_cases e9 : y = 9
    · refine lv_tableIn (off := 828) (tgt := 898) C.1.ex C.1.by dL_law_70 (by rw [e9]; decide) (by rw [e9]; decide) (by rw [e9]; decide) (by decide) ?_
      obtain ⟨r1, σ9, k9, o9, rb, τ9, hf, hg, hm, ht, hb, hJ⟩ := hS.2.2.2.2.2.2.2.2.2.2.1 j σ τ o (xs (nI (3 + 9 * j) + 1).toNatClampNeg) (by omega) hJ
      exact lk_plan C h hl hi ⟨by show _ ≤ 601024; omega, by show _ ≤ 7293000; omega⟩ hf hg hm ht hb (fun H locs ls h hl => by exact W.widen (k := c0 + 3 * (j + 1)) (n := s0 + 18 * (j + 1)) (by omega) (by omega) (step _ _ _ H locs ls hJ h hl))
    by_cases e10 : y = 10
    · refine lv_tableIn (off := 884) (tgt := 954) C.1.ex C.1.by dL_law_70 (by rw [e10]; decide) (by rw [e10]; decide) (by rw [e10]; decide) (by decide) ?_
      obtain ⟨k9, τ9, hf, hm, hJ⟩ := hS.2.2.2.2.2.2.2.2.2.2.2.1 j σ τ (by omega) hJ
      exact lk_runs C h hl hi ⟨by show _ ≤ 601024; omega, by show _ ≤ 7293000; omega⟩ hf hm (fun H locs ls h hl => by exact W.widen (k := c0 + 3 * (j + 1)) (n := s0 + 18 * (j + 1)) (by omega) (by omega) (step _ _ _ H locs ls hJ h hl))
    by_cases e11 : y = 11
    · refine lv_tableIn (off := 897) (tgt := 967) C.1.ex C.1.by dL_law_70 (by rw [e11]; decide) (by rw [e11]; decide) (by rw [e11]; decide) (by decide) ?_
      obtain ⟨r1, k9, o9, rb, τ9, hf, hg, hm, ht, hb, hJ⟩ := hS.2.2.2.2.2.2.2.2.2.2.2.2.1 j σ τ o (xs (nI (3 + 9 * j) + 1).toNatClampNeg) (by omega) hJ
      exact lk_records C h hl hi ⟨by show _ ≤ 601024; omega, by show _ ≤ 7293000; omega⟩ hf hg hm ht hb (fun H locs ls h hl => by exact W.widen (k := c0 + 3 * (j + 1)) (n := s0 + 18 * (j + 1)) (by omega) (by omega) (step _ _ _ H locs ls hJ h hl))
    by_cases e12 : y = 12
    · refine lv_tableIn (off := 953) (tgt := 1023) C.1.ex C.1.by dL_law_70 (by rw [e12]; decide) (by rw [e12]; decide) (by rw [e12]; decide) (by decide) ?_
      obtain ⟨r1, k9, o9, rb, τ9, hf, hg, hm, ht, hb, hJ⟩ := hS.2.2.2.2.2.2.2.2.2.2.2.2.2.1 j σ τ o (xs (nI (3 + 9 * j) + 1).toNatClampNeg) (xs (nI (3 + 9 * j) + 2).toNatClampNeg) (by omega) hJ
      exact lk_block C h hl hi ⟨by show _ ≤ 601024; omega, by show _ ≤ 7293000; omega⟩ hf hg hm ht hb (fun H locs ls h hl => by exact W.widen (k := c0 + 3 * (j + 1)) (n := s0 + 18 * (j + 1)) (by omega) (by omega) (step _ _ _ H locs ls hJ h hl))
    by_cases e13 : y = 13
    · refine lv_tableIn (off := 1021) (tgt := 1091) C.1.ex C.1.by dL_law_70 (by rw [e13]; decide) (by rw [e13]; decide) (by rw [e13]; decide) (by decide) ?_
      obtain ⟨r1, σ9, k9, o9, rb, τ9, hf, hg, hm, ht, hb, hJ⟩ := hS.2.2.2.2.2.2.2.2.2.2.2.2.2.2.1 j σ τ o (xs (nI (3 + 9 * j) + 1).toNatClampNeg) (xs (nI (3 + 9 * j) + 2).toNatClampNeg) (xs (nI (3 + 9 * j) + 3).toNatClampNeg) (by omega) hJ
      exact lk_told C h hl hi ⟨by show _ ≤ 601024; omega, by show _ ≤ 7293000; omega⟩ hf hg hm ht hb (fun H locs ls h hl => by exact W.widen (k := c0 + 3 * (j + 1)) (n := s0 + 18 * (j + 1)) (by omega) (by omega) (step _ _ _ H locs ls hJ h hl))
    by_cases e14 : y = 14
    · refine lv_tableIn (off := 1100) (tgt := 1170) C.1.ex C.1.by dL_law_70 (by rw [e14]; decide) (by rw [e14]; decide) (by rw [e14]; decide) (by decide) ?_
      obtain ⟨r1, σ9, k9, o9, rb, τ9, hf, hg, hm, ht, hb, hJ⟩ := hS.2.2.2.2.2.2.2.2.2.2.2.2.2.2.2.1 j σ τ o (xs (nI (3 + 9 * j) + 1).toNatClampNeg) (zJ (xs (nI (3 + 9 * j) + 2).toNatClampNeg) (xs (nI (3 + 9 * j) + 3).toNatClampNeg)) (by omega) hJ
      exact lk_rank C h hl hi ⟨by show _ ≤ 601024; omega, by show _ ≤ 7293000; omega⟩ hf hg hm ht hb (fun H locs ls h hl => by exact W.widen (k := c0 + 3 * (j + 1)) (n := s0 + 18 * (j + 1)) (by omega) (by omega) (step _ _ _ H locs ls hJ h hl))
    by_cases e15 : y = 15
    · refine lv_tableIn (off := 1200) (tgt := 1270) C.1.ex C.1.by dL_law_70 (by rw [e15]; decide) (by rw [e15]; decide) (by rw [e15]; decide) (by decide) ?_
      obtain ⟨r1, σ9, k9, o9, rb, τ9, hf, hg, hm, ht, hb, hJ⟩ := hS.2.2.2.2.2.2.2.2.2.2.2.2.2.2.2.2.1 j σ τ o (xs (nI (3 + 9 * j) + 1).toNatClampNeg) (by omega) hJ
      exact lk_drop C h hl hi ⟨by show _ ≤ 601024; omega, by show _ ≤ 7293000; omega⟩ hf hg hm ht hb (fun H locs ls h hl => by exact W.widen (k := c0 + 3 * (j + 1)) (n := s0 + 18 * (j + 1)) (by omega) (by omega) (step _ _ _ H locs ls hJ h hl))
    by_cases e16 : y = 16
    · refine lv_tableIn (off := 1256) (tgt := 1326) C.1.ex C.1.by dL_law_70 (by rw [e16]; decide) (by rw [e16]; decide) (by rw [e16]; decide) (by decide) ?_
      obtain ⟨r1, k9, o9, rb, τ9, hf, hg, hm, ht, hb, hJ⟩ := hS.2.2.2.2.2.2.2.2.2.2.2.2.2.2.2.2.2.1 j σ τ o (xs (nI (3 + 9 * j) + 1).toNatClampNeg) (by omega) hJ
      exact lk_count C h hl hi ⟨by show _ ≤ 601024; omega, by show _ ≤ 7293000; omega⟩ hf hg hm ht hb (fun H locs ls h hl => by exact W.widen (k := c0 + 3 * (j + 1)) (n := s0 + 18 * (j + 1)) (by omega) (by omega) (step _ _ _ H locs ls hJ h hl))
    by_cases e17 : y = 17
    · refine lv_tableIn (off := 1312) (tgt := 1382) C.1.ex C.1.by dL_law_70 (by rw [e17]; decide) (by rw [e17]; decide) (by rw [e17]; decide) (by decide) ?_
      obtain ⟨r1, σ9, k9, o9, τ9, hf, hg, hm, ht, hJ⟩ := hS.2.2.2.2.2.2.2.2.2.2.2.2.2.2.2.2.2.2.1 j σ τ o (xs (nI (3 + 9 * j) + 1).toNatClampNeg) (by omega) hJ
      exact lk_crash C h hl hi ⟨by show _ ≤ 601024; omega, by show _ ≤ 7293000; omega⟩ hf hg hm ht (fun H locs ls h hl => by exact W.widen (k := c0 + 3 * (j + 1)) (n := s0 + 18 * (j + 1)) (by omega) (by omega) (step _ _ _ H locs ls hJ h hl))
    by_cases e18 : y = 18
    · refine lv_tableIn (off := 1348) (tgt := 1418) C.1.ex C.1.by dL_law_70 (by rw [e18]; decide) (by rw [e18]; decide) (by rw [e18]; decide) (by decide) ?_
      obtain ⟨r1, σ9, k9, o9, rb, τ9, hf, hg, hm, ht, hb, hJ⟩ := hS.2.2.2.2.2.2.2.2.2.2.2.2.2.2.2.2.2.2.2 j σ τ o (by omega) hJ
      exact lk_up C h hl hi ⟨by show _ ≤ 601024; omega, by show _ ≤ 7293000; omega⟩ hf hg hm ht hb (fun H locs ls h hl => by exact W.widen (k := c0 + 3 * (j + 1)) (n := s0 + 18 * (j + 1)) (by omega) (by omega) (step _ _ _ H locs ls hJ h hl))
    refine lv_tableOut (tgt := 1462) C.1.ex C.1.by dL_law_70 (zout (fun k hk1 hk2 => by rcases (show k = 0 ∨ k = 1 ∨ k = 2 ∨ k = 3 ∨ k = 4 ∨ k = 5 ∨ k = 6 ∨ k = 7 ∨ k = 8 ∨ k = 9 ∨ k = 10 ∨ k = 11 ∨ k = 12 ∨ k = 13 ∨ k = 14 ∨ k = 15 ∨ k = 16 ∨ k = 17 ∨ k = 18 by omega) with rfl | rfl | rfl | rfl | rfl | rfl | rfl | rfl | rfl | rfl | rfl | rfl | rfl | rfl | rfl | rfl | rfl | rfl | rfl; exact lv_neT e0 (by decide); exact lv_neT e1 (by decide); exact lv_neT e2 (by decide); exact lv_neT e3 (by decide); exact lv_neT e4 (by decide); exact lv_neT e5 (by decide); exact lv_neT e6 (by decide); exact lv_neT e7 (by decide); exact lv_neT e8 (by decide); exact lv_neT e9 (by decide); exact lv_neT e10 (by decide); exact lv_neT e11 (by decide); exact lv_neT e12 (by decide); exact lv_neT e13 (by decide); exact lv_neT e14 (by decide); exact lv_neT e15 (by decide); exact lv_neT e16 (by decide); exact lv_neT e17 (by decide); exact lv_neT e18 (by decide))) (by decide) ?_
    exact W.widen (k := c0 + 3 * (j + 1)) (n := s0 + 18 * (j + 1)) (by omega) (by omega) (step _ _ _ H locs ls (hS.1 j σ τ hJ) h hl)
