/-! ===== what holds at the entry ===== -/
set_option maxRecDepth 20000 in
theorem zNf_in : ∀ q ∈ zNf, Cond.fieldLinkNest q.1 q.2.1 q.2.2.1 q.2.2.2.1 q.2.2.2.2 RX9 ∈ lw_tbl := by
  have h : zNf.map (fun q => Cond.fieldLinkNest q.1 q.2.1 q.2.2.1 q.2.2.2.1 q.2.2.2.2 RX9) = ([176, 398, 246, 131, 133, 135, 137, 251, 188, 249, 174, 141, 139, 127, 183, 334, 255, 338, 363, 124, 185, 180, 177, 290, 126, 186, 182, 125, 123, 178, 181, 187] : List Nat).filterMap (fun i => lw_tbl[i]?) := by decide +kernel
  intro q hq
  have h2 := List.mem_map_of_mem (f := fun q => Cond.fieldLinkNest q.1 q.2.1 q.2.2.1 q.2.2.2.1 q.2.2.2.2 RX9) hq
  rw [h] at h2
  obtain ⟨i, -, hi⟩ := List.mem_filterMap.mp h2
  exact List.mem_of_getElem? hi
set_option maxRecDepth 20000 in
theorem zNm_in : ∀ q ∈ zNm, Cond.methodLinkNest q.1 q.2.1 q.2.2 RX9 ∈ lw_tbl := by
  have h : zNm.map (fun q => Cond.methodLinkNest q.1 q.2.1 q.2.2 RX9) = ([571, 934] : List Nat).filterMap (fun i => lw_tbl[i]?) := by decide +kernel
  intro q hq
  have h2 := List.mem_map_of_mem (f := fun q => Cond.methodLinkNest q.1 q.2.1 q.2.2 RX9) hq
  rw [h] at h2
  obtain ⟨i, -, hi⟩ := List.mem_filterMap.mp h2
  exact List.mem_of_getElem? hi
set_option maxRecDepth 20000 in
theorem zStr_in : ∀ q ∈ zStr, Cond.stringRef RX9 q.1 q.2 ∈ lw_tbl := by
  have h : zStr.map (fun q => Cond.stringRef RX9 q.1 q.2) = ([514, 566, 589, 600, 601, 613, 678, 688, 929, 1018, 1026, 1067, 1076, 1084, 554, 854, 1006, 663] : List Nat).filterMap (fun i => lw_tbl[i]?) := by decide +kernel
  intro q hq
  have h2 := List.mem_map_of_mem (f := fun q => Cond.stringRef RX9 q.1 q.2) hq
  rw [h] at h2
  obtain ⟨i, -, hi⟩ := List.mem_filterMap.mp h2
  exact List.mem_of_getElem? hi
set_option maxRecDepth 20000 in
theorem zCa_in : ∀ X ∈ zEx, Cond.castable X X ∈ lw_tbl := by decide +kernel
set_option maxRecDepth 20000 in
theorem zDe_in : ∀ Y ∈ zEy, Cond.declares (Bundle.initS Y) ∈ lw_tbl := by decide +kernel
set_option maxRecDepth 20000 in
theorem zSx_in : ∀ q ∈ zStr, Cond.exactly (.string RX9 q.1) "java/lang/String" ∈ flatC (Cond.and given_1 narrow_1) := by decide +kernel
set_option maxRecDepth 20000 in
theorem zPa_in : ∀ q ∈ zPairs, Cond.not (.castable q.1 q.2) ∈ flatC (Cond.and given_1 narrow_1) := by decide +kernel
set_option maxRecDepth 20000 in
theorem zRf_in : Cond.isRef (.static Bundle.tN "UNASSIGNED_STACK" Bundle.steD) ∈ flatC (Cond.and given_1 narrow_1) ∧ Cond.isRef (.static Bundle.tN "SUPPRESSED_SENTINEL" Bundle.listD) ∈ flatC (Cond.and given_1 narrow_1) := by decide +kernel
theorem st_K {s : State} {b : Nat} (hts : ∀ w ∈ lw_tbl, w.before #[Value.ref b] s = true) : ∃ (D : va_G) (cA : Nat → ClassId), ∀ (ad dm : Nat → Nat), zK (D, ad, cA, dm) s := by
  have hw : ∀ w ∈ zW, w.before #[Value.ref b] s = true := fun w h => hts w (List.mem_filter.mp h).1
  obtain ⟨c0, i0, k0⟩ := u_known (C := RX0) (T := TX0) (N := 9) (n := 9) hw iwX0 (hts _ (zt1 (List.mem_of_getElem? (i := 38) rfl)))
  obtain ⟨c1, i1, k1⟩ := u_known (C := RX1) (T := TX1) (N := 3) (n := 3) hw iwX1 (hts _ (zt1 (List.mem_of_getElem? (i := 128) rfl)))
  obtain ⟨c2, i2, k2⟩ := u_known (C := RX2) (T := TX2) (N := 9) (n := 9) hw iwX2 (hts _ (zt1 (List.mem_of_getElem? (i := 145) rfl)))
  obtain ⟨c3, i3, k3⟩ := u_known (C := RX3) (T := TX3) (N := 5) (n := 5) hw iwX3 (hts _ (zt2 (List.mem_of_getElem? (i := 8) rfl)))
  obtain ⟨c4, i4, k4⟩ := u_known (C := RX4) (T := TX4) (N := 8) (n := 8) hw iwX4 (hts _ (zt2 (List.mem_of_getElem? (i := 33) rfl)))
  obtain ⟨c5, i5, k5⟩ := u_known (C := RX5) (T := TX5) (N := 7) (n := 7) hw iwX5 (hts _ (zt1 (List.mem_of_getElem? (i := 86) rfl)))
  obtain ⟨c6, i6, k6⟩ := u_known (C := RX6) (T := TX6) (N := 2) (n := 2) hw iwX6 (hts _ (zt1 (List.mem_of_getElem? (i := 151) rfl)))
  obtain ⟨c7, i7, k7⟩ := u_known (C := RX7) (T := TX7) (N := 13) (n := 13) hw iwX7 (hts _ (zt1 (List.mem_of_getElem? (i := 198) rfl)))
  obtain ⟨c8, i8, k8⟩ := u_known (C := RX8) (T := TX8) (N := 5) (n := 5) hw iwX8 (hts _ (zt2 (List.mem_of_getElem? (i := 67) rfl)))
  obtain ⟨c9, i9, k9⟩ := u_known (C := RX9) (T := TX9) (N := 13) (n := 13) hw iwX9 (hts _ (zt1 (List.mem_of_getElem? (i := 21) rfl)))
  obtain ⟨c10, i10, k10⟩ := u_known (C := RX10) (T := TX10) (N := 57) (n := 57) hw iwX10 (hts _ (zt5 (List.mem_of_getElem? (i := 48) rfl)))
  obtain ⟨a0, x0, m0, f0, g0, e0⟩ := Cond.arrayClass_spec (hts _ (zt1 (List.mem_of_getElem? (i := 126) rfl)))
  obtain ⟨a1, x1, m1, f1, g1, e1⟩ := Cond.arrayClass_spec (hts _ (zt1 (List.mem_of_getElem? (i := 83) rfl)))
  obtain ⟨a2, x2, m2, f2, g2, e2⟩ := Cond.arrayClass_spec (hts _ (zt1 (List.mem_of_getElem? (i := 84) rfl)))
  have hao := hts _ (zt2 (List.mem_of_getElem? (i := 73) rfl))
  obtain ⟨m3, a3, x3, h3, -, g3, e3, f3⟩ := Cond.arrayOver_spec hao
  refine ⟨(fun c => match c with | 0 => c0 | 1 => c1 | 2 => c2 | 3 => c3 | 4 => c4 | 5 => c5 | 6 => c6 | 7 => c7 | 8 => c8 | 9 => c9 | _ => c10, fun c => match c with | 0 => i0 | 1 => i1 | 2 => i2 | 3 => i3 | 4 => i4 | 5 => i5 | 6 => i6 | 7 => i7 | 8 => i8 | 9 => i9 | _ => i10), fun k => match k with | 0 => a0 | 1 => a1 | 2 => a2 | _ => a3, fun ad dm => ⟨⟨fun c q hq => ?_, fun k q hq => ?_⟩, ?_⟩⟩
  · match c, hq with
    | 0, hq => cases hq; exact k0
    | 1, hq => cases hq; exact k1
    | 2, hq => cases hq; exact k2
    | 3, hq => cases hq; exact k3
    | 4, hq => cases hq; exact k4
    | 5, hq => cases hq; exact k5
    | 6, hq => cases hq; exact k6
    | 7, hq => cases hq; exact k7
    | 8, hq => cases hq; exact k8
    | 9, hq => cases hq; exact k9
    | 10, hq => cases hq; exact k10
    | c + 11, hq => cases hq
  · match k, hq with
    | 0, hq => cases hq; exact ⟨fun N z => ⟨(fun k h => by cases h), x0, g0, m0, e0⟩, f0⟩
    | 1, hq => cases hq; exact ⟨fun N z => ⟨(fun k h => by cases h), x1, g1, m1, e1⟩, f1⟩
    | 2, hq => cases hq; exact ⟨fun N z => ⟨(fun k h => by cases h), x2, g2, m2, e2⟩, f2⟩
    | 3, hq => cases hq; exact ⟨fun N z => ⟨(fun k h => by cases h), x3, g3, m3, e3⟩, x3, m3, g3, e3, h3, f3⟩
    | k + 4, hq => cases hq
  · exact ⟨fun q hq => va_Nw.of rfl (hts _ (zNf_in q hq)), fun q hq => va_Nw.of rfl (hts _ (zNm_in q hq)), va_AO.of hao⟩
theorem st_E {s : State} {b : Nat} (hts : ∀ w ∈ lw_tbl, w.before #[Value.ref b] s = true) (hgv : (Jvm.Cond.and given_1 narrow_1).before #[Value.ref b] s = true) : zE s ∧ zZ (fun q => s.heap.size ≤ q) s s.heap ∧ zY s := by
  have hs := flat_of_before _ hgv
  refine ⟨⟨fun X hX => va_Nw.of rfl (hts _ (zCa_in X hX)), fun Y hY => va_Nw.of rfl (hts _ (zDe_in Y hY)), fun q hq => ?_⟩, ⟨?_, ?_⟩, fun q hq => va_Nc.of (hs _ (zPa_in q hq))⟩
  · obtain ⟨a, c, cell, k, h1, -⟩ := Cond.exactly_spec (hs _ (zSx_in q hq))
    exact ⟨a, vk_R.of (hts _ (zStr_in q hq)) h1⟩
  · exact vx_Zqof (hts _ (zt2 (List.mem_of_getElem? (i := 181) rfl))) (hts _ (zt1 (List.mem_of_getElem? (i := 13) rfl))) (hs _ zRf_in.1) (fun a ha h => by omega)
  · exact vx_Zqof (hts _ (zt2 (List.mem_of_getElem? (i := 183) rfl))) (hts _ (zt1 (List.mem_of_getElem? (i := 13) rfl))) (hs _ zRf_in.2) (fun a ha h => by omega)
