theorem ist_of {nb sz w N : Nat} {ib : List Nat} {us : Nat → Bool} {cl : Nat → Nat → Int64} (hper : 0 < sz / (w + 1)) (hsz : sz ≤ 64) (hnb : nb ≤ 200) (hN : N ≤ ib.length * (sz / (w + 1))) (hb : ∀ b ∈ ib, b < nb ∧ us b = true) (hl : ib.length ≤ nb) (hnd : ((List.range N).map (nuN sz w ib cl)).Nodup) : IST nb sz w N ib us cl := by
  refine ⟨fun k hk => (Nat.div_lt_iff_lt_mul hper).mpr (by omega), hb, hl, ?_, fun i j hi hj h => ?_⟩
  · have h1 := Nat.div_le_self sz (w + 1)
    have h2 : ib.length * (sz / (w + 1)) ≤ 200 * 64 := Nat.mul_le_mul (by omega) (by omega)
    omega
  · have hlen : ((List.range N).map (nuN sz w ib cl)).length = N := by rw [List.length_map, List.length_range]
    refine (List.getElem?_inj (i := i) (j := j) (by omega) hnd).mp ?_
    rw [List.getElem?_map, List.getElem?_map, List.getElem?_range hi, List.getElem?_range hj]
    exact congrArg some h
theorem fbr0 {nb sz mm w kn : Nat} {tk ib : List Nat} {us : Nat → Bool} {cl : Nat → Nat → Int64} {P0 : Prop} {ps : List zP} {σ τ : zS} (hS : SC nb sz mm w kn σ τ) (h17 : zI τ 17 = 0) (hOD : OD nb sz tk [] [] us cl P0 σ τ) (h18 : zI σ 18 = if zI σ 0 = 0 then 0 else 1) (h19 : zI σ 19 = smF (zI σ 0) kn w (zA σ 1)) (h20 : zI σ 20 = 0) (h21 : zI σ 21 = -1) (h22 : zI σ 22 = -1) (h23 : zI σ 23 = -1) (h24 : zI σ 24 = 0) (h26 : zI σ 26 = 0) (h25 : zI τ 25 = 0) (hf1 : (ps.map flP).Nodup) (hf3 : ∀ f, f < 208 → (zA τ 6 f = 0 ↔ ¬ (f = 0 ∨ f ∈ ps.map flP))) : FBR nb sz mm w kn tk ib us cl P0 ps [] [] σ τ σ τ := by
  refine ⟨h17, hS, ⟨cl, fun _ _ => rfl, hOD⟩, ⟨h20, h21, h22, h23, h24, h18, h19⟩, ⟨⟨h26, fun j x hj => (by cases hj)⟩, fun p hp => (by cases hp), ⟨h25, fun j x hj => (by cases hj)⟩, ?_, fun f hf => (by cases hf), fun f hf => ?_⟩, ⟨List.nodup_nil, fun v hv => (by cases hv)⟩, ⟨fun _ _ => ⟨rfl, rfl, rfl⟩, fun _ _ => ⟨rfl, rfl, rfl⟩, zfr_r, zfr_r⟩, rfl⟩
  · show (ps.map flP ++ []).Nodup
    rw [List.append_nil]
    exact hf1
  · show zA τ 6 f = 0 ↔ ¬ (f = 0 ∨ f ∈ ps.map flP ++ [])
    rw [List.append_nil]
    exact hf3 f hf
def m101 (τ : zS) : zS := sI (sI (sI (sI τ 21 (zA τ 3 0)) 22 0) 23 (if zI τ 17 ≤ 0 then zA τ 5 0 else 0)) 24 0
def m134 (n : Nat) (τb : zS) (x1 x2 x3 x4 : Int32) : Option (Int32 × zS) := if x1 = 0 then zb (fX10_loading_0 n τb) (fun q25 => fX10_form_169 n q25 x2 x3 x4) else if x1 = 1 then zb (fX10_choosing_0 n τb) (fun q23 => fX10_form_169 n q23 x2 x3 x4) else zb (fX10_asTheyAre_0 n τb) (fun q21 => fX10_form_169 n q21 x2 x3 x4)
theorem m_101 {n : Nat} {τ : zS} {x1 x2 x3 x4 : Int32} : fX10_form_101 n τ x1 x2 x3 x4 = m134 n (m101 τ) x1 x2 x3 x4 := by
  have hz : ∀ {k : Option (Int32 × zS)}, zg (zin 0 208) k = k := fun {k} => zg_t (by decide)
  unfold fX10_form_101 fX10_form_134 m134 m101
  rw [hz, show (Int32.toNatClampNeg 0) = 0 by decide]
  by_cases c : zI τ 17 ≤ 0
  · rw [if_pos c, if_pos c, hz]
  · rw [if_neg c, if_neg c]
theorem m_noload {n : Nat} {τ : zS} (hn : 0 < n) (h23 : zI τ 23 = 0) (h24 : zI τ 24 = 0) : fX10_loading_0 n τ = some τ ∧ fX10_choosing_0 n τ = some τ ∧ fX10_asTheyAre_0 n τ = some τ := by
  obtain ⟨m, rfl⟩ : ∃ m, n = m + 1 := ⟨n - 1, by omega⟩
  refine ⟨?_, ?_, ?_⟩
  · unfold fX10_loading_0
    rw [zb_s (zlp_r (b := τ) (by
      unfold fX10_loading_L0_0
      rw [h23, if_pos (by decide)]))]
  · unfold fX10_choosing_0 fX10_fill_0
    have e : sI τ 24 0 = τ := by rw [← h24, sI_id]
    rw [e, zb_s (zlp_r (b := τ) (by
      unfold fX10_fill_L5_5
      rw [h23, if_pos (show (0 : Int32) ≤ 0 by decide), ite_self])), zb_s rfl, zb_s (zlp_r (b := τ) (by
      unfold fX10_choosing_L4_4
      rw [h24, if_pos (by decide)]))]
  · unfold fX10_asTheyAre_0
    have e1 : fX10_nextRecord_0 (m + 1) τ = some (-1, τ) := by
      unfold fX10_nextRecord_0
      rw [if_pos h23]
    rw [zb_s e1, zb_s (zlp_r (b := ((-1 : Int32), τ)) (by
      unfold fX10_asTheyAre_L7_7
      exact if_pos rfl)), if_pos rfl]
theorem nu_desk {nb sz w od : Nat} {inp : List Nat} {b : Nat} {cell cl : Nat → Nat → Int64} {desk : Nat → Int64} (hper : 0 < sz / (w + 1)) (hod : od < sz / (w + 1)) (h1 : ∀ c ∈ inp, cl c = cell c) (h2 : ∀ k, k < od * (w + 1) → cl b k = desk k) : nmR (sz / (w + 1)) w cell inp (inp.length * (sz / (w + 1))) ++ nmD w od desk = (List.range (inp.length * (sz / (w + 1)) + od)).map (nuN sz w (inp ++ [b]) cl) := by
  rw [List.range_add, List.map_append, List.map_map]
  congr 1
  · unfold nmR
    refine List.map_congr_left (fun i hi => ?_)
    have hi2 : i / (sz / (w + 1)) < inp.length := (Nat.div_lt_iff_lt_mul hper).mpr (List.mem_range.mp hi)
    have e : (inp ++ [b]).getD (i / (sz / (w + 1))) 0 = inp.getD (i / (sz / (w + 1))) 0 := by
      rw [List.getD_eq_getElem?_getD, List.getD_eq_getElem?_getD, List.getElem?_append_left hi2]
    unfold nuN bkN
    rw [e]
    have hm : inp.getD (i / (sz / (w + 1))) 0 ∈ inp := by
      rw [List.getD_eq_getElem?_getD, List.getElem?_eq_getElem hi2]
      exact List.getElem_mem hi2
    rw [h1 _ hm]
  · unfold nmD
    refine List.map_congr_left (fun i hi => ?_)
    have hi2 := List.mem_range.mp hi
    have e1 : (inp.length * (sz / (w + 1)) + i) / (sz / (w + 1)) = inp.length := by
      rw [Nat.mul_comm, Nat.mul_add_div hper, Nat.div_eq_of_lt (by omega), Nat.add_zero]
    have e2 : (inp.length * (sz / (w + 1)) + i) % (sz / (w + 1)) = i := by
      rw [Nat.mul_comm, Nat.mul_add_mod, Nat.mod_eq_of_lt (by omega)]
    have e3 : (inp ++ [b]).getD inp.length 0 = b := by
      rw [List.getD_eq_getElem?_getD, List.getElem?_append_right (Nat.le_refl _), Nat.sub_self]
      rfl
    show desk (i * (w + 1) + w) = nuN sz w (inp ++ [b]) cl (inp.length * (sz / (w + 1)) + i)
    unfold nuN bkN
    rw [e1, e2, e3, h2]
    have := Nat.mul_le_mul_right (w + 1) (show i + 1 ≤ od from hi2)
    rw [Nat.add_mul, Nat.one_mul] at this
    omega
