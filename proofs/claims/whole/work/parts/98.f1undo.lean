theorem chC_of {nx : Nat → Int32} : ∀ {l : List Nat}, (∀ i b, l[i]? = some b → nx b = chAt l (i + 1)) → chC nx l := by
  intro l
  induction l with
  | nil => intro _; trivial
  | cons a t ih =>
    intro h
    have h0 := h 0 a rfl
    have ht : chC nx t := ih (fun i b hb => h (i + 1) b hb)
    cases t with
    | nil => exact h0
    | cons c r => exact ⟨h0, ht⟩
theorem last_at {l : List Nat} (h : ¬ l = []) : l[l.length - 1]? = some (l.getLastD 0) := by
  rw [List.getLastD_eq_getLast?, List.getLast?_eq_getElem?]
  have h1 : 0 < l.length := List.length_pos_iff.mpr h
  rw [List.getElem?_eq_getElem (show l.length - 1 < l.length by omega)]
  rfl
theorem chC_last {nx : Nat → Int32} {l : List Nat} (h : ¬ l = []) (hc : chC nx l) : nx (l.getLastD 0) = -1 := by
  have h1 : 0 < l.length := List.length_pos_iff.mpr h
  rw [chC_step hc (last_at h), chAt_none (by omega)]
theorem chC_cut {nx nx' : Nat → Int32} {l : List Nat} {b : Nat} (hnd : l.Nodup) (hc : chC nx (l ++ [b])) (h1 : ¬ l = [] → nx' (l.getLastD 0) = -1) (h2 : ∀ c ∈ l, ¬ c = l.getLastD 0 → nx' c = nx c) : chC nx' l := by
  refine chC_of (fun i c hi => ?_)
  have hil := (List.getElem?_eq_some_iff.mp hi).1
  have hne : ¬ l = [] := fun q => by rw [q] at hil; exact absurd hil (by simp)
  by_cases e : i + 1 = l.length
  · have hl := last_at hne
    rw [show l.length - 1 = i by omega, hi] at hl
    cases hl
    rw [h1 hne, chAt_none (by omega)]
  · have hcl : ¬ c = l.getLastD 0 := fun q => by
      have hl := last_at hne
      rw [← q] at hl
      have := (List.getElem?_inj (i := i) (j := l.length - 1) hil hnd).mp (by rw [hi, hl])
      omega
    rw [h2 c (List.mem_of_getElem? hi) hcl, chC_step hc (i := i) (b := c) (by rw [List.getElem?_append_left hil]; exact hi)]
    have h3 : i + 1 < l.length := by omega
    rw [chAt_some (List.getElem?_eq_getElem h3), chAt_some (by rw [List.getElem?_append_left h3]; exact List.getElem?_eq_getElem h3)]
theorem m_unmk {n : Nat} {mfs : List Nat} {τ : zS} (hn : 300 < n) (h : rwL (fun x : Nat => x) mfs (zI τ 25) (zA τ 12)) (hl : mfs.length ≤ 207) (hm : ∀ f ∈ mfs, f < 208) : zlp (fX10_form_L217_217 n) n (0, τ) = some (sA τ 6 (frU (zA τ 6) mfs)) := by
  have e0 : ((0 : Int32), τ) = (fun j => (nI j, sA τ 6 (frU (zA τ 6) (mfs.take j)))) 0 := by
    show _ = (nI 0, sA τ 6 (frU (zA τ 6) (mfs.take 0)))
    rw [List.take_zero, frU_nil, sA_id]
    rfl
  rw [e0]
  refine zlp_for (β := zS) (fun j => (nI j, sA τ 6 (frU (zA τ 6) (mfs.take j)))) _ mfs.length 0 n (fun j _ hj => ?_) ?_ (by omega)
  · have hj2 : j < mfs.length := by omega
    have e := List.getElem?_eq_getElem hj2
    have hb := hm _ (List.mem_of_getElem? e)
    unfold fX10_form_L217_217
    dsimp only
    show (if zI τ 25 ≤ nI j then _ else zg (zin (nI j) 208) (zg (zin (zA τ 12 (nI j).toNatClampNeg) 208) _)) = _
    rw [h.1, if_neg (show ¬ nI mfs.length ≤ nI j from fun q => by rw [nI_leI (by omega) (by omega)] at q; omega), zg_in (show j < 208 by omega) (by decide)]
    show zg (zin (zA τ 12 (nI j).toNatClampNeg) 208) (some (Sum.inl (nI j + 1, sA (sA τ 6 (frU (zA τ 6) (mfs.take j))) 6 (upd (frU (zA τ 6) (mfs.take j)) (zA τ 12 (nI j).toNatClampNeg).toNatClampNeg (vp_nar .boolean 0))))) = _
    rw [nI_clamp (show j < 2 ^ 31 by omega), show zA τ 12 j = nI mfs[j] from h.2 j _ e, zg_in hb (by decide), nI_clamp (by omega), sA_sA, nI_1, nar0, frU_snoc, take_snoc e]
  · unfold fX10_form_L217_217
    dsimp only
    show (if zI τ 25 ≤ nI (0 + mfs.length) then _ else _) = _
    rw [h.1, Nat.zero_add, if_pos (nI_le (Nat.le_refl _) (by omega)), List.take_length]
