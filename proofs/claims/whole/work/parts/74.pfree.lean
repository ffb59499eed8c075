/-! chains that are given back; places that are taken out of a row -/
def frU (u : Nat → Int32) (bl : List Nat) : Nat → Int32 := fun k => if k ∈ bl then 0 else u k
theorem frU_nil (u : Nat → Int32) : frU u [] = u := by
  funext k
  unfold frU
  rw [if_neg List.not_mem_nil]
theorem frU_snoc (u : Nat → Int32) (l : List Nat) (b : Nat) : upd (frU u l) b 0 = frU u (l ++ [b]) := by
  funext k
  rw [upd_at]
  unfold frU
  by_cases e : k = b
  · rw [if_pos e, if_pos (by rw [e]; simp)]
  · rw [if_neg e]
    by_cases c : k ∈ l
    · rw [if_pos c, if_pos (List.mem_append_left _ c)]
    · rw [if_neg c, if_neg (fun q => by
        rcases List.mem_append.mp q with q | q
        · exact c q
        · exact e (List.mem_singleton.mp q))]
theorem take_snoc {l : List Nat} {j b : Nat} (h : l[j]? = some b) : l.take (j + 1) = l.take j ++ [b] := by
  rw [List.take_succ, h]
  rfl
theorem m_freeL {n : Nat} {τ : zS} {bl : List Nat} {x : Int32} (hn : 300 < n) (hc : chC (zA τ 2) bl) (hb : ∀ b ∈ bl, b < 200) (hlen : bl.length ≤ 200) : zlp (fX10_free_L7_7 n x) n (chAt bl 0, τ) = some (sA τ 0 (frU (zA τ 0) bl)) := by
  have e0 : (chAt bl 0, τ) = (fun j => (chAt bl j, sA τ 0 (frU (zA τ 0) (bl.take j)))) 0 := by
    show _ = (chAt bl 0, sA τ 0 (frU (zA τ 0) (bl.take 0)))
    rw [List.take_zero, frU_nil, sA_id]
  rw [e0]
  refine zlp_for (β := zS) (fun j => (chAt bl j, sA τ 0 (frU (zA τ 0) (bl.take j)))) _ bl.length 0 n (fun j _ hj => ?_) ?_ (by omega)
  · have hlt : j < bl.length := by omega
    have e := List.getElem?_eq_getElem hlt
    have hbb := hb _ (List.mem_of_getElem? e)
    unfold fX10_free_L7_7
    dsimp only
    rw [chAt_some e, if_neg (nI_m1 (by omega)), zg_in hbb (by decide), zg_in hbb (by decide), nI_clamp (by omega), sA_sA, zA_sA, if_neg (by decide), zA_sA, if_pos rfl, nar0, chC_step hc e, frU_snoc, take_snoc e]
  · unfold fX10_free_L7_7
    dsimp only
    rw [Nat.zero_add, chAt_none (Nat.le_refl _), if_pos rfl, List.take_length]
theorem c_remove {n nb sz mm : Nat} {σ : zS} {bl : List Nat} (hn : 300 < n) (hnb : nb ≤ 200) (hne : bl ≠ []) (hc : chC (zA σ 3) bl) (hb : ∀ b ∈ bl, b < nb) (hlen : bl.length ≤ nb) : fX1_remove_0 n nb sz mm σ (nI (bl.headD 0)) = some (sA σ 0 (frU (zA σ 0) bl)) := by
  unfold fX1_remove_0
  have e0 : (nI (bl.headD 0), (0 : Int32), σ) = (fun j => (chAt bl j, nI j, sA σ 0 (frU (zA σ 0) (bl.take j)))) 0 := by
    show _ = (chAt bl 0, nI 0, sA σ 0 (frU (zA σ 0) (bl.take 0)))
    rw [List.take_zero, frU_nil, sA_id, chAt_some (head_at hne)]
    rfl
  rw [e0]
  refine zb_s (zlp_for (β := zS) (fun j => (chAt bl j, nI j, sA σ 0 (frU (zA σ 0) (bl.take j)))) _ bl.length 0 n (fun j _ hj => ?_) ?_ (by omega))
  · have hlt : j < bl.length := by omega
    have e := List.getElem?_eq_getElem hlt
    have hbb := hb _ (List.mem_of_getElem? e)
    unfold fX1_remove_L4_4
    dsimp only
    rw [if_neg (fun q => by rw [nI_leI (by omega) (by omega)] at q; omega), chAt_some e, if_neg (nI_m1 (by omega)), zb_s (c_release hnb hbb), zb_s (c_behind hnb hbb), sA_sA, zA_sA, if_neg (by decide), zA_sA, if_pos rfl, chC_step hc e, frU_snoc, take_snoc e, nI_1]
  · unfold fX1_remove_L4_4
    dsimp only
    rw [Nat.zero_add, chAt_none (Nat.le_refl _), List.take_length]
    by_cases e : nI nb ≤ nI bl.length
    · rw [if_pos e]
    · rw [if_neg e, if_pos rfl]
