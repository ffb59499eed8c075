/-! a record comes to the desk -/
theorem m_comeL {n w at_ : Nat} {τ : zS} (hn : 300 < n) (hw4 : w ≤ 4) (hw : zI τ 6 = nI w) (ha : at_ + w < 64) : zlp (fX10_come_L14_14 n (nI at_)) n (0, τ) = some (sL τ 1 (fun i => if at_ ≤ i ∧ i < at_ + w then zL τ 4 (i - at_) else zL τ 1 i)) := by
  have e0 : ((0 : Int32), τ) = (fun j => (nI j, sL τ 1 (fun i => if at_ ≤ i ∧ i < at_ + j then zL τ 4 (i - at_) else zL τ 1 i))) 0 := by
    have : (fun i => if at_ ≤ i ∧ i < at_ + 0 then zL τ 4 (i - at_) else zL τ 1 i) = zL τ 1 := by
      funext i
      rw [if_neg (by omega)]
    show _ = (nI 0, sL τ 1 _)
    rw [this, sL_id, nI_0]
  rw [e0]
  refine zlp_for (β := zS) (fun j => (nI j, sL τ 1 (fun i => if at_ ≤ i ∧ i < at_ + j then zL τ 4 (i - at_) else zL τ 1 i))) _ w 0 n (fun j _ hj => ?_) ?_ (by omega)
  · unfold fX10_come_L14_14
    dsimp only
    rw [show zI (sL τ 1 _) 6 = nI w from hw, if_neg (fun q => by rw [nI_leI (by omega) (by omega)] at q; omega), zg_in (by omega) (by decide), nI_add, zg_in (by omega) (by decide), sL_sL, zL_sL, if_pos rfl, zL_sL, if_neg (by decide), nI_clamp (by omega), nI_clamp (by omega), nI_1]
    congr 4
    funext i
    rw [updL_at]
    by_cases hi : i = at_ + j
    · rw [if_pos hi, if_pos (by omega), hi, Nat.add_sub_cancel_left]
    · rw [if_neg hi]
      by_cases hi2 : at_ ≤ i ∧ i < at_ + j
      · rw [if_pos hi2, if_pos (by omega)]
      · rw [if_neg hi2, if_neg (by omega)]
  · unfold fX10_come_L14_14
    dsimp only
    rw [show zI (sL τ 1 _) 6 = nI w from hw, Nat.zero_add, if_pos (nI_le (Nat.le_refl _) (by omega))]
theorem c_setDesk {n nb sz mm k : Nat} {σ : zS} {v : Int64} (hsz : sz ≤ 64) (hk : k < sz) : fX2_setDesk_0 n nb sz mm σ (nI k) v = some (sL σ 1 (vp_updL (zL σ 1) k v)) := by
  unfold fX2_setDesk_0
  rw [if_neg (nI_nn (by omega)), if_neg (fun q => by rw [nI_leI (by omega) (by omega)] at q; omega), zg_in hk (by omega), nI_clamp (by omega)]
theorem c_bringL {n nb sz mm w at_ : Nat} {σ : zS} (hn : 300 < n) (hsz : sz ≤ 64) (hw4 : w ≤ 4) (hw : zI σ 9 = nI w) (ha : at_ + w < sz) : zlp (fX2_bring_p35_L15_15 n nb sz mm (nI at_)) n (0, σ) = some (sL σ 1 (fun i => if at_ ≤ i ∧ i < at_ + w then zL σ 3 (i - at_) else zL σ 1 i)) := by
  have e0 : ((0 : Int32), σ) = (fun j => (nI j, sL σ 1 (fun i => if at_ ≤ i ∧ i < at_ + j then zL σ 3 (i - at_) else zL σ 1 i))) 0 := by
    have : (fun i => if at_ ≤ i ∧ i < at_ + 0 then zL σ 3 (i - at_) else zL σ 1 i) = zL σ 1 := by
      funext i
      rw [if_neg (by omega)]
    show _ = (nI 0, sL σ 1 _)
    rw [this, sL_id, nI_0]
  rw [e0]
  refine zlp_for (β := zS) (fun j => (nI j, sL σ 1 (fun i => if at_ ≤ i ∧ i < at_ + j then zL σ 3 (i - at_) else zL σ 1 i))) _ w 0 n (fun j _ hj => ?_) ?_ (by omega)
  · unfold fX2_bring_p35_L15_15
    dsimp only
    rw [show zI (sL σ 1 _) 9 = nI w from hw, if_neg (fun q => by rw [nI_leI (by omega) (by omega)] at q; omega), if_neg (fun q => by rw [nI_leI (by omega) (by omega)] at q; omega), zg_in (by omega) (by decide), nI_add, zb_s (c_setDesk hsz (by omega)), sL_sL, zL_sL, if_pos rfl, zL_sL, if_neg (by decide), nI_clamp (by omega), nI_1]
    congr 4
    funext i
    rw [updL_at]
    by_cases hi : i = at_ + j
    · rw [if_pos hi, if_pos (by omega), hi, Nat.add_sub_cancel_left]
    · rw [if_neg hi]
      by_cases hi2 : at_ ≤ i ∧ i < at_ + j
      · rw [if_pos hi2, if_pos (by omega)]
      · rw [if_neg hi2, if_neg (by omega)]
  · unfold fX2_bring_p35_L15_15
    dsimp only
    rw [show zI (sL σ 1 _) 9 = nI w from hw, Nat.zero_add, if_pos (nI_le (Nat.le_refl _) (by omega))]
