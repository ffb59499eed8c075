/-! rows of the class: taking out a place, adding one -/
def rmF (f : Nat → Int32) (i m : Nat) : Nat → Int32 := fun k => if i ≤ k ∧ k + 1 < m then f (k + 1) else f k
theorem rmF_0 (f : Nat → Int32) (i : Nat) : rmF f i (i + 1) = f := by
  funext k
  unfold rmF
  rw [if_neg (by omega)]
theorem rmF_s {f : Nat → Int32} {i j : Nat} (h : i ≤ j) : upd (rmF f i (j + 1)) j (f (j + 1)) = rmF f i (j + 2) := by
  funext k
  rw [upd_at]
  unfold rmF
  by_cases e : k = j
  · subst e
    rw [if_pos rfl, if_pos (show i ≤ k ∧ k + 1 < k + 2 by omega)]
  · rw [if_neg e]
    by_cases c : i ≤ k ∧ k + 1 < j + 1
    · rw [if_pos c, if_pos (show i ≤ k ∧ k + 1 < j + 2 by omega)]
    · rw [if_neg c, if_neg (show ¬ (i ≤ k ∧ k + 1 < j + 2) by omega)]
theorem c_removeAt {n ln i m : Nat} {items : Nat → Int32} (hn : 300 < n) (hi : i < m) (hm : m ≤ ln) (hl : ln ≤ 200) : fX6_removeAt_0 n ln (zrv (nI m) items) (nI i) = some (sI (sA (zrv (nI m) items) 0 (rmF items i m)) 0 (nI (m - 1))) := by
  unfold fX6_removeAt_0
  rw [if_neg (nI_nn (by omega)), show zI (zrv (nI m) items) 0 = nI m from rfl, if_pos (nI_lt hi (by omega))]
  have e0 : (nI i, zrv (nI m) items) = (fun j => (nI j, sA (zrv (nI m) items) 0 (rmF items i (j + 1)))) i := by
    show _ = (nI i, sA (zrv (nI m) items) 0 (rmF items i (i + 1)))
    rw [rmF_0]
    exact congrArg (fun s => (nI i, s)) (sA_id (zrv (nI m) items) 0).symm
  rw [e0]
  refine (zb_s (zlp_for (β := zS) (fun j => (nI j, sA (zrv (nI m) items) 0 (rmF items i (j + 1)))) (sA (zrv (nI m) items) 0 (rmF items i m)) (m - 1 - i) i n (fun j h1 hj => ?_) ?_ (by omega))).trans ?_
  · unfold fX6_removeAt_L15_15
    dsimp only
    rw [nI_1, show zI (sA (zrv (nI m) items) 0 _) 0 = nI m from rfl, if_neg (fun q => by rw [nI_leI (by omega) (by omega)] at q; omega), if_neg (fun q => by rw [nI_leI (by omega) (by omega)] at q; omega), zg_in (by omega) (by omega), zg_in (by omega) (by omega), nI_clamp (by omega), nI_clamp (by omega), sA_sA, zA_sA, if_pos rfl]
    have e1 : rmF items i (j + 1) (j + 1) = items (j + 1) := by
      unfold rmF
      rw [if_neg (by omega)]
    rw [e1, rmF_s h1]
  · unfold fX6_removeAt_L15_15
    dsimp only
    rw [show i + (m - 1 - i) = m - 1 by omega, nI_1, show m - 1 + 1 = m by omega, show zI (sA (zrv (nI m) items) 0 _) 0 = nI m from rfl, if_pos (nI_le (Nat.le_refl _) (by omega))]
  · rw [show zI (sA (zrv (nI m) items) 0 (rmF items i m)) 0 = nI m from rfl, show (1 : Int32) = nI 1 from rfl, nI_sub (by omega)]
theorem c_add {n ln m : Nat} {items : Nat → Int32} {x : Int32} (hm : m < ln) (hl : ln ≤ 200) : fX6_add_0 n ln (zrv (nI m) items) x = some (sI (sA (zrv (nI m) items) 0 (upd items m x)) 0 (nI (m + 1))) := by
  unfold fX6_add_0
  rw [show zI (zrv (nI m) items) 0 = nI m from rfl, if_neg (nI_nn (by omega)), if_neg (fun q => by rw [nI_leI (by omega) (by omega)] at q; omega), zg_in hm (by omega), nI_clamp (by omega), nI_1]
  rfl
/-- the reference's order, moved down -/
theorem m_shift {n i m : Nat} {τ : zS} (hn : 300 < n) (hi : i < m) (hm : m ≤ 200) (h4 : zI τ 4 = nI m) : zlp (fX10_drop_L57_57 n) n (nI (i + 1), τ) = some (sA τ 7 (rmF (zA τ 7) i m)) := by
  have e0 : (nI (i + 1), τ) = (fun j => (nI (j + 1), sA τ 7 (rmF (zA τ 7) i (j + 1)))) i := by
    show _ = (nI (i + 1), sA τ 7 (rmF (zA τ 7) i (i + 1)))
    rw [rmF_0, sA_id]
  rw [e0]
  refine zlp_for (β := zS) (fun j => (nI (j + 1), sA τ 7 (rmF (zA τ 7) i (j + 1)))) (sA τ 7 (rmF (zA τ 7) i m)) (m - 1 - i) i n (fun j h1 hj => ?_) ?_ (by omega)
  · unfold fX10_drop_L57_57
    dsimp only
    rw [show zI (sA τ 7 _) 4 = nI m from h4, if_neg (fun q => by rw [nI_leI (by omega) (by omega)] at q; omega), zg_in (by omega) (by decide), nI_pred, zg_in (by omega) (by decide), nI_clamp (by omega), nI_clamp (by omega), sA_sA, zA_sA, if_pos rfl, nI_1]
    have e1 : rmF (zA τ 7) i (j + 1) (j + 1) = zA τ 7 (j + 1) := by
      unfold rmF
      rw [if_neg (by omega)]
    rw [e1, rmF_s h1]
  · unfold fX10_drop_L57_57
    dsimp only
    rw [show i + (m - 1 - i) + 1 = m by omega, show zI (sA τ 7 _) 4 = nI m from h4, if_pos (nI_le (Nat.le_refl _) (by omega))]
