/-! ===== the disk of the reference ===== -/
theorem nar0 : vp_nar .boolean 0 = 0 := by decide
theorem nar1 : vp_nar .boolean 1 = 1 := by decide
def goM (τ : zS) (b : Int32) : zS := sI (sI (sI τ 12 (zI τ 12 + (if b ≤ zI τ 13 then zI τ 13 - b else b - zI τ 13))) 13 b) 14 b
theorem m_go (n : Nat) (τ : zS) (b : Int32) : fX10_go_0 n τ b = some (goM τ b) := by
  unfold fX10_go_0 fX10_go_28 goM
  by_cases h : b ≤ zI τ 13
  · rw [if_pos h, if_pos h]
  · rw [if_neg h, if_neg h]
theorem dM_go (nb sz : Nat) (τ : zS) (b : Int32) : dM nb sz (goM τ b) = dGo (dM nb sz τ) b := rfl
def rdM (τ : zS) (b : Int32) : zS := goM (sI τ 10 (zI τ 10 + 1)) b
theorem m_read {n : Nat} {τ : zS} (h : zI τ 17 = 0) (b : Int32) : fX10_read_0 n τ b = some (rdM τ b) := by
  unfold fX10_read_0 rdM
  rw [if_pos h, zb_s (m_go n _ b)]
theorem m_read_s {n : Nat} {τ : zS} (h : ¬ zI τ 17 = 0) (b : Int32) : fX10_read_0 n τ b = some τ := by
  unfold fX10_read_0
  rw [if_neg h]
theorem dM_rd (nb sz : Nat) (τ : zS) (b : Int32) : dM nb sz (rdM τ b) = dRead (dM nb sz τ) b := rfl
theorem m_begin {n nb : Nat} {τ : zS} (hn : 300 < n) (h1 : zI τ 1 = nI nb) (hb : nb ≤ 200) : fX10_begin_0 n τ = some (sA (sI τ 17 0) 1 (fun k => if k < nb then 0 else zA τ 1 k)) := by
  unfold fX10_begin_0
  have e0 : ((0 : Int32), sI τ 17 0) = (fun j => (nI j, sA (sI τ 17 0) 1 (fun k => if k < j then 0 else zA τ 1 k))) 0 := by
    have : (fun k => if k < 0 then (0 : Int32) else zA τ 1 k) = zA (sI τ 17 0) 1 := by
      funext k
      rw [if_neg (Nat.not_lt_zero k)]
      rfl
    show _ = (nI 0, sA (sI τ 17 0) 1 _)
    rw [this, sA_id, nI_0]
  rw [e0]
  refine zb_s (zlp_for (β := zS) (fun j => (nI j, sA (sI τ 17 0) 1 (fun k => if k < j then 0 else zA τ 1 k))) (sA (sI τ 17 0) 1 (fun k => if k < nb then 0 else zA τ 1 k)) nb 0 n (fun j _ hj => ?_) ?_ (by omega))
  · unfold fX10_begin_L7_7
    dsimp only
    have hj : j < nb := by omega
    rw [show zI (sA (sI τ 17 0) 1 _) 1 = nI nb from h1, if_neg (fun q => by rw [nI_leI (by omega) (by omega)] at q; omega), zg_in (by omega) (by decide), sA_sA, zA_sA, if_pos rfl, nI_clamp (by omega), nI_1, nar0]
    congr 4
    funext k
    rw [upd_at]
    by_cases hk : k = j
    · rw [if_pos hk, if_pos (by omega)]
    · rw [if_neg hk]
      by_cases hk2 : k < j
      · rw [if_pos hk2, if_pos (by omega)]
      · rw [if_neg hk2, if_neg (by omega)]
  · unfold fX10_begin_L7_7
    dsimp only
    rw [show zI (sA (sI τ 17 0) 1 _) 1 = nI nb from h1, Nat.zero_add, if_pos (nI_le (Nat.le_refl _) (by omega))]
theorem m_giveBack {n nb : Nat} {τ : zS} (hn : 300 < n) (h1 : zI τ 1 = nI nb) (hb : nb ≤ 200) : fX10_giveBack_0 n τ = some (sA τ 0 (fun k => if k < nb then (if zA τ 0 k = 0 then 0 else if zA τ 1 k = 0 then 1 else 0) else zA τ 0 k)) := by
  unfold fX10_giveBack_0
  have e0 : ((0 : Int32), τ) = (fun j => (nI j, sA τ 0 (fun k => if k < j then (if zA τ 0 k = 0 then 0 else if zA τ 1 k = 0 then 1 else 0) else zA τ 0 k))) 0 := by
    have : (fun k => if k < 0 then (if zA τ 0 k = 0 then (0 : Int32) else if zA τ 1 k = 0 then 1 else 0) else zA τ 0 k) = zA τ 0 := by
      funext k
      rw [if_neg (Nat.not_lt_zero k)]
    show _ = (nI 0, sA τ 0 _)
    rw [this, sA_id, nI_0]
  rw [e0]
  refine zb_s (zlp_for (β := zS) (fun j => (nI j, sA τ 0 (fun k => if k < j then (if zA τ 0 k = 0 then 0 else if zA τ 1 k = 0 then 1 else 0) else zA τ 0 k))) (sA τ 0 (fun k => if k < nb then (if zA τ 0 k = 0 then 0 else if zA τ 1 k = 0 then 1 else 0) else zA τ 0 k)) nb 0 n (fun j _ hj => ?_) ?_ (by omega))
  · unfold fX10_giveBack_L2_2 fX10_giveBack_L2_37 fX10_giveBack_L2_38
    dsimp only
    have hj : j < nb := by omega
    have fin : ∀ v : Int32, v = (if zA τ 0 j = 0 then 0 else if zA τ 1 j = 0 then 1 else 0) → sA τ 0 (upd (fun k => if k < j then (if zA τ 0 k = 0 then 0 else if zA τ 1 k = 0 then 1 else 0) else zA τ 0 k) j v) = sA τ 0 (fun k => if k < j + 1 then (if zA τ 0 k = 0 then 0 else if zA τ 1 k = 0 then 1 else 0) else zA τ 0 k) := by
      intro v hv
      congr 1
      funext k
      rw [upd_at]
      by_cases hk : k = j
      · subst hk
        rw [if_pos rfl, if_pos (show k < k + 1 by omega), hv]
      · rw [if_neg hk]
        by_cases hk2 : k < j
        · rw [if_pos hk2, if_pos (show k < j + 1 by omega)]
        · rw [if_neg hk2, if_neg (show ¬ k < j + 1 by omega)]
    rw [show zI (sA τ 0 _) 1 = nI nb from h1, if_neg (fun q => by rw [nI_leI (by omega) (by omega)] at q; omega)]
    simp only [zg_in (show j < 200 by omega) (show 200 < 2 ^ 31 by decide), sA_sA, zA_sA, nI_clamp (show j < 2 ^ 31 by omega), nI_1, nar0, nar1, Nat.lt_irrefl, if_true, if_false, reduceIte]
    rw [show (if 1 = 0 then _ else zA τ 1) = zA τ 1 from rfl]
    by_cases c1 : zA τ 0 j = 0
    · rw [if_pos c1, fin 0 (by rw [if_pos c1])]
    · rw [if_neg c1]
      by_cases c2 : zA τ 1 j = 0
      · rw [if_pos c2, fin 1 (by rw [if_neg c1, if_pos c2])]
      · rw [if_neg c2, fin 0 (by rw [if_neg c1, if_neg c2])]
  · unfold fX10_giveBack_L2_2
    dsimp only
    rw [zI_sA, h1, Nat.zero_add, if_pos (nI_le (Nat.le_refl _) (by omega))]
def dFc (u : Nat → Bool) : Nat → Int32
  | 0 => 0
  | m + 1 => dFc u m + (if u m = true then 0 else 1)
theorem m_freeBlocks {n nb sz : Nat} {τ : zS} (hn : 300 < n) (h1 : zI τ 1 = nI nb) (hb : nb ≤ 200) : fX10_freeBlocks_0 n τ = some (dFc (dM nb sz τ).2.1 nb) := by
  unfold fX10_freeBlocks_0
  have e0 : ((0 : Int32), (0 : Int32)) = (fun j => (dFc (dM nb sz τ).2.1 j, nI j)) 0 := rfl
  rw [e0]
  refine zb_s (zlp_for (β := Int32) (fun j => (dFc (dM nb sz τ).2.1 j, nI j)) (dFc (dM nb sz τ).2.1 nb) nb 0 n (fun j _ hj => ?_) ?_ (by omega))
  · unfold fX10_freeBlocks_L4_4 fX10_freeBlocks_L4_27
    dsimp only
    have hj : j < nb := by omega
    rw [h1, if_neg (fun q => by rw [nI_leI (by omega) (by omega)] at q; omega), zg_in (by omega) (by decide), nI_clamp (by omega), nI_1]
    have hu : (dM nb sz τ).2.1 j = decide (¬ zA τ 0 j = 0) := by
      show (decide (j < nb) && decide (¬ zA τ 0 j = 0)) = _
      rw [decide_eq_true hj, Bool.true_and]
    by_cases c1 : zA τ 0 j = 0
    · rw [if_pos c1]
      show _ = some (Sum.inl (dFc (dM nb sz τ).2.1 j + (if (dM nb sz τ).2.1 j = true then 0 else 1), nI (j + 1)))
      rw [hu, if_neg (by simp [c1])]
    · rw [if_neg c1]
      show _ = some (Sum.inl (dFc (dM nb sz τ).2.1 j + (if (dM nb sz τ).2.1 j = true then 0 else 1), nI (j + 1)))
      rw [hu, if_pos (by simp [c1])]
  · unfold fX10_freeBlocks_L4_4
    dsimp only
    rw [h1, Nat.zero_add, if_pos (nI_le (Nat.le_refl _) (by omega))]
theorem dM_used {nb sz : Nat} {τ : zS} {b : Nat} (hb : b < nb) : (dM nb sz τ).2.1 b = true ↔ ¬ zA τ 0 b = 0 := by
  show (decide (b < nb) && decide (¬ zA τ 0 b = 0)) = true ↔ _
  rw [decide_eq_true hb, Bool.true_and, decide_eq_true_iff]
/-- the state behind a block that was written -/
def wrp10M (τ : zS) (b : Nat) (cnt : Nat) : zS := sL (goM (sI (sA (sA (sA (sI τ 15 (if zI τ 15 ≤ 0 then zI τ 15 else zI τ 15 - 1)) 0 (upd (zA τ 0) b 1)) 1 (upd (zA τ 1) b 1)) 2 (upd (zA τ 2) b (-1))) 11 (zI τ 11 + 1)) (nI b)) 0 (fun i => if 64 * b ≤ i ∧ i < 64 * b + cnt then zL τ 1 (i - 64 * b) else zL τ 0 i)
theorem m_least_p10 {n nb sz : Nat} {τ : zS} {x : Int32} (hn : 300 < n) (h1 : zI τ 1 = nI nb) (hb : nb ≤ 200) : zlp (fX10_write_p10_L2_2 n τ x) n 0 = some (nI (dLf (dM nb sz τ).2.1 nb 0)) := by
  have hle := dLf_le (dM nb sz τ).2.1 nb 0
  have hus := dLf_used (dM nb sz τ).2.1 nb 0
  have hfr := dLf_free (dM nb sz τ).2.1 nb 0
  generalize dLf (dM nb sz τ).2.1 nb 0 = N at hle hus hfr ⊢
  have e0 : (0 : Int32) = (fun j => nI j) 0 := rfl
  rw [e0]
  refine zlp_for (β := Int32) (fun j => nI j) (nI N) N 0 n (fun j _ hj => ?_) ?_ (by omega)
  · unfold fX10_write_p10_L2_2
    have hu := (dM_used (by omega)).mp (hus j (Nat.zero_le _) (by omega))
    rw [h1, if_neg (fun q => by rw [nI_leI (by omega) (by omega)] at q; omega), zg_in (by omega) (by decide), nI_clamp (by omega), if_neg hu, nI_1]
  · unfold fX10_write_p10_L2_2
    rw [Nat.zero_add, h1]
    by_cases c1 : nb ≤ N
    · rw [if_pos (nI_le c1 (by omega))]
    · have hu := hfr (by omega)
      rw [dM_used (by omega)] at hu
      rw [if_neg (fun q => by rw [nI_leI (by omega) (by omega)] at q; omega), zg_in (by omega) (by decide), nI_clamp (by omega), if_pos (Decidable.not_not.mp hu)]
theorem m_copy_p10 {n w m b : Nat} {τ : zS} (hn : 300 < n) (hw : zI τ 6 = nI w) (hb : b < 200) (hm : m * (w + 1) ≤ 64) (hm2 : m < 100) (hw2 : w < 100) : zlp (fX10_write_p10_L132_132 n (nI m) (nI b)) n (0, τ) = some (sL τ 0 (fun i => if 64 * b ≤ i ∧ i < 64 * b + m * (w + 1) then zL τ 1 (i - 64 * b) else zL τ 0 i)) := by
  have e0 : ((0 : Int32), τ) = (fun j => (nI j, sL τ 0 (fun i => if 64 * b ≤ i ∧ i < 64 * b + j then zL τ 1 (i - 64 * b) else zL τ 0 i))) 0 := by
    have : (fun i => if 64 * b ≤ i ∧ i < 64 * b + 0 then zL τ 1 (i - 64 * b) else zL τ 0 i) = zL τ 0 := by
      funext i
      rw [if_neg (by omega)]
    show _ = (nI 0, sL τ 0 _)
    rw [this, sL_id, nI_0]
  rw [e0]
  have hsz : ∀ σ : zS, zI σ 6 = nI w → nI m * (zI σ 6 + 1) = nI (m * (w + 1)) := fun σ h => by rw [h, nI_1, nI_mul]
  refine zlp_for (β := zS) (fun j => (nI j, sL τ 0 (fun i => if 64 * b ≤ i ∧ i < 64 * b + j then zL τ 1 (i - 64 * b) else zL τ 0 i))) _ (m * (w + 1)) 0 n (fun j _ hj => ?_) ?_ (by omega)
  · unfold fX10_write_p10_L132_132
    dsimp only
    have hj : j < m * (w + 1) := by omega
    have e64 : (64 : Int32) * nI b + nI j = nI (64 * b + j) := by rw [show (64 : Int32) = nI 64 from rfl, nI_mul, nI_add]
    rw [show nI m * (zI (sL τ 0 _) 6 + 1) = nI (m * (w + 1)) from hsz τ hw, if_neg (fun q => by rw [nI_leI (by omega) (by omega)] at q; omega), zg_in (by omega) (by decide), e64, zg_in (by omega) (by decide), sL_sL, zL_sL, if_pos rfl, zL_sL, if_neg (by decide), nI_clamp (by omega), nI_clamp (by omega), nI_1]
    congr 4
    funext i
    rw [updL_at]
    by_cases hi : i = 64 * b + j
    · rw [if_pos hi, if_pos (by omega), hi, Nat.add_sub_cancel_left]
    · rw [if_neg hi]
      by_cases hi2 : 64 * b ≤ i ∧ i < 64 * b + j
      · rw [if_pos hi2, if_pos (by omega)]
      · rw [if_neg hi2, if_neg (by omega)]
  · unfold fX10_write_p10_L132_132
    dsimp only
    rw [show nI m * (zI (sL τ 0 _) 6 + 1) = nI (m * (w + 1)) from hsz τ hw, Nat.zero_add, if_pos (nI_le (Nat.le_refl _) (by omega))]
/-- a writing: full, power gone, or done -/
theorem m_write_p10 {n nb sz w m : Nat} {τ : zS} (hn : 300 < n) (h1 : zI τ 1 = nI nb) (hb : nb ≤ 200) (hs : zI τ 17 = 0) (hw : zI τ 6 = nI w) (hm : m * (w + 1) ≤ 64) (hm2 : m < 100) (hw2 : w < 100) : fX10_write_p10_0 n τ (nI m) = some (if dLf (dM nb sz τ).2.1 nb 0 = nb then (-1, sI τ 17 2) else if zI τ 15 = 0 then (-1, sI τ 17 1) else (nI (dLf (dM nb sz τ).2.1 nb 0), wrp10M (sI τ 17 0) (dLf (dM nb sz τ).2.1 nb 0) (m * (w + 1)))) := by
  have hle := dLf_le (dM nb sz τ).2.1 nb 0
  unfold fX10_write_p10_0
  rw [zb_s (m_least_p10 (sz := sz) hn h1 hb), if_pos hs, h1]
  generalize dLf (dM nb sz τ).2.1 nb 0 = N at hle ⊢
  unfold fX10_write_p10_57 fX10_write_p10_60
  by_cases c1 : N = nb
  · rw [if_pos c1, if_pos (by rw [c1]), zI_sI, if_pos rfl, if_neg (by decide)]
  · rw [if_neg c1, if_neg (fun q => c1 ((nI_eq (by omega) (by omega)).mp q))]
    by_cases c2 : zI τ 15 = 0
    · rw [if_pos c2, if_pos c2, zI_sI, if_pos rfl, if_neg (by decide)]
    · rw [if_neg c2, if_neg c2, zI_sI, if_pos rfl, if_pos (by decide)]
      have key : ∀ y0 : Int32, y0 = (if zI (sI τ 17 0) 15 ≤ 0 then zI (sI τ 17 0) 15 else zI (sI τ 17 0) 15 - 1) → fX10_write_p10_90 n (sI τ 17 0) (nI m) (nI N) y0 = some (nI N, wrp10M (sI τ 17 0) N (m * (w + 1))) := by
        intro y0 hy
        unfold fX10_write_p10_90
        rw [zg_in (by omega) (by decide), zg_in (by omega) (by decide), zg_in (by omega) (by decide), nI_clamp (by omega), nar1, zb_s (m_go n _ _)]
        refine (zb_s (m_copy_p10 (w := w) (b := N) hn ?_ (by omega) hm hm2 hw2)).trans ?_
        · exact hw
        · rw [hy]
          rfl
      by_cases c3 : zI (sI τ 17 0) 15 ≤ 0
      · rw [if_pos c3, key _ (by rw [if_pos c3])]
      · rw [if_neg c3, key _ (by rw [if_neg c3])]
theorem m_write_p10_s {n nb sz : Nat} {τ : zS} {x : Int32} (hn : 300 < n) (h1 : zI τ 1 = nI nb) (hb : nb ≤ 200) (hs : 0 < zI τ 17) : fX10_write_p10_0 n τ x = some (-1, τ) := by
  unfold fX10_write_p10_0 fX10_write_p10_60
  have h0 : ¬ zI τ 17 ≤ 0 := fun q => by rw [Int32.le_iff_toInt_le] at q; rw [Int32.lt_iff_toInt_lt] at hs; omega
  have h00 : ¬ zI τ 17 = 0 := fun q => h0 (by rw [q]; decide)
  rw [zb_s (m_least_p10 (sz := sz) hn h1 hb), if_neg h00, if_neg h0]
theorem dM_wr_p10 {nb sz cnt b : Nat} {τ : zS} (hb : b < nb) (hc : cnt ≤ sz) (hsz : sz ≤ 64) : dM nb sz (wrp10M τ b cnt) = dPut (dM nb sz τ) b (fun k => zL τ 1 k) cnt := by
  have e1 : (fun c k => if c < nb ∧ k < sz then zL (wrp10M τ b cnt) 0 (64 * c + k) else 0) = (fun c k => if c = b ∧ k < cnt then zL τ 1 k else if c < nb ∧ k < sz then zL τ 0 (64 * c + k) else 0) := by
    funext c k
    show (if c < nb ∧ k < sz then (if 64 * b ≤ 64 * c + k ∧ 64 * c + k < 64 * b + cnt then zL τ 1 (64 * c + k - 64 * b) else zL τ 0 (64 * c + k)) else 0) = _
    by_cases h1 : c = b ∧ k < cnt
    · obtain ⟨rfl, h2⟩ := h1
      rw [if_pos (by omega), if_pos (by omega), if_pos ⟨rfl, h2⟩, Nat.add_sub_cancel_left]
    · rw [if_neg h1]
      by_cases h3 : c < nb ∧ k < sz
      · rw [if_pos h3, if_pos h3, if_neg (by omega)]
      · rw [if_neg h3, if_neg h3]
  have e2 : (fun c => decide (c < nb) && decide (¬ zA (wrp10M τ b cnt) 0 c = 0)) = (fun c => decide (c = b) || (decide (c < nb) && decide (¬ zA τ 0 c = 0))) := by
    funext c
    show (decide (c < nb) && decide (¬ upd (zA τ 0) b 1 c = 0)) = _
    rw [upd_at]
    by_cases h1 : c = b
    · rw [if_pos h1, decide_eq_true h1, decide_eq_true (show c < nb by omega), Bool.true_or, Bool.true_and]
      decide
    · rw [if_neg h1, decide_eq_false h1, Bool.false_or]
  unfold dM
  rw [e1, e2]
  rfl
/-- the state behind a block that was written -/
def wrp13M (τ : zS) (b : Nat) (cnt : Nat) : zS := sL (goM (sI (sA (sA (sA (sI τ 15 (if zI τ 15 ≤ 0 then zI τ 15 else zI τ 15 - 1)) 0 (upd (zA τ 0) b 1)) 1 (upd (zA τ 1) b 1)) 2 (upd (zA τ 2) b (-1))) 11 (zI τ 11 + 1)) (nI b)) 0 (fun i => if 64 * b ≤ i ∧ i < 64 * b + cnt then zL τ 2 (i - 64 * b) else zL τ 0 i)
theorem m_least_p13 {n nb sz : Nat} {τ : zS} {x : Int32} (hn : 300 < n) (h1 : zI τ 1 = nI nb) (hb : nb ≤ 200) : zlp (fX10_write_p13_L2_2 n τ x) n 0 = some (nI (dLf (dM nb sz τ).2.1 nb 0)) := by
  have hle := dLf_le (dM nb sz τ).2.1 nb 0
  have hus := dLf_used (dM nb sz τ).2.1 nb 0
  have hfr := dLf_free (dM nb sz τ).2.1 nb 0
  generalize dLf (dM nb sz τ).2.1 nb 0 = N at hle hus hfr ⊢
  have e0 : (0 : Int32) = (fun j => nI j) 0 := rfl
  rw [e0]
  refine zlp_for (β := Int32) (fun j => nI j) (nI N) N 0 n (fun j _ hj => ?_) ?_ (by omega)
  · unfold fX10_write_p13_L2_2
    have hu := (dM_used (by omega)).mp (hus j (Nat.zero_le _) (by omega))
    rw [h1, if_neg (fun q => by rw [nI_leI (by omega) (by omega)] at q; omega), zg_in (by omega) (by decide), nI_clamp (by omega), if_neg hu, nI_1]
  · unfold fX10_write_p13_L2_2
    rw [Nat.zero_add, h1]
    by_cases c1 : nb ≤ N
    · rw [if_pos (nI_le c1 (by omega))]
    · have hu := hfr (by omega)
      rw [dM_used (by omega)] at hu
      rw [if_neg (fun q => by rw [nI_leI (by omega) (by omega)] at q; omega), zg_in (by omega) (by decide), nI_clamp (by omega), if_pos (Decidable.not_not.mp hu)]
theorem m_copy_p13 {n w m b : Nat} {τ : zS} (hn : 300 < n) (hw : zI τ 6 = nI w) (hb : b < 200) (hm : m * (w + 1) ≤ 64) (hm2 : m < 100) (hw2 : w < 100) : zlp (fX10_write_p13_L132_132 n (nI m) (nI b)) n (0, τ) = some (sL τ 0 (fun i => if 64 * b ≤ i ∧ i < 64 * b + m * (w + 1) then zL τ 2 (i - 64 * b) else zL τ 0 i)) := by
  have e0 : ((0 : Int32), τ) = (fun j => (nI j, sL τ 0 (fun i => if 64 * b ≤ i ∧ i < 64 * b + j then zL τ 2 (i - 64 * b) else zL τ 0 i))) 0 := by
    have : (fun i => if 64 * b ≤ i ∧ i < 64 * b + 0 then zL τ 2 (i - 64 * b) else zL τ 0 i) = zL τ 0 := by
      funext i
      rw [if_neg (by omega)]
    show _ = (nI 0, sL τ 0 _)
    rw [this, sL_id, nI_0]
  rw [e0]
  have hsz : ∀ σ : zS, zI σ 6 = nI w → nI m * (zI σ 6 + 1) = nI (m * (w + 1)) := fun σ h => by rw [h, nI_1, nI_mul]
  refine zlp_for (β := zS) (fun j => (nI j, sL τ 0 (fun i => if 64 * b ≤ i ∧ i < 64 * b + j then zL τ 2 (i - 64 * b) else zL τ 0 i))) _ (m * (w + 1)) 0 n (fun j _ hj => ?_) ?_ (by omega)
  · unfold fX10_write_p13_L132_132
    dsimp only
    have hj : j < m * (w + 1) := by omega
    have e64 : (64 : Int32) * nI b + nI j = nI (64 * b + j) := by rw [show (64 : Int32) = nI 64 from rfl, nI_mul, nI_add]
    rw [show nI m * (zI (sL τ 0 _) 6 + 1) = nI (m * (w + 1)) from hsz τ hw, if_neg (fun q => by rw [nI_leI (by omega) (by omega)] at q; omega), zg_in (by omega) (by decide), e64, zg_in (by omega) (by decide), sL_sL, zL_sL, if_pos rfl, zL_sL, if_neg (by decide), nI_clamp (by omega), nI_clamp (by omega), nI_1]
    congr 4
    funext i
    rw [updL_at]
    by_cases hi : i = 64 * b + j
    · rw [if_pos hi, if_pos (by omega), hi, Nat.add_sub_cancel_left]
    · rw [if_neg hi]
      by_cases hi2 : 64 * b ≤ i ∧ i < 64 * b + j
      · rw [if_pos hi2, if_pos (by omega)]
      · rw [if_neg hi2, if_neg (by omega)]
  · unfold fX10_write_p13_L132_132
    dsimp only
    rw [show nI m * (zI (sL τ 0 _) 6 + 1) = nI (m * (w + 1)) from hsz τ hw, Nat.zero_add, if_pos (nI_le (Nat.le_refl _) (by omega))]
/-- a writing: full, power gone, or done -/
theorem m_write_p13 {n nb sz w m : Nat} {τ : zS} (hn : 300 < n) (h1 : zI τ 1 = nI nb) (hb : nb ≤ 200) (hs : zI τ 17 = 0) (hw : zI τ 6 = nI w) (hm : m * (w + 1) ≤ 64) (hm2 : m < 100) (hw2 : w < 100) : fX10_write_p13_0 n τ (nI m) = some (if dLf (dM nb sz τ).2.1 nb 0 = nb then (-1, sI τ 17 2) else if zI τ 15 = 0 then (-1, sI τ 17 1) else (nI (dLf (dM nb sz τ).2.1 nb 0), wrp13M (sI τ 17 0) (dLf (dM nb sz τ).2.1 nb 0) (m * (w + 1)))) := by
  have hle := dLf_le (dM nb sz τ).2.1 nb 0
  unfold fX10_write_p13_0
  rw [zb_s (m_least_p13 (sz := sz) hn h1 hb), if_pos hs, h1]
  generalize dLf (dM nb sz τ).2.1 nb 0 = N at hle ⊢
  unfold fX10_write_p13_57 fX10_write_p13_60
  by_cases c1 : N = nb
  · rw [if_pos c1, if_pos (by rw [c1]), zI_sI, if_pos rfl, if_neg (by decide)]
  · rw [if_neg c1, if_neg (fun q => c1 ((nI_eq (by omega) (by omega)).mp q))]
    by_cases c2 : zI τ 15 = 0
    · rw [if_pos c2, if_pos c2, zI_sI, if_pos rfl, if_neg (by decide)]
    · rw [if_neg c2, if_neg c2, zI_sI, if_pos rfl, if_pos (by decide)]
      have key : ∀ y0 : Int32, y0 = (if zI (sI τ 17 0) 15 ≤ 0 then zI (sI τ 17 0) 15 else zI (sI τ 17 0) 15 - 1) → fX10_write_p13_90 n (sI τ 17 0) (nI m) (nI N) y0 = some (nI N, wrp13M (sI τ 17 0) N (m * (w + 1))) := by
        intro y0 hy
        unfold fX10_write_p13_90
        rw [zg_in (by omega) (by decide), zg_in (by omega) (by decide), zg_in (by omega) (by decide), nI_clamp (by omega), nar1, zb_s (m_go n _ _)]
        refine (zb_s (m_copy_p13 (w := w) (b := N) hn ?_ (by omega) hm hm2 hw2)).trans ?_
        · exact hw
        · rw [hy]
          rfl
      by_cases c3 : zI (sI τ 17 0) 15 ≤ 0
      · rw [if_pos c3, key _ (by rw [if_pos c3])]
      · rw [if_neg c3, key _ (by rw [if_neg c3])]
theorem m_write_p13_s {n nb sz : Nat} {τ : zS} {x : Int32} (hn : 300 < n) (h1 : zI τ 1 = nI nb) (hb : nb ≤ 200) (hs : 0 < zI τ 17) : fX10_write_p13_0 n τ x = some (-1, τ) := by
  unfold fX10_write_p13_0 fX10_write_p13_60
  have h0 : ¬ zI τ 17 ≤ 0 := fun q => by rw [Int32.le_iff_toInt_le] at q; rw [Int32.lt_iff_toInt_lt] at hs; omega
  have h00 : ¬ zI τ 17 = 0 := fun q => h0 (by rw [q]; decide)
  rw [zb_s (m_least_p13 (sz := sz) hn h1 hb), if_neg h00, if_neg h0]
theorem dM_wr_p13 {nb sz cnt b : Nat} {τ : zS} (hb : b < nb) (hc : cnt ≤ sz) (hsz : sz ≤ 64) : dM nb sz (wrp13M τ b cnt) = dPut (dM nb sz τ) b (fun k => zL τ 2 k) cnt := by
  have e1 : (fun c k => if c < nb ∧ k < sz then zL (wrp13M τ b cnt) 0 (64 * c + k) else 0) = (fun c k => if c = b ∧ k < cnt then zL τ 2 k else if c < nb ∧ k < sz then zL τ 0 (64 * c + k) else 0) := by
    funext c k
    show (if c < nb ∧ k < sz then (if 64 * b ≤ 64 * c + k ∧ 64 * c + k < 64 * b + cnt then zL τ 2 (64 * c + k - 64 * b) else zL τ 0 (64 * c + k)) else 0) = _
    by_cases h1 : c = b ∧ k < cnt
    · obtain ⟨rfl, h2⟩ := h1
      rw [if_pos (by omega), if_pos (by omega), if_pos ⟨rfl, h2⟩, Nat.add_sub_cancel_left]
    · rw [if_neg h1]
      by_cases h3 : c < nb ∧ k < sz
      · rw [if_pos h3, if_pos h3, if_neg (by omega)]
      · rw [if_neg h3, if_neg h3]
  have e2 : (fun c => decide (c < nb) && decide (¬ zA (wrp13M τ b cnt) 0 c = 0)) = (fun c => decide (c = b) || (decide (c < nb) && decide (¬ zA τ 0 c = 0))) := by
    funext c
    show (decide (c < nb) && decide (¬ upd (zA τ 0) b 1 c = 0)) = _
    rw [upd_at]
    by_cases h1 : c = b
    · rw [if_pos h1, decide_eq_true h1, decide_eq_true (show c < nb by omega), Bool.true_or, Bool.true_and]
      decide
    · rw [if_neg h1, decide_eq_false h1, Bool.false_or]
  unfold dM
  rw [e1, e2]
  rfl
