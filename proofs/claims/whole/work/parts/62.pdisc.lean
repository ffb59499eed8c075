/-! ===== the disk of the class ===== -/
theorem mul_at {b c sz k cnt : Nat} (hk : k < sz) (hc : cnt ≤ sz) : (b * sz ≤ c * sz + k ∧ c * sz + k < b * sz + cnt) ↔ (c = b ∧ k < cnt) := by
  constructor
  · rintro ⟨h1, h2⟩
    rcases Nat.lt_trichotomy c b with h | h | h
    · have := Nat.mul_le_mul_right sz (show c + 1 ≤ b from h)
      rw [Nat.succ_mul] at this
      omega
    · subst h
      exact ⟨rfl, by omega⟩
    · have := Nat.mul_le_mul_right sz (show b + 1 ≤ c from h)
      rw [Nat.succ_mul] at this
      omega
  · rintro ⟨rfl, h⟩
    omega
theorem mul_lt {b nb sz k : Nat} (hb : b < nb) (hk : k < sz) : b * sz + k < nb * sz := by
  have := Nat.mul_le_mul_right sz (show b + 1 ≤ nb from hb)
  rw [Nat.succ_mul] at this
  omega
theorem mul_big {nb sz : Nat} (hb : nb ≤ 200) (hs : sz ≤ 64) : nb * sz ≤ 12800 := Nat.mul_le_mul hb hs
def goC (σ : zS) (b : Int32) : zS := sI (sI σ 4 (zI σ 4 + (if b ≤ zI σ 5 then zI σ 5 - b else b - zI σ 5))) 5 b
theorem c_moveArm (n nb sz mm : Nat) (σ : zS) (b : Int32) : fX0_moveArm_0 n nb sz mm σ b = some (goC σ b) := by
  unfold fX0_moveArm_0 fX0_moveArm_28 goC
  by_cases h : b ≤ zI σ 5
  · rw [if_pos h, if_pos h]
  · rw [if_neg h, if_neg h]
theorem dC_go (nb sz : Nat) (σ : zS) (b : Int32) : dC nb sz (goC σ b) = dGo (dC nb sz σ) b := rfl
def rdC (σ : zS) (b : Int32) : zS := goC (sI σ 2 (zI σ 2 + 1)) b
theorem c_read (n nb sz mm : Nat) (σ : zS) (b : Int32) : fX0_readBlock_0 n nb sz mm σ b = some (rdC σ b) := by
  unfold fX0_readBlock_0 rdC
  rw [zb_s (c_moveArm n nb sz mm _ b)]
theorem dC_rd (nb sz : Nat) (σ : zS) (b : Int32) : dC nb sz (rdC σ b) = dRead (dC nb sz σ) b := rfl
theorem dC_used {nb sz : Nat} {σ : zS} {b : Nat} (hb : b < nb) : (dC nb sz σ).2.1 b = true ↔ ¬ zA σ 0 b = 0 := by
  show (decide (b < nb) && decide (¬ zA σ 0 b = 0)) = true ↔ _
  rw [decide_eq_true hb, Bool.true_and, decide_eq_true_iff]
theorem c_cell {n nb sz mm b k : Nat} {σ : zS} (hnb : nb ≤ 200) (hsz : sz ≤ 64) (hb : b < nb) (hk : k < sz) : fX0_cell_0 n nb sz mm σ (nI (b * sz + k)) = some ((dC nb sz σ).1 b k) := by
  have h1 := mul_lt hb hk
  have h2 := mul_big hnb hsz
  unfold fX0_cell_0
  rw [if_neg (nI_nn (by omega)), if_neg (fun q => by rw [nI_leI (by omega) (by omega)] at q; omega), zg_in h1 (by omega), nI_clamp (by omega)]
  show _ = some (if b < nb ∧ k < sz then zL σ 0 (b * sz + k) else 0)
  rw [if_pos ⟨hb, hk⟩]
theorem c_release {n nb sz mm b : Nat} {σ : zS} (hnb : nb ≤ 200) (hb : b < nb) : fX0_release_0 n nb sz mm σ (nI b) = some (sA σ 0 (upd (zA σ 0) b 0)) := by
  unfold fX0_release_0
  rw [if_neg (nI_nn (by omega)), if_neg (fun q => by rw [nI_leI (by omega) (by omega)] at q; omega), zg_in hb (by omega), nI_clamp (by omega), nar0]
theorem c_least {n nb sz mm : Nat} {σ : zS} (hn : 300 < n) (hb : nb ≤ 200) : fX0_leastFree_0 n nb sz mm σ = some (if dLf (dC nb sz σ).2.1 nb 0 = nb then -1 else nI (dLf (dC nb sz σ).2.1 nb 0)) := by
  unfold fX0_leastFree_0
  have hle := dLf_le (dC nb sz σ).2.1 nb 0
  have hus := dLf_used (dC nb sz σ).2.1 nb 0
  have hfr := dLf_free (dC nb sz σ).2.1 nb 0
  generalize dLf (dC nb sz σ).2.1 nb 0 = N at hle hus hfr ⊢
  have e0 : (0 : Int32) = (fun j => nI j) 0 := rfl
  rw [e0]
  refine (zb_s (zlp_for (β := Unit ⊕ Int32) (fun j => nI j) (if N = nb then .inl () else .inr (nI N)) N 0 n (fun j _ hj => ?_) ?_ (by omega))).trans ?_
  · unfold fX0_leastFree_L2_2
    have hu := (dC_used (by omega)).mp (hus j (Nat.zero_le _) (by omega))
    rw [if_neg (fun q => by rw [nI_leI (by omega) (by omega)] at q; omega), zg_in (by omega) (by omega), nI_clamp (by omega), if_neg hu, nI_1]
  · unfold fX0_leastFree_L2_2
    rw [Nat.zero_add]
    by_cases c1 : N = nb
    · rw [if_pos (nI_le (by omega) (by omega)), if_pos c1]
    · have hu := hfr (by omega)
      rw [dC_used (by omega)] at hu
      rw [if_neg (fun q => by rw [nI_leI (by omega) (by omega)] at q; omega), zg_in (by omega) (by omega), nI_clamp (by omega), if_pos (Decidable.not_not.mp hu), if_neg c1]
  · by_cases c1 : N = nb
    · rw [if_pos c1, if_pos c1]
      rfl
    · rw [if_neg c1, if_neg c1]
      rfl
theorem c_freeBlocks {n nb sz mm : Nat} {σ : zS} (hn : 300 < n) (hb : nb ≤ 200) : fX0_freeBlocks_0 n nb sz mm σ = some (dFc (dC nb sz σ).2.1 nb) := by
  unfold fX0_freeBlocks_0
  have e0 : ((0 : Int32), (0 : Int32)) = (fun j => (dFc (dC nb sz σ).2.1 j, nI j)) 0 := rfl
  rw [e0]
  refine zb_s (zlp_for (β := Int32) (fun j => (dFc (dC nb sz σ).2.1 j, nI j)) (dFc (dC nb sz σ).2.1 nb) nb 0 n (fun j _ hj => ?_) ?_ (by omega))
  · unfold fX0_freeBlocks_L4_4 fX0_freeBlocks_L4_28
    dsimp only
    have hj : j < nb := by omega
    rw [if_neg (fun q => by rw [nI_leI (by omega) (by omega)] at q; omega), zg_in (by omega) (by omega), nI_clamp (by omega), nI_1]
    have hu : (dC nb sz σ).2.1 j = decide (¬ zA σ 0 j = 0) := by
      show (decide (j < nb) && decide (¬ zA σ 0 j = 0)) = _
      rw [decide_eq_true hj, Bool.true_and]
    by_cases c1 : zA σ 0 j = 0
    · rw [if_pos c1]
      show _ = some (Sum.inl (dFc (dC nb sz σ).2.1 j + (if (dC nb sz σ).2.1 j = true then 0 else 1), nI (j + 1)))
      rw [hu, if_neg (by simp [c1])]
    · rw [if_neg c1]
      show _ = some (Sum.inl (dFc (dC nb sz σ).2.1 j + (if (dC nb sz σ).2.1 j = true then 0 else 1), nI (j + 1)))
      rw [hu, if_pos (by simp [c1])]
  · unfold fX0_freeBlocks_L4_4
    dsimp only
    rw [Nat.zero_add, if_pos (nI_le (Nat.le_refl _) (by omega))]
def stp13C (sz : Nat) (σ : zS) (b : Nat) (cnt : Nat) : zS := sL (goC (sI (sA (sI σ 6 (if zI σ 6 ≤ 0 then zI σ 6 else zI σ 6 - 1)) 0 (upd (zA σ 0) b 1)) 3 (zI σ 3 + 1)) (nI b)) 0 (fun i => if b * sz ≤ i ∧ i < b * sz + cnt then zL σ 1 (i - b * sz) else zL σ 0 i)
theorem c_copy_p13 {n nb sz mm b cnt : Nat} {σ : zS} {x : Int32} (hn : 300 < n) (hnb : nb ≤ 200) (hsz : sz ≤ 64) (hb : b < nb) (hc : cnt ≤ sz) : zlp (fX0_store_p13_L84_84 n nb sz mm (nI cnt) x (nI (b * sz))) n (0, σ) = some (sL σ 0 (fun i => if b * sz ≤ i ∧ i < b * sz + cnt then zL σ 1 (i - b * sz) else zL σ 0 i)) := by
  have hbig := mul_big hnb hsz
  have e0 : ((0 : Int32), σ) = (fun j => (nI j, sL σ 0 (fun i => if b * sz ≤ i ∧ i < b * sz + j then zL σ 1 (i - b * sz) else zL σ 0 i))) 0 := by
    have : (fun i => if b * sz ≤ i ∧ i < b * sz + 0 then zL σ 1 (i - b * sz) else zL σ 0 i) = zL σ 0 := by
      funext i
      rw [if_neg (by omega)]
    show _ = (nI 0, sL σ 0 _)
    rw [this, sL_id, nI_0]
  rw [e0]
  refine zlp_for (β := zS) (fun j => (nI j, sL σ 0 (fun i => if b * sz ≤ i ∧ i < b * sz + j then zL σ 1 (i - b * sz) else zL σ 0 i))) _ cnt 0 n (fun j _ hj => ?_) ?_ (by omega)
  · unfold fX0_store_p13_L84_84
    dsimp only
    have hj : j < cnt := by omega
    have hlt := mul_lt hb (show j < sz by omega)
    rw [nI_add, if_neg (fun q => by rw [nI_leI (by omega) (by omega)] at q; omega), if_neg (fun q => by rw [nI_leI (by omega) (by omega)] at q; omega), if_neg (fun q => by rw [nI_leI (by omega) (by omega)] at q; omega), zg_in (by omega) (by omega), zg_in hlt (by omega), sL_sL, zL_sL, if_pos rfl, zL_sL, if_neg (by decide), nI_clamp (by omega), nI_clamp (by omega), nI_1]
    congr 4
    funext i
    rw [updL_at]
    by_cases hi : i = b * sz + j
    · rw [if_pos hi, if_pos (by omega), hi, Nat.add_sub_cancel_left]
    · rw [if_neg hi]
      by_cases hi2 : b * sz ≤ i ∧ i < b * sz + j
      · rw [if_pos hi2, if_pos (by omega)]
      · rw [if_neg hi2, if_neg (by omega)]
  · unfold fX0_store_p13_L84_84
    dsimp only
    rw [Nat.zero_add, if_pos (nI_le (Nat.le_refl _) (by omega))]
theorem c_store_p13 {n nb sz mm cnt : Nat} {σ : zS} (hn : 300 < n) (hnb : nb ≤ 200) (hsz : sz ≤ 64) (h1 : zI σ 1 = nI sz) (hc : cnt ≤ sz) : fX0_store_p13_0 n nb sz mm σ (nI cnt) = some (if dLf (dC nb sz σ).2.1 nb 0 = nb then (-1, σ) else if zI σ 6 = 0 then (-1, sI σ 7 1) else (nI (dLf (dC nb sz σ).2.1 nb 0), stp13C sz σ (dLf (dC nb sz σ).2.1 nb 0) cnt)) := by
  have hle := dLf_le (dC nb sz σ).2.1 nb 0
  unfold fX0_store_p13_0
  rw [zb_s (c_least hn hnb)]
  generalize dLf (dC nb sz σ).2.1 nb 0 = N at hle ⊢
  have key : ∀ σ1 : zS, zI σ1 1 = nI sz → N < nb → fX0_store_p13_51 n nb sz mm σ1 (nI cnt) (nI N) = some (nI N, sL (goC (sI (sA σ1 0 (upd (zA σ1 0) N 1)) 3 (zI σ1 3 + 1)) (nI N)) 0 (fun i => if N * sz ≤ i ∧ i < N * sz + cnt then zL σ1 1 (i - N * sz) else zL σ1 0 i)) := by
    intro σ1 h2 hN
    unfold fX0_store_p13_51
    rw [zg_in hN (by omega), nI_clamp (by omega), nar1, zb_s (c_moveArm n nb sz mm _ _)]
    rw [show nI N * zI (goC (sI (sA σ1 0 (upd (zA σ1 0) N 1)) 3 (zI σ1 3 + 1)) (nI N)) 1 = nI (N * sz) from by rw [show zI (goC (sI (sA σ1 0 (upd (zA σ1 0) N 1)) 3 (zI σ1 3 + 1)) (nI N)) 1 = nI sz from h2, nI_mul]]
    exact zb_s (c_copy_p13 hn hnb hsz hN hc)
  by_cases c1 : N = nb
  · rw [if_pos c1, if_pos c1, if_pos (by decide)]
  · rw [if_neg c1, if_neg c1, if_neg (nI_nn (by omega)), if_pos (nI_lt (by omega) (by omega))]
    by_cases c2 : zI σ 6 = 0
    · rw [if_pos c2, if_pos c2]
    · rw [if_neg c2, if_neg c2]
      unfold stp13C
      by_cases c3 : zI σ 6 ≤ 0
      · rw [if_pos c3, if_pos c3, key σ h1 (by omega), sI_id]
      · rw [if_neg c3, if_neg c3]
        exact key (sI σ 6 (zI σ 6 - 1)) h1 (by omega)
theorem dC_st_p13 {nb sz cnt b : Nat} {σ : zS} (hb : b < nb) (hc : cnt ≤ sz) : dC nb sz (stp13C sz σ b cnt) = dPut (dC nb sz σ) b (fun k => zL σ 1 k) cnt := by
  have e1 : (fun c k => if c < nb ∧ k < sz then zL (stp13C sz σ b cnt) 0 (c * sz + k) else 0) = (fun c k => if c = b ∧ k < cnt then zL σ 1 k else if c < nb ∧ k < sz then zL σ 0 (c * sz + k) else 0) := by
    funext c k
    show (if c < nb ∧ k < sz then (if b * sz ≤ c * sz + k ∧ c * sz + k < b * sz + cnt then zL σ 1 (c * sz + k - b * sz) else zL σ 0 (c * sz + k)) else 0) = _
    by_cases h1 : c = b ∧ k < cnt
    · obtain ⟨rfl, h2⟩ := h1
      rw [if_pos (by omega), if_pos (by omega), if_pos ⟨rfl, h2⟩, Nat.add_sub_cancel_left]
    · rw [if_neg h1]
      by_cases h3 : c < nb ∧ k < sz
      · rw [if_pos h3, if_pos h3, if_neg (fun q => h1 ((mul_at h3.2 hc).mp q))]
      · rw [if_neg h3, if_neg h3]
  have e2 : (fun c => decide (c < nb) && decide (¬ zA (stp13C sz σ b cnt) 0 c = 0)) = (fun c => decide (c = b) || (decide (c < nb) && decide (¬ zA σ 0 c = 0))) := by
    funext c
    show (decide (c < nb) && decide (¬ upd (zA σ 0) b 1 c = 0)) = _
    rw [upd_at]
    by_cases h1 : c = b
    · rw [if_pos h1, decide_eq_true h1, decide_eq_true (show c < nb by omega), Bool.true_or, Bool.true_and]
      decide
    · rw [if_neg h1, decide_eq_false h1, Bool.false_or]
  unfold dC
  rw [e1, e2]
  rfl
def stp15C (sz : Nat) (σ : zS) (b : Nat) (cnt : Nat) : zS := sL (goC (sI (sA (sI σ 6 (if zI σ 6 ≤ 0 then zI σ 6 else zI σ 6 - 1)) 0 (upd (zA σ 0) b 1)) 3 (zI σ 3 + 1)) (nI b)) 0 (fun i => if b * sz ≤ i ∧ i < b * sz + cnt then zL σ 2 (i - b * sz) else zL σ 0 i)
theorem c_copy_p15 {n nb sz mm b cnt : Nat} {σ : zS} {x : Int32} (hn : 300 < n) (hnb : nb ≤ 200) (hsz : sz ≤ 64) (hb : b < nb) (hc : cnt ≤ sz) : zlp (fX0_store_p15_L84_84 n nb sz mm (nI cnt) x (nI (b * sz))) n (0, σ) = some (sL σ 0 (fun i => if b * sz ≤ i ∧ i < b * sz + cnt then zL σ 2 (i - b * sz) else zL σ 0 i)) := by
  have hbig := mul_big hnb hsz
  have e0 : ((0 : Int32), σ) = (fun j => (nI j, sL σ 0 (fun i => if b * sz ≤ i ∧ i < b * sz + j then zL σ 2 (i - b * sz) else zL σ 0 i))) 0 := by
    have : (fun i => if b * sz ≤ i ∧ i < b * sz + 0 then zL σ 2 (i - b * sz) else zL σ 0 i) = zL σ 0 := by
      funext i
      rw [if_neg (by omega)]
    show _ = (nI 0, sL σ 0 _)
    rw [this, sL_id, nI_0]
  rw [e0]
  refine zlp_for (β := zS) (fun j => (nI j, sL σ 0 (fun i => if b * sz ≤ i ∧ i < b * sz + j then zL σ 2 (i - b * sz) else zL σ 0 i))) _ cnt 0 n (fun j _ hj => ?_) ?_ (by omega)
  · unfold fX0_store_p15_L84_84
    dsimp only
    have hj : j < cnt := by omega
    have hlt := mul_lt hb (show j < sz by omega)
    rw [nI_add, if_neg (fun q => by rw [nI_leI (by omega) (by omega)] at q; omega), if_neg (fun q => by rw [nI_leI (by omega) (by omega)] at q; omega), if_neg (fun q => by rw [nI_leI (by omega) (by omega)] at q; omega), zg_in (by omega) (by omega), zg_in hlt (by omega), sL_sL, zL_sL, if_pos rfl, zL_sL, if_neg (by decide), nI_clamp (by omega), nI_clamp (by omega), nI_1]
    congr 4
    funext i
    rw [updL_at]
    by_cases hi : i = b * sz + j
    · rw [if_pos hi, if_pos (by omega), hi, Nat.add_sub_cancel_left]
    · rw [if_neg hi]
      by_cases hi2 : b * sz ≤ i ∧ i < b * sz + j
      · rw [if_pos hi2, if_pos (by omega)]
      · rw [if_neg hi2, if_neg (by omega)]
  · unfold fX0_store_p15_L84_84
    dsimp only
    rw [Nat.zero_add, if_pos (nI_le (Nat.le_refl _) (by omega))]
theorem c_store_p15 {n nb sz mm cnt : Nat} {σ : zS} (hn : 300 < n) (hnb : nb ≤ 200) (hsz : sz ≤ 64) (h1 : zI σ 1 = nI sz) (hc : cnt ≤ sz) : fX0_store_p15_0 n nb sz mm σ (nI cnt) = some (if dLf (dC nb sz σ).2.1 nb 0 = nb then (-1, σ) else if zI σ 6 = 0 then (-1, sI σ 7 1) else (nI (dLf (dC nb sz σ).2.1 nb 0), stp15C sz σ (dLf (dC nb sz σ).2.1 nb 0) cnt)) := by
  have hle := dLf_le (dC nb sz σ).2.1 nb 0
  unfold fX0_store_p15_0
  rw [zb_s (c_least hn hnb)]
  generalize dLf (dC nb sz σ).2.1 nb 0 = N at hle ⊢
  have key : ∀ σ1 : zS, zI σ1 1 = nI sz → N < nb → fX0_store_p15_51 n nb sz mm σ1 (nI cnt) (nI N) = some (nI N, sL (goC (sI (sA σ1 0 (upd (zA σ1 0) N 1)) 3 (zI σ1 3 + 1)) (nI N)) 0 (fun i => if N * sz ≤ i ∧ i < N * sz + cnt then zL σ1 2 (i - N * sz) else zL σ1 0 i)) := by
    intro σ1 h2 hN
    unfold fX0_store_p15_51
    rw [zg_in hN (by omega), nI_clamp (by omega), nar1, zb_s (c_moveArm n nb sz mm _ _)]
    rw [show nI N * zI (goC (sI (sA σ1 0 (upd (zA σ1 0) N 1)) 3 (zI σ1 3 + 1)) (nI N)) 1 = nI (N * sz) from by rw [show zI (goC (sI (sA σ1 0 (upd (zA σ1 0) N 1)) 3 (zI σ1 3 + 1)) (nI N)) 1 = nI sz from h2, nI_mul]]
    exact zb_s (c_copy_p15 hn hnb hsz hN hc)
  by_cases c1 : N = nb
  · rw [if_pos c1, if_pos c1, if_pos (by decide)]
  · rw [if_neg c1, if_neg c1, if_neg (nI_nn (by omega)), if_pos (nI_lt (by omega) (by omega))]
    by_cases c2 : zI σ 6 = 0
    · rw [if_pos c2, if_pos c2]
    · rw [if_neg c2, if_neg c2]
      unfold stp15C
      by_cases c3 : zI σ 6 ≤ 0
      · rw [if_pos c3, if_pos c3, key σ h1 (by omega), sI_id]
      · rw [if_neg c3, if_neg c3]
        exact key (sI σ 6 (zI σ 6 - 1)) h1 (by omega)
theorem dC_st_p15 {nb sz cnt b : Nat} {σ : zS} (hb : b < nb) (hc : cnt ≤ sz) : dC nb sz (stp15C sz σ b cnt) = dPut (dC nb sz σ) b (fun k => zL σ 2 k) cnt := by
  have e1 : (fun c k => if c < nb ∧ k < sz then zL (stp15C sz σ b cnt) 0 (c * sz + k) else 0) = (fun c k => if c = b ∧ k < cnt then zL σ 2 k else if c < nb ∧ k < sz then zL σ 0 (c * sz + k) else 0) := by
    funext c k
    show (if c < nb ∧ k < sz then (if b * sz ≤ c * sz + k ∧ c * sz + k < b * sz + cnt then zL σ 2 (c * sz + k - b * sz) else zL σ 0 (c * sz + k)) else 0) = _
    by_cases h1 : c = b ∧ k < cnt
    · obtain ⟨rfl, h2⟩ := h1
      rw [if_pos (by omega), if_pos (by omega), if_pos ⟨rfl, h2⟩, Nat.add_sub_cancel_left]
    · rw [if_neg h1]
      by_cases h3 : c < nb ∧ k < sz
      · rw [if_pos h3, if_pos h3, if_neg (fun q => h1 ((mul_at h3.2 hc).mp q))]
      · rw [if_neg h3, if_neg h3]
  have e2 : (fun c => decide (c < nb) && decide (¬ zA (stp15C sz σ b cnt) 0 c = 0)) = (fun c => decide (c = b) || (decide (c < nb) && decide (¬ zA σ 0 c = 0))) := by
    funext c
    show (decide (c < nb) && decide (¬ upd (zA σ 0) b 1 c = 0)) = _
    rw [upd_at]
    by_cases h1 : c = b
    · rw [if_pos h1, decide_eq_true h1, decide_eq_true (show c < nb by omega), Bool.true_or, Bool.true_and]
      decide
    · rw [if_neg h1, decide_eq_false h1, Bool.false_or]
  unfold dC
  rw [e1, e2]
  rfl
