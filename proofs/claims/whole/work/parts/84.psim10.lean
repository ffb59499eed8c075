/-! plan -/
def gSum (f : Nat → Int32) : Nat → Int32
  | 0 => 0
  | k + 1 => gSum f k + f k
theorem i_addz (r : Int32) : r + 0 = r := Int32.add_zero r
theorem c_blocksBetween {n nb sz mm fr k w : Nat} {σ : zS} (hn : 300 < n) (hnb : nb ≤ 200) (hs5 : 5 ≤ sz) (hsz : sz ≤ 64) (hw4 : w ≤ 4) (h11 : zI σ 11 = nI (sz / (w + 1))) (hk : fr + k ≤ nb) : fX9_blocksBetween_0 n nb sz mm σ (nI fr) (nI (fr + k)) = some (gSum (fun i => (zA σ 18 (fr + i) + nI (sz / (w + 1)) - 1) / nI (sz / (w + 1))) k) := by
  have hper := p_per (w := w) hs5 hw4
  have hple : sz / (w + 1) ≤ 64 := Nat.le_trans (Nat.div_le_self _ _) hsz
  have hmx : (if 1 < nI (sz / (w + 1)) then nI (sz / (w + 1)) else 1) = nI (sz / (w + 1)) := by
    by_cases e : sz / (w + 1) = 1
    · rw [e, if_neg nI1_nlt]
      rfl
    · rw [if_pos (show (1 : Int32) < nI (sz / (w + 1)) from nI_lt (a := 1) (by omega) (by omega))]
  unfold fX9_blocksBetween_0
  have e0 : ((0 : Int32), nI fr) = (fun j => (gSum (fun i => (zA σ 18 (fr + i) + nI (sz / (w + 1)) - 1) / nI (sz / (w + 1))) j, nI (fr + j))) 0 := rfl
  rw [e0]
  refine zb_s (zlp_for (β := Int32) (fun j => (gSum (fun i => (zA σ 18 (fr + i) + nI (sz / (w + 1)) - 1) / nI (sz / (w + 1))) j, nI (fr + j))) _ k 0 n (fun j _ hj => ?_) ?_ (by omega))
  · unfold fX9_blocksBetween_L5_5 fX5_blocksFor_0
    dsimp only
    rw [if_neg (fun q => by rw [nI_leI (by omega) (by omega)] at q; omega), if_neg (nI_nn (by omega)), if_neg (fun q => by rw [nI_leI (by omega) (by omega)] at q; omega), zg_in (by omega) (by omega), nI_clamp (by omega), h11, hmx, zg_t (znz_nI (by omega) (by omega)), nI_1]
    rfl
  · unfold fX9_blocksBetween_L5_5
    dsimp only
    rw [Nat.zero_add, if_pos (nI_le (Nat.le_refl _) (by omega))]
theorem c_lengthBetween {n nb sz mm fr k : Nat} {σ : zS} (hn : 300 < n) (hnb : nb ≤ 200) (hk : fr + k ≤ nb) : fX9_lengthBetween_0 n nb sz mm σ (nI fr) (nI (fr + k)) = some (gSum (fun i => zA σ 18 (fr + i)) k) := by
  unfold fX9_lengthBetween_0
  have e0 : ((0 : Int32), nI fr) = (fun j => (gSum (fun i => zA σ 18 (fr + i)) j, nI (fr + j))) 0 := rfl
  rw [e0]
  refine zb_s (zlp_for (β := Int32) (fun j => (gSum (fun i => zA σ 18 (fr + i)) j, nI (fr + j))) _ k 0 n (fun j _ hj => ?_) ?_ (by omega))
  · unfold fX9_lengthBetween_L5_5
    dsimp only
    rw [if_neg (fun q => by rw [nI_leI (by omega) (by omega)] at q; omega), if_neg (nI_nn (by omega)), if_neg (fun q => by rw [nI_leI (by omega) (by omega)] at q; omega), zg_in (by omega) (by omega), nI_clamp (by omega), nI_1]
    rfl
  · unfold fX9_lengthBetween_L5_5
    dsimp only
    rw [Nat.zero_add, if_pos (nI_le (Nat.le_refl _) (by omega))]
theorem m_planL {n sz w fr k : Nat} {τ : zS} {k1 k2 k4 r : Int32} (hn : 300 < n) (hs5 : 5 ≤ sz) (hsz : sz ≤ 64) (hw4 : w ≤ 4) (h2 : zI τ 2 = nI sz) (h6 : zI τ 6 = nI w) (hk : fr + k ≤ 200) : zlp (fX10_plan_L106_106 n τ k1 k2 k4 (nI fr) (nI k)) n (r, 0, 0) = some (if k ≤ 1 then r else r + gSum (fun i => (zA τ 24 (fr + i) + nI (sz / (w + 1)) - 1) / nI (sz / (w + 1))) k, gSum (fun i => zA τ 24 (fr + i)) k) := by
  have hper := p_per (w := w) hs5 hw4
  have hple : sz / (w + 1) ≤ 64 := Nat.le_trans (Nat.div_le_self _ _) hsz
  have e0 : (r, (0 : Int32), (0 : Int32)) = (fun j => (if k ≤ 1 then r else r + gSum (fun i => (zA τ 24 (fr + i) + nI (sz / (w + 1)) - 1) / nI (sz / (w + 1))) j, gSum (fun i => zA τ 24 (fr + i)) j, nI j)) 0 := by
    show _ = (if k ≤ 1 then r else r + 0, (0 : Int32), nI 0)
    rw [i_addz, ite_self]
    rfl
  rw [e0]
  refine zlp_for (β := Int32 × Int32) (fun j => (if k ≤ 1 then r else r + gSum (fun i => (zA τ 24 (fr + i) + nI (sz / (w + 1)) - 1) / nI (sz / (w + 1))) j, gSum (fun i => zA τ 24 (fr + i)) j, nI j)) _ k 0 n (fun j _ hj => ?_) ?_ (by omega)
  · unfold fX10_plan_L106_106 fX10_plan_L106_157
    dsimp only
    rw [if_neg (fun q => by rw [nI_leI (by omega) (by omega)] at q; omega), nI_add, zg_in (by omega) (by decide), nI_clamp (by omega), nI_1]
    by_cases c : k ≤ 1
    · rw [if_pos (show nI k ≤ 1 from nI_le (b := 1) c (by decide)), if_pos c, if_pos c, i_addz]
      rfl
    · rw [if_neg (show ¬ nI k ≤ 1 from fun q => by rw [show (1 : Int32) = nI 1 from rfl, nI_leI (by omega) (by omega)] at q; omega), if_neg c, if_neg c, zb_s (m_per hsz hw4 h2 h6), zb_s (m_per hsz hw4 h2 h6), zg_t (znz_nI (by omega) (by omega)), Int32.add_assoc]
      rfl
  · unfold fX10_plan_L106_106
    dsimp only
    rw [Nat.zero_add, if_pos (nI_le (Nat.le_refl _) (by omega))]
theorem gSum_congr {f g : Nat → Int32} : ∀ {k : Nat}, (∀ i, i < k → f i = g i) → gSum f k = gSum g k := by
  intro k
  induction k with
  | zero => intro _; rfl
  | succ k ih =>
    intro h
    show gSum f k + f k = gSum g k + g k
    rw [ih (fun i hi => h i (by omega)), h k (by omega)]
theorem j_planG {n nb sz mm w fan m : Nat} {σ τ : zS} {rd k4 : Int32} {F G : Nat → Int32} (hn : 300 < n) (hnb : nb ≤ 200) (hs5 : 5 ≤ sz) (hsz : sz ≤ 64) (hw4 : w ≤ 4) (h11 : zI σ 11 = nI (sz / (w + 1))) (h2 : zI τ 2 = nI sz) (h6 : zI τ 6 = nI w) (hf2 : 2 ≤ fan) (hf8 : fan ≤ 8) (hm : m ≤ nb) (hm2 : 2 ≤ m) (hFG : ∀ i, i < m → F i = G i) :
    ∃ rd' g F' G', zlp (fX9_plan_L81_81 n nb sz mm (nI fan) (nI m) k4) n (rd, 0, 0, sA σ 18 F) = some (rd', nI g, sA σ 18 F') ∧ zlp (fX10_plan_L76_76 n (nI fan) (nI m)) n (rd, 0, 0, sA τ 24 G) = some (rd', nI g, sA τ 24 G') ∧ g < m ∧ ∀ i, i < m → F' i = G' i := by
  have hloop := zlp_two (body := fX9_plan_L81_81 n nb sz mm (nI fan) (nI m) k4) (body' := fX10_plan_L76_76 n (nI fan) (nI m))
    (fun q a a' => ∃ rd g c r F G, a = (rd, nI g, nI c, sA σ 18 F) ∧ a' = (rd, nI g, nI r, sA τ 24 G) ∧ (c = r ∨ (m ≤ c ∧ m ≤ r)) ∧ r ≤ m ∧ c < m + 8 ∧ 2 * g ≤ c ∧ (g = 0 ∨ 2 * (g - 1) < m) ∧ q = m - r ∧ (∀ i, i < m → F i = G i))
    (fun b b' => ∃ rd g F G, b = (rd, nI g, sA σ 18 F) ∧ b' = (rd, nI g, sA τ 24 G) ∧ (g = 0 ∨ 2 * (g - 1) < m) ∧ (∀ i, i < m → F i = G i))
    (fun q a a' hP => by
      obtain ⟨rd, g, c, r, F, G, rfl, rfl, hcr, hr, hc, hg, hg2, rfl, hFG⟩ := hP
      unfold fX9_plan_L81_81 fX10_plan_L76_76
      dsimp only
      by_cases e : m ≤ c
      · right
        rw [if_pos (nI_le e (by omega)), if_pos (nI_le (show m ≤ r by omega) (by omega))]
        exact ⟨_, _, rfl, rfl, rd, g, F, G, rfl, rfl, hg2, hFG⟩
      · left
        obtain rfl : c = r := by omega
        rw [if_neg (show ¬ nI m ≤ nI c from fun q => by rw [nI_leI (by omega) (by omega)] at q; omega), if_neg (show ¬ nI m ≤ nI c from fun q => by rw [nI_leI (by omega) (by omega)] at q; omega), nI_add, nI_sub (show c ≤ m by omega)]
        obtain ⟨k, hk1, hk2, hk3, hk4⟩ : ∃ k, 1 ≤ k ∧ c + k ≤ m ∧ (if nI m < nI (c + fan) then nI m else nI (c + fan)) = nI (c + k) ∧ (∀ (x : Int32 → Option ((Int32 × Int32 × Int32 × zS) ⊕ (Int32 × Int32 × zS))), (if nI fan ≤ nI (m - c) then x (nI fan) else x (nI (m - c))) = x (nI k)) := by
          by_cases q : m < c + fan
          · refine ⟨m - c, by omega, by omega, ?_, fun x => ?_⟩
            · rw [if_pos (nI_lt q (by omega)), show c + (m - c) = m by omega]
            · rw [if_neg (fun z => by rw [nI_leI (by omega) (by omega)] at z; omega)]
          · refine ⟨fan, by omega, by omega, ?_, fun x => ?_⟩
            · rw [if_neg (fun z => by rw [nI_ltI (by omega) (by omega)] at z; omega)]
            · rw [if_pos (nI_le (by omega) (by omega))]
        rw [hk3, hk4 (fun y => fX10_plan_L76_98 n (sA τ 24 G) (nI fan) (nI m) rd (nI g) (nI c) y), nI_sub (show c ≤ c + k by omega), Nat.add_sub_cancel_left]
        unfold fX10_plan_L76_98 fX9_plan_L81_117
        rw [zb_s (m_planL (τ := sA τ 24 G) (sz := sz) (w := w) hn hs5 hsz hw4 h2 h6 (by omega)), zg_in (by omega) (by decide), nI_clamp (by omega), nI_add, nI_1, sA_sA, show zA (sA τ 24 G) 24 = G from rfl]
        have hlen : ∀ σ' : zS, zA σ' 18 = F → fX9_lengthBetween_0 n nb sz mm σ' (nI c) (nI (c + k)) = some (gSum (fun i => G (c + i)) k) := fun σ' hσ' => by
          rw [c_lengthBetween hn hnb (by omega), hσ', gSum_congr (fun i hi => hFG (c + i) (by omega))]
        have hset : ∀ v, fX9_setLength_0 n nb sz mm (sA σ 18 F) (nI g) v = some (sA σ 18 (upd F g v)) := fun v => by
          unfold fX9_setLength_0
          rw [if_neg (nI_nn (by omega)), if_neg (fun q => by rw [nI_leI (by omega) (by omega)] at q; omega), zg_in (by omega) (by omega), nI_clamp (by omega), sA_sA]
          rfl
        rw [zb_s (hlen (sA σ 18 F) rfl), zb_s (hset _), nI_add]
        have hFG' : ∀ v, ∀ i, i < m → upd F g v i = upd G g v i := fun v i hi => by
          rw [upd_at, upd_at, hFG i hi]
        have hblk : fX9_blocksBetween_0 n nb sz mm (sA σ 18 F) (nI c) (nI (c + k)) = some (gSum (fun i => (G (c + i) + nI (sz / (w + 1)) - 1) / nI (sz / (w + 1))) k) := by
          rw [c_blocksBetween (σ := sA σ 18 F) (w := w) hn hnb hs5 hsz hw4 h11 (by omega)]
          congr 1
          exact gSum_congr (fun i hi => by show (F (c + i) + _ - 1) / _ = _; rw [hFG (c + i) (by omega)])
        by_cases e1 : k ≤ 1
        · rw [if_pos (show nI k ≤ 1 from nI_le (b := 1) e1 (by decide)), if_pos e1]
          refine ⟨_, _, m - (c + k), by omega, rfl, rfl, rd, g + 1, c + fan, c + k, upd F g (gSum (fun i => G (c + i)) k), upd G g (gSum (fun i => G (c + i)) k), rfl, rfl, ?_, by omega, by omega, by omega, by omega, rfl, hFG' _⟩
          by_cases q : m < c + fan
          · right
            by_cases z : c + k = m
            · omega
            · exfalso
              have h9 := hk3
              rw [if_pos (nI_lt q (by omega)), nI_eq (by omega) (by omega)] at h9
              omega
          · left
            have h9 := hk3
            rw [if_neg (fun z => by rw [nI_ltI (by omega) (by omega)] at z; omega), nI_eq (by omega) (by omega)] at h9
            exact h9
        · rw [if_neg (show ¬ nI k ≤ 1 from fun q => by rw [show (1 : Int32) = nI 1 from rfl, nI_leI (by omega) (by omega)] at q; omega), if_neg e1, zb_s hblk, zb_s (hlen (sA σ 18 F) rfl), zb_s (hset _)]
          refine ⟨_, _, m - (c + k), by omega, rfl, rfl, _, g + 1, c + fan, c + k, upd F g (gSum (fun i => G (c + i)) k), upd G g (gSum (fun i => G (c + i)) k), rfl, rfl, ?_, by omega, by omega, by omega, by omega, rfl, hFG' _⟩
          by_cases q : m < c + fan
          · right
            by_cases z : c + k = m
            · omega
            · exfalso
              have h9 := hk3
              rw [if_pos (nI_lt q (by omega)), nI_eq (by omega) (by omega)] at h9
              omega
          · left
            have h9 := hk3
            rw [if_neg (fun z => by rw [nI_ltI (by omega) (by omega)] at z; omega), nI_eq (by omega) (by omega)] at h9
            exact h9)
    n m (rd, 0, 0, sA σ 18 F) (rd, 0, 0, sA τ 24 G) (by omega) ⟨rd, 0, 0, 0, F, G, rfl, rfl, Or.inl rfl, Nat.zero_le _, by omega, by omega, Or.inl rfl, rfl, hFG⟩
  obtain ⟨_, _, h1, h2', rd', g, F', G', rfl, rfl, hg, hFG'⟩ := hloop
  exact ⟨rd', g, F', G', h1, h2', by omega, hFG'⟩
theorem s_plan {n nb sz mm : Nat} (hn : 400 < n) (hnb : nb ≤ 200) (hs5 : 5 ≤ sz) (hsz : sz ≤ 64) : sim_plan n nb sz mm (zJ9 nb sz mm) := by
  intro jj σ τ o a1 hj9 hJ
  obtain ⟨cm, hcm, w, od, kn, inp, rs, fs, h⟩ := hJ
  have hC := h.2.2.2.2.2.2.2.2.2.1
  have hM := h.2.2.2.2.2.2.2.2.2.2.1
  have hB := h.2.2.2.2.2.2.2.2.2.2.2.1
  have hmany := j_many hB
  by_cases c1 : 2 ≤ a1 ∧ a1 ≤ 8
  · obtain ⟨fan, hf8, rfl⟩ : ∃ k, k < 9 ∧ a1 = nI k := i_of (by
      have := Int32.le_iff_toInt_le.mp c1.1
      rw [Int32.le_iff_toInt_le]
      have e1 : (2 : Int32).toInt = 2 := by decide
      have e2 : (0 : Int32).toInt = 0 := by decide
      omega) (by
      have := Int32.le_iff_toInt_le.mp c1.2
      rw [Int32.lt_iff_toInt_lt]
      have e1 : (8 : Int32).toInt = 8 := by decide
      have e2 : (nI 9).toInt = 9 := by decide
      omega) (by decide)
    have hf2 : 2 ≤ fan := (nI_leI (a := 2) (by decide) (by omega)).mp c1.1
    have hq : (if nI nb < zI σ 32 then nI nb else zI σ 32) = nI rs.length := by
      rw [hC.1, if_neg (fun q => by rw [nI_ltI (by omega) (by omega)] at q; omega)]
    let fc := fun (F : Nat → Int32) (j k : Nat) => if k < j then nI ((rs.getD k ([], 0)).2) else F k
    have hget : ∀ k, k < rs.length → ∃ r f, rs[k]? = some r ∧ fs[k]? = some f ∧ rs.getD k ([], 0) = r := fun k hk => by
      refine ⟨rs[k], fs[k]'(by rw [hM.2.1]; exact hk), List.getElem?_eq_getElem hk, List.getElem?_eq_getElem _, ?_⟩
      rw [List.getD_eq_getElem?_getD, List.getElem?_eq_getElem hk]
      rfl
    have stp : ∀ (F : Nat → Int32) (j : Nat) (v : Int32), v = nI ((rs.getD j ([], 0)).2) → upd (fc F j) j v = fc F (j + 1) := by
      intro F j v hv
      funext k
      rw [upd_at]
      show _ = if k < j + 1 then _ else _
      by_cases e : k = j
      · rw [if_pos e, if_pos (by omega), hv, e]
      · rw [if_neg e]
        show (if k < j then _ else _) = _
        by_cases q : k < j
        · rw [if_pos q, if_pos (by omega)]
        · rw [if_neg q, if_neg (by omega)]
    have fc0 : ∀ F : Nat → Int32, fc F 0 = F := fun F => by
      funext k
      show (if k < 0 then _ else _) = _
      rw [if_neg (by omega)]
    have hl1 : zlp (fX9_plan_L23_23 n nb sz mm (nI fan) (nI rs.length)) n (0, σ) = some (sA σ 18 (fc (zA σ 18) rs.length)) := by
      have e0 : ((0 : Int32), σ) = (fun j => (nI j, sA σ 18 (fc (zA σ 18) j))) 0 := by
        show _ = (nI 0, sA σ 18 (fc (zA σ 18) 0))
        rw [fc0, sA_id]
        rfl
      rw [e0]
      refine zlp_for (β := zS) (fun j => (nI j, sA σ 18 (fc (zA σ 18) j))) _ rs.length 0 n (fun j _ hj => ?_) ?_ (by omega)
      · obtain ⟨r, f, hr, hf, hrd⟩ := hget j (by omega)
        have hrm := List.mem_of_getElem? hr
        have hhd := (hB.2.1 _ (List.mem_append_right _ (j_len hB r hrm))).1
        unfold fX9_plan_L23_23
        dsimp only
        rw [if_neg (fun q => by rw [nI_leI (by omega) (by omega)] at q; omega)]
        show zb (fX6_get_0 n nb (zrv (zI σ 32) (zA σ 16)) (nI j)) _ = _
        rw [zb_s (c_get (m := rs.length) hC.1 (by omega) (by omega) (by omega)), hC.2.1 j r hr, zb_s (c_heldBy hnb hhd), show zA (sA σ 18 (fc (zA σ 18) j)) 4 (r.1.headD 0) = nI r.2 from (hC.2.2 r hrm).2, zg_in (by omega) (by omega), nI_clamp (by omega), sA_sA, nI_1]
        rw [show zA (sA σ 18 (fc (zA σ 18) j)) 18 = fc (zA σ 18) j from rfl, stp _ _ _ (by rw [hrd])]
      · unfold fX9_plan_L23_23
        dsimp only
        rw [Nat.zero_add, if_pos (nI_le (Nat.le_refl _) (by omega))]
    have hl2 : zlp (fX10_plan_L35_35 n (nI fan) (zI τ 4)) n (0, sI τ 0 0) = some (sA (sI τ 0 0) 24 (fc (zA τ 24) rs.length)) := by
      have e0 : ((0 : Int32), sI τ 0 0) = (fun j => (nI j, sA (sI τ 0 0) 24 (fc (zA τ 24) j))) 0 := by
        show _ = (nI 0, sA (sI τ 0 0) 24 (fc (zA τ 24) 0))
        rw [fc0]
        exact congrArg (fun s => (nI 0, s)) (sA_id (sI τ 0 0) 24).symm
      rw [e0, hM.1]
      refine zlp_for (β := zS) (fun j => (nI j, sA (sI τ 0 0) 24 (fc (zA τ 24) j))) _ rs.length 0 n (fun j _ hj => ?_) ?_ (by omega)
      · obtain ⟨r, f, hr, hf, hrd⟩ := hget j (by omega)
        have hfm := hM.2.2.2.1 f (List.mem_of_getElem? hf)
        unfold fX10_plan_L35_35
        dsimp only
        rw [if_neg (fun q => by rw [nI_leI (by omega) (by omega)] at q; omega), zg_in (by omega) (by decide), nI_clamp (by omega), show zA (sA (sI τ 0 0) 24 (fc (zA τ 24) j)) 7 j = nI f from hM.2.2.2.2.2.1 j f hf, zg_in hfm.2 (by decide), zg_in (by omega) (by decide), nI_clamp (by omega), show zA (sA (sI τ 0 0) 24 (fc (zA τ 24) j)) 5 f = nI r.2 from (hM.2.2.2.2.2.2.1 j f r hf hr).2.2.1, sA_sA, nI_1]
        rw [show zA (sA (sI τ 0 0) 24 (fc (zA τ 24) j)) 24 = fc (zA τ 24) j from rfl, stp _ _ _ (by rw [hrd])]
      · unfold fX10_plan_L35_35
        dsimp only
        rw [Nat.zero_add, if_pos (nI_le (Nat.le_refl _) (by omega))]
    -- beyond the runs both rows may hold what they like: only what is below counts
    have hloop := zlp_two (body := fX9_plan_L60_60 n nb sz mm (nI fan)) (body' := fX10_plan_L65_65 n (nI fan))
      (fun q a a' => ∃ m rd p F G, a = (nI m, rd, nI p, sA σ 18 F) ∧ a' = (nI m, rd, sA (sI τ 0 0) 24 G) ∧ m + p ≤ nb ∧ q = m ∧ (∀ i, i < m → F i = G i))
      (fun b b' => ∃ rd F G, b = (rd, sA σ 18 F) ∧ b' = (rd, sA (sI τ 0 0) 24 G))
      (fun q a a' hP => by
        obtain ⟨m, rd, p, F, G, rfl, rfl, hmp, rfl, hFG⟩ := hP
        unfold fX9_plan_L60_60 fX10_plan_L65_65
        dsimp only
        by_cases e : q ≤ 1
        · right
          rw [if_pos (show nI q ≤ 1 from nI_le (b := 1) e (by decide)), if_pos (show nI q ≤ 1 from nI_le (b := 1) e (by decide)), ite_self]
          exact ⟨_, _, rfl, rfl, rd, F, G, rfl, rfl⟩
        · left
          rw [if_neg (show ¬ nI nb ≤ nI p from fun z => by rw [nI_leI (by omega) (by omega)] at z; omega), if_neg (show ¬ nI q ≤ 1 from fun z => by rw [show (1 : Int32) = nI 1 from rfl, nI_leI (by omega) (by omega)] at z; omega), if_neg (show ¬ nI q ≤ 1 from fun z => by rw [show (1 : Int32) = nI 1 from rfl, nI_leI (by omega) (by omega)] at z; omega)]
          obtain ⟨rd', g, F', G', r1, r2, r3, r4⟩ := j_planG (n := n) (nb := nb) (sz := sz) (mm := mm) (w := w) (fan := fan) (m := q) (σ := σ) (τ := sI τ 0 0) (rd := rd) (k4 := nI p) (F := F) (G := G) (by omega) hnb hs5 hsz h.2.1.2.1 h.2.1.2.2.2.2.2 h.1.2.1 h.2.1.2.2.1 hf2 (by omega) (by omega) (by omega) hFG
          rw [zb_s r1, zb_s r2, nI_1]
          exact ⟨_, _, g, r3, rfl, rfl, g, rd', p + 1, F', G', rfl, rfl, by omega, rfl, fun i hi => r4 i (by omega)⟩)
      n rs.length (nI rs.length, 0, 0, sA σ 18 (fc (zA σ 18) rs.length)) (nI rs.length, 0, sA (sI τ 0 0) 24 (fc (zA τ 24) rs.length)) (by omega) ⟨rs.length, 0, 0, fc (zA σ 18) rs.length, fc (zA τ 24) rs.length, rfl, rfl, by omega, rfl, fun i hi => by
        show (if i < rs.length then _ else _) = (if i < rs.length then _ else _)
        rw [if_pos hi, if_pos hi]⟩
    obtain ⟨_, _, r1, r2, rd, F, G, rfl, rfl⟩ := hloop
    have hf : fX9_plan_0 n nb sz mm σ (nI fan) = some (.inr rd, sA σ 18 F) := by
      unfold fX9_plan_0 fX9_needFan_0 fX6_size_0
      rw [if_neg (i_nlt.mpr c1.1), if_pos c1.2]
      show zb (zlp (fX9_plan_L23_23 n nb sz mm (nI fan) (if nI nb < zI σ 32 then nI nb else zI σ 32)) n (0, σ)) (fun b11 => zb (zlp (fX9_plan_L60_60 n nb sz mm (nI fan)) n ((if nI nb < zI σ 32 then nI nb else zI σ 32), 0, 0, b11)) _) = _
      rw [hq, zb_s hl1, zb_s r1]
    have hm : fX10_plan_0 n τ (nI fan) = some (rd, sA (sI τ 0 0) 24 G) := by
      unfold fX10_plan_0 fX10_plan_16
      rw [zb_s (m_isIn_y c1.1 c1.2), if_neg (by decide), if_pos (by decide), zb_s hl2, hM.1, zb_s r2]
    exact ⟨_, _, _, _, _, _, hf, rfl, hm, rfl, fun _ => o_at _ _, cm, by omega, w, od, kn, inp, rs, fs, h⟩
  · have hf : fX9_plan_0 n nb sz mm σ a1 = some (.inl "java/lang/IllegalArgumentException", σ) := by
      unfold fX9_plan_0 fX9_needFan_0 fX9_needFan_11
      by_cases q : a1 < 2
      · rw [if_pos q]
        rfl
      · rw [if_neg q, if_neg (fun z => c1 ⟨i_nlt.mp q, z⟩)]
        rfl
    have hm : fX10_plan_0 n τ a1 = some (0, sI τ 0 1) := by
      unfold fX10_plan_0 fX10_plan_16
      rw [zb_s (m_isIn_n c1), if_pos rfl, if_neg (by decide)]
    exact ⟨_, _, _, _, _, _, hf, rfl, hm, rfl, fun q => absurd q (by decide), cm, by omega, w, od, kn, inp, rs, fs, h⟩
