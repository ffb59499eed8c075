def rotN (T : Nat) (f : Nat → Nat) : Nat → Nat := fun j => if j = 1 then f T else f (j - 1)
def rotL (T : Nat) (f : Nat → List zP) : Nat → List zP := fun j => if j = 1 then f T else f (j - 1)
theorem rot_perm {T : Nat} {L : Nat → List zP} : ∀ {m : Nat}, (cL (rotL T L) (m + 1)).Perm (L T ++ cL L m) := by
  intro m
  induction m with
  | zero =>
    show ([] ++ rotL T L 1).Perm (L T ++ [])
    rw [show rotL T L 1 = L T from if_pos rfl, List.nil_append, List.append_nil]
  | succ m ih =>
    show (cL (rotL T L) (m + 1) ++ rotL T L (m + 2)).Perm (L T ++ (cL L m ++ L (m + 1)))
    rw [show rotL T L (m + 2) = L (m + 1) from if_neg (by omega), ← List.append_assoc]
    exact List.Perm.append_right _ ih
/-- the tapes move on by one -/
theorem j_down {n nb sz mm T l : Nat} {L : Nat → List zP} {th c fr : Nat → Nat} {σ τ : zS} (hn : 300 < n) (hT : 3 ≤ T) (hT6 : T ≤ 6) (h : PT T L th (Av T (l + 1)) c fr σ τ) (hok : zTok σ) (hL0 : L (T - 1) = []) (hb : ∀ j, 1 ≤ j → j < T → Av T (l + 1) j ≤ 400) :
    ∃ σ' τ1 τ', fX8_goDown_0 n nb sz mm σ = some σ' ∧ fX10_lower_0 n τ (nI (T - 1)) = some τ1 ∧ fX10_rotate_0 n τ1 (nI T) = some τ' ∧ PT T (rotL T L) (rotN T th) (Av T l) (rotN T c) (fun j => if j = T then 0 else rotN T fr j) σ' τ' ∧ zTok σ' ∧ zfp [] [14, 15] [] σ σ' ∧ zfr [] [19, 20, 22, 23] [] τ τ' := by
  obtain ⟨h1, h2, h3, h4, h5⟩ := h
  have hw := h4 (T - 1) (by omega) (by omega)
  have hAT : Av T (l + 1) (T - 1) = Av T l 1 + Av T l T := by
    rw [Av_s (by omega) (by omega), show T - 1 + 1 = T by omega]
  have hAT0 : Av T l T = 0 := by
    cases l with
    | zero => exact if_neg (by omega)
    | succ l => exact Av_T
  have hAj : ∀ j, 1 ≤ j → j < T → Av T (l + 1) j - Av T (l + 1) (T - 1) = Av T l (j + 1) ∧ Av T (l + 1) (T - 1) ≤ Av T (l + 1) j := fun j j1 j2 => by
    rw [Av_s j1 j2, hAT, hAT0]
    omega
  -- the class
  have hlc := zlp_tot (body := fX8_goDown_L56_56 n nb sz mm (nI (Av T (l + 1) (T - 1))) (zT σ T) (nI (th T))) (fun m a => ∃ j σ1, a = (nI j, σ1) ∧ 1 ≤ j ∧ j ≤ T ∧ m = j ∧ (∀ k, zT σ1 k = if j < k ∧ k ≤ T then zT σ (k - 1) else zT σ k) ∧ (∀ k, zA σ1 15 k = if j < k ∧ k ≤ T then zA σ 15 (k - 1) else zA σ 15 k) ∧ (∀ k, zA σ1 14 k = if j < k ∧ k ≤ T then zA σ 14 (k - 1) - nI (Av T (l + 1) (T - 1)) else zA σ 14 k) ∧ zU σ1 = zU σ ∧ zV σ1 = zV σ ∧ zfp [] [14, 15] [] σ σ1)
    (fun σ1 => (∀ k, zT σ1 k = if 1 < k ∧ k ≤ T then zT σ (k - 1) else zT σ k) ∧ (∀ k, zA σ1 15 k = if 1 < k ∧ k ≤ T then zA σ 15 (k - 1) else zA σ 15 k) ∧ (∀ k, zA σ1 14 k = if 1 < k ∧ k ≤ T then zA σ 14 (k - 1) - nI (Av T (l + 1) (T - 1)) else zA σ 14 k) ∧ zU σ1 = zU σ ∧ zV σ1 = zV σ ∧ zfp [] [14, 15] [] σ σ1)
    (fun m a hP => by
      obtain ⟨j, σ1, rfl, hj1, hjT, rfl, q1, q2, q3, q4, q5, q6⟩ := hP
      unfold fX8_goDown_L56_56
      dsimp only
      by_cases e : m = 1
      · right
        subst e
        rw [if_pos (show nI 1 ≤ 1 by decide)]
        exact ⟨_, rfl, q1, q2, q3, q4, q5, q6⟩
      · left
        have hz7 : z7 (zT σ1 (m - 1)) = true := by rw [q1, if_neg (by omega)]; exact decide_eq_true (hok.1 (m - 1) (by omega))
        have ht : zT σ1 (m - 1) = zT σ (m - 1) := by rw [q1, if_neg (by omega)]
        have h15 : zA σ1 15 (m - 1) = zA σ 15 (m - 1) := by rw [q2, if_neg (by omega)]
        have h14 : zA σ1 14 (m - 1) = zA σ 14 (m - 1) := by rw [q3, if_neg (by omega)]
        rw [if_neg (show ¬ nI m ≤ 1 from fun q => by rw [show (1 : Int32) = nI 1 from rfl, nI_leI (by omega) (by omega)] at q; omega), show nI m - 1 = nI (m - 1) from by rw [show (1 : Int32) = nI 1 from rfl, nI_sub (by omega)]]
        simp only [zg_in (show m < 7 by omega) (show 7 < 2 ^ 31 by decide), zg_in (show m - 1 < 7 by omega) (show 7 < 2 ^ 31 by decide), nI_clamp (show m < 2 ^ 31 by omega), nI_clamp (show m - 1 < 2 ^ 31 by omega), zg_t hz7]
        rw [nI_dec (by omega)]
        refine ⟨_, m - 1, by omega, rfl, m - 1, _, rfl, by omega, by omega, rfl, fun k => ?_, fun k => ?_, fun k => ?_, q4, q5, zfp_A (by decide) (zfp_A (by decide) (zfp_T q6))⟩
        · show (if k = m then zT σ1 (m - 1) else zT σ1 k) = _
          by_cases z : k = m
          · rw [if_pos z, ht, if_pos (by omega), z]
          · rw [if_neg z, q1]
            by_cases y : m < k ∧ k ≤ T
            · rw [if_pos y, if_pos (by omega)]
            · rw [if_neg y, if_neg (by omega)]
        · show upd (zA σ1 15) m (zA σ1 15 (m - 1)) k = _
          rw [upd_at]
          by_cases z : k = m
          · rw [if_pos z, h15, if_pos (by omega), z]
          · rw [if_neg z, q2]
            by_cases y : m < k ∧ k ≤ T
            · rw [if_pos y, if_pos (by omega)]
            · rw [if_neg y, if_neg (by omega)]
        · show upd (zA σ1 14) m (zA σ1 14 (m - 1) - nI (Av T (l + 1) (T - 1))) k = _
          rw [upd_at]
          by_cases z : k = m
          · rw [if_pos z, h14, if_pos (by omega), z]
          · rw [if_neg z, q3]
            by_cases y : m < k ∧ k ≤ T
            · rw [if_pos y, if_pos (by omega)]
            · rw [if_neg y, if_neg (by omega)])
    n T (nI T, σ) (by omega) ⟨T, σ, rfl, by omega, Nat.le_refl _, rfl, fun k => by rw [if_neg (by omega)], fun k => by rw [if_neg (by omega)], fun k => by rw [if_neg (by omega)], rfl, rfl, zfp_r⟩
  obtain ⟨σ1, u1, u2, u3, u4, u5, u6, u7⟩ := hlc
  let σ' := sA (sA (sT σ1 1 (zT σ T)) 15 (upd (zA σ1 15) 1 (nI (th T)))) 14 (upd (zA σ1 14) 1 (nI (Av T (l + 1) (T - 1))))
  have hcE : fX8_goDown_0 n nb sz mm σ = some σ' := by
    unfold fX8_goDown_0
    rw [h1, if_neg (show ¬ nI T < 2 from fun q => by rw [show (2 : Int32) = nI 2 from rfl, nI_ltI (by omega) (by omega)] at q; omega), if_pos (show nI T ≤ 6 from nI_le (b := 6) hT6 (by decide)), show nI T - 1 = nI (T - 1) from by rw [show (1 : Int32) = nI 1 from rfl, nI_sub (by omega)]]
    simp only [zg_in (show T < 7 by omega) (show 7 < 2 ^ 31 by decide), zg_in (show T - 1 < 7 by omega) (show 7 < 2 ^ 31 by decide), nI_clamp (show T < 2 ^ 31 by omega), nI_clamp (show T - 1 < 2 ^ 31 by omega)]
    rw [hw.1, (h2 T (by omega) (Nat.le_refl _)).2, zb_s u1, zg_t (show zin 1 7 = true by decide), zg_t (show z7 (zT σ T) = true from decide_eq_true (hok.1 T (by omega))), zg_t (show zin 1 7 = true by decide), zg_t (show zin 1 7 = true by decide)]
    rfl
  have hT' : ∀ k, zT σ' k = if k = 1 then zT σ T else if 1 < k ∧ k ≤ T then zT σ (k - 1) else zT σ k := fun k => by
    show (if k = 1 then zT σ T else zT σ1 k) = _
    by_cases z : k = 1
    · rw [if_pos z, if_pos z]
    · rw [if_neg z, if_neg z, u2]
  -- the reference: lower
  have hlm := zlp_tot (body := fX10_lower_L9_9 n (nI (Av T (l + 1) (T - 1)))) (fun m a => ∃ j τ1, a = (nI j, τ1) ∧ 1 ≤ j ∧ j ≤ T - 1 ∧ m = j ∧ (∀ k, zA τ1 23 k = if j < k ∧ k ≤ T - 1 then zA τ 23 (k - 1) - nI (Av T (l + 1) (T - 1)) else zA τ 23 k) ∧ zfr [] [23] [] τ τ1)
    (fun τ1 => (∀ k, zA τ1 23 k = if 1 < k ∧ k ≤ T - 1 then zA τ 23 (k - 1) - nI (Av T (l + 1) (T - 1)) else zA τ 23 k) ∧ zfr [] [23] [] τ τ1)
    (fun m a hP => by
      obtain ⟨j, τ1, rfl, hj1, hjT, rfl, q3, q6⟩ := hP
      unfold fX10_lower_L9_9
      dsimp only
      by_cases e : m = 1
      · right
        subst e
        rw [if_pos (show nI 1 ≤ 1 by decide)]
        exact ⟨_, rfl, q3, q6⟩
      · left
        have h14 : zA τ1 23 (m - 1) = zA τ 23 (m - 1) := by rw [q3, if_neg (by omega)]
        rw [if_neg (show ¬ nI m ≤ 1 from fun q => by rw [show (1 : Int32) = nI 1 from rfl, nI_leI (by omega) (by omega)] at q; omega), show nI m - 1 = nI (m - 1) from by rw [show (1 : Int32) = nI 1 from rfl, nI_sub (by omega)], zg_in (show m - 1 < 8 by omega) (by decide), zg_in (show m < 8 by omega) (by decide), nI_clamp (show m < 2 ^ 31 by omega), nI_clamp (show m - 1 < 2 ^ 31 by omega), nI_dec (by omega)]
        refine ⟨_, m - 1, by omega, rfl, m - 1, _, rfl, by omega, by omega, rfl, fun k => ?_, zfr_A (by decide) q6⟩
        show upd (zA τ1 23) m (zA τ1 23 (m - 1) - nI (Av T (l + 1) (T - 1))) k = _
        rw [upd_at]
        by_cases z : k = m
        · rw [if_pos z, h14, if_pos (by omega), z]
        · rw [if_neg z, q3]
          by_cases y : m < k ∧ k ≤ T - 1
          · rw [if_pos y, if_pos (by omega)]
          · rw [if_neg y, if_neg (by omega)])
    n (T - 1) (nI (T - 1), τ) (by omega) ⟨T - 1, τ, rfl, by omega, Nat.le_refl _, rfl, fun k => by rw [if_neg (by omega)], zfr_r⟩
  obtain ⟨τa, v1, v2, v3⟩ := hlm
  let τ1 := sA τa 23 (upd (zA τa 23) 1 (nI (Av T (l + 1) (T - 1))))
  have hm1 : fX10_lower_0 n τ (nI (T - 1)) = some τ1 := by
    unfold fX10_lower_0
    rw [zg_in (show T - 1 < 8 by omega) (by decide), nI_clamp (show T - 1 < 2 ^ 31 by omega), hw.2, zb_s v1, zg_t (show zin 1 8 = true by decide)]
    rfl
  have w23 : ∀ k, 1 ≤ k → k < T → zA τ1 23 k = nI (Av T l k) := fun k k1 k2 => by
    show upd (zA τa 23) 1 (nI (Av T (l + 1) (T - 1))) k = _
    rw [upd_at]
    by_cases z : k = 1
    · rw [if_pos z, z, hAT, hAT0, Nat.add_zero]
    · rw [if_neg z, v2, if_pos (by omega), (h4 (k - 1) (by omega) (by omega)).2]
      have := hAj (k - 1) (by omega) (by omega)
      rw [nI_sub this.2, this.1, show k - 1 + 1 = k by omega]
  have tf1 : zfr [] [23] [] τ τ1 := zfr_A (by decide) v3
  -- rotate
  have hlr := zlp_tot (body := fX10_rotate_L9_9 n (nI T) (nI (c T))) (fun m a => ∃ j τ2, a = (nI j, τ2) ∧ 1 ≤ j ∧ j ≤ T ∧ m = j ∧ (∀ k, zA τ2 22 k = if j < k ∧ k ≤ T then zA τ 22 (k - 1) else zA τ 22 k) ∧ zfr [] [22] [] τ1 τ2)
    (fun τ2 => (∀ k, zA τ2 22 k = if 1 < k ∧ k ≤ T then zA τ 22 (k - 1) else zA τ 22 k) ∧ zfr [] [22] [] τ1 τ2)
    (fun m a hP => by
      obtain ⟨j, τ2, rfl, hj1, hjT, rfl, q3, q6⟩ := hP
      unfold fX10_rotate_L9_9
      dsimp only
      by_cases e : m = 1
      · right
        subst e
        rw [if_pos (show nI 1 ≤ 1 by decide)]
        exact ⟨_, rfl, q3, q6⟩
      · left
        have h14 : zA τ2 22 (m - 1) = zA τ 22 (m - 1) := by rw [q3, if_neg (by omega)]
        rw [if_neg (show ¬ nI m ≤ 1 from fun q => by rw [show (1 : Int32) = nI 1 from rfl, nI_leI (by omega) (by omega)] at q; omega), show nI m - 1 = nI (m - 1) from by rw [show (1 : Int32) = nI 1 from rfl, nI_sub (by omega)], zg_in (show m - 1 < 7 by omega) (by decide), zg_in (show m < 7 by omega) (by decide), nI_clamp (show m < 2 ^ 31 by omega), nI_clamp (show m - 1 < 2 ^ 31 by omega), nI_dec (by omega)]
        refine ⟨_, m - 1, by omega, rfl, m - 1, _, rfl, by omega, by omega, rfl, fun k => ?_, zfr_A (by decide) q6⟩
        show upd (zA τ2 22) m (zA τ2 22 (m - 1)) k = _
        rw [upd_at]
        by_cases z : k = m
        · rw [if_pos z, h14, if_pos (by omega), z]
        · rw [if_neg z, q3]
          by_cases y : m < k ∧ k ≤ T
          · rw [if_pos y, if_pos (by omega)]
          · rw [if_neg y, if_neg (by omega)])
    n T (nI T, τ1) (by omega) ⟨T, τ1, rfl, by omega, Nat.le_refl _, rfl, fun k => by rw [if_neg (by omega)]; exact congrFun (tf1.2.1 22 (by decide)) k, zfr_r⟩
  obtain ⟨τ2, y1, y2, y3⟩ := hlr
  obtain ⟨rT, rT1, rT2, -⟩ := h3 T (by omega) (Nat.le_refl _)
  obtain ⟨rS, rS1, rS2, -⟩ := h3 (T - 1) (by omega) (by omega)
  have hcal : ∀ k, 1 ≤ k → k ≤ T → upd (zA τ2 22) 1 (nI (c T)) k = nI (rotN T c k) := fun k k1 k2 => by
    rw [upd_at]
    unfold rotN
    by_cases z : k = 1
    · rw [if_pos z, if_pos z]
    · rw [if_neg z, if_neg z, y2, if_pos (by omega), (h3 (k - 1) (by omega) (by omega)).1]
  have hcT : upd (zA τ2 22) 1 (nI (c T)) T = nI (c (T - 1)) := by
    rw [hcal T (by omega) (Nat.le_refl _)]
    unfold rotN
    rw [if_neg (by omega)]
  let τ' := sA (sA (sA τ2 22 (upd (zA τ2 22) 1 (nI (c T)))) 19 (upd (zA τ2 19) (c (T - 1)) 0)) 20 (upd (zA τ2 20) (c (T - 1)) 0)
  have hm2 : fX10_rotate_0 n τ1 (nI T) = some τ' := by
    unfold fX10_rotate_0
    rw [zg_in (show T < 7 by omega) (by decide), nI_clamp (show T < 2 ^ 31 by omega), show zA τ1 22 T = nI (c T) from (congrFun (tf1.2.1 22 (by decide)) T).trans rT, zb_s y1, zg_t (show zin 1 7 = true by decide), zg_in (show T < 7 by omega) (by decide)]
    have e1 : upd (zA τ2 22) (Int32.toNatClampNeg 1) (nI (c T)) T = nI (c (T - 1)) := hcT
    rw [e1, zg_in (show c (T - 1) < 7 by omega) (by decide), zg_in (show c (T - 1) < 7 by omega) (by decide), nI_clamp (show c (T - 1) < 2 ^ 31 by omega)]
    rfl
  have tf2 : zfr [] [19, 20, 22, 23] [] τ τ' := zfr_A (by decide) (zfr_A (by decide) (zfr_A (by decide) (zfr_t (zfr_w tf1 (by decide) (by decide) (by decide)) y3 (by decide) (by decide) (by decide))))
  have k19 : zA τ2 19 = zA τ 19 := (y3.2.1 19 (by decide)).trans (tf1.2.1 19 (by decide))
  have k20 : zA τ2 20 = zA τ 20 := (y3.2.1 20 (by decide)).trans (tf1.2.1 20 (by decide))
  refine ⟨σ', τ1, τ', hcE, hm1, hm2, ⟨(u7.1 30 List.not_mem_nil).trans h1, fun j j1 j2 => ⟨?_, ?_⟩, fun j j1 j2 => ?_, fun j j1 j2 => ⟨?_, ?_⟩, fun i j i1 i2 j1 j2 e => ?_⟩, ⟨fun j hj => ?_, fun i j hi hj e => ?_⟩, zfp_A (by decide) (zfp_A (by decide) (zfp_T u7)), tf2⟩
  · show rwL hdP (rotL T L j) (zU σ1 (zT σ' j)) (zV σ1 (zT σ' j))
    rw [u5, u6, hT']
    unfold rotL
    by_cases z : j = 1
    · rw [if_pos z, if_pos z]
      exact (h2 T (by omega) (Nat.le_refl _)).1
    · rw [if_neg z, if_neg z, if_pos (by omega)]
      exact (h2 (j - 1) (by omega) (by omega)).1
  · show upd (zA σ1 15) 1 (nI (th T)) j = nI (rotN T th j)
    rw [upd_at]
    unfold rotN
    by_cases z : j = 1
    · rw [if_pos z, if_pos z]
    · rw [if_neg z, if_neg z, u3, if_pos (by omega)]
      exact (h2 (j - 1) (by omega) (by omega)).2
  · have hcj : ∃ i, 1 ≤ i ∧ i ≤ T ∧ rotN T c j = c i ∧ rotL T L j = L i ∧ rotN T th j = th i ∧ rotN T fr j = fr i ∧ (j = T ↔ i = T - 1) := by
      by_cases z : j = 1
      · exact ⟨T, by omega, Nat.le_refl _, if_pos z, if_pos z, if_pos z, if_pos z, by omega⟩
      · exact ⟨j - 1, by omega, by omega, if_neg z, if_neg z, if_neg z, if_neg z, by omega⟩
    obtain ⟨i, i1, i2, ec, eL, et, ef, eT⟩ := hcj
    obtain ⟨a1, a2, a3, a4, a5, a6, a7, a8⟩ := h3 i i1 i2
    refine ⟨hcal j j1 j2, by rw [ec]; exact a2, by rw [ec]; exact a3, ?_, ?_, ?_, fun x p hx => ?_, ?_⟩
    · show upd (zA τ2 19) (c (T - 1)) 0 (rotN T c j) = nI (if j = T then 0 else rotN T fr j)
      rw [upd_at, ec]
      by_cases z : j = T
      · rw [if_pos (by rw [eT.mp z]), if_pos z]
        rfl
      · rw [if_neg (fun q => z (eT.mpr (h5 i (T - 1) i1 i2 (by omega) (by omega) q))), if_neg z, k19, a4, ef]
    · show upd (zA τ2 20) (c (T - 1)) 0 (rotN T c j) = nI ((if j = T then 0 else rotN T fr j) + (rotL T L j).length)
      rw [upd_at, ec, eL]
      by_cases z : j = T
      · rw [if_pos (by rw [eT.mp z]), if_pos z, eT.mp z, hL0]
        rfl
      · rw [if_neg (fun q => z (eT.mpr (h5 i (T - 1) i1 i2 (by omega) (by omega) q))), if_neg z, k20, a5, ef]
    · show (if j = T then 0 else rotN T fr j) + (rotL T L j).length ≤ 200
      rw [eL, ef]
      by_cases z : j = T
      · rw [if_pos z]; omega
      · rw [if_neg z]; exact a6
    · show zA τ2 18 (208 * rotN T c j + ((if j = T then 0 else rotN T fr j) + x)) = _
      rw [eL] at hx
      by_cases z : j = T
      · rw [eT.mp z, hL0] at hx
        cases hx
      · rw [if_neg z, ec, ef, y3.2.1 18 (by decide), tf1.2.1 18 (by decide)]
        exact a7 x p hx
    · show zA τ2 21 (rotN T c j) = _
      rw [ec, et, y3.2.1 21 (by decide), tf1.2.1 21 (by decide)]
      exact a8
  · show upd (zA σ1 14) 1 (nI (Av T (l + 1) (T - 1))) j = _
    rw [upd_at]
    by_cases z : j = 1
    · rw [if_pos z, z, hAT, hAT0, Nat.add_zero]
    · rw [if_neg z, u4, if_pos (by omega), (h4 (j - 1) (by omega) (by omega)).1]
      have := hAj (j - 1) (by omega) (by omega)
      rw [nI_sub this.2, this.1, show j - 1 + 1 = j by omega]
  · show zA τ2 23 j = _
    rw [y3.2.1 23 (by decide)]
    exact w23 j j1 j2
  · unfold rotN at e
    by_cases z : i = 1
    · by_cases y : j = 1
      · omega
      · rw [if_pos z, if_neg y] at e
        have := h5 T (j - 1) (by omega) (Nat.le_refl _) (by omega) (by omega) e
        omega
    · by_cases y : j = 1
      · rw [if_neg z, if_pos y] at e
        have := h5 (i - 1) T (by omega) (by omega) (by omega) (Nat.le_refl _) e
        omega
      · rw [if_neg z, if_neg y] at e
        have := h5 (i - 1) (j - 1) (by omega) (by omega) (by omega) (by omega) e
        omega
  · rw [hT']
    by_cases z : j = 1
    · rw [if_pos z]; exact hok.1 T (by omega)
    · rw [if_neg z]
      by_cases y : 1 < j ∧ j ≤ T
      · rw [if_pos y]; exact hok.1 (j - 1) (by omega)
      · rw [if_neg y]; exact hok.1 j hj
  · rw [hT', hT'] at e
    have src : ∀ k, k < 7 → ∃ s, s < 7 ∧ (if k = 1 then zT σ T else if 1 < k ∧ k ≤ T then zT σ (k - 1) else zT σ k) = zT σ s ∧ (k = 1 → s = T) ∧ ((1 < k ∧ k ≤ T) → s + 1 = k) ∧ ((¬ k = 1 ∧ ¬ (1 < k ∧ k ≤ T)) → s = k) := fun k hk => by
      by_cases z : k = 1
      · exact ⟨T, by omega, by rw [if_pos z], fun _ => rfl, fun q => by omega, fun q => absurd z q.1⟩
      · by_cases y : 1 < k ∧ k ≤ T
        · exact ⟨k - 1, by omega, by rw [if_neg z, if_pos y], fun q => absurd q z, fun _ => by omega, fun q => absurd y q.2⟩
        · exact ⟨k, hk, by rw [if_neg z, if_neg y], fun q => absurd q z, fun q => absurd q y, fun _ => rfl⟩
    obtain ⟨s, s1, s2, s3, s4, s5⟩ := src i hi
    obtain ⟨t, t1, t2, t3, t4, t5⟩ := src j hj
    rw [s2, t2] at e
    have := hok.2 s t s1 t1 e
    omega
