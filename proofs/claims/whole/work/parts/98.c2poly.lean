theorem Av_le {T l : Nat} (hT : 3 ≤ T) {k : Nat} (h1 : 1 ≤ k) (h2 : k ≤ T) : Av T (l + 1) k ≤ Av T (l + 1) 1 := by
  have hq := (Av_q hT l).1
  revert h1 h2
  induction k with
  | zero => intro h; omega
  | succ k ih =>
    intro h1 h2
    by_cases c : k = 0
    · subst c; exact Nat.le_refl _
    · exact Nat.le_trans (hq k (by omega) h2) (ih (by omega) (by omega))
/-- a level up -/
theorem j_up {n nb sz mm T lv : Nat} {σ τ : zS} (hn : 300 < n) (hT : 3 ≤ T) (hT6 : T ≤ 6) (h30 : zI σ 30 = nI T) (hb : ∀ k, 1 ≤ k → k < T → Av T (lv + 1) k ≤ 400) (hw : ∀ k, 1 ≤ k → k < T → zA σ 14 k = nI (Av T (lv + 1) k) ∧ zA τ 23 k = nI (Av T (lv + 1) k)) (hwT : zA σ 14 T = 0 ∧ zA τ 23 T = 0) (hl : zI σ 31 = nI (lv + 1) ∧ zI τ 26 = nI (lv + 1)) :
    ∃ σ' τ', fX8_goUp_0 n nb sz mm σ = some σ' ∧ fX10_raise_0 n τ (nI (T - 1)) = some τ' ∧ zI σ' 31 = nI (lv + 2) ∧ zI τ' 26 = nI (lv + 2) ∧ (∀ k, 1 ≤ k → k < T → zA σ' 14 k = nI (Av T (lv + 2) k) ∧ zA τ' 23 k = nI (Av T (lv + 2) k) ∧ zA σ' 15 k = nI (Av T (lv + 2) k - Av T (lv + 1) k) ∧ zA τ' 21 k = nI (Av T (lv + 2) k - Av T (lv + 1) k)) ∧ (zA σ' 14 T = 0 ∧ zA τ' 23 T = 0 ∧ zA σ' 15 T = zA σ 15 T ∧ zA τ' 21 T = zA τ 21 T) ∧ zfr [31] [14, 15] [] σ σ' ∧ zfr [26] [21, 23] [] τ τ' := by
  have hx := hw 1 (by omega) (by omega)
  have hwk : ∀ k, 1 ≤ k → k ≤ T → zA σ 14 k = nI (Av T (lv + 1) k) ∧ zA τ 23 k = nI (Av T (lv + 1) k) := fun k h1 h2 => by
    by_cases c : k = T
    · rw [c, Av_T]; exact hwT
    · exact hw k h1 (by omega)
  have hbk : ∀ k, 1 ≤ k → k ≤ T → Av T (lv + 1) k ≤ 400 := fun k h1 h2 => by
    by_cases c : k = T
    · rw [c, Av_T]; omega
    · exact hb k h1 (by omega)
  have hloop := zlp_two (body := fX8_goUp_L19_19 n nb sz mm (nI (Av T (lv + 1) 1))) (body' := fX10_raise_L19_19 n (nI (T - 1)) (nI (Av T (lv + 1) 1)))
    (fun m a a' => ∃ j σ1 τ1, a = (nI j, σ1) ∧ a' = (nI j, τ1) ∧ 1 ≤ j ∧ j ≤ T ∧ m = T - j ∧ (∀ k, 1 ≤ k → k < j → zA σ1 14 k = nI (Av T (lv + 2) k) ∧ zA τ1 23 k = nI (Av T (lv + 2) k) ∧ zA σ1 15 k = nI (Av T (lv + 2) k - Av T (lv + 1) k) ∧ zA τ1 21 k = nI (Av T (lv + 2) k - Av T (lv + 1) k)) ∧ (∀ k, j ≤ k → zA σ1 14 k = zA σ 14 k ∧ zA τ1 23 k = zA τ 23 k ∧ zA σ1 15 k = zA σ 15 k ∧ zA τ1 21 k = zA τ 21 k) ∧ zfr [] [14, 15] [] (sI σ 31 (nI (lv + 2))) σ1 ∧ zfr [] [21, 23] [] (sI τ 26 (nI (lv + 2))) τ1)
    (fun b b' => (∀ k, 1 ≤ k → k < T → zA b 14 k = nI (Av T (lv + 2) k) ∧ zA b' 23 k = nI (Av T (lv + 2) k) ∧ zA b 15 k = nI (Av T (lv + 2) k - Av T (lv + 1) k) ∧ zA b' 21 k = nI (Av T (lv + 2) k - Av T (lv + 1) k)) ∧ (∀ k, T ≤ k → zA b 14 k = zA σ 14 k ∧ zA b' 23 k = zA τ 23 k ∧ zA b 15 k = zA σ 15 k ∧ zA b' 21 k = zA τ 21 k) ∧ zfr [] [14, 15] [] (sI σ 31 (nI (lv + 2))) b ∧ zfr [] [21, 23] [] (sI τ 26 (nI (lv + 2))) b')
    (fun m a a' hP => by
      obtain ⟨j, σ1, τ1, rfl, rfl, hj1, hjT, rfl, q1, q2, q3, q4⟩ := hP
      unfold fX8_goUp_L19_19 fX10_raise_L19_19
      dsimp only
      rw [show zI σ1 30 = nI T from (q3.1 30 List.not_mem_nil).trans h30]
      by_cases c : j = T
      · right
        rw [if_pos (nI_le (show T ≤ j by omega) (by omega)), if_pos (nI_lt (show T - 1 < j by omega) (by omega))]
        exact ⟨_, _, rfl, rfl, c ▸ q1, c ▸ q2, q3, q4⟩
      · left
        have hjT2 : j < T := by omega
        obtain ⟨a1, a2, a3, a4⟩ := q2 j (Nat.le_refl _)
        obtain ⟨b1, b2, -, -⟩ := q2 (j + 1) (by omega)
        have e1 := hwk j hj1 (by omega)
        have e2 := hwk (j + 1) (by omega) (by omega)
        have hle := Av_le (l := lv) hT hj1 (show j ≤ T by omega)
        have hs : Av T (lv + 2) j = Av T (lv + 1) 1 + Av T (lv + 1) (j + 1) := Av_s hj1 hjT2
        have d1 := hbk 1 (by omega) (by omega)
        have d2 := hbk (j + 1) (by omega) (by omega)
        rw [if_neg (show ¬ nI T ≤ nI j from fun q => by rw [nI_leI (by omega) (by omega)] at q; omega), if_neg (show ¬ (6 : Int32) ≤ nI j from fun q => by rw [show (6 : Int32) = nI 6 from rfl, nI_leI (by omega) (by omega)] at q; omega), if_neg (show ¬ nI (T - 1) < nI j from fun q => by rw [nI_ltI (by omega) (by omega)] at q; omega), nI_1]
        simp only [zg_in (show j < 7 by omega) (show 7 < 2 ^ 31 by decide), zg_in (show j + 1 < 7 by omega) (show 7 < 2 ^ 31 by decide), zg_in (show j < 8 by omega) (show 8 < 2 ^ 31 by decide), zg_in (show j + 1 < 8 by omega) (show 8 < 2 ^ 31 by decide), nI_clamp (show j < 2 ^ 31 by omega), nI_clamp (show j + 1 < 2 ^ 31 by omega)]
        rw [a1, b1, a2, b2, e1.1, e1.2, e2.1, e2.2, nI_add, ← hs, nI_sub (by omega)]
        refine ⟨_, _, T - (j + 1), by omega, rfl, rfl, j + 1, _, _, rfl, rfl, by omega, by omega, rfl, fun k k1 k2 => ?_, fun k hk => ?_, zfr_A (by decide) (zfr_A (by decide) q3), zfr_A (by decide) (zfr_A (by decide) q4)⟩
        · show upd (zA σ1 14) j _ k = _ ∧ upd (zA τ1 23) j _ k = _ ∧ upd (zA σ1 15) j _ k = _ ∧ upd (zA τ1 21) j _ k = _
          rw [upd_at, upd_at, upd_at, upd_at]
          by_cases z : k = j
          · rw [if_pos z, if_pos z, if_pos z, if_pos z, z]
            exact ⟨rfl, rfl, rfl, rfl⟩
          · rw [if_neg z, if_neg z, if_neg z, if_neg z]
            exact q1 k k1 (by omega)
        · show upd (zA σ1 14) j _ k = _ ∧ upd (zA τ1 23) j _ k = _ ∧ upd (zA σ1 15) j _ k = _ ∧ upd (zA τ1 21) j _ k = _
          rw [upd_at, upd_at, upd_at, upd_at, if_neg (show ¬ k = j by omega), if_neg (show ¬ k = j by omega), if_neg (show ¬ k = j by omega), if_neg (show ¬ k = j by omega)]
          exact q2 k (by omega))
    n (T - 1) (nI 1, sI σ 31 (nI (lv + 2))) (nI 1, sI τ 26 (nI (lv + 2))) (by omega) ⟨1, _, _, rfl, rfl, Nat.le_refl _, by omega, rfl, fun k k1 k2 => absurd k2 (by omega), fun k _ => ⟨rfl, rfl, rfl, rfl⟩, zfr_r, zfr_r⟩
  obtain ⟨σ', τ', l1, l2, k1, k2, k3, k4⟩ := hloop
  refine ⟨σ', τ', ?_, ?_, k3.1 31 List.not_mem_nil, k4.1 26 List.not_mem_nil, k1, ?_, zfr_t (zfr_I (by decide) zfr_r) k3 (by decide) (by decide) (by decide), zfr_t (zfr_I (by decide) zfr_r) k4 (by decide) (by decide) (by decide)⟩
  · unfold fX8_goUp_0
    rw [zg_t (by decide), show zA σ 14 (Int32.toNatClampNeg 1) = nI (Av T (lv + 1) 1) from hx.1, hl.1, nI_1]
    exact zb_s l1
  · unfold fX10_raise_0
    rw [zg_t (by decide), show zA τ 23 (Int32.toNatClampNeg 1) = nI (Av T (lv + 1) 1) from hx.2, hl.2, nI_1]
    exact zb_s l2
  · obtain ⟨z1, z2, z3, z4⟩ := k2 T (Nat.le_refl _)
    exact ⟨z1.trans hwT.1, z2.trans hwT.2, z3, z4⟩
/-- the tapes are cleared: the class -/
theorem c_layclear {n nb sz mm T : Nat} {σ : zS} (hn : 300 < n) (hT6 : T ≤ 6) (h30 : zI σ 30 = nI T) (htk : zTok σ) : ∃ σ', zlp (fX8_lay_p33_L18_18 n nb sz mm) n (0, σ) = some σ' ∧ (∀ j, j < 7 → zU σ' (zT σ j) = 0 ∧ zA σ' 14 j = (if 1 ≤ j ∧ j < T then 1 else 0) ∧ zA σ' 15 j = (if 1 ≤ j ∧ j < T then 1 else 0)) ∧ zT σ' = zT σ ∧ zfp [] [14, 15] [] σ σ' := by
  have hlp := zlp_tot (body := fX8_lay_p33_L18_18 n nb sz mm) (fun m a => ∃ j σ1, a = (nI j, σ1) ∧ j ≤ 7 ∧ m = 7 - j ∧ (∀ k, k < j → zU σ1 (zT σ k) = 0 ∧ zA σ1 14 k = (if 1 ≤ k ∧ k < T then 1 else 0) ∧ zA σ1 15 k = (if 1 ≤ k ∧ k < T then 1 else 0)) ∧ zT σ1 = zT σ ∧ zfp [] [14, 15] [] σ σ1)
    (fun σ' => (∀ j, j < 7 → zU σ' (zT σ j) = 0 ∧ zA σ' 14 j = (if 1 ≤ j ∧ j < T then 1 else 0) ∧ zA σ' 15 j = (if 1 ≤ j ∧ j < T then 1 else 0)) ∧ zT σ' = zT σ ∧ zfp [] [14, 15] [] σ σ')
    (fun m a hP => by
      obtain ⟨j, σ1, rfl, hj, rfl, h1, h2, h3⟩ := hP
      unfold fX8_lay_p33_L18_18 fX8_lay_p33_L18_54 fX8_lay_p33_L18_55 fX6_clear_0
      dsimp only
      by_cases c : j = 7
      · right
        rw [c, if_pos (show (6 : Int32) < nI 7 by decide)]
        exact ⟨_, rfl, c ▸ h1, h2, h3⟩
      · left
        have hj7 : j < 7 := by omega
        have hz7 : z7 (zT σ1 j) = true := by rw [h2]; exact decide_eq_true (htk.1 j hj7)
        rw [if_neg (show ¬ (6 : Int32) < nI j from fun q => by rw [show (6 : Int32) = nI 6 from rfl, nI_ltI (by omega) (by omega)] at q; omega)]
        simp only [zg_in hj7 (show 7 < 2 ^ 31 by decide), nI_clamp (show j < 2 ^ 31 by omega), zg_t hz7]
        rw [zb_s rfl, show zI σ1 30 = nI T from (h3.1 30 List.not_mem_nil).trans h30, nI_1]
        have key : ∀ v : Int32, v = (if 1 ≤ j ∧ j < T then 1 else 0) → ∃ a' m', m' < 7 - j ∧ (some (Sum.inl (nI (j + 1), sA (sA (sV (sU σ1 (zT σ1 j) (zI (sI (zrv (zU σ1 (zT σ1 j)) (zV σ1 (zT σ1 j))) 0 0) 0)) (zT σ1 j) (zA (sI (zrv (zU σ1 (zT σ1 j)) (zV σ1 (zT σ1 j))) 0 0) 0)) 14 (upd (zA (sV (sU σ1 (zT σ1 j) (zI (sI (zrv (zU σ1 (zT σ1 j)) (zV σ1 (zT σ1 j))) 0 0) 0)) (zT σ1 j) (zA (sI (zrv (zU σ1 (zT σ1 j)) (zV σ1 (zT σ1 j))) 0 0) 0)) 14) j v)) 15 (upd (zA (sV (sU σ1 (zT σ1 j) (zI (sI (zrv (zU σ1 (zT σ1 j)) (zV σ1 (zT σ1 j))) 0 0) 0)) (zT σ1 j) (zA (sI (zrv (zU σ1 (zT σ1 j)) (zV σ1 (zT σ1 j))) 0 0) 0)) 15) j (upd (zA (sV (sU σ1 (zT σ1 j) (zI (sI (zrv (zU σ1 (zT σ1 j)) (zV σ1 (zT σ1 j))) 0 0) 0)) (zT σ1 j) (zA (sI (zrv (zU σ1 (zT σ1 j)) (zV σ1 (zT σ1 j))) 0 0) 0)) 14) j v j)))) : Option ((Int32 × zS) ⊕ zS)) = some (.inl a') ∧ ∃ j σ1, a' = (nI j, σ1) ∧ j ≤ 7 ∧ m' = 7 - j ∧ (∀ k, k < j → zU σ1 (zT σ k) = 0 ∧ zA σ1 14 k = (if 1 ≤ k ∧ k < T then 1 else 0) ∧ zA σ1 15 k = (if 1 ≤ k ∧ k < T then 1 else 0)) ∧ zT σ1 = zT σ ∧ zfp [] [14, 15] [] σ σ1 := by
          intro v hv
          refine ⟨_, 7 - (j + 1), by omega, rfl, j + 1, _, rfl, by omega, rfl, fun k hk => ⟨?_, ?_, ?_⟩, h2, zfp_A (by decide) (zfp_A (by decide) (zfp_V (zfp_U h3)))⟩
          · show (if zT σ k = zT σ1 j then (0 : Int32) else zU σ1 (zT σ k)) = 0
            by_cases q : zT σ k = zT σ1 j
            · rw [if_pos q]
            · rw [if_neg q]
              have hkj : ¬ k = j := fun z => q (by rw [z, h2])
              exact (h1 k (by omega)).1
          · show upd (zA σ1 14) j v k = _
            rw [upd_at]
            by_cases q : k = j
            · rw [if_pos q, hv, q]
            · rw [if_neg q]; exact (h1 k (by omega)).2.1
          · show upd (zA σ1 15) j (upd (zA σ1 14) j v j) k = _
            rw [upd_at]
            by_cases q : k = j
            · rw [if_pos q, upd_at, if_pos rfl, hv, q]
            · rw [if_neg q]; exact (h1 k (by omega)).2.2
        by_cases d : j = 0
        · rw [if_pos (show nI j ≤ 0 by rw [d]; decide)]
          exact key 0 (by rw [if_neg (by omega)])
        · rw [if_neg (show ¬ nI j ≤ 0 from nI_nle (by omega) (by omega))]
          by_cases d2 : T ≤ j
          · rw [if_pos (nI_le d2 (by omega))]
            exact key 0 (by rw [if_neg (by omega)])
          · rw [if_neg (fun q => d2 ((nI_leI (by omega) (by omega)).mp q))]
            exact key 1 (by rw [if_pos (by omega)]))
    n 7 (0, σ) (by omega) ⟨0, σ, rfl, by omega, rfl, fun k hk => absurd hk (by omega), rfl, zfp_r⟩
  obtain ⟨σ', h1, h2, h3, h4⟩ := hlp
  exact ⟨σ', h1, h2, h3, h4⟩
/-- the same: the reference -/
theorem m_layclear {n T : Nat} {τ : zS} (hn : 300 < n) (hT6 : T ≤ 6) (hT1 : 1 ≤ T) : ∃ τ', zlp (fX10_lay_L2_2 n (nI T)) n (1, τ) = some τ' ∧ (∀ j, 1 ≤ j → j ≤ T → zA τ' 22 j = nI j ∧ zA τ' 19 j = 0 ∧ zA τ' 20 j = 0 ∧ zA τ' 21 j = (if j < T then 1 else 0) ∧ zA τ' 23 j = (if j < T then 1 else 0)) ∧ zfr [] [19, 20, 21, 22, 23] [] τ τ' := by
  have hlp := zlp_tot (body := fX10_lay_L2_2 n (nI T)) (fun m a => ∃ j τ1, a = (nI j, τ1) ∧ 1 ≤ j ∧ j ≤ T + 1 ∧ m = T + 1 - j ∧ (∀ k, 1 ≤ k → k < j → zA τ1 22 k = nI k ∧ zA τ1 19 k = 0 ∧ zA τ1 20 k = 0 ∧ zA τ1 21 k = (if k < T then 1 else 0) ∧ zA τ1 23 k = (if k < T then 1 else 0)) ∧ zfr [] [19, 20, 21, 22, 23] [] τ τ1)
    (fun τ' => (∀ j, 1 ≤ j → j ≤ T → zA τ' 22 j = nI j ∧ zA τ' 19 j = 0 ∧ zA τ' 20 j = 0 ∧ zA τ' 21 j = (if j < T then 1 else 0) ∧ zA τ' 23 j = (if j < T then 1 else 0)) ∧ zfr [] [19, 20, 21, 22, 23] [] τ τ')
    (fun m a hP => by
      obtain ⟨j, τ1, rfl, hj1, hj, rfl, h1, h3⟩ := hP
      unfold fX10_lay_L2_2 fX10_lay_L2_43
      dsimp only
      by_cases c : j = T + 1
      · right
        rw [c, if_pos (nI_lt (show T < T + 1 by omega) (by omega))]
        exact ⟨_, rfl, fun k k1 k2 => h1 k k1 (by omega), h3⟩
      · left
        have hj7 : j < 7 := by omega
        rw [if_neg (show ¬ nI T < nI j from fun q => by rw [nI_ltI (by omega) (by omega)] at q; omega)]
        simp only [zg_in hj7 (show 7 < 2 ^ 31 by decide), zg_in (show j < 8 by omega) (show 8 < 2 ^ 31 by decide), nI_clamp (show j < 2 ^ 31 by omega)]
        rw [nI_1]
        have key : ∀ v : Int32, v = (if j < T then 1 else 0) → ∃ a' m', m' < T + 1 - j ∧ (some (Sum.inl (nI (j + 1), sA (sA (sA (sA (sA τ1 22 (upd (zA τ1 22) j (nI j))) 19 (upd (zA τ1 19) j 0)) 20 (upd (zA τ1 20) j 0)) 21 (upd (zA (sA (sA (sA τ1 22 (upd (zA τ1 22) j (nI j))) 19 (upd (zA τ1 19) j 0)) 20 (upd (zA τ1 20) j 0)) 21) j v)) 23 (upd (zA (sA (sA (sA τ1 22 (upd (zA τ1 22) j (nI j))) 19 (upd (zA τ1 19) j 0)) 20 (upd (zA τ1 20) j 0)) 23) j (upd (zA (sA (sA (sA τ1 22 (upd (zA τ1 22) j (nI j))) 19 (upd (zA τ1 19) j 0)) 20 (upd (zA τ1 20) j 0)) 21) j v j)))) : Option ((Int32 × zS) ⊕ zS)) = some (.inl a') ∧ ∃ j τ1, a' = (nI j, τ1) ∧ 1 ≤ j ∧ j ≤ T + 1 ∧ m' = T + 1 - j ∧ (∀ k, 1 ≤ k → k < j → zA τ1 22 k = nI k ∧ zA τ1 19 k = 0 ∧ zA τ1 20 k = 0 ∧ zA τ1 21 k = (if k < T then 1 else 0) ∧ zA τ1 23 k = (if k < T then 1 else 0)) ∧ zfr [] [19, 20, 21, 22, 23] [] τ τ1 := by
          intro v hv
          refine ⟨_, T + 1 - (j + 1), by omega, rfl, j + 1, _, rfl, by omega, by omega, rfl, fun k k1 hk => ?_, zfr_A (by decide) (zfr_A (by decide) (zfr_A (by decide) (zfr_A (by decide) (zfr_A (by decide) h3))))⟩
          show upd (zA τ1 22) j (nI j) k = _ ∧ upd (zA τ1 19) j 0 k = _ ∧ upd (zA τ1 20) j 0 k = _ ∧ upd (zA τ1 21) j v k = _ ∧ upd (zA τ1 23) j (upd (zA τ1 21) j v j) k = _
          rw [upd_at, upd_at, upd_at, upd_at, upd_at, upd_at]
          by_cases q : k = j
          · rw [if_pos q, if_pos q, if_pos q, if_pos q, if_pos q, if_pos rfl, hv, q]
            exact ⟨rfl, rfl, rfl, rfl, rfl⟩
          · rw [if_neg q, if_neg q, if_neg q, if_neg q, if_neg q]
            exact h1 k k1 (by omega)
        by_cases d2 : T ≤ j
        · rw [if_pos (nI_le d2 (by omega))]
          exact key 0 (by rw [if_neg (by omega)])
        · rw [if_neg (fun q => d2 ((nI_leI (by omega) (by omega)).mp q))]
          exact key 1 (by rw [if_pos (by omega)]))
    n T (nI 1, τ) (by omega) ⟨1, τ, rfl, by omega, by omega, by omega, fun k k1 hk => absurd hk (by omega), zfr_r⟩
  obtain ⟨τ', h1, h2, h3⟩ := hlp
  exact ⟨τ', h1, h2, h3⟩
