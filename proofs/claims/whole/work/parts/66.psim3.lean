/-! width -/
theorem j_n0 {cm per w : Nat} {cell : Nat → Nat → Int64} {desk : Nat → Int64} : JN cm per w 0 [] [] cell desk := by
  have e : nmR per w cell [] (([] : List Nat).length * per) ++ nmD w 0 desk ++ ([] : List (List Nat × Nat)).flatMap (fun r => nmR per w cell r.1 r.2) = [] := by
    unfold nmR nmD
    simp
  unfold JN
  rw [e]
  exact ⟨List.nodup_nil, fun x hx => absurd hx List.not_mem_nil⟩
theorem nI1_nlt : ¬ (1 : Int32) < nI 1 := by decide
theorem n0_nlt {α : Type} {rs : List α} (h : rs = []) : ¬ (0 : Int32) < nI rs.length := by rw [h]; exact (show ¬ (0 : Int32) < nI 0 by decide)
theorem s_width {n nb sz mm : Nat} (hnb : nb ≤ 200) (hs5 : 5 ≤ sz) (hsz : sz ≤ 64) : sim_width n nb sz mm (zJ9 nb sz mm) := by
  intro jj σ τ o a1 hj9 hJ
  obtain ⟨cm, hcm, w, od, kn, inp, rs, fs, h⟩ := hJ
  have hC := h.2.2.2.2.2.2.2.2.2.1
  have hM := h.2.2.2.2.2.2.2.2.2.2.1
  have hB := h.2.2.2.2.2.2.2.2.2.2.2.1
  have hoff := h.2.2.2.2.2.1
  have hmany := j_many hB
  have hper := p_per (w := w) hs5 h.2.1.2.1
  have hple : sz / (w + 1) ≤ 64 := Nat.le_trans (Nat.div_le_self _ _) hsz
  have hod := h.2.2.2.2.1.2.1
  have hprod : inp.length * (sz / (w + 1)) ≤ 200 * 64 := Nat.mul_le_mul (by omega) hple
  have hheld : fX2_heldRecords_0 n nb sz mm σ = some (nI (inp.length * (sz / (w + 1)) + od)) := by
    unfold fX2_heldRecords_0 fX6_size_0
    show some (zI σ 17 * zI σ 11 + zI σ 12) = _
    rw [h.2.2.2.2.2.2.2.2.1.1, h.2.1.2.2.2.2.2, h.2.2.2.2.1.2.2.2.1, nI_mul, nI_add]
  have hc0 : zA τ 5 (Int32.toNatClampNeg 0) + zI τ 5 = nI (inp.length * (sz / (w + 1)) + od) := by
    rw [show zA τ 5 (Int32.toNatClampNeg 0) = nI (inp.length * (sz / (w + 1))) from hM.2.2.2.2.2.2.2.2.2.1, h.2.2.2.2.1.2.2.1, nI_add]
  by_cases c1 : 1 ≤ a1 ∧ a1 ≤ 4
  · have hin : fX10_isIn_0 n zσ0 a1 1 4 = some 1 := m_isIn_y c1.1 c1.2
    by_cases c2 : zI σ 7 = 0
    · by_cases c3 : rs = [] ∧ inp.length * (sz / (w + 1)) + od = 0
      · obtain ⟨hrs, h0⟩ := c3
        have hod0 : od = 0 := by omega
        have hinp : inp = [] := by
          cases e : inp with
          | nil => rfl
          | cons a t =>
            rw [e] at h0
            have := Nat.le_mul_of_pos_left (sz / (w + 1)) (show 0 < (a :: t).length from Nat.succ_pos _)
            omega
        subst hrs; subst hod0; subst hinp
        obtain ⟨w', hw1, hw2, rfl⟩ : ∃ w', 1 ≤ w' ∧ w' ≤ 4 ∧ a1 = nI w' := by
          have q1 := Int32.le_iff_toInt_le.mp c1.1
          have q2 := Int32.le_iff_toInt_le.mp c1.2
          rw [show (1 : Int32).toInt = 1 by decide] at q1
          rw [show (4 : Int32).toInt = 4 by decide] at q2
          obtain ⟨j, hj, rfl⟩ := nI_of (x := a1) (by rw [Int32.lt_iff_toInt_lt, show (0 : Int32).toInt = 0 by decide]; omega)
          rw [nI_toInt hj] at q1 q2
          exact ⟨j, by omega, by omega, rfl⟩
        have hp1 := p_per (w := w') hs5 hw2
        have hp2 : sz / (w' + 1) ≤ 64 := Nat.le_trans (Nat.div_le_self _ _) hsz
        have hwi : fX9_within_0 n zσ0 (nI w') 1 4 = some (nI w') := by
          unfold fX9_within_0
          rw [show (1 : Int32) = nI 1 from rfl, show (4 : Int32) = nI 4 from rfl, if_neg (nI_nlt (by omega) (by omega))]
          by_cases e : w' = 1
          · rw [e, if_neg (nI_nlt (Nat.le_refl _) (by omega))]
          · rw [if_pos (nI_lt (by omega) (by omega))]
        have hre : fX5_restart_0 n nb sz mm σ (nI w') = some (sI (sI (sI (sI σ 9 (nI w')) 10 (nI (w' + 1))) 11 (nI (sz / (w' + 1)))) 8 0) := by
          unfold fX5_restart_0
          rw [zb_s hwi, nI_1, if_pos (show (1 : Int32) < nI (w' + 1) from nI_lt (a := 1) (by omega) (by omega)), zg_t (znz_nI (by omega) (by omega)), h.1.2.2.2.1, nI_div (by omega) (by omega)]
          by_cases e : sz / (w' + 1) = 1
          · rw [e, if_neg nI1_nlt]
            rfl
          · rw [if_pos (show (1 : Int32) < nI (sz / (w' + 1)) from nI_lt (a := 1) (by omega) (by omega))]
        have hf : fX9_width_0 n nb sz mm σ (nI w') = some (.inr (), sI (sI (sI (sI σ 9 (nI w')) 10 (nI (w' + 1))) 11 (nI (sz / (w' + 1)))) 8 0) := by
          unfold fX9_width_0 fX9_needPower_0 fX6_size_0
          rw [if_neg (i_nlt.mpr c1.1), if_pos c1.2, if_pos c2]
          show (if 0 < zI σ 32 then _ else _) = _
          rw [hC.1, if_neg (n0_nlt rfl), zb_s hheld, if_pos (show nI (([] : List Nat).length * (sz / (w + 1)) + 0) ≤ 0 from nI_le (b := 0) (by simp) (by omega)), zb_s hre]
        have hm : fX10_width_0 n τ (nI w') = some (sI (sI (sI τ 0 0) 6 (nI w')) 7 0) := by
          unfold fX10_width_0 fX10_width_47
          rw [zb_s hin, if_neg (by decide), hoff.1, if_pos c2, hM.1, if_neg (n0_nlt rfl), zg_t (by decide), hc0, if_pos (show nI (([] : List Nat).length * (sz / (w + 1)) + 0) ≤ 0 from nI_le (b := 0) (by simp) (by omega)), if_pos (by decide)]
        refine ⟨_, _, _, _, _, hf, rfl, hm, rfl, cm, by omega, w', 0, 0, [], [], fs, h.1, ⟨hw1, hw2, rfl, rfl, rfl, rfl⟩, ⟨by omega, rfl, rfl, fun k hk => absurd hk (by omega), fun k hk => absurd hk (by omega), fun i j _ hj => absurd hj (by omega)⟩, h.2.2.2.1, ⟨h.2.2.2.2.1.1, by omega, h.2.2.2.2.1.2.2⟩, hoff, h.2.2.2.2.2.2.1, h.2.2.2.2.2.2.2.1, h.2.2.2.2.2.2.2.2.1, hC, ?_, ⟨hB.1, hB.2.1, fun r hr => absurd hr List.not_mem_nil⟩, j_n0⟩
        have h8 := hM.2.2.2.2.2.2.2
        have e1 : ([] : List Nat).length * (sz / (w + 1)) = 0 := by simp
        have e2 : ([] : List Nat).length * (sz / (w' + 1)) = 0 := by simp
        rw [e1] at h8
        refine ⟨hM.1, hM.2.1, hM.2.2.1, hM.2.2.2.1, hM.2.2.2.2.1, hM.2.2.2.2.2.1, hM.2.2.2.2.2.2.1, ?_⟩
        rw [e2]
        exact h8
      · have hf : fX9_width_0 n nb sz mm σ a1 = some (.inl "java/lang/IllegalStateException", σ) := by
          unfold fX9_width_0 fX9_needPower_0 fX6_size_0 fX9_width_44
          rw [if_neg (i_nlt.mpr c1.1), if_pos c1.2, if_pos c2]
          show (if 0 < zI σ 32 then _ else _) = _
          rw [hC.1]
          by_cases e : rs = []
          · have hx : ¬ inp.length * (sz / (w + 1)) + od = 0 := fun q => c3 ⟨e, q⟩
            rw [if_neg (n0_nlt e), zb_s hheld, if_neg (nI_nle (by omega) (by omega))]
          · have : 0 < rs.length := List.length_pos_iff.mpr e
            rw [if_pos (show (0 : Int32) < nI rs.length from nI_lt (a := 0) this (by omega))]
        have hm : fX10_width_0 n τ a1 = some (sI τ 0 2) := by
          unfold fX10_width_0 fX10_width_42 fX10_width_47
          rw [zb_s hin, if_neg (by decide), hoff.1, if_pos c2, hM.1]
          by_cases e : rs = []
          · have hx : ¬ inp.length * (sz / (w + 1)) + od = 0 := fun q => c3 ⟨e, q⟩
            rw [if_neg (n0_nlt e), zg_t (by decide), hc0, if_neg (nI_nle (by omega) (by omega)), if_neg (by decide)]
          · have : 0 < rs.length := List.length_pos_iff.mpr e
            rw [if_pos (show (0 : Int32) < nI rs.length from nI_lt (a := 0) this (by omega)), if_neg (by decide)]
        exact ⟨_, _, _, _, _, hf, rfl, hm, rfl, cm, by omega, w, od, kn, inp, rs, fs, h⟩
    · have hf : fX9_width_0 n nb sz mm σ a1 = some (.inl "java/lang/IllegalStateException", σ) := by
        unfold fX9_width_0 fX9_needPower_0
        rw [if_neg (i_nlt.mpr c1.1), if_pos c1.2, if_neg c2]
        rfl
      have hm : fX10_width_0 n τ a1 = some (sI τ 0 2) := by
        unfold fX10_width_0 fX10_width_42 fX10_width_47
        rw [zb_s hin, if_neg (by decide), hoff.1, if_neg c2, if_neg (by decide)]
      exact ⟨_, _, _, _, _, hf, rfl, hm, rfl, cm, by omega, w, od, kn, inp, rs, fs, h⟩
  · have hf : fX9_width_0 n nb sz mm σ a1 = some (.inl "java/lang/IllegalArgumentException", σ) := by
      unfold fX9_width_0 fX9_width_10
      by_cases c2 : a1 < 1
      · rw [if_pos c2]
      · rw [if_neg c2, if_neg (fun q => c1 ⟨i_nlt.mp c2, q⟩)]
    have hm : fX10_width_0 n τ a1 = some (sI τ 0 1) := by
      unfold fX10_width_0 fX10_width_47
      rw [zb_s (m_isIn_n c1), if_pos rfl, if_neg (by decide)]
    exact ⟨_, _, _, _, _, hf, rfl, hm, rfl, cm, by omega, w, od, kn, inp, rs, fs, h⟩
