theorem o_at (o : Nat → Int64) (v : Int64) : vp_updL o (Int32.toNatClampNeg 0) v (Int32.toNatClampNeg 0) = v := by
  rw [updL_at, if_pos rfl]
theorem i_pm {x : Int32} {m : Nat} (hm : m < 2 ^ 30) : x ≤ nI m - 1 ↔ x < nI m := by
  rw [Int32.le_iff_toInt_le, Int32.lt_iff_toInt_lt, Int32.toInt_sub, nI_toInt (by omega), show (1 : Int32).toInt = 1 by decide, Int.bmod_eq_of_le (by omega) (by omega)]
  omega
theorem s_up {n nb sz mm : Nat} : sim_up n nb sz mm (zJ9 nb sz mm) := by
  intro jj σ τ o hj9 hJ
  obtain ⟨cm, hcm, w, od, kn, inp, rs, fs, h⟩ := hJ
  have hoff := h.2.2.2.2.2.1
  have hC := h.2.2.2.2.2.2.2.2.2.1
  have hM := h.2.2.2.2.2.2.2.2.2.2.1
  by_cases c2 : zI σ 7 = 0
  · have hf : fX9_up_0 n nb sz mm σ = some (.inl "java/lang/IllegalStateException", σ) := by unfold fX9_up_0; rw [if_pos c2]
    have hm : fX10_up_0 n τ = some (0, sI τ 0 1) := by unfold fX10_up_0 fX10_up_13; rw [hoff.1, if_pos c2, if_neg (by decide)]
    exact ⟨_, _, _, _, _, _, hf, rfl, hm, rfl, fun q => absurd q (by decide), cm, by omega, w, od, kn, inp, rs, fs, h⟩
  · have hf : fX9_up_0 n nb sz mm σ = some (.inr (zI σ 32), sI (sI σ 7 0) 6 (-1)) := by unfold fX9_up_0 fX6_size_0; rw [if_neg c2]; rfl
    have hm : fX10_up_0 n τ = some (zI τ 4, sI (sI (sI τ 0 0) 16 0) 15 (-1)) := by unfold fX10_up_0 fX10_up_13; rw [hoff.1, if_neg c2, if_pos (by decide)]
    refine ⟨_, _, _, _, _, _, hf, rfl, hm, rfl, fun _ => by rw [o_at, hC.1, hM.1], cm, by omega, w, od, kn, inp, rs, fs, h.1, h.2.1, h.2.2.1, h.2.2.2.1, h.2.2.2.2.1, ⟨rfl, Or.inl rfl⟩, ?_, h.2.2.2.2.2.2.2⟩
    have hd := h.2.2.2.2.2.2.1
    have e1 : dM nb sz (sI (sI (sI τ 0 0) 16 0) 15 (-1)) = ((dM nb sz τ).1, (dM nb sz τ).2.1, (dM nb sz τ).2.2.1, (dM nb sz τ).2.2.2.1, (dM nb sz τ).2.2.2.2.1, (dM nb sz τ).2.2.2.2.2.1, -1) := rfl
    have e2 : dC nb sz (sI (sI σ 7 0) 6 (-1)) = ((dC nb sz σ).1, (dC nb sz σ).2.1, (dC nb sz σ).2.2.1, (dC nb sz σ).2.2.2.1, (dC nb sz σ).2.2.2.2.1, (dC nb sz σ).2.2.2.2.2.1, -1) := rfl
    rw [e1, e2, hd]
theorem s_mode {n nb sz mm : Nat} : sim_mode n nb sz mm (zJ9 nb sz mm) := by
  intro jj σ τ o a1 hj9 hJ
  obtain ⟨cm, hcm, w, od, kn, inp, rs, fs, h⟩ := hJ
  have hoff := h.2.2.2.2.2.1
  have hhow := h.2.2.2.1
  by_cases c1 : 0 ≤ a1 ∧ a1 ≤ 2
  · by_cases c2 : zI σ 7 = 0
    · have hf : fX9_mode_0 n nb sz mm σ a1 = some (.inr (zI σ 0), sI σ 0 a1) := by
        unfold fX9_mode_0 fX9_needPower_0
        rw [if_neg (i_nlt.mpr c1.1), if_pos c1.2, if_pos c2]
        rfl
      have hm : fX10_mode_0 n τ a1 = some (zI τ 8, sI (sI τ 0 0) 8 a1) := by
        unfold fX10_mode_0 fX10_mode_26
        rw [zb_s (m_isIn _ _ _ _ _), if_pos c1, if_neg (by decide), hoff.1, if_pos c2, if_pos (by decide)]
      refine ⟨_, _, _, _, _, _, hf, rfl, hm, rfl, fun _ => by rw [o_at, hhow.1], cm, by omega, w, od, kn, inp, rs, fs, h.1, h.2.1, h.2.2.1, ⟨rfl, ?_⟩, h.2.2.2.2⟩
      show a1 = 0 ∨ a1 = 1 ∨ a1 = 2
      have q1 := Int32.le_iff_toInt_le.mp c1.1
      have q2 := Int32.le_iff_toInt_le.mp c1.2
      rw [show (0 : Int32).toInt = 0 by decide] at q1
      rw [show (2 : Int32).toInt = 2 by decide] at q2
      rcases (show a1.toInt = 0 ∨ a1.toInt = 1 ∨ a1.toInt = 2 by omega) with e | e | e
      · exact Or.inl (Int32.toInt_inj.mp e)
      · exact Or.inr (Or.inl (Int32.toInt_inj.mp e))
      · exact Or.inr (Or.inr (Int32.toInt_inj.mp e))
    · have hf : fX9_mode_0 n nb sz mm σ a1 = some (.inl "java/lang/IllegalStateException", σ) := by
        unfold fX9_mode_0 fX9_needPower_0
        rw [if_neg (i_nlt.mpr c1.1), if_pos c1.2, if_neg c2]
        rfl
      have hm : fX10_mode_0 n τ a1 = some (0, sI τ 0 2) := by
        unfold fX10_mode_0 fX10_mode_26
        rw [zb_s (m_isIn _ _ _ _ _), if_pos c1, if_neg (by decide), hoff.1, if_neg c2, if_neg (by decide)]
      exact ⟨_, _, _, _, _, _, hf, rfl, hm, rfl, fun q => absurd q (by decide), cm, by omega, w, od, kn, inp, rs, fs, h⟩
  · have hf : fX9_mode_0 n nb sz mm σ a1 = some (.inl "java/lang/IllegalArgumentException", σ) := by
      unfold fX9_mode_0 fX9_mode_9
      by_cases c2 : a1 < 0
      · rw [if_pos c2]
      · rw [if_neg c2, if_neg (fun q => c1 ⟨i_nlt.mp c2, q⟩)]
    have hm : fX10_mode_0 n τ a1 = some (0, sI τ 0 1) := by
      unfold fX10_mode_0 fX10_mode_26
      rw [zb_s (m_isIn _ _ _ _ _), if_neg c1, if_pos rfl, if_neg (by decide)]
    exact ⟨_, _, _, _, _, _, hf, rfl, hm, rfl, fun q => absurd q (by decide), cm, by omega, w, od, kn, inp, rs, fs, h⟩
theorem s_runs {n nb sz mm : Nat} : sim_runs n nb sz mm (zJ9 nb sz mm) := by
  intro jj σ τ hj9 hJ
  obtain ⟨cm, hcm, w, od, kn, inp, rs, fs, h⟩ := hJ
  have hC := h.2.2.2.2.2.2.2.2.2.1
  have hM := h.2.2.2.2.2.2.2.2.2.2.1
  refine ⟨zI σ 32, sI τ 0 0, rfl, ?_, cm, by omega, w, od, kn, inp, rs, fs, h⟩
  show some (zI τ 4, sI τ 0 0) = _
  rw [hC.1, hM.1]
theorem s_count {n nb sz mm : Nat} (hn : 300 < n) (hnb : nb ≤ 200) (hsz : sz ≤ 64) : sim_count n nb sz mm (zJ9 nb sz mm) := by
  intro jj σ τ o a1 hj9 hJ
  obtain ⟨cm, hcm, w, od, kn, inp, rs, fs, h⟩ := hJ
  have hd := h.2.2.2.2.2.2.1
  have d2 : zI τ 10 = zI σ 2 := congrArg (fun d : zD => d.2.2.1) hd
  have d3 : zI τ 11 = zI σ 3 := congrArg (fun d : zD => d.2.2.2.1) hd
  have d4 : zI τ 12 = zI σ 4 := congrArg (fun d : zD => d.2.2.2.2.1) hd
  have d5 : zI τ 13 = zI σ 5 := congrArg (fun d : zD => d.2.2.2.2.2.1) hd
  have du : (dM nb sz τ).2.1 = (dC nb sz σ).2.1 := congrArg (fun d : zD => d.2.1) hd
  have hfree : ∀ v, fX10_freeBlocks_0 n (sI τ 0 v) = some (dFc (dC nb sz σ).2.1 nb) := fun v => by
    rw [m_freeBlocks (τ := sI τ 0 v) (nb := nb) (sz := sz) hn h.1.1 hnb, ← du]
    rfl
  have hper : ∀ v, fX10_per_0 n (sI τ 0 v) = some (nI (sz / (w + 1))) := fun v => m_per hsz h.2.1.2.1 h.1.2.1 h.2.1.2.2.1
  have ok : ∀ v : Int32, fX9_count_0 n nb sz mm σ a1 = some (.inr v) → fX10_count_0 n τ a1 = some (v, sI τ 0 0) → ∃ (r1 : String ⊕ Int32) (k : Int32) (o' : Nat → Int64) (rb : Int32) (τ' : zS), fX9_count_0 n nb sz mm σ a1 = some r1 ∧ fL_count r1 o = some (k, o') ∧ fX10_count_0 n τ a1 = some (rb, τ') ∧ fX10_thrown_0 n τ' = some k ∧ (k = 0 → o' (Int32.toNatClampNeg 0) = rb.toInt64) ∧ zJ9 nb sz mm (jj + 1) σ τ' := fun v hf hm => ⟨_, _, _, _, _, hf, rfl, hm, rfl, fun _ => o_at _ _, cm, by omega, w, od, kn, inp, rs, fs, h⟩
  by_cases c1 : 0 ≤ a1 ∧ a1 ≤ 11
  · have hm0 : fX10_count_0 n τ a1 = fX10_count_16 n τ a1 0 := by
      unfold fX10_count_0
      rw [zb_s (m_isIn _ _ _ _ _), if_pos c1, if_neg (by decide)]
    have q1 := Int32.le_iff_toInt_le.mp c1.1
    have q2 := Int32.le_iff_toInt_le.mp c1.2
    rw [show (0 : Int32).toInt = 0 by decide] at q1
    rw [show (11 : Int32).toInt = 11 by decide] at q2
    rcases (show a1.toInt = 0 ∨ a1.toInt = 1 ∨ a1.toInt = 2 ∨ a1.toInt = 3 ∨ a1.toInt = 4 ∨ a1.toInt = 5 ∨ a1.toInt = 6 ∨ a1.toInt = 7 ∨ a1.toInt = 8 ∨ a1.toInt = 9 ∨ a1.toInt = 10 ∨ a1.toInt = 11 by omega) with e | e | e | e | e | e | e | e | e | e | e | e
    · obtain rfl : a1 = 0 := Int32.toInt_inj.mp e
      exact ok (zI σ 2) rfl (by rw [hm0, ← d2]; rfl)
    · obtain rfl : a1 = 1 := Int32.toInt_inj.mp e
      exact ok (zI σ 3) rfl (by rw [hm0, ← d3]; rfl)
    · obtain rfl : a1 = 2 := Int32.toInt_inj.mp e
      exact ok (zI σ 4) rfl (by rw [hm0, ← d4]; rfl)
    · obtain rfl : a1 = 3 := Int32.toInt_inj.mp e
      exact ok (zI σ 5) rfl (by rw [hm0, ← d5]; rfl)
    · obtain rfl : a1 = 4 := Int32.toInt_inj.mp e
      exact ok (dFc (dC nb sz σ).2.1 nb) (by show zb _ _ = _; rw [zb_s (c_freeBlocks hn hnb)]) (by rw [hm0]; show zb _ _ = _; rw [zb_s (hfree 0)])
    · obtain rfl : a1 = 5 := Int32.toInt_inj.mp e
      exact ok (zI σ 13) rfl (by rw [hm0, ← h.2.2.2.2.1.1]; rfl)
    · obtain rfl : a1 = 6 := Int32.toInt_inj.mp e
      exact ok (nI (sz / (w + 1))) (by rw [← h.2.1.2.2.2.2.2]; rfl) (by rw [hm0]; show zb _ _ = _; rw [zb_s (hper 0)])
    · obtain rfl : a1 = 7 := Int32.toInt_inj.mp e
      exact ok (nI od) (by rw [← h.2.2.2.2.1.2.2.2.1]; rfl) (by rw [hm0, ← h.2.2.2.2.1.2.2.1]; rfl)
    · obtain rfl : a1 = 8 := Int32.toInt_inj.mp e
      exact ok (nI kn) (by rw [← h.2.2.1.2.2.1]; rfl) (by rw [hm0, ← h.2.2.1.2.1]; rfl)
    · obtain rfl : a1 = 9 := Int32.toInt_inj.mp e
      exact ok (zI σ 0) rfl (by rw [hm0, ← h.2.2.2.1.1]; rfl)
    · obtain rfl : a1 = 10 := Int32.toInt_inj.mp e
      exact ok (nI w) (by rw [← h.2.1.2.2.2.1]; rfl) (by rw [hm0, ← h.2.1.2.2.1]; rfl)
    · obtain rfl : a1 = 11 := Int32.toInt_inj.mp e
      by_cases c2 : zI σ 7 = 0
      · exact ok 0 (by show (if zI σ 7 = 0 then _ else _) = _; rw [if_pos c2]) (by rw [hm0]; show (if zI τ 16 = 0 then _ else _) = _; rw [h.2.2.2.2.2.1.1, if_pos c2])
      · exact ok 1 (by show (if zI σ 7 = 0 then _ else _) = _; rw [if_neg c2]) (by rw [hm0]; show (if zI τ 16 = 0 then _ else _) = _; rw [h.2.2.2.2.2.1.1, if_neg c2])
  · have ne : ∀ k : Int32, 0 ≤ k → k ≤ 11 → ¬ a1 = k := fun k k1 k2 e => c1 (by rw [e]; exact ⟨k1, k2⟩)
    have hf : fX9_count_0 n nb sz mm σ a1 = some (.inl "java/lang/IllegalArgumentException") := by
      unfold fX9_count_0
      rw [if_neg (ne 0 (by decide) (by decide)), if_neg (ne 1 (by decide) (by decide)), if_neg (ne 2 (by decide) (by decide)), if_neg (ne 3 (by decide) (by decide)), if_neg (ne 4 (by decide) (by decide)), if_neg (ne 5 (by decide) (by decide)), if_neg (ne 6 (by decide) (by decide)), if_neg (ne 7 (by decide) (by decide)), if_neg (ne 8 (by decide) (by decide)), if_neg (ne 9 (by decide) (by decide)), if_neg (ne 10 (by decide) (by decide)), if_neg (ne 11 (by decide) (by decide))]
    have hm : fX10_count_0 n τ a1 = some (0, sI τ 0 1) := by
      unfold fX10_count_0 fX10_count_16
      rw [zb_s (m_isIn _ _ _ _ _), if_neg c1, if_pos rfl, if_neg (ne 0 (by decide) (by decide)), if_neg (ne 1 (by decide) (by decide)), if_neg (ne 2 (by decide) (by decide)), if_neg (ne 3 (by decide) (by decide)), if_neg (ne 4 (by decide) (by decide)), if_neg (ne 5 (by decide) (by decide)), if_neg (ne 6 (by decide) (by decide)), if_neg (ne 7 (by decide) (by decide)), if_neg (ne 8 (by decide) (by decide)), if_neg (ne 9 (by decide) (by decide)), if_neg (ne 10 (by decide) (by decide)), if_neg (ne 11 (by decide) (by decide))]
    exact ⟨_, _, _, _, _, hf, rfl, hm, rfl, fun q => absurd q (by decide), cm, by omega, w, od, kn, inp, rs, fs, h⟩
