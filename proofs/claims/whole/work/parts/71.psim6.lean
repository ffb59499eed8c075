/-! told -/
theorem s_told {n nb sz mm : Nat} (hn : 300 < n) (hnb : nb ≤ 200) (hs5 : 5 ≤ sz) (hsz : sz ≤ 64) : sim_told n nb sz mm (zJ9 nb sz mm) := by
  intro jj σ τ o a1 a2 a3 hj9 hJ
  obtain ⟨cm, hcm, w, od, kn, inp, rs, fs, h⟩ := hJ
  have hC := h.2.2.2.2.2.2.2.2.2.1
  have hM := h.2.2.2.2.2.2.2.2.2.2.1
  have hB := h.2.2.2.2.2.2.2.2.2.2.2.1
  have hoff := h.2.2.2.2.2.1
  have hmany := j_many hB
  have hw4 := h.2.1.2.1
  have hper := p_per (w := w) hs5 hw4
  have hple : sz / (w + 1) ≤ 64 := Nat.le_trans (Nat.div_le_self _ _) hsz
  have fin1 : fX9_told_0 n nb sz mm σ a1 a2 a3 = some (.inl "java/lang/IndexOutOfBoundsException", σ) → fX10_told_0 n τ a1 a2 a3 = some (0, sI τ 0 1) → ∃ (r1 : String ⊕ Int64) (σ' : zS) (k : Int32) (o' : Nat → Int64) (rb : Int64) (τ' : zS), fX9_told_0 n nb sz mm σ a1 a2 a3 = some (r1, σ') ∧ fL_told r1 o = some (k, o') ∧ fX10_told_0 n τ a1 a2 a3 = some (rb, τ') ∧ fX10_thrown_0 n τ' = some k ∧ (k = 0 → o' (Int32.toNatClampNeg 0) = rb) ∧ zJ9 nb sz mm (jj + 1) σ' τ' := fun hf hm => ⟨_, _, _, _, _, _, hf, rfl, hm, rfl, fun q => absurd q (by decide), cm, by omega, w, od, kn, inp, rs, fs, h⟩
  have h31 : fX10_told_31 n τ a1 a2 a3 0 = some (0, sI τ 0 1) := by
    unfold fX10_told_31 fX10_told_63 fX10_told_64 fX10_told_88
    rw [if_pos rfl, if_pos rfl, if_neg (by decide)]
  by_cases c1 : 0 ≤ a1 ∧ a1 < nI rs.length
  · obtain ⟨j, hj, rfl⟩ := i_of c1.1 c1.2 (by omega)
    obtain ⟨r, hr⟩ : ∃ r, rs[j]? = some r := ⟨rs[j], List.getElem?_eq_getElem hj⟩
    obtain ⟨f, hf0⟩ : ∃ f, fs[j]? = some f := ⟨fs[j]'(by rw [hM.2.1]; exact hj), List.getElem?_eq_getElem _⟩
    have hrm := List.mem_of_getElem? hr
    have hfm := hM.2.2.2.1 f (List.mem_of_getElem? hf0)
    have hblk := j_blk hB hrm
    have hrun := hB.2.2 r hrm
    have hcnt : r.2 ≤ 200 * 64 := Nat.le_trans hrun.2.1 (Nat.mul_le_mul (by omega) hple)
    have hhd := (hB.2.1 _ (List.mem_append_right _ (j_len hB r hrm))).1
    have hrs : rs ≠ [] := fun e => by rw [e] at hj; exact absurd hj (by simp)
    have hin1 : fX10_isIn_0 n zσ0 (nI j) 0 (nI rs.length - 1) = some 1 := m_isIn_y c1.1 ((i_pm (by omega)).mpr c1.2)
    have hneed : fX9_needRun_0 n nb sz mm σ (nI j) = some (.inr ()) := by
      unfold fX9_needRun_0 fX6_size_0
      rw [if_neg (nI_nn (by omega))]
      show (if nI j < zI σ 32 then _ else _) = _
      rw [hC.1, if_pos c1.2]
    have hget : fX6_get_0 n nb (zrv (zI σ 32) (zA σ 16)) (nI j) = some (nI (r.1.headD 0)) := by
      rw [c_get (m := rs.length) hC.1 hj (by omega) (by omega), hC.2.1 j r hr]
    have hheld : fX1_heldBy_0 n nb sz mm σ (nI (r.1.headD 0)) = some (nI r.2) := by
      rw [c_heldBy hnb hhd, (hC.2.2 r hrm).2]
    have h0 : fX10_told_0 n τ (nI j) a2 a3 = (if 0 ≤ a3 ∧ a3 ≤ nI w then fX10_told_31 n τ (nI j) a2 a3 1 else fX10_told_31 n τ (nI j) a2 a3 0) := by
      unfold fX10_told_0 fX10_told_30
      rw [hM.1, zb_s hin1, if_neg (by decide), h.2.1.2.2.1]
      by_cases c : 0 ≤ a3 ∧ a3 ≤ nI w
      · rw [zb_s (m_isIn_y c.1 c.2), if_neg (by decide), if_pos c]
      · rw [zb_s (m_isIn_n c), if_pos rfl, if_neg c]
    by_cases c2 : (0 ≤ a2 ∧ a2 < nI r.2) ∧ (0 ≤ a3 ∧ a3 ≤ nI w)
    · obtain ⟨⟨c21, c22⟩, c3⟩ := c2
      obtain ⟨i, hi, rfl⟩ := i_of c21 c22 (by omega)
      obtain ⟨c, hc, rfl⟩ := i_of (m := w + 1) c3.1 (by
        have := Int32.le_iff_toInt_le.mp c3.2
        rw [nI_toInt (by omega)] at this
        rw [Int32.lt_iff_toInt_lt, nI_toInt (by omega)]
        omega) (by omega)
      have hin2 : fX10_isIn_0 n zσ0 (nI i) 0 (nI r.2 - 1) = some 1 := m_isIn_y c21 ((i_pm (by omega)).mpr c22)
      have hF := hM.2.2.2.2.2.2.1 j f r hf0 hr
      have h31' : fX10_told_31 n τ (nI j) (nI i) (nI c) 1 = fX10_told_64 n τ (nI j) (nI i) (nI c) 1 := by
        unfold fX10_told_31
        rw [if_neg (by decide), zg_in (by omega) (by decide), nI_clamp (by omega), hM.2.2.2.2.2.1 j f hf0, zg_in hfm.2 (by decide), nI_clamp (by omega), hF.2.2.1, zb_s hin2, if_neg (by decide)]
      obtain ⟨b, hb⟩ : ∃ b, r.1[i / (sz / (w + 1))]? = some b := ⟨r.1[i / (sz / (w + 1))]'(j_div hper hrun.2.1 hi), List.getElem?_eq_getElem _⟩
      have hbn := hblk.1 b (List.mem_of_getElem? hb)
      have hpin := p_in (sz := sz) (w := w) (i := i) (c := c) hper (by omega)
      by_cases c4 : zI σ 7 = 0
      · have hf : fX9_told_0 n nb sz mm σ (nI j) (nI i) (nI c) = some (.inr ((dC nb sz σ).1 b (i % (sz / (w + 1)) * (w + 1) + c)), lkC σ b) := by
          unfold fX9_told_0 fX9_needPower_0
          rw [zb_s hneed]
          show (if nI i < 0 then _ else _) = _
          rw [if_neg (nI_nn (by omega)), zb_s hget, zb_s hheld, if_neg (i_nle.mpr c22), if_neg (nI_nn (by omega)), h.2.1.2.2.2.1, if_pos c3.2, if_pos c4]
          show zb (fX6_get_0 n nb (zrv (zI σ 32) (zA σ 16)) (nI j)) _ = _
          rw [zb_s hget, zb_s (c_look hn hnb hs5 hsz hw4 h.1.2.2.2.1 h.2.1.2.2.2.2.1 h.2.1.2.2.2.2.2 hrun.1 (hC.2.2 r hrm).1 hblk.1 hblk.2 (by omega) hb (by omega))]
        have hm : fX10_told_0 n τ (nI j) (nI i) (nI c) = some ((dM nb sz τ).1 b (i % (sz / (w + 1)) * (w + 1) + c), lkM (sI τ 0 0) b) := by
          rw [h0, if_pos c3, h31']
          unfold fX10_told_64 fX10_told_88
          rw [if_neg (by decide), hoff.1, if_pos c4, if_pos (by decide), zb_s (m_look (τ := sI τ 0 0) (sz := sz) (w := w) (j := j) hn hnb hs5 hsz hw4 h.1.2.1 h.2.1.2.2.1 (by omega) (hM.2.2.2.2.2.1 j f hf0) hfm.2 hF hblk.1 hblk.2 (by omega) hb), nI_add, zg_in (by omega) (by decide), nI_clamp (by omega), lk_cell]
          show some (zL τ 0 _, _) = some (if b < nb ∧ i % (sz / (w + 1)) * (w + 1) + c < sz then zL τ 0 (64 * b + (i % (sz / (w + 1)) * (w + 1) + c)) else 0, _)
          rw [if_pos ⟨hbn, hpin⟩, Nat.add_assoc]
        refine ⟨_, _, _, _, _, _, hf, rfl, hm, ?_, fun _ => ?_, cm, by omega, w, od, kn, inp, rs, fs, ?_⟩
        · show some (zI (lkM (sI τ 0 0) b) 0) = some 0
          unfold lkM
          by_cases c5 : nI b = zI (sI τ 0 0) 14
          · rw [if_pos c5]; rfl
          · rw [if_neg c5]; rfl
        · rw [o_at, h.2.2.2.2.2.2.1]
        · exact jj_look (τ := sI τ 0 0) hrs h
      · have hf : fX9_told_0 n nb sz mm σ (nI j) (nI i) (nI c) = some (.inl "java/lang/IllegalStateException", σ) := by
          unfold fX9_told_0 fX9_needPower_0
          rw [zb_s hneed]
          show (if nI i < 0 then _ else _) = _
          rw [if_neg (nI_nn (by omega)), zb_s hget, zb_s hheld, if_neg (i_nle.mpr c22), if_neg (nI_nn (by omega)), h.2.1.2.2.2.1, if_pos c3.2, if_neg c4]
          rfl
        have hm : fX10_told_0 n τ (nI j) (nI i) (nI c) = some (0, sI τ 0 2) := by
          rw [h0, if_pos c3, h31']
          unfold fX10_told_64 fX10_told_88
          rw [if_neg (by decide), hoff.1, if_neg c4, if_neg (by decide)]
        exact ⟨_, _, _, _, _, _, hf, rfl, hm, rfl, fun q => absurd q (by decide), cm, by omega, w, od, kn, inp, rs, fs, h⟩
    · refine fin1 ?_ ?_
      · unfold fX9_told_0 fX9_told_43
        rw [zb_s hneed]
        show (if a2 < 0 then _ else _) = _
        by_cases d1 : a2 < 0
        · rw [if_pos d1]
        · rw [if_neg d1, zb_s hget, zb_s hheld]
          by_cases d2 : nI r.2 ≤ a2
          · rw [if_pos d2]
          · rw [if_neg d2]
            by_cases d3 : a3 < 0
            · rw [if_pos d3]
            · rw [if_neg d3, h.2.1.2.2.2.1, if_neg (fun q => c2 ⟨⟨i_nlt.mp d1, i_nle.mp d2⟩, i_nlt.mp d3, q⟩)]
      · rw [h0]
        by_cases d3 : 0 ≤ a3 ∧ a3 ≤ nI w
        · rw [if_pos d3]
          unfold fX10_told_31 fX10_told_63 fX10_told_64 fX10_told_88
          rw [if_neg (by decide), zg_in (by omega) (by decide), nI_clamp (by omega), hM.2.2.2.2.2.1 j f hf0, zg_in hfm.2 (by decide), nI_clamp (by omega), (hM.2.2.2.2.2.2.1 j f r hf0 hr).2.2.1, zb_s (m_isIn_n (fun q => c2 ⟨⟨q.1, (i_pm (by omega)).mp q.2⟩, d3⟩)), if_pos rfl, if_pos rfl, if_neg (by decide)]
        · rw [if_neg d3, h31]
  · refine fin1 ?_ ?_
    · unfold fX9_told_0 fX9_needRun_0 fX9_needRun_15 fX6_size_0
      by_cases c2 : a1 < 0
      · rw [if_pos c2]
        rfl
      · rw [if_neg c2]
        show zb (if a1 < zI σ 32 then _ else _) _ = _
        rw [hC.1, if_neg (fun q => c1 ⟨i_nlt.mp c2, q⟩)]
        rfl
    · unfold fX10_told_0 fX10_told_30
      rw [hM.1, zb_s (m_isIn_n (fun q => c1 ⟨q.1, (i_pm (by omega)).mp q.2⟩)), if_pos rfl, h31]
