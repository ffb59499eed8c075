/-! a record comes: the reference's and the class' -/
def dkR (desk row : Nat → Int64) (at_ w : Nat) (v : Int64) : Nat → Int64 := fun i => if i = at_ + w then v else if at_ ≤ i ∧ i < at_ + w then row (i - at_) else desk i
theorem m_come {n nb sz w od : Nat} {τ : zS} (hn : 300 < n) (hnb : nb ≤ 200) (hs5 : 5 ≤ sz) (hsz : sz ≤ 64) (hw4 : w ≤ 4) (h1 : zI τ 1 = nI nb) (h2 : zI τ 2 = nI sz) (hw : zI τ 6 = nI w) (hod : od < sz / (w + 1)) (h5 : zI τ 5 = nI od) :
    ∃ τ1, zfr [17] [1] [1] τ τ1 ∧ zI τ1 17 = 0 ∧ zL τ1 1 = dkR (zL τ 1) (zL τ 4) (od * (w + 1)) w (zI τ 9).toInt64 ∧ dM nb sz τ1 = dM nb sz τ ∧
    fX10_come_0 n τ = (if od + 1 < sz / (w + 1) then some (1, sI (sI τ1 5 (nI (od + 1))) 9 (zI τ 9 + 1)) else if dLf (dM nb sz τ).2.1 nb 0 = nb then some (0, sI (sI τ1 17 2) 16 0) else if zI τ 15 = 0 then some (0, sI (sI τ1 17 1) 16 1) else zb (fX10_hang_0 n (sI (wrp10M (sI τ1 17 0) (dLf (dM nb sz τ).2.1 nb 0) ((od + 1) * (w + 1))) 16 0) 0 (nI (dLf (dM nb sz τ).2.1 nb 0)) (nI (od + 1))) (fun q => some (1, sI (sI q 5 0) 9 (zI q 9 + 1)))) := by
  have hple := p_perle (sz := sz) (w := w)
  have hod2 : (od + 1) * (w + 1) ≤ sz := Nat.le_trans (Nat.mul_le_mul_right _ hod) hple
  have hod3 : od * (w + 1) + (w + 1) = (od + 1) * (w + 1) := by rw [Nat.add_mul, Nat.one_mul]
  have hdv := Nat.div_le_self sz (w + 1)
  have hat : zI τ 5 * (zI τ 6 + 1) = nI (od * (w + 1)) := by rw [h5, hw, nI_1, nI_mul]
  refine ⟨sA (sI (sL τ 1 (dkR (zL τ 1) (zL τ 4) (od * (w + 1)) w (zI τ 9).toInt64)) 17 0) 1 (fun k => if k < nb then 0 else zA τ 1 k), zfr_A (by decide) (zfr_I (by decide) (zfr_L (by decide) zfr_r)), rfl, rfl, rfl, ?_⟩
  unfold fX10_come_0
  rw [hat, zb_s (m_comeL hn hw4 hw (by omega))]
  have hd : ∀ x : Nat → Int64, vp_updL (fun i => if od * (w + 1) ≤ i ∧ i < od * (w + 1) + w then zL τ 4 (i - od * (w + 1)) else zL τ 1 i) (od * (w + 1) + w) (zI τ 9).toInt64 = dkR (zL τ 1) (zL τ 4) (od * (w + 1)) w (zI τ 9).toInt64 := by
    intro _
    rfl
  rw [show zI (sL τ 1 _) 6 = nI w from hw, nI_add, zg_in (by omega) (by decide), nI_clamp (by omega), sL_sL, show zL (sL τ 1 (fun i => if od * (w + 1) ≤ i ∧ i < od * (w + 1) + w then zL τ 4 (i - od * (w + 1)) else zL τ 1 i)) 1 = (fun i => if od * (w + 1) ≤ i ∧ i < od * (w + 1) + w then zL τ 4 (i - od * (w + 1)) else zL τ 1 i) from rfl, show zI (sL τ 1 _) 9 = zI τ 9 from rfl, hd (zL τ 1)]
  rw [zb_s (m_begin (τ := sL τ 1 (dkR (zL τ 1) (zL τ 4) (od * (w + 1)) w (zI τ 9).toInt64)) (nb := nb) hn h1 hnb)]
  generalize hτ1 : sA (sI (sL τ 1 (dkR (zL τ 1) (zL τ 4) (od * (w + 1)) w (zI τ 9).toInt64)) 17 0) 1 (fun k => if k < nb then 0 else zA (sL τ 1 (dkR (zL τ 1) (zL τ 4) (od * (w + 1)) w (zI τ 9).toInt64)) 1 k) = τ1
  have g1 : zI τ1 1 = nI nb := by rw [← hτ1]; exact h1
  have g2 : zI τ1 2 = nI sz := by rw [← hτ1]; exact h2
  have g6 : zI τ1 6 = nI w := by rw [← hτ1]; exact hw
  have g5 : zI τ1 5 = nI od := by rw [← hτ1]; exact h5
  have g9 : zI τ1 9 = zI τ 9 := by rw [← hτ1]; rfl
  have g15 : zI τ1 15 = zI τ 15 := by rw [← hτ1]; rfl
  have g17 : zI τ1 17 = 0 := by rw [← hτ1]; rfl
  have gd : dM nb sz τ1 = dM nb sz τ := by rw [← hτ1]; rfl
  have e1 : sA (sI (sL τ 1 (dkR (zL τ 1) (zL τ 4) (od * (w + 1)) w (zI τ 9).toInt64)) 17 0) 1 (fun k => if k < nb then 0 else zA τ 1 k) = τ1 := by rw [← hτ1]; rfl
  rw [e1, zb_s (m_per hsz hw4 g2 g6), g5, g9, nI_1]
  by_cases c1 : od + 1 < sz / (w + 1)
  · rw [if_neg (fun q => by rw [nI_leI (by omega) (by omega)] at q; omega), if_pos c1]
  · rw [if_pos (nI_le (by omega) (by omega)), if_neg c1, zb_s (m_write_p10 (sz := sz) (m := od + 1) hn g1 hnb g17 g6 (by omega) (by omega) (by omega)), gd, g15]
    unfold fX10_come_126
    by_cases c2 : dLf (dM nb sz τ).2.1 nb 0 = nb
    · rw [if_pos c2, if_pos c2]
      dsimp only
      rw [if_neg (show ¬ zI (sI τ1 17 2) 17 = 1 from (by decide : ¬ (2 : Int32) = 1)), zg_t (by decide), if_neg (show ¬ zI (sI τ1 17 2) 17 ≤ 0 from (by decide : ¬ (2 : Int32) ≤ 0))]
    · rw [if_neg c2, if_neg c2]
      by_cases c3 : zI τ 15 = 0
      · rw [if_pos c3, if_pos c3]
        dsimp only
        rw [if_pos (show zI (sI τ1 17 1) 17 = 1 from (by decide : (1 : Int32) = 1)), zg_t (by decide), if_neg (show ¬ zI (sI τ1 17 1) 17 ≤ 0 from (by decide : ¬ (1 : Int32) ≤ 0))]
      · rw [if_neg c3, if_neg c3]
        dsimp only
        rw [if_neg (show ¬ zI (wrp10M (sI τ1 17 0) (dLf (dM nb sz τ).2.1 nb 0) ((od + 1) * (w + 1))) 17 = 1 from (by decide : ¬ (0 : Int32) = 1)), zg_t (by decide), if_pos (show zI (wrp10M (sI τ1 17 0) (dLf (dM nb sz τ).2.1 nb 0) ((od + 1) * (w + 1))) 17 ≤ 0 from (by decide : (0 : Int32) ≤ 0)), show zI (wrp10M (sI τ1 17 0) (dLf (dM nb sz τ).2.1 nb 0) ((od + 1) * (w + 1))) 5 = nI od from g5, nI_1]
theorem c_bring {n nb sz mm w od : Nat} {σ : zS} (hn : 300 < n) (hnb : nb ≤ 200) (hs5 : 5 ≤ sz) (hsz : sz ≤ 64) (hw4 : w ≤ 4) (h1 : zI σ 1 = nI sz) (h9 : zI σ 9 = nI w) (h10 : zI σ 10 = nI (w + 1)) (h11 : zI σ 11 = nI (sz / (w + 1))) (hod : od < sz / (w + 1)) (h12 : zI σ 12 = nI od) :
    ∃ σ1, zfr [] [] [1] σ σ1 ∧ zL σ1 1 = dkR (zL σ 1) (zL σ 3) (od * (w + 1)) w (zI σ 13).toInt64 ∧ dC nb sz σ1 = dC nb sz σ ∧
    fX2_bring_p35_0 n nb sz mm σ = (if od + 1 < sz / (w + 1) then some (zI σ 13 + 1 - 1, sI (sI σ1 12 (nI (od + 1))) 13 (zI σ 13 + 1)) else if dLf (dC nb sz σ).2.1 nb 0 = nb then some (-1, σ1) else if zI σ 6 = 0 then some (-1, sI σ1 7 1) else zb (fX6_add_0 n nb (zrv (zI σ 17) (zA σ 5)) (nI (dLf (dC nb sz σ).2.1 nb 0))) (fun q => some (zI σ 13 + 1 - 1, sI (sI (sA (sI (stp13C sz σ1 (dLf (dC nb sz σ).2.1 nb 0) ((od + 1) * (w + 1))) 17 (zI q 0)) 5 (zA q 0)) 12 0) 13 (zI σ 13 + 1)))) := by
  have hple := p_perle (sz := sz) (w := w)
  have hod2 : (od + 1) * (w + 1) ≤ sz := Nat.le_trans (Nat.mul_le_mul_right _ hod) hple
  have hod3 : od * (w + 1) + (w + 1) = (od + 1) * (w + 1) := by rw [Nat.add_mul, Nat.one_mul]
  have hdv := Nat.div_le_self sz (w + 1)
  have hat : zI σ 12 * zI σ 10 = nI (od * (w + 1)) := by rw [h12, h10, nI_mul]
  have hle := dLf_le (dC nb sz σ).2.1 nb 0
  refine ⟨sL σ 1 (dkR (zL σ 1) (zL σ 3) (od * (w + 1)) w (zI σ 13).toInt64), zfr_L (by decide) zfr_r, rfl, rfl, ?_⟩
  unfold fX2_bring_p35_0
  rw [hat, zb_s (c_bringL hn hsz hw4 h9 (by omega)), show zI (sL σ 1 _) 9 = nI w from h9, nI_add, zb_s (c_setDesk hsz (by omega)), sL_sL]
  show (if zI σ 11 ≤ zI σ 12 + 1 then _ else _) = _
  generalize hσ1 : sL σ 1 (dkR (zL σ 1) (zL σ 3) (od * (w + 1)) w (zI σ 13).toInt64) = σ1
  have e1 : sL σ 1 (vp_updL (zL (sL σ 1 (fun i => if od * (w + 1) ≤ i ∧ i < od * (w + 1) + w then zL σ 3 (i - od * (w + 1)) else zL σ 1 i)) 1) (od * (w + 1) + w) (zI (sL σ 1 (fun i => if od * (w + 1) ≤ i ∧ i < od * (w + 1) + w then zL σ 3 (i - od * (w + 1)) else zL σ 1 i)) 13).toInt64) = σ1 := by rw [← hσ1]; rfl
  have g1 : zI σ1 1 = nI sz := by rw [← hσ1]; exact h1
  have g10 : zI σ1 10 = nI (w + 1) := by rw [← hσ1]; exact h10
  have g11 : zI σ1 11 = nI (sz / (w + 1)) := by rw [← hσ1]; exact h11
  have g12 : zI σ1 12 = nI od := by rw [← hσ1]; exact h12
  have g13 : zI σ1 13 = zI σ 13 := by rw [← hσ1]; rfl
  have g6 : zI σ1 6 = zI σ 6 := by rw [← hσ1]; rfl
  have g17 : zI σ1 17 = zI σ 17 := by rw [← hσ1]; rfl
  have g5 : zA σ1 5 = zA σ 5 := by rw [← hσ1]; rfl
  have gd : dC nb sz σ1 = dC nb sz σ := by rw [← hσ1]; rfl
  rw [e1, h11, h12, nI_1, g12, nI_1, g11, g10, nI_mul]
  unfold fX2_bring_p35_142
  by_cases c1 : od + 1 < sz / (w + 1)
  · rw [if_neg (fun q => by rw [nI_leI (by omega) (by omega)] at q; omega), if_pos c1]
    show some (zI σ1 13 + 1 - 1, sI (sI σ1 12 (nI (od + 1))) 13 (zI σ1 13 + 1)) = _
    rw [g13]
  · have hper : sz / (w + 1) = od + 1 := by omega
    rw [if_pos (nI_le (by omega) (by omega)), if_neg c1, hper, zb_s (c_store_p13 hn hnb hsz g1 hod2), gd, g6]
    by_cases c2 : dLf (dC nb sz σ).2.1 nb 0 = nb
    · rw [if_pos c2, if_pos c2, if_pos rfl]
    · rw [if_neg c2, if_neg c2]
      by_cases c3 : zI σ 6 = 0
      · rw [if_pos c3, if_pos c3, if_pos rfl]
      · rw [if_neg c3, if_neg c3, if_neg (nI_m1 (by omega))]
        show zb (fX6_add_0 n nb (zrv (zI σ1 17) (zA σ1 5)) (nI (dLf (dC nb sz σ).2.1 nb 0))) (fun q14 => some (zI σ1 13 + 1 - 1, sI (sI (sA (sI (stp13C sz σ1 (dLf (dC nb sz σ).2.1 nb 0) ((od + 1) * (w + 1))) 17 (zI q14 0)) 5 (zA q14 0)) 12 0) 13 (zI σ1 13 + 1))) = _
        rw [g17, g5, g13]
