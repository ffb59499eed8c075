/-! the end of a step's call -/
theorem j_fin {n nb sz mm cm w od kn : Nat} {inp : List Nat} {ps : List (Nat × List Nat × Nat)} {σ τ : zS} {r : Int32} {o : Nat → Int64} (hJ : JS cm nb sz mm w od kn inp ps σ τ) (hs : SH ps σ τ) (hr : (r = 1 ∧ zI σ 7 = 0 ∧ zI τ 17 = 0) ∨ (r = 0 ∧ ((zI τ 17 = 1 ∧ zI σ 7 = 1) ∨ (zI τ 17 = 2 ∧ zI σ 7 = 0)))) :
    ∃ r1 k o' rb τ', zb (fX9_answerFor_0 n nb sz mm σ r) (fun q7 => Sum.elim (fun E => some (Sum.inl E, σ)) (fun q7 => some (Sum.inr q7, σ)) q7) = some (r1, σ) ∧ fL_pass r1 o = some (k, o') ∧ fX10_ended_0 n τ 3 = some (rb, τ') ∧ fX10_thrown_0 n τ' = some k ∧ (k = 0 → o' (Int32.toNatClampNeg 0) = rb.toInt64) ∧ JJ cm nb sz mm w od kn inp (ps.map (fun p => p.2)) (ps.map (fun p => p.1)) σ τ' := by
  rcases hr with ⟨rfl, h1, h2⟩ | ⟨rfl, ⟨h1, h2⟩ | ⟨h1, h2⟩⟩
  · have hc : zb (fX9_answerFor_0 n nb sz mm σ 1) (fun q7 => Sum.elim (fun E => some (Sum.inl E, σ)) (fun q7 => some (Sum.inr q7, σ)) q7) = some (Sum.inr (nI ps.length), σ) := by
      unfold fX9_answerFor_0 fX9_answerFor_25 fX6_size_0
      rw [if_neg (by decide), if_neg (by decide), show zI (zrv (zI σ 32) (zA σ 16)) 0 = nI ps.length from hs.1]
      rfl
    have hm : fX10_ended_0 n τ 3 = some (nI ps.length, sI (sI τ 16 0) 0 0) := by
      unfold fX10_ended_0 fX10_ended_14 fX10_ended_31
      rw [h2, if_neg (by decide), zg_t (by decide), if_neg (by decide), if_pos (show zI (sI τ 16 0) 16 = 0 from rfl), show zI (sI τ 16 0) 4 = nI ps.length from hs.2.2.1]
    exact ⟨_, _, _, _, _, hc, rfl, hm, rfl, fun _ => o_at _ _, js_jj (τ := sI (sI τ 16 0) 0 0) hJ hs ⟨h1.symm, Or.inl h1⟩⟩
  · have hc : zb (fX9_answerFor_0 n nb sz mm σ 0) (fun q7 => Sum.elim (fun E => some (Sum.inl E, σ)) (fun q7 => some (Sum.inr q7, σ)) q7) = some (Sum.inr (-2), σ) := by
      unfold fX9_answerFor_0 fX9_answerFor_25
      rw [if_pos rfl, h2, if_neg (by decide), if_pos rfl]
      rfl
    have hm : fX10_ended_0 n τ 3 = some (-2, sI (sI τ 16 1) 0 0) := by
      unfold fX10_ended_0 fX10_ended_14 fX10_ended_31
      rw [h1, if_pos rfl, zg_t (by decide), if_neg (by decide), if_neg (show ¬ zI (sI τ 16 1) 16 = 0 from (by decide : ¬ (1 : Int32) = 0))]
    exact ⟨_, _, _, _, _, hc, rfl, hm, rfl, fun _ => o_at _ _, js_jj (τ := sI (sI τ 16 1) 0 0) hJ hs ⟨h2.symm, Or.inr h2⟩⟩
  · have hc : zb (fX9_answerFor_0 n nb sz mm σ 0) (fun q7 => Sum.elim (fun E => some (Sum.inl E, σ)) (fun q7 => some (Sum.inr q7, σ)) q7) = some (Sum.inl "java/lang/UnsupportedOperationException", σ) := by
      unfold fX9_answerFor_0
      rw [if_pos rfl, h2, if_pos rfl]
      rfl
    have hm : fX10_ended_0 n τ 3 = some (nI ps.length, sI (sI τ 16 0) 0 3) := by
      unfold fX10_ended_0 fX10_ended_14 fX10_ended_31
      rw [h1, if_neg (by decide), zg_t (by decide), if_pos rfl, if_pos (show zI (sI τ 16 0) 16 = 0 from rfl), show zI (sI τ 16 0) 4 = nI ps.length from hs.2.2.1]
    exact ⟨_, _, _, _, _, hc, rfl, hm, rfl, fun q => absurd q (by decide), js_jj (τ := sI (sI τ 16 0) 0 3) hJ hs ⟨h2.symm, Or.inl h2⟩⟩
theorem JS_fr {cm nb sz mm w od kn : Nat} {inp : List Nat} {ps : List (Nat × List Nat × Nat)} {σ τ σ' τ' : zS} {I A L I' A' L' : List Nat} (h : JS cm nb sz mm w od kn inp ps σ τ) (f : zfr I A L σ σ') (f' : zfr I' A' L' τ τ') (hI : ∀ k ∈ [0, 1, 2, 3, 4, 5, 6, 8, 9, 10, 11, 12, 13, 17, 27], ¬ k ∈ I) (hA : ∀ k ∈ [0, 1, 2, 3, 4, 5], ¬ k ∈ A) (hL : ∀ k ∈ [0, 1], ¬ k ∈ L) (hI' : ∀ k ∈ [1, 2, 3, 5, 6, 7, 8, 9, 10, 11, 12, 13, 14, 15], ¬ k ∈ I') (hA' : ∀ k ∈ [0, 2, 3, 4, 5, 6, 8, 9], ¬ k ∈ A') (hL' : ∀ k ∈ [0, 1], ¬ k ∈ L') : JS cm nb sz mm w od kn inp ps σ' τ' := by
  obtain ⟨hS, hD, hd, hlat, hin, hC, hF, hB, hN⟩ := h
  have e1 : dC nb sz σ' = dC nb sz σ := by
    unfold dC
    rw [f.1 2 (hI 2 (by decide)), f.1 3 (hI 3 (by decide)), f.1 4 (hI 4 (by decide)), f.1 5 (hI 5 (by decide)), f.1 6 (hI 6 (by decide)), f.2.1 0 (hA 0 (by decide)), f.2.2.1 0 (hL 0 (by decide))]
  have e2 : dM nb sz τ' = dM nb sz τ := by
    unfold dM
    rw [f'.1 10 (hI' 10 (by decide)), f'.1 11 (hI' 11 (by decide)), f'.1 12 (hI' 12 (by decide)), f'.1 13 (hI' 13 (by decide)), f'.1 15 (hI' 15 (by decide)), f'.2.1 0 (hA' 0 (by decide)), f'.2.2.1 0 (hL' 0 (by decide))]
  refine ⟨SC_fr hS f f' (fun k hk => hI k (by revert hk; revert k; decide)) (fun k hk => hA k (by revert hk; revert k; decide)) (fun k hk => hI' k (by revert hk; revert k; decide)) (fun k hk => hA' k (by revert hk; revert k; decide)), ?_, ?_, ?_, ?_, ?_, ?_, ?_, ?_⟩
  · rw [f'.1 9 (hI' 9 (by decide)), f.1 13 (hI 13 (by decide)), f'.1 5 (hI' 5 (by decide)), f.1 12 (hI 12 (by decide)), f'.2.2.1 1 (hL' 1 (by decide)), f.2.2.1 1 (hL 1 (by decide))]
    exact hD
  · rw [e1, e2, hd]
  · rw [f'.1 14 (hI' 14 (by decide)), f'.1 13 (hI' 13 (by decide))]
    exact hlat
  · rw [f.1 17 (hI 17 (by decide)), f.2.1 5 (hA 5 (by decide))]
    exact hin
  · rw [f.2.1 3 (hA 3 (by decide)), f.2.1 4 (hA 4 (by decide))]
    exact hC
  · rw [f'.2.1 6 (hA' 6 (by decide)), f'.2.1 3 (hA' 3 (by decide)), f'.2.1 4 (hA' 4 (by decide)), f'.2.1 5 (hA' 5 (by decide)), f'.2.1 2 (hA' 2 (by decide))]
    exact hF
  · rw [e1]; exact hB
  · rw [e1, f.2.2.1 1 (hL 1 (by decide))]; exact hN
/-- the reference's order behind a merged group moves down -/
theorem m_shiftG {n i k m : Nat} {τ : zS} (hn : 300 < n) (hk : 1 ≤ k) (hik : i + k ≤ m) (hm : m ≤ 200) (h4 : zI τ 4 = nI m) : zlp (fX10_mergeRow_L51_51 n (nI k)) n (nI (i + k), τ) = some (sA τ 7 (fun x => if i + 1 ≤ x ∧ x + k < m + 1 then zA τ 7 (x + (k - 1)) else zA τ 7 x)) := by
  have e0 : (nI (i + k), τ) = (fun j => (nI j, sA τ 7 (fun x => if i + 1 ≤ x ∧ x + k < j + 1 then zA τ 7 (x + (k - 1)) else zA τ 7 x))) (i + k) := by
    have : (fun x => if i + 1 ≤ x ∧ x + k < i + k + 1 then zA τ 7 (x + (k - 1)) else zA τ 7 x) = zA τ 7 := by
      funext x
      rw [if_neg (by omega)]
    show _ = (nI (i + k), sA τ 7 _)
    rw [this, sA_id]
  rw [e0]
  refine zlp_for (β := zS) (fun j => (nI j, sA τ 7 (fun x => if i + 1 ≤ x ∧ x + k < j + 1 then zA τ 7 (x + (k - 1)) else zA τ 7 x))) _ (m - (i + k)) (i + k) n (fun j h1 hj => ?_) ?_ (by omega)
  · unfold fX10_mergeRow_L51_51
    dsimp only
    rw [show zI (sA τ 7 _) 4 = nI m from h4, if_neg (show ¬ nI m ≤ nI j from fun q => by rw [nI_leI (by omega) (by omega)] at q; omega), zg_in (by omega) (by decide), nI_sub (show k ≤ j by omega), nI_1, zg_in (by omega) (by decide), nI_clamp (show j < 2 ^ 31 by omega), nI_clamp (show j - k + 1 < 2 ^ 31 by omega), sA_sA, nI_1]
    congr 4
    funext x
    show upd (fun x => if i + 1 ≤ x ∧ x + k < j + 1 then zA τ 7 (x + (k - 1)) else zA τ 7 x) (j - k + 1) (if i + 1 ≤ j ∧ j + k < j + 1 then zA τ 7 (j + (k - 1)) else zA τ 7 j) x = _
    rw [upd_at]
    by_cases c : x = j - k + 1
    · rw [if_pos c, if_neg (show ¬ (i + 1 ≤ j ∧ j + k < j + 1) by omega), if_pos (by omega), show x + (k - 1) = j by omega]
    · rw [if_neg c]
      by_cases d : i + 1 ≤ x ∧ x + k < j + 1
      · rw [if_pos d, if_pos (by omega)]
      · rw [if_neg d, if_neg (by omega)]
  · unfold fX10_mergeRow_L51_51
    dsimp only
    rw [show i + k + (m - (i + k)) = m by omega, show zI (sA τ 7 _) 4 = nI m from h4, if_pos (nI_le (Nat.le_refl _) (by omega))]
/-- one group of a pass -/
theorem j_group {n nb sz mm cm w od kn i k : Nat} {inp : List Nat} {ps : List (Nat × List Nat × Nat)} {σ τ : zS} {k1 : Int32} (hn : 110000 ≤ n) (hnb0 : 2 ≤ nb) (hnb : nb ≤ 200) (hs5 : 5 ≤ sz) (hsz : sz ≤ 64) (hJ : JS cm nb sz mm w od kn inp ps σ τ) (hs : SH ps σ τ) (hk2 : 2 ≤ k) (hk8 : k ≤ 8) (hik : i + k ≤ ps.length) :
    ∃ σ0 rc σ' τ', zlp (fX9_mergeInGroups_L45_45 n nb sz mm k1 (nI i) (nI k)) n (0, sA (sI σ 29 0) 10 (zA σ 10)) = some σ0 ∧ fX4_merge_0 n nb sz mm σ0 (zI σ0 0) = some (rc, σ') ∧ fX10_mergeRow_0 n τ (nI i) (nI k) = some τ' ∧ zI τ' 0 = zI τ 0 ∧ zI τ' 16 = zI τ 16 ∧
    ((∃ p σ'', ¬ rc = -1 ∧ JS cm nb sz mm w od kn inp (ps.take i ++ p :: ps.drop (i + k)) σ'' τ' ∧ SH (ps.take i ++ p :: ps.drop (i + k)) σ'' τ' ∧ zI τ' 17 = 0 ∧ zI σ'' 7 = zI σ 7 ∧ zb (fX6_set_0 n nb (zrv (zI σ' 32) (zA σ' 16)) (nI i) rc) (fun q19 => zlp (fX9_mergeInGroups_L114_114 n nb sz mm k1 (nI i)) n (nI (k - 1), sA (sI σ' 32 (zI q19 0)) 16 (zA q19 0))) = some σ'') ∨ (rc = -1 ∧ JS cm nb sz mm w od kn inp ps σ' τ' ∧ SH ps σ' τ' ∧ ((zI τ' 17 = 1 ∧ zI σ' 7 = 1) ∨ (zI τ' 17 = 2 ∧ zI σ' 7 = zI σ 7)))) := by
  obtain ⟨hrc, hrm⟩ := SH_rl.mp hs
  have hmany := js_many hJ
  obtain ⟨σ0, a1, a2, a3⟩ := c_fillG (n := n) (sz := sz) (mm := mm) (i := i) (k := k) (k1 := k1) (σ := sA (sI σ 29 0) 10 (zA σ 10)) (by omega) hnb hrc (by omega) hik hk8 rfl
  obtain ⟨τ0, b1, b2, b3⟩ := m_fillG (n := n) (i := i) (k := k) (τ := τ) (by omega) hrm (by omega) hik hk8
  have a3' : zfr [29] [10] [] σ σ0 := zfr_t (zfr_A (by decide) (zfr_I (by decide) zfr_r)) a3 (by decide) (by decide) (by decide)
  have hJ1 : JS cm nb sz mm w od kn inp ps σ0 τ0 := JS_fr hJ a3' b3 (by decide) (by decide) (by decide) (by decide) (by decide) (by decide)
  have hlen : ((ps.drop i).take k).length = k := by rw [List.length_take, List.length_drop]; omega
  have hperm : ps.Perm ((ps.drop i).take k ++ (ps.take i ++ ps.drop (i + k))) := by
    have e1 : ps = ps.take i ++ ((ps.drop i).take k ++ ps.drop (i + k)) := by
      rw [← List.drop_drop, List.take_append_drop, List.take_append_drop]
    have e2 : (ps.take i ++ ((ps.drop i).take k ++ ps.drop (i + k))).Perm ((ps.drop i).take k ++ (ps.take i ++ ps.drop (i + k))) := by
      rw [← List.append_assoc, ← List.append_assoc]
      exact List.Perm.append_right _ List.perm_append_comm
    exact (List.Perm.of_eq e1).trans e2
  obtain ⟨rc, σ', rm, τ1, c1, c2, c3, c4, c5⟩ := j_merge (gs := (ps.drop i).take k) (rest := ps.take i ++ ps.drop (i + k)) hn hnb0 hnb hs5 hsz hJ1 hperm (by omega) (by omega) a2.1 a2.2 b2
  rw [hlen] at c2
  have r16 : rwL hdP ps (zI σ' 32) (zA σ' 16) := by
    rw [c4.1 32 (by decide), c4.2.1 16 (by decide), a3'.1 32 (by decide), a3'.2.1 16 (by decide)]
    exact hrc
  have r7 : rwL flP ps (zI τ1 4) (zA τ1 7) := by
    rw [c5.1 4 (by decide), c5.2.1 7 (by decide), b3.1 4 (by decide), b3.2.1 7 (by decide)]
    exact hrm
  have q0 : zI τ1 0 = zI τ 0 := (c5.1 0 (by decide)).trans (b3.1 0 (by decide))
  have q16 : zI τ1 16 = zI τ 16 := (c5.1 16 (by decide)).trans (b3.1 16 (by decide))
  have h7 : zI σ0 7 = zI σ 7 := a3'.1 7 (by decide)
  rcases c3 with ⟨p, rfl, rfl, d1, d2, d3⟩ | ⟨rfl, rfl, d1, d2⟩
  · have hpm : p ∈ p :: (ps.take i ++ ps.drop (i + k)) := List.mem_cons_self
    have hp208 := (d1.2.2.2.2.2.2.1.2.1 p hpm).2
    have hpm2 : p.2 ∈ (p :: (ps.take i ++ ps.drop (i + k))).map (fun p => p.2) := List.mem_map.mpr ⟨p, hpm, rfl⟩
    have hphd : p.2.1.headD 0 < nb := (d1.2.2.2.2.2.2.2.1.2.1 _ (List.mem_append_right _ (j_len d1.2.2.2.2.2.2.2.1 p.2 hpm2))).1
    have hil : i < ps.length := by omega
    -- the class' row
    obtain ⟨s, s1, s2⟩ := rl_set (n := n) (ln := nb) (i := i) (x := p) r16 hil (by omega) hnb
    have hset : ps.set i p = ps.take i ++ p :: ps.drop (i + 1) := List.set_eq_take_append_cons_drop.trans (if_pos hil)
    have hlp := zlp_tot (body := fX9_mergeInGroups_L114_114 n nb sz mm k1 (nI i)) (fun m a => ∃ j σ1, a = (nI j, σ1) ∧ j + 1 ≤ k ∧ m = j ∧ rwL hdP ((ps.take i ++ p :: ps.drop (i + 1)).take (i + j + 1) ++ ps.drop (i + k)) (zI σ1 32) (zA σ1 16) ∧ zfr [32] [16] [] σ' σ1)
      (fun σ1 => rwL hdP (ps.take i ++ p :: ps.drop (i + k)) (zI σ1 32) (zA σ1 16) ∧ zfr [32] [16] [] σ' σ1)
      (fun m a hP => by
        obtain ⟨j, σ1, rfl, hj, rfl, h1, h2⟩ := hP
        unfold fX9_mergeInGroups_L114_114
        dsimp only
        have hl0 : (ps.take i ++ p :: ps.drop (i + 1)).length = ps.length := by
          rw [← hset, List.length_set]
        by_cases c : m = 0
        · right
          subst c
          rw [if_pos (show nI 0 ≤ 0 by decide)]
          refine ⟨_, rfl, ?_, h2⟩
          have e1 : (ps.take i ++ p :: ps.drop (i + 1)).take (i + 0 + 1) = ps.take i ++ [p] := by
            rw [List.take_append, List.length_take, show min i ps.length = i by omega, show i + 0 + 1 - i = 1 by omega, List.take_of_length_le (by rw [List.length_take]; omega)]
            rfl
          rw [e1, List.append_assoc] at h1
          exact h1
        · left
          rw [if_neg (show ¬ nI m ≤ 0 from nI_nle (by omega) (by omega)), nI_add]
          obtain ⟨t, t1, t2⟩ := rl_remove (n := n) (ln := nb) (i := i + m) (by omega) h1 (by rw [List.length_append, List.length_take, hl0, List.length_drop]; omega) (by rw [List.length_append, List.length_take, hl0, List.length_drop]; omega) hnb
          rw [zb_s t1, nI_dec (by omega)]
          refine ⟨_, m - 1, by omega, rfl, m - 1, _, rfl, by omega, rfl, ?_, zfr_A (by decide) (zfr_I (by decide) h2)⟩
          rw [take_app_erase (by rw [hl0]; omega)] at t2
          rw [show i + (m - 1) + 1 = i + m by omega]
          exact t2)
      n (k - 1) (nI (k - 1), sA (sI σ' 32 (zI s 0)) 16 (zA s 0)) (by omega) ⟨k - 1, _, rfl, by omega, rfl, by
        show rwL hdP _ (zI s 0) (zA s 0)
        rw [hset] at s2
        have e1 : (ps.take i ++ p :: ps.drop (i + 1)).take (i + (k - 1) + 1) ++ ps.drop (i + k) = ps.take i ++ p :: ps.drop (i + 1) := by
          have e2 : ps.drop (i + k) = (ps.take i ++ p :: ps.drop (i + 1)).drop (i + (k - 1) + 1) := by
            rw [List.drop_append, List.length_take, show min i ps.length = i by omega, List.drop_of_length_le (l := ps.take i) (by rw [List.length_take]; omega), List.nil_append, show i + (k - 1) + 1 - i = (k - 1) + 1 by omega, List.drop_succ_cons, List.drop_drop, show i + 1 + (k - 1) = i + k by omega]
          rw [e2, List.take_append_drop]
        rw [e1]
        exact s2, zfr_A (by decide) (zfr_I (by decide) zfr_r)⟩
    obtain ⟨σ2, l1, l2, l3⟩ := hlp
    -- the reference's
    have hm4 : zI τ1 4 = nI ps.length := r7.1
    have hshift := m_shiftG (n := n) (i := i) (k := k) (m := ps.length) (τ := sA τ1 7 (upd (zA τ1 7) i (nI p.1))) (by omega) (by omega) hik (by omega) hm4
    let τ2 := sI (sA (sA τ1 7 (upd (zA τ1 7) i (nI p.1))) 7 (fun x => if i + 1 ≤ x ∧ x + k < ps.length + 1 then zA (sA τ1 7 (upd (zA τ1 7) i (nI p.1))) 7 (x + (k - 1)) else zA (sA τ1 7 (upd (zA τ1 7) i (nI p.1))) 7 x)) 4 (nI (ps.length - (k - 1)))
    have hmE : fX10_mergeRow_0 n τ (nI i) (nI k) = some τ2 := by
      unfold fX10_mergeRow_0
      rw [zb_s b1, zb_s c2]
      dsimp only
      rw [if_neg (nI_m1 (by omega)), zg_in (by omega) (by decide), nI_clamp (by omega), nI_add, zb_s hshift]
      show some (sI _ 4 (zI τ1 4 - (nI k - 1))) = _
      rw [hm4, show (1 : Int32) = nI 1 from rfl, nI_sub (by omega), nI_sub (by omega)]
    have r7' : rwL flP (ps.take i ++ p :: ps.drop (i + k)) (zI τ2 4) (zA τ2 7) := by
      refine ⟨?_, fun j x hj => ?_⟩
      · show nI (ps.length - (k - 1)) = _
        congr 1
        rw [List.length_append, List.length_take, List.length_cons, List.length_drop]
        omega
      · show (if i + 1 ≤ j ∧ j + k < ps.length + 1 then upd (zA τ1 7) i (nI p.1) (j + (k - 1)) else upd (zA τ1 7) i (nI p.1) j) = _
        have hjl := (List.getElem?_eq_some_iff.mp hj).1
        rw [List.length_append, List.length_take, List.length_cons, List.length_drop] at hjl
        rcases Nat.lt_trichotomy j i with q | q | q
        · rw [if_neg (by omega), upd_at, if_neg (by omega)]
          rw [List.getElem?_append_left (by rw [List.length_take]; omega), List.getElem?_take_of_lt q] at hj
          exact r7.2 j x hj
        · rw [if_neg (by omega), upd_at, if_pos q]
          rw [List.getElem?_append_right (by rw [List.length_take]; omega), List.length_take, show j - min i ps.length = 0 by omega] at hj
          cases hj
          rfl
        · rw [if_pos (by omega), upd_at, if_neg (by omega)]
          rw [List.getElem?_append_right (by rw [List.length_take]; omega), List.length_take, show j - min i ps.length = (j - i - 1) + 1 by omega, List.getElem?_cons_succ, List.getElem?_drop, show i + k + (j - i - 1) = j + (k - 1) by omega] at hj
          exact r7.2 _ x hj
    have hJ2 : JS cm nb sz mm w od kn inp (ps.take i ++ p :: ps.drop (i + k)) σ2 τ2 := by
      refine JS_perm (JS_fr (σ' := σ2) (τ' := τ2) d1 l3 (I' := [4]) (A' := [7]) (L' := []) (zfr_I (by decide) (zfr_A (by decide) (zfr_A (by decide) zfr_r))) (by decide) (by decide) (by decide) (by decide) (by decide) (by decide)) ?_
      exact List.perm_middle.symm
    refine ⟨σ0, _, σ', τ2, a1, c1, hmE, q0, q16, Or.inl ⟨p, σ2, nI_m1 (by omega), hJ2, SH_rl.mpr ⟨l2, r7'⟩, d2, (l3.1 7 (by decide)).trans (d3.trans h7), ?_⟩⟩
    rw [zb_s s1]
    exact l1
  · refine ⟨σ0, _, σ', τ1, a1, c1, ?_, q0, q16, Or.inr ⟨rfl, d1, SH_rl.mpr ⟨r16, r7⟩, ?_⟩⟩
    · unfold fX10_mergeRow_0
      rw [zb_s b1, zb_s c2]
      dsimp only
      rw [if_pos rfl]
    · rw [h7] at d2
      exact d2
