/-! drop -/
def frM (τ : zS) (f : Nat) (bl : List Nat) : zS := sA (sA (sA (sA (sA τ 0 (frU (zA τ 0) bl)) 3 (upd (zA τ 3) f (-1))) 4 (upd (zA τ 4) f (-1))) 5 (upd (zA τ 5) f 0)) 6 (upd (zA τ 6) f 0)
theorem m_free {n f cnt : Nat} {τ : zS} {bl : List Nat} (hn : 300 < n) (hf1 : 1 ≤ f) (hf : f < 208) (hne : bl ≠ []) (hF : JF f bl cnt (zA τ 3) (zA τ 4) (zA τ 5) (zA τ 2)) (hb : ∀ b ∈ bl, b < 200) (hlen : bl.length ≤ 200) : fX10_free_0 n τ (nI f) = some (frM τ f bl) := by
  unfold fX10_free_0 fX10_free_64
  have h0 : zA τ 3 f = chAt bl 0 := by rw [(hF.2.1 hne).1, chAt_some (head_at hne)]
  rw [zg_in hf (by decide), nI_clamp (by omega), h0, zb_s (m_freeL hn hF.2.2.2 hb hlen), zg_in hf (by decide), zg_in hf (by decide), zg_in hf (by decide), if_neg (nI_ne0 (by omega) (by omega)), zg_in hf (by decide), nar0]
  rfl
theorem dM_fr {nb sz f : Nat} {τ : zS} {bl : List Nat} : dM nb sz (frM τ f bl) = ((dM nb sz τ).1, fun b => decide (b < nb) && decide (¬ frU (zA τ 0) bl b = 0), (dM nb sz τ).2.2) := rfl
theorem dC_fr {nb sz : Nat} {σ : zS} {bl : List Nat} : dC nb sz (sA σ 0 (frU (zA σ 0) bl)) = ((dC nb sz σ).1, fun b => decide (b < nb) && decide (¬ frU (zA σ 0) bl b = 0), (dC nb sz σ).2.2) := rfl
theorem fr_used {nb : Nat} {u : Nat → Int32} {bl : List Nat} : (fun b => decide (b < nb) && decide (¬ frU u bl b = 0)) = (fun b => (decide (b < nb) && decide (¬ u b = 0)) && decide (¬ b ∈ bl)) := by
  funext b
  unfold frU
  by_cases c : b ∈ bl
  · rw [if_pos c]
    simp [c]
  · rw [if_neg c]
    simp [c]
theorem s_drop {n nb sz mm : Nat} (hn : 300 < n) (hnb : nb ≤ 200) (hs5 : 5 ≤ sz) (hsz : sz ≤ 64) : sim_drop n nb sz mm (zJ9 nb sz mm) := by
  intro jj σ τ o a1 hj9 hJ
  obtain ⟨cm, hcm, w, od, kn, inp, rs, fs, h⟩ := hJ
  have hC := h.2.2.2.2.2.2.2.2.2.1
  have hM := h.2.2.2.2.2.2.2.2.2.2.1
  have hB := h.2.2.2.2.2.2.2.2.2.2.2.1
  have hN := h.2.2.2.2.2.2.2.2.2.2.2.2
  have hoff := h.2.2.2.2.2.1
  have hd := h.2.2.2.2.2.2.1
  have hmany := j_many hB
  by_cases c1 : 0 ≤ a1 ∧ a1 < nI rs.length
  · obtain ⟨j, hj, rfl⟩ := i_of c1.1 c1.2 (by omega)
    obtain ⟨r, hr⟩ : ∃ r, rs[j]? = some r := ⟨rs[j], List.getElem?_eq_getElem hj⟩
    obtain ⟨f, hf0⟩ : ∃ f, fs[j]? = some f := ⟨fs[j]'(by rw [hM.2.1]; exact hj), List.getElem?_eq_getElem _⟩
    have hrm := List.mem_of_getElem? hr
    have hfm := hM.2.2.2.1 f (List.mem_of_getElem? hf0)
    have hblk := j_blk hB hrm
    have hrun := hB.2.2 r hrm
    have hin1 : fX10_isIn_0 n zσ0 (nI j) 0 (nI rs.length - 1) = some 1 := m_isIn_y c1.1 ((i_pm (by omega)).mpr c1.2)
    have hneed : fX9_needRun_0 n nb sz mm σ (nI j) = some (.inr ()) := by
      unfold fX9_needRun_0 fX6_size_0
      rw [if_neg (nI_nn (by omega))]
      show (if nI j < zI σ 32 then _ else _) = _
      rw [hC.1, if_pos c1.2]
    by_cases c4 : zI σ 7 = 0
    · have hf : fX9_drop_0 n nb sz mm σ (nI j) = some (.inr (nI (rs.length - 1)), sA (sI (sA σ 0 (frU (zA σ 0) r.1)) 32 (nI (rs.length - 1))) 16 (rmF (zA σ 16) j rs.length)) := by
        unfold fX9_drop_0 fX9_needPower_0 fX6_size_0
        rw [zb_s hneed, if_pos c4]
        show zb (fX6_get_0 n nb (zrv (zI σ 32) (zA σ 16)) (nI j)) _ = _
        rw [zb_s (c_get (m := rs.length) hC.1 hj (by omega) (by omega)), hC.2.1 j r hr, zb_s (c_remove hn hnb hrun.1 (hC.2.2 r hrm).1 hblk.1 hblk.2), show zI (sA σ 0 (frU (zA σ 0) r.1)) 32 = nI rs.length from hC.1, zb_s (c_removeAt hn hj (by omega) hnb)]
        rfl
      have hm : fX10_drop_0 n τ (nI j) = some (nI (rs.length - 1), sI (sA (frM (sI τ 0 0) f r.1) 7 (rmF (zA τ 7) j rs.length)) 4 (nI (rs.length - 1))) := by
        unfold fX10_drop_0 fX10_drop_31
        rw [hM.1, zb_s hin1, if_neg (by decide), hoff.1, if_pos c4, if_pos (by decide), zg_in (by omega) (by decide), nI_clamp (by omega), hM.2.2.2.2.2.1 j f hf0, zb_s (m_free (τ := sI τ 0 0) (bl := r.1) (cnt := r.2) hn hfm.1 hfm.2 hrun.1 (hM.2.2.2.2.2.2.1 j f r hf0 hr) (fun b hb => by have := hblk.1 b hb; omega) (by omega)), nI_1, zb_s (m_shift (τ := frM (sI τ 0 0) f r.1) hn hj (by omega) hM.1)]
        show some (zI τ 4 - 1, sI _ 4 (zI τ 4 - 1)) = _
        rw [hM.1, show (1 : Int32) = nI 1 from rfl, nI_sub (by omega)]
        rfl
      have hlen : (rs.eraseIdx j).length = rs.length - 1 := List.length_eraseIdx_of_lt hj
      have hlen2 : (fs.eraseIdx j).length = rs.length - 1 := by rw [List.length_eraseIdx_of_lt (by rw [hM.2.1]; exact hj), hM.2.1]
      have rget : ∀ (g : Nat → Int32) (k : Nat), k < rs.length - 1 → rmF g j rs.length k = if k < j then g k else g (k + 1) := by
        intro g k hk
        unfold rmF
        by_cases c : k < j
        · rw [if_neg (by omega), if_pos c]
        · rw [if_pos (by omega), if_neg c]
      have fne : ∀ g ∈ fs.eraseIdx j, ¬ g = f := fun g hg => ((er_mem hM.2.2.1 hf0).mp hg).2
      have hfmS := er_fm (fun r : List Nat × Nat => r.1) hr
      have hus : (dM nb sz (frM (sI τ 0 0) f r.1)).2.1 = (dC nb sz (sA σ 0 (frU (zA σ 0) r.1))).2.1 := by
        rw [dM_fr, dC_fr]
        show (fun b => decide (b < nb) && decide (¬ frU (zA τ 0) r.1 b = 0)) = (fun b => decide (b < nb) && decide (¬ frU (zA σ 0) r.1 b = 0))
        rw [fr_used, fr_used]
        have du : (fun b => decide (b < nb) && decide (¬ zA τ 0 b = 0)) = (fun b => decide (b < nb) && decide (¬ zA σ 0 b = 0)) := congrArg (fun d : zD => d.2.1) hd
        funext b
        have hb9 : (decide (b < nb) && decide (¬ zA τ 0 b = 0)) = (decide (b < nb) && decide (¬ zA σ 0 b = 0)) := congrFun du b
        rw [hb9]
      refine ⟨_, _, _, _, _, _, hf, rfl, hm, rfl, fun _ => o_at _ _, cm, by omega, w, od, kn, inp, rs.eraseIdx j, fs.eraseIdx j, h.1, h.2.1, h.2.2.1, h.2.2.2.1, h.2.2.2.2.1, hoff, ?_, ?_, h.2.2.2.2.2.2.2.2.1, ⟨?_, ?_, ?_⟩, ⟨?_, ?_, ?_, ?_, ?_, ?_, ?_, ?_⟩, ⟨?_, ?_, ?_⟩, ?_, ?_⟩
      · show dM nb sz (frM (sI τ 0 0) f r.1) = dC nb sz (sA σ 0 (frU (zA σ 0) r.1))
        rw [dM_fr, dC_fr] at hus ⊢
        have e1 : (dM nb sz (sI τ 0 0)) = dM nb sz τ := rfl
        rw [e1, hd]
        dsimp only at hus
        rw [hus]
      · rcases h.2.2.2.2.2.2.2.1 with q | q
        · exact Or.inl ⟨q.1, by rw [q.2]; rfl⟩
        · exact Or.inr q
      · show nI (rs.length - 1) = _
        rw [hlen]
      · intro k r' hk
        have hkl := (List.getElem?_eq_some_iff.mp hk).1
        rw [er_get] at hk
        show rmF (zA σ 16) j rs.length k = _
        rw [rget _ _ (by omega)]
        by_cases c : k < j
        · rw [if_pos c] at hk ⊢
          exact hC.2.1 k r' hk
        · rw [if_neg c] at hk ⊢
          exact hC.2.1 (k + 1) r' hk
      · exact fun r' hr' => hC.2.2 r' (List.mem_of_mem_eraseIdx hr')
      · show nI (rs.length - 1) = _
        rw [hlen]
      · rw [hlen, hlen2]
      · exact List.Nodup.sublist (List.eraseIdx_sublist _ _) hM.2.2.1
      · exact fun g hg => hM.2.2.2.1 g (List.mem_of_mem_eraseIdx hg)
      · intro g hg
        show upd (zA τ 6) f 0 g = 0 ↔ _
        rw [upd_at]
        by_cases e : g = f
        · rw [if_pos e]
          exact ⟨fun _ q => q.elim (fun q => by omega) (fun q => fne g q e), fun _ => rfl⟩
        · rw [if_neg e, hM.2.2.2.2.1 g hg, er_mem hM.2.2.1 hf0]
          constructor
          · exact fun q z => q (z.elim Or.inl (fun z => Or.inr z.1))
          · exact fun q z => q (z.elim Or.inl (fun z => Or.inr ⟨z, e⟩))
      · intro k g hk
        have hkl := (List.getElem?_eq_some_iff.mp hk).1
        rw [er_get] at hk
        show rmF (zA τ 7) j rs.length k = _
        rw [rget _ _ (by omega)]
        by_cases c : k < j
        · rw [if_pos c] at hk ⊢
          exact hM.2.2.2.2.2.1 k g hk
        · rw [if_neg c] at hk ⊢
          exact hM.2.2.2.2.2.1 (k + 1) g hk
      · intro k g r' hk hk2
        have hne := fne g (List.mem_of_getElem? hk)
        rw [er_get] at hk hk2
        have hF : JF g r'.1 r'.2 (zA τ 3) (zA τ 4) (zA τ 5) (zA τ 2) := by
          by_cases c : k < j
          · rw [if_pos c] at hk hk2
            exact hM.2.2.2.2.2.2.1 k g r' hk hk2
          · rw [if_neg c] at hk hk2
            exact hM.2.2.2.2.2.2.1 (k + 1) g r' hk hk2
        show JF g r'.1 r'.2 (upd (zA τ 3) f (-1)) (upd (zA τ 4) f (-1)) (upd (zA τ 5) f 0) (zA τ 2)
        unfold JF
        rw [upd_at, upd_at, upd_at, if_neg hne, if_neg hne, if_neg hne]
        exact hF
      · show JF 0 inp _ (upd (zA τ 3) f (-1)) (upd (zA τ 4) f (-1)) (upd (zA τ 5) f 0) (zA τ 2)
        unfold JF
        rw [upd_at, upd_at, upd_at, if_neg (by omega), if_neg (by omega), if_neg (by omega)]
        exact hM.2.2.2.2.2.2.2
      · exact List.Nodup.sublist (List.Sublist.append_left hfmS _) hB.1
      · intro b hb
        have hb0 : b ∈ inp ++ rs.flatMap (fun r => r.1) := by
          rcases List.mem_append.mp hb with q | q
          · exact List.mem_append_left _ q
          · exact List.mem_append_right _ (hfmS.subset q)
        have hnb2 : ¬ b ∈ r.1 := by
          rcases List.mem_append.mp hb with q | q
          · exact fun z => (List.nodup_append.mp hB.1).2.2 b q b (List.mem_flatMap.mpr ⟨r, hrm, z⟩) rfl
          · exact er_dis (fun r : List Nat × Nat => r.1) hr (List.nodup_append.mp hB.1).2.1 q
        obtain ⟨g1, g2⟩ := hB.2.1 b hb0
        refine ⟨g1, ?_⟩
        show (fun b => decide (b < nb) && decide (¬ frU (zA σ 0) r.1 b = 0)) b = true
        rw [fr_used]
        show ((decide (b < nb) && decide (¬ zA σ 0 b = 0)) && decide (¬ b ∈ r.1)) = true
        rw [show (decide (b < nb) && decide (¬ zA σ 0 b = 0)) = true from g2, decide_eq_true hnb2]
        rfl
      · exact fun r' hr' => hB.2.2 r' (List.mem_of_mem_eraseIdx hr')
      · exact List.Nodup.sublist (List.Sublist.append_left (er_fm _ hr) _) hN.1
      · exact fun x hx => hN.2 x ((List.Sublist.append_left (er_fm _ hr) _).subset hx)
    · have hf : fX9_drop_0 n nb sz mm σ (nI j) = some (.inl "java/lang/IllegalStateException", σ) := by
        unfold fX9_drop_0 fX9_needPower_0
        rw [zb_s hneed, if_neg c4]
        rfl
      have hm : fX10_drop_0 n τ (nI j) = some (0, sI τ 0 2) := by
        unfold fX10_drop_0 fX10_drop_31
        rw [hM.1, zb_s hin1, if_neg (by decide), hoff.1, if_neg c4, if_neg (by decide)]
      exact ⟨_, _, _, _, _, _, hf, rfl, hm, rfl, fun q => absurd q (by decide), cm, by omega, w, od, kn, inp, rs, fs, h⟩
  · have hf : fX9_drop_0 n nb sz mm σ a1 = some (.inl "java/lang/IndexOutOfBoundsException", σ) := by
      unfold fX9_drop_0 fX9_needRun_0 fX9_needRun_15 fX6_size_0
      by_cases c2 : a1 < 0
      · rw [if_pos c2]
        rfl
      · rw [if_neg c2]
        show zb (if a1 < zI σ 32 then _ else _) _ = _
        rw [hC.1, if_neg (fun q => c1 ⟨i_nlt.mp c2, q⟩)]
        rfl
    have hm : fX10_drop_0 n τ a1 = some (0, sI τ 0 1) := by
      unfold fX10_drop_0 fX10_drop_31
      rw [hM.1, zb_s (m_isIn_n (fun q => c1 ⟨q.1, (i_pm (by omega)).mp q.2⟩)), if_pos rfl, if_neg (by decide)]
    exact ⟨_, _, _, _, _, _, hf, rfl, hm, rfl, fun q => absurd q (by decide), cm, by omega, w, od, kn, inp, rs, fs, h⟩
