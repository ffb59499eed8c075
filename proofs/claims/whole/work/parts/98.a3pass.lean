theorem fan_of {a1 : Int32} (c1 : 2 ≤ a1 ∧ a1 ≤ 8) : ∃ fan, 2 ≤ fan ∧ fan ≤ 8 ∧ a1 = nI fan := by
  obtain ⟨fan, hf8, rfl⟩ : ∃ k, k < 9 ∧ a1 = nI k := i_of (by
    have := Int32.le_iff_toInt_le.mp c1.1
    rw [Int32.le_iff_toInt_le]
    have e1 : (2 : Int32).toInt = 2 := by decide
    have e2 : (0 : Int32).toInt = 0 := by decide
    omega) (by
    have := Int32.le_iff_toInt_le.mp c1.2
    rw [Int32.lt_iff_toInt_lt]
    have e1 : (8 : Int32).toInt = 8 := by decide
    have e2 : (nI 9).toInt = 9 := by decide
    omega) (by decide)
  exact ⟨fan, (nI_leI (a := 2) (by decide) (by omega)).mp c1.1, by omega, rfl⟩
theorem s_pass {n nb sz mm : Nat} (hn : 110000 ≤ n) (hnb0 : 2 ≤ nb) (hnb : nb ≤ 200) (hs5 : 5 ≤ sz) (hsz : sz ≤ 64) : sim_pass n nb sz mm (zJ9 nb sz mm) := by
  intro jj σ τ o a1 hj9 hJ
  obtain ⟨cm, hcm, w, od, kn, inp, rs, fs, h⟩ := hJ
  have hoff := h.2.2.2.2.2.1
  by_cases c1 : 2 ≤ a1 ∧ a1 ≤ 8
  · have hneed : fX9_needFan_0 n nb sz mm σ a1 = some (.inr ()) := by
      unfold fX9_needFan_0
      rw [if_neg (i_nlt.mpr c1.1), if_pos c1.2]
    have hin1 : fX10_isIn_0 n zσ0 a1 2 8 = some 1 := m_isIn_y c1.1 c1.2
    by_cases c4 : zI σ 7 = 0
    · obtain ⟨fan, hf2, hf8, rfl⟩ := fan_of c1
      obtain ⟨hjs, hsh⟩ := jj_js h
      have hloop := zlp_sk (body := fX9_mergeInGroups_L2_2 n nb sz mm (nI fan)) (body' := fX10_pass_L51_51 n (nI fan))
        (fun m a a' => ∃ i ps σ1 τ1, a = (nI i, σ1) ∧ a' = (nI (ps.length - i), nI i, τ1) ∧ i ≤ ps.length ∧ m = ps.length - i ∧ JS cm nb sz mm w od kn inp ps σ1 τ1 ∧ SH ps σ1 τ1 ∧ zI σ1 7 = 0 ∧ zI τ1 17 = 0)
        (fun b b' => ∃ ps σ1 τ1 r, ((b = .inl σ1 ∧ r = (1 : Int32)) ∨ (b = .inr σ1 ∧ r = 0)) ∧ b' = τ1 ∧ JS cm nb sz mm w od kn inp ps σ1 τ1 ∧ SH ps σ1 τ1 ∧ ((r = 1 ∧ zI σ1 7 = 0 ∧ zI τ1 17 = 0) ∨ (r = 0 ∧ ((zI τ1 17 = 1 ∧ zI σ1 7 = 1) ∨ (zI τ1 17 = 2 ∧ zI σ1 7 = 0)))))
        (fun m a a' hP => by
          obtain ⟨i, ps, σ1, τ1, rfl, rfl, hi, rfl, q1, q2, q3, q4⟩ := hP
          have hmany := js_many q1
          unfold fX9_mergeInGroups_L2_2 fX10_pass_L51_51 fX6_size_0
          dsimp only
          rw [zb_s (show some (zI (zrv (zI σ1 32) (zA σ1 16)) 0) = some (nI ps.length) from congrArg some q2.1)]
          by_cases e : i = ps.length
          · right; left
            rw [if_pos (nI_le (show ps.length ≤ i by omega) (by omega)), show ps.length - i = 0 by omega, if_pos (show nI 0 ≤ 0 by decide)]
            exact ⟨_, _, rfl, rfl, ps, σ1, τ1, 1, Or.inl ⟨rfl, rfl⟩, rfl, q1, q2, Or.inl ⟨rfl, q3, q4⟩⟩
          · rw [if_neg (show ¬ nI ps.length ≤ nI i from fun q => by rw [nI_leI (by omega) (by omega)] at q; omega), zb_s (show some (zI (zrv (zI σ1 32) (zA σ1 16)) 0) = some (nI ps.length) from congrArg some q2.1), nI_sub hi, if_neg (show ¬ nI (ps.length - i) ≤ 0 from nI_nle (by omega) (by omega)), if_pos q4]
            obtain ⟨k, hk1, hk2, hk3, hk4, hk5⟩ : ∃ k, 1 ≤ k ∧ k ≤ fan ∧ k ≤ ps.length - i ∧ (if nI (ps.length - i) < nI fan then nI (ps.length - i) else nI fan) = nI k ∧ (∀ (x : Int32 → Option ((Int32 × Int32 × zS) ⊕ zS)), (if nI fan ≤ nI (ps.length - i) then x (nI fan) else x (nI (ps.length - i))) = x (nI k)) := by
              by_cases q : ps.length - i < fan
              · refine ⟨ps.length - i, by omega, by omega, Nat.le_refl _, if_pos (nI_lt q (by omega)), fun x => ?_⟩
                rw [if_neg (fun z => by rw [nI_leI (by omega) (by omega)] at z; omega)]
              · refine ⟨fan, by omega, Nat.le_refl _, by omega, if_neg (fun z => by rw [nI_ltI (by omega) (by omega)] at z; omega), fun x => ?_⟩
                rw [if_pos (nI_le (by omega) (by omega))]
            rw [hk4, hk5 (fun y => fX10_pass_L51_72 n τ1 (nI fan) (nI (ps.length - i)) (nI i) y)]
            unfold fX10_pass_L51_72 fX10_pass_L51_87 fX9_mergeInGroups_L2_136
            by_cases e1 : k = 1
            · left
              rw [e1, if_pos (show nI 1 ≤ 1 by decide), if_pos (show nI 1 ≤ 1 by decide), nI_1, show nI (ps.length - i) - nI 1 = nI (ps.length - (i + 1)) from by rw [nI_sub (by omega)]; congr 1]
              exact ⟨_, _, ps.length - (i + 1), by omega, rfl, rfl, i + 1, ps, σ1, τ1, rfl, rfl, by omega, rfl, q1, q2, q3, q4⟩
            · have hk9 : ¬ nI k ≤ 1 := fun q => by rw [show (1 : Int32) = nI 1 from rfl, nI_leI (by omega) (by omega)] at q; omega
              rw [if_neg hk9, if_neg hk9]
              obtain ⟨σ0, rc, σ', τ', g1, g2, g3, g4, g5, g6⟩ := j_group (n := n) (k1 := nI fan) (i := i) (k := k) hn hnb0 hnb hs5 hsz q1 q2 (by omega) (by omega) (by omega)
              have hcl : fX6_clear_0 n 8 (zrv (zI σ1 29) (zA σ1 10)) = some (sI (zrv (zI σ1 29) (zA σ1 10)) 0 0) := rfl
              rw [zb_s hcl]
              have g1' : zlp (fX9_mergeInGroups_L45_45 n nb sz mm (nI fan) (nI i) (nI k)) n (0, sA (sI σ1 29 (zI (sI (zrv (zI σ1 29) (zA σ1 10)) 0 0) 0)) 10 (zA (sI (zrv (zI σ1 29) (zA σ1 10)) 0 0) 0)) = some σ0 := g1
              rw [zb_s g1', zb_s g2, zb_s g3]
              dsimp only
              rcases g6 with ⟨p, σ'', u1, u2, u3, u4, u5, u6⟩ | ⟨rfl, u2, u3, u4⟩
              · left
                rw [if_neg u1, show nI k - 1 = nI (k - 1) from by rw [show (1 : Int32) = nI 1 from rfl, nI_sub (by omega)]]
                have u7 : zb (fX6_set_0 n nb (zrv (zI σ' 32) (zA σ' 16)) (nI i) rc) (fun q19 => zb (zlp (fX9_mergeInGroups_L114_114 n nb sz mm (nI fan) (nI i)) n (nI (k - 1), sA (sI σ' 32 (zI q19 0)) 16 (zA q19 0))) (fun b24 => some (Sum.inl (nI i + 1, b24)))) = (some (Sum.inl (nI i + 1, σ'')) : Option ((Int32 × zS) ⊕ (zS ⊕ zS))) := by
                  cases hset : fX6_set_0 n nb (zrv (zI σ' 32) (zA σ' 16)) (nI i) rc with
                  | none => rw [hset] at u6; cases u6
                  | some q =>
                    rw [hset] at u6
                    exact zb_s u6
                rw [u7, nI_1]
                have hl2 : (ps.take i ++ p :: ps.drop (i + k)).length = ps.length - (k - 1) := by
                  rw [List.length_append, List.length_take, List.length_cons, List.length_drop]
                  omega
                refine ⟨_, _, ps.length - (k - 1) - (i + 1), by omega, rfl, rfl, i + 1, ps.take i ++ p :: ps.drop (i + k), σ'', τ', rfl, ?_, by omega, by omega, u2, u3, u5.trans q3, u4⟩
                rw [hl2, nI_sub (by omega)]
                congr 2
                omega
              · right; right
                rw [if_pos rfl]
                rw [q3] at u4
                have h17 : ¬ zI τ' 17 = 0 := by
                  rcases u4 with ⟨z, -⟩ | ⟨z, -⟩
                  · rw [z]; decide
                  · rw [z]; decide
                refine ⟨_, _, τ', rfl, rfl, ?_, ps, σ', τ', 0, Or.inr ⟨rfl, rfl⟩, rfl, u2, u3, Or.inr ⟨rfl, u4⟩⟩
                dsimp only
                by_cases z : nI (ps.length - i) - nI k ≤ 0
                · rw [if_pos z]
                · rw [if_neg z, if_neg h17])
        n (fs.zip rs).length (0, σ) (nI (fs.zip rs).length, 0, sI (sI τ 0 0) 17 0) (by have := js_many hjs; omega) ⟨0, fs.zip rs, σ, sI (sI τ 0 0) 17 0, rfl, rfl, Nat.zero_le _, rfl, hjs, hsh, c4, rfl⟩
      obtain ⟨b, _, l1, l2, ps, σ1, τ1, r, hb, rfl, k1, k2, k3⟩ := hloop
      obtain ⟨r1, k, o', rb, τ', f1, f2, f3, f4, f5, f6⟩ := j_fin (n := n) (o := o) k1 k2 k3
      have hg : fX9_mergeInGroups_0 n nb sz mm σ (nI fan) = some (r, σ1) := by
        unfold fX9_mergeInGroups_0
        rw [zb_s l1]
        rcases hb with ⟨rfl, rfl⟩ | ⟨rfl, rfl⟩
        · rfl
        · rfl
      have hf : fX9_pass_0 n nb sz mm σ (nI fan) = some (r1, σ1) := by
        unfold fX9_pass_0 fX9_needPower_0
        rw [zb_s hneed, if_pos c4]
        show zb (fX9_mergeInGroups_0 n nb sz mm σ (nI fan)) _ = _
        rw [zb_s hg]
        exact f1
      have hm : fX10_pass_0 n τ (nI fan) = some (rb, τ') := by
        unfold fX10_pass_0 fX10_pass_27
        rw [zb_s hin1, if_neg (by decide), hoff.1, if_pos c4, if_pos (by decide), show zI τ 4 = nI (fs.zip rs).length from hsh.2.2.1, zb_s l2, zb_s f3]
      exact ⟨_, _, _, _, _, _, hf, f2, hm, f4, f5, cm, by omega, w, od, kn, inp, _, _, f6⟩
    · have hf : fX9_pass_0 n nb sz mm σ a1 = some (.inl "java/lang/IllegalStateException", σ) := by
        unfold fX9_pass_0 fX9_needPower_0
        rw [zb_s hneed, if_neg c4]
        rfl
      have hm : fX10_pass_0 n τ a1 = some (0, sI τ 0 2) := by
        unfold fX10_pass_0 fX10_pass_27
        rw [zb_s hin1, if_neg (by decide), hoff.1, if_neg c4, if_neg (by decide)]
      exact ⟨_, _, _, _, _, _, hf, rfl, hm, rfl, fun q => absurd q (by decide), cm, by omega, w, od, kn, inp, rs, fs, h⟩
  · have hf : fX9_pass_0 n nb sz mm σ a1 = some (.inl "java/lang/IllegalArgumentException", σ) := by
      unfold fX9_pass_0 fX9_needFan_0 fX9_needFan_11
      by_cases q : a1 < 2
      · rw [if_pos q]
        rfl
      · rw [if_neg q, if_neg (fun z => c1 ⟨i_nlt.mp q, z⟩)]
        rfl
    have hm : fX10_pass_0 n τ a1 = some (0, sI τ 0 1) := by
      unfold fX10_pass_0 fX10_pass_27
      rw [zb_s (m_isIn_n c1), if_pos rfl, if_neg (by decide)]
    exact ⟨_, _, _, _, _, _, hf, rfl, hm, rfl, fun q => absurd q (by decide), cm, by omega, w, od, kn, inp, rs, fs, h⟩
