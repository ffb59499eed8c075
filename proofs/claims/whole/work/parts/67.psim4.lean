/-! key -/
theorem c_hasKey {n nb sz mm kn : Nat} {σ : zS} {x : Int32} (hn : 300 < n) (hk : kn ≤ 4) (h8 : zI σ 8 = nI kn) : ∃ v : Int32, fX5_hasKey_0 n nb sz mm σ x = some v ∧ ((v = 1 ∧ ∃ k, k < kn ∧ zA σ 1 k = x) ∨ (v = 0 ∧ ∀ k, k < kn → ¬ zA σ 1 k = x)) := by
  have hl := zlp_tot (body := fX5_hasKey_L2_2 n nb sz mm σ x) (fun m a => ∃ j, a = nI j ∧ j ≤ kn ∧ m = kn - j ∧ ∀ k, k < j → ¬ zA σ 1 k = x) (fun r => (r = .inr () ∧ ∃ k, k < kn ∧ zA σ 1 k = x) ∨ (r = .inl () ∧ ∀ k, k < kn → ¬ zA σ 1 k = x)) (fun m a hP => by
    obtain ⟨j, rfl, hj, rfl, hb⟩ := hP
    unfold fX5_hasKey_L2_2
    rw [h8]
    by_cases c1 : j = kn
    · right
      refine ⟨.inl (), by rw [if_pos (nI_le (by omega) (by omega))], Or.inr ⟨rfl, fun k hk => hb k (by omega)⟩⟩
    · rw [if_neg (fun q => by rw [nI_leI (by omega) (by omega)] at q; omega), if_neg (fun q => by rw [nI_leI (by omega) (by omega)] at q; omega), zg_in (by omega) (by decide), nI_clamp (by omega)]
      by_cases c2 : zA σ 1 j = x
      · right
        exact ⟨.inr (), by rw [if_pos c2], Or.inl ⟨rfl, j, by omega, c2⟩⟩
      · left
        refine ⟨nI (j + 1), kn - (j + 1), by omega, by rw [if_neg c2, nI_1], j + 1, rfl, by omega, rfl, fun k hk => ?_⟩
        by_cases e : k = j
        · rw [e]; exact c2
        · exact hb k (by omega)) n kn 0 (by omega) ⟨0, rfl, Nat.zero_le _, rfl, fun k hk => absurd hk (by omega)⟩
  obtain ⟨r, hr, hq⟩ := hl
  unfold fX5_hasKey_0
  rw [zb_s hr]
  rcases hq with ⟨rfl, hq⟩ | ⟨rfl, hq⟩
  · exact ⟨1, rfl, Or.inl ⟨rfl, hq⟩⟩
  · exact ⟨0, rfl, Or.inr ⟨rfl, hq⟩⟩
theorem m_again {n kn : Nat} {τ : zS} {x x2 : Int32} (hn : 300 < n) (hk : kn ≤ 4) (h7 : zI τ 7 = nI kn) : ∃ v : Int32, zlp (fX10_key_L5_5 n τ x x2) n (0, 0) = some v ∧ ((v = 1 ∧ ∃ k, k < kn ∧ zA τ 8 k = x) ∨ (v = 0 ∧ ∀ k, k < kn → ¬ zA τ 8 k = x)) :=
  zlp_tot (body := fX10_key_L5_5 n τ x x2) (fun m a => ∃ j, a.2 = nI j ∧ j ≤ kn ∧ m = kn - j ∧ ((a.1 = 1 ∧ ∃ k, k < j ∧ zA τ 8 k = x) ∨ (a.1 = 0 ∧ ∀ k, k < j → ¬ zA τ 8 k = x))) (fun v => (v = 1 ∧ ∃ k, k < kn ∧ zA τ 8 k = x) ∨ (v = 0 ∧ ∀ k, k < kn → ¬ zA τ 8 k = x)) (fun m a hP => by
    obtain ⟨y, z⟩ := a
    obtain ⟨j, hz, hj, rfl, hb⟩ := hP
    dsimp only at hz hb
    subst hz
    unfold fX10_key_L5_5 fX10_key_L5_29 fX10_key_L5_34
    dsimp only
    rw [h7]
    by_cases c1 : j = kn
    · right
      subst c1
      exact ⟨y, by rw [if_pos (nI_le (by omega) (by omega))], hb⟩
    · rw [if_neg (fun q => by rw [nI_leI (by omega) (by omega)] at q; omega)]
      left
      rcases hb with ⟨rfl, k, hk1, hk2⟩ | ⟨rfl, hb⟩
      · refine ⟨(1, nI (j + 1)), kn - (j + 1), by omega, by rw [if_neg (by decide), nI_1], j + 1, rfl, by omega, rfl, Or.inl ⟨rfl, k, by omega, hk2⟩⟩
      · rw [if_pos rfl, zg_in (by omega) (by decide), nI_clamp (by omega)]
        by_cases c2 : zA τ 8 j = x
        · refine ⟨(1, nI (j + 1)), kn - (j + 1), by omega, by rw [if_pos c2, nI_1], j + 1, rfl, by omega, rfl, Or.inl ⟨rfl, j, by omega, c2⟩⟩
        · refine ⟨(0, nI (j + 1)), kn - (j + 1), by omega, by rw [if_neg c2, nI_1], j + 1, rfl, by omega, rfl, Or.inr ⟨rfl, fun k hk => ?_⟩⟩
          by_cases e : k = j
          · rw [e]; exact c2
          · exact hb k (by omega)) n kn (0, 0) (by omega) ⟨0, rfl, Nat.zero_le _, rfl, Or.inr ⟨rfl, fun k hk => absurd hk (by omega)⟩⟩
/-- keys are apart: a new one finds room -/
theorem j_room {w kn : Nat} {kc : Nat → Int32} {c : Nat} (hw : w ≤ 4) (hc : c < w) (h1 : ∀ k, k < kn → ∃ c, c < w ∧ kc k = nI c) (h2 : ∀ i j, i < j → j < kn → ¬ kc i = kc j) (h3 : ∀ k, k < kn → ¬ kc k = nI c) : kn < w := by
  have hn : (c :: (List.range kn).map (fun k => (kc k).toNatClampNeg)).Nodup := by
    rw [List.nodup_cons]
    refine ⟨fun hm => ?_, ?_⟩
    · obtain ⟨k, hk, e⟩ := List.mem_map.mp hm
      have hk := List.mem_range.mp hk
      obtain ⟨d, hd, e2⟩ := h1 k hk
      rw [e2, nI_clamp (by omega)] at e
      exact h3 k hk (by rw [e2, e])
    · rw [List.nodup_iff_pairwise_ne, List.pairwise_map]
      refine List.Pairwise.imp_of_mem ?_ (List.pairwise_lt_range)
      intro i j hi hj hij e
      have hi := List.mem_range.mp hi
      have hj := List.mem_range.mp hj
      obtain ⟨d, hd, e2⟩ := h1 i hi
      obtain ⟨d', hd', e3⟩ := h1 j hj
      rw [e2, e3, nI_clamp (by omega), nI_clamp (by omega)] at e
      exact h2 i j hij hj (by rw [e2, e3, e])
  have hl := nd_le w _ hn (fun x hx => by
    rcases List.mem_cons.mp hx with e | hm
    · rw [e]; exact hc
    · obtain ⟨k, hk, e⟩ := List.mem_map.mp hm
      obtain ⟨d, hd, e2⟩ := h1 k (List.mem_range.mp hk)
      rw [e2, nI_clamp (by omega)] at e
      omega)
  simp only [List.length_cons, List.length_map, List.length_range] at hl
  omega
theorem s_key {n nb sz mm : Nat} (hn : 300 < n) (hnb : nb ≤ 200) : sim_key n nb sz mm (zJ9 nb sz mm) := by
  intro jj σ τ o a1 a2 ha2 hj9 hJ
  obtain ⟨cm, hcm, w, od, kn, inp, rs, fs, h⟩ := hJ
  have hC := h.2.2.2.2.2.2.2.2.2.1
  have hM := h.2.2.2.2.2.2.2.2.2.2.1
  have hB := h.2.2.2.2.2.2.2.2.2.2.2.1
  have hoff := h.2.2.2.2.2.1
  have hmany := j_many hB
  have hw4 := h.2.1.2.1
  obtain ⟨hkn, hk7, hk8, hK⟩ := h.2.2.1
  obtain ⟨v, hv1, hv2⟩ := c_hasKey (nb := nb) (sz := sz) (mm := mm) (σ := σ) (x := a1) hn hkn hk8
  obtain ⟨v', hv1', hv2'⟩ := m_again (τ := τ) (x := a1) (x2 := a2) hn hkn hk7
  have hvv : v' = v := by
    rcases hv2 with ⟨e, k, h1, h2⟩ | ⟨e, h1⟩
    · rcases hv2' with ⟨e', -⟩ | ⟨e', h3⟩
      · rw [e, e']
      · exact absurd ((hK.1 k h1).1.trans h2) (h3 k h1)
    · rcases hv2' with ⟨e', k, h3, h4⟩ | ⟨e', -⟩
      · exact absurd ((hK.1 k h3).1.symm.trans h4) (h1 k h3)
      · rw [e, e']
  subst hvv
  by_cases c1 : 0 ≤ a1 ∧ a1 < nI w
  · have hin : fX10_isIn_0 n zσ0 a1 0 (nI w - 1) = some 1 := m_isIn_y c1.1 ((i_pm (by omega)).mpr c1.2)
    obtain ⟨c, hc, rfl⟩ := i_of c1.1 c1.2 (by omega)
    rcases hv2 with ⟨rfl, -⟩ | ⟨rfl, hno⟩
    · have hf : fX9_key_0 n nb sz mm σ (nI c) a2 = some (.inl "java/lang/IllegalArgumentException", σ) := by
        unfold fX9_key_0
        rw [if_neg (i_nlt.mpr c1.1), h.2.1.2.2.2.1, if_pos c1.2, zb_s hv1, if_neg (by decide)]
      have hm : fX10_key_0 n τ (nI c) a2 = some (0, sI τ 0 2) := by
        unfold fX10_key_0 fX10_key_87
        rw [zb_s hv1', h.2.1.2.2.1, zb_s hin, if_neg (by decide), if_neg (by decide), if_neg (by decide)]
      exact ⟨_, _, _, _, _, _, hf, rfl, hm, rfl, fun q => absurd q (by decide), cm, by omega, w, od, kn, inp, rs, fs, h⟩
    · by_cases c2 : zI σ 7 = 0
      · by_cases c3 : rs = []
        · subst c3
          have hroom := j_room hw4 hc (fun k hk => (hK.1 k hk).2) hK.2.2 hno
          have hf : fX9_key_0 n nb sz mm σ (nI c) a2 = some (.inr (nI (kn + 1)), sI (sA (sA σ 1 (upd (zA σ 1) kn (nI c))) 2 (upd (zA σ 2) kn a2)) 8 (nI (kn + 1))) := by
            unfold fX9_key_0 fX9_needPower_0 fX6_size_0 fX5_addKey_0 fX5_addKey_61
            rw [if_neg (i_nlt.mpr c1.1), h.2.1.2.2.2.1, if_pos c1.2, zb_s hv1, if_pos rfl, if_pos c2]
            show (if zI σ 32 ≤ 0 then _ else _) = _
            rw [hC.1, if_pos (show nI ([] : List (List Nat × Nat)).length ≤ 0 by decide), hk8, if_neg (nI_nn (by omega)), if_neg (fun q => by rw [nI_leI (by omega) (by omega)] at q; omega), if_neg (fun q => by rw [nI_leI (by omega) (by omega)] at q; omega), zg_in (by omega) (by decide), zg_in (by omega) (by decide), nI_clamp (by omega), nI_1]
            rcases ha2 with rfl | rfl
            · rw [nar0]; rfl
            · rw [nar1]; rfl
          have hm : fX10_key_0 n τ (nI c) a2 = some (nI (kn + 1), sI (sA (sA (sI τ 0 0) 8 (upd (zA τ 8) kn (nI c))) 9 (upd (zA τ 9) kn a2)) 7 (nI (kn + 1))) := by
            unfold fX10_key_0 fX10_key_87
            rw [zb_s hv1', h.2.1.2.2.1, zb_s hin, if_neg (by decide), if_pos rfl, hoff.1, if_pos c2, hM.1, if_pos (show nI ([] : List (List Nat × Nat)).length ≤ 0 by decide), if_pos (by decide), hk7, zg_in (by omega) (by decide), zg_in (by omega) (by decide), nI_clamp (by omega), nI_1]
            rcases ha2 with rfl | rfl
            · rw [nar0]
            · rw [nar1]
          refine ⟨_, _, _, _, _, _, hf, rfl, hm, rfl, fun _ => o_at _ _, cm, by omega, w, od, kn + 1, inp, [], fs, h.1, h.2.1, ⟨by omega, rfl, rfl, fun k hk => ?_, fun k hk => ?_, fun i j hij hj => ?_⟩, h.2.2.2⟩
          · show upd (zA τ 8) kn (nI c) k = upd (zA σ 1) kn (nI c) k ∧ ∃ c', c' < w ∧ upd (zA σ 1) kn (nI c) k = nI c'
            rw [upd_at, upd_at]
            by_cases e : k = kn
            · rw [if_pos e, if_pos e]; exact ⟨rfl, c, hc, rfl⟩
            · rw [if_neg e, if_neg e]; exact hK.1 k (by omega)
          · show upd (zA τ 9) kn a2 k = upd (zA σ 2) kn a2 k ∧ (upd (zA σ 2) kn a2 k = 0 ∨ upd (zA σ 2) kn a2 k = 1)
            rw [upd_at, upd_at]
            by_cases e : k = kn
            · rw [if_pos e, if_pos e]; exact ⟨rfl, ha2⟩
            · rw [if_neg e, if_neg e]; exact hK.2.1 k (by omega)
          · show ¬ upd (zA σ 1) kn (nI c) i = upd (zA σ 1) kn (nI c) j
            rw [upd_at, upd_at, if_neg (show ¬ i = kn by omega)]
            by_cases e : j = kn
            · rw [if_pos e]; exact hno i (by omega)
            · rw [if_neg e]; exact hK.2.2 i j hij (by omega)
        · have hpos : 0 < rs.length := List.length_pos_iff.mpr c3
          have hf : fX9_key_0 n nb sz mm σ (nI c) a2 = some (.inl "java/lang/IllegalStateException", σ) := by
            unfold fX9_key_0 fX9_needPower_0 fX6_size_0
            rw [if_neg (i_nlt.mpr c1.1), h.2.1.2.2.2.1, if_pos c1.2, zb_s hv1, if_pos rfl, if_pos c2]
            show (if zI σ 32 ≤ 0 then _ else _) = _
            rw [hC.1, if_neg (nI_nle hpos (by omega))]
          have hm : fX10_key_0 n τ (nI c) a2 = some (0, sI τ 0 3) := by
            unfold fX10_key_0 fX10_key_82 fX10_key_87
            rw [zb_s hv1', h.2.1.2.2.1, zb_s hin, if_neg (by decide), if_pos rfl, hoff.1, if_pos c2, hM.1, if_neg (nI_nle hpos (by omega)), if_neg (by decide)]
          exact ⟨_, _, _, _, _, _, hf, rfl, hm, rfl, fun q => absurd q (by decide), cm, by omega, w, od, kn, inp, rs, fs, h⟩
      · have hf : fX9_key_0 n nb sz mm σ (nI c) a2 = some (.inl "java/lang/IllegalStateException", σ) := by
          unfold fX9_key_0 fX9_needPower_0
          rw [if_neg (i_nlt.mpr c1.1), h.2.1.2.2.2.1, if_pos c1.2, zb_s hv1, if_pos rfl, if_neg c2]
          rfl
        have hm : fX10_key_0 n τ (nI c) a2 = some (0, sI τ 0 3) := by
          unfold fX10_key_0 fX10_key_82 fX10_key_87
          rw [zb_s hv1', h.2.1.2.2.1, zb_s hin, if_neg (by decide), if_pos rfl, hoff.1, if_neg c2, if_neg (by decide)]
        exact ⟨_, _, _, _, _, _, hf, rfl, hm, rfl, fun q => absurd q (by decide), cm, by omega, w, od, kn, inp, rs, fs, h⟩
  · have hf : fX9_key_0 n nb sz mm σ a1 a2 = some (.inl "java/lang/IndexOutOfBoundsException", σ) := by
      unfold fX9_key_0 fX9_key_15
      by_cases c2 : a1 < 0
      · rw [if_pos c2]
      · rw [if_neg c2, h.2.1.2.2.2.1, if_neg (fun q => c1 ⟨i_nlt.mp c2, q⟩)]
    have hm : fX10_key_0 n τ a1 a2 = some (0, sI τ 0 1) := by
      unfold fX10_key_0 fX10_key_87
      rw [zb_s hv1', h.2.1.2.2.1, zb_s (m_isIn_n (fun q => c1 ⟨q.1, (i_pm (by omega)).mp q.2⟩)), if_pos rfl, if_neg (by decide)]
    exact ⟨_, _, _, _, _, _, hf, rfl, hm, rfl, fun q => absurd q (by decide), cm, by omega, w, od, kn, inp, rs, fs, h⟩
