/-! block, told -/
theorem c_blockAt_out {n nb sz mm : Nat} {σ : zS} {r x : Int32} (hnb : nb ≤ 200) (h : ¬ (0 ≤ x ∧ x ≤ 199)) : fX1_blockAt_0 n nb sz mm σ r x = some (-1) := by
  unfold fX1_blockAt_0
  by_cases c : x < 0
  · rw [if_pos c]
  · rw [if_neg c, if_neg (fun q => h ⟨i_nlt.mp c, ?_⟩)]
    have h1 := Int32.lt_iff_toInt_lt.mp q
    rw [nI_toInt (by omega)] at h1
    rw [Int32.le_iff_toInt_le, show (199 : Int32).toInt = 199 by decide]
    omega
theorem i_of199 {x : Int32} (h0 : 0 ≤ x) (h1 : x ≤ 199) : ∃ j, j < 200 ∧ x = nI j := by
  refine i_of (m := 200) h0 ?_ (by decide)
  rw [Int32.lt_iff_toInt_lt, show (nI 200).toInt = 200 by decide]
  have := Int32.le_iff_toInt_le.mp h1
  rw [show (199 : Int32).toInt = 199 by decide] at this
  omega
theorem s_block {n nb sz mm : Nat} (hn : 300 < n) (hnb : nb ≤ 200) : sim_block n nb sz mm (zJ9 nb sz mm) := by
  intro jj σ τ o a1 a2 hj9 hJ
  obtain ⟨cm, hcm, w, od, kn, inp, rs, fs, h⟩ := hJ
  have hC := h.2.2.2.2.2.2.2.2.2.1
  have hM := h.2.2.2.2.2.2.2.2.2.2.1
  have hB := h.2.2.2.2.2.2.2.2.2.2.2.1
  have hI := h.2.2.2.2.2.2.2.2.1
  have hmany := j_many hB
  have hinp := j_inp hB
  have bad : fX9_block_0 n nb sz mm σ a1 a2 = some (.inl "java/lang/IndexOutOfBoundsException") → (∃ v, fX10_block_0 n τ a1 a2 = some (v, sI τ 0 1)) → ∃ (r1 : String ⊕ Int32) (k : Int32) (o' : Nat → Int64) (rb : Int32) (τ' : zS), fX9_block_0 n nb sz mm σ a1 a2 = some r1 ∧ fL_block r1 o = some (k, o') ∧ fX10_block_0 n τ a1 a2 = some (rb, τ') ∧ fX10_thrown_0 n τ' = some k ∧ (k = 0 → o' (Int32.toNatClampNeg 0) = rb.toInt64) ∧ zJ9 nb sz mm (jj + 1) σ τ' := fun hf ⟨v, hm⟩ => ⟨_, _, _, _, _, hf, rfl, hm, rfl, fun q => absurd q (by decide), cm, by omega, w, od, kn, inp, rs, fs, h⟩
  have ok : ∀ v : Int32, fX9_block_0 n nb sz mm σ a1 a2 = some (.inr v) → fX10_block_0 n τ a1 a2 = some (v, sI τ 0 0) → ∃ (r1 : String ⊕ Int32) (k : Int32) (o' : Nat → Int64) (rb : Int32) (τ' : zS), fX9_block_0 n nb sz mm σ a1 a2 = some r1 ∧ fL_block r1 o = some (k, o') ∧ fX10_block_0 n τ a1 a2 = some (rb, τ') ∧ fX10_thrown_0 n τ' = some k ∧ (k = 0 → o' (Int32.toNatClampNeg 0) = rb.toInt64) ∧ zJ9 nb sz mm (jj + 1) σ τ' := fun v hf hm => ⟨_, _, _, _, _, hf, rfl, hm, rfl, fun _ => o_at _ _, cm, by omega, w, od, kn, inp, rs, fs, h⟩
  -- a chain that both look into
  have both : ∀ (bl : List Nat) (k : Nat) , (fX9_block_0 n nb sz mm σ a1 a2 = fX9_block_45 n nb sz mm σ (chAt bl k)) → (fX10_block_0 n τ a1 a2 = (if chAt bl k = -1 then fX10_block_75 n (sI τ 0 0) (chAt bl k) 1 else fX10_block_75 n (sI τ 0 0) (chAt bl k) 0)) → ∃ (r1 : String ⊕ Int32) (k : Int32) (o' : Nat → Int64) (rb : Int32) (τ' : zS), fX9_block_0 n nb sz mm σ a1 a2 = some r1 ∧ fL_block r1 o = some (k, o') ∧ fX10_block_0 n τ a1 a2 = some (rb, τ') ∧ fX10_thrown_0 n τ' = some k ∧ (k = 0 → o' (Int32.toNatClampNeg 0) = rb.toInt64) ∧ zJ9 nb sz mm (jj + 1) σ τ' := by
    intro bl k hf hm
    unfold fX9_block_45 at hf
    unfold fX10_block_75 at hm
    rw [sI_sI, sI_sI] at hm
    by_cases c : chAt bl k = -1
    · rw [if_pos c] at hf hm
      exact bad hf ⟨_, hm⟩
    · rw [if_neg c] at hf hm
      exact ok _ hf hm
  by_cases c0 : a1 = -1
  · subst c0
    have hin : fX10_isIn_0 n zσ0 (-1) (-1) (nI rs.length - 1) = some 1 := m_isIn_y (by decide) ((i_pm (m := rs.length) (by omega)).mpr (m1_lt (by omega)))
    by_cases c2 : 0 ≤ a2 ∧ a2 ≤ 199
    · obtain ⟨k, hk, rfl⟩ := i_of199 c2.1 c2.2
      refine both inp k ?_ ?_
      · unfold fX9_block_0 fX9_block_10
        rw [if_pos rfl, if_pos rfl, hI.1]
        rcases Nat.lt_or_ge k inp.length with c3 | c3
        · have e := List.getElem?_eq_getElem c3
          rw [zb_s (c_get (m := inp.length) rfl c3 (by omega) (by omega)), hI.2 k _ e, chAt_some e]
        · rw [zb_s (c_get_out (m := inp.length) rfl (Or.inr (nI_le c3 (by omega)))), chAt_none c3]
      · unfold fX10_block_0 fX10_block_31 fX10_block_59
        rw [hM.1, zb_s hin, if_neg (by decide), zb_s (m_isIn_y c2.1 c2.2), if_neg (by decide), if_pos (by decide), if_pos rfl]
        exact zb_s (m_blockOf (τ := sI τ 0 0) (f := 0) (k := k) hn (by decide) (by omega) hM.2.2.2.2.2.2.2 (fun b hb => by have := hinp.1 b hb; omega))
    · refine bad ?_ ⟨0, ?_⟩
      · unfold fX9_block_0 fX9_block_10 fX9_block_45
        have hg : fX6_get_0 n nb (zrv (zI σ 17) (zA σ 5)) a2 = some (-1) := by
          refine c_get_out (m := inp.length) hI.1 ?_
          by_cases c3 : a2 < 0
          · exact Or.inl c3
          · right
            have h3 : ¬ a2 ≤ 199 := fun q => c2 ⟨i_nlt.mp c3, q⟩
            have h4 := Int32.lt_iff_toInt_lt.mp (i_nle.mp h3)
            rw [show (199 : Int32).toInt = 199 by decide] at h4
            rw [Int32.le_iff_toInt_le, nI_toInt (by omega)]
            omega
        rw [if_pos rfl, if_pos rfl, zb_s hg, if_pos rfl]
      · unfold fX10_block_0 fX10_block_30 fX10_block_31
        rw [hM.1, zb_s hin, if_neg (by decide), zb_s (m_isIn_n c2), if_pos rfl, if_neg (by decide)]
  · by_cases c1 : 0 ≤ a1 ∧ a1 < nI rs.length
    · obtain ⟨j, hj, rfl⟩ := i_of c1.1 c1.2 (by omega)
      obtain ⟨r, hr⟩ : ∃ r, rs[j]? = some r := ⟨rs[j], List.getElem?_eq_getElem hj⟩
      obtain ⟨f, hf⟩ : ∃ f, fs[j]? = some f := ⟨fs[j]'(by rw [hM.2.1]; exact hj), List.getElem?_eq_getElem _⟩
      have hrm := List.mem_of_getElem? hr
      have hfm := hM.2.2.2.1 f (List.mem_of_getElem? hf)
      have hblk := j_blk hB hrm
      have hin : fX10_isIn_0 n zσ0 (nI j) (-1) (nI rs.length - 1) = some 1 := m_isIn_y (m1_le (by omega)) ((i_pm (by omega)).mpr c1.2)
      have hcl : ∀ x : Int32, ∀ v : Int32, fX1_blockAt_0 n nb sz mm σ (nI (r.1.headD 0)) x = some v → fX9_block_0 n nb sz mm σ (nI j) x = fX9_block_45 n nb sz mm σ v := by
        intro x v hx
        unfold fX9_block_0 fX9_block_10 fX9_needRun_0 fX6_size_0
        rw [if_neg c0, if_neg (nI_nn (by omega))]
        show zb (if nI j < zI σ 32 then _ else _) _ = _
        rw [hC.1, if_pos c1.2]
        show (if nI j = -1 then _ else _) = _
        rw [if_neg c0, zb_s (c_get (m := rs.length) rfl hj (by omega) (by omega)), hC.2.1 j r hr, zb_s hx]
      by_cases c2 : 0 ≤ a2 ∧ a2 ≤ 199
      · obtain ⟨k, hk, rfl⟩ := i_of199 c2.1 c2.2
        refine both r.1 k (hcl _ _ (c_blockAt hn hnb (by omega) (hB.2.2 r hrm).1 (hC.2.2 r hrm).1 hblk.1 hblk.2)) ?_
        unfold fX10_block_0 fX10_block_31 fX10_block_59
        rw [hM.1, zb_s hin, if_neg (by decide), zb_s (m_isIn_y c2.1 c2.2), if_neg (by decide), if_pos (by decide), if_neg c0, zg_in (by omega) (by decide), nI_clamp (by omega), hM.2.2.2.2.2.1 j f hf]
        rw [zb_s (m_blockOf (τ := sI τ 0 0) (f := f) (k := k) hn hfm.2 (by omega) (hM.2.2.2.2.2.2.1 j f r hf hr) (fun b hb => by have := hblk.1 b hb; omega))]
      · refine bad ?_ ⟨0, ?_⟩
        · rw [hcl _ _ (c_blockAt_out hnb c2)]
          unfold fX9_block_45
          rw [if_pos rfl]
        · unfold fX10_block_0 fX10_block_30 fX10_block_31
          rw [hM.1, zb_s hin, if_neg (by decide), zb_s (m_isIn_n c2), if_pos rfl, if_neg (by decide)]
    · refine bad ?_ ⟨0, ?_⟩
      · unfold fX9_block_0 fX9_needRun_0 fX9_needRun_15 fX6_size_0
        rw [if_neg c0]
        by_cases c2 : a1 < 0
        · rw [if_pos c2]
          rfl
        · rw [if_neg c2]
          show zb (if a1 < zI σ 32 then _ else _) _ = _
          rw [hC.1, if_neg (fun q => c1 ⟨i_nlt.mp c2, q⟩)]
          rfl
      · unfold fX10_block_0 fX10_block_30 fX10_block_31
        have hno : ¬ (-1 ≤ a1 ∧ a1 ≤ nI rs.length - 1) := fun q => by
          have q1 := Int32.le_iff_toInt_le.mp q.1
          rw [show (-1 : Int32).toInt = -1 by decide] at q1
          have q2 : ¬ a1.toInt = -1 := fun e => c0 (Int32.toInt_inj.mp (by rw [e]; decide))
          exact c1 ⟨Int32.le_iff_toInt_le.mpr (by rw [show (0 : Int32).toInt = 0 by decide]; omega), (i_pm (by omega)).mp q.2⟩
        rw [hM.1, zb_s (m_isIn_n hno), if_pos rfl, if_neg (by decide)]
