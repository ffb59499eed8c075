def clF (f : Nat → Int32) (m : Nat) : Nat → Int32 := fun k => if k < m then 0 else f k
theorem clF_0 (f : Nat → Int32) : clF f 0 = f := by
  funext k
  unfold clF
  rw [if_neg (Nat.not_lt_zero k)]
theorem clF_s (f : Nat → Int32) (m : Nat) : upd (clF f m) m 0 = clF f (m + 1) := by
  funext k
  rw [upd_at]
  unfold clF
  by_cases h : k = m
  · rw [if_pos h, if_pos (by omega)]
  · rw [if_neg h]
    by_cases h2 : k < m
    · rw [if_pos h2, if_pos (by omega)]
    · rw [if_neg h2, if_neg (by omega)]
theorem c_chclear {n nb sz mm m : Nat} {k1 : Int32} {σ : zS} (hn : 300 < n) (hnb : nb ≤ 200) (hm : m ≤ nb) : zlp (fX9_chooseFewest_L18_18 n nb sz mm k1 (nI m)) n (0, σ) = some (sA σ 17 (clF (zA σ 17) m)) := by
  have e0 : ((0 : Int32), σ) = (fun j => (nI j, sA σ 17 (clF (zA σ 17) j))) 0 := by
    show _ = (nI 0, sA σ 17 (clF (zA σ 17) 0))
    rw [clF_0, sA_id]
    rfl
  rw [e0]
  refine zlp_for (β := zS) (fun j => (nI j, sA σ 17 (clF (zA σ 17) j))) _ m 0 n (fun j _ hj => ?_) ?_ (by omega)
  · unfold fX9_chooseFewest_L18_18
    dsimp only
    rw [if_neg (show ¬ nI m ≤ nI j from fun q => by rw [nI_leI (by omega) (by omega)] at q; omega), zg_in (by omega) (by omega), nI_clamp (by omega), sA_sA, nI_1, nar0, show zA (sA σ 17 (clF (zA σ 17) j)) 17 = clF (zA σ 17) j from rfl, clF_s]
  · unfold fX9_chooseFewest_L18_18
    dsimp only
    rw [Nat.zero_add, if_pos (nI_le (Nat.le_refl _) (by omega))]
theorem m_chclear {n m : Nat} {k1 : Int32} {τ : zS} (hn : 300 < n) (hm : m ≤ 200) (h4 : zI τ 4 = nI m) : zlp (fX10_choose_L2_2 n k1) n (0, τ) = some (sA τ 17 (clF (zA τ 17) m)) := by
  have e0 : ((0 : Int32), τ) = (fun j => (nI j, sA τ 17 (clF (zA τ 17) j))) 0 := by
    show _ = (nI 0, sA τ 17 (clF (zA τ 17) 0))
    rw [clF_0, sA_id]
    rfl
  rw [e0]
  refine zlp_for (β := zS) (fun j => (nI j, sA τ 17 (clF (zA τ 17) j))) _ m 0 n (fun j _ hj => ?_) ?_ (by omega)
  · unfold fX10_choose_L2_2
    dsimp only
    rw [show zI (sA τ 17 _) 4 = nI m from h4, if_neg (show ¬ nI m ≤ nI j from fun q => by rw [nI_leI (by omega) (by omega)] at q; omega), zg_in (by omega) (by decide), nI_clamp (by omega), sA_sA, nI_1, nar0, show zA (sA τ 17 (clF (zA τ 17) j)) 17 = clF (zA τ 17) j from rfl, clF_s]
  · unfold fX10_choose_L2_2
    dsimp only
    rw [show zI (sA τ 17 _) 4 = nI m from h4, Nat.zero_add, if_pos (nI_le (Nat.le_refl _) (by omega))]
/-- so many are chosen -/
theorem j_choose {n nb sz mm t : Nat} {ps : List (Nat × List Nat × Nat)} {σ τ : zS} (hn : 300 < n) (hnb : nb ≤ 200) (hl : ps.length ≤ nb) (hs : SH ps σ τ) (hC : ∀ p ∈ ps, p.2.1.headD 0 < nb ∧ zA σ 4 (p.2.1.headD 0) = nI p.2.2 ∧ p.1 < 208 ∧ zA τ 5 p.1 = nI p.2.2) (ht : t ≤ ps.length) (ht8 : t ≤ 8) :
    ∃ σ' τ', fX9_chooseFewest_0 n nb sz mm σ (nI t) = some σ' ∧ fX10_choose_0 n τ (nI t) = some τ' ∧ (∀ j, j < ps.length → zA σ' 17 j = zA τ' 17 j) ∧ cF (zA σ' 17) ps.length = t ∧ rwL hdP (selN (zA σ' 17) ps ps.length) (zI σ' 29) (zA σ' 10) ∧ zfr [29] [10, 17] [] σ σ' ∧ zfr [] [17] [] τ τ' := by
  obtain ⟨hrc, hrm⟩ := SH_rl.mp hs
  have hq : (if nI nb < nI ps.length then nI nb else nI ps.length) = nI ps.length := if_neg (fun q => by rw [nI_ltI (by omega) (by omega)] at q; omega)
  have hc1 := c_chclear (n := n) (nb := nb) (sz := sz) (mm := mm) (m := ps.length) (k1 := nI t) (σ := σ) hn hnb hl
  have hm1 := m_chclear (n := n) (m := ps.length) (k1 := nI t) (τ := τ) hn (by omega) hrm.1
  have hloop := zlp_two (body := fX9_chooseFewest_L38_38 n nb sz mm (nI ps.length)) (body' := fX10_choose_L25_25 n (nI t))
    (fun m a a' => ∃ j F G, a = (nI (t - j), sA σ 17 F) ∧ a' = (nI j, sA τ 17 G) ∧ j ≤ t ∧ m = t - j ∧ (∀ x, x < ps.length → F x = G x) ∧ cF F ps.length = j)
    (fun b b' => ∃ F G, b = sA σ 17 F ∧ b' = sA τ 17 G ∧ (∀ x, x < ps.length → F x = G x) ∧ cF F ps.length = t)
    (fun m a a' hP => by
      obtain ⟨j, F, G, rfl, rfl, hj, rfl, hFG, hcF⟩ := hP
      unfold fX9_chooseFewest_L38_38 fX10_choose_L25_25 fX9_chooseFewest_L38_129
      dsimp only
      by_cases c : j = t
      · right
        rw [if_pos (nI_le (show t ≤ j by omega) (by omega)), show t - j = 0 by omega, if_pos (show nI 0 ≤ 0 by decide)]
        exact ⟨_, _, rfl, rfl, F, G, rfl, rfl, hFG, by omega⟩
      · left
        obtain ⟨i, l1, l2, l3, l4⟩ := j_fewest (n := n) (nb := nb) (sz := sz) (mm := mm) (k1 := nI t) (k2 := nI j) (k3 := nI (t - j)) (ps := ps) (σ := sA σ 17 F) (τ := sA τ 17 G) hn hnb hl hs hC hFG (by show cF F ps.length < _; omega)
        rw [if_neg (show ¬ nI (t - j) ≤ 0 from nI_nle (by omega) (by omega)), if_neg (show ¬ nI t ≤ nI j from fun q => by rw [nI_leI (by omega) (by omega)] at q; omega), zb_s l1, zb_s l2, if_neg (nI_m1 (by omega)), zg_in (by omega) (by omega), zg_in (by omega) (by decide), nI_clamp (by omega), sA_sA, sA_sA, nar1, nI_dec (by omega), nI_1]
        refine ⟨_, _, t - (j + 1), by omega, rfl, rfl, j + 1, upd F i 1, upd G i 1, ?_, rfl, by omega, rfl, fun x hx => ?_, ?_⟩
        · rw [show t - (j + 1) = t - j - 1 by omega]
          rfl
        · rw [upd_at, upd_at, hFG x hx]
        · rw [cF_upd (F := F) l4 l3, hcF])
    n t (nI t, sA σ 17 (clF (zA σ 17) ps.length)) (0, sA τ 17 (clF (zA τ 17) ps.length)) (by omega) ⟨0, _, _, rfl, rfl, Nat.zero_le _, rfl, fun x hx => by unfold clF; rw [if_pos hx, if_pos hx], cF_0 (fun x hx => by unfold clF; rw [if_pos hx])⟩
  obtain ⟨_, _, l1, l2, F, G, rfl, rfl, hFG, hcF⟩ := hloop
  have hgl := zlp_tot (body := fX9_chooseFewest_L147_147 n nb sz mm (nI ps.length)) (fun m a => ∃ i σ1, a = (nI i, σ1) ∧ i ≤ ps.length ∧ m = ps.length - i ∧ rwL hdP (selN F ps i) (zI σ1 29) (zA σ1 10) ∧ zfr [29] [10] [] (sA σ 17 F) σ1)
    (fun σ1 => rwL hdP (selN F ps ps.length) (zI σ1 29) (zA σ1 10) ∧ zfr [29] [10] [] (sA σ 17 F) σ1)
    (fun m a hP => by
      obtain ⟨i, σ1, rfl, hi, rfl, h1, h2⟩ := hP
      unfold fX9_chooseFewest_L147_147 fX9_chooseFewest_L147_179
      dsimp only
      by_cases c : i = ps.length
      · right
        rw [if_pos (nI_le (show ps.length ≤ i by omega) (by omega))]
        exact ⟨_, rfl, c ▸ h1, h2⟩
      · left
        have hil : i < ps.length := by omega
        have e := List.getElem?_eq_getElem hil
        generalize ps[i] = p at e
        rw [if_neg (show ¬ nI ps.length ≤ nI i from fun q => by rw [nI_leI (by omega) (by omega)] at q; omega), zg_in (by omega) (by omega), nI_clamp (by omega), show zA σ1 17 i = F i from congrFun (h2.2.1 17 (by decide)) i, nI_1]
        by_cases d : F i = 0
        · rw [if_pos d]
          refine ⟨_, ps.length - (i + 1), by omega, rfl, i + 1, σ1, rfl, by omega, rfl, ?_, h2⟩
          unfold selN
          rw [if_pos d, List.append_nil]
          exact h1
        · have hlt : (selN F ps i).length < 8 := by
            rw [selN_len hi]
            have h3 : ∀ m, i + 1 + m ≤ ps.length → cF F i + 1 ≤ cF F (i + 1 + m) := by
              intro m
              induction m with
              | zero =>
                intro _
                show cF F i + 1 ≤ cF F i + (if F i = 0 then 0 else 1)
                rw [if_neg d]
                exact Nat.le_refl _
              | succ m ihm =>
                intro hm
                have := ihm (by omega)
                show cF F i + 1 ≤ cF F (i + 1 + m) + _
                omega
            have h4 := h3 (ps.length - (i + 1)) (by omega)
            rw [show i + 1 + (ps.length - (i + 1)) = ps.length by omega, hcF] at h4
            omega
          obtain ⟨s, s1, s2⟩ := rl_add (n := n) (ln := 8) (x := p) h1 hlt (by decide)
          rw [if_neg d, h2.1 32 (by decide), h2.2.1 16 (by decide), zb_s (show fX6_get_0 n nb (zrv (zI (sA σ 17 F) 32) (zA (sA σ 17 F) 16)) (nI i) = _ from rl_get hrc e hl hnb), zb_s s1]
          refine ⟨_, ps.length - (i + 1), by omega, rfl, i + 1, _, rfl, by omega, rfl, ?_, zfr_A (by decide) (zfr_I (by decide) h2)⟩
          unfold selN
          rw [if_neg d, e]
          exact s2)
    n ps.length (0, sA (sI (sA σ 17 F) 29 0) 10 (zA σ 10)) (by omega) ⟨0, _, rfl, Nat.zero_le _, rfl, rl_clear, zfr_A (by decide) (zfr_I (by decide) zfr_r)⟩
  obtain ⟨σ1, g1, g2, g3⟩ := hgl
  have h17 : zA σ1 17 = F := g3.2.1 17 (by decide)
  refine ⟨σ1, sA τ 17 G, ?_, ?_, ?_, ?_, ?_, ?_, zfr_A (by decide) zfr_r⟩
  · unfold fX9_chooseFewest_0 fX6_size_0 fX6_clear_0
    rw [zb_s (show some (zI (zrv (zI σ 32) (zA σ 16)) 0) = some (nI ps.length) from congrArg some hrc.1), hq, zb_s hc1, zb_s l1]
    refine (zb_s (a := sI (zrv (zI (sA σ 17 F) 29) (zA (sA σ 17 F) 10)) 0 0) rfl).trans ?_
    exact zb_s g1
  · unfold fX10_choose_0
    rw [zb_s hm1, zb_s l2]
  · rw [h17]; exact hFG
  · rw [h17]; exact hcF
  · rw [h17]; exact g2
  · exact zfr_t (zfr_A (by decide) zfr_r) g3 (by decide) (by decide) (by decide)
/-- the reference's sources, in their order -/
theorem m_chgather {n : Nat} {k1 : Int32} {F : Nat → Int32} {ps : List (Nat × List Nat × Nat)} {τ : zS} (hn : 300 < n) (hl : ps.length ≤ 200) (hr : rwL flP ps (zI τ 4) (zA τ 7)) (h17 : ∀ j, j < ps.length → zA τ 17 j = F j) (h8 : cF F ps.length ≤ 8) :
    ∃ τ', zlp (fX10_mergeChosen_L9_9 n k1) n (0, 0, τ) = some τ' ∧ (∀ (j : Nat) (p : Nat × List Nat × Nat), (selN F ps ps.length)[j]? = some p → zA τ' 13 j = nI p.1) ∧ zfr [] [13] [] τ τ' := by
  have hmono : ∀ i m, i ≤ m → cF F i ≤ cF F m := by
    intro i m him
    obtain ⟨d, rfl⟩ : ∃ d, m = i + d := ⟨m - i, by omega⟩
    clear him
    induction d with
    | zero => exact Nat.le_refl _
    | succ d ih =>
      show cF F i ≤ cF F (i + d) + _
      omega
  have hlp := zlp_tot (body := fX10_mergeChosen_L9_9 n k1) (fun m a => ∃ i τ1, a = (nI (cF F i), nI i, τ1) ∧ i ≤ ps.length ∧ m = ps.length - i ∧ (∀ (j : Nat) (p : Nat × List Nat × Nat), (selN F ps i)[j]? = some p → zA τ1 13 j = nI p.1) ∧ zfr [] [13] [] τ τ1)
    (fun τ1 => (∀ (j : Nat) (p : Nat × List Nat × Nat), (selN F ps ps.length)[j]? = some p → zA τ1 13 j = nI p.1) ∧ zfr [] [13] [] τ τ1)
    (fun m a hP => by
      obtain ⟨i, τ1, rfl, hi, rfl, h1, h2⟩ := hP
      unfold fX10_mergeChosen_L9_9 fX10_mergeChosen_L9_41
      dsimp only
      rw [h2.1 4 List.not_mem_nil, hr.1]
      by_cases c : i = ps.length
      · right
        rw [if_pos (nI_le (show ps.length ≤ i by omega) (by omega))]
        exact ⟨_, rfl, c ▸ h1, h2⟩
      · left
        have hil : i < ps.length := by omega
        have e := List.getElem?_eq_getElem hil
        generalize ps[i] = p at e
        have hcle := hmono (i + 1) ps.length (by omega)
        rw [if_neg (show ¬ nI ps.length ≤ nI i from fun q => by rw [nI_leI (by omega) (by omega)] at q; omega), zg_in (by omega) (by decide), nI_clamp (by omega), show zA τ1 17 i = F i from (congrFun (h2.2.1 17 (by decide)) i).trans (h17 i hil), nI_1]
        by_cases d : F i = 0
        · rw [if_pos d]
          refine ⟨_, ps.length - (i + 1), by omega, rfl, i + 1, τ1, ?_, by omega, rfl, ?_, h2⟩
          · show _ = (nI (cF F i + (if F i = 0 then 0 else 1)), _, _)
            rw [if_pos d]
            rfl
          · unfold selN
            rw [if_pos d, List.append_nil]
            exact h1
        · have hc1 : cF F (i + 1) = cF F i + 1 := by
            show cF F i + (if F i = 0 then 0 else 1) = _
            rw [if_neg d]
          rw [if_neg d, zg_in (by omega) (by decide), zg_in (show cF F i < 8 by omega) (by decide), nI_clamp (by omega), h2.2.1 7 (by decide), hr.2 i p e, nI_1]
          refine ⟨_, ps.length - (i + 1), by omega, rfl, i + 1, _, by rw [hc1], by omega, rfl, fun j x hj => ?_, zfr_A (by decide) h2⟩
          unfold selN at hj
          rw [if_neg d, e] at hj
          show upd (zA τ1 13) (cF F i) (nI p.1) j = _
          rw [upd_at]
          rcases Nat.lt_or_ge j (selN F ps i).length with q | q
          · rw [List.getElem?_append_left q] at hj
            rw [selN_len hi] at q
            rw [if_neg (by omega)]
            exact h1 j x hj
          · have h3 := (List.getElem?_eq_some_iff.mp hj).1
            rw [List.length_append] at h3
            have h4 : j = (selN F ps i).length := by
              have : (Option.toList (some p)).length = 1 := rfl
              omega
            rw [h4, List.getElem?_append_right (Nat.le_refl _), Nat.sub_self] at hj
            rw [selN_len hi] at h4
            rw [if_pos h4]
            cases hj
            rfl)
    n ps.length (0, 0, τ) (by omega) ⟨0, τ, rfl, Nat.zero_le _, rfl, (fun j p hj => absurd hj (by show ¬ ([] : List (Nat × List Nat × Nat))[j]? = some p; simp)), zfr_r⟩
  obtain ⟨τ', h1, h2, h3⟩ := hlp
  exact ⟨τ', h1, h2, h3⟩
/-- those that weren't chosen stay, in their order: the class -/
theorem c_chrest {n nb sz mm : Nat} {k1 k5 k6 : Int32} {F : Nat → Int32} {ps : List (Nat × List Nat × Nat)} {σ : zS} (hn : 300 < n) (hnb : nb ≤ 200) (hl : ps.length ≤ nb) (hl1 : 1 ≤ ps.length) (hr : rwL hdP ps (zI σ 32) (zA σ 16)) (h17 : zA σ 17 = F) :
    ∃ σ', zlp (fX9_mergeFewest_L101_101 n nb sz mm k1 k5 k6) n (nI (ps.length - 1), σ) = some σ' ∧ rwL hdP (unsN F ps ps.length) (zI σ' 32) (zA σ' 16) ∧ zfr [32] [16] [] σ σ' := by
  have hlp := zlp_tot (body := fX9_mergeFewest_L101_101 n nb sz mm k1 k5 k6) (fun m a => ∃ i σ1 T, a = (nI i - 1, σ1) ∧ i ≤ ps.length ∧ m = i ∧ unsN F ps ps.length = unsN F ps i ++ T ∧ rwL hdP (ps.take i ++ T) (zI σ1 32) (zA σ1 16) ∧ (ps.take i ++ T).length ≤ nb ∧ zfr [32] [16] [] σ σ1)
    (fun σ1 => rwL hdP (unsN F ps ps.length) (zI σ1 32) (zA σ1 16) ∧ zfr [32] [16] [] σ σ1)
    (fun m a hP => by
      obtain ⟨i, σ1, T, rfl, hi, rfl, h0, h1, h3, h2⟩ := hP
      unfold fX9_mergeFewest_L101_101 fX9_mergeFewest_L101_125
      dsimp only
      by_cases c : m = 0
      · right
        subst c
        rw [if_pos (show nI 0 - 1 < 0 by decide)]
        exact ⟨_, rfl, by rw [h0]; exact h1, h2⟩
      · left
        obtain ⟨i, rfl⟩ : ∃ i, m = i + 1 := ⟨m - 1, by omega⟩
        have hil : i < ps.length := by omega
        have e := List.getElem?_eq_getElem hil
        generalize ps[i] = p at e
        rw [nI_pred, if_neg (nI_nn (by omega)), zg_in (by omega) (by omega), nI_clamp (by omega), show zA σ1 17 i = F i from congrFun ((h2.2.1 17 (by decide)).trans h17) i]
        have hdec : ∀ s : zS, (nI i + -1, s) = (nI i - 1, s) := fun s => by
          rw [Int32.sub_eq_add_neg]
        by_cases d : F i = 0
        · rw [if_pos d]
          refine ⟨_, i, by omega, rfl, i, σ1, p :: T, hdec _, by omega, rfl, ?_, ?_, ?_, h2⟩
          · rw [h0]
            show unsN F ps i ++ (if F i = 0 then (ps[i]?).toList else []) ++ T = _
            rw [if_pos d, e, List.append_assoc]
            rfl
          · rw [take_snocG e, List.append_assoc] at h1
            exact h1
          · rw [take_snocG e, List.append_assoc] at h3
            exact h3
        · have hlt : i < (ps.take (i + 1) ++ T).length := by
            rw [List.length_append, List.length_take]
            omega
          obtain ⟨t, t1, t2⟩ := rl_remove (n := n) (ln := nb) (i := i) hn h1 hlt h3 hnb
          rw [if_neg d, zb_s t1]
          rw [take_app_erase hil] at t2
          refine ⟨_, i, by omega, rfl, i, _, T, hdec _, by omega, rfl, ?_, t2, ?_, zfr_A (by decide) (zfr_I (by decide) h2)⟩
          · rw [h0]
            show unsN F ps i ++ (if F i = 0 then (ps[i]?).toList else []) ++ T = _
            rw [if_neg d, List.append_nil]
          · rw [List.length_append, List.length_take] at h3 ⊢
            omega)
    n ps.length (nI (ps.length - 1), σ) (by omega) ⟨ps.length, σ, [], by rw [show (1 : Int32) = nI 1 from rfl, nI_sub hl1], Nat.le_refl _, rfl, by rw [List.append_nil], by rw [List.take_length, List.append_nil]; exact hr, by rw [List.take_length, List.append_nil]; exact hl, zfr_r⟩
  obtain ⟨σ', h1, h2, h3⟩ := hlp
  exact ⟨σ', h1, h2, h3⟩
theorem unsN_len {α : Type} {F : Nat → Int32} {ps : List α} : ∀ {m : Nat}, m ≤ ps.length → (unsN F ps m).length + cF F m = m := by
  intro m
  induction m with
  | zero => intro _; rfl
  | succ m ih =>
    intro h
    have := ih (by omega)
    unfold unsN cF
    rw [List.length_append]
    by_cases c : F m = 0
    · rw [if_pos c, if_pos c, List.getElem?_eq_getElem (by omega)]
      show _ + 1 + _ = _
      omega
    · rw [if_neg c, if_neg c]
      show _ + 0 + _ = _
      omega
/-- the same: the reference -/
theorem m_chrest {n : Nat} {k3 : Int32} {F : Nat → Int32} {ps : List (Nat × List Nat × Nat)} {τ : zS} (hn : 300 < n) (hl : ps.length ≤ 200) (hr : rwL flP ps (zI τ 4) (zA τ 7)) (h17 : ∀ j, j < ps.length → zA τ 17 j = F j) :
    ∃ τ', zlp (fX10_mergeChosen_L65_65 n k3) n (0, 0, τ) = some (nI (unsN F ps ps.length).length, τ') ∧ (∀ (j : Nat) (p : Nat × List Nat × Nat), (unsN F ps ps.length)[j]? = some p → zA τ' 7 j = nI p.1) ∧ zfr [] [7] [] τ τ' := by
  have hlp := zlp_tot (body := fX10_mergeChosen_L65_65 n k3) (fun m a => ∃ i τ1, a = (nI (unsN F ps i).length, nI i, τ1) ∧ i ≤ ps.length ∧ m = ps.length - i ∧ (∀ (j : Nat) (p : Nat × List Nat × Nat), (unsN F ps i)[j]? = some p → zA τ1 7 j = nI p.1) ∧ (∀ j, i ≤ j → zA τ1 7 j = zA τ 7 j) ∧ zfr [] [7] [] τ τ1)
    (fun b => ∃ τ1, b = (nI (unsN F ps ps.length).length, τ1) ∧ (∀ (j : Nat) (p : Nat × List Nat × Nat), (unsN F ps ps.length)[j]? = some p → zA τ1 7 j = nI p.1) ∧ zfr [] [7] [] τ τ1)
    (fun m a hP => by
      obtain ⟨i, τ1, rfl, hi, rfl, h1, h1b, h2⟩ := hP
      unfold fX10_mergeChosen_L65_65 fX10_mergeChosen_L65_101
      dsimp only
      rw [h2.1 4 List.not_mem_nil, hr.1]
      by_cases c : i = ps.length
      · right
        rw [if_pos (nI_le (show ps.length ≤ i by omega) (by omega))]
        exact ⟨_, rfl, τ1, by rw [c], c ▸ h1, h2⟩
      · left
        have hil : i < ps.length := by omega
        have e := List.getElem?_eq_getElem hil
        generalize ps[i] = p at e
        have hul := unsN_len (F := F) (ps := ps) hi
        rw [if_neg (show ¬ nI ps.length ≤ nI i from fun q => by rw [nI_leI (by omega) (by omega)] at q; omega), zg_in (by omega) (by decide), nI_clamp (by omega), show zA τ1 17 i = F i from (congrFun (h2.2.1 17 (by decide)) i).trans (h17 i hil), nI_1]
        by_cases d : F i = 0
        · have hc1 : (unsN F ps (i + 1)).length = (unsN F ps i).length + 1 := by
            show (unsN F ps i ++ (if F i = 0 then (ps[i]?).toList else [])).length = _
            rw [if_pos d, e, List.length_append]
            rfl
          rw [if_pos d, zg_in (by omega) (by decide), zg_in (show (unsN F ps i).length < 208 by omega) (by decide), nI_clamp (by omega), h1b i (Nat.le_refl _), hr.2 i p e, nI_1]
          refine ⟨_, ps.length - (i + 1), by omega, rfl, i + 1, _, by rw [hc1], by omega, rfl, fun j x hj => ?_, fun j hj => ?_, zfr_A (by decide) h2⟩
          · unfold unsN at hj
            rw [if_pos d, e] at hj
            show upd (zA τ1 7) (unsN F ps i).length (nI p.1) j = _
            rw [upd_at]
            rcases Nat.lt_or_ge j (unsN F ps i).length with q | q
            · rw [List.getElem?_append_left q] at hj
              rw [if_neg (by omega)]
              exact h1 j x hj
            · have h3 := (List.getElem?_eq_some_iff.mp hj).1
              rw [List.length_append] at h3
              have h4 : j = (unsN F ps i).length := by
                have : (Option.toList (some p)).length = 1 := rfl
                omega
              rw [h4, List.getElem?_append_right (Nat.le_refl _), Nat.sub_self] at hj
              rw [if_pos h4]
              cases hj
              rfl
          · show upd (zA τ1 7) (unsN F ps i).length (nI p.1) j = _
            rw [upd_at, if_neg (by omega)]
            exact h1b j (by omega)
        · rw [if_neg d]
          have hc1 : unsN F ps (i + 1) = unsN F ps i := by
            show unsN F ps i ++ (if F i = 0 then _ else _) = _
            rw [if_neg d, List.append_nil]
          refine ⟨_, ps.length - (i + 1), by omega, rfl, i + 1, τ1, by rw [hc1, nI_1], by omega, rfl, by rw [hc1]; exact h1, fun j hj => h1b j (by omega), h2⟩)
    n ps.length (0, 0, τ) (by omega) ⟨0, τ, rfl, Nat.zero_le _, rfl, (fun j p hj => absurd hj (by show ¬ ([] : List (Nat × List Nat × Nat))[j]? = some p; simp)), fun _ _ => rfl, zfr_r⟩
  obtain ⟨_, h1, τ', rfl, h2, h3⟩ := hlp
  exact ⟨τ', h1, h2, h3⟩
