/-- the tapes' runs come back to the row -/
theorem c_collect {n nb sz mm T : Nat} {L : Nat → List zP} {th wt c fr : Nat → Nat} {σ τ : zS} (hn : 300 < n) (hnb : nb ≤ 200) (hT6 : T ≤ 6) (h : PT T L th wt c fr σ τ) (hok : zTok σ) (hl : (cL L T).length ≤ nb) :
    ∃ σ', fX8_collect_p33_0 n nb sz mm σ = some σ' ∧ rwL hdP (cL L T) (zI σ' 32) (zA σ' 16) ∧ zfr [32] [16] [] σ σ' := by
  have hcl : ∀ m, m ≤ T → (cL L m).length ≤ (cL L T).length := by
    intro m hm
    obtain ⟨d, rfl⟩ : ∃ d, T = m + d := ⟨T - m, by omega⟩
    clear h hT6 hl hm
    induction d with
    | zero => exact Nat.le_refl _
    | succ d ih =>
      show _ ≤ (cL L (m + d) ++ _).length
      rw [List.length_append]
      omega
  have inner : ∀ (j : Nat) (σ1 : zS), 1 ≤ j → j ≤ T → rwL hdP (cL L (j - 1)) (zI σ1 32) (zA σ1 16) → zfr [32] [16] [] σ σ1 → ∃ σ2, zlp (fX8_collect_p33_L22_22 n nb sz mm (nI j)) n (0, σ1) = some σ2 ∧ rwL hdP (cL L j) (zI σ2 32) (zA σ2 16) ∧ zfr [32] [16] [] σ σ2 := by
    intro j σ1 j1 j2 q1 q2
    have hjl := cL_len (L := L) j1 j2
    have hcj : cL L j = cL L (j - 1) ++ L j := by
      obtain ⟨m, rfl⟩ : ∃ m, j = m + 1 := ⟨j - 1, by omega⟩
      rfl
    have hcl2 := hcl j j2
    rw [hcj, List.length_append] at hcl2
    have hlp := zlp_tot (body := fX8_collect_p33_L22_22 n nb sz mm (nI j)) (fun m a => ∃ i σ2, a = (nI i, σ2) ∧ i ≤ (L j).length ∧ m = (L j).length - i ∧ rwL hdP (cL L (j - 1) ++ (L j).take i) (zI σ2 32) (zA σ2 16) ∧ zfr [32] [16] [] σ σ2)
      (fun σ2 => rwL hdP (cL L j) (zI σ2 32) (zA σ2 16) ∧ zfr [32] [16] [] σ σ2)
      (fun m a hP => by
        obtain ⟨i, σ2, rfl, hi, rfl, p1, p2⟩ := hP
        unfold fX8_collect_p33_L22_22 fX6_size_0
        dsimp only
        have hz7 : z7 (zT σ2 j) = true := by rw [p2.2.2.2.1]; exact decide_eq_true (hok.1 j (by omega))
        have hrow : rwL hdP (L j) (zU σ2 (zT σ2 j)) (zV σ2 (zT σ2 j)) := by
          rw [p2.2.2.2.1, p2.2.2.2.2.1, p2.2.2.2.2.2]
          exact (h.2.1 j j1 j2).1
        simp only [zg_in (show j < 7 by omega) (show 7 < 2 ^ 31 by decide), nI_clamp (show j < 2 ^ 31 by omega), zg_t hz7]
        rw [zb_s (show some (zI (zrv (zU σ2 (zT σ2 j)) (zV σ2 (zT σ2 j))) 0) = some (nI (L j).length) from congrArg some hrow.1)]
        by_cases e : i = (L j).length
        · right
          rw [if_pos (nI_le (show (L j).length ≤ i by omega) (by omega))]
          rw [e, List.take_length, ← hcj] at p1
          exact ⟨_, rfl, p1, p2⟩
        · left
          have hil : i < (L j).length := by omega
          have eg := List.getElem?_eq_getElem hil
          generalize (L j)[i] = p at eg
          obtain ⟨s, s1, s2⟩ := rl_add (n := n) (ln := nb) (x := p) p1 (by rw [List.length_append, List.length_take]; omega) hnb
          rw [if_neg (show ¬ nI (L j).length ≤ nI i from fun q => by rw [nI_leI (by omega) (by omega)] at q; omega), zb_s (rl_get hrow eg (by omega) hnb), zb_s s1, nI_1]
          refine ⟨_, (L j).length - (i + 1), by omega, rfl, i + 1, _, rfl, by omega, rfl, ?_, zfr_A (by decide) (zfr_I (by decide) p2)⟩
          rw [take_snocG eg, ← List.append_assoc]
          exact s2)
      n (L j).length (0, σ1) (by omega) ⟨0, σ1, rfl, Nat.zero_le _, rfl, by rw [List.take_zero, List.append_nil]; exact q1, q2⟩
    obtain ⟨σ2, r1, r2, r3⟩ := hlp
    exact ⟨σ2, r1, r2, r3⟩
  have hlp := zlp_tot (body := fX8_collect_p33_L6_6 n nb sz mm) (fun m a => ∃ j σ1, a = (nI j, σ1) ∧ 1 ≤ j ∧ j ≤ T + 1 ∧ m = T + 1 - j ∧ rwL hdP (cL L (j - 1)) (zI σ1 32) (zA σ1 16) ∧ zfr [32] [16] [] σ σ1)
    (fun σ' => rwL hdP (cL L T) (zI σ' 32) (zA σ' 16) ∧ zfr [32] [16] [] σ σ')
    (fun m a hP => by
      obtain ⟨j, σ1, rfl, j1, j2, rfl, q1, q2⟩ := hP
      unfold fX8_collect_p33_L6_6
      dsimp only
      rw [show zI σ1 30 = nI T from (q2.1 30 (by decide)).trans h.1]
      by_cases e : j = T + 1
      · right
        rw [if_pos (nI_lt (show T < j by omega) (by omega))]
        rw [e, Nat.add_sub_cancel] at q1
        exact ⟨_, rfl, q1, q2⟩
      · left
        obtain ⟨σ2, r1, r2, r3⟩ := inner j σ1 j1 (by omega) q1 q2
        rw [if_neg (show ¬ nI T < nI j from fun q => by rw [nI_ltI (by omega) (by omega)] at q; omega), if_neg (show ¬ (6 : Int32) < nI j from fun q => by rw [show (6 : Int32) = nI 6 from rfl, nI_ltI (by omega) (by omega)] at q; omega), zb_s r1, nI_1]
        exact ⟨_, T + 1 - (j + 1), by omega, rfl, j + 1, σ2, rfl, by omega, by omega, rfl, r2, r3⟩)
    n T (nI 1, sA (sI σ 32 0) 16 (zA σ 16)) (by omega) ⟨1, _, rfl, by omega, by omega, by omega, rl_clear, zfr_A (by decide) (zfr_I (by decide) zfr_r)⟩
  obtain ⟨σ', r1, r2, r3⟩ := hlp
  refine ⟨σ', ?_, r2, r3⟩
  unfold fX8_collect_p33_0 fX6_clear_0
  refine (zb_s (a := sI (zrv (zI σ 32) (zA σ 16)) 0 0) rfl).trans ?_
  exact zb_s r1
/-- the same: the reference -/
theorem m_gather {n T : Nat} {L : Nat → List zP} {th wt c fr : Nat → Nat} {σ τ : zS} (hn : 300 < n) (hT6 : T ≤ 6) (h : PT T L th wt c fr σ τ) (hl : (cL L T).length ≤ 200) :
    ∃ τ', fX10_gather_0 n τ (nI T) = some τ' ∧ rwL flP (cL L T) (zI τ' 4) (zA τ' 7) ∧ zfr [4] [7] [] τ τ' := by
  have hcl : ∀ m, m ≤ T → (cL L m).length ≤ (cL L T).length := by
    intro m hm
    obtain ⟨d, rfl⟩ : ∃ d, T = m + d := ⟨T - m, by omega⟩
    clear h hT6 hl hm
    induction d with
    | zero => exact Nat.le_refl _
    | succ d ih =>
      show _ ≤ (cL L (m + d) ++ _).length
      rw [List.length_append]
      omega
  have inner : ∀ (j : Nat) (τ1 : zS), 1 ≤ j → j ≤ T → rwL flP (cL L (j - 1)) (zI τ1 4) (zA τ1 7) → zfr [4] [7] [] τ τ1 → ∃ τ2, zlp (fX10_gather_L27_27 n (nI T) (nI j) (nI (c j))) n (nI (fr j), τ1) = some τ2 ∧ rwL flP (cL L j) (zI τ2 4) (zA τ2 7) ∧ zfr [4] [7] [] τ τ2 := by
    intro j τ1 j1 j2 q1 q2
    obtain ⟨r22, r2, r3, r19, r20, r6, r7, r21⟩ := h.2.2.1 j j1 j2
    have hcj : cL L j = cL L (j - 1) ++ L j := by
      obtain ⟨m, rfl⟩ : ∃ m, j = m + 1 := ⟨j - 1, by omega⟩
      rfl
    have hcl2 := hcl j j2
    rw [hcj, List.length_append] at hcl2
    have hlp := zlp_tot (body := fX10_gather_L27_27 n (nI T) (nI j) (nI (c j))) (fun m a => ∃ i τ2, a = (nI (fr j + i), τ2) ∧ i ≤ (L j).length ∧ m = (L j).length - i ∧ rwL flP (cL L (j - 1) ++ (L j).take i) (zI τ2 4) (zA τ2 7) ∧ zfr [4] [7] [] τ τ2)
      (fun τ2 => rwL flP (cL L j) (zI τ2 4) (zA τ2 7) ∧ zfr [4] [7] [] τ τ2)
      (fun m a hP => by
        obtain ⟨i, τ2, rfl, hi, rfl, p1, p2⟩ := hP
        unfold fX10_gather_L27_27
        dsimp only
        rw [zg_in (show c j < 7 by omega) (by decide), nI_clamp (show c j < 2 ^ 31 by omega), p2.2.1 20 (by decide), r20]
        by_cases e : i = (L j).length
        · right
          rw [if_pos (nI_le (show fr j + (L j).length ≤ fr j + i by omega) (by omega))]
          rw [e, List.take_length, ← hcj] at p1
          exact ⟨_, rfl, p1, p2⟩
        · left
          have hil : i < (L j).length := by omega
          have eg := List.getElem?_eq_getElem hil
          generalize (L j)[i] = p at eg
          have hlen : (cL L (j - 1) ++ (L j).take i).length < 200 := by rw [List.length_append, List.length_take]; omega
          rw [if_neg (show ¬ nI (fr j + (L j).length) ≤ nI (fr j + i) from fun q => by rw [nI_leI (by omega) (by omega)] at q; omega), show (208 : Int32) = nI 208 from rfl, nI_mul, nI_add, zg_in (by omega) (by decide), p1.1, zg_in (by omega) (by decide), nI_clamp (show 208 * c j + (fr j + i) < 2 ^ 31 by omega), nI_clamp (show (cL L (j - 1) ++ (L j).take i).length < 2 ^ 31 by omega), p2.2.1 18 (by decide), r7 i p eg, nI_1, nI_1]
          refine ⟨_, (L j).length - (i + 1), by omega, rfl, i + 1, _, rfl, by omega, rfl, ⟨?_, fun x y hy => ?_⟩, zfr_I (by decide) (zfr_A (by decide) p2)⟩
          · show nI ((cL L (j - 1) ++ (L j).take i).length + 1) = _
            rw [take_snocG eg, ← List.append_assoc, List.length_append (bs := [p])]
            rfl
          · rw [take_snocG eg, ← List.append_assoc] at hy
            show upd (zA τ2 7) (cL L (j - 1) ++ (L j).take i).length (nI p.1) x = _
            rw [upd_at]
            rcases Nat.lt_or_ge x (cL L (j - 1) ++ (L j).take i).length with q | q
            · rw [List.getElem?_append_left q] at hy
              rw [if_neg (by omega)]
              exact p1.2 x y hy
            · have h3 := (List.getElem?_eq_some_iff.mp hy).1
              rw [List.length_append (bs := [p])] at h3
              have h4 : x = (cL L (j - 1) ++ (L j).take i).length := by
                simp only [List.length_cons, List.length_nil] at h3
                omega
              rw [h4, List.getElem?_append_right (Nat.le_refl _), Nat.sub_self] at hy
              rw [if_pos h4]
              cases hy
              rfl)
      n (L j).length (nI (fr j), τ1) (by omega) ⟨0, τ1, rfl, Nat.zero_le _, rfl, by rw [List.take_zero, List.append_nil]; exact q1, q2⟩
    obtain ⟨τ2, r1, r2, r3⟩ := hlp
    exact ⟨τ2, r1, r2, r3⟩
  have hlp := zlp_tot (body := fX10_gather_L7_7 n (nI T)) (fun m a => ∃ j τ1, a = (nI j, τ1) ∧ 1 ≤ j ∧ j ≤ T + 1 ∧ m = T + 1 - j ∧ rwL flP (cL L (j - 1)) (zI τ1 4) (zA τ1 7) ∧ zfr [4] [7] [] τ τ1)
    (fun τ' => rwL flP (cL L T) (zI τ' 4) (zA τ' 7) ∧ zfr [4] [7] [] τ τ')
    (fun m a hP => by
      obtain ⟨j, τ1, rfl, j1, j2, rfl, q1, q2⟩ := hP
      unfold fX10_gather_L7_7
      dsimp only
      by_cases e : j = T + 1
      · right
        rw [if_pos (nI_lt (show T < j by omega) (by omega))]
        rw [e, Nat.add_sub_cancel] at q1
        exact ⟨_, rfl, q1, q2⟩
      · left
        obtain ⟨r22, r2, r3, r19, r20, r6, r7, r21⟩ := h.2.2.1 j j1 (by omega)
        obtain ⟨τ2, s1, s2, s3⟩ := inner j τ1 j1 (by omega) q1 q2
        rw [if_neg (show ¬ nI T < nI j from fun q => by rw [nI_ltI (by omega) (by omega)] at q; omega), zg_in (show j < 7 by omega) (by decide), nI_clamp (show j < 2 ^ 31 by omega), q2.2.1 22 (by decide), r22, zg_in (show c j < 7 by omega) (by decide), nI_clamp (show c j < 2 ^ 31 by omega), q2.2.1 19 (by decide), r19, zb_s s1, nI_1]
        exact ⟨_, T + 1 - (j + 1), by omega, rfl, j + 1, τ2, rfl, by omega, by omega, rfl, s2, s3⟩)
    n T (nI 1, sI τ 4 0) (by omega) ⟨1, _, rfl, by omega, by omega, by omega, rl_clear, zfr_I (by decide) zfr_r⟩
  obtain ⟨τ', r1, r2, r3⟩ := hlp
  refine ⟨τ', ?_, r2, r3⟩
  unfold fX10_gather_0
  exact zb_s r1
/-- one level -/
theorem j_level {E : Prop} {n nb sz mm cm w od kn T l : Nat} {k1 : Int32} {inp : List Nat} {L0 : Nat → List zP} {th0 c fr0 : Nat → Nat} {σ τ : zS} (hn : 110000 ≤ n) (hnb0 : 2 ≤ nb) (hnb : nb ≤ 200) (hs5 : 5 ≤ sz) (hsz : sz ≤ 64) (hT : 3 ≤ T) (hT6 : T ≤ 6) (hJ : JS cm nb sz mm w od kn inp (cL L0 T) σ τ) (h : PT T L0 th0 (Av T (l + 1)) c fr0 σ τ) (hs0 : ∀ j, 1 ≤ j → j < T → th0 j + (L0 j).length = Av T (l + 1) j ∧ Av T (l + 1) j ≤ 400) (hT0 : th0 T = 0 ∧ L0 T = [] ∧ fr0 T = 0) (h17 : zI τ 17 = 0) (h7 : zI σ 7 = 0) (hE : E → cL L0 T = []) :
    ∃ rr σ' τ' L th fr, fX9_mergeLevel_0 n nb sz mm σ = some (rr, σ') ∧ zlp (fX10_poly_L81_81 n k1 (nI (T - 1))) n (nI (Av T (l + 1) (T - 1)), τ) = some τ' ∧ JS cm nb sz mm w od kn inp (cL L T) σ' τ' ∧ PT T L th (Av T (l + 1)) c fr σ' τ' ∧ zI τ' 26 = zI τ 26 ∧ (E → cL L T = [] ∧ zfp [29] [10, 15] [] σ σ') ∧
    ((rr = 1 ∧ (∀ j, 1 ≤ j → j < T → th j + (L j).length + Av T (l + 1) (T - 1) = Av T (l + 1) j) ∧ th T + (L T).length = Av T (l + 1) (T - 1) ∧ zI τ' 17 = 0 ∧ zI σ' 7 = 0) ∨ (rr = 0 ∧ ((zI τ' 17 = 1 ∧ zI σ' 7 = 1) ∨ (zI τ' 17 = 2 ∧ zI σ' 7 = 0)) ∧ ¬ E)) := by
  have hS4 := (hs0 (T - 1) (by omega) (by omega)).2
  generalize hSd : Av T (l + 1) (T - 1) = S at hS4
  have hSj : ∀ j, 1 ≤ j → j < T → S ≤ Av T (l + 1) j := fun j j1 j2 => by
    rw [← hSd, Av_s j1 j2, Av_s (by omega) (by omega), show T - 1 + 1 = T by omega]
    have : Av T l T = 0 := by
      cases l with
      | zero => exact if_neg (by omega)
      | succ l => exact Av_T
    omega
  have hloop := zlp_sk (body := fX9_mergeLevel_L8_8 n nb sz mm) (body' := fX10_poly_L81_81 n k1 (nI (T - 1)))
    (fun m a a' => ∃ r L th fr σ1 τ1, a = (nI r, σ1) ∧ a' = (nI r, τ1) ∧ m = r ∧ r ≤ S ∧ JS cm nb sz mm w od kn inp (cL L T) σ1 τ1 ∧ PT T L th (Av T (l + 1)) c fr σ1 τ1 ∧ (∀ j, 1 ≤ j → j < T → th j + (L j).length + S = Av T (l + 1) j + r) ∧ th T + (L T).length + r = S ∧ fr T = 0 ∧ zI τ1 17 = 0 ∧ zI σ1 7 = 0 ∧ zI τ1 26 = zI τ 26 ∧ (E → cL L T = [] ∧ zfp [29] [10, 15] [] σ σ1))
    (fun b b' => ∃ σ1 L th fr, JS cm nb sz mm w od kn inp (cL L T) σ1 b' ∧ PT T L th (Av T (l + 1)) c fr σ1 b' ∧ zI b' 26 = zI τ 26 ∧ (E → cL L T = [] ∧ (∀ σ9, b = .inl σ9 → zfp [29] [10, 15] [] σ σ9)) ∧ ((b = .inl σ1 ∧ (∀ j, 1 ≤ j → j < T → th j + (L j).length + S = Av T (l + 1) j) ∧ th T + (L T).length = S ∧ zI b' 17 = 0 ∧ zI σ1 7 = 0) ∨ (b = .inr σ1 ∧ ((zI b' 17 = 1 ∧ zI σ1 7 = 1) ∨ (zI b' 17 = 2 ∧ zI σ1 7 = 0)) ∧ ¬ E)))
    (fun m a a' hP => by
      obtain ⟨r, L, th, fr, σ1, τ1, rfl, rfl, rfl, hr, q1, q2, q3, q4, q5, q6, q7, q8, q9⟩ := hP
      by_cases e : m = 0
      · right; left
        subst e
        refine ⟨.inl σ1, τ1, ?_, ?_, σ1, L, th, fr, q1, q2, q8, (fun e9 => ⟨(q9 e9).1, fun σ9 h9 => by cases h9; exact (q9 e9).2⟩), Or.inl ⟨rfl, fun j j1 j2 => q3 j j1 j2, q4, q6, q7⟩⟩
        · unfold fX9_mergeLevel_L8_8
          exact if_pos (show nI 0 ≤ 0 by decide)
        · unfold fX10_poly_L81_81
          exact if_pos (show nI 0 ≤ 0 by decide)
      · have hst := j_pstep (n := n) (nb := nb) (sz := sz) (mm := mm) (r := nI m) (T := T) hn hnb0 hnb hs5 hsz hT hT6 q1 q2 (fun j j1 j2 => by
          by_cases z : j = T
          · rw [z]; omega
          · have := q3 j j1 (by omega)
            have := (hs0 j j1 (by omega)).2
            omega) (fun j j1 j2 => by
          have := q3 j j1 j2
          have := hSj j j1 j2
          omega) q5 q6 (nI_nle (by omega) (by omega))
        have hm : ∀ τ', fX10_together_0 n τ1 (nI (T - 1)) = some τ' → fX10_poly_L81_81 n k1 (nI (T - 1)) (nI m, τ1) = some (.inl (nI (m - 1), τ')) := fun τ' ht => by
          unfold fX10_poly_L81_81
          dsimp only
          rw [if_neg (nI_nle (by omega) (by omega)), if_pos q6, zb_s ht, nI_dec (by omega)]
        rcases hst with ⟨σ', τ', L2, th2, fr2, a1, a2, a3, a4, a5, a6, a6', a7, a8, a9, a10, a11, a12, a13, a14, a15⟩ | ⟨σ', τ', a1, a2, a3, a4, a5, a6, a7⟩
        · left
          rw [nI_dec (by omega)] at a1
          refine ⟨_, _, m - 1, by omega, a1, hm τ' a2, m - 1, L2, th2, fr2, σ', τ', rfl, rfl, rfl, by omega, a3, a4, fun j j1 j2 => ?_, by omega, a7, a8, a9.trans q7, a12.trans q8, fun e9 => ⟨(a15 (q9 e9).1).1, zfp_t (q9 e9).2 (a15 (q9 e9).1).2 (by decide) (by decide) (by decide)⟩⟩
          have := q3 j j1 j2
          have := (a5 j j1 j2).1
          omega
        · right; right
          rw [q7] at a5
          have h17n : ¬ zI τ' 17 = 0 := by
            rcases a5 with ⟨z, -⟩ | ⟨z, -⟩
            · rw [z]; decide
            · rw [z]; decide
          refine ⟨_, _, τ', a1, hm τ' a2, ?_, σ', L, th, fr, a3, a4, a6.trans q8, (fun e9 => ⟨(q9 e9).1, fun σ9 h9 => by cases h9⟩), Or.inr ⟨rfl, a5, fun e9 => a7 (q9 e9).1⟩⟩
          unfold fX10_poly_L81_81
          dsimp only
          by_cases z : nI (m - 1) ≤ 0
          · rw [if_pos z]
          · rw [if_neg z, if_neg h17n])
    n S (nI S, σ) (nI S, τ) (by omega) ⟨S, L0, th0, fr0, σ, τ, rfl, rfl, rfl, Nat.le_refl _, hJ, h, fun j j1 j2 => by rw [(hs0 j j1 j2).1], by rw [hT0.1, hT0.2.1]; show 0 + 0 + S = S; omega, hT0.2.2, h17, h7, rfl, fun e9 => ⟨hE e9, zfp_r⟩⟩
  obtain ⟨b, τ', l1, l2, σ', L, th, fr, k1, k2, k3, kE, k4⟩ := hloop
  have hst : fX8_stepsOfLevel_0 n nb sz mm σ = some (nI S) := by
    unfold fX8_stepsOfLevel_0
    rw [h.1, if_neg (nI_nle (by omega) (by omega)), if_neg (show ¬ (6 : Int32) < nI T from fun q => by rw [show (6 : Int32) = nI 6 from rfl, nI_ltI (by omega) (by omega)] at q; omega), show nI T - 1 = nI (T - 1) from by rw [show (1 : Int32) = nI 1 from rfl, nI_sub (by omega)], zg_in (by omega) (by decide), nI_clamp (by omega), (h.2.2.2.1 (T - 1) (by omega) (by omega)).1, hSd]
  rcases k4 with ⟨rfl, k5, k6, k7, k8⟩ | ⟨rfl, k5, k6⟩
  · refine ⟨1, σ', τ', L, th, fr, ?_, l2, k1, k2, k3, (fun e9 => ⟨(kE e9).1, (kE e9).2 σ' rfl⟩), Or.inl ⟨rfl, k5, k6, k7, k8⟩⟩
    unfold fX9_mergeLevel_0
    rw [zb_s hst, zb_s l1]
    rfl
  · refine ⟨0, σ', τ', L, th, fr, ?_, l2, k1, k2, k3, (fun e9 => absurd e9 k6), Or.inr ⟨rfl, k5, k6⟩⟩
    unfold fX9_mergeLevel_0
    rw [zb_s hst, zb_s l1]
    rfl
