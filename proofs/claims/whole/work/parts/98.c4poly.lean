theorem pt_pop {T j : Nat} {L : Nat → List zP} {th wt c fr : Nat → Nat} {σ τ s : zS} (h : PT T L th wt c fr σ τ) (hok : zTok σ) (hT6 : T ≤ 6) (hj1 : 1 ≤ j) (hjT : j ≤ T) (hne : ¬ L j = []) (hs : rwL hdP (L j).tail (zI s 0) (zA s 0)) : PT T (lU L j (L j).tail) th wt c (nU fr j (fr j + 1)) (sV (sU σ (zT σ j) (zI s 0)) (zT σ j) (zA s 0)) (sA τ 19 (upd (zA τ 19) (c j) (nI (fr j + 1)))) := by
  obtain ⟨h1, h2, h3, h4, h5⟩ := h
  have hlen : (L j).tail.length + 1 = (L j).length := by
    cases e : L j with
    | nil => exact absurd e hne
    | cons a t => rfl
  refine ⟨h1, fun k k1 k2 => ⟨?_, (h2 k k1 k2).2⟩, fun k k1 k2 => ?_, h4, h5⟩
  · show rwL hdP (lU L j (L j).tail k) (if zT σ k = zT σ j then zI s 0 else zU σ (zT σ k)) (if zT σ k = zT σ j then zA s 0 else zV σ (zT σ k))
    by_cases q : k = j
    · rw [q, if_pos rfl, if_pos rfl, show lU L j (L j).tail j = (L j).tail from if_pos rfl]
      exact hs
    · have hne : ¬ zT σ k = zT σ j := fun z => q (hok.2 k j (by omega) (by omega) z)
      rw [if_neg hne, if_neg hne, show lU L j (L j).tail k = L k from if_neg q]
      exact (h2 k k1 k2).1
  · obtain ⟨a1, a2, a3, a4, a5, a6, a7, a8⟩ := h3 k k1 k2
    by_cases q : k = j
    · subst q
      rw [show lU L k (L k).tail k = (L k).tail from if_pos rfl, show nU fr k (fr k + 1) k = fr k + 1 from if_pos rfl]
      refine ⟨a1, a2, a3, ?_, ?_, by omega, fun i x hx => ?_, a8⟩
      · show upd (zA τ 19) (c k) _ (c k) = _
        rw [upd_at, if_pos rfl]
      · show zA τ 20 (c k) = _
        rw [a5]
        congr 1
        omega
      · show zA τ 18 (208 * c k + (fr k + 1 + i)) = _
        rw [show fr k + 1 + i = fr k + (i + 1) by omega]
        refine a7 (i + 1) x ?_
        cases e : L k with
        | nil => exact absurd e hne
        | cons a t => rw [e] at hx; exact hx
    · have hne : ¬ c k = c j := fun z => q (h5 k j k1 k2 hj1 hjT z)
      rw [show lU L j (L j).tail k = L k from if_neg q, show nU fr j (fr j + 1) k = fr k from if_neg q]
      refine ⟨a1, a2, a3, ?_, a5, a6, a7, a8⟩
      show upd (zA τ 19) (c j) _ (c k) = _
      rw [upd_at, if_neg hne]
      exact a4
def fT (fr th : Nat → Nat) (m : Nat) : Nat → Nat := fun k => if 1 ≤ k ∧ k ≤ m ∧ th k = 0 then fr k + 1 else fr k
/-- one goes from each tape -/
theorem j_shift {n nb sz mm T : Nat} {k1 k2 k3 k5 x1 : Int32} {L : Nat → List zP} {th wt c fr : Nat → Nat} {σ τ : zS} (hn : 300 < n) (hnb : nb ≤ 200) (hT6 : T ≤ 6) (hT1 : 1 ≤ T) (hk1 : k1 = nI (T - 1)) (h : PT T L th wt c fr σ τ) (hok : zTok σ) (hln : ∀ j, 1 ≤ j → j ≤ T → (L j).length ≤ nb) (hth : ∀ j, 1 ≤ j → j ≤ T → th j < 2 ^ 30) (hne : ∀ j, 1 ≤ j → j < T → th j = 0 → ¬ L j = []) :
    ∃ σ' τ', zlp (fX8_shift_L2_2 n nb sz mm x1) n (1, σ) = some σ' ∧ zlp (fX10_together_L141_141 n k1 k2 k3 k5) n (1, τ) = some τ' ∧ PT T (lT L th (T - 1)) (tT th (T - 1)) wt c (fT fr th (T - 1)) σ' τ' ∧ zT σ' = zT σ ∧ zfp [] [15] [] σ σ' ∧ zfr [] [19, 21] [] τ τ' := by
  subst hk1
  have hloop := zlp_two (body := fX8_shift_L2_2 n nb sz mm x1) (body' := fX10_together_L141_141 n (nI (T - 1)) k2 k3 k5)
    (fun m a a' => ∃ j σ1 τ1, a = (nI j, σ1) ∧ a' = (nI j, τ1) ∧ 1 ≤ j ∧ j ≤ T ∧ m = T - j ∧ PT T (lT L th (j - 1)) (tT th (j - 1)) wt c (fT fr th (j - 1)) σ1 τ1 ∧ zT σ1 = zT σ ∧ zfp [] [15] [] σ σ1 ∧ zfr [] [19, 21] [] τ τ1)
    (fun b b' => PT T (lT L th (T - 1)) (tT th (T - 1)) wt c (fT fr th (T - 1)) b b' ∧ zT b = zT σ ∧ zfp [] [15] [] σ b ∧ zfr [] [19, 21] [] τ b')
    (fun m a a' hP => by
      obtain ⟨j, σ1, τ1, rfl, rfl, hj1, hjT, rfl, q1, q2, q3, q4⟩ := hP
      unfold fX8_shift_L2_2 fX10_together_L141_141 fX8_shift_L2_48 fX10_together_L141_191
      dsimp only
      rw [show zI σ1 30 = nI T from q1.1]
      by_cases e : j = T
      · right
        rw [if_pos (nI_le (show T ≤ j by omega) (by omega)), if_pos (nI_lt (show T - 1 < j by omega) (by omega))]
        exact ⟨_, _, rfl, rfl, e ▸ q1, q2, q3, q4⟩
      · left
        have hjT2 : j < T := by omega
        have hok1 : zTok σ1 := by unfold zTok; rw [q2]; exact hok
        have hz7 : z7 (zT σ1 j) = true := decide_eq_true (hok1.1 j (by omega))
        have hLj : lT L th (j - 1) j = L j := if_neg (by omega)
        have htj : tT th (j - 1) j = th j := if_neg (by omega)
        have hfj : fT fr th (j - 1) j = fr j := if_neg (by omega)
        have r15 := (q1.2.1 j hj1 (by omega)).2
        have rrow := (q1.2.1 j hj1 (by omega)).1
        obtain ⟨r22, r2, r3, r19, r20, r6, -, r21⟩ := q1.2.2.1 j hj1 (by omega)
        rw [htj] at r15 r21
        rw [hfj] at r19
        rw [if_neg (show ¬ nI T ≤ nI j from fun q => by rw [nI_leI (by omega) (by omega)] at q; omega), if_neg (show ¬ (6 : Int32) ≤ nI j from fun q => by rw [show (6 : Int32) = nI 6 from rfl, nI_leI (by omega) (by omega)] at q; omega), if_neg (show ¬ nI (T - 1) < nI j from fun q => by rw [nI_ltI (by omega) (by omega)] at q; omega)]
        simp only [zg_in (show j < 7 by omega) (show 7 < 2 ^ 31 by decide), nI_clamp (show j < 2 ^ 31 by omega), zg_t hz7]
        rw [r22]
        simp only [zg_in (show c j < 7 by omega) (show 7 < 2 ^ 31 by decide), nI_clamp (show c j < 2 ^ 31 by omega)]
        rw [r15, r21, nI_1, r19, nI_1]
        by_cases d : th j = 0
        · rw [d, if_pos (show nI 0 ≤ 0 by decide), if_pos (show nI 0 ≤ 0 by decide)]
          have hne2 := hne j hj1 hjT2 d
          rw [hLj] at rrow
          obtain ⟨s, s1, s2⟩ := rl_remove (n := n) (ln := nb) (i := 0) hn rrow (List.length_pos_iff.mpr hne2) (hln j hj1 (by omega)) hnb
          rw [List.eraseIdx_zero] at s2
          have s1' : fX6_removeAt_0 n nb (zrv (zU σ1 (zT σ1 j)) (zV σ1 (zT σ1 j))) 0 = some s := s1
          rw [zb_s s1']
          have hpop := pt_pop (s := s) q1 hok1 hT6 hj1 (show j ≤ T by omega) (by rw [hLj]; exact hne2) (by rw [hLj]; exact s2)
          rw [hLj, hfj] at hpop
          have e1 : lU (lT L th (j - 1)) j (L j).tail = lT L th j := by
            funext k
            unfold lU lT
            by_cases z : k = j
            · rw [if_pos z, if_pos (by rw [z]; exact ⟨hj1, Nat.le_refl _, d⟩), z]
            · rw [if_neg z]
              by_cases y : 1 ≤ k ∧ k ≤ j - 1 ∧ th k = 0
              · rw [if_pos y, if_pos (by omega)]
              · rw [if_neg y, if_neg (by omega)]
          have e2 : nU (fT fr th (j - 1)) j (fr j + 1) = fT fr th j := by
            funext k
            unfold nU fT
            by_cases z : k = j
            · rw [if_pos z, if_pos (by rw [z]; exact ⟨hj1, Nat.le_refl _, d⟩), z]
            · rw [if_neg z]
              by_cases y : 1 ≤ k ∧ k ≤ j - 1 ∧ th k = 0
              · rw [if_pos y, if_pos (by omega)]
              · rw [if_neg y, if_neg (by omega)]
          have e3 : tT th (j - 1) = tT th j := by
            funext k
            unfold tT
            by_cases z : k = j
            · rw [if_neg (by omega), if_pos (by omega), z, d]
            · by_cases y : 1 ≤ k ∧ k ≤ j - 1
              · rw [if_pos y, if_pos (by omega)]
              · rw [if_neg y, if_neg (by omega)]
          rw [e1, e2, e3] at hpop
          exact ⟨_, _, T - (j + 1), by omega, rfl, rfl, j + 1, _, _, rfl, rfl, by omega, by omega, rfl, hpop, q2, zfp_V (zfp_U q3), zfr_A (by decide) q4⟩
        · have hb := hth j hj1 (by omega)
          rw [if_neg (show ¬ nI (th j) ≤ 0 from nI_nle (by omega) (by omega)), if_neg (show ¬ nI (th j) ≤ 0 from nI_nle (by omega) (by omega)), show nI (th j) - 1 = nI (th j - 1) from by rw [show (1 : Int32) = nI 1 from rfl, nI_sub (by omega)]]
          have hpt := pt_th (v := th j - 1) q1 hj1 (show j ≤ T by omega)
          have e1 : lT L th (j - 1) = lT L th j := by
            funext k
            unfold lT
            by_cases z : k = j
            · rw [if_neg (by omega), if_neg (fun y => d (by rw [← z]; exact y.2.2))]
            · by_cases y : 1 ≤ k ∧ k ≤ j - 1 ∧ th k = 0
              · rw [if_pos y, if_pos (by omega)]
              · rw [if_neg y, if_neg (by omega)]
          have e2 : fT fr th (j - 1) = fT fr th j := by
            funext k
            unfold fT
            by_cases z : k = j
            · rw [if_neg (by omega), if_neg (fun y => d (by rw [← z]; exact y.2.2))]
            · by_cases y : 1 ≤ k ∧ k ≤ j - 1 ∧ th k = 0
              · rw [if_pos y, if_pos (by omega)]
              · rw [if_neg y, if_neg (by omega)]
          have e3 : nU (tT th (j - 1)) j (th j - 1) = tT th j := by
            funext k
            unfold nU tT
            by_cases z : k = j
            · rw [if_pos z, if_pos (by omega), z]
            · rw [if_neg z]
              by_cases y : 1 ≤ k ∧ k ≤ j - 1
              · rw [if_pos y, if_pos (by omega)]
              · rw [if_neg y, if_neg (by omega)]
          rw [e1, e2, e3] at hpt
          exact ⟨_, _, T - (j + 1), by omega, rfl, rfl, j + 1, _, _, rfl, rfl, by omega, by omega, rfl, hpt, q2, zfp_A (by decide) q3, zfr_A (by decide) q4⟩)
    n (T - 1) (nI 1, σ) (nI 1, τ) (by omega) ⟨1, σ, τ, rfl, rfl, by omega, hT1, rfl, by
      have e1 : lT L th (1 - 1) = L := by funext k; exact if_neg (by omega)
      have e2 : tT th (1 - 1) = th := by funext k; exact if_neg (by omega)
      have e3 : fT fr th (1 - 1) = fr := by funext k; exact if_neg (by omega)
      rw [e1, e2, e3]
      exact h, rfl, zfp_r, zfr_r⟩
  obtain ⟨σ', τ', h1, h2, h3, h4, h5, h6⟩ := hloop
  exact ⟨σ', τ', h1, h2, h3, h4, h5, h6⟩
theorem gF_snoc0 {L : Nat → List zP} {th : Nat → Nat} {j : Nat} {p : zP} {t : List zP} (hj : 1 ≤ j) (h0 : th j = 0) (hL : L j = p :: t) : gF L th j = gF L th (j - 1) ++ [p] := by
  obtain ⟨m, rfl⟩ : ∃ m, j = m + 1 := ⟨j - 1, by omega⟩
  show gF L th m ++ (if th (m + 1) = 0 then (L (m + 1)).head?.toList else []) = _
  rw [if_pos h0, hL]
  rfl
theorem gF_snoc1 {L : Nat → List zP} {th : Nat → Nat} {j : Nat} (hj : 1 ≤ j) (h0 : ¬ th j = 0) : gF L th j = gF L th (j - 1) := by
  obtain ⟨m, rfl⟩ : ∃ m, j = m + 1 := ⟨j - 1, by omega⟩
  show gF L th m ++ (if th (m + 1) = 0 then (L (m + 1)).head?.toList else []) = _
  rw [if_neg h0, List.append_nil]
  rfl
/-- the fronts are gathered: the class -/
theorem c_fronts {n nb sz mm T : Nat} {L : Nat → List zP} {th wt c fr : Nat → Nat} {σ τ : zS} (hn : 300 < n) (hnb : nb ≤ 200) (hT6 : T ≤ 6) (hT1 : 1 ≤ T) (h : PT T L th wt c fr σ τ) (hok : zTok σ) (hln : ∀ j, 1 ≤ j → j ≤ T → (L j).length ≤ nb) (hth : ∀ j, 1 ≤ j → j ≤ T → th j < 2 ^ 30) (hne : ∀ j, 1 ≤ j → j < T → th j = 0 → ¬ L j = []) :
    ∃ σ', fX8_gatherFronts_p24_0 n nb sz mm σ = some σ' ∧ rwL hdP (gF L th (T - 1)) (zI σ' 29) (zA σ' 10) ∧ zfr [29] [10] [] σ σ' := by
  have hlp := zlp_tot (body := fX8_gatherFronts_p24_L6_6 n nb sz mm) (fun m a => ∃ j σ1, a = (nI j, σ1) ∧ 1 ≤ j ∧ j ≤ T ∧ m = T - j ∧ rwL hdP (gF L th (j - 1)) (zI σ1 29) (zA σ1 10) ∧ zfr [29] [10] [] σ σ1)
    (fun σ' => rwL hdP (gF L th (T - 1)) (zI σ' 29) (zA σ' 10) ∧ zfr [29] [10] [] σ σ')
    (fun m a hP => by
      obtain ⟨j, σ1, rfl, hj1, hjT, rfl, q1, q2⟩ := hP
      unfold fX8_gatherFronts_p24_L6_6 fX8_gatherFronts_p24_L6_43
      dsimp only
      rw [show zI σ1 30 = nI T from (q2.1 30 (by decide)).trans h.1]
      by_cases e : j = T
      · right
        rw [if_pos (nI_le (show T ≤ j by omega) (by omega))]
        exact ⟨_, rfl, e ▸ q1, q2⟩
      · left
        have hjT2 : j < T := by omega
        have r15 := (h.2.1 j hj1 (by omega)).2
        have hb := hth j hj1 (by omega)
        have hz7 : z7 (zT σ1 j) = true := by rw [q2.2.2.2.1]; exact decide_eq_true (hok.1 j (by omega))
        rw [if_neg (show ¬ nI T ≤ nI j from fun q => by rw [nI_leI (by omega) (by omega)] at q; omega), if_neg (show ¬ (6 : Int32) ≤ nI j from fun q => by rw [show (6 : Int32) = nI 6 from rfl, nI_leI (by omega) (by omega)] at q; omega)]
        simp only [zg_in (show j < 7 by omega) (show 7 < 2 ^ 31 by decide), nI_clamp (show j < 2 ^ 31 by omega), zg_t hz7]
        rw [show zA σ1 15 j = nI (th j) from (congrFun (q2.2.1 15 (by decide)) j).trans r15, nI_1]
        by_cases d : th j = 0
        · rw [d, if_pos (show nI 0 = 0 from rfl)]
          have hne2 := hne j hj1 hjT2 d
          cases eL : L j with
          | nil => exact absurd eL hne2
          | cons p t =>
            have hgl := gF_len (L := L) (th := th) (m := j - 1)
            obtain ⟨s, s1, s2⟩ := rl_add (n := n) (ln := 8) (x := p) q1 (by omega) (by decide)
            have hg : fX6_get_0 n nb (zrv (zU σ1 (zT σ1 j)) (zV σ1 (zT σ1 j))) 0 = some (nI (hdP p)) := by
              rw [q2.2.2.2.1, q2.2.2.2.2.1, q2.2.2.2.2.2]
              exact rl_get (j := 0) (h.2.1 j hj1 (by omega)).1 (by rw [eL]; rfl) (hln j hj1 (by omega)) hnb
            rw [zb_s hg, zb_s s1]
            refine ⟨_, T - (j + 1), by omega, rfl, j + 1, _, rfl, by omega, by omega, rfl, ?_, zfr_A (by decide) (zfr_I (by decide) q2)⟩
            rw [Nat.add_sub_cancel, gF_snoc0 hj1 d eL]
            exact s2
        · rw [if_neg (show ¬ nI (th j) = 0 from nI_ne0 (by omega) (by omega))]
          refine ⟨_, T - (j + 1), by omega, rfl, j + 1, σ1, rfl, by omega, by omega, rfl, ?_, q2⟩
          rw [Nat.add_sub_cancel, gF_snoc1 hj1 d]
          exact q1)
    n (T - 1) (nI 1, sA (sI σ 29 0) 10 (zA σ 10)) (by omega) ⟨1, _, rfl, by omega, hT1, rfl, rl_clear, zfr_A (by decide) (zfr_I (by decide) zfr_r)⟩
  obtain ⟨σ', h1, h2, h3⟩ := hlp
  refine ⟨σ', ?_, h2, h3⟩
  unfold fX8_gatherFronts_p24_0 fX6_clear_0
  refine (zb_s (a := sI (zrv (zI σ 29) (zA σ 10)) 0 0) rfl).trans ?_
  exact zb_s h1
/-- the same: the reference -/
theorem m_fronts {n T : Nat} {k2 k3 : Int32} {L : Nat → List zP} {th wt c fr : Nat → Nat} {σ τ : zS} (hn : 300 < n) (hT6 : T ≤ 6) (hT1 : 1 ≤ T) (h : PT T L th wt c fr σ τ) (hth : ∀ j, 1 ≤ j → j ≤ T → th j < 2 ^ 30) (hne : ∀ j, 1 ≤ j → j < T → th j = 0 → ¬ L j = []) :
    ∃ τ', zlp (fX10_together_L21_21 n (nI (T - 1)) k2 k3) n (0, 1, τ) = some (nI (gF L th (T - 1)).length, τ') ∧ (∀ (i : Nat) (p : zP), (gF L th (T - 1))[i]? = some p → zA τ' 13 i = nI p.1) ∧ zfr [] [13] [] τ τ' := by
  have hlp := zlp_tot (body := fX10_together_L21_21 n (nI (T - 1)) k2 k3) (fun m a => ∃ j τ1, a = (nI (gF L th (j - 1)).length, nI j, τ1) ∧ 1 ≤ j ∧ j ≤ T ∧ m = T - j ∧ (∀ (i : Nat) (p : zP), (gF L th (j - 1))[i]? = some p → zA τ1 13 i = nI p.1) ∧ zfr [] [13] [] τ τ1)
    (fun b => ∃ τ', b = (nI (gF L th (T - 1)).length, τ') ∧ (∀ (i : Nat) (p : zP), (gF L th (T - 1))[i]? = some p → zA τ' 13 i = nI p.1) ∧ zfr [] [13] [] τ τ')
    (fun m a hP => by
      obtain ⟨j, τ1, rfl, hj1, hjT, rfl, q1, q2⟩ := hP
      unfold fX10_together_L21_21 fX10_together_L21_92
      dsimp only
      by_cases e : j = T
      · right
        rw [if_pos (nI_lt (show T - 1 < j by omega) (by omega))]
        exact ⟨_, rfl, τ1, by rw [e], e ▸ q1, q2⟩
      · left
        have hjT2 : j < T := by omega
        obtain ⟨r22, r2, r3, r19, r20, r6, r7, r21⟩ := h.2.2.1 j hj1 (by omega)
        have hb := hth j hj1 (by omega)
        rw [if_neg (show ¬ nI (T - 1) < nI j from fun q => by rw [nI_ltI (by omega) (by omega)] at q; omega)]
        simp only [zg_in (show j < 7 by omega) (show 7 < 2 ^ 31 by decide), nI_clamp (show j < 2 ^ 31 by omega)]
        rw [q2.2.1 22 (by decide), r22]
        simp only [zg_in (show c j < 7 by omega) (show 7 < 2 ^ 31 by decide), nI_clamp (show c j < 2 ^ 31 by omega)]
        rw [q2.2.1 21 (by decide), r21, q2.2.1 20 (by decide), r20, q2.2.1 19 (by decide), r19, nI_1 j]
        by_cases d : th j = 0
        · have hne2 := hne j hj1 hjT2 d
          cases eL : L j with
          | nil => exact absurd eL hne2
          | cons p t =>
            have hgl := gF_len (L := L) (th := th) (m := j - 1)
            have hlj : (L j).length = t.length + 1 := by rw [eL]; rfl
            rw [hlj] at r6
            have h18 := r7 0 p (by rw [eL]; rfl)
            rw [Nat.add_zero] at h18
            rw [d, if_pos (show nI 0 = 0 from rfl), show (p :: t).length = t.length + 1 from rfl, if_neg (show ¬ nI (fr j + (t.length + 1)) ≤ nI (fr j) from fun q => by rw [nI_leI (by omega) (by omega)] at q; omega), show (208 : Int32) = nI 208 from rfl, nI_mul, nI_add, zg_in (by omega) (by decide), zg_in (by omega) (by decide), nI_clamp (by omega), nI_clamp (by omega), q2.2.1 18 (by decide), h18, nI_1]
            refine ⟨_, T - (j + 1), by omega, rfl, j + 1, sA τ1 13 (upd (zA τ1 13) (gF L th (j - 1)).length (nI p.1)), ?_, by omega, by omega, rfl, fun i x hx => ?_, zfr_A (by decide) q2⟩
            · rw [Nat.add_sub_cancel, gF_snoc0 hj1 d eL, List.length_append]
              rfl
            · rw [Nat.add_sub_cancel, gF_snoc0 hj1 d eL] at hx
              show upd (zA τ1 13) (gF L th (j - 1)).length (nI p.1) i = _
              rw [upd_at]
              rcases Nat.lt_or_ge i (gF L th (j - 1)).length with q | q
              · rw [List.getElem?_append_left q] at hx
                rw [if_neg (by omega)]
                exact q1 i x hx
              · have h3 := (List.getElem?_eq_some_iff.mp hx).1
                rw [List.length_append] at h3
                have h4 : i = (gF L th (j - 1)).length := by
                  simp only [List.length_cons, List.length_nil] at h3
                  omega
                rw [h4, List.getElem?_append_right (Nat.le_refl _), Nat.sub_self] at hx
                rw [if_pos h4]
                cases hx
                rfl
        · rw [if_neg (show ¬ nI (th j) = 0 from nI_ne0 (by omega) (by omega))]
          refine ⟨_, T - (j + 1), by omega, rfl, j + 1, τ1, ?_, by omega, by omega, rfl, ?_, q2⟩
          · rw [Nat.add_sub_cancel, gF_snoc1 hj1 d]
          · rw [Nat.add_sub_cancel, gF_snoc1 hj1 d]
            exact q1)
    n (T - 1) (0, nI 1, τ) (by omega) ⟨1, τ, rfl, by omega, hT1, rfl, (fun i p hp => absurd hp (by show ¬ ([] : List zP)[i]? = some p; simp)), zfr_r⟩
  obtain ⟨_, h1, τ', rfl, h2, h3⟩ := hlp
  exact ⟨τ', h1, h2, h3⟩
theorem m_allThought {n T : Nat} {L : Nat → List zP} {th wt c fr : Nat → Nat} {σ τ : zS} (hn : 300 < n) (hT6 : T ≤ 6) (hT1 : 1 ≤ T) (h : PT T L th wt c fr σ τ) (hth : ∀ j, 1 ≤ j → j ≤ T → th j < 2 ^ 30) : ∃ v, fX10_allThought_0 n τ (nI (T - 1)) = some v ∧ ((v = 1 ∧ ∀ j, 1 ≤ j → j < T → ¬ th j = 0) ∨ (v = 0 ∧ ∃ j, 1 ≤ j ∧ j < T ∧ th j = 0)) := by
  have hlp := zlp_tot (body := fX10_allThought_L4_4 n τ (nI (T - 1))) (fun m a => ∃ j v, a = (v, nI j) ∧ 1 ≤ j ∧ j ≤ T ∧ m = T - j ∧ ((v = 1 ∧ ∀ k, 1 ≤ k → k < j → ¬ th k = 0) ∨ (v = 0 ∧ ∃ j, 1 ≤ j ∧ j < T ∧ th j = 0)))
    (fun v => (v = 1 ∧ ∀ j, 1 ≤ j → j < T → ¬ th j = 0) ∨ (v = 0 ∧ ∃ j, 1 ≤ j ∧ j < T ∧ th j = 0))
    (fun m a hP => by
      obtain ⟨j, v, rfl, hj1, hjT, rfl, q1⟩ := hP
      unfold fX10_allThought_L4_4 fX10_allThought_L4_31 fX10_allThought_L4_32
      dsimp only
      by_cases e : j = T
      · right
        rw [if_pos (nI_lt (show T - 1 < j by omega) (by omega))]
        exact ⟨_, rfl, e ▸ q1⟩
      · left
        obtain ⟨r22, r2, r3, r19, r20, r6, r7, r21⟩ := h.2.2.1 j hj1 (by omega)
        have hb := hth j hj1 (by omega)
        rw [if_neg (show ¬ nI (T - 1) < nI j from fun q => by rw [nI_ltI (by omega) (by omega)] at q; omega), nI_1]
        rcases q1 with ⟨rfl, h1⟩ | ⟨rfl, h1⟩
        · rw [if_neg (show ¬ (1 : Int32) = 0 by decide), zg_in (show j < 7 by omega) (by decide), nI_clamp (show j < 2 ^ 31 by omega), r22, zg_in (show c j < 7 by omega) (by decide), nI_clamp (show c j < 2 ^ 31 by omega), r21]
          by_cases d : th j = 0
          · rw [d, if_pos (show nI 0 ≤ 0 by decide)]
            exact ⟨_, T - (j + 1), by omega, rfl, j + 1, 0, rfl, by omega, by omega, rfl, Or.inr ⟨rfl, j, hj1, by omega, d⟩⟩
          · rw [if_neg (show ¬ nI (th j) ≤ 0 from nI_nle (by omega) (by omega))]
            refine ⟨_, T - (j + 1), by omega, rfl, j + 1, 1, rfl, by omega, by omega, rfl, Or.inl ⟨rfl, fun k k1 k2 => ?_⟩⟩
            by_cases z : k = j
            · rw [z]; exact d
            · exact h1 k k1 (by omega)
        · rw [if_pos rfl]
          exact ⟨_, T - (j + 1), by omega, rfl, j + 1, 0, rfl, by omega, by omega, rfl, Or.inr ⟨rfl, h1⟩⟩)
    n (T - 1) (1, nI 1) (by omega) ⟨1, 1, rfl, by omega, hT1, rfl, Or.inl ⟨rfl, fun k k1 k2 => absurd k2 (by omega)⟩⟩
  obtain ⟨v, h1, h2⟩ := hlp
  refine ⟨v, ?_, h2⟩
  unfold fX10_allThought_0
  refine (zb_s h1).trans ?_
  rcases h2 with ⟨rfl, -⟩ | ⟨rfl, -⟩
  · rw [zg_t (by decide)]
  · rw [zg_t (by decide)]
