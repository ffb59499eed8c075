def nU (th : Nat → Nat) (j v : Nat) : Nat → Nat := fun k => if k = j then v else th k
theorem pt_add {T j : Nat} {L : Nat → List zP} {th wt c fr : Nat → Nat} {σ τ s : zS} {p : zP} (h : PT T L th wt c fr σ τ) (hok : zTok σ) (hT6 : T ≤ 6) (hj1 : 1 ≤ j) (hjT : j ≤ T) (hs : rwL hdP (L j ++ [p]) (zI s 0) (zA s 0)) (hl : fr j + (L j).length + 1 ≤ 200) : PT T (lU L j (L j ++ [p])) th wt c fr (sV (sU σ (zT σ j) (zI s 0)) (zT σ j) (zA s 0)) (sA (sA τ 18 (upd (zA τ 18) (208 * c j + (fr j + (L j).length)) (nI p.1))) 20 (upd (zA τ 20) (c j) (nI (fr j + (L j).length + 1)))) := by
  obtain ⟨h1, h2, h3, h4, h5⟩ := h
  refine ⟨h1, fun k k1 k2 => ⟨?_, (h2 k k1 k2).2⟩, fun k k1 k2 => ?_, h4, h5⟩
  · show rwL hdP (lU L j (L j ++ [p]) k) (if zT σ k = zT σ j then zI s 0 else zU σ (zT σ k)) (if zT σ k = zT σ j then zA s 0 else zV σ (zT σ k))
    by_cases q : k = j
    · rw [q, if_pos rfl, if_pos rfl, show lU L j (L j ++ [p]) j = L j ++ [p] from if_pos rfl]
      exact hs
    · have hne : ¬ zT σ k = zT σ j := fun z => q (hok.2 k j (by omega) (by omega) z)
      rw [if_neg hne, if_neg hne, show lU L j (L j ++ [p]) k = L k from if_neg q]
      exact (h2 k k1 k2).1
  · obtain ⟨a1, a2, a3, a4, a5, a6, a7, a8⟩ := h3 k k1 k2
    obtain ⟨b1, b2, b3, b4, b5, b6, b7, b8⟩ := h3 j hj1 hjT
    by_cases q : k = j
    · subst q
      rw [show lU L k (L k ++ [p]) k = L k ++ [p] from if_pos rfl]
      have hlen : (L k ++ [p]).length = (L k).length + 1 := by rw [List.length_append]; rfl
      refine ⟨a1, a2, a3, a4, ?_, by rw [hlen]; omega, fun i x hx => ?_, a8⟩
      · show upd (zA τ 20) (c k) _ (c k) = _
        rw [upd_at, if_pos rfl, hlen]
        rfl
      · show upd (zA τ 18) (208 * c k + (fr k + (L k).length)) (nI p.1) (208 * c k + (fr k + i)) = _
        rw [upd_at]
        rcases Nat.lt_or_ge i (L k).length with z | z
        · rw [List.getElem?_append_left z] at hx
          rw [if_neg (by omega)]
          exact a7 i x hx
        · have h9 := (List.getElem?_eq_some_iff.mp hx).1
          rw [hlen] at h9
          have h8 : i = (L k).length := by omega
          rw [h8, List.getElem?_append_right (Nat.le_refl _), Nat.sub_self] at hx
          rw [if_pos (by omega)]
          cases hx
          rfl
    · have hne : ¬ c k = c j := fun z => q (h5 k j k1 k2 hj1 hjT z)
      rw [show lU L j (L j ++ [p]) k = L k from if_neg q]
      refine ⟨a1, a2, a3, a4, ?_, a6, fun i x hx => ?_, a8⟩
      · show upd (zA τ 20) (c j) _ (c k) = _
        rw [upd_at, if_neg hne]
        exact a5
      · have hi := (List.getElem?_eq_some_iff.mp hx).1
        show upd (zA τ 18) (208 * c j + (fr j + (L j).length)) (nI p.1) (208 * c k + (fr k + i)) = _
        rw [upd_at, if_neg (by omega)]
        exact a7 i x hx
theorem pt_th {T j v : Nat} {L : Nat → List zP} {th wt c fr : Nat → Nat} {σ τ : zS} (h : PT T L th wt c fr σ τ) (hj1 : 1 ≤ j) (hjT : j ≤ T) : PT T L (nU th j v) wt c fr (sA σ 15 (upd (zA σ 15) j (nI v))) (sA τ 21 (upd (zA τ 21) (c j) (nI v))) := by
  obtain ⟨h1, h2, h3, h4, h5⟩ := h
  refine ⟨h1, fun k k1 k2 => ⟨(h2 k k1 k2).1, ?_⟩, fun k k1 k2 => ?_, h4, h5⟩
  · show upd (zA σ 15) j (nI v) k = nI (nU th j v k)
    rw [upd_at]
    unfold nU
    by_cases q : k = j
    · rw [if_pos q, if_pos q]
    · rw [if_neg q, if_neg q]
      exact (h2 k k1 k2).2
  · obtain ⟨a1, a2, a3, a4, a5, a6, a7, a8⟩ := h3 k k1 k2
    refine ⟨a1, a2, a3, a4, a5, a6, a7, ?_⟩
    show upd (zA τ 21) (c j) (nI v) (c k) = nI (nU th j v k)
    rw [upd_at]
    unfold nU
    by_cases q : k = j
    · rw [q, if_pos rfl, if_pos rfl]
    · rw [if_neg (fun z => q (h5 k j k1 k2 hj1 hjT z)), if_neg q]
      exact a8
theorem m_append {n j T : Nat} {L : Nat → List zP} {th wt c fr : Nat → Nat} {σ τ : zS} {p : zP} (h : PT T L th wt c fr σ τ) (hT6 : T ≤ 6) (hj1 : 1 ≤ j) (hjT : j ≤ T) : fX10_append_0 n τ (nI (c j)) (nI p.1) = some (sA (sA τ 18 (upd (zA τ 18) (208 * c j + (fr j + (L j).length)) (nI p.1))) 20 (upd (zA τ 20) (c j) (nI (fr j + (L j).length + 1)))) := by
  obtain ⟨a1, a2, a3, a4, a5, a6, a7, a8⟩ := h.2.2.1 j hj1 hjT
  unfold fX10_append_0
  simp only [zg_in (show c j < 7 by omega) (show 7 < 2 ^ 31 by decide), nI_clamp (show c j < 2 ^ 31 by omega)]
  rw [a5, show (208 : Int32) = nI 208 from rfl, nI_mul, nI_add, zg_in (by omega) (by decide), nI_clamp (by omega), nI_1]
/-- the runs are laid on the tapes -/
theorem j_lay {n nb sz mm T : Nat} {ps : List zP} {σ τ : zS} (hn : 300 < n) (hnb : nb ≤ 200) (hT : 3 ≤ T) (hT6 : T ≤ 6) (hl : ps.length ≤ nb) (hs : SH ps σ τ) (htk : zTok σ) :
    ∃ σ' τ' lv L th, fX8_lay_p33_0 n nb sz mm σ (nI T) = some σ' ∧ fX10_lay_0 n τ (nI T) = some τ' ∧ PT T L th (Av T (lv + 1)) (fun k => k) (fun _ => 0) σ' τ' ∧ (cL L T).Perm ps ∧ (∀ k, 1 ≤ k → k < T → th k + (L k).length = Av T (lv + 1) k ∧ Av T (lv + 1) k ≤ 400) ∧ th T = 0 ∧ L T = [] ∧ zI σ' 31 = nI (lv + 1) ∧ zI τ' 26 = nI (lv + 1) ∧ lv ≤ 200 ∧ zT σ' = zT σ ∧ zfp [30, 31] [14, 15] [] σ σ' ∧ zfr [26] [18, 19, 20, 21, 22, 23] [] τ τ' := by
  obtain ⟨hrc, hrm⟩ := SH_rl.mp hs
  obtain ⟨σ1, a1, a2, a3, a4⟩ := c_layclear (n := n) (nb := nb) (sz := sz) (mm := mm) (T := T) (σ := sI (sI σ 30 (nI T)) 31 1) hn hT6 rfl htk
  obtain ⟨τ1, b1, b2, b3⟩ := m_layclear (n := n) (T := T) (τ := τ) hn hT6 (by omega)
  have hAv1 : ∀ k, 1 ≤ k → k < T → Av T 1 k = 1 := fun k k1 k2 => by
    rw [show (1 : Nat) = 0 + 1 from rfl, Av_s k1 k2]
    show (if 1 = 1 then 1 else 0) + (if k + 1 = 1 then 1 else 0) = 1
    rw [if_pos rfl, if_neg (by omega)]
  let τ2 := sI (sA τ1 23 (upd (zA τ1 23) (T + 1) 0)) 26 1
  have hn1 : ∀ P : Prop, [Decidable P] → (if P then (1 : Int32) else 0) = nI (if P then 1 else 0) := fun P _ => by
    by_cases e : P
    · rw [if_pos e, if_pos e]; rfl
    · rw [if_neg e, if_neg e]; rfl
  have hPT0 : PT T (fun _ => []) (fun k => if k < T then 1 else 0) (Av T (0 + 1)) (fun k => k) (fun _ => 0) σ1 τ2 := by
    refine ⟨(a4.1 30 List.not_mem_nil).trans rfl, fun k k1 k2 => ?_, fun k k1 k2 => ?_, fun k k1 k2 => ?_, fun i j _ _ _ _ e => e⟩
    · obtain ⟨q1, q2, q3⟩ := a2 k (by omega)
      refine ⟨?_, ?_⟩
      · rw [a3]
        refine ⟨q1, fun j x hj => by cases hj⟩
      · rw [q3, ← hn1]
        by_cases e : k < T
        · rw [if_pos ⟨k1, e⟩, if_pos e]
        · rw [if_neg (fun z => e z.2), if_neg e]
    · obtain ⟨q1, q2, q3, q4, q5⟩ := b2 k k1 k2
      refine ⟨q1, k1, k2, q2, q3, by show 0 + 0 ≤ 200; omega, fun i p hp => (by cases hp), ?_⟩
      show zA τ1 21 k = _
      rw [q4, ← hn1]
    · obtain ⟨q1, q2, q3⟩ := a2 k (by omega)
      obtain ⟨r1, r2, r3, r4, r5⟩ := b2 k k1 (by omega)
      have e1 : Av T (0 + 1) k = 1 := hAv1 k k1 k2
      rw [e1]
      refine ⟨?_, ?_⟩
      · rw [q2, if_pos ⟨k1, k2⟩]; rfl
      · show upd (zA τ1 23) (T + 1) 0 k = _
        rw [upd_at, if_neg (by omega), r5, if_pos k2]
        rfl
  have hcl0 : ∀ m, cL (fun _ => []) m = [] := fun m => by
    induction m with
    | zero => rfl
    | succ m ih =>
      show cL (fun _ => []) m ++ [] = []
      rw [ih]
      rfl
  have hloop := zlp_two (body := fX8_lay_p33_L79_79 n nb sz mm) (body' := fX10_lay_L80_80 n (nI T))
    (fun m a a' => ∃ i j j' lv L th σ3 τ3, a = (nI j, nI i, σ3) ∧ a' = (nI j', nI i, τ3) ∧ i ≤ ps.length ∧ m = ps.length - i ∧ PT T L th (Av T (lv + 1)) (fun k => k) (fun _ => 0) σ3 τ3 ∧ (cL L T).Perm (ps.take i) ∧ (∀ k, 1 ≤ k → k < T → th k + (L k).length = Av T (lv + 1) k ∧ Av T (lv + 1) k ≤ 400) ∧ th T = 0 ∧ L T = [] ∧ zI σ3 31 = nI (lv + 1) ∧ zI τ3 26 = nI (lv + 1) ∧ lv ≤ i ∧ (zA σ3 14 T = 0 ∧ zA τ3 23 T = 0) ∧ (i < ps.length → j' = j ∧ 1 ≤ j ∧ j < T ∧ 1 ≤ th j ∧ (∀ k, 1 ≤ k → k < j → th k + 1 = th j) ∧ (∀ k, j ≤ k → k + 1 ≤ T → th (k + 1) ≤ th k)) ∧ zT σ3 = zT σ ∧ zfp [30, 31] [14, 15] [] σ σ3 ∧ zfr [26] [18, 19, 20, 21, 22, 23] [] τ τ3)
    (fun b b' => ∃ lv L th, PT T L th (Av T (lv + 1)) (fun k => k) (fun _ => 0) b b' ∧ (cL L T).Perm ps ∧ (∀ k, 1 ≤ k → k < T → th k + (L k).length = Av T (lv + 1) k ∧ Av T (lv + 1) k ≤ 400) ∧ th T = 0 ∧ L T = [] ∧ zI b 31 = nI (lv + 1) ∧ zI b' 26 = nI (lv + 1) ∧ lv ≤ 200 ∧ zT b = zT σ ∧ zfp [30, 31] [14, 15] [] σ b ∧ zfr [26] [18, 19, 20, 21, 22, 23] [] τ b')
    (fun m a a' hP => by
      obtain ⟨i, j, j', lv, L, th, σ3, τ3, rfl, rfl, hi, rfl, q1, q2, q3, q4, q5, q6, q7, q8, q9, q10, q11, q12, q13⟩ := hP
      unfold fX8_lay_p33_L79_79 fX10_lay_L80_80 fX6_size_0
      dsimp only
      rw [show zI τ3 4 = nI ps.length from (q13.1 4 (by decide)).trans hrm.1, zb_s (show some (zI (zrv (zI σ3 32) (zA σ3 16)) 0) = some (nI ps.length) from congrArg some ((q12.1 32 (by decide)).trans hrc.1))]
      by_cases ci : i = ps.length
      · right
        rw [if_pos (nI_le (show ps.length ≤ i by omega) (by omega)), if_pos (nI_le (show ps.length ≤ i by omega) (by omega))]
        rw [ci, List.take_length] at q2
        exact ⟨_, _, rfl, rfl, lv, L, th, q1, q2, q3, q4, q5, q6, q7, by omega, q11, q12, q13⟩
      · left
        have hil : i < ps.length := by omega
        obtain ⟨rfl, hj1, hjT, hth, hlo, hhi⟩ := q10 hil
        have e := List.getElem?_eq_getElem hil
        generalize ps[i] = p at e
        have hok : zTok σ3 := by unfold zTok; rw [q11]; exact htk
        have hlen : (cL L T).length = i := by rw [q2.length_eq, List.length_take]; omega
        have hLj : (L j').length ≤ i := by rw [← hlen]; exact cL_len hj1 (by omega)
        obtain ⟨h1, h2, h3, h4, h5⟩ := q1
        obtain ⟨s, s1, s2⟩ := rl_add (n := n) (ln := nb) (x := p) (h2 j' hj1 (by omega)).1 (by omega) hnb
        have hz7 : z7 (zT σ3 j') = true := decide_eq_true (hok.1 j' (by omega))
        have r15 := (h2 j' hj1 (by omega)).2
        obtain ⟨r22, -, -, r19, r20, -, -, r21⟩ := h3 j' hj1 (by omega)
        rw [if_neg (show ¬ nI ps.length ≤ nI i from fun q => by rw [nI_leI (by omega) (by omega)] at q; omega), if_neg (show ¬ nI j' ≤ 0 from nI_nle (by omega) (by omega)), if_neg (show ¬ (6 : Int32) ≤ nI j' from fun q => by rw [show (6 : Int32) = nI 6 from rfl, nI_leI (by omega) (by omega)] at q; omega), if_neg (show ¬ nI ps.length ≤ nI i from fun q => by rw [nI_leI (by omega) (by omega)] at q; omega)]
        simp only [zg_in (show j' < 7 by omega) (show 7 < 2 ^ 31 by decide), nI_clamp (show j' < 2 ^ 31 by omega), zg_t hz7, zg_in (show i < 208 by omega) (show 208 < 2 ^ 31 by decide), nI_clamp (show i < 2 ^ 31 by omega)]
        rw [show zI σ3 32 = zI σ 32 from q12.1 32 (by decide), show zA σ3 16 = zA σ 16 from q12.2.1 16 (by decide), zb_s (rl_get hrc e hl hnb), zb_s s1, zb_s (show some (zI (zrv (zI σ 32) (zA σ 16)) 0) = some (nI ps.length) from congrArg some hrc.1), show zA τ3 7 = zA τ 7 from q13.2.1 7 (by decide), hrm.2 i p e, zb_s (m_append (c := fun k => k) (p := p) ⟨h1, h2, h3, h4, h5⟩ hT6 hj1 (by omega)), r15]
        have hPT1 := pt_add (p := p) ⟨h1, h2, h3, h4, h5⟩ hok hT6 hj1 (show j' ≤ T by omega) s2 (by show 0 + (L j').length + 1 ≤ 200; omega)
        have hPT2 := pt_th (v := th j' - 1) hPT1 hj1 (show j' ≤ T by omega)
        have hdec : nI (th j') - 1 = nI (th j' - 1) := by rw [show (1 : Int32) = nI 1 from rfl, nI_sub hth]
        have r21' : zA (sA (sA τ3 18 (upd (zA τ3 18) (208 * j' + (0 + (L j').length)) (nI p.1))) 20 (upd (zA τ3 20) j' (nI (0 + (L j').length + 1)))) 21 j' = nI (th j') := r21
        rw [r21', hdec]
        -- what is known behind it
        have hcL2 : (cL (lU L j' (L j' ++ [p])) T).Perm (ps.take (i + 1)) := by
          rw [take_snocG e]
          exact (cL_add hj1 (by omega)).trans ((List.Perm.cons p q2).trans (List.perm_append_comm (l₁ := [p]) (l₂ := ps.take i)))
        have hsum : ∀ k, 1 ≤ k → k < T → nU th j' (th j' - 1) k + (lU L j' (L j' ++ [p]) k).length = Av T (lv + 1) k ∧ Av T (lv + 1) k ≤ 400 := fun k k1 k2 => by
          have := q3 k k1 k2
          unfold nU lU
          by_cases z : k = j'
          · rw [if_pos z, if_pos z, List.length_append]
            subst z
            show th k - 1 + ((L k).length + 1) = _ ∧ _
            omega
          · rw [if_neg z, if_neg z]; exact this
        have hTT : nU th j' (th j' - 1) T = 0 ∧ lU L j' (L j' ++ [p]) T = [] := ⟨(if_neg (by omega)).trans q4, (if_neg (by omega)).trans q5⟩
        generalize hσ4 : sA (sV (sU σ3 (zT σ3 j') (zI s 0)) (zT σ3 j') (zA s 0)) 15 (upd (zA σ3 15) j' (nI (th j' - 1))) = σ4
        have hPT2' : PT T (lU L j' (L j' ++ [p])) (nU th j' (th j' - 1)) (Av T (lv + 1)) (fun k => k) (fun _ => 0) σ4 (sA (sA (sA τ3 18 (upd (zA τ3 18) (208 * j' + (0 + (L j').length)) (nI p.1))) 20 (upd (zA τ3 20) j' (nI (0 + (L j').length + 1)))) 21 (upd (zA (sA (sA τ3 18 (upd (zA τ3 18) (208 * j' + (0 + (L j').length)) (nI p.1))) 20 (upd (zA τ3 20) j' (nI (0 + (L j').length + 1)))) 21) j' (nI (th j' - 1)))) := by rw [← hσ4]; exact hPT2
        generalize hτ4 : sA (sA (sA τ3 18 (upd (zA τ3 18) (208 * j' + (0 + (L j').length)) (nI p.1))) 20 (upd (zA τ3 20) j' (nI (0 + (L j').length + 1)))) 21 (upd (zA (sA (sA τ3 18 (upd (zA τ3 18) (208 * j' + (0 + (L j').length)) (nI p.1))) 20 (upd (zA τ3 20) j' (nI (0 + (L j').length + 1)))) 21) j' (nI (th j' - 1))) = τ4 at hPT2'
        have hf4 : zfp [30, 31] [14, 15] [] σ σ4 := by rw [← hσ4]; exact zfp_A (by decide) (zfp_V (zfp_U q12))
        have hg4 : zfr [26] [18, 19, 20, 21, 22, 23] [] τ τ4 := by rw [← hτ4]; exact zfr_A (by decide) (zfr_A (by decide) (zfr_A (by decide) q13))
        have hT4 : zT σ4 = zT σ := by rw [← hσ4]; exact q11
        have h314 : zI σ4 31 = nI (lv + 1) ∧ zI τ4 26 = nI (lv + 1) := by rw [← hσ4, ← hτ4]; exact ⟨q6, q7⟩
        have h14T : zA σ4 14 T = 0 ∧ zA τ4 23 T = 0 := by rw [← hσ4, ← hτ4]; exact q9
        have t21 : zA τ4 21 j' = nI (th j' - 1) ∧ zA τ4 21 (j' + 1) = nI (th (j' + 1)) := by
          obtain ⟨-, -, -, -, -, -, -, x1⟩ := hPT2'.2.2.1 j' hj1 (by omega)
          obtain ⟨-, -, -, -, -, -, -, x2⟩ := hPT2'.2.2.1 (j' + 1) (by omega) (by omega)
          refine ⟨by rw [x1]; unfold nU; rw [if_pos rfl], by rw [x2]; unfold nU; rw [if_neg (by omega)]⟩
        have t15 : zA σ4 15 j' = nI (th j' - 1) ∧ zA σ4 15 (j' + 1) = nI (th (j' + 1)) := by
          have x1 := (hPT2'.2.1 j' hj1 (by omega)).2
          have x2 := (hPT2'.2.1 (j' + 1) (by omega) (by omega)).2
          refine ⟨by rw [x1]; unfold nU; rw [if_pos rfl], by rw [x2]; unfold nU; rw [if_neg (by omega)]⟩
        have hthb : ∀ k, 1 ≤ k → k ≤ T → th k ≤ 400 := fun k k1 k2 => by
          by_cases z : k = T
          · rw [z, q4]; omega
          · have := q3 k k1 (by omega); omega
        have hb1 := hthb j' hj1 (by omega)
        have hb2 := hthb (j' + 1) (by omega) (by omega)
        have hjj := hhi j' (Nat.le_refl _) (by omega)
        have hU : upd (zA (sA (sA τ3 18 (upd (zA τ3 18) (208 * j' + (0 + (L j').length)) (nI p.1))) 20 (upd (zA τ3 20) j' (nI (0 + (L j').length + 1)))) 21) j' (nI (th j' - 1)) = zA τ4 21 := by rw [← hτ4]; rfl
        rw [hU, nI_1 i, nI_1 j', zg_in (show j' + 1 < 7 by omega) (by decide), nI_clamp (show j' + 1 < 2 ^ 31 by omega), t21.1, t21.2]
        have h144 : ∀ k, 1 ≤ k → k < T → zA σ4 14 k = nI (Av T (lv + 1) k) ∧ zA τ4 23 k = nI (Av T (lv + 1) k) := fun k k1 k2 => hPT2'.2.2.2.1 k k1 k2
        -- how it goes on
        have fin : ∀ (jc jm : Nat), (i + 1 < ps.length → jm = jc ∧ 1 ≤ jc ∧ jc < T ∧ 1 ≤ nU th j' (th j' - 1) jc ∧ (∀ k, 1 ≤ k → k < jc → nU th j' (th j' - 1) k + 1 = nU th j' (th j' - 1) jc) ∧ (∀ k, jc ≤ k → k + 1 ≤ T → nU th j' (th j' - 1) (k + 1) ≤ nU th j' (th j' - 1) k)) → ∃ c c' m', m' < ps.length - i ∧ (some (Sum.inl (nI jc, nI (i + 1), σ4)) : Option ((Int32 × Int32 × zS) ⊕ zS)) = some (.inl c) ∧ (some (Sum.inl (nI jm, nI (i + 1), τ4)) : Option ((Int32 × Int32 × zS) ⊕ zS)) = some (.inl c') ∧ ∃ i j j' lv L th σ3 τ3, c = (nI j, nI i, σ3) ∧ c' = (nI j', nI i, τ3) ∧ i ≤ ps.length ∧ m' = ps.length - i ∧ PT T L th (Av T (lv + 1)) (fun k => k) (fun _ => 0) σ3 τ3 ∧ (cL L T).Perm (ps.take i) ∧ (∀ k, 1 ≤ k → k < T → th k + (L k).length = Av T (lv + 1) k ∧ Av T (lv + 1) k ≤ 400) ∧ th T = 0 ∧ L T = [] ∧ zI σ3 31 = nI (lv + 1) ∧ zI τ3 26 = nI (lv + 1) ∧ lv ≤ i ∧ (zA σ3 14 T = 0 ∧ zA τ3 23 T = 0) ∧ (i < ps.length → j' = j ∧ 1 ≤ j ∧ j < T ∧ 1 ≤ th j ∧ (∀ k, 1 ≤ k → k < j → th k + 1 = th j) ∧ (∀ k, j ≤ k → k + 1 ≤ T → th (k + 1) ≤ th k)) ∧ zT σ3 = zT σ ∧ zfp [30, 31] [14, 15] [] σ σ3 ∧ zfr [26] [18, 19, 20, 21, 22, 23] [] τ τ3 := by
          intro jc jm hc
          exact ⟨_, _, ps.length - (i + 1), by omega, rfl, rfl, i + 1, jc, jm, lv, lU L j' (L j' ++ [p]), nU th j' (th j' - 1), σ4, τ4, rfl, rfl, by omega, rfl, hPT2', hcL2, hsum, hTT.1, hTT.2, h314.1, h314.2, by omega, h14T, hc, hT4, hf4, hg4⟩
        have hm131 : ∀ y : Int32, fX10_lay_L80_131 n τ4 (nI T) (nI j') (nI i) y = if y = 0 then (if nI (th j' - 1) = 0 then (if nI (ps.length - 1) ≤ nI i then some (.inl (1, nI (i + 1), τ4)) else zb (fX10_raise_0 n τ4 (nI (T - 1))) (fun q25 => some (.inl (1, nI (i + 1), q25)))) else some (.inl (1, nI (i + 1), τ4))) else some (.inl (nI (j' + 1), nI (i + 1), τ4)) := by
          intro y
          unfold fX10_lay_L80_131 fX10_lay_L80_164 fX10_lay_L80_176
          rw [nI_1, nI_1]
          by_cases y0 : y = 0
          · rw [if_pos y0, if_pos y0, zg_in (show j' < 7 by omega) (by decide), nI_clamp (show j' < 2 ^ 31 by omega), t21.1, show zI τ4 4 = nI ps.length from (hg4.1 4 (by decide)).trans hrm.1, show nI ps.length - 1 = nI (ps.length - 1) from by rw [show (1 : Int32) = nI 1 from rfl, nI_sub (by omega)], show nI T - 1 = nI (T - 1) from by rw [show (1 : Int32) = nI 1 from rfl, nI_sub (by omega)], if_pos y0]
            simp only [if_pos y0]
          · rw [if_neg y0, if_neg y0, if_neg y0]
        by_cases clast : i + 1 = ps.length
        · have hg : ∀ jm, _ := fun jm => fin j' jm (fun z => absurd z (by omega))
          rw [if_pos (nI_le (show ps.length ≤ i + 1 by omega) (by omega))]
          unfold fX8_lay_p33_L79_140
          rw [nI_1 i, hm131 0, hm131 1, if_pos rfl, if_neg (show ¬ (1 : Int32) = 0 by decide), if_pos (show nI (ps.length - 1) ≤ nI i from nI_le (by omega) (by omega)), ite_self]
          by_cases z : nI (th (j' + 1)) ≤ nI (th j' - 1)
          · rw [if_pos z]
            exact hg 1
          · rw [if_neg z]
            exact hg (j' + 1)
        · rw [if_neg (show ¬ nI ps.length ≤ nI (i + 1) from fun q => by rw [nI_leI (by omega) (by omega)] at q; omega)]
          unfold fX8_tapeBehind_0 fX8_lay_p33_L79_140
          rw [if_neg (show ¬ nI j' < 1 from fun q => by rw [show (1 : Int32) = nI 1 from rfl, nI_ltI (by omega) (by omega)] at q; omega), if_pos (show nI j' < 6 from nI_lt (b := 6) (by omega) (by decide)), nI_1 j', nI_1 i]
          simp only [zg_in (show j' < 7 by omega) (show 7 < 2 ^ 31 by decide), zg_in (show j' + 1 < 7 by omega) (show 7 < 2 ^ 31 by decide), nI_clamp (show j' < 2 ^ 31 by omega), nI_clamp (show j' + 1 < 2 ^ 31 by omega)]
          rw [t15.1, t15.2, hm131 0, hm131 1, if_pos rfl, if_neg (show ¬ (1 : Int32) = 0 by decide), if_neg (show ¬ nI (ps.length - 1) ≤ nI i from fun q => by rw [nI_leI (by omega) (by omega)] at q; omega)]
          by_cases z : nI (th (j' + 1)) ≤ nI (th j' - 1)
          · have z2 := (nI_leI (by omega) (by omega)).mp z
            rw [if_pos z, if_pos z]
            by_cases y : th j' - 1 = 0
            · -- a level up
              rw [y, if_pos (show nI 0 = 0 from rfl), if_pos (show nI 0 = 0 from rfl)]
              obtain ⟨σ5, τ5, u1, u2, u3, u4, u5, u6, u7, u8⟩ := j_up (n := n) (nb := nb) (sz := sz) (mm := mm) (T := T) (lv := lv) (σ := σ4) (τ := τ4) hn hT hT6 hPT2'.1 (fun k k1 k2 => (q3 k k1 k2).2) h144 h14T h314
              rw [zb_s u1, zb_s rfl, zb_s u2]
              have hall : ∀ k, 1 ≤ k → k ≤ T → nU th j' (th j' - 1) k = 0 := by
                have h9 : ∀ k, j' + 1 ≤ k → k ≤ T → th k = 0 := by
                  intro k
                  induction k with
                  | zero => intro h; omega
                  | succ k ihk =>
                    intro w1 w2
                    by_cases w3 : k = j'
                    · rw [w3]; omega
                    · have w4 := hhi k (by omega) w2
                      have w5 := ihk (by omega) (by omega)
                      omega
                intro k k1 k2
                unfold nU
                by_cases w : k = j'
                · rw [if_pos w]; exact y
                · rw [if_neg w]
                  rcases Nat.lt_or_ge k j' with v | v
                  · have := hlo k k1 v
                    omega
                  · exact h9 k (by omega) k2
              have hq2 := (Av_q hT lv)
              refine ⟨_, _, ps.length - (i + 1), by omega, rfl, rfl, i + 1, 1, 1, lv + 1, lU L j' (L j' ++ [p]), (fun k => if k < T then Av T (lv + 2) k - Av T (lv + 1) k else 0), σ5, τ5, rfl, rfl, by omega, rfl, ?_, hcL2, fun k k1 k2 => ?_, if_neg (by omega), hTT.2, u3, u4, by omega, ⟨u6.1, u6.2.1⟩, fun _ => ⟨rfl, Nat.le_refl _, by omega, ?_, fun k k1 k2 => absurd k2 (by omega), fun k k1 k2 => ?_⟩, ?_, zfp_t hf4 (zfp_of u7) (by decide) (by decide) (by decide), zfr_t hg4 u8 (by decide) (by decide) (by decide)⟩
              · obtain ⟨c1, c2, c3, c4, c5⟩ := hPT2'
                refine ⟨(u7.1 30 (by decide)).trans c1, fun k k1 k2 => ⟨?_, ?_⟩, fun k k1 k2 => ?_, fun k k1 k2 => ⟨(u5 k k1 k2).1, (u5 k k1 k2).2.1⟩, c5⟩
                · rw [u7.2.2.2.1, u7.2.2.2.2.1, u7.2.2.2.2.2]
                  exact (c2 k k1 k2).1
                · show zA σ5 15 k = nI (if k < T then Av T (lv + 2) k - Av T (lv + 1) k else 0)
                  by_cases v : k < T
                  · rw [if_pos v]; exact (u5 k k1 v).2.2.1
                  · rw [if_neg v, show k = T by omega, u6.2.2.1, (c2 T (by omega) (Nat.le_refl _)).2, hall T (by omega) (Nat.le_refl _)]
                · obtain ⟨d1, d2, d3, d4, d5, d6, d7, d8⟩ := c3 k k1 k2
                  rw [u8.2.1 22 (by decide), u8.2.1 19 (by decide), u8.2.1 20 (by decide), u8.2.1 18 (by decide)]
                  refine ⟨d1, d2, d3, d4, d5, d6, d7, ?_⟩
                  show zA τ5 21 k = nI (if k < T then Av T (lv + 2) k - Av T (lv + 1) k else 0)
                  by_cases v : k < T
                  · rw [if_pos v]; exact (u5 k k1 v).2.2.2
                  · rw [if_neg v]
                    have e9 : k = T := by omega
                    subst e9
                    show zA τ5 21 k = nI 0
                    rw [u6.2.2.2]
                    have d8' : zA τ4 21 k = nI (nU th j' (th j' - 1) k) := d8
                    rw [d8', hall k k1 k2]
              · have w1 := hsum k k1 k2
                rw [hall k k1 (by omega)] at w1
                have w2 := Av_le (l := lv) hT k1 (show k ≤ T by omega)
                have w3 : Av T (lv + 2) k = Av T (lv + 1) 1 + Av T (lv + 1) (k + 1) := Av_s k1 k2
                have w4 := hsum 1 (by omega) (by omega)
                rw [hall 1 (by omega) (by omega)] at w4
                have w5 := cL_len (L := lU L j' (L j' ++ [p])) (m := T) (show 1 ≤ 1 by omega) (show 1 ≤ T by omega)
                have w6 : (cL (lU L j' (L j' ++ [p])) T).length = i + 1 := by rw [hcL2.length_eq, List.length_take]; omega
                have w7 := Av_le (l := lv) hT (show 1 ≤ k + 1 by omega) (show k + 1 ≤ T by omega)
                show (if k < T then Av T (lv + 2) k - Av T (lv + 1) k else 0) + _ = Av T (lv + 2) k ∧ Av T (lv + 2) k ≤ 400
                rw [if_pos k2]
                omega
              · show 1 ≤ (if 1 < T then Av T (lv + 2) 1 - Av T (lv + 1) 1 else 0)
                rw [if_pos (by omega)]
                have w3 : Av T (lv + 2) 1 = Av T (lv + 1) 1 + Av T (lv + 1) 2 := Av_s (by omega) (by omega)
                have w4 : Av T (lv + 1) 2 = Av T lv 1 + Av T lv 3 := Av_s (by omega) (by omega)
                have w5 := Av_pos hT lv
                omega
              · show (if k + 1 < T then Av T (lv + 2) (k + 1) - Av T (lv + 1) (k + 1) else 0) ≤ (if k < T then Av T (lv + 2) k - Av T (lv + 1) k else 0)
                by_cases v : k + 1 < T
                · rw [if_pos v, if_pos (by omega)]
                  have w1 : Av T (lv + 2) k = Av T (lv + 1) 1 + Av T (lv + 1) (k + 1) := Av_s k1 (by omega)
                  have w2 : Av T (lv + 2) (k + 1) = Av T (lv + 1) 1 + Av T (lv + 1) (k + 2) := Av_s (by omega) v
                  have w3 := hq2.2 k k1 (by omega)
                  have w4 := Av_le (l := lv) hT k1 (show k ≤ T by omega)
                  have w5 := Av_le (l := lv) hT (show 1 ≤ k + 1 by omega) (show k + 1 ≤ T by omega)
                  omega
                · rw [if_neg v]; exact Nat.zero_le _
              · rw [u7.2.2.2.1, hT4]
            · rw [if_neg (show ¬ nI (th j' - 1) = 0 from nI_ne0 (by omega) (by omega)), if_neg (show ¬ nI (th j' - 1) = 0 from nI_ne0 (by omega) (by omega)), zb_s rfl]
              refine fin 1 1 (fun _ => ⟨rfl, Nat.le_refl _, by omega, ?_, fun k k1 k2 => absurd k2 (by omega), fun k k1 k2 => ?_⟩)
              · unfold nU
                by_cases w : 1 = j'
                · rw [if_pos w]; omega
                · rw [if_neg w]
                  have := hlo 1 (by omega) (by omega)
                  omega
              · unfold nU
                by_cases w : k = j'
                · rw [if_neg (show ¬ k + 1 = j' by omega), if_pos w, w]; exact z2
                · rw [if_neg w]
                  by_cases v : k + 1 = j'
                  · rw [if_pos v]
                    have := hlo k k1 (by omega)
                    omega
                  · rw [if_neg v]
                    rcases Nat.lt_or_ge k j' with u | u
                    · have := hlo k k1 u
                      have := hlo (k + 1) (by omega) (by omega)
                      omega
                    · exact hhi k (by omega) k2
          · have z2 : th j' - 1 < th (j' + 1) := by
              rcases Nat.lt_or_ge (th j' - 1) (th (j' + 1)) with q | q
              · exact q
              · exact absurd (nI_le q (by omega)) z
            rw [if_neg z, if_neg z, zb_s rfl]
            have hjT1 : j' + 1 < T := by
              rcases Nat.lt_or_ge (j' + 1) T with q | q
              · exact q
              · exfalso
                have : j' + 1 = T := by omega
                rw [this, q4] at z2
                omega
            refine fin (j' + 1) (j' + 1) (fun _ => ⟨rfl, by omega, hjT1, ?_, fun k k1 k2 => ?_, fun k k1 k2 => ?_⟩)
            · unfold nU
              rw [if_neg (by omega)]
              omega
            · unfold nU
              rw [if_neg (show ¬ j' + 1 = j' by omega)]
              by_cases w : k = j'
              · rw [if_pos w]; omega
              · rw [if_neg w]
                have := hlo k k1 (by omega)
                omega
            · unfold nU
              rw [if_neg (show ¬ k + 1 = j' by omega), if_neg (show ¬ k = j' by omega)]
              exact hhi k (by omega) k2)
    n ps.length (1, 0, σ1) (1, 0, τ2) (by omega) ⟨0, 1, 1, 0, fun _ => [], fun k => if k < T then 1 else 0, σ1, τ2, rfl, rfl, Nat.zero_le _, rfl, hPT0, by rw [hcl0]; exact List.Perm.refl _, fun k k1 k2 => by
        have e1 : Av T (0 + 1) k = 1 := hAv1 k k1 k2
        show (if k < T then 1 else 0) + 0 = _ ∧ _
        rw [e1, if_pos k2]
        exact ⟨rfl, by omega⟩, if_neg (by omega), rfl, a4.1 31 List.not_mem_nil, rfl, Nat.le_refl _, ⟨by rw [(a2 T (by omega)).2.1, if_neg (by omega)], by
        show upd (zA τ1 23) (T + 1) 0 T = 0
        rw [upd_at, if_neg (by omega), (b2 T (by omega) (Nat.le_refl _)).2.2.2.2, if_neg (by omega)]⟩, fun _ => ⟨rfl, Nat.le_refl _, by omega, (by show 1 ≤ (if 1 < T then 1 else 0); rw [if_pos (by omega)]; exact Nat.le_refl _), fun k k1 k2 => absurd k2 (by omega), fun k k1 k2 => by
        show (if k + 1 < T then 1 else 0) ≤ (if k < T then 1 else 0)
        by_cases z : k + 1 < T
        · rw [if_pos z, if_pos (by omega)]; exact Nat.le_refl _
        · rw [if_neg z]; exact Nat.zero_le _⟩, a3, zfp_t (zfp_I (by decide) (zfp_I (by decide) zfp_r)) a4 (by decide) (by decide) (by decide), zfr_I (by decide) (zfr_A (by decide) (zfr_w b3 (by decide) (by decide) (by decide)))⟩
  obtain ⟨σ', τ', l1, l2, lv, L, th, k1, k2, k3, k4, k5, k6, k7, k8, k9, k10, k11⟩ := hloop
  refine ⟨σ', τ', lv, L, th, ?_, ?_, k1, k2, k3, k4, k5, k6, k7, k8, k9, k10, k11⟩
  · have hw : fX9_within_0 n zσ0 (nI T) 3 6 = some (nI T) := by
      rcases (show T = 3 ∨ T = 4 ∨ T = 5 ∨ T = 6 by omega) with e | e | e | e
      · rw [e]; rfl
      · rw [e]; rfl
      · rw [e]; rfl
      · rw [e]; rfl
    unfold fX8_lay_p33_0
    rw [zb_s hw, zb_s a1, zb_s l1]
  · unfold fX10_lay_0
    rw [zb_s b1, nI_1, zg_in (by omega) (by decide), nI_clamp (by omega)]
    exact zb_s l2
