theorem RS_out {t s : Nat} {e e' g g' : Nat → Nat × Nat} {i0 : Nat} (h : RS t (s + 1) e g) (h0 : e 0 = (i0, t)) (he : ∀ y, (∃ j, j < s ∧ e' j = y) ↔ ((∃ j, j < s + 1 ∧ e j = y) ∧ ¬ y = e 0)) (hg : ∀ y, (∃ j, j < s ∧ g' j = y) ↔ ((∃ j, j < s + 1 ∧ g j = y) ∧ ¬ y = (i0, 0))) : RS t s e' g' := by
  refine ⟨fun j hj => ?_, fun i f => ?_⟩
  · obtain ⟨⟨j2, y1, y2⟩, -⟩ := (he (e' j)).mp ⟨j, hj, rfl⟩
    rw [← y2]
    exact h.1 j2 y1
  · rw [he, hg, h.2 i f, h0]
    refine and_congr Iff.rfl (not_congr ⟨fun q => ?_, fun q => ?_⟩)
    · have h1 : i = i0 := congrArg Prod.fst q
      have h2 : t + f = t := congrArg Prod.snd q
      exact Prod.ext h1 (show f = 0 by omega)
    · have h1 : i = i0 := congrArg Prod.fst q
      have h2 : f = 0 := congrArg Prod.snd q
      exact Prod.ext h1 (show t + f = t by omega)
theorem RS_put {t s k f0 : Nat} {e e' g g' : Nat → Nat × Nat} {i0 : Nat} {e1 : Nat → Nat × Nat} (h : RS t (s + 1) e g) (h0 : e 0 = (i0, t)) (he : ∀ y, (∃ j, j < s ∧ e1 j = y) ↔ ((∃ j, j < s + 1 ∧ e j = y) ∧ ¬ y = e 0)) (he2 : ∀ y, (∃ j, j < s + 1 ∧ e' j = y) ↔ (y = (k, t + f0) ∨ ∃ j, j < s ∧ e1 j = y)) (hg : ∀ y, (∃ j, j < s + 1 ∧ g' j = y) ↔ (y = (k, f0) ∨ ((∃ j, j < s + 1 ∧ g j = y) ∧ ¬ y = (i0, 0)))) : RS t (s + 1) e' g' := by
  refine ⟨fun j hj => ?_, fun i f => ?_⟩
  · rcases (he2 (e' j)).mp ⟨j, hj, rfl⟩ with q | ⟨j1, y1, y2⟩
    · rw [q]
      show t ≤ t + f0
      omega
    · obtain ⟨⟨j2, y3, y4⟩, -⟩ := (he (e1 j1)).mp ⟨j1, y1, rfl⟩
      rw [← y2, ← y4]
      exact h.1 j2 y3
  · rw [he2, hg, he, h.2 i f, h0]
    refine or_congr ⟨fun q => ?_, fun q => ?_⟩ (and_congr Iff.rfl (not_congr ⟨fun q => ?_, fun q => ?_⟩))
    · have h1 : i = k := congrArg Prod.fst q
      have h2 : t + f = t + f0 := congrArg Prod.snd q
      exact Prod.ext h1 (show f = f0 by omega)
    · have h1 : i = k := congrArg Prod.fst q
      have h2 : f = f0 := congrArg Prod.snd q
      exact Prod.ext h1 (show t + f = t + f0 by omega)
    · have h1 : i = i0 := congrArg Prod.fst q
      have h2 : t + f = t := congrArg Prod.snd q
      exact Prod.ext h1 (show f = 0 by omega)
    · have h1 : i = i0 := congrArg Prod.fst q
      have h2 : f = 0 := congrArg Prod.snd q
      exact Prod.ext h1 (show t + f = t by omega)
theorem ch_go {n nb sz mm w kn N : Nat} {tk ib : List Nat} {us : Nat → Bool} {cl : Nat → Nat → Int64} {P0 : Prop} {ps : List zP} {σb τb : zS} (hn : 110000 ≤ n) (hnb : nb ≤ 200) (hs5 : 5 ≤ sz) (hsz : sz ≤ 64) (hm2 : 2 ≤ mm) (hmm : mm ≤ 64) (hps : ps.length ≤ 200) (hT : IST nb sz w N ib us cl) (hrw : rwL (fun x : Nat => x) ib (zI σb 17) (zA σb 5)) (hch : chC (zA τb 2) ib) (hpq : ∀ qs : List zP, (∀ p ∈ qs, ¬ p.2.1 = []) → (blQ qs).Nodup → (∀ b ∈ blQ qs, b < nb ∧ us b = false) → ps.length + qs.length ≤ 203) : ∀ (L m1 m2 m3 : Nat) (z : Prop) (t k s : Nat) (e g : Nat → Nat × Nat) (v : Int32) (qs : List zP) (O : List Nat) (σ τ : zS), L + 2 < m1 → L + 2 < m2 → L + 2 < m3 → FRN z nb sz mm w kn tk ib us cl P0 ps qs O σb τb σ τ → INP sz w N k ib σ τ → s ≤ mm → L = s + (N - k) → (k < N → 0 < s) → t + L ≤ N → HP s (plN sz w ib) e σ → heap (BN sz w kn (zA σb 1) (zA σb 2) ib cl) e s → injE e s → rngE N s e → (∀ j, j < s → (e j).1 < k) → HM s (pmN sz w ib) g τ → injE g s → RS t s e g → (∀ x ∈ O, x < k ∧ ∀ j, j < s → ¬ (e j).1 = x) → 0 < s → (e 0).2 = t → fX10_firstHeld_0 n τ = some v →
    ∃ b b' τ1 τ2 τ3, zlp (fX9_chooseRuns_L23_23 n nb sz mm) m1 (nI t, nI L, σ) = some b ∧ zlp (fX10_choosing_L27_27 n) m2 (v, τ) = some τ1 ∧ fX10_endRun_0 n τ1 = some τ2 ∧ zlp (fX10_choosing_L129_129 n) n (0, τ2) = some τ3 ∧ zlp (fX10_choosing_L4_4 n) m3 τ3 = some b' ∧ CHQ n nb sz mm w kn N tk ib us cl P0 ps σb τb b b' := by
  have hNb := hT.2.2.2.1
  have hibu : ∀ b ∈ ib, us b = true := fun b hb => (hT.2.1 b hb).2
  have hB := BN_ord (kn := kn) (kc := zA σb 1) (kd := zA σb 2) hT
  have hstop : ∀ τ1 : zS, ¬ zI τ1 17 = 0 → fX10_choosing_L4_4 n τ1 = some (.inr τ1) := fun τ1 h1 => by
    unfold fX10_choosing_L4_4
    rw [if_neg h1, ite_self]
  have hbd17 : ∀ σ1 τ1 : zS, FBD nb sz tk us cl P0 ps σb τb σ1 τ1 → ¬ zI τ1 17 = 0 := fun σ1 τ1 hb => by
    rcases hb.1 with ⟨y, -⟩ | ⟨y, -⟩
    · rw [y]; decide
    · rw [y]; decide
  have hneg : ∀ τ1 : zS, fX10_choosing_L27_27 n (-1, τ1) = some (.inr τ1) := fun τ1 => by
    unfold fX10_choosing_L27_27
    exact if_pos (show (-1 : Int32) < 0 by decide)
  intro L
  induction L with
  | zero =>
    intro m1 m2 m3 z t k s e g v qs O σ τ hm1 hm2' hm3 hF hI hs hL hk0 htL hH hp hin hr hek hM hgin hRS hO hs0
    omega
  | succ L ih =>
    intro m1 m2 m3 z t k s e g v qs O σ τ hm1 hm2' hm3 hF hI hs hL hk0 htL hH hp hin hr hek hM hgin hRS hO hs0 h0t hv
    obtain ⟨s, rfl⟩ : ∃ s', s = s' + 1 := ⟨s - 1, by omega⟩
    obtain ⟨m1, rfl⟩ : ∃ m', m1 = m' + 2 := ⟨m1 - 2, by omega⟩
    obtain ⟨m2, rfl⟩ : ∃ m', m2 = m' + 2 := ⟨m2 - 2, by omega⟩
    obtain ⟨m3, rfl⟩ : ∃ m', m3 = m' + 2 := ⟨m3 - 2, by omega⟩
    have hkN := hI.1
    -- after a record
    have mid : ∀ (k' s' : Nat) (e' g' : Nat → Nat × Nat) (O' : List Nat) (σ' τ' : zS) (v' : Int32), FRN True nb sz mm w kn tk ib us cl P0 ps qs O' σb τb σ' τ' → INP sz w N k' ib σ' τ' → s' ≤ mm → L = s' + (N - k') → (k' < N → 0 < s') → HP s' (plN sz w ib) e' σ' → heap (BN sz w kn (zA σb 1) (zA σb 2) ib cl) e' s' → injE e' s' → rngE N s' e' → (∀ j, j < s' → (e' j).1 < k') → HM s' (pmN sz w ib) g' τ' → injE g' s' → RS t s' e' g' → (∀ x ∈ O', x < k' ∧ ∀ j, j < s' → ¬ (e' j).1 = x) → fX10_firstHeld_0 n τ' = some v' → ∃ b b' τ1 τ2 τ3, zlp (fX9_chooseRuns_L23_23 n nb sz mm) (m1 + 1) (nI t, nI L, σ') = some b ∧ zlp (fX10_choosing_L27_27 n) (m2 + 1) (v', τ') = some τ1 ∧ fX10_endRun_0 n τ1 = some τ2 ∧ zlp (fX10_choosing_L129_129 n) n (0, τ2) = some τ3 ∧ zlp (fX10_choosing_L4_4 n) (m3 + 2) τ3 = some b' ∧ CHQ n nb sz mm w kn N tk ib us cl P0 ps σb τb b b' := by
      intro k' s' e' g' O' σ' τ' v' x1 x2 x3 x4 x5 x6 x7 x8 x9 x10 x11 x12 x13 x14 x15
      have hkN' := x2.1
      have hgN : ∀ j, j < s' → (g' j).1 < N := fun j hj => by
        have := RS_g x13 x10 j hj
        omega
      obtain ⟨v2, w1, w2⟩ := m_fh hn hnb hs5 hsz hT x1 (by omega) x11 hgN
      rw [x15] at w1
      cases w1
      have hib0 : ∃ b, b < nb ∧ us b = true := by
        obtain ⟨b1, b2, b3⟩ := bk_at hT (show 0 < N by omega)
        exact ⟨_, b2, b3⟩
      by_cases c0 : s' = 0
      · subst c0
        have hv1 : v' = -1 := by
          rcases w2 with ⟨w2, -⟩ | ⟨j, w3, -⟩
          · exact w2
          · omega
        have hL0 : L = 0 := by omega
        rw [hv1, hL0]
        obtain ⟨r, σ5, τ5, o1, o2, hor, f5, g5⟩ := j_fend (n := n) (by omega) hnb hs5 hsz x1 hib0
        obtain ⟨τ6, l1, l2, l3⟩ := m_clr (n := n) (H := 0) (τ := τ5) (by omega) ((g5.1 24 (by decide)).trans x11.1) (by omega)
        have h24 : zI τ6 24 ≤ 0 := by
          rw [l2.1 24 (by decide), g5.1 24 (by decide), x11.1]
          decide
        refine ⟨.inl σ', τ6, τ', τ5, τ6, zlp_r ?_, zlp_r (hneg _), o2, l1, zlp_r ?_, Or.inl ⟨σ', r, σ5, rfl, o1, ?_⟩⟩
        · unfold fX9_chooseRuns_L23_23
          exact if_pos (show nI 0 ≤ 0 by decide)
        · unfold fX10_choosing_L4_4
          rw [if_pos h24]
        · rcases hor with ⟨rfl, p, hF5⟩ | ⟨rfl, hb5⟩
          · exact Or.inl ⟨rfl, _, O', FBR_fr hF5 zfr_r (zfr_w l2 (by decide) (by decide) (by decide)) (fun pz sb cl' hO => OD_fr2 hO zfr_r (zfr_w l2 (by decide) (by decide) (by decide))), fun x hx => by have := (x14 x hx).1; omega⟩
          · exact Or.inr ⟨rfl, FBD_fr hb5 (zfr_w l2 (by decide) (by decide) (by decide))⟩
      · by_cases c1 : (e' 0).2 = t
        · exact ih (m1 + 1) (m2 + 1) (m3 + 2) True t k' s' e' g' v' qs O' σ' τ' (by omega) (by omega) (by omega) x1 x2 x3 x4 x5 (by omega) x6 x7 x8 x9 x10 x11 x12 x13 x14 (by omega) c1 x15
        · have hle := RS_le x13 x11
          have h01 : (e' 0).2 = t + 1 := by
            have h1 := hle 0 (by omega)
            have h2 := x13.1 0 (by omega)
            omega
          have hall : ∀ j, j < s' → (e' j).2 = t + 1 := fun j hj => by
            have h1 := hle j hj
            have h2 := heap_min hB x7 j hj
            rw [ah_if] at h2
            have h3 : ¬ (e' j).2 < (e' 0).2 := fun q => h2 (Or.inl q)
            omega
          have hg1 : ∀ j, j < s' → (g' j).2 = 1 := fun j hj => by
            obtain ⟨j2, y1, y2⟩ := (x13.2 (g' j).1 (g' j).2).mpr ⟨j, hj, rfl⟩
            have := hall j2 y1
            rw [y2] at this
            dsimp only at this
            omega
          have hv1 : v' = -1 := by
            rcases w2 with ⟨w2, -⟩ | ⟨j, w3, w4, w5⟩
            · exact w2
            · have := hg1 j w3
              omega
          rw [hv1]
          obtain ⟨r, σ5, τ5, o1, o2, hor, f5, g5⟩ := j_fend (n := n) (by omega) hnb hs5 hsz x1 hib0
          obtain ⟨τ6, l1, l2, l3⟩ := m_clr (n := n) (H := s') (τ := τ5) (by omega) ((g5.1 24 (by decide)).trans x11.1) (by omega)
          have hft : fX3_firstTurn_0 n nb sz mm σ' = some (nI (t + 1)) := by
            rw [c_fturn (by omega) hmm (by omega) x3 x6, h01]
          have hcc : fX9_chooseRuns_L23_23 n nb sz mm (nI t, nI L, σ') = if r = 0 then some (.inr (.inr (.inl σ5))) else zb (fX3_firstTurn_0 n nb sz mm σ5) (fun q12 => fX9_chooseRuns_L23_58 n nb sz mm σ5 q12 (nI L)) := by
            unfold fX9_chooseRuns_L23_23
            dsimp only
            rw [if_neg (show ¬ nI L ≤ 0 from nI_nle (by omega) (by omega)), zb_s hft, if_neg (show ¬ nI (t + 1) = nI t from fun q => by have := (nI_eq (by omega) (by omega)).mp q; omega), zb_s o1]
          rcases hor with ⟨rfl, p, hF5⟩ | ⟨rfl, hb5⟩
          · rw [if_neg (show ¬ (1 : Int32) = 0 by decide)] at hcc
            have hF6 : FBR nb sz mm w kn tk ib us cl P0 ps (qs ++ [p]) O' σb τb σ5 τ6 := FBR_fr hF5 zfr_r (zfr_w l2 (by decide) (by decide) (by decide)) (fun pz sb cl' hO => OD_fr2 hO zfr_r (zfr_w l2 (by decide) (by decide) (by decide)))
            have hFq := hF6.2.2.2.2.1
            obtain ⟨cl', -, hOD⟩ := hF6.2.2.1
            obtain ⟨τ7, n1, n2, n3⟩ := j_nrun (n := n) (by omega) hnb hs5 hps (hpq _ (fun p hp => (hFq.2.1 p hp).1) hOD.2.2.2.2.1 hOD.2.2.2.2.2.1) hF6
            have hH5 : HP s' (plN sz w ib) e' σ5 := by
              unfold HP
              rw [f5.1 28 (by decide), f5.2.1 8 (by decide), f5.2.1 9 (by decide)]
              exact x6
            have hM7 : HM s' (pmN sz w ib) (fun j => ((g' j).1, 0)) τ7 := by
              refine ⟨?_, fun j hj => ⟨?_, ?_, Nat.zero_le _⟩⟩
              · rw [n3.1 24 (by decide), l2.1 24 (by decide), g5.1 24 (by decide)]
                exact x11.1
              · rw [n3.2.1 10 (by decide), l2.2.1 10 (by decide), g5.2.1 10 (by decide)]
                exact (x11.2 j hj).1
              · rw [n3.2.1 11 (by decide)]
                exact l3 j hj
            have hI7 : INP sz w N k' ib σ5 τ7 := INP_fr (INP_fr (INP_fr x2 f5 g5 (by decide) (by decide)) (zfr_r (I := []) (A := []) (L := [])) l2 (by decide) (by decide)) (zfr_r (I := []) (A := []) (L := [])) n3 (by decide) (by decide)
            obtain ⟨v7, w7, -⟩ := m_fh hn hnb hs5 hsz hT n2 (by omega) hM7 hgN
            have hRS7 : RS (t + 1) s' e' (fun j => ((g' j).1, 0)) := by
              refine ⟨fun j hj => by rw [hall j hj]; omega, fun i f => ⟨?_, ?_⟩⟩
              · rintro ⟨j, y1, y2⟩
                have hj1 := hall j y1
                rw [y2] at hj1
                have hf0 : f = 0 := by
                  dsimp only at hj1
                  omega
                subst hf0
                obtain ⟨j2, y3, y4⟩ := (x13.2 i 1).mp ⟨j, y1, y2⟩
                exact ⟨j2, y3, Prod.ext (show (g' j2).1 = i by rw [y4]) rfl⟩
              · rintro ⟨j, y1, y2⟩
                have h1 : (g' j).1 = i := congrArg Prod.fst y2
                have h2 : 0 = f := congrArg Prod.snd y2
                subst h2
                obtain ⟨j2, y3, y4⟩ := (x13.2 i 1).mpr ⟨j, y1, Prod.ext h1 (hg1 j y1)⟩
                exact ⟨j2, y3, y4⟩
            obtain ⟨b, b', τ8, τ9, τ10, i1, i2, i3, i4, i5, i6⟩ := ih (m1 + 1) n (m3 + 1) False (t + 1) k' s' e' (fun j => ((g' j).1, 0)) v7 (qs ++ [p]) O' σ5 τ7 (by omega) (by omega) (by omega) n2 hI7 x3 x4 x5 (by omega) hH5 x7 x8 x9 x10 hM7 (fun a b ha hb h => x12 a b ha hb h) hRS7 x14 (by omega) h01 w7
            have hft5 : fX3_firstTurn_0 n nb sz mm σ5 = some (nI (t + 1)) := by
              rw [c_fturn (by omega) hmm (by omega) x3 hH5, h01]
            have hbb : fX9_chooseRuns_L23_23 n nb sz mm (nI t, nI L, σ') = fX9_chooseRuns_L23_23 n nb sz mm (nI (t + 1), nI L, σ5) := by
              rw [hcc, zb_s hft5]
              unfold fX9_chooseRuns_L23_23
              dsimp only
              rw [if_neg (show ¬ nI L ≤ 0 from nI_nle (by omega) (by omega)), zb_s hft5, if_pos rfl]
            refine ⟨b, b', τ', τ5, τ6, (zlp_eqb hbb).trans i1, zlp_r (hneg _), o2, l1, ?_, i6⟩
            have hm4 : fX10_choosing_L4_4 n τ6 = some (.inl τ10) := by
              unfold fX10_choosing_L4_4
              rw [show zI τ6 24 = nI s' from by rw [l2.1 24 (by decide), g5.1 24 (by decide)]; exact x11.1, if_neg (show ¬ nI s' ≤ 0 from nI_nle (by omega) (by omega)), if_pos hF6.1, zb_s n1, zb_s w7, zb_s i2, zb_s i3, zb_s i4]
            rw [zlp_l hm4]
            exact i5
          · rw [if_pos rfl] at hcc
            have hb6 := FBD_fr hb5 (zfr_w l2 (by decide) (by decide) (by decide))
            exact ⟨_, τ6, τ', τ5, τ6, zlp_r hcc, zlp_r (hneg _), o2, l1, zlp_r (hstop _ (hbd17 _ _ hb6)), Or.inr ⟨σ5, Or.inl rfl, hb6⟩⟩
    -- one record
    have hgN : ∀ j, j < s + 1 → (g j).1 < N := fun j hj => by
      have := RS_g hRS hek j hj
      omega
    obtain ⟨j, σ2, e', r, σ3, τ3, p1, p2, p3, p4, p5, p6, p7, p8, p9, p10, p11, p12, p13, p14, p15, p16⟩ := j_one hn hnb hs5 hsz hmm hT hF hs (by omega) hH hp hin hr hM hgN h0t (fun i => hRS.2 i 0) (fun x hx => ⟨by have := (hO x hx).1; omega, fun q => (hO x hx).2 0 (by omega) q.symm⟩) hv
    subst p3
    have he0 : e 0 = ((e 0).1, t) := Prod.ext rfl h0t
    have hjn : ¬ nI j < 0 := nI_nn (by omega)
    have h243 : zI τ3 24 = nI (s + 1) := p14.1
    have hcc : fX9_chooseRuns_L23_23 n nb sz mm (nI t, nI (L + 1), σ) = if r = 0 then some (.inr (.inr (.inr σ3))) else if zI σ3 16 ≤ 0 then fX9_chooseRuns_L23_130 n nb sz mm σ3 (nI t) (nI (L + 1)) else zb (fX2_next_0 n nb sz mm σ3) (fun q20 => (zb (fX5_isBefore_0 n nb sz mm q20.2 q20.1 (nI (plN sz w ib (e 0).1))) (fun q22 => (if q22 = 0 then (fX9_chooseRuns_L23_127 n nb sz mm q20.2 (nI t) (nI (L + 1)) (nI t) q20.1) else (fX9_chooseRuns_L23_127 n nb sz mm q20.2 (nI t) (nI (L + 1)) (nI t + 1) q20.1))))) := by
      unfold fX9_chooseRuns_L23_23
      dsimp only
      rw [if_neg (show ¬ nI (L + 1) ≤ 0 from nI_nle (by omega) (by omega)), zb_s (c_fturn (n := n) (nb := nb) (sz := sz) (by omega) hmm (by omega) hs hH), h0t, if_pos rfl]
      unfold fX9_chooseRuns_L23_58
      rw [zb_s p4]
      dsimp only
      rw [zb_s p5]
    -- the reference's place goes
    have hgone : ∀ τ4, fX10_nextRecord_0 n τ3 = some (-1, τ3) → τ4 = sA (sA (sI τ3 24 (nI s)) 10 (upd (zA τ3 10) j (zA τ3 10 s))) 11 (upd (zA τ3 11) j (vp_nar .boolean (zA τ3 11 s))) → fX10_choosing_L27_27 n (nI j, τ) = zb (fX10_firstHeld_0 n τ4) (fun q24 => some (.inl (q24, τ4))) := fun τ4 h1 h2 => by
      subst h2
      unfold fX10_choosing_L27_27
      dsimp only
      rw [if_neg hjn, zg_in (show j < 64 by omega) (by decide), nI_clamp (by omega), p6, zb_s p7, zb_s h1]
      dsimp only
      rw [if_pos rfl, h243, show nI (s + 1) - 1 = nI s from by rw [show (1 : Int32) = nI 1 from rfl, nI_sub (by omega)]; rfl, zg_in (show s < 64 by omega) (by decide), zg_in (show j < 64 by omega) (by decide), zg_in (show s < 64 by omega) (by decide), zg_in (show j < 64 by omega) (by decide), nI_clamp (by omega)]
      rfl
    have f34 : zfr [24] [10, 11] [] τ3 (sA (sA (sI τ3 24 (nI s)) 10 (upd (zA τ3 10) j (zA τ3 10 s))) 11 (upd (zA τ3 11) j (vp_nar .boolean (zA τ3 11 s)))) := zfr_A (by decide) (zfr_A (by decide) (zfr_I (by decide) zfr_r))
    rcases p8 with ⟨rfl, hF3⟩ | ⟨rfl, hb3, h19, hn17, hp17⟩
    · rw [if_neg (show ¬ (1 : Int32) = 0 by decide)] at hcc
      have hI3 : INP sz w N k ib σ3 τ3 := INP_fr hI p15 p16 (by decide) (by decide)
      have hO3 : ∀ k', k ≤ k' → ∀ x ∈ O ++ [(e 0).1], x < k' ∧ ∀ j, j < s → ¬ (e' j).1 = x := fun k' hk' x hx => by
        rcases List.mem_append.mp hx with y | y
        · refine ⟨by have := (hO x y).1; omega, fun i hi => ?_⟩
          obtain ⟨⟨i2, y1, y2⟩, -⟩ := (p13 (e' i)).mp ⟨i, hi, rfl⟩
          rw [← y2]
          exact (hO x y).2 i2 y1
        · rw [List.mem_singleton.mp y]
          refine ⟨by have := hek 0 (by omega); omega, fun i hi q => ?_⟩
          obtain ⟨⟨i2, y1, y2⟩, y3⟩ := (p13 (e' i)).mp ⟨i, hi, rfl⟩
          rw [← y2] at q y3
          exact y3 (by rw [hin i2 0 y1 (by omega) q])
      have hek3 : ∀ i, i < s → (e' i).1 < k := fun i hi => by
        obtain ⟨⟨i2, y1, y2⟩, -⟩ := (p13 (e' i)).mp ⟨i, hi, rfl⟩
        rw [← y2]
        exact hek i2 y1
      by_cases c : k = N
      · -- none is left
        subst c
        rw [if_pos (show zI σ3 16 ≤ 0 by rw [hI3.2.2.1, Nat.sub_self]; decide)] at hcc
        have hcc2 : fX9_chooseRuns_L23_23 n nb sz mm (nI t, nI (L + 1), σ) = some (.inl (nI t, nI L, σ3)) := by
          rw [hcc]
          unfold fX9_chooseRuns_L23_130
          rw [nI_dec (by omega), Nat.add_sub_cancel]
        obtain ⟨hg1, hg2⟩ := swp (g := g) (s := s) (j := j) p1 hgin
        have hM4 : HM s (pmN sz w ib) (fun i => if i = j then g s else g i) (sA (sA (sI τ3 24 (nI s)) 10 (upd (zA τ3 10) j (zA τ3 10 s))) 11 (upd (zA τ3 11) j (vp_nar .boolean (zA τ3 11 s)))) := by
          refine ⟨rfl, fun i hi => ?_⟩
          obtain ⟨y1, y2, y3⟩ := p14.2 s (by omega)
          show upd (zA τ3 10) j _ i = _ ∧ upd (zA τ3 11) j _ i = _ ∧ _
          rw [upd_at, upd_at]
          dsimp only
          by_cases z : i = j
          · rw [if_pos z, if_pos z, if_pos z]
            refine ⟨y1, ?_, y3⟩
            rw [y2]
            rcases (show (g s).2 = 0 ∨ (g s).2 = 1 by omega) with q | q
            · rw [q]; decide
            · rw [q]; decide
          · rw [if_neg z, if_neg z, if_neg z]
            exact p14.2 i (by omega)
        have hF4 := FRN_fr hF3 zfr_r (zfr_w f34 (by decide) (by decide) (by decide)) (fun pz sb cl' hO => OD_fr2 hO zfr_r (zfr_w f34 (by decide) (by decide) (by decide)))
        have hRS4 : RS t s e' (fun i => if i = j then g s else g i) := RS_out hRS he0 p13 (fun y => by rw [hg2 y, p2])
        have hg4 : ∀ i, i < s → ((fun i => if i = j then g s else g i) i : Nat × Nat).1 < k := RS_g hRS4 hek3
        obtain ⟨v4, w4, -⟩ := m_fh hn hnb hs5 hsz hT hF4 (by omega) hM4 hg4
        have hmr := hgone _ (m_next_end hI3) rfl
        rw [zb_s w4] at hmr
        obtain ⟨b, b', τ1, τ2, τ5, i1, i2, i3, i4, i5, i6⟩ := mid k s e' _ _ σ3 _ v4 hF4 (INP_fr hI3 (zfr_r (I := []) (A := []) (L := [])) f34 (by decide) (by decide)) (by omega) (by omega) (fun q => absurd q (Nat.lt_irrefl _)) p9 p10 p11 p12 hek3 hM4 hg1 hRS4 (hO3 k (Nat.le_refl _)) w4
        exact ⟨b, b', τ1, τ2, τ5, (zlp_l hcc2).trans i1, (zlp_l hmr).trans i2, i3, i4, i5, i6⟩
      · -- the next comes
        have hk : k < N := by omega
        rw [if_neg (show ¬ zI σ3 16 ≤ 0 by rw [hI3.2.2.1]; exact nI_nle (by omega) (by omega))] at hcc
        obtain ⟨hS3, h173, hK3, hd3, hcl3, hk13, hk23⟩ := FRN_com hF3
        obtain ⟨hr1, hc1⟩ := fb_row hK3 hrw hch hibu
        obtain ⟨σ4, τ4, a1, a2, a3, a4, a5, a6⟩ := j_next (n := n) (tk := tk) (P0 := P0) (by omega) hnb hs5 hsz hS3 hT hI3 hk h173 hr1 hc1
        have a1' : fX2_next_0 n nb sz mm σ3 = some (nI (plN sz w ib k), σ4) := a1
        have a2' : fX10_nextRecord_0 n τ3 = some (nI (pmN sz w ib k), τ4) := a2
        have hF4 := FRN_fr hF3 (zfr_w a4 (by decide) (by decide) (by decide)) (zfr_w a5 (by decide) (by decide) (by decide)) (fun pz sb cl' => a6 pz sb us cl')
        have f45 : zfr [] [10] [] τ4 (sA τ4 10 (upd (zA τ4 10) j (nI (pmN sz w ib k)))) := zfr_A (by decide) zfr_r
        have hF5 := FRN_fr hF4 zfr_r (zfr_w f45 (by decide) (by decide) (by decide)) (fun pz sb cl' hO => OD_fr2 hO zfr_r (zfr_w f45 (by decide) (by decide) (by decide)))
        obtain ⟨hS4, h174, hK4, hd4, hcl4, hk14, hk24⟩ := FRN_com hF4
        obtain ⟨hS5, h175, hK5, hd5, hcl5, hk15, hk25⟩ := FRN_com hF5
        have he0N := (hr 0 (by omega)).1
        have hbc := (st_B (n := n) (by omega) hnb hs5 hsz hT hS4 hd4 hcl4 hk14 hk24).1 k (e 0).1 hk he0N
        have hbm := (st_B (n := n) (by omega) hnb hs5 hsz hT hS5 hd5 hcl5 hk15 hk25).2 k (e 0).1 hk he0N
        obtain ⟨f0, hf1, hf0⟩ : ∃ f0, f0 ≤ 1 ∧ BN sz w kn (zA σb 1) (zA σb 2) ib cl k (e 0).1 = nI f0 := by
          rcases hB.1 k (e 0).1 with q | q
          · exact ⟨0, by omega, q⟩
          · exact ⟨1, by omega, q⟩
        rw [hf0] at hbc hbm
        have hH4 : HP s (plN sz w ib) e' σ4 := by
          unfold HP
          rw [a4.1 28 (by decide), a4.2.1 8 (by decide), a4.2.1 9 (by decide)]
          exact p9
        obtain ⟨σ5, e5, b1, b2, b3, b4, b5, b6, b7⟩ := c_hadd (n := n) (nb := nb) (sz := sz) (mm := mm) (N := N) (s := s) (pl := plN sz w ib) (B := BN sz w kn (zA σb 1) (zA σb 2) ib cl) (e := e') (x := (k, t + f0)) (σ := σ4) (by omega) hmm (by omega) hB (fun σ9 f9 => (st_B (n := n) (τ := τ4) (by omega) hnb hs5 hsz hT (SC_fr hS4 f9 (zfr_r (I := []) (A := []) (L := [])) (by decide) (by decide) (by decide) (by decide)) (by rw [dC_fr2 f9 (by decide) (by decide) (by decide)]; exact hd4) (by rw [dC_fr2 f9 (by decide) (by decide) (by decide)]; exact hcl4) ((f9.2.1 1 (by decide)).trans hk14) ((f9.2.1 2 (by decide)).trans hk24)).1) hH4 p10 p11 p12 ⟨hk, by show t + f0 < 2 ^ 30; omega⟩ (fun i hi q => by have := hek3 i hi; have q' : (e' i).1 = k := q; omega)
        have b1' : fX3_add_0 n nb sz mm σ4 (nI (plN sz w ib k)) (nI (t + f0)) = some σ5 := b1
        have hcc2 : fX9_chooseRuns_L23_23 n nb sz mm (nI t, nI (L + 1), σ) = some (.inl (nI t, nI L, σ5)) := by
          rw [hcc, zb_s a1']
          dsimp only
          rw [zb_s hbc]
          unfold fX9_chooseRuns_L23_127 fX9_chooseRuns_L23_130
          rcases (show f0 = 0 ∨ f0 = 1 by omega) with q | q
          · subst q
            have b1'' : fX3_add_0 n nb sz mm σ4 (nI (plN sz w ib k)) (nI t) = some σ5 := b1'
            rw [if_pos (show nI 0 = 0 from rfl), zb_s b1'', nI_dec (by omega), Nat.add_sub_cancel]
          · subst q
            rw [if_neg (show ¬ nI 1 = 0 by decide), nI_1, zb_s b1', nI_dec (by omega), Nat.add_sub_cancel]
        let τ6 := sA (sA τ4 10 (upd (zA τ4 10) j (nI (pmN sz w ib k)))) 11 (upd (zA τ4 11) j (nI f0))
        have hpmk : pmN sz w ib k < 2 ^ 31 := by
          obtain ⟨y1, y2, y3⟩ := bk_at hT hk
          have hper := p_per (w := w) hs5 hS4.2.1.2.1
          have hin' := r_in (w := w) (sz := sz) (c := 0) (Nat.mod_lt k hper) (Nat.zero_le _)
          unfold pmN
          omega
        have hmr : fX10_choosing_L27_27 n (nI j, τ) = zb (fX10_firstHeld_0 n τ6) (fun q24 => some (.inl (q24, τ6))) := by
          unfold fX10_choosing_L27_27
          dsimp only
          rw [if_neg hjn, zg_in (show j < 64 by omega) (by decide), nI_clamp (by omega), p6, zb_s p7, zb_s a2']
          dsimp only
          rw [if_neg (nI_m1 hpmk), zg_in (show j < 64 by omega) (by decide), zb_s hbm, zg_in (show j < 64 by omega) (by decide), show vp_nar .boolean (nI f0) = nI f0 from by
            rcases (show f0 = 0 ∨ f0 = 1 by omega) with q | q
            · rw [q]; decide
            · rw [q]; decide]
          rfl
        have f56 : zfr [] [11] [] (sA τ4 10 (upd (zA τ4 10) j (nI (pmN sz w ib k)))) τ6 := zfr_A (by decide) zfr_r
        have hF6 : FRN True nb sz mm w kn tk ib us cl P0 ps qs (O ++ [(e 0).1]) σb τb σ5 τ6 := FRN_fr hF5 (zfr_w b7 (by decide) (by decide) (by decide)) (zfr_w f56 (by decide) (by decide) (by decide)) (fun pz sb cl' hO => OD_fr2 hO (zfr_w b7 (by decide) (by decide) (by decide)) (zfr_w f56 (by decide) (by decide) (by decide)))
        have hI6 : INP sz w N (k + 1) ib σ5 τ6 := INP_fr (INP_fr a3 (zfr_r (I := []) (A := []) (L := [])) f45 (by decide) (by decide)) b7 f56 (by decide) (by decide)
        obtain ⟨hg1, hg2⟩ := swx (g := g) (s := s + 1) (j := j) (x := (k, f0)) p1 hgin (fun i hi q => by have := RS_g hRS hek i hi; have q' : (g i).1 = k := q; omega)
        have hM6 : HM (s + 1) (pmN sz w ib) (fun i => if i = j then (k, f0) else g i) τ6 := by
          refine ⟨(a5.1 24 (by decide)).trans h243, fun i hi => ?_⟩
          show upd (zA τ4 10) j _ i = _ ∧ upd (zA τ4 11) j _ i = _ ∧ _
          rw [upd_at, upd_at]
          dsimp only
          by_cases z : i = j
          · rw [if_pos z, if_pos z, if_pos z]
            exact ⟨rfl, rfl, hf1⟩
          · rw [if_neg z, if_neg z, if_neg z, a5.2.1 10 (by decide), a5.2.1 11 (by decide)]
            exact p14.2 i hi
        have hRS6 : RS t (s + 1) e5 (fun i => if i = j then (k, f0) else g i) := RS_put hRS he0 p13 b6 (fun y => by rw [hg2 y, p2])
        have hek5 : ∀ i, i < s + 1 → (e5 i).1 < k + 1 := fun i hi => by
          rcases (b6 (e5 i)).mp ⟨i, hi, rfl⟩ with q | ⟨i2, y1, y2⟩
          · rw [q]
            show k < k + 1
            omega
          · rw [← y2]
            have := hek3 i2 y1
            omega
        have hg6 : ∀ i, i < s + 1 → ((fun i => if i = j then (k, f0) else g i) i : Nat × Nat).1 < N := fun i hi => Nat.lt_of_lt_of_le (RS_g hRS6 hek5 i hi) hk
        obtain ⟨v6, w6, -⟩ := m_fh hn hnb hs5 hsz hT hF6 (by omega) hM6 hg6
        rw [zb_s w6] at hmr
        obtain ⟨b, b', τ1, τ2, τ5', i1, i2, i3, i4, i5, i6⟩ := mid (k + 1) (s + 1) e5 _ _ σ5 τ6 v6 hF6 hI6 (by omega) (by omega) (fun _ => by omega) b2 b3 b4 b5 hek5 hM6 hg1 hRS6 (fun x hx => ⟨(hO3 (k + 1) (by omega) x hx).1, fun i hi q => by
          rcases (b6 (e5 i)).mp ⟨i, hi, rfl⟩ with y | ⟨i2, y1, y2⟩
          · rw [y] at q
            have := (hO3 k (Nat.le_refl _) x hx).1
            have q' : k = x := q
            omega
          · rw [← y2] at q
            exact (hO3 k (Nat.le_refl _) x hx).2 i2 y1 q⟩) w6
        exact ⟨b, b', τ1, τ2, τ5', (zlp_l hcc2).trans i1, (zlp_l hmr).trans i2, i3, i4, i5, i6⟩
    · -- it failed
      rw [if_pos rfl] at hcc
      have hmr := hgone _ (m_next_stop (n := n) (show ¬ zI τ3 17 ≤ 0 from fun q => absurd hp17 (Int32.not_lt.mpr q))) rfl
      rw [zb_s (m_firstHeld_s (n := n) (H := s) (τ := sA (sA (sI τ3 24 (nI s)) 10 (upd (zA τ3 10) j (zA τ3 10 s))) 11 (upd (zA τ3 11) j (vp_nar .boolean (zA τ3 11 s)))) (by omega) rfl (by omega) hn17)] at hmr
      have hS2 := hF.2.1
      have hK2 : FK us ps σb τb σ τ := (FRN_com hF).2.2.1
      have hb4 := FBD_fr hb3 (zfr_w f34 (by decide) (by decide) (by decide))
      have hK4 := hb4.2.2.2
      obtain ⟨τ5, e1, e2⟩ := m_end_stop (n := n) (nb := nb) (sz := sz) (w := w) (τ := sA (sA (sI τ3 24 (nI s)) 10 (upd (zA τ3 10) j (zA τ3 10 s))) 11 (upd (zA τ3 11) j (vp_nar .boolean (zA τ3 11 s)))) (by omega) hnb hs5 hsz hS2.2.1.2.1 (by rw [hK4.2.2.2.1 1 (by decide), ← hK2.2.2.2.1 1 (by decide)]; exact hS2.1.1) (by rw [hK4.2.2.2.1 2 (by decide), ← hK2.2.2.2.1 2 (by decide)]; exact hS2.1.2.1) (by rw [hK4.2.2.2.1 6 (by decide), ← hK2.2.2.2.1 6 (by decide)]; exact hS2.2.1.2.2.1) hp17 h19
      have hb5 := FBD_fr hb4 (zfr_w e2 (by decide) (by decide) (by decide))
      obtain ⟨τ6, l1, l2, l3⟩ := m_clr (n := n) (H := s) (τ := τ5) (by omega) (e2.1 24 (by decide)) (by omega)
      have hb6 := FBD_fr hb5 (zfr_w l2 (by decide) (by decide) (by decide))
      exact ⟨_, τ6, _, τ5, τ6, zlp_r hcc, (zlp_l hmr).trans (zlp_r (hneg _)), e1, l1, zlp_r (hstop _ (hbd17 _ _ hb6)), Or.inr ⟨σ3, Or.inr rfl, hb6⟩⟩
