/-- loads of memory -/
theorem j_load {n nb sz mm w kn N : Nat} {tk ib : List Nat} {us : Nat → Bool} {cl : Nat → Nat → Int64} {P0 : Prop} {ps : List zP} {σb τb σ τ : zS} (hn : 110000 ≤ n) (hnb : nb ≤ 200) (hs5 : 5 ≤ sz) (hsz : sz ≤ 64) (hm2 : 2 ≤ mm) (hmm : mm ≤ 64) (hps : ps.length ≤ 200) (hT : IST nb sz w N ib us cl) (hr : rwL (fun x : Nat => x) ib (zI σb 17) (zA σb 5)) (hc : chC (zA τb 2) ib) (hpq : ∀ qs : List zP, (∀ p ∈ qs, ¬ p.2.1 = []) → (blQ qs).Nodup → (∀ b ∈ blQ qs, b < nb ∧ us b = false) → ps.length + qs.length ≤ 203) (h : FBR nb sz mm w kn tk ib us cl P0 ps [] [] σb τb σ τ) (hI : INP sz w N 0 ib σ τ) :
    ∃ r σ' τ', fX9_loadRuns_0 n nb sz mm σ = some (r, σ') ∧ fX10_loading_0 n τ = some τ' ∧ ((r = 1 ∧ ∃ qs O, FBR nb sz mm w kn tk ib us cl P0 ps qs O σb τb σ' τ' ∧ (∀ x ∈ O, x < N)) ∨ (r = 0 ∧ FBD nb sz tk us cl P0 ps σb τb σ' τ')) := by
  have hNb := hT.2.2.2.1
  have hstop : ∀ τ1 : zS, ¬ zI τ1 17 = 0 → fX10_loading_L0_0 n τ1 = some (.inr τ1) := fun τ1 h1 => by
    unfold fX10_loading_L0_0
    rw [if_neg h1, ite_self]
  have hbd17 : ∀ σ1 τ1 : zS, FBD nb sz tk us cl P0 ps σb τb σ1 τ1 → ¬ zI τ1 17 = 0 := fun σ1 τ1 hb => by
    rcases hb.1 with ⟨y, -⟩ | ⟨y, -⟩
    · rw [y]; decide
    · rw [y]; decide
  have hclr : fX3_clear_0 n nb sz mm σ = some (sI σ 28 0) := rfl
  have h0 : FBR nb sz mm w kn tk ib us cl P0 ps [] [] σb τb (sI σ 28 0) τ := FBR_fr h (zfr_I (by decide) zfr_r) zfr_r (fun pz sb cl' hO => OD_fr2 hO (zfr_I (by decide) zfr_r) zfr_r)
  have hI0 : INP sz w N 0 ib (sI σ 28 0) τ := INP_fr hI (zfr_I (I := [28]) (A := []) (L := []) (by decide) zfr_r) (zfr_r (I := []) (A := []) (L := [])) (by decide) (by decide)
  obtain ⟨b, b', l1, l2, hb⟩ := zlp_sk (body := fX9_loadRuns_L15_15 n nb sz mm) (body' := fX10_loading_L0_0 n)
    (fun m a a' => ∃ k L qs O σ1 τ1, a = (nI L, σ1) ∧ a' = τ1 ∧ m = N - k ∧ N - k ≤ L ∧ L ≤ 12800 ∧ FBR nb sz mm w kn tk ib us cl P0 ps qs O σb τb σ1 τ1 ∧ (∀ x ∈ O, x < k) ∧ INP sz w N k ib σ1 τ1 ∧ zI σ1 28 = 0)
    (fun b b' => (∃ σ1, b = .inl σ1 ∧ ∃ qs O, FBR nb sz mm w kn tk ib us cl P0 ps qs O σb τb σ1 b' ∧ (∀ x ∈ O, x < N)) ∨ (∃ σ1, (b = .inr (.inl σ1) ∨ b = .inr (.inr σ1)) ∧ FBD nb sz tk us cl P0 ps σb τb σ1 b'))
    (fun m a a' hP => by
      obtain ⟨k, L, qs, O, σ1, τ1, rfl, rfl, rfl, hL, hL2, q1, q2, q3, q4⟩ := hP
      have hkN := q3.1
      by_cases c : k = N
      · right; left
        refine ⟨.inl σ1, a', ?_, ?_, Or.inl ⟨σ1, rfl, qs, O, q1, fun x hx => c ▸ q2 x hx⟩⟩
        · unfold fX9_loadRuns_L15_15
          dsimp only
          rw [q3.2.2.1, if_pos (show nI (N - k) ≤ 0 by rw [c, Nat.sub_self]; decide), ite_self]
        · unfold fX10_loading_L0_0
          rw [q3.2.2.2.1, if_pos (show nI (N - k) ≤ 0 by rw [c, Nat.sub_self]; decide)]
      · have hk : k < N := by omega
        obtain ⟨σ2, τ2, s, e, a1, a2, a3, a4, a5, a6, a7, a8, a9, a10, a11, a12⟩ := j_fill hn hnb hs5 hsz hmm hT hr hc q1 q3 q4
        have hFq := a3.2.2.2.2.1
        obtain ⟨cl', -, hOD⟩ := a3.2.2.1
        obtain ⟨τ3, n1, n2, n3⟩ := j_nrun (n := n) (by omega) hnb hs5 hps (hpq _ (fun p hp => (hFq.2.1 p hp).1) hOD.2.2.2.2.1 hOD.2.2.2.2.2.1) a3
        have hM3 : HM s (pmN sz w ib) (fun j => (k + j, 0)) τ3 := by
          unfold HM
          rw [n3.1 24 (by decide), n3.2.1 10 (by decide), n3.2.1 11 (by decide)]
          exact a12
        have hI3 : INP sz w N (k + s) ib σ2 τ3 := INP_fr a4 (zfr_r (I := []) (A := []) (L := [])) n3 (by decide) (by decide)
        have hks := a4.1
        obtain ⟨v, w1, -⟩ := m_fh hn hnb hs5 hsz hT n2 (by omega) hM3 (fun j hj => by show k + j < N; omega)
        obtain ⟨b, b', l1, l2, hor⟩ := j_ld1 (k1 := nI L) hn hnb hs5 hsz hmm hT n2 hI3 q2 a5 a7 a8 a9 a10 a11 hM3 w1
        have hs0 : 0 < s := by omega
        have hcc : fX9_loadRuns_L15_15 n nb sz mm (nI L, σ1) = Sum.elim (fun b13 => (zb (fX7_endRun_0 n nb sz mm b13) (fun q15 => (if q15.1 = 0 then (some (.inr (.inr (.inr q15.2)))) else (some (.inl (nI (L - 1), q15.2))))))) (fun b13 => (some (.inr (.inr (.inl b13))))) b := by
          unfold fX9_loadRuns_L15_15
          dsimp only
          rw [if_neg (show ¬ nI L ≤ 0 from nI_nle (by omega) (by omega)), q3.2.2.1, if_neg (show ¬ nI (N - k) ≤ 0 from nI_nle (by omega) (by omega)), zb_s a1, a7.1, zb_s l1, nI_dec (by omega)]
        have hmr : fX10_loading_L0_0 n a' = zb (fX10_endRun_0 n b') (fun q18 => some (.inl q18)) := by
          unfold fX10_loading_L0_0
          rw [q3.2.2.2.1, if_neg (show ¬ nI (N - k) ≤ 0 from nI_nle (by omega) (by omega)), if_pos q1.1, zb_s a2, zb_s n1, zb_s w1, zb_s l2]
        rcases hor with ⟨σ4, O4, rfl, hF4, hI4, h284, hO4⟩ | ⟨σ4, rfl, hb4, h19, h17⟩
        · obtain ⟨b1, b2, b3⟩ := bk_at hT hk
          obtain ⟨r, σ5, τ5, o1, o2, hor5, f5, g5⟩ := j_fend (n := n) (by omega) hnb hs5 hsz (FRN_z (fun _ => hs0) hF4) ⟨_, b2, b3⟩
          dsimp only [Sum.elim] at hcc
          rw [zb_s o1] at hcc
          rw [zb_s o2] at hmr
          rcases hor5 with ⟨rfl, p, hF5⟩ | ⟨rfl, hb5⟩
          · left
            rw [if_neg (show ¬ (1 : Int32) = 0 by decide)] at hcc
            exact ⟨_, _, N - (k + s), by omega, hcc, hmr, k + s, L - 1, _, O4, σ5, τ5, rfl, rfl, rfl, by omega, by omega, hF5, hO4, INP_fr hI4 f5 g5 (by decide) (by decide), (f5.1 28 (by decide)).trans h284⟩
          · right; right
            rw [if_pos rfl] at hcc
            exact ⟨_, _, _, hcc, hmr, hstop τ5 (hbd17 _ _ hb5), Or.inr ⟨σ5, Or.inr rfl, hb5⟩⟩
        · right; right
          have hS2 := n2.2.1
          have hK2 : FK us ps σb τb σ2 τ3 := (FRN_com n2).2.2.1
          have hK4 : FK us ps σb τb σ4 b' := hb4.2.2.2
          obtain ⟨τ5, e1, e2⟩ := m_end_stop (n := n) (nb := nb) (sz := sz) (w := w) (τ := b') (by omega) hnb hs5 hsz hS2.2.1.2.1 (by rw [hK4.2.2.2.1 1 (by decide), ← hK2.2.2.2.1 1 (by decide)]; exact hS2.1.1) (by rw [hK4.2.2.2.1 2 (by decide), ← hK2.2.2.2.1 2 (by decide)]; exact hS2.1.2.1) (by rw [hK4.2.2.2.1 6 (by decide), ← hK2.2.2.2.1 6 (by decide)]; exact hS2.2.1.2.2.1) h17 h19
          rw [zb_s e1] at hmr
          have hb5 := FBD_fr hb4 (zfr_w e2 (by decide) (by decide) (by decide))
          exact ⟨_, _, _, hcc, hmr, hstop τ5 (hbd17 _ _ hb5), Or.inr ⟨σ4, Or.inl rfl, hb5⟩⟩)
    n N (nI (N - 0), sI σ 28 0) τ (by omega) ⟨0, N - 0, [], [], sI σ 28 0, τ, rfl, rfl, rfl, Nat.le_refl _, by omega, h0, fun x hx => (by cases hx), hI0, rfl⟩
  have hm0 : fX10_loading_0 n τ = some b' := by
    unfold fX10_loading_0
    rw [zb_s l2]
  have h16 : zI (sI σ 28 0) 16 = nI (N - 0) := hI.2.2.1
  rcases hb with ⟨σ1, rfl, qs, O, hF, hO⟩ | ⟨σ1, hb1, h2⟩
  · refine ⟨1, σ1, b', ?_, hm0, Or.inl ⟨rfl, qs, O, hF, hO⟩⟩
    unfold fX9_loadRuns_0
    rw [zb_s hclr, h16, zb_s l1]
    rfl
  · refine ⟨0, σ1, b', ?_, hm0, Or.inr ⟨rfl, h2⟩⟩
    unfold fX9_loadRuns_0
    rw [zb_s hclr, h16, zb_s l1]
    rcases hb1 with rfl | rfl
    · rfl
    · rfl
