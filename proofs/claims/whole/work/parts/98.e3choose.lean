/-- a choice out of memory -/
theorem j_chs {n nb sz mm w kn N : Nat} {tk ib : List Nat} {us : Nat → Bool} {cl : Nat → Nat → Int64} {P0 : Prop} {ps : List zP} {σb τb σ τ : zS} (hn : 110000 ≤ n) (hnb : nb ≤ 200) (hs5 : 5 ≤ sz) (hsz : sz ≤ 64) (hm2 : 2 ≤ mm) (hmm : mm ≤ 64) (hps : ps.length ≤ 200) (hT : IST nb sz w N ib us cl) (hr : rwL (fun x : Nat => x) ib (zI σb 17) (zA σb 5)) (hc : chC (zA τb 2) ib) (hpq : ∀ qs : List zP, (∀ p ∈ qs, ¬ p.2.1 = []) → (blQ qs).Nodup → (∀ b ∈ blQ qs, b < nb ∧ us b = false) → ps.length + qs.length ≤ 203) (h : FBR nb sz mm w kn tk ib us cl P0 ps [] [] σb τb σ τ) (hI : INP sz w N 0 ib σ τ) :
    ∃ r σ' τ', fX9_chooseRuns_0 n nb sz mm σ = some (r, σ') ∧ fX10_choosing_0 n τ = some τ' ∧ ((r = 1 ∧ ∃ qs O, FBR nb sz mm w kn tk ib us cl P0 ps qs O σb τb σ' τ' ∧ (∀ x ∈ O, x < N)) ∨ (r = 0 ∧ FBD nb sz tk us cl P0 ps σb τb σ' τ')) := by
  have hNb := hT.2.2.2.1
  have hclr : fX3_clear_0 n nb sz mm σ = some (sI σ 28 0) := rfl
  have h0 : FBR nb sz mm w kn tk ib us cl P0 ps [] [] σb τb (sI σ 28 0) τ := FBR_fr h (zfr_I (by decide) zfr_r) zfr_r (fun pz sb cl' hO => OD_fr2 hO (zfr_I (by decide) zfr_r) zfr_r)
  have hI0 : INP sz w N 0 ib (sI σ 28 0) τ := INP_fr hI (zfr_I (I := [28]) (A := []) (L := []) (by decide) zfr_r) (zfr_r (I := []) (A := []) (L := [])) (by decide) (by decide)
  obtain ⟨σ2, τ2, s, e, a1, a2, a3, a4, a5, a6, a7, a8, a9, a10, a11, a12⟩ := j_fill hn hnb hs5 hsz hmm hT hr hc h0 hI0 rfl
  rw [Nat.zero_add] at a4 a6
  have h16 : zI (sI σ 28 0) 16 = nI N := hI.2.2.1
  have hcl0 : ∀ b, zlp (fX9_chooseRuns_L23_23 n nb sz mm) n (0, nI N, σ2) = some b → fX9_chooseRuns_0 n nb sz mm σ = Sum.elim (fun b27 => (zb (fX7_endRun_0 n nb sz mm b27) (fun q29 => (zg (zbo q29.1) (some (q29.1, q29.2)))))) (fun b27 => Sum.elim (fun b27 => (some (0, b27))) (fun b27 => (some (0, b27))) b27) b := fun b l1 => by
    unfold fX9_chooseRuns_0
    rw [zb_s hclr, zb_s a1, h16, zb_s l1]
  have hm0 : ∀ b', zlp (fX10_choosing_L4_4 n) n τ2 = some b' → fX10_choosing_0 n τ = some b' := fun b' l2 => by
    unfold fX10_choosing_0
    rw [zb_s a2, zb_s l2]
  obtain ⟨n', rfl⟩ : ∃ n', n = n' + 1 := ⟨n - 1, by omega⟩
  by_cases c : N = 0
  · subst c
    have hs0 : s = 0 := by have := a4.1; omega
    subst hs0
    refine ⟨1, σ2, τ2, ?_, hm0 τ2 (zlp_r ?_), Or.inl ⟨rfl, [], [], a3, fun x hx => (by cases hx)⟩⟩
    · rw [hcl0 (.inl σ2) (zlp_r (by
        unfold fX9_chooseRuns_L23_23
        exact if_pos (show nI 0 ≤ 0 by decide)))]
      dsimp only [Sum.elim]
      rw [zb_s (c_end0 a3)]
      dsimp only
      rw [zg_t (by decide)]
    · unfold fX10_choosing_L4_4
      rw [a12.1, if_pos (show nI 0 ≤ 0 by decide)]
  · have hs0 : 0 < s := by omega
    have hsN := a4.1
    have hFq := a3.2.2.2.2.1
    obtain ⟨cl', -, hOD⟩ := a3.2.2.1
    obtain ⟨τ3, n1, n2, n3⟩ := j_nrun (n := n' + 1) (by omega) hnb hs5 hps (hpq _ (fun p hp => (hFq.2.1 p hp).1) hOD.2.2.2.2.1 hOD.2.2.2.2.2.1) a3
    have hM3 : HM s (pmN sz w ib) (fun j => (0 + j, 0)) τ3 := by
      unfold HM
      rw [n3.1 24 (by decide), n3.2.1 10 (by decide), n3.2.1 11 (by decide)]
      exact a12
    have hI3 : INP sz w N s ib σ2 τ3 := INP_fr a4 (zfr_r (I := []) (A := []) (L := [])) n3 (by decide) (by decide)
    obtain ⟨v, w1, -⟩ := m_fh hn hnb hs5 hsz hT n2 (by omega) hM3 (fun j hj => by show 0 + j < N; omega)
    have hmem := fun j (hj : j < s) => (a11 (e j)).mp ⟨j, hj, rfl⟩
    have hRS : RS 0 s e (fun j => (0 + j, 0)) := by
      refine ⟨fun j hj => Nat.zero_le _, fun i f => ?_⟩
      rw [Nat.zero_add, a11 (i, f)]
      constructor
      · rintro ⟨y1, y2, y3⟩
        dsimp only at y2 y3
        exact ⟨i, by omega, Prod.ext (Nat.zero_add _) y3.symm⟩
      · rintro ⟨j, y1, y2⟩
        have h1 : 0 + j = i := congrArg Prod.fst y2
        have h2 : 0 = f := congrArg Prod.snd y2
        exact ⟨Nat.zero_le _, by show i < 0 + s; omega, h2.symm⟩
    obtain ⟨b, b', τ1, τ5, τ6, i1, i2, i3, i4, i5, i6⟩ := ch_go hn hnb hs5 hsz hm2 hmm hps hT hr hc hpq N (n' + 1) (n' + 1) n' False 0 s s e (fun j => (0 + j, 0)) v [] [] σ2 τ3 (by omega) (by omega) (by omega) n2 hI3 a5 (by omega) (fun _ => hs0) (by omega) a7 a8 a9 a10 (fun j hj => by have := (hmem j hj).2.1; omega) hM3 (fun a b ha hb h => by have h' : 0 + a = 0 + b := h; omega) hRS (fun x hx => (by cases hx)) hs0 (hmem 0 hs0).2.2 w1
    have hm4 : fX10_choosing_L4_4 (n' + 1) τ2 = some (.inl τ6) := by
      unfold fX10_choosing_L4_4
      rw [a12.1, if_neg (show ¬ nI s ≤ 0 from nI_nle (by omega) (by omega)), if_pos a3.1, zb_s n1, zb_s w1, zb_s i2, zb_s i3, zb_s i4]
    have hmE := hm0 b' ((zlp_l hm4).trans i5)
    have hcE := hcl0 b i1
    rcases i6 with ⟨σf, r, σ', rfl, o1, hor⟩ | ⟨σ1, hb1, h2⟩
    · dsimp only [Sum.elim] at hcE
      rw [zb_s o1] at hcE
      dsimp only at hcE
      rcases hor with ⟨rfl, hF⟩ | ⟨rfl, hF⟩
      · rw [zg_t (by decide)] at hcE
        exact ⟨1, σ', b', hcE, hmE, Or.inl ⟨rfl, hF⟩⟩
      · rw [zg_t (by decide)] at hcE
        exact ⟨0, σ', b', hcE, hmE, Or.inr ⟨rfl, hF⟩⟩
    · refine ⟨0, σ1, b', ?_, hmE, Or.inr ⟨rfl, h2⟩⟩
      rw [hcE]
      rcases hb1 with rfl | rfl
      · rfl
      · rfl
