theorem m_next_end {n sz w N : Nat} {ib : List Nat} {σ τ : zS} (h : INP sz w N N ib σ τ) : fX10_nextRecord_0 n τ = some (-1, τ) := by
  unfold fX10_nextRecord_0
  rw [if_pos (by rw [h.2.2.2.1, Nat.sub_self]; rfl)]
theorem m_next_stop {n : Nat} {τ : zS} (h : ¬ zI τ 17 ≤ 0) : fX10_nextRecord_0 n τ = some (-1, τ) := by
  unfold fX10_nextRecord_0
  rw [if_neg h, ite_self]
theorem c_end0 {nb sz mm w kn n : Nat} {tk ib : List Nat} {us : Nat → Bool} {cl : Nat → Nat → Int64} {P0 : Prop} {ps qs : List zP} {O : List Nat} {σb τb σ τ : zS} (h : FBR nb sz mm w kn tk ib us cl P0 ps qs O σb τb σ τ) : fX7_endRun_0 n nb sz mm σ = some (1, σ) := by
  obtain ⟨h17, hS, -, a3, -⟩ := h
  unfold fX7_endRun_0 fX7_settleWaiting_0 fX7_endRun_23 fX7_endRun_57 fX7_beginRun_0
  rw [if_pos a3.2.1, zb_s rfl]
  dsimp only
  rw [if_neg (show ¬ (1 : Int32) = 0 by decide), a3.1, if_pos (by decide), if_pos a3.2.2.1, zb_s rfl]
  have e1 : sI σ 20 0 = σ := by rw [← a3.1, sI_id]
  have e2 : sI σ 21 (-1) = σ := by rw [← a3.2.1, sI_id]
  have e3 : sI σ 22 (-1) = σ := by rw [← a3.2.2.1, sI_id]
  have e4 : sI σ 23 (-1) = σ := by rw [← a3.2.2.2.1, sI_id]
  have e5 : sI σ 24 0 = σ := by rw [← a3.2.2.2.2.1, sI_id]
  rw [e1, e2, e3, e4, e5]
theorem fb_row {us : Nat → Bool} {ps : List zP} {ib : List Nat} {σb τb σ τ : zS} (h : FK us ps σb τb σ τ) (hr : rwL (fun x : Nat => x) ib (zI σb 17) (zA σb 5)) (hc : chC (zA τb 2) ib) (hu : ∀ b ∈ ib, us b = true) : rwL (fun x : Nat => x) ib (zI σ 17) (zA σ 5) ∧ chC (zA τ 2) ib := by
  refine ⟨?_, chC_congr (fun b hb => (h.1 b (hu b hb)).2.1) hc⟩
  rw [h.2.2.1.1 17 (by decide), h.2.2.1.2.1 5 (by decide)]
  exact hr
theorem INP_fr {sz w N k : Nat} {ib : List Nat} {σ τ σ' τ' : zS} {I A L I' A' L' : List Nat} (h : INP sz w N k ib σ τ) (f : zfr I A L σ σ') (f' : zfr I' A' L' τ τ') (hI : ∀ k ∈ [15, 16], ¬ k ∈ I) (hI' : ∀ k ∈ [21, 22, 23], ¬ k ∈ I') : INP sz w N k ib σ' τ' := by
  unfold INP
  rw [f.1 15 (hI 15 (by decide)), f.1 16 (hI 16 (by decide)), f'.1 21 (hI' 21 (by decide)), f'.1 22 (hI' 22 (by decide)), f'.1 23 (hI' 23 (by decide))]
  exact h
/-- as they are -/
theorem j_copy {n nb sz mm w kn N : Nat} {tk ib : List Nat} {us : Nat → Bool} {cl : Nat → Nat → Int64} {P0 : Prop} {ps : List zP} {σb τb σ τ : zS} (hn : 110000 ≤ n) (hnb : nb ≤ 200) (hs5 : 5 ≤ sz) (hsz : sz ≤ 64) (hps : ps.length ≤ 200) (hT : IST nb sz w N ib us cl) (hr : rwL (fun x : Nat => x) ib (zI σb 17) (zA σb 5)) (hc : chC (zA τb 2) ib) (hpq : ∀ qs : List zP, (∀ p ∈ qs, ¬ p.2.1 = []) → (blQ qs).Nodup → (∀ b ∈ blQ qs, b < nb ∧ us b = false) → ps.length + qs.length ≤ 203) (h : FBR nb sz mm w kn tk ib us cl P0 ps [] [] σb τb σ τ) (hI : INP sz w N 0 ib σ τ) :
    ∃ r σ' τ', fX9_copyRuns_0 n nb sz mm σ = some (r, σ') ∧ fX10_asTheyAre_0 n τ = some τ' ∧ ((r = 1 ∧ ∃ qs O, FBR nb sz mm w kn tk ib us cl P0 ps qs O σb τb σ' τ' ∧ (∀ x ∈ O, x < N)) ∨ (r = 0 ∧ FBD nb sz tk us cl P0 ps σb τb σ' τ')) := by
  have hibu : ∀ b ∈ ib, us b = true := fun b hb => (hT.2.1 b hb).2
  -- where a run goes on
  let St := fun (k : Nat) (σ1 τ0 : zS) => INP sz w N k ib σ1 τ0 ∧ ((k = 0 ∧ FBR nb sz mm w kn tk ib us cl P0 ps [] [] σb τb σ1 τ0) ∨ (0 < k ∧ ∃ qs, FRN True nb sz mm w kn tk ib us cl P0 ps qs (List.range k) σb τb σ1 τ0))
  have hnx : ∀ k σ1 τ0, St k σ1 τ0 → k < N → ∃ σ2 τ2, fX2_next_0 n nb sz mm σ1 = some (nI (bkN sz w ib k * sz + k % (sz / (w + 1)) * (w + 1)), σ2) ∧ fX10_nextRecord_0 n τ0 = some (nI (64 * bkN sz w ib k + k % (sz / (w + 1)) * (w + 1)), τ2) ∧ INP sz w N (k + 1) ib σ2 τ2 ∧ SC nb sz mm w kn σ2 τ2 ∧ dM nb sz τ2 = dC nb sz σ2 ∧ zI τ2 17 = 0 ∧ ((k = 0 ∧ FBR nb sz mm w kn tk ib us cl P0 ps [] [] σb τb σ2 τ2) ∨ (0 < k ∧ ∃ qs, FRN True nb sz mm w kn tk ib us cl P0 ps qs (List.range k) σb τb σ2 τ2)) := by
    intro k σ1 τ0 hst hk
    obtain ⟨hI1, hor⟩ := hst
    have hcom : SC nb sz mm w kn σ1 τ0 ∧ zI τ0 17 = 0 ∧ FK us ps σb τb σ1 τ0 := by
      rcases hor with ⟨-, f⟩ | ⟨-, qs, f⟩
      · exact ⟨f.2.1, f.1, f.2.2.2.2.2.2.1⟩
      · obtain ⟨x1, x2, cl', mk, op, ct, cb, wp, on, y1, y2, y3, y4, y5, y6, y7, y8, y9, y10, y11⟩ := f
        exact ⟨x2, x1, y10⟩
    obtain ⟨hS1, h171, hK1⟩ := hcom
    obtain ⟨hr1, hc1⟩ := fb_row hK1 hr hc hibu
    obtain ⟨σ2, τ2, a1, a2, a3, a4, a5, a6⟩ := j_next (n := n) (tk := tk) (P0 := P0) (by omega) hnb hs5 hsz hS1 hT hI1 hk h171 hr1 hc1
    have hS2 := SC_fr hS1 a4 a5 (by decide) (by decide) (by decide) (by decide)
    refine ⟨σ2, τ2, a1, a2, a3, hS2, ?_, (a5.1 17 (by decide)).trans h171, ?_⟩
    · rcases hor with ⟨-, f⟩ | ⟨-, qs, f⟩
      · obtain ⟨cl', -, y⟩ := f.2.2.1
        exact (a6 _ _ _ _ y).1
      · obtain ⟨x1, x2, cl', mk, op, ct, cb, wp, on, y1, y2, y3⟩ := f
        exact (a6 _ _ _ _ y2).1
    · rcases hor with ⟨z, f⟩ | ⟨z, qs, f⟩
      · exact Or.inl ⟨z, FBR_fr f (zfr_w a4 (by decide) (by decide) (by decide)) (zfr_w a5 (by decide) (by decide) (by decide)) (fun pz sb cl' => a6 pz sb us cl')⟩
      · exact Or.inr ⟨z, qs, FRN_fr f (zfr_w a4 (by decide) (by decide) (by decide)) (zfr_w a5 (by decide) (by decide) (by decide)) (fun pz sb cl' => a6 pz sb us cl')⟩
  have hsome : ∀ k σ1 τ0, St k σ1 τ0 → ∃ q, fX10_nextRecord_0 n τ0 = some q := fun k σ1 τ0 hst => by
    by_cases e : k < N
    · obtain ⟨σ2, τ2, a1, a2, -⟩ := hnx k σ1 τ0 hst e
      exact ⟨_, a2⟩
    · have : k = N := by have := hst.1.1; omega
      subst this
      exact ⟨_, m_next_end hst.1⟩
  have hnd0 : ∀ i, i ≤ 12800 * 64 → nI i = nI i := fun _ _ => rfl
  have hloop := zlp_sk (body := fX9_copyRuns_L10_10 n nb sz mm) (body' := fX10_asTheyAre_L7_7 n)
    (fun m a a' => ∃ k σ1 τ0 q, a = ((if k = 0 then -1 else nI (bkN sz w ib (k - 1) * sz + (k - 1) % (sz / (w + 1)) * (w + 1))), nI (N - k), σ1) ∧ a' = ((if k = 0 then -1 else nI (64 * bkN sz w ib (k - 1) + (k - 1) % (sz / (w + 1)) * (w + 1))), q.1, q.2) ∧ fX10_nextRecord_0 n τ0 = some q ∧ m = N - k ∧ St k σ1 τ0)
    (fun b b' => (∃ σ1, b = .inl σ1 ∧ b'.1 = (if N = 0 then -1 else nI (64 * bkN sz w ib (N - 1) + (N - 1) % (sz / (w + 1)) * (w + 1))) ∧ St N σ1 b'.2) ∨ (∃ σ1, (b = .inr (.inl σ1) ∨ b = .inr (.inr σ1)) ∧ ¬ zI b'.2 17 = 0 ∧ FBD nb sz tk us cl P0 ps σb τb σ1 b'.2))
    (fun m a a' hP => by
      obtain ⟨k, σ1, τ0, q, rfl, rfl, hq, rfl, hst⟩ := hP
      have hkN := hst.1.1
      by_cases e : k = N
      · right; left
        subst e
        rw [m_next_end hst.1] at hq
        cases hq
        refine ⟨.inl σ1, ((if k = 0 then -1 else nI (64 * bkN sz w ib (k - 1) + (k - 1) % (sz / (w + 1)) * (w + 1))), τ0), ?_, ?_, Or.inl ⟨σ1, rfl, rfl, hst⟩⟩
        · unfold fX9_copyRuns_L10_10
          dsimp only
          rw [Nat.sub_self, if_pos (show nI 0 ≤ 0 by decide)]
        · unfold fX10_asTheyAre_L7_7
          dsimp only
          rw [if_pos rfl]
      · have hk : k < N := by omega
        have hNb := hT.2.2.2.1
        obtain ⟨σ2, τ2, a1, a2, a3, hS2, hd2, h172, hor⟩ := hnx k σ1 τ0 hst hk
        rw [a2] at hq
        cases hq
        obtain ⟨b1, b2, b3⟩ := bk_at hT hk
        have hper := p_per (w := w) hs5 hS2.2.1.2.1
        have hmod := Nat.mod_lt k hper
        have hbig := mul_big hnb hsz
        have hpl := mul_lt b2 (r_in (c := 0) hmod (Nat.zero_le _))
        have hin1 := r_in (w := w) (sz := sz) (c := 0) hmod (Nat.zero_le _)
        have hkO : ∀ x ∈ List.range k, ¬ nuN sz w ib cl x = nuN sz w ib cl k := fun x hx z => by
          have hx2 := List.mem_range.mp hx
          have := hT.2.2.2.2 x k (by omega) hk z
          omega
        have hrng : List.range k ++ [k] = List.range (k + 1) := List.range_succ.symm
        -- a record goes out
        have go : ∀ (z : Prop) (σ3 τ3 : zS) (qs : List zP), FRN z nb sz mm w kn tk ib us cl P0 ps qs (List.range k) σb τb σ3 τ3 → INP sz w N (k + 1) ib σ3 τ3 → fX9_copyRuns_L10_10 n nb sz mm ((if k = 0 then -1 else nI (bkN sz w ib (k - 1) * sz + (k - 1) % (sz / (w + 1)) * (w + 1))), nI (N - k), σ1) = fX9_copyRuns_L10_51 n nb sz mm σ3 (nI (N - k)) (nI (bkN sz w ib k * sz + k % (sz / (w + 1)) * (w + 1))) → fX10_asTheyAre_L7_7 n ((if k = 0 then -1 else nI (64 * bkN sz w ib (k - 1) + (k - 1) % (sz / (w + 1)) * (w + 1))), nI (64 * bkN sz w ib k + k % (sz / (w + 1)) * (w + 1)), τ2) = fX10_asTheyAre_L7_60 n τ3 (nI (64 * bkN sz w ib k + k % (sz / (w + 1)) * (w + 1))) → _ := fun z σ3 τ3 qs hF hI3 hcc hmm => (by
          obtain ⟨r, σ4, τ4, o1, o2, hor4, f4, g4⟩ := j_fout (n := n) (b := bkN sz w ib k) (i := k % (sz / (w + 1))) (k := k) (by omega) hnb hs5 hsz hF b2 hmod b3 ⟨rfl, rfl⟩ hkO
          unfold fX9_copyRuns_L10_51 at hcc
          unfold fX10_asTheyAre_L7_60 fX10_asTheyAre_L7_72 at hmm
          rw [zb_s o1] at hcc
          rw [if_pos hF.1, zb_s o2] at hmm
          dsimp only at hcc
          rcases hor4 with ⟨rfl, hF4⟩ | ⟨rfl, hb4⟩
          · left
            rw [if_neg (show ¬ (1 : Int32) = 0 by decide), nI_dec (by omega)] at hcc
            rw [hrng] at hF4
            have hI4 := INP_fr hI3 f4 g4 (by decide) (by decide)
            have hst4 : St (k + 1) σ4 τ4 := ⟨hI4, Or.inr ⟨by omega, qs, hF4⟩⟩
            obtain ⟨q', hq'⟩ := hsome (k + 1) σ4 τ4 hst4
            rw [zb_s hq'] at hmm
            refine ⟨_, _, N - (k + 1), by omega, hcc, hmm, k + 1, σ4, τ4, q', ?_, ?_, hq', rfl, hst4⟩
            · rw [if_neg (show ¬ k + 1 = 0 by omega), Nat.add_sub_cancel, show N - (k + 1) = N - k - 1 by omega]
            · rw [if_neg (show ¬ k + 1 = 0 by omega), Nat.add_sub_cancel]
          · right; right
            rw [if_pos rfl] at hcc
            have h17n : ¬ zI τ4 17 ≤ 0 := by
              rcases hb4.1 with ⟨y, -⟩ | ⟨y, -⟩
              · rw [y]; decide
              · rw [y]; decide
            have h170 : ¬ zI τ4 17 = 0 := fun y => h17n (by rw [y]; decide)
            rw [zb_s (m_next_stop h17n)] at hmm
            refine ⟨_, _, (nI (64 * bkN sz w ib k + k % (sz / (w + 1)) * (w + 1)), τ4), hcc, hmm, ?_, Or.inr ⟨σ4, Or.inr rfl, h170, hb4⟩⟩
            unfold fX10_asTheyAre_L7_7
            exact if_pos rfl : (∃ c c' m', m' < N - k ∧ fX9_copyRuns_L10_10 n nb sz mm ((if k = 0 then -1 else nI (bkN sz w ib (k - 1) * sz + (k - 1) % (sz / (w + 1)) * (w + 1))), nI (N - k), σ1) = some (.inl c) ∧ fX10_asTheyAre_L7_7 n ((if k = 0 then -1 else nI (64 * bkN sz w ib (k - 1) + (k - 1) % (sz / (w + 1)) * (w + 1))), nI (64 * bkN sz w ib k + k % (sz / (w + 1)) * (w + 1)), τ2) = some (.inl c') ∧ ∃ k σ1 τ0 q, c = ((if k = 0 then -1 else nI (bkN sz w ib (k - 1) * sz + (k - 1) % (sz / (w + 1)) * (w + 1))), nI (N - k), σ1) ∧ c' = ((if k = 0 then -1 else nI (64 * bkN sz w ib (k - 1) + (k - 1) % (sz / (w + 1)) * (w + 1))), q.1, q.2) ∧ fX10_nextRecord_0 n τ0 = some q ∧ m' = N - k ∧ St k σ1 τ0) ∨ (∃ b b', fX9_copyRuns_L10_10 n nb sz mm ((if k = 0 then -1 else nI (bkN sz w ib (k - 1) * sz + (k - 1) % (sz / (w + 1)) * (w + 1))), nI (N - k), σ1) = some (.inr b) ∧ fX10_asTheyAre_L7_7 n ((if k = 0 then -1 else nI (64 * bkN sz w ib (k - 1) + (k - 1) % (sz / (w + 1)) * (w + 1))), nI (64 * bkN sz w ib k + k % (sz / (w + 1)) * (w + 1)), τ2) = some (.inr b') ∧ ((∃ σ1, b = .inl σ1 ∧ b'.1 = (if N = 0 then -1 else nI (64 * bkN sz w ib (N - 1) + (N - 1) % (sz / (w + 1)) * (w + 1))) ∧ St N σ1 b'.2) ∨ (∃ σ1, (b = .inr (.inl σ1) ∨ b = .inr (.inr σ1)) ∧ ¬ zI b'.2 17 = 0 ∧ FBD nb sz tk us cl P0 ps σb τb σ1 b'.2))) ∨ (∃ b c' b', fX9_copyRuns_L10_10 n nb sz mm ((if k = 0 then -1 else nI (bkN sz w ib (k - 1) * sz + (k - 1) % (sz / (w + 1)) * (w + 1))), nI (N - k), σ1) = some (.inr b) ∧ fX10_asTheyAre_L7_7 n ((if k = 0 then -1 else nI (64 * bkN sz w ib (k - 1) + (k - 1) % (sz / (w + 1)) * (w + 1))), nI (64 * bkN sz w ib k + k % (sz / (w + 1)) * (w + 1)), τ2) = some (.inl c') ∧ fX10_asTheyAre_L7_7 n c' = some (.inr b') ∧ ((∃ σ1, b = .inl σ1 ∧ b'.1 = (if N = 0 then -1 else nI (64 * bkN sz w ib (N - 1) + (N - 1) % (sz / (w + 1)) * (w + 1))) ∧ St N σ1 b'.2) ∨ (∃ σ1, (b = .inr (.inl σ1) ∨ b = .inr (.inr σ1)) ∧ ¬ zI b'.2 17 = 0 ∧ FBD nb sz tk us cl P0 ps σb τb σ1 b'.2))))
        have hrec : ¬ nI (64 * bkN sz w ib k + k % (sz / (w + 1)) * (w + 1)) = -1 := nI_m1 (by omega)
        rcases hor with ⟨hk0, hF⟩ | ⟨hk0, qs, hF⟩
        · -- the first record: a run begins
          subst hk0
          obtain ⟨τ3, n1, n2, n3⟩ := j_nrun (n := n) (by omega) hnb hs5 hps (hpq [] (fun p hp => by cases hp) List.nodup_nil (fun b hb => by cases hb)) hF
          refine go False σ2 τ3 [] n2 (INP_fr a3 (zfr_r (I := []) (A := []) (L := [])) n3 (by decide) (by decide)) ?_ ?_
          · unfold fX9_copyRuns_L10_10
            dsimp only
            rw [if_neg (show ¬ nI (N - 0) ≤ 0 from nI_nle (by omega) (by omega)), zb_s a1]
            dsimp only
            rw [if_pos rfl, if_pos rfl]
          · unfold fX10_asTheyAre_L7_7 fX10_asTheyAre_L7_26 fX10_asTheyAre_L7_31 fX10_asTheyAre_L7_45
            dsimp only
            rw [if_neg hrec, if_pos rfl, if_pos rfl, if_neg (show ¬ (1 : Int32) = 0 by decide), if_pos rfl, if_neg (show ¬ (1 : Int32) = 0 by decide), if_pos h172, zb_s n1]
        · have hkne : ¬ k = 0 := by omega
          obtain ⟨c1, c2, c3⟩ := bk_at hT (show k - 1 < N by omega)
          have hmod' := Nat.mod_lt (k - 1) hper
          have hpl' := mul_lt c2 (r_in (c := 0) hmod' (Nat.zero_le _))
          have hin' := r_in (w := w) (sz := sz) (c := 0) hmod' (Nat.zero_le _)
          have hbf := c_isBefore (n := n) (by omega) hnb hsz hS2 b2 hmod c2 hmod'
          have hbm := m_before (n := n) (by omega) hnb hsz hS2 b2 hmod c2 hmod'
          rw [hd2] at hbm
          by_cases y : bfK w kn (zA σ2 1) (zA σ2 2) (recC (dC nb sz σ2).1 w (bkN sz w ib k) (k % (sz / (w + 1)))) (recC (dC nb sz σ2).1 w (bkN sz w ib (k - 1)) ((k - 1) % (sz / (w + 1)))) = 0
          · refine go True σ2 τ2 qs hF a3 ?_ ?_
            · unfold fX9_copyRuns_L10_10
              dsimp only
              rw [if_neg (show ¬ nI (N - k) ≤ 0 from nI_nle (by omega) (by omega)), zb_s a1]
              dsimp only
              rw [if_neg hkne, if_neg (show ¬ nI (bkN sz w ib (k - 1) * sz + (k - 1) % (sz / (w + 1)) * (w + 1)) = -1 from nI_m1 (by omega)), zb_s hbf, if_pos y]
            · unfold fX10_asTheyAre_L7_7 fX10_asTheyAre_L7_31 fX10_asTheyAre_L7_45
              dsimp only
              rw [if_neg hrec, if_neg hkne, if_neg (show ¬ nI (64 * bkN sz w ib (k - 1) + (k - 1) % (sz / (w + 1)) * (w + 1)) = -1 from nI_m1 (by omega)), zb_s hbm, if_pos y, if_pos rfl, if_pos rfl]
          · obtain ⟨r, σ3, τ3, o1, o2, hor3, f3, g3⟩ := j_fend (n := n) (by omega) hnb hs5 hsz hF ⟨_, b2, b3⟩
            have hcc : fX9_copyRuns_L10_10 n nb sz mm ((if k = 0 then -1 else nI (bkN sz w ib (k - 1) * sz + (k - 1) % (sz / (w + 1)) * (w + 1))), nI (N - k), σ1) = if r = 0 then some (.inr (.inr (.inl σ3))) else fX9_copyRuns_L10_51 n nb sz mm σ3 (nI (N - k)) (nI (bkN sz w ib k * sz + k % (sz / (w + 1)) * (w + 1))) := by
              unfold fX9_copyRuns_L10_10
              dsimp only
              rw [if_neg (show ¬ nI (N - k) ≤ 0 from nI_nle (by omega) (by omega)), zb_s a1]
              dsimp only
              rw [if_neg hkne, if_neg (show ¬ nI (bkN sz w ib (k - 1) * sz + (k - 1) % (sz / (w + 1)) * (w + 1)) = -1 from nI_m1 (by omega)), zb_s hbf, if_neg y, zb_s o1]
            have hmm : fX10_asTheyAre_L7_7 n ((if k = 0 then -1 else nI (64 * bkN sz w ib (k - 1) + (k - 1) % (sz / (w + 1)) * (w + 1))), nI (64 * bkN sz w ib k + k % (sz / (w + 1)) * (w + 1)), τ2) = if zI τ3 17 = 0 then zb (fX10_nextRun_0 n τ3) (fun q14 => fX10_asTheyAre_L7_60 n q14 (nI (64 * bkN sz w ib k + k % (sz / (w + 1)) * (w + 1)))) else fX10_asTheyAre_L7_60 n τ3 (nI (64 * bkN sz w ib k + k % (sz / (w + 1)) * (w + 1))) := by
              unfold fX10_asTheyAre_L7_7 fX10_asTheyAre_L7_26 fX10_asTheyAre_L7_31 fX10_asTheyAre_L7_45
              dsimp only
              rw [if_neg hrec, if_neg hkne, if_neg (show ¬ nI (64 * bkN sz w ib (k - 1) + (k - 1) % (sz / (w + 1)) * (w + 1)) = -1 from nI_m1 (by omega)), zb_s hbm, if_neg y, if_neg (show ¬ (1 : Int32) = 0 by decide), if_neg (show ¬ nI (64 * bkN sz w ib (k - 1) + (k - 1) % (sz / (w + 1)) * (w + 1)) = -1 from nI_m1 (by omega)), zb_s o2, if_neg (show ¬ (1 : Int32) = 0 by decide)]
            rcases hor3 with ⟨rfl, p, hF3⟩ | ⟨rfl, hb3⟩
            · have hFq := hF3.2.2.2.2.1
              obtain ⟨cl', -, hOD⟩ := hF3.2.2.1
              obtain ⟨τ4, n1, n2, n3⟩ := j_nrun (n := n) (by omega) hnb hs5 hps (hpq _ (fun p hp => (hFq.2.1 p hp).1) hOD.2.2.2.2.1 hOD.2.2.2.2.2.1) hF3
              rw [if_neg (show ¬ (1 : Int32) = 0 by decide)] at hcc
              rw [if_pos hF3.1, zb_s n1] at hmm
              exact go False σ3 τ4 _ n2 (INP_fr (INP_fr a3 f3 g3 (by decide) (by decide)) (zfr_r (I := []) (A := []) (L := [])) n3 (by decide) (by decide)) hcc hmm
            · right; right
              rw [if_pos rfl] at hcc
              have h17n : ¬ zI τ3 17 ≤ 0 := by
                rcases hb3.1 with ⟨y, -⟩ | ⟨y, -⟩
                · rw [y]; decide
                · rw [y]; decide
              have h170 : ¬ zI τ3 17 = 0 := fun y => h17n (by rw [y]; decide)
              unfold fX10_asTheyAre_L7_60 fX10_asTheyAre_L7_72 at hmm
              rw [if_neg h170, if_neg h170, zb_s (m_next_stop h17n)] at hmm
              refine ⟨_, _, (nI (64 * bkN sz w ib k + k % (sz / (w + 1)) * (w + 1)), τ3), hcc, hmm, ?_, Or.inr ⟨σ3, Or.inl rfl, h170, hb3⟩⟩
              unfold fX10_asTheyAre_L7_7
              exact if_pos rfl)
    n N
  have hst0 : St 0 σ τ := ⟨hI, Or.inl ⟨rfl, h⟩⟩
  obtain ⟨q0, hq0⟩ := hsome 0 σ τ hst0
  have hNb := hT.2.2.2.1
  obtain ⟨b, b', l1, l2, hb⟩ := hloop (-1, nI (N - 0), σ) (-1, q0.1, q0.2) (by omega) ⟨0, σ, τ, q0, rfl, rfl, hq0, rfl, hst0⟩
  have hm0 : fX10_asTheyAre_0 n τ = if b'.1 = -1 then some b'.2 else if zI b'.2 17 = 0 then zb (fX10_endRun_0 n b'.2) (fun q25 => some q25) else some b'.2 := by
    unfold fX10_asTheyAre_0
    rw [zb_s hq0, zb_s l2]
  have h16 : zI σ 16 = nI (N - 0) := hI.2.2.1
  rcases hb with ⟨σ1, rfl, h1, hI1, hor⟩ | ⟨σ1, hb1, h1, h2⟩
  · rcases hor with ⟨hN0, hF⟩ | ⟨hN0, qs, hF⟩
    · rw [h1, if_pos hN0, if_pos rfl] at hm0
      refine ⟨1, σ1, b'.2, ?_, hm0, Or.inl ⟨rfl, [], [], hF, fun x hx => by cases hx⟩⟩
      unfold fX9_copyRuns_0
      rw [h16, zb_s l1]
      dsimp only [Sum.elim]
      rw [zb_s (c_end0 hF)]
      dsimp only
      rw [zg_t (by decide)]
    · have hNne : ¬ N = 0 := by omega
      obtain ⟨b1, b2, b3⟩ := bk_at hT (show N - 1 < N by omega)
      have hper := p_per (w := w) hs5 hF.2.1.2.1.2.1
      have hin := r_in (w := w) (sz := sz) (c := 0) (Nat.mod_lt (N - 1) hper) (Nat.zero_le _)
      obtain ⟨r, σ3, τ3, o1, o2, hor3, f3, g3⟩ := j_fend (n := n) (by omega) hnb hs5 hsz hF ⟨_, b2, b3⟩
      rw [h1, if_neg hNne, if_neg (nI_m1 (by omega)), if_pos hF.1, zb_s o2] at hm0
      have hcE : fX9_copyRuns_0 n nb sz mm σ = some (r, σ3) := by
        unfold fX9_copyRuns_0
        rw [h16, zb_s l1]
        dsimp only [Sum.elim]
        rw [zb_s o1]
        dsimp only
        rcases hor3 with ⟨rfl, -⟩ | ⟨rfl, -⟩
        · rw [zg_t (by decide)]
        · rw [zg_t (by decide)]
      refine ⟨r, σ3, τ3, hcE, hm0, ?_⟩
      rcases hor3 with ⟨rfl, p, hF3⟩ | ⟨rfl, hb3⟩
      · exact Or.inl ⟨rfl, _, _, hF3, fun x hx => List.mem_range.mp hx⟩
      · exact Or.inr ⟨rfl, hb3⟩
  · rw [if_neg h1, ite_self] at hm0
    refine ⟨0, σ1, b'.2, ?_, hm0, Or.inr ⟨rfl, h2⟩⟩
    unfold fX9_copyRuns_0
    rw [h16, zb_s l1]
    rcases hb1 with rfl | rfl
    · rfl
    · rfl
