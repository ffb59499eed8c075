theorem dC_fr2 {nb sz : Nat} {σ σ' : zS} {I A L : List Nat} (f : zfr I A L σ σ') (hI : ∀ k ∈ [2, 3, 4, 5, 6], ¬ k ∈ I) (hA : ¬ 0 ∈ A) (hL : ¬ 0 ∈ L) : dC nb sz σ' = dC nb sz σ := by
  unfold dC
  rw [f.1 2 (hI 2 (by decide)), f.1 3 (hI 3 (by decide)), f.1 4 (hI 4 (by decide)), f.1 5 (hI 5 (by decide)), f.1 6 (hI 6 (by decide)), f.2.1 0 hA, f.2.2.1 0 hL]
theorem GF_of {cm nb sz mm w od kn : Nat} {inp : List Nat} {gs rest : List (Nat × List Nat × Nat)} {σ τ : zS} (h : JS cm nb sz mm w od kn inp (gs ++ rest) σ τ) : GF nb sz w (dC nb sz σ).2.1 gs ∧ GC gs σ τ := by
  obtain ⟨hS, hD, hd, hlat, hin, hC, ⟨hf1, hf2, hf3, hf4, hf5⟩, hB, hN⟩ := h
  constructor
  · intro p hp
    have hp2 : p ∈ gs ++ rest := List.mem_append_left _ hp
    have hm : p.2 ∈ (gs ++ rest).map (fun p => p.2) := List.mem_map.mpr ⟨p, hp2, rfl⟩
    obtain ⟨g1, g2, g3⟩ := hB.2.2 p.2 hm
    obtain ⟨k1, k2⟩ := j_blk hB hm
    exact ⟨(hf2 p hp2).1, (hf2 p hp2).2, g1, g2, by omega, k2, fun b hb => hB.2.1 b (List.mem_append_right _ (List.mem_flatMap.mpr ⟨p.2, hm, hb⟩))⟩
  · intro p hp
    have hp2 : p ∈ gs ++ rest := List.mem_append_left _ hp
    exact ⟨(hC p hp2).1, (hC p hp2).2, hf4 p hp2⟩
theorem j_merge {n nb sz mm cm w od kn : Nat} {inp : List Nat} {ps gs rest : List (Nat × List Nat × Nat)} {σ τ : zS} (hn : 110000 ≤ n) (hnb0 : 2 ≤ nb) (hnb : nb ≤ 200) (hs5 : 5 ≤ sz) (hsz : sz ≤ 64) (hJ0 : JS cm nb sz mm w od kn inp ps σ τ) (hperm : ps.Perm (gs ++ rest)) (hk1 : 1 ≤ gs.length) (hk8 : gs.length ≤ 8) (h29 : zI σ 29 = nI gs.length) (h10 : ∀ (j : Nat) (p : Nat × List Nat × Nat), gs[j]? = some p → zA σ 10 j = nI (p.2.1.headD 0)) (h13 : ∀ (j : Nat) (p : Nat × List Nat × Nat), gs[j]? = some p → zA τ 13 j = nI p.1) :
    ∃ rc σ' rm τ', fX4_merge_0 n nb sz mm σ (zI σ 0) = some (rc, σ') ∧ fX10_merge_0 n τ (nI gs.length) = some (rm, τ') ∧
    ((∃ p, rc = nI (p.2.1.headD 0) ∧ rm = nI p.1 ∧ JS cm nb sz mm w od kn inp (p :: rest) σ' τ' ∧ zI τ' 17 = 0 ∧ zI σ' 7 = zI σ 7) ∨ (rc = -1 ∧ rm = -1 ∧ JS cm nb sz mm w od kn inp ps σ' τ' ∧ ((zI τ' 17 = 1 ∧ zI σ' 7 = 1) ∨ (zI τ' 17 = 2 ∧ zI σ' 7 = zI σ 7)))) ∧
    zfr [2, 3, 4, 5, 6, 7, 18, 19, 20, 21, 22, 23, 24, 25, 26] [0, 3, 4, 6, 7, 11, 12, 13] [0, 2] σ σ' ∧ zfr [10, 11, 12, 13, 14, 15, 17, 18, 19, 20] [0, 1, 2, 3, 4, 5, 6, 14, 15, 16] [0, 2, 3] τ τ' := by
  have hJ := JS_perm hJ0 hperm
  obtain ⟨hg, hc0⟩ := GF_of hJ
  have hmany := js_many hJ
  obtain ⟨hS, hD, hd, hlat, hin, hC, ⟨hf1, hf2, hf3, hf4, hf5⟩, hB, hN⟩ := hJ
  have hper := p_per (w := w) hs5 hS.2.1.2.1
  have hlat2 : zI τ 14 = zI τ 13 := hlat.resolve_left (fun q => by
    have := congrArg List.length q.2
    rw [List.length_append] at this
    simp only [List.length_nil] at this
    omega)
  generalize husE : (dC nb sz σ).2.1 = us at hg
  generalize hclE : (dC nb sz σ).1 = cl
  -- the step begins
  obtain ⟨σ1, b1, bf, b18, b19, b20, b21, b22, b23, b24, b25, b26⟩ := c_beginStep (n := n) (by omega) hS
  have hbeg := m_begin (n := n) (nb := nb) (τ := τ) (by omega) hS.1.1 hnb
  generalize hτ1 : sA (sI τ 17 0) 1 (fun k => if k < nb then 0 else zA τ 1 k) = τ1 at hbeg
  have tf1 : zfr [17] [1] [] τ τ1 := by rw [← hτ1]; exact zfr_A (by decide) (zfr_I (by decide) zfr_r)
  have t17 : zI τ1 17 = 0 := by rw [← hτ1]; rfl
  have tA1 : ∀ b, b < nb → zA τ1 1 b = 0 := fun b hb => by
    rw [← hτ1]
    show (if b < nb then 0 else zA τ 1 b) = 0
    rw [if_pos hb]
  obtain ⟨mk, mk1, mk2, mk3, hbr⟩ := m_beginRun (n := n) (fl := (gs ++ rest).map (fun p => p.1)) (τ := τ1) (by omega) (by rw [List.length_map]; omega) (by rw [tf1.2.1 6 (by decide)]; exact hf3)
  have nf : zfr [18, 19, 20] [3, 4, 5, 6] [] τ1 (nfM τ1 mk) := zfr_I (by decide) (zfr_I (by decide) (zfr_I (by decide) (zfr_A (by decide) (zfr_A (by decide) (zfr_A (by decide) (zfr_A (by decide) zfr_r))))))
  have tf2 : zfr [17, 18, 19, 20] [1, 3, 4, 5, 6] [] τ (nfM τ1 mk) := zfr_t (zfr_w tf1 (by decide) (by decide) (by decide)) nf (by decide) (by decide) (by decide)
  have hmkg : ∀ p ∈ gs ++ rest, ¬ p.1 = mk := fun p hp q => mk3 (by rw [← q]; exact List.mem_map.mpr ⟨p, hp, rfl⟩)
  have n3 : ∀ g, ¬ g = mk → zA (nfM τ1 mk) 3 g = zA τ 3 g ∧ zA (nfM τ1 mk) 4 g = zA τ 4 g ∧ zA (nfM τ1 mk) 5 g = zA τ 5 g := fun g hg => by
    refine ⟨?_, ?_, ?_⟩
    · show upd (zA τ1 3) mk _ g = _
      rw [upd_at, if_neg hg, tf1.2.1 3 (by decide)]
    · show upd (zA τ1 4) mk _ g = _
      rw [upd_at, if_neg hg, tf1.2.1 4 (by decide)]
    · show upd (zA τ1 5) mk _ g = _
      rw [upd_at, if_neg hg, tf1.2.1 5 (by decide)]
  have hS2 : SC nb sz mm w kn σ1 (nfM τ1 mk) := SC_fr hS bf tf2 (by decide) (by decide) (by decide) (by decide)
  have hdC1 : dC nb sz σ1 = dC nb sz σ := dC_fr2 bf (by decide) (by decide) (by decide)
  have hdM2 : dM nb sz (nfM τ1 mk) = dM nb sz τ := by
    unfold dM
    rw [tf2.1 10 (by decide), tf2.1 11 (by decide), tf2.1 12 (by decide), tf2.1 13 (by decide), tf2.1 15 (by decide), tf2.2.1 0 (by decide), tf2.2.2.1 0 (by decide)]
  have hD2 : OD nb sz [] [] [] us cl False σ1 (nfM τ1 mk) := by
    refine ⟨by rw [hdC1, hdM2, hd], Or.inr ?_, ⟨b25, fun j b hj => by cases hj⟩, fun b hb => ?_, List.nodup_nil, fun b hb => (by cases hb), fun b => ?_, fun b _ => ?_⟩
    · rw [tf2.1 14 (by decide), tf2.1 13 (by decide)]; exact hlat2
    · show zA τ1 1 b = 0 ↔ _
      rw [tA1 b hb]
      exact ⟨fun _ q => q.elim (fun q => by cases q) (fun q => by cases q), fun _ => rfl⟩
    · rw [hdC1, husE, decide_eq_false List.not_mem_nil, Bool.or_false]
    · rw [hdC1, hclE]
  have hR2 : OR nb sz w us cl (zI σ 0) (smF (zI σ 0) kn w (zA σ 1)) 0 0 [] none mk [] σ1 (nfM τ1 mk) := by
    refine ⟨⟨b20, rfl, Nat.zero_le _⟩, fun k hk => absurd hk (by omega), fun _ => b21, fun p hp => absurd hp (by simp), ⟨by rw [if_pos rfl]; exact b22, by rw [if_pos rfl]; exact b23, trivial, b24⟩, ⟨rfl, mk1, mk2, ⟨fun _ => ⟨?_, ?_⟩, fun q => absurd rfl q, ?_, trivial⟩⟩, rfl, b18, b19, fun _ => rfl⟩
    · show upd (zA τ1 3) mk (-1) mk = -1
      rw [upd_at, if_pos rfl]
    · show upd (zA τ1 4) mk (-1) mk = -1
      rw [upd_at, if_pos rfl]
    · show upd (zA τ1 5) mk 0 mk = nI 0
      rw [upd_at, if_pos rfl]
      rfl
  have hgc2 : GC gs σ1 (nfM τ1 mk) := by
    intro p hp
    obtain ⟨c1, c2, c3⟩ := hc0 p hp
    obtain ⟨x1, x2, x3⟩ := n3 p.1 (hmkg p (List.mem_append_left _ hp))
    refine ⟨by rw [bf.2.1 3 (by decide)]; exact c1, by rw [bf.2.1 4 (by decide)]; exact c2, JF_keep c3 x1 x2 x3 (fun b _ => congrFun (tf2.2.1 2 (by decide)) b)⟩
  -- it starts
  obtain ⟨σ3, τ3, s1, s2, s3, s4, s5, s6⟩ := j_start (n := n) (by omega) hnb hs5 hsz hS2 hD2 hg hgc2 (show zI (nfM τ1 mk) 17 = 0 from t17) ((bf.1 29 (by decide)).trans h29) hk8 (by rw [bf.2.1 10 (by decide)]; exact h10) (by rw [tf2.2.1 13 (by decide)]; exact h13)
  have hS3 : SC nb sz mm w kn σ3 τ3 := SC_fr hS2 s5 s6 (by decide) (by decide) (by decide) (by decide)
  have hR3 := OR_fr hR2 s5 s6 (by decide) (by decide) (by decide) (by decide) (by decide) (by decide)
  have hgc3 : GC gs σ3 τ3 := by
    unfold GC
    rw [s5.2.1 3 (by decide), s5.2.1 4 (by decide), s6.2.1 2 (by decide), s6.2.1 3 (by decide), s6.2.1 4 (by decide), s6.2.1 5 (by decide)]
    exact hgc2
  have h173 : zI τ3 17 = 0 := (s6.1 17 (by decide)).trans t17
  obtain ⟨v0, v1, v2, -⟩ := j_first (n := n) (us := us) (cl := cl) (by omega) hnb hs5 hsz hS3 s4.1 hg h173 s3
  have hndG : (gs.flatMap (fun p => nmR (sz / (w + 1)) w cl p.2.1 p.2.2)).Nodup := by
    have h1 := (List.nodup_append.mp hN.1).2.1
    rw [List.map_append, List.flatMap_append] at h1
    have h2 := (List.nodup_append.mp h1).1
    rw [List.flatMap_map] at h2
    rw [← hclE]
    exact h2
  have hcf : zfr [18, 19, 20, 21, 22, 23, 24, 25, 26, 2, 4, 5] [6, 7, 11, 12, 13] [] σ σ3 := zfr_t (zfr_w bf (by decide) (by decide) (by decide)) s5 (by decide) (by decide) (by decide)
  obtain ⟨d, σ4, τ4, l1, l2, hor⟩ := j_mloop (n := n) (P0 := False) hn hnb hs5 hsz hS3 s4 hR3 hg hgc3 (fun p hp => hmkg p (List.mem_append_left _ hp)) h173 ((s6.1 20 (by decide)).trans rfl) hk1 s3 ((hcf.1 0 (by decide)).symm) (by rw [hcf.2.1 1 (by decide)]) v2 hndG
  have hm0 : fX10_merge_0 n τ (nI gs.length) = if zI τ4 17 = 0 then zb (fX10_endRun_0 n τ4) (fun q32 => fX10_merge_116 n q32 (nI gs.length)) else fX10_merge_116 n τ4 (nI gs.length) := by
    unfold fX10_merge_0
    rw [zb_s hbeg, zb_s hbr, zb_s s2, zb_s v2, zb_s l2]
  have hc9 : fX4_merge_0 n nb sz mm σ (zI σ 0) = if d = 0 then fX4_merge_97 n nb sz mm σ4 else zb (fX7_endRun_0 n nb sz mm σ4) (fun q21 => if q21.1 = 0 then fX4_merge_97 n nb sz mm q21.2 else zb (zlp (fX4_merge_L108_108 n nb sz mm) n (0, q21.2)) (fun b31 => zb (fX6_get_0 n nb (zrv (zI b31 26) (zA b31 7)) 0) (fun q33 => some (q33, b31)))) := by
    unfold fX4_merge_0
    rw [zb_s b1, zb_s s1, zb_s l1]
  -- all is undone
  have undo : ∀ (σ5 τ5 : zS) (cb : List Nat), ((zI τ5 17 = 1 ∧ zI σ5 7 = 1) ∨ (zI τ5 17 = 2 ∧ zI σ5 7 = zI σ 7)) → OD nb sz [] [] cb us cl False σ5 τ5 → OX cb mk σ3 τ3 σ5 τ5 → zfr [2, 3, 4, 5, 6, 7, 20, 21, 22, 23, 24, 25] [0, 3, 6, 11, 12, 13] [0, 2] σ3 σ5 → zfr [10, 11, 12, 13, 14, 15, 17, 19, 20] [0, 1, 2, 3, 4, 5, 14, 15, 16] [0, 2, 3] τ3 τ5 → fX4_merge_0 n nb sz mm σ (zI σ 0) = fX4_merge_97 n nb sz mm σ5 → fX10_merge_0 n τ (nI gs.length) = fX10_merge_116 n τ5 (nI gs.length) → ∃ rc σ' rm τ', fX4_merge_0 n nb sz mm σ (zI σ 0) = some (rc, σ') ∧ fX10_merge_0 n τ (nI gs.length) = some (rm, τ') ∧ ((∃ p, rc = nI (p.2.1.headD 0) ∧ rm = nI p.1 ∧ JS cm nb sz mm w od kn inp (p :: rest) σ' τ' ∧ zI τ' 17 = 0 ∧ zI σ' 7 = zI σ 7) ∨ (rc = -1 ∧ rm = -1 ∧ JS cm nb sz mm w od kn inp ps σ' τ' ∧ ((zI τ' 17 = 1 ∧ zI σ' 7 = 1) ∨ (zI τ' 17 = 2 ∧ zI σ' 7 = zI σ 7)))) ∧ zfr [2, 3, 4, 5, 6, 7, 18, 19, 20, 21, 22, 23, 24, 25, 26] [0, 3, 4, 6, 7, 11, 12, 13] [0, 2] σ σ' ∧ zfr [10, 11, 12, 13, 14, 15, 17, 18, 19, 20] [0, 1, 2, 3, 4, 5, 6, 14, 15, 16] [0, 2, 3] τ τ' := by
    intro σ5 τ5 cb hst hD5 hX5 f5 f5' hcc hmm
    obtain ⟨od1, od2, od3, od4, od5, od6, od7, od8⟩ := hD5
    obtain ⟨σ6, u1, u2, u3⟩ := c_undo (n := n) (nb := nb) (sz := sz) (mm := mm) (sb := cb) (σ := σ5) (by omega) hnb od3.1 od3.2 (fun b hb => (od6 b hb).1) (nd_le nb cb od5 (fun b hb => (od6 b hb).1))
    have gf : zfr [10, 11, 12, 13, 14, 15, 17, 18, 19, 20] [0, 1, 2, 3, 4, 5, 6, 14, 15, 16] [0, 2, 3] τ τ5 := zfr_t (zfr_t (zfr_w tf2 (by decide) (by decide) (by decide)) s6 (by decide) (by decide) (by decide)) f5' (by decide) (by decide) (by decide)
    have cf : zfr [2, 3, 4, 5, 6, 7, 18, 19, 20, 21, 22, 23, 24, 25, 26] [0, 3, 4, 6, 7, 11, 12, 13] [0, 2] σ σ6 := zfr_t (zfr_t (zfr_w hcf (by decide) (by decide) (by decide)) f5 (by decide) (by decide) (by decide)) u3 (by decide) (by decide) (by decide)
    have hgb := m_giveBack (n := n) (nb := nb) (τ := τ5) (by omega) ((gf.1 1 (by decide)).trans hS.1.1) hnb
    generalize hτ6 : sA τ5 0 (fun k => if k < nb then (if zA τ5 0 k = 0 then 0 else if zA τ5 1 k = 0 then 1 else 0) else zA τ5 0 k) = τ6 at hgb
    have h18 : zI τ6 18 = nI mk := by
      rw [← hτ6]
      show zI τ5 18 = nI mk
      rw [f5'.1 18 (by decide), s6.1 18 (by decide)]
      rfl
    have hp17 : ¬ zI τ5 17 ≤ 0 := by
      rcases hst with ⟨z, -⟩ | ⟨z, -⟩
      · rw [z]; decide
      · rw [z]; decide
    have hmE : fX10_merge_0 n τ (nI gs.length) = some (-1, sA τ6 6 (upd (zA τ6 6) mk 0)) := by
      rw [hmm]
      unfold fX10_merge_116
      rw [if_neg hp17, zb_s hgb, h18, zg_in mk2 (by decide), nI_clamp (by omega), nar0]
    have hcE : fX4_merge_0 n nb sz mm σ (zI σ 0) = some (-1, σ6) := by
      rw [hcc]
      unfold fX4_merge_97
      rw [zb_s u1]
    have mf : zfr [10, 11, 12, 13, 14, 15, 17, 18, 19, 20] [0, 1, 2, 3, 4, 5, 6, 14, 15, 16] [0, 2, 3] τ (sA τ6 6 (upd (zA τ6 6) mk 0)) := by
      rw [← hτ6]
      exact zfr_A (by decide) (zfr_A (by decide) gf)
    have hdC6 : dC nb sz σ6 = ((dC nb sz σ5).1, us, (dC nb sz σ5).2.2) := by
      have e1 : dC nb sz σ6 = dC nb sz (sA σ5 0 (frU (zA σ5 0) cb)) := by
        unfold dC
        rw [u3.1 2 (by decide), u3.1 3 (by decide), u3.1 4 (by decide), u3.1 5 (by decide), u3.1 6 (by decide), u3.2.2.1 0 (by decide), u2]
        rfl
      rw [e1, dC_fr, fr_used]
      have e2 : (fun b => (decide (b < nb) && decide (¬ zA σ5 0 b = 0)) && decide (¬ b ∈ cb)) = us := by
        funext b
        have h1 := od7 b
        have h2 : (decide (b < nb) && decide (¬ zA σ5 0 b = 0)) = (us b || decide (b ∈ cb)) := h1
        rw [h2]
        by_cases z : b ∈ cb
        · rw [decide_eq_true z, decide_eq_false (fun q => q z), (od6 b z).2]
          rfl
        · rw [decide_eq_false z, decide_eq_true z, Bool.or_false, Bool.and_true]
      rw [e2]
    have hdM6 : dM nb sz (sA τ6 6 (upd (zA τ6 6) mk 0)) = ((dC nb sz σ5).1, us, (dC nb sz σ5).2.2) := by
      show dM nb sz τ6 = _
      rw [← hτ6]
      have e1 : dM nb sz (sA τ5 0 (fun k => if k < nb then (if zA τ5 0 k = 0 then 0 else if zA τ5 1 k = 0 then 1 else 0) else zA τ5 0 k)) = ((dM nb sz τ5).1, (fun b => decide (b < nb) && decide (¬ (fun k => if k < nb then (if zA τ5 0 k = 0 then (0 : Int32) else if zA τ5 1 k = 0 then 1 else 0) else zA τ5 0 k) b = 0)), (dM nb sz τ5).2.2) := rfl
      rw [e1]
      have e2 : (fun b => decide (b < nb) && decide (¬ (fun k => if k < nb then (if zA τ5 0 k = 0 then (0 : Int32) else if zA τ5 1 k = 0 then 1 else 0) else zA τ5 0 k) b = 0)) = us := by
        funext b
        have h1 : (decide (b < nb) && decide (¬ zA τ5 0 b = 0)) = (us b || decide (b ∈ cb)) := by
          rw [← od7 b, ← od1]
          rfl
        show (decide (b < nb) && decide (¬ (if b < nb then (if zA τ5 0 b = 0 then (0 : Int32) else if zA τ5 1 b = 0 then 1 else 0) else zA τ5 0 b) = 0)) = us b
        by_cases q : b < nb
        · rw [decide_eq_true q, Bool.true_and] at h1
          rw [decide_eq_true q, Bool.true_and, if_pos q]
          have hta := od4 b q
          by_cases z : zA τ5 0 b = 0
          · rw [if_pos z]
            rw [decide_eq_false (fun y => y z)] at h1
            rw [(Bool.or_eq_false_iff.mp h1.symm).1]
            decide
          · rw [if_neg z]
            rw [decide_eq_true z] at h1
            by_cases y : b ∈ cb
            · rw [if_neg (fun x => (hta.mp x) (Or.inr y)), (od6 b y).2]
              decide
            · rw [if_pos (hta.mpr (fun x => x.elim (fun x => by cases x) y))]
              rw [decide_eq_false y, Bool.or_false] at h1
              rw [← h1]
              decide
        · rw [decide_eq_false q, Bool.false_and] at h1 ⊢
          exact (Bool.or_eq_false_iff.mp h1.symm).1.symm
      rw [e2, od1]
    have hX : OX cb mk σ3 τ3 σ6 (sA τ6 6 (upd (zA τ6 6) mk 0)) := by
      refine OX_t hX5 (OX_r (u3.2.1 3 (by decide)) ?_ ?_ ?_ ?_) (fun _ h => h)
      · rw [← hτ6]; rfl
      · rw [← hτ6]; rfl
      · rw [← hτ6]; rfl
      · rw [← hτ6]; rfl
    have husb : ∀ b, us b = true → ¬ b ∈ cb := fun b hb q => by
      rw [(od6 b q).2] at hb
      cases hb
    have hx3 : ∀ b, us b = true → zA σ6 3 b = zA σ 3 b ∧ zA (sA τ6 6 (upd (zA τ6 6) mk 0)) 2 b = zA τ 2 b := fun b hb => by
      obtain ⟨y1, y2⟩ := hX.1 b (husb b hb)
      exact ⟨y1.trans (congrFun (hcf.2.1 3 (by decide)) b), y2.trans ((congrFun (s6.2.1 2 (by decide)) b).trans (congrFun (tf2.2.1 2 (by decide)) b))⟩
    have hxg : ∀ g, ¬ g = mk → zA (sA τ6 6 (upd (zA τ6 6) mk 0)) 3 g = zA τ 3 g ∧ zA (sA τ6 6 (upd (zA τ6 6) mk 0)) 4 g = zA τ 4 g ∧ zA (sA τ6 6 (upd (zA τ6 6) mk 0)) 5 g = zA τ 5 g := fun g hg => by
      obtain ⟨y1, y2, y3⟩ := hX.2 g hg
      obtain ⟨z1, z2, z3⟩ := n3 g hg
      exact ⟨y1.trans ((congrFun (s6.2.1 3 (by decide)) g).trans z1), y2.trans ((congrFun (s6.2.1 4 (by decide)) g).trans z2), y3.trans ((congrFun (s6.2.1 5 (by decide)) g).trans z3)⟩
    have husI : ∀ b ∈ inp, us b = true := fun b hb => by rw [← husE]; exact (hB.2.1 b (List.mem_append_left _ hb)).2
    have husP : ∀ p ∈ gs ++ rest, ∀ b ∈ p.2.1, us b = true := fun p hp b hb => by rw [← husE]; exact (hB.2.1 b (List.mem_append_right _ (List.mem_flatMap.mpr ⟨p.2, List.mem_map.mpr ⟨p, hp, rfl⟩, hb⟩))).2
    have hA4 : zA σ6 4 = zA σ 4 := (u3.2.1 4 (by decide)).trans ((f5.2.1 4 (by decide)).trans (hcf.2.1 4 (by decide)))
    have hcl6 : ∀ b, us b = true → (dC nb sz σ5).1 b = (dC nb sz σ).1 b := fun b hb => by rw [od8 b (Or.inl hb), hclE]
    refine ⟨-1, σ6, -1, _, hcE, hmE, Or.inr ⟨rfl, rfl, JS_perm (ps := gs ++ rest) ⟨SC_fr hS cf mf (by decide) (by decide) (by decide) (by decide), ?_, ?_, Or.inr ?_, ?_, fun p hp => ⟨?_, ?_⟩, ⟨hf1, hf2, fun f hf => ?_, fun p hp => ?_, ?_⟩, ?_, ?_⟩ hperm.symm, ?_⟩, cf, mf⟩
    · rw [mf.1 9 (by decide), mf.1 5 (by decide), mf.2.2.1 1 (by decide), cf.1 12 (by decide), cf.1 13 (by decide), cf.2.2.1 1 (by decide)]
      exact hD
    · rw [hdM6, hdC6]
    · rw [← hτ6]
      exact od2.resolve_left (fun q => q.2)
    · rw [cf.1 17 (by decide), cf.2.1 5 (by decide)]
      exact hin
    · exact chC_congr (fun b hb => (hx3 b (husP p hp b hb)).1) (hC p hp).1
    · rw [hA4]
      exact (hC p hp).2
    · show upd (zA τ6 6) mk 0 f = 0 ↔ _
      rw [upd_at]
      by_cases q : f = mk
      · rw [if_pos q]
        exact ⟨fun _ z => z.elim (fun z => by omega) (fun z => mk3 (q ▸ z)), fun _ => rfl⟩
      · rw [if_neg q, ← hf3 f hf]
        rw [← hτ6]
        show zA τ5 6 f = 0 ↔ _
        rw [f5'.2.1 6 (by decide), s6.2.1 6 (by decide)]
        show upd (zA τ1 6) mk 1 f = 0 ↔ _
        rw [upd_at, if_neg q, tf1.2.1 6 (by decide)]
    · obtain ⟨y1, y2, y3⟩ := hxg p.1 (hmkg p hp)
      exact JF_keep (hf4 p hp) y1 y2 y3 (fun b hb => (hx3 b (husP p hp b hb)).2)
    · obtain ⟨y1, y2, y3⟩ := hxg 0 (by omega)
      exact JF_keep hf5 y1 y2 y3 (fun b hb => (hx3 b (husI b hb)).2)
    · rw [hdC6]
      rw [husE] at hB
      exact hB
    · rw [hdC6, cf.2.2.1 1 (by decide)]
      refine JN_congr hper hN (fun b hb => hcl6 b (husI b hb)) (fun r hr => ?_)
      obtain ⟨p, hp, rfl⟩ := List.mem_map.mp hr
      exact ⟨(hB.2.2 p.2 hr).2.1, fun b hb => hcl6 b (husP p hp b hb)⟩
    · have e17 : zI (sA τ6 6 (upd (zA τ6 6) mk 0)) 17 = zI τ5 17 := by rw [← hτ6]; rfl
      rw [e17, u3.1 7 (by decide)]
      exact hst
  have h7 : zI σ3 7 = zI σ 7 := hcf.1 7 (by decide)
  rcases hor with ⟨rfl, e17, op, ct, cb, wp, on, e1, e2, e3, e4, e5, e6, e7, e8, e9, e10, e11⟩ | ⟨rfl, eb1, cb, eb2, eb3, eb4, eb5⟩
  · have hS4 : SC nb sz mm w kn σ4 τ4 := SC_fr hS3 e7 e8 (by decide) (by decide) (by decide) (by decide)
    obtain ⟨r, σ5, τ5, g1, g2, hor2⟩ := o_end (n := n) (pre := []) (nr := 0) (by omega) hnb hs5 hsz hS4 e3 e4 e17 e1 e2 e5 ((e7.1 26 (by decide)).trans ((s5.1 26 (by decide)).trans b26)) (by omega)
    rw [if_neg (show ¬ (1 : Int32) = 0 by decide), zb_s g1] at hc9
    rw [if_pos e17, zb_s g2] at hm0
    dsimp only at hc9
    rcases hor2 with ⟨rfl, k17, cb5, ct5, k0, k1, k2, k3, k4, k5, k6, k7, -, -, k9, k10, k11⟩ | ⟨rfl, eb1, cb5, eb0, eb2, eb3, eb4, eb5⟩
    · rw [if_neg (show ¬ (1 : Int32) = 0 by decide)] at hc9
      have hcbne : ¬ cb5 = [] := fun q => by
        rw [q] at k5 k4
        have : ct5 = 0 := by simpa using k5
        rw [this] at k4
        exact e11 k4
      obtain ⟨k9a, k9b, k9c⟩ := k9 hcbne
      obtain ⟨od1, od2, od3, od4, od5, od6, od7, od8⟩ := k1
      have od6' : ∀ b ∈ cb5, b < nb ∧ us b = false := od6
      have od7' : ∀ b, (dC nb sz σ5).2.1 b = (us b || decide (b ∈ cb5)) := od7
      have od5' : cb5.Nodup := od5
      have hX : OX cb5 mk σ3 τ3 σ5 τ5 := OX_t e6 k7 k0
      have husb : ∀ b, us b = true → ¬ b ∈ cb5 := fun b hb q => by
        rw [(od6' b q).2] at hb
        cases hb
      have hhm : cb5.headD 0 ∈ cb5 := by
        cases h : cb5 with
        | nil => exact absurd h hcbne
        | cons a t => exact List.mem_cons_self
      have hgc5 : GC gs σ5 τ5 := by
        intro p hp
        obtain ⟨c1, c2, c3⟩ := hgc3 p hp
        obtain ⟨f1, f1', f2, f3, f4, f5, f6⟩ := hg p hp
        obtain ⟨x1, x2, x3⟩ := hX.2 p.1 (hmkg p (List.mem_append_left _ hp))
        have hph : p.2.1.headD 0 ∈ p.2.1 := by
          cases h : p.2.1 with
          | nil => exact absurd h f2
          | cons a t => exact List.mem_cons_self
        refine ⟨chC_congr (fun b hb => (hX.1 b (husb b (f6 b hb).2)).1) c1, ?_, JF_keep c3 x1 x2 x3 (fun b hb => (hX.1 b (husb b (f6 b hb).2)).2)⟩
        rw [k9c, upd_at, if_neg (show ¬ p.2.1.headD 0 = cb5.headD 0 from fun q => husb _ (f6 _ hph).2 (by rw [q]; exact hhm)), e7.2.1 4 (by decide)]
        exact c2
      have cf5 : zfr [2, 3, 4, 5, 6, 7, 18, 19, 20, 21, 22, 23, 24, 25, 26] [0, 3, 4, 6, 7, 11, 12, 13] [0, 2] σ σ5 := zfr_t (zfr_t (zfr_w hcf (by decide) (by decide) (by decide)) e7 (by decide) (by decide) (by decide)) k10 (by decide) (by decide) (by decide)
      have gf5 : zfr [10, 11, 12, 13, 14, 15, 17, 18, 19, 20] [0, 1, 2, 3, 4, 5, 6, 14, 15, 16] [0, 2, 3] τ τ5 := zfr_t (zfr_t (zfr_t (zfr_w tf2 (by decide) (by decide) (by decide)) s6 (by decide) (by decide) (by decide)) e8 (by decide) (by decide) (by decide)) k11 (by decide) (by decide) (by decide)
      have hcfree := c_mfree (n := n) (sz := sz) (mm := mm) (by omega) hnb hg hgc5 ((cf5.1 29 (by decide)).trans h29) hk8 (by rw [cf5.2.1 10 (by decide)]; exact h10)
      have hgnd : (gs.map (fun p => p.1)).Nodup := by
        rw [List.map_append] at hf1
        exact (List.nodup_append.mp hf1).1
      obtain ⟨τ6, w1, w2, w3, w4, w5⟩ := m_mfree (n := n) (by omega) hnb hg hgc5 hgnd hk8 (by rw [gf5.2.1 13 (by decide)]; exact h13)
      have h18 : zI τ6 18 = nI mk := by
        rw [w5.1 18 (by decide), k11.1 18 (by decide), e8.1 18 (by decide), s6.1 18 (by decide)]
        rfl
      have hmE : fX10_merge_0 n τ (nI gs.length) = some (nI mk, τ6) := by
        rw [hm0]
        unfold fX10_merge_116
        rw [if_pos (show zI τ5 17 ≤ 0 by rw [k17]; decide), zb_s w1, h18]
      generalize hσ6 : sA σ5 0 (frU (zA σ5 0) (gs.flatMap (fun p => p.2.1))) = σ6 at hcfree
      have hg6 : zI σ6 26 = nI 1 := by rw [← hσ6]; exact k9a
      have hg7 : zA σ6 7 0 = nI (cb5.headD 0) := by
        rw [← hσ6]
        show zA σ5 7 0 = _
        rw [k9b, upd_at, if_pos rfl]
      have hcE : fX4_merge_0 n nb sz mm σ (zI σ 0) = some (nI (cb5.headD 0), σ6) := by
        rw [hc9, zb_s hcfree, show (0 : Int32) = nI 0 from rfl, zb_s (c_get (m := 1) hg6 (by omega) (by omega) (by omega)), hg7]
      have cf6 : zfr [2, 3, 4, 5, 6, 7, 18, 19, 20, 21, 22, 23, 24, 25, 26] [0, 3, 4, 6, 7, 11, 12, 13] [0, 2] σ σ6 := by
        rw [← hσ6]
        exact zfr_A (by decide) cf5
      have gf6 : zfr [10, 11, 12, 13, 14, 15, 17, 18, 19, 20] [0, 1, 2, 3, 4, 5, 6, 14, 15, 16] [0, 2, 3] τ τ6 := zfr_t gf5 w5 (by decide) (by decide) (by decide)
      have hdC6 : dC nb sz σ6 = ((dC nb sz σ5).1, fun b => (us b || decide (b ∈ cb5)) && decide (¬ b ∈ gs.flatMap (fun p => p.2.1)), (dC nb sz σ5).2.2) := by
        rw [← hσ6, dC_fr, fr_used]
        congr 2
        funext b
        rw [← od7' b]
        rfl
      have hdM6 : dM nb sz τ6 = ((dC nb sz σ5).1, fun b => (us b || decide (b ∈ cb5)) && decide (¬ b ∈ gs.flatMap (fun p => p.2.1)), (dC nb sz σ5).2.2) := by
        have e0 : dM nb sz τ6 = ((dM nb sz τ5).1, (fun b => decide (b < nb) && decide (¬ frU (zA τ5 0) (gs.flatMap (fun p => p.2.1)) b = 0)), (dM nb sz τ5).2.2) := by
          unfold dM
          rw [w5.1 10 (by decide), w5.1 11 (by decide), w5.1 12 (by decide), w5.1 13 (by decide), w5.1 15 (by decide), w5.2.2.1 0 (by decide), w2]
        rw [e0, fr_used, od1]
        congr 2
        funext b
        rw [← od7' b, ← od1]
        rfl
      have husI : ∀ b ∈ inp, us b = true := fun b hb => by rw [← husE]; exact (hB.2.1 b (List.mem_append_left _ hb)).2
      have husP : ∀ p ∈ gs ++ rest, ∀ b ∈ p.2.1, us b = true := fun p hp b hb => by rw [← husE]; exact (hB.2.1 b (List.mem_append_right _ (List.mem_flatMap.mpr ⟨p.2, List.mem_map.mpr ⟨p, hp, rfl⟩, hb⟩))).2
      -- blocks of the group are apart from those that stay
      have hBn := hB.1
      rw [List.map_append, List.flatMap_append, List.flatMap_map, List.flatMap_map] at hBn
      have hGI : ∀ b ∈ inp, ¬ b ∈ gs.flatMap (fun p => p.2.1) := fun b hb q => (List.nodup_append.mp hBn).2.2 b hb b (List.mem_append_left _ q) rfl
      have hGR : ∀ p ∈ rest, ∀ b ∈ p.2.1, ¬ b ∈ gs.flatMap (fun p => p.2.1) := fun p hp b hb q => (List.nodup_append.mp (List.nodup_append.mp hBn).2.1).2.2 b q b (List.mem_flatMap.mpr ⟨p, hp, hb⟩) rfl
      have hGC : ∀ b ∈ cb5, ¬ b ∈ gs.flatMap (fun p => p.2.1) := fun b hb q => by
        obtain ⟨p, hp, hb2⟩ := List.mem_flatMap.mp q
        exact husb b (husP p (List.mem_append_left _ hp) b hb2) hb
      have hx3 : ∀ b, us b = true → zA σ6 3 b = zA σ 3 b ∧ zA τ6 2 b = zA τ 2 b := fun b hb => by
        obtain ⟨y1, y2⟩ := hX.1 b (husb b hb)
        refine ⟨?_, ?_⟩
        · rw [← hσ6]
          exact y1.trans (congrFun (hcf.2.1 3 (by decide)) b)
        · exact (congrFun (w5.2.1 2 (by decide)) b).trans (y2.trans ((congrFun (s6.2.1 2 (by decide)) b).trans (congrFun (tf2.2.1 2 (by decide)) b)))
      have hxg : ∀ g, ¬ g = mk → ¬ g ∈ gs.map (fun p => p.1) → zA τ6 3 g = zA τ 3 g ∧ zA τ6 4 g = zA τ 4 g ∧ zA τ6 5 g = zA τ 5 g := fun g hg hg2 => by
        obtain ⟨y1, y2, y3⟩ := hX.2 g hg
        obtain ⟨z1, z2, z3⟩ := n3 g hg
        obtain ⟨x1, x2, x3⟩ := w4 g hg2
        exact ⟨x1.trans (y1.trans ((congrFun (s6.2.1 3 (by decide)) g).trans z1)), x2.trans (y2.trans ((congrFun (s6.2.1 4 (by decide)) g).trans z2)), x3.trans (y3.trans ((congrFun (s6.2.1 5 (by decide)) g).trans z3))⟩
      have hmkn : ¬ mk ∈ gs.map (fun p => p.1) := fun q => mk3 (by rw [List.map_append]; exact List.mem_append_left _ q)
      have hf1' := hf1
      rw [List.map_append] at hf1'
      have hrg : ∀ p ∈ rest, ¬ p.1 ∈ gs.map (fun p => p.1) := fun p hp q => (List.nodup_append.mp hf1').2.2 p.1 q p.1 (List.mem_map.mpr ⟨p, hp, rfl⟩) rfl
      have hcl6 : ∀ b, us b = true → (dC nb sz σ5).1 b = (dC nb sz σ).1 b := fun b hb => by rw [od8 b (Or.inl hb), hclE]
      have hA46 : zA σ6 4 = upd (zA σ 4) (cb5.headD 0) (nI ct5) := by
        rw [← hσ6]
        show zA σ5 4 = _
        rw [k9c, e7.2.1 4 (by decide), hcf.2.1 4 (by decide)]
      refine ⟨_, σ6, _, τ6, hcE, hmE, Or.inl ⟨(mk, cb5, ct5), rfl, rfl, ⟨SC_fr hS cf6 gf6 (by decide) (by decide) (by decide) (by decide), ?_, by rw [hdM6, hdC6], Or.inr ?_, ?_, fun p hp => ?_, ⟨?_, fun p hp => ?_, fun f hf => ?_, fun p hp => ?_, ?_⟩, ?_, ?_⟩, (w5.1 17 (by decide)).trans k17, ?_⟩, cf6, gf6⟩
      · rw [gf6.1 9 (by decide), gf6.1 5 (by decide), gf6.2.2.1 1 (by decide), cf6.1 12 (by decide), cf6.1 13 (by decide), cf6.2.2.1 1 (by decide)]
        exact hD
      · rw [w5.1 14 (by decide), w5.1 13 (by decide)]
        exact od2.resolve_left (fun q => q.2)
      · rw [cf6.1 17 (by decide), cf6.2.1 5 (by decide)]
        exact hin
      · rcases List.mem_cons.mp hp with rfl | hp
        · refine ⟨?_, ?_⟩
          · rw [← hσ6]; exact k3
          · rw [hA46, upd_at, if_pos rfl]
        · have hp2 : p ∈ gs ++ rest := List.mem_append_right _ hp
          have hm : p.2 ∈ (gs ++ rest).map (fun p => p.2) := List.mem_map.mpr ⟨p, hp2, rfl⟩
          have hph : p.2.1.headD 0 ∈ p.2.1 := by
            cases h : p.2.1 with
            | nil => exact absurd h (hB.2.2 p.2 hm).1
            | cons a t => exact List.mem_cons_self
          refine ⟨chC_congr (fun b hb => (hx3 b (husP p hp2 b hb)).1) (hC p hp2).1, ?_⟩
          rw [hA46, upd_at, if_neg (show ¬ p.2.1.headD 0 = cb5.headD 0 from fun q => husb _ (husP p hp2 _ hph) (by rw [q]; exact hhm))]
          exact (hC p hp2).2
      · rw [List.map_cons]
        exact List.nodup_cons.mpr ⟨fun q => mk3 (by rw [List.map_append]; exact List.mem_append_right _ q), (List.nodup_append.mp hf1').2.1⟩
      · rcases List.mem_cons.mp hp with rfl | hp
        · exact ⟨mk1, mk2⟩
        · exact hf2 p (List.mem_append_right _ hp)
      · rw [w3 f, k11.2.1 6 (by decide), e8.2.1 6 (by decide), s6.2.1 6 (by decide), List.map_cons]
        show (if _ then 0 else upd (zA τ1 6) mk 1 f) = 0 ↔ _
        rw [upd_at, tf1.2.1 6 (by decide)]
        by_cases q1 : f ∈ gs.map (fun p => p.1)
        · rw [if_pos q1]
          refine ⟨fun _ z => ?_, fun _ => rfl⟩
          rcases z with z | z
          · obtain ⟨p, hp, rfl⟩ := List.mem_map.mp q1
            have := (hf2 p (List.mem_append_left _ hp)).1
            omega
          · rcases List.mem_cons.mp z with z | z
            · exact hmkn (by rw [← show f = mk from z]; exact q1)
            · obtain ⟨p, hp, rfl⟩ := List.mem_map.mp z
              exact hrg p hp q1
        · rw [if_neg q1]
          by_cases q2 : f = mk
          · rw [if_pos q2]
            exact ⟨fun z => absurd z (by decide), fun z => absurd (Or.inr (by rw [q2]; exact List.mem_cons_self)) z⟩
          · rw [if_neg q2, hf3 f hf, List.map_append]
            constructor
            · intro z y
              rcases y with y | y
              · exact z (Or.inl y)
              · rcases List.mem_cons.mp y with y | y
                · exact q2 y
                · exact z (Or.inr (List.mem_append_right _ y))
            · intro z y
              rcases y with y | y
              · exact z (Or.inl y)
              · rcases List.mem_append.mp y with y | y
                · exact q1 y
                · exact z (Or.inr (List.mem_cons_of_mem _ y))
      · rcases List.mem_cons.mp hp with rfl | hp
        · obtain ⟨x1, x2, x3⟩ := w4 mk hmkn
          exact JF_keep k2 x1 x2 x3 (fun b _ => congrFun (w5.2.1 2 (by decide)) b)
        · have hp2 : p ∈ gs ++ rest := List.mem_append_right _ hp
          obtain ⟨y1, y2, y3⟩ := hxg p.1 (hmkg p hp2) (hrg p hp)
          exact JF_keep (hf4 p hp2) y1 y2 y3 (fun b hb => (hx3 b (husP p hp2 b hb)).2)
      · obtain ⟨y1, y2, y3⟩ := hxg 0 (by omega) (fun q => by
          obtain ⟨p, hp, h0⟩ := List.mem_map.mp q
          have := (hf2 p (List.mem_append_left _ hp)).1
          omega)
        exact JF_keep hf5 y1 y2 y3 (fun b hb => (hx3 b (husI b hb)).2)
      · rw [hdC6, List.map_cons]
        refine ⟨?_, fun b hb => ?_, fun r hr => ?_⟩
        · rw [List.flatMap_cons, List.flatMap_map]
          have h1 := List.nodup_append.mp hBn
          have h2 := List.nodup_append.mp h1.2.1
          refine List.nodup_append.mpr ⟨h1.1, List.nodup_append.mpr ⟨od5', h2.2.1, fun x hx y hy q => ?_⟩, fun x hx y hy q => ?_⟩
          · obtain ⟨p, hp, hy2⟩ := List.mem_flatMap.mp hy
            exact husb y (husP p (List.mem_append_right _ hp) y hy2) (q ▸ hx)
          · rcases List.mem_append.mp hy with hy | hy
            · exact husb x (husI x hx) (q ▸ hy)
            · exact h1.2.2 x hx y (List.mem_append_right _ hy) q
        · rw [List.flatMap_cons, List.flatMap_map] at hb
          show b < nb ∧ ((us b || decide (b ∈ cb5)) && decide (¬ b ∈ gs.flatMap (fun p => p.2.1))) = true
          rcases List.mem_append.mp hb with hb | hb
          · rw [husI b hb, decide_eq_true (hGI b hb)]
            exact ⟨(hB.2.1 b (List.mem_append_left _ hb)).1, by simp⟩
          · rcases List.mem_append.mp hb with hb | hb
            · have hb' : b ∈ cb5 := hb
              rw [decide_eq_true hb', decide_eq_true (hGC b hb'), Bool.or_true]
              exact ⟨(od6' b hb').1, rfl⟩
            · obtain ⟨p, hp, hb2⟩ := List.mem_flatMap.mp hb
              have hp2 : p ∈ gs ++ rest := List.mem_append_right _ hp
              rw [husP p hp2 b hb2, decide_eq_true (hGR p hp b hb2)]
              exact ⟨(hB.2.1 b (List.mem_append_right _ (List.mem_flatMap.mpr ⟨p.2, List.mem_map.mpr ⟨p, hp2, rfl⟩, hb2⟩))).1, by simp⟩
        · rcases List.mem_cons.mp hr with rfl | hr
          · exact ⟨hcbne, k5, k6 hcbne⟩
          · obtain ⟨p, hp, rfl⟩ := List.mem_map.mp hr
            exact hB.2.2 p.2 (List.mem_map.mpr ⟨p, List.mem_append_right _ hp, rfl⟩)
      · rw [hdC6, cf6.2.2.1 1 (by decide), List.map_cons]
        have hN2 := hN
        rw [List.map_append] at hN2
        refine JN_step (on := on) hper hN2 k4 e9 (fun x hx => ?_) (fun b hb => hcl6 b (husI b hb)) (fun r hr => ?_)
        · rw [List.flatMap_map, hclE]
          exact e10 x hx
        · obtain ⟨p, hp, rfl⟩ := List.mem_map.mp hr
          have hp2 : p ∈ gs ++ rest := List.mem_append_right _ hp
          exact ⟨(hB.2.2 p.2 (List.mem_map.mpr ⟨p, hp2, rfl⟩)).2.1, fun b hb => hcl6 b (husP p hp2 b hb)⟩
      · rw [← hσ6]
        show zI σ5 7 = _
        rw [k10.1 7 (by decide), e7.1 7 (by decide), h7]
    · rw [if_pos rfl] at hc9
      rw [e7.1 7 (by decide), h7] at eb1
      exact undo σ5 τ5 cb5 eb1 eb2 (OX_t e6 eb3 eb0) (zfr_t (zfr_w e7 (by decide) (by decide) (by decide)) eb4 (by decide) (by decide) (by decide)) (zfr_t e8 eb5 (by decide) (by decide) (by decide)) hc9 hm0
  · rw [if_pos rfl] at hc9
    have h17n : ¬ zI τ4 17 = 0 := by
      rcases eb1 with ⟨z, -⟩ | ⟨z, -⟩
      · rw [z]; decide
      · rw [z]; decide
    rw [if_neg h17n] at hm0
    rw [h7] at eb1
    exact undo σ4 τ4 cb eb1 eb2 eb3 eb4 eb5 hc9 hm0
