/-- the first in memory is the one that the reference looks up -/
theorem pick {B : Nat → Nat → Int32} {N r H t j : Nat} {e g : Nat → Nat × Nat} (hB : ordB B N) (hp : heap B e r) (hr0 : 0 < r) (ht : (e 0).2 = t) (hr : rngE N r e) (hset : ∀ i, (∃ j, j < r ∧ e j = (i, t)) ↔ (∃ j, j < H ∧ g j = (i, 0))) (hj : j < H) (hg0 : (g j).2 = 0) (hmin : ∀ i, i < H → (g i).2 = 0 → ¬ B (g i).1 (g j).1 = 1) : g j = ((e 0).1, 0) := by
  obtain ⟨j1, h1, h2⟩ := (hset (e 0).1).mp ⟨0, hr0, by rw [← ht]⟩
  obtain ⟨j2, h3, h4⟩ := (hset (g j).1).mpr ⟨j, hj, by rw [← hg0]⟩
  have m1 := hmin j1 h1 (by rw [h2])
  rw [h2] at m1
  have m2 := heap_min hB hp j2 h3
  rw [h4, ah_if] at m2
  have m3 : ¬ B (g j).1 (e 0).1 = 1 := fun q => m2 (Or.inr ⟨ht.symm, q⟩)
  have hgN : (g j).1 < N := by
    have := (hr j2 h3).1
    rw [h4] at this
    exact this
  have hi : (g j).1 = (e 0).1 := by
    by_cases q : (g j).1 = (e 0).1
    · exact q
    · rcases hB.2.2.2.2 _ _ hgN (hr 0 hr0).1 q with z | z
      · exact absurd z m3
      · exact absurd z m1
  exact Prod.ext hi hg0
/-- one record goes out of memory -/
theorem j_one {z : Prop} {n nb sz mm w kn N s H t : Nat} {v : Int32} {e g : Nat → Nat × Nat} {tk ib : List Nat} {us : Nat → Bool} {cl : Nat → Nat → Int64} {P0 : Prop} {ps qs : List zP} {O : List Nat} {σb τb σ τ : zS} (hn : 110000 ≤ n) (hnb : nb ≤ 200) (hs5 : 5 ≤ sz) (hsz : sz ≤ 64) (hmm : mm ≤ 64) (hT : IST nb sz w N ib us cl) (h : FRN z nb sz mm w kn tk ib us cl P0 ps qs O σb τb σ τ) (hs : s + 1 ≤ mm) (hH64 : H ≤ 64) (hH : HP (s + 1) (plN sz w ib) e σ) (hp : heap (BN sz w kn (zA σb 1) (zA σb 2) ib cl) e (s + 1)) (hin : injE e (s + 1)) (hr : rngE N (s + 1) e) (hM : HM H (pmN sz w ib) g τ) (hg : ∀ j, j < H → (g j).1 < N) (ht : (e 0).2 = t) (hset : ∀ i, (∃ j, j < s + 1 ∧ e j = (i, t)) ↔ (∃ j, j < H ∧ g j = (i, 0))) (hO : ∀ x ∈ O, x < N ∧ ¬ x = (e 0).1) (hv : fX10_firstHeld_0 n τ = some v) :
    ∃ j σ2 e' r σ3 τ3, j < H ∧ g j = ((e 0).1, 0) ∧ v = nI j ∧ fX3_takeFirst_0 n nb sz mm σ = some (nI (plN sz w ib (e 0).1), σ2) ∧ fX7_goOut_0 n nb sz mm σ2 (nI (plN sz w ib (e 0).1)) = some (r, σ3) ∧ zA τ 10 j = nI (pmN sz w ib (e 0).1) ∧ fX10_out_0 n τ (nI (pmN sz w ib (e 0).1)) = some τ3 ∧ ((r = 1 ∧ FRN True nb sz mm w kn tk ib us cl P0 ps qs (O ++ [(e 0).1]) σb τb σ3 τ3) ∨ (r = 0 ∧ FBD nb sz tk us cl P0 ps σb τb σ3 τ3 ∧ zI τ3 19 = 0 ∧ ¬ zI τ3 17 = 0 ∧ 0 < zI τ3 17)) ∧ HP s (plN sz w ib) e' σ3 ∧ heap (BN sz w kn (zA σb 1) (zA σb 2) ib cl) e' s ∧ injE e' s ∧ rngE N s e' ∧ (∀ y, (∃ j, j < s ∧ e' j = y) ↔ ((∃ j, j < s + 1 ∧ e j = y) ∧ ¬ y = e 0)) ∧ HM H (pmN sz w ib) g τ3 ∧ zfr [3, 4, 5, 6, 7, 20, 21, 22, 23, 24, 25, 28] [0, 3, 6, 8, 9] [0, 2] σ σ3 ∧ zfr [11, 12, 13, 14, 15, 17, 19, 20] [0, 1, 2, 3, 4, 5] [0, 2, 3] τ τ3 := by
  have hB := BN_ord (kn := kn) (kc := zA σb 1) (kd := zA σb 2) hT
  obtain ⟨hS, h17, hK, hd, hcl, hk1, hk2⟩ := FRN_com h
  have hper := p_per (w := w) hs5 hS.2.1.2.1
  have hst : ∀ σ9, zfr [28] [8, 9] [] σ σ9 → ∀ i j, i < N → j < N → fX5_isBefore_0 n nb sz mm σ9 (nI (plN sz w ib i)) (nI (plN sz w ib j)) = some (BN sz w kn (zA σb 1) (zA σb 2) ib cl i j) := fun σ9 f9 => (st_B (n := n) (τ := τ) (by omega) hnb hs5 hsz hT (SC_fr hS f9 (zfr_r (I := []) (A := []) (L := [])) (by decide) (by decide) (by decide) (by decide)) (by rw [dC_fr2 f9 (by decide) (by decide) (by decide)]; exact hd) (by rw [dC_fr2 f9 (by decide) (by decide) (by decide)]; exact hcl) ((f9.2.1 1 (by decide)).trans hk1) ((f9.2.1 2 (by decide)).trans hk2)).1
  have hstm := (st_B (n := n) (by omega) hnb hs5 hsz hT hS hd hcl hk1 hk2).2
  obtain ⟨σ2, e', t1, t2, t3, t4, t5, t6, t7⟩ := c_htake (n := n) (nb := nb) (sz := sz) (mm := mm) (by omega) hmm hs hB hst hH hp hin hr
  obtain ⟨v', w1, w2⟩ := m_firstHeld (n := n) (by omega) hH64 hB hstm hM hg h17
  rw [hv] at w1
  cases w1
  have he0 := (hr 0 (by omega)).1
  obtain ⟨j, hj, rfl, hg0⟩ : ∃ j, j < H ∧ v = nI j ∧ g j = ((e 0).1, 0) := by
    rcases w2 with ⟨-, w3⟩ | ⟨j, w3, w4, w5, w6⟩
    · obtain ⟨j1, h1, h2⟩ := (hset (e 0).1).mp ⟨0, by omega, by rw [← ht]⟩
      exact absurd (by rw [h2]) (w3 j1 h1)
    · exact ⟨j, w3, w4, pick hB hp (by omega) ht hr hset w3 w5 w6⟩
  have h2 : FRN z nb sz mm w kn tk ib us cl P0 ps qs O σb τb σ2 τ := FRN_fr h (zfr_w t7 (by decide) (by decide) (by decide)) zfr_r (fun pz sb cl' hO => OD_fr2 hO (zfr_w t7 (by decide) (by decide) (by decide)) zfr_r)
  obtain ⟨b1, b2, b3⟩ := bk_at hT he0
  obtain ⟨r, σ3, τ3, o1, o2, hor, f3, g3⟩ := j_fout (n := n) (b := bkN sz w ib (e 0).1) (i := (e 0).1 % (sz / (w + 1))) (k := (e 0).1) (by omega) hnb hs5 hsz h2 b2 (Nat.mod_lt _ hper) b3 ⟨rfl, rfl⟩ (fun x hx q => (hO x hx).2 (hT.2.2.2.2 x _ (hO x hx).1 he0 q))
  refine ⟨j, σ2, e', r, σ3, τ3, hj, hg0, rfl, t1, o1, ?_, o2, ?_, ?_, t3, t4, t5, t6, ?_, zfr_t (zfr_w t7 (by decide) (by decide) (by decide)) f3 (by decide) (by decide) (by decide), g3⟩
  · rw [(hM.2 j hj).1, hg0]
  · rcases hor with ⟨q1, q2⟩ | ⟨q1, q2⟩
    · exact Or.inl ⟨q1, q2⟩
    · have hp17 : 0 < zI τ3 17 := by
        rcases q2.1 with ⟨y, -⟩ | ⟨y, -⟩
        · rw [y]; decide
        · rw [y]; decide
      have hn17 : ¬ zI τ3 17 = 0 := fun y => by rw [y] at hp17; exact absurd hp17 (by decide)
      exact Or.inr ⟨q1, q2, out19 o2 h17 hn17, hn17, hp17⟩
  · unfold HP
    rw [f3.1 28 (by decide), f3.2.1 8 (by decide), f3.2.1 9 (by decide)]
    exact t2
  · unfold HM
    rw [g3.1 24 (by decide), g3.2.1 10 (by decide), g3.2.1 11 (by decide)]
    exact hM
/-- the looked-up place, when the reference goes on -/
theorem m_fh {z : Prop} {n nb sz mm w kn N H : Nat} {g : Nat → Nat × Nat} {tk ib : List Nat} {us : Nat → Bool} {cl : Nat → Nat → Int64} {P0 : Prop} {ps qs : List zP} {O : List Nat} {σb τb σ τ : zS} (hn : 110000 ≤ n) (hnb : nb ≤ 200) (hs5 : 5 ≤ sz) (hsz : sz ≤ 64) (hT : IST nb sz w N ib us cl) (h : FRN z nb sz mm w kn tk ib us cl P0 ps qs O σb τb σ τ) (hH64 : H ≤ 64) (hM : HM H (pmN sz w ib) g τ) (hg : ∀ j, j < H → (g j).1 < N) : ∃ v, fX10_firstHeld_0 n τ = some v ∧ ((v = -1 ∧ ∀ j, j < H → ¬ (g j).2 = 0) ∨ ∃ j, j < H ∧ v = nI j ∧ (g j).2 = 0) := by
  have hB := BN_ord (kn := kn) (kc := zA σb 1) (kd := zA σb 2) hT
  obtain ⟨hS, h17, hK, hd, hcl, hk1, hk2⟩ := FRN_com h
  obtain ⟨v', w1, w2⟩ := m_firstHeld (n := n) (by omega) hH64 hB (st_B (n := n) (by omega) hnb hs5 hsz hT hS hd hcl hk1 hk2).2 hM hg h17
  refine ⟨v', w1, ?_⟩
  rcases w2 with w2 | ⟨j, w3, w4, w5, -⟩
  · exact Or.inl w2
  · exact Or.inr ⟨j, w3, w4, w5⟩
/-- a load of memory goes out -/
theorem j_ld1 {n nb sz mm w kn N k s : Nat} {e : Nat → Nat × Nat} {v : Int32} {k1 : Int32} {tk ib : List Nat} {us : Nat → Bool} {cl : Nat → Nat → Int64} {P0 : Prop} {ps qs : List zP} {O : List Nat} {σb τb σ τ : zS} (hn : 110000 ≤ n) (hnb : nb ≤ 200) (hs5 : 5 ≤ sz) (hsz : sz ≤ 64) (hmm : mm ≤ 64) (hT : IST nb sz w N ib us cl) (h : FRN False nb sz mm w kn tk ib us cl P0 ps qs O σb τb σ τ) (hI : INP sz w N (k + s) ib σ τ) (hO : ∀ x ∈ O, x < k) (hs : s ≤ mm) (hH : HP s (plN sz w ib) e σ) (hp : heap (BN sz w kn (zA σb 1) (zA σb 2) ib cl) e s) (hin : injE e s) (hr : rngE N s e) (hset : ∀ y, (∃ j, j < s ∧ e j = y) ↔ (k ≤ y.1 ∧ y.1 < k + s ∧ y.2 = 0)) (hM : HM s (pmN sz w ib) (fun j => (k + j, 0)) τ) (hv : fX10_firstHeld_0 n τ = some v) :
    ∃ b b', zlp (fX9_loadRuns_L41_41 n nb sz mm k1) n (nI s, σ) = some b ∧ zlp (fX10_loading_L27_27 n) n (v, τ) = some b' ∧ ((∃ σ1 O', b = .inl σ1 ∧ FRN (0 < s) nb sz mm w kn tk ib us cl P0 ps qs O' σb τb σ1 b' ∧ INP sz w N (k + s) ib σ1 b' ∧ zI σ1 28 = 0 ∧ ∀ x ∈ O', x < k + s) ∨ (∃ σ1, b = .inr σ1 ∧ FBD nb sz tk us cl P0 ps σb τb σ1 b' ∧ zI b' 19 = 0 ∧ 0 < zI b' 17)) := by
  have hks := hI.1
  have hNb := hT.2.2.2.1
  refine zlp_sk (body := fX9_loadRuns_L41_41 n nb sz mm k1) (body' := fX10_loading_L27_27 n)
    (fun m a a' => ∃ r e g v O' σ1 τ1, a = (nI r, σ1) ∧ a' = (v, τ1) ∧ m = r ∧ r ≤ s ∧ FRN (r < s) nb sz mm w kn tk ib us cl P0 ps qs O' σb τb σ1 τ1 ∧ INP sz w N (k + s) ib σ1 τ1 ∧ HP r (plN sz w ib) e σ1 ∧ heap (BN sz w kn (zA σb 1) (zA σb 2) ib cl) e r ∧ injE e r ∧ rngE N r e ∧ (∀ j, j < r → (e j).2 = 0) ∧ HM s (pmN sz w ib) g τ1 ∧ (∀ j, j < s → (g j).1 = k + j) ∧ (∀ i, (∃ j, j < r ∧ e j = (i, 0)) ↔ (∃ j, j < s ∧ g j = (i, 0))) ∧ (∀ x ∈ O', x < k + s ∧ ∀ j, j < r → ¬ (e j).1 = x) ∧ fX10_firstHeld_0 n τ1 = some v)
    (fun b b' => (∃ σ1 O', b = .inl σ1 ∧ FRN (0 < s) nb sz mm w kn tk ib us cl P0 ps qs O' σb τb σ1 b' ∧ INP sz w N (k + s) ib σ1 b' ∧ zI σ1 28 = 0 ∧ ∀ x ∈ O', x < k + s) ∨ (∃ σ1, b = .inr σ1 ∧ FBD nb sz tk us cl P0 ps σb τb σ1 b' ∧ zI b' 19 = 0 ∧ 0 < zI b' 17))
    (fun m a a' hP => ?_) n s (nI s, σ) (v, τ) (by omega) ⟨s, e, (fun j => (k + j, 0)), v, O, σ, τ, rfl, rfl, rfl, Nat.le_refl _, FRN_z (fun q => absurd q (Nat.lt_irrefl _)) h, hI, hH, hp, hin, hr, fun j hj => ((hset (e j)).mp ⟨j, hj, rfl⟩).2.2, hM, fun j hj => rfl, fun i => ?_, fun x hx => ⟨by have := hO x hx; omega, fun j hj q => ?_⟩, hv⟩
  · obtain ⟨r, e1, g1, v1, O1, σ1, τ1, rfl, rfl, rfl, hrs, q1, q2, q3, q4, q5, q6, q7, q8, q9, q10, q11, q12⟩ := hP
    have hgN : ∀ j, j < s → (g1 j).1 < N := fun j hj => by rw [q9 j hj]; omega
    cases m with
    | zero =>
      right; left
      obtain ⟨v', w1, w2⟩ := m_fh hn hnb hs5 hsz hT q1 (by omega) q8 hgN
      rw [q12] at w1
      cases w1
      have hv1 : v1 = -1 := by
        rcases w2 with ⟨w2, -⟩ | ⟨j, w3, w4, w5⟩
        · exact w2
        · obtain ⟨j2, h2, -⟩ := (q10 (g1 j).1).mpr ⟨j, w3, by rw [← w5]⟩
          omega
      rw [hv1]
      refine ⟨.inl σ1, τ1, ?_, ?_, Or.inl ⟨σ1, O1, rfl, q1, q2, q3.1, fun x hx => (q11 x hx).1⟩⟩
      · unfold fX9_loadRuns_L41_41
        exact if_pos (show nI 0 ≤ 0 by decide)
      · unfold fX10_loading_L27_27
        exact if_pos (show (-1 : Int32) < 0 by decide)
    | succ r =>
      have h0r := q7 0 (by omega)
      obtain ⟨j, σ2, e', x, σ3, τ3, p1, p2, p3, p4, p5, p6, p7, p8, p9, p10, p11, p12, p13, p14, p15, p16⟩ := j_one hn hnb hs5 hsz hmm hT q1 (by omega) (by omega) q3 q4 q5 q6 q8 hgN h0r q10 (fun x hx => ⟨by have := (q11 x hx).1; omega, fun q => (q11 x hx).2 0 (by omega) q.symm⟩) q12
      subst p3
      have hcc : fX9_loadRuns_L41_41 n nb sz mm k1 (nI (r + 1), σ1) = if x = 0 then some (.inr (.inr σ3)) else some (.inl (nI r, σ3)) := by
        unfold fX9_loadRuns_L41_41
        dsimp only
        rw [if_neg (show ¬ nI (r + 1) ≤ 0 from nI_nle (by omega) (by omega)), zb_s p4]
        dsimp only
        rw [zb_s p5]
        dsimp only
        rw [nI_dec (by omega), Nat.add_sub_cancel]
      have hjn : ¬ nI j < 0 := by
        have : (0 : Int32) ≤ nI j := nI_le (show 0 ≤ j by omega) (by omega)
        exact Int32.not_lt.mpr this
      have hmr : fX10_loading_L27_27 n (nI j, τ1) = zb (fX10_firstHeld_0 n (sA τ3 11 (upd (zA τ3 11) j 1))) (fun q14 => some (.inl (q14, sA τ3 11 (upd (zA τ3 11) j 1)))) := by
        unfold fX10_loading_L27_27
        dsimp only
        rw [if_neg hjn, zg_in (show j < 64 by omega) (by decide), nI_clamp (by omega), p6, zb_s p7, zg_in (show j < 64 by omega) (by decide), nar1]
      have hM4 : HM s (pmN sz w ib) (fun i => if i = j then ((e1 0).1, 1) else g1 i) (sA τ3 11 (upd (zA τ3 11) j 1)) := by
        refine ⟨p14.1, fun i hi => ?_⟩
        show zA τ3 10 i = _ ∧ upd (zA τ3 11) j 1 i = _ ∧ _
        rw [upd_at]
        dsimp only
        by_cases z : i = j
        · rw [if_pos z, if_pos z]
          refine ⟨?_, rfl, Nat.le_refl _⟩
          rw [(p14.2 i hi).1, z, p2]
        · rw [if_neg z, if_neg z]
          exact p14.2 i hi
      have f4 : zfr [] [11] [] τ3 (sA τ3 11 (upd (zA τ3 11) j 1)) := zfr_A (by decide) zfr_r
      rcases p8 with ⟨rfl, hF⟩ | ⟨rfl, hF, h19, hn17, hp17⟩
      · left
        rw [if_neg (show ¬ (1 : Int32) = 0 by decide)] at hcc
        have hF4 : FRN True nb sz mm w kn tk ib us cl P0 ps qs (O1 ++ [(e1 0).1]) σb τb σ3 (sA τ3 11 (upd (zA τ3 11) j 1)) := FRN_fr hF zfr_r (zfr_w f4 (by decide) (by decide) (by decide)) (fun pz sb cl' hO => OD_fr2 hO zfr_r (zfr_w f4 (by decide) (by decide) (by decide)))
        have hg4 : ∀ i, i < s → ((fun i => if i = j then ((e1 0).1, 1) else g1 i) i : Nat × Nat).1 = k + i := fun i hi => by
          dsimp only
          by_cases z : i = j
          · rw [if_pos z, z, ← q9 j p1, p2]
          · rw [if_neg z]
            exact q9 i hi
        obtain ⟨v4, w1, w2⟩ := m_fh hn hnb hs5 hsz hT hF4 (by omega) hM4 (fun i hi => by rw [hg4 i hi]; omega)
        rw [zb_s w1] at hmr
        refine ⟨_, _, r, by omega, hcc, hmr, r, e', _, v4, _, σ3, _, rfl, rfl, rfl, by omega, FRN_z (fun _ => trivial) hF4, INP_fr q2 p15 (zfr_A (I := [11, 12, 13, 14, 15, 17, 19, 20]) (A := [0, 1, 2, 3, 4, 5, 11]) (L := [0, 2, 3]) (by decide) (zfr_w p16 (by decide) (by decide) (by decide))) (by decide) (by decide), p9, p10, p11, p12, fun i hi => ?_, hM4, hg4, fun i => ?_, fun y hy => ?_, w1⟩
        · obtain ⟨⟨i2, y1, y2⟩, -⟩ := (p13 (e' i)).mp ⟨i, hi, rfl⟩
          rw [← y2]
          exact q7 i2 y1
        · rw [p13 (i, 0), q10 i]
          constructor
          · rintro ⟨⟨j2, y1, y2⟩, y3⟩
            refine ⟨j2, y1, ?_⟩
            rw [if_neg (show ¬ j2 = j from fun z => y3 (by rw [← y2, z, p2]; exact Prod.ext rfl h0r.symm))]
            exact y2
          · rintro ⟨j2, y1, y2⟩
            by_cases z : j2 = j
            · rw [if_pos z] at y2
              exact absurd (congrArg Prod.snd y2) (show ¬ (1 : Nat) = 0 by decide)
            · rw [if_neg z] at y2
              refine ⟨⟨j2, y1, y2⟩, fun y3 => z ?_⟩
              have h1 := q9 j2 y1
              have h2 := q9 j p1
              rw [y2] at h1
              rw [p2] at h2
              have h3 : i = (e1 0).1 := congrArg Prod.fst y3
              dsimp only at h1 h2
              omega
        · rcases List.mem_append.mp hy with z | z
          · refine ⟨(q11 y z).1, fun i hi => ?_⟩
            obtain ⟨⟨i2, y1, y2⟩, -⟩ := (p13 (e' i)).mp ⟨i, hi, rfl⟩
            rw [← y2]
            exact (q11 y z).2 i2 y1
          · rw [List.mem_singleton.mp z]
            refine ⟨by have := q9 j p1; rw [p2] at this; dsimp only at this; omega, fun i hi q => ?_⟩
            obtain ⟨⟨i2, y1, y2⟩, y3⟩ := (p13 (e' i)).mp ⟨i, hi, rfl⟩
            rw [← y2] at q y3
            exact y3 (by rw [q5 i2 0 y1 (by omega) q])
      · right; right
        rw [if_pos rfl] at hcc
        rw [zb_s (m_firstHeld_s (n := n) (by omega) hM4.1 (by omega) hn17)] at hmr
        refine ⟨_, _, _, hcc, hmr, ?_, Or.inr ⟨σ3, rfl, FBD_fr hF (zfr_w f4 (by decide) (by decide) (by decide)), h19, hp17⟩⟩
        unfold fX10_loading_L27_27
        exact if_pos (show (-1 : Int32) < 0 by decide)
  · rw [hset (i, 0)]
    constructor
    · rintro ⟨h1, h2, -⟩
      dsimp only at h1 h2
      exact ⟨i - k, by omega, Prod.ext (show k + (i - k) = i by omega) rfl⟩
    · rintro ⟨j, h1, h2⟩
      have : k + j = i := congrArg Prod.fst h2
      exact ⟨by show k ≤ i; omega, by show i < k + s; omega, rfl⟩
  · have h1 := ((hset (e j)).mp ⟨j, hj, rfl⟩).1
    have h2 := hO x hx
    omega
