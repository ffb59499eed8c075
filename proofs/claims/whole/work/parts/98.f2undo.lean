/-- a step that failed: all is as it was -/
theorem j_fundo {n nb sz mm cm w od kn : Nat} {inp ib tk sb mfs : List Nat} {ps : List zP} {us : Nat → Bool} {cl : Nat → Nat → Int64} {σ τ σ' τ' : zS} (hn : 300 < n) (hnb : nb ≤ 200) (hs5 : 5 ≤ sz) (hJ : JS cm nb sz mm w od kn inp ps σ τ) (hsh : SH ps σ τ)
    (hst : (zI τ' 17 = 1 ∧ zI σ' 7 = 1) ∨ (zI τ' 17 = 2 ∧ zI σ' 7 = 0)) (hD : OD nb sz tk [] sb us cl (inp = [] ∧ ps = []) σ' τ')
    (hus : ∀ b, us b = ((dC nb sz σ).2.1 b || decide (b ∈ tk))) (hcl : ∀ b, (dC nb sz σ).2.1 b = true → cl b = (dC nb sz σ).1 b)
    (htk : (tk = [] ∧ ib = inp ∧ zI σ' 14 = -1) ∨ ∃ b, tk = [b] ∧ ib = inp ++ [b] ∧ (dC nb sz σ).2.1 b = false ∧ b < nb ∧ zI σ' 14 = nI b)
    (hrow : rwL (fun x : Nat => x) ib (zI σ' 17) (zA σ' 5)) (hib : ib.length ≤ nb)
    (hx1 : ∀ c, (dC nb sz σ).2.1 c = true → zA σ' 3 c = zA σ 3 c ∧ zA σ' 4 c = zA σ 4 c)
    (hx2 : ∀ c, (dC nb sz σ).2.1 c = true → (tk = [] ∨ ¬ c ∈ inp) → zA τ' 2 c = zA τ 2 c)
    (hx3 : ¬ tk = [] → chC (zA τ' 2) ib)
    (hx4 : ∀ g ∈ ps.map flP, zA τ' 3 g = zA τ 3 g ∧ zA τ' 4 g = zA τ 4 g ∧ zA τ' 5 g = zA τ 5 g)
    (hm : rwL (fun x : Nat => x) mfs (zI τ' 25) (zA τ' 12)) (hm2 : (ps.map flP ++ mfs).Nodup) (hm3 : ∀ f ∈ mfs, 1 ≤ f ∧ f < 208) (hm4 : ∀ f, f < 208 → (zA τ' 6 f = 0 ↔ ¬ (f = 0 ∨ f ∈ ps.map flP ++ mfs)))
    (f : zfr [2, 3, 4, 5, 6, 7, 14, 15, 16, 17, 18, 19, 20, 21, 22, 23, 24, 25, 26, 28] [0, 3, 4, 5, 6, 7, 8, 9] [0, 2] σ σ') (f' : zfr [0, 10, 11, 12, 13, 14, 15, 17, 18, 19, 20, 21, 22, 23, 24, 25] [0, 1, 2, 3, 4, 5, 6, 10, 11, 12] [0, 2, 3] τ τ') :
    ∃ σ'' τ'', zb (fX7_undoStep_0 n nb sz mm σ') (fun q => fX2_undoOpen_0 n nb sz mm q) = some σ'' ∧ fX10_form_169 n τ' (zA τ 3 0) (zA τ 4 0) (zA τ 5 0) = zb (fX10_ended_0 n τ'' 3) (fun q49 => some (q49.1, q49.2)) ∧ JS cm nb sz mm w od kn inp ps σ'' τ'' ∧ SH ps σ'' τ'' ∧ zI σ'' 7 = zI σ' 7 ∧ zI τ'' 17 = zI τ' 17 := by
  obtain ⟨hS, hDk, hd, hlat, hin, hC, ⟨hf1, hf2, hf3, hf4, hf5⟩, hB, hN⟩ := hJ
  obtain ⟨od1, od2, od3, od4, od5, od6, od7, od8⟩ := hD
  have hper := p_per (w := w) hs5 hS.2.1.2.1
  have husb : ∀ b, (dC nb sz σ).2.1 b = true → ¬ b ∈ sb := fun b hb q => by
    have h1 := (od6 b q).2
    rw [hus b, hb] at h1
    cases h1
  have hust : ∀ b, (dC nb sz σ).2.1 b = true → ¬ b ∈ tk := fun b hb q => by
    rcases htk with ⟨z, -⟩ | ⟨c, z, -, z2, -⟩
    · rw [z] at q; cases q
    · rw [z] at q
      rw [List.mem_singleton.mp q, z2] at hb
      cases hb
  have hinU : ∀ b ∈ inp, (dC nb sz σ).2.1 b = true := fun b hb => (hB.2.1 b (List.mem_append_left _ hb)).2
  have hinN : ∀ b ∈ inp, b < nb := fun b hb => (hB.2.1 b (List.mem_append_left _ hb)).1
  have husP : ∀ p ∈ ps, ∀ b ∈ p.2.1, (dC nb sz σ).2.1 b = true := fun p hp b hb => (hB.2.1 b (List.mem_append_right _ (List.mem_flatMap.mpr ⟨p.2, List.mem_map.mpr ⟨p, hp, rfl⟩, hb⟩))).2
  have hPI : ∀ p ∈ ps, ∀ b ∈ p.2.1, ¬ b ∈ inp := fun p hp b hb q => (List.nodup_append.mp hB.1).2.2 b q b (List.mem_flatMap.mpr ⟨p.2, List.mem_map.mpr ⟨p, hp, rfl⟩, hb⟩) rfl
  -- the class
  obtain ⟨σ1, u1, u2, u3⟩ := c_undo (n := n) (nb := nb) (sz := sz) (mm := mm) (sb := sb) (σ := σ') (by omega) hnb od3.1 od3.2 (fun b hb => (od6 b hb).1) (nd_le nb sb od5 (fun b hb => (od6 b hb).1))
  obtain ⟨σ2, v1, v2, v3, v4⟩ : ∃ σ2, fX2_undoOpen_0 n nb sz mm σ1 = some σ2 ∧ zA σ2 0 = frU (zA σ' 0) (sb ++ tk) ∧ rwL (fun x : Nat => x) inp (zI σ2 17) (zA σ2 5) ∧ zfr [14, 17, 25, 26] [0, 5, 6, 7] [] σ' σ2 := by
    unfold fX2_undoOpen_0 fX6_size_0
    rcases htk with ⟨z1, z2, z3⟩ | ⟨b, z1, z2, z3, z4, z5⟩
    · rw [if_pos ((u3.1 14 (by decide)).trans z3)]
      refine ⟨σ1, rfl, by rw [z1, List.append_nil]; exact u2, ?_, zfr_w u3 (by decide) (by decide) (by decide)⟩
      rw [u3.1 17 (by decide), u3.2.1 5 (by decide), ← z2]
      exact hrow
    · have hl : ib.length = inp.length + 1 := by rw [z2, List.length_append]; rfl
      rw [if_neg (show ¬ zI σ1 14 = -1 from by rw [u3.1 14 (by decide), z5]; exact nI_m1 (by omega)), zb_s (show some (zI (zrv (zI σ1 17) (zA σ1 5)) 0) = some (nI ib.length) from by rw [show zI (zrv (zI σ1 17) (zA σ1 5)) 0 = zI σ1 17 from rfl, u3.1 17 (by decide), hrow.1]), show nI ib.length - 1 = nI inp.length from by rw [hl, show (1 : Int32) = nI 1 from rfl, nI_sub (by omega)]; rfl, u3.1 17 (by decide), u3.2.1 5 (by decide)]
      obtain ⟨s, s1, s2⟩ := rl_remove (n := n) (ln := nb) (i := inp.length) hn hrow (by omega) hib hnb
      rw [zb_s s1, u3.1 14 (by decide), z5, zb_s (c_release hnb z4)]
      refine ⟨_, rfl, ?_, ?_, zfr_I (by decide) (zfr_A (by decide) (zfr_A (by decide) (zfr_I (by decide) (zfr_w u3 (by decide) (by decide) (by decide)))))⟩
      · show upd (zA σ1 0) b 0 = _
        rw [u2, frU_snoc, z1]
      · show rwL _ _ (zI s 0) (zA s 0)
        have e1 : ib.eraseIdx inp.length = inp := by
          rw [z2, List.eraseIdx_append_of_length_le (Nat.le_refl _), Nat.sub_self]
          show inp ++ [] = inp
          rw [List.append_nil]
        rw [e1] at s2
        exact s2
  have cf : zfr [2, 3, 4, 5, 6, 7, 14, 15, 16, 17, 18, 19, 20, 21, 22, 23, 24, 25, 26, 28] [0, 3, 4, 5, 6, 7, 8, 9] [0, 2] σ σ2 := zfr_t f v4 (by decide) (by decide) (by decide)
  have hdC2 : dC nb sz σ2 = ((dC nb sz σ').1, (dC nb sz σ).2.1, (dC nb sz σ').2.2) := by
    have e1 : dC nb sz σ2 = dC nb sz (sA σ' 0 (frU (zA σ' 0) (sb ++ tk))) := by
      unfold dC
      rw [v4.1 2 (by decide), v4.1 3 (by decide), v4.1 4 (by decide), v4.1 5 (by decide), v4.1 6 (by decide), v4.2.2.1 0 (by decide), v2]
      rfl
    rw [e1, dC_fr, fr_used]
    have e2 : (fun b => (decide (b < nb) && decide (¬ zA σ' 0 b = 0)) && decide (¬ b ∈ sb ++ tk)) = (dC nb sz σ).2.1 := by
      funext b
      have h2 : (decide (b < nb) && decide (¬ zA σ' 0 b = 0)) = (us b || decide (b ∈ sb)) := od7 b
      rw [h2, hus b]
      by_cases z : b ∈ sb ++ tk
      · rw [decide_eq_false (show ¬ ¬ b ∈ sb ++ tk from fun q => q z), Bool.and_false]
        cases h : (dC nb sz σ).2.1 b with
        | false => rfl
        | true =>
          rcases List.mem_append.mp z with y | y
          · exact absurd y (husb b h)
          · exact absurd y (hust b h)
      · rw [decide_eq_true z, Bool.and_true, decide_eq_false (fun q => z (List.mem_append_left _ q)), decide_eq_false (fun q => z (List.mem_append_right _ q)), Bool.or_false, Bool.or_false]
    rw [e2]
  -- the reference
  have hgb := m_giveBack (n := n) (nb := nb) (τ := τ') (by omega) ((f'.1 1 (by decide)).trans hS.1.1) hnb
  generalize hτ6 : sA τ' 0 (fun k => if k < nb then (if zA τ' 0 k = 0 then 0 else if zA τ' 1 k = 0 then 1 else 0) else zA τ' 0 k) = τ6 at hgb
  have g6 : zfr [] [0] [] τ' τ6 := by rw [← hτ6]; exact zfr_A (by decide) zfr_r
  have hdM6 : dM nb sz τ6 = ((dC nb sz σ').1, (dC nb sz σ).2.1, (dC nb sz σ').2.2) := by
    rw [← hτ6]
    have e1 : dM nb sz (sA τ' 0 (fun k => if k < nb then (if zA τ' 0 k = 0 then 0 else if zA τ' 1 k = 0 then 1 else 0) else zA τ' 0 k)) = ((dM nb sz τ').1, (fun b => decide (b < nb) && decide (¬ (fun k => if k < nb then (if zA τ' 0 k = 0 then (0 : Int32) else if zA τ' 1 k = 0 then 1 else 0) else zA τ' 0 k) b = 0)), (dM nb sz τ').2.2) := rfl
    rw [e1]
    have e2 : (fun b => decide (b < nb) && decide (¬ (fun k => if k < nb then (if zA τ' 0 k = 0 then (0 : Int32) else if zA τ' 1 k = 0 then 1 else 0) else zA τ' 0 k) b = 0)) = (dC nb sz σ).2.1 := by
      funext b
      have h1 : (decide (b < nb) && decide (¬ zA τ' 0 b = 0)) = (us b || decide (b ∈ sb)) := by
        rw [← od7 b, ← od1]
        rfl
      rw [hus b] at h1
      show (decide (b < nb) && decide (¬ (if b < nb then (if zA τ' 0 b = 0 then (0 : Int32) else if zA τ' 1 b = 0 then 1 else 0) else zA τ' 0 b) = 0)) = (dC nb sz σ).2.1 b
      by_cases q : b < nb
      · rw [decide_eq_true q, Bool.true_and] at h1
        rw [decide_eq_true q, Bool.true_and, if_pos q]
        have hta := od4 b q
        by_cases z : zA τ' 0 b = 0
        · rw [if_pos z]
          rw [decide_eq_false (fun y => y z)] at h1
          rw [(Bool.or_eq_false_iff.mp (Bool.or_eq_false_iff.mp h1.symm).1).1]
          decide
        · rw [if_neg z]
          rw [decide_eq_true z] at h1
          by_cases y : b ∈ tk ∨ b ∈ sb
          · rw [if_neg (fun x => (hta.mp x) y)]
            cases h : (dC nb sz σ).2.1 b with
            | false => decide
            | true =>
              rcases y with y | y
              · exact absurd y (hust b h)
              · exact absurd y (husb b h)
          · rw [if_pos (hta.mpr y)]
            rw [decide_eq_false (fun x => y (Or.inl x)), decide_eq_false (fun x => y (Or.inr x)), Bool.or_false, Bool.or_false] at h1
            rw [← h1]
            decide
      · show (decide (b < nb) && _) = _
        rw [decide_eq_false q, Bool.false_and]
        show false = (decide (b < nb) && _)
        rw [decide_eq_false q, Bool.false_and]
    rw [e2, od1]
  have hp17 : ¬ zI τ' 17 ≤ 0 := by
    rcases hst with ⟨z, -⟩ | ⟨z, -⟩
    · rw [z]; decide
    · rw [z]; decide
  have hmfl : mfs.length ≤ 207 := by
    have h1 : (0 :: mfs).length ≤ 208 := nd_le 208 (0 :: mfs) (List.nodup_cons.mpr ⟨fun q => by have := (hm3 0 q).1; omega, (List.nodup_append.mp hm2).2.1⟩) (fun x hx => by
      rcases List.mem_cons.mp hx with e | e
      · rw [e]; decide
      · exact (hm3 x e).2)
    rw [List.length_cons] at h1
    omega
  -- what the reference then holds
  obtain ⟨τ8, m1, m2, m3, m4, m5⟩ : ∃ τ8, fX10_form_169 n τ' (zA τ 3 0) (zA τ 4 0) (zA τ 5 0) = zb (fX10_ended_0 n τ8 3) (fun q49 => some (q49.1, q49.2)) ∧ zfr [] [2, 3, 4, 5, 6] [] τ6 τ8 ∧ (zA τ8 3 = upd (zA τ' 3) 0 (zA τ 3 0) ∧ zA τ8 4 = upd (zA τ' 4) 0 (zA τ 4 0) ∧ zA τ8 5 = upd (zA τ' 5) 0 (zA τ 5 0)) ∧ zA τ8 6 = frU (zA τ' 6) mfs ∧ (inp = [] → zA τ8 2 = zA τ' 2) ∧ (¬ inp = [] → zA τ8 2 = upd (zA τ' 2) (inp.getLastD 0) (-1)) := by
    have hz : ∀ {k : Option (Int32 × zS)}, zg (zin 0 208) k = k := fun {k} => zg_t (by decide)
    unfold fX10_form_169
    rw [if_neg hp17, zb_s hgb, hz, hz, hz, show (Int32.toNatClampNeg 0) = 0 by decide]
    by_cases e : inp = []
    · rw [if_pos (hf5.1 e).2]
      unfold fX10_form_214
      rw [zb_s (m_unmk (n := n) (mfs := mfs) hn (by
        show rwL _ _ (zI τ6 25) (zA τ6 12)
        rw [g6.1 25 (by decide), g6.2.1 12 (by decide)]
        exact hm) hmfl (fun x hx => (hm3 x hx).2))]
      refine ⟨_, rfl, zfr_A (by decide) (zfr_A (by decide) (zfr_A (by decide) (zfr_A (by decide) zfr_r))), ⟨?_, ?_, ?_⟩, ?_, fun _ => ?_, fun q => absurd e q⟩
      · show upd (zA τ6 3) 0 _ = _
        rw [g6.2.1 3 (by decide)]
      · show upd (zA τ6 4) 0 _ = _
        rw [g6.2.1 4 (by decide)]
      · show upd (zA τ6 5) 0 _ = _
        rw [g6.2.1 5 (by decide)]
      · show frU (zA τ6 6) mfs = _
        rw [g6.2.1 6 (by decide)]
      · show zA τ6 2 = _
        rw [g6.2.1 2 (by decide)]
    · have hl := hinN _ (lastD_mem e)
      have h4 : zA τ 4 0 = nI (inp.getLastD 0) := (hf5.2.1 e).2
      rw [if_neg (show ¬ zA τ 4 0 = -1 from by rw [h4]; exact nI_m1 (by omega)), h4, zg_in (show inp.getLastD 0 < 200 by omega) (by decide), nI_clamp (by omega)]
      unfold fX10_form_214
      rw [zb_s (m_unmk (n := n) (mfs := mfs) hn (by
        show rwL _ _ (zI τ6 25) (zA τ6 12)
        rw [g6.1 25 (by decide), g6.2.1 12 (by decide)]
        exact hm) hmfl (fun x hx => (hm3 x hx).2))]
      refine ⟨_, rfl, zfr_A (by decide) (zfr_A (by decide) (zfr_A (by decide) (zfr_A (by decide) (zfr_A (by decide) zfr_r)))), ⟨?_, ?_, ?_⟩, ?_, fun q => absurd q e, fun _ => ?_⟩
      · show upd (zA τ6 3) 0 _ = _
        rw [g6.2.1 3 (by decide)]
      · show upd (zA τ6 4) 0 _ = _
        rw [g6.2.1 4 (by decide)]
      · show upd (zA τ6 5) 0 _ = _
        rw [g6.2.1 5 (by decide)]
      · show frU (zA τ6 6) mfs = _
        rw [g6.2.1 6 (by decide)]
      · show upd (zA τ6 2) _ _ = _
        rw [g6.2.1 2 (by decide)]
  have mf : zfr [0, 10, 11, 12, 13, 14, 15, 17, 18, 19, 20, 21, 22, 23, 24, 25] [0, 1, 2, 3, 4, 5, 6, 10, 11, 12] [0, 2, 3] τ τ8 := zfr_t (zfr_t f' g6 (by decide) (by decide) (by decide)) m2 (by decide) (by decide) (by decide)
  have hdM8 : dM nb sz τ8 = dM nb sz τ6 := by
    unfold dM
    rw [m2.1 10 (by decide), m2.1 11 (by decide), m2.1 12 (by decide), m2.1 13 (by decide), m2.1 15 (by decide), m2.2.1 0 (by decide), m2.2.2.1 0 (by decide)]
  have hA2 : ∀ c, ¬ c ∈ inp → zA τ8 2 c = zA τ' 2 c := fun c hc => by
    by_cases e : inp = []
    · rw [m5.1 e]
    · rw [m5.2 e, upd_at, if_neg (show ¬ c = inp.getLastD 0 from fun q => hc (by rw [q]; exact lastD_mem e))]
  have hcl6 : ∀ b, (dC nb sz σ).2.1 b = true → (dC nb sz σ').1 b = (dC nb sz σ).1 b := fun b hb => by
    rw [od8 b (Or.inl (by rw [hus b, hb]; rfl)), hcl b hb]
  have hsh' : SH ps σ2 τ8 := by
    unfold SH
    rw [cf.1 32 (by decide), cf.2.1 16 (by decide), mf.1 4 (by decide), mf.2.1 7 (by decide)]
    exact hsh
  refine ⟨σ2, τ8, by rw [zb_s u1]; exact v1, m1, ⟨SC_fr hS cf mf (by decide) (by decide) (by decide) (by decide), ?_, by rw [hdM8, hdM6, hdC2], ?_, v3, fun p hp => ⟨?_, ?_⟩, ⟨hf1, hf2, fun x hx => ?_, fun p hp => ?_, ?_⟩, ?_, ?_⟩, hsh', v4.1 7 (by decide), (m2.1 17 (by decide)).trans (g6.1 17 (by decide))⟩
  · rw [mf.1 9 (by decide), mf.1 5 (by decide), mf.2.2.1 1 (by decide), cf.1 12 (by decide), cf.1 13 (by decide), cf.2.2.1 1 (by decide)]
    exact hDk
  · rcases od2 with q | q
    · exact Or.inl q.2
    · right
      rw [m2.1 14 (by decide), m2.1 13 (by decide), g6.1 14 (by decide), g6.1 13 (by decide)]
      exact q
  · exact chC_congr (fun b hb => by rw [v4.2.1 3 (by decide)]; exact (hx1 b (husP p hp b hb)).1) (hC p hp).1
  · have hph : p.2.1.headD 0 ∈ p.2.1 := by
      cases h : p.2.1 with
      | nil => exact absurd h (hB.2.2 p.2 (List.mem_map.mpr ⟨p, hp, rfl⟩)).1
      | cons a t => exact List.mem_cons_self
    rw [v4.2.1 4 (by decide), (hx1 _ (husP p hp _ hph)).2]
    exact (hC p hp).2
  · rw [m4]
    show (if x ∈ mfs then 0 else zA τ' 6 x) = 0 ↔ _
    by_cases q : x ∈ mfs
    · rw [if_pos q]
      refine ⟨fun _ z => ?_, fun _ => rfl⟩
      rcases z with z | z
      · have := (hm3 x q).1
        omega
      · exact (List.nodup_append.mp hm2).2.2 x z x q rfl
    · rw [if_neg q, hm4 x hx]
      constructor
      · exact fun z y => z (y.elim Or.inl (fun y => Or.inr (List.mem_append_left _ y)))
      · intro z y
        rcases y with y | y
        · exact z (Or.inl y)
        · rcases List.mem_append.mp y with y | y
          · exact z (Or.inr y)
          · exact q y
  · obtain ⟨y1, y2, y3⟩ := hx4 p.1 (List.mem_map.mpr ⟨p, hp, rfl⟩)
    have hp0 : ¬ p.1 = 0 := by have := (hf2 p hp).1; omega
    refine JF_keep (hf4 p hp) ?_ ?_ ?_ (fun b hb => ?_)
    · rw [m3.1, upd_at, if_neg hp0]; exact y1
    · rw [m3.2.1, upd_at, if_neg hp0]; exact y2
    · rw [m3.2.2, upd_at, if_neg hp0]; exact y3
    · rw [hA2 b (hPI p hp b hb)]
      exact hx2 b (husP p hp b hb) (Or.inr (hPI p hp b hb))
  · unfold JF
    rw [m3.1, m3.2.1, m3.2.2, upd_at, upd_at, upd_at, if_pos rfl, if_pos rfl, if_pos rfl]
    refine ⟨hf5.1, hf5.2.1, hf5.2.2.1, ?_⟩
    have hndI := (List.nodup_append.mp hB.1).1
    rcases htk with ⟨z1, -⟩ | ⟨b, z1, z2, -⟩
    · refine chC_congr (fun c hc => ?_) hf5.2.2.2
      have hne : ¬ inp = [] := fun q => by rw [q] at hc; cases hc
      rw [m5.2 hne, upd_at]
      by_cases q : c = inp.getLastD 0
      · rw [if_pos q, q, chC_last hne hf5.2.2.2]
      · rw [if_neg q]
        exact hx2 c (hinU c hc) (Or.inl z1)
    · have h3 := hx3 (by rw [z1]; simp)
      rw [z2] at h3
      refine chC_cut hndI h3 (fun hne => ?_) (fun c hc hcl => ?_)
      · rw [m5.2 hne, upd_at, if_pos rfl]
      · rw [m5.2 (fun q => by rw [q] at hc; cases hc), upd_at, if_neg hcl]
  · rw [hdC2]
    exact hB
  · rw [hdC2, cf.2.2.1 1 (by decide)]
    refine JN_congr hper hN (fun b hb => hcl6 b (hinU b hb)) (fun r hr => ?_)
    obtain ⟨p, hp, rfl⟩ := List.mem_map.mp hr
    exact ⟨(hB.2.2 p.2 hr).2.1, fun b hb => hcl6 b (husP p hp b hb)⟩
