/-- a step that is done -/
theorem j_fdone {n nb sz mm cm w od kn N : Nat} {inp ib tk O : List Nat} {ps qs : List zP} {us : Nat → Bool} {cl : Nat → Nat → Int64} {σ τ σ' τ' : zS} {x2 x3 x4 : Int32} (hn : 300 < n) (hnb : nb ≤ 200) (hs5 : 5 ≤ sz) (hJ : JS cm nb sz mm w od kn inp ps σ τ) (hsh : SH ps σ τ)
    (h17 : zI τ' 17 = 0) (hOD : ∃ cl', (∀ b, us b = true → cl' b = cl b) ∧ OD nb sz tk (blQ qs) (blQ qs) us cl' (inp = [] ∧ ps = []) σ' τ') (hFQ : FQ sz w ps qs (qs.map flP) σ' τ') (hFN : FN nb sz w ib cl qs [] O σ') (hO : ∀ x ∈ O, x < N)
    (hus : ∀ b, us b = ((dC nb sz σ).2.1 b || decide (b ∈ tk))) (hcl : ∀ b, (dC nb sz σ).2.1 b = true → cl b = (dC nb sz σ).1 b)
    (htk : (tk = [] ∧ ib = inp) ∨ ∃ b, tk = [b] ∧ ib = inp ++ [b] ∧ (dC nb sz σ).2.1 b = false ∧ b < nb)
    (hrow : rwL (fun x : Nat => x) ib (zI σ' 17) (zA σ' 5)) (hib : ib.length ≤ nb) (hF0 : JF 0 ib N (zA τ' 3) (zA τ' 4) (zA τ' 5) (zA τ' 2))
    (hx1 : ∀ c, (dC nb sz σ).2.1 c = true → zA σ' 3 c = zA σ 3 c ∧ zA σ' 4 c = zA σ 4 c)
    (hx2 : ∀ c, (dC nb sz σ).2.1 c = true → ¬ c ∈ inp → zA τ' 2 c = zA τ 2 c)
    (hx4 : ∀ g ∈ ps.map flP, zA τ' 3 g = zA τ 3 g ∧ zA τ' 4 g = zA τ 4 g ∧ zA τ' 5 g = zA τ 5 g)
    (hNU : nmR (sz / (w + 1)) w (dC nb sz σ).1 inp (inp.length * (sz / (w + 1))) ++ nmD w od (zL σ 1) = (List.range N).map (nuN sz w ib cl))
    (f : zfr [2, 3, 4, 5, 6, 7, 14, 15, 16, 17, 18, 19, 20, 21, 22, 23, 24, 25, 26, 28] [0, 3, 4, 5, 6, 7, 8, 9] [0, 2] σ σ') (f' : zfr [0, 10, 11, 12, 13, 14, 15, 17, 18, 19, 20, 21, 22, 23, 24, 25] [0, 1, 2, 3, 4, 5, 6, 10, 11, 12] [0, 2, 3] τ τ') :
    ∃ σ'' τ'', zb (fX2_removeAll_0 n nb sz mm σ') (fun q => fX7_addNewRuns_p33_0 n nb sz mm q) = some σ'' ∧ fX10_form_169 n τ' x2 x3 x4 = zb (fX10_ended_0 n τ'' 3) (fun q49 => some (q49.1, q49.2)) ∧ JS cm nb sz mm w 0 kn [] (ps ++ qs) σ'' τ'' ∧ SH (ps ++ qs) σ'' τ'' ∧ zI σ'' 7 = zI σ' 7 ∧ zI τ'' 17 = 0 := by
  obtain ⟨hS, hDk, hd, hlat, hin, hC, ⟨hf1, hf2, hf3, hf4, hf5⟩, hB, hN⟩ := hJ
  obtain ⟨cl', hcl', od1, od2, od3, od4, od5, od6, od7, od8⟩ := hOD
  obtain ⟨q1, q2, q3, q4, q5, q6⟩ := hFQ
  have hper := p_per (w := w) hs5 hS.2.1.2.1
  have husP : ∀ p ∈ ps, ∀ b ∈ p.2.1, (dC nb sz σ).2.1 b = true := fun p hp b hb => (hB.2.1 b (List.mem_append_right _ (List.mem_flatMap.mpr ⟨p.2, List.mem_map.mpr ⟨p, hp, rfl⟩, hb⟩))).2
  have hPN : ∀ p ∈ ps, ∀ b ∈ p.2.1, b < nb := fun p hp b hb => (hB.2.1 b (List.mem_append_right _ (List.mem_flatMap.mpr ⟨p.2, List.mem_map.mpr ⟨p, hp, rfl⟩, hb⟩))).1
  have hPI : ∀ p ∈ ps, ∀ b ∈ p.2.1, ¬ b ∈ inp := fun p hp b hb q => (List.nodup_append.mp hB.1).2.2 b q b (List.mem_flatMap.mpr ⟨p.2, List.mem_map.mpr ⟨p, hp, rfl⟩, hb⟩) rfl
  have hust : ∀ b, (dC nb sz σ).2.1 b = true → us b = true := fun b hb => by rw [hus b, hb]; rfl
  have hibu : ∀ b ∈ ib, b < nb ∧ us b = true := fun b hb => by
    rcases htk with ⟨z1, z2⟩ | ⟨c, z1, z2, z3, z4⟩
    · rw [z2] at hb
      exact ⟨(hB.2.1 b (List.mem_append_left _ hb)).1, hust b (hB.2.1 b (List.mem_append_left _ hb)).2⟩
    · rw [z2] at hb
      rcases List.mem_append.mp hb with y | y
      · exact ⟨(hB.2.1 b (List.mem_append_left _ y)).1, hust b (hB.2.1 b (List.mem_append_left _ y)).2⟩
      · rw [List.mem_singleton.mp y]
        refine ⟨z4, ?_⟩
        rw [hus c, z1, decide_eq_true (List.mem_singleton.mpr rfl), Bool.or_true]
  have hPib : ∀ p ∈ ps, ∀ b ∈ p.2.1, ¬ b ∈ ib := fun p hp b hb q => by
    rcases htk with ⟨z1, z2⟩ | ⟨c, z1, z2, z3, z4⟩
    · rw [z2] at q
      exact hPI p hp b hb q
    · rw [z2] at q
      rcases List.mem_append.mp q with y | y
      · exact hPI p hp b hb y
      · have := husP p hp b hb
        rw [List.mem_singleton.mp y, z3] at this
        cases this
  have hQib : ∀ b ∈ blQ qs, ¬ b ∈ ib := fun b hb q => by
    have h1 := (od6 b hb).2
    rw [(hibu b q).2] at h1
    cases h1
  have hPQ : ∀ p ∈ ps, ∀ b ∈ p.2.1, ¬ b ∈ blQ qs := fun p hp b hb q => by
    have h1 := (od6 b q).2
    rw [hust b (husP p hp b hb)] at h1
    cases h1
  have hcl6 : ∀ b, (dC nb sz σ).2.1 b = true → (dC nb sz σ').1 b = (dC nb sz σ).1 b := fun b hb => by
    rw [od8 b (Or.inl (hust b hb)), hcl' b (hust b hb), hcl b hb]
  -- blocks and numbers
  have hB' : JB nb (sz / (w + 1)) [] ((ps ++ qs).map (fun p => p.2)) (fun b => (us b || decide (b ∈ blQ qs)) && decide (¬ b ∈ ib)) := by
    have hBn := (List.nodup_append.mp hB.1).2.1
    rw [List.flatMap_map] at hBn
    refine ⟨?_, fun b hb => ?_, fun r hr => ?_⟩
    · rw [List.nil_append, List.map_append, List.flatMap_append, List.flatMap_map, List.flatMap_map]
      refine List.nodup_append.mpr ⟨hBn, od5, fun x hx y hy q => ?_⟩
      obtain ⟨p, hp, hb⟩ := List.mem_flatMap.mp hx
      rw [q] at hb
      exact hPQ p hp y hb hy
    · rw [List.nil_append, List.map_append, List.flatMap_append, List.flatMap_map, List.flatMap_map] at hb
      rcases List.mem_append.mp hb with y | y
      · obtain ⟨p, hp, hb⟩ := List.mem_flatMap.mp y
        refine ⟨hPN p hp b hb, ?_⟩
        dsimp only
        rw [hust b (husP p hp b hb), decide_eq_true (hPib p hp b hb)]
        rfl
      · refine ⟨(od6 b y).1, ?_⟩
        have y' : b ∈ blQ qs := y
        dsimp only
        rw [decide_eq_true y', decide_eq_true (hQib b y'), Bool.or_true]
        rfl
    · rw [List.map_append] at hr
      rcases List.mem_append.mp hr with y | y
      · exact hB.2.2 r y
      · obtain ⟨p, hp, rfl⟩ := List.mem_map.mp y
        exact ⟨(q2 p hp).1, (q2 p hp).2.1, (q2 p hp).2.2.1⟩
  have hmany : ps.length + qs.length ≤ nb := by
    have := j_many hB'
    rw [List.length_map, List.length_append] at this
    simp only [List.length_nil] at this
    omega
  have hN' : JN cm (sz / (w + 1)) w 0 [] ((ps ++ qs).map (fun p => p.2)) (dC nb sz σ').1 (zL σ 1) := by
    obtain ⟨n1, n2⟩ := hN
    obtain ⟨m1, m2⟩ := hFN
    rw [List.append_nil] at m1 m2
    have e1 : nmR (sz / (w + 1)) w (dC nb sz σ').1 [] (([] : List Nat).length * (sz / (w + 1))) ++ nmD w 0 (zL σ 1) = [] := by
      show nmR (sz / (w + 1)) w (dC nb sz σ').1 [] (0 * (sz / (w + 1))) ++ nmD w 0 (zL σ 1) = []
      rw [Nat.zero_mul]
      rfl
    have e2 : (ps.map (fun p => p.2)).flatMap (fun r => nmR (sz / (w + 1)) w (dC nb sz σ').1 r.1 r.2) = (ps.map (fun p => p.2)).flatMap (fun r => nmR (sz / (w + 1)) w (dC nb sz σ).1 r.1 r.2) := flat_congr (fun r hr => by
      obtain ⟨p, hp, rfl⟩ := List.mem_map.mp hr
      exact nmR_congr (fun b hb => hcl6 b (husP p hp b hb)) hper (hB.2.2 p.2 hr).2.1)
    have e3 : (qs.map (fun p => p.2)).flatMap (fun r => nmR (sz / (w + 1)) w (dC nb sz σ').1 r.1 r.2) = qs.flatMap (fun p => nmR (sz / (w + 1)) w (dC nb sz σ').1 p.2.1 p.2.2) := by rw [List.flatMap_map]
    have hq : ∀ v ∈ qs.flatMap (fun p => nmR (sz / (w + 1)) w (dC nb sz σ').1 p.2.1 p.2.2), v ∈ nmR (sz / (w + 1)) w (dC nb sz σ).1 inp (inp.length * (sz / (w + 1))) ++ nmD w od (zL σ 1) := fun v hv => by
      obtain ⟨i, hi, rfl⟩ := m2 v hv
      rw [hNU]
      exact List.mem_map.mpr ⟨i, List.mem_range.mpr (hO i hi), rfl⟩
    unfold JN
    rw [e1, List.nil_append, List.map_append, List.flatMap_append, e2, e3]
    obtain ⟨k1, k2, k3⟩ := List.nodup_append.mp n1
    refine ⟨List.nodup_append.mpr ⟨k2, m1, fun x hx y hy q => k3 y (hq y hy) x hx q.symm⟩, fun x hx => ?_⟩
    rcases List.mem_append.mp hx with y | y
    · exact n2 x (List.mem_append_right _ y)
    · exact n2 x (List.mem_append_left _ (hq x y))
  -- the class
  have hrel := c_inRel (n := n) (nb := nb) (sz := sz) (mm := mm) (σ := σ') hn hnb hrow hib (fun b hb => (hibu b hb).1)
  generalize hσ1 : sI (sI (sA (sI (sA σ' 0 (frU (zA σ' 0) ib)) 17 0) 5 (zA σ' 5)) 12 0) 14 (-1) = σ1 at hrel
  have f1 : zfr [12, 14, 17] [0, 5] [] σ' σ1 := by rw [← hσ1]; exact zfr_I (by decide) (zfr_I (by decide) (zfr_A (by decide) (zfr_I (by decide) (zfr_A (by decide) zfr_r))))
  obtain ⟨hr16, hr7⟩ := SH_rl.mp hsh
  obtain ⟨σ2, a1, a2, a3⟩ := c_addNew (n := n) (nb := nb) (sz := sz) (mm := mm) (ps := ps) (qs := qs) (σ := σ1) hn hnb (by rw [f1.1 32 (by decide), f1.2.1 16 (by decide), f.1 32 (by decide), f.2.1 16 (by decide)]; exact hr16) (by rw [f1.1 26 (by decide), f1.2.1 7 (by decide)]; exact q1) hmany
  -- the reference
  have hfr := m_free0 (n := n) hn hF0 (fun b hb => by have := (hibu b hb).1; omega) (by omega)
  generalize hτ1 : sA (sA (sA (sA (sA τ' 0 (frU (zA τ' 0) ib)) 3 (upd (zA τ' 3) 0 (-1))) 4 (upd (zA τ' 4) 0 (-1))) 5 (upd (zA τ' 5) 0 0)) 6 (upd (zA τ' 6) 0 1) = τ1 at hfr
  have g1 : zfr [5] [0, 3, 4, 5, 6] [] τ' (sI τ1 5 0) := by rw [← hτ1]; exact zfr_I (by decide) (zfr_A (by decide) (zfr_A (by decide) (zfr_A (by decide) (zfr_A (by decide) (zfr_A (by decide) zfr_r)))))
  obtain ⟨τ2, b1, b2, b3⟩ := m_addNew (n := n) (ps := ps) (qs := qs) (τ := sI τ1 5 0) hn (by rw [g1.1 4 (by decide), g1.2.1 7 (by decide), f'.1 4 (by decide), f'.2.1 7 (by decide)]; exact hr7) (by rw [g1.1 25 (by decide), g1.2.1 12 (by decide)]; exact q3) (by omega)
  have cf : zfr [2, 3, 4, 5, 6, 7, 12, 14, 15, 16, 17, 18, 19, 20, 21, 22, 23, 24, 25, 26, 28, 32] [0, 3, 4, 5, 6, 7, 8, 9, 16] [0, 2] σ σ2 := zfr_t (zfr_t (zfr_w f (by decide) (by decide) (by decide)) f1 (by decide) (by decide) (by decide)) a3 (by decide) (by decide) (by decide)
  have mf : zfr [0, 4, 5, 10, 11, 12, 13, 14, 15, 17, 18, 19, 20, 21, 22, 23, 24, 25] [0, 1, 2, 3, 4, 5, 6, 7, 10, 11, 12] [0, 2, 3] τ τ2 := zfr_t (zfr_t (zfr_w f' (by decide) (by decide) (by decide)) g1 (by decide) (by decide) (by decide)) b3 (by decide) (by decide) (by decide)
  have hdC2 : dC nb sz σ2 = ((dC nb sz σ').1, fun b => (us b || decide (b ∈ blQ qs)) && decide (¬ b ∈ ib), (dC nb sz σ').2.2) := by
    have e1 : dC nb sz σ2 = dC nb sz (sA σ' 0 (frU (zA σ' 0) ib)) := by
      unfold dC
      rw [a3.1 2 (by decide), a3.1 3 (by decide), a3.1 4 (by decide), a3.1 5 (by decide), a3.1 6 (by decide), a3.2.1 0 (by decide), a3.2.2.1 0 (by decide), ← hσ1]
      rfl
    rw [e1, dC_fr, fr_used]
    congr 2
    funext b
    rw [← od7 b]
    rfl
  have hdM2 : dM nb sz τ2 = ((dC nb sz σ').1, fun b => (us b || decide (b ∈ blQ qs)) && decide (¬ b ∈ ib), (dC nb sz σ').2.2) := by
    have e0 : dM nb sz τ2 = ((dM nb sz τ').1, (fun b => decide (b < nb) && decide (¬ frU (zA τ' 0) ib b = 0)), (dM nb sz τ').2.2) := by
      unfold dM
      rw [b3.1 10 (by decide), b3.1 11 (by decide), b3.1 12 (by decide), b3.1 13 (by decide), b3.1 15 (by decide), b3.2.1 0 (by decide), b3.2.2.1 0 (by decide), ← hτ1]
      rfl
    rw [e0, fr_used, od1]
    congr 2
    funext b
    rw [← od7 b, ← od1]
    rfl
  have hA3 : zA σ2 3 = zA σ' 3 := (a3.2.1 3 (by decide)).trans (f1.2.1 3 (by decide))
  have hA4 : zA σ2 4 = zA σ' 4 := (a3.2.1 4 (by decide)).trans (f1.2.1 4 (by decide))
  have hT2 : zA τ2 2 = zA τ' 2 := (b3.2.1 2 (by decide)).trans (g1.2.1 2 (by decide))
  have hT3 : zA τ2 3 = upd (zA τ' 3) 0 (-1) ∧ zA τ2 4 = upd (zA τ' 4) 0 (-1) ∧ zA τ2 5 = upd (zA τ' 5) 0 0 ∧ zA τ2 6 = upd (zA τ' 6) 0 1 := by
    rw [b3.2.1 3 (by decide), b3.2.1 4 (by decide), b3.2.1 5 (by decide), b3.2.1 6 (by decide), ← hτ1]
    exact ⟨rfl, rfl, rfl, rfl⟩
  obtain ⟨t3, t4, t5, t6⟩ := hT3
  have hmE : fX10_form_169 n τ' x2 x3 x4 = zb (fX10_ended_0 n τ2 3) (fun q49 => some (q49.1, q49.2)) := by
    unfold fX10_form_169
    rw [if_pos (show zI τ' 17 ≤ 0 by rw [h17]; decide), zb_s hfr, zb_s b1]
  refine ⟨σ2, τ2, by rw [zb_s hrel]; exact a1, hmE, ⟨SC_fr hS cf mf (by decide) (by decide) (by decide) (by decide), ?_, by rw [hdM2, hdC2], ?_, ⟨?_, fun j b hj => (by cases hj)⟩, fun p hp => ?_, ⟨?_, fun p hp => ?_, fun x hx => ?_, fun p hp => ?_, ⟨fun _ => ⟨?_, ?_⟩, fun q => absurd rfl q, ?_, trivial⟩⟩, ?_, ?_⟩, SH_rl.mpr ⟨a2, b2⟩, (a3.1 7 (by decide)).trans (f1.1 7 (by decide)), (b3.1 17 (by decide)).trans ((g1.1 17 (by decide)).trans h17)⟩
  · rw [mf.1 9 (by decide), mf.2.2.1 1 (by decide), cf.1 13 (by decide), cf.2.2.1 1 (by decide), b3.1 5 (by decide), a3.1 12 (by decide), ← hσ1]
    exact ⟨hDk.1, hper, rfl, rfl, hDk.2.2.2.2.1, hDk.2.2.2.2.2⟩
  · rcases od2 with ⟨y1, y2, y3⟩ | y
    · left
      refine ⟨rfl, ?_⟩
      have h1 := blQ_len (sz := sz) (w := w) (qs := qs) (fun p hp => (q2 p hp).1)
      rw [y1] at h1
      rw [y3, List.nil_append]
      exact List.length_eq_zero_iff.mp (by simpa using h1)
    · right
      rw [b3.1 14 (by decide), b3.1 13 (by decide), g1.1 14 (by decide), g1.1 13 (by decide)]
      exact y
  · rw [a3.1 17 (by decide), ← hσ1]
    rfl
  · rw [hA3, hA4]
    rcases List.mem_append.mp hp with hp | hp
    · have hph : p.2.1.headD 0 ∈ p.2.1 := by
        cases h : p.2.1 with
        | nil => exact absurd h (hB.2.2 p.2 (List.mem_map.mpr ⟨p, hp, rfl⟩)).1
        | cons a t => exact List.mem_cons_self
      refine ⟨chC_congr (fun b hb => (hx1 b (husP p hp b hb)).1) (hC p hp).1, ?_⟩
      rw [(hx1 _ (husP p hp _ hph)).2]
      exact (hC p hp).2
    · exact ⟨(q2 p hp).2.2.2.1, (q2 p hp).2.2.2.2.1⟩
  · rw [List.map_append]
    exact q4
  · rcases List.mem_append.mp hp with hp | hp
    · exact hf2 p hp
    · exact q5 p.1 (List.mem_map.mpr ⟨p, hp, rfl⟩)
  · rw [t6, upd_at, List.map_append]
    by_cases z : x = 0
    · rw [if_pos z]
      exact ⟨fun y => absurd y (by decide), fun y => absurd (Or.inl z) y⟩
    · rw [if_neg z]
      exact q6 x hx
  · rw [t3, t4, t5, hT2]
    rcases List.mem_append.mp hp with hp | hp
    · obtain ⟨y1, y2, y3⟩ := hx4 p.1 (List.mem_map.mpr ⟨p, hp, rfl⟩)
      have hp0 : ¬ p.1 = 0 := by have := (hf2 p hp).1; omega
      refine JF_keep (hf4 p hp) ?_ ?_ ?_ (fun b hb => hx2 b (husP p hp b hb) (hPI p hp b hb))
      · rw [upd_at, if_neg hp0]; exact y1
      · rw [upd_at, if_neg hp0]; exact y2
      · rw [upd_at, if_neg hp0]; exact y3
    · have hp0 : ¬ p.1 = 0 := by have := (q5 p.1 (List.mem_map.mpr ⟨p, hp, rfl⟩)).1; omega
      refine JF_keep (q2 p hp).2.2.2.2.2 ?_ ?_ ?_ (fun b hb => rfl)
      · rw [upd_at, if_neg hp0]
      · rw [upd_at, if_neg hp0]
      · rw [upd_at, if_neg hp0]
  · rw [t3, upd_at, if_pos rfl]
  · rw [t4, upd_at, if_pos rfl]
  · rw [t5, upd_at, if_pos rfl]
    show (0 : Int32) = nI (0 * (sz / (w + 1)))
    rw [Nat.zero_mul]
    rfl
  · rw [hdC2]
    exact hB'
  · rw [hdC2, cf.2.2.1 1 (by decide)]
    exact hN'
