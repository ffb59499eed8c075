/-- the end of a form -/
theorem j_fclose {n nb sz mm cm w od kn N : Nat} {inp ib tk : List Nat} {ps : List zP} {us : Nat → Bool} {cl : Nat → Nat → Int64} {σ τ σb τb σ' τ' : zS} {r : Int32} {o : Nat → Int64} (hn : 300 < n) (hnb : nb ≤ 200) (hs5 : 5 ≤ sz) (hJ : JS cm nb sz mm w od kn inp ps σ τ) (hsh : SH ps σ τ) (h7 : zI σ 7 = 0) (hb : BSE nb sz mm w od kn N inp ib tk ps us cl σ τ σb τb)
    (hor : (r = 1 ∧ ∃ qs O, FBR nb sz mm w kn tk ib us cl (inp = [] ∧ ps = []) ps qs O σb τb σ' τ' ∧ (∀ x ∈ O, x < N)) ∨ (r = 0 ∧ FBD nb sz tk us cl (inp = [] ∧ ps = []) ps σb τb σ' τ')) :
    ∃ r1 σ'' k o' rb τ'', (if r = 0 then fX9_form_84 n nb sz mm σ' else fX9_form_80 n nb sz mm σ') = some (r1, σ'') ∧ fL_form r1 o = some (k, o') ∧ fX10_form_169 n τ' (zA τ 3 0) (zA τ 4 0) (zA τ 5 0) = some (rb, τ'') ∧ fX10_thrown_0 n τ'' = some k ∧ (k = 0 → o' (Int32.toNatClampNeg 0) = rb.toInt64) ∧ ∃ od' inp' rs fs, JJ cm nb sz mm w od' kn inp' rs fs σ'' τ'' := by
  obtain ⟨e1, e2, e3, e4, e5, e6, e7, e8, e9, e10, e11, e12, e13, e14⟩ := hb
  have hibu : ∀ b ∈ ib, us b = true := fun b hb => (e3.2.1 b hb).2
  have husU : ∀ c, (dC nb sz σ).2.1 c = true → us c = true := fun c hc => by rw [e7 c, hc]; rfl
  have h7b : zI σb 7 = 0 := (e13.1 7 (by decide)).trans h7
  -- what both ways of ending need
  have com : FK us ps σb τb σ' τ' → (rwL (fun x : Nat => x) ib (zI σ' 17) (zA σ' 5) ∧ JF 0 ib N (zA τ' 3) (zA τ' 4) (zA τ' 5) (zA τ' 2) ∧ zI σ' 14 = zI σb 14 ∧ (∀ c, (dC nb sz σ).2.1 c = true → zA σ' 3 c = zA σ 3 c ∧ zA σ' 4 c = zA σ 4 c) ∧ (∀ c, (dC nb sz σ).2.1 c = true → (tk = [] ∨ ¬ c ∈ inp) → zA τ' 2 c = zA τ 2 c) ∧ (∀ g ∈ ps.map flP, zA τ' 3 g = zA τ 3 g ∧ zA τ' 4 g = zA τ 4 g ∧ zA τ' 5 g = zA τ 5 g) ∧ zfr [2, 3, 4, 5, 6, 7, 14, 15, 16, 17, 18, 19, 20, 21, 22, 23, 24, 25, 26, 28] [0, 3, 4, 5, 6, 7, 8, 9] [0, 2] σ σ' ∧ zfr [0, 10, 11, 12, 13, 14, 15, 17, 18, 19, 20, 21, 22, 23, 24, 25] [0, 1, 2, 3, 4, 5, 6, 10, 11, 12] [0, 2, 3] τ τ') := fun hK => by
    obtain ⟨k1, k2, k3, k4⟩ := hK
    obtain ⟨y1, y2, y3⟩ := k2 0 (Or.inl rfl)
    refine ⟨?_, JF_keep e5 y1 y2 y3 (fun b hb => (k1 b (hibu b hb)).2.1), k3.1 14 (by decide), fun c hc => ?_, fun c hc hor => ?_, fun g hg => ?_, zfr_t (zfr_w e13 (by decide) (by decide) (by decide)) k3 (by decide) (by decide) (by decide), zfr_t (zfr_w e14 (by decide) (by decide) (by decide)) k4 (by decide) (by decide) (by decide)⟩
    · rw [k3.1 17 (by decide), k3.2.1 5 (by decide)]
      exact e4
    · obtain ⟨z1, z2, z3⟩ := k1 c (husU c hc)
      exact ⟨z1.trans (e10 c hc).1, z3.trans (e10 c hc).2⟩
    · exact (k1 c (husU c hc)).2.1.trans (e11 c hc hor)
    · obtain ⟨z1, z2, z3⟩ := k2 g (Or.inr hg)
      obtain ⟨w1, w2, w3⟩ := e12 g hg
      exact ⟨z1.trans w1, z2.trans w2, z3.trans w3⟩
  rcases hor with ⟨rfl, qs, O, hF, hO⟩ | ⟨rfl, hF⟩
  · obtain ⟨h17, hS, hOD, a3, hFQ, hFN, hK, h77⟩ := hF
    obtain ⟨d1, d2, d3, d4, d5, d6, d7, d8⟩ := com hK
    obtain ⟨σ'', τ'', m1, m2, m3, m4, m5, m6⟩ := j_fdone (n := n) (x2 := zA τ 3 0) (x3 := zA τ 4 0) (x4 := zA τ 5 0) hn hnb hs5 hJ hsh h17 hOD hFQ hFN hO e7 e8 (by
      rcases e9 with ⟨z1, z2, -⟩ | ⟨b, z1, z2, z3, z4, -⟩
      · exact Or.inl ⟨z1, z2⟩
      · exact Or.inr ⟨b, z1, z2, z3, z4⟩) d1 e3.2.2.1 d2 d4 (fun c hc hi => d5 c hc (Or.inr hi)) d6 e6 d7 d8
    obtain ⟨r1, k, o', rb, τ3, f1, f2, f3, f4, f5, f6⟩ := j_fin (n := n) (o := o) (r := 1) m3 m4 (Or.inl ⟨rfl, by rw [m5, h77, h7b], m6⟩)
    obtain ⟨q, q1, q2⟩ := zb_i m1
    refine ⟨r1, σ'', k, o', rb, τ3, ?_, f2, ?_, f4, f5, 0, [], _, _, f6⟩
    · rw [if_neg (show ¬ (1 : Int32) = 0 by decide)]
      unfold fX9_form_80 fX9_form_85 fX9_form_125
      rw [if_neg (show ¬ (1 : Int32) = 0 by decide), zb_s q1, zb_s q2]
      exact f1
    · rw [m2, zb_s f3]
  · obtain ⟨hst, ⟨sb, hOD⟩, ⟨mfs, hm1, hm2, hm3, hm4⟩, hK⟩ := hF
    obtain ⟨d1, d2, d3, d4, d5, d6, d7, d8⟩ := com hK
    rw [h7b] at hst
    obtain ⟨σ'', τ'', m1, m2, m3, m4, m5, m6⟩ := j_fundo (n := n) hn hnb hs5 hJ hsh hst hOD e7 e8 (by
      rw [d3]
      exact e9) d1 e3.2.2.1 d4 d5 (fun _ => d2.2.2.2) d6 hm1 hm2 hm3 hm4 d7 d8
    obtain ⟨r1, k, o', rb, τ3, f1, f2, f3, f4, f5, f6⟩ := j_fin (n := n) (o := o) (r := 0) m3 m4 (Or.inr ⟨rfl, by rw [m5, m6]; exact hst⟩)
    obtain ⟨q, q1, q2⟩ := zb_i m1
    refine ⟨r1, σ'', k, o', rb, τ3, ?_, f2, ?_, f4, f5, od, inp, _, _, f6⟩
    · rw [if_pos rfl]
      unfold fX9_form_84 fX9_form_85 fX9_form_125
      rw [if_pos rfl, zb_s q1, zb_s q2]
      exact f1
    · rw [m2, zb_s f3]
/-- the input could not be opened -/
theorem j_fclosf {n nb sz mm cm w od kn : Nat} {inp : List Nat} {ps : List zP} {σ τ σb τb : zS} {o : Nat → Int64} (hn : 300 < n) (hnb : nb ≤ 200) (hs5 : 5 ≤ sz) (hJ : JS cm nb sz mm w od kn inp ps σ τ) (hsh : SH ps σ τ) (hb : BSF nb sz inp ps σ τ σb τb) :
    ∃ r1 σ'' k o' rb τ'', fX9_form_84 n nb sz mm σb = some (r1, σ'') ∧ fL_form r1 o = some (k, o') ∧ fX10_form_169 n τb (zA τ 3 0) (zA τ 4 0) (zA τ 5 0) = some (rb, τ'') ∧ fX10_thrown_0 n τ'' = some k ∧ (k = 0 → o' (Int32.toNatClampNeg 0) = rb.toInt64) ∧ ∃ od' inp' rs fs, JJ cm nb sz mm w od' kn inp' rs fs σ'' τ'' := by
  obtain ⟨hst, h23, h24, h25, hOD, h14, f, f'⟩ := hb
  have hmany := js_many hJ
  obtain ⟨hS, hDk, hd, hlat, hin, hC, ⟨hf1, hf2, hf3, hf4, hf5⟩, hB, hN⟩ := id hJ
  obtain ⟨σ'', τ'', m1, m2, m3, m4, m5, m6⟩ := j_fundo (n := n) (ib := inp) (mfs := []) hn hnb hs5 hJ hsh hst hOD (fun b => by rw [decide_eq_false List.not_mem_nil, Bool.or_false]) (fun b _ => rfl) (Or.inl ⟨rfl, rfl, h14⟩) (by rw [f.1 17 (by decide), f.2.1 5 (by decide)]; exact hin) (by omega) (fun c _ => ⟨by rw [f.2.1 3 (by decide)], by rw [f.2.1 4 (by decide)]⟩) (fun c _ _ => by rw [f'.2.1 2 (by decide)]) (fun q => absurd rfl q) (fun g _ => ⟨by rw [f'.2.1 3 (by decide)], by rw [f'.2.1 4 (by decide)], by rw [f'.2.1 5 (by decide)]⟩) ⟨h25, fun j x hj => (by cases hj)⟩ (by rw [List.append_nil]; exact hf1) (fun x hx => (by cases hx)) (by rw [List.append_nil, f'.2.1 6 (by decide)]; exact hf3) (zfr_w f (by decide) (by decide) (by decide)) (zfr_w f' (by decide) (by decide) (by decide))
  obtain ⟨r1, k, o', rb, τ3, f1, f2, f3, f4, f5, f6⟩ := j_fin (n := n) (o := o) (r := 0) m3 m4 (Or.inr ⟨rfl, by rw [m5, m6]; exact hst⟩)
  obtain ⟨q, q1, q2⟩ := zb_i m1
  refine ⟨r1, σ'', k, o', rb, τ3, ?_, f2, ?_, f4, f5, od, inp, _, _, f6⟩
  · unfold fX9_form_84 fX9_form_85 fX9_form_125
    rw [if_pos rfl, zb_s q1, zb_s q2]
    exact f1
  · rw [m2, zb_s f3]
theorem s_form {n nb sz mm : Nat} (hn : 110000 ≤ n) (hnb : nb ≤ 200) (hs5 : 5 ≤ sz) (hsz : sz ≤ 64) (hm2 : 2 ≤ mm) (hmm : mm ≤ 64) : sim_form n nb sz mm (zJ9 nb sz mm) := by
  intro jj σ τ o a1 hj9 hJ
  obtain ⟨cm, hcm, w, od, kn, inp, rs, fs, h⟩ := hJ
  have hoff := h.2.2.2.2.2.1
  by_cases c1 : 0 ≤ a1 ∧ a1 ≤ 2
  · have hin1 : fX10_isIn_0 n zσ0 a1 0 2 = some 1 := m_isIn_y c1.1 c1.2
    have hlt : ¬ a1 < 0 := i_nlt.mpr c1.1
    by_cases c4 : zI σ 7 = 0
    · obtain ⟨hjs, hsh⟩ := jj_js h
      generalize fs.zip rs = ps at hjs hsh
      have hmany := js_many hjs
      obtain ⟨σ1, r, σb, τb, o1, o2, o3, o4⟩ := j_open (n := n) (by omega) hnb hs5 hsz hjs c4
      have hf0 : fX9_form_0 n nb sz mm σ a1 = if r = 0 then fX9_form_84 n nb sz mm σb else if a1 = 0 then zb (fX9_loadRuns_0 n nb sz mm σb) (fun q18 => if q18.1 = 0 then fX9_form_84 n nb sz mm q18.2 else fX9_form_80 n nb sz mm q18.2) else if a1 = 1 then zb (fX9_chooseRuns_0 n nb sz mm σb) (fun q15 => if q15.1 = 0 then fX9_form_84 n nb sz mm q15.2 else fX9_form_80 n nb sz mm q15.2) else zb (fX9_copyRuns_0 n nb sz mm σb) (fun q12 => if q12.1 = 0 then fX9_form_84 n nb sz mm q12.2 else fX9_form_80 n nb sz mm q12.2) := by
        unfold fX9_form_0 fX9_needPower_0
        rw [if_neg hlt, if_pos c1.2, if_pos c4]
        show zb (fX7_beginStep_0 n nb sz mm σ (zI σ 0)) _ = _
        rw [zb_s o1, zb_s o2]
      have hm0 : fX10_form_0 n τ a1 = m134 n τb a1 (zA τ 3 0) (zA τ 4 0) (zA τ 5 0) := by
        unfold fX10_form_0
        rw [zb_s hin1, if_neg (by decide), hoff.1, if_pos c4]
        exact o3 a1
      rcases o4 with ⟨rfl, N, ib, tk, us, cl, hb⟩ | ⟨rfl, hb⟩
      · rw [if_neg (show ¬ (1 : Int32) = 0 by decide)] at hf0
        have hus := hb.2.2.2.2.2.2.1
        have hT := hb.2.2.1
        have hrw := hb.2.2.2.1
        have hch : chC (zA τb 2) ib := hb.2.2.2.2.1.2.2.2
        have hB := hjs.2.2.2.2.2.2.2.1
        have hpq : ∀ qs : List zP, (∀ p ∈ qs, ¬ p.2.1 = []) → (blQ qs).Nodup → (∀ b ∈ blQ qs, b < nb ∧ us b = false) → ps.length + qs.length ≤ 203 := fun qs h1 h2 h3 => by
          have k1 := blQ_len (sz := sz) (w := w) h1
          have k2 := blQ_len (sz := sz) (w := w) (qs := ps) (fun p hp => (hB.2.2 p.2 (List.mem_map.mpr ⟨p, hp, rfl⟩)).1)
          have hBn := (List.nodup_append.mp hB.1).2.1
          rw [List.flatMap_map] at hBn
          have hps : ∀ b ∈ blQ ps, b < nb ∧ us b = true := fun b hb' => by
            obtain ⟨p, hp, hb2⟩ := List.mem_flatMap.mp hb'
            obtain ⟨y1, y2⟩ := hB.2.1 b (List.mem_append_right _ (List.mem_flatMap.mpr ⟨p.2, List.mem_map.mpr ⟨p, hp, rfl⟩, hb2⟩))
            exact ⟨y1, by rw [hus b, y2]; rfl⟩
          have k3 := nd_le nb (blQ ps ++ blQ qs) (List.nodup_append.mpr ⟨hBn, h2, fun x hx y hy q => by
            have y1 := (hps x hx).2
            rw [q, (h3 y hy).2] at y1
            cases y1⟩) (fun x hx => by
            rcases List.mem_append.mp hx with y | y
            · exact (hps x y).1
            · exact (h3 x y).1)
          rw [List.length_append] at k3
          omega
        unfold m134 at hm0
        by_cases d0 : a1 = 0
        · rw [if_pos d0] at hf0 hm0
          obtain ⟨r, σ', τ', w1, w2, w3⟩ := j_load hn hnb hs5 hsz hm2 hmm (by omega) hT hrw hch hpq hb.1 hb.2.1
          rw [zb_s w1] at hf0
          rw [zb_s w2] at hm0
          obtain ⟨r1, σ'', k, o', rb, τ'', p1, p2, p3, p4, p5, od', inp', rs', fs', p6⟩ := j_fclose (n := n) (o := o) (by omega) hnb hs5 hjs hsh c4 hb w3
          exact ⟨r1, σ'', k, o', rb, τ'', hf0.trans p1, p2, hm0.trans p3, p4, p5, cm, by omega, w, od', kn, inp', rs', fs', p6⟩
        · rw [if_neg d0] at hf0 hm0
          by_cases d1 : a1 = 1
          · rw [if_pos d1] at hf0 hm0
            obtain ⟨r, σ', τ', w1, w2, w3⟩ := j_chs hn hnb hs5 hsz hm2 hmm (by omega) hT hrw hch hpq hb.1 hb.2.1
            rw [zb_s w1] at hf0
            rw [zb_s w2] at hm0
            obtain ⟨r1, σ'', k, o', rb, τ'', p1, p2, p3, p4, p5, od', inp', rs', fs', p6⟩ := j_fclose (n := n) (o := o) (by omega) hnb hs5 hjs hsh c4 hb w3
            exact ⟨r1, σ'', k, o', rb, τ'', hf0.trans p1, p2, hm0.trans p3, p4, p5, cm, by omega, w, od', kn, inp', rs', fs', p6⟩
          · rw [if_neg d1] at hf0 hm0
            obtain ⟨r, σ', τ', w1, w2, w3⟩ := j_copy hn hnb hs5 hsz (by omega) hT hrw hch hpq hb.1 hb.2.1
            rw [zb_s w1] at hf0
            rw [zb_s w2] at hm0
            obtain ⟨r1, σ'', k, o', rb, τ'', p1, p2, p3, p4, p5, od', inp', rs', fs', p6⟩ := j_fclose (n := n) (o := o) (by omega) hnb hs5 hjs hsh c4 hb w3
            exact ⟨r1, σ'', k, o', rb, τ'', hf0.trans p1, p2, hm0.trans p3, p4, p5, cm, by omega, w, od', kn, inp', rs', fs', p6⟩
      · rw [if_pos rfl] at hf0
        obtain ⟨l1, l2, l3⟩ := m_noload (n := n) (by omega) hb.2.1 hb.2.2.1
        have hm1 : fX10_form_0 n τ a1 = fX10_form_169 n τb (zA τ 3 0) (zA τ 4 0) (zA τ 5 0) := by
          rw [hm0]
          unfold m134
          rw [zb_s l1, zb_s l2, zb_s l3, ite_self, ite_self]
        obtain ⟨r1, σ'', k, o', rb, τ'', p1, p2, p3, p4, p5, od', inp', rs', fs', p6⟩ := j_fclosf (n := n) (o := o) (by omega) hnb hs5 hjs hsh hb
        exact ⟨r1, σ'', k, o', rb, τ'', hf0.trans p1, p2, hm1.trans p3, p4, p5, cm, by omega, w, od', kn, inp', rs', fs', p6⟩
    · have hf : fX9_form_0 n nb sz mm σ a1 = some (.inl "java/lang/IllegalStateException", σ) := by
        unfold fX9_form_0 fX9_needPower_0
        rw [if_neg hlt, if_pos c1.2, if_neg c4]
        rfl
      have hm : fX10_form_0 n τ a1 = some (0, sI τ 0 2) := by
        unfold fX10_form_0 fX10_form_26
        rw [zb_s hin1, if_neg (by decide), hoff.1, if_neg c4, if_neg (by decide)]
      exact ⟨_, _, _, _, _, _, hf, rfl, hm, rfl, fun q => absurd q (by decide), cm, by omega, w, od, kn, inp, rs, fs, h⟩
  · have hf : fX9_form_0 n nb sz mm σ a1 = some (.inl "java/lang/IllegalArgumentException", σ) := by
      unfold fX9_form_0 fX9_form_9
      by_cases q : a1 < 0
      · rw [if_pos q]
      · rw [if_neg q, if_neg (fun z => c1 ⟨i_nlt.mp q, z⟩)]
    have hm : fX10_form_0 n τ a1 = some (0, sI τ 0 1) := by
      unfold fX10_form_0 fX10_form_26
      rw [zb_s (m_isIn_n c1), if_pos rfl, if_neg (by decide)]
    exact ⟨_, _, _, _, _, _, hf, rfl, hm, rfl, fun q => absurd q (by decide), cm, by omega, w, od, kn, inp, rs, fs, h⟩
