/-- all levels -/
theorem j_levels {E : Prop} {n nb sz mm cm w od kn T l0 : Nat} {inp : List Nat} {L0 : Nat → List zP} {th0 c0 fr0 : Nat → Nat} {σ τ : zS} (hn : 110000 ≤ n) (hnb0 : 2 ≤ nb) (hnb : nb ≤ 200) (hs5 : 5 ≤ sz) (hsz : sz ≤ 64) (hT : 3 ≤ T) (hT6 : T ≤ 6) (hl0 : l0 ≤ 300) (hJ : JS cm nb sz mm w od kn inp (cL L0 T) σ τ) (h : PT T L0 th0 (Av T l0) c0 fr0 σ τ) (hs0 : ∀ j, 1 ≤ j → j < T → th0 j + (L0 j).length = Av T l0 j ∧ Av T l0 j ≤ 400) (hT0 : th0 T = 0 ∧ L0 T = [] ∧ fr0 T = 0) (h26 : zI τ 26 = nI l0) (h17 : zI τ 17 = 0) (h7 : zI σ 7 = 0) (hE : E → cL L0 T = []) :
    ∃ rr σ' τ' L th wt c fr, zlp (fX9_poly_L47_47 n nb sz mm) n (1, nI l0, σ) = some (rr, σ') ∧ zlp (fX10_poly_L60_60 n (nI T) (nI (T - 1))) n τ = some τ' ∧ JS cm nb sz mm w od kn inp (cL L T) σ' τ' ∧ PT T L th wt c fr σ' τ' ∧ (E → cL L T = [] ∧ zfp [29] [10, 14, 15] [] σ σ') ∧ ((rr = 1 ∧ zI σ' 7 = 0 ∧ zI τ' 17 = 0) ∨ (rr = 0 ∧ ((zI τ' 17 = 1 ∧ zI σ' 7 = 1) ∨ (zI τ' 17 = 2 ∧ zI σ' 7 = 0)) ∧ ¬ E)) := by
  have hloop := zlp_two (body := fX9_poly_L47_47 n nb sz mm) (body' := fX10_poly_L60_60 n (nI T) (nI (T - 1)))
    (fun m a a' => (∃ l L th c fr σ1 τ1, a = (1, nI l, σ1) ∧ a' = τ1 ∧ m = l + 2 ∧ l ≤ 300 ∧ JS cm nb sz mm w od kn inp (cL L T) σ1 τ1 ∧ PT T L th (Av T l) c fr σ1 τ1 ∧ (∀ j, 1 ≤ j → j < T → th j + (L j).length = Av T l j ∧ Av T l j ≤ 400) ∧ (th T = 0 ∧ L T = [] ∧ fr T = 0) ∧ zI τ1 26 = nI l ∧ zI τ1 17 = 0 ∧ zI σ1 7 = 0 ∧ (E → cL L T = [] ∧ zfp [29] [10, 14, 15] [] σ σ1)) ∨ (∃ x L th wt c fr σ1 τ1, a = (0, x, σ1) ∧ a' = τ1 ∧ m = 1 ∧ JS cm nb sz mm w od kn inp (cL L T) σ1 τ1 ∧ PT T L th wt c fr σ1 τ1 ∧ ((zI τ1 17 = 1 ∧ zI σ1 7 = 1) ∨ (zI τ1 17 = 2 ∧ zI σ1 7 = 0)) ∧ ¬ E))
    (fun b b' => ∃ rr σ1 L th wt c fr, b = (rr, σ1) ∧ JS cm nb sz mm w od kn inp (cL L T) σ1 b' ∧ PT T L th wt c fr σ1 b' ∧ (E → cL L T = [] ∧ zfp [29] [10, 14, 15] [] σ σ1) ∧ ((rr = 1 ∧ zI σ1 7 = 0 ∧ zI b' 17 = 0) ∨ (rr = 0 ∧ ((zI b' 17 = 1 ∧ zI σ1 7 = 1) ∨ (zI b' 17 = 2 ∧ zI σ1 7 = 0)) ∧ ¬ E)))
    (fun m a a' hP => by
      rcases hP with ⟨l, L, th, c, fr, σ1, τ1, rfl, rfl, rfl, hl, q1, q2, q3, q4, q5, q6, q7, qE⟩ | ⟨x, L, th, wt, c, fr, σ1, τ1, rfl, rfl, rfl, q1, q2, q3, qn⟩
      · unfold fX9_poly_L47_47 fX10_poly_L60_60 fX9_poly_L47_71 fX10_poly_L60_130
        dsimp only
        rw [q5]
        cases l with
        | zero =>
          right
          rw [if_pos (show nI 0 ≤ 0 by decide), if_pos (show nI 0 ≤ 0 by decide)]
          exact ⟨_, _, rfl, rfl, 1, σ1, L, th, _, c, fr, rfl, q1, q2, qE, Or.inl ⟨rfl, q7, q6⟩⟩
        | succ l =>
          left
          obtain ⟨rr, σ2, τ2, L2, th2, fr2, a1, a2, a3, a4, a5, aE, a6⟩ := j_level (E := E) (n := n) (nb := nb) (sz := sz) (mm := mm) (k1 := nI T) (l := l) hn hnb0 hnb hs5 hsz hT hT6 q1 q2 q3 q4 q6 q7 (fun e9 => (qE e9).1)
          rw [if_neg (show ¬ nI (l + 1) ≤ 0 from nI_nle (by omega) (by omega)), if_neg (show ¬ (1 : Int32) = 0 by decide), zb_s a1, if_neg (show ¬ nI (l + 1) ≤ 0 from nI_nle (by omega) (by omega)), if_pos q6, zg_in (show T - 1 < 8 by omega) (by decide), nI_clamp (show T - 1 < 2 ^ 31 by omega), (q2.2.2.2.1 (T - 1) (by omega) (by omega)).2, zb_s a2]
          dsimp only
          rcases a6 with ⟨rfl, b1, b2, b3, b4⟩ | ⟨rfl, b1, bE⟩
          · have hL0 : L2 (T - 1) = [] := by
              have := b1 (T - 1) (by omega) (by omega)
              exact List.length_eq_zero_iff.mp (by omega)
            have hth0 : th2 (T - 1) = 0 := by
              have := b1 (T - 1) (by omega) (by omega)
              omega
            have hok : zTok σ2 := a3.1.1.2.2.2.2.2
            have a4' : PT T L2 th2 (Av T (l + 1)) c fr2 σ2 (sI τ2 26 (zI τ2 26 - 1)) := a4
            obtain ⟨σ3, τ3, τ4, c1, c2, c3, c4, c5, c6, c7⟩ := j_down (n := n) (nb := nb) (sz := sz) (mm := mm) (T := T) (l := l) (by omega) hT hT6 a4' hok hL0 (fun j j1 j2 => (q3 j j1 j2).2)
            rw [if_neg (show ¬ (1 : Int32) = 0 by decide), zb_s c1, if_pos b3, zb_s c2, zb_s c3, nI_dec (by omega), Nat.add_sub_cancel]
            have hAT : Av T (l + 1) (T - 1) = Av T l 1 := by
              rw [Av_s (by omega) (by omega), show T - 1 + 1 = T by omega]
              have : Av T l T = 0 := by
                cases l with
                | zero => exact if_neg (by omega)
                | succ l => exact Av_T
              omega
            have hrot : (cL L2 T).Perm (cL (rotL T L2) T) := by
              obtain ⟨m, hm⟩ : ∃ m, T = m + 1 := ⟨T - 1, by omega⟩
              have hrp := rot_perm (T := T) (L := L2) (m := m)
              rw [hm] at hrp ⊢
              refine List.Perm.trans ?_ hrp.symm
              show (cL L2 m ++ L2 (m + 1)).Perm _
              exact List.perm_append_comm
            refine ⟨_, _, l + 2, by omega, rfl, rfl, Or.inl ⟨l, rotL T L2, rotN T th2, rotN T c, _, σ3, τ4, rfl, rfl, rfl, by omega, ?_, c4, fun j j1 j2 => ?_, ⟨?_, ?_, if_pos rfl⟩, ?_, ?_, ?_, fun e9 => ?_⟩⟩
            · refine JS_perm (ps' := cL (rotL T L2) T) (JS_fp (τ := τ2) (I := []) (A := [14, 15]) (L := []) (I' := [26]) (A' := [19, 20, 22, 23]) (L' := []) a3 c6 c5 (zfr_t (zfr_I (by decide) zfr_r) c7 (by decide) (by decide) (by decide)) (by decide) (by decide) (by decide) (by decide) (by decide) (by decide)) ?_
              exact hrot
            · unfold rotN rotL
              by_cases z : j = 1
              · rw [if_pos z, if_pos z, z, b2, hAT]
                have := (q3 (T - 1) (by omega) (by omega)).2
                rw [hAT] at this
                exact ⟨rfl, this⟩
              · rw [if_neg z, if_neg z]
                have h1 := b1 (j - 1) (by omega) (by omega)
                have h2 : Av T (l + 1) (j - 1) = Av T l 1 + Av T l j := by
                  rw [Av_s (by omega) (by omega), show j - 1 + 1 = j by omega]
                have h3 := (q3 (j - 1) (by omega) (by omega)).2
                omega
            · show rotN T th2 T = 0
              unfold rotN
              rw [if_neg (by omega)]
              exact hth0
            · show rotL T L2 T = []
              unfold rotL
              rw [if_neg (by omega)]
              exact hL0
            · rw [c7.1 26 List.not_mem_nil]
              show zI τ2 26 - 1 = nI l
              rw [a5, q5, nI_pred]
            · exact (c7.1 17 List.not_mem_nil).trans b3
            · exact (c6.1 7 List.not_mem_nil).trans b4
            · have h9 := (aE e9).1
              rw [h9] at hrot
              exact ⟨(List.Perm.nil_eq hrot).symm, zfp_t (zfp_t (qE e9).2 (aE e9).2 (by decide) (by decide) (by decide)) c6 (by decide) (by decide) (by decide)⟩
          · have h17n : ¬ zI τ2 17 = 0 := by
              rcases b1 with ⟨z, -⟩ | ⟨z, -⟩
              · rw [z]; decide
              · rw [z]; decide
            rw [if_pos rfl, if_neg h17n]
            exact ⟨_, _, 1, by omega, rfl, rfl, Or.inr ⟨_, L2, th2, _, c, fr2, σ2, τ2, rfl, rfl, rfl, a3, a4, b1, bE⟩⟩
      · right
        have h17n : ¬ zI a' 17 = 0 := by
          rcases q3 with ⟨z, -⟩ | ⟨z, -⟩
          · rw [z]; decide
          · rw [z]; decide
        unfold fX9_poly_L47_47 fX10_poly_L60_60
        dsimp only
        rw [if_pos rfl, ite_self, if_neg h17n, ite_self]
        exact ⟨_, _, rfl, rfl, 0, σ1, L, th, wt, c, fr, rfl, q1, q2, (fun e9 => absurd e9 qn), Or.inr ⟨rfl, q3, qn⟩⟩)
    n (l0 + 2) (1, nI l0, σ) τ (by omega) (Or.inl ⟨l0, L0, th0, c0, fr0, σ, τ, rfl, rfl, rfl, hl0, hJ, h, hs0, hT0, h26, h17, h7, fun e9 => ⟨hE e9, zfp_r⟩⟩)
  obtain ⟨_, τ', l1, l2, rr, σ', L, th, wt, c, fr, rfl, k1, k2, k3, k4⟩ := hloop
  exact ⟨rr, σ', τ', L, th, wt, c, fr, l1, l2, k1, k2, k3, k4⟩
theorem s_poly {n nb sz mm : Nat} (hn : 110000 ≤ n) (hnb0 : 2 ≤ nb) (hnb : nb ≤ 200) (hs5 : 5 ≤ sz) (hsz : sz ≤ 64) : sim_poly n nb sz mm (zJ9 nb sz mm) := by
  intro jj σ τ o a1 hj9 hJ
  obtain ⟨cm, hcm, w, od, kn, inp, rs, fs, h⟩ := hJ
  have hoff := h.2.2.2.2.2.1
  by_cases c1 : 3 ≤ a1 ∧ a1 ≤ 6
  · have hin1 : fX10_isIn_0 n zσ0 a1 3 6 = some 1 := m_isIn_y c1.1 c1.2
    by_cases c4 : zI σ 7 = 0
    · obtain ⟨T, hT, hT6, rfl⟩ : ∃ T, 3 ≤ T ∧ T ≤ 6 ∧ a1 = nI T := by
        obtain ⟨k, hk, rfl⟩ : ∃ k, k < 7 ∧ a1 = nI k := i_of (by
          have := Int32.le_iff_toInt_le.mp c1.1
          rw [Int32.le_iff_toInt_le]
          have e1 : (3 : Int32).toInt = 3 := by decide
          have e2 : (0 : Int32).toInt = 0 := by decide
          omega) (by
          have := Int32.le_iff_toInt_le.mp c1.2
          rw [Int32.lt_iff_toInt_lt]
          have e1 : (6 : Int32).toInt = 6 := by decide
          have e2 : (nI 7).toInt = 7 := by decide
          omega) (by decide)
        exact ⟨k, (nI_leI (a := 3) (by decide) (by omega)).mp c1.1, by omega, rfl⟩
      obtain ⟨hjs, hsh⟩ := jj_js h
      have hmany := js_many hjs
      generalize fs.zip rs = ps0 at hjs hsh hmany
      have hok : zTok σ := hjs.1.1.2.2.2.2.2
      have hshτ : SH ps0 σ (sI (sI τ 0 0) 17 0) := hsh
      obtain ⟨σ1, τ1, lv, L, th, e1, e2, e3, e4, e5, e6, e7, e8, e9, e10, e11, e12, e13⟩ := j_lay (n := n) (nb := nb) (sz := sz) (mm := mm) (T := T) (ps := ps0) (σ := σ) (τ := sI (sI τ 0 0) 17 0) (by omega) hnb hT hT6 (by omega) hshτ hok
      have hok1 : zTok σ1 := by unfold zTok; rw [e11]; exact hok
      have hJ1 : JS cm nb sz mm w od kn inp (cL L T) σ1 τ1 := JS_perm (JS_fp (τ := sI (sI τ 0 0) 17 0) hjs e12 hok1 e13 (by decide) (by decide) (by decide) (by decide) (by decide) (by decide)) e4.symm
      obtain ⟨rr, σ2, τ2, L2, th2, wt2, c2, fr2, f1, f2, f3, f4, fE, f5'⟩ := j_levels (E := ps0 = []) (n := n) (nb := nb) (sz := sz) (mm := mm) (T := T) (l0 := lv + 1) hn hnb0 hnb hs5 hsz hT hT6 (by omega) hJ1 e3 e5 ⟨e6, e7, rfl⟩ e9 ((e13.1 17 (by decide)).trans rfl) ((e12.1 7 (by decide)).trans c4) (fun e => by rw [e] at e4; exact List.Perm.eq_nil e4)
      have f5 : (rr = 1 ∧ zI σ2 7 = 0 ∧ zI τ2 17 = 0) ∨ (rr = 0 ∧ ((zI τ2 17 = 1 ∧ zI σ2 7 = 1) ∨ (zI τ2 17 = 2 ∧ zI σ2 7 = 0))) := f5'.elim Or.inl (fun q => Or.inr ⟨q.1, q.2.1⟩)
      have hok2 : zTok σ2 := f3.1.1.2.2.2.2.2
      have hm2 := js_many f3
      obtain ⟨σ3, g1, g2, g3⟩ := c_collect (n := n) (nb := nb) (sz := sz) (mm := mm) (by omega) hnb hT6 f4 hok2 (by omega)
      obtain ⟨τ3, k1, k2, k3⟩ := m_gather (n := n) (by omega) hT6 f4 (by omega)
      have hJ3 : JS cm nb sz mm w od kn inp (cL L2 T) σ3 τ3 := JS_fr f3 g3 k3 (by decide) (by decide) (by decide) (by decide) (by decide) (by decide)
      have hsh3 : SH (cL L2 T) σ3 τ3 := SH_rl.mpr ⟨g2, k2⟩
      have hr3 : (rr = 1 ∧ zI σ3 7 = 0 ∧ zI τ3 17 = 0) ∨ (rr = 0 ∧ ((zI τ3 17 = 1 ∧ zI σ3 7 = 1) ∨ (zI τ3 17 = 2 ∧ zI σ3 7 = 0))) := by
        rw [g3.1 7 (by decide), k3.1 17 (by decide)]
        exact f5
      have hf0 : ∀ r1, zb (fX9_answerFor_0 n nb sz mm σ3 rr) (fun q7 => Sum.elim (fun E => some (Sum.inl E, σ3)) (fun q7 => some (Sum.inr q7, σ3)) q7) = some (r1, σ3) → fX9_poly_0 n nb sz mm σ (nI T) = some (r1, σ3) := fun r1 ha => by
        unfold fX9_poly_0 fX9_needPower_0
        rw [if_neg (i_nlt.mpr c1.1), if_pos c1.2, if_pos c4]
        show zb (fX8_lay_p33_0 n nb sz mm σ (nI T)) _ = _
        rw [zb_s e1, e8, zb_s f1]
        dsimp only
        rw [zb_s g1]
        exact ha
      by_cases cz : ps0 = []
      · -- no run at all: the reference is done at once
        have hcl : cL L2 T = [] := (fE cz).1
        have hrr : rr = 1 ∧ zI σ2 7 = 0 := by
          rcases f5' with ⟨z1, z2, -⟩ | ⟨-, -, z⟩
          · exact ⟨z1, z2⟩
          · exact absurd cz z
        obtain ⟨rfl, z7⟩ := hrr
        have hf := hf0 (.inr 0) (by
          unfold fX9_answerFor_0 fX9_answerFor_25 fX6_size_0
          rw [if_neg (show ¬ (1 : Int32) = 0 by decide), if_neg (show ¬ (1 : Int32) = 0 by decide), show zI (zrv (zI σ3 32) (zA σ3 16)) 0 = nI (cL L2 T).length from g2.1, hcl]
          rfl)
        have hm : fX10_poly_0 n τ (nI T) = some (0, sI τ 0 0) := by
          unfold fX10_poly_0 fX10_poly_27
          rw [zb_s hin1, if_neg (by decide), hoff.1, if_pos c4, if_neg (by decide), show zI τ 4 = nI ps0.length from hsh.2.2.1, cz, if_pos (show nI ([] : List zP).length = 0 from rfl)]
        have cf : zfp [29, 30, 31, 32] [10, 14, 15, 16] [] σ σ3 := zfp_t (zfp_t (zfp_t zfp_r e12 (by decide) (by decide) (by decide)) (fE cz).2 (by decide) (by decide) (by decide)) (zfp_of g3) (by decide) (by decide) (by decide)
        have hok3 : zTok σ3 := hJ3.1.1.2.2.2.2.2
        have hJ9 : JS cm nb sz mm w od kn inp ps0 σ3 (sI τ 0 0) := JS_fp (I' := [0]) (A' := []) (L' := []) hjs cf hok3 (zfr_I (by decide) zfr_r) (by decide) (by decide) (by decide) (by decide) (by decide) (by decide)
        have hs9 : SH ps0 σ3 (sI τ 0 0) := by
          refine SH_rl.mpr ⟨?_, (SH_rl.mp hsh).2⟩
          rw [cz, ← hcl]
          exact g2
        have h73 : zI σ3 7 = 0 := (g3.1 7 (by decide)).trans z7
        exact ⟨_, _, _, _, _, _, hf, rfl, hm, rfl, fun _ => o_at _ _, cm, by omega, w, od, kn, inp, _, _, js_jj hJ9 hs9 ⟨by rw [h73]; exact hoff.1.trans c4, Or.inl h73⟩⟩
      · obtain ⟨r1, k, o', rb, τ', x1, x2, x3, x4, x5, x6⟩ := j_fin (n := n) (o := o) hJ3 hsh3 hr3
        have hm : fX10_poly_0 n τ (nI T) = some (rb, τ') := by
          unfold fX10_poly_0 fX10_poly_27
          rw [zb_s hin1, if_neg (by decide), hoff.1, if_pos c4, if_neg (by decide), show zI τ 4 = nI ps0.length from hsh.2.2.1, if_neg (nI_ne0 (List.length_pos_iff.mpr cz) (by omega)), zb_s e2, show nI T - 1 = nI (T - 1) from by rw [show (1 : Int32) = nI 1 from rfl, nI_sub (by omega)], zb_s f2, zb_s k1, zb_s x3]
        exact ⟨_, _, _, _, _, _, hf0 r1 x1, x2, hm, x4, x5, cm, by omega, w, od, kn, inp, _, _, x6⟩
    · have hf : fX9_poly_0 n nb sz mm σ a1 = some (.inl "java/lang/IllegalStateException", σ) := by
        unfold fX9_poly_0 fX9_needPower_0
        rw [if_neg (i_nlt.mpr c1.1), if_pos c1.2, if_neg c4]
        rfl
      have hm : fX10_poly_0 n τ a1 = some (0, sI τ 0 2) := by
        unfold fX10_poly_0 fX10_poly_27
        rw [zb_s hin1, if_neg (by decide), hoff.1, if_neg c4, if_pos (by decide)]
      exact ⟨_, _, _, _, _, _, hf, rfl, hm, rfl, fun q => absurd q (by decide), cm, by omega, w, od, kn, inp, rs, fs, h⟩
  · have hf : fX9_poly_0 n nb sz mm σ a1 = some (.inl "java/lang/IllegalArgumentException", σ) := by
      unfold fX9_poly_0 fX9_poly_11
      by_cases q : a1 < 3
      · rw [if_pos q]
      · rw [if_neg q, if_neg (fun z => c1 ⟨i_nlt.mp q, z⟩)]
    have hm : fX10_poly_0 n τ a1 = some (0, sI τ 0 1) := by
      unfold fX10_poly_0 fX10_poly_27
      rw [zb_s (m_isIn_n c1), if_pos rfl, if_pos (by decide)]
    exact ⟨_, _, _, _, _, _, hf, rfl, hm, rfl, fun q => absurd q (by decide), cm, by omega, w, od, kn, inp, rs, fs, h⟩
