/-! feed, run -/
theorem c_setComing {n nb sz mm c : Nat} {σ : zS} {v : Int64} (hc : c < 4) : fX9_setComing_0 n nb sz mm σ (nI c) v = some (sL σ 3 (vp_updL (zL σ 3) c v)) := by
  unfold fX9_setComing_0
  rw [if_neg (nI_nn (by omega)), if_neg (fun q => by rw [nI_leI (by omega) (by omega)] at q; omega), zg_in hc (by decide), nI_clamp (by omega)]
theorem s_feed {n nb sz mm : Nat} (hn : 300 < n) (hnb : nb ≤ 200) (hs5 : 5 ≤ sz) (hsz : sz ≤ 64) : sim_feed n nb sz mm (zJ9 nb sz mm) := by
  intro jj σ τ o a1 a2 a3 a4 hj9 hJ
  obtain ⟨cm, hcm, w, od, kn, inp, rs, fs, h⟩ := hJ
  have hoff := h.2.2.2.2.2.1
  by_cases c4 : zI σ 7 = 0
  · let σ0 := sL (sL (sL (sL σ 3 (vp_updL (zL σ 3) 0 a1)) 3 (vp_updL (vp_updL (zL σ 3) 0 a1) 1 a2)) 3 (vp_updL (vp_updL (vp_updL (zL σ 3) 0 a1) 1 a2) 2 a3)) 3 (vp_updL (vp_updL (vp_updL (vp_updL (zL σ 3) 0 a1) 1 a2) 2 a3) 3 a4)
    let τ0 := sL (sL (sL (sL (sI τ 0 0) 4 (vp_updL (zL τ 4) (Int32.toNatClampNeg 0) a1)) 4 (vp_updL (vp_updL (zL τ 4) (Int32.toNatClampNeg 0) a1) (Int32.toNatClampNeg 1) a2)) 4 (vp_updL (vp_updL (vp_updL (zL τ 4) (Int32.toNatClampNeg 0) a1) (Int32.toNatClampNeg 1) a2) (Int32.toNatClampNeg 2) a3)) 4 (vp_updL (vp_updL (vp_updL (vp_updL (zL τ 4) (Int32.toNatClampNeg 0) a1) (Int32.toNatClampNeg 1) a2) (Int32.toNatClampNeg 2) a3) (Int32.toNatClampNeg 3) a4)
    have hJ0 : JJ cm nb sz mm w od kn inp rs fs σ0 τ0 := h
    have hrow : ∀ c, c < w → zL σ0 3 c = zL τ0 4 c := by
      intro c hc
      have hw4 := h.2.1.2.1
      show vp_updL (vp_updL (vp_updL (vp_updL (zL σ 3) 0 a1) 1 a2) 2 a3) 3 a4 c = vp_updL (vp_updL (vp_updL (vp_updL (zL τ 4) 0 a1) 1 a2) 2 a3) 3 a4 c
      simp only [updL_at]
      rcases (show c = 0 ∨ c = 1 ∨ c = 2 ∨ c = 3 by omega) with e | e | e | e <;> simp [e]
    obtain ⟨rc, σ', rm, τ', hc, hm, ht, hor⟩ := jj_come (n := n) (mm := mm) hn hnb hs5 hsz (show cm < 2 ^ 30 by omega) hrow c4 hJ0
    have hf0 : fX9_feed_0 n nb sz mm σ a1 a2 a3 a4 = if rc = -1 then zb (fX9_answerFor_0 n nb sz mm σ' 0) (fun q14 => Sum.elim (fun E => some (Sum.inl E, σ')) (fun q14 => some (Sum.inr q14, σ')) q14) else some (Sum.inr rc, σ') := by
      unfold fX9_feed_0 fX9_needPower_0
      rw [if_pos c4]
      refine (zb_s (a := Sum.inr ()) rfl).trans ?_
      dsimp only [Sum.elim]
      refine (zb_s (c_setComing (c := 0) (by decide))).trans ?_
      refine (zb_s (c_setComing (c := 1) (by decide))).trans ?_
      refine (zb_s (c_setComing (c := 2) (by decide))).trans ?_
      refine (zb_s (c_setComing (c := 3) (by decide))).trans ?_
      exact zb_s hc
    have hm0 : fX10_feed_0 n τ a1 a2 a3 a4 = if zI τ' 17 = 2 then fX10_feed_75 n τ' rm 2 else fX10_feed_75 n τ' rm 0 := by
      unfold fX10_feed_0 fX10_feed_13
      rw [hoff.1, if_pos c4, if_pos (by decide), zg_t (by decide), zg_t (by decide), zg_t (by decide), zg_t (by decide)]
      exact zb_s hm
    rcases hor with ⟨e1, e2, e3, e4, e5, od', inp', hJ1⟩ | ⟨e1, e2, hJ1, e3⟩
    · have hf : fX9_feed_0 n nb sz mm σ a1 a2 a3 a4 = some (Sum.inr (nI cm), σ') := by
        rw [hf0, e1, if_neg (nI_m1 (by omega))]
      have hm1 : fX10_feed_0 n τ a1 a2 a3 a4 = some (nI cm, sI τ' 0 0) := by
        rw [hm0, e3, if_neg (by decide)]
        unfold fX10_feed_75
        rw [e2, if_neg (by decide), e5, nI_pred]
      exact ⟨_, _, _, _, _, _, hf, rfl, hm1, rfl, fun _ => o_at _ _, cm + 1, by omega, w, od', kn, inp', rs, fs, hJ1⟩
    · rcases e3 with ⟨e3, e4⟩ | ⟨e3, e4⟩
      · have hf : fX9_feed_0 n nb sz mm σ a1 a2 a3 a4 = some (Sum.inr (-2), σ') := by
          rw [hf0, e1, if_pos rfl]
          unfold fX9_answerFor_0 fX9_answerFor_25
          rw [if_pos rfl, e4, if_neg (by decide), if_pos rfl]
          rfl
        have hm1 : fX10_feed_0 n τ a1 a2 a3 a4 = some (-2, sI τ' 0 0) := by
          rw [hm0, e3, if_neg (by decide)]
          unfold fX10_feed_75
          rw [e2, if_pos rfl]
        exact ⟨_, _, _, _, _, _, hf, rfl, hm1, rfl, fun _ => o_at _ _, cm, by omega, w, od, kn, inp, rs, fs, hJ1⟩
      · have hf : fX9_feed_0 n nb sz mm σ a1 a2 a3 a4 = some (Sum.inl "java/lang/UnsupportedOperationException", σ') := by
          rw [hf0, e1, if_pos rfl]
          unfold fX9_answerFor_0
          rw [if_pos rfl, e4, if_pos rfl]
          rfl
        have hm1 : fX10_feed_0 n τ a1 a2 a3 a4 = some (-2, sI τ' 0 2) := by
          rw [hm0, e3, if_pos rfl]
          unfold fX10_feed_75
          rw [e2, if_pos rfl]
        exact ⟨_, _, _, _, _, _, hf, rfl, hm1, rfl, fun q => absurd q (by decide), cm, by omega, w, od, kn, inp, rs, fs, hJ1⟩
  · have hf : fX9_feed_0 n nb sz mm σ a1 a2 a3 a4 = some (.inl "java/lang/IllegalStateException", σ) := by
      unfold fX9_feed_0 fX9_needPower_0
      rw [if_neg c4]
      rfl
    have hm : fX10_feed_0 n τ a1 a2 a3 a4 = some (0, sI τ 0 1) := by
      unfold fX10_feed_0 fX10_feed_13
      rw [hoff.1, if_neg c4, if_neg (by decide)]
    exact ⟨_, _, _, _, _, _, hf, rfl, hm, rfl, fun q => absurd q (by decide), cm, by omega, w, od, kn, inp, rs, fs, h⟩
/-! run: the columns of one record -/
theorem j_runL {n nb sz mm w : Nat} {σ τ : zS} {k3 k4 k7 k7' : Int32} {x : Int64} (hn : 300 < n) (hw4 : w ≤ 4) (h9 : zI σ 9 = nI w) (h6 : zI τ 6 = nI w) (h3 : ¬ k3.toInt64 = 0) :
    ∃ x' f g, zlp (fX9_run_L54_54 n nb sz mm k3 k4 k7) n (x, 0, σ) = some (x', sL σ 3 f) ∧ zlp (fX10_run_L75_75 n k3 k4 k7') n (x, 0, τ) = some (x', sL τ 4 g) ∧ ∀ c, c < w → f c = g c := by
  have hloop := zlp_two (body := fX9_run_L54_54 n nb sz mm k3 k4 k7) (body' := fX10_run_L75_75 n k3 k4 k7')
    (fun m a a' => ∃ c x f g, a = (x, nI c, sL σ 3 f) ∧ a' = (x, nI c, sL τ 4 g) ∧ c ≤ w ∧ m = w - c ∧ ∀ d, d < c → f d = g d)
    (fun b b' => ∃ x f g, b = (x, sL σ 3 f) ∧ b' = (x, sL τ 4 g) ∧ ∀ d, d < w → f d = g d)
    (fun m a a' hP => by
      obtain ⟨c, x, f, g, rfl, rfl, hc, rfl, hfg⟩ := hP
      unfold fX9_run_L54_54 fX10_run_L75_75
      dsimp only
      rw [show zI (sL σ 3 f) 9 = nI w from h9, show zI (sL τ 4 g) 6 = nI w from h6]
      by_cases e : c = w
      · right
        rw [if_pos (nI_le (by omega) (by omega)), if_pos (nI_le (by omega) (by omega))]
        exact ⟨_, _, rfl, rfl, x, f, g, rfl, rfl, fun d hd => hfg d (by omega)⟩
      · left
        rw [if_neg (fun q => by rw [nI_leI (by omega) (by omega)] at q; omega), if_neg (fun q => by rw [nI_leI (by omega) (by omega)] at q; omega), zg_t (show znzL k3.toInt64 = true from decide_eq_true h3), zg_t (show znzL k3.toInt64 = true from decide_eq_true h3), zb_s (c_setComing (by omega)), zg_in (by omega) (by decide), nI_clamp (by omega), sL_sL, sL_sL, zL_sL, if_pos rfl, zL_sL, if_pos rfl, nI_1]
        refine ⟨_, _, w - (c + 1), by omega, rfl, rfl, c + 1, _, _, _, rfl, rfl, by omega, rfl, fun d hd => ?_⟩
        rw [updL_at, updL_at]
        by_cases q : d = c
        · rw [if_pos q, if_pos q]
        · rw [if_neg q, if_neg q]
          exact hfg d (by omega))
    n w (x, 0, σ) (x, 0, τ) (by omega) ⟨0, x, zL σ 3, zL τ 4, by rw [sL_id]; rfl, by rw [sL_id]; rfl, Nat.zero_le _, rfl, fun d hd => absurd hd (by omega)⟩
  obtain ⟨_, _, h1, h2, x', f, g, rfl, rfl, h3⟩ := hloop
  exact ⟨x', f, g, h1, h2, h3⟩
theorem s_run {n nb sz mm : Nat} (hn : 400 < n) (hnb : nb ≤ 200) (hs5 : 5 ≤ sz) (hsz : sz ≤ 64) : sim_run n nb sz mm (zJ9 nb sz mm) := by
  intro jj σ τ o a1 a2 a3 hj9 hJ
  obtain ⟨cm, hcm, w, od, kn, inp, rs, fs, h⟩ := hJ
  have hoff := h.2.2.2.2.2.1
  by_cases c1 : (1 ≤ a2 ∧ a2 ≤ 1000000000) ∧ (0 ≤ a3 ∧ a3 ≤ 300)
  · have hm0 : fX10_run_0 n τ a1 a2 a3 = if zI τ 16 = 0 then fX10_run_39 n τ a1 a2 a3 0 else fX10_run_39 n τ a1 a2 a3 2 := by
      unfold fX10_run_0
      rw [zb_s (m_isIn_y c1.1.1 c1.1.2), if_neg (by decide), zb_s (m_isIn_y c1.2.1 c1.2.2), if_neg (by decide)]
    have hf0 : fX9_run_0 n nb sz mm σ a1 a2 a3 = zb (fX9_needPower_0 n nb sz mm σ) (fun q5 => Sum.elim (fun E => (some ((.inl E), σ))) (fun q5 => (zb (zlp (fX9_run_L44_44 n nb sz mm a2 a3) n (a1, 0, σ)) (fun b17 => Sum.elim (fun b17 => (some ((.inr a3), b17))) (fun b17 => (some ((.inr b17.1), b17.2))) b17))) q5) := by
      unfold fX9_run_0
      rw [if_neg (i_nlt.mpr c1.1.1), if_neg (i_nlt.mpr c1.1.2), if_neg (i_nlt.mpr c1.2.1), if_pos c1.2.2]
    by_cases c4 : zI σ 7 = 0
    · obtain ⟨k, hk, rfl⟩ : ∃ k, k < 301 ∧ a3 = nI k := i_of c1.2.1 (by
        have := c1.2.2
        rw [Int32.le_iff_toInt_le] at this
        rw [Int32.lt_iff_toInt_lt]
        have e1 : (300 : Int32).toInt = 300 := by decide
        have e2 : (nI 301).toInt = 301 := by decide
        omega) (by decide)
      have h3 : ¬ a2.toInt64 = 0 := fun q => by
        have q1 := congrArg Int64.toInt q
        rw [Int32.toInt_toInt64] at q1
        have q2 := Int32.le_iff_toInt_le.mp c1.1.1
        rw [show (1 : Int32).toInt = 1 by decide] at q2
        have q3 : (0 : Int64).toInt = 0 := by decide
        omega
      have hone : ∀ (i : Nat) (x : Int64) (σ1 τ1 : zS) (od1 : Nat) (inp1 : List Nat), i < k → zI τ1 0 = 0 → zI σ1 7 = 0 → JJ (cm + i) nb sz mm w od1 kn inp1 rs fs σ1 τ1 → ∃ x' rc σ' rm τ', fX9_run_L44_44 n nb sz mm a2 (nI k) (x, nI i, σ1) = (if rc = -1 then some (.inr (.inr (nI i, σ'))) else some (.inl (x', nI i + 1, σ'))) ∧ fX10_run_L60_60 n a2 (nI k) (x, nI i, 1, τ1) = (if rm = 0 then some (.inl (x', nI i, rm, τ')) else some (.inl (x', nI i + 1, rm, τ'))) ∧ zI τ' 0 = 0 ∧ ((rc = nI (cm + i) ∧ rm = 1 ∧ zI σ' 7 = 0 ∧ ∃ od' inp', JJ (cm + i + 1) nb sz mm w od' kn inp' rs fs σ' τ') ∨ (rc = -1 ∧ rm = 0 ∧ JJ (cm + i) nb sz mm w od1 kn inp1 rs fs σ' τ')) := by
        intro i x σ1 τ1 od1 inp1 hi h0 h7 hJ1
        obtain ⟨x', f, g, r1, r2, r3⟩ := j_runL (n := n) (nb := nb) (sz := sz) (mm := mm) (k3 := a2) (k4 := nI k) (k7 := nI i) (k7' := nI i) (x := x) (by omega) hJ1.2.1.2.1 hJ1.2.1.2.2.2.1 hJ1.2.1.2.2.1 h3
        obtain ⟨rc, σ', rm, τ', hc, hm, ht, hor⟩ := jj_come (n := n) (mm := mm) (cm := cm + i) (σ := sL σ1 3 f) (τ := sL τ1 4 g) (by omega) hnb hs5 hsz (show cm + i < 2 ^ 30 by omega) r3 h7 hJ1
        refine ⟨x', rc, σ', rm, τ', ?_, ?_, ht.trans h0, ?_⟩
        · unfold fX9_run_L44_44
          dsimp only
          rw [if_neg (fun q => by rw [nI_leI (by omega) (by omega)] at q; omega), zb_s r1]
          exact zb_s hc
        · unfold fX10_run_L60_60 fX10_run_L60_137
          dsimp only
          rw [if_neg (fun q => by rw [nI_leI (by omega) (by omega)] at q; omega), if_neg (by decide), zb_s r2]
          exact zb_s hm
        · rcases hor with ⟨e1, e2, e3, e4, e5, e6⟩ | ⟨e1, e2, e3, e4⟩
          · exact Or.inl ⟨e1, e2, e4, e6⟩
          · exact Or.inr ⟨e1, e2, e3⟩
      have hlp : ∀ (m n1 n2 i : Nat) (x : Int64) (σ1 τ1 : zS) (od1 : Nat) (inp1 : List Nat), i + m = k → m + 2 < n1 → m + 2 < n2 → zI τ1 0 = 0 → zI σ1 7 = 0 → JJ (cm + i) nb sz mm w od1 kn inp1 rs fs σ1 τ1 → ∃ b b', zlp (fX9_run_L44_44 n nb sz mm a2 (nI k)) n1 (x, nI i, σ1) = some b ∧ zlp (fX10_run_L60_60 n a2 (nI k)) n2 (x, nI i, 1, τ1) = some b' ∧ ∃ i' σ2 τ2 od2 inp2, ((b = .inl σ2 ∧ i' = k) ∨ b = .inr (nI i', σ2)) ∧ b' = (nI i', τ2) ∧ i' ≤ k ∧ zI τ2 0 = 0 ∧ JJ (cm + i') nb sz mm w od2 kn inp2 rs fs σ2 τ2 := by
        intro m
        induction m with
        | zero =>
          intro n1 n2 i x σ1 τ1 od1 inp1 hi h1 h2 h0 h7 hJ1
          obtain ⟨n1, rfl⟩ : ∃ n', n1 = n' + 1 := ⟨n1 - 1, by omega⟩
          obtain ⟨n2, rfl⟩ : ∃ n', n2 = n' + 1 := ⟨n2 - 1, by omega⟩
          have e1 : fX9_run_L44_44 n nb sz mm a2 (nI k) (x, nI i, σ1) = some (.inr (.inl σ1)) := by
            unfold fX9_run_L44_44
            exact if_pos (nI_le (by omega) (by omega))
          have e2 : fX10_run_L60_60 n a2 (nI k) (x, nI i, 1, τ1) = some (.inr (nI i, τ1)) := by
            unfold fX10_run_L60_60
            exact if_pos (nI_le (by omega) (by omega))
          unfold zlp
          rw [e1, e2]
          exact ⟨_, _, rfl, rfl, i, σ1, τ1, od1, inp1, Or.inl ⟨rfl, by omega⟩, rfl, by omega, h0, hJ1⟩
        | succ m ih =>
          intro n1 n2 i x σ1 τ1 od1 inp1 hi h1 h2 h0 h7 hJ1
          obtain ⟨n1, rfl⟩ : ∃ n', n1 = n' + 1 := ⟨n1 - 1, by omega⟩
          obtain ⟨n2, rfl⟩ : ∃ n', n2 = n' + 2 := ⟨n2 - 2, by omega⟩
          obtain ⟨x', rc, σ', rm, τ', r1, r2, r3, hor⟩ := hone i x σ1 τ1 od1 inp1 (by omega) h0 h7 hJ1
          rw [show n2 + 2 = (n2 + 1) + 1 from rfl]
          rcases hor with ⟨e1, e2, e3, od', inp', e4⟩ | ⟨e1, e2, e3⟩
          · rw [e1, if_neg (nI_m1 (by omega)), nI_1] at r1
            rw [e2, if_neg (by decide), nI_1] at r2
            unfold zlp
            rw [r1, r2]
            exact ih n1 (n2 + 1) (i + 1) x' σ' τ' od' inp' (by omega) (by omega) (by omega) r3 e3 e4
          · rw [e1, if_pos rfl] at r1
            rw [e2, if_pos rfl] at r2
            have e5 : fX10_run_L60_60 n a2 (nI k) (x', nI i, 0, τ') = some (.inr (nI i, τ')) := by
              unfold fX10_run_L60_60
              by_cases q : nI k ≤ nI i
              · exact if_pos q
              · exact (if_neg q).trans (if_pos rfl)
            unfold zlp
            rw [r1, r2]
            dsimp only
            unfold zlp
            rw [e5]
            exact ⟨_, _, rfl, rfl, i, σ', τ', od1, inp1, Or.inr rfl, rfl, by omega, r3, e3⟩
      obtain ⟨b, b', hl1, hl2, i', σ2, τ2, od2, inp2, hb, rfl, hi', hz, hJ2⟩ := hlp k n n 0 a1 σ (sI τ 0 0) od inp (by omega) (by omega) (by omega) rfl c4 h
      have hf : fX9_run_0 n nb sz mm σ a1 a2 (nI k) = some (.inr (nI i'), σ2) := by
        rw [hf0]
        unfold fX9_needPower_0
        rw [if_pos c4]
        show zb (zlp (fX9_run_L44_44 n nb sz mm a2 (nI k)) n (a1, 0, σ)) _ = _
        rw [show (0 : Int32) = nI 0 from rfl, zb_s hl1]
        rcases hb with ⟨rfl, rfl⟩ | rfl
        · rfl
        · rfl
      have hm : fX10_run_0 n τ a1 a2 (nI k) = some (nI i', τ2) := by
        rw [hm0, hoff.1, if_pos c4]
        unfold fX10_run_39
        rw [if_pos (by decide)]
        exact zb_s hl2
      exact ⟨_, _, _, _, _, _, hf, rfl, hm, congrArg some hz, fun _ => o_at _ _, cm + i', by omega, w, od2, kn, inp2, rs, fs, hJ2⟩
    · have hf : fX9_run_0 n nb sz mm σ a1 a2 a3 = some (.inl "java/lang/IllegalStateException", σ) := by
        rw [hf0]
        unfold fX9_needPower_0
        rw [if_neg c4]
        rfl
      have hm : fX10_run_0 n τ a1 a2 a3 = some (0, sI τ 0 2) := by
        rw [hm0, hoff.1, if_neg c4]
        unfold fX10_run_39
        rw [if_neg (by decide)]
      exact ⟨_, _, _, _, _, _, hf, rfl, hm, rfl, fun q => absurd q (by decide), cm, by omega, w, od, kn, inp, rs, fs, h⟩
  · have hf : fX9_run_0 n nb sz mm σ a1 a2 a3 = some (.inl "java/lang/IllegalArgumentException", σ) := by
      unfold fX9_run_0 fX9_run_24
      by_cases q1 : a2 < 1
      · rw [if_pos q1]
      · rw [if_neg q1]
        by_cases q2 : 1000000000 < a2
        · rw [if_pos q2]
        · rw [if_neg q2]
          by_cases q3 : a3 < 0
          · rw [if_pos q3]
          · rw [if_neg q3, if_neg (fun q4 => c1 ⟨⟨i_nlt.mp q1, i_nlt.mp q2⟩, i_nlt.mp q3, q4⟩)]
    have hm : fX10_run_0 n τ a1 a2 a3 = some (0, sI τ 0 1) := by
      unfold fX10_run_0 fX10_run_23 fX10_run_39
      by_cases q1 : 1 ≤ a2 ∧ a2 ≤ 1000000000
      · rw [zb_s (m_isIn_y q1.1 q1.2), if_neg (by decide), zb_s (m_isIn_n (fun q => c1 ⟨q1, q⟩)), if_pos rfl, if_neg (by decide)]
      · rw [zb_s (m_isIn_n q1), if_pos rfl, if_neg (by decide)]
    exact ⟨_, _, _, _, _, _, hf, rfl, hm, rfl, fun q => absurd q (by decide), cm, by omega, w, od, kn, inp, rs, fs, h⟩
