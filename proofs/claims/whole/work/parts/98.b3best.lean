/-- one merge of the fewest -/
theorem j_chosen {n nb sz mm cm w od kn t : Nat} {inp : List Nat} {ps : List (Nat × List Nat × Nat)} {σ τ : zS} {k1 k5 : Int32} (hn : 110000 ≤ n) (hnb0 : 2 ≤ nb) (hnb : nb ≤ 200) (hs5 : 5 ≤ sz) (hsz : sz ≤ 64) (hJ : JS cm nb sz mm w od kn inp ps σ τ) (hs : SH ps σ τ) (ht1 : 2 ≤ t) (ht : t ≤ ps.length) (ht8 : t ≤ 8) :
    ∃ σ0 rc σ' τ', fX9_chooseFewest_0 n nb sz mm σ (nI t) = some σ0 ∧ fX4_merge_0 n nb sz mm σ0 (zI σ0 0) = some (rc, σ') ∧ fX10_mergeChosen_0 n τ (nI t) = some τ' ∧
    ((∃ ps' σ2 s, ¬ rc = -1 ∧ ps'.length = ps.length - (t - 1) ∧ zI σ' 32 = nI ps.length ∧ zlp (fX9_mergeFewest_L101_101 n nb sz mm k1 k5 rc) n (nI (ps.length - 1), σ') = some σ2 ∧ fX6_add_0 n nb (zrv (zI σ2 32) (zA σ2 16)) rc = some s ∧ JS cm nb sz mm w od kn inp ps' (sA (sI σ2 32 (zI s 0)) 16 (zA s 0)) τ' ∧ SH ps' (sA (sI σ2 32 (zI s 0)) 16 (zA s 0)) τ' ∧ zI τ' 17 = 0 ∧ zI (sA (sI σ2 32 (zI s 0)) 16 (zA s 0)) 7 = zI σ 7) ∨ (rc = -1 ∧ JS cm nb sz mm w od kn inp ps σ' τ' ∧ SH ps σ' τ' ∧ ((zI τ' 17 = 1 ∧ zI σ' 7 = 1) ∨ (zI τ' 17 = 2 ∧ zI σ' 7 = zI σ 7)))) := by
  obtain ⟨hrc, hrm⟩ := SH_rl.mp hs
  have hmany := js_many hJ
  have hC : ∀ p ∈ ps, p.2.1.headD 0 < nb ∧ zA σ 4 (p.2.1.headD 0) = nI p.2.2 ∧ p.1 < 208 ∧ zA τ 5 p.1 = nI p.2.2 := fun p hp => by
    have hm : p.2 ∈ ps.map (fun p => p.2) := List.mem_map.mpr ⟨p, hp, rfl⟩
    exact ⟨(hJ.2.2.2.2.2.2.2.1.2.1 _ (List.mem_append_right _ (j_len hJ.2.2.2.2.2.2.2.1 p.2 hm))).1, (hJ.2.2.2.2.2.1 p hp).2, (hJ.2.2.2.2.2.2.1.2.1 p hp).2, (hJ.2.2.2.2.2.2.1.2.2.2.1 p hp).2.2.1⟩
  obtain ⟨σ0, τ0, a1, a2, a3, a4, a5, a6, a7⟩ := j_choose (n := n) (nb := nb) (sz := sz) (mm := mm) (t := t) (by omega) hnb (by omega) hs hC ht ht8
  generalize hF : zA σ0 17 = F at a3 a4 a5
  have hJ0 : JS cm nb sz mm w od kn inp ps σ0 τ0 := JS_fr hJ a6 a7 (by decide) (by decide) (by decide) (by decide) (by decide) (by decide)
  have hrm0 : rwL flP ps (zI τ0 4) (zA τ0 7) := by
    rw [a7.1 4 (by decide), a7.2.1 7 (by decide)]
    exact hrm
  obtain ⟨τ1, b1, b2, b3⟩ := m_chgather (n := n) (k1 := nI t) (F := F) (by omega) (by omega) hrm0 (fun j hj => (a3 j hj).symm) (by omega)
  have hJ1 : JS cm nb sz mm w od kn inp ps σ0 τ1 := JS_fr hJ0 (zfr_r (I := []) (A := []) (L := [])) b3 (by decide) (by decide) (by decide) (by decide) (by decide) (by decide)
  have hsl : (selN F ps ps.length).length = t := by rw [selN_len (Nat.le_refl _), a4]
  have hperm : ps.Perm (selN F ps ps.length ++ unsN F ps ps.length) := by
    have := sel_perm (F := F) (ps := ps) (Nat.le_refl ps.length)
    rw [List.take_length] at this
    exact this
  obtain ⟨rc, σ', rm, τ2, c1, c2, c3, c4, c5⟩ := j_merge (gs := selN F ps ps.length) (rest := unsN F ps ps.length) hn hnb0 hnb hs5 hsz hJ1 hperm (by omega) (by omega) a5.1 a5.2 b2
  rw [hsl] at c2
  have r16 : rwL hdP ps (zI σ' 32) (zA σ' 16) := by
    rw [c4.1 32 (by decide), c4.2.1 16 (by decide), a6.1 32 (by decide), a6.2.1 16 (by decide)]
    exact hrc
  have r7 : rwL flP ps (zI τ2 4) (zA τ2 7) := by
    rw [c5.1 4 (by decide), c5.2.1 7 (by decide), b3.1 4 (by decide), b3.2.1 7 (by decide)]
    exact hrm0
  have h7 : zI σ0 7 = zI σ 7 := a6.1 7 (by decide)
  rcases c3 with ⟨p, rfl, rfl, d1, d2, d3⟩ | ⟨rfl, rfl, d1, d2⟩
  · have hpm : p ∈ p :: unsN F ps ps.length := List.mem_cons_self
    have hp208 := (d1.2.2.2.2.2.2.1.2.1 p hpm).2
    have hpm2 : p.2 ∈ (p :: unsN F ps ps.length).map (fun p => p.2) := List.mem_map.mpr ⟨p, hpm, rfl⟩
    have hphd : p.2.1.headD 0 < nb := (d1.2.2.2.2.2.2.2.1.2.1 _ (List.mem_append_right _ (j_len d1.2.2.2.2.2.2.2.1 p.2 hpm2))).1
    obtain ⟨σ2, e1, e2, e3⟩ := c_chrest (n := n) (nb := nb) (sz := sz) (mm := mm) (k1 := k1) (k5 := k5) (k6 := nI (p.2.1.headD 0)) (F := F) (by omega) hnb (by omega) (by omega) r16 ((c4.2.1 17 (by decide)).trans hF)
    obtain ⟨τ3, f1, f2, f3⟩ := m_chrest (n := n) (k3 := nI p.1) (F := F) (by omega) (by omega) r7 (fun j hj => by rw [c5.2.1 17 (by decide), b3.2.1 17 (by decide)]; exact (a3 j hj).symm)
    have hul := unsN_len (F := F) (ps := ps) (Nat.le_refl _)
    rw [a4] at hul
    obtain ⟨s, s1, s2⟩ := rl_add (n := n) (ln := nb) (x := p) e2 (by omega) hnb
    have hmE : fX10_mergeChosen_0 n τ (nI t) = some (sI (sA τ3 7 (upd (zA τ3 7) (unsN F ps ps.length).length (nI p.1))) 4 (nI ((unsN F ps ps.length).length + 1))) := by
      unfold fX10_mergeChosen_0
      rw [zb_s a2, zb_s b1, zb_s c2]
      dsimp only
      rw [if_neg (nI_m1 (by omega)), zb_s f1]
      dsimp only
      rw [zg_in (by omega) (by decide), nI_clamp (by omega), nI_1]
    refine ⟨σ0, _, σ', _, a1, c1, hmE, Or.inl ⟨unsN F ps ps.length ++ [p], σ2, s, nI_m1 (by omega), ?_, r16.1, e1, s1, ?_, SH_rl.mpr ⟨s2, ?_, fun j x hj => ?_⟩, ?_, ?_⟩⟩
    · rw [List.length_append]
      show _ + 1 = _
      omega
    · refine JS_perm (JS_fr (σ' := sA (sI σ2 32 (zI s 0)) 16 (zA s 0)) (I := [32]) (A := [16]) (L := []) (I' := [4]) (A' := [7]) (L' := []) d1 (zfr_A (by decide) (zfr_I (by decide) e3)) (zfr_I (by decide) (zfr_A (by decide) (zfr_w f3 (by decide) (by decide) (by decide)))) (by decide) (by decide) (by decide) (by decide) (by decide) (by decide)) ?_
      exact (List.perm_append_comm (l₁ := [p]) (l₂ := unsN F ps ps.length))
    · show nI ((unsN F ps ps.length).length + 1) = _
      rw [List.length_append]
      rfl
    · show upd (zA τ3 7) (unsN F ps ps.length).length (nI p.1) j = _
      rw [upd_at]
      rcases Nat.lt_or_ge j (unsN F ps ps.length).length with q | q
      · rw [List.getElem?_append_left q] at hj
        rw [if_neg (by omega)]
        exact f2 j x hj
      · have h3 := (List.getElem?_eq_some_iff.mp hj).1
        rw [List.length_append] at h3
        have h4 : j = (unsN F ps ps.length).length := by
          simp only [List.length_cons, List.length_nil] at h3
          omega
        rw [h4, List.getElem?_append_right (Nat.le_refl _), Nat.sub_self] at hj
        rw [if_pos h4]
        cases hj
        rfl
    · exact (f3.1 17 (by decide)).trans d2
    · exact (e3.1 7 (by decide)).trans (d3.trans h7)
  · refine ⟨σ0, _, σ', τ2, a1, c1, ?_, Or.inr ⟨rfl, d1, SH_rl.mpr ⟨r16, r7⟩, ?_⟩⟩
    · unfold fX10_mergeChosen_0
      rw [zb_s a2, zb_s b1, zb_s c2]
      dsimp only
      rw [if_pos rfl]
    · rw [h7] at d2
      exact d2
theorem s_best {n nb sz mm : Nat} (hn : 110000 ≤ n) (hnb0 : 2 ≤ nb) (hnb : nb ≤ 200) (hs5 : 5 ≤ sz) (hsz : sz ≤ 64) : sim_best n nb sz mm (zJ9 nb sz mm) := by
  intro jj σ τ o a1 hj9 hJ
  obtain ⟨cm, hcm, w, od, kn, inp, rs, fs, h⟩ := hJ
  have hoff := h.2.2.2.2.2.1
  by_cases c1 : 2 ≤ a1 ∧ a1 ≤ 8
  · have hneed : fX9_needFan_0 n nb sz mm σ a1 = some (.inr ()) := by
      unfold fX9_needFan_0
      rw [if_neg (i_nlt.mpr c1.1), if_pos c1.2]
    have hin1 : fX10_isIn_0 n zσ0 a1 2 8 = some 1 := m_isIn_y c1.1 c1.2
    by_cases c4 : zI σ 7 = 0
    · obtain ⟨fan, hf2, hf8, rfl⟩ := fan_of c1
      obtain ⟨hjs, hsh⟩ := jj_js h
      have hmany := js_many hjs
      generalize fs.zip rs = ps0 at hjs hsh hmany
      -- how many are taken first
      have hloop : ∀ t, ((ps0.length ≤ 1) ∨ (2 ≤ t ∧ t ≤ ps0.length ∧ t ≤ fan ∧ ∃ q, ps0.length - (t - 1) = 1 + q * (fan - 1))) → _ := fun t ht => zlp_sk (body := fX9_mergeFewest_L38_38 n nb sz mm (nI fan)) (body' := fX10_best_L69_69 n (nI fan))
        (fun m a a' => ∃ t r ps σ1 τ1, a = (nI t, nI r, σ1) ∧ a' = (nI t, τ1) ∧ m = ps.length ∧ ps.length ≤ r ∧ r ≤ 200 ∧ ((ps.length ≤ 1) ∨ (2 ≤ t ∧ t ≤ ps.length ∧ t ≤ fan ∧ ∃ q, ps.length - (t - 1) = 1 + q * (fan - 1))) ∧ JS cm nb sz mm w od kn inp ps σ1 τ1 ∧ SH ps σ1 τ1 ∧ zI σ1 7 = 0 ∧ zI τ1 17 = 0)
        (fun b b' => ∃ ps σ1 τ1 r, ((b = .inl σ1 ∧ r = (1 : Int32)) ∨ (b = .inr σ1 ∧ r = 0)) ∧ b' = τ1 ∧ JS cm nb sz mm w od kn inp ps σ1 τ1 ∧ SH ps σ1 τ1 ∧ ((r = 1 ∧ zI σ1 7 = 0 ∧ zI τ1 17 = 0) ∨ (r = 0 ∧ ((zI τ1 17 = 1 ∧ zI σ1 7 = 1) ∨ (zI τ1 17 = 2 ∧ zI σ1 7 = 0)))))
        (fun m a a' hP => by
          obtain ⟨t, r, ps, σ1, τ1, rfl, rfl, rfl, hr1, hr2, hor, q1, q2, q3, q4⟩ := hP
          have hmany := js_many q1
          unfold fX9_mergeFewest_L38_38 fX10_best_L69_69 fX6_size_0
          dsimp only
          rw [zb_s (show some (zI (zrv (zI σ1 32) (zA σ1 16)) 0) = some (nI ps.length) from congrArg some q2.1), show zI τ1 4 = nI ps.length from q2.2.2.1]
          by_cases e : ps.length ≤ 1
          · right; left
            rw [if_pos (show nI ps.length ≤ 1 from nI_le (b := 1) e (by decide)), if_pos (show nI ps.length ≤ 1 from nI_le (b := 1) e (by decide)), ite_self]
            exact ⟨_, _, rfl, rfl, ps, σ1, τ1, 1, Or.inl ⟨rfl, rfl⟩, rfl, q1, q2, Or.inl ⟨rfl, q3, q4⟩⟩
          · obtain ⟨t1, t2, t3, q, hq⟩ := hor.resolve_left e
            have h1 : ∀ x, 1 < x → x < 2 ^ 31 → ¬ nI x ≤ 1 := fun x hx hx2 z => by rw [show (1 : Int32) = nI 1 from rfl, nI_leI hx2 (by omega)] at z; omega
            rw [if_neg (h1 r (by omega) (by omega)), if_neg (h1 ps.length (by omega) (by omega)), if_neg (h1 ps.length (by omega) (by omega)), if_pos q4]
            obtain ⟨σ0, rc, σ', τ', g1, g2, g3, g6⟩ := j_chosen (n := n) (k1 := nI fan) (k5 := nI r) (t := t) hn hnb0 hnb hs5 hsz q1 q2 t1 t2 (by omega)
            rw [zb_s g1, zb_s g2, zb_s g3]
            dsimp only
            rcases g6 with ⟨ps', σ2, s, u1, u2, u3, u4, u5, u6, u7, u8, u9⟩ | ⟨rfl, u2, u3, u4⟩
            · left
              rw [if_neg u1, zb_s (show some (zI (zrv (zI σ' 32) (zA σ' 16)) 0) = some (nI ps.length) from congrArg some u3), if_neg (show ¬ nI nb < nI ps.length from fun q => by rw [nI_ltI (by omega) (by omega)] at q; omega), show nI ps.length - 1 = nI (ps.length - 1) from by rw [show (1 : Int32) = nI 1 from rfl, nI_sub (by omega)], zb_s u4, zb_s u5, nI_dec (by omega)]
              refine ⟨_, _, ps'.length, by omega, rfl, rfl, fan, r - 1, ps', _, τ', rfl, rfl, rfl, by omega, by omega, ?_, u6, u7, u9.trans q3, u8⟩
              rw [u2, hq]
              cases q with
              | zero => left; omega
              | succ q =>
                right
                refine ⟨hf2, ?_, Nat.le_refl _, q, ?_⟩
                · rw [Nat.succ_mul]; omega
                · rw [Nat.succ_mul]; omega
            · right; right
              rw [if_pos rfl]
              rw [q3] at u4
              have h17 : ¬ zI τ' 17 = 0 := by
                rcases u4 with ⟨z, -⟩ | ⟨z, -⟩
                · rw [z]; decide
                · rw [z]; decide
              refine ⟨_, _, τ', rfl, rfl, ?_, ps, σ', τ', 0, Or.inr ⟨rfl, rfl⟩, rfl, u2, u3, Or.inr ⟨rfl, u4⟩⟩
              dsimp only
              by_cases z : zI τ' 4 ≤ 1
              · rw [if_pos z]
              · rw [if_neg z, if_neg h17])
        n ps0.length (nI t, nI ps0.length, σ) (nI t, sI (sI τ 0 0) 17 0) (by omega) ⟨t, ps0.length, ps0, σ, sI (sI τ 0 0) 17 0, rfl, rfl, rfl, Nat.le_refl _, by omega, ht, hjs, hsh, c4, rfl⟩
      have hfin : ∀ t, fX9_mergeFewest_0 n nb sz mm σ (nI fan) = fX9_mergeFewest_33 n nb sz mm σ (nI fan) (nI ps0.length) (nI t) → fX10_best_27 n τ (nI fan) 0 = fX10_best_68 n (sI (sI τ 0 0) 17 0) (nI fan) (nI t) → ((ps0.length ≤ 1) ∨ (2 ≤ t ∧ t ≤ ps0.length ∧ t ≤ fan ∧ ∃ q, ps0.length - (t - 1) = 1 + q * (fan - 1))) → ∃ (r1 : String ⊕ Int32) (σ' : zS) (k : Int32) (o' : Nat → Int64) (rb : Int32) (τ' : zS), fX9_best_0 n nb sz mm σ (nI fan) = some (r1, σ') ∧ fL_best r1 o = some (k, o') ∧ fX10_best_0 n τ (nI fan) = some (rb, τ') ∧ fX10_thrown_0 n τ' = some k ∧ (k = 0 → o' (Int32.toNatClampNeg 0) = rb.toInt64) ∧ zJ9 nb sz mm (jj + 1) σ' τ' := by
        intro t hc hm ht
        obtain ⟨b, _, l1, l2, ps, σ1, τ1, r, hb, rfl, k1, k2, k3⟩ := hloop t ht
        obtain ⟨r1, k, o', rb, τ', f1, f2, f3, f4, f5, f6⟩ := j_fin (n := n) (o := o) k1 k2 k3
        have hg : fX9_mergeFewest_0 n nb sz mm σ (nI fan) = some (r, σ1) := by
          rw [hc]
          unfold fX9_mergeFewest_33
          rw [zb_s l1]
          rcases hb with ⟨rfl, rfl⟩ | ⟨rfl, rfl⟩
          · rfl
          · rfl
        have hf : fX9_best_0 n nb sz mm σ (nI fan) = some (r1, σ1) := by
          unfold fX9_best_0 fX9_needPower_0
          rw [zb_s hneed, if_pos c4]
          show zb (fX9_mergeFewest_0 n nb sz mm σ (nI fan)) _ = _
          rw [zb_s hg]
          exact f1
        have hm9 : fX10_best_0 n τ (nI fan) = some (rb, τ') := by
          unfold fX10_best_0
          rw [zb_s hin1, if_neg (by decide), hoff.1, if_pos c4, hm]
          unfold fX10_best_68
          rw [zb_s l2, zb_s f3]
        exact ⟨_, _, _, _, _, _, hf, f2, hm9, f4, f5, cm, by omega, w, od, kn, inp, _, _, f6⟩
      have hsz1 : fX6_size_0 n nb (zrv (zI σ 32) (zA σ 16)) = some (nI ps0.length) := congrArg some hsh.1
      have hf1 : nI fan - 1 = nI (fan - 1) := by rw [show (1 : Int32) = nI 1 from rfl, nI_sub (by omega)]
      by_cases e : ps0.length < 2
      · refine hfin 0 ?_ ?_ (Or.inl (by omega))
        · unfold fX9_mergeFewest_0 fX9_mergeFewest_22
          rw [zb_s hsz1, if_pos (show nI ps0.length < 2 from nI_lt (b := 2) e (by decide))]
          rfl
        · unfold fX10_best_27
          rw [if_pos (by decide), show zI τ 4 = nI ps0.length from hsh.2.2.1, if_neg (show ¬ 2 ≤ nI ps0.length from fun q => by rw [show (2 : Int32) = nI 2 from rfl, nI_leI (by omega) (by omega)] at q; omega)]
          rfl
      · have hmod := Nat.mod_lt (ps0.length - 2) (show 0 < fan - 1 by omega)
        have hdm := Nat.div_add_mod (ps0.length - 2) (fan - 1)
        have hle := Nat.mod_le (ps0.length - 2) (fan - 1)
        have hp2 : nI ps0.length - 2 = nI (ps0.length - 2) := by rw [show (2 : Int32) = nI 2 from rfl, nI_sub (by omega)]
        have hval : 2 + (nI (ps0.length - 2) - nI (ps0.length - 2) / nI (fan - 1) * nI (fan - 1)) = nI (2 + (ps0.length - 2) % (fan - 1)) := by
          rw [nI_mod (by omega) (by omega), show (2 : Int32) = nI 2 from rfl, nI_add]
        refine hfin (2 + (ps0.length - 2) % (fan - 1)) ?_ ?_ (Or.inr ⟨by omega, by omega, by omega, (ps0.length - 2) / (fan - 1), ?_⟩)
        · unfold fX9_mergeFewest_0
          rw [zb_s hsz1, if_neg (show ¬ nI ps0.length < 2 from fun q => by rw [show (2 : Int32) = nI 2 from rfl, nI_ltI (by omega) (by omega)] at q; omega), hf1, if_pos (show 1 ≤ nI (fan - 1) from nI_le (a := 1) (by omega) (by omega)), zg_t (znz_nI (by omega) (by omega)), hp2, hval]
        · unfold fX10_best_27
          rw [if_pos (by decide), show zI τ 4 = nI ps0.length from hsh.2.2.1, if_pos (show 2 ≤ nI ps0.length from nI_le (a := 2) (by omega) (by omega)), hf1, zg_t (znz_nI (by omega) (by omega)), hp2, hval]
        · rw [Nat.mul_comm] at hdm
          omega
    · have hf : fX9_best_0 n nb sz mm σ a1 = some (.inl "java/lang/IllegalStateException", σ) := by
        unfold fX9_best_0 fX9_needPower_0
        rw [zb_s hneed, if_neg c4]
        rfl
      have hm : fX10_best_0 n τ a1 = some (0, sI τ 0 2) := by
        unfold fX10_best_0 fX10_best_27
        rw [zb_s hin1, if_neg (by decide), hoff.1, if_neg c4, if_neg (by decide)]
      exact ⟨_, _, _, _, _, _, hf, rfl, hm, rfl, fun q => absurd q (by decide), cm, by omega, w, od, kn, inp, rs, fs, h⟩
  · have hf : fX9_best_0 n nb sz mm σ a1 = some (.inl "java/lang/IllegalArgumentException", σ) := by
      unfold fX9_best_0 fX9_needFan_0 fX9_needFan_11
      by_cases q : a1 < 2
      · rw [if_pos q]
        rfl
      · rw [if_neg q, if_neg (fun z => c1 ⟨i_nlt.mp q, z⟩)]
        rfl
    have hm : fX10_best_0 n τ a1 = some (0, sI τ 0 1) := by
      unfold fX10_best_0 fX10_best_27
      rw [zb_s (m_isIn_n c1), if_pos rfl, if_neg (by decide)]
    exact ⟨_, _, _, _, _, _, hf, rfl, hm, rfl, fun q => absurd q (by decide), cm, by omega, w, od, kn, inp, rs, fs, h⟩
