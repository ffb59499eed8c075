/-! two loops in step -/
theorem zlp_two {α β α' β' : Type} {body : α → Option (α ⊕ β)} {body' : α' → Option (α' ⊕ β')} (P : Nat → α → α' → Prop) (Q : β → β' → Prop) (hstep : ∀ m a a', P m a a' → (∃ c c' m', m' < m ∧ body a = some (.inl c) ∧ body' a' = some (.inl c') ∧ P m' c c') ∨ (∃ b b', body a = some (.inr b) ∧ body' a' = some (.inr b') ∧ Q b b')) : ∀ (n m : Nat) (a : α) (a' : α'), m < n → P m a a' → ∃ b b', zlp body n a = some b ∧ zlp body' n a' = some b' ∧ Q b b' := by
  intro n
  induction n with
  | zero => intro m a a' h; omega
  | succ n ih =>
    intro m a a' hm hP
    unfold zlp
    rcases hstep m a a' hP with ⟨c, c', m', h1, h2, h3, h4⟩ | ⟨b, b', h1, h2, h3⟩
    · rw [h2, h3]
      exact ih m' c c' (by omega) h4
    · rw [h1, h2]
      exact ⟨b, b', rfl, rfl, h3⟩
theorem nI_dec {k : Nat} (h : 0 < k) : nI k + (-1) = nI (k - 1) := by
  obtain ⟨k, rfl⟩ : ∃ j, k = j + 1 := ⟨k - 1, by omega⟩
  rw [← nI_1, Int32.add_assoc, show (1 : Int32) + (-1) = 0 by decide, Int32.add_zero]
  rfl
/-! rank -/
theorem s_rank {n nb sz mm : Nat} (hn : 20000 < n) (hnb : nb ≤ 200) (hs5 : 5 ≤ sz) (hsz : sz ≤ 64) : sim_rank n nb sz mm (zJ9 nb sz mm) := by
  intro jj σ τ o a1 a2 hj9 hJ
  obtain ⟨cm, hcm, w, od, kn, inp, rs, fs, h⟩ := hJ
  have hC := h.2.2.2.2.2.2.2.2.2.1
  have hM := h.2.2.2.2.2.2.2.2.2.2.1
  have hB := h.2.2.2.2.2.2.2.2.2.2.2.1
  have hoff := h.2.2.2.2.2.1
  have hmany := j_many hB
  have hw4 := h.2.1.2.1
  have hper := p_per (w := w) hs5 hw4
  have hple : sz / (w + 1) ≤ 64 := Nat.le_trans (Nat.div_le_self _ _) hsz
  by_cases c1 : 0 ≤ a1 ∧ a1 < nI rs.length
  · obtain ⟨j, hj, rfl⟩ := i_of c1.1 c1.2 (by omega)
    obtain ⟨r, hr⟩ : ∃ r, rs[j]? = some r := ⟨rs[j], List.getElem?_eq_getElem hj⟩
    obtain ⟨f, hf0⟩ : ∃ f, fs[j]? = some f := ⟨fs[j]'(by rw [hM.2.1]; exact hj), List.getElem?_eq_getElem _⟩
    have hrm := List.mem_of_getElem? hr
    have hfm := hM.2.2.2.1 f (List.mem_of_getElem? hf0)
    have hblk := j_blk hB hrm
    have hrun := hB.2.2 r hrm
    have hcnt : r.2 ≤ 200 * 64 := Nat.le_trans hrun.2.1 (Nat.mul_le_mul (by omega) hple)
    have hhd := (hB.2.1 _ (List.mem_append_right _ (j_len hB r hrm))).1
    have hrs : rs ≠ [] := fun e => by rw [e] at hj; exact absurd hj (by simp)
    have hin1 : fX10_isIn_0 n zσ0 (nI j) 0 (nI rs.length - 1) = some 1 := m_isIn_y c1.1 ((i_pm (by omega)).mpr c1.2)
    have hneed : fX9_needRun_0 n nb sz mm σ (nI j) = some (.inr ()) := by
      unfold fX9_needRun_0 fX6_size_0
      rw [if_neg (nI_nn (by omega))]
      show (if nI j < zI σ 32 then _ else _) = _
      rw [hC.1, if_pos c1.2]
    by_cases c4 : zI σ 7 = 0
    · -- the column, and which way
      obtain ⟨col, dn, hcol, hcf, hcr⟩ : ∃ (col : Nat) (dn : Int32), col ≤ w ∧ (∀ σ1 : zS, zI σ1 8 = zI σ 8 → zA σ1 1 = zA σ 1 → zA σ1 2 = zA σ 2 → fX5_firstColumn_0 n nb sz mm σ1 = some (nI col) ∧ ∀ v : Int64, fX5_isBeforeInFirstKey_0 n nb sz mm σ1 v a2 = some (if dn = 0 then (if 0 ≤ lg_cmp v a2 then 0 else 1) else (if lg_cmp v a2 ≤ 0 then 0 else 1))) ∧ fX10_rank_31 n τ (nI j) a2 0 = fX10_rank_83 n (sI τ 0 0) (nI j) a2 (nI col) dn := by
        obtain ⟨hkn, hk7, hk8, hK⟩ := h.2.2.1
        by_cases e : kn = 0
        · subst e
          refine ⟨0, 0, Nat.zero_le _, fun σ1 g1 g2 g3 => ⟨?_, fun v => ?_⟩, ?_⟩
          · unfold fX5_firstColumn_0
            rw [g1, hk8, if_pos (by decide)]
            rfl
          · unfold fX5_isBeforeInFirstKey_0 fX5_isBeforeInFirstKey_38
            rw [g1, hk8, if_pos (by decide), if_pos rfl]
            by_cases c : 0 ≤ lg_cmp v a2
            · rw [if_pos c, if_pos c]
            · rw [if_neg c, if_neg c]
          · unfold fX10_rank_31 fX10_rank_60 fX10_rank_82
            rw [if_pos (by decide), hk7, if_pos (by decide), show zI (sI τ 0 0) 7 = nI 0 from hk7, if_pos (by decide)]
            rfl
        · obtain ⟨hk1, c, hc, hk2⟩ := hK.1 0 (by omega)
          obtain ⟨hd1, hd2⟩ := hK.2.1 0 (by omega)
          have hpos : ¬ nI kn ≤ 0 := nI_nle (by omega) (by omega)
          refine ⟨c, zA σ 2 0, by omega, fun σ1 g1 g2 g3 => ⟨?_, fun v => ?_⟩, ?_⟩
          · unfold fX5_firstColumn_0
            rw [g1, hk8, if_neg hpos, if_neg (by decide), zg_t (by decide), g2]
            exact congrArg some hk2
          · unfold fX5_isBeforeInFirstKey_0 fX5_isBeforeInFirstKey_38
            rw [g1, hk8, if_neg hpos, if_neg (by decide), zg_t (by decide), g3]
            show (if zA σ 2 0 = 0 then _ else _) = _
            by_cases e2 : zA σ 2 0 = 0
            · rw [if_pos e2, if_pos e2]
              by_cases c : 0 ≤ lg_cmp v a2
              · rw [if_pos c, if_pos c]
              · rw [if_neg c, if_neg c]
            · rw [if_neg e2, if_neg e2]
              by_cases c : lg_cmp v a2 ≤ 0
              · rw [if_pos c, if_pos c]
              · rw [if_neg c, if_neg c]
          · unfold fX10_rank_31 fX10_rank_60 fX10_rank_82
            rw [if_pos (by decide), hk7, if_neg hpos, zg_t (by decide), show zI (sI τ 0 0) 7 = nI kn from hk7, if_neg hpos, zg_t (by decide)]
            show (if zA τ 9 0 = 0 then fX10_rank_83 n (sI τ 0 0) (nI j) a2 (zA τ 8 0) 0 else fX10_rank_83 n (sI τ 0 0) (nI j) a2 (zA τ 8 0) 1) = _
            rw [hk1, hk2, hd1]
            rcases hd2 with e2 | e2
            · rw [if_pos e2, e2]
            · rw [if_neg (by rw [e2]; decide), e2]
      have hloop := zlp_two (body := fX9_rank_L33_33 n nb sz mm (nI j) a2) (body' := fX10_rank_L101_101 n (nI j) a2 (nI col) dn)
        (fun m a a' => ∃ lo hi lk σ1 τ1, a = (nI lo, nI hi, nI lk, σ1) ∧ a' = (nI lo, nI hi, τ1) ∧ lo ≤ hi ∧ hi ≤ r.2 ∧ hi - lo ≤ lk ∧ lk ≤ r.2 ∧ m = hi - lo ∧ zI τ1 0 = 0 ∧ JJ cm nb sz mm w od kn inp rs fs σ1 τ1 ∧ zI σ1 8 = zI σ 8 ∧ zA σ1 1 = zA σ 1 ∧ zA σ1 2 = zA σ 2)
        (fun b b' => ∃ x σ1 τ1, b = (x, σ1) ∧ b' = (x, τ1) ∧ zI τ1 0 = 0 ∧ JJ cm nb sz mm w od kn inp rs fs σ1 τ1)
        (fun m a a' hP => by
          obtain ⟨lo, hi, lk, σ1, τ1, rfl, rfl, q1, q2, q3, q4, rfl, q5, q6, q7, q8, q9⟩ := hP
          unfold fX9_rank_L33_33 fX10_rank_L101_101
          dsimp only
          by_cases d1 : lo = hi
          · right
            refine ⟨(nI lo, σ1), (nI lo, τ1), ?_, ?_, nI lo, σ1, τ1, rfl, rfl, q5, q6⟩
            · by_cases d2 : nI lk ≤ 0
              · rw [if_pos d2]
              · rw [if_neg d2, if_pos (nI_le (by omega) (by omega))]
            · rw [if_pos (nI_le (by omega) (by omega))]
          · left
            have hC1 := q6.2.2.2.2.2.2.2.2.2.1
            have hM1 := q6.2.2.2.2.2.2.2.2.2.2.1
            have hmid : (nI lo + nI hi) / 2 = nI ((lo + hi) / 2) := by rw [nI_add, show (2 : Int32) = nI 2 from rfl, nI_div (by omega) (by omega)]
            have hm1 : lo ≤ (lo + hi) / 2 := by omega
            have hm2 : (lo + hi) / 2 < hi := by omega
            generalize (lo + hi) / 2 = mid at hmid hm1 hm2
            obtain ⟨b, hb⟩ : ∃ b, r.1[mid / (sz / (w + 1))]? = some b := ⟨r.1[mid / (sz / (w + 1))]'(j_div hper hrun.2.1 (by omega)), List.getElem?_eq_getElem _⟩
            have hbn := hblk.1 b (List.mem_of_getElem? hb)
            have hpin := p_in (sz := sz) (w := w) (i := mid) (c := col) hper hcol
            have hget : fX6_get_0 n nb (zrv (zI σ1 32) (zA σ1 16)) (nI j) = some (nI (r.1.headD 0)) := by
              rw [c_get (m := rs.length) hC1.1 hj (by omega) (by omega), hC1.2.1 j r hr]
            have hlk : ∀ (g : zS → Prop), g σ1 → g (rdC σ1 (nI b)) → g (lkC σ1 b) := fun g g1 g2 => by
              unfold lkC
              by_cases e : nI b = zI σ1 5
              · rw [if_pos e]; exact g1
              · rw [if_neg e]; exact g2
            have hlm : ∀ (g : zS → Prop), g τ1 → g (rdM τ1 (nI b)) → g (lkM τ1 b) := fun g g1 g2 => by
              unfold lkM
              by_cases e : nI b = zI τ1 14
              · rw [if_pos e]; exact g1
              · rw [if_neg e]; exact g2
            have t8 : zI (lkC σ1 b) 8 = zI σ 8 := hlk (fun s => zI s 8 = zI σ 8) q7 q7
            have t1 : zA (lkC σ1 b) 1 = zA σ 1 := hlk (fun s => zA s 1 = zA σ 1) q8 q8
            have t2 : zA (lkC σ1 b) 2 = zA σ 2 := hlk (fun s => zA s 2 = zA σ 2) q9 q9
            have t0 : zI (lkM τ1 b) 0 = 0 := hlm (fun s => zI s 0 = 0) q5 q5
            have jl := jj_look (b := b) hrs q6
            have hv : zL τ1 0 (64 * b + mid % (sz / (w + 1)) * (w + 1) + col) = (dC nb sz σ1).1 b (mid % (sz / (w + 1)) * (w + 1) + col) := by
              rw [← q6.2.2.2.2.2.2.1]
              show _ = if b < nb ∧ mid % (sz / (w + 1)) * (w + 1) + col < sz then zL τ1 0 (64 * b + (mid % (sz / (w + 1)) * (w + 1) + col)) else 0
              rw [if_pos ⟨hbn, hpin⟩, Nat.add_assoc]
            rw [hmid, if_neg (show ¬ nI lk ≤ 0 from nI_nle (by omega) (by omega)), if_neg (show ¬ nI hi ≤ nI lo from fun q => by rw [nI_leI (by omega) (by omega)] at q; omega), zg_t (by decide), zb_s hget, zb_s (hcf σ1 q7 q8 q9).1, zb_s (c_look (by omega) hnb hs5 hsz hw4 q6.1.2.2.2.1 q6.2.1.2.2.2.2.1 q6.2.1.2.2.2.2.2 hrun.1 (hC1.2.2 r hrm).1 hblk.1 hblk.2 (by omega) hb hcol), zb_s ((hcf (lkC σ1 b) t8 t1 t2).2 _)]
            rw [if_neg (show ¬ nI hi ≤ nI lo from fun q => by rw [nI_leI (by omega) (by omega)] at q; omega), zg_t (show znz 2 = true by decide), zb_s (m_look (τ := τ1) (sz := sz) (w := w) (j := j) (by omega) hnb hs5 hsz hw4 q6.1.2.1 q6.2.1.2.2.1 (by omega) (hM1.2.2.2.2.2.1 j f hf0) hfm.2 (hM1.2.2.2.2.2.2.1 j f r hf0 hr) hblk.1 hblk.2 (by omega) hb), nI_add, zg_in (by omega) (by decide), nI_clamp (by omega), lk_cell, hv]
            generalize (dC nb sz σ1).1 b (mid % (sz / (w + 1)) * (w + 1) + col) = v
            unfold fX9_rank_L33_103 fX10_rank_L101_166 fX10_rank_L101_182 fX10_rank_L101_196
            have low : ∃ c c' m', m' < hi - lo ∧ (some (Sum.inl (nI lo, nI mid, nI lk + -1, lkC σ1 b)) : Option ((Int32 × Int32 × Int32 × zS) ⊕ (Int32 × zS))) = some (.inl c) ∧ (some (Sum.inl (nI lo, nI mid, lkM τ1 b)) : Option ((Int32 × Int32 × zS) ⊕ (Int32 × zS))) = some (.inl c') ∧ ∃ lo' hi' lk' σ1 τ1, c = (nI lo', nI hi', nI lk', σ1) ∧ c' = (nI lo', nI hi', τ1) ∧ lo' ≤ hi' ∧ hi' ≤ r.2 ∧ hi' - lo' ≤ lk' ∧ lk' ≤ r.2 ∧ m' = hi' - lo' ∧ zI τ1 0 = 0 ∧ JJ cm nb sz mm w od kn inp rs fs σ1 τ1 ∧ zI σ1 8 = zI σ 8 ∧ zA σ1 1 = zA σ 1 ∧ zA σ1 2 = zA σ 2 :=
              ⟨_, _, mid - lo, by omega, rfl, rfl, lo, mid, lk - 1, lkC σ1 b, lkM τ1 b, by rw [nI_dec (by omega)], rfl, hm1, by omega, by omega, by omega, rfl, t0, jl, t8, t1, t2⟩
            have high : ∃ c c' m', m' < hi - lo ∧ (some (Sum.inl (nI mid + 1, nI hi, nI lk + -1, lkC σ1 b)) : Option ((Int32 × Int32 × Int32 × zS) ⊕ (Int32 × zS))) = some (.inl c) ∧ (some (Sum.inl (nI mid + 1, nI hi, lkM τ1 b)) : Option ((Int32 × Int32 × zS) ⊕ (Int32 × zS))) = some (.inl c') ∧ ∃ lo' hi' lk' σ1 τ1, c = (nI lo', nI hi', nI lk', σ1) ∧ c' = (nI lo', nI hi', τ1) ∧ lo' ≤ hi' ∧ hi' ≤ r.2 ∧ hi' - lo' ≤ lk' ∧ lk' ≤ r.2 ∧ m' = hi' - lo' ∧ zI τ1 0 = 0 ∧ JJ cm nb sz mm w od kn inp rs fs σ1 τ1 ∧ zI σ1 8 = zI σ 8 ∧ zA σ1 1 = zA σ 1 ∧ zA σ1 2 = zA σ 2 :=
              ⟨_, _, hi - (mid + 1), by omega, rfl, rfl, mid + 1, hi, lk - 1, lkC σ1 b, lkM τ1 b, by rw [nI_dec (by omega), nI_1], by rw [nI_1], by omega, by omega, by omega, by omega, rfl, t0, jl, t8, t1, t2⟩
            by_cases e1 : dn = 0
            · rw [if_pos e1, if_pos e1]
              by_cases e2 : 0 ≤ lg_cmp v a2
              · rw [if_pos e2, if_pos e2, if_pos rfl, if_pos rfl, if_pos rfl]
                exact low
              · rw [if_neg e2, if_neg e2, if_neg (by decide), if_neg (by decide), if_neg (by decide)]
                exact high
            · rw [if_neg e1, if_neg e1]
              by_cases e2 : lg_cmp v a2 ≤ 0
              · rw [if_pos e2, if_pos e2, if_pos rfl, if_pos rfl, if_pos rfl]
                exact low
              · rw [if_neg e2, if_neg e2, if_neg (by decide), if_neg (by decide), if_neg (by decide)]
                exact high)
        n r.2 (0, nI r.2, nI r.2, σ) (0, nI r.2, sI τ 0 0) (by omega) ⟨0, r.2, r.2, σ, sI τ 0 0, rfl, rfl, Nat.zero_le _, Nat.le_refl _, by omega, Nat.le_refl _, rfl, rfl, h, rfl, rfl, rfl⟩
      obtain ⟨_, _, hl1, hl2, x, σ1, τ1, rfl, rfl, hz, hJ1⟩ := hloop
      have hf : fX9_rank_0 n nb sz mm σ (nI j) a2 = some (.inr x, σ1) := by
        unfold fX9_rank_0 fX9_needPower_0
        rw [zb_s hneed, if_pos c4]
        show zb (fX6_get_0 n nb (zrv (zI σ 32) (zA σ 16)) (nI j)) _ = _
        rw [zb_s (c_get (m := rs.length) hC.1 hj (by omega) (by omega)), hC.2.1 j r hr, zb_s (c_heldBy hnb hhd), (hC.2.2 r hrm).2, zb_s hl1]
      have hm : fX10_rank_0 n τ (nI j) a2 = some (x, τ1) := by
        unfold fX10_rank_0
        rw [hM.1, zb_s hin1, if_neg (by decide), hoff.1, if_pos c4, hcr]
        unfold fX10_rank_83
        rw [zg_in (by omega) (by decide), nI_clamp (by omega), show zA (sI τ 0 0) 7 j = nI f from hM.2.2.2.2.2.1 j f hf0, zg_in hfm.2 (by decide), nI_clamp (by omega), show zA (sI τ 0 0) 5 f = nI r.2 from (hM.2.2.2.2.2.2.1 j f r hf0 hr).2.2.1, zb_s hl2]
      exact ⟨_, _, _, _, _, _, hf, rfl, hm, congrArg some hz, fun _ => o_at _ _, cm, by omega, w, od, kn, inp, rs, fs, hJ1⟩
    · have hf : fX9_rank_0 n nb sz mm σ (nI j) a2 = some (.inl "java/lang/IllegalStateException", σ) := by
        unfold fX9_rank_0 fX9_needPower_0
        rw [zb_s hneed, if_neg c4]
        rfl
      have hm : fX10_rank_0 n τ (nI j) a2 = some (0, sI τ 0 2) := by
        unfold fX10_rank_0 fX10_rank_31
        rw [hM.1, zb_s hin1, if_neg (by decide), hoff.1, if_neg c4, if_neg (by decide)]
      exact ⟨_, _, _, _, _, _, hf, rfl, hm, rfl, fun q => absurd q (by decide), cm, by omega, w, od, kn, inp, rs, fs, h⟩
  · have hf : fX9_rank_0 n nb sz mm σ a1 a2 = some (.inl "java/lang/IndexOutOfBoundsException", σ) := by
      unfold fX9_rank_0 fX9_needRun_0 fX9_needRun_15 fX6_size_0
      by_cases c2 : a1 < 0
      · rw [if_pos c2]
        rfl
      · rw [if_neg c2]
        show zb (if a1 < zI σ 32 then _ else _) _ = _
        rw [hC.1, if_neg (fun q => c1 ⟨i_nlt.mp c2, q⟩)]
        rfl
    have hm : fX10_rank_0 n τ a1 a2 = some (0, sI τ 0 1) := by
      unfold fX10_rank_0 fX10_rank_31
      rw [hM.1, zb_s (m_isIn_n (fun q => c1 ⟨q.1, (i_pm (by omega)).mp q.2⟩)), if_pos rfl, if_neg (by decide)]
    exact ⟨_, _, _, _, _, _, hf, rfl, hm, rfl, fun q => absurd q (by decide), cm, by omega, w, od, kn, inp, rs, fs, h⟩
