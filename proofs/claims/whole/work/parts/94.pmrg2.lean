theorem OD_rd {nb sz : Nat} {tk pz sb : List Nat} {us : Nat → Bool} {cl : Nat → Nat → Int64} {P0 : Prop} {σ τ σ' τ' : zS} {b : Int32} (h : OD nb sz tk pz sb us cl P0 σ τ) (h1 : dC nb sz σ' = dRead (dC nb sz σ) b) (h2 : dM nb sz τ' = dRead (dM nb sz τ) b) (h3 : zI τ' 14 = zI τ' 13) (h4 : zI σ' 25 = zI σ 25) (h5 : zA σ' 6 = zA σ 6) (h6 : zA τ' 1 = zA τ 1) : OD nb sz tk pz sb us cl P0 σ' τ' := by
  obtain ⟨hd, hlat, hrow, htk, hnd, hsb, hus, hcl⟩ := h
  refine ⟨by rw [h1, h2, hd], Or.inr h3, by rw [h4, h5]; exact hrow, by rw [h6]; exact htk, hnd, hsb, fun b => ?_, fun b hb => ?_⟩
  · rw [h1]
    exact hus b
  · rw [h1]
    exact hcl b hb
/-- one run of a group goes on -/
theorem j_adv {n nb sz mm w kn i : Nat} {tk pz sb : List Nat} {us : Nat → Bool} {cl : Nat → Nat → Int64} {P0 : Prop} {gs : List (Nat × List Nat × Nat)} {e : Nat → Nat} {p : Nat × List Nat × Nat} {σ τ : zS} (hn : 300 < n) (hnb : nb ≤ 200) (hs5 : 5 ≤ sz) (hsz : sz ≤ 64) (hS : SC nb sz mm w kn σ τ) (hD : OD nb sz tk pz sb us cl P0 σ τ) (hg : GF nb sz w us gs) (hc : GC gs σ τ) (h17 : zI τ 17 = 0) (hM : MS sz w gs.length gs e σ τ) (hp : gs[i]? = some p) (he : e i < p.2.2) :
    ∃ σ' τ', fX4_advance_0 n nb sz mm σ (nI i) = some σ' ∧ fX10_onward_0 n τ (nI i) = some τ' ∧ MS sz w gs.length gs (eU e i) σ' τ' ∧ OD nb sz tk pz sb us cl P0 σ' τ' ∧ zfr [2, 4, 5] [11, 12, 13] [] σ σ' ∧ zfr [10, 12, 13, 14] [14, 15, 16] [] τ τ' := by
  have hper := p_per (w := w) hs5 hS.2.1.2.1
  have hdv := Nat.div_le_self sz (w + 1)
  have hil := (List.getElem?_eq_some_iff.mp hp).1
  have hpm := List.mem_of_getElem? hp
  have hM0 := hM
  obtain ⟨⟨g1, g2, g3⟩, hrow⟩ := hM
  obtain ⟨r1, r2, r3, r4, r5⟩ := hrow i p hil hp
  obtain ⟨s1, s2, s3, s4⟩ := r4 he
  obtain ⟨f1, f1', f2, f3, f4, f5, f6⟩ := hg p hpm
  obtain ⟨c1, c2, c3⟩ := hc p hpm
  obtain ⟨b1, b2, b3⟩ := gb_at hg hper hpm he
  have hcb : p.2.2 ≤ 200 * 64 := Nat.le_trans f3 (Nat.mul_le_mul (by omega) (Nat.le_trans (Nat.div_le_self _ _) hsz))
  have hmod := Nat.mod_lt (e i) hper
  have hhd : p.2.1.headD 0 < nb := by
    have : p.2.1.headD 0 ∈ p.2.1 := by
      cases h : p.2.1 with
      | nil => exact absurd h f2
      | cons a t => exact List.mem_cons_self
    exact (f6 _ this).1
  have hi8 : i < 8 := by omega
  have hu : ∀ (f : Nat → Int32) (v : Int32), upd f i v i = v := fun f v => by rw [upd_at, if_pos rfl]
  have hget : fX6_get_0 n 8 (zrv (zI σ 29) (zA σ 10)) (nI i) = some (nI (p.2.1.headD 0)) := by
    rw [c_get (m := gs.length) g1 hil g2 (by decide), g3 i p hp]
  have hheld : ∀ σ1 : zS, zA σ1 4 = zA σ 4 → fX1_heldBy_0 n nb sz mm σ1 (nI (p.2.1.headD 0)) = some (nI p.2.2) := fun σ1 h1 => by
    rw [c_heldBy hnb hhd, h1, c2]
  have hcm : (e i + 1) - (e i + 1) / (sz / (w + 1)) * (sz / (w + 1)) = (e i + 1) % (sz / (w + 1)) := by
    have := Nat.div_add_mod (e i + 1) (sz / (w + 1))
    rw [Nat.mul_comm] at this
    omega
  have hleft : nI (p.2.2 - e i) - 1 = nI (p.2.2 - (e i + 1)) := by
    rw [show p.2.2 - e i = (p.2.2 - (e i + 1)) + 1 by omega, nI_pred]
  -- the other runs' rows
  have hoth : ∀ (σ' τ' : zS), (∀ j, ¬ j = i → zA σ' 11 j = zA σ 11 j ∧ zA σ' 12 j = zA σ 12 j ∧ zA σ' 13 j = zA σ 13 j ∧ zA τ' 14 j = zA τ 14 j ∧ zA τ' 15 j = zA τ 15 j ∧ zA τ' 16 j = zA τ 16 j) → zI σ' 29 = zI σ 29 → zA σ' 10 = zA σ 10 → (zA σ' 12 i = nI (e i + 1) ∧ zA τ' 16 i = nI (p.2.2 - (e i + 1)) ∧ (e i + 1 < p.2.2 → zA σ' 11 i = nI (gb sz w p (e i + 1)) ∧ zA σ' 13 i = nI (gb sz w p (e i + 1) * sz + (e i + 1) % (sz / (w + 1)) * (w + 1)) ∧ zA τ' 14 i = nI (gb sz w p (e i + 1)) ∧ zA τ' 15 i = nI ((e i + 1) % (sz / (w + 1)))) ∧ (¬ e i + 1 < p.2.2 → zA σ' 13 i = -1)) → MS sz w gs.length gs (eU e i) σ' τ' := by
    intro σ' τ' h1 h2 h3 h4
    refine ⟨⟨by rw [h2]; exact g1, g2, by rw [h3]; exact g3⟩, fun j p' hj hp' => ?_⟩
    by_cases q : j = i
    · subst q
      rw [hp] at hp'
      cases hp'
      rw [show eU e j j = e j + 1 from if_pos rfl]
      exact ⟨he, h4⟩
    · rw [show eU e i j = e j from if_neg q]
      obtain ⟨k1, k2, k3, k4, k5, k6⟩ := h1 j q
      rw [k1, k2, k3, k4, k5, k6]
      exact hrow j p' hj hp'
  unfold fX4_advance_0 fX10_onward_0
  rw [if_neg (show ¬ nI i < 0 from nI_nn (by omega)), if_pos (show nI i < 8 from nI_lt (b := 8) hi8 (by decide))]
  simp only [zg_in hi8 (show 8 < 2 ^ 31 by decide), nI_clamp (show i < 2 ^ 31 by omega), hu]
  rw [zb_s hget, zb_s (hheld (sA σ 12 (upd (zA σ 12) i (zA σ 12 i + 1))) rfl), r2, nI_1, zb_s (m_per (τ := sA (sA τ 16 (upd (zA τ 16) i (zA τ 16 i - 1))) 15 (upd (zA τ 15) i (zA τ 15 i + 1))) hsz hS.2.1.2.1 hS.1.2.1 hS.2.1.2.2.1), r3, s4, nI_1, hleft]
  have hstep : (e i + 1) % (sz / (w + 1)) = 0 ↔ e i % (sz / (w + 1)) + 1 = sz / (w + 1) := by
    have h1 := Nat.div_add_mod (e i) (sz / (w + 1))
    constructor
    · intro h
      rcases Nat.lt_or_ge (e i % (sz / (w + 1)) + 1) (sz / (w + 1)) with q | q
      · exfalso
        have : (e i + 1) % (sz / (w + 1)) = e i % (sz / (w + 1)) + 1 := by
          rw [Nat.add_mod, Nat.mod_eq_of_lt (a := 1) (by omega), Nat.mod_eq_of_lt q]
        omega
      · omega
    · intro h
      have h2 : e i + 1 = (sz / (w + 1)) * (e i / (sz / (w + 1)) + 1) := by
        rw [Nat.mul_add, Nat.mul_one]
        omega
      rw [h2, Nat.mul_mod_right]
  have hdivs : e i % (sz / (w + 1)) + 1 = sz / (w + 1) → (e i + 1) / (sz / (w + 1)) = e i / (sz / (w + 1)) + 1 := by
    intro h
    have h1 := Nat.div_add_mod (e i) (sz / (w + 1))
    have h2 : e i + 1 = (sz / (w + 1)) * (e i / (sz / (w + 1)) + 1) := by
      rw [Nat.mul_add, Nat.mul_one]
      omega
    rw [h2, Nat.mul_div_cancel_left _ hper]
  have hdivn : ¬ e i % (sz / (w + 1)) + 1 = sz / (w + 1) → (e i + 1) / (sz / (w + 1)) = e i / (sz / (w + 1)) ∧ (e i + 1) % (sz / (w + 1)) = e i % (sz / (w + 1)) + 1 := by
    intro h
    have h1 := Nat.div_add_mod (e i) (sz / (w + 1))
    have h2 : e i + 1 = (sz / (w + 1)) * (e i / (sz / (w + 1))) + (e i % (sz / (w + 1)) + 1) := by omega
    constructor
    · rw [h2, Nat.mul_add_div hper, Nat.div_eq_of_lt (show e i % (sz / (w + 1)) + 1 < sz / (w + 1) by omega), Nat.add_zero]
    · rw [h2, Nat.mul_add_mod, Nat.mod_eq_of_lt (show e i % (sz / (w + 1)) + 1 < sz / (w + 1) by omega)]
  by_cases d : e i + 1 < p.2.2
  · rw [if_pos (show nI (e i + 1) < nI p.2.2 from nI_lt d (by omega)), hS.2.1.2.2.2.2.2, p_max hs5 hsz hS.2.1.2.1, zg_t (znz_nI (by omega) (by omega)), nI_mod (by omega) (by omega)]
    by_cases z : e i % (sz / (w + 1)) + 1 = sz / (w + 1)
    · have hz := hstep.mpr z
      obtain ⟨b1', b2', b3'⟩ := gb_at hg hper hpm d
      have hnx : zA σ 3 (gb sz w p (e i)) = nI (gb sz w p (e i + 1)) := by
        rw [chC_step c1 b1, ← hdivs z, chAt_some b1']
      have hnx2 : zA τ 2 (gb sz w p (e i)) = nI (gb sz w p (e i + 1)) := by
        rw [chC_step c3.2.2.2 b1, ← hdivs z, chAt_some b1']
      rw [hz, if_pos (show nI 0 = 0 from rfl), s1, zb_s (c_behind (σ := sA σ 12 (upd (zA σ 12) i (nI (e i + 1)))) hnb b2), show zA (sA σ 12 (upd (zA σ 12) i (nI (e i + 1)))) 3 (gb sz w p (e i)) = nI (gb sz w p (e i + 1)) from hnx, zb_s (c_read n nb sz mm _ _), if_pos (show nI (e i % (sz / (w + 1)) + 1) = nI (sz / (w + 1)) by rw [z]), if_neg (show ¬ nI (p.2.2 - (e i + 1)) ≤ 0 from nI_nle (by omega) (by omega)), s3, zg_in (show gb sz w p (e i) < 200 by omega) (by decide), nI_clamp (show gb sz w p (e i) < 2 ^ 31 by omega), hnx2]
      have hrd := m_read (n := n) (τ := sA (sA (sA (sA τ 16 (upd (zA τ 16) i (nI (p.2.2 - (e i + 1))))) 15 (upd (zA τ 15) i (nI (e i % (sz / (w + 1)) + 1)))) 14 (upd (zA τ 14) i (nI (gb sz w p (e i + 1))))) 15 (upd (upd (zA τ 15) i (nI (e i % (sz / (w + 1)) + 1))) i 0)) h17 (nI (gb sz w p (e i + 1)))
      rw [zb_s hrd]
      refine ⟨_, _, rfl, rfl, hoth _ _ (fun j hj => ⟨?_, ?_, ?_, ?_, ?_, ?_⟩) rfl rfl ⟨?_, ?_, fun _ => ⟨?_, ?_, ?_, ?_⟩, fun q => absurd d q⟩, OD_rd (b := nI (gb sz w p (e i + 1))) hD rfl rfl rfl rfl rfl rfl, ?_, ?_⟩
      · show upd (zA σ 11) i _ j = _
        rw [upd_at, if_neg hj]
      · show upd (zA σ 12) i _ j = _
        rw [upd_at, if_neg hj]
      · show upd (zA σ 13) i _ j = _
        rw [upd_at, if_neg hj]
      · show upd (zA τ 14) i _ j = _
        rw [upd_at, if_neg hj]
      · show upd (upd (zA τ 15) i _) i 0 j = _
        rw [upd_at, if_neg hj, upd_at, if_neg hj]
      · show upd (zA τ 16) i _ j = _
        rw [upd_at, if_neg hj]
      · exact hu _ _
      · exact hu _ _
      · exact hu _ _
      · show upd (zA σ 13) i (upd (zA σ 11) i (nI (gb sz w p (e i + 1))) i * zI σ 1) i = _
        rw [hu, hu, hS.1.2.2.2.1, nI_mul, hz, Nat.zero_mul]
        rfl
      · exact hu _ _
      · show upd (upd (zA τ 15) i _) i 0 i = _
        rw [hu, hz]
        rfl
      · exact zfr_A (by decide) (zfr_I (by decide) (zfr_I (by decide) (zfr_I (by decide) (zfr_A (by decide) (zfr_A (by decide) zfr_r)))))
      · exact zfr_I (by decide) (zfr_I (by decide) (zfr_I (by decide) (zfr_I (by decide) (zfr_A (by decide) (zfr_A (by decide) (zfr_A (by decide) (zfr_A (by decide) zfr_r)))))))
    · obtain ⟨hd1, hd2⟩ := hdivn z
      have hgb : gb sz w p (e i + 1) = gb sz w p (e i) := by
        unfold gb
        rw [hd1]
      rw [if_neg (show ¬ nI ((e i + 1) % (sz / (w + 1))) = 0 from fun q => z (hstep.mp ((nI_eq (b := 0) (by have := Nat.mod_lt (e i + 1) hper; omega) (by decide)).mp q))), if_neg (show ¬ nI (e i % (sz / (w + 1)) + 1) = nI (sz / (w + 1)) from fun q => z ((nI_eq (by omega) (by omega)).mp q))]
      refine ⟨_, _, rfl, rfl, hoth _ _ (fun j hj => ⟨rfl, ?_, ?_, rfl, ?_, ?_⟩) rfl rfl ⟨?_, ?_, fun _ => ⟨?_, ?_, ?_, ?_⟩, fun q => absurd d q⟩, hD, ?_, ?_⟩
      · show upd (zA σ 12) i _ j = _
        rw [upd_at, if_neg hj]
      · show upd (zA σ 13) i _ j = _
        rw [upd_at, if_neg hj]
      · show upd (zA τ 15) i _ j = _
        rw [upd_at, if_neg hj]
      · show upd (zA τ 16) i _ j = _
        rw [upd_at, if_neg hj]
      · exact hu _ _
      · exact hu _ _
      · show zA σ 11 i = _
        rw [s1, hgb]
      · show upd (zA σ 13) i (zA σ 13 i + zI σ 10) i = _
        rw [hu, s2, hS.2.1.2.2.2.2.1, nI_add, hgb, hd2, Nat.add_mul, Nat.one_mul, Nat.add_assoc]
      · show zA τ 14 i = _
        rw [s3, hgb]
      · show upd (zA τ 15) i _ i = _
        rw [hu, hd2]
      · exact zfr_A (by decide) (zfr_A (by decide) zfr_r)
      · exact zfr_A (by decide) (zfr_A (by decide) zfr_r)
  · rw [if_neg (show ¬ nI (e i + 1) < nI p.2.2 from fun q => by rw [nI_ltI (by omega) (by omega)] at q; omega)]
    have h0 : p.2.2 - (e i + 1) = 0 := by omega
    have hm9 : (if nI (e i % (sz / (w + 1)) + 1) = nI (sz / (w + 1)) then (if nI (p.2.2 - (e i + 1)) ≤ 0 then some (sA (sA τ 16 (upd (zA τ 16) i (nI (p.2.2 - (e i + 1))))) 15 (upd (zA τ 15) i (nI (e i % (sz / (w + 1)) + 1)))) else zg (zin (zA τ 14 i) 200) (zb (fX10_read_0 n (sA (sA (sA (sA τ 16 (upd (zA τ 16) i (nI (p.2.2 - (e i + 1))))) 15 (upd (zA τ 15) i (nI (e i % (sz / (w + 1)) + 1)))) 14 (upd (zA τ 14) i (zA τ 2 (zA τ 14 i).toNatClampNeg))) 15 (upd (upd (zA τ 15) i (nI (e i % (sz / (w + 1)) + 1))) i 0)) (zA τ 2 (zA τ 14 i).toNatClampNeg)) (fun q16 => some q16))) else some (sA (sA τ 16 (upd (zA τ 16) i (nI (p.2.2 - (e i + 1))))) 15 (upd (zA τ 15) i (nI (e i % (sz / (w + 1)) + 1))))) = some (sA (sA τ 16 (upd (zA τ 16) i (nI (p.2.2 - (e i + 1))))) 15 (upd (zA τ 15) i (nI (e i % (sz / (w + 1)) + 1)))) := by
      rw [h0, if_pos (show nI 0 ≤ 0 by decide), ite_self]
    rw [hm9]
    refine ⟨_, _, rfl, rfl, hoth _ _ (fun j hj => ⟨rfl, ?_, ?_, rfl, ?_, ?_⟩) rfl rfl ⟨?_, ?_, fun q => absurd q d, fun _ => ?_⟩, hD, ?_, ?_⟩
    · show upd (zA σ 12) i _ j = _
      rw [upd_at, if_neg hj]
    · show upd (zA σ 13) i _ j = _
      rw [upd_at, if_neg hj]
    · show upd (zA τ 15) i _ j = _
      rw [upd_at, if_neg hj]
    · show upd (zA τ 16) i _ j = _
      rw [upd_at, if_neg hj]
    · exact hu _ _
    · exact hu _ _
    · exact hu _ _
    · exact zfr_A (by decide) (zfr_A (by decide) zfr_r)
    · exact zfr_A (by decide) (zfr_A (by decide) zfr_r)
/-- the same, when the power is gone or the disk full -/
theorem m_onward_s {n sz w i x : Nat} {τ : zS} (hsz : sz ≤ 64) (hw4 : w ≤ 4) (h2 : zI τ 2 = nI sz) (h6 : zI τ 6 = nI w) (h17 : ¬ zI τ 17 = 0) (hi : i < 8) (h14 : zA τ 14 i = nI x) (hx : x < 200) : ∃ τ', fX10_onward_0 n τ (nI i) = some τ' ∧ zfr [] [14, 15, 16] [] τ τ' := by
  have hu : ∀ (f : Nat → Int32) (v : Int32), upd f i v i = v := fun f v => by rw [upd_at, if_pos rfl]
  unfold fX10_onward_0
  simp only [zg_in hi (show 8 < 2 ^ 31 by decide), nI_clamp (show i < 2 ^ 31 by omega), hu]
  rw [zb_s (m_per (τ := sA (sA τ 16 (upd (zA τ 16) i (zA τ 16 i - 1))) 15 (upd (zA τ 15) i (zA τ 15 i + 1))) hsz hw4 h2 h6)]
  have f0 : zfr [] [14, 15, 16] [] τ (sA (sA τ 16 (upd (zA τ 16) i (zA τ 16 i - 1))) 15 (upd (zA τ 15) i (zA τ 15 i + 1))) := zfr_A (by decide) (zfr_A (by decide) zfr_r)
  by_cases c : zA τ 15 i + 1 = nI (sz / (w + 1))
  · rw [if_pos c]
    by_cases c2 : zA τ 16 i - 1 ≤ 0
    · rw [if_pos c2]
      exact ⟨_, rfl, f0⟩
    · rw [if_neg c2, h14, zg_in hx (by decide)]
      rw [zb_s (m_read_s (τ := sA (sA (sA (sA τ 16 (upd (zA τ 16) i (zA τ 16 i - 1))) 15 (upd (zA τ 15) i (zA τ 15 i + 1))) 14 _) 15 _) h17 _)]
      exact ⟨_, rfl, zfr_A (by decide) (zfr_A (by decide) f0)⟩
  · rw [if_neg c]
    exact ⟨_, rfl, f0⟩
theorem m_firstOf_s {n k : Nat} {τ : zS} (hn : 300 < n) (hk : 1 ≤ k) (hk8 : k ≤ 8) (h17 : ¬ zI τ 17 = 0) : fX10_firstOf_0 n τ (nI k) = some (-1) := by
  unfold fX10_firstOf_0
  obtain ⟨n, rfl⟩ : ∃ n', n = n' + 1 := ⟨n - 1, by omega⟩
  have e1 : fX10_firstOf_L4_4 (n + 1) τ (nI k) (-1, 0) = some (.inr (-1)) := by
    unfold fX10_firstOf_L4_4
    dsimp only
    rw [if_neg (show ¬ nI k ≤ 0 from nI_nle (by omega) (by omega)), if_neg h17]
  unfold zlp
  rw [e1]
  rfl
