/-! records on pages -/
def putF (f g : Nat → Int64) (a m : Nat) : Nat → Int64 := fun i => if a ≤ i ∧ i < a + m then g (i - a) else f i
theorem putF_0 (f g : Nat → Int64) (a : Nat) : putF f g a 0 = f := by
  funext i
  unfold putF
  rw [if_neg (by omega)]
theorem putF_s (f g : Nat → Int64) (a m : Nat) : vp_updL (putF f g a m) (a + m) (g m) = putF f g a (m + 1) := by
  funext i
  rw [updL_at]
  unfold putF
  by_cases h : i = a + m
  · rw [if_pos h, if_pos (by omega), h, Nat.add_sub_cancel_left]
  · rw [if_neg h]
    by_cases h2 : a ≤ i ∧ i < a + m
    · rw [if_pos h2, if_pos (by omega)]
    · rw [if_neg h2, if_neg (by omega)]
theorem putF_in {f g : Nat → Int64} {a m k : Nat} (h : k < m) : putF f g a m (a + k) = g k := by
  unfold putF
  rw [if_pos (by omega), Nat.add_sub_cancel_left]
theorem putF_lo {f g : Nat → Int64} {a m k : Nat} (h : k < a) : putF f g a m k = f k := by
  unfold putF
  rw [if_neg (by omega)]
theorem c_goL {n nb sz mm w b i a : Nat} {σ : zS} (hn : 300 < n) (hnb : nb ≤ 200) (hsz : sz ≤ 64) (hw4 : w ≤ 4) (h10 : zI σ 10 = nI (w + 1)) (hb : b < nb) (hi : i < sz / (w + 1)) (ha : a + (w + 1) ≤ sz) : zlp (fX7_goOut_L85_85 n nb sz mm (nI (b * sz + i * (w + 1))) (nI a)) n (0, σ) = some (sL σ 2 (putF (zL σ 2) (recC (dC nb sz σ).1 w b i) a (w + 1))) := by
  have e0 : ((0 : Int32), σ) = (fun j => (nI j, sL σ 2 (putF (zL σ 2) (recC (dC nb sz σ).1 w b i) a j))) 0 := by
    show _ = (nI 0, sL σ 2 (putF (zL σ 2) (recC (dC nb sz σ).1 w b i) a 0))
    rw [putF_0, sL_id]
    rfl
  rw [e0]
  refine zlp_for (β := zS) (fun j => (nI j, sL σ 2 (putF (zL σ 2) (recC (dC nb sz σ).1 w b i) a j))) _ (w + 1) 0 n (fun j _ hj => ?_) ?_ (by omega)
  · unfold fX7_goOut_L85_85
    dsimp only
    rw [show zI (sL σ 2 _) 10 = nI (w + 1) from h10, if_neg (show ¬ nI (w + 1) ≤ nI j from fun q => by rw [nI_leI (by omega) (by omega)] at q; omega), if_neg (nI_nn (by omega)), nI_add a j, if_neg (show ¬ nI sz ≤ nI (a + j) from fun q => by rw [nI_leI (by omega) (by omega)] at q; omega), zb_s (c_cellR hnb hsz hb hi (by omega)), zg_in (by omega) (by omega), nI_clamp (by omega), sL_sL, nI_1]
    show some (Sum.inl (nI (j + 1), sL σ 2 (vp_updL (putF (zL σ 2) (recC (dC nb sz σ).1 w b i) a j) (a + j) (recC (dC nb sz σ).1 w b i j)))) = _
    rw [putF_s]
  · unfold fX7_goOut_L85_85
    dsimp only
    rw [show zI (sL σ 2 _) 10 = nI (w + 1) from h10, Nat.zero_add, if_pos (nI_le (Nat.le_refl _) (by omega))]
theorem m_pgL1 {n nb sz w b i op : Nat} {τ : zS} (hn : 300 < n) (hnb : nb ≤ 200) (hsz : sz ≤ 64) (hw4 : w ≤ 4) (h6 : zI τ 6 = nI w) (h19 : zI τ 19 = nI op) (hb : b < nb) (hi : i < sz / (w + 1)) (ha : op * (w + 1) + (w + 1) ≤ sz) (hop : op < 100) : zlp (fX10_toPage_p1_L2_2 n (nI (64 * b + i * (w + 1)))) n (0, τ) = some (sL τ 2 (putF (zL τ 2) (recC (dM nb sz τ).1 w b i) (op * (w + 1)) (w + 1))) := by
  have e0 : ((0 : Int32), τ) = (fun j => (nI j, sL τ 2 (putF (zL τ 2) (recC (dM nb sz τ).1 w b i) (op * (w + 1)) j))) 0 := by
    show _ = (nI 0, sL τ 2 (putF (zL τ 2) (recC (dM nb sz τ).1 w b i) (op * (w + 1)) 0))
    rw [putF_0, sL_id]
    rfl
  rw [e0]
  refine zlp_for (β := zS) (fun j => (nI j, sL τ 2 (putF (zL τ 2) (recC (dM nb sz τ).1 w b i) (op * (w + 1)) j))) _ (w + 1) 0 n (fun j _ hj => ?_) ?_ (by omega)
  · unfold fX10_toPage_p1_L2_2
    dsimp only
    obtain ⟨r1, r2⟩ := m_cellR (τ := τ) (c := j) hnb hsz hb hi (by omega)
    rw [show zI (sL τ 2 _) 6 = nI w from h6, show zI (sL τ 2 _) 19 = nI op from h19, if_neg (show ¬ nI w < nI j from fun q => by rw [nI_ltI (by omega) (by omega)] at q; omega), zg_t r1, nI_1 w, nI_mul, nI_add (op * (w + 1)) j, zg_in (by omega) (by decide), nI_clamp (by omega), sL_sL, nI_1]
    show some (Sum.inl (nI (j + 1), sL τ 2 (vp_updL (putF (zL τ 2) (recC (dM nb sz τ).1 w b i) (op * (w + 1)) j) (op * (w + 1) + j) (zL τ 0 (nI (64 * b + i * (w + 1)) + nI j).toNatClampNeg)))) = _
    rw [r2, putF_s]
  · unfold fX10_toPage_p1_L2_2
    dsimp only
    rw [show zI (sL τ 2 _) 6 = nI w from h6, Nat.zero_add, if_pos (nI_lt (by omega) (by omega))]
theorem m_pgL14 {n sz w op : Nat} {τ : zS} (hn : 300 < n) (hsz : sz ≤ 64) (hw4 : w ≤ 4) (h6 : zI τ 6 = nI w) (h19 : zI τ 19 = nI op) (ha : op * (w + 1) + (w + 1) ≤ sz) (hop : op < 100) : zlp (fX10_toPage_p14_L2_2 n 0) n (0, τ) = some (sL τ 2 (putF (zL τ 2) (zL τ 3) (op * (w + 1)) (w + 1))) := by
  have e0 : ((0 : Int32), τ) = (fun j => (nI j, sL τ 2 (putF (zL τ 2) (zL τ 3) (op * (w + 1)) j))) 0 := by
    show _ = (nI 0, sL τ 2 (putF (zL τ 2) (zL τ 3) (op * (w + 1)) 0))
    rw [putF_0, sL_id]
    rfl
  rw [e0]
  refine zlp_for (β := zS) (fun j => (nI j, sL τ 2 (putF (zL τ 2) (zL τ 3) (op * (w + 1)) j))) _ (w + 1) 0 n (fun j _ hj => ?_) ?_ (by omega)
  · unfold fX10_toPage_p14_L2_2
    dsimp only
    rw [show zI (sL τ 2 _) 6 = nI w from h6, show zI (sL τ 2 _) 19 = nI op from h19, if_neg (show ¬ nI w < nI j from fun q => by rw [nI_ltI (by omega) (by omega)] at q; omega), Int32.zero_add, zg_in (show j < 5 by omega) (by decide), nI_1 w, nI_mul, nI_add (op * (w + 1)) j, zg_in (by omega) (by decide), nI_clamp (show op * (w + 1) + j < 2 ^ 31 by omega), nI_clamp (show j < 2 ^ 31 by omega), sL_sL, nI_1]
    show some (Sum.inl (nI (j + 1), sL τ 2 (vp_updL (putF (zL τ 2) (zL τ 3) (op * (w + 1)) j) (op * (w + 1) + j) (zL τ 3 j)))) = _
    rw [putF_s]
  · unfold fX10_toPage_p14_L2_2
    dsimp only
    rw [show zI (sL τ 2 _) 6 = nI w from h6, Nat.zero_add, if_pos (nI_lt (by omega) (by omega))]
theorem m_wtL {n nb sz w b i : Nat} {τ : zS} (hn : 300 < n) (hnb : nb ≤ 200) (hsz : sz ≤ 64) (hw4 : w ≤ 4) (h6 : zI τ 6 = nI w) (hb : b < nb) (hi : i < sz / (w + 1)) : zlp (fX10_out_L90_90 n (nI (64 * b + i * (w + 1)))) n (0, τ) = some (sL τ 3 (putF (zL τ 3) (recC (dM nb sz τ).1 w b i) 0 (w + 1))) := by
  have e0 : ((0 : Int32), τ) = (fun j => (nI j, sL τ 3 (putF (zL τ 3) (recC (dM nb sz τ).1 w b i) 0 j))) 0 := by
    show _ = (nI 0, sL τ 3 (putF (zL τ 3) (recC (dM nb sz τ).1 w b i) 0 0))
    rw [putF_0, sL_id]
    rfl
  rw [e0]
  refine zlp_for (β := zS) (fun j => (nI j, sL τ 3 (putF (zL τ 3) (recC (dM nb sz τ).1 w b i) 0 j))) _ (w + 1) 0 n (fun j _ hj => ?_) ?_ (by omega)
  · unfold fX10_out_L90_90
    dsimp only
    obtain ⟨r1, r2⟩ := m_cellR (τ := τ) (c := j) hnb hsz hb hi (by omega)
    rw [show zI (sL τ 3 _) 6 = nI w from h6, if_neg (show ¬ nI w < nI j from fun q => by rw [nI_ltI (by omega) (by omega)] at q; omega), zg_t r1, zg_in (by omega) (by decide), sL_sL, nI_1, nI_clamp (show j < 2 ^ 31 by omega)]
    show some (Sum.inl (nI (j + 1), sL τ 3 (vp_updL (putF (zL τ 3) (recC (dM nb sz τ).1 w b i) 0 j) j (zL τ 0 (nI (64 * b + i * (w + 1)) + nI j).toNatClampNeg)))) = _
    have := putF_s (zL τ 3) (recC (dM nb sz τ).1 w b i) 0 j
    rw [Nat.zero_add] at this
    rw [r2, this]
  · unfold fX10_out_L90_90
    dsimp only
    rw [show zI (sL τ 3 _) 6 = nI w from h6, Nat.zero_add, if_pos (nI_lt (by omega) (by omega))]
/-! outcomes -/
def OK1 (nb sz w : Nat) (tk pre : List Nat) (us : Nat → Bool) (cl : Nat → Nat → Int64) (P0 : Prop) (md sm : Int32) (mk : Nat) (cb0 : List Nat) (on : List Int64) (wp : Option (Nat × Nat)) (σ τ σ' τ' : zS) : Prop :=
  zI τ' 17 = 0 ∧ ∃ op ct cb, (∃ ex, cb = cb0 ++ ex) ∧ op < sz / (w + 1) ∧ ct = cb.length * (sz / (w + 1)) ∧ OD nb sz tk pre (pre ++ cb) us cl P0 σ' τ' ∧ OR nb sz w us cl md sm op ct cb wp mk on σ' τ' ∧ OX cb mk σ τ σ' τ' ∧ zfr [3, 4, 5, 6, 20, 21, 22, 23, 24, 25] [0, 3, 6] [0, 2] σ σ' ∧ zfr [11, 12, 13, 14, 15, 17, 19, 20] [0, 1, 2, 3, 4, 5] [0, 2, 3] τ τ'
def BAD (nb sz : Nat) (tk pz sb : List Nat) (us : Nat → Bool) (cl : Nat → Nat → Int64) (P0 : Prop) (σ τ σ' τ' : zS) : Prop :=
  ((zI τ' 17 = 1 ∧ zI σ' 7 = 1) ∨ (zI τ' 17 = 2 ∧ zI σ' 7 = zI σ 7)) ∧ OD nb sz tk pz sb us cl P0 σ' τ' ∧ zfr [7, 20, 21, 24] [] [2] σ σ' ∧ zfr [17, 19, 20] [] [2, 3] τ τ'
/-- a page's record is settled -/
theorem o_bump {n nb sz mm w kn op ct mk : Nat} {tk pre cb : List Nat} {us : Nat → Bool} {cl : Nat → Nat → Int64} {P0 : Prop} {md sm : Int32} {on : List Int64} {σ τ : zS} (hn : 300 < n) (hnb : nb ≤ 200) (hs5 : 5 ≤ sz) (hsz : sz ≤ 64) (hS : SC nb sz mm w kn σ τ) (hD : OD nb sz tk pre (pre ++ cb) us cl P0 σ τ) (hR : OR nb sz w us cl md sm (op + 1) ct cb none mk on σ τ) (h17 : zI τ 17 = 0) (hct : ct = cb.length * (sz / (w + 1))) :
    ∃ r σ' τ', (if nI (op + 1) < nI (sz / (w + 1)) then fX7_settleWaiting_56 n nb sz mm σ else zb (fX7_writePage_0 n nb sz mm σ) (fun q3 => if q3.1 = 0 then some (0, q3.2) else fX7_settleWaiting_56 n nb sz mm q3.2)) = some (r, σ') ∧ (if nI (op + 1) = nI (sz / (w + 1)) then zb (fX10_writePage_0 n τ) (fun q9 => some q9) else some τ) = some τ' ∧
    ((r = 1 ∧ OK1 nb sz w tk pre us cl P0 md sm mk cb on none σ τ σ' τ' ∧ zI τ' 20 = zI τ 20) ∨ (r = 0 ∧ BAD nb sz tk pre (pre ++ cb) us cl P0 σ τ σ' τ')) := by
  have hR0 := hR
  obtain ⟨⟨p1, p2, p3⟩, hpg, hw0, -⟩ := hR0
  have hdv := Nat.div_le_self sz (w + 1)
  by_cases c : op + 1 < sz / (w + 1)
  · rw [if_pos (nI_lt c (by omega)), if_neg (fun q => by rw [nI_eq (by omega) (by omega)] at q; omega)]
    exact ⟨_, _, _, rfl, rfl, Or.inl ⟨rfl, ⟨h17, op + 1, ct, cb, ⟨[], by simp⟩, c, hct, hD, hR, OX_r rfl rfl rfl rfl rfl, zfr_r, zfr_r⟩, rfl⟩⟩
  · have he : op + 1 = sz / (w + 1) := by omega
    rw [if_neg (fun q => by rw [nI_ltI (by omega) (by omega)] at q; omega), if_pos (by rw [he])]
    obtain ⟨r, σ', τ', h1, h2, hor⟩ := o_write hn hnb hs5 hsz hS hD hR h17 (by omega) hct
    rw [zb_s h1, zb_s h2]
    rcases hor with ⟨rfl, e1, b, e2, e3, e4, e5, e6, e7, e8⟩ | ⟨rfl, e1, e2, e3, e4⟩
    · refine ⟨_, _, _, rfl, rfl, Or.inl ⟨rfl, ⟨e1, 0, ct + (op + 1), cb ++ [b], ⟨[b], rfl⟩, p_per hs5 hS.2.1.2.1, ?_, e4, e5, e6, zfr_w e7 (by decide) (by decide) (by decide), zfr_w e8 (by decide) (by decide) (by decide)⟩, e8.1 20 (by decide)⟩⟩
      rw [hct, he, List.length_append, Nat.add_mul]
      simp
    · exact ⟨_, _, _, rfl, rfl, Or.inr ⟨rfl, e1, e2, zfr_w e3 (by decide) (by decide) (by decide), zfr_w e4 (by decide) (by decide) (by decide)⟩⟩
