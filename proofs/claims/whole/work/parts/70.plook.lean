/-! a look at a record -/
def lkM (τ : zS) (b : Nat) : zS := if nI b = zI τ 14 then τ else rdM τ (nI b)
def lkC (σ : zS) (b : Nat) : zS := if nI b = zI σ 5 then σ else rdC σ (nI b)
theorem p_in {sz w i c : Nat} (hw : 0 < sz / (w + 1)) (hc : c ≤ w) : i % (sz / (w + 1)) * (w + 1) + c < sz := by
  have h1 : i % (sz / (w + 1)) < sz / (w + 1) := Nat.mod_lt _ hw
  have h2 := Nat.mul_le_mul_right (w + 1) (show i % (sz / (w + 1)) + 1 ≤ sz / (w + 1) from h1)
  have h3 : sz / (w + 1) * (w + 1) ≤ sz := Nat.div_mul_le_self _ _
  rw [Nat.succ_mul] at h2
  omega
theorem m_look {n nb sz w j f i cnt b : Nat} {τ : zS} {bl : List Nat} (hn : 300 < n) (hnb : nb ≤ 200) (hs5 : 5 ≤ sz) (hsz : sz ≤ 64) (hw4 : w ≤ 4) (h2 : zI τ 2 = nI sz) (hw : zI τ 6 = nI w) (hj : j < 200) (ho : zA τ 7 j = nI f) (hf : f < 208) (hF : JF f bl cnt (zA τ 3) (zA τ 4) (zA τ 5) (zA τ 2)) (hb : ∀ b ∈ bl, b < nb) (hbl : bl.length ≤ nb) (hi : i < 20000) (hb2 : bl[i / (sz / (w + 1))]? = some b) : fX10_look_0 n τ (nI j) (nI i) = some (nI (64 * b + i % (sz / (w + 1)) * (w + 1)), lkM τ b) := by
  have hper := p_per (w := w) hs5 hw4
  have hple : sz / (w + 1) ≤ 64 := Nat.le_trans (Nat.div_le_self _ _) hsz
  have hbn := hb b (List.mem_of_getElem? hb2)
  have hpin := p_in (sz := sz) (w := w) (i := i) (c := 0) hper (Nat.zero_le _)
  have hlen : i / (sz / (w + 1)) < 300 := by
    have h1 := (List.getElem?_eq_some_iff.mp hb2).1
    omega
  have h40 : ∀ τ1 : zS, zI τ1 2 = nI sz → zI τ1 6 = nI w → fX10_look_40 n τ1 (nI i) (nI b) = some (nI (64 * b + i % (sz / (w + 1)) * (w + 1)), τ1) := by
    intro τ1 g1 g2
    unfold fX10_look_40
    rw [zb_s (m_per hsz hw4 g1 g2), zg_t (znz_nI (by omega) (by omega)), nI_mod (by omega) (by omega), g2, nI_1, nI_mul, show (64 : Int32) = nI 64 from rfl, nI_mul, nI_add]
  unfold fX10_look_0
  rw [zg_in (by omega) (by decide), zb_s (m_per hsz hw4 h2 hw), zg_t (znz_nI (by omega) (by omega)), nI_clamp (by omega), ho, nI_div (by omega) (by omega), zb_s (m_blockOf hn hf hlen hF (fun b hb9 => by have := hb b hb9; omega)), chAt_some hb2]
  unfold lkM
  by_cases c : nI b = zI τ 14
  · rw [if_pos c, if_pos c, h40 τ h2 hw]
  · rw [if_neg c, if_neg c, zb_s (m_go n _ _)]
    exact h40 (rdM τ (nI b)) h2 hw
theorem c_look {n nb sz mm w i c b : Nat} {σ : zS} {bl : List Nat} (hn : 300 < n) (hnb : nb ≤ 200) (hs5 : 5 ≤ sz) (hsz : sz ≤ 64) (hw4 : w ≤ 4) (h1 : zI σ 1 = nI sz) (h10 : zI σ 10 = nI (w + 1)) (h11 : zI σ 11 = nI (sz / (w + 1))) (hne : bl ≠ []) (hch : chC (zA σ 3) bl) (hb : ∀ b ∈ bl, b < nb) (hbl : bl.length ≤ nb) (hi : i < 20000) (hb2 : bl[i / (sz / (w + 1))]? = some b) (hc : c ≤ w) : fX9_look_0 n nb sz mm σ (nI (bl.headD 0)) (nI i) (nI c) = some ((dC nb sz σ).1 b (i % (sz / (w + 1)) * (w + 1) + c), lkC σ b) := by
  have hper := p_per (w := w) hs5 hw4
  have hple : sz / (w + 1) ≤ 64 := Nat.le_trans (Nat.div_le_self _ _) hsz
  have hbn := hb b (List.mem_of_getElem? hb2)
  have hpin := p_in (sz := sz) (w := w) (i := i) (c := c) hper hc
  have hlen : i / (sz / (w + 1)) < 300 := by
    have h1 := (List.getElem?_eq_some_iff.mp hb2).1
    omega
  have hmx : (if 1 < nI (sz / (w + 1)) then nI (sz / (w + 1)) else 1) = nI (sz / (w + 1)) := by
    by_cases e : sz / (w + 1) = 1
    · rw [e, if_neg nI1_nlt]
      rfl
    · rw [if_pos (show (1 : Int32) < nI (sz / (w + 1)) from nI_lt (a := 1) (by omega) (by omega))]
  have h48 : ∀ σ1 : zS, zI σ1 1 = nI sz → zI σ1 10 = nI (w + 1) → fX9_look_48 n nb sz mm σ1 (nI i) (nI c) (nI (sz / (w + 1))) (nI b) = some ((dC nb sz σ1).1 b (i % (sz / (w + 1)) * (w + 1) + c), σ1) := by
    intro σ1 g1 g2
    unfold fX9_look_48
    rw [zg_t (znz_nI (by omega) (by omega)), g1, g2, nI_mod (by omega) (by omega), nI_mul, nI_mul, nI_add, nI_add, Nat.add_assoc, zb_s (c_cell hnb hsz hbn hpin)]
  unfold fX9_look_0
  rw [h11, hmx, zg_t (znz_nI (by omega) (by omega)), nI_div (by omega) (by omega), zb_s (c_blockAt hn hnb hlen hne hch hb hbl), chAt_some hb2]
  unfold lkC
  by_cases c9 : nI b = zI σ 5
  · rw [if_pos c9, if_pos c9, h48 σ h1 h10]
  · rw [if_neg c9, if_neg c9, zb_s (c_read n nb sz mm _ _)]
    exact h48 (rdC σ (nI b)) h1 h10
theorem jj_look {cm nb sz mm w od kn b : Nat} {inp : List Nat} {rs : List (List Nat × Nat)} {fs : List Nat} {σ τ : zS} (hr : rs ≠ []) (h : JJ cm nb sz mm w od kn inp rs fs σ τ) : JJ cm nb sz mm w od kn inp rs fs (lkC σ b) (lkM τ b) := by
  have hl : zI τ 14 = zI τ 13 := h.2.2.2.2.2.2.2.1.resolve_left (fun q => hr q.2)
  have hd := h.2.2.2.2.2.2.1
  have d5 : zI τ 13 = zI σ 5 := congrArg (fun d : zD => d.2.2.2.2.2.1) hd
  unfold lkC lkM
  rw [hl, d5]
  by_cases c : nI b = zI σ 5
  · rw [if_pos c, if_pos c]
    exact h
  · rw [if_neg c, if_neg c]
    refine ⟨h.1, h.2.1, h.2.2.1, h.2.2.2.1, h.2.2.2.2.1, h.2.2.2.2.2.1, ?_, Or.inr rfl, h.2.2.2.2.2.2.2.2⟩
    rw [dM_rd, dC_rd, hd]
theorem lk_cell {τ : zS} {m : Nat} : zL (lkM τ m) 0 = zL τ 0 := by
  unfold lkM
  by_cases c : nI m = zI τ 14
  · rw [if_pos c]
  · rw [if_neg c]
    rfl
theorem j_div {per : Nat} {bl : List Nat} {cnt i : Nat} (h0 : 0 < per) (hle : cnt ≤ bl.length * per) (hi : i < cnt) : i / per < bl.length := (Nat.div_lt_iff_lt_mul h0).mpr (by omega)
