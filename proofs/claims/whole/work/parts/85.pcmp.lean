/-! which record is before which -/
def kcmp (u v : Nat → Int64) (col : Nat → Nat) (dn : Nat → Int32) : Nat → Nat → Int32
  | 0, _ => 0
  | r + 1, k => if lg_cmp (u (col k)) (v (col k)) = 0 then kcmp u v col dn r (k + 1) else if (if 0 ≤ lg_cmp (u (col k)) (v (col k)) then (0 : Int32) else 1) = dn k then 1 else -1
def kcol (kn : Nat) (kc : Nat → Int32) : Nat → Nat := fun k => if kn = 0 then k else (kc k).toNatClampNeg
def kdn (kn : Nat) (kd : Nat → Int32) : Nat → Int32 := fun k => if kn = 0 then 0 else if kd k = 0 then 0 else 1
def cmpK (w kn : Nat) (kc kd : Nat → Int32) (u v : Nat → Int64) : Int32 := kcmp u v (kcol kn kc) (kdn kn kd) (if kn = 0 then w else kn) 0
theorem kcol_lt {w kn : Nat} {kc : Nat → Int32} (hw4 : w ≤ 4) (hcol : ∀ k, k < kn → ∃ c, c < w ∧ kc k = nI c) {k : Nat} (hk : k < (if kn = 0 then w else kn)) : kcol kn kc k < w := by
  unfold kcol
  by_cases e : kn = 0
  · rw [if_pos e] at hk ⊢
    exact hk
  · rw [if_neg e] at hk ⊢
    obtain ⟨c, hc, he⟩ := hcol k hk
    rw [he, nI_clamp (by omega)]
    exact hc
theorem kcmp_congr {u v u' v' : Nat → Int64} {col col' : Nat → Nat} {dn dn' : Nat → Int32} : ∀ (r k : Nat), (∀ j, k ≤ j → j < k + r → col' j = col j ∧ dn' j = dn j ∧ u' (col j) = u (col j) ∧ v' (col j) = v (col j)) → kcmp u' v' col' dn' r k = kcmp u v col dn r k := by
  intro r
  induction r with
  | zero => intro k _; rfl
  | succ r ih =>
    intro k h
    obtain ⟨h1, h2, h3, h4⟩ := h k (Nat.le_refl _) (by omega)
    unfold kcmp
    rw [h1, h2, h3, h4, ih (k + 1) (fun j hj1 hj2 => h j (by omega) (by omega))]
theorem c_compareKeys {n nb sz mm w kn : Nat} {σ : zS} {p q : Int32} {u v : Nat → Int64} (hn : 300 < n) (hw4 : w ≤ 4) (hk4 : kn ≤ 4) (h8 : zI σ 8 = nI kn) (h9 : zI σ 9 = nI w) (hcol : ∀ k, k < kn → ∃ c, c < w ∧ zA σ 1 k = nI c) (hu : ∀ c, c < w → fX0_cell_0 n nb sz mm σ (p + nI c) = some (u c)) (hv : ∀ c, c < w → fX0_cell_0 n nb sz mm σ (q + nI c) = some (v c)) : fX5_compareKeys_0 n nb sz mm σ p q = some (cmpK w kn (zA σ 1) (zA σ 2) u v) := by
  have key : ∀ (r k n1 N : Nat), N = (if kn = 0 then w else kn) → k + r = N → r < n1 → zb (zlp (fX5_compareKeys_L22_22 n nb sz mm σ p q (nI N)) n1 (nI k)) (fun b15 => Sum.elim (fun b15 => (some 0)) (fun b15 => (if 0 ≤ (lg_cmp b15.2.1 b15.2.2) then (fX5_compareKeys_140 n nb sz mm σ b15.1 0) else (fX5_compareKeys_140 n nb sz mm σ b15.1 1))) b15) = some (kcmp u v (kcol kn (zA σ 1)) (kdn kn (zA σ 2)) r k) := by
    intro r
    induction r with
    | zero =>
      intro k n1 N hN hk hn1
      obtain ⟨n1, rfl⟩ : ∃ n', n1 = n' + 1 := ⟨n1 - 1, by omega⟩
      have e1 : fX5_compareKeys_L22_22 n nb sz mm σ p q (nI N) (nI k) = some (.inr (.inl ())) := by
        unfold fX5_compareKeys_L22_22
        have hN4 : N ≤ 4 := by rw [hN]; by_cases e : kn = 0 <;> simp [e] <;> omega
        exact if_pos (nI_le (by omega) (by omega))
      unfold zlp
      rw [e1]
      rfl
    | succ r ih =>
      intro k n1 N hN hk hn1
      obtain ⟨n1, rfl⟩ : ∃ n', n1 = n' + 1 := ⟨n1 - 1, by omega⟩
      have hN4 : N ≤ 4 := by rw [hN]; by_cases e : kn = 0 <;> simp [e] <;> omega
      have hkN : k < (if kn = 0 then w else kn) := by rw [← hN]; omega
      have hc := kcol_lt hw4 hcol hkN
      have e1 : fX5_compareKeys_L22_22 n nb sz mm σ p q (nI N) (nI k) = (if lg_cmp (u (kcol kn (zA σ 1) k)) (v (kcol kn (zA σ 1) k)) = 0 then some (.inl (nI (k + 1))) else some (.inr (.inr (kdn kn (zA σ 2) k, u (kcol kn (zA σ 1) k), v (kcol kn (zA σ 1) k))))) := by
        unfold fX5_compareKeys_L22_22
        rw [if_neg (show ¬ nI N ≤ nI k from fun q => by rw [nI_leI (by omega) (by omega)] at q; omega), if_neg (show ¬ nI 4 ≤ nI k from fun q => by rw [nI_leI (by omega) (by omega)] at q; omega), if_neg (show ¬ nI 4 ≤ nI k from fun q => by rw [nI_leI (by omega) (by omega)] at q; omega), h8]
        by_cases e : kn = 0
        · subst e
          rw [if_pos (by decide)]
          unfold fX5_compareKeys_L22_67 fX5_compareKeys_L22_90 fX5_compareKeys_L22_91
          have hkc : kcol 0 (zA σ 1) k = k := rfl
          rw [hkc] at hc ⊢
          rw [h8, if_pos (by decide), zb_s (hu k hc), zb_s (hv k hc), nI_1]
          rfl
        · rw [if_neg (nI_ne0 (by omega) (by omega)), zg_in (by omega) (by decide), nI_clamp (by omega)]
          rw [if_neg e] at hkN
          obtain ⟨c, hc1, hc2⟩ := hcol k hkN
          have hkc : kcol kn (zA σ 1) k = c := by
            unfold kcol
            rw [if_neg e, hc2, nI_clamp (by omega)]
          have hkd : kdn kn (zA σ 2) k = if zA σ 2 k = 0 then 0 else 1 := by
            unfold kdn
            rw [if_neg e]
          rw [hc2, hkc, hkd]
          unfold fX5_compareKeys_L22_67 fX5_compareKeys_L22_90 fX5_compareKeys_L22_91
          rw [h8, if_neg (nI_nle (by omega) (by omega)), zg_in (by omega) (by decide), nI_clamp (by omega), zb_s (hu c hc1), zb_s (hv c hc1), nI_1]
          by_cases z : zA σ 2 k = 0
          · rw [if_pos z, if_pos z]
          · rw [if_neg z, if_neg z, zb_s (hu c hc1), zb_s (hv c hc1)]
      unfold zlp kcmp
      rw [e1]
      by_cases z : lg_cmp (u (kcol kn (zA σ 1) k)) (v (kcol kn (zA σ 1) k)) = 0
      · rw [if_pos z, if_pos z]
        exact ih (k + 1) n1 N hN (by omega) (by omega)
      · rw [if_neg z, if_neg z]
        show (if 0 ≤ lg_cmp (u (kcol kn (zA σ 1) k)) (v (kcol kn (zA σ 1) k)) then fX5_compareKeys_140 n nb sz mm σ (kdn kn (zA σ 2) k) 0 else fX5_compareKeys_140 n nb sz mm σ (kdn kn (zA σ 2) k) 1) = _
        unfold fX5_compareKeys_140
        by_cases y : 0 ≤ lg_cmp (u (kcol kn (zA σ 1) k)) (v (kcol kn (zA σ 1) k))
        · rw [if_pos y, if_pos y]
          by_cases x : (0 : Int32) = kdn kn (zA σ 2) k
          · rw [if_pos x, if_pos x]
          · rw [if_neg x, if_neg x]
        · rw [if_neg y, if_neg y]
          by_cases x : (1 : Int32) = kdn kn (zA σ 2) k
          · rw [if_pos x, if_pos x]
          · rw [if_neg x, if_neg x]
  unfold fX5_compareKeys_0 fX5_compareKeys_18 cmpK
  rw [h8, h9]
  by_cases e : kn = 0
  · rw [if_pos (show nI kn = 0 by rw [e]; rfl)]
    have := key w 0 n w (by rw [if_pos e]) (by omega) (by omega)
    rw [if_pos e]
    exact this
  · rw [if_neg (nI_ne0 (by omega) (by omega))]
    have := key kn 0 n kn (by rw [if_neg e]) (by omega) (by omega)
    rw [if_neg e]
    exact this
theorem m_byKeys_p1 {n w kn : Nat} {τ : zS} {kc kd : Nat → Int32} {p q : Int32} {u v : Nat → Int64} (hn : 300 < n) (hw4 : w ≤ 4) (hk4 : kn ≤ 4) (h7 : zI τ 7 = nI kn) (h6 : zI τ 6 = nI w) (hK : JK w kn (zA τ 8) (zA τ 9) kc kd) (hu : ∀ c, c < w → zin (p + nI c) 12800 = true ∧ zL τ 0 (p + nI c).toNatClampNeg = u c) (hv : ∀ c, c < w → zin (q + nI c) 12800 = true ∧ zL τ 0 (q + nI c).toNatClampNeg = v c) : fX10_byKeys_p1_0 n τ p q = some (cmpK w kn kc kd u v) := by
  have hcol : ∀ k, k < kn → ∃ c, c < w ∧ kc k = nI c := fun k hk => (hK.1 k hk).2
  have key : ∀ (r k n1 N : Nat), N = (if kn = 0 then w else kn) → k + r = N → r < n1 → zb (zlp (fX10_byKeys_p1_L23_23 n τ p q (nI N)) n1 (nI k)) (fun b8 => Sum.elim (fun b8 => (some 0)) (fun b8 => (if 0 ≤ (lg_cmp b8.2.1 b8.2.2) then (fX10_byKeys_p1_91 n τ b8.1 0) else (fX10_byKeys_p1_91 n τ b8.1 1))) b8) = some (kcmp u v (kcol kn kc) (kdn kn kd) r k) := by
    intro r
    induction r with
    | zero =>
      intro k n1 N hN hk hn1
      obtain ⟨n1, rfl⟩ : ∃ n', n1 = n' + 1 := ⟨n1 - 1, by omega⟩
      have e1 : fX10_byKeys_p1_L23_23 n τ p q (nI N) (nI k) = some (.inr (.inl ())) := by
        unfold fX10_byKeys_p1_L23_23
        have hN4 : N ≤ 4 := by rw [hN]; by_cases e : kn = 0 <;> simp [e] <;> omega
        exact if_pos (nI_le (by omega) (by omega))
      unfold zlp
      rw [e1]
      rfl
    | succ r ih =>
      intro k n1 N hN hk hn1
      obtain ⟨n1, rfl⟩ : ∃ n', n1 = n' + 1 := ⟨n1 - 1, by omega⟩
      have hN4 : N ≤ 4 := by rw [hN]; by_cases e : kn = 0 <;> simp [e] <;> omega
      have hkN : k < (if kn = 0 then w else kn) := by rw [← hN]; omega
      have hc := kcol_lt hw4 hcol hkN
      have e1 : fX10_byKeys_p1_L23_23 n τ p q (nI N) (nI k) = (if lg_cmp (u (kcol kn kc k)) (v (kcol kn kc k)) = 0 then some (.inl (nI (k + 1))) else some (.inr (.inr (nI k, u (kcol kn kc k), v (kcol kn kc k))))) := by
        unfold fX10_byKeys_p1_L23_23 fX10_byKeys_p1_L23_49
        rw [if_neg (show ¬ nI N ≤ nI k from fun q => by rw [nI_leI (by omega) (by omega)] at q; omega), h7]
        by_cases e : kn = 0
        · subst e
          have hkc : kcol 0 kc k = k := rfl
          rw [hkc] at hc ⊢
          rw [if_pos (show nI 0 = 0 by decide), zg_t (hu k hc).1, zg_t (hv k hc).1, (hu k hc).2, (hv k hc).2, nI_1]
        · rw [if_neg (show ¬ nI kn = 0 from nI_ne0 (by omega) (by omega)), zg_in (show k < 4 by omega) (by decide), nI_clamp (show k < 2 ^ 31 by omega)]
          rw [if_neg e] at hkN
          obtain ⟨hk1, c, hc1, hc2⟩ := hK.1 k hkN
          have hkc : kcol kn kc k = c := by
            unfold kcol
            rw [if_neg e, hc2, nI_clamp (by omega)]
          rw [hk1, hc2, hkc, zg_t (hu c hc1).1, zg_t (hv c hc1).1, (hu c hc1).2, (hv c hc1).2, nI_1]
      unfold zlp kcmp
      rw [e1]
      by_cases z : lg_cmp (u (kcol kn kc k)) (v (kcol kn kc k)) = 0
      · rw [if_pos z, if_pos z]
        exact ih (k + 1) n1 N hN (by omega) (by omega)
      · rw [if_neg z, if_neg z]
        have h91 : ∀ y : Int32, fX10_byKeys_p1_91 n τ (nI k) y = some (if y = kdn kn kd k then 1 else -1) := by
          intro y
          unfold fX10_byKeys_p1_91 fX10_byKeys_p1_112 fX10_byKeys_p1_113 kdn
          rw [h7]
          by_cases e : kn = 0
          · rw [if_pos (show nI kn ≤ 0 by rw [e]; decide), if_pos e]
            by_cases x : y = 0
            · rw [if_pos x, if_pos x]
            · rw [if_neg x, if_neg x]
          · rw [if_neg e] at hkN
            rw [if_neg (nI_nle (by omega) (by omega)), if_neg e, zg_in (by omega) (by decide), nI_clamp (by omega), (hK.2.1 k hkN).1]
            by_cases x : kd k = 0
            · rw [if_pos x, if_pos x]
              by_cases x2 : y = 0
              · rw [if_pos x2, if_pos x2]
              · rw [if_neg x2, if_neg x2]
            · rw [if_neg x, if_neg x]
              by_cases x2 : y = 1
              · rw [if_pos x2, if_pos x2]
              · rw [if_neg x2, if_neg x2]
        show (if 0 ≤ lg_cmp (u (kcol kn kc k)) (v (kcol kn kc k)) then fX10_byKeys_p1_91 n τ (nI k) 0 else fX10_byKeys_p1_91 n τ (nI k) 1) = _
        rw [h91, h91]
        by_cases y : 0 ≤ lg_cmp (u (kcol kn kc k)) (v (kcol kn kc k))
        · rw [if_pos y, if_pos y]
        · rw [if_neg y, if_neg y]
  unfold fX10_byKeys_p1_0 fX10_byKeys_p1_18 cmpK
  rw [h7, h6]
  by_cases e : kn = 0
  · rw [if_pos (show nI kn = 0 by rw [e]; rfl)]
    have := key w 0 n w (by rw [if_pos e]) (by omega) (by omega)
    rw [if_pos e]
    exact this
  · rw [if_neg (nI_ne0 (by omega) (by omega))]
    have := key kn 0 n kn (by rw [if_neg e]) (by omega) (by omega)
    rw [if_neg e]
    exact this
theorem m_byKeys_p14 {n w kn : Nat} {τ : zS} {kc kd : Nat → Int32} {p q : Int32} {u v : Nat → Int64} (hn : 300 < n) (hw4 : w ≤ 4) (hk4 : kn ≤ 4) (h7 : zI τ 7 = nI kn) (h6 : zI τ 6 = nI w) (hK : JK w kn (zA τ 8) (zA τ 9) kc kd) (hu : ∀ c, c < w → zin (p + nI c) 5 = true ∧ zL τ 3 (p + nI c).toNatClampNeg = u c) (hv : ∀ c, c < w → zin (q + nI c) 12800 = true ∧ zL τ 0 (q + nI c).toNatClampNeg = v c) : fX10_byKeys_p14_0 n τ p q = some (cmpK w kn kc kd u v) := by
  have hcol : ∀ k, k < kn → ∃ c, c < w ∧ kc k = nI c := fun k hk => (hK.1 k hk).2
  have key : ∀ (r k n1 N : Nat), N = (if kn = 0 then w else kn) → k + r = N → r < n1 → zb (zlp (fX10_byKeys_p14_L23_23 n τ p q (nI N)) n1 (nI k)) (fun b8 => Sum.elim (fun b8 => (some 0)) (fun b8 => (if 0 ≤ (lg_cmp b8.2.1 b8.2.2) then (fX10_byKeys_p14_91 n τ b8.1 0) else (fX10_byKeys_p14_91 n τ b8.1 1))) b8) = some (kcmp u v (kcol kn kc) (kdn kn kd) r k) := by
    intro r
    induction r with
    | zero =>
      intro k n1 N hN hk hn1
      obtain ⟨n1, rfl⟩ : ∃ n', n1 = n' + 1 := ⟨n1 - 1, by omega⟩
      have e1 : fX10_byKeys_p14_L23_23 n τ p q (nI N) (nI k) = some (.inr (.inl ())) := by
        unfold fX10_byKeys_p14_L23_23
        have hN4 : N ≤ 4 := by rw [hN]; by_cases e : kn = 0 <;> simp [e] <;> omega
        exact if_pos (nI_le (by omega) (by omega))
      unfold zlp
      rw [e1]
      rfl
    | succ r ih =>
      intro k n1 N hN hk hn1
      obtain ⟨n1, rfl⟩ : ∃ n', n1 = n' + 1 := ⟨n1 - 1, by omega⟩
      have hN4 : N ≤ 4 := by rw [hN]; by_cases e : kn = 0 <;> simp [e] <;> omega
      have hkN : k < (if kn = 0 then w else kn) := by rw [← hN]; omega
      have hc := kcol_lt hw4 hcol hkN
      have e1 : fX10_byKeys_p14_L23_23 n τ p q (nI N) (nI k) = (if lg_cmp (u (kcol kn kc k)) (v (kcol kn kc k)) = 0 then some (.inl (nI (k + 1))) else some (.inr (.inr (nI k, u (kcol kn kc k), v (kcol kn kc k))))) := by
        unfold fX10_byKeys_p14_L23_23 fX10_byKeys_p14_L23_49
        rw [if_neg (show ¬ nI N ≤ nI k from fun q => by rw [nI_leI (by omega) (by omega)] at q; omega), h7]
        by_cases e : kn = 0
        · subst e
          have hkc : kcol 0 kc k = k := rfl
          rw [hkc] at hc ⊢
          rw [if_pos (show nI 0 = 0 by decide), zg_t (hu k hc).1, zg_t (hv k hc).1, (hu k hc).2, (hv k hc).2, nI_1]
        · rw [if_neg (show ¬ nI kn = 0 from nI_ne0 (by omega) (by omega)), zg_in (show k < 4 by omega) (by decide), nI_clamp (show k < 2 ^ 31 by omega)]
          rw [if_neg e] at hkN
          obtain ⟨hk1, c, hc1, hc2⟩ := hK.1 k hkN
          have hkc : kcol kn kc k = c := by
            unfold kcol
            rw [if_neg e, hc2, nI_clamp (by omega)]
          rw [hk1, hc2, hkc, zg_t (hu c hc1).1, zg_t (hv c hc1).1, (hu c hc1).2, (hv c hc1).2, nI_1]
      unfold zlp kcmp
      rw [e1]
      by_cases z : lg_cmp (u (kcol kn kc k)) (v (kcol kn kc k)) = 0
      · rw [if_pos z, if_pos z]
        exact ih (k + 1) n1 N hN (by omega) (by omega)
      · rw [if_neg z, if_neg z]
        have h91 : ∀ y : Int32, fX10_byKeys_p14_91 n τ (nI k) y = some (if y = kdn kn kd k then 1 else -1) := by
          intro y
          unfold fX10_byKeys_p14_91 fX10_byKeys_p14_112 fX10_byKeys_p14_113 kdn
          rw [h7]
          by_cases e : kn = 0
          · rw [if_pos (show nI kn ≤ 0 by rw [e]; decide), if_pos e]
            by_cases x : y = 0
            · rw [if_pos x, if_pos x]
            · rw [if_neg x, if_neg x]
          · rw [if_neg e] at hkN
            rw [if_neg (nI_nle (by omega) (by omega)), if_neg e, zg_in (by omega) (by decide), nI_clamp (by omega), (hK.2.1 k hkN).1]
            by_cases x : kd k = 0
            · rw [if_pos x, if_pos x]
              by_cases x2 : y = 0
              · rw [if_pos x2, if_pos x2]
              · rw [if_neg x2, if_neg x2]
            · rw [if_neg x, if_neg x]
              by_cases x2 : y = 1
              · rw [if_pos x2, if_pos x2]
              · rw [if_neg x2, if_neg x2]
        show (if 0 ≤ lg_cmp (u (kcol kn kc k)) (v (kcol kn kc k)) then fX10_byKeys_p14_91 n τ (nI k) 0 else fX10_byKeys_p14_91 n τ (nI k) 1) = _
        rw [h91, h91]
        by_cases y : 0 ≤ lg_cmp (u (kcol kn kc k)) (v (kcol kn kc k))
        · rw [if_pos y, if_pos y]
        · rw [if_neg y, if_neg y]
  unfold fX10_byKeys_p14_0 fX10_byKeys_p14_18 cmpK
  rw [h7, h6]
  by_cases e : kn = 0
  · rw [if_pos (show nI kn = 0 by rw [e]; rfl)]
    have := key w 0 n w (by rw [if_pos e]) (by omega) (by omega)
    rw [if_pos e]
    exact this
  · rw [if_neg (nI_ne0 (by omega) (by omega))]
    have := key kn 0 n kn (by rw [if_neg e]) (by omega) (by omega)
    rw [if_neg e]
    exact this
