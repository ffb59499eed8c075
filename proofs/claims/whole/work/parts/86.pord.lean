/-! what stays as it is in a step; records at their places -/
def SC (nb sz mm w kn : Nat) (σ τ : zS) : Prop :=
  (zI τ 1 = nI nb ∧ zI τ 2 = nI sz ∧ zI τ 3 = nI mm ∧ zI σ 1 = nI sz ∧ zI σ 27 = nI mm ∧ zTok σ) ∧
  (1 ≤ w ∧ w ≤ 4 ∧ zI τ 6 = nI w ∧ zI σ 9 = nI w ∧ zI σ 10 = nI (w + 1) ∧ zI σ 11 = nI (sz / (w + 1))) ∧
  (kn ≤ 4 ∧ zI τ 7 = nI kn ∧ zI σ 8 = nI kn ∧ JK w kn (zA τ 8) (zA τ 9) (zA σ 1) (zA σ 2)) ∧
  (zI τ 8 = zI σ 0 ∧ (zI σ 0 = 0 ∨ zI σ 0 = 1 ∨ zI σ 0 = 2))
theorem SC_fr {nb sz mm w kn : Nat} {σ τ σ' τ' : zS} {I A L I' A' L' : List Nat} (h : SC nb sz mm w kn σ τ) (f : zfr I A L σ σ') (f' : zfr I' A' L' τ τ') (hI : ∀ k ∈ [0, 1, 8, 9, 10, 11, 27], ¬ k ∈ I) (hA : ∀ k ∈ [1, 2], ¬ k ∈ A) (hI' : ∀ k ∈ [1, 2, 3, 6, 7, 8], ¬ k ∈ I') (hA' : ∀ k ∈ [8, 9], ¬ k ∈ A') : SC nb sz mm w kn σ' τ' := by
  unfold SC zTok
  rw [f.2.2.2.1, f.1 0 (hI 0 (by decide)), f.1 1 (hI 1 (by decide)), f.1 8 (hI 8 (by decide)), f.1 9 (hI 9 (by decide)), f.1 10 (hI 10 (by decide)), f.1 11 (hI 11 (by decide)), f.1 27 (hI 27 (by decide)), f.2.1 1 (hA 1 (by decide)), f.2.1 2 (hA 2 (by decide)), f'.1 1 (hI' 1 (by decide)), f'.1 2 (hI' 2 (by decide)), f'.1 3 (hI' 3 (by decide)), f'.1 6 (hI' 6 (by decide)), f'.1 7 (hI' 7 (by decide)), f'.1 8 (hI' 8 (by decide)), f'.2.1 8 (hA' 8 (by decide)), f'.2.1 9 (hA' 9 (by decide))]
  exact h
def recC (cell : Nat → Nat → Int64) (w b i : Nat) : Nat → Int64 := fun c => cell b (i * (w + 1) + c)
theorem r_in {sz w i c : Nat} (hi : i < sz / (w + 1)) (hc : c ≤ w) : i * (w + 1) + c < sz := by
  have h2 := Nat.mul_le_mul_right (w + 1) (show i + 1 ≤ sz / (w + 1) from hi)
  have h3 : sz / (w + 1) * (w + 1) ≤ sz := Nat.div_mul_le_self _ _
  rw [Nat.succ_mul] at h2
  omega
theorem c_cellR {n nb sz mm w b i c : Nat} {σ : zS} (hnb : nb ≤ 200) (hsz : sz ≤ 64) (hb : b < nb) (hi : i < sz / (w + 1)) (hc : c ≤ w) : fX0_cell_0 n nb sz mm σ (nI (b * sz + i * (w + 1)) + nI c) = some (recC (dC nb sz σ).1 w b i c) := by
  rw [nI_add, Nat.add_assoc]
  exact c_cell hnb hsz hb (r_in hi hc)
theorem m_cellR {nb sz w b i c : Nat} {τ : zS} (hnb : nb ≤ 200) (hsz : sz ≤ 64) (hb : b < nb) (hi : i < sz / (w + 1)) (hc : c ≤ w) : zin (nI (64 * b + i * (w + 1)) + nI c) 12800 = true ∧ zL τ 0 (nI (64 * b + i * (w + 1)) + nI c).toNatClampNeg = recC (dM nb sz τ).1 w b i c := by
  have h1 := r_in hi hc
  rw [nI_add, Nat.add_assoc]
  refine ⟨zin_nI (by omega) (by decide), ?_⟩
  rw [nI_clamp (by omega)]
  show _ = if b < nb ∧ i * (w + 1) + c < sz then zL τ 0 (64 * b + (i * (w + 1) + c)) else 0
  rw [if_pos ⟨hb, h1⟩]
def bfK (w kn : Nat) (kc kd : Nat → Int32) (u v : Nat → Int64) : Int32 := if cmpK w kn kc kd u v < 0 then 1 else if cmpK w kn kc kd u v = 0 then (if 0 ≤ lg_cmp (u w) (v w) then 0 else 1) else 0
theorem SC_col {nb sz mm w kn : Nat} {σ τ : zS} (h : SC nb sz mm w kn σ τ) : ∀ k, k < kn → ∃ c, c < w ∧ zA σ 1 k = nI c := fun k hk => (h.2.2.1.2.2.2.1 k hk).2
theorem c_isAlike {n nb sz mm w kn b i b2 i2 : Nat} {σ τ : zS} (hn : 300 < n) (hnb : nb ≤ 200) (hsz : sz ≤ 64) (hS : SC nb sz mm w kn σ τ) (hb : b < nb) (hi : i < sz / (w + 1)) (hb2 : b2 < nb) (hi2 : i2 < sz / (w + 1)) : fX5_isAlike_0 n nb sz mm σ (nI (b * sz + i * (w + 1))) (nI (b2 * sz + i2 * (w + 1))) = some (if cmpK w kn (zA σ 1) (zA σ 2) (recC (dC nb sz σ).1 w b i) (recC (dC nb sz σ).1 w b2 i2) = 0 then 1 else 0) := by
  unfold fX5_isAlike_0
  rw [zb_s (c_compareKeys (w := w) (kn := kn) hn hS.2.1.2.1 hS.2.2.1.1 hS.2.2.1.2.2.1 hS.2.1.2.2.2.1 (SC_col hS) (fun c hc => c_cellR hnb hsz hb hi (by omega)) (fun c hc => c_cellR hnb hsz hb2 hi2 (by omega)))]
  by_cases e : cmpK w kn (zA σ 1) (zA σ 2) (recC (dC nb sz σ).1 w b i) (recC (dC nb sz σ).1 w b2 i2) = 0
  · rw [if_pos e, if_pos e]
  · rw [if_neg e, if_neg e]
theorem c_isBefore {n nb sz mm w kn b i b2 i2 : Nat} {σ τ : zS} (hn : 300 < n) (hnb : nb ≤ 200) (hsz : sz ≤ 64) (hS : SC nb sz mm w kn σ τ) (hb : b < nb) (hi : i < sz / (w + 1)) (hb2 : b2 < nb) (hi2 : i2 < sz / (w + 1)) : fX5_isBefore_0 n nb sz mm σ (nI (b * sz + i * (w + 1))) (nI (b2 * sz + i2 * (w + 1))) = some (bfK w kn (zA σ 1) (zA σ 2) (recC (dC nb sz σ).1 w b i) (recC (dC nb sz σ).1 w b2 i2)) := by
  unfold fX5_isBefore_0 fX5_isBefore_45 bfK
  rw [zb_s (c_compareKeys (w := w) (kn := kn) hn hS.2.1.2.1 hS.2.2.1.1 hS.2.2.1.2.2.1 hS.2.1.2.2.2.1 (SC_col hS) (fun c hc => c_cellR hnb hsz hb hi (by omega)) (fun c hc => c_cellR hnb hsz hb2 hi2 (by omega)))]
  generalize cmpK w kn (zA σ 1) (zA σ 2) (recC (dC nb sz σ).1 w b i) (recC (dC nb sz σ).1 w b2 i2) = x
  by_cases e : x < 0
  · rw [if_pos e, if_pos e]
  · rw [if_neg e, if_neg e]
    by_cases e2 : x = 0
    · rw [if_pos e2, if_pos e2, hS.2.1.2.2.2.1, zb_s (c_cellR hnb hsz hb hi (Nat.le_refl _)), zb_s (c_cellR hnb hsz hb2 hi2 (Nat.le_refl _))]
      by_cases e3 : 0 ≤ lg_cmp (recC (dC nb sz σ).1 w b i w) (recC (dC nb sz σ).1 w b2 i2 w)
      · rw [if_pos e3, if_pos e3]
      · rw [if_neg e3, if_neg e3]
    · rw [if_neg e2, if_neg e2]
theorem m_before {n nb sz mm w kn b i b2 i2 : Nat} {σ τ : zS} (hn : 300 < n) (hnb : nb ≤ 200) (hsz : sz ≤ 64) (hS : SC nb sz mm w kn σ τ) (hb : b < nb) (hi : i < sz / (w + 1)) (hb2 : b2 < nb) (hi2 : i2 < sz / (w + 1)) : fX10_before_0 n τ (nI (64 * b + i * (w + 1))) (nI (64 * b2 + i2 * (w + 1))) = some (bfK w kn (zA σ 1) (zA σ 2) (recC (dM nb sz τ).1 w b i) (recC (dM nb sz τ).1 w b2 i2)) := by
  unfold fX10_before_0 bfK
  rw [zb_s (m_byKeys_p1 (w := w) (kn := kn) hn hS.2.1.2.1 hS.2.2.1.1 hS.2.2.1.2.1 hS.2.1.2.2.1 hS.2.2.1.2.2.2 (fun c hc => m_cellR hnb hsz hb hi (by omega)) (fun c hc => m_cellR hnb hsz hb2 hi2 (by omega)))]
  generalize cmpK w kn (zA σ 1) (zA σ 2) (recC (dM nb sz τ).1 w b i) (recC (dM nb sz τ).1 w b2 i2) = x
  by_cases e2 : x = 0
  · obtain ⟨q1, q2⟩ := m_cellR (τ := τ) hnb hsz hb hi (Nat.le_refl w)
    obtain ⟨q3, q4⟩ := m_cellR (τ := τ) hnb hsz hb2 hi2 (Nat.le_refl w)
    rw [if_pos e2, if_neg (show ¬ x < 0 by rw [e2]; decide), if_pos e2, hS.2.1.2.2.1, zg_t q1, zg_t q3, q2, q4]
    by_cases e3 : 0 ≤ lg_cmp (recC (dM nb sz τ).1 w b i w) (recC (dM nb sz τ).1 w b2 i2 w)
    · rw [if_pos e3, if_pos e3]
    · rw [if_neg e3, if_neg e3]
  · rw [if_neg e2]
    by_cases e : x < 0
    · rw [if_pos e, if_neg (i_nle.mpr e)]
    · rw [if_neg e, if_neg e2, if_pos (i_nlt.mp e)]
def smF (md : Int32) (kn w : Nat) (kc : Nat → Int32) : Int32 := if md = 2 ∧ 0 < kn ∧ ∀ k, k < kn → ¬ kc k = nI (w - 1) then 1 else 0
theorem c_canSum {n nb sz mm w kn : Nat} {σ : zS} (hn : 300 < n) (hk4 : kn ≤ 4) (hw1 : 1 ≤ w) (h8 : zI σ 8 = nI kn) (h9 : zI σ 9 = nI w) : fX5_canSum_0 n nb sz mm σ = some (smF 2 kn w (zA σ 1)) := by
  unfold fX5_canSum_0 smF
  rw [h8]
  by_cases e : kn = 0
  · rw [if_pos (show nI kn ≤ 0 by rw [e]; decide), if_neg (fun q => by omega)]
  · rw [if_neg (nI_nle (by omega) (by omega)), h9, show (1 : Int32) = nI 1 from rfl, nI_sub hw1]
    obtain ⟨v, hv, hor⟩ := c_hasKey (nb := nb) (sz := sz) (mm := mm) (σ := σ) (x := nI (w - 1)) hn hk4 h8
    rw [zb_s hv]
    rcases hor with ⟨rfl, k, hk, hk2⟩ | ⟨rfl, hall⟩
    · rw [if_neg (by decide), if_neg (fun q => q.2.2 k hk hk2)]
    · rw [if_pos rfl, if_pos ⟨rfl, by omega, hall⟩]
theorem m_sums {n nb sz mm w kn : Nat} {σ τ : zS} (hn : 300 < n) (hS : SC nb sz mm w kn σ τ) : fX10_sums_0 n τ = some (smF (zI σ 0) kn w (zA σ 1)) := by
  obtain ⟨-, hW, hK, hmo⟩ := hS
  have key : ∀ (r k n1 : Nat) (y : Int32), (y = 0 ∨ y = 1) → k + r = kn → r < n1 → zlp (fX10_sums_L23_23 n τ) n1 (y, nI k) = some (if y = 1 ∧ ∀ j, j < kn → k ≤ j → ¬ zA σ 1 j = nI (w - 1) then 1 else 0) := by
    intro r
    induction r with
    | zero =>
      intro k n1 y hy hk hn1
      obtain ⟨n1, rfl⟩ : ∃ n', n1 = n' + 1 := ⟨n1 - 1, by omega⟩
      have e1 : fX10_sums_L23_23 n τ (y, nI k) = some (.inr y) := by
        unfold fX10_sums_L23_23
        dsimp only
        rw [hK.2.1, if_pos (nI_le (by omega) (by omega))]
      unfold zlp
      rw [e1]
      dsimp only
      rcases hy with rfl | rfl
      · rw [if_neg (fun q => absurd q.1 (by decide))]
      · rw [if_pos ⟨rfl, fun j h1 h2 => by omega⟩]
    | succ r ih =>
      intro k n1 y hy hk hn1
      obtain ⟨n1, rfl⟩ : ∃ n', n1 = n' + 1 := ⟨n1 - 1, by omega⟩
      have e1 : fX10_sums_L23_23 n τ (y, nI k) = some (.inl ((if y = 1 ∧ ¬ zA σ 1 k = nI (w - 1) then 1 else 0), nI (k + 1))) := by
        unfold fX10_sums_L23_23 fX10_sums_L23_54 fX10_sums_L23_55
        dsimp only
        have hkn : k < kn := by omega
        rw [hK.2.1, if_neg (show ¬ nI kn ≤ nI k from fun q => by rw [nI_leI (by omega) (by omega)] at q; omega)]
        rcases hy with rfl | rfl
        · rw [if_pos rfl, if_neg (fun q => absurd q.1 (by decide)), nI_1]
        · rw [if_neg (by decide), zg_in (by omega) (by decide), nI_clamp (by omega), (hK.2.2.2.1 k hkn).1, hW.2.2.1, nI_1, show (1 : Int32) = nI 1 from rfl, nI_sub hW.1]
          by_cases z : zA σ 1 k = nI (w - 1)
          · rw [if_pos z, if_neg (fun q => q.2 z)]
          · rw [if_neg z, if_pos ⟨rfl, z⟩]
      unfold zlp
      rw [e1]
      dsimp only
      have hy2 : ∀ P : Prop, [Decidable P] → (if P then (1 : Int32) else 0) = 0 ∨ (if P then (1 : Int32) else 0) = 1 := fun P _ => by
        by_cases e : P
        · rw [if_pos e]; exact Or.inr rfl
        · rw [if_neg e]; exact Or.inl rfl
      rw [ih (k + 1) n1 _ (hy2 _) (by omega) (by omega)]
      congr 1
      by_cases z : y = 1 ∧ ¬ zA σ 1 k = nI (w - 1)
      · rw [if_pos z]
        by_cases q : ∀ j, j < kn → k + 1 ≤ j → ¬ zA σ 1 j = nI (w - 1)
        · rw [if_pos ⟨rfl, q⟩, if_pos ⟨z.1, fun j h1 h2 => by
            by_cases e : j = k
            · rw [e]; exact z.2
            · exact q j h1 (by omega)⟩]
        · rw [if_neg (fun x => q x.2), if_neg (fun x => q (fun j h1 h2 => x.2 j h1 (by omega)))]
      · rw [if_neg z, if_neg (fun q => absurd q.1 (by decide)), if_neg (fun q => z ⟨q.1, q.2 k (by omega) (Nat.le_refl _)⟩)]
  have h20 : ∀ y : Int32, (y = 0 ∨ y = 1) → fX10_sums_20 n τ y = some (if y = 1 ∧ ∀ j, j < kn → 0 ≤ j → ¬ zA σ 1 j = nI (w - 1) then 1 else 0) := by
    intro y hy
    unfold fX10_sums_20
    refine (zb_s (key kn 0 n y hy (by omega) (by omega))).trans ?_
    by_cases z : y = 1 ∧ ∀ j, j < kn → 0 ≤ j → ¬ zA σ 1 j = nI (w - 1)
    · rw [if_pos z, zg_t (by decide)]
    · rw [if_neg z, zg_t (by decide)]
  unfold fX10_sums_0 fX10_sums_19 smF
  rw [hmo.1, hK.2.1]
  by_cases e : zI σ 0 = 2
  · rw [if_pos e]
    by_cases e2 : kn = 0
    · rw [if_pos (show nI kn ≤ 0 by rw [e2]; decide), h20 0 (Or.inl rfl), if_neg (fun q => absurd q.1 (by decide)), if_neg (fun q => by omega)]
    · rw [if_neg (nI_nle (by omega) (by omega)), h20 1 (Or.inr rfl)]
      by_cases q : ∀ k, k < kn → ¬ zA σ 1 k = nI (w - 1)
      · rw [if_pos ⟨rfl, fun j h1 _ => q j h1⟩, if_pos ⟨e, by omega, q⟩]
      · rw [if_neg (fun x => q (fun j h1 => x.2 j h1 (Nat.zero_le _))), if_neg (fun x => q x.2.2)]
  · rw [if_neg e, h20 0 (Or.inl rfl), if_neg (fun q => absurd q.1 (by decide)), if_neg (fun q => e q.1)]
theorem c_beginStep {n nb sz mm w kn : Nat} {σ τ : zS} (hn : 300 < n) (hS : SC nb sz mm w kn σ τ) : ∃ σ', fX7_beginStep_0 n nb sz mm σ (zI σ 0) = some σ' ∧ zfr [18, 19, 20, 21, 22, 23, 24, 25, 26] [6, 7] [] σ σ' ∧ zI σ' 18 = (if zI σ 0 = 0 then 0 else 1) ∧ zI σ' 19 = smF (zI σ 0) kn w (zA σ 1) ∧ zI σ' 20 = 0 ∧ zI σ' 21 = -1 ∧ zI σ' 22 = -1 ∧ zI σ' 23 = -1 ∧ zI σ' 24 = 0 ∧ zI σ' 25 = 0 ∧ zI σ' 26 = 0 := by
  have h34 : ∀ (σ1 : zS) (y : Int32), (y = 0 ∨ y = 1) → fX7_beginStep_34 n nb sz mm σ1 y = some (sI (sI (sI (sI (sI (sA (sI (sA (sI (sI σ1 19 y) 25 0) 6 (zA σ1 6)) 26 0) 7 (zA σ1 7)) 20 0) 21 (-1)) 22 (-1)) 23 (-1)) 24 0) := by
    intro σ1 y hy
    unfold fX7_beginStep_34 fX6_clear_0 fX7_beginRun_0
    rcases hy with rfl | rfl
    · rw [zg_t (by decide)]
      rfl
    · rw [zg_t (by decide)]
      rfl
  have h10 : ∀ y : Int32, (y = 0 ∨ y = 1) → fX7_beginStep_10 n nb sz mm σ (zI σ 0) y = fX7_beginStep_34 n nb sz mm (sI σ 18 y) (smF (zI σ 0) kn w (zA σ 1)) := by
    intro y hy
    unfold fX7_beginStep_10 fX7_beginStep_33
    have hz : zbo y = true := by
      rcases hy with rfl | rfl
      · decide
      · decide
    rw [zg_t hz]
    by_cases e : zI σ 0 = 2
    · rw [if_pos e, zb_s (c_canSum (w := w) (kn := kn) (σ := sI σ 18 y) hn hS.2.2.1.1 hS.2.1.1 hS.2.2.1.2.2.1 hS.2.1.2.2.2.1), e, show zA (sI σ 18 y) 1 = zA σ 1 from rfl]
      unfold smF
      by_cases z : (2 : Int32) = 2 ∧ 0 < kn ∧ ∀ k, k < kn → ¬ zA σ 1 k = nI (w - 1)
      · rw [if_pos z, if_neg (by decide)]
      · rw [if_neg z, if_pos rfl]
    · rw [if_neg e]
      unfold smF
      rw [if_neg (fun q => e q.1)]
  have hsm : smF (zI σ 0) kn w (zA σ 1) = 0 ∨ smF (zI σ 0) kn w (zA σ 1) = 1 := by
    unfold smF
    by_cases z : zI σ 0 = 2 ∧ 0 < kn ∧ ∀ k, k < kn → ¬ zA σ 1 k = nI (w - 1)
    · rw [if_pos z]; exact Or.inr rfl
    · rw [if_neg z]; exact Or.inl rfl
  have hgo : ∀ y : Int32, fX7_beginStep_34 n nb sz mm (sI σ 18 y) (smF (zI σ 0) kn w (zA σ 1)) = _ := fun y => h34 _ _ hsm
  have hfr : ∀ y : Int32, zfr [18, 19, 20, 21, 22, 23, 24, 25, 26] [6, 7] [] σ (sI (sI (sI (sI (sI (sA (sI (sA (sI (sI (sI σ 18 y) 19 (smF (zI σ 0) kn w (zA σ 1))) 25 0) 6 (zA (sI σ 18 y) 6)) 26 0) 7 (zA (sI σ 18 y) 7)) 20 0) 21 (-1)) 22 (-1)) 23 (-1)) 24 0) := fun y =>
    zfr_I (by decide) (zfr_I (by decide) (zfr_I (by decide) (zfr_I (by decide) (zfr_I (by decide) (zfr_A (by decide) (zfr_I (by decide) (zfr_A (by decide) (zfr_I (by decide) (zfr_I (by decide) (zfr_I (by decide) zfr_r))))))))))
  unfold fX7_beginStep_0
  by_cases e : zI σ 0 = 0
  · rw [if_pos e, if_pos e, h10 0 (Or.inl rfl), hgo 0]
    exact ⟨_, rfl, hfr 0, rfl, rfl, rfl, rfl, rfl, rfl, rfl, rfl, rfl⟩
  · rw [if_neg e, if_neg e, h10 1 (Or.inr rfl), hgo 1]
    exact ⟨_, rfl, hfr 1, rfl, rfl, rfl, rfl, rfl, rfl, rfl, rfl, rfl⟩
