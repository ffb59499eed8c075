/-! ===== best: the runs with the fewest records ===== -/
def selN {α : Type} (F : Nat → Int32) (ps : List α) : Nat → List α
  | 0 => []
  | m + 1 => selN F ps m ++ (if F m = 0 then [] else (ps[m]?).toList)
def unsN {α : Type} (F : Nat → Int32) (ps : List α) : Nat → List α
  | 0 => []
  | m + 1 => unsN F ps m ++ (if F m = 0 then (ps[m]?).toList else [])
def cF (F : Nat → Int32) : Nat → Nat
  | 0 => 0
  | m + 1 => cF F m + (if F m = 0 then 0 else 1)
theorem selN_len {α : Type} {F : Nat → Int32} {ps : List α} : ∀ {m : Nat}, m ≤ ps.length → (selN F ps m).length = cF F m := by
  intro m
  induction m with
  | zero => intro _; rfl
  | succ m ih =>
    intro h
    unfold selN cF
    rw [List.length_append, ih (by omega)]
    by_cases c : F m = 0
    · rw [if_pos c, if_pos c]; rfl
    · rw [if_neg c, if_neg c, List.getElem?_eq_getElem (by omega)]; rfl
theorem sel_perm {α : Type} {F : Nat → Int32} {ps : List α} : ∀ {m : Nat}, m ≤ ps.length → (ps.take m).Perm (selN F ps m ++ unsN F ps m) := by
  intro m
  induction m with
  | zero => intro _; exact List.Perm.refl _
  | succ m ih =>
    intro h
    have e := List.getElem?_eq_getElem (show m < ps.length by omega)
    have h1 := ih (by omega)
    unfold selN unsN
    rw [take_snocG e, e]
    by_cases c : F m = 0
    · rw [if_pos c, if_pos c, List.append_nil, ← List.append_assoc]
      exact List.Perm.append_right _ h1
    · rw [if_neg c, if_neg c, List.append_nil]
      refine (List.Perm.append_right _ h1).trans ?_
      rw [List.append_assoc, List.append_assoc]
      exact List.Perm.append_left _ List.perm_append_comm
theorem cF_le {F : Nat → Int32} : ∀ {m : Nat}, cF F m ≤ m := by
  intro m
  induction m with
  | zero => exact Nat.le_refl _
  | succ m ih =>
    unfold cF
    by_cases c : F m = 0
    · rw [if_pos c]; omega
    · rw [if_neg c]; omega
theorem cF_all {F : Nat → Int32} : ∀ {m : Nat}, (∀ j, j < m → ¬ F j = 0) → cF F m = m := by
  intro m
  induction m with
  | zero => intro _; rfl
  | succ m ih =>
    intro h
    unfold cF
    rw [ih (fun j hj => h j (by omega)), if_neg (h m (by omega))]
theorem cF_0 {F : Nat → Int32} : ∀ {m : Nat}, (∀ j, j < m → F j = 0) → cF F m = 0 := by
  intro m
  induction m with
  | zero => intro _; rfl
  | succ m ih =>
    intro h
    unfold cF
    rw [ih (fun j hj => h j (by omega)), if_pos (h m (by omega))]
theorem cF_congr {F G : Nat → Int32} : ∀ {m : Nat}, (∀ j, j < m → F j = G j) → cF F m = cF G m := by
  intro m
  induction m with
  | zero => intro _; rfl
  | succ m ih =>
    intro h
    unfold cF
    rw [ih (fun j hj => h j (by omega)), h m (by omega)]
theorem cF_upd {F : Nat → Int32} {i : Nat} (hi : F i = 0) : ∀ {m : Nat}, i < m → cF (upd F i 1) m = cF F m + 1 := by
  intro m
  induction m with
  | zero => intro h; omega
  | succ m ih =>
    intro h
    unfold cF
    by_cases c : i = m
    · subst c
      rw [cF_congr (G := F) (fun j hj => by rw [upd_at, if_neg (by omega)]), upd_at, if_pos rfl, if_neg (by decide), if_pos hi]
    · rw [ih (by omega), upd_at, if_neg (show ¬ m = i by omega), Nat.add_right_comm]
theorem selN_congr {α : Type} {F G : Nat → Int32} {ps : List α} : ∀ {m : Nat}, (∀ j, j < m → F j = G j) → selN F ps m = selN G ps m ∧ unsN F ps m = unsN G ps m := by
  intro m
  induction m with
  | zero => intro _; exact ⟨rfl, rfl⟩
  | succ m ih =>
    intro h
    unfold selN unsN
    obtain ⟨h1, h2⟩ := ih (fun j hj => h j (by omega))
    rw [h1, h2, h m (by omega)]
    exact ⟨rfl, rfl⟩
/-- the fewest of those that aren't chosen -/
theorem j_fewest {n nb sz mm : Nat} {k1 k2 k3 : Int32} {ps : List (Nat × List Nat × Nat)} {σ τ : zS} (hn : 300 < n) (hnb : nb ≤ 200) (hl : ps.length ≤ nb) (hs : SH ps σ τ) (hC : ∀ p ∈ ps, p.2.1.headD 0 < nb ∧ zA σ 4 (p.2.1.headD 0) = nI p.2.2 ∧ p.1 < 208 ∧ zA τ 5 p.1 = nI p.2.2) (hFG : ∀ j, j < ps.length → zA σ 17 j = zA τ 17 j) (hun : cF (zA σ 17) ps.length < ps.length) :
    ∃ j, zlp (fX9_chooseFewest_L48_48 n nb sz mm σ (nI ps.length) k3) n (-1, 0) = some (nI j) ∧ zlp (fX10_choose_L35_35 n τ k1 k2) n (-1, 0) = some (nI j) ∧ j < ps.length ∧ zA σ 17 j = 0 := by
  obtain ⟨hrc, hrm⟩ := SH_rl.mp hs
  have hloop := zlp_two (body := fX9_chooseFewest_L48_48 n nb sz mm σ (nI ps.length) k3) (body' := fX10_choose_L35_35 n τ k1 k2)
    (fun m a a' => ∃ x i, a = (x, nI i) ∧ a' = (x, nI i) ∧ i ≤ ps.length ∧ m = ps.length - i ∧ ((x = -1 ∧ ∀ j, j < i → ¬ zA σ 17 j = 0) ∨ ∃ j, j < ps.length ∧ x = nI j ∧ zA σ 17 j = 0))
    (fun b b' => b = b' ∧ ∃ j, j < ps.length ∧ b = nI j ∧ zA σ 17 j = 0)
    (fun m a a' hP => by
      obtain ⟨x, i, rfl, rfl, hi, rfl, hx⟩ := hP
      unfold fX9_chooseFewest_L48_48 fX10_choose_L35_35 fX9_chooseFewest_L48_105 fX9_chooseFewest_L48_109 fX10_choose_L35_84 fX10_choose_L35_87
      dsimp only
      rw [hrm.1]
      by_cases c : i = ps.length
      · right
        rw [if_pos (nI_le (show ps.length ≤ i by omega) (by omega)), if_pos (nI_le (show ps.length ≤ i by omega) (by omega))]
        refine ⟨x, x, rfl, rfl, rfl, ?_⟩
        rcases hx with ⟨-, h2⟩ | h
        · rw [c] at h2
          rw [cF_all h2] at hun
          omega
        · exact h
      · left
        have hil : i < ps.length := by omega
        have e := List.getElem?_eq_getElem hil
        generalize ps[i] = p at e
        obtain ⟨p1, p2, p3, p4⟩ := hC p (List.mem_of_getElem? e)
        rw [if_neg (show ¬ nI ps.length ≤ nI i from fun q => by rw [nI_leI (by omega) (by omega)] at q; omega), if_neg (show ¬ nI ps.length ≤ nI i from fun q => by rw [nI_leI (by omega) (by omega)] at q; omega), nI_1, nI_clamp (show i < 2 ^ 31 by omega), ← hFG i hil]
        simp only [zg_in (show i < nb by omega) (show nb < 2 ^ 31 by omega), zg_in (show i < 208 by omega) (show 208 < 2 ^ 31 by decide)]
        by_cases d : zA σ 17 i = 0
        · rw [if_pos d, if_pos d]
          have take : ∃ c c' m', m' < ps.length - i ∧ (some (Sum.inl (nI i, nI (i + 1))) : Option ((Int32 × Int32) ⊕ Int32)) = some (.inl c) ∧ (some (Sum.inl (nI i, nI (i + 1))) : Option ((Int32 × Int32) ⊕ Int32)) = some (.inl c') ∧ ∃ x i, c = (x, nI i) ∧ c' = (x, nI i) ∧ i ≤ ps.length ∧ m' = ps.length - i ∧ ((x = -1 ∧ ∀ j, j < i → ¬ zA σ 17 j = 0) ∨ ∃ j, j < ps.length ∧ x = nI j ∧ zA σ 17 j = 0) :=
            ⟨_, _, ps.length - (i + 1), by omega, rfl, rfl, nI i, i + 1, rfl, rfl, by omega, rfl, Or.inr ⟨i, hil, rfl, d⟩⟩
          rcases hx with ⟨rfl, h2⟩ | ⟨j, hj, rfl, hj2⟩
          · rw [if_pos rfl, if_pos (show (-1 : Int32) < 0 by decide)]
            exact take
          · have e2 := List.getElem?_eq_getElem hj
            generalize ps[j] = p' at e2
            obtain ⟨r1, r2, r3, r4⟩ := hC p' (List.mem_of_getElem? e2)
            rw [if_neg (show ¬ nI j = -1 from nI_m1 (by omega)), if_neg (show ¬ nI j < 0 from nI_nn (by omega)), zb_s (rl_get hrc e hl hnb), zb_s (c_heldBy hnb p1), p2, zb_s (rl_get hrc e2 hl hnb), zb_s (c_heldBy hnb r1), r2, hrm.2 i p e, zg_in p3 (by decide), zg_in (show j < 208 by omega) (by decide), nI_clamp (show j < 2 ^ 31 by omega), hrm.2 j p' e2, zg_in r3 (by decide), nI_clamp (show flP p < 2 ^ 31 by show p.1 < _; omega), nI_clamp (show flP p' < 2 ^ 31 by show p'.1 < _; omega), p4, r4]
            by_cases z : nI p'.2.2 ≤ nI p.2.2
            · rw [if_pos z]
              exact ⟨_, _, ps.length - (i + 1), by omega, rfl, rfl, nI j, i + 1, rfl, rfl, by omega, rfl, Or.inr ⟨j, hj, rfl, hj2⟩⟩
            · rw [if_neg z]
              exact take
        · rw [if_neg d, if_neg d]
          refine ⟨_, _, ps.length - (i + 1), by omega, rfl, rfl, x, i + 1, rfl, rfl, by omega, rfl, ?_⟩
          rcases hx with ⟨h1, h2⟩ | h
          · refine Or.inl ⟨h1, fun j hj => ?_⟩
            by_cases z : j = i
            · rw [z]; exact d
            · exact h2 j (by omega)
          · exact Or.inr h)
    n ps.length (-1, 0) (-1, 0) (by omega) ⟨-1, 0, rfl, rfl, Nat.zero_le _, rfl, Or.inl ⟨rfl, fun j hj => absurd hj (by omega)⟩⟩
  obtain ⟨b, b', h1, h2, rfl, j, h3, rfl, h4⟩ := hloop
  exact ⟨j, h1, h2, h3, h4⟩
