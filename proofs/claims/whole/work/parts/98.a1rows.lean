/-! rows as lists; loops where one side leaves a turn earlier -/
theorem zlp_sk {α β α' β' : Type} {body : α → Option (α ⊕ β)} {body' : α' → Option (α' ⊕ β')} (P : Nat → α → α' → Prop) (Q : β → β' → Prop) (hstep : ∀ m a a', P m a a' → (∃ c c' m', m' < m ∧ body a = some (.inl c) ∧ body' a' = some (.inl c') ∧ P m' c c') ∨ (∃ b b', body a = some (.inr b) ∧ body' a' = some (.inr b') ∧ Q b b') ∨ (∃ b c' b', body a = some (.inr b) ∧ body' a' = some (.inl c') ∧ body' c' = some (.inr b') ∧ Q b b')) : ∀ (n m : Nat) (a : α) (a' : α'), m + 1 < n → P m a a' → ∃ b b', zlp body n a = some b ∧ zlp body' n a' = some b' ∧ Q b b' := by
  intro n
  induction n with
  | zero => intro m a a' h; omega
  | succ n ih =>
    intro m a a' hm hP
    unfold zlp
    rcases hstep m a a' hP with ⟨c, c', m', h1, h2, h3, h4⟩ | ⟨b, b', h1, h2, h3⟩ | ⟨b, c', b', h1, h2, h3, h4⟩
    · rw [h2, h3]
      exact ih m' c c' (by omega) h4
    · rw [h1, h2]
      exact ⟨b, b', rfl, rfl, h3⟩
    · rw [h1, h2]
      obtain ⟨k, rfl⟩ : ∃ k, n = k + 1 := ⟨n - 1, by omega⟩
      refine ⟨b, b', rfl, ?_, h4⟩
      show zlp body' (k + 1) c' = some b'
      unfold zlp
      rw [h3]
def rwL {α : Type} (g : α → Nat) (l : List α) (u : Int32) (f : Nat → Int32) : Prop := u = nI l.length ∧ ∀ (j : Nat) (x : α), l[j]? = some x → f j = nI (g x)
theorem rl_get {α : Type} {g : α → Nat} {l : List α} {u : Int32} {f : Nat → Int32} {n ln j : Nat} {x : α} (h : rwL g l u f) (hx : l[j]? = some x) (hl : l.length ≤ ln) (hln : ln ≤ 200) : fX6_get_0 n ln (zrv u f) (nI j) = some (nI (g x)) := by
  rw [c_get (m := l.length) h.1 (List.getElem?_eq_some_iff.mp hx).1 hl (by omega), h.2 j x hx]
theorem rl_clear {α : Type} {g : α → Nat} {f : Nat → Int32} : rwL (α := α) g [] 0 f := ⟨rfl, fun j x h => by cases h⟩
theorem rl_add {α : Type} {g : α → Nat} {l : List α} {u : Int32} {f : Nat → Int32} {n ln : Nat} {x : α} (h : rwL g l u f) (hl : l.length < ln) (hln : ln ≤ 200) : ∃ s, fX6_add_0 n ln (zrv u f) (nI (g x)) = some s ∧ rwL g (l ++ [x]) (zI s 0) (zA s 0) := by
  rw [h.1, c_add hl hln]
  refine ⟨_, rfl, ?_, fun j y hj => ?_⟩
  · show nI (l.length + 1) = _
    rw [List.length_append]
    rfl
  · show upd f l.length (nI (g x)) j = _
    rw [upd_at]
    rcases Nat.lt_or_ge j l.length with q | q
    · rw [List.getElem?_append_left q] at hj
      rw [if_neg (by omega)]
      exact h.2 j y hj
    · have h2 := (List.getElem?_eq_some_iff.mp hj).1
      rw [List.length_append] at h2
      have h3 : j = l.length := by simp only [List.length_cons, List.length_nil] at h2; omega
      rw [h3, List.getElem?_append_right (Nat.le_refl _), Nat.sub_self] at hj
      rw [if_pos h3]
      cases hj
      rfl
theorem rl_remove {α : Type} {g : α → Nat} {l : List α} {u : Int32} {f : Nat → Int32} {n ln i : Nat} (hn : 300 < n) (h : rwL g l u f) (hi : i < l.length) (hl : l.length ≤ ln) (hln : ln ≤ 200) : ∃ s, fX6_removeAt_0 n ln (zrv u f) (nI i) = some s ∧ rwL g (l.eraseIdx i) (zI s 0) (zA s 0) := by
  rw [h.1, c_removeAt hn hi hl hln]
  refine ⟨_, rfl, ?_, fun j y hj => ?_⟩
  · show nI (l.length - 1) = _
    rw [List.length_eraseIdx_of_lt hi]
  · have hjl := (List.getElem?_eq_some_iff.mp hj).1
    rw [List.length_eraseIdx_of_lt hi] at hjl
    rw [er_get] at hj
    show rmF f i l.length j = _
    unfold rmF
    by_cases c : j < i
    · rw [if_pos c] at hj
      rw [if_neg (by omega)]
      exact h.2 j y hj
    · rw [if_neg c] at hj
      rw [if_pos (by omega)]
      exact h.2 (j + 1) y hj
theorem rl_set {α : Type} {g : α → Nat} {l : List α} {u : Int32} {f : Nat → Int32} {n ln i : Nat} {x : α} (h : rwL g l u f) (hi : i < l.length) (hl : l.length ≤ ln) (hln : ln ≤ 200) : ∃ s, fX6_set_0 n ln (zrv u f) (nI i) (nI (g x)) = some s ∧ rwL g (l.set i x) (zI s 0) (zA s 0) := by
  unfold fX6_set_0
  rw [show zI (zrv u f) 0 = u from rfl, h.1, if_neg (nI_nn (by omega)), if_neg (show ¬ nI l.length ≤ nI i from fun q => by rw [nI_leI (by omega) (by omega)] at q; omega), if_neg (show ¬ nI ln ≤ nI i from fun q => by rw [nI_leI (by omega) (by omega)] at q; omega), zg_in (by omega) (by omega), nI_clamp (by omega)]
  refine ⟨_, rfl, ?_, fun j y hj => ?_⟩
  · show nI l.length = _
    rw [List.length_set]
  · show upd f i (nI (g x)) j = _
    rw [upd_at]
    by_cases c : j = i
    · rw [c, List.getElem?_set_self hi] at hj
      rw [if_pos c]
      cases hj
      rfl
    · rw [List.getElem?_set_ne (by omega)] at hj
      rw [if_neg c]
      exact h.2 j y hj
abbrev hdP : Nat × List Nat × Nat → Nat := fun p => p.2.1.headD 0
abbrev flP : Nat × List Nat × Nat → Nat := fun p => p.1
theorem SH_rl {ps : List (Nat × List Nat × Nat)} {σ τ : zS} : SH ps σ τ ↔ (rwL hdP ps (zI σ 32) (zA σ 16) ∧ rwL flP ps (zI τ 4) (zA τ 7)) :=
  ⟨fun h => ⟨⟨h.1, h.2.1⟩, h.2.2.1, h.2.2.2⟩, fun h => ⟨h.1.1, h.1.2, h.2.1, h.2.2⟩⟩
theorem take_app_erase {α : Type} {l d : List α} {m : Nat} (h : m < l.length) : (l.take (m + 1) ++ d).eraseIdx m = l.take m ++ d := by
  have e := take_snocG (List.getElem?_eq_getElem h)
  rw [e, List.append_assoc, List.eraseIdx_append_of_length_le (by rw [List.length_take]; omega), List.length_take, show m - min m l.length = 0 by omega]
  rfl
/-- a group is gathered: the class -/
theorem c_fillG {n nb sz mm i k : Nat} {k1 : Int32} {ps : List (Nat × List Nat × Nat)} {σ : zS} (hn : 300 < n) (hnb : nb ≤ 200) (hr : rwL hdP ps (zI σ 32) (zA σ 16)) (hl : ps.length ≤ nb) (hik : i + k ≤ ps.length) (hk : k ≤ 8) (h29 : zI σ 29 = 0) :
    ∃ σ', zlp (fX9_mergeInGroups_L45_45 n nb sz mm k1 (nI i) (nI k)) n (0, σ) = some σ' ∧ rwL hdP ((ps.drop i).take k) (zI σ' 29) (zA σ' 10) ∧ zfr [29] [10] [] σ σ' := by
  have hlp := zlp_tot (body := fX9_mergeInGroups_L45_45 n nb sz mm k1 (nI i) (nI k)) (fun m a => ∃ j σ1, a = (nI j, σ1) ∧ j ≤ k ∧ m = k - j ∧ rwL hdP ((ps.drop i).take j) (zI σ1 29) (zA σ1 10) ∧ zfr [29] [10] [] σ σ1)
    (fun σ' => rwL hdP ((ps.drop i).take k) (zI σ' 29) (zA σ' 10) ∧ zfr [29] [10] [] σ σ')
    (fun m a hP => by
      obtain ⟨j, σ1, rfl, hj, rfl, h1, h2⟩ := hP
      unfold fX9_mergeInGroups_L45_45
      dsimp only
      by_cases c : j = k
      · right
        rw [if_pos (nI_le (show k ≤ j by omega) (by omega))]
        exact ⟨_, rfl, c ▸ h1, h2⟩
      · left
        have hlt : i + j < ps.length := by omega
        have e := List.getElem?_eq_getElem hlt
        generalize ps[i + j] = p at e
        have e2 : (ps.drop i)[j]? = some p := by rw [List.getElem?_drop]; exact e
        obtain ⟨s, s1, s2⟩ := rl_add (n := n) (ln := 8) (x := p) h1 (by rw [List.length_take, List.length_drop]; omega) (by decide)
        rw [if_neg (show ¬ nI k ≤ nI j from fun q => by rw [nI_leI (by omega) (by omega)] at q; omega), nI_add, h2.1 32 (by decide), h2.2.1 16 (by decide), zb_s (rl_get hr e hl hnb), zb_s s1, nI_1]
        refine ⟨_, k - (j + 1), by omega, rfl, j + 1, _, rfl, by omega, rfl, ?_, zfr_A (by decide) (zfr_I (by decide) h2)⟩
        rw [take_snocG e2]
        exact s2)
    n k (0, σ) (by omega) ⟨0, σ, rfl, Nat.zero_le _, rfl, by rw [List.take_zero, h29]; exact rl_clear, zfr_r⟩
  obtain ⟨σ', h1, h2, h3⟩ := hlp
  exact ⟨σ', h1, h2, h3⟩
/-- the same: the reference -/
theorem m_fillG {n i k : Nat} {ps : List (Nat × List Nat × Nat)} {τ : zS} (hn : 300 < n) (hr : rwL flP ps (zI τ 4) (zA τ 7)) (hl : ps.length ≤ 200) (hik : i + k ≤ ps.length) (hk : k ≤ 8) :
    ∃ τ', zlp (fX10_mergeRow_L2_2 n (nI i) (nI k)) n (0, τ) = some τ' ∧ (∀ (j : Nat) (p : Nat × List Nat × Nat), ((ps.drop i).take k)[j]? = some p → zA τ' 13 j = nI p.1) ∧ zfr [] [13] [] τ τ' := by
  have hlp := zlp_tot (body := fX10_mergeRow_L2_2 n (nI i) (nI k)) (fun m a => ∃ j τ1, a = (nI j, τ1) ∧ j ≤ k ∧ m = k - j ∧ (∀ (x : Nat) (p : Nat × List Nat × Nat), x < j → ps[i + x]? = some p → zA τ1 13 x = nI p.1) ∧ zfr [] [13] [] τ τ1)
    (fun τ' => (∀ (x : Nat) (p : Nat × List Nat × Nat), x < k → ps[i + x]? = some p → zA τ' 13 x = nI p.1) ∧ zfr [] [13] [] τ τ')
    (fun m a hP => by
      obtain ⟨j, τ1, rfl, hj, rfl, h1, h2⟩ := hP
      unfold fX10_mergeRow_L2_2
      dsimp only
      by_cases c : j = k
      · right
        rw [if_pos (nI_le (show k ≤ j by omega) (by omega))]
        exact ⟨_, rfl, c ▸ h1, h2⟩
      · left
        have hlt : i + j < ps.length := by omega
        have e := List.getElem?_eq_getElem hlt
        generalize ps[i + j] = p at e
        rw [if_neg (show ¬ nI k ≤ nI j from fun q => by rw [nI_leI (by omega) (by omega)] at q; omega), nI_add, zg_in (by omega) (by decide), zg_in (by omega) (by decide), nI_clamp (by omega), nI_clamp (by omega), h2.2.1 7 (by decide), hr.2 _ p e, nI_1]
        refine ⟨_, k - (j + 1), by omega, rfl, j + 1, _, rfl, by omega, rfl, fun x p' hx hp' => ?_, zfr_A (by decide) h2⟩
        show upd (zA τ1 13) j (nI p.1) x = _
        rw [upd_at]
        by_cases q : x = j
        · rw [q, e] at hp'
          cases hp'
          rw [if_pos q]
        · rw [if_neg q]
          exact h1 x p' (by omega) hp')
    n k (0, τ) (by omega) ⟨0, τ, rfl, Nat.zero_le _, rfl, fun x p hx => absurd hx (by omega), zfr_r⟩
  obtain ⟨τ', h1, h2, h3⟩ := hlp
  refine ⟨τ', h1, fun j p hj => ?_, h3⟩
  have hjl := (List.getElem?_eq_some_iff.mp hj).1
  rw [List.length_take] at hjl
  rw [List.getElem?_take_of_lt (by omega), List.getElem?_drop] at hj
  exact h2 j p (by omega) hj
