theorem zlp_l {α β : Type} {body : α → Option (α ⊕ β)} {m : Nat} {a c : α} (h : body a = some (.inl c)) : zlp body (m + 1) a = zlp body m c := by
  rw [zlp, h]
theorem zlp_r {α β : Type} {body : α → Option (α ⊕ β)} {m : Nat} {a : α} {b : β} (h : body a = some (.inr b)) : zlp body (m + 1) a = some b := by
  rw [zlp, h]
theorem zlp_eqb {α β : Type} {body : α → Option (α ⊕ β)} {m : Nat} {a a' : α} (h : body a = body a') : zlp body m a = zlp body m a' := by
  cases m with
  | zero => rfl
  | succ m => rw [zlp, zlp, h]
theorem m_clr {n H : Nat} {τ : zS} (hn : 300 < n) (h24 : zI τ 24 = nI H) (hH : H ≤ 64) : ∃ τ', zlp (fX10_choosing_L129_129 n) n (0, τ) = some τ' ∧ zfr [] [11] [] τ τ' ∧ ∀ j, j < H → zA τ' 11 j = 0 := by
  refine zlp_tot (body := fX10_choosing_L129_129 n) (fun m a => ∃ i τ1, a = (nI i, τ1) ∧ m = H - i ∧ i ≤ H ∧ zfr [] [11] [] τ τ1 ∧ ∀ j, j < i → zA τ1 11 j = 0) (fun b => zfr [] [11] [] τ b ∧ ∀ j, j < H → zA b 11 j = 0) (fun m a hP => ?_) n H (0, τ) (by omega) ⟨0, τ, rfl, rfl, Nat.zero_le _, zfr_r, fun j hj => absurd hj (by omega)⟩
  obtain ⟨i, τ1, rfl, rfl, h1, h2, h3⟩ := hP
  unfold fX10_choosing_L129_129
  dsimp only
  rw [h2.1 24 (by decide), h24]
  by_cases c : i = H
  · right
    rw [if_pos (nI_le (show H ≤ i by omega) (by omega))]
    exact ⟨_, rfl, h2, fun j hj => h3 j (by omega)⟩
  · left
    rw [if_neg (show ¬ nI H ≤ nI i from fun q => by rw [nI_leI (by omega) (by omega)] at q; omega), zg_in (show i < 64 by omega) (by decide), nI_clamp (by omega), nI_1, nar0]
    refine ⟨_, H - (i + 1), by omega, rfl, i + 1, _, rfl, rfl, by omega, zfr_A (by decide) h2, fun j hj => ?_⟩
    show upd (zA τ1 11) i 0 j = 0
    rw [upd_at]
    by_cases y : j = i
    · rw [if_pos y]
    · rw [if_neg y]
      exact h3 j (by omega)
theorem swp {g : Nat → Nat × Nat} {s j : Nat} (hj : j < s + 1) (hin : injE g (s + 1)) : injE (fun i => if i = j then g s else g i) s ∧ ∀ y, (∃ i, i < s ∧ (if i = j then g s else g i) = y) ↔ ((∃ i, i < s + 1 ∧ g i = y) ∧ ¬ y = g j) := by
  refine ⟨fun a b ha hb h => ?_, fun y => ⟨?_, ?_⟩⟩
  · dsimp only at h
    by_cases y1 : a = j
    · by_cases y2 : b = j
      · omega
      · rw [if_pos y1, if_neg y2] at h
        have := hin s b (by omega) (by omega) h
        omega
    · by_cases y2 : b = j
      · rw [if_neg y1, if_pos y2] at h
        have := hin a s (by omega) (by omega) h
        omega
      · rw [if_neg y1, if_neg y2] at h
        exact hin a b (by omega) (by omega) h
  · rintro ⟨i, h1, h2⟩
    by_cases y1 : i = j
    · rw [if_pos y1] at h2
      refine ⟨⟨s, by omega, h2⟩, fun q => ?_⟩
      have := hin s j (by omega) hj (by rw [h2, q])
      omega
    · rw [if_neg y1] at h2
      exact ⟨⟨i, by omega, h2⟩, fun q => y1 (hin i j (by omega) hj (by rw [h2, q]))⟩
  · rintro ⟨⟨i, h1, h2⟩, h3⟩
    have hij : ¬ i = j := fun q => h3 (by rw [← h2, q])
    by_cases y1 : i = s
    · exact ⟨j, by omega, by rw [if_pos rfl, ← y1]; exact h2⟩
    · exact ⟨i, by omega, by rw [if_neg hij]; exact h2⟩
theorem swx {g : Nat → Nat × Nat} {s j : Nat} {x : Nat × Nat} (hj : j < s) (hin : injE g s) (hx : ∀ i, i < s → ¬ (g i).1 = x.1) : injE (fun i => if i = j then x else g i) s ∧ ∀ y, (∃ i, i < s ∧ (if i = j then x else g i) = y) ↔ (y = x ∨ ((∃ i, i < s ∧ g i = y) ∧ ¬ y = g j)) := by
  refine ⟨fun a b ha hb h => ?_, fun y => ⟨?_, ?_⟩⟩
  · dsimp only at h
    by_cases y1 : a = j
    · by_cases y2 : b = j
      · omega
      · rw [if_pos y1, if_neg y2] at h
        exact absurd h.symm (hx b hb)
    · by_cases y2 : b = j
      · rw [if_neg y1, if_pos y2] at h
        exact absurd h (hx a ha)
      · rw [if_neg y1, if_neg y2] at h
        exact hin a b ha hb h
  · rintro ⟨i, h1, h2⟩
    by_cases y1 : i = j
    · rw [if_pos y1] at h2
      exact Or.inl h2.symm
    · rw [if_neg y1] at h2
      exact Or.inr ⟨⟨i, h1, h2⟩, fun q => y1 (hin i j h1 hj (by rw [h2, q]))⟩
  · rintro (h | ⟨⟨i, h1, h2⟩, h3⟩)
    · exact ⟨j, hj, by rw [if_pos rfl, h]⟩
    · exact ⟨i, h1, by rw [if_neg (show ¬ i = j from fun q => h3 (by rw [← h2, q]))]; exact h2⟩
/-- turns and flags -/
def RS (t s : Nat) (e g : Nat → Nat × Nat) : Prop := (∀ j, j < s → t ≤ (e j).2) ∧ ∀ i f, (∃ j, j < s ∧ e j = (i, t + f)) ↔ (∃ j, j < s ∧ g j = (i, f))
def CHQ (n nb sz mm w kn N : Nat) (tk ib : List Nat) (us : Nat → Bool) (cl : Nat → Nat → Int64) (P0 : Prop) (ps : List zP) (σb τb : zS) (b : zS ⊕ zS ⊕ zS) (b' : zS) : Prop :=
  (∃ σf r σ', b = .inl σf ∧ fX7_endRun_0 n nb sz mm σf = some (r, σ') ∧ ((r = 1 ∧ ∃ qs O, FBR nb sz mm w kn tk ib us cl P0 ps qs O σb τb σ' b' ∧ ∀ x ∈ O, x < N) ∨ (r = 0 ∧ FBD nb sz tk us cl P0 ps σb τb σ' b'))) ∨ (∃ σ1, (b = .inr (.inl σ1) ∨ b = .inr (.inr σ1)) ∧ FBD nb sz tk us cl P0 ps σb τb σ1 b')
theorem RS_le {t s : Nat} {e g : Nat → Nat × Nat} {pm : Nat → Nat} {τ : zS} (h : RS t s e g) (hM : HM s pm g τ) : ∀ j, j < s → (e j).2 ≤ t + 1 := fun j hj => by
  have h1 := h.1 j hj
  obtain ⟨j2, h2, h3⟩ := (h.2 (e j).1 ((e j).2 - t)).mp ⟨j, hj, Prod.ext rfl (by show _ = t + ((e j).2 - t); omega)⟩
  have h4 := (hM.2 j2 h2).2.2
  rw [h3] at h4
  dsimp only at h4
  omega
theorem RS_g {t s k : Nat} {e g : Nat → Nat × Nat} (h : RS t s e g) (he : ∀ j, j < s → (e j).1 < k) : ∀ j, j < s → (g j).1 < k := fun j hj => by
  obtain ⟨j2, h2, h3⟩ := (h.2 (g j).1 (g j).2).mpr ⟨j, hj, rfl⟩
  have := he j2 h2
  rw [h3] at this
  exact this
theorem c_fturn {n nb sz mm s : Nat} {pl : Nat → Nat} {e : Nat → Nat × Nat} {σ : zS} (hm : 0 < mm) (hmm : mm ≤ 64) (hs : 0 < s) (hs2 : s ≤ mm) (h : HP s pl e σ) : fX3_firstTurn_0 n nb sz mm σ = some (nI (e 0).2) := by
  unfold fX3_firstTurn_0
  rw [h.1, if_neg (nI_nle (by omega) (by omega)), if_neg (nI_nle (by omega) (by omega)), show (0 : Int32) = nI 0 from rfl, zg_in hm (by omega), nI_clamp (by omega), (h.2 0 hs).2]
