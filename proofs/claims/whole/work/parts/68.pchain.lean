/-! chains: the k-th block -/
def chAt (bl : List Nat) (k : Nat) : Int32 := match bl[k]? with
  | some b => nI b
  | none => -1
theorem chAt_some {bl : List Nat} {k b : Nat} (h : bl[k]? = some b) : chAt bl k = nI b := by unfold chAt; rw [h]
theorem chAt_none {bl : List Nat} {k : Nat} (h : bl.length ≤ k) : chAt bl k = -1 := by unfold chAt; rw [List.getElem?_eq_none h]
theorem chAt_m1 {bl : List Nat} {k : Nat} (hb : ∀ b ∈ bl, b < 200) : chAt bl k = -1 ↔ bl.length ≤ k := by
  constructor
  · intro h
    rcases Nat.lt_or_ge k bl.length with c | c
    · have e := List.getElem?_eq_getElem c
      rw [chAt_some e] at h
      exact absurd h (nI_m1 (by have := hb _ (List.mem_of_getElem? e); omega))
    · exact c
  · exact chAt_none
theorem chC_step {nx : Nat → Int32} : ∀ {bl : List Nat} {i b : Nat}, chC nx bl → bl[i]? = some b → nx b = chAt bl (i + 1) := by
  intro bl
  induction bl with
  | nil => intro i b _ h; cases h
  | cons a t ih =>
    intro i b hc h
    cases t with
    | nil =>
      have hi : i = 0 := by
        have := (List.getElem?_eq_some_iff.mp h).1
        simp only [List.length_cons, List.length_nil] at this
        omega
      subst hi
      cases h
      rw [chAt_none (by simp)]
      exact hc
    | cons c r =>
      cases i with
      | zero =>
        cases h
        rw [chAt_some (b := c) rfl]
        exact hc.1
      | succ i =>
        have := ih (i := i) (b := b) hc.2 h
        rw [this]
        rfl
theorem head_at {bl : List Nat} (h : bl ≠ []) : bl[0]? = some (bl.headD 0) := by
  cases bl with
  | nil => exact absurd rfl h
  | cons a t => rfl
theorem m_blockOf {n f k cnt : Nat} {τ : zS} {bl : List Nat} (hn : 300 < n) (hf : f < 208) (hk : k < 300) (hF : JF f bl cnt (zA τ 3) (zA τ 4) (zA τ 5) (zA τ 2)) (hb : ∀ b ∈ bl, b < 200) : fX10_blockOf_0 n τ (nI f) (nI k) = some (chAt bl k) := by
  unfold fX10_blockOf_0
  rw [zg_in hf (by decide), nI_clamp (by omega)]
  have h0 : zA τ 3 f = chAt bl 0 := by
    by_cases e : bl = []
    · rw [(hF.1 e).1, e]; rfl
    · rw [(hF.2.1 e).1, chAt_some (head_at e)]
  rw [h0]
  have hl := zlp_tot (body := fX10_blockOf_L10_10 n τ (nI k)) (fun m a => ∃ j, a = (chAt bl j, nI j) ∧ j ≤ k ∧ m = k - j) (fun r => r = chAt bl k) (fun m a hP => by
    obtain ⟨j, rfl, hj, rfl⟩ := hP
    unfold fX10_blockOf_L10_10
    dsimp only
    by_cases c1 : j = k
    · right
      exact ⟨chAt bl j, by rw [if_pos (nI_le (by omega) (by omega))], by rw [c1]⟩
    · rw [if_neg (fun q => by rw [nI_leI (by omega) (by omega)] at q; omega)]
      by_cases c2 : chAt bl j = -1
      · right
        have := (chAt_m1 hb).mp c2
        exact ⟨chAt bl j, by rw [if_pos c2], by rw [c2, chAt_none (by omega)]⟩
      · left
        have hlt : j < bl.length := Nat.lt_of_not_le (fun q => c2 ((chAt_m1 hb).mpr q))
        have e := List.getElem?_eq_getElem hlt
        have hbb := hb _ (List.mem_of_getElem? e)
        refine ⟨(chAt bl (j + 1), nI (j + 1)), k - (j + 1), by omega, ?_, j + 1, rfl, by omega, rfl⟩
        rw [if_neg c2, chAt_some e, zg_in hbb (by decide), nI_clamp (by omega), chC_step hF.2.2.2 e, nI_1]) n k (chAt bl 0, 0) (by omega) ⟨0, rfl, Nat.zero_le _, rfl⟩
  obtain ⟨r, hr, hq⟩ := hl
  rw [zb_s hr, hq]
theorem c_behind {n nb sz mm b : Nat} {σ : zS} (hnb : nb ≤ 200) (hb : b < nb) : fX1_behind_0 n nb sz mm σ (nI b) = some (zA σ 3 b) := by
  unfold fX1_behind_0
  rw [if_neg (nI_nn (by omega)), if_neg (fun q => by rw [nI_leI (by omega) (by omega)] at q; omega), zg_in hb (by omega), nI_clamp (by omega)]
theorem c_behind_m1 {n nb sz mm : Nat} {σ : zS} : fX1_behind_0 n nb sz mm σ (-1) = some (-1) := by
  unfold fX1_behind_0
  rw [if_pos (by decide)]
theorem c_blockAt {n nb sz mm k : Nat} {σ : zS} {bl : List Nat} (hn : 300 < n) (hnb : nb ≤ 200) (hk : k < 300) (hne : bl ≠ []) (hc : chC (zA σ 3) bl) (hb : ∀ b ∈ bl, b < nb) (hlen : bl.length ≤ nb) : fX1_blockAt_0 n nb sz mm σ (nI (bl.headD 0)) (nI k) = some (chAt bl k) := by
  unfold fX1_blockAt_0
  rw [if_neg (nI_nn (by omega))]
  by_cases c0 : k < nb
  · rw [if_pos (nI_lt c0 (by omega))]
    have h0 : nI (bl.headD 0) = chAt bl 0 := (chAt_some (head_at hne)).symm
    rw [h0]
    have e0 : (chAt bl 0, (0 : Int32)) = (fun j => (chAt bl j, nI j)) 0 := rfl
    rw [e0]
    refine zb_s (zlp_for (β := Int32) (fun j => (chAt bl j, nI j)) (chAt bl k) k 0 n (fun j _ hj => ?_) ?_ (by omega))
    · unfold fX1_blockAt_L20_20
      dsimp only
      rw [if_neg (fun q => by rw [nI_leI (by omega) (by omega)] at q; omega), nI_1]
      rcases Nat.lt_or_ge j bl.length with c1 | c1
      · have e := List.getElem?_eq_getElem c1
        rw [chAt_some e, zb_s (c_behind hnb (hb _ (List.mem_of_getElem? e))), chC_step hc e]
      · rw [chAt_none c1, zb_s c_behind_m1, chAt_none (by omega)]
    · unfold fX1_blockAt_L20_20
      dsimp only
      rw [Nat.zero_add, if_pos (nI_le (Nat.le_refl _) (by omega))]
  · rw [if_neg (fun q => c0 ((nI_ltI (by omega) (by omega)).mp q)), chAt_none (by omega)]
theorem j_blk {nb per : Nat} {inp : List Nat} {rs : List (List Nat × Nat)} {used : Nat → Bool} (h : JB nb per inp rs used) {r : List Nat × Nat} (hr : r ∈ rs) : (∀ b ∈ r.1, b < nb) ∧ r.1.length ≤ nb := by
  have h1 : ∀ b ∈ r.1, b < nb := fun b hb => (h.2.1 b (List.mem_append_right _ (List.mem_flatMap.mpr ⟨r, hr, hb⟩))).1
  have h2 : r.1.Nodup := by
    have h3 := (List.nodup_append.mp h.1).2.1
    clear h1
    induction rs with
    | nil => cases hr
    | cons a t ih =>
      rw [List.flatMap_cons, List.nodup_append] at h3
      rcases List.mem_cons.mp hr with e | hr
      · rw [e]; exact h3.1
      · exact ih ⟨by
          have h4 := h.1
          rw [List.flatMap_cons] at h4
          refine List.Nodup.sublist ?_ h4
          exact List.Sublist.append_left (List.sublist_append_right _ _) _, fun b hb => h.2.1 b (by
          rcases List.mem_append.mp hb with h5 | h5
          · exact List.mem_append_left _ h5
          · exact List.mem_append_right _ (by rw [List.flatMap_cons]; exact List.mem_append_right _ h5)), fun r hr => h.2.2 r (List.mem_cons_of_mem _ hr)⟩ hr h3.2.1
  exact ⟨h1, nd_le nb _ h2 h1⟩
theorem j_inp {nb per : Nat} {inp : List Nat} {rs : List (List Nat × Nat)} {used : Nat → Bool} (h : JB nb per inp rs used) : (∀ b ∈ inp, b < nb) ∧ inp.length ≤ nb :=
  ⟨fun b hb => (h.2.1 b (List.mem_append_left _ hb)).1, by have := j_many h; omega⟩
