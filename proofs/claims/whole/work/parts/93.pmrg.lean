/-! ===== a merge: where each run stands ===== -/
def eU (e : Nat → Nat) (i : Nat) : Nat → Nat := fun j => if j = i then e j + 1 else e j
def gb (sz w : Nat) (p : Nat × List Nat × Nat) (x : Nat) : Nat := p.2.1.getD (x / (sz / (w + 1))) 0
def mS : List (Nat × List Nat × Nat) → (Nat → Nat) → Nat
  | [], _ => 0
  | p :: t, e => (p.2.2 - e 0) + mS t (fun j => e (j + 1))
def mR (nm : Nat × List Nat × Nat → List Int64) : List (Nat × List Nat × Nat) → (Nat → Nat) → List Int64
  | [], _ => []
  | p :: t, e => (nm p).drop (e 0) ++ mR nm t (fun j => e (j + 1))
theorem eU_s (e : Nat → Nat) (i : Nat) : (fun j => eU e (i + 1) (j + 1)) = eU (fun j => e (j + 1)) i := by
  funext j
  unfold eU
  by_cases h : j = i
  · rw [if_pos h, if_pos (by omega)]
  · rw [if_neg h, if_neg (by omega)]
theorem eU_0 (e : Nat → Nat) : (fun j => eU e 0 (j + 1)) = (fun j => e (j + 1)) := by
  funext j
  unfold eU
  rw [if_neg (by omega)]
theorem mS_upd : ∀ {gs : List (Nat × List Nat × Nat)} {e : Nat → Nat} {i : Nat} {p : Nat × List Nat × Nat}, gs[i]? = some p → e i < p.2.2 → mS gs e = mS gs (eU e i) + 1 := by
  intro gs
  induction gs with
  | nil => intro e i p h; cases h
  | cons a t ih =>
    intro e i p h he
    cases i with
    | zero =>
      cases h
      show (a.2.2 - e 0) + mS t (fun j => e (j + 1)) = (a.2.2 - eU e 0 0) + mS t (fun j => eU e 0 (j + 1)) + 1
      rw [eU_0, show eU e 0 0 = e 0 + 1 from if_pos rfl]
      omega
    | succ i =>
      show (a.2.2 - e 0) + mS t (fun j => e (j + 1)) = (a.2.2 - eU e (i + 1) 0) + mS t (fun j => eU e (i + 1) (j + 1)) + 1
      rw [eU_s, show eU e (i + 1) 0 = e 0 from if_neg (by omega), ih (e := fun j => e (j + 1)) (i := i) (p := p) h he]
      omega
theorem mS_0 : ∀ {gs : List (Nat × List Nat × Nat)} {e : Nat → Nat}, mS gs e = 0 → ∀ (i : Nat) (p : Nat × List Nat × Nat), gs[i]? = some p → p.2.2 ≤ e i := by
  intro gs
  induction gs with
  | nil => intro e _ i p h; cases h
  | cons a t ih =>
    intro e h i p hp
    have h2 : (a.2.2 - e 0) + mS t (fun j => e (j + 1)) = 0 := h
    cases i with
    | zero => cases hp; omega
    | succ i => exact ih (e := fun j => e (j + 1)) (by omega) i p hp
theorem mS_pos : ∀ {gs : List (Nat × List Nat × Nat)} {e : Nat → Nat}, 0 < mS gs e → ∃ (i : Nat) (p : Nat × List Nat × Nat), gs[i]? = some p ∧ e i < p.2.2 := by
  intro gs
  induction gs with
  | nil => intro e h; exact absurd h (by show ¬ 0 < 0; omega)
  | cons a t ih =>
    intro e h
    have h2 : 0 < (a.2.2 - e 0) + mS t (fun j => e (j + 1)) := h
    by_cases c : e 0 < a.2.2
    · exact ⟨0, a, rfl, c⟩
    · obtain ⟨i, p, h3, h4⟩ := ih (e := fun j => e (j + 1)) (by omega)
      exact ⟨i + 1, p, h3, h4⟩
theorem mR_0 {nm : Nat × List Nat × Nat → List Int64} : ∀ {gs : List (Nat × List Nat × Nat)}, mR nm gs (fun _ => 0) = gs.flatMap nm := by
  intro gs
  induction gs with
  | nil => rfl
  | cons a t ih =>
    show (nm a).drop 0 ++ mR nm t (fun _ => 0) = _
    rw [ih, List.drop_zero, List.flatMap_cons]
theorem mR_upd {nm : Nat × List Nat × Nat → List Int64} : ∀ {gs : List (Nat × List Nat × Nat)} {e : Nat → Nat} {i : Nat} {p : Nat × List Nat × Nat} {x : Int64}, gs[i]? = some p → (nm p)[e i]? = some x → (mR nm gs e).Perm (x :: mR nm gs (eU e i)) := by
  intro gs
  induction gs with
  | nil => intro e i p x h; cases h
  | cons a t ih =>
    intro e i p x h hx
    cases i with
    | zero =>
      cases h
      show ((nm a).drop (e 0) ++ mR nm t (fun j => e (j + 1))).Perm (x :: ((nm a).drop (eU e 0 0) ++ mR nm t (fun j => eU e 0 (j + 1))))
      obtain ⟨hlt, hx2⟩ := List.getElem?_eq_some_iff.mp hx
      rw [eU_0, show eU e 0 0 = e 0 + 1 from if_pos rfl, List.drop_eq_getElem_cons hlt, hx2]
      exact List.Perm.refl _
    | succ i =>
      show ((nm a).drop (e 0) ++ mR nm t (fun j => e (j + 1))).Perm (x :: ((nm a).drop (eU e (i + 1) 0) ++ mR nm t (fun j => eU e (i + 1) (j + 1))))
      rw [eU_s, show eU e (i + 1) 0 = e 0 from if_neg (by omega)]
      have h1 := List.Perm.append_left ((nm a).drop (e 0)) (ih (e := fun j => e (j + 1)) (i := i) (p := p) (x := x) h hx)
      exact h1.trans List.perm_middle
def MS (sz w k : Nat) (gs : List (Nat × List Nat × Nat)) (e : Nat → Nat) (σ τ : zS) : Prop :=
  (zI σ 29 = nI gs.length ∧ gs.length ≤ 8 ∧ ∀ (j : Nat) (p : Nat × List Nat × Nat), gs[j]? = some p → zA σ 10 j = nI (p.2.1.headD 0)) ∧
  ∀ (j : Nat) (p : Nat × List Nat × Nat), j < k → gs[j]? = some p → e j ≤ p.2.2 ∧ zA σ 12 j = nI (e j) ∧ zA τ 16 j = nI (p.2.2 - e j) ∧ (e j < p.2.2 → zA σ 11 j = nI (gb sz w p (e j)) ∧ zA σ 13 j = nI (gb sz w p (e j) * sz + e j % (sz / (w + 1)) * (w + 1)) ∧ zA τ 14 j = nI (gb sz w p (e j)) ∧ zA τ 15 j = nI (e j % (sz / (w + 1)))) ∧ (¬ e j < p.2.2 → zA σ 13 j = -1)
/-- what is known of a group's runs -/
def GF (nb sz w : Nat) (us : Nat → Bool) (gs : List (Nat × List Nat × Nat)) : Prop :=
  ∀ p ∈ gs, 1 ≤ p.1 ∧ p.1 < 208 ∧ ¬ p.2.1 = [] ∧ p.2.2 ≤ p.2.1.length * (sz / (w + 1)) ∧ 0 < p.2.2 ∧ p.2.1.length ≤ nb ∧ (∀ b ∈ p.2.1, b < nb ∧ us b = true)
def GC (gs : List (Nat × List Nat × Nat)) (σ τ : zS) : Prop :=
  ∀ p ∈ gs, chC (zA σ 3) p.2.1 ∧ zA σ 4 (p.2.1.headD 0) = nI p.2.2 ∧ JF p.1 p.2.1 p.2.2 (zA τ 3) (zA τ 4) (zA τ 5) (zA τ 2)
theorem gb_at {nb sz w x : Nat} {us : Nat → Bool} {gs : List (Nat × List Nat × Nat)} {p : Nat × List Nat × Nat} (hg : GF nb sz w us gs) (hper : 0 < sz / (w + 1)) (hp : p ∈ gs) (hx : x < p.2.2) : p.2.1[x / (sz / (w + 1))]? = some (gb sz w p x) ∧ gb sz w p x < nb ∧ us (gb sz w p x) = true := by
  obtain ⟨h1, h1', h2, h3, h4, h5, h6⟩ := hg p hp
  have hlt := j_div hper h3 hx
  have e : p.2.1[x / (sz / (w + 1))]? = some (gb sz w p x) := by
    unfold gb
    rw [List.getD_eq_getElem?_getD, List.getElem?_eq_getElem hlt]
    rfl
  exact ⟨e, h6 _ (List.mem_of_getElem? e)⟩
theorem nm_at {per w x cnt : Nat} {cell : Nat → Nat → Int64} {bl : List Nat} (hx : x < cnt) : (nmR per w cell bl cnt)[x]? = some (cell (bl.getD (x / per) 0) (x % per * (w + 1) + w)) := by
  unfold nmR
  rw [List.getElem?_map, List.getElem?_range hx]
  rfl
theorem p_max {sz w : Nat} (hs5 : 5 ≤ sz) (hsz : sz ≤ 64) (hw4 : w ≤ 4) : (if 1 < nI (sz / (w + 1)) then nI (sz / (w + 1)) else 1) = nI (sz / (w + 1)) := by
  have hper := p_per (w := w) hs5 hw4
  have hdv := Nat.div_le_self sz (w + 1)
  by_cases e : sz / (w + 1) = 1
  · rw [e, if_neg nI1_nlt]
    rfl
  · rw [if_pos (show (1 : Int32) < nI (sz / (w + 1)) from nI_lt (a := 1) (by omega) (by omega))]
/-- which is first -/
theorem j_first {n nb sz mm w kn : Nat} {us : Nat → Bool} {cl : Nat → Nat → Int64} {gs : List (Nat × List Nat × Nat)} {e : Nat → Nat} {σ τ : zS} (hn : 300 < n) (hnb : nb ≤ 200) (hs5 : 5 ≤ sz) (hsz : sz ≤ 64) (hS : SC nb sz mm w kn σ τ) (hd : dM nb sz τ = dC nb sz σ) (hg : GF nb sz w us gs) (h17 : zI τ 17 = 0) (hM : MS sz w gs.length gs e σ τ) :
    ∃ v, fX4_firstAtHand_0 n nb sz mm σ = some v ∧ fX10_firstOf_0 n τ (nI gs.length) = some v ∧ ((v = -1 ∧ ∀ (j : Nat) (p : Nat × List Nat × Nat), gs[j]? = some p → ¬ e j < p.2.2) ∨ ∃ (j : Nat) (p : Nat × List Nat × Nat), gs[j]? = some p ∧ v = nI j ∧ e j < p.2.2) := by
  have hper := p_per (w := w) hs5 hS.2.1.2.1
  obtain ⟨⟨g1, g2, g3⟩, hrow⟩ := hM
  have hloop := zlp_two (body := fX4_firstAtHand_L4_4 n nb sz mm σ) (body' := fX10_firstOf_L4_4 n τ (nI gs.length))
    (fun m a a' => ∃ x i, a = (x, nI i) ∧ a' = (x, nI i) ∧ i ≤ gs.length ∧ m = gs.length - i ∧ ((x = -1 ∧ ∀ (j : Nat) (p : Nat × List Nat × Nat), j < i → gs[j]? = some p → ¬ e j < p.2.2) ∨ ∃ (j : Nat) (p : Nat × List Nat × Nat), gs[j]? = some p ∧ x = nI j ∧ e j < p.2.2))
    (fun b b' => b = b' ∧ ((b = -1 ∧ ∀ (j : Nat) (p : Nat × List Nat × Nat), gs[j]? = some p → ¬ e j < p.2.2) ∨ ∃ (j : Nat) (p : Nat × List Nat × Nat), gs[j]? = some p ∧ b = nI j ∧ e j < p.2.2))
    (fun m a a' hP => by
      obtain ⟨x, i, rfl, rfl, hi, rfl, hx⟩ := hP
      unfold fX4_firstAtHand_L4_4 fX10_firstOf_L4_4 fX4_firstAtHand_L4_58 fX4_firstAtHand_L4_60 fX10_firstOf_L4_46 fX10_firstOf_L4_48 fX6_size_0
      dsimp only
      rw [zb_s (show some (zI (zrv (zI σ 29) (zA σ 10)) 0) = some (nI gs.length) from congrArg some g1)]
      by_cases c : i = gs.length
      · right
        rw [if_pos (nI_le (show gs.length ≤ i by omega) (by omega)), if_pos (nI_le (show gs.length ≤ i by omega) (by omega))]
        refine ⟨x, x, rfl, rfl, rfl, ?_⟩
        rcases hx with ⟨h1, h2⟩ | h
        · exact Or.inl ⟨h1, fun j p hj => h2 j p (by have := (List.getElem?_eq_some_iff.mp hj).1; omega) hj⟩
        · exact Or.inr h
      · left
        have hil : i < gs.length := by omega
        obtain ⟨p, hp⟩ : ∃ p, gs[i]? = some p := ⟨gs[i], List.getElem?_eq_getElem hil⟩
        have hpm := List.mem_of_getElem? hp
        obtain ⟨r1, r2, r3, r4, r5⟩ := hrow i p hil hp
        obtain ⟨f1, f1', f2, f3, f4, f5, f6⟩ := hg p hpm
        have hcb : p.2.2 ≤ 200 * 64 := Nat.le_trans f3 (Nat.mul_le_mul (by omega) (Nat.le_trans (Nat.div_le_self _ _) hsz))
        rw [if_neg (show ¬ nI gs.length ≤ nI i from fun q => by rw [nI_leI (by omega) (by omega)] at q; omega), if_neg (show ¬ (8 : Int32) ≤ nI i from fun q => by rw [show (8 : Int32) = nI 8 from rfl, nI_leI (by omega) (by omega)] at q; omega), if_neg (show ¬ nI gs.length ≤ nI i from fun q => by rw [nI_leI (by omega) (by omega)] at q; omega), if_pos h17, nI_clamp (show i < 2 ^ 31 by omega), r3, nI_1]
        simp only [zg_in (show i < 8 by omega) (show 8 < 2 ^ 31 by decide)]
        by_cases d : e i < p.2.2
        · obtain ⟨s1, s2, s3, s4⟩ := r4 d
          obtain ⟨b1, b2, b3⟩ := gb_at hg hper hpm d
          have hmod := Nat.mod_lt (e i) hper
          have hpl := mul_lt b2 (r_in (c := 0) hmod (Nat.zero_le _))
          have hbig := mul_big hnb hsz
          rw [s2, if_neg (show ¬ nI (gb sz w p (e i) * sz + e i % (sz / (w + 1)) * (w + 1)) = -1 from nI_m1 (by omega)), if_neg (show ¬ nI (p.2.2 - e i) ≤ 0 from nI_nle (by omega) (by omega))]
          have take : ∃ c c' m', m' < gs.length - i ∧ (some (Sum.inl (nI i, nI (i + 1))) : Option ((Int32 × Int32) ⊕ Int32)) = some (.inl c) ∧ (some (Sum.inl (nI i, nI (i + 1))) : Option ((Int32 × Int32) ⊕ Int32)) = some (.inl c') ∧ ∃ x i, c = (x, nI i) ∧ c' = (x, nI i) ∧ i ≤ gs.length ∧ m' = gs.length - i ∧ ((x = -1 ∧ ∀ (j : Nat) (p : Nat × List Nat × Nat), j < i → gs[j]? = some p → ¬ e j < p.2.2) ∨ ∃ (j : Nat) (p : Nat × List Nat × Nat), gs[j]? = some p ∧ x = nI j ∧ e j < p.2.2) :=
            ⟨_, _, gs.length - (i + 1), by omega, rfl, rfl, nI i, i + 1, rfl, rfl, by omega, rfl, Or.inr ⟨i, p, hp, rfl, d⟩⟩
          rcases hx with ⟨rfl, h2⟩ | ⟨j, p', hj, rfl, hj2⟩
          · rw [if_pos rfl, if_pos (show (-1 : Int32) < 0 by decide)]
            exact take
          · have hjl := (List.getElem?_eq_some_iff.mp hj).1
            have hpm' := List.mem_of_getElem? hj
            obtain ⟨u1, u2, u3, u4, u5⟩ := hrow j p' hjl hj
            obtain ⟨v1, v2, v3, v4⟩ := u4 hj2
            obtain ⟨b1', b2', b3'⟩ := gb_at hg hper hpm' hj2
            have hmod' := Nat.mod_lt (e j) hper
            have hco : ∀ (jj b o : Nat), jj < 8 → zA τ 14 jj = nI b → zA τ 15 jj = nI o → fX10_cellOf_0 n τ (nI jj) = some (nI (64 * b + o * (w + 1))) := fun jj b o h0 h1 h2 => by
              unfold fX10_cellOf_0
              rw [zg_in h0 (by decide), zg_in h0 (by decide), nI_clamp (by omega), h1, h2, hS.2.1.2.2.1, nI_1, nI_mul, show (64 : Int32) = nI 64 from rfl, nI_mul, nI_add]
            rw [if_neg (show ¬ nI j = -1 from nI_m1 (by omega)), if_neg (show ¬ nI j < 0 from nI_nn (by omega)), zg_in (show j < 8 by omega) (by decide), nI_clamp (show j < 2 ^ 31 by omega), v2, zb_s (c_isBefore hn hnb hsz hS b2 hmod b2' hmod'), zb_s (hco i _ _ (by omega) s3 s4), zb_s (hco j _ _ (by omega) v3 v4), zb_s (m_before hn hnb hsz hS b2 hmod b2' hmod'), hd]
            by_cases z : bfK w kn (zA σ 1) (zA σ 2) (recC (dC nb sz σ).1 w (gb sz w p (e i)) (e i % (sz / (w + 1)))) (recC (dC nb sz σ).1 w (gb sz w p' (e j)) (e j % (sz / (w + 1)))) = 0
            · rw [if_pos z]
              exact ⟨_, _, gs.length - (i + 1), by omega, rfl, rfl, nI j, i + 1, rfl, rfl, by omega, rfl, Or.inr ⟨j, p', hj, rfl, hj2⟩⟩
            · rw [if_neg z]
              exact take
        · rw [r5 d, if_pos rfl, show p.2.2 - e i = 0 by omega, if_pos (show nI 0 ≤ 0 by decide)]
          refine ⟨_, _, gs.length - (i + 1), by omega, rfl, rfl, x, i + 1, rfl, rfl, by omega, rfl, ?_⟩
          rcases hx with ⟨h1, h2⟩ | h
          · refine Or.inl ⟨h1, fun j p' hj hj2 => ?_⟩
            by_cases z : j = i
            · subst z
              rw [hp] at hj2
              cases hj2
              exact d
            · exact h2 j p' (by omega) hj2
          · exact Or.inr h)
    n gs.length (-1, 0) (-1, 0) (by omega) ⟨-1, 0, rfl, rfl, Nat.zero_le _, rfl, Or.inl ⟨rfl, fun j p hj => absurd hj (by omega)⟩⟩
  obtain ⟨b, b', h1, h2, rfl, h3⟩ := hloop
  refine ⟨b, ?_, ?_, h3⟩
  · unfold fX4_firstAtHand_0
    rw [zb_s h1]
  · unfold fX10_firstOf_0
    rw [zb_s h2]
