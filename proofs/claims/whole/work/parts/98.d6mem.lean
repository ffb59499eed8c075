/-! the reference when it has stopped -/
theorem zlp_inv {α β : Type} {body : α → Option (α ⊕ β)} (I : α → Prop) (Q : β → Prop) (h1 : ∀ a a', I a → body a = some (.inl a') → I a') (h2 : ∀ a b, I a → body a = some (.inr b) → Q b) : ∀ (n : Nat) (a : α) (b : β), I a → zlp body n a = some b → Q b := by
  intro n
  induction n with
  | zero => intro a b _ h; cases h
  | succ n ih =>
    intro a b ha h
    unfold zlp at h
    cases e : body a with
    | none => rw [e] at h; cases h
    | some v =>
      rw [e] at h
      cases v with
      | inl a' => exact ih a' b (h1 a a' ha e) h
      | inr b' => cases h; exact h2 a b ha e
theorem zb_i {α β : Type} {x : Option α} {k : α → Option β} {r : β} (h : zb x k = some r) : ∃ a, x = some a ∧ k a = some r := by
  cases x with
  | none => cases h
  | some a => exact ⟨a, rfl, h⟩
theorem zg_i {α : Type} {b : Bool} {k : Option α} {r : α} (h : zg b k = some r) : k = some r := by
  cases b with
  | false => cases h
  | true => exact h
theorem wp19 {n : Nat} {τ τ' : zS} (h : fX10_writePage_0 n τ = some τ') : zI τ' 19 = 0 := by
  unfold fX10_writePage_0 at h
  obtain ⟨a, -, h⟩ := zb_i h
  obtain ⟨b, -, h⟩ := zb_i h
  cases h
  rfl
theorem tp19_p14 {n : Nat} {τ τ' : zS} {x : Int32} (h : fX10_toPage_p14_0 n τ x = some τ') (h17 : zI τ 17 = 0) : zI τ' 19 = 0 ∨ zI τ' 17 = 0 := by
  unfold fX10_toPage_p14_0 at h
  obtain ⟨b4, hl, h⟩ := zb_i h
  have hb : zI b4 17 = 0 := zlp_inv (fun a : Int32 × zS => zI a.2 17 = 0) (fun b : zS => zI b 17 = 0) (fun a a' ha hb => by
    unfold fX10_toPage_p14_L2_2 at hb
    by_cases c : zI a.2 6 < a.1
    · rw [if_pos c] at hb; cases hb
    · rw [if_neg c] at hb
      have := zg_i (zg_i hb)
      cases this
      exact ha) (fun a b ha hb => by
    unfold fX10_toPage_p14_L2_2 at hb
    by_cases c : zI a.2 6 < a.1
    · rw [if_pos c] at hb; cases hb; exact ha
    · rw [if_neg c] at hb
      have := zg_i (zg_i hb)
      cases this) n _ _ h17 hl
  obtain ⟨q6, -, h⟩ := zb_i h
  by_cases c : zI b4 19 + 1 = q6
  · rw [if_pos c] at h
    obtain ⟨q9, h9, h⟩ := zb_i h
    cases h
    exact Or.inl (wp19 h9)
  · rw [if_neg c] at h
    cases h
    exact Or.inr hb
theorem tp19_p1 {n : Nat} {τ τ' : zS} {x : Int32} (h : fX10_toPage_p1_0 n τ x = some τ') (h17 : zI τ 17 = 0) : zI τ' 19 = 0 ∨ zI τ' 17 = 0 := by
  unfold fX10_toPage_p1_0 at h
  obtain ⟨b4, hl, h⟩ := zb_i h
  have hb : zI b4 17 = 0 := zlp_inv (fun a : Int32 × zS => zI a.2 17 = 0) (fun b : zS => zI b 17 = 0) (fun a a' ha hb => by
    unfold fX10_toPage_p1_L2_2 at hb
    by_cases c : zI a.2 6 < a.1
    · rw [if_pos c] at hb; cases hb
    · rw [if_neg c] at hb
      have := zg_i (zg_i hb)
      cases this
      exact ha) (fun a b ha hb => by
    unfold fX10_toPage_p1_L2_2 at hb
    by_cases c : zI a.2 6 < a.1
    · rw [if_pos c] at hb; cases hb; exact ha
    · rw [if_neg c] at hb
      have := zg_i (zg_i hb)
      cases this) n _ _ h17 hl
  obtain ⟨q6, -, h⟩ := zb_i h
  by_cases c : zI b4 19 + 1 = q6
  · rw [if_pos c] at h
    obtain ⟨q9, h9, h⟩ := zb_i h
    cases h
    exact Or.inl (wp19 h9)
  · rw [if_neg c] at h
    cases h
    exact Or.inr hb
theorem out19 {n : Nat} {τ τ' : zS} {x : Int32} (h : fX10_out_0 n τ x = some τ') (h17 : zI τ 17 = 0) (hs : ¬ zI τ' 17 = 0) : zI τ' 19 = 0 := by
  have h88 : ∀ (τ1 τ2 : zS), fX10_out_88 n τ1 x = some τ2 → zI τ2 17 = zI τ1 17 ∧ zI τ2 19 = zI τ1 19 := fun τ1 τ2 h => by
    unfold fX10_out_88 at h
    obtain ⟨b, hl, h⟩ := zb_i h
    cases h
    show zI b 17 = zI τ1 17 ∧ zI b 19 = zI τ1 19
    exact zlp_inv (body := fX10_out_L90_90 n x) (fun a : Int32 × zS => zI a.2 17 = zI τ1 17 ∧ zI a.2 19 = zI τ1 19) (fun b : zS => zI b 17 = zI τ1 17 ∧ zI b 19 = zI τ1 19) (fun a a' ha hb => by
      unfold fX10_out_L90_90 at hb
      by_cases c : zI a.2 6 < a.1
      · rw [if_pos c] at hb; cases hb
      · rw [if_neg c] at hb
        have := zg_i (zg_i hb)
        cases this
        exact ha) (fun a b ha hb => by
      unfold fX10_out_L90_90 at hb
      by_cases c : zI a.2 6 < a.1
      · rw [if_pos c] at hb; cases hb; exact ha
      · rw [if_neg c] at hb
        have := zg_i (zg_i hb)
        cases this) n _ _ ⟨rfl, rfl⟩ hl
  have h72 : ∀ (τ2 : zS), fX10_out_72 n τ x = some τ2 → ¬ zI τ2 17 = 0 → zI τ2 19 = 0 := fun τ2 h hs => by
    unfold fX10_out_72 at h
    by_cases c : zI τ 20 = 0
    · rw [if_pos c] at h
      have := (h88 τ τ2 h).1
      exact absurd (this.trans h17) hs
    · rw [if_neg c] at h
      obtain ⟨q, hq, h⟩ := zb_i h
      obtain ⟨g1, g2⟩ := h88 q τ2 h
      rcases tp19_p14 hq h17 with z | z
      · exact g2.trans z
      · exact absurd (g1.trans z) hs
  unfold fX10_out_0 at h
  by_cases c : zI τ 8 = 0
  · rw [if_pos c] at h
    obtain ⟨q, hq, h⟩ := zb_i h
    cases h
    rcases tp19_p1 hq h17 with z | z
    · exact z
    · exact absurd z hs
  · rw [if_neg c] at h
    by_cases c2 : zI τ 20 = 0
    · rw [if_pos c2] at h
      exact h72 τ' h hs
    · rw [if_neg c2] at h
      obtain ⟨q, hq, h⟩ := zb_i h
      by_cases c3 : q = 0
      · rw [if_pos c3] at h
        obtain ⟨q6, -, h⟩ := zb_i h
        by_cases c4 : q6 = 0
        · rw [if_pos c4] at h
          cases h
          exact absurd h17 hs
        · rw [if_neg c4] at h
          have := zg_i (zg_i (zg_i h))
          cases this
          exact absurd h17 hs
      · rw [if_neg c3] at h
        exact h72 τ' h hs
theorem m_end_stop {n nb sz w : Nat} {τ : zS} (hn : 300 < n) (hnb : nb ≤ 200) (hs5 : 5 ≤ sz) (hsz : sz ≤ 64) (hw4 : w ≤ 4) (h1 : zI τ 1 = nI nb) (h2 : zI τ 2 = nI sz) (h6 : zI τ 6 = nI w) (h17 : 0 < zI τ 17) (h19 : zI τ 19 = 0) : ∃ τ', fX10_endRun_0 n τ = some τ' ∧ zfr [19, 20] [] [2] τ τ' := by
  have hper := p_per (w := w) hs5 hw4
  have hple := p_perle (sz := sz) (w := w)
  have hdv := Nat.div_le_self sz (w + 1)
  have hw1 : w + 1 ≤ sz := by omega
  have wps : ∀ τ1 : zS, zI τ1 1 = nI nb → 0 < zI τ1 17 → fX10_writePage_0 n τ1 = some (sI τ1 19 0) := fun τ1 e1 e2 => by
    unfold fX10_writePage_0
    rw [zb_s (m_write_p13_s (sz := sz) hn e1 hnb e2)]
    dsimp only
    rw [zb_s m_hang_s]
  have h16 : ∀ τ1 : zS, zfr [19, 20] [] [2] τ τ1 → ∃ τ', fX10_endRun_16 n τ1 = some τ' ∧ zfr [19, 20] [] [2] τ τ' := fun τ1 f => by
    unfold fX10_endRun_16
    by_cases c : zI τ1 19 ≤ 0
    · rw [if_pos c]
      exact ⟨_, rfl, zfr_I (by decide) f⟩
    · rw [if_neg c, zb_s (wps (sI τ1 20 0) ((f.1 1 (by decide)).trans h1) (by show 0 < zI τ1 17; rw [f.1 17 (by decide)]; exact h17))]
      exact ⟨_, rfl, zfr_I (by decide) (zfr_I (by decide) f)⟩
  unfold fX10_endRun_0
  by_cases c : zI τ 20 = 0
  · rw [if_pos c]
    exact h16 τ zfr_r
  · rw [if_neg c]
    have hl := m_pgL14 (n := n) (sz := sz) (w := w) (op := 0) (τ := τ) hn hsz hw4 h6 h19 (by rw [Nat.zero_mul, Nat.zero_add]; exact hw1) (by omega)
    unfold fX10_toPage_p14_0
    rw [zb_s hl]
    have f1 : zfr [19, 20] [] [2] τ (sI (sL τ 2 (putF (zL τ 2) (zL τ 3) (0 * (w + 1)) (w + 1))) 19 (zI (sL τ 2 (putF (zL τ 2) (zL τ 3) (0 * (w + 1)) (w + 1))) 19 + 1)) := zfr_I (by decide) (zfr_L (by decide) zfr_r)
    rw [zb_s (m_per (τ := sI (sL τ 2 (putF (zL τ 2) (zL τ 3) (0 * (w + 1)) (w + 1))) 19 (zI (sL τ 2 (putF (zL τ 2) (zL τ 3) (0 * (w + 1)) (w + 1))) 19 + 1)) hsz hw4 h2 h6)]
    by_cases d : zI (sL τ 2 (putF (zL τ 2) (zL τ 3) (0 * (w + 1)) (w + 1))) 19 + 1 = nI (sz / (w + 1))
    · rw [if_pos d, zb_s (wps (sI (sL τ 2 (putF (zL τ 2) (zL τ 3) (0 * (w + 1)) (w + 1))) 19 (zI (sL τ 2 (putF (zL τ 2) (zL τ 3) (0 * (w + 1)) (w + 1))) 19 + 1)) h1 h17), zb_s rfl]
      exact h16 _ (zfr_I (by decide) f1)
    · rw [if_neg d, zb_s rfl]
      exact h16 _ f1
theorem FBD_fr {nb sz : Nat} {tk : List Nat} {us : Nat → Bool} {cl : Nat → Nat → Int64} {P0 : Prop} {ps : List zP} {σb τb σ τ τ' : zS} (h : FBD nb sz tk us cl P0 ps σb τb σ τ) (f : zfr [19, 20, 24] [10, 11] [2] τ τ') : FBD nb sz tk us cl P0 ps σb τb σ τ' := by
  obtain ⟨h1, ⟨sb, x1, x2, x3, x4, x5, x6, x7, x8⟩, ⟨mfs, y1, y2, y3, y4⟩, h4⟩ := h
  refine ⟨by rw [f.1 17 (by decide)]; exact h1, ⟨sb, ?_, ?_, x3, ?_, x5, x6, x7, x8⟩, ⟨mfs, ?_, y2, y3, ?_⟩, ?_⟩
  · rw [← x1]
    unfold dM
    rw [f.1 10 (by decide), f.1 11 (by decide), f.1 12 (by decide), f.1 13 (by decide), f.1 15 (by decide), f.2.1 0 (by decide), f.2.2.1 0 (by decide)]
  · rw [f.1 13 (by decide), f.1 14 (by decide)]; exact x2
  · rw [f.2.1 1 (by decide)]; exact x4
  · rw [f.1 25 (by decide), f.2.1 12 (by decide)]; exact y1
  · rw [f.2.1 6 (by decide)]; exact y4
  · exact FK_fr h4 (zfr_r (I := []) (A := []) (L := [])) f rfl rfl (f.2.1 2 (by decide)) (f.2.1 3 (by decide)) (f.2.1 4 (by decide)) (f.2.1 5 (by decide)) (by decide) (by decide) (by decide) (by decide) (by decide) (by decide)
/-! the reference's memory -/
def HM (H : Nat) (pm : Nat → Nat) (g : Nat → Nat × Nat) (τ : zS) : Prop := zI τ 24 = nI H ∧ ∀ j, j < H → zA τ 10 j = nI (pm (g j).1) ∧ zA τ 11 j = nI (g j).2 ∧ (g j).2 ≤ 1
theorem m_firstHeld {n N H : Nat} {pm : Nat → Nat} {B : Nat → Nat → Int32} {g : Nat → Nat × Nat} {τ : zS} (hn : 300 < n) (hH64 : H ≤ 64) (hB : ordB B N) (hbm : ∀ i j, i < N → j < N → fX10_before_0 n τ (nI (pm i)) (nI (pm j)) = some (B i j)) (hH : HM H pm g τ) (hr : ∀ j, j < H → (g j).1 < N) (h17 : zI τ 17 = 0) : ∃ v, fX10_firstHeld_0 n τ = some v ∧ ((v = -1 ∧ ∀ j, j < H → ¬ (g j).2 = 0) ∨ ∃ j, j < H ∧ v = nI j ∧ (g j).2 = 0 ∧ ∀ i, i < H → (g i).2 = 0 → ¬ B (g i).1 (g j).1 = 1) := by
  have hlp := zlp_tot (body := fX10_firstHeld_L4_4 n τ) (fun m a => ∃ x i, a = (x, nI i) ∧ i ≤ H ∧ m = H - i ∧ ((x = -1 ∧ ∀ j, j < i → ¬ (g j).2 = 0) ∨ ∃ j, j < H ∧ x = nI j ∧ (g j).2 = 0 ∧ ∀ k, k < i → (g k).2 = 0 → ¬ B (g k).1 (g j).1 = 1))
    (fun v => (v = -1 ∧ ∀ j, j < H → ¬ (g j).2 = 0) ∨ ∃ j, j < H ∧ v = nI j ∧ (g j).2 = 0 ∧ ∀ i, i < H → (g i).2 = 0 → ¬ B (g i).1 (g j).1 = 1)
    (fun m a hP => by
      obtain ⟨x, i, rfl, hi, rfl, hx⟩ := hP
      unfold fX10_firstHeld_L4_4 fX10_firstHeld_L4_51 fX10_firstHeld_L4_53
      dsimp only
      rw [hH.1]
      by_cases c : i = H
      · right
        rw [if_pos (nI_le (show H ≤ i by omega) (by omega))]
        exact ⟨_, rfl, c ▸ hx⟩
      · left
        obtain ⟨r1, r2, r3⟩ := hH.2 i (by omega)
        rw [if_neg (show ¬ nI H ≤ nI i from fun q => by rw [nI_leI (by omega) (by omega)] at q; omega), if_pos h17]
        simp only [zg_in (show i < 64 by omega) (show 64 < 2 ^ 31 by decide), nI_clamp (show i < 2 ^ 31 by omega)]
        rw [r2, r1, nI_1]
        by_cases d : (g i).2 = 0
        · rw [d, if_pos (show nI 0 = 0 from rfl)]
          rcases hx with ⟨rfl, h2⟩ | ⟨j, hj, rfl, hj2, hj3⟩
          · rw [if_pos (show (-1 : Int32) < 0 by decide)]
            refine ⟨_, H - (i + 1), by omega, rfl, nI i, i + 1, rfl, by omega, rfl, Or.inr ⟨i, by omega, rfl, d, fun k k1 k2 => ?_⟩⟩
            by_cases z : k = i
            · rw [z]; exact hB.2.1 _
            · exact absurd k2 (h2 k (by omega))
          · obtain ⟨s1, s2, s3⟩ := hH.2 j hj
            rw [if_neg (show ¬ nI j < 0 from nI_nn (by omega)), zg_in (show j < 64 by omega) (by decide), nI_clamp (by omega), s1, zb_s (hbm _ _ (hr i (by omega)) (hr j hj))]
            rcases hB.1 (g i).1 (g j).1 with q | q
            · rw [q, if_pos rfl]
              refine ⟨_, H - (i + 1), by omega, rfl, nI j, i + 1, rfl, by omega, rfl, Or.inr ⟨j, hj, rfl, hj2, fun k k1 k2 => ?_⟩⟩
              by_cases z : k = i
              · rw [z, q]; decide
              · exact hj3 k (by omega) k2
            · rw [q, if_neg (show ¬ (1 : Int32) = 0 by decide)]
              refine ⟨_, H - (i + 1), by omega, rfl, nI i, i + 1, rfl, by omega, rfl, Or.inr ⟨i, by omega, rfl, d, fun k k1 k2 => ?_⟩⟩
              by_cases z : k = i
              · rw [z]; exact hB.2.1 _
              · exact fun y => hj3 k (by omega) k2 (hB.2.2.1 _ _ _ y q)
        · rw [if_neg (show ¬ nI (g i).2 = 0 from nI_ne0 (by omega) (by omega))]
          refine ⟨_, H - (i + 1), by omega, rfl, x, i + 1, rfl, by omega, rfl, ?_⟩
          rcases hx with ⟨h1, h2⟩ | ⟨j, hj, h1, hj2, hj3⟩
          · refine Or.inl ⟨h1, fun j hj => ?_⟩
            by_cases z : j = i
            · rw [z]; exact d
            · exact h2 j (by omega)
          · refine Or.inr ⟨j, hj, h1, hj2, fun k k1 k2 => ?_⟩
            by_cases z : k = i
            · rw [z] at k2; exact absurd k2 d
            · exact hj3 k (by omega) k2)
    n H (-1, 0) (by omega) ⟨-1, 0, rfl, Nat.zero_le _, rfl, Or.inl ⟨rfl, fun j hj => absurd hj (by omega)⟩⟩
  obtain ⟨v, h1, h2⟩ := hlp
  refine ⟨v, ?_, h2⟩
  unfold fX10_firstHeld_0
  rw [zb_s h1]
theorem m_firstHeld_s {n H : Nat} {τ : zS} (hn : 300 < n) (h24 : zI τ 24 = nI H) (hH : H ≤ 64) (h17 : ¬ zI τ 17 = 0) : fX10_firstHeld_0 n τ = some (-1) := by
  unfold fX10_firstHeld_0
  obtain ⟨n, rfl⟩ : ∃ n', n = n' + 1 := ⟨n - 1, by omega⟩
  have e1 : fX10_firstHeld_L4_4 (n + 1) τ (-1, 0) = some (.inr (-1)) := by
    unfold fX10_firstHeld_L4_4
    dsimp only
    rw [if_neg h17, ite_self]
  unfold zlp
  rw [e1]
  rfl
