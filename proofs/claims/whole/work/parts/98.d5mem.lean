def HP (s : Nat) (pl : Nat → Nat) (e : Nat → Nat × Nat) (σ : zS) : Prop := zI σ 28 = nI s ∧ ∀ j, j < s → zA σ 8 j = nI (pl (e j).1) ∧ zA σ 9 j = nI (e j).2
def rngE (N s : Nat) (e : Nat → Nat × Nat) : Prop := ∀ j, j < s → (e j).1 < N ∧ (e j).2 < 2 ^ 30
theorem zbo_01 {v : Int32} (h : v = 0 ∨ v = 1) : zbo v = true := by
  rcases h with rfl | rfl
  · decide
  · decide
theorem c_isAhead {n nb sz mm N i : Nat} {pl : Nat → Nat} {B : Nat → Nat → Int32} {σ : zS} {x y : Nat × Nat} (hmm : mm ≤ 64) (hi : i < mm) (hB : ordB B N) (hx : x.1 < N ∧ x.2 < 2 ^ 30) (hy : y.1 < N ∧ y.2 < 2 ^ 30) (hbf : fX5_isBefore_0 n nb sz mm σ (nI (pl x.1)) (nI (pl y.1)) = some (B x.1 y.1)) (h8 : zA σ 8 i = nI (pl y.1)) (h9 : zA σ 9 i = nI y.2) : fX3_isAhead_0 n nb sz mm σ (nI (pl x.1)) (nI x.2) (nI i) = some (ahd B x y) := by
  unfold fX3_isAhead_0 ahd
  rw [if_neg (nI_nn (by omega)), if_neg (show ¬ nI mm ≤ nI i from fun q => by rw [nI_leI (by omega) (by omega)] at q; omega), if_pos (nI_lt hi (by omega))]
  simp only [zg_in hi (show mm < 2 ^ 31 by omega), nI_clamp (show i < 2 ^ 31 by omega)]
  rw [h8, h9]
  by_cases c : x.2 = y.2
  · rw [if_pos (by rw [c]), if_pos c, zb_s hbf, zg_t (zbo_01 (hB.1 _ _))]
  · rw [if_neg (fun q => c ((nI_eq (by omega) (by omega)).mp q)), if_neg c]
    by_cases d : y.2 ≤ x.2
    · rw [if_pos (nI_le d (by omega)), if_pos d]
    · rw [if_neg (fun q => d ((nI_leI (by omega) (by omega)).mp q)), if_neg d]
theorem c_hput {n nb sz mm i : Nat} {σ : zS} {a b : Int32} (hmm : mm ≤ 64) (hi : i < mm) : fX3_put_0 n nb sz mm σ (nI i) a b = some (sA (sA σ 8 (upd (zA σ 8) i a)) 9 (upd (zA σ 9) i b)) := by
  unfold fX3_put_0
  rw [if_neg (nI_nn (by omega)), if_neg (show ¬ nI mm ≤ nI i from fun q => by rw [nI_leI (by omega) (by omega)] at q; omega), if_neg (show ¬ nI mm ≤ nI i from fun q => by rw [nI_leI (by omega) (by omega)] at q; omega), zg_in hi (by omega), zg_in hi (by omega), nI_clamp (by omega)]
theorem c_hcopy {n nb sz mm i j : Nat} {σ : zS} (hmm : mm ≤ 64) (hi : i < mm) (hj : j < mm) : fX3_copyTo_0 n nb sz mm σ (nI i) (nI j) = some (sA (sA σ 8 (upd (zA σ 8) i (zA σ 8 j))) 9 (upd (zA σ 9) i (zA σ 9 j))) := by
  unfold fX3_copyTo_0
  rw [if_neg (nI_nn (by omega)), if_neg (show ¬ nI mm ≤ nI j from fun q => by rw [nI_leI (by omega) (by omega)] at q; omega), if_neg (show ¬ nI mm ≤ nI j from fun q => by rw [nI_leI (by omega) (by omega)] at q; omega), zg_in hj (by omega), zg_in hj (by omega), nI_clamp (by omega), zb_s (c_hput hmm hi)]
theorem c_hadd {n nb sz mm N s : Nat} {pl : Nat → Nat} {B : Nat → Nat → Int32} {e : Nat → Nat × Nat} {x : Nat × Nat} {σ : zS} (hn : 300 < n) (hmm : mm ≤ 64) (hs : s < mm) (hB : ordB B N) (hbf : ∀ σ1, zfr [28] [8, 9] [] σ σ1 → ∀ i j, i < N → j < N → fX5_isBefore_0 n nb sz mm σ1 (nI (pl i)) (nI (pl j)) = some (B i j)) (hH : HP s pl e σ) (hp : heap B e s) (hin : injE e s) (hr : rngE N s e) (hx : x.1 < N ∧ x.2 < 2 ^ 30) (hxn : ∀ j, j < s → ¬ (e j).1 = x.1) :
    ∃ σ' e', fX3_add_0 n nb sz mm σ (nI (pl x.1)) (nI x.2) = some σ' ∧ HP (s + 1) pl e' σ' ∧ heap B e' (s + 1) ∧ injE e' (s + 1) ∧ rngE N (s + 1) e' ∧ (∀ y, (∃ j, j < s + 1 ∧ e' j = y) ↔ (y = x ∨ ∃ j, j < s ∧ e j = y)) ∧ zfr [28] [8, 9] [] σ σ' := by
  let G := fun (h : Nat) (e1 : Nat → Nat × Nat) (σ1 : zS) => h ≤ s ∧ (∀ j, j < s + 1 → ¬ j = h → zA σ1 8 j = nI (pl (e1 j).1) ∧ zA σ1 9 j = nI (e1 j).2 ∧ (e1 j).1 < N ∧ (e1 j).2 < 2 ^ 30) ∧ zI σ1 28 = nI (s + 1) ∧ injE (eS e1 h x) (s + 1) ∧ (∀ y, (∃ j, j < s + 1 ∧ eS e1 h x j = y) ↔ (y = x ∨ ∃ j, j < s ∧ e j = y)) ∧ zfr [28] [8, 9] [] σ σ1
  have hlp := zlp_tot (body := fX3_add_L50_50 n nb sz mm (nI (pl x.1)) (nI x.2)) (fun m a => ∃ h e1 σ1, a = (nI h, nI h, σ1) ∧ m = h ∧ G h e1 σ1 ∧ (∀ j, 0 < j → j ≤ s → ¬ j = h → ¬ ahd B (eS e1 h x j) (eS e1 h x ((j - 1) / 2)) = 1) ∧ (0 < h → ∀ j, 0 < j → j ≤ s → (j - 1) / 2 = h → ¬ ahd B (eS e1 h x j) (eS e1 h x ((h - 1) / 2)) = 1))
    (fun b => ∃ h e1 σ1, (b = .inl (nI h, σ1) ∨ b = .inr (nI h, σ1)) ∧ G h e1 σ1 ∧ heap B (eS e1 h x) (s + 1))
    (fun m a hP => by
      obtain ⟨h, e1, σ1, rfl, rfl, ⟨g1, g2, g3, g4, g5, g6⟩, i1, i2⟩ := hP
      unfold fX3_add_L50_50
      dsimp only
      by_cases c : m = 0
      · right
        subst c
        rw [if_pos (show nI 0 ≤ 0 by decide)]
        exact ⟨_, rfl, 0, e1, σ1, Or.inl rfl, ⟨g1, g2, g3, g4, g5, g6⟩, fun j j1 j2 => i1 j j1 (by omega) (by omega)⟩
      · have hpar : (nI m - 1) / 2 = nI ((m - 1) / 2) := by
          rw [show (1 : Int32) = nI 1 from rfl, nI_sub (by omega), show (2 : Int32) = nI 2 from rfl, nI_div (by omega) (by omega)]
        have hpm : (m - 1) / 2 < s + 1 := by omega
        have hpne : ¬ (m - 1) / 2 = m := by omega
        obtain ⟨r1, r2, r3, r4⟩ := g2 ((m - 1) / 2) hpm hpne
        have hah := c_isAhead (n := n) (nb := nb) (sz := sz) (i := (m - 1) / 2) hmm (by omega) hB hx ⟨r3, r4⟩ (hbf σ1 g6 _ _ hx.1 r3) r1 r2
        rw [if_neg (nI_nle (by omega) (by omega)), hpar, zg_t (show znz 2 = true by decide), zb_s hah]
        rcases ah_01 hB x (e1 ((m - 1) / 2)) with q | q
        · right
          rw [q, if_pos rfl]
          refine ⟨_, rfl, m, e1, σ1, Or.inr rfl, ⟨g1, g2, g3, g4, g5, g6⟩, fun j j1 j2 => ?_⟩
          by_cases z : j = m
          · rw [z]
            unfold eS
            rw [if_pos rfl, if_neg hpne, q]
            decide
          · exact i1 j j1 (by omega) z
        · left
          rw [q, if_neg (show ¬ (1 : Int32) = 0 by decide), zb_s (c_hcopy hmm (by omega) (by omega)), zg_t (show znz 2 = true by decide)]
          obtain ⟨u1, u2⟩ := up_step hB (show 0 < m by omega) g1 i1 (i2 (by omega)) q
          obtain ⟨w1, w2⟩ := sw_mem (e := e1) (x := x) (h := m) (p := (m - 1) / 2) (t := s + 1) (by omega) hpm hpne g4
          refine ⟨_, (m - 1) / 2, by omega, rfl, (m - 1) / 2, eS e1 m (e1 ((m - 1) / 2)), _, rfl, rfl, ⟨by omega, fun j j1 j2 => ?_, g3, w2, fun y => (w1 y).trans (g5 y), zfr_A (by decide) (zfr_A (by decide) g6)⟩, u1, fun hh j j1 j2 j3 => u2 j j1 j2 j3 hh⟩
          show upd (zA σ1 8) m (zA σ1 8 ((m - 1) / 2)) j = _ ∧ upd (zA σ1 9) m (zA σ1 9 ((m - 1) / 2)) j = _ ∧ _
          rw [upd_at, upd_at]
          unfold eS
          by_cases z : j = m
          · rw [if_pos z, if_pos z, if_pos z]
            exact ⟨r1, r2, r3, r4⟩
          · rw [if_neg z, if_neg z, if_neg z]
            exact g2 j j1 z)
    n s (nI s, nI s, sI σ 28 (nI (s + 1))) (by omega) ⟨s, e, _, rfl, rfl, ⟨Nat.le_refl _, fun j j1 j2 => ?_, rfl, ?_, fun y => ?_, zfr_I (by decide) zfr_r⟩, fun j j1 j2 j3 => ?_, fun _ j j1 j2 j3 => absurd j3 (by omega)⟩
  · obtain ⟨b, l1, h, e1, σ1, hb, ⟨g1, g2, g3, g4, g5, g6⟩, hhp⟩ := hlp
    refine ⟨sA (sA σ1 8 (upd (zA σ1 8) h (nI (pl x.1)))) 9 (upd (zA σ1 9) h (nI x.2)), eS e1 h x, ?_, ⟨g3, fun j hj => ?_⟩, hhp, g4, fun j hj => ?_, g5, zfr_A (by decide) (zfr_A (by decide) g6)⟩
    · unfold fX3_add_0
      rw [hH.1, if_neg (nI_nn (by omega)), if_neg (show ¬ nI mm ≤ nI s from fun q => by rw [nI_leI (by omega) (by omega)] at q; omega), if_pos (nI_lt hs (by omega)), nI_1, zb_s l1]
      have h98 : fX3_add_98 n nb sz mm σ1 (nI (pl x.1)) (nI x.2) (nI h) = some (sA (sA σ1 8 (upd (zA σ1 8) h (nI (pl x.1)))) 9 (upd (zA σ1 9) h (nI x.2))) := by
        unfold fX3_add_98
        rw [zb_s (c_hput hmm (by omega))]
      rcases hb with rfl | rfl
      · exact h98
      · exact h98
    · show upd (zA σ1 8) h (nI (pl x.1)) j = _ ∧ upd (zA σ1 9) h (nI x.2) j = _
      rw [upd_at, upd_at]
      unfold eS
      by_cases z : j = h
      · rw [if_pos z, if_pos z, if_pos z]
        exact ⟨rfl, rfl⟩
      · rw [if_neg z, if_neg z, if_neg z]
        exact ⟨(g2 j hj z).1, (g2 j hj z).2.1⟩
    · unfold eS
      by_cases z : j = h
      · rw [if_pos z]; exact hx
      · rw [if_neg z]; exact ⟨(g2 j hj z).2.2.1, (g2 j hj z).2.2.2⟩
  · have hjs : j < s := by omega
    exact ⟨(hH.2 j hjs).1, (hH.2 j hjs).2, (hr j hjs).1, (hr j hjs).2⟩
  · intro i j hi hj he
    unfold eS at he
    by_cases z : i = s
    · by_cases y : j = s
      · omega
      · rw [if_pos z, if_neg y] at he
        exact absurd he.symm (hxn j (by omega))
    · by_cases y : j = s
      · rw [if_neg z, if_pos y] at he
        exact absurd he (hxn i (by omega))
      · rw [if_neg z, if_neg y] at he
        exact hin i j (by omega) (by omega) he
  · constructor
    · rintro ⟨j, hj, rfl⟩
      unfold eS
      by_cases z : j = s
      · rw [if_pos z]; exact Or.inl rfl
      · rw [if_neg z]; exact Or.inr ⟨j, by omega, rfl⟩
    · rintro (rfl | ⟨j, hj, rfl⟩)
      · exact ⟨s, by omega, if_pos rfl⟩
      · exact ⟨j, by omega, if_neg (by omega)⟩
  · unfold eS
    rw [if_neg j3, if_neg (by omega)]
    exact hp j j1 (by omega)
theorem c_htake {n nb sz mm N s : Nat} {pl : Nat → Nat} {B : Nat → Nat → Int32} {e : Nat → Nat × Nat} {σ : zS} (hn : 300 < n) (hmm : mm ≤ 64) (hs : s + 1 ≤ mm) (hB : ordB B N) (hbf : ∀ σ1, zfr [28] [8, 9] [] σ σ1 → ∀ i j, i < N → j < N → fX5_isBefore_0 n nb sz mm σ1 (nI (pl i)) (nI (pl j)) = some (B i j)) (hH : HP (s + 1) pl e σ) (hp : heap B e (s + 1)) (hin : injE e (s + 1)) (hr : rngE N (s + 1) e) :
    ∃ σ' e', fX3_takeFirst_0 n nb sz mm σ = some (nI (pl (e 0).1), σ') ∧ HP s pl e' σ' ∧ heap B e' s ∧ injE e' s ∧ rngE N s e' ∧ (∀ y, (∃ j, j < s ∧ e' j = y) ↔ ((∃ j, j < s + 1 ∧ e j = y) ∧ ¬ y = e 0)) ∧ zfr [28] [8, 9] [] σ σ' := by
  have hxr := hr s (by omega)
  let x := e s
  let G := fun (h : Nat) (e1 : Nat → Nat × Nat) (σ1 : zS) => (h < s ∨ h = 0) ∧ (∀ j, j < s → ¬ j = h → zA σ1 8 j = nI (pl (e1 j).1) ∧ zA σ1 9 j = nI (e1 j).2 ∧ (e1 j).1 < N ∧ (e1 j).2 < 2 ^ 30) ∧ zI σ1 28 = nI s ∧ (0 < s → injE (eS e1 h x) s ∧ (∀ y, (∃ j, j < s ∧ eS e1 h x j = y) ↔ ((∃ j, j < s + 1 ∧ e j = y) ∧ ¬ y = e 0))) ∧ zfr [28] [8, 9] [] σ σ1
  have hlp := zlp_tot (body := fX3_takeFirst_L77_77 n nb sz mm (nI (pl (e 0).1)) (nI (pl x.1)) (nI x.2)) (fun m a => ∃ h e1 σ1, a = (nI h, nI (2 * h + 1), σ1) ∧ m = 2 * s - h ∧ G h e1 σ1 ∧ (∀ j, 0 < j → j < s → ¬ (j - 1) / 2 = h → ¬ ahd B (eS e1 h x j) (eS e1 h x ((j - 1) / 2)) = 1) ∧ (∀ j, 0 < j → j < s → (j - 1) / 2 = h → 0 < h → ¬ ahd B (eS e1 h x j) (eS e1 h x ((h - 1) / 2)) = 1))
    (fun b => ∃ h e1 σ1, (b = .inl (nI h, σ1) ∨ b = .inr (nI h, σ1)) ∧ G h e1 σ1 ∧ heap B (eS e1 h x) s)
    (fun m a hP => by
      obtain ⟨h, e1, σ1, rfl, rfl, ⟨g1, g2, g3, g4, g5⟩, i1, i2⟩ := hP
      unfold fX3_takeFirst_L77_77 fX3_takeFirst_L77_131
      dsimp only
      rw [g3]
      by_cases c : s ≤ 2 * h + 1
      · right
        rw [if_pos (nI_le c (by omega))]
        exact ⟨_, rfl, h, e1, σ1, Or.inl rfl, ⟨g1, g2, g3, g4, g5⟩, fun j j1 j2 => i1 j j1 j2 (by omega)⟩
      · have hs0 : 0 < s := by omega
        obtain ⟨g4a, g4b⟩ := g4 hs0
        rw [if_neg (show ¬ nI s ≤ nI (2 * h + 1) from fun q => by rw [nI_leI (by omega) (by omega)] at q; omega), nI_1]
        -- the child that is first
        have hch : ∃ ch, (ch = 2 * h + 1 ∨ ch = 2 * h + 2) ∧ ch < s ∧ (∀ j, 0 < j → j < s → (j - 1) / 2 = h → ¬ ahd B (e1 j) (e1 ch) = 1) ∧ (if nI s ≤ nI (2 * h + 1 + 1) then fX3_takeFirst_L77_133 n nb sz mm σ1 (nI (pl (e 0).1)) (nI (pl x.1)) (nI x.2) (nI h) (nI (2 * h + 1)) else zg (zin (nI (2 * h + 1 + 1)) mm) (zg (zin (nI (2 * h + 1 + 1)) mm) (zb (fX3_isAhead_0 n nb sz mm σ1 (zA σ1 8 (nI (2 * h + 1 + 1)).toNatClampNeg) (zA σ1 9 (nI (2 * h + 1 + 1)).toNatClampNeg) (nI (2 * h + 1))) (fun q11 => if q11 = 0 then fX3_takeFirst_L77_133 n nb sz mm σ1 (nI (pl (e 0).1)) (nI (pl x.1)) (nI x.2) (nI h) (nI (2 * h + 1)) else fX3_takeFirst_L77_133 n nb sz mm σ1 (nI (pl (e 0).1)) (nI (pl x.1)) (nI x.2) (nI h) (nI (2 * h + 1 + 1)))))) = fX3_takeFirst_L77_133 n nb sz mm σ1 (nI (pl (e 0).1)) (nI (pl x.1)) (nI x.2) (nI h) (nI ch) := by
          obtain ⟨r1, r2, r3, r4⟩ := g2 (2 * h + 1) (by omega) (by omega)
          by_cases d : s ≤ 2 * h + 1 + 1
          · refine ⟨2 * h + 1, Or.inl rfl, by omega, fun j j1 j2 j3 => ?_, by rw [if_pos (nI_le d (by omega))]⟩
            have : j = 2 * h + 1 := by omega
            rw [this]; exact ah_ir hB _
          · obtain ⟨t1, t2, t3, t4⟩ := g2 (2 * h + 1 + 1) (by omega) (by omega)
            rw [if_neg (show ¬ nI s ≤ nI (2 * h + 1 + 1) from fun q => by rw [nI_leI (by omega) (by omega)] at q; omega), zg_in (by omega) (by omega), zg_in (by omega) (by omega), nI_clamp (by omega), t1, t2, zb_s (c_isAhead hmm (by omega) hB ⟨t3, t4⟩ ⟨r3, r4⟩ (hbf σ1 g5 _ _ t3 r3) r1 r2)]
            rcases ah_01 hB (e1 (2 * h + 1 + 1)) (e1 (2 * h + 1)) with q | q
            · rw [q, if_pos rfl]
              refine ⟨2 * h + 1, Or.inl rfl, by omega, fun j j1 j2 j3 => ?_, rfl⟩
              rcases (show j = 2 * h + 1 ∨ j = 2 * h + 1 + 1 by omega) with z | z
              · rw [z]; exact ah_ir hB _
              · rw [z, q]; decide
            · rw [q, if_neg (show ¬ (1 : Int32) = 0 by decide)]
              refine ⟨2 * h + 1 + 1, Or.inr rfl, by omega, fun j j1 j2 j3 => ?_, rfl⟩
              rcases (show j = 2 * h + 1 ∨ j = 2 * h + 1 + 1 by omega) with z | z
              · rw [z]; exact fun y => ah_ir hB _ (ah_tr hB y q)
              · rw [z]; exact ah_ir hB _
        obtain ⟨ch, hch1, hch2, hch3, hch4⟩ := hch
        rw [hch4]
        have hchne : ¬ ch = h := by omega
        obtain ⟨r1, r2, r3, r4⟩ := g2 ch hch2 hchne
        unfold fX3_takeFirst_L77_133
        rw [zb_s (c_isAhead hmm (by omega) hB hxr ⟨r3, r4⟩ (hbf σ1 g5 _ _ hxr.1 r3) r1 r2)]
        rcases ah_01 hB x (e1 ch) with q | q
        · left
          have q2 : ahd B (e s) (e1 ch) = 0 := q
          rw [q2, if_pos rfl, zb_s (c_hcopy hmm (by omega) (by omega)), show (2 : Int32) = nI 2 from rfl, nI_mul, nI_1]
          obtain ⟨u1, u2⟩ := dn_step hB hch1 hch2 i1 i2 (by rw [q]; decide) hch3
          obtain ⟨w1, w2⟩ := sw_mem (e := e1) (x := x) (h := h) (p := ch) (t := s) (by omega) hch2 hchne g4a
          refine ⟨_, 2 * s - ch, by omega, rfl, ch, eS e1 h (e1 ch), _, rfl, rfl, ⟨Or.inl hch2, fun j j1 j2 => ?_, g3, fun _ => ⟨w2, fun y => (w1 y).trans (g4b y)⟩, zfr_A (by decide) (zfr_A (by decide) g5)⟩, u1, u2⟩
          show upd (zA σ1 8) h (zA σ1 8 ch) j = _ ∧ upd (zA σ1 9) h (zA σ1 9 ch) j = _ ∧ _
          rw [upd_at, upd_at]
          unfold eS
          by_cases z : j = h
          · rw [if_pos z, if_pos z, if_pos z]
            exact ⟨r1, r2, r3, r4⟩
          · rw [if_neg z, if_neg z, if_neg z]
            exact g2 j j1 z
        · right
          have q2 : ahd B (e s) (e1 ch) = 1 := q
          rw [q2, if_neg (show ¬ (1 : Int32) = 0 by decide)]
          refine ⟨_, rfl, h, e1, σ1, Or.inr rfl, ⟨g1, g2, g3, g4, g5⟩, fun j j1 j2 => ?_⟩
          by_cases z : (j - 1) / 2 = h
          · have hjh : ¬ j = h := by omega
            unfold eS
            rw [if_neg hjh, if_pos z]
            exact fun y => hch3 j j1 j2 z (ah_tr hB y q)
          · exact i1 j j1 j2 z)
    n (2 * s) (0, 1, sI σ 28 (nI s)) (by omega) ⟨0, e, _, rfl, by omega, ⟨Or.inr rfl, fun j j1 j2 => ?_, rfl, fun hs0 => ⟨?_, fun y => ?_⟩, zfr_I (by decide) zfr_r⟩, fun j j1 j2 j3 => ?_, fun j j1 j2 j3 j4 => absurd j4 (by omega)⟩
  · obtain ⟨b, l1, h, e1, σ1, hb, ⟨g1, g2, g3, g4, g5⟩, hhp⟩ := hlp
    have hhm : h < mm := by omega
    refine ⟨sA (sA σ1 8 (upd (zA σ1 8) h (nI (pl x.1)))) 9 (upd (zA σ1 9) h (nI x.2)), eS e1 h x, ?_, ⟨g3, fun j hj => ?_⟩, hhp, fun i j hi hj => (g4 (by omega)).1 i j hi hj, fun j hj => ?_, fun y => ?_, zfr_A (by decide) (zfr_A (by decide) g5)⟩
    · unfold fX3_takeFirst_0
      rw [hH.1, if_neg (show ¬ nI (s + 1) < 1 from fun q => by rw [show (1 : Int32) = nI 1 from rfl, nI_ltI (by omega) (by omega)] at q; omega), if_neg (show ¬ nI mm < nI (s + 1) from fun q => by rw [nI_ltI (by omega) (by omega)] at q; omega), if_pos (nI_le hs (by omega)), nI_pred, zg_t (show zin 0 mm = true from zin_nI (a := 0) (by omega) (by omega)), zg_in (by omega) (by omega), zg_in (by omega) (by omega), nI_clamp (by omega)]
      have r0 := hH.2 0 (by omega)
      have rs := hH.2 s (by omega)
      have r0' : zA σ 8 (Int32.toNatClampNeg 0) = nI (pl (e 0).1) := r0.1
      rw [r0', rs.1, rs.2]
      refine (zb_s l1).trans ?_
      have h172 : fX3_takeFirst_172 n nb sz mm σ1 (nI (pl (e 0).1)) (nI (pl (e s).1)) (nI (e s).2) (nI h) = some (nI (pl (e 0).1), sA (sA σ1 8 (upd (zA σ1 8) h (nI (pl x.1)))) 9 (upd (zA σ1 9) h (nI x.2))) := by
        unfold fX3_takeFirst_172
        rw [zb_s (c_hput hmm hhm)]
      rcases hb with rfl | rfl
      · exact h172
      · exact h172
    · show upd (zA σ1 8) h (nI (pl x.1)) j = _ ∧ upd (zA σ1 9) h (nI x.2) j = _
      rw [upd_at, upd_at]
      unfold eS
      by_cases z : j = h
      · rw [if_pos z, if_pos z, if_pos z]
        exact ⟨rfl, rfl⟩
      · rw [if_neg z, if_neg z, if_neg z]
        exact ⟨(g2 j hj z).1, (g2 j hj z).2.1⟩
    · unfold eS
      by_cases z : j = h
      · rw [if_pos z]; exact hxr
      · rw [if_neg z]; exact ⟨(g2 j hj z).2.2.1, (g2 j hj z).2.2.2⟩
    · by_cases hs0 : 0 < s
      · exact (g4 hs0).2 y
      · have : s = 0 := by omega
        subst this
        constructor
        · rintro ⟨j, hj, -⟩; omega
        · rintro ⟨⟨j, hj, rfl⟩, h2⟩
          exact absurd (by rw [show j = 0 by omega]) h2
  · exact ⟨(hH.2 j (by omega)).1, (hH.2 j (by omega)).2, (hr j (by omega)).1, (hr j (by omega)).2⟩
  · intro i j hi hj he
    unfold eS at he
    by_cases z : i = 0
    · by_cases y : j = 0
      · omega
      · rw [if_pos z, if_neg y] at he
        have := hin s j (by omega) (by omega) he
        omega
    · by_cases y : j = 0
      · rw [if_neg z, if_pos y] at he
        have := hin i s (by omega) (by omega) he
        omega
      · rw [if_neg z, if_neg y] at he
        exact hin i j (by omega) (by omega) he
  · constructor
    · rintro ⟨j, hj, rfl⟩
      unfold eS
      by_cases z : j = 0
      · rw [if_pos z]
        refine ⟨⟨s, by omega, rfl⟩, fun q => ?_⟩
        have := hin s 0 (by omega) (by omega) (congrArg Prod.fst (show e s = e 0 from q))
        omega
      · rw [if_neg z]
        refine ⟨⟨j, by omega, rfl⟩, fun q => ?_⟩
        have := hin j 0 (by omega) (by omega) (by rw [q])
        omega
    · rintro ⟨⟨j, hj, rfl⟩, h2⟩
      by_cases z : j = s
      · exact ⟨0, hs0, by unfold eS; rw [if_pos rfl, z]⟩
      · have hj0 : ¬ j = 0 := fun q => h2 (by rw [q])
        exact ⟨j, by omega, by unfold eS; rw [if_neg hj0]⟩
  · unfold eS
    have hj0 : ¬ j = 0 := by omega
    rw [if_neg hj0, if_neg j3]
    exact hp j j1 (by omega)
