theorem c_inRel {n nb sz mm : Nat} {ib : List Nat} {σ : zS} (hn : 300 < n) (hnb : nb ≤ 200) (h : rwL (fun x : Nat => x) ib (zI σ 17) (zA σ 5)) (hl : ib.length ≤ nb) (hb : ∀ b ∈ ib, b < nb) : fX2_removeAll_0 n nb sz mm σ = some (sI (sI (sA (sI (sA σ 0 (frU (zA σ 0) ib)) 17 0) 5 (zA σ 5)) 12 0) 14 (-1)) := by
  have hl : zlp (fX2_removeAll_L2_2 n nb sz mm) n (0, σ) = some (sA σ 0 (frU (zA σ 0) ib)) := by
    have e0 : ((0 : Int32), σ) = (fun j => (nI j, sA σ 0 (frU (zA σ 0) (ib.take j)))) 0 := by
      show _ = (nI 0, sA σ 0 (frU (zA σ 0) (ib.take 0)))
      rw [List.take_zero, frU_nil, sA_id]
      rfl
    rw [e0]
    refine zlp_for (β := zS) (fun j => (nI j, sA σ 0 (frU (zA σ 0) (ib.take j)))) _ ib.length 0 n (fun j _ hj => ?_) ?_ (by omega)
    · have hj2 : j < ib.length := by omega
      have e := List.getElem?_eq_getElem hj2
      have hbb := hb _ (List.mem_of_getElem? e)
      unfold fX2_removeAll_L2_2 fX6_size_0
      dsimp only
      show zb (some (zI σ 17)) (fun q1 => if q1 ≤ nI j then _ else zb (fX6_get_0 n nb (zrv (zI σ 17) (zA σ 5)) (nI j)) _) = _
      have hg : fX6_get_0 n nb (zrv (zI σ 17) (zA σ 5)) (nI j) = some (nI ib[j]) := rl_get (g := fun x : Nat => x) h e hl hnb
      rw [zb_s rfl, zb_s hg, h.1, if_neg (show ¬ nI ib.length ≤ nI j from fun q => by rw [nI_leI (by omega) (by omega)] at q; omega), zb_s (c_release hnb hbb), sA_sA, nI_1, show zA (sA σ 0 (frU (zA σ 0) (ib.take j))) 0 = frU (zA σ 0) (ib.take j) from rfl, frU_snoc, take_snoc e]
    · unfold fX2_removeAll_L2_2 fX6_size_0
      dsimp only
      show zb (some (zI σ 17)) (fun q1 => if q1 ≤ nI (0 + ib.length) then _ else _) = _
      rw [zb_s rfl, h.1, Nat.zero_add, if_pos (nI_le (Nat.le_refl _) (by omega)), List.take_length]
  unfold fX2_removeAll_0 fX6_clear_0
  rw [zb_s hl]
  rfl
theorem c_addNew {n nb sz mm : Nat} {ps qs : List zP} {σ : zS} (hn : 300 < n) (hnb : nb ≤ 200) (h : rwL hdP ps (zI σ 32) (zA σ 16)) (h2 : rwL hdP qs (zI σ 26) (zA σ 7)) (hl : ps.length + qs.length ≤ nb) : ∃ σ', fX7_addNewRuns_p33_0 n nb sz mm σ = some σ' ∧ rwL hdP (ps ++ qs) (zI σ' 32) (zA σ' 16) ∧ zfr [32] [16] [] σ σ' := by
  obtain ⟨σ', l1, l2, l3⟩ := zlp_tot (body := fX7_addNewRuns_p33_L2_2 n nb sz mm) (fun m a => ∃ j σ1, a = (nI j, σ1) ∧ m = qs.length - j ∧ j ≤ qs.length ∧ rwL hdP (ps ++ qs.take j) (zI σ1 32) (zA σ1 16) ∧ zfr [32] [16] [] σ σ1) (fun b => rwL hdP (ps ++ qs) (zI b 32) (zA b 16) ∧ zfr [32] [16] [] σ b) (fun m a hP => by
    obtain ⟨j, σ1, rfl, rfl, hj, g1, g2⟩ := hP
    unfold fX7_addNewRuns_p33_L2_2 fX6_size_0
    dsimp only
    rw [zb_s (show some (zI (zrv (zI σ1 26) (zA σ1 7)) 0) = some (nI qs.length) from by rw [show zI (zrv (zI σ1 26) (zA σ1 7)) 0 = zI σ1 26 from rfl, g2.1 26 (by decide), h2.1])]
    by_cases c : j = qs.length
    · right
      rw [if_pos (nI_le (show qs.length ≤ j by omega) (by omega))]
      refine ⟨_, rfl, ?_, g2⟩
      rw [c, List.take_length] at g1
      exact g1
    · left
      have hj2 : j < qs.length := by omega
      have e := List.getElem?_eq_getElem hj2
      have hg : fX6_get_0 n nb (zrv (zI σ1 26) (zA σ1 7)) (nI j) = some (nI (hdP qs[j])) := by
        rw [g2.1 26 (by decide), g2.2.1 7 (by decide)]
        exact rl_get h2 e (by omega) hnb
      obtain ⟨s, s1, s2⟩ := rl_add (n := n) (ln := nb) (x := qs[j]) g1 (by rw [List.length_append, List.length_take]; omega) hnb
      rw [if_neg (show ¬ nI qs.length ≤ nI j from fun q => by rw [nI_leI (by omega) (by omega)] at q; omega), zb_s hg, zb_s s1, nI_1]
      refine ⟨_, qs.length - (j + 1), by omega, rfl, j + 1, _, rfl, rfl, by omega, ?_, zfr_A (by decide) (zfr_I (by decide) g2)⟩
      rw [List.append_assoc, ← take_snocG e] at s2
      exact s2)
    n qs.length (0, σ) (by omega) ⟨0, σ, rfl, rfl, Nat.zero_le _, by rw [List.take_zero, List.append_nil]; exact h, zfr_r⟩
  refine ⟨σ', ?_, l2, l3⟩
  unfold fX7_addNewRuns_p33_0
  rw [zb_s l1]
theorem m_addNew {n : Nat} {ps qs : List zP} {τ : zS} (hn : 300 < n) (h : rwL flP ps (zI τ 4) (zA τ 7)) (h2 : rwL (fun x : Nat => x) (qs.map flP) (zI τ 25) (zA τ 12)) (hl : ps.length + qs.length ≤ 200) : ∃ τ', zlp (fX10_form_L264_264 n) n (0, τ) = some τ' ∧ rwL flP (ps ++ qs) (zI τ' 4) (zA τ' 7) ∧ zfr [4] [7] [] τ τ' := by
  refine zlp_tot (body := fX10_form_L264_264 n) (fun m a => ∃ j τ1, a = (nI j, τ1) ∧ m = qs.length - j ∧ j ≤ qs.length ∧ rwL flP (ps ++ qs.take j) (zI τ1 4) (zA τ1 7) ∧ zfr [4] [7] [] τ τ1) (fun b => rwL flP (ps ++ qs) (zI b 4) (zA b 7) ∧ zfr [4] [7] [] τ b) (fun m a hP => by
    obtain ⟨j, τ1, rfl, rfl, hj, g1, g2⟩ := hP
    unfold fX10_form_L264_264
    dsimp only
    rw [g2.1 25 (by decide), h2.1, List.length_map]
    by_cases c : j = qs.length
    · right
      rw [if_pos (nI_le (show qs.length ≤ j by omega) (by omega))]
      refine ⟨_, rfl, ?_, g2⟩
      rw [c, List.take_length] at g1
      exact g1
    · left
      have hj2 : j < qs.length := by omega
      have e := List.getElem?_eq_getElem hj2
      have e2 : (qs.map flP)[j]? = some (flP qs[j]) := by rw [List.getElem?_map, e]; rfl
      have hlen : (ps ++ qs.take j).length = ps.length + j := by rw [List.length_append, List.length_take]; omega
      have h4 : zI τ1 4 = nI (ps.length + j) := by rw [g1.1, hlen]
      rw [if_neg (show ¬ nI qs.length ≤ nI j from fun q => by rw [nI_leI (by omega) (by omega)] at q; omega), zg_in (show j < 208 by omega) (by decide), h4, zg_in (show ps.length + j < 208 by omega) (by decide), nI_clamp (show j < 2 ^ 31 by omega), nI_clamp (show ps.length + j < 2 ^ 31 by omega), g2.2.1 12 (by decide), show zA τ 12 j = nI (flP qs[j]) from h2.2 j _ e2, nI_1, nI_1]
      refine ⟨_, qs.length - (j + 1), by omega, rfl, j + 1, _, rfl, rfl, by omega, ⟨?_, fun i x hi => ?_⟩, zfr_I (by decide) (zfr_A (by decide) g2)⟩
      · show nI (ps.length + j + 1) = _
        rw [List.length_append, List.length_take, show min (j + 1) qs.length = j + 1 by omega]
        rfl
      · show upd (zA τ1 7) (ps.length + j) (nI (flP qs[j])) i = _
        rw [take_snocG e, ← List.append_assoc] at hi
        rw [upd_at]
        by_cases q : i = ps.length + j
        · rw [q, List.getElem?_append_right (by omega), hlen, Nat.sub_self] at hi
          cases hi
          rw [if_pos q]
        · rw [if_neg q]
          have hil := (List.getElem?_eq_some_iff.mp hi).1
          rw [List.length_append, hlen] at hil
          simp only [List.length_cons, List.length_nil] at hil
          rw [List.getElem?_append_left (by omega)] at hi
          exact g1.2 i x hi)
    n qs.length (0, τ) (by omega) ⟨0, τ, rfl, rfl, Nat.zero_le _, by rw [List.take_zero, List.append_nil]; exact h, zfr_r⟩
theorem m_free0 {n N : Nat} {ib : List Nat} {τ : zS} (hn : 300 < n) (h : JF 0 ib N (zA τ 3) (zA τ 4) (zA τ 5) (zA τ 2)) (hb : ∀ b ∈ ib, b < 200) (hl : ib.length ≤ 200) : fX10_free_0 n τ 0 = some (sA (sA (sA (sA (sA τ 0 (frU (zA τ 0) ib)) 3 (upd (zA τ 3) 0 (-1))) 4 (upd (zA τ 4) 0 (-1))) 5 (upd (zA τ 5) 0 0)) 6 (upd (zA τ 6) 0 1)) := by
  have h0 : zA τ 3 0 = chAt ib 0 := by
    by_cases e : ib = []
    · rw [(h.1 e).1, e]
      rfl
    · rw [(h.2.1 e).1, chAt_some (head_at e)]
  have hz : ∀ {α : Type} {k : Option α}, zg (zin 0 208) k = k := fun {α k} => zg_t (by decide)
  unfold fX10_free_0 fX10_free_64
  rw [hz, show (Int32.toNatClampNeg 0) = 0 by decide, h0, zb_s (m_freeL (x := 0) hn h.2.2.2 hb hl), hz, hz, hz, if_pos rfl, hz, nar1]
  rfl
