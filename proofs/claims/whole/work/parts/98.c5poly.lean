theorem gF_nil {L : Nat → List zP} {th : Nat → Nat} : ∀ {m : Nat}, (∀ j, 1 ≤ j → j ≤ m → ¬ th j = 0) → gF L th m = [] := by
  intro m
  induction m with
  | zero => intro _; rfl
  | succ m ih =>
    intro h
    rw [gF_snoc1 (by omega) (h (m + 1) (by omega) (Nat.le_refl _))]
    exact ih (fun j h1 h2 => h j h1 (by omega))
theorem gF_ne {L : Nat → List zP} {th : Nat → Nat} : ∀ {m j : Nat}, 1 ≤ j → j ≤ m → th j = 0 → ¬ L j = [] → ¬ gF L th m = [] := by
  intro m
  induction m with
  | zero => intro j h1 h2; omega
  | succ m ih =>
    intro j h1 h2 h3 h4
    show ¬ gF L th m ++ (if th (m + 1) = 0 then (L (m + 1)).head?.toList else []) = []
    by_cases c : j = m + 1
    · subst c
      rw [if_pos h3]
      cases e : L (m + 1) with
      | nil => exact absurd e h4
      | cons a t => simp
    · intro q
      exact ih h1 (show j ≤ m by omega) h3 h4 (List.append_eq_nil_iff.mp q).1
/-- one step of a level -/
theorem j_pstep {n nb sz mm cm w od kn T : Nat} {r : Int32} {inp : List Nat} {L : Nat → List zP} {th wt c fr : Nat → Nat} {σ τ : zS} (hn : 110000 ≤ n) (hnb0 : 2 ≤ nb) (hnb : nb ≤ 200) (hs5 : 5 ≤ sz) (hsz : sz ≤ 64) (hT : 3 ≤ T) (hT6 : T ≤ 6) (hJ : JS cm nb sz mm w od kn inp (cL L T) σ τ) (h : PT T L th wt c fr σ τ) (hth : ∀ j, 1 ≤ j → j ≤ T → th j < 100000) (hge : ∀ j, 1 ≤ j → j < T → 1 ≤ th j + (L j).length) (hfT : fr T = 0) (h17 : zI τ 17 = 0) (hr : ¬ r ≤ 0) :
    (∃ σ' τ' L2 th2 fr2, fX9_mergeLevel_L8_8 n nb sz mm (r, σ) = some (.inl (r + -1, σ')) ∧ fX10_together_0 n τ (nI (T - 1)) = some τ' ∧ JS cm nb sz mm w od kn inp (cL L2 T) σ' τ' ∧ PT T L2 th2 wt c fr2 σ' τ' ∧ (∀ j, 1 ≤ j → j < T → th2 j + (L2 j).length + 1 = th j + (L j).length ∧ th2 j ≤ th j) ∧ th2 T + (L2 T).length = th T + (L T).length + 1 ∧ th2 T ≤ th T + 1 ∧ fr2 T = 0 ∧ zI τ' 17 = 0 ∧ zI σ' 7 = zI σ 7 ∧ zI σ' 31 = zI σ 31 ∧ zA σ' 14 = zA σ 14 ∧ zI τ' 26 = zI τ 26 ∧ zA τ' 23 = zA τ 23 ∧ zI τ' 0 = zI τ 0 ∧ (cL L T = [] → cL L2 T = [] ∧ zfp [29] [10, 15] [] σ σ'))
    ∨ (∃ σ' τ', fX9_mergeLevel_L8_8 n nb sz mm (r, σ) = some (.inr (.inr σ')) ∧ fX10_together_0 n τ (nI (T - 1)) = some τ' ∧ JS cm nb sz mm w od kn inp (cL L T) σ' τ' ∧ PT T L th wt c fr σ' τ' ∧ ((zI τ' 17 = 1 ∧ zI σ' 7 = 1) ∨ (zI τ' 17 = 2 ∧ zI σ' 7 = zI σ 7)) ∧ zI τ' 26 = zI τ 26 ∧ ¬ cL L T = []) := by
  have hok : zTok σ := hJ.1.1.2.2.2.2.2
  have hmany := js_many hJ
  have hln : ∀ j, 1 ≤ j → j ≤ T → (L j).length ≤ nb := fun j h1 h2 => by
    have := cL_len (L := L) h1 h2
    omega
  have hth' : ∀ j, 1 ≤ j → j ≤ T → th j < 2 ^ 30 := fun j h1 h2 => by have := hth j h1 h2; omega
  have hne : ∀ j, 1 ≤ j → j < T → th j = 0 → ¬ L j = [] := fun j h1 h2 h3 q => by
    have := hge j h1 h2
    rw [h3, q] at this
    exact absurd this (by simp)
  obtain ⟨σ1, a1, a2, a3⟩ := c_fronts (n := n) (nb := nb) (sz := sz) (mm := mm) (by omega) hnb hT6 (by omega) h hok hln hth' hne
  obtain ⟨v, b1, b2⟩ := m_allThought (n := n) (by omega) hT6 (by omega) h hth'
  obtain ⟨τ1, c1, c2, c3⟩ := m_fronts (n := n) (k2 := nI (c T)) (k3 := v) (by omega) hT6 (by omega) h hth' hne
  have hperm : (cL L T).Perm (gF L th (T - 1) ++ cL (lT L th (T - 1)) T) := by
    obtain ⟨m, hm⟩ : ∃ m, T = m + 1 := ⟨T - 1, by omega⟩
    rw [hm, Nat.add_sub_cancel]
    show (cL L m ++ L (m + 1)).Perm (gF L th m ++ (cL (lT L th m) m ++ lT L th m (m + 1)))
    rw [show lT L th m (m + 1) = L (m + 1) from if_neg (by omega), ← List.append_assoc]
    exact List.Perm.append_right _ (gF_perm (Nat.le_refl _))
  have hgl := gF_len (L := L) (th := th) (m := T - 1)
  obtain ⟨rT, rT1, rT2, -, -, -, -, rT8⟩ := h.2.2.1 T (by omega) (Nat.le_refl _)
  have hm0 : fX10_together_0 n τ (nI (T - 1)) = if nI (gF L th (T - 1)).length = 0 then fX10_together_128 n τ1 (nI (T - 1)) (nI (c T)) v (-1) else if nI (gF L th (T - 1)).length = 1 then fX10_together_128 n τ1 (nI (T - 1)) (nI (c T)) v (zA τ1 13 0) else zb (fX10_merge_0 n τ1 (nI (gF L th (T - 1)).length)) (fun q18 => fX10_together_128 n q18.2 (nI (T - 1)) (nI (c T)) v q18.1) := by
    unfold fX10_together_0
    rw [nI_1, show T - 1 + 1 = T by omega, zg_in (by omega) (by decide), zb_s b1, nI_clamp (by omega), rT, zb_s c1]
    rfl
  -- behind the shift
  have hJ1 : JS cm nb sz mm w od kn inp (cL L T) σ1 τ1 := JS_fr hJ a3 c3 (by decide) (by decide) (by decide) (by decide) (by decide) (by decide)
  have fin : ∀ (σ2 τ2 : zS) (x : Int32) (y : Int32) (op : Option zP) (hz : cL L T = [] → op = none ∧ cL (lT L th (T - 1)) T = [] ∧ zfp [29] [10] [] σ σ2), zfr [2, 3, 4, 5, 6, 7, 18, 19, 20, 21, 22, 23, 24, 25, 26] [0, 3, 4, 6, 7, 11, 12, 13] [0, 2] σ1 σ2 → zfr [10, 11, 12, 13, 14, 15, 17, 18, 19, 20] [0, 1, 2, 3, 4, 5, 6, 14, 15, 16] [0, 2, 3] τ1 τ2 → JS cm nb sz mm w od kn inp (op.toList ++ cL (lT L th (T - 1)) T) σ2 τ2 → zI τ2 17 = 0 → zI σ2 7 = zI σ 7 → ((op = none ∧ x = -1 ∧ v = 1) ∨ (∃ p, op = some p ∧ x = nI (hdP p) ∧ y = nI p.1 ∧ v = 0)) → fX9_mergeLevel_L8_8 n nb sz mm (r, σ) = zb (fX8_shift_0 n nb sz mm σ2 x) (fun q14 => some (.inl (r + -1, q14))) → fX10_together_0 n τ (nI (T - 1)) = fX10_together_128 n τ2 (nI (T - 1)) (nI (c T)) v y → (∃ σ' τ' L2 th2 fr2, fX9_mergeLevel_L8_8 n nb sz mm (r, σ) = some (.inl (r + -1, σ')) ∧ fX10_together_0 n τ (nI (T - 1)) = some τ' ∧ JS cm nb sz mm w od kn inp (cL L2 T) σ' τ' ∧ PT T L2 th2 wt c fr2 σ' τ' ∧ (∀ j, 1 ≤ j → j < T → th2 j + (L2 j).length + 1 = th j + (L j).length ∧ th2 j ≤ th j) ∧ th2 T + (L2 T).length = th T + (L T).length + 1 ∧ th2 T ≤ th T + 1 ∧ fr2 T = 0 ∧ zI τ' 17 = 0 ∧ zI σ' 7 = zI σ 7 ∧ zI σ' 31 = zI σ 31 ∧ zA σ' 14 = zA σ 14 ∧ zI τ' 26 = zI τ 26 ∧ zA τ' 23 = zA τ 23 ∧ zI τ' 0 = zI τ 0 ∧ (cL L T = [] → cL L2 T = [] ∧ zfp [29] [10, 15] [] σ σ')) := by
    intro σ2 τ2 x y op hz f2 f2' hJ2 h172 h72 hop hcc hmm
    have hok2 : zTok σ2 := hJ2.1.1.2.2.2.2.2
    have hPT2 : PT T L th wt c fr σ2 τ2 := by
      unfold PT
      rw [f2.1 30 (by decide), a3.1 30 (by decide), f2.2.1 15 (by decide), a3.2.1 15 (by decide), f2.2.1 14 (by decide), a3.2.1 14 (by decide), f2.2.2.2.1, a3.2.2.2.1, f2.2.2.2.2.1, a3.2.2.2.2.1, f2.2.2.2.2.2, a3.2.2.2.2.2, f2'.2.1 22 (by decide), c3.2.1 22 (by decide), f2'.2.1 19 (by decide), c3.2.1 19 (by decide), f2'.2.1 20 (by decide), c3.2.1 20 (by decide), f2'.2.1 18 (by decide), c3.2.1 18 (by decide), f2'.2.1 21 (by decide), c3.2.1 21 (by decide), f2'.2.1 23 (by decide), c3.2.1 23 (by decide)]
      exact h
    obtain ⟨σ3, τ3, d1, d2, d3, d4, d5, d6⟩ := j_shift (n := n) (nb := nb) (sz := sz) (mm := mm) (k1 := nI (T - 1)) (k2 := nI (c T)) (k3 := v) (k5 := y) (x1 := x) (by omega) hnb hT6 (by omega) rfl hPT2 hok2 hln hth' hne
    have hok3 : zTok σ3 := by unfold zTok; rw [d4]; exact hok2
    have hLT : lT L th (T - 1) T = L T := if_neg (by omega)
    have htT : tT th (T - 1) T = th T := if_neg (by omega)
    have hfrT : fT fr th (T - 1) T = fr T := if_neg (by omega)
    have hsum : ∀ j, 1 ≤ j → j < T → tT th (T - 1) j + (lT L th (T - 1) j).length + 1 = th j + (L j).length ∧ tT th (T - 1) j ≤ th j := fun j j1 j2 => by
      have e1 : tT th (T - 1) j = th j - 1 := if_pos (by omega)
      rw [e1]
      by_cases q : th j = 0
      · have e2 : lT L th (T - 1) j = (L j).tail := if_pos ⟨j1, by omega, q⟩
        rw [e2, q]
        cases e : L j with
        | nil => exact absurd e (hne j j1 j2 q)
        | cons a t => simp
      · have e2 : lT L th (T - 1) j = L j := if_neg (fun z => q z.2.2)
        rw [e2]
        omega
    have s30 : zI σ3 30 = nI T := d3.1
    have hpos : ¬ nI T < 1 := fun q => by rw [show (1 : Int32) = nI 1 from rfl, nI_ltI (by omega) (by omega)] at q; omega
    have hle6 : nI T ≤ 6 := nI_le (b := 6) hT6 (by decide)
    have h17' : zI τ2 17 ≤ 0 := by rw [h172]; decide
    have e31 : zI σ3 31 = zI σ 31 := (d5.1 31 List.not_mem_nil).trans ((f2.1 31 (by decide)).trans (a3.1 31 (by decide)))
    have e14 : zA σ3 14 = zA σ 14 := (d5.2.1 14 (by decide)).trans ((f2.2.1 14 (by decide)).trans (a3.2.1 14 (by decide)))
    have e26 : zI τ3 26 = zI τ 26 := (d6.1 26 List.not_mem_nil).trans ((f2'.1 26 (by decide)).trans (c3.1 26 (by decide)))
    have e23 : zA τ3 23 = zA τ 23 := (d6.2.1 23 (by decide)).trans ((f2'.2.1 23 (by decide)).trans (c3.2.1 23 (by decide)))
    have e0 : zI τ3 0 = zI τ 0 := (d6.1 0 List.not_mem_nil).trans ((f2'.1 0 (by decide)).trans (c3.1 0 (by decide)))
    rcases hop with ⟨rfl, rfl, rfl⟩ | ⟨p, rfl, rfl, rfl, rfl⟩
    · have hpt := pt_th (v := th T + 1) d3 (show 1 ≤ T by omega) (Nat.le_refl _)
      have r15 : zA σ3 15 T = nI (th T) := by rw [(d3.2.1 T (by omega) (Nat.le_refl _)).2, htT]
      have r21 : zA τ3 21 (c T) = nI (th T) := by
        obtain ⟨-, -, -, -, -, -, -, z⟩ := d3.2.2.1 T (by omega) (Nat.le_refl _)
        rw [z, htT]
      refine ⟨sA σ3 15 (upd (zA σ3 15) T (nI (th T + 1))), sA τ3 21 (upd (zA τ3 21) (c T) (nI (th T + 1))), lT L th (T - 1), nU (tT th (T - 1)) T (th T + 1), fT fr th (T - 1), ?_, ?_, ?_, hpt, fun j j1 j2 => ?_, ?_, ?_, ?_, ?_, ?_, e31, e14, e26, e23, e0, fun e => ⟨(hz e).2.1, zfp_A (by decide) (zfp_t (zfp_t zfp_r (hz e).2.2 (by decide) (by decide) (by decide)) d5 (by decide) (by decide) (by decide))⟩⟩
      · rw [hcc]
        unfold fX8_shift_0
        rw [zb_s d1, s30, if_neg hpos, if_pos hle6, if_pos rfl, zg_in (by omega) (by decide), zg_in (by omega) (by decide), nI_clamp (by omega), r15, nI_1]
        rfl
      · rw [hmm]
        unfold fX10_together_128
        rw [if_pos h17', zb_s d2, if_neg (show ¬ (1 : Int32) = 0 by decide), zg_in (show c T < 7 by omega) (by decide), zg_in (show c T < 7 by omega) (by decide), nI_clamp (by omega), r21, nI_1]
      · refine JS_fp (I := []) (A := [15]) (L := []) (I' := []) (A' := [19, 21]) (L' := []) hJ2 (zfp_A (by decide) d5) ?_ (zfr_A (by decide) d6) (by decide) (by decide) (by decide) (by decide) (by decide) (by decide)
        exact hok3
      · rw [show nU (tT th (T - 1)) T (th T + 1) j = tT th (T - 1) j from if_neg (by omega)]
        exact hsum j j1 j2
      · rw [show nU (tT th (T - 1)) T (th T + 1) T = th T + 1 from if_pos rfl, hLT]
        omega
      · rw [show nU (tT th (T - 1)) T (th T + 1) T = th T + 1 from if_pos rfl]
        exact Nat.le_refl _
      · rw [hfrT]; exact hfT
      · exact (d6.1 17 List.not_mem_nil).trans h172
      · exact (d5.1 7 List.not_mem_nil).trans h72
    · have hmany2 := js_many hJ2
      have hLl : (L T).length + 1 ≤ 200 := by
        have h1 : (L T).length ≤ (cL (lT L th (T - 1)) T).length := by
          have := cL_len (L := lT L th (T - 1)) (m := T) (show 1 ≤ T by omega) (Nat.le_refl _)
          rw [hLT] at this
          exact this
        rw [List.length_append] at hmany2
        simp only [Option.toList, List.length_cons, List.length_nil] at hmany2
        omega
      have hpm : p ∈ (some p).toList ++ cL (lT L th (T - 1)) T := List.mem_append_left _ (by simp)
      have hhd : hdP p < nb := (hJ2.2.2.2.2.2.2.2.1.2.1 _ (List.mem_append_right _ (j_len hJ2.2.2.2.2.2.2.2.1 p.2 (List.mem_map.mpr ⟨p, hpm, rfl⟩)))).1
      have hfl : p.1 < 208 := (hJ2.2.2.2.2.2.2.1.2.1 p hpm).2
      have hlt : (L T).length < nb := by
        have h1 : (L T).length ≤ (cL (lT L th (T - 1)) T).length := by
          have := cL_len (L := lT L th (T - 1)) (m := T) (show 1 ≤ T by omega) (Nat.le_refl _)
          rw [hLT] at this
          exact this
        rw [List.length_append] at hmany2
        simp only [Option.toList, List.length_cons, List.length_nil] at hmany2
        omega
      obtain ⟨s, s1, s2⟩ := rl_add (n := n) (ln := nb) (x := p) (d3.2.1 T (by omega) (Nat.le_refl _)).1 (by rw [hLT]; exact hlt) hnb
      have happ := m_append (n := n) (p := p) d3 hT6 (show 1 ≤ T by omega) (Nat.le_refl _)
      have hpt := pt_add (p := p) d3 hok3 hT6 (show 1 ≤ T by omega) (Nat.le_refl _) s2 (by rw [hfrT, hLT, hfT]; omega)
      have hz7 : z7 (zT σ3 T) = true := decide_eq_true (hok3.1 T (by omega))
      refine ⟨_, _, lU (lT L th (T - 1)) T (lT L th (T - 1) T ++ [p]), tT th (T - 1), fT fr th (T - 1), ?_, ?_, ?_, hpt, fun j j1 j2 => ?_, ?_, ?_, ?_, ?_, ?_, e31, e14, e26, e23, e0, fun e => absurd (hz e).1 (by simp)⟩
      · rw [hcc]
        unfold fX8_shift_0
        rw [zb_s d1, s30, if_neg hpos, if_pos hle6, if_neg (nI_m1 (by omega)), zg_in (by omega) (by decide), nI_clamp (by omega), zg_t hz7, zb_s s1]
        rfl
      · rw [hmm]
        unfold fX10_together_128
        rw [if_pos h17', zb_s d2, if_pos rfl, zb_s happ]
      · refine JS_perm (JS_fp (I := []) (A := [15]) (L := []) (I' := []) (A' := [18, 19, 20, 21]) (L' := []) hJ2 (zfp_V (zfp_U d5)) ?_ (zfr_A (by decide) (zfr_A (by decide) (zfr_w d6 (by decide) (by decide) (by decide)))) (by decide) (by decide) (by decide) (by decide) (by decide) (by decide)) ?_
        · exact hok3
        · exact (cL_add (show 1 ≤ T by omega) (Nat.le_refl _)).symm
      · rw [show lU (lT L th (T - 1)) T (lT L th (T - 1) T ++ [p]) j = lT L th (T - 1) j from if_neg (by omega)]
        exact hsum j j1 j2
      · rw [show lU (lT L th (T - 1)) T (lT L th (T - 1) T ++ [p]) T = lT L th (T - 1) T ++ [p] from if_pos rfl, htT, hLT, List.length_append]
        rfl
      · rw [htT]; omega
      · rw [hfrT]; exact hfT
      · exact (d6.1 17 List.not_mem_nil).trans h172
      · exact (d5.1 7 List.not_mem_nil).trans h72
  have h171 : zI τ1 17 = 0 := (c3.1 17 List.not_mem_nil).trans h17
  have hc0 : fX9_mergeLevel_L8_8 n nb sz mm (r, σ) = zb (fX6_get_0 n 8 (zrv (zI σ1 29) (zA σ1 10)) 0) (fun q6 => if nI (gF L th (T - 1)).length ≤ 1 then fX9_mergeLevel_L8_71 n nb sz mm σ1 r q6 else zb (fX4_merge_0 n nb sz mm σ1 (zI σ1 0)) (fun q11 => if q11.1 = -1 then some (.inr (.inr q11.2)) else fX9_mergeLevel_L8_71 n nb sz mm q11.2 r q11.1)) := by
    unfold fX9_mergeLevel_L8_8 fX6_size_0
    dsimp only
    rw [if_neg hr, zb_s a1]
    congr 1
    funext q6
    rw [zb_s (show some (zI (zrv (zI σ1 29) (zA σ1 10)) 0) = some (nI (gF L th (T - 1)).length) from congrArg some a2.1)]
  unfold fX9_mergeLevel_L8_71 at hc0
  by_cases g0 : gF L th (T - 1) = []
  · left
    have hv : v = 1 := by
      rcases b2 with ⟨z, -⟩ | ⟨-, j, j1, j2, j3⟩
      · exact z
      · exact absurd g0 (gF_ne j1 (by omega) j3 (hne j j1 j2 j3))
    have hget : fX6_get_0 n 8 (zrv (zI σ1 29) (zA σ1 10)) 0 = some (-1) := by
      rw [g0] at a2
      exact c_get_out (m := 0) a2.1 (Or.inr (by decide))
    rw [zb_s hget, g0, if_pos (show nI ([] : List zP).length ≤ 1 by decide)] at hc0
    rw [g0, if_pos (show nI ([] : List zP).length = 0 from rfl)] at hm0
    rw [g0, List.nil_append] at hperm
    exact fin σ1 τ1 (-1) (-1) none (fun e => ⟨rfl, by rw [e] at hperm; exact (List.Perm.nil_eq hperm).symm, zfp_of a3⟩) zfr_r zfr_r (JS_perm hJ1 hperm) h171 (a3.1 7 (by decide)) (Or.inl ⟨rfl, rfl, hv⟩) hc0 hm0
  · have hcne : ¬ cL L T = [] := fun e => by
      rw [e] at hperm
      exact g0 (List.append_eq_nil_iff.mp (List.Perm.nil_eq hperm).symm).1
    have hv : v = 0 := by
      rcases b2 with ⟨-, z⟩ | ⟨z, -⟩
      · exact absurd (gF_nil (fun j j1 j2 => z j j1 (by omega))) g0
      · exact z
    have hlp : 1 ≤ (gF L th (T - 1)).length := List.length_pos_iff.mpr g0
    obtain ⟨p, hp⟩ : ∃ p, (gF L th (T - 1))[0]? = some p := ⟨_, List.getElem?_eq_getElem hlp⟩
    have hget : fX6_get_0 n 8 (zrv (zI σ1 29) (zA σ1 10)) 0 = some (nI (hdP p)) := rl_get (j := 0) a2 hp (by omega) (by decide)
    rw [zb_s hget] at hc0
    rw [if_neg (show ¬ nI (gF L th (T - 1)).length = 0 from nI_ne0 (by omega) (by omega))] at hm0
    by_cases g1 : (gF L th (T - 1)).length = 1
    · left
      have hgp : gF L th (T - 1) = [p] := by
        cases e : gF L th (T - 1) with
        | nil => exact absurd e g0
        | cons x t =>
          rw [e] at g1 hp
          cases t with
          | nil => cases hp; rfl
          | cons y t => exact absurd g1 (by simp)
      rw [g1, if_pos (show nI 1 ≤ 1 by decide)] at hc0
      rw [g1, if_pos (show nI 1 = 1 from rfl), c2 0 p hp] at hm0
      rw [hgp] at hperm
      exact fin σ1 τ1 (nI (hdP p)) (nI p.1) (some p) (fun e => absurd e hcne) zfr_r zfr_r (JS_perm hJ1 hperm) h171 (a3.1 7 (by decide)) (Or.inr ⟨p, rfl, rfl, rfl, hv⟩) hc0 hm0
    · rw [if_neg (show ¬ nI (gF L th (T - 1)).length ≤ 1 from fun q => by rw [show (1 : Int32) = nI 1 from rfl, nI_leI (by omega) (by omega)] at q; omega)] at hc0
      rw [if_neg (show ¬ nI (gF L th (T - 1)).length = 1 from fun q => g1 ((nI_eq (b := 1) (by omega) (by decide)).mp q))] at hm0
      obtain ⟨rc, σ2, rm, τ2, m1, m2, m3, m4, m5⟩ := j_merge (gs := gF L th (T - 1)) (rest := cL (lT L th (T - 1)) T) hn hnb0 hnb hs5 hsz hJ1 hperm hlp (by omega) a2.1 a2.2 c2
      rw [zb_s m1] at hc0
      rw [zb_s m2] at hm0
      dsimp only at hc0 hm0
      rcases m3 with ⟨p', rfl, rfl, e1, e2, e3⟩ | ⟨rfl, rfl, e1, e2⟩
      · left
        have hpm : p' ∈ p' :: cL (lT L th (T - 1)) T := List.mem_cons_self
        have hhd : hdP p' < nb := (e1.2.2.2.2.2.2.2.1.2.1 _ (List.mem_append_right _ (j_len e1.2.2.2.2.2.2.2.1 p'.2 (List.mem_map.mpr ⟨p', hpm, rfl⟩)))).1
        rw [if_neg (nI_m1 (show p'.2.1.headD 0 < 2 ^ 31 by have : p'.2.1.headD 0 < nb := hhd; omega))] at hc0
        exact fin σ2 τ2 (nI (hdP p')) (nI p'.1) (some p') (fun e => absurd e hcne) m4 m5 e1 e2 (e3.trans (a3.1 7 (by decide))) (Or.inr ⟨p', rfl, rfl, rfl, hv⟩) hc0 hm0
      · right
        rw [if_pos rfl] at hc0
        have h17n : ¬ zI τ2 17 ≤ 0 := by
          rcases e2 with ⟨z, -⟩ | ⟨z, -⟩
          · rw [z]; decide
          · rw [z]; decide
        unfold fX10_together_128 at hm0
        rw [if_neg h17n] at hm0
        refine ⟨σ2, τ2, hc0, hm0, e1, ?_, ?_, (m5.1 26 (by decide)).trans (c3.1 26 (by decide)), hcne⟩
        · unfold PT
          rw [m4.1 30 (by decide), a3.1 30 (by decide), m4.2.1 15 (by decide), a3.2.1 15 (by decide), m4.2.1 14 (by decide), a3.2.1 14 (by decide), m4.2.2.2.1, a3.2.2.2.1, m4.2.2.2.2.1, a3.2.2.2.2.1, m4.2.2.2.2.2, a3.2.2.2.2.2, m5.2.1 22 (by decide), c3.2.1 22 (by decide), m5.2.1 19 (by decide), c3.2.1 19 (by decide), m5.2.1 20 (by decide), c3.2.1 20 (by decide), m5.2.1 18 (by decide), c3.2.1 18 (by decide), m5.2.1 21 (by decide), c3.2.1 21 (by decide), m5.2.1 23 (by decide), c3.2.1 23 (by decide)]
          exact h
        · rw [a3.1 7 (by decide)] at e2
          exact e2
