/-! a run ends -/
def BADX (nb sz : Nat) (tk pre : List Nat) (us : Nat → Bool) (cl : Nat → Nat → Int64) (P0 : Prop) (mk : Nat) (cb0 : List Nat) (σ τ σ' τ' : zS) : Prop :=
  ((zI τ' 17 = 1 ∧ zI σ' 7 = 1) ∨ (zI τ' 17 = 2 ∧ zI σ' 7 = zI σ 7)) ∧ ∃ cb, (∀ b ∈ cb0, b ∈ cb) ∧ OD nb sz tk pre (pre ++ cb) us cl P0 σ' τ' ∧ OX cb mk σ τ σ' τ' ∧ zfr [3, 4, 5, 6, 7, 20, 21, 22, 23, 24, 25] [0, 3, 6] [0, 2] σ σ' ∧ zfr [11, 12, 13, 14, 15, 17, 19, 20] [0, 1, 2, 3, 4, 5] [0, 2, 3] τ τ'
theorem bad_x {nb sz mk : Nat} {tk pre cb : List Nat} {us : Nat → Bool} {cl : Nat → Nat → Int64} {P0 : Prop} {σ τ σ' τ' : zS} (h : BAD nb sz tk pre (pre ++ cb) us cl P0 σ τ σ' τ') : BADX nb sz tk pre us cl P0 mk cb σ τ σ' τ' :=
  ⟨h.1, cb, fun _ h => h, h.2.1, OX_r (h.2.2.1.2.1 3 (by decide)) (h.2.2.2.2.1 2 (by decide)) (h.2.2.2.2.1 3 (by decide)) (h.2.2.2.2.1 4 (by decide)) (h.2.2.2.2.1 5 (by decide)), zfr_w h.2.2.1 (by decide) (by decide) (by decide), zfr_w h.2.2.2 (by decide) (by decide) (by decide)⟩
def END (nb sz w : Nat) (tk pre : List Nat) (us : Nat → Bool) (cl : Nat → Nat → Int64) (P0 : Prop) (mk nr : Nat) (cb0 : List Nat) (on : List Int64) (σ τ σ' τ' : zS) : Prop :=
  zI τ' 17 = 0 ∧ ∃ cb ct, (∀ b ∈ cb0, b ∈ cb) ∧ OD nb sz tk pre (pre ++ cb) us cl P0 σ' τ' ∧ JF mk cb ct (zA τ' 3) (zA τ' 4) (zA τ' 5) (zA τ' 2) ∧ chC (zA σ' 3) cb ∧ on = nmR (sz / (w + 1)) w (dC nb sz σ').1 cb ct ∧ ct ≤ cb.length * (sz / (w + 1)) ∧ (¬ cb = [] → (cb.length - 1) * (sz / (w + 1)) < ct) ∧ OX cb mk σ τ σ' τ' ∧
  (zI σ' 20 = 0 ∧ zI σ' 21 = -1 ∧ zI σ' 22 = -1 ∧ zI σ' 23 = -1 ∧ zI σ' 24 = 0 ∧ zI τ' 20 = 0) ∧
  (cb = [] → zI σ' 26 = nI nr ∧ zA σ' 7 = zA σ 7 ∧ zA σ' 4 = zA σ 4) ∧ (¬ cb = [] → zI σ' 26 = nI (nr + 1) ∧ zA σ' 7 = upd (zA σ 7) nr (nI (cb.headD 0)) ∧ zA σ' 4 = upd (zA σ 4) (cb.headD 0) (nI ct)) ∧
  zfr [3, 4, 5, 6, 20, 21, 22, 23, 24, 25, 26] [0, 3, 4, 6, 7] [0, 2] σ σ' ∧ zfr [11, 12, 13, 14, 15, 17, 19, 20] [0, 1, 2, 3, 4, 5] [0, 2, 3] τ τ'
theorem c_endRun23 {n nb sz mm nr hh : Nat} {cb : List Nat} {σ : zS} (hnb : nb ≤ 200) (h22 : zI σ 22 = if cb = [] then -1 else nI (cb.headD 0)) (hcb : ∀ c ∈ cb, c < nb) (h24 : zI σ 24 = nI hh) (h26 : zI σ 26 = nI nr) (hnr : nr < nb) :
    fX7_endRun_23 n nb sz mm σ = some (1, sI (sI (sI (sI (sI (if cb = [] then σ else sA (sI (sA σ 4 (upd (zA σ 4) (cb.headD 0) (nI hh))) 26 (nI (nr + 1))) 7 (upd (zA σ 7) nr (nI (cb.headD 0)))) 20 0) 21 (-1)) 22 (-1)) 23 (-1)) 24 0) := by
  unfold fX7_endRun_23 fX7_endRun_57 fX7_beginRun_0
  by_cases e : cb = []
  · rw [h22, if_pos e, if_pos rfl, if_pos e]
    rfl
  · have hhm : cb.headD 0 ∈ cb := by
      cases cb with
      | nil => exact absurd rfl e
      | cons a t => exact List.mem_cons_self
    have hlt := hcb _ hhm
    have hset : fX1_setHeld_0 n nb sz mm σ (nI (cb.headD 0)) (nI hh) = some (sA σ 4 (upd (zA σ 4) (cb.headD 0) (nI hh))) := by
      unfold fX1_setHeld_0
      rw [if_neg (nI_nn (by omega)), if_neg (fun q => by rw [nI_leI (by omega) (by omega)] at q; omega), zg_in hlt (by omega), nI_clamp (by omega)]
    rw [h22, if_neg e, if_neg (nI_m1 (by omega)), h24, zb_s hset]
    show zb (fX6_add_0 n nb (zrv (zI σ 26) (zA σ 7)) (zI σ 22)) _ = _
    rw [h26, h22, if_neg e, zb_s (c_add hnr hnb), if_neg e]
    rfl
theorem o_end {n nb sz mm w kn op ct mk nr : Nat} {tk pre cb : List Nat} {us : Nat → Bool} {cl : Nat → Nat → Int64} {P0 : Prop} {md sm : Int32} {wp : Option (Nat × Nat)} {on : List Int64} {σ τ : zS} (hn : 300 < n) (hnb : nb ≤ 200) (hs5 : 5 ≤ sz) (hsz : sz ≤ 64) (hS : SC nb sz mm w kn σ τ) (hD : OD nb sz tk pre (pre ++ cb) us cl P0 σ τ) (hR : OR nb sz w us cl md sm op ct cb wp mk on σ τ) (h17 : zI τ 17 = 0) (hop : op < sz / (w + 1)) (hct : ct = cb.length * (sz / (w + 1))) (hfl : zI τ 20 = if wp = none then 0 else 1) (h26 : zI σ 26 = nI nr) (hnr : nr < nb) :
    ∃ r σ' τ', fX7_endRun_0 n nb sz mm σ = some (r, σ') ∧ fX10_endRun_0 n τ = some τ' ∧
    ((r = 1 ∧ END nb sz w tk pre us cl P0 mk nr cb on σ τ σ' τ') ∨ (r = 0 ∧ BADX nb sz tk pre us cl P0 mk cb σ τ σ' τ')) := by
  obtain ⟨r, σ1, τ1, g1, g2, hor⟩ := o_settle hn hnb hs5 hsz hS hD hR h17 hop hct hfl
  have hm0 : fX10_endRun_0 n τ = fX10_endRun_16 n τ1 := by
    unfold fX10_endRun_0
    by_cases c : zI τ 20 = 0
    · rw [if_pos c] at g2 ⊢
      cases g2
      rfl
    · rw [if_neg c] at g2 ⊢
      rw [zb_s g2]
  rcases hor with ⟨rfl, o1, op', ct', cb', o2, o3, o4, o5, o6, o7, o8, o9⟩ | ⟨rfl, o1, o2, o3, o4⟩
  · have hper := p_per (w := w) hs5 hS.2.1.2.1
    have hsub : ∀ x ∈ cb, x ∈ cb' := by
      obtain ⟨ex, hex⟩ := o2
      exact fun x hx => by rw [hex]; exact List.mem_append_left _ hx
    have hS1 : SC nb sz mm w kn σ1 (sI τ1 20 0) := SC_fr (σ' := σ1) (τ' := sI τ1 20 0) hS o8 (zfr_I (by decide) o9) (by decide) (by decide) (by decide) (by decide)
    have hcbs : ∀ c ∈ cb', c < nb := fun c hc => (o5.2.2.2.2.2.1 c (List.mem_append_right _ hc)).1
    have h26' : zI σ1 26 = nI nr := (o8.1 26 (by decide)).trans h26
    have hdv := Nat.div_le_self sz (w + 1)
    by_cases c : op' = 0
    · have hc := c_endRun23 (n := n) (nb := nb) (sz := sz) (mm := mm) (σ := σ1) (cb := cb') hnb o6.2.2.2.2.1.1 hcbs o6.2.2.2.2.1.2.2.2 h26' hnr
      have hcf : fX7_endRun_0 n nb sz mm σ = fX7_endRun_23 n nb sz mm σ1 := by
        unfold fX7_endRun_0
        rw [zb_s g1]
        dsimp only
        rw [if_neg (by decide), o6.1.1, c, if_pos (by decide)]
      refine ⟨1, _, sI τ1 20 0, hcf.trans hc, hm0.trans ?_, Or.inl ⟨rfl, o1, cb', ct', hsub, ?_, o6.2.2.2.2.2.1.2.2.2, ?_, ?_, ?_, ?_, ?_, ⟨rfl, rfl, rfl, rfl, rfl, rfl⟩, ?_, ?_, ?_, zfr_I (by decide) o9⟩⟩
      · unfold fX10_endRun_16
        rw [o6.1.2.1, c, if_pos (by decide)]
      · by_cases e : cb' = []
        · simp only [if_pos e]
          exact o5
        · simp only [if_neg e]
          exact o5
      · by_cases e : cb' = []
        · simp only [if_pos e]
          exact o6.2.2.2.2.1.2.2.1
        · simp only [if_neg e]
          exact o6.2.2.2.2.1.2.2.1
      · have hon := o6.2.2.2.2.2.2.1
        rw [c] at hon
        rw [hon]
        show _ ++ [] ++ [] = _
        rw [List.append_nil, List.append_nil]
        by_cases e : cb' = []
        · simp only [if_pos e]
          rfl
        · simp only [if_neg e]
          rfl
      · rw [o4]
        exact Nat.le_refl _
      · intro e
        have : 1 ≤ cb'.length := by
          cases h : cb' with
          | nil => exact absurd h e
          | cons a t => simp
        rw [o4]
        exact Nat.mul_lt_mul_of_pos_right (by omega) hper
      · by_cases e : cb' = []
        · simp only [if_pos e]
          exact o7
        · simp only [if_neg e]
          exact o7
      · intro e
        simp only [if_pos e]
        exact ⟨h26', o8.2.1 7 (by decide), o8.2.1 4 (by decide)⟩
      · intro e
        simp only [if_neg e]
        refine ⟨rfl, ?_, ?_⟩
        · show upd (zA σ1 7) nr (nI (cb'.headD 0)) = _
          rw [o8.2.1 7 (by decide)]
        · show upd (zA σ1 4) (cb'.headD 0) (nI (ct' + op')) = _
          rw [o8.2.1 4 (by decide), c, Nat.add_zero]
      · refine zfr_I (by decide) (zfr_I (by decide) (zfr_I (by decide) (zfr_I (by decide) (zfr_I (by decide) ?_))))
        by_cases e : cb' = []
        · rw [if_pos e]
          exact zfr_w o8 (by decide) (by decide) (by decide)
        · rw [if_neg e]
          exact zfr_A (by decide) (zfr_I (by decide) (zfr_A (by decide) (zfr_w o8 (by decide) (by decide) (by decide))))
    · have hR1 : OR nb sz w us cl md sm op' ct' cb' none mk on σ1 (sI τ1 20 0) := o6
      obtain ⟨r2, σ2, τ2, k1, k2, hor2⟩ := o_write (τ := sI τ1 20 0) hn hnb hs5 hsz hS1 o5 hR1 o1 (by omega) o4
      have hm : fX10_endRun_0 n τ = some τ2 := by
        rw [hm0]
        unfold fX10_endRun_16
        rw [o6.1.2.1, if_neg (nI_nle (by omega) (by omega)), zb_s k2]
      have hcc : fX7_endRun_0 n nb sz mm σ = if r2 = 0 then some (0, σ2) else fX7_endRun_23 n nb sz mm σ2 := by
        unfold fX7_endRun_0
        rw [zb_s g1]
        dsimp only
        rw [if_neg (by decide), o6.1.1, if_neg (nI_nle (by omega) (by omega)), zb_s k1]
      rcases hor2 with ⟨rfl, e1, b, e2, e3, e4, e5, e6, e7, e8⟩ | ⟨rfl, e1, e2, e3, e4⟩
      · have hcb2 : ∀ x ∈ cb' ++ [b], x < nb := fun x hx => (e4.2.2.2.2.2.1 x (List.mem_append_right _ hx)).1
        have h26'' : zI σ2 26 = nI nr := (e7.1 26 (by decide)).trans h26'
        have hc := c_endRun23 (n := n) (nb := nb) (sz := sz) (mm := mm) (σ := σ2) (cb := cb' ++ [b]) hnb e5.2.2.2.2.1.1 hcb2 e5.2.2.2.2.1.2.2.2 h26'' hnr
        have hne : ¬ cb' ++ [b] = [] := by simp
        rw [if_neg hne] at hc
        rw [if_neg (by decide)] at hcc
        refine ⟨1, _, τ2, hcc.trans hc, hm, Or.inl ⟨rfl, e1, cb' ++ [b], ct' + op', fun x hx => List.mem_append_left _ (hsub x hx), e4, e5.2.2.2.2.2.1.2.2.2, e5.2.2.2.2.1.2.2.1, ?_, ?_, ?_, ?_, ⟨rfl, rfl, rfl, rfl, rfl, ?_⟩, fun h => absurd h hne, fun _ => ⟨rfl, ?_, ?_⟩, ?_, ?_⟩⟩
        · have hon := e5.2.2.2.2.2.2.1
          rw [hon]
          show _ ++ [] ++ [] = _
          rw [List.append_nil, List.append_nil]
          rfl
        · rw [o4, List.length_append, Nat.add_mul]
          simp only [List.length_cons, List.length_nil]
          omega
        · intro _
          rw [o4, List.length_append]
          simp only [List.length_cons, List.length_nil, Nat.zero_add, Nat.add_sub_cancel]
          omega
        · exact OX_t (σ' := σ1) (τ' := sI τ1 20 0) o7 e6 (fun x hx => List.mem_append_left _ hx)
        · exact e8.1 20 (by decide)
        · show upd (zA σ2 7) nr _ = _
          rw [e7.2.1 7 (by decide), o8.2.1 7 (by decide)]
        · show upd (zA σ2 4) _ (nI (ct' + op' + 0)) = _
          rw [e7.2.1 4 (by decide), o8.2.1 4 (by decide), Nat.add_zero]
        · refine zfr_I (by decide) (zfr_I (by decide) (zfr_I (by decide) (zfr_I (by decide) (zfr_I (by decide) (zfr_A (by decide) (zfr_I (by decide) (zfr_A (by decide) ?_)))))))
          exact zfr_t (zfr_w o8 (by decide) (by decide) (by decide)) e7 (by decide) (by decide) (by decide)
        · exact zfr_t (zfr_I (by decide) o9) e8 (by decide) (by decide) (by decide)
      · rw [if_pos rfl] at hcc
        refine ⟨0, σ2, τ2, hcc, hm, Or.inr ⟨rfl, ?_, cb', hsub, e2, ?_, zfr_t (zfr_w o8 (by decide) (by decide) (by decide)) e3 (by decide) (by decide) (by decide), zfr_t (zfr_I (by decide) o9) e4 (by decide) (by decide) (by decide)⟩⟩
        · rw [o8.1 7 (by decide)] at e1
          exact e1
        · refine OX_t (σ' := σ1) (τ' := sI τ1 20 0) o7 (OX_r ?_ ?_ ?_ ?_ ?_) (fun _ h => h)
          · exact e3.2.1 3 (by decide)
          · exact e4.2.1 2 (by decide)
          · exact e4.2.1 3 (by decide)
          · exact e4.2.1 4 (by decide)
          · exact e4.2.1 5 (by decide)
  · -- the waiting record's page could not be written
    have hwp : ¬ zI τ 20 = 0 := fun q => by
      rw [if_pos q] at g2
      cases g2
      rcases o1 with ⟨z, -⟩ | ⟨z, -⟩
      · rw [h17] at z
        exact absurd z (by decide)
      · rw [h17] at z
        exact absurd z (by decide)
    have hc : fX7_endRun_0 n nb sz mm σ = some (0, σ1) := by
      unfold fX7_endRun_0
      rw [zb_s g1]
      dsimp only
      rw [if_pos rfl]
    by_cases c : zI τ1 19 ≤ 0
    · refine ⟨0, σ1, sI τ1 20 0, hc, hm0.trans ?_, Or.inr ⟨rfl, ?_⟩⟩
      · unfold fX10_endRun_16
        rw [if_pos c]
      · have hb := bad_x (mk := mk) (tk := tk) (pre := pre) (cb := cb) (us := us) (cl := cl) (P0 := P0) (σ := σ) (τ := τ) (σ' := σ1) (τ' := sI τ1 20 0) ⟨o1, o2, o3, zfr_I (by decide) o4⟩
        exact hb
    · -- write once more: it stops at once
      have h17' : 0 < zI (sI τ1 20 0) 17 := by
        show 0 < zI τ1 17
        rcases o1 with ⟨z, -⟩ | ⟨z, -⟩
        · rw [z]; decide
        · rw [z]; decide
      have hw := m_write_p13_s (sz := sz) (x := zI (sI τ1 20 0) 19) hn (show zI (sI τ1 20 0) 1 = nI nb from (o4.1 1 (by decide)).trans hS.1.1) hnb h17'
      refine ⟨0, σ1, sI (sI τ1 20 0) 19 0, hc, hm0.trans ?_, Or.inr ⟨rfl, ?_⟩⟩
      · unfold fX10_endRun_16 fX10_writePage_0
        rw [if_neg c, zb_s hw]
        dsimp only
        rw [zb_s m_hang_s]
        rfl
      · have hb := bad_x (mk := mk) (tk := tk) (pre := pre) (cb := cb) (us := us) (cl := cl) (P0 := P0) (σ := σ) (τ := τ) (σ' := σ1) (τ' := sI (sI τ1 20 0) 19 0) ⟨o1, o2, o3, zfr_I (by decide) (zfr_I (by decide) o4)⟩
        exact hb
/-! a step is undone -/
theorem c_undo {n nb sz mm : Nat} {sb : List Nat} {σ : zS} (hn : 300 < n) (hnb : nb ≤ 200) (h25 : zI σ 25 = nI sb.length) (h6 : ∀ (j b : Nat), sb[j]? = some b → zA σ 6 j = nI b) (hsb : ∀ b ∈ sb, b < nb) (hlen : sb.length ≤ nb) :
    ∃ σ', fX7_undoStep_0 n nb sz mm σ = some σ' ∧ zA σ' 0 = frU (zA σ 0) sb ∧ zfr [25, 26] [0, 6, 7] [] σ σ' := by
  have hl : zlp (fX7_undoStep_L2_2 n nb sz mm) n (0, σ) = some (sA σ 0 (frU (zA σ 0) sb)) := by
    have e0 : ((0 : Int32), σ) = (fun j => (nI j, sA σ 0 (frU (zA σ 0) (sb.take j)))) 0 := by
      show _ = (nI 0, sA σ 0 (frU (zA σ 0) (sb.take 0)))
      rw [List.take_zero, frU_nil, sA_id]
      rfl
    rw [e0]
    refine zlp_for (β := zS) (fun j => (nI j, sA σ 0 (frU (zA σ 0) (sb.take j)))) _ sb.length 0 n (fun j _ hj => ?_) ?_ (by omega)
    · have hj2 : j < sb.length := by omega
      have e := List.getElem?_eq_getElem hj2
      have hb := hsb _ (List.mem_of_getElem? e)
      unfold fX7_undoStep_L2_2 fX6_size_0
      dsimp only
      show zb (some (zI σ 25)) (fun q1 => if q1 ≤ nI j then _ else zb (fX6_get_0 n nb (zrv (zI σ 25) (zA σ 6)) (nI j)) _) = _
      rw [zb_s rfl, h25, if_neg (show ¬ nI sb.length ≤ nI j from fun q => by rw [nI_leI (by omega) (by omega)] at q; omega), zb_s (c_get (m := sb.length) rfl hj2 hlen (by omega)), h6 j _ e, zb_s (c_release hnb hb), sA_sA, nI_1, show zA (sA σ 0 (frU (zA σ 0) (sb.take j))) 0 = frU (zA σ 0) (sb.take j) from rfl, frU_snoc, take_snoc e]
    · unfold fX7_undoStep_L2_2 fX6_size_0
      dsimp only
      show zb (some (zI σ 25)) (fun q1 => if q1 ≤ nI (0 + sb.length) then _ else _) = _
      rw [zb_s rfl, h25, Nat.zero_add, if_pos (nI_le (Nat.le_refl _) (by omega)), List.take_length]
  unfold fX7_undoStep_0 fX6_clear_0
  rw [zb_s hl]
  exact ⟨_, rfl, rfl, zfr_A (by decide) (zfr_I (by decide) (zfr_A (by decide) (zfr_I (by decide) (zfr_A (by decide) zfr_r))))⟩
