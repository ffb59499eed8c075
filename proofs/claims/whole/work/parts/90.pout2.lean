theorem sm_col {md : Int32} {kn w : Nat} {kc : Nat → Int32} (hw1 : 1 ≤ w) (hw4 : w ≤ 4) (h : smF md kn w kc = 1) (hcol : ∀ k, k < kn → ∃ c, c < w ∧ kc k = nI c) {k : Nat} (hk : k < (if kn = 0 then w else kn)) : ¬ kcol kn kc k = w - 1 := by
  unfold smF at h
  by_cases c : md = 2 ∧ 0 < kn ∧ ∀ k, k < kn → ¬ kc k = nI (w - 1)
  · have e : ¬ kn = 0 := by omega
    rw [if_neg e] at hk
    obtain ⟨x, hx1, hx2⟩ := hcol k hk
    unfold kcol
    rw [if_neg e, hx2, nI_clamp (by omega)]
    intro q
    exact c.2.2 k hk (by rw [hx2, q])
  · rw [if_neg c] at h
    exact absurd h (by decide)
theorem o_out {n nb sz mm w kn op ct mk b i : Nat} {tk pre cb : List Nat} {us : Nat → Bool} {cl : Nat → Nat → Int64} {P0 : Prop} {md sm : Int32} {wp : Option (Nat × Nat)} {on : List Int64} {σ τ : zS} (hn : 300 < n) (hnb : nb ≤ 200) (hs5 : 5 ≤ sz) (hsz : sz ≤ 64) (hS : SC nb sz mm w kn σ τ) (hD : OD nb sz tk pre (pre ++ cb) us cl P0 σ τ) (hR : OR nb sz w us cl md sm op ct cb wp mk on σ τ) (h17 : zI τ 17 = 0) (hop : op < sz / (w + 1)) (hct : ct = cb.length * (sz / (w + 1))) (hfl : zI τ 20 = if wp = none then 0 else 1) (hmdE : md = zI σ 0) (hsmE : sm = smF md kn w (zA σ 1)) (hb : b < nb) (hi : i < sz / (w + 1)) (hub : us b = true) :
    ∃ r σ' τ', fX7_goOut_0 n nb sz mm σ (nI (b * sz + i * (w + 1))) = some (r, σ') ∧ fX10_out_0 n τ (nI (64 * b + i * (w + 1))) = some τ' ∧
    ((r = 1 ∧ ∃ on' wp', (on' = on ∨ on' = on ++ [recC cl w b i w]) ∧ ¬ on' = [] ∧ OK1 nb sz w tk pre us cl P0 md sm mk cb on' wp' σ τ σ' τ' ∧ zI τ' 20 = if wp' = none then 0 else 1) ∨ (r = 0 ∧ BAD nb sz tk pre (pre ++ cb) us cl P0 σ τ σ' τ')) := by
  have hR0 := hR
  obtain ⟨⟨p1, p2, p3⟩, hpg, hw0, hw1, ⟨q1, q2, q3, q4⟩, ⟨m1, m2, m3, m4⟩, hon, hfo, hsm, hmd⟩ := hR0
  have hdv := Nat.div_le_self sz (w + 1)
  have hple := p_perle (sz := sz) (w := w)
  have hop2 : op * (w + 1) + (w + 1) ≤ sz := by
    have := Nat.mul_le_mul_right (w + 1) (show op + 1 ≤ sz / (w + 1) from hop)
    rw [Nat.add_mul, Nat.one_mul] at this
    omega
  have hcl : (dC nb sz σ).1 b = cl b := hD.2.2.2.2.2.2.2 b (Or.inl hub)
  have hrc : recC (dC nb sz σ).1 w b i = recC cl w b i := by
    unfold recC
    rw [hcl]
  have hrm : recC (dM nb sz τ).1 w b i = recC cl w b i := by rw [hD.1, hrc]
  have hbig := mul_big hnb hsz
  have hpl := mul_lt hb (r_in (c := 0) hi (Nat.zero_le _))
  have hm8 : zI τ 8 = md := by rw [hS.2.2.2.1, hmdE]
  by_cases hmd0 : md = 0
  · -- no folding: the record comes to the page, and is settled at once
    have hwn := hmd hmd0
    subst hwn
    let σ1 := sI (sI (sI (sI (sL σ 2 (putF (zL σ 2) (recC cl w b i) (op * (w + 1)) (w + 1))) 21 (nI (b * sz + i * (w + 1)))) 21 (-1)) 20 (nI (op + 1))) 24 (nI (ct + (op + 1)))
    let τ1 := sI (sL τ 2 (putF (zL τ 2) (recC cl w b i) (op * (w + 1)) (w + 1))) 19 (nI (op + 1))
    have hR1 : OR nb sz w us cl md sm (op + 1) ct cb none mk (on ++ [recC cl w b i w]) σ1 τ1 := by
      refine ⟨⟨rfl, rfl, hop⟩, fun k hk => ?_, fun _ => rfl, fun p hp => absurd hp (by simp), ⟨q1, q2, q3, rfl⟩, ⟨m1, m2, m3, m4⟩, ?_, hfo, hsm, fun _ => rfl⟩
      · rw [Nat.add_mul, Nat.one_mul] at hk
        show putF (zL σ 2) (recC cl w b i) (op * (w + 1)) (w + 1) k = putF (zL τ 2) (recC cl w b i) (op * (w + 1)) (w + 1) k
        by_cases c : k < op * (w + 1)
        · rw [putF_lo c, putF_lo c, hpg k c]
        · obtain ⟨j, rfl⟩ : ∃ j, k = op * (w + 1) + j := ⟨k - op * (w + 1), by omega⟩
          rw [putF_in (by omega), putF_in (by omega)]
      · show _ = nmR (sz / (w + 1)) w (dC nb sz σ).1 cb ct ++ nmD w (op + 1) (putF (zL σ 2) (recC cl w b i) (op * (w + 1)) (w + 1)) ++ []
        rw [nmD_snoc, putF_in (by omega), hon, nmD_congr (fun j hj => putF_lo hj)]
        show _ ++ [] ++ _ = _
        rw [List.append_nil, List.append_nil, List.append_assoc]
    obtain ⟨r, σ', τ', g1, g2, hor⟩ := o_bump (σ := σ1) (τ := τ1) hn hnb hs5 hsz hS hD hR1 h17 hct
    have hset : fX7_settleWaiting_0 n nb sz mm σ = some (1, σ) := by
      unfold fX7_settleWaiting_0
      rw [if_pos (hw0 rfl)]
    have hset2 : fX7_settleWaiting_0 n nb sz mm (sI (sL σ 2 (putF (zL σ 2) (recC cl w b i) (op * (w + 1)) (w + 1))) 21 (nI (b * sz + i * (w + 1)))) = some (r, σ') := by
      unfold fX7_settleWaiting_0
      rw [if_neg (show ¬ zI (sI (sL σ 2 (putF (zL σ 2) (recC cl w b i) (op * (w + 1)) (w + 1))) 21 (nI (b * sz + i * (w + 1)))) 21 = -1 from nI_m1 (by omega)), show zI (sI (sL σ 2 (putF (zL σ 2) (recC cl w b i) (op * (w + 1)) (w + 1))) 21 (nI (b * sz + i * (w + 1)))) 20 = nI op from p1, show zI (sI (sL σ 2 (putF (zL σ 2) (recC cl w b i) (op * (w + 1)) (w + 1))) 21 (nI (b * sz + i * (w + 1)))) 11 = nI (sz / (w + 1)) from hS.2.1.2.2.2.2.2, show zI (sI (sL σ 2 (putF (zL σ 2) (recC cl w b i) (op * (w + 1)) (w + 1))) 21 (nI (b * sz + i * (w + 1)))) 24 = nI (ct + op) from q4, nI_1, nI_1]
      exact g1
    have hr01 : r = 0 ∨ r = 1 := by
      rcases hor with ⟨h, -⟩ | ⟨h, -⟩
      · exact Or.inr h
      · exact Or.inl h
    have hc : fX7_goOut_0 n nb sz mm σ (nI (b * sz + i * (w + 1))) = some (r, σ') := by
      unfold fX7_goOut_0 fX7_goOut_61 fX7_goOut_154
      rw [if_pos (show zI σ 18 = 0 by rw [hfo, if_pos hmd0]), zb_s hset]
      dsimp only
      rw [if_neg (by decide), p1, hS.2.1.2.2.2.2.1, nI_mul, zb_s (c_goL hn hnb hsz hS.2.1.2.1 hS.2.1.2.2.2.2.1 hb hi hop2), hrc, if_pos (show zI (sL σ 2 (putF (zL σ 2) (recC cl w b i) (op * (w + 1)) (w + 1))) 18 = 0 from by show zI σ 18 = 0; rw [hfo, if_pos hmd0]), zb_s hset2]
      dsimp only
      rcases hr01 with h | h
      · rw [h, if_pos rfl]
      · rw [h, if_neg (by decide)]
    have hm : fX10_out_0 n τ (nI (64 * b + i * (w + 1))) = some τ' := by
      unfold fX10_out_0 fX10_toPage_p1_0
      rw [hm8, if_pos hmd0, zb_s (m_pgL1 (nb := nb) (sz := sz) hn hnb hsz hS.2.1.2.1 hS.2.1.2.2.1 p2 hb hi hop2 (by omega)), hrm, show zI (sL τ 2 (putF (zL τ 2) (recC cl w b i) (op * (w + 1)) (w + 1))) 19 = nI op from p2, nI_1, zb_s (m_per (τ := τ1) hsz hS.2.1.2.1 hS.1.2.1 hS.2.1.2.2.1)]
      refine zb_s (a := τ') ?_
      exact g2
    refine ⟨_, _, _, hc, hm, ?_⟩
    rcases hor with ⟨rfl, ⟨o1, op', ct', cb', o2, o3, o4, o5, o6, o7, o8, o9⟩, o10⟩ | ⟨rfl, o1, o2, o3, o4⟩
    · refine Or.inl ⟨rfl, on ++ [recC cl w b i w], none, Or.inr rfl, by simp, ⟨o1, op', ct', cb', o2, o3, o4, o5, o6, o7, zfr_t (zfr_I (by decide) (zfr_I (by decide) (zfr_I (by decide) (zfr_I (by decide) (zfr_L (by decide) zfr_r))))) o8 (fun _ h => h) (fun _ h => h) (fun _ h => h), zfr_t (zfr_I (by decide) (zfr_L (by decide) zfr_r)) o9 (fun _ h => h) (fun _ h => h) (fun _ h => h)⟩, ?_⟩
      rw [o10, if_pos rfl]
      rw [if_pos rfl] at hfl
      exact hfl
    · exact Or.inr ⟨rfl, o1, o2, zfr_t (zfr_I (by decide) (zfr_I (by decide) (zfr_I (by decide) (zfr_I (by decide) (zfr_L (by decide) zfr_r))))) o3 (fun _ h => h) (fun _ h => h) (fun _ h => h), zfr_t (zfr_I (by decide) (zfr_L (by decide) zfr_r)) o4 (fun _ h => h) (fun _ h => h) (fun _ h => h)⟩
  · have h18 : ¬ zI σ 18 = 0 := by rw [hfo, if_neg hmd0]; decide
    -- settle what waits, then put
    have hgo : ∃ r σ' τ', fX7_goOut_61 n nb sz mm σ (nI (b * sz + i * (w + 1))) = some (r, σ') ∧ fX10_out_72 n τ (nI (64 * b + i * (w + 1))) = some τ' ∧ ((r = 1 ∧ ∃ on' wp', (on' = on ∨ on' = on ++ [recC cl w b i w]) ∧ ¬ on' = [] ∧ OK1 nb sz w tk pre us cl P0 md sm mk cb on' wp' σ τ σ' τ' ∧ zI τ' 20 = if wp' = none then 0 else 1) ∨ (r = 0 ∧ BAD nb sz tk pre (pre ++ cb) us cl P0 σ τ σ' τ')) := by
      obtain ⟨r, σ1, τ1, g1, g2, hor⟩ := o_settle hn hnb hs5 hsz hS hD hR h17 hop hct hfl
      have hm72 : fX10_out_72 n τ (nI (64 * b + i * (w + 1))) = fX10_out_88 n τ1 (nI (64 * b + i * (w + 1))) := by
        unfold fX10_out_72
        by_cases c : zI τ 20 = 0
        · rw [if_pos c] at g2 ⊢
          cases g2
          rfl
        · rw [if_neg c] at g2 ⊢
          rw [zb_s g2]
      rcases hor with ⟨rfl, o1, op', ct', cb', o2, o3, o4, o5, o6, o7, o8, o9⟩ | ⟨rfl, o1, o2, o3, o4⟩
      · have hS1 : SC nb sz mm w kn σ1 τ1 := SC_fr hS o8 o9 (by decide) (by decide) (by decide) (by decide)
        obtain ⟨σ', τ', w1, w2, w3, w4, w5, w6, w7, w8, w9, w10⟩ := o_putw hn hnb hs5 hsz hS1 o5 o6 o3 hb hi hub hmd0
        refine ⟨1, σ', τ', ?_, hm72.trans w2, Or.inl ⟨rfl, on ++ [recC cl w b i w], some (b, i), Or.inr rfl, by simp, ⟨w8.trans o1, op', ct', cb', o2, o3, o4, w3, w4, ?_, zfr_t o8 w9 (by decide) (by decide) (by decide), zfr_t o9 w10 (by decide) (by decide) (by decide)⟩, ?_⟩⟩
        · unfold fX7_goOut_61
          rw [zb_s g1]
          dsimp only
          rw [if_neg (by decide)]
          exact w1
        · refine OX_t o7 (OX_r ?_ ?_ ?_ ?_ ?_) (fun _ h => h)
          · rw [w6]
          · rw [w7]
          · rw [w7]
          · rw [w7]
          · rw [w7]
        · rw [w5, if_neg (by simp)]
      · -- the page could not be written; the reference goes on to the waiting place
        have h6 : zI τ1 6 = nI w := (o4.1 6 (by decide)).trans hS.2.1.2.2.1
        refine ⟨0, σ1, sI (sL τ1 3 (putF (zL τ1 3) (recC (dM nb sz τ1).1 w b i) 0 (w + 1))) 20 1, ?_, hm72.trans ?_, Or.inr ⟨rfl, o1, o2, o3, zfr_I (by decide) (zfr_L (by decide) o4)⟩⟩
        · unfold fX7_goOut_61
          rw [zb_s g1]
          dsimp only
          rw [if_pos rfl]
        · unfold fX10_out_88
          rw [zb_s (m_wtL hn hnb hsz hS.2.1.2.1 h6 hb hi)]
    cases wp with
    | none =>
      obtain ⟨r, σ', τ', g1, g2, hor⟩ := hgo
      refine ⟨r, σ', τ', ?_, ?_, hor⟩
      · unfold fX7_goOut_0
        rw [if_neg h18, if_pos (hw0 rfl)]
        exact g1
      · unfold fX10_out_0
        rw [hm8, if_neg hmd0, hfl, if_pos rfl, if_pos rfl]
        exact g2
    | some p =>
      obtain ⟨r1, r3, r4, r5, r6, r7, r8⟩ := hw1 p rfl
      have hpl2 := mul_lt r3 (r_in (c := 0) r4 (Nat.zero_le _))
      have hclp : (dC nb sz σ).1 p.1 = cl p.1 := hD.2.2.2.2.2.2.2 p.1 (Or.inl r5)
      have hrcp : recC (dC nb sz σ).1 w p.1 p.2 = recC cl w p.1 p.2 := by
        unfold recC
        rw [hclp]
      have hfl1 : zI τ 20 = 1 := by rw [hfl, if_neg (by simp)]
      have hal : fX5_isAlike_0 n nb sz mm σ (zI σ 21) (nI (b * sz + i * (w + 1))) = some (if cmpK w kn (zA σ 1) (zA σ 2) (recC cl w p.1 p.2) (recC cl w b i) = 0 then 1 else 0) := by
        rw [r1, c_isAlike hn hnb hsz hS r3 r4 hb hi, hrc, hrcp]
      have hby : fX10_byKeys_p14_0 n τ 0 (nI (64 * b + i * (w + 1))) = some (cmpK w kn (zA σ 1) (zA σ 2) (recC cl w p.1 p.2) (recC cl w b i)) := by
        rw [m_byKeys_p14 (w := w) (kn := kn) (u := zL τ 3) (v := recC cl w b i) hn hS.2.1.2.1 hS.2.2.1.1 hS.2.2.1.2.1 hS.2.1.2.2.1 hS.2.2.1.2.2.2 (fun c hc => by rw [Int32.zero_add]; exact ⟨zin_nI (by have := hS.2.1.2.1; omega) (by decide), by rw [nI_clamp (by have := hS.2.1.2.1; omega)]⟩) (fun c hc => by rw [← hrm]; exact m_cellR hnb hsz hb hi (by omega))]
        congr 1
        unfold cmpK
        refine kcmp_congr _ _ (fun j _ hj => ⟨rfl, rfl, ?_, rfl⟩)
        have hjl := kcol_lt hS.2.1.2.1 (SC_col hS) (show j < (if kn = 0 then w else kn) by omega)
        refine r7 _ (by omega) (fun hs1 => ?_)
        exact sm_col hS.2.1.1 hS.2.1.2.1 (hsmE ▸ hs1) (SC_col hS) (show j < (if kn = 0 then w else kn) by omega)
      by_cases ca : cmpK w kn (zA σ 1) (zA σ 2) (recC cl w p.1 p.2) (recC cl w b i) = 0
      · -- alike
        rw [ca, if_pos rfl] at hal
        rw [ca] at hby
        have hsum := m_sums hn hS
        rw [← hmdE, ← hsmE] at hsum
        have hone : ¬ on = [] := by
          rw [hon]
          simp
        by_cases cs : sm = 0
        · refine ⟨1, σ, τ, ?_, ?_, Or.inl ⟨rfl, on, some p, Or.inl rfl, hone, ⟨h17, op, ct, cb, ⟨[], by simp⟩, hop, hct, hD, hR, OX_r rfl rfl rfl rfl rfl, zfr_r, zfr_r⟩, by rw [hfl1, if_neg (by simp)]⟩⟩
          · unfold fX7_goOut_0
            rw [if_neg h18, if_neg (by rw [r1]; exact nI_m1 (by omega)), zb_s hal, if_neg (by decide), hsm, if_pos cs]
          · unfold fX10_out_0
            rw [hm8, if_neg hmd0, hfl1, if_neg (by decide), zb_s hby, if_pos rfl, zb_s hsum, if_pos cs]
        · have hs1 : sm = 1 := by
            rw [hsmE] at cs ⊢
            unfold smF at cs ⊢
            by_cases c : md = 2 ∧ 0 < kn ∧ ∀ k, k < kn → ¬ zA σ 1 k = nI (w - 1)
            · rw [if_pos c]
            · rw [if_neg c] at cs
              exact absurd rfl cs
          have hw1' := hS.2.1.1
          have hw4 := hS.2.1.2.1
          let v := recC cl w b i (w - 1)
          have hcv : fX0_cell_0 n nb sz mm σ (nI (b * sz + i * (w + 1)) + zI σ 9 - 1) = some v := by
            rw [hS.2.1.2.2.2.1, nI_add, show (1 : Int32) = nI 1 from rfl, nI_sub (by omega), show b * sz + i * (w + 1) + w - 1 = b * sz + i * (w + 1) + (w - 1) by omega, ← nI_add, c_cellR hnb hsz hb hi (by omega), hrc]
          have hpl3 : zI σ 20 * zI σ 10 + zI σ 9 - 1 = nI (op * (w + 1) + (w - 1)) := by
            rw [p1, hS.2.1.2.2.2.2.1, hS.2.1.2.2.2.1, nI_mul, nI_add, show (1 : Int32) = nI 1 from rfl, nI_sub (by omega), show op * (w + 1) + w - 1 = op * (w + 1) + (w - 1) by omega]
          have hadd : fX7_addToWaiting_0 n nb sz mm σ v = some (sL σ 2 (vp_updL (zL σ 2) (op * (w + 1) + (w - 1)) (zL σ 2 (op * (w + 1) + (w - 1)) + v))) := by
            unfold fX7_addToWaiting_0
            rw [hpl3, if_neg (nI_nn (by omega)), if_neg (fun q => by rw [nI_leI (by omega) (by omega)] at q; omega), zg_in (by omega) (by omega), zg_in (by omega) (by omega), nI_clamp (by omega)]
          have hwm : zI τ 6 - 1 = nI (w - 1) := by rw [hS.2.1.2.2.1, show (1 : Int32) = nI 1 from rfl, nI_sub (by omega)]
          obtain ⟨c1, c2⟩ := m_cellR (τ := τ) (c := w - 1) hnb hsz hb hi (by omega)
          rw [hrm] at c2
          have hpm : nI (64 * b + i * (w + 1)) + zI τ 6 - 1 = nI (64 * b + i * (w + 1)) + nI (w - 1) := by
            rw [hS.2.1.2.2.1, nI_add, show (1 : Int32) = nI 1 from rfl, nI_sub (by omega), nI_add, show 64 * b + i * (w + 1) + w - 1 = 64 * b + i * (w + 1) + (w - 1) by omega]
          have hne : ¬ op * (w + 1) + w = op * (w + 1) + (w - 1) := by omega
          refine ⟨1, sL σ 2 (vp_updL (zL σ 2) (op * (w + 1) + (w - 1)) (zL σ 2 (op * (w + 1) + (w - 1)) + v)), sL τ 3 (vp_updL (zL τ 3) (w - 1) (zL τ 3 (w - 1) + v)), ?_, ?_, Or.inl ⟨rfl, on, some p, Or.inl rfl, hone, ⟨h17, op, ct, cb, ⟨[], by simp⟩, hop, hct, hD, ?_, OX_r rfl rfl rfl rfl rfl, zfr_L (by decide) zfr_r, zfr_L (by decide) zfr_r⟩, by show zI τ 20 = _; rw [hfl1, if_neg (by simp)]⟩⟩
          · unfold fX7_goOut_0
            rw [if_neg h18, if_neg (by rw [r1]; exact nI_m1 (by omega)), zb_s hal, if_neg (by decide), hsm, if_neg cs, zb_s hcv, zb_s hadd]
          · unfold fX10_out_0
            rw [hm8, if_neg hmd0, hfl1, if_neg (by decide), zb_s hby, if_pos rfl, zb_s hsum, if_neg cs, hwm, zg_in (by omega) (by decide), hpm, zg_t c1, zg_in (by omega) (by decide), c2, nI_clamp (by omega)]
          · refine ⟨⟨p1, p2, p3⟩, fun k hk => ?_, fun h => absurd h (by simp), fun p' hp' => ?_, ⟨q1, q2, q3, q4⟩, ⟨m1, m2, m3, m4⟩, ?_, hfo, hsm, fun h => absurd h hmd0⟩
            · show vp_updL (zL σ 2) (op * (w + 1) + (w - 1)) (zL σ 2 (op * (w + 1) + (w - 1)) + v) k = zL τ 2 k
              rw [updL_at, if_neg (by omega)]
              exact hpg k hk
            · cases hp'
              refine ⟨r1, r3, r4, r5, fun k hk => ?_, fun k hk hk2 => ?_, r8⟩
              · show vp_updL (zL σ 2) (op * (w + 1) + (w - 1)) (zL σ 2 (op * (w + 1) + (w - 1)) + v) (op * (w + 1) + k) = vp_updL (zL τ 3) (w - 1) (zL τ 3 (w - 1) + v) k
                rw [updL_at, updL_at]
                by_cases e : k = w - 1
                · rw [if_pos (by omega), if_pos e, r6 (w - 1) (by omega)]
                · rw [if_neg (by omega), if_neg e, r6 k hk]
              · show vp_updL (zL τ 3) (w - 1) (zL τ 3 (w - 1) + v) k = _
                rw [updL_at, if_neg (hk2 hs1)]
                exact r7 k hk hk2
            · rw [hon]
              show _ = nmR (sz / (w + 1)) w (dC nb sz σ).1 cb ct ++ nmD w op (vp_updL (zL σ 2) (op * (w + 1) + (w - 1)) (zL σ 2 (op * (w + 1) + (w - 1)) + v)) ++ [vp_updL (zL σ 2) (op * (w + 1) + (w - 1)) (zL σ 2 (op * (w + 1) + (w - 1)) + v) (op * (w + 1) + w)]
              have hnd : nmD w op (vp_updL (zL σ 2) (op * (w + 1) + (w - 1)) (zL σ 2 (op * (w + 1) + (w - 1)) + v)) = nmD w op (zL σ 2) := nmD_congr (fun j hj => by rw [updL_at, if_neg (by omega)])
              rw [updL_at, if_neg hne, hnd]
              rfl
      · rw [if_neg ca] at hal
        obtain ⟨r, σ', τ', g1, g2, hor⟩ := hgo
        refine ⟨r, σ', τ', ?_, ?_, hor⟩
        · unfold fX7_goOut_0
          rw [if_neg h18, if_neg (by rw [r1]; exact nI_m1 (by omega)), zb_s hal, if_pos rfl]
          exact g1
        · unfold fX10_out_0
          rw [hm8, if_neg hmd0, hfl1, if_neg (by decide), zb_s hby, if_neg ca]
          exact g2
