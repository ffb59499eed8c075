/-! a record goes out -/
theorem o_settle {n nb sz mm w kn op ct mk : Nat} {tk pre cb : List Nat} {us : Nat → Bool} {cl : Nat → Nat → Int64} {P0 : Prop} {md sm : Int32} {wp : Option (Nat × Nat)} {on : List Int64} {σ τ : zS} (hn : 300 < n) (hnb : nb ≤ 200) (hs5 : 5 ≤ sz) (hsz : sz ≤ 64) (hS : SC nb sz mm w kn σ τ) (hD : OD nb sz tk pre (pre ++ cb) us cl P0 σ τ) (hR : OR nb sz w us cl md sm op ct cb wp mk on σ τ) (h17 : zI τ 17 = 0) (hop : op < sz / (w + 1)) (hct : ct = cb.length * (sz / (w + 1))) (hfl : zI τ 20 = if wp = none then 0 else 1) :
    ∃ r σ' τ', fX7_settleWaiting_0 n nb sz mm σ = some (r, σ') ∧ (if zI τ 20 = 0 then some τ else fX10_toPage_p14_0 n τ 0) = some τ' ∧
    ((r = 1 ∧ OK1 nb sz w tk pre us cl P0 md sm mk cb on none σ τ σ' τ') ∨ (r = 0 ∧ BAD nb sz tk pre (pre ++ cb) us cl P0 σ τ σ' τ')) := by
  have hR0 := hR
  obtain ⟨⟨p1, p2, p3⟩, hpg, hw0, hw1, ⟨q1, q2, q3, q4⟩, ⟨m1, m2, m3, m4⟩, hon, hfo, hsm, hmd⟩ := hR0
  have hdv := Nat.div_le_self sz (w + 1)
  have hple := p_perle (sz := sz) (w := w)
  have hop2 : op * (w + 1) + (w + 1) ≤ sz := by
    have := Nat.mul_le_mul_right (w + 1) (show op + 1 ≤ sz / (w + 1) from hop)
    rw [Nat.add_mul, Nat.one_mul] at this
    omega
  cases wp with
  | none =>
    rw [hfl, if_pos rfl]
    unfold fX7_settleWaiting_0
    rw [if_pos (hw0 rfl)]
    exact ⟨_, _, _, rfl, rfl, Or.inl ⟨rfl, h17, op, ct, cb, ⟨[], by simp⟩, hop, hct, hD, hR, OX_r rfl rfl rfl rfl rfl, zfr_r, zfr_r⟩⟩
  | some p =>
    obtain ⟨r1, r3, r4, r5, r6, r7, r8⟩ := hw1 p rfl
    have hbig := mul_big hnb hsz
    have hpl := mul_lt r3 (r_in (c := 0) r4 (Nat.zero_le _))
    rw [hfl, if_neg (show ¬ (if (some p : Option (Nat × Nat)) = none then (0 : Int32) else 1) = 0 by simp)]
    let σ1 := sI (sI (sI σ 21 (-1)) 20 (nI (op + 1))) 24 (nI (ct + (op + 1)))
    let τ1 := sI (sL τ 2 (putF (zL τ 2) (zL τ 3) (op * (w + 1)) (w + 1))) 19 (nI (op + 1))
    have hpg1 : ∀ k, k < (op + 1) * (w + 1) → zL σ1 2 k = zL τ1 2 k := by
      intro k hk
      rw [Nat.add_mul, Nat.one_mul] at hk
      show zL σ 2 k = putF (zL τ 2) (zL τ 3) (op * (w + 1)) (w + 1) k
      by_cases c : k < op * (w + 1)
      · rw [putF_lo c, hpg k c]
      · obtain ⟨j, rfl⟩ : ∃ j, k = op * (w + 1) + j := ⟨k - op * (w + 1), by omega⟩
        rw [putF_in (by omega), r6 j (by omega)]
    have hR1 : OR nb sz w us cl md sm (op + 1) ct cb none mk on σ1 τ1 := by
      refine ⟨⟨rfl, rfl, hop⟩, hpg1, fun _ => rfl, fun p hp => absurd hp (by simp), ⟨q1, q2, q3, rfl⟩, ⟨m1, m2, m3, m4⟩, ?_, hfo, hsm, fun _ => rfl⟩
      rw [hon, nmD_snoc]
      show _ = _ ++ (_ ++ [zL σ 2 (op * (w + 1) + w)]) ++ []
      rw [List.append_nil, ← List.append_assoc]
      rfl
    obtain ⟨r, σ', τ', g1, g2, hor⟩ := o_bump (σ := σ1) (τ := τ1) hn hnb hs5 hsz hS hD hR1 h17 hct
    have hc : fX7_settleWaiting_0 n nb sz mm σ = some (r, σ') := by
      unfold fX7_settleWaiting_0
      rw [if_neg (by rw [r1]; exact nI_m1 (by omega)), p1, nI_1, hS.2.1.2.2.2.2.2, q4, nI_1]
      exact g1
    have hm : fX10_toPage_p14_0 n τ 0 = some τ' := by
      unfold fX10_toPage_p14_0
      rw [zb_s (m_pgL14 (sz := sz) hn hsz hS.2.1.2.1 hS.2.1.2.2.1 p2 hop2 (by omega)), show zI (sL τ 2 (putF (zL τ 2) (zL τ 3) (op * (w + 1)) (w + 1))) 19 = nI op from p2, nI_1, zb_s (m_per (τ := τ1) hsz hS.2.1.2.1 hS.1.2.1 hS.2.1.2.2.1)]
      exact g2
    refine ⟨_, _, _, hc, hm, ?_⟩
    rcases hor with ⟨rfl, ⟨o1, op', ct', cb', o2, o3, o4, o5, o6, o7, o8, o9⟩, -⟩ | ⟨rfl, o1, o2, o3, o4⟩
    · exact Or.inl ⟨rfl, o1, op', ct', cb', o2, o3, o4, o5, o6, o7, zfr_t (zfr_I (by decide) (zfr_I (by decide) (zfr_I (by decide) zfr_r))) o8 (fun _ h => h) (fun _ h => h) (fun _ h => h), zfr_t (zfr_I (by decide) (zfr_L (by decide) zfr_r)) o9 (fun _ h => h) (fun _ h => h) (fun _ h => h)⟩
    · exact Or.inr ⟨rfl, o1, o2, zfr_t (zfr_I (by decide) (zfr_I (by decide) (zfr_I (by decide) zfr_r))) o3 (fun _ h => h) (fun _ h => h) (fun _ h => h), zfr_t (zfr_I (by decide) (zfr_L (by decide) zfr_r)) o4 (fun _ h => h) (fun _ h => h) (fun _ h => h)⟩
/-- a record is put behind the page's last one, and waits -/
theorem o_putw {n nb sz mm w kn op ct mk b i : Nat} {tk pz sb cb : List Nat} {us : Nat → Bool} {cl : Nat → Nat → Int64} {P0 : Prop} {md sm : Int32} {on : List Int64} {σ τ : zS} (hn : 300 < n) (hnb : nb ≤ 200) (hs5 : 5 ≤ sz) (hsz : sz ≤ 64) (hS : SC nb sz mm w kn σ τ) (hD : OD nb sz tk pz sb us cl P0 σ τ) (hR : OR nb sz w us cl md sm op ct cb none mk on σ τ) (hop : op < sz / (w + 1)) (hb : b < nb) (hi : i < sz / (w + 1)) (hub : us b = true) (hmd0 : ¬ md = 0) :
    ∃ σ' τ', zb (zlp (fX7_goOut_L85_85 n nb sz mm (nI (b * sz + i * (w + 1))) (zI σ 20 * zI σ 10)) n (0, σ)) (fun b20 => if zI b20 18 = 0 then zb (fX7_settleWaiting_0 n nb sz mm (sI b20 21 (nI (b * sz + i * (w + 1))))) (fun q23 => if q23.1 = 0 then some (0, q23.2) else fX7_goOut_154 n nb sz mm q23.2) else fX7_goOut_154 n nb sz mm (sI b20 21 (nI (b * sz + i * (w + 1))))) = some (1, σ') ∧ fX10_out_88 n τ (nI (64 * b + i * (w + 1))) = some τ' ∧ OD nb sz tk pz sb us cl P0 σ' τ' ∧ OR nb sz w us cl md sm op ct cb (some (b, i)) mk (on ++ [recC cl w b i w]) σ' τ' ∧ zI τ' 20 = 1 ∧ zA σ' = zA σ ∧ zA τ' = zA τ ∧ zI τ' 17 = zI τ 17 ∧ zfr [21] [] [2] σ σ' ∧ zfr [20] [] [3] τ τ' := by
  obtain ⟨⟨p1, p2, p3⟩, hpg, hw0, hw1, ⟨q1, q2, q3, q4⟩, ⟨m1, m2, m3, m4⟩, hon, hfo, hsm, hmd⟩ := hR
  have hple := p_perle (sz := sz) (w := w)
  have hop2 : op * (w + 1) + (w + 1) ≤ sz := by
    have := Nat.mul_le_mul_right (w + 1) (show op + 1 ≤ sz / (w + 1) from hop)
    rw [Nat.add_mul, Nat.one_mul] at this
    omega
  have hcl : (dC nb sz σ).1 b = cl b := hD.2.2.2.2.2.2.2 b (Or.inl hub)
  have hrc : recC (dC nb sz σ).1 w b i = recC cl w b i := by
    unfold recC
    rw [hcl]
  have hrm : recC (dM nb sz τ).1 w b i = recC cl w b i := by rw [hD.1, hrc]
  have hnn : nmR (sz / (w + 1)) w (dC nb sz σ).1 cb ct ++ nmD w op (putF (zL σ 2) (recC cl w b i) (op * (w + 1)) (w + 1)) ++ [putF (zL σ 2) (recC cl w b i) (op * (w + 1)) (w + 1) (op * (w + 1) + w)] = on ++ [recC cl w b i w] := by
    rw [putF_in (by omega), hon, nmD_congr (fun j hj => putF_lo hj)]
    show _ = _ ++ [] ++ _
    rw [List.append_nil]
  refine ⟨sI (sL σ 2 (putF (zL σ 2) (recC cl w b i) (op * (w + 1)) (w + 1))) 21 (nI (b * sz + i * (w + 1))), sI (sL τ 3 (putF (zL τ 3) (recC cl w b i) 0 (w + 1))) 20 1, ?_, ?_, hD, ?_, rfl, rfl, rfl, rfl, zfr_I (by decide) (zfr_L (by decide) zfr_r), zfr_I (by decide) (zfr_L (by decide) zfr_r)⟩
  · rw [p1, hS.2.1.2.2.2.2.1, nI_mul, zb_s (c_goL hn hnb hsz hS.2.1.2.1 hS.2.1.2.2.2.2.1 hb hi hop2), hrc, if_neg (show ¬ zI (sL σ 2 (putF (zL σ 2) (recC cl w b i) (op * (w + 1)) (w + 1))) 18 = 0 from by show ¬ zI σ 18 = 0; rw [hfo, if_neg hmd0]; decide)]
    rfl
  · unfold fX10_out_88
    rw [zb_s (m_wtL hn hnb hsz hS.2.1.2.1 hS.2.1.2.2.1 hb hi), hrm]
  · refine ⟨⟨p1, p2, p3⟩, fun k hk => ?_, fun h => absurd h (by simp), fun p hp => ?_, ⟨q1, q2, q3, q4⟩, ⟨m1, m2, m3, m4⟩, hnn.symm, hfo, hsm, fun h => absurd h hmd0⟩
    · show putF (zL σ 2) (recC cl w b i) (op * (w + 1)) (w + 1) k = zL τ 2 k
      rw [putF_lo hk]
      exact hpg k hk
    · cases hp
      refine ⟨rfl, hb, hi, hub, fun k hk => ?_, fun k hk _ => ?_, hop⟩
      · show putF (zL σ 2) (recC cl w b i) (op * (w + 1)) (w + 1) (op * (w + 1) + k) = putF (zL τ 3) (recC cl w b i) 0 (w + 1) k
        rw [putF_in (by omega)]
        have := putF_in (f := zL τ 3) (g := recC cl w b i) (a := 0) (m := w + 1) (k := k) (by omega)
        rw [Nat.zero_add] at this
        exact this.symm
      · show putF (zL τ 3) (recC cl w b i) 0 (w + 1) k = _
        have := putF_in (f := zL τ 3) (g := recC cl w b i) (a := 0) (m := w + 1) (k := k) (by omega)
        rw [Nat.zero_add] at this
        exact this
