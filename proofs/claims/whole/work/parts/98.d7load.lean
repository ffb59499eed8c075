def plN (sz w : Nat) (ib : List Nat) (k : Nat) : Nat := bkN sz w ib k * sz + k % (sz / (w + 1)) * (w + 1)
def pmN (sz w : Nat) (ib : List Nat) (k : Nat) : Nat := 64 * bkN sz w ib k + k % (sz / (w + 1)) * (w + 1)
def BN (sz w kn : Nat) (kc kd : Nat → Int32) (ib : List Nat) (cl : Nat → Nat → Int64) (i j : Nat) : Int32 := bfK w kn kc kd (recC cl w (bkN sz w ib i) (i % (sz / (w + 1)))) (recC cl w (bkN sz w ib j) (j % (sz / (w + 1))))
theorem BN_ord {nb sz w kn N : Nat} {kc kd : Nat → Int32} {ib : List Nat} {us : Nat → Bool} {cl : Nat → Nat → Int64} (hT : IST nb sz w N ib us cl) : ordB (BN sz w kn kc kd ib cl) N := by
  refine ⟨fun i j => bf_01, fun i => ?_, fun i j k => ?_, fun i j k => ?_, fun i j hi hj hne => ?_⟩
  · unfold BN
    rw [bf_lex]
    exact lex_ir
  · unfold BN
    rw [bf_lex, bf_lex, bf_lex]
    exact lex_tr
  · unfold BN
    rw [bf_lex, bf_lex, bf_lex]
    exact lex_nt
  · unfold BN
    rw [bf_lex, bf_lex]
    rcases lex_to (a := kvec w kn kc kd (recC cl w (bkN sz w ib i) (i % (sz / (w + 1))))) (b := kvec w kn kc kd (recC cl w (bkN sz w ib j) (j % (sz / (w + 1))))) (r := (if kn = 0 then w else kn) + 1) (k := 0) with g | g | g
    · exact Or.inl g
    · exact Or.inr g
    · exfalso
      have h1 := g (if kn = 0 then w else kn) (Nat.zero_le _) (by omega)
      have hu : ∀ u, kvec w kn kc kd u (if kn = 0 then w else kn) = (u w).toInt := fun u => if_neg (Nat.lt_irrefl _)
      rw [hu, hu] at h1
      exact hne (hT.2.2.2.2 i j hi hj (Int64.toInt_inj.mp h1))
theorem st_B {n nb sz mm w kn N : Nat} {ib : List Nat} {us : Nat → Bool} {cl : Nat → Nat → Int64} {kc kd : Nat → Int32} {σ τ : zS} (hn : 300 < n) (hnb : nb ≤ 200) (hs5 : 5 ≤ sz) (hsz : sz ≤ 64) (hT : IST nb sz w N ib us cl) (hS : SC nb sz mm w kn σ τ) (hd : dM nb sz τ = dC nb sz σ) (hc : ∀ b, us b = true → (dC nb sz σ).1 b = cl b) (h1 : zA σ 1 = kc) (h2 : zA σ 2 = kd) :
    (∀ i j, i < N → j < N → fX5_isBefore_0 n nb sz mm σ (nI (plN sz w ib i)) (nI (plN sz w ib j)) = some (BN sz w kn kc kd ib cl i j)) ∧ (∀ i j, i < N → j < N → fX10_before_0 n τ (nI (pmN sz w ib i)) (nI (pmN sz w ib j)) = some (BN sz w kn kc kd ib cl i j)) := by
  have hper := p_per (w := w) hs5 hS.2.1.2.1
  have hrc : ∀ i, i < N → recC (dC nb sz σ).1 w (bkN sz w ib i) (i % (sz / (w + 1))) = recC cl w (bkN sz w ib i) (i % (sz / (w + 1))) := fun i hi => by
    unfold recC
    rw [hc _ (bk_at hT hi).2.2]
  refine ⟨fun i j hi hj => ?_, fun i j hi hj => ?_⟩
  · unfold plN BN
    rw [c_isBefore hn hnb hsz hS (bk_at hT hi).2.1 (Nat.mod_lt i hper) (bk_at hT hj).2.1 (Nat.mod_lt j hper), hrc i hi, hrc j hj, h1, h2]
  · unfold pmN BN
    rw [m_before hn hnb hsz hS (bk_at hT hi).2.1 (Nat.mod_lt i hper) (bk_at hT hj).2.1 (Nat.mod_lt j hper), hd, hrc i hi, hrc j hj, h1, h2]
theorem OD_fr2 {nb sz : Nat} {tk pz sb : List Nat} {us : Nat → Bool} {cl : Nat → Nat → Int64} {P0 : Prop} {σ τ σ' τ' : zS} (h : OD nb sz tk pz sb us cl P0 σ τ) (f : zfr [15, 16, 28] [8, 9] [] σ σ') (f' : zfr [21, 22, 23, 24] [10, 11] [] τ τ') : OD nb sz tk pz sb us cl P0 σ' τ' := by
  obtain ⟨x1, x2, x3, x4, x5, x6, x7, x8⟩ := h
  have e1 : dC nb sz σ' = dC nb sz σ := dC_fr2 f (by decide) (by decide) (by decide)
  have e2 : dM nb sz τ' = dM nb sz τ := by
    unfold dM
    rw [f'.1 10 (by decide), f'.1 11 (by decide), f'.1 12 (by decide), f'.1 13 (by decide), f'.1 15 (by decide), f'.2.1 0 (by decide), f'.2.2.1 0 (by decide)]
  refine ⟨by rw [e1, e2, x1], by rw [f'.1 13 (by decide), f'.1 14 (by decide)]; exact x2, by rw [f.1 25 (by decide), f.2.1 6 (by decide)]; exact x3, by rw [f'.2.1 1 (by decide)]; exact x4, x5, x6, by rw [e1]; exact x7, by rw [e1]; exact x8⟩
/-- what both sides' states have in common -/
theorem FRN_com {z : Prop} {nb sz mm w kn : Nat} {tk ib : List Nat} {us : Nat → Bool} {cl : Nat → Nat → Int64} {P0 : Prop} {ps qs : List zP} {O : List Nat} {σb τb σ τ : zS} (h : FRN z nb sz mm w kn tk ib us cl P0 ps qs O σb τb σ τ) : SC nb sz mm w kn σ τ ∧ zI τ 17 = 0 ∧ FK us ps σb τb σ τ ∧ dM nb sz τ = dC nb sz σ ∧ (∀ b, us b = true → (dC nb sz σ).1 b = cl b) ∧ zA σ 1 = zA σb 1 ∧ zA σ 2 = zA σb 2 := by
  obtain ⟨h17, hS, cl', mk, op, ct, cb, wp, on, a1, a2, a3, a4, a5, a6, a7, a8, a9, a10, a11⟩ := h
  exact ⟨hS, h17, a10, a2.1, fun b hb => by rw [a2.2.2.2.2.2.2.2 b (Or.inl hb), a1 b hb], a10.2.2.1.2.1 1 (by decide), a10.2.2.1.2.1 2 (by decide)⟩
theorem FBR_com {nb sz mm w kn : Nat} {tk ib : List Nat} {us : Nat → Bool} {cl : Nat → Nat → Int64} {P0 : Prop} {ps qs : List zP} {O : List Nat} {σb τb σ τ : zS} (h : FBR nb sz mm w kn tk ib us cl P0 ps qs O σb τb σ τ) : SC nb sz mm w kn σ τ ∧ zI τ 17 = 0 ∧ FK us ps σb τb σ τ ∧ dM nb sz τ = dC nb sz σ ∧ (∀ b, us b = true → (dC nb sz σ).1 b = cl b) ∧ zA σ 1 = zA σb 1 ∧ zA σ 2 = zA σb 2 := by
  obtain ⟨h17, hS, ⟨cl', a1, a2⟩, a3, a7, a8, a10, a11⟩ := h
  exact ⟨hS, h17, a10, a2.1, fun b hb => by rw [a2.2.2.2.2.2.2.2 b (Or.inl hb), a1 b hb], a10.2.2.1.2.1 1 (by decide), a10.2.2.1.2.1 2 (by decide)⟩
theorem FRN_z {z z' : Prop} {nb sz mm w kn : Nat} {tk ib : List Nat} {us : Nat → Bool} {cl : Nat → Nat → Int64} {P0 : Prop} {ps qs : List zP} {O : List Nat} {σb τb σ τ : zS} (hz : z' → z) (h : FRN z nb sz mm w kn tk ib us cl P0 ps qs O σb τb σ τ) : FRN z' nb sz mm w kn tk ib us cl P0 ps qs O σb τb σ τ := by
  obtain ⟨h17, hS, cl', mk, op, ct, cb, wp, on, a1, a2, a3, a4, a5, a6, a7, a8, a9, a10, a11⟩ := h
  exact ⟨h17, hS, cl', mk, op, ct, cb, wp, on, a1, a2, a3, a4, a5, a6, a7, a8, fun q => a9 (hz q), a10, a11⟩
/-- records come to memory, till it is full or none is left -/
theorem j_fill {n nb sz mm w kn N k : Nat} {tk ib : List Nat} {us : Nat → Bool} {cl : Nat → Nat → Int64} {P0 : Prop} {ps qs : List zP} {O : List Nat} {σb τb σ τ : zS} (hn : 110000 ≤ n) (hnb : nb ≤ 200) (hs5 : 5 ≤ sz) (hsz : sz ≤ 64) (hmm : mm ≤ 64) (hT : IST nb sz w N ib us cl) (hr : rwL (fun x : Nat => x) ib (zI σb 17) (zA σb 5)) (hc : chC (zA τb 2) ib) (h : FBR nb sz mm w kn tk ib us cl P0 ps qs O σb τb σ τ) (hI : INP sz w N k ib σ τ) (h28 : zI σ 28 = 0) :
    ∃ σ' τ' s e, fX9_fillMemory_0 n nb sz mm σ = some σ' ∧ fX10_fill_0 n τ = some τ' ∧ FBR nb sz mm w kn tk ib us cl P0 ps qs O σb τb σ' τ' ∧ INP sz w N (k + s) ib σ' τ' ∧ s ≤ mm ∧ (s = mm ∨ k + s = N) ∧ HP s (plN sz w ib) e σ' ∧ heap (BN sz w kn (zA σb 1) (zA σb 2) ib cl) e s ∧ injE e s ∧ rngE N s e ∧ (∀ y, (∃ j, j < s ∧ e j = y) ↔ (k ≤ y.1 ∧ y.1 < k + s ∧ y.2 = 0)) ∧ HM s (pmN sz w ib) (fun j => (k + j, 0)) τ' := by
  have hibu : ∀ b ∈ ib, us b = true := fun b hb => (hT.2.1 b hb).2
  have hB := BN_ord (kn := kn) (kc := zA σb 1) (kd := zA σb 2) hT
  have hNb := hT.2.2.2.1
  have hloop := zlp_two (body := fX9_fillMemory_L2_2 n nb sz mm) (body' := fX10_fill_L5_5 n)
    (fun m a a' => ∃ s e σ1 τ1, a = (nI s, σ1) ∧ a' = τ1 ∧ m = mm - s ∧ s ≤ mm ∧ FBR nb sz mm w kn tk ib us cl P0 ps qs O σb τb σ1 τ1 ∧ INP sz w N (k + s) ib σ1 τ1 ∧ HP s (plN sz w ib) e σ1 ∧ heap (BN sz w kn (zA σb 1) (zA σb 2) ib cl) e s ∧ injE e s ∧ rngE N s e ∧ (∀ y, (∃ j, j < s ∧ e j = y) ↔ (k ≤ y.1 ∧ y.1 < k + s ∧ y.2 = 0)) ∧ HM s (pmN sz w ib) (fun j => (k + j, 0)) τ1)
    (fun b b' => ∃ s e, FBR nb sz mm w kn tk ib us cl P0 ps qs O σb τb b b' ∧ INP sz w N (k + s) ib b b' ∧ s ≤ mm ∧ (s = mm ∨ k + s = N) ∧ HP s (plN sz w ib) e b ∧ heap (BN sz w kn (zA σb 1) (zA σb 2) ib cl) e s ∧ injE e s ∧ rngE N s e ∧ (∀ y, (∃ j, j < s ∧ e j = y) ↔ (k ≤ y.1 ∧ y.1 < k + s ∧ y.2 = 0)) ∧ HM s (pmN sz w ib) (fun j => (k + j, 0)) b')
    (fun m a a' hP => by
      obtain ⟨s, e, σ1, τ1, rfl, rfl, rfl, hs, q1, q2, q3, q4, q5, q6, q7, q8⟩ := hP
      obtain ⟨hS, h17, hK, hd, hcl, hk1, hk2⟩ := FBR_com q1
      have hks := q2.1
      unfold fX9_fillMemory_L2_2 fX10_fill_L5_5
      dsimp only
      rw [hS.1.2.2.2.2.1, hS.1.2.2.1, q8.1, q2.2.2.1, q2.2.2.2.1]
      by_cases c : s = mm
      · right
        rw [if_pos (nI_le (show mm ≤ s by omega) (by omega)), if_pos (nI_le (show mm ≤ s by omega) (by omega))]
        exact ⟨_, _, rfl, rfl, s, e, q1, q2, hs, Or.inl c, q3, q4, q5, q6, q7, q8⟩
      · rw [if_neg (show ¬ nI mm ≤ nI s from fun q => by rw [nI_leI (by omega) (by omega)] at q; omega), if_neg (show ¬ nI mm ≤ nI s from fun q => by rw [nI_leI (by omega) (by omega)] at q; omega)]
        by_cases c2 : k + s = N
        · right
          rw [show N - (k + s) = 0 by omega, if_pos (show nI 0 ≤ 0 by decide), if_pos (show nI 0 ≤ 0 by decide)]
          exact ⟨_, _, rfl, rfl, s, e, q1, q2, hs, Or.inr c2, q3, q4, q5, q6, q7, q8⟩
        · left
          have hk : k + s < N := by omega
          rw [if_neg (show ¬ nI (N - (k + s)) ≤ 0 from nI_nle (by omega) (by omega)), if_neg (show ¬ nI (N - (k + s)) ≤ 0 from nI_nle (by omega) (by omega))]
          obtain ⟨hr1, hc1⟩ := fb_row hK hr hc hibu
          obtain ⟨σ2, τ2, a1, a2, a3, a4, a5, a6⟩ := j_next (n := n) (tk := tk) (P0 := P0) (by omega) hnb hs5 hsz hS hT q2 hk h17 hr1 hc1
          have q1' := FBR_fr q1 (zfr_w a4 (by decide) (by decide) (by decide)) (zfr_w a5 (by decide) (by decide) (by decide)) (fun pz sb cl' => a6 pz sb us cl')
          obtain ⟨hS2, h172, hK2, hd2, hcl2, hk12, hk22⟩ := FBR_com q1'
          have hH2 : HP s (plN sz w ib) e σ2 := by
            unfold HP
            rw [a4.1 28 (by decide), a4.2.1 8 (by decide), a4.2.1 9 (by decide)]
            exact q3
          have hnew : ∀ j, j < s → ¬ (e j).1 = k + s := fun j hj q => by
            have := (q7 (e j)).mp ⟨j, hj, rfl⟩
            omega
          obtain ⟨σ3, e3, b1, b2, b3, b4, b5, b6, b7⟩ := c_hadd (n := n) (nb := nb) (sz := sz) (mm := mm) (N := N) (s := s) (pl := plN sz w ib) (B := BN sz w kn (zA σb 1) (zA σb 2) ib cl) (e := e) (x := (k + s, 0)) (σ := σ2) (by omega) hmm (by omega) hB (fun σ9 f9 => (st_B (n := n) (τ := τ2) (by omega) hnb hs5 hsz hT (SC_fr hS2 f9 (zfr_r (I := []) (A := []) (L := [])) (by decide) (by decide) (by decide) (by decide)) (by rw [dC_fr2 f9 (by decide) (by decide) (by decide)]; exact hd2) (by rw [dC_fr2 f9 (by decide) (by decide) (by decide)]; exact hcl2) ((f9.2.1 1 (by decide)).trans hk12) ((f9.2.1 2 (by decide)).trans hk22)).1) hH2 q4 q5 q6 ⟨hk, by show 0 < 2 ^ 30; decide⟩ hnew
          have b1' : fX3_add_0 n nb sz mm σ2 (nI (bkN sz w ib (k + s) * sz + (k + s) % (sz / (w + 1)) * (w + 1))) 0 = some σ3 := b1
          rw [zb_s a1, zb_s b1', zb_s a2, zg_in (show s < 64 by omega) (by decide), show zI τ2 24 = nI s from (a5.1 24 (by decide)).trans q8.1, zg_in (show s < 64 by omega) (by decide), nI_clamp (by omega), nI_1, nar0]
          have fm : zfr [10, 12, 13, 14, 21, 22, 23, 24] [10, 11] [] a' (sI (sA (sA τ2 10 (upd (zA τ2 10) s (nI (64 * bkN sz w ib (k + s) + (k + s) % (sz / (w + 1)) * (w + 1))))) 11 (upd (zA τ2 11) s 0)) 24 (nI (s + 1))) := zfr_I (by decide) (zfr_A (by decide) (zfr_A (by decide) (zfr_w a5 (by decide) (by decide) (by decide))))
          have fc : zfr [2, 4, 5, 15, 16, 28] [8, 9] [] σ1 σ3 := zfr_t (zfr_w a4 (by decide) (by decide) (by decide)) b7 (by decide) (by decide) (by decide)
          refine ⟨_, _, mm - (s + 1), by omega, rfl, rfl, s + 1, e3, σ3, _, rfl, rfl, rfl, by omega, FBR_fr q1 fc fm (fun pz sb cl' hO => ?_), ?_, b2, b3, b4, b5, fun y => ?_, ⟨rfl, fun j hj => ?_⟩⟩
          · exact OD_fr2 (a6 pz sb us cl' hO) (zfr_w b7 (by decide) (by decide) (by decide)) (zfr_I (by decide) (zfr_A (by decide) (zfr_A (by decide) zfr_r)))
          · have := INP_fr (τ' := sI (sA (sA τ2 10 (upd (zA τ2 10) s (nI (64 * bkN sz w ib (k + s) + (k + s) % (sz / (w + 1)) * (w + 1))))) 11 (upd (zA τ2 11) s 0)) 24 (nI (s + 1))) a3 b7 (zfr_I (I := [24]) (A := [10, 11]) (L := []) (by decide) (zfr_A (by decide) (zfr_A (by decide) zfr_r))) (by decide) (by decide)
            rw [show k + (s + 1) = k + s + 1 by omega]
            exact this
          · rw [b6 y, q7 y]
            constructor
            · rintro (rfl | ⟨h1, h2, h3⟩)
              · exact ⟨by show k ≤ k + s; omega, by show k + s < _; omega, rfl⟩
              · exact ⟨h1, by omega, h3⟩
            · rintro ⟨h1, h2, h3⟩
              by_cases z : y.1 = k + s
              · exact Or.inl (Prod.ext z h3)
              · exact Or.inr ⟨h1, by omega, h3⟩
          · show upd (zA τ2 10) s _ j = _ ∧ upd (zA τ2 11) s 0 j = _ ∧ _
            rw [upd_at, upd_at]
            by_cases z : j = s
            · rw [if_pos z, if_pos z, z]
              exact ⟨rfl, rfl, Nat.zero_le _⟩
            · rw [if_neg z, if_neg z, a5.2.1 10 (by decide), a5.2.1 11 (by decide)]
              exact q8.2 j (by omega))
    n mm (0, σ) (sI τ 24 0) (by omega) ⟨0, fun _ => (0, 0), σ, sI τ 24 0, rfl, rfl, rfl, Nat.zero_le _, ?_, ?_, ⟨h28, fun j hj => absurd hj (by omega)⟩, fun j _ hj => absurd hj (by omega), fun i j hi => absurd hi (by omega), fun j hj => absurd hj (by omega), fun y => ⟨fun ⟨j, hj, _⟩ => absurd hj (by omega), fun ⟨h1, h2, _⟩ => by omega⟩, ⟨rfl, fun j hj => absurd hj (by omega)⟩⟩
  · obtain ⟨σ', τ', l1, l2, s, e, r1, r2, r3, r4, r5, r6, r7, r8, r9, r10⟩ := hloop
    refine ⟨σ', τ', s, e, ?_, ?_, r1, r2, r3, r4, r5, r6, r7, r8, r9, r10⟩
    · unfold fX9_fillMemory_0
      rw [zb_s l1]
    · unfold fX10_fill_0
      rw [zb_s l2]
  · exact FBR_fr h zfr_r (zfr_I (by decide) zfr_r) (fun pz sb cl' hO => OD_fr2 hO zfr_r (zfr_I (by decide) zfr_r))
  · exact INP_fr hI (zfr_r (I := []) (A := []) (L := [])) (zfr_I (I := [24]) (A := []) (L := []) (by decide) zfr_r) (by decide) (by decide)
