/-- the input is open -/
def BSE (nb sz mm w od kn N : Nat) (inp ib tk : List Nat) (ps : List zP) (us : Nat → Bool) (cl : Nat → Nat → Int64) (σ τ σb τb : zS) : Prop :=
  FBR nb sz mm w kn tk ib us cl (inp = [] ∧ ps = []) ps [] [] σb τb σb τb ∧ INP sz w N 0 ib σb τb ∧ IST nb sz w N ib us cl ∧ rwL (fun x : Nat => x) ib (zI σb 17) (zA σb 5) ∧ JF 0 ib N (zA τb 3) (zA τb 4) (zA τb 5) (zA τb 2) ∧
  nmR (sz / (w + 1)) w (dC nb sz σ).1 inp (inp.length * (sz / (w + 1))) ++ nmD w od (zL σ 1) = (List.range N).map (nuN sz w ib cl) ∧
  (∀ b, us b = ((dC nb sz σ).2.1 b || decide (b ∈ tk))) ∧ (∀ b, (dC nb sz σ).2.1 b = true → cl b = (dC nb sz σ).1 b) ∧
  ((tk = [] ∧ ib = inp ∧ zI σb 14 = -1) ∨ ∃ b, tk = [b] ∧ ib = inp ++ [b] ∧ (dC nb sz σ).2.1 b = false ∧ b < nb ∧ zI σb 14 = nI b) ∧
  (∀ c, (dC nb sz σ).2.1 c = true → zA σb 3 c = zA σ 3 c ∧ zA σb 4 c = zA σ 4 c) ∧ (∀ c, (dC nb sz σ).2.1 c = true → (tk = [] ∨ ¬ c ∈ inp) → zA τb 2 c = zA τ 2 c) ∧ (∀ g ∈ ps.map flP, zA τb 3 g = zA τ 3 g ∧ zA τb 4 g = zA τ 4 g ∧ zA τb 5 g = zA τ 5 g) ∧
  zfr [2, 3, 4, 5, 6, 14, 15, 16, 17, 18, 19, 20, 21, 22, 23, 24, 25, 26] [0, 5, 6, 7] [0] σ σb ∧ zfr [0, 10, 11, 12, 13, 14, 15, 17, 21, 22, 23, 24, 25] [0, 1, 2, 3, 4, 5] [0] τ τb
/-- it can't be opened -/
def BSF (nb sz : Nat) (inp : List Nat) (ps : List zP) (σ τ σb τb : zS) : Prop :=
  ((zI τb 17 = 1 ∧ zI σb 7 = 1) ∨ (zI τb 17 = 2 ∧ zI σb 7 = 0)) ∧ zI τb 23 = 0 ∧ zI τb 24 = 0 ∧ zI τb 25 = 0 ∧ OD nb sz [] [] [] (dC nb sz σ).2.1 (dC nb sz σ).1 (inp = [] ∧ ps = []) σb τb ∧ zI σb 14 = -1 ∧
  zfr [7, 14, 15, 16, 18, 19, 20, 21, 22, 23, 24, 25, 26] [6, 7] [] σ σb ∧ zfr [0, 17, 21, 22, 23, 24, 25] [1] [] τ τb
theorem j_open {n nb sz mm cm w od kn : Nat} {inp : List Nat} {ps : List zP} {σ τ : zS} (hn : 300 < n) (hnb : nb ≤ 200) (hs5 : 5 ≤ sz) (hsz : sz ≤ 64) (hJ : JS cm nb sz mm w od kn inp ps σ τ) (h7 : zI σ 7 = 0) :
    ∃ σ1 r σb τb, fX7_beginStep_0 n nb sz mm σ (zI σ 0) = some σ1 ∧ fX2_open_0 n nb sz mm σ1 = some (r, σb) ∧ (∀ x1, fX10_form_26 n τ x1 0 = m134 n τb x1 (zA τ 3 0) (zA τ 4 0) (zA τ 5 0)) ∧
    ((r = 1 ∧ ∃ N ib tk us cl, BSE nb sz mm w od kn N inp ib tk ps us cl σ τ σb τb) ∨ (r = 0 ∧ BSF nb sz inp ps σ τ σb τb)) := by
  obtain ⟨hS, hDk, hd, hlat, hin, hC, ⟨hf1, hf2, hf3, hf4, hf5⟩, hB, hN⟩ := hJ
  obtain ⟨hD1, hod, hD3, hD4, hD5, hD6⟩ := hDk
  have hper := p_per (w := w) hs5 hS.2.1.2.1
  have hple := p_perle (sz := sz) (w := w)
  have hw4 := hS.2.1.2.1
  have hcnt : od * (w + 1) ≤ sz := Nat.le_trans (Nat.mul_le_mul_right _ (Nat.le_of_lt hod)) hple
  have hdv := Nat.div_le_self sz (w + 1)
  have hinU : ∀ b ∈ inp, b < nb ∧ (dC nb sz σ).2.1 b = true := fun b hb => hB.2.1 b (List.mem_append_left _ hb)
  have hinl := (Nat.le_trans (Nat.le_add_right _ _) (j_many hB) : inp.length ≤ nb)
  have hndI := (List.nodup_append.mp hB.1).1
  have hndN := (List.nodup_append.mp hN.1).1
  obtain ⟨σ1, b1, bf, b18, b19, b20, b21, b22, b23, b24, b25, b26⟩ := c_beginStep (n := n) hn hS
  -- the class
  have hheld : fX2_heldRecords_0 n nb sz mm (sI σ1 15 0) = some (nI (inp.length * (sz / (w + 1)) + od)) := by
    unfold fX2_heldRecords_0 fX6_size_0
    rw [zb_s (show some (zI (zrv (zI (sI σ1 15 0) 17) (zA (sI σ1 15 0) 5)) 0) = some (nI inp.length) from congrArg some ((bf.1 17 (by decide)).trans hin.1))]
    show some (nI inp.length * zI σ1 11 + zI σ1 12) = _
    rw [bf.1 11 (by decide), bf.1 12 (by decide), hS.2.1.2.2.2.2.2, hD4, nI_mul, nI_add]
  have hop : fX2_open_0 n nb sz mm σ1 = if zI σ1 12 = 0 then some (1, sI (sI (sI σ1 15 0) 16 (nI (inp.length * (sz / (w + 1)) + od))) 14 (-1)) else zb (fX0_store_p13_0 n nb sz mm (sI (sI (sI σ1 15 0) 16 (nI (inp.length * (sz / (w + 1)) + od))) 14 (-1)) (zI σ1 12 * zI σ1 10)) (fun q4 => if q4.1 = -1 then some (0, sI q4.2 14 q4.1) else zb (fX6_add_0 n nb (zrv (zI q4.2 17) (zA q4.2 5)) q4.1) (fun q7 => some (1, sA (sI (sI q4.2 14 q4.1) 17 (zI q7 0)) 5 (zA q7 0)))) := by
    unfold fX2_open_0
    rw [zb_s hheld]
  rw [bf.1 12 (by decide), bf.1 10 (by decide), hD4, hS.2.1.2.2.2.2.1, nI_mul] at hop
  generalize hσ2 : sI (sI (sI σ1 15 0) 16 (nI (inp.length * (sz / (w + 1)) + od))) 14 (-1) = σ2 at hop
  have cf2 : zfr [14, 15, 16, 18, 19, 20, 21, 22, 23, 24, 25, 26] [6, 7] [] σ σ2 := by
    rw [← hσ2]
    exact zfr_I (by decide) (zfr_I (by decide) (zfr_I (by decide) (zfr_w bf (by decide) (by decide) (by decide))))
  have s15 : zI σ2 15 = 0 := by rw [← hσ2]; rfl
  have s16 : zI σ2 16 = nI (inp.length * (sz / (w + 1)) + od) := by rw [← hσ2]; rfl
  have s14 : zI σ2 14 = -1 := by rw [← hσ2]; rfl
  have hk : ∀ j, ¬ j ∈ [14, 15, 16] → zI σ2 j = zI σ1 j := fun j hj => by
    have : zfr [14, 15, 16] [] [] σ1 σ2 := by
      rw [← hσ2]
      exact zfr_I (by decide) (zfr_I (by decide) (zfr_I (by decide) zfr_r))
    exact this.1 j hj
  have hdC2 : dC nb sz σ2 = dC nb sz σ := dC_fr2 cf2 (by decide) (by decide) (by decide)
  -- the reference
  have hbeg := m_begin (n := n) (nb := nb) (τ := sI (sI τ 0 0) 25 0) hn hS.1.1 hnb
  generalize hτ1 : sA (sI (sI (sI τ 0 0) 25 0) 17 0) 1 (fun k => if k < nb then 0 else zA (sI (sI τ 0 0) 25 0) 1 k) = τ1 at hbeg
  have tf1 : zfr [0, 17, 25] [1] [] τ τ1 := by rw [← hτ1]; exact zfr_A (by decide) (zfr_I (by decide) (zfr_I (by decide) (zfr_I (by decide) zfr_r)))
  have t17 : zI τ1 17 = 0 := by rw [← hτ1]; rfl
  have t25 : zI τ1 25 = 0 := by rw [← hτ1]; rfl
  have tA1 : ∀ b, b < nb → zA τ1 1 b = 0 := fun b hb => by
    rw [← hτ1]
    show (if b < nb then 0 else zA τ 1 b) = 0
    rw [if_pos hb]
  have hdM1 : dM nb sz τ1 = dM nb sz τ := by
    unfold dM
    rw [tf1.1 10 (by decide), tf1.1 11 (by decide), tf1.1 12 (by decide), tf1.1 13 (by decide), tf1.1 15 (by decide), tf1.2.1 0 (by decide), tf1.2.2.1 0 (by decide)]
  have t5 : zI τ1 5 = nI od := (tf1.1 5 (by decide)).trans hD3
  have hfo : ∀ x1, fX10_form_26 n τ x1 0 = if zI τ1 5 ≤ 0 then fX10_form_101 n τ1 x1 (zA τ 3 0) (zA τ 4 0) (zA τ 5 0) else zb (fX10_write_p10_0 n τ1 (zI τ1 5)) (fun q12 => zb (fX10_hang_0 n q12.2 0 q12.1 (zI q12.2 5)) (fun q14 => fX10_form_101 n q14 x1 (zA τ 3 0) (zA τ 4 0) (zA τ 5 0))) := fun x1 => by
    have hz : ∀ {k : Option (Int32 × zS)}, zg (zin 0 208) k = k := fun {k} => zg_t (by decide)
    unfold fX10_form_26
    rw [if_pos (by decide), hz, hz, hz, zb_s hbeg, show (Int32.toNatClampNeg 0) = 0 by decide]
  rw [t5] at hfo
  have mfr : ∀ t : zS, zfr [21, 22, 23, 24] [] [] t (m101 t) := fun t => zfr_I (by decide) (zfr_I (by decide) (zfr_I (by decide) (zfr_I (by decide) zfr_r)))
  have hdM101 : ∀ t : zS, dM nb sz (m101 t) = dM nb sz t := fun t => rfl
  by_cases c0 : od = 0
  · -- nothing on the desk
    subst c0
    rw [if_pos (show nI 0 = 0 from rfl)] at hop
    have hfo2 : ∀ x1, fX10_form_26 n τ x1 0 = m134 n (m101 τ1) x1 (zA τ 3 0) (zA τ 4 0) (zA τ 5 0) := fun x1 => by
      rw [hfo x1, if_pos (show nI 0 ≤ 0 by decide), m_101]
    have mf : zfr [0, 17, 21, 22, 23, 24, 25] [1] [] τ (m101 τ1) := zfr_t (zfr_w tf1 (by decide) (by decide) (by decide)) (mfr τ1) (by decide) (by decide) (by decide)
    have hNU : nmR (sz / (w + 1)) w (dC nb sz σ).1 inp (inp.length * (sz / (w + 1))) ++ nmD w 0 (zL σ 1) = (List.range (inp.length * (sz / (w + 1)) + 0)).map (nuN sz w inp (dC nb sz σ).1) := by
      show nmR (sz / (w + 1)) w (dC nb sz σ).1 inp (inp.length * (sz / (w + 1))) ++ [] = _
      rw [List.append_nil]
      rfl
    have hT : IST nb sz w (inp.length * (sz / (w + 1)) + 0) inp (dC nb sz σ).2.1 (dC nb sz σ).1 := ist_of hper hsz hnb (Nat.le_refl _) hinU hinl (by rw [← hNU]; exact hndN)
    refine ⟨σ1, 1, σ2, m101 τ1, b1, hop, hfo2, Or.inl ⟨rfl, inp.length * (sz / (w + 1)) + 0, inp, [], (dC nb sz σ).2.1, (dC nb sz σ).1, ?_, ⟨Nat.zero_le _, s15, s16, ?_, Or.inl ⟨rfl, rfl, fun hN0 => ?_⟩⟩, hT, ?_, ?_, hNU, fun b => ?_, fun b hb => rfl, Or.inl ⟨rfl, rfl, s14⟩, fun c hc => ⟨?_, ?_⟩, fun c hc _ => ?_, fun g hg => ⟨?_, ?_, ?_⟩, zfr_w cf2 (by decide) (by decide) (by decide), zfr_w mf (by decide) (by decide) (by decide)⟩⟩
    · refine fbr0 (SC_fr hS cf2 mf (by decide) (by decide) (by decide) (by decide)) t17 ⟨?_, ?_, ⟨(hk 25 (by decide)).trans b25, fun j b hj => (by cases hj)⟩, fun b hb => ?_, List.nodup_nil, fun b hb => (by cases hb), fun b => ?_, fun b _ => by rw [hdC2]⟩ ?_ ?_ ((hk 20 (by decide)).trans b20) ((hk 21 (by decide)).trans b21) ((hk 22 (by decide)).trans b22) ((hk 23 (by decide)).trans b23) ((hk 24 (by decide)).trans b24) ((hk 26 (by decide)).trans b26) t25 hf1 ?_
      · rw [hdM101, hdM1, hdC2, hd]
      · rcases hlat with q | q
        · exact Or.inl ⟨rfl, q⟩
        · right
          rw [mf.1 14 (by decide), mf.1 13 (by decide)]
          exact q
      · show zA τ1 1 b = 0 ↔ _
        rw [tA1 b hb]
        exact ⟨fun _ q => q.elim (fun q => by cases q) (fun q => by cases q), fun _ => rfl⟩
      · rw [hdC2, decide_eq_false List.not_mem_nil, Bool.or_false]
      · rw [hk 18 (by decide), b18, cf2.1 0 (by decide)]
      · rw [hk 19 (by decide), b19, cf2.1 0 (by decide), cf2.2.1 1 (by decide)]
      · rw [mf.2.1 6 (by decide)]
        exact hf3
    · show (if zI τ1 17 ≤ 0 then zA τ1 5 0 else 0) = nI (inp.length * (sz / (w + 1)) + 0 - 0)
      rw [t17, if_pos (by decide), tf1.2.1 5 (by decide)]
      exact hf5.2.2.1
    · show zA τ1 3 0 = nI (bkN sz w inp 0)
      have hne : ¬ inp = [] := fun q => by
        rw [q] at hN0
        simp at hN0
      rw [tf1.2.1 3 (by decide), (hf5.2.1 hne).1]
      unfold bkN
      rw [Nat.zero_div]
      cases inp with
      | nil => exact absurd rfl hne
      | cons a t => rfl
    · rw [cf2.1 17 (by decide), cf2.2.1 5 (by decide)]
      exact hin
    · rw [mf.2.1 3 (by decide), mf.2.1 4 (by decide), mf.2.1 5 (by decide), mf.2.1 2 (by decide)]
      exact hf5
    · rw [decide_eq_false List.not_mem_nil, Bool.or_false]
    · rw [cf2.2.1 3 (by decide)]
    · rw [cf2.2.1 4 (by decide)]
    · rw [mf.2.1 2 (by decide)]
    · rw [mf.2.1 3 (by decide)]
    · rw [mf.2.1 4 (by decide)]
    · rw [mf.2.1 5 (by decide)]
  · -- the desk goes to a block
    have hst := c_store_p13 (n := n) (nb := nb) (sz := sz) (mm := mm) (cnt := od * (w + 1)) (σ := σ2) hn hnb hsz ((cf2.1 1 (by decide)).trans hS.1.2.2.2.1) hcnt
    rw [if_neg (show ¬ nI od = 0 from nI_ne0 (by omega) (by omega)), zb_s hst, hdC2, cf2.1 6 (by decide)] at hop
    have hwr := m_write_p10 (n := n) (nb := nb) (sz := sz) (w := w) (m := od) (τ := τ1) hn ((tf1.1 1 (by decide)).trans hS.1.1) hnb t17 ((tf1.1 6 (by decide)).trans hS.2.1.2.2.1) (by omega) (by omega) (by omega)
    have du : (dM nb sz τ1).2.1 = (dC nb sz σ).2.1 := by rw [hdM1, hd]
    have d15 : zI τ1 15 = zI σ 6 := by
      rw [tf1.1 15 (by decide)]
      exact congrArg (fun d : zD => d.2.2.2.2.2.2) hd
    rw [du, d15] at hwr
    have hfo2 : ∀ x1, fX10_form_26 n τ x1 0 = zb (fX10_write_p10_0 n τ1 (nI od)) (fun q12 => zb (fX10_hang_0 n q12.2 0 q12.1 (zI q12.2 5)) (fun q14 => m134 n (m101 q14) x1 (zA τ 3 0) (zA τ 4 0) (zA τ 5 0))) := fun x1 => by
      rw [hfo x1, if_neg (show ¬ nI od ≤ 0 from nI_nle (by omega) (by omega))]
      simp only [m_101]
    have hle := dLf_le (dC nb sz σ).2.1 nb 0
    have hfree := dLf_free (dC nb sz σ).2.1 nb 0
    generalize dLf (dC nb sz σ).2.1 nb 0 = b at hle hfree hop hwr
    -- it can't
    have fail : ∀ (x y : Int32), ((x = 1 ∧ y = 1) ∨ (x = 2 ∧ y = 0)) → BSF nb sz inp ps σ τ (sI (sI σ2 7 y) 14 (-1)) (m101 (sI τ1 17 x)) := fun x y hxy => by
      have hx0 : ¬ x ≤ 0 := by
        rcases hxy with ⟨q, -⟩ | ⟨q, -⟩
        · rw [q]; decide
        · rw [q]; decide
      refine ⟨?_, ?_, rfl, t25, ⟨?_, ?_, ⟨(hk 25 (by decide)).trans b25, fun j b hj => (by cases hj)⟩, fun c hc => ?_, List.nodup_nil, fun b hb => (by cases hb), fun c => ?_, fun c _ => ?_⟩, rfl, zfr_I (by decide) (zfr_I (by decide) (zfr_w cf2 (by decide) (by decide) (by decide))), zfr_t (zfr_I (by decide) (zfr_w tf1 (by decide) (by decide) (by decide))) (mfr (sI τ1 17 x)) (by decide) (by decide) (by decide)⟩
      · exact hxy
      · show (if x ≤ 0 then _ else 0) = 0
        rw [if_neg hx0]
      · show dM nb sz τ1 = dC nb sz σ2
        rw [hdM1, hdC2, hd]
      · rcases hlat with q | q
        · exact Or.inl ⟨rfl, q⟩
        · right
          show zI τ1 14 = zI τ1 13
          rw [tf1.1 14 (by decide), tf1.1 13 (by decide)]
          exact q
      · show zA τ1 1 c = 0 ↔ _
        rw [tA1 c hc]
        exact ⟨fun _ q => q.elim (fun q => by cases q) (fun q => by cases q), fun _ => rfl⟩
      · show (dC nb sz σ2).2.1 c = _
        rw [hdC2, decide_eq_false List.not_mem_nil, Bool.or_false]
      · show (dC nb sz σ2).1 c = _
        rw [hdC2]
    have h72 : zI σ2 7 = 0 := (cf2.1 7 (by decide)).trans h7
    by_cases c1 : b = nb
    · rw [if_pos c1] at hop hwr
      have e2 : sI σ2 7 0 = σ2 := by rw [← h72, sI_id]
      have hF := fail 2 0 (Or.inr ⟨rfl, rfl⟩)
      rw [e2] at hF
      refine ⟨σ1, 0, sI σ2 14 (-1), m101 (sI τ1 17 2), b1, ?_, fun x1 => ?_, Or.inr ⟨rfl, hF⟩⟩
      · rw [hop]
        exact if_pos rfl
      · rw [hfo2 x1, zb_s hwr]
        dsimp only
        rw [zb_s m_hang_s]
    · rw [if_neg c1] at hop hwr
      by_cases c2 : zI σ 6 = 0
      · rw [if_pos c2] at hop hwr
        refine ⟨σ1, 0, sI (sI σ2 7 1) 14 (-1), m101 (sI τ1 17 1), b1, ?_, fun x1 => ?_, Or.inr ⟨rfl, fail 1 1 (Or.inl ⟨rfl, rfl⟩)⟩⟩
        · rw [hop]
          exact if_pos rfl
        · rw [hfo2 x1, zb_s hwr]
          dsimp only
          rw [zb_s m_hang_s]
      · rw [if_neg c2] at hop hwr
        have hbn : b < nb := by omega
        have hbf : (dC nb sz σ).2.1 b = false := by
          cases h : (dC nb sz σ).2.1 b with
          | false => rfl
          | true => exact absurd h (hfree (by omega))
        have hbi : ¬ b ∈ inp := fun q => by
          have := (hinU b q).2
          rw [hbf] at this
          cases this
        have hinl2 : inp.length < nb := by
          have h1 := nd_le nb (b :: inp) (List.nodup_cons.mpr ⟨hbi, hndI⟩) (fun x hx => by
            rcases List.mem_cons.mp hx with q | q
            · rw [q]; exact hbn
            · exact (hinU x q).1)
          rw [List.length_cons] at h1
          omega
        -- the class' row
        have hrow2 : rwL (fun x : Nat => x) inp (zI σ2 17) (zA σ2 5) := by
          rw [cf2.1 17 (by decide), cf2.2.1 5 (by decide)]
          exact hin
        obtain ⟨s, u1, u2⟩ := rl_add (n := n) (ln := nb) (x := b) hrow2 hinl2 hnb
        dsimp only at hop
        rw [if_neg (nI_m1 (show b < 2 ^ 31 by omega))] at hop
        have u1' : fX6_add_0 n nb (zrv (zI (stp13C sz σ2 b (od * (w + 1))) 17) (zA (stp13C sz σ2 b (od * (w + 1))) 5)) (nI b) = some s := u1
        rw [zb_s u1'] at hop
        have cf3 : zfr [2, 3, 4, 5, 6, 14, 15, 16, 17, 18, 19, 20, 21, 22, 23, 24, 25, 26] [0, 5, 6, 7] [0] σ (sA (sI (sI (stp13C sz σ2 b (od * (w + 1))) 14 (nI b)) 17 (zI s 0)) 5 (zA s 0)) := zfr_A (by decide) (zfr_I (by decide) (zfr_I (by decide) (zfr_L (by decide) (zfr_I (by decide) (zfr_I (by decide) (zfr_I (by decide) (zfr_A (by decide) (zfr_I (by decide) (zfr_w cf2 (by decide) (by decide) (by decide))))))))))
        have hdC3 : dC nb sz (sA (sI (sI (stp13C sz σ2 b (od * (w + 1))) 14 (nI b)) 17 (zI s 0)) 5 (zA s 0)) = dPut (dC nb sz σ) b (zL σ 1) (od * (w + 1)) := by
          show dC nb sz (stp13C sz σ2 b (od * (w + 1))) = _
          rw [dC_st_p13 hbn hcnt, hdC2, cf2.2.2.1 1 (by decide)]
        -- the reference's
        have tf2 : zfr [0, 10, 11, 12, 13, 14, 15, 17, 25] [0, 1, 2] [0] τ (wrp10M (sI τ1 17 0) b (od * (w + 1))) := zfr_L (by decide) (zfr_I (by decide) (zfr_I (by decide) (zfr_I (by decide) (zfr_I (by decide) (zfr_A (by decide) (zfr_A (by decide) (zfr_A (by decide) (zfr_I (by decide) (zfr_I (by decide) (zfr_w tf1 (by decide) (by decide) (by decide)))))))))))
        have hA2 : zA (wrp10M (sI τ1 17 0) b (od * (w + 1))) 2 = upd (zA τ 2) b (-1) := by
          show upd (zA τ1 2) b (-1) = _
          rw [tf1.2.1 2 (by decide)]
        have hdM2 : dM nb sz (wrp10M (sI τ1 17 0) b (od * (w + 1))) = dPut (dC nb sz σ) b (zL σ 1) (od * (w + 1)) := by
          rw [dM_wr_p10 hbn hcnt hsz, show dM nb sz (sI τ1 17 0) = dM nb sz τ1 from rfl, hdM1, hd]
          refine dPut_row (fun k hk => ?_)
          show zL τ1 1 k = _
          rw [tf1.2.2.1 1 (by decide)]
          exact hD5 k (by omega)
        have h14 : zI (wrp10M (sI τ1 17 0) b (od * (w + 1))) 14 = zI (wrp10M (sI τ1 17 0) b (od * (w + 1))) 13 := rfl
        have h172 : zI (wrp10M (sI τ1 17 0) b (od * (w + 1))) 17 = 0 := rfl
        have hAt : ∀ c, c < nb → (zA (wrp10M (sI τ1 17 0) b (od * (w + 1))) 1 c = 0 ↔ ¬ (c ∈ [b] ∨ c ∈ ([] : List Nat))) := fun c hc => by
          show upd (zA τ1 1) b 1 c = 0 ↔ _
          rw [upd_at]
          by_cases q : c = b
          · rw [if_pos q]
            exact ⟨fun z => absurd z (by decide), fun z => absurd (Or.inl (List.mem_singleton.mpr q)) z⟩
          · rw [if_neg q, tA1 c hc]
            exact ⟨fun _ z => z.elim (fun z => q (List.mem_singleton.mp z)) (fun z => by cases z), fun _ => rfl⟩
        have h252 : zI (wrp10M (sI τ1 17 0) b (od * (w + 1))) 25 = 0 := t25
        have t52 : zI (wrp10M (sI τ1 17 0) b (od * (w + 1))) 5 = nI od := t5
        generalize hτ2 : wrp10M (sI τ1 17 0) b (od * (w + 1)) = τ2 at hwr tf2 hA2 hdM2 h14 h172 hAt h252 t52
        have hF0 : JF 0 inp (inp.length * (sz / (w + 1))) (zA τ2 3) (zA τ2 4) (zA τ2 5) (zA τ2 2) := by
          refine JF_keep hf5 (congrFun (tf2.2.1 3 (by decide)) 0) (congrFun (tf2.2.1 4 (by decide)) 0) (congrFun (tf2.2.1 5 (by decide)) 0) (fun c hc => ?_)
          rw [hA2, upd_at, if_neg (show ¬ c = b from fun q => hbi (q ▸ hc))]
        obtain ⟨τ3, hh, hJF, hoth, haft, hfr2⟩ := m_hang (n := n) (f := 0) (b := b) (k := od) (by decide) (by omega) hF0 (fun c hc => by have := (hinU c hc).1; omega) hndI hbi (by rw [hA2, upd_at, if_pos rfl])
        rw [nI_0] at hh
        have mf : zfr [0, 10, 11, 12, 13, 14, 15, 17, 21, 22, 23, 24, 25] [0, 1, 2, 3, 4, 5] [0] τ (m101 τ3) := zfr_t (zfr_t (zfr_w tf2 (by decide) (by decide) (by decide)) hfr2 (by decide) (by decide) (by decide)) (mfr τ3) (by decide) (by decide) (by decide)
        have i3 := fun k => hfr2.1 k (List.not_mem_nil)
        have hdM3 : dM nb sz (m101 τ3) = dPut (dC nb sz σ) b (zL σ 1) (od * (w + 1)) := by
          rw [hdM101, ← hdM2]
          unfold dM
          rw [hfr2.2.2.1 0 (List.not_mem_nil), hfr2.2.1 0 (by decide), i3 10, i3 11, i3 12, i3 13, i3 15]
        have hcl : ∀ c, (dC nb sz σ).2.1 c = true → (dPut (dC nb sz σ) b (zL σ 1) (od * (w + 1))).1 c = (dC nb sz σ).1 c := fun c hc => dPut_cell (fun q => by
          rw [q, hbf] at hc
          cases hc)
        have hNU := nu_desk (nb := nb) (sz := sz) (w := w) (od := od) (inp := inp) (b := b) (cell := (dC nb sz σ).1) (cl := (dPut (dC nb sz σ) b (zL σ 1) (od * (w + 1))).1) (desk := zL σ 1) hper hod (fun c hc => hcl c (hinU c hc).2) (fun k hk => by
          show (if b = b ∧ k < od * (w + 1) then zL σ 1 k else _) = _
          rw [if_pos ⟨rfl, hk⟩])
        have hus : ∀ c, (dPut (dC nb sz σ) b (zL σ 1) (od * (w + 1))).2.1 c = ((dC nb sz σ).2.1 c || decide (c ∈ [b])) := fun c => by
          show (decide (c = b) || (dC nb sz σ).2.1 c) = _
          rw [Bool.or_comm]
          congr 1
          exact decide_eq_decide.mpr (List.mem_singleton.symm)
        have hT : IST nb sz w (inp.length * (sz / (w + 1)) + od) (inp ++ [b]) (dPut (dC nb sz σ) b (zL σ 1) (od * (w + 1))).2.1 (dPut (dC nb sz σ) b (zL σ 1) (od * (w + 1))).1 := ist_of hper hsz hnb (by rw [List.length_append, Nat.add_mul]; simp only [List.length_cons, List.length_nil]; omega) (fun c hc => by
          rcases List.mem_append.mp hc with q | q
          · exact ⟨(hinU c q).1, dPut_used (hinU c q).2⟩
          · rw [List.mem_singleton.mp q]
            exact ⟨hbn, dPut_here⟩) (by rw [List.length_append]; simp only [List.length_cons, List.length_nil]; omega) (by rw [← hNU]; exact hndN)
        have hfo3 : ∀ x1, fX10_form_26 n τ x1 0 = m134 n (m101 τ3) x1 (zA τ 3 0) (zA τ 4 0) (zA τ 5 0) := fun x1 => by
          rw [hfo2 x1, zb_s hwr]
          dsimp only
          rw [t52, zb_s hh]
        have h173 : zI τ3 17 = 0 := (i3 17).trans h172
        refine ⟨σ1, 1, _, m101 τ3, b1, hop, hfo3, Or.inl ⟨rfl, inp.length * (sz / (w + 1)) + od, inp ++ [b], [b], (dPut (dC nb sz σ) b (zL σ 1) (od * (w + 1))).2.1, (dPut (dC nb sz σ) b (zL σ 1) (od * (w + 1))).1, ?_, ⟨Nat.zero_le _, s15, s16, ?_, Or.inl ⟨rfl, rfl, fun _ => ?_⟩⟩, hT, u2, hJF, hNU, hus, hcl, Or.inr ⟨b, rfl, rfl, hbf, hbn, rfl⟩, fun c hc => ⟨?_, ?_⟩, fun c hc hor => ?_, fun g hg => ?_, cf3, mf⟩⟩
        · refine fbr0 (SC_fr hS cf3 mf (by decide) (by decide) (by decide) (by decide)) h173 ⟨by rw [hdM3, hdC3], Or.inr ?_, ⟨(hk 25 (by decide)).trans b25, fun j b hj => (by cases hj)⟩, fun c hc => ?_, List.nodup_nil, fun b hb => (by cases hb), fun c => ?_, fun c _ => by rw [hdC3]⟩ ?_ ?_ ((hk 20 (by decide)).trans b20) ((hk 21 (by decide)).trans b21) ((hk 22 (by decide)).trans b22) ((hk 23 (by decide)).trans b23) ((hk 24 (by decide)).trans b24) ((hk 26 (by decide)).trans b26) ((i3 25).trans h252) hf1 ?_
          · show zI τ3 14 = zI τ3 13
            rw [i3 14, i3 13, h14]
          · show zA τ3 1 c = 0 ↔ _
            rw [hfr2.2.1 1 (by decide)]
            exact hAt c hc
          · rw [hdC3, decide_eq_false List.not_mem_nil, Bool.or_false]
          · rw [cf3.1 0 (by decide), ← b18]
            exact hk 18 (by decide)
          · rw [cf3.1 0 (by decide), cf3.2.1 1 (by decide), ← b19]
            exact hk 19 (by decide)
          · rw [mf.2.1 6 (by decide)]
            exact hf3
        · show (if zI τ3 17 ≤ 0 then zA τ3 5 0 else 0) = nI (inp.length * (sz / (w + 1)) + od - 0)
          rw [h173, if_pos (by decide)]
          exact hJF.2.2.1
        · show zA τ3 3 0 = nI (bkN sz w (inp ++ [b]) 0)
          rw [(hJF.2.1 (by simp)).1]
          unfold bkN
          rw [Nat.zero_div]
          cases inp with
          | nil => rfl
          | cons a t => rfl
        · rw [cf3.2.1 3 (by decide)]
        · rw [cf3.2.1 4 (by decide)]
        · have hci : ¬ c ∈ inp := hor.resolve_left (by simp)
          show zA τ3 2 c = _
          rw [haft c hci, hA2, upd_at, if_neg (show ¬ c = b from fun q => by
            rw [q, hbf] at hc
            cases hc)]
        · have hg0 : ¬ g = 0 := fun q => by
            obtain ⟨p, hp, h0⟩ := List.mem_map.mp hg
            have := (hf2 p hp).1
            have h1 : p.1 = g := h0
            omega
          obtain ⟨y1, y2, y3⟩ := hoth g hg0
          exact ⟨y1.trans (congrFun (tf2.2.1 3 (by decide)) g), y2.trans (congrFun (tf2.2.1 4 (by decide)) g), y3.trans (congrFun (tf2.2.1 5 (by decide)) g)⟩
