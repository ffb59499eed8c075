/-! ===== form: the new runs of one step ===== -/
def bkN (sz w : Nat) (ib : List Nat) (k : Nat) : Nat := ib.getD (k / (sz / (w + 1))) 0
def nuN (sz w : Nat) (ib : List Nat) (cl : Nat → Nat → Int64) (k : Nat) : Int64 := cl (bkN sz w ib k) (k % (sz / (w + 1)) * (w + 1) + w)
def blQ (qs : List zP) : List Nat := qs.flatMap (fun p => p.2.1)
/-- what was there before stays -/
def FK (us : Nat → Bool) (ps : List zP) (σb τb σ τ : zS) : Prop :=
  (∀ c, us c = true → zA σ 3 c = zA σb 3 c ∧ zA τ 2 c = zA τb 2 c ∧ zA σ 4 c = zA σb 4 c) ∧ (∀ g, (g = 0 ∨ g ∈ ps.map flP) → zA τ 3 g = zA τb 3 g ∧ zA τ 4 g = zA τb 4 g ∧ zA τ 5 g = zA τb 5 g) ∧
  zfr [2, 3, 4, 5, 6, 7, 15, 16, 20, 21, 22, 23, 24, 25, 26, 28] [0, 3, 4, 6, 7, 8, 9] [0, 2] σb σ ∧ zfr [10, 11, 12, 13, 14, 15, 17, 18, 19, 20, 21, 22, 23, 24, 25] [0, 1, 2, 3, 4, 5, 6, 10, 11, 12] [0, 2, 3] τb τ
/-- the new runs, and the files that are made -/
def FQ (sz w : Nat) (ps qs : List zP) (mfs : List Nat) (σ τ : zS) : Prop :=
  rwL hdP qs (zI σ 26) (zA σ 7) ∧
  (∀ p ∈ qs, ¬ p.2.1 = [] ∧ p.2.2 ≤ p.2.1.length * (sz / (w + 1)) ∧ (p.2.1.length - 1) * (sz / (w + 1)) < p.2.2 ∧ chC (zA σ 3) p.2.1 ∧ zA σ 4 (p.2.1.headD 0) = nI p.2.2 ∧ JF p.1 p.2.1 p.2.2 (zA τ 3) (zA τ 4) (zA τ 5) (zA τ 2)) ∧
  rwL (fun x : Nat => x) mfs (zI τ 25) (zA τ 12) ∧ (ps.map flP ++ mfs).Nodup ∧ (∀ f ∈ mfs, 1 ≤ f ∧ f < 208) ∧ (∀ f, f < 208 → (zA τ 6 f = 0 ↔ ¬ (f = 0 ∨ f ∈ ps.map flP ++ mfs)))
def FN (nb sz w : Nat) (ib : List Nat) (cl : Nat → Nat → Int64) (qs : List zP) (on : List Int64) (O : List Nat) (σ : zS) : Prop :=
  (qs.flatMap (fun p => nmR (sz / (w + 1)) w (dC nb sz σ).1 p.2.1 p.2.2) ++ on).Nodup ∧ ∀ v ∈ qs.flatMap (fun p => nmR (sz / (w + 1)) w (dC nb sz σ).1 p.2.1 p.2.2) ++ on, ∃ i ∈ O, v = nuN sz w ib cl i
/-- between two runs -/
def FBR (nb sz mm w kn : Nat) (tk ib : List Nat) (us : Nat → Bool) (cl : Nat → Nat → Int64) (P0 : Prop) (ps qs : List zP) (O : List Nat) (σb τb σ τ : zS) : Prop :=
  zI τ 17 = 0 ∧ SC nb sz mm w kn σ τ ∧ (∃ cl', (∀ b, us b = true → cl' b = cl b) ∧ OD nb sz tk (blQ qs) (blQ qs) us cl' P0 σ τ) ∧
  (zI σ 20 = 0 ∧ zI σ 21 = -1 ∧ zI σ 22 = -1 ∧ zI σ 23 = -1 ∧ zI σ 24 = 0 ∧ zI σ 18 = (if zI σ 0 = 0 then 0 else 1) ∧ zI σ 19 = smF (zI σ 0) kn w (zA σ 1)) ∧ FQ sz w ps qs (qs.map flP) σ τ ∧ FN nb sz w ib cl qs [] O σ ∧ FK us ps σb τb σ τ ∧ zI σ 7 = zI σb 7
/-- in a run -/
def FRN (z : Prop) (nb sz mm w kn : Nat) (tk ib : List Nat) (us : Nat → Bool) (cl : Nat → Nat → Int64) (P0 : Prop) (ps qs : List zP) (O : List Nat) (σb τb σ τ : zS) : Prop :=
  zI τ 17 = 0 ∧ SC nb sz mm w kn σ τ ∧ ∃ cl' mk op ct cb wp on, (∀ b, us b = true → cl' b = cl b) ∧ OD nb sz tk (blQ qs) (blQ qs ++ cb) us cl' P0 σ τ ∧ OR nb sz w us cl' (zI σ 0) (smF (zI σ 0) kn w (zA σ 1)) op ct cb wp mk on σ τ ∧ op < sz / (w + 1) ∧ ct = cb.length * (sz / (w + 1)) ∧ (zI τ 20 = if wp = none then 0 else 1) ∧ FQ sz w ps qs (qs.map flP ++ [mk]) σ τ ∧ FN nb sz w ib cl qs on O σ ∧ (z → ¬ on = []) ∧ FK us ps σb τb σ τ ∧ zI σ 7 = zI σb 7
/-- it failed -/
def FBD (nb sz : Nat) (tk : List Nat) (us : Nat → Bool) (cl : Nat → Nat → Int64) (P0 : Prop) (ps : List zP) (σb τb σ τ : zS) : Prop :=
  ((zI τ 17 = 1 ∧ zI σ 7 = 1) ∨ (zI τ 17 = 2 ∧ zI σ 7 = zI σb 7)) ∧ (∃ sb, OD nb sz tk [] sb us cl P0 σ τ) ∧ (∃ mfs, rwL (fun x : Nat => x) mfs (zI τ 25) (zA τ 12) ∧ (ps.map flP ++ mfs).Nodup ∧ (∀ f ∈ mfs, 1 ≤ f ∧ f < 208) ∧ (∀ f, f < 208 → (zA τ 6 f = 0 ↔ ¬ (f = 0 ∨ f ∈ ps.map flP ++ mfs)))) ∧ FK us ps σb τb σ τ
theorem FK_fr {us : Nat → Bool} {ps : List zP} {σb τb σ τ σ' τ' : zS} {I A L I' A' L' : List Nat} (h : FK us ps σb τb σ τ) (f : zfr I A L σ σ') (f' : zfr I' A' L' τ τ') (h3 : zA σ' 3 = zA σ 3) (h4 : zA σ' 4 = zA σ 4) (h2 : zA τ' 2 = zA τ 2) (g3 : zA τ' 3 = zA τ 3) (g4 : zA τ' 4 = zA τ 4) (g5 : zA τ' 5 = zA τ 5) (hI : ∀ k ∈ I, k ∈ [2, 3, 4, 5, 6, 7, 15, 16, 20, 21, 22, 23, 24, 25, 26, 28]) (hA : ∀ k ∈ A, k ∈ [0, 3, 4, 6, 7, 8, 9]) (hL : ∀ k ∈ L, k ∈ [0, 2]) (hI' : ∀ k ∈ I', k ∈ [10, 11, 12, 13, 14, 15, 17, 18, 19, 20, 21, 22, 23, 24, 25]) (hA' : ∀ k ∈ A', k ∈ [0, 1, 2, 3, 4, 5, 6, 10, 11, 12]) (hL' : ∀ k ∈ L', k ∈ [0, 2, 3]) : FK us ps σb τb σ' τ' := by
  refine ⟨?_, ?_, zfr_t h.2.2.1 f hI hA hL, zfr_t h.2.2.2 f' hI' hA' hL'⟩
  · rw [h3, h4, h2]; exact h.1
  · rw [g3, g4, g5]; exact h.2.1
/-- reading, and what lies in memory, change nothing of a run -/
theorem FRN_fr {z : Prop} {nb sz mm w kn : Nat} {tk ib : List Nat} {us : Nat → Bool} {cl : Nat → Nat → Int64} {P0 : Prop} {ps qs : List zP} {O : List Nat} {σb τb σ τ σ' τ' : zS} (h : FRN z nb sz mm w kn tk ib us cl P0 ps qs O σb τb σ τ) (f : zfr [2, 4, 5, 15, 16, 28] [8, 9] [] σ σ') (f' : zfr [10, 12, 13, 14, 21, 22, 23, 24] [10, 11] [] τ τ') (hO : ∀ pz sb cl', OD nb sz tk pz sb us cl' P0 σ τ → OD nb sz tk pz sb us cl' P0 σ' τ') : FRN z nb sz mm w kn tk ib us cl P0 ps qs O σb τb σ' τ' := by
  obtain ⟨h17, hS, cl', mk, op, ct, cb, wp, on, a1, a2, a3, a4, a5, a6, a7, a8, a9, a10, a11⟩ := h
  have hcell : (dC nb sz σ').1 = (dC nb sz σ).1 := by
    unfold dC
    rw [f.2.2.1 0 (by decide)]
  refine ⟨(f'.1 17 (by decide)).trans h17, SC_fr hS f f' (by decide) (by decide) (by decide) (by decide), cl', mk, op, ct, cb, wp, on, a1, hO _ _ _ a2, ?_, a4, a5, ?_, ?_, ?_, a9, ?_, (f.1 7 (by decide)).trans a11⟩
  · rw [f.1 0 (by decide), f.2.1 1 (by decide)]
    exact OR_fr a3 f f' (by decide) (by decide) (by decide) (by decide) (by decide) (by decide)
  · rw [f'.1 20 (by decide)]; exact a6
  · unfold FQ
    rw [f.1 26 (by decide), f.2.1 7 (by decide), f.2.1 3 (by decide), f.2.1 4 (by decide), f'.2.1 3 (by decide), f'.2.1 4 (by decide), f'.2.1 5 (by decide), f'.2.1 2 (by decide), f'.1 25 (by decide), f'.2.1 12 (by decide), f'.2.1 6 (by decide)]
    exact a7
  · unfold FN
    rw [hcell]
    exact a8
  · exact FK_fr a10 f f' (f.2.1 3 (by decide)) (f.2.1 4 (by decide)) (f'.2.1 2 (by decide)) (f'.2.1 3 (by decide)) (f'.2.1 4 (by decide)) (f'.2.1 5 (by decide)) (by decide) (by decide) (by decide) (by decide) (by decide) (by decide)
theorem FBR_fr {nb sz mm w kn : Nat} {tk ib : List Nat} {us : Nat → Bool} {cl : Nat → Nat → Int64} {P0 : Prop} {ps qs : List zP} {O : List Nat} {σb τb σ τ σ' τ' : zS} (h : FBR nb sz mm w kn tk ib us cl P0 ps qs O σb τb σ τ) (f : zfr [2, 4, 5, 15, 16, 28] [8, 9] [] σ σ') (f' : zfr [10, 12, 13, 14, 21, 22, 23, 24] [10, 11] [] τ τ') (hO : ∀ pz sb cl', OD nb sz tk pz sb us cl' P0 σ τ → OD nb sz tk pz sb us cl' P0 σ' τ') : FBR nb sz mm w kn tk ib us cl P0 ps qs O σb τb σ' τ' := by
  obtain ⟨h17, hS, ⟨cl', a1, a2⟩, a3, a7, a8, a10, a11⟩ := h
  have hcell : (dC nb sz σ').1 = (dC nb sz σ).1 := by
    unfold dC
    rw [f.2.2.1 0 (by decide)]
  refine ⟨(f'.1 17 (by decide)).trans h17, SC_fr hS f f' (by decide) (by decide) (by decide) (by decide), ⟨cl', a1, hO _ _ _ a2⟩, ?_, ?_, ?_, ?_, (f.1 7 (by decide)).trans a11⟩
  · rw [f.1 20 (by decide), f.1 21 (by decide), f.1 22 (by decide), f.1 23 (by decide), f.1 24 (by decide), f.1 18 (by decide), f.1 19 (by decide), f.1 0 (by decide), f.2.1 1 (by decide)]
    exact a3
  · unfold FQ
    rw [f.1 26 (by decide), f.2.1 7 (by decide), f.2.1 3 (by decide), f.2.1 4 (by decide), f'.2.1 3 (by decide), f'.2.1 4 (by decide), f'.2.1 5 (by decide), f'.2.1 2 (by decide), f'.1 25 (by decide), f'.2.1 12 (by decide), f'.2.1 6 (by decide)]
    exact a7
  · unfold FN
    rw [hcell]
    exact a8
  · exact FK_fr a10 f f' (f.2.1 3 (by decide)) (f.2.1 4 (by decide)) (f'.2.1 2 (by decide)) (f'.2.1 3 (by decide)) (f'.2.1 4 (by decide)) (f'.2.1 5 (by decide)) (by decide) (by decide) (by decide) (by decide) (by decide) (by decide)
theorem blQ_len {sz w : Nat} {qs : List zP} (h : ∀ p ∈ qs, ¬ p.2.1 = []) : qs.length ≤ (blQ qs).length := by
  unfold blQ
  induction qs with
  | nil => exact Nat.le_refl _
  | cons p t ih =>
    have h1 := ih (fun q hq => h q (List.mem_cons_of_mem _ hq))
    have h2 := h p List.mem_cons_self
    rw [List.flatMap_cons, List.length_append, List.length_cons]
    have : 1 ≤ p.2.1.length := List.length_pos_iff.mpr h2
    omega
/-- a run begins: the reference makes its file -/
theorem j_nrun {nb sz mm w kn n : Nat} {tk ib : List Nat} {us : Nat → Bool} {cl : Nat → Nat → Int64} {P0 : Prop} {ps qs : List zP} {O : List Nat} {σb τb σ τ : zS} (hn : 300 < n) (hnb : nb ≤ 200) (hs5 : 5 ≤ sz) (hps : ps.length ≤ 200) (hcnt : ps.length + qs.length ≤ 203) (h : FBR nb sz mm w kn tk ib us cl P0 ps qs O σb τb σ τ) : ∃ τ', fX10_nextRun_0 n τ = some τ' ∧ FRN False nb sz mm w kn tk ib us cl P0 ps qs O σb τb σ τ' ∧ zfr [18, 19, 20, 25] [3, 4, 5, 6, 12] [] τ τ' := by
  obtain ⟨h17, hS, ⟨cl', a1, a2⟩, a3, a7, a8, a10, a11⟩ := h
  obtain ⟨b1, b2, b3, b4, b5, b6⟩ := a7
  obtain ⟨mk, m1, m2, m3, m4⟩ := m_beginRun (n := n) (fl := ps.map flP ++ qs.map flP) (τ := τ) hn (by rw [List.length_append, List.length_map, List.length_map]; omega) b6
  let τ' := sI (sA (nfM τ mk) 12 (upd (zA τ 12) (qs.map flP).length (nI mk))) 25 (nI ((qs.map flP).length + 1))
  have nf : zfr [18, 19, 20] [3, 4, 5, 6] [] τ (nfM τ mk) := zfr_I (by decide) (zfr_I (by decide) (zfr_I (by decide) (zfr_A (by decide) (zfr_A (by decide) (zfr_A (by decide) (zfr_A (by decide) zfr_r))))))
  have nf2 : zfr [18, 19, 20, 25] [3, 4, 5, 6, 12] [] τ τ' := zfr_I (by decide) (zfr_A (by decide) (zfr_w nf (by decide) (by decide) (by decide)))
  have n3 : ∀ g, ¬ g = mk → zA τ' 3 g = zA τ 3 g ∧ zA τ' 4 g = zA τ 4 g ∧ zA τ' 5 g = zA τ 5 g := fun g hg => by
    refine ⟨?_, ?_, ?_⟩
    · show upd (zA τ 3) mk _ g = _
      rw [upd_at, if_neg hg]
    · show upd (zA τ 4) mk _ g = _
      rw [upd_at, if_neg hg]
    · show upd (zA τ 5) mk _ g = _
      rw [upd_at, if_neg hg]
  refine ⟨τ', ?_, ⟨h17, SC_fr hS (zfr_r (I := []) (A := []) (L := [])) nf2 (by decide) (by decide) (by decide) (by decide), cl', mk, 0, 0, [], none, [], a1, ?_, ?_, p_per (w := w) (sz := sz) hs5 hS.2.1.2.1, (Nat.zero_mul _).symm, rfl, ⟨b1, fun p hp => ?_, ⟨?_, fun j x hj => ?_⟩, ?_, fun f hf => ?_, fun f hf => ?_⟩, a8, fun q => absurd q id, ⟨a10.1, fun g hg => ?_, a10.2.2.1, zfr_t a10.2.2.2 nf2 (by decide) (by decide) (by decide)⟩, a11⟩, nf2⟩
  · unfold fX10_nextRun_0
    rw [zb_s m4]
    show zg (zin (zI τ 25) 208) (some (sI (sA (nfM τ mk) 12 (upd (zA τ 12) (zI τ 25).toNatClampNeg (zI (nfM τ mk) 18))) 25 (zI τ 25 + 1))) = _
    rw [b3.1, zg_in (by rw [List.length_map]; omega) (by decide), nI_clamp (by rw [List.length_map]; omega), nI_1]
    rfl
  · rw [List.append_nil]
    exact a2
  · refine ⟨⟨a3.1, rfl, Nat.zero_le _⟩, fun k hk => absurd hk (by omega), fun _ => a3.2.1, fun p hp => absurd hp (by simp), ⟨by rw [if_pos rfl]; exact a3.2.2.1, by rw [if_pos rfl]; exact a3.2.2.2.1, trivial, a3.2.2.2.2.1⟩, ⟨rfl, m1, m2, ⟨fun _ => ⟨?_, ?_⟩, fun q => absurd rfl q, ?_, trivial⟩⟩, rfl, a3.2.2.2.2.2.1, a3.2.2.2.2.2.2, fun _ => rfl⟩
    · show upd (zA τ 3) mk (-1) mk = -1
      rw [upd_at, if_pos rfl]
    · show upd (zA τ 4) mk (-1) mk = -1
      rw [upd_at, if_pos rfl]
    · show upd (zA τ 5) mk 0 mk = nI 0
      rw [upd_at, if_pos rfl]
      rfl
  · obtain ⟨c1, c2, c3, c4, c5, c6⟩ := b2 p hp
    have hne : ¬ p.1 = mk := fun q => m3 (List.mem_append_right _ (by rw [← q]; exact List.mem_map.mpr ⟨p, hp, rfl⟩))
    obtain ⟨y1, y2, y3⟩ := n3 p.1 hne
    exact ⟨c1, c2, c3, c4, c5, JF_keep c6 y1 y2 y3 (fun b _ => rfl)⟩
  · show nI ((qs.map flP).length + 1) = _
    rw [List.length_append]
    rfl
  · show upd (zA τ 12) (qs.map flP).length (nI mk) j = _
    rw [upd_at]
    rcases Nat.lt_or_ge j (qs.map flP).length with q | q
    · rw [List.getElem?_append_left q] at hj
      rw [if_neg (by omega)]
      exact b3.2 j x hj
    · have h3 := (List.getElem?_eq_some_iff.mp hj).1
      rw [List.length_append] at h3
      have h4 : j = (qs.map flP).length := by
        simp only [List.length_cons, List.length_nil] at h3
        omega
      rw [h4, List.getElem?_append_right (Nat.le_refl _), Nat.sub_self] at hj
      rw [if_pos h4]
      cases hj
      rfl
  · rw [← List.append_assoc]
    exact List.nodup_append.mpr ⟨b4, by simp, fun a ha b hb => by rw [List.mem_singleton.mp hb]; exact fun q => m3 (q ▸ ha)⟩
  · rcases List.mem_append.mp hf with q | q
    · exact b5 f q
    · rw [List.mem_singleton.mp q]; exact ⟨m1, m2⟩
  · show upd (zA τ 6) mk 1 f = 0 ↔ _
    rw [upd_at, ← List.append_assoc]
    by_cases q : f = mk
    · rw [if_pos q]
      exact ⟨fun z => absurd z (by decide), fun z => absurd (Or.inr (List.mem_append_right _ (by rw [q]; simp))) z⟩
    · rw [if_neg q, b6 f hf]
      constructor
      · intro z y
        rcases y with y | y
        · exact z (Or.inl y)
        · rcases List.mem_append.mp y with y | y
          · exact z (Or.inr y)
          · exact q (List.mem_singleton.mp y)
      · exact fun z y => z (y.elim Or.inl (fun y => Or.inr (List.mem_append_left _ y)))
  · have hne : ¬ g = mk := fun q => by
      rcases hg with z | z
      · omega
      · exact m3 (List.mem_append_left _ (q ▸ z))
    obtain ⟨y1, y2, y3⟩ := n3 g hne
    obtain ⟨x1, x2, x3⟩ := a10.2.1 g hg
    exact ⟨y1.trans x1, y2.trans x2, y3.trans x3⟩
