theorem nm_keep {nb sz w : Nat} {tk sb : List Nat} {us : Nat → Bool} {cl' : Nat → Nat → Int64} {P0 : Prop} {qs : List zP} {σ τ σ' τ' : zS} {sb' : List Nat} (hper : 0 < sz / (w + 1)) (h : OD nb sz tk (blQ qs) sb us cl' P0 σ τ) (h' : OD nb sz tk (blQ qs) sb' us cl' P0 σ' τ') (hq : ∀ p ∈ qs, p.2.2 ≤ p.2.1.length * (sz / (w + 1))) : qs.flatMap (fun p => nmR (sz / (w + 1)) w (dC nb sz σ').1 p.2.1 p.2.2) = qs.flatMap (fun p => nmR (sz / (w + 1)) w (dC nb sz σ).1 p.2.1 p.2.2) := by
  refine flat_congr (fun p hp => nmR_congr (fun b hb => ?_) hper (hq p hp))
  have hm : b ∈ blQ qs := List.mem_flatMap.mpr ⟨p, hp, hb⟩
  rw [h'.2.2.2.2.2.2.2 b (Or.inr hm), h.2.2.2.2.2.2.2 b (Or.inr hm)]
theorem FK_x {nb sz mk : Nat} {tk pz sb cb : List Nat} {us : Nat → Bool} {cl' : Nat → Nat → Int64} {P0 : Prop} {ps : List zP} {σb τb σ τ σ' τ' : zS} {I A L I' A' L' : List Nat} (h : FK us ps σb τb σ τ) (hcb : ∀ b ∈ cb, us b = false) (hx : OX cb mk σ τ σ' τ') (h4 : ∀ c, us c = true → zA σ' 4 c = zA σ 4 c) (hmk : ¬ mk = 0 ∧ ¬ mk ∈ ps.map flP) (f : zfr I A L σ σ') (f' : zfr I' A' L' τ τ') (hI : ∀ k ∈ I, k ∈ [2, 3, 4, 5, 6, 7, 15, 16, 20, 21, 22, 23, 24, 25, 26, 28]) (hA : ∀ k ∈ A, k ∈ [0, 3, 4, 6, 7, 8, 9]) (hL : ∀ k ∈ L, k ∈ [0, 2]) (hI' : ∀ k ∈ I', k ∈ [10, 11, 12, 13, 14, 15, 17, 18, 19, 20, 21, 22, 23, 24, 25]) (hA' : ∀ k ∈ A', k ∈ [0, 1, 2, 3, 4, 5, 6, 10, 11, 12]) (hL' : ∀ k ∈ L', k ∈ [0, 2, 3]) : FK us ps σb τb σ' τ' := by
  refine ⟨fun c hc => ?_, fun g hg => ?_, zfr_t h.2.2.1 f hI hA hL, zfr_t h.2.2.2 f' hI' hA' hL'⟩
  · obtain ⟨a1, a2, a3⟩ := h.1 c hc
    have hn : ¬ c ∈ cb := fun q => by rw [hcb c q] at hc; cases hc
    obtain ⟨b1, b2⟩ := hx.1 c hn
    exact ⟨b1.trans a1, b2.trans a2, (h4 c hc).trans a3⟩
  · obtain ⟨a1, a2, a3⟩ := h.2.1 g hg
    have hn : ¬ g = mk := fun q => by
      rcases hg with z | z
      · exact hmk.1 (q ▸ z)
      · exact hmk.2 (q ▸ z)
    obtain ⟨b1, b2, b3⟩ := hx.2 g hn
    exact ⟨b1.trans a1, b2.trans a2, b3.trans a3⟩
theorem OD_weak {nb sz : Nat} {tk pz sb : List Nat} {us : Nat → Bool} {cl cl' : Nat → Nat → Int64} {P0 : Prop} {σ τ : zS} (h : OD nb sz tk pz sb us cl' P0 σ τ) (hc : ∀ b, us b = true → cl' b = cl b) : OD nb sz tk [] sb us cl P0 σ τ :=
  ⟨h.1, h.2.1, h.2.2.1, h.2.2.2.1, h.2.2.2.2.1, h.2.2.2.2.2.1, h.2.2.2.2.2.2.1, fun b hb => by
    rcases hb with hb | hb
    · rw [h.2.2.2.2.2.2.2 b (Or.inl hb), hc b hb]
    · cases hb⟩
theorem j_fout {z : Prop} {n nb sz mm w kn b i k : Nat} {tk ib : List Nat} {us : Nat → Bool} {cl : Nat → Nat → Int64} {P0 : Prop} {ps qs : List zP} {O : List Nat} {σb τb σ τ : zS} (hn : 300 < n) (hnb : nb ≤ 200) (hs5 : 5 ≤ sz) (hsz : sz ≤ 64) (h : FRN z nb sz mm w kn tk ib us cl P0 ps qs O σb τb σ τ) (hb : b < nb) (hi : i < sz / (w + 1)) (hub : us b = true) (hk : b = bkN sz w ib k ∧ i = k % (sz / (w + 1))) (hkO : ∀ x ∈ O, ¬ nuN sz w ib cl x = nuN sz w ib cl k) :
    ∃ r σ' τ', fX7_goOut_0 n nb sz mm σ (nI (b * sz + i * (w + 1))) = some (r, σ') ∧ fX10_out_0 n τ (nI (64 * b + i * (w + 1))) = some τ' ∧ ((r = 1 ∧ FRN True nb sz mm w kn tk ib us cl P0 ps qs (O ++ [k]) σb τb σ' τ') ∨ (r = 0 ∧ FBD nb sz tk us cl P0 ps σb τb σ' τ')) ∧ zfr [3, 4, 5, 6, 7, 20, 21, 22, 23, 24, 25] [0, 3, 6] [0, 2] σ σ' ∧ zfr [11, 12, 13, 14, 15, 17, 19, 20] [0, 1, 2, 3, 4, 5] [0, 2, 3] τ τ' := by
  obtain ⟨h17, hS, cl', mk, op, ct, cb, wp, on, a1, a2, a3, a4, a5, a6, a7, a8, a9, a10, a11⟩ := h
  have hper := p_per (w := w) hs5 hS.2.1.2.1
  obtain ⟨r, σ', τ', o1, o2, hor⟩ := o_out (n := n) (pre := blQ qs) hn hnb hs5 hsz hS a2 a3 h17 a4 a5 a6 rfl rfl hb hi hub
  obtain ⟨q1, q2, q3, q4, q5, q6⟩ := a7
  have hmkn : ¬ mk = 0 ∧ ¬ mk ∈ ps.map flP ∧ ¬ mk ∈ qs.map flP := by
    refine ⟨by have := (q5 mk (List.mem_append_right _ (by simp))).1; omega, fun x => ?_, fun x => ?_⟩
    · exact (List.nodup_append.mp q4).2.2 mk x mk (List.mem_append_right _ (by simp)) rfl
    · exact (List.nodup_append.mp (List.nodup_append.mp q4).2.1).2.2 mk x mk (by simp) rfl
  refine ⟨r, σ', τ', o1, o2, ?_⟩
  rcases hor with ⟨rfl, on', wp', hon', hne', ⟨k1, op', ct', cb', k2, k3, k4, k5, k6, k7, k8, k9⟩, kf⟩ | ⟨rfl, hbad⟩
  · have hS' : SC nb sz mm w kn σ' τ' := SC_fr hS k8 k9 (by decide) (by decide) (by decide) (by decide)
    have hcbu : ∀ x ∈ cb', us x = false := fun x hx => (k5.2.2.2.2.2.1 x (List.mem_append_right _ hx)).2
    have hqx : ∀ p ∈ qs, ∀ x ∈ p.2.1, ¬ x ∈ cb' := fun p hp x hx y => (List.nodup_append.mp k5.2.2.2.2.1).2.2 x (List.mem_flatMap.mpr ⟨p, hp, hx⟩) x y rfl
    refine ⟨Or.inl ⟨rfl, k1, hS', cl', mk, op', ct', cb', wp', on', a1, k5, ?_, k3, k4, kf, ⟨?_, fun p hp => ?_, ?_, q4, q5, ?_⟩, ?_, fun _ => hne', ?_, (k8.1 7 (by decide)).trans a11⟩, zfr_w k8 (by decide) (by decide) (by decide), k9⟩
    · rw [k8.1 0 (by decide), k8.2.1 1 (by decide)]
      exact k6
    · rw [k8.1 26 (by decide), k8.2.1 7 (by decide)]
      exact q1
    · obtain ⟨c1, c2, c3, c4, c5, c6⟩ := q2 p hp
      have hne : ¬ p.1 = mk := fun q => hmkn.2.2 (by rw [← q]; exact List.mem_map.mpr ⟨p, hp, rfl⟩)
      obtain ⟨y1, y2, y3⟩ := k7.2 p.1 hne
      exact ⟨c1, c2, c3, chC_congr (fun x hx => (k7.1 x (hqx p hp x hx)).1) c4, by rw [k8.2.1 4 (by decide)]; exact c5, JF_keep c6 y1 y2 y3 (fun x hx => (k7.1 x (hqx p hp x hx)).2)⟩
    · rw [k9.1 25 (by decide), k9.2.1 12 (by decide)]
      exact q3
    · rw [k9.2.1 6 (by decide)]
      exact q6
    · have hkeep := nm_keep hper a2 k5 (fun p hp => (q2 p hp).2.1)
      have hnum : recC cl' w b i w = nuN sz w ib cl k := by
        unfold recC nuN
        rw [a1 b hub, hk.1, hk.2]
      unfold FN
      rw [hkeep]
      rcases hon' with e | e
      · rw [e]
        exact ⟨a8.1, fun v hv => by
          obtain ⟨x, hx, hx2⟩ := a8.2 v hv
          exact ⟨x, List.mem_append_left _ hx, hx2⟩⟩
      · rw [e, ← List.append_assoc, hnum]
        constructor
        · refine List.nodup_append.mpr ⟨a8.1, by simp, fun x hx y hy => ?_⟩
          rw [List.mem_singleton.mp hy]
          intro q
          obtain ⟨j, hj, hj2⟩ := a8.2 x hx
          exact hkO j hj (by rw [← hj2, q])
        · intro v hv
          rcases List.mem_append.mp hv with y | y
          · obtain ⟨x, hx, hx2⟩ := a8.2 v y
            exact ⟨x, List.mem_append_left _ hx, hx2⟩
          · exact ⟨k, List.mem_append_right _ (by simp), List.mem_singleton.mp y⟩
    · exact FK_x (nb := nb) (sz := sz) (tk := tk) (pz := []) (sb := []) (cl' := cl') (P0 := P0) a10 hcbu k7 (fun c _ => congrFun (k8.2.1 4 (by decide)) c) ⟨hmkn.1, hmkn.2.1⟩ k8 k9 (by decide) (by decide) (by decide) (by decide) (by decide) (by decide)
  · obtain ⟨e1, e2, e3, e4⟩ := hbad
    refine ⟨Or.inr ⟨rfl, by rw [a11] at e1; exact e1, ⟨_, OD_weak e2 a1⟩, ⟨qs.map flP ++ [mk], ?_, q4, q5, ?_⟩, ?_⟩, zfr_w e3 (by decide) (by decide) (by decide), zfr_w e4 (by decide) (by decide) (by decide)⟩
    · rw [e4.1 25 (by decide), e4.2.1 12 (by decide)]
      exact q3
    · rw [e4.2.1 6 (by decide)]
      exact q6
    · exact FK_fr a10 e3 e4 (e3.2.1 3 (by decide)) (e3.2.1 4 (by decide)) (e4.2.1 2 (by decide)) (e4.2.1 3 (by decide)) (e4.2.1 4 (by decide)) (e4.2.1 5 (by decide)) (by decide) (by decide) (by decide) (by decide) (by decide) (by decide)
theorem blQ_snoc {qs : List zP} {p : zP} : blQ (qs ++ [p]) = blQ qs ++ p.2.1 := by
  unfold blQ
  rw [List.flatMap_append, List.flatMap_cons, List.flatMap_nil, List.append_nil]
theorem j_fend {n nb sz mm w kn : Nat} {tk ib : List Nat} {us : Nat → Bool} {cl : Nat → Nat → Int64} {P0 : Prop} {ps qs : List zP} {O : List Nat} {σb τb σ τ : zS} (hn : 300 < n) (hnb : nb ≤ 200) (hs5 : 5 ≤ sz) (hsz : sz ≤ 64) (h : FRN True nb sz mm w kn tk ib us cl P0 ps qs O σb τb σ τ) (hub : ∃ b, b < nb ∧ us b = true) :
    ∃ r σ' τ', fX7_endRun_0 n nb sz mm σ = some (r, σ') ∧ fX10_endRun_0 n τ = some τ' ∧ ((r = 1 ∧ ∃ p, FBR nb sz mm w kn tk ib us cl P0 ps (qs ++ [p]) O σb τb σ' τ') ∨ (r = 0 ∧ FBD nb sz tk us cl P0 ps σb τb σ' τ')) ∧ zfr [3, 4, 5, 6, 7, 20, 21, 22, 23, 24, 25, 26] [0, 3, 4, 6, 7] [0, 2] σ σ' ∧ zfr [11, 12, 13, 14, 15, 17, 19, 20] [0, 1, 2, 3, 4, 5] [0, 2, 3] τ τ' := by
  obtain ⟨h17, hS, cl', mk, op, ct, cb, wp, on, a1, a2, a3, a4, a5, a6, a7, a8, a9, a10, a11⟩ := h
  have hper := p_per (w := w) hs5 hS.2.1.2.1
  obtain ⟨q1, q2, q3, q4, q5, q6⟩ := a7
  have hnr : qs.length < nb := by
    obtain ⟨b, hb1, hb2⟩ := hub
    have h1 := blQ_len (sz := sz) (w := w) (qs := qs) (fun p hp => (q2 p hp).1)
    have hbn : ¬ b ∈ blQ qs ++ cb := fun q => by
      have := (a2.2.2.2.2.2.1 b q).2
      rw [this] at hb2
      cases hb2
    have h2 := nd_le nb (b :: (blQ qs ++ cb)) (List.nodup_cons.mpr ⟨hbn, a2.2.2.2.2.1⟩) (fun x hx => by
      rcases List.mem_cons.mp hx with e | e
      · rw [e]; exact hb1
      · exact (a2.2.2.2.2.2.1 x e).1)
    rw [List.length_cons, List.length_append] at h2
    omega
  obtain ⟨r, σ', τ', o1, o2, hor⟩ := o_end (n := n) (pre := blQ qs) (nr := qs.length) hn hnb hs5 hsz hS a2 a3 h17 a4 a5 a6 q1.1 hnr
  have hmkn : ¬ mk = 0 ∧ ¬ mk ∈ ps.map flP ∧ ¬ mk ∈ qs.map flP := by
    refine ⟨by have := (q5 mk (List.mem_append_right _ (by simp))).1; omega, fun x => ?_, fun x => ?_⟩
    · exact (List.nodup_append.mp q4).2.2 mk x mk (List.mem_append_right _ (by simp)) rfl
    · exact (List.nodup_append.mp (List.nodup_append.mp q4).2.1).2.2 mk x mk (by simp) rfl
  refine ⟨r, σ', τ', o1, o2, ?_⟩
  rcases hor with ⟨rfl, k17, cb5, ct5, k0, k1, k2, k3, k4, k5, k6, k7, k8, -, k9, k10, k11⟩ | ⟨rfl, e1, cb5, e0, e2, e3, e4, e5⟩
  · have hcbne : ¬ cb5 = [] := fun q => by
      rw [q] at k5 k4
      have : ct5 = 0 := by simpa using k5
      rw [this] at k4
      exact a9 trivial k4
    obtain ⟨k9a, k9b, k9c⟩ := k9 hcbne
    have hS' : SC nb sz mm w kn σ' τ' := SC_fr hS k10 k11 (by decide) (by decide) (by decide) (by decide)
    have hcbu : ∀ x ∈ cb5, us x = false := fun x hx => (k1.2.2.2.2.2.1 x (List.mem_append_right _ hx)).2
    have hqx : ∀ p ∈ qs, ∀ x ∈ p.2.1, ¬ x ∈ cb5 := fun p hp x hx y => (List.nodup_append.mp k1.2.2.2.2.1).2.2 x (List.mem_flatMap.mpr ⟨p, hp, hx⟩) x y rfl
    have hhm : cb5.headD 0 ∈ cb5 := by
      cases h : cb5 with
      | nil => exact absurd h hcbne
      | cons a t => exact List.mem_cons_self
    refine ⟨Or.inl ⟨rfl, (mk, cb5, ct5), k17, hS', ⟨(dC nb sz σ').1, fun b hb => ?_, ?_⟩, ?_, ⟨⟨?_, fun j x hj => ?_⟩, fun p hp => ?_, ?_, ?_, ?_, ?_⟩, ?_, ?_, (k10.1 7 (by decide)).trans a11⟩, zfr_w k10 (by decide) (by decide) (by decide), k11⟩
    · rw [k1.2.2.2.2.2.2.2 b (Or.inl hb), a1 b hb]
    · rw [blQ_snoc]
      exact ⟨k1.1, k1.2.1, k1.2.2.1, k1.2.2.2.1, k1.2.2.2.2.1, k1.2.2.2.2.2.1, k1.2.2.2.2.2.2.1, fun b _ => rfl⟩
    · refine ⟨k8.1, k8.2.1, k8.2.2.1, k8.2.2.2.1, k8.2.2.2.2.1, ?_, ?_⟩
      · rw [k10.1 18 (by decide), k10.1 0 (by decide)]
        exact a3.2.2.2.2.2.2.2.1
      · rw [k10.1 19 (by decide), k10.1 0 (by decide), k10.2.1 1 (by decide)]
        exact a3.2.2.2.2.2.2.2.2.1
    · rw [k9a, List.length_append]
      rfl
    · rw [k9b, upd_at]
      rcases Nat.lt_or_ge j qs.length with q | q
      · rw [List.getElem?_append_left q] at hj
        rw [if_neg (by omega)]
        exact q1.2 j x hj
      · have h3 := (List.getElem?_eq_some_iff.mp hj).1
        rw [List.length_append] at h3
        have h4 : j = qs.length := by
          simp only [List.length_cons, List.length_nil] at h3
          omega
        rw [h4, List.getElem?_append_right (Nat.le_refl _), Nat.sub_self] at hj
        rw [if_pos h4]
        cases hj
        rfl
    · rcases List.mem_append.mp hp with hp | hp
      · obtain ⟨c1, c2, c3, c4, c5, c6⟩ := q2 p hp
        have hne : ¬ p.1 = mk := fun q => hmkn.2.2 (by rw [← q]; exact List.mem_map.mpr ⟨p, hp, rfl⟩)
        obtain ⟨y1, y2, y3⟩ := k7.2 p.1 hne
        have hph : p.2.1.headD 0 ∈ p.2.1 := by
          cases h : p.2.1 with
          | nil => exact absurd h c1
          | cons a t => exact List.mem_cons_self
        refine ⟨c1, c2, c3, chC_congr (fun x hx => (k7.1 x (hqx p hp x hx)).1) c4, ?_, JF_keep c6 y1 y2 y3 (fun x hx => (k7.1 x (hqx p hp x hx)).2)⟩
        rw [k9c, upd_at, if_neg (show ¬ p.2.1.headD 0 = cb5.headD 0 from fun q => hqx p hp _ hph (by rw [q]; exact hhm))]
        exact c5
      · rw [List.mem_singleton.mp hp]
        refine ⟨hcbne, k5, k6 hcbne, k3, ?_, k2⟩
        rw [k9c, upd_at, if_pos rfl]
    · rw [k11.1 25 (by decide), k11.2.1 12 (by decide), List.map_append]
      exact q3
    · rw [List.map_append]
      exact q4
    · rw [List.map_append]
      exact q5
    · rw [k11.2.1 6 (by decide), List.map_append]
      exact q6
    · have hkeep := nm_keep hper a2 k1 (fun p hp => (q2 p hp).2.1)
      unfold FN
      rw [List.flatMap_append, List.flatMap_cons, List.flatMap_nil, List.append_nil, List.append_nil, hkeep, ← k4]
      exact a8
    · refine FK_x (nb := nb) (sz := sz) (tk := tk) (pz := []) (sb := []) (cl' := cl') (P0 := P0) a10 hcbu k7 (fun c hc => ?_) ⟨hmkn.1, hmkn.2.1⟩ k10 k11 (by decide) (by decide) (by decide) (by decide) (by decide) (by decide)
      rw [k9c, upd_at, if_neg (show ¬ c = cb5.headD 0 from fun q => by
        have := hcbu _ hhm
        rw [← q, hc] at this
        cases this)]
  · have hcbu : ∀ x ∈ cb5, us x = false := fun x hx => (e2.2.2.2.2.2.1 x (List.mem_append_right _ hx)).2
    refine ⟨Or.inr ⟨rfl, by rw [a11] at e1; exact e1, ⟨_, OD_weak e2 a1⟩, ⟨qs.map flP ++ [mk], ?_, q4, q5, ?_⟩, ?_⟩, zfr_w e4 (by decide) (by decide) (by decide), zfr_w e5 (by decide) (by decide) (by decide)⟩
    · rw [e5.1 25 (by decide), e5.2.1 12 (by decide)]
      exact q3
    · rw [e5.2.1 6 (by decide)]
      exact q6
    · exact FK_x (nb := nb) (sz := sz) (tk := tk) (pz := []) (sb := []) (cl' := cl') (P0 := P0) a10 hcbu e3 (fun c _ => congrFun (e4.2.1 4 (by decide)) c) ⟨hmkn.1, hmkn.2.1⟩ e4 e5 (by decide) (by decide) (by decide) (by decide) (by decide) (by decide)
/-! the input -/
def INP (sz w N k : Nat) (ib : List Nat) (σ τ : zS) : Prop :=
  k ≤ N ∧ zI σ 15 = nI k ∧ zI σ 16 = nI (N - k) ∧ zI τ 23 = nI (N - k) ∧ ((k = 0 ∧ zI τ 22 = 0 ∧ (0 < N → zI τ 21 = nI (bkN sz w ib 0))) ∨ (0 < k ∧ zI τ 21 = nI (bkN sz w ib (k - 1)) ∧ zI τ 22 = nI ((k - 1) % (sz / (w + 1)) + 1)))
def IST (nb sz w N : Nat) (ib : List Nat) (us : Nat → Bool) (cl : Nat → Nat → Int64) : Prop :=
  (∀ k, k < N → k / (sz / (w + 1)) < ib.length) ∧ (∀ b ∈ ib, b < nb ∧ us b = true) ∧ ib.length ≤ nb ∧ N ≤ 12800 ∧ (∀ i j, i < N → j < N → nuN sz w ib cl i = nuN sz w ib cl j → i = j)
theorem bk_at {nb sz w N k : Nat} {ib : List Nat} {us : Nat → Bool} {cl : Nat → Nat → Int64} (h : IST nb sz w N ib us cl) (hk : k < N) : ib[k / (sz / (w + 1))]? = some (bkN sz w ib k) ∧ bkN sz w ib k < nb ∧ us (bkN sz w ib k) = true := by
  have hlt := h.1 k hk
  have e : ib[k / (sz / (w + 1))]? = some (bkN sz w ib k) := by
    unfold bkN
    rw [List.getD_eq_getElem?_getD, List.getElem?_eq_getElem hlt]
    rfl
  exact ⟨e, h.2.1 _ (List.mem_of_getElem? e)⟩
theorem j_next {n nb sz mm w kn N k : Nat} {tk ib : List Nat} {us : Nat → Bool} {cl : Nat → Nat → Int64} {P0 : Prop} {σ τ : zS} (hn : 300 < n) (hnb : nb ≤ 200) (hs5 : 5 ≤ sz) (hsz : sz ≤ 64) (hS : SC nb sz mm w kn σ τ) (hT : IST nb sz w N ib us cl) (hI : INP sz w N k ib σ τ) (hk : k < N) (h17 : zI τ 17 = 0) (hrow : rwL (fun x : Nat => x) ib (zI σ 17) (zA σ 5)) (hch : chC (zA τ 2) ib) :
    ∃ σ' τ', fX2_next_0 n nb sz mm σ = some (nI (bkN sz w ib k * sz + k % (sz / (w + 1)) * (w + 1)), σ') ∧ fX10_nextRecord_0 n τ = some (nI (64 * bkN sz w ib k + k % (sz / (w + 1)) * (w + 1)), τ') ∧ INP sz w N (k + 1) ib σ' τ' ∧ zfr [2, 4, 5, 15, 16] [] [] σ σ' ∧ zfr [10, 12, 13, 14, 21, 22, 23] [] [] τ τ' ∧ (∀ pz sb us' cl', OD nb sz tk pz sb us' cl' P0 σ τ → OD nb sz tk pz sb us' cl' P0 σ' τ') := by
  have hper := p_per (w := w) hs5 hS.2.1.2.1
  have hdv := Nat.div_le_self sz (w + 1)
  obtain ⟨i1, i2, i3, i4, i5⟩ := hI
  obtain ⟨b1, b2, b3⟩ := bk_at hT hk
  have hNb := hT.2.2.2.1
  have hkd := hT.1 k hk
  have hmod := Nat.mod_lt k hper
  have hget : fX6_get_0 n nb (zrv (zI σ 17) (zA σ 5)) (nI (k / (sz / (w + 1)))) = some (nI (bkN sz w ib k)) := rl_get (g := fun x : Nat => x) hrow b1 hT.2.2.1 hnb
  have hpc : ∀ s : zS, zI s 1 = nI sz → zI s 10 = nI (w + 1) → zI s 15 = nI k → zI s 16 = nI (N - k) → fX2_next_45 n nb sz mm s (nI (bkN sz w ib k)) (nI (k % (sz / (w + 1)))) = some (nI (bkN sz w ib k * sz + k % (sz / (w + 1)) * (w + 1)), sI (sI s 15 (nI (k + 1))) 16 (nI (N - (k + 1)))) := fun s e1 e2 e3 e4 => by
    unfold fX2_next_45
    rw [e1, e2, e3, e4, nI_mul, nI_mul, nI_add, nI_1, show nI (N - k) - 1 = nI (N - (k + 1)) from by rw [show (1 : Int32) = nI 1 from rfl, nI_sub (by omega)]; congr 1]
  have hc0 : fX2_next_0 n nb sz mm σ = if nI (k % (sz / (w + 1))) = 0 then zb (fX0_readBlock_0 n nb sz mm σ (nI (bkN sz w ib k))) (fun q6 => fX2_next_45 n nb sz mm q6 (nI (bkN sz w ib k)) (nI (k % (sz / (w + 1))))) else fX2_next_45 n nb sz mm σ (nI (bkN sz w ib k)) (nI (k % (sz / (w + 1)))) := by
    unfold fX2_next_0
    rw [hS.2.1.2.2.2.2.2, p_max hs5 hsz hS.2.1.2.1, zg_t (znz_nI (by omega) (by omega)), i2, nI_div (by omega) (by omega), zb_s hget, zg_t (znz_nI (by omega) (by omega)), ← nI_div (by omega) (by omega), nI_mod (by omega) (by omega)]
  -- the reference: where it stands
  have hm60 : ∀ s : zS, zI s 21 = nI (bkN sz w ib k) → zI s 22 = nI (k % (sz / (w + 1))) → zI s 6 = nI w → zI s 23 = nI (N - k) → fX10_nextRecord_60 n s = some (nI (64 * bkN sz w ib k + k % (sz / (w + 1)) * (w + 1)), sI (sI s 22 (nI (k % (sz / (w + 1)) + 1))) 23 (nI (N - (k + 1)))) := fun s e1 e2 e3 e4 => by
    unfold fX10_nextRecord_60
    rw [e1, e2, e3, e4, nI_1, nI_1, nI_mul, show (64 : Int32) = nI 64 from rfl, nI_mul, nI_add, show nI (N - k) - 1 = nI (N - (k + 1)) from by rw [show (1 : Int32) = nI 1 from rfl, nI_sub (by omega)]; congr 1]
  have h23 : ¬ zI τ 23 = 0 := by rw [i4]; exact nI_ne0 (by omega) (by omega)
  have hle : zI τ 17 ≤ 0 := by rw [h17]; decide
  obtain ⟨τ1, e1, e2, e3, e4⟩ : ∃ τ1, fX10_nextRecord_0 n τ = fX10_nextRecord_45 n τ1 ∧ zI τ1 21 = nI (bkN sz w ib k) ∧ zI τ1 22 = nI (k % (sz / (w + 1))) ∧ zfr [21, 22] [] [] τ τ1 := by
    unfold fX10_nextRecord_0
    rw [if_neg h23, if_pos hle, zb_s (m_per hsz hS.2.1.2.1 hS.1.2.1 hS.2.1.2.2.1)]
    rcases i5 with ⟨z1, z2, z3⟩ | ⟨z1, z2, z3⟩
    · rw [z2, if_neg (show ¬ (0 : Int32) = nI (sz / (w + 1)) from fun q => nI_ne0 (by omega) (by omega) q.symm)]
      refine ⟨τ, rfl, ?_, ?_, zfr_r⟩
      · rw [z1] at hk ⊢
        exact z3 hk
      · rw [z2, z1, Nat.zero_mod]
        rfl
    · rw [z3]
      by_cases q : (k - 1) % (sz / (w + 1)) + 1 = sz / (w + 1)
      · have hk2 : k = (sz / (w + 1)) * ((k - 1) / (sz / (w + 1)) + 1) := by
          have := Nat.div_add_mod (k - 1) (sz / (w + 1))
          rw [Nat.mul_add, Nat.mul_one]
          omega
        have hkm : k % (sz / (w + 1)) = 0 := by
          have := Nat.mul_mod_right (sz / (w + 1)) ((k - 1) / (sz / (w + 1)) + 1)
          rw [← hk2] at this
          exact this
        have hkd2 : k / (sz / (w + 1)) = (k - 1) / (sz / (w + 1)) + 1 := by
          have := Nat.mul_div_cancel_left ((k - 1) / (sz / (w + 1)) + 1) hper
          rw [← hk2] at this
          exact this
        obtain ⟨c1, c2, c3⟩ := bk_at hT (show k - 1 < N by omega)
        have hnx : zA τ 2 (bkN sz w ib (k - 1)) = nI (bkN sz w ib k) := by
          rw [chC_step hch c1, ← hkd2, chAt_some b1]
        rw [if_pos (by rw [q]), z2, zg_in (show bkN sz w ib (k - 1) < 200 by omega) (by decide), nI_clamp (by omega), hnx]
        exact ⟨_, rfl, rfl, by rw [hkm]; rfl, zfr_I (by decide) (zfr_I (by decide) zfr_r)⟩
      · have hlt := Nat.mod_lt (k - 1) hper
        have hd := Nat.div_add_mod (k - 1) (sz / (w + 1))
        have hk2 : k = (sz / (w + 1)) * ((k - 1) / (sz / (w + 1))) + ((k - 1) % (sz / (w + 1)) + 1) := by omega
        have hkm : k % (sz / (w + 1)) = (k - 1) % (sz / (w + 1)) + 1 := by
          have := Nat.mul_add_mod (sz / (w + 1)) ((k - 1) / (sz / (w + 1))) ((k - 1) % (sz / (w + 1)) + 1)
          rw [← hk2, Nat.mod_eq_of_lt (show (k - 1) % (sz / (w + 1)) + 1 < sz / (w + 1) by omega)] at this
          exact this
        have hkd2 : k / (sz / (w + 1)) = (k - 1) / (sz / (w + 1)) := by
          have := Nat.mul_add_div hper ((k - 1) / (sz / (w + 1))) ((k - 1) % (sz / (w + 1)) + 1)
          rw [← hk2, Nat.div_eq_of_lt (show (k - 1) % (sz / (w + 1)) + 1 < sz / (w + 1) by omega), Nat.add_zero] at this
          exact this
        rw [if_neg (show ¬ nI ((k - 1) % (sz / (w + 1)) + 1) = nI (sz / (w + 1)) from fun x => q ((nI_eq (by omega) (by omega)).mp x))]
        refine ⟨τ, rfl, ?_, by rw [z3, hkm], zfr_r⟩
        rw [z2]
        unfold bkN
        rw [hkd2]
  have t6 : zI τ1 6 = nI w := (e4.1 6 (by decide)).trans hS.2.1.2.2.1
  have t23 : zI τ1 23 = nI (N - k) := (e4.1 23 (by decide)).trans i4
  have t17 : zI τ1 17 = 0 := (e4.1 17 (by decide)).trans h17
  unfold fX10_nextRecord_45 at e1
  rw [e3] at e1
  have hINP : ∀ s t : zS, zI s 15 = nI (k + 1) → zI s 16 = nI (N - (k + 1)) → zI t 23 = nI (N - (k + 1)) → zI t 21 = nI (bkN sz w ib k) → zI t 22 = nI (k % (sz / (w + 1)) + 1) → INP sz w N (k + 1) ib s t := fun s t y1 y2 y3 y4 y5 => ⟨hk, y1, y2, y3, Or.inr ⟨by omega, by rw [Nat.add_sub_cancel]; exact y4, by rw [Nat.add_sub_cancel]; exact y5⟩⟩
  by_cases c : k % (sz / (w + 1)) = 0
  · rw [if_pos (show nI (k % (sz / (w + 1))) = 0 by rw [c]; rfl), e2, zb_s (m_read t17 _)] at e1
    rw [if_pos (show nI (k % (sz / (w + 1))) = 0 by rw [c]; rfl), zb_s (c_read n nb sz mm σ _), hpc (rdC σ (nI (bkN sz w ib k))) hS.1.2.2.2.1 hS.2.1.2.2.2.2.1 i2 i3] at hc0
    rw [hm60 (rdM τ1 (nI (bkN sz w ib k))) e2 e3 t6 t23] at e1
    refine ⟨_, _, hc0, e1, hINP _ _ rfl rfl rfl e2 rfl, zfr_I (by decide) (zfr_I (by decide) (zfr_I (by decide) (zfr_I (by decide) (zfr_I (by decide) zfr_r)))), zfr_I (by decide) (zfr_I (by decide) (zfr_I (by decide) (zfr_I (by decide) (zfr_I (by decide) (zfr_I (by decide) (zfr_w e4 (by decide) (by decide) (by decide))))))), fun pz sb us' cl' hO => ?_⟩
    refine OD_rd (b := nI (bkN sz w ib k)) hO rfl ?_ rfl rfl rfl ?_
    · show dM nb sz (rdM τ1 (nI (bkN sz w ib k))) = _
      rw [dM_rd]
      congr 1
      unfold dM
      rw [e4.1 10 (by decide), e4.1 11 (by decide), e4.1 12 (by decide), e4.1 13 (by decide), e4.1 15 (by decide), e4.2.1 0 (by decide), e4.2.2.1 0 (by decide)]
    · exact e4.2.1 1 (by decide)
  · have hc9 : ¬ nI (k % (sz / (w + 1))) = 0 := nI_ne0 (by omega) (by omega)
    rw [if_neg hc9, hm60 τ1 e2 e3 t6 t23] at e1
    rw [if_neg hc9, hpc σ hS.1.2.2.2.1 hS.2.1.2.2.2.2.1 i2 i3] at hc0
    refine ⟨_, _, hc0, e1, hINP _ _ rfl rfl rfl e2 rfl, zfr_I (by decide) (zfr_I (by decide) zfr_r), zfr_I (by decide) (zfr_I (by decide) (zfr_w e4 (by decide) (by decide) (by decide))), fun pz sb us' cl' hO => ?_⟩
    obtain ⟨x1, x2, x3, x4, x5, x6, x7, x8⟩ := hO
    refine ⟨?_, ?_, x3, ?_, x5, x6, x7, x8⟩
    · show dM nb sz τ1 = dC nb sz σ
      rw [← x1]
      unfold dM
      rw [e4.1 10 (by decide), e4.1 11 (by decide), e4.1 12 (by decide), e4.1 13 (by decide), e4.1 15 (by decide), e4.2.1 0 (by decide), e4.2.2.1 0 (by decide)]
    · show _ ∨ zI τ1 14 = zI τ1 13
      rw [e4.1 13 (by decide), e4.1 14 (by decide)]
      exact x2
    · show ∀ b, b < nb → (zA τ1 1 b = 0 ↔ _)
      rw [e4.2.1 1 (by decide)]
      exact x4
