/-! ===== what goes out: pages, chains ===== -/
def OD (nb sz : Nat) (tk pz sb : List Nat) (us : Nat → Bool) (cl : Nat → Nat → Int64) (P0 : Prop) (σ τ : zS) : Prop :=
  dM nb sz τ = dC nb sz σ ∧ ((sb = [] ∧ P0) ∨ zI τ 14 = zI τ 13) ∧
  (zI σ 25 = nI sb.length ∧ ∀ (j b : Nat), sb[j]? = some b → zA σ 6 j = nI b) ∧
  (∀ b, b < nb → (zA τ 1 b = 0 ↔ ¬ (b ∈ tk ∨ b ∈ sb))) ∧
  sb.Nodup ∧ (∀ b ∈ sb, b < nb ∧ us b = false) ∧ (∀ b, (dC nb sz σ).2.1 b = (us b || decide (b ∈ sb))) ∧ (∀ b, (us b = true ∨ b ∈ pz) → (dC nb sz σ).1 b = cl b)
def OR (nb sz w : Nat) (us : Nat → Bool) (cl : Nat → Nat → Int64) (md sm : Int32) (op ct : Nat) (cb : List Nat) (wp : Option (Nat × Nat)) (mk : Nat) (on : List Int64) (σ τ : zS) : Prop :=
  (zI σ 20 = nI op ∧ zI τ 19 = nI op ∧ op ≤ sz / (w + 1)) ∧ (∀ k, k < op * (w + 1) → zL σ 2 k = zL τ 2 k) ∧
  (wp = none → zI σ 21 = -1) ∧
  (∀ p, wp = some p → zI σ 21 = nI (p.1 * sz + p.2 * (w + 1)) ∧ p.1 < nb ∧ p.2 < sz / (w + 1) ∧ us p.1 = true ∧ (∀ k, k ≤ w → zL σ 2 (op * (w + 1) + k) = zL τ 3 k) ∧ (∀ k, k ≤ w → (sm = 1 → ¬ k = w - 1) → zL τ 3 k = recC cl w p.1 p.2 k) ∧ op < sz / (w + 1)) ∧
  (zI σ 22 = (if cb = [] then -1 else nI (cb.headD 0)) ∧ zI σ 23 = (if cb = [] then -1 else nI (cb.getLastD 0)) ∧ chC (zA σ 3) cb ∧ zI σ 24 = nI (ct + op)) ∧
  (zI τ 18 = nI mk ∧ 1 ≤ mk ∧ mk < 208 ∧ JF mk cb ct (zA τ 3) (zA τ 4) (zA τ 5) (zA τ 2)) ∧
  on = nmR (sz / (w + 1)) w (dC nb sz σ).1 cb ct ++ nmD w op (zL σ 2) ++ wp.toList.map (fun _ => zL σ 2 (op * (w + 1) + w)) ∧
  (zI σ 18 = (if md = 0 then 0 else 1)) ∧ zI σ 19 = sm ∧ (md = 0 → wp = none)
/-- chains: what isn't in the run that is made stays -/
def OX (cb : List Nat) (mk : Nat) (σ τ σ' τ' : zS) : Prop :=
  (∀ c, ¬ c ∈ cb → zA σ' 3 c = zA σ 3 c ∧ zA τ' 2 c = zA τ 2 c) ∧ (∀ g, ¬ g = mk → zA τ' 3 g = zA τ 3 g ∧ zA τ' 4 g = zA τ 4 g ∧ zA τ' 5 g = zA τ 5 g)
theorem OX_r {cb : List Nat} {mk : Nat} {σ τ σ' τ' : zS} (h1 : zA σ' 3 = zA σ 3) (h2 : zA τ' 2 = zA τ 2) (h3 : zA τ' 3 = zA τ 3) (h4 : zA τ' 4 = zA τ 4) (h5 : zA τ' 5 = zA τ 5) : OX cb mk σ τ σ' τ' := ⟨fun c _ => ⟨congrFun h1 c, congrFun h2 c⟩, fun g _ => ⟨congrFun h3 g, congrFun h4 g, congrFun h5 g⟩⟩
theorem OX_t {cb cb' : List Nat} {mk : Nat} {σ τ σ' τ' σ'' τ'' : zS} (h : OX cb mk σ τ σ' τ') (h' : OX cb' mk σ' τ' σ'' τ'') (hs : ∀ b ∈ cb, b ∈ cb') : OX cb' mk σ τ σ'' τ'' :=
  ⟨fun c hc => ⟨(h'.1 c hc).1.trans (h.1 c (fun q => hc (hs c q))).1, (h'.1 c hc).2.trans (h.1 c (fun q => hc (hs c q))).2⟩, fun g hg => ⟨(h'.2 g hg).1.trans (h.2 g hg).1, (h'.2 g hg).2.1.trans (h.2 g hg).2.1, (h'.2 g hg).2.2.trans (h.2 g hg).2.2⟩⟩
theorem c_join {n nb sz mm b : Nat} {σ : zS} {cb : List Nat} (hnb : nb ≤ 200) (hb : b < nb) (hcb : ∀ c ∈ cb, c < nb) (hnd : cb.Nodup) (hbn : ¬ b ∈ cb) (hc : chC (zA σ 3) cb) : ∃ nx, fX1_join_0 n nb sz mm σ (if cb = [] then -1 else nI (cb.getLastD 0)) (nI b) = some (sA σ 3 nx) ∧ chC nx (cb ++ [b]) ∧ ∀ c, ¬ c ∈ cb ++ [b] → nx c = zA σ 3 c := by
  unfold fX1_join_0
  have h20 : ∀ σ1 : zS, fX1_join_20 n nb sz mm σ1 (nI b) = some (sA σ1 3 (upd (zA σ1 3) b (-1))) := fun σ1 => by
    unfold fX1_join_20
    rw [if_neg (nI_nn (by omega)), if_neg (fun q => by rw [nI_leI (by omega) (by omega)] at q; omega), zg_in hb (by omega), nI_clamp (by omega)]
  by_cases e : cb = []
  · rw [if_pos e, if_pos (by decide), h20]
    refine ⟨_, rfl, ?_, fun c hc => ?_⟩
    · rw [e]
      show upd (zA σ 3) b (-1) b = -1
      rw [upd_at, if_pos rfl]
    · rw [upd_at, if_neg (fun q => hc (by rw [q]; simp))]
  · have hl := lastD_mem e
    have hl2 := hcb _ hl
    rw [if_neg e, if_neg (nI_nn (by omega)), if_neg (fun q => by rw [nI_leI (by omega) (by omega)] at q; omega), zg_in hl2 (by omega), nI_clamp (by omega), h20, sA_sA]
    have hlb : ¬ cb.getLastD 0 = b := fun q => hbn (by rw [← q]; exact hl)
    have hcm : upd (upd (zA σ 3) (cb.getLastD 0) (nI b)) b (-1) = upd (upd (zA σ 3) b (-1)) (cb.getLastD 0) (nI b) := by
      funext k
      simp only [upd_at]
      by_cases q1 : k = b
      · rw [if_pos q1, if_neg (fun q => hlb (by rw [← q, q1])), if_pos q1]
      · rw [if_neg q1, if_neg q1]
    refine ⟨_, rfl, ?_, fun c hc => ?_⟩
    · show chC (upd (upd (zA σ 3) (cb.getLastD 0) (nI b)) b (-1)) (cb ++ [b])
      rw [hcm]
      exact chC_snoc (by rw [upd_at, if_pos rfl]) e hnd hbn (chC_congr (fun c hc2 => by rw [upd_at, if_neg (show ¬ c = b from fun q => hbn (q ▸ hc2))]) hc)
    · show upd (upd (zA σ 3) (cb.getLastD 0) (nI b)) b (-1) c = _
      rw [upd_at, upd_at, if_neg (fun q => hc (by rw [q]; simp)), if_neg (fun q => hc (by rw [q]; exact List.mem_append_left _ hl))]
theorem row_snoc {l : List Nat} {f : Nat → Int32} {b : Nat} (h : ∀ (j c : Nat), l[j]? = some c → f j = nI c) : ∀ (j c : Nat), (l ++ [b])[j]? = some c → upd f l.length (nI b) j = nI c := by
  intro j c hj
  rw [upd_at]
  rcases Nat.lt_or_ge j l.length with q | q
  · rw [List.getElem?_append_left q] at hj
    rw [if_neg (by omega)]
    exact h j c hj
  · have h2 := (List.getElem?_eq_some_iff.mp hj).1
    rw [List.length_append] at h2
    have h3 : j = l.length := by simp only [List.length_cons, List.length_nil] at h2; omega
    rw [h3, List.getElem?_append_right (Nat.le_refl _), Nat.sub_self] at hj
    rw [if_pos h3]
    cases hj
    rfl
theorem o_write {n nb sz mm w kn op ct mk : Nat} {tk pre cb : List Nat} {us : Nat → Bool} {cl : Nat → Nat → Int64} {P0 : Prop} {md sm : Int32} {on : List Int64} {σ τ : zS} (hn : 300 < n) (hnb : nb ≤ 200) (hs5 : 5 ≤ sz) (hsz : sz ≤ 64) (hS : SC nb sz mm w kn σ τ) (hD : OD nb sz tk pre (pre ++ cb) us cl P0 σ τ) (hR : OR nb sz w us cl md sm op ct cb none mk on σ τ) (h17 : zI τ 17 = 0) (hop : 1 ≤ op) (hct : ct = cb.length * (sz / (w + 1))) :
    ∃ r σ' τ', fX7_writePage_0 n nb sz mm σ = some (r, σ') ∧ fX10_writePage_0 n τ = some τ' ∧
    ((r = 1 ∧ zI τ' 17 = 0 ∧ ∃ b, b < nb ∧ us b = false ∧ OD nb sz tk pre (pre ++ (cb ++ [b])) us cl P0 σ' τ' ∧ OR nb sz w us cl md sm 0 (ct + op) (cb ++ [b]) none mk on σ' τ' ∧ OX (cb ++ [b]) mk σ τ σ' τ' ∧ zfr [3, 4, 5, 6, 20, 22, 23, 25] [0, 3, 6] [0] σ σ' ∧ zfr [11, 12, 13, 14, 15, 17, 19] [0, 1, 2, 3, 4, 5] [0] τ τ')
    ∨ (r = 0 ∧ ((zI τ' 17 = 1 ∧ zI σ' 7 = 1) ∨ (zI τ' 17 = 2 ∧ zI σ' 7 = zI σ 7)) ∧ OD nb sz tk pre (pre ++ cb) us cl P0 σ' τ' ∧ zfr [7] [] [] σ σ' ∧ zfr [17, 19] [] [] τ τ')) := by
  obtain ⟨hd, hlat, hrow, htk, hnd, hsb, hus, hcl⟩ := hD
  obtain ⟨⟨p1, p2, p3⟩, hpg, hw0, -, ⟨q1, q2, q3, q4⟩, ⟨m1, m2, m3, m4⟩, hon, hfo, hsm, hmd⟩ := hR
  obtain ⟨hS1, hW, hK, hmo⟩ := hS
  have hper := p_per (w := w) hs5 hW.2.1
  have hple := p_perle (sz := sz) (w := w)
  have hop2 : op * (w + 1) ≤ sz := Nat.le_trans (Nat.mul_le_mul_right _ p3) hple
  have hdv := Nat.div_le_self sz (w + 1)
  have du : (dM nb sz τ).2.1 = (dC nb sz σ).2.1 := congrArg (fun d : zD => d.2.1) hd
  have d15 : zI τ 15 = zI σ 6 := congrArg (fun d : zD => d.2.2.2.2.2.2) hd
  have hle := dLf_le (dC nb sz σ).2.1 nb 0
  have hfr := dLf_free (dC nb sz σ).2.1 nb 0
  have hcbs : ∀ c ∈ cb, c ∈ pre ++ cb := fun c hc => List.mem_append_right _ hc
  have hcbn : cb.Nodup := (List.nodup_append.mp hnd).2.1
  have hst := c_store_p15 (n := n) (nb := nb) (sz := sz) (mm := mm) (cnt := op * (w + 1)) (σ := σ) hn hnb hsz hS1.2.2.2.1 hop2
  have hwr := m_write_p13 (n := n) (nb := nb) (sz := sz) (w := w) (m := op) (τ := τ) hn hS1.1 hnb h17 hW.2.2.1 (by omega) (by omega) (by omega)
  rw [du, d15] at hwr
  unfold fX7_writePage_0 fX10_writePage_0
  rw [p1, hW.2.2.2.2.1, nI_mul, zb_s hst, p2, zb_s hwr]
  generalize dLf (dC nb sz σ).2.1 nb 0 = N at hle hfr hst hwr ⊢
  by_cases c2 : N = nb
  · rw [if_pos c2, if_pos c2, if_pos rfl, zb_s m_hang_s]
    exact ⟨_, _, _, rfl, rfl, Or.inr ⟨rfl, Or.inr ⟨rfl, rfl⟩, ⟨hd, hlat, hrow, htk, hnd, hsb, hus, hcl⟩, zfr_r, zfr_I (by decide) (zfr_I (by decide) zfr_r)⟩⟩
  · rw [if_neg c2, if_neg c2]
    by_cases c3 : zI σ 6 = 0
    · rw [if_pos c3, if_pos c3, if_pos rfl, zb_s m_hang_s]
      exact ⟨_, _, _, rfl, rfl, Or.inr ⟨rfl, Or.inl ⟨rfl, rfl⟩, ⟨hd, hlat, hrow, htk, hnd, hsb, hus, hcl⟩, zfr_I (by decide) zfr_r, zfr_I (by decide) (zfr_I (by decide) zfr_r)⟩⟩
    · rw [if_neg c3, if_neg c3]
      have hN : N < nb := by omega
      have hfree : (dC nb sz σ).2.1 N = false := by
        have := hfr (by omega)
        cases h : (dC nb sz σ).2.1 N with
        | true => exact absurd h this
        | false => rfl
      rw [hus N, Bool.or_eq_false_iff] at hfree
      have hNs : ¬ N ∈ pre ++ cb := of_decide_eq_false hfree.2
      have hNc : ¬ N ∈ cb := fun q => hNs (hcbs N q)
      dsimp only
      rw [if_neg (nI_m1 (by omega))]
      -- the class
      have hlen : (pre ++ cb).length < nb := by
        have h1 := nd_le nb (N :: (pre ++ cb)) (List.nodup_cons.mpr ⟨hNs, hnd⟩) (fun x hx => by
          rcases List.mem_cons.mp hx with q | q
          · omega
          · exact (hsb x q).1)
        simp only [List.length_cons] at h1
        omega
      have hadd : fX6_add_0 n nb (zrv (zI (stp15C sz σ N (op * (w + 1))) 25) (zA (stp15C sz σ N (op * (w + 1))) 6)) (nI N) = some (sI (sA (zrv (nI (pre ++ cb).length) (zA σ 6)) 0 (upd (zA σ 6) (pre ++ cb).length (nI N))) 0 (nI ((pre ++ cb).length + 1))) := by
        show fX6_add_0 n nb (zrv (zI σ 25) (zA σ 6)) (nI N) = _
        rw [hrow.1]
        exact c_add hlen hnb
      rw [zb_s hadd]
      obtain ⟨nx, hj, hj2, hj3⟩ := c_join (n := n) (nb := nb) (sz := sz) (mm := mm) (b := N) (cb := cb) (σ := sA (sI (stp15C sz σ N (op * (w + 1))) 25 (nI ((pre ++ cb).length + 1))) 6 (upd (zA σ 6) (pre ++ cb).length (nI N))) hnb hN (fun c hc => (hsb c (hcbs c hc)).1) hcbn hNc q3
      have hj1 : fX1_join_0 n nb sz mm (sA (sI (stp15C sz σ N (op * (w + 1))) 25 (zI (sI (sA (zrv (nI (pre ++ cb).length) (zA σ 6)) 0 (upd (zA σ 6) (pre ++ cb).length (nI N))) 0 (nI ((pre ++ cb).length + 1))) 0)) 6 (zA (sI (sA (zrv (nI (pre ++ cb).length) (zA σ 6)) 0 (upd (zA σ 6) (pre ++ cb).length (nI N))) 0 (nI ((pre ++ cb).length + 1))) 0)) (zI (stp15C sz σ N (op * (w + 1))) 23) (nI N) = some (sA (sA (sI (stp15C sz σ N (op * (w + 1))) 25 (nI ((pre ++ cb).length + 1))) 6 (upd (zA σ 6) (pre ++ cb).length (nI N))) 3 nx) := by
        rw [show zI (stp15C sz σ N (op * (w + 1))) 23 = _ from q2]
        exact hj
      rw [zb_s hj1]
      have h68 : ∀ σ1 : zS, zI σ1 22 = zI σ 22 → (if zI σ1 22 = -1 then fX7_writePage_68 n nb sz mm σ1 (nI N) (nI N) else fX7_writePage_68 n nb sz mm σ1 (nI N) (zI σ1 22)) = some (1, sI (sI (sI σ1 22 (nI ((cb ++ [N]).headD 0))) 23 (nI N)) 20 0) := by
        intro σ1 h1
        unfold fX7_writePage_68
        rw [h1, q1]
        by_cases e : cb = []
        · rw [if_pos e, if_pos rfl, e]
          rfl
        · have hh : (cb ++ [N]).headD 0 = cb.headD 0 := by
            cases cb with
            | nil => exact absurd rfl e
            | cons a t => rfl
          have hhm : cb.headD 0 ∈ cb := by
            cases cb with
            | nil => exact absurd rfl e
            | cons a t => exact List.mem_cons_self
          have := (hsb _ (hcbs _ hhm)).1
          rw [if_neg e, if_neg (nI_m1 (by omega)), hh]
      rw [h68 (sA (sA (sI (stp15C sz σ N (op * (w + 1))) 25 (nI ((pre ++ cb).length + 1))) 6 (upd (zA σ 6) (pre ++ cb).length (nI N))) 3 nx) rfl]
      -- the reference
      have hF0 : JF mk cb ct (zA (wrp13M (sI τ 17 0) N (op * (w + 1))) 3) (zA (wrp13M (sI τ 17 0) N (op * (w + 1))) 4) (zA (wrp13M (sI τ 17 0) N (op * (w + 1))) 5) (zA (wrp13M (sI τ 17 0) N (op * (w + 1))) 2) := JF_keep m4 rfl rfl rfl (fun b hb => by
        show upd (zA τ 2) N (-1) b = _
        rw [upd_at, if_neg (show ¬ b = N from fun q => hNc (q ▸ hb))])
      obtain ⟨τ2, hh, hJF, hoth, haft, hfr2⟩ := m_hang (n := n) (f := mk) (b := N) (k := op) m3 (by omega) hF0 (fun c hc => by have := (hsb c (hcbs c hc)).1; omega) hcbn hNc (by show upd (zA τ 2) N (-1) N = -1; rw [upd_at, if_pos rfl])
      rw [show zI (wrp13M (sI τ 17 0) N (op * (w + 1))) 18 = nI mk from m1, zb_s hh]
      have i2 := fun k => hfr2.1 k (List.not_mem_nil)
      have hput : dM nb sz (sI τ2 19 0) = dPut (dC nb sz σ) N (zL σ 2) (op * (w + 1)) := by
        have e1 : dM nb sz (sI τ2 19 0) = dM nb sz (wrp13M (sI τ 17 0) N (op * (w + 1))) := by
          show dM nb sz τ2 = _
          unfold dM
          rw [hfr2.2.2.1 0 (List.not_mem_nil), hfr2.2.1 0 (by decide), i2 10, i2 11, i2 12, i2 13, i2 15]
        rw [e1, dM_wr_p13 hN hop2 hsz, show dM nb sz (sI τ 17 0) = dM nb sz τ from rfl, hd]
        exact dPut_row (fun k hk => (hpg k (by omega)).symm)
      have hputc : dC nb sz (stp15C sz σ N (op * (w + 1))) = dPut (dC nb sz σ) N (zL σ 2) (op * (w + 1)) := dC_st_p15 hN hop2
      refine ⟨_, _, _, rfl, rfl, Or.inl ⟨rfl, i2 17, N, hN, hfree.1, ?_, ?_, ?_, ?_, ?_⟩⟩
      · rw [← List.append_assoc]
        refine ⟨hput.trans hputc.symm, Or.inr ?_, ⟨?_, row_snoc hrow.2⟩, fun b hb => ?_, ?_, fun b hb => ?_, fun b => ?_, fun b hb => ?_⟩
        · show zI τ2 14 = zI τ2 13
          rw [i2 14, i2 13]
          rfl
        · show nI ((pre ++ cb).length + 1) = _
          rw [List.length_append (as := pre ++ cb)]
          rfl
        · show zA τ2 1 b = 0 ↔ _
          rw [hfr2.2.1 1 (by decide)]
          show upd (zA τ 1) N 1 b = 0 ↔ _
          rw [upd_at]
          by_cases e : b = N
          · rw [if_pos e]
            exact ⟨fun q => absurd q (by decide), fun q => absurd (Or.inr (List.mem_append_right _ (by rw [e]; simp))) q⟩
          · rw [if_neg e, htk b hb]
            constructor
            · intro q z
              rcases z with z | z
              · exact q (Or.inl z)
              · rcases List.mem_append.mp z with z | z
                · exact q (Or.inr z)
                · exact e (List.mem_singleton.mp z)
            · exact fun q z => q (z.elim Or.inl (fun z => Or.inr (List.mem_append_left _ z)))
        · exact List.nodup_append.mpr ⟨hnd, by simp, fun a ha b hb => by rw [List.mem_singleton.mp hb]; exact fun q => hNs (q ▸ ha)⟩
        · rcases List.mem_append.mp hb with q | q
          · exact hsb b q
          · rw [List.mem_singleton.mp q]
            exact ⟨hN, hfree.1⟩
        · show (dC nb sz (stp15C sz σ N (op * (w + 1)))).2.1 b = _
          rw [hputc]
          show (decide (b = N) || (dC nb sz σ).2.1 b) = _
          rw [hus b]
          by_cases e : b = N
          · rw [decide_eq_true e, decide_eq_true (show b ∈ pre ++ cb ++ [N] from List.mem_append_right _ (by rw [e]; simp)), Bool.true_or, Bool.or_true]
          · rw [decide_eq_false e, Bool.false_or]
            congr 1
            by_cases z : b ∈ pre ++ cb
            · rw [decide_eq_true z, decide_eq_true (List.mem_append_left _ z)]
            · rw [decide_eq_false z, decide_eq_false (fun y => by
                rcases List.mem_append.mp y with y | y
                · exact z y
                · exact e (List.mem_singleton.mp y))]
        · show (dC nb sz (stp15C sz σ N (op * (w + 1)))).1 b = _
          rw [hputc, dPut_cell (fun q => by
            rcases hb with hb | hb
            · rw [q, hfree.1] at hb; cases hb
            · exact hNs (List.mem_append_left _ (q ▸ hb)))]
          exact hcl b hb
      · refine ⟨⟨rfl, rfl, Nat.zero_le _⟩, fun k hk => absurd hk (by omega), fun _ => hw0 rfl, fun p hp => absurd hp (by simp), ⟨?_, ?_, hj2, ?_⟩, ⟨?_, m2, m3, hJF⟩, ?_, hfo, hsm, hmd⟩
        · show nI ((cb ++ [N]).headD 0) = _
          rw [if_neg (by simp)]
        · show nI N = _
          rw [if_neg (by simp), List.getLastD_eq_getLast?]
          simp
        · exact q4
        · exact (i2 18).trans m1
        · show on = nmR (sz / (w + 1)) w (dC nb sz (stp15C sz σ N (op * (w + 1)))).1 (cb ++ [N]) (ct + op) ++ nmD w 0 (zL σ 2) ++ []
          rw [hputc, hct, nmR_snoc hper p3, hon, hct]
          have e3 : nmR (sz / (w + 1)) w (dPut (dC nb sz σ) N (zL σ 2) (op * (w + 1))).1 cb (cb.length * (sz / (w + 1))) = nmR (sz / (w + 1)) w (dC nb sz σ).1 cb (cb.length * (sz / (w + 1))) := nmR_congr (fun b hb => dPut_cell (fun q => hNc (q ▸ hb))) hper (Nat.le_refl _)
          rw [e3, show nmD w 0 (zL σ 2) = [] from rfl, List.append_nil, List.append_nil]
          show _ ++ [] = _
          rw [List.append_nil]
          congr 1
          unfold nmD
          apply List.map_congr_left
          intro i hi
          have hi2 := List.mem_range.mp hi
          have := Nat.mul_le_mul_right (w + 1) (show i + 1 ≤ op from hi2)
          rw [Nat.add_mul, Nat.one_mul] at this
          show _ = (if N = N ∧ i * (w + 1) + w < op * (w + 1) then _ else _)
          rw [if_pos ⟨rfl, by omega⟩]
      · refine ⟨fun c hc => ⟨hj3 c hc, ?_⟩, fun g hg => ⟨(hoth g hg).1, (hoth g hg).2.1, (hoth g hg).2.2⟩⟩
        show zA τ2 2 c = _
        rw [haft c (fun q => hc (List.mem_append_left _ q))]
        show upd (zA τ 2) N (-1) c = _
        rw [upd_at, if_neg (fun q => hc (by rw [q]; simp))]
      · exact zfr_I (by decide) (zfr_I (by decide) (zfr_I (by decide) (zfr_A (by decide) (zfr_A (by decide) (zfr_I (by decide) (zfr_L (by decide) (zfr_I (by decide) (zfr_I (by decide) (zfr_I (by decide) (zfr_A (by decide) (zfr_I (by decide) zfr_r)))))))))))
      · refine zfr_I (by decide) (zfr_t (τ' := wrp13M (sI τ 17 0) N (op * (w + 1))) ?_ hfr2 (by decide) (by decide) (by decide))
        exact zfr_L (by decide) (zfr_I (by decide) (zfr_I (by decide) (zfr_I (by decide) (zfr_I (by decide) (zfr_A (by decide) (zfr_A (by decide) (zfr_A (by decide) (zfr_I (by decide) (zfr_I (by decide) zfr_r)))))))))
