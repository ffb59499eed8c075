/-! a record comes, in both -/
theorem nI_l_inj {a b : Nat} (ha : a < 2 ^ 31) (hb : b < 2 ^ 31) (h : (nI a).toInt64 = (nI b).toInt64) : a = b := by
  have h1 := congrArg Int64.toInt h
  rw [Int32.toInt_toInt64, Int32.toInt_toInt64, nI_toInt ha, nI_toInt hb] at h1
  omega
theorem nmD_snoc {w od : Nat} {d : Nat → Int64} : nmD w (od + 1) d = nmD w od d ++ [d (od * (w + 1) + w)] := by
  unfold nmD
  rw [List.range_succ, List.map_append]
  rfl
theorem nmD_congr {w od : Nat} {d d' : Nat → Int64} (h : ∀ i, i < od * (w + 1) → d' i = d i) : nmD w od d' = nmD w od d := by
  unfold nmD
  apply List.map_congr_left
  intro i hi
  have hi2 := List.mem_range.mp hi
  have := Nat.mul_le_mul_right (w + 1) (show i + 1 ≤ od from hi2)
  rw [Nat.add_mul, Nat.one_mul] at this
  exact h _ (by omega)
theorem dPut_cell {d : zD} {b c cnt : Nat} {row : Nat → Int64} (h : ¬ c = b) : (dPut d b row cnt).1 c = d.1 c := by
  funext k
  show (if c = b ∧ k < cnt then row k else d.1 c k) = _
  rw [if_neg (fun q => h q.1)]
theorem dPut_used {d : zD} {b c cnt : Nat} {row : Nat → Int64} (h : d.2.1 c = true) : (dPut d b row cnt).2.1 c = true := by
  show (decide (c = b) || d.2.1 c) = true
  rw [h, Bool.or_true]
theorem dPut_here {d : zD} {b cnt : Nat} {row : Nat → Int64} : (dPut d b row cnt).2.1 b = true := by
  show (decide (b = b) || d.2.1 b) = true
  rw [decide_eq_true rfl, Bool.true_or]
theorem dPut_row {d : zD} {b cnt : Nat} {row row' : Nat → Int64} (h : ∀ k, k < cnt → row k = row' k) : dPut d b row cnt = dPut d b row' cnt := by
  have e : (fun c k => if c = b ∧ k < cnt then row k else d.1 c k) = (fun c k => if c = b ∧ k < cnt then row' k else d.1 c k) := by
    funext c k
    by_cases q : c = b ∧ k < cnt
    · rw [if_pos q, if_pos q, h k q.2]
    · rw [if_neg q, if_neg q]
  unfold dPut
  rw [e]
theorem flat_congr {α β : Type} {f g : α → List β} {l : List α} (h : ∀ x ∈ l, f x = g x) : l.flatMap f = l.flatMap g := by
  induction l with
  | nil => rfl
  | cons a t ih => rw [List.flatMap_cons, List.flatMap_cons, h a List.mem_cons_self, ih (fun x hx => h x (List.mem_cons_of_mem _ hx))]
theorem jj_come {n nb sz mm cm w od kn : Nat} {inp : List Nat} {rs : List (List Nat × Nat)} {fs : List Nat} {σ τ : zS} (hn : 300 < n) (hnb : nb ≤ 200) (hs5 : 5 ≤ sz) (hsz : sz ≤ 64) (hcm : cm < 2 ^ 30) (hrow : ∀ c, c < w → zL σ 3 c = zL τ 4 c) (hon : zI σ 7 = 0) (h : JJ cm nb sz mm w od kn inp rs fs σ τ) :
    ∃ rc σ' rm τ', fX2_bring_p35_0 n nb sz mm σ = some (rc, σ') ∧ fX10_come_0 n τ = some (rm, τ') ∧ zI τ' 0 = zI τ 0 ∧ ((rc = nI cm ∧ rm = 1 ∧ zI τ' 17 = 0 ∧ zI σ' 7 = 0 ∧ zI τ' 9 = nI (cm + 1) ∧ ∃ od' inp', JJ (cm + 1) nb sz mm w od' kn inp' rs fs σ' τ') ∨ (rc = -1 ∧ rm = 0 ∧ JJ cm nb sz mm w od kn inp rs fs σ' τ' ∧ ((zI τ' 17 = 1 ∧ zI σ' 7 = 1) ∨ (zI τ' 17 = 2 ∧ zI σ' 7 = 0)))) := by
  obtain ⟨hS, hW, hK, hmo, hD, hoff, hd, hlat, hin, hC, hM, hB, hN⟩ := h
  have hw4 := hW.2.1
  have hper := p_per (w := w) hs5 hw4
  have hple := p_perle (sz := sz) (w := w)
  obtain ⟨hD1, hod, hD3, hD4, hD5, hD6⟩ := hD
  have hod2 : (od + 1) * (w + 1) ≤ sz := Nat.le_trans (Nat.mul_le_mul_right _ hod) hple
  have hod3 : od * (w + 1) + (w + 1) = (od + 1) * (w + 1) := by rw [Nat.add_mul, Nat.one_mul]
  obtain ⟨τ1, f1, g17, gdk, gd, hm⟩ := m_come (od := od) hn hnb hs5 hsz hw4 hS.1 hS.2.1 hW.2.2.1 hod hD3
  obtain ⟨σ1, f2, gdk2, gd2, hc⟩ := c_bring (mm := mm) (od := od) hn hnb hs5 hsz hw4 hS.2.2.2.1 hW.2.2.2.1 hW.2.2.2.2.1 hW.2.2.2.2.2 hod hD4
  have du : (dM nb sz τ).2.1 = (dC nb sz σ).2.1 := congrArg (fun d : zD => d.2.1) hd
  have d15 : zI τ 15 = zI σ 6 := congrArg (fun d : zD => d.2.2.2.2.2.2) hd
  have hdesk : ∀ k, k < sz → zL τ1 1 k = zL σ1 1 k := by
    intro k hk
    rw [gdk, gdk2, hD1]
    unfold dkR
    by_cases q1 : k = od * (w + 1) + w
    · rw [if_pos q1, if_pos q1]
    · rw [if_neg q1, if_neg q1]
      by_cases q2 : od * (w + 1) ≤ k ∧ k < od * (w + 1) + w
      · rw [if_pos q2, if_pos q2, hrow _ (by omega)]
      · rw [if_neg q2, if_neg q2, hD5 k hk]
  have hdlow : ∀ i, i < od * (w + 1) → zL σ1 1 i = zL σ 1 i := by
    intro i hi
    rw [gdk2]
    unfold dkR
    rw [if_neg (by omega), if_neg (by omega)]
  have hdn : zL σ1 1 (od * (w + 1) + w) = (nI cm).toInt64 := by
    rw [gdk2]
    unfold dkR
    rw [if_pos rfl, hD6]
  have hN0 : nmD w od (zL σ1 1) = nmD w od (zL σ 1) := nmD_congr hdlow
  -- the numbers, with one more on the desk
  have hNx : (nmR (sz / (w + 1)) w (dC nb sz σ).1 inp (inp.length * (sz / (w + 1))) ++ nmD w (od + 1) (zL σ1 1) ++ rs.flatMap (fun r => nmR (sz / (w + 1)) w (dC nb sz σ).1 r.1 r.2)).Nodup ∧ ∀ x ∈ nmR (sz / (w + 1)) w (dC nb sz σ).1 inp (inp.length * (sz / (w + 1))) ++ nmD w (od + 1) (zL σ1 1) ++ rs.flatMap (fun r => nmR (sz / (w + 1)) w (dC nb sz σ).1 r.1 r.2), ∃ c, c < cm + 1 ∧ x = (nI c).toInt64 := by
    rw [nmD_snoc, hN0, hdn]
    obtain ⟨hN1, hN2⟩ := hN
    have hp : (nmR (sz / (w + 1)) w (dC nb sz σ).1 inp (inp.length * (sz / (w + 1))) ++ (nmD w od (zL σ 1) ++ [(nI cm).toInt64]) ++ rs.flatMap (fun r => nmR (sz / (w + 1)) w (dC nb sz σ).1 r.1 r.2)).Perm ((nI cm).toInt64 :: (nmR (sz / (w + 1)) w (dC nb sz σ).1 inp (inp.length * (sz / (w + 1))) ++ nmD w od (zL σ 1) ++ rs.flatMap (fun r => nmR (sz / (w + 1)) w (dC nb sz σ).1 r.1 r.2))) := by
      rw [← List.append_assoc, List.append_assoc _ [(nI cm).toInt64] _]
      exact List.perm_middle
    constructor
    · refine hp.symm.nodup (List.nodup_cons.mpr ⟨fun q => ?_, hN1⟩)
      obtain ⟨c, hc1, hc2⟩ := hN2 _ q
      exact absurd (nI_l_inj (by omega) (by omega) hc2) (by omega)
    · intro x hx
      rcases List.mem_cons.mp (hp.subset hx) with q | q
      · exact ⟨cm, by omega, q⟩
      · obtain ⟨c, hc1, hc2⟩ := hN2 x q
        exact ⟨c, by omega, hc2⟩
  have hcm1 : zI σ 13 + 1 = nI (cm + 1) := by rw [hD6, nI_1]
  have hret : zI σ 13 + 1 - 1 = nI cm := by rw [hD6, nI_1, nI_pred]
  have s1 := fun k => f2.1 k (List.not_mem_nil)
  have tok : zTok σ1 := by
    unfold zTok
    rw [f2.2.2.2.1]
    exact hS.2.2.2.2.2
  have sA' := fun k => f2.2.1 k (List.not_mem_nil)
  have t1 : ∀ k, ¬ k = 17 → zI τ1 k = zI τ k := fun k hk => f1.1 k (fun q => hk (List.mem_singleton.mp q))
  have tA : ∀ k, ¬ k = 1 → zA τ1 k = zA τ k := fun k hk => f1.2.1 k (fun q => hk (List.mem_singleton.mp q))
  rw [du, d15] at hm
  by_cases c1 : od + 1 < sz / (w + 1)
  · rw [if_pos c1] at hm hc
    refine ⟨_, _, _, _, hc, hm, t1 0 (by decide), Or.inl ⟨hret, rfl, g17, (s1 7).trans hon, ?_, od + 1, inp, ?_⟩⟩
    · show zI τ 9 + 1 = _
      rw [hD1, hcm1]
    · refine ⟨⟨(t1 1 (by decide)).trans hS.1, (t1 2 (by decide)).trans hS.2.1, (t1 3 (by decide)).trans hS.2.2.1, (s1 1).trans hS.2.2.2.1, (s1 27).trans hS.2.2.2.2.1, tok⟩, ⟨hW.1, hW.2.1, (t1 6 (by decide)).trans hW.2.2.1, (s1 9).trans hW.2.2.2.1, (s1 10).trans hW.2.2.2.2.1, (s1 11).trans hW.2.2.2.2.2⟩, ⟨hK.1, (t1 7 (by decide)).trans hK.2.1, (s1 8).trans hK.2.2.1, ?_⟩, ?_, ⟨?_, c1, rfl, rfl, hdesk, hcm1⟩, ?_, ?_, ?_, ?_, ?_, ?_, ?_, ?_⟩
      · show JK w kn (zA τ1 8) (zA τ1 9) (zA σ1 1) (zA σ1 2)
        rw [tA 8 (by decide), tA 9 (by decide), sA' 1, sA' 2]
        exact hK.2.2.2
      · show zI τ1 8 = zI σ1 0 ∧ (zI σ1 0 = 0 ∨ zI σ1 0 = 1 ∨ zI σ1 0 = 2)
        rw [t1 8 (by decide), s1 0]
        exact hmo
      · show zI τ 9 + 1 = zI σ 13 + 1
        rw [hD1]
      · show zI τ1 16 = zI σ1 7 ∧ (zI σ1 7 = 0 ∨ zI σ1 7 = 1)
        rw [t1 16 (by decide), s1 7]
        exact hoff
      · show dM nb sz τ1 = dC nb sz σ1
        rw [gd, gd2, hd]
      · show _ ∨ zI τ1 14 = zI τ1 13
        rw [t1 14 (by decide), t1 13 (by decide)]
        exact hlat
      · show zI σ1 17 = _ ∧ (∀ (j b : Nat), inp[j]? = some b → zA σ1 5 j = nI b)
        rw [s1 17, sA' 5]
        exact hin
      · show JC rs (zA σ1 16) (zI σ1 32) (zA σ1 3) (zA σ1 4)
        rw [sA' 16, s1 32, sA' 3, sA' 4]
        exact hC
      · show JM (sz / (w + 1)) inp rs fs (zI τ1 4) (zA τ1 6) (zA τ1 7) (zA τ1 3) (zA τ1 4) (zA τ1 5) (zA τ1 2)
        rw [t1 4 (by decide), tA 6 (by decide), tA 7 (by decide), tA 3 (by decide), tA 4 (by decide), tA 5 (by decide), tA 2 (by decide)]
        exact hM
      · show JB nb (sz / (w + 1)) inp rs (dC nb sz σ1).2.1
        rw [gd2]
        exact hB
      · show JN (cm + 1) (sz / (w + 1)) w (od + 1) inp rs (dC nb sz σ1).1 (zL σ1 1)
        rw [gd2]
        exact hNx
  · rw [if_neg c1] at hm hc
    have hle := dLf_le (dC nb sz σ).2.1 nb 0
    have hfr := dLf_free (dC nb sz σ).2.1 nb 0
    generalize hNN : dLf (dC nb sz σ).2.1 nb 0 = N at hle hfr hm hc
    have hpeq : od + 1 = sz / (w + 1) := by omega
    -- a failure
    have fail : ∀ (x y : Int32), (zI σ 7 = y ∨ ((y = 1))) → JJ cm nb sz mm w od kn inp rs fs (sI σ1 7 y) (sI (sI τ1 17 x) 16 y) := by
      intro x y hy
      refine ⟨⟨(t1 1 (by decide)).trans hS.1, (t1 2 (by decide)).trans hS.2.1, (t1 3 (by decide)).trans hS.2.2.1, (s1 1).trans hS.2.2.2.1, (s1 27).trans hS.2.2.2.2.1, tok⟩, ⟨hW.1, hW.2.1, (t1 6 (by decide)).trans hW.2.2.1, (s1 9).trans hW.2.2.2.1, (s1 10).trans hW.2.2.2.2.1, (s1 11).trans hW.2.2.2.2.2⟩, ⟨hK.1, (t1 7 (by decide)).trans hK.2.1, (s1 8).trans hK.2.2.1, ?_⟩, ?_, ⟨?_, hod, (t1 5 (by decide)).trans hD3, (s1 12).trans hD4, hdesk, (s1 13).trans hD6⟩, ⟨rfl, ?_⟩, ?_, ?_, ?_, ?_, ?_, ?_, ?_⟩
      · show JK w kn (zA τ1 8) (zA τ1 9) (zA σ1 1) (zA σ1 2)
        rw [tA 8 (by decide), tA 9 (by decide), sA' 1, sA' 2]
        exact hK.2.2.2
      · show zI τ1 8 = zI σ1 0 ∧ (zI σ1 0 = 0 ∨ zI σ1 0 = 1 ∨ zI σ1 0 = 2)
        rw [t1 8 (by decide), s1 0]
        exact hmo
      · show zI τ1 9 = zI σ1 13
        rw [t1 9 (by decide), s1 13, hD1]
      · show y = 0 ∨ y = 1
        rcases hy with q | q
        · exact Or.inl (by rw [← q]; exact hon)
        · exact Or.inr q
      · show dM nb sz τ1 = dC nb sz σ1
        rw [gd, gd2, hd]
      · show _ ∨ zI τ1 14 = zI τ1 13
        rw [t1 14 (by decide), t1 13 (by decide)]
        exact hlat
      · show zI σ1 17 = _ ∧ (∀ (j b : Nat), inp[j]? = some b → zA σ1 5 j = nI b)
        rw [s1 17, sA' 5]
        exact hin
      · show JC rs (zA σ1 16) (zI σ1 32) (zA σ1 3) (zA σ1 4)
        rw [sA' 16, s1 32, sA' 3, sA' 4]
        exact hC
      · show JM (sz / (w + 1)) inp rs fs (zI τ1 4) (zA τ1 6) (zA τ1 7) (zA τ1 3) (zA τ1 4) (zA τ1 5) (zA τ1 2)
        rw [t1 4 (by decide), tA 6 (by decide), tA 7 (by decide), tA 3 (by decide), tA 4 (by decide), tA 5 (by decide), tA 2 (by decide)]
        exact hM
      · show JB nb (sz / (w + 1)) inp rs (dC nb sz σ1).2.1
        rw [gd2]
        exact hB
      · show JN cm (sz / (w + 1)) w od inp rs (dC nb sz σ1).1 (zL σ1 1)
        unfold JN
        rw [gd2, hN0]
        exact hN
    by_cases c2 : N = nb
    · rw [if_pos c2] at hm hc
      have hf0 := fail 2 0 (Or.inl hon)
      rw [show sI σ1 7 0 = σ1 from by rw [← hon, ← s1 7, sI_id]] at hf0
      exact ⟨_, _, _, _, hc, hm, t1 0 (by decide), Or.inr ⟨rfl, rfl, hf0, Or.inr ⟨rfl, (s1 7).trans hon⟩⟩⟩
    · rw [if_neg c2] at hm hc
      by_cases c3 : zI σ 6 = 0
      · rw [if_pos c3] at hm hc
        exact ⟨_, _, _, _, hc, hm, t1 0 (by decide), Or.inr ⟨rfl, rfl, fail 1 1 (Or.inr rfl), Or.inl ⟨rfl, rfl⟩⟩⟩
      · rw [if_neg c3] at hm hc
        have hNb : N < nb := by omega
        have hfree := hfr (by omega)
        have hmany := j_many hB
        have hNin : ¬ N ∈ inp ++ rs.flatMap (fun r => r.1) := fun q => hfree (hB.2.1 N q).2
        have hNi : ¬ N ∈ inp := fun q => hNin (List.mem_append_left _ q)
        have hNr : ∀ r ∈ rs, ¬ N ∈ r.1 := fun r hr q => hNin (List.mem_append_right _ (List.mem_flatMap.mpr ⟨r, hr, q⟩))
        have hind : inp.Nodup := (List.nodup_append.mp hB.1).1
        have aft0 : ∀ c, ¬ c = N → upd (zA τ1 2) N (-1) c = zA τ 2 c := fun c hc => by rw [upd_at, if_neg hc, tA 2 (by decide)]
        have hF0 : JF 0 inp (inp.length * (sz / (w + 1))) (zA (sI (wrp10M (sI τ1 17 0) N ((od + 1) * (w + 1))) 16 0) 3) (zA (sI (wrp10M (sI τ1 17 0) N ((od + 1) * (w + 1))) 16 0) 4) (zA (sI (wrp10M (sI τ1 17 0) N ((od + 1) * (w + 1))) 16 0) 5) (zA (sI (wrp10M (sI τ1 17 0) N ((od + 1) * (w + 1))) 16 0) 2) := by
          refine JF_keep hM.2.2.2.2.2.2.2 ?_ ?_ ?_ (fun b hb => aft0 b (fun q => hNi (q ▸ hb)))
          · exact congrFun (tA 3 (by decide)) 0
          · exact congrFun (tA 4 (by decide)) 0
          · exact congrFun (tA 5 (by decide)) 0
        obtain ⟨τ2, hh, hJF, hoth, haft, hfr2⟩ := m_hang (n := n) (f := 0) (b := N) (k := od + 1) (by decide) (by omega) hF0 (fun c hc => by have := (j_inp hB).1 c hc; omega) hind hNi (by show upd (zA τ1 2) N (-1) N = -1; rw [upd_at, if_pos rfl])
        have hadd : fX6_add_0 n nb (zrv (zI σ 17) (zA σ 5)) (nI N) = some (sI (sA (zrv (nI inp.length) (zA σ 5)) 0 (upd (zA σ 5) inp.length (nI N))) 0 (nI (inp.length + 1))) := by
          rw [hin.1]
          refine c_add ?_ hnb
          have h1 := nd_le nb (N :: inp) (List.nodup_cons.mpr ⟨hNi, hind⟩) (fun x hx => by
            rcases List.mem_cons.mp hx with q | q
            · omega
            · exact (j_inp hB).1 x q)
          simp only [List.length_cons] at h1
          omega
        rw [zb_s hadd] at hc
        rw [nI_0] at hh
        rw [zb_s hh] at hm
        have i2 := fun k => hfr2.1 k (List.not_mem_nil)
        have hput : dM nb sz τ2 = dPut (dC nb sz σ) N (zL σ1 1) ((od + 1) * (w + 1)) := by
          have e1 : dM nb sz τ2 = dM nb sz (sI (wrp10M (sI τ1 17 0) N ((od + 1) * (w + 1))) 16 0) := by
            unfold dM
            rw [hfr2.2.2.1 0 (List.not_mem_nil), hfr2.2.1 0 (by decide), i2 10, i2 11, i2 12, i2 13, i2 15]
          rw [e1]
          show dM nb sz (wrp10M (sI τ1 17 0) N ((od + 1) * (w + 1))) = _
          rw [dM_wr_p10 hNb hod2 hsz, show dM nb sz (sI τ1 17 0) = dM nb sz τ1 from rfl, gd, hd]
          exact dPut_row (fun k hk => hdesk k (by omega))
        have hputc : ∀ q v, dC nb sz (sI (sI (sA (sI (stp13C sz σ1 N ((od + 1) * (w + 1))) 17 q) 5 v) 12 0) 13 (zI σ 13 + 1)) = dPut (dC nb sz σ) N (zL σ1 1) ((od + 1) * (w + 1)) := by
          intro q v
          show dC nb sz (stp13C sz σ1 N ((od + 1) * (w + 1))) = _
          rw [dC_st_p13 hNb hod2, gd2]
        refine ⟨_, _, _, _, hc, hm, (i2 0).trans (t1 0 (by decide)), Or.inl ⟨hret, rfl, i2 17, (s1 7).trans hon, ?_, 0, inp ++ [N], ?_⟩⟩
        · show zI τ2 9 + 1 = _
          rw [i2 9]
          show zI τ1 9 + 1 = _
          rw [t1 9 (by decide), hD1, hcm1]
        · refine ⟨⟨(i2 1).trans ((t1 1 (by decide)).trans hS.1), (i2 2).trans ((t1 2 (by decide)).trans hS.2.1), (i2 3).trans ((t1 3 (by decide)).trans hS.2.2.1), (s1 1).trans hS.2.2.2.1, (s1 27).trans hS.2.2.2.2.1, tok⟩, ⟨hW.1, hW.2.1, (i2 6).trans ((t1 6 (by decide)).trans hW.2.2.1), (s1 9).trans hW.2.2.2.1, (s1 10).trans hW.2.2.2.2.1, (s1 11).trans hW.2.2.2.2.2⟩, ⟨hK.1, (i2 7).trans ((t1 7 (by decide)).trans hK.2.1), (s1 8).trans hK.2.2.1, ?_⟩, ?_, ⟨?_, by omega, rfl, rfl, ?_, hcm1⟩, ?_, ?_, ?_, ?_, ?_, ?_, ?_, ?_⟩
          · show JK w kn (zA τ2 8) (zA τ2 9) (zA σ1 1) (zA σ1 2)
            rw [hfr2.2.1 8 (by decide), hfr2.2.1 9 (by decide), sA' 1, sA' 2]
            show JK w kn (zA τ1 8) (zA τ1 9) _ _
            rw [tA 8 (by decide), tA 9 (by decide)]
            exact hK.2.2.2
          · show zI τ2 8 = zI σ1 0 ∧ (zI σ1 0 = 0 ∨ zI σ1 0 = 1 ∨ zI σ1 0 = 2)
            rw [i2 8, s1 0]
            show zI τ1 8 = _ ∧ _
            rw [t1 8 (by decide)]
            exact hmo
          · show zI τ2 9 + 1 = zI σ 13 + 1
            rw [i2 9]
            show zI τ1 9 + 1 = _
            rw [t1 9 (by decide), hD1]
          · intro k hk
            show zL τ2 1 k = zL σ1 1 k
            rw [hfr2.2.2.1 1 (List.not_mem_nil)]
            exact hdesk k hk
          · show zI τ2 16 = zI σ1 7 ∧ (zI σ1 7 = 0 ∨ zI σ1 7 = 1)
            rw [i2 16, s1 7, hon]
            exact ⟨rfl, Or.inl rfl⟩
          · show dM nb sz τ2 = _
            rw [hput, hputc]
          · right
            show zI τ2 14 = zI τ2 13
            rw [i2 14, i2 13]
            rfl
          · refine ⟨?_, fun j b hj => ?_⟩
            · show nI (inp.length + 1) = _
              rw [List.length_append]
              rfl
            · show upd (zA σ 5) inp.length (nI N) j = nI b
              rw [upd_at]
              rcases Nat.lt_or_ge j inp.length with q | q
              · rw [List.getElem?_append_left q] at hj
                rw [if_neg (by omega)]
                exact hin.2 j b hj
              · have h2 := (List.getElem?_eq_some_iff.mp hj).1
                rw [List.length_append] at h2
                have h3 : j = inp.length := by simp only [List.length_cons, List.length_nil] at h2; omega
                rw [h3, List.getElem?_append_right (Nat.le_refl _), Nat.sub_self] at hj
                rw [if_pos h3]
                cases hj
                rfl
          · show JC rs (zA σ1 16) (zI σ1 32) (zA σ1 3) (zA σ1 4)
            rw [sA' 16, s1 32, sA' 3, sA' 4]
            exact hC
          · show JM (sz / (w + 1)) (inp ++ [N]) rs fs (zI τ2 4) (zA τ2 6) (zA τ2 7) (zA τ2 3) (zA τ2 4) (zA τ2 5) (zA τ2 2)
            refine ⟨?_, hM.2.1, hM.2.2.1, hM.2.2.2.1, ?_, ?_, ?_, ?_⟩
            · rw [i2 4]
              exact (t1 4 (by decide)).trans hM.1
            · rw [hfr2.2.1 6 (by decide)]
              show ∀ f, f < 208 → (zA τ1 6 f = 0 ↔ _)
              rw [tA 6 (by decide)]
              exact hM.2.2.2.2.1
            · rw [hfr2.2.1 7 (by decide)]
              show ∀ (j f : Nat), fs[j]? = some f → zA τ1 7 j = nI f
              rw [tA 7 (by decide)]
              exact hM.2.2.2.2.2.1
            · intro j f r hj hr
              have hf := hM.2.2.2.1 f (List.mem_of_getElem? hj)
              obtain ⟨o1, o2, o3⟩ := hoth f (by omega)
              refine JF_keep (hM.2.2.2.2.2.2.1 j f r hj hr) (o1.trans ?_) (o2.trans ?_) (o3.trans ?_) (fun b hb => ?_)
              · exact congrFun (tA 3 (by decide)) f
              · exact congrFun (tA 4 (by decide)) f
              · exact congrFun (tA 5 (by decide)) f
              · have hrm := List.mem_of_getElem? hr
                rw [haft b (fun q => (List.nodup_append.mp hB.1).2.2 b q b (List.mem_flatMap.mpr ⟨r, hrm, hb⟩) rfl)]
                exact aft0 b (fun q => hNr r hrm (q ▸ hb))
            · rw [show (inp ++ [N]).length * (sz / (w + 1)) = inp.length * (sz / (w + 1)) + (od + 1) by rw [List.length_append, Nat.add_mul, hpeq]; simp]
              exact hJF
          · rw [hputc]
            refine ⟨?_, fun b hb => ?_, hB.2.2⟩
            · have hp : (inp ++ [N] ++ rs.flatMap (fun r => r.1)).Perm (N :: (inp ++ rs.flatMap (fun r => r.1))) := by
                rw [List.append_assoc]
                exact List.perm_middle
              exact hp.symm.nodup (List.nodup_cons.mpr ⟨hNin, hB.1⟩)
            · rw [List.append_assoc] at hb
              rcases List.mem_append.mp hb with q | q
              · have := hB.2.1 b (List.mem_append_left _ q)
                exact ⟨this.1, dPut_used this.2⟩
              · rcases List.mem_append.mp q with q | q
                · rw [List.mem_singleton.mp q]
                  exact ⟨hNb, dPut_here⟩
                · have := hB.2.1 b (List.mem_append_right _ q)
                  exact ⟨this.1, dPut_used this.2⟩
          · rw [hputc]
            show JN (cm + 1) (sz / (w + 1)) w 0 (inp ++ [N]) rs _ (zL σ1 1)
            have e3 : nmR (sz / (w + 1)) w (dPut (dC nb sz σ) N (zL σ1 1) ((od + 1) * (w + 1))).1 inp (inp.length * (sz / (w + 1))) = nmR (sz / (w + 1)) w (dC nb sz σ).1 inp (inp.length * (sz / (w + 1))) := nmR_congr (fun b hb => dPut_cell (fun q => hNi (q ▸ hb))) hper (Nat.le_refl _)
            have e1 : nmR (sz / (w + 1)) w (dPut (dC nb sz σ) N (zL σ1 1) ((od + 1) * (w + 1))).1 (inp ++ [N]) ((inp ++ [N]).length * (sz / (w + 1))) = nmR (sz / (w + 1)) w (dC nb sz σ).1 inp (inp.length * (sz / (w + 1))) ++ nmD w (od + 1) (zL σ1 1) := by
              rw [show (inp ++ [N]).length * (sz / (w + 1)) = inp.length * (sz / (w + 1)) + (od + 1) by rw [List.length_append, Nat.add_mul, hpeq]; simp, nmR_snoc hper (by omega), e3]
              congr 1
              unfold nmD
              apply List.map_congr_left
              intro i hi
              have hi2 := List.mem_range.mp hi
              have := Nat.mul_le_mul_right (w + 1) (show i + 1 ≤ od + 1 from hi2)
              rw [Nat.add_mul, Nat.one_mul] at this
              show (if N = N ∧ i * (w + 1) + w < (od + 1) * (w + 1) then _ else _) = _
              rw [if_pos ⟨rfl, by omega⟩]
            have e2 : rs.flatMap (fun r => nmR (sz / (w + 1)) w (dPut (dC nb sz σ) N (zL σ1 1) ((od + 1) * (w + 1))).1 r.1 r.2) = rs.flatMap (fun r => nmR (sz / (w + 1)) w (dC nb sz σ).1 r.1 r.2) := flat_congr (fun r hr => nmR_congr (fun b hb => dPut_cell (fun q => hNr r hr (q ▸ hb))) hper (hB.2.2 r hr).2.1)
            unfold JN
            rw [e1, e2, show nmD w 0 (zL σ1 1) = [] from rfl, List.append_nil]
            exact hNx
