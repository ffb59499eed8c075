theorem OR_fr {nb sz w : Nat} {us : Nat → Bool} {cl : Nat → Nat → Int64} {md sm : Int32} {op ct : Nat} {cb : List Nat} {wp : Option (Nat × Nat)} {mk : Nat} {on : List Int64} {σ τ σ' τ' : zS} {I A L I' A' L' : List Nat} (h : OR nb sz w us cl md sm op ct cb wp mk on σ τ) (f : zfr I A L σ σ') (f' : zfr I' A' L' τ τ') (hI : ∀ k ∈ [18, 19, 20, 21, 22, 23, 24], ¬ k ∈ I) (hA : ¬ 3 ∈ A) (hL : ∀ k ∈ [0, 2], ¬ k ∈ L) (hI' : ∀ k ∈ [18, 19], ¬ k ∈ I') (hA' : ∀ k ∈ [2, 3, 4, 5], ¬ k ∈ A') (hL' : ∀ k ∈ [2, 3], ¬ k ∈ L') : OR nb sz w us cl md sm op ct cb wp mk on σ' τ' := by
  have hcell : (dC nb sz σ').1 = (dC nb sz σ).1 := by
    unfold dC
    rw [f.2.2.1 0 (hL 0 (by decide))]
  unfold OR
  rw [hcell, f.1 18 (hI 18 (by decide)), f.1 19 (hI 19 (by decide)), f.1 20 (hI 20 (by decide)), f.1 21 (hI 21 (by decide)), f.1 22 (hI 22 (by decide)), f.1 23 (hI 23 (by decide)), f.1 24 (hI 24 (by decide)), f.2.1 3 hA, f.2.2.1 2 (hL 2 (by decide)), f'.1 18 (hI' 18 (by decide)), f'.1 19 (hI' 19 (by decide)), f'.2.1 2 (hA' 2 (by decide)), f'.2.1 3 (hA' 3 (by decide)), f'.2.1 4 (hA' 4 (by decide)), f'.2.1 5 (hA' 5 (by decide)), f'.2.2.1 2 (hL' 2 (by decide)), f'.2.2.1 3 (hL' 3 (by decide))]
  exact h
theorem frU_app (u : Nat → Int32) (l l' : List Nat) : frU (frU u l) l' = frU u (l ++ l') := by
  funext k
  unfold frU
  by_cases c : k ∈ l'
  · rw [if_pos c, if_pos (List.mem_append_right _ c)]
  · rw [if_neg c]
    by_cases d : k ∈ l
    · rw [if_pos d, if_pos (List.mem_append_left _ d)]
    · rw [if_neg d, if_neg (fun q => (List.mem_append.mp q).elim d c)]
theorem take_snocG {α : Type} {l : List α} {j : Nat} {b : α} (h : l[j]? = some b) : l.take (j + 1) = l.take j ++ [b] := by
  rw [List.take_succ, h]
  rfl
/-- the runs of a group are given back: the class -/
theorem c_mfree {n nb sz mm w : Nat} {us : Nat → Bool} {gs : List (Nat × List Nat × Nat)} {σ τ : zS} (hn : 300 < n) (hnb : nb ≤ 200) (hg : GF nb sz w us gs) (hc : GC gs σ τ) (h29 : zI σ 29 = nI gs.length) (h8 : gs.length ≤ 8) (h10 : ∀ (j : Nat) (p : Nat × List Nat × Nat), gs[j]? = some p → zA σ 10 j = nI (p.2.1.headD 0)) :
    zlp (fX4_merge_L108_108 n nb sz mm) n (0, σ) = some (sA σ 0 (frU (zA σ 0) (gs.flatMap (fun p => p.2.1)))) := by
  have e0 : ((0 : Int32), σ) = (fun j => (nI j, sA σ 0 (frU (zA σ 0) ((gs.take j).flatMap (fun p => p.2.1))))) 0 := by
    show _ = (nI 0, sA σ 0 (frU (zA σ 0) ((gs.take 0).flatMap (fun p => p.2.1))))
    rw [List.take_zero, List.flatMap_nil, frU_nil, sA_id]
    rfl
  rw [e0]
  refine zlp_for (β := zS) (fun j => (nI j, sA σ 0 (frU (zA σ 0) ((gs.take j).flatMap (fun p => p.2.1))))) _ gs.length 0 n (fun j _ hj => ?_) ?_ (by omega)
  · have hj2 : j < gs.length := by omega
    have e := List.getElem?_eq_getElem hj2
    obtain ⟨f1, f1', f2, f3, f4, f5, f6⟩ := hg _ (List.mem_of_getElem? e)
    obtain ⟨c1, c2, c3⟩ := hc _ (List.mem_of_getElem? e)
    unfold fX4_merge_L108_108 fX6_size_0
    dsimp only
    show zb (some (zI σ 29)) (fun q1 => if q1 ≤ nI j then _ else zb (fX6_get_0 n 8 (zrv (zI σ 29) (zA σ 10)) (nI j)) _) = _
    rw [zb_s rfl, h29, if_neg (show ¬ nI gs.length ≤ nI j from fun q => by rw [nI_leI (by omega) (by omega)] at q; omega), zb_s (c_get (m := gs.length) rfl hj2 h8 (by decide)), h10 j _ e, zb_s (c_remove (σ := sA σ 0 (frU (zA σ 0) ((gs.take j).flatMap (fun p => p.2.1)))) hn hnb f2 c1 (fun b hb => (f6 b hb).1) f5), sA_sA, nI_1, show zA (sA σ 0 (frU (zA σ 0) ((gs.take j).flatMap (fun p => p.2.1)))) 0 = frU (zA σ 0) ((gs.take j).flatMap (fun p => p.2.1)) from rfl, frU_app, take_snocG e, List.flatMap_append, List.flatMap_cons, List.flatMap_nil, List.append_nil]
  · unfold fX4_merge_L108_108 fX6_size_0
    dsimp only
    show zb (some (zI σ 29)) (fun q1 => if q1 ≤ nI (0 + gs.length) then _ else _) = _
    rw [zb_s rfl, h29, Nat.zero_add, if_pos (nI_le (Nat.le_refl _) (by omega)), List.take_length]
/-- the same: the reference -/
theorem m_mfree {n nb sz w : Nat} {us : Nat → Bool} {gs : List (Nat × List Nat × Nat)} {σ τ : zS} (hn : 300 < n) (hnb : nb ≤ 200) (hg : GF nb sz w us gs) (hc : GC gs σ τ) (hnd : (gs.map (fun p => p.1)).Nodup) (h8 : gs.length ≤ 8) (h13 : ∀ (j : Nat) (p : Nat × List Nat × Nat), gs[j]? = some p → zA τ 13 j = nI p.1) :
    ∃ τ', zlp (fX10_merge_L141_141 n (nI gs.length)) n (0, τ) = some τ' ∧ zA τ' 0 = frU (zA τ 0) (gs.flatMap (fun p => p.2.1)) ∧ (∀ f, zA τ' 6 f = if f ∈ gs.map (fun p => p.1) then 0 else zA τ 6 f) ∧ (∀ f, ¬ f ∈ gs.map (fun p => p.1) → zA τ' 3 f = zA τ 3 f ∧ zA τ' 4 f = zA τ 4 f ∧ zA τ' 5 f = zA τ 5 f) ∧ zfr [] [0, 3, 4, 5, 6] [] τ τ' := by
  have hl := zlp_tot (body := fX10_merge_L141_141 n (nI gs.length)) (fun m a => ∃ i τ1, a = (nI i, τ1) ∧ i ≤ gs.length ∧ m = gs.length - i ∧ zA τ1 0 = frU (zA τ 0) ((gs.take i).flatMap (fun p => p.2.1)) ∧ (∀ f, zA τ1 6 f = if f ∈ (gs.take i).map (fun p => p.1) then 0 else zA τ 6 f) ∧ (∀ f, ¬ f ∈ (gs.take i).map (fun p => p.1) → zA τ1 3 f = zA τ 3 f ∧ zA τ1 4 f = zA τ 4 f ∧ zA τ1 5 f = zA τ 5 f) ∧ zfr [] [0, 3, 4, 5, 6] [] τ τ1)
    (fun τ' => zA τ' 0 = frU (zA τ 0) (gs.flatMap (fun p => p.2.1)) ∧ (∀ f, zA τ' 6 f = if f ∈ gs.map (fun p => p.1) then 0 else zA τ 6 f) ∧ (∀ f, ¬ f ∈ gs.map (fun p => p.1) → zA τ' 3 f = zA τ 3 f ∧ zA τ' 4 f = zA τ 4 f ∧ zA τ' 5 f = zA τ 5 f) ∧ zfr [] [0, 3, 4, 5, 6] [] τ τ')
    (fun m a hP => by
      obtain ⟨i, τ1, rfl, hi, rfl, k1, k2, k3, k4⟩ := hP
      unfold fX10_merge_L141_141
      dsimp only
      by_cases c : i = gs.length
      · right
        rw [if_pos (nI_le (show gs.length ≤ i by omega) (by omega))]
        rw [c, List.take_length] at k1 k2 k3
        exact ⟨_, rfl, k1, k2, k3, k4⟩
      · left
        have hil : i < gs.length := by omega
        have e := List.getElem?_eq_getElem hil
        generalize gs[i] = p at e
        obtain ⟨f1, f1', f2, f3, f4, f5, f6⟩ := hg p (List.mem_of_getElem? e)
        obtain ⟨c1, c2, c3⟩ := hc p (List.mem_of_getElem? e)
        have hpn : ¬ p.1 ∈ (gs.take i).map (fun p => p.1) := by
          obtain ⟨s1, -⟩ := er_split e
          rw [s1, List.map_append, List.map_cons] at hnd
          exact fun q => (List.nodup_append.mp hnd).2.2 p.1 q p.1 List.mem_cons_self rfl
        obtain ⟨x1, x2, x3⟩ := k3 p.1 hpn
        have hF : JF p.1 p.2.1 p.2.2 (zA τ1 3) (zA τ1 4) (zA τ1 5) (zA τ1 2) := JF_keep c3 x1 x2 x3 (fun b _ => congrFun (k4.2.1 2 (by decide)) b)
        rw [if_neg (show ¬ nI gs.length ≤ nI i from fun q => by rw [nI_leI (by omega) (by omega)] at q; omega), zg_in (show i < 8 by omega) (by decide), nI_clamp (by omega), show zA τ1 13 i = nI p.1 from (congrFun (k4.2.1 13 (by decide)) i).trans (h13 i p e), zb_s (m_free hn f1 f1' f2 hF (fun b hb => by have := (f6 b hb).1; omega) (by omega)), nI_1]
        refine ⟨_, gs.length - (i + 1), by omega, rfl, i + 1, _, rfl, by omega, rfl, ?_, fun f => ?_, fun f hf => ?_, ?_⟩
        · show frU (zA τ1 0) p.2.1 = _
          rw [k1, frU_app, take_snocG e, List.flatMap_append, List.flatMap_cons, List.flatMap_nil, List.append_nil]
        · show upd (zA τ1 6) p.1 0 f = _
          rw [upd_at, k2, take_snocG e, List.map_append]
          by_cases q : f = p.1
          · rw [if_pos q, if_pos (List.mem_append_right _ (by rw [q]; simp))]
          · rw [if_neg q]
            by_cases z : f ∈ (gs.take i).map (fun p => p.1)
            · rw [if_pos z, if_pos (List.mem_append_left _ z)]
            · rw [if_neg z, if_neg (fun y => (List.mem_append.mp y).elim z (fun y => q (by simpa using y)))]
        · rw [take_snocG e, List.map_append] at hf
          have q1 : ¬ f = p.1 := fun q => hf (List.mem_append_right _ (by rw [q]; simp))
          obtain ⟨y1, y2, y3⟩ := k3 f (fun q => hf (List.mem_append_left _ q))
          refine ⟨?_, ?_, ?_⟩
          · show upd (zA τ1 3) p.1 _ f = _
            rw [upd_at, if_neg q1]; exact y1
          · show upd (zA τ1 4) p.1 _ f = _
            rw [upd_at, if_neg q1]; exact y2
          · show upd (zA τ1 5) p.1 _ f = _
            rw [upd_at, if_neg q1]; exact y3
        · exact zfr_A (by decide) (zfr_A (by decide) (zfr_A (by decide) (zfr_A (by decide) (zfr_A (by decide) k4)))))
    n gs.length (0, τ) (by omega) ⟨0, τ, rfl, Nat.zero_le _, rfl, by rw [List.take_zero, List.flatMap_nil, frU_nil], fun f => by rw [List.take_zero, List.map_nil, if_neg List.not_mem_nil], fun f _ => ⟨rfl, rfl, rfl⟩, zfr_r⟩
  exact hl
theorem JN_step {cm per w od : Nat} {inp : List Nat} {gs rest : List (List Nat × Nat)} {new : List Nat × Nat} {cell cell' : Nat → Nat → Int64} {desk : Nat → Int64} {on : List Int64} (hp : 0 < per) (h : JN cm per w od inp (gs ++ rest) cell desk) (hon : on = nmR per w cell' new.1 new.2) (hnd : on.Nodup) (hsub : ∀ x ∈ on, x ∈ gs.flatMap (fun r => nmR per w cell r.1 r.2)) (hin : ∀ b ∈ inp, cell' b = cell b) (hre : ∀ r ∈ rest, r.2 ≤ r.1.length * per ∧ ∀ b ∈ r.1, cell' b = cell b) : JN cm per w od inp (new :: rest) cell' desk := by
  obtain ⟨h1, h2⟩ := h
  have e1 : nmR per w cell' inp (inp.length * per) = nmR per w cell inp (inp.length * per) := nmR_congr hin hp (Nat.le_refl _)
  have e2 : rest.flatMap (fun r => nmR per w cell' r.1 r.2) = rest.flatMap (fun r => nmR per w cell r.1 r.2) := flat_congr (fun r hr => nmR_congr (hre r hr).2 hp (hre r hr).1)
  unfold JN
  rw [List.flatMap_cons, ← hon, e1, e2]
  rw [List.flatMap_append] at h1 h2
  generalize nmR per w cell inp (inp.length * per) ++ nmD w od desk = X at h1 h2 ⊢
  generalize gs.flatMap (fun r => nmR per w cell r.1 r.2) = G at h1 h2 hsub
  generalize rest.flatMap (fun r => nmR per w cell r.1 r.2) = Y at h1 h2 ⊢
  obtain ⟨a1, a2, a3⟩ := List.nodup_append.mp h1
  obtain ⟨b1, b2, b3⟩ := List.nodup_append.mp a2
  constructor
  · refine List.nodup_append.mpr ⟨a1, List.nodup_append.mpr ⟨hnd, b2, fun x hx y hy => b3 x (hsub x hx) y hy⟩, fun x hx y hy => ?_⟩
    rcases List.mem_append.mp hy with q | q
    · exact a3 x hx y (List.mem_append_left _ (hsub y q))
    · exact a3 x hx y (List.mem_append_right _ q)
  · intro x hx
    rcases List.mem_append.mp hx with q | q
    · exact h2 x (List.mem_append_left _ q)
    · rcases List.mem_append.mp q with q | q
      · exact h2 x (List.mem_append_right _ (List.mem_append_left _ (hsub x q)))
      · exact h2 x (List.mem_append_right _ (List.mem_append_right _ q))
theorem JN_congr {cm per w od : Nat} {inp : List Nat} {rs : List (List Nat × Nat)} {cell cell' : Nat → Nat → Int64} {desk : Nat → Int64} (hp : 0 < per) (h : JN cm per w od inp rs cell desk) (hin : ∀ b ∈ inp, cell' b = cell b) (hre : ∀ r ∈ rs, r.2 ≤ r.1.length * per ∧ ∀ b ∈ r.1, cell' b = cell b) : JN cm per w od inp rs cell' desk := by
  have e1 : nmR per w cell' inp (inp.length * per) = nmR per w cell inp (inp.length * per) := nmR_congr hin hp (Nat.le_refl _)
  have e2 : rs.flatMap (fun r => nmR per w cell' r.1 r.2) = rs.flatMap (fun r => nmR per w cell r.1 r.2) := flat_congr (fun r hr => nmR_congr (hre r hr).2 hp (hre r hr).1)
  unfold JN
  rw [e1, e2]
  exact h
