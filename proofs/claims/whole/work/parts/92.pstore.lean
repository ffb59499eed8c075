/-! ===== the store of runs: files and chains, in any order ===== -/
def JS (cm nb sz mm w od kn : Nat) (inp : List Nat) (ps : List (Nat × List Nat × Nat)) (σ τ : zS) : Prop :=
  SC nb sz mm w kn σ τ ∧
  (zI τ 9 = zI σ 13 ∧ od < sz / (w + 1) ∧ zI τ 5 = nI od ∧ zI σ 12 = nI od ∧ (∀ k, k < sz → zL τ 1 k = zL σ 1 k) ∧ zI σ 13 = nI cm) ∧
  dM nb sz τ = dC nb sz σ ∧
  ((inp = [] ∧ ps = []) ∨ zI τ 14 = zI τ 13) ∧
  (zI σ 17 = nI inp.length ∧ (∀ (j b : Nat), inp[j]? = some b → zA σ 5 j = nI b)) ∧
  (∀ p ∈ ps, chC (zA σ 3) p.2.1 ∧ zA σ 4 (p.2.1.headD 0) = nI p.2.2) ∧
  ((ps.map (fun p => p.1)).Nodup ∧ (∀ p ∈ ps, 1 ≤ p.1 ∧ p.1 < 208) ∧ (∀ f, f < 208 → (zA τ 6 f = 0 ↔ ¬ (f = 0 ∨ f ∈ ps.map (fun p => p.1)))) ∧ (∀ p ∈ ps, JF p.1 p.2.1 p.2.2 (zA τ 3) (zA τ 4) (zA τ 5) (zA τ 2)) ∧ JF 0 inp (inp.length * (sz / (w + 1))) (zA τ 3) (zA τ 4) (zA τ 5) (zA τ 2)) ∧
  JB nb (sz / (w + 1)) inp (ps.map (fun p => p.2)) (dC nb sz σ).2.1 ∧
  JN cm (sz / (w + 1)) w od inp (ps.map (fun p => p.2)) (dC nb sz σ).1 (zL σ 1)
/-- the runs in their order -/
def SH (ps : List (Nat × List Nat × Nat)) (σ τ : zS) : Prop :=
  zI σ 32 = nI ps.length ∧ (∀ (j : Nat) (p : Nat × List Nat × Nat), ps[j]? = some p → zA σ 16 j = nI (p.2.1.headD 0)) ∧ zI τ 4 = nI ps.length ∧ (∀ (j : Nat) (p : Nat × List Nat × Nat), ps[j]? = some p → zA τ 7 j = nI p.1)
theorem zip_get {fs : List Nat} {rs : List (List Nat × Nat)} (h : fs.length = rs.length) {j : Nat} {p : Nat × List Nat × Nat} (hp : (fs.zip rs)[j]? = some p) : fs[j]? = some p.1 ∧ rs[j]? = some p.2 := by
  rw [List.getElem?_zip_eq_some] at hp
  exact hp
theorem jj_js {cm nb sz mm w od kn : Nat} {inp : List Nat} {rs : List (List Nat × Nat)} {fs : List Nat} {σ τ : zS} (h : JJ cm nb sz mm w od kn inp rs fs σ τ) : JS cm nb sz mm w od kn inp (fs.zip rs) σ τ ∧ SH (fs.zip rs) σ τ := by
  obtain ⟨hS, hW, hK, hmo, hD, hoff, hd, hlat, hin, hC, hM, hB, hN⟩ := h
  have hl : fs.length = rs.length := hM.2.1
  have e1 : (fs.zip rs).map (fun p => p.1) = fs := List.map_fst_zip (by omega)
  have e2 : (fs.zip rs).map (fun p => p.2) = rs := List.map_snd_zip (by omega)
  have e3 : (fs.zip rs).length = rs.length := by rw [List.length_zip]; omega
  have hmem : ∀ p ∈ fs.zip rs, ∃ j, fs[j]? = some p.1 ∧ rs[j]? = some p.2 := fun p hp => by
    obtain ⟨j, hj⟩ := List.getElem?_of_mem hp
    exact ⟨j, zip_get hl hj⟩
  refine ⟨⟨⟨hS, hW, hK, hmo⟩, hD, hd, ?_, hin, ?_, ⟨?_, ?_, ?_, ?_, hM.2.2.2.2.2.2.2⟩, ?_, ?_⟩, ?_, ?_, ?_, ?_⟩
  · rcases hlat with ⟨q1, q2⟩ | q
    · exact Or.inl ⟨q1, by rw [q2, List.zip_nil_right]⟩
    · exact Or.inr q
  · intro p hp
    obtain ⟨j, h1, h2⟩ := hmem p hp
    exact hC.2.2 p.2 (List.mem_of_getElem? h2)
  · rw [e1]; exact hM.2.2.1
  · intro p hp
    obtain ⟨j, h1, h2⟩ := hmem p hp
    exact hM.2.2.2.1 p.1 (List.mem_of_getElem? h1)
  · rw [e1]; exact hM.2.2.2.2.1
  · intro p hp
    obtain ⟨j, h1, h2⟩ := hmem p hp
    exact hM.2.2.2.2.2.2.1 j p.1 p.2 h1 h2
  · rw [e2]; exact hB
  · rw [e2]; exact hN
  · rw [e3]; exact hC.1
  · intro j p hp
    exact hC.2.1 j p.2 (zip_get hl hp).2
  · rw [e3]; exact hM.1
  · intro j p hp
    exact hM.2.2.2.2.2.1 j p.1 (zip_get hl hp).1
theorem js_jj {cm nb sz mm w od kn : Nat} {inp : List Nat} {ps : List (Nat × List Nat × Nat)} {σ τ : zS} (h : JS cm nb sz mm w od kn inp ps σ τ) (hs : SH ps σ τ) (hoff : zI τ 16 = zI σ 7 ∧ (zI σ 7 = 0 ∨ zI σ 7 = 1)) : JJ cm nb sz mm w od kn inp (ps.map (fun p => p.2)) (ps.map (fun p => p.1)) σ τ := by
  obtain ⟨⟨hS, hW, hK, hmo⟩, hD, hd, hlat, hin, hC, ⟨hf1, hf2, hf3, hf4, hf5⟩, hB, hN⟩ := h
  have hg : ∀ (j : Nat) (r : List Nat × Nat), (ps.map (fun p => p.2))[j]? = some r → ∃ p, ps[j]? = some p ∧ p.2 = r := fun j r hr => by
    rw [List.getElem?_map] at hr
    cases h : ps[j]? with
    | none => rw [h] at hr; cases hr
    | some p => rw [h] at hr; cases hr; exact ⟨p, rfl, rfl⟩
  have hg1 : ∀ (j f : Nat), (ps.map (fun p => p.1))[j]? = some f → ∃ p, ps[j]? = some p ∧ p.1 = f := fun j r hr => by
    rw [List.getElem?_map] at hr
    cases h : ps[j]? with
    | none => rw [h] at hr; cases hr
    | some p => rw [h] at hr; cases hr; exact ⟨p, rfl, rfl⟩
  refine ⟨hS, hW, hK, hmo, hD, hoff, hd, ?_, hin, ⟨?_, ?_, ?_⟩, ⟨?_, ?_, hf1, ?_, hf3, ?_, ?_, hf5⟩, hB, hN⟩
  · rcases hlat with ⟨q1, q2⟩ | q
    · exact Or.inl ⟨q1, by rw [q2]; rfl⟩
    · exact Or.inr q
  · rw [List.length_map]; exact hs.1
  · intro j r hr
    obtain ⟨p, h1, rfl⟩ := hg j r hr
    exact hs.2.1 j p h1
  · intro r hr
    obtain ⟨p, hp, rfl⟩ := List.mem_map.mp hr
    exact hC p hp
  · rw [List.length_map]; exact hs.2.2.1
  · rw [List.length_map, List.length_map]
  · intro f hf
    obtain ⟨p, hp, rfl⟩ := List.mem_map.mp hf
    exact hf2 p hp
  · intro j f hf
    obtain ⟨p, hp, rfl⟩ := hg1 j f hf
    exact hs.2.2.2 j p hp
  · intro j f r hf hr
    obtain ⟨p, hp, rfl⟩ := hg1 j f hf
    obtain ⟨p', hp', rfl⟩ := hg j r hr
    rw [hp] at hp'
    cases hp'
    exact hf4 p (List.mem_of_getElem? hp)
theorem JB_perm {nb per : Nat} {inp : List Nat} {rs rs' : List (List Nat × Nat)} {u : Nat → Bool} (h : JB nb per inp rs u) (hp : rs.Perm rs') : JB nb per inp rs' u := by
  have hq : (inp ++ rs.flatMap (fun r => r.1)).Perm (inp ++ rs'.flatMap (fun r => r.1)) := List.Perm.append_left _ (List.Perm.flatMap_right _ hp)
  exact ⟨hq.nodup h.1, fun b hb => h.2.1 b (hq.symm.subset hb), fun r hr => h.2.2 r (hp.symm.subset hr)⟩
theorem JS_perm {cm nb sz mm w od kn : Nat} {inp : List Nat} {ps ps' : List (Nat × List Nat × Nat)} {σ τ : zS} (h : JS cm nb sz mm w od kn inp ps σ τ) (hp : ps.Perm ps') : JS cm nb sz mm w od kn inp ps' σ τ := by
  obtain ⟨hS, hD, hd, hlat, hin, hC, ⟨hf1, hf2, hf3, hf4, hf5⟩, hB, hN⟩ := h
  have hm1 := hp.map (fun p => p.1)
  have hm2 := hp.map (fun p => p.2)
  refine ⟨hS, hD, hd, ?_, hin, fun p hp' => hC p (hp.symm.subset hp'), ⟨hm1.nodup hf1, fun p hp' => hf2 p (hp.symm.subset hp'), fun f hf => ?_, fun p hp' => hf4 p (hp.symm.subset hp'), hf5⟩, JB_perm hB hm2, ?_⟩
  · rcases hlat with ⟨q1, q2⟩ | q
    · exact Or.inl ⟨q1, by rw [q2] at hp; exact List.Perm.nil_eq hp |>.symm⟩
    · exact Or.inr q
  · rw [hf3 f hf]
    constructor
    · exact fun q z => q (z.elim Or.inl (fun z => Or.inr (hm1.symm.subset z)))
    · exact fun q z => q (z.elim Or.inl (fun z => Or.inr (hm1.subset z)))
  · have hq := List.Perm.append_left (nmR (sz / (w + 1)) w (dC nb sz σ).1 inp (inp.length * (sz / (w + 1))) ++ nmD w od (zL σ 1)) (List.Perm.flatMap_right (fun r => nmR (sz / (w + 1)) w (dC nb sz σ).1 r.1 r.2) hm2)
    exact ⟨hq.nodup hN.1, fun x hx => hN.2 x (hq.symm.subset hx)⟩
theorem nd_sub : ∀ (l1 l2 : List Nat), l1.Nodup → (∀ x ∈ l1, x ∈ l2) → l1.length ≤ l2.length := by
  intro l1
  induction l1 with
  | nil => intro l2 _ _; exact Nat.zero_le _
  | cons a t ih =>
    intro l2 hn hs
    have ha := hs a List.mem_cons_self
    obtain ⟨hn1, hn2⟩ := List.nodup_cons.mp hn
    have h1 := ih (l2.erase a) hn2 (fun x hx => (List.mem_erase_of_ne (fun q => hn1 (by rw [← q]; exact hx))).mpr (hs x (List.mem_cons_of_mem _ hx)))
    rw [List.length_erase_of_mem ha] at h1
    have h2 : 0 < l2.length := List.length_pos_of_mem ha
    simp only [List.length_cons]
    omega
theorem js_many {cm nb sz mm w od kn : Nat} {inp : List Nat} {ps : List (Nat × List Nat × Nat)} {σ τ : zS} (h : JS cm nb sz mm w od kn inp ps σ τ) : inp.length + ps.length ≤ nb := by
  have := j_many h.2.2.2.2.2.2.2.1
  rw [List.length_map] at this
  exact this
/-- a new file -/
def nfM (τ : zS) (mk : Nat) : zS := sI (sI (sI (sA (sA (sA (sA τ 6 (upd (zA τ 6) mk 1)) 3 (upd (zA τ 3) mk (-1))) 4 (upd (zA τ 4) mk (-1))) 5 (upd (zA τ 5) mk 0)) 18 (nI mk)) 19 0) 20 0
theorem m_beginRun {n : Nat} {fl : List Nat} {τ : zS} (hn : 300 < n) (hl : fl.length ≤ 205) (hth : ∀ f, f < 208 → (zA τ 6 f = 0 ↔ ¬ (f = 0 ∨ f ∈ fl))) : ∃ mk, 1 ≤ mk ∧ mk < 208 ∧ ¬ mk ∈ fl ∧ fX10_beginRun_0 n τ = some (nfM τ mk) := by
  let u := fun j : Nat => decide (¬ zA τ 6 (j + 1) = 0)
  have hle := dLf_le u 207 0
  have hus := dLf_used u 207 0
  have hfr := dLf_free u 207 0
  generalize dLf u 207 0 = N at hle hus hfr
  have hu : ∀ j, j < N → ¬ zA τ 6 (j + 1) = 0 := fun j hj => of_decide_eq_true (hus j (Nat.zero_le _) hj)
  have hN : N < 207 := by
    rcases Nat.lt_or_ge N 207 with q | q
    · exact q
    · exfalso
      have hall : ∀ x ∈ (List.range 207).map (· + 1), x ∈ fl := by
        intro x hx
        obtain ⟨j, hj, rfl⟩ := List.mem_map.mp hx
        have hj2 := List.mem_range.mp hj
        have h1 := hu j (by omega)
        rw [hth (j + 1) (by omega)] at h1
        have h2 := Decidable.not_not.mp h1
        exact h2.resolve_left (by omega)
      have hnd : ((List.range 207).map (· + 1)).Nodup := by decide +kernel
      have := nd_sub _ fl hnd hall
      rw [List.length_map, List.length_range] at this
      omega
  have hz : zA τ 6 (N + 1) = 0 := by
    have := hfr (by omega)
    by_cases q : zA τ 6 (N + 1) = 0
    · exact q
    · exact absurd (decide_eq_true q) this
  have hnot := (hth (N + 1) (by omega)).mp hz
  refine ⟨N + 1, by omega, by omega, fun q => hnot (Or.inr q), ?_⟩
  have hlp : zlp (fX10_newFile_L2_2 n τ) n 1 = some (nI (N + 1)) := by
    have e0 : (1 : Int32) = (fun j => nI (j + 1)) 0 := rfl
    rw [e0]
    refine zlp_for (β := Int32) (fun j => nI (j + 1)) _ N 0 n (fun j _ hj => ?_) ?_ (by omega)
    · unfold fX10_newFile_L2_2
      rw [zg_in (by omega) (by decide), nI_clamp (by omega), if_neg (hu j (by omega)), nI_1]
    · unfold fX10_newFile_L2_2
      rw [Nat.zero_add, zg_in (by omega) (by decide), nI_clamp (by omega), if_pos hz]
  unfold fX10_beginRun_0 fX10_newFile_0
  rw [zb_s hlp, zg_in (show N + 1 < 208 by omega) (by decide), zg_in (show N + 1 < 208 by omega) (by decide), zg_in (show N + 1 < 208 by omega) (by decide), zg_in (show N + 1 < 208 by omega) (by decide), nI_clamp (by omega), nar1]
  rfl
