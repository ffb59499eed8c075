/-! frames; a block is hung behind a file -/
def zfr (I A L : List Nat) (τ τ' : zS) : Prop := (∀ k, ¬ k ∈ I → zI τ' k = zI τ k) ∧ (∀ k, ¬ k ∈ A → zA τ' k = zA τ k) ∧ (∀ k, ¬ k ∈ L → zL τ' k = zL τ k) ∧ zT τ' = zT τ ∧ zU τ' = zU τ ∧ zV τ' = zV τ
theorem zfr_r {I A L : List Nat} {τ : zS} : zfr I A L τ τ := ⟨fun _ _ => rfl, fun _ _ => rfl, fun _ _ => rfl, rfl, rfl, rfl⟩
theorem zfr_I {I A L : List Nat} {τ τ' : zS} {k : Nat} {v : Int32} (hk : k ∈ I) (h : zfr I A L τ τ') : zfr I A L τ (sI τ' k v) := ⟨fun j hj => by rw [zI_sI, if_neg (fun q => hj (by rw [q]; exact hk))]; exact h.1 j hj, h.2.1, h.2.2⟩
theorem zfr_A {I A L : List Nat} {τ τ' : zS} {k : Nat} {v : Nat → Int32} (hk : k ∈ A) (h : zfr I A L τ τ') : zfr I A L τ (sA τ' k v) := ⟨h.1, fun j hj => by rw [zA_sA, if_neg (fun q => hj (by rw [q]; exact hk))]; exact h.2.1 j hj, h.2.2⟩
theorem zfr_L {I A L : List Nat} {τ τ' : zS} {k : Nat} {v : Nat → Int64} (hk : k ∈ L) (h : zfr I A L τ τ') : zfr I A L τ (sL τ' k v) := ⟨h.1, h.2.1, fun j hj => by rw [zL_sL, if_neg (fun q => hj (by rw [q]; exact hk))]; exact h.2.2.1 j hj, h.2.2.2⟩
theorem zfr_t {I A L I' A' L' : List Nat} {τ τ' τ'' : zS} (h : zfr I A L τ τ') (h' : zfr I' A' L' τ' τ'') (hI : ∀ k ∈ I', k ∈ I) (hA : ∀ k ∈ A', k ∈ A) (hL : ∀ k ∈ L', k ∈ L) : zfr I A L τ τ'' := ⟨fun k hk => (h'.1 k (fun q => hk (hI k q))).trans (h.1 k hk), fun k hk => (h'.2.1 k (fun q => hk (hA k q))).trans (h.2.1 k hk), fun k hk => (h'.2.2.1 k (fun q => hk (hL k q))).trans (h.2.2.1 k hk), h'.2.2.2.1.trans h.2.2.2.1, h'.2.2.2.2.1.trans h.2.2.2.2.1, h'.2.2.2.2.2.trans h.2.2.2.2.2⟩
theorem zfr_w {I A L I' A' L' : List Nat} {τ τ' : zS} (h : zfr I A L τ τ') (hI : ∀ k ∈ I, k ∈ I') (hA : ∀ k ∈ A, k ∈ A') (hL : ∀ k ∈ L, k ∈ L') : zfr I' A' L' τ τ' := zfr_t zfr_r h hI hA hL
theorem chC_congr {f g : Nat → Int32} : ∀ {l : List Nat}, (∀ b ∈ l, g b = f b) → chC f l → chC g l := by
  intro l
  induction l with
  | nil => intro _ _; trivial
  | cons a t ih =>
    intro h hc
    cases t with
    | nil =>
      show g a = -1
      rw [h a List.mem_cons_self]
      exact hc
    | cons c r =>
      show g a = nI c ∧ chC g (c :: r)
      rw [h a List.mem_cons_self]
      exact ⟨hc.1, ih (fun b hb => h b (List.mem_cons_of_mem _ hb)) hc.2⟩
theorem JF_keep {f cnt : Nat} {bl : List Nat} {F L C A F' L' C' A' : Nat → Int32} (h : JF f bl cnt F L C A) (h1 : F' f = F f) (h2 : L' f = L f) (h3 : C' f = C f) (h4 : ∀ b ∈ bl, A' b = A b) : JF f bl cnt F' L' C' A' := by
  unfold JF
  rw [h1, h2, h3]
  exact ⟨h.1, h.2.1, h.2.2.1, chC_congr h4 h.2.2.2⟩
theorem m_hang {n f b k cnt : Nat} {τ : zS} {bl : List Nat} (hf : f < 208) (hb : b < 200) (hF : JF f bl cnt (zA τ 3) (zA τ 4) (zA τ 5) (zA τ 2)) (hl : ∀ c ∈ bl, c < 200) (hnd : bl.Nodup) (hbn : ¬ b ∈ bl) (ha : zA τ 2 b = -1) :
    ∃ τ', fX10_hang_0 n τ (nI f) (nI b) (nI k) = some τ' ∧ JF f (bl ++ [b]) (cnt + k) (zA τ' 3) (zA τ' 4) (zA τ' 5) (zA τ' 2) ∧ (∀ g, ¬ g = f → zA τ' 3 g = zA τ 3 g ∧ zA τ' 4 g = zA τ 4 g ∧ zA τ' 5 g = zA τ 5 g) ∧ (∀ c, ¬ c ∈ bl → zA τ' 2 c = zA τ 2 c) ∧ zfr [] [2, 3, 4, 5] [] τ τ' := by
  unfold fX10_hang_0 fX10_hang_38
  rw [if_neg (nI_m1 (by omega))]
  simp only [zg_in hf (show 208 < 2 ^ 31 by decide), nI_clamp (show f < 2 ^ 31 by omega)]
  by_cases e : bl = []
  · subst e
    rw [if_pos (hF.1 rfl).1]
    refine ⟨_, rfl, ⟨fun q => absurd q (by simp), fun _ => ⟨?_, ?_⟩, ?_, ?_⟩, fun g hg => ⟨?_, ?_, ?_⟩, fun c _ => rfl, zfr_A (by decide) (zfr_A (by decide) (zfr_A (by decide) zfr_r))⟩
    · show upd (zA τ 3) f (nI b) f = _
      rw [upd_at, if_pos rfl]; rfl
    · show upd (zA τ 4) f (nI b) f = _
      rw [upd_at, if_pos rfl]; rfl
    · show upd (zA τ 5) f (zA τ 5 f + nI k) f = _
      rw [upd_at, if_pos rfl, hF.2.2.1, nI_add]
    · exact ha
    · show upd (zA τ 3) f (nI b) g = _
      rw [upd_at, if_neg hg]
    · show upd (zA τ 4) f (nI b) g = _
      rw [upd_at, if_neg hg]
    · show upd (zA τ 5) f (zA τ 5 f + nI k) g = _
      rw [upd_at, if_neg hg]
  · have hlm := lastD_mem e
    have hl2 := hl _ hlm
    rw [if_neg (by rw [(hF.2.1 e).1]; exact nI_m1 (by have : bl.headD 0 ∈ bl := (by cases bl with | nil => exact absurd rfl e | cons a t => exact List.mem_cons_self); have := hl _ this; omega)), (hF.2.1 e).2, zg_in hl2 (by decide), nI_clamp (by omega)]
    refine ⟨_, rfl, ⟨fun q => absurd q (by simp), fun _ => ⟨?_, ?_⟩, ?_, ?_⟩, fun g hg => ⟨rfl, ?_, ?_⟩, fun c hc => ?_, zfr_A (by decide) (zfr_A (by decide) (zfr_A (by decide) zfr_r))⟩
    · show zA τ 3 f = _
      rw [(hF.2.1 e).1]
      cases bl with
      | nil => exact absurd rfl e
      | cons a t => rfl
    · show upd (zA τ 4) f (nI b) f = _
      rw [upd_at, if_pos rfl]
      congr 1
      rw [List.getLastD_eq_getLast?]
      simp
    · show upd (zA τ 5) f (zA τ 5 f + nI k) f = _
      rw [upd_at, if_pos rfl, hF.2.2.1, nI_add]
    · exact chC_snoc ha e hnd hbn hF.2.2.2
    · show upd (zA τ 4) f (nI b) g = _
      rw [upd_at, if_neg hg]
    · show upd (zA τ 5) f (zA τ 5 f + nI k) g = _
      rw [upd_at, if_neg hg]
    · show upd (zA τ 2) (bl.getLastD 0) (nI b) c = _
      rw [upd_at, if_neg (fun q => hc (by rw [q]; exact hlm))]
theorem m_hang_s {n : Nat} {τ : zS} {f k : Int32} : fX10_hang_0 n τ f (-1) k = some τ := by
  unfold fX10_hang_0
  rw [if_pos rfl]
theorem nmR_congr {per w cnt : Nat} {cell cell' : Nat → Nat → Int64} {bl : List Nat} (h : ∀ b ∈ bl, cell' b = cell b) (hp : 0 < per) (hc : cnt ≤ bl.length * per) : nmR per w cell' bl cnt = nmR per w cell bl cnt := by
  unfold nmR
  apply List.map_congr_left
  intro i hi
  have hi2 := List.mem_range.mp hi
  have hlt : i / per < bl.length := j_div hp hc hi2
  have e : bl.getD (i / per) 0 = bl[i / per] := by
    rw [List.getD_eq_getElem?_getD, List.getElem?_eq_getElem hlt]
    rfl
  rw [e, h _ (List.getElem_mem hlt)]
theorem nmR_snoc {per w k : Nat} {cell : Nat → Nat → Int64} {bl : List Nat} {b : Nat} (hp : 0 < per) (hk : k ≤ per) : nmR per w cell (bl ++ [b]) (bl.length * per + k) = nmR per w cell bl (bl.length * per) ++ (List.range k).map (fun i => cell b (i * (w + 1) + w)) := by
  unfold nmR
  rw [List.range_add, List.map_append, List.map_map]
  congr 1
  · apply List.map_congr_left
    intro i hi
    have hi2 := List.mem_range.mp hi
    have hlt : i / per < bl.length := j_div hp (Nat.le_refl _) hi2
    rw [List.getD_eq_getElem?_getD, List.getD_eq_getElem?_getD, List.getElem?_append_left hlt]
  · apply List.map_congr_left
    intro i hi
    have hi2 := List.mem_range.mp hi
    show cell ((bl ++ [b]).getD ((bl.length * per + i) / per) 0) ((bl.length * per + i) % per * (w + 1) + w) = _
    have e1 : (bl.length * per + i) / per = bl.length := by
      rw [Nat.mul_comm, Nat.mul_add_div hp, Nat.div_eq_of_lt (by omega), Nat.add_zero]
    have e2 : (bl.length * per + i) % per = i := by
      rw [Nat.mul_comm, Nat.mul_add_mod, Nat.mod_eq_of_lt (by omega)]
    rw [e1, e2, List.getD_eq_getElem?_getD, List.getElem?_append_right (Nat.le_refl _), Nat.sub_self]
    rfl
