/-! records, width, key -/
theorem m_isIn_y {n : Nat} {σ : zS} {x lo hi : Int32} (h1 : lo ≤ x) (h2 : x ≤ hi) : fX10_isIn_0 n σ x lo hi = some 1 := by rw [m_isIn, if_pos ⟨h1, h2⟩]
theorem m_isIn_n {n : Nat} {σ : zS} {x lo hi : Int32} (h : ¬ (lo ≤ x ∧ x ≤ hi)) : fX10_isIn_0 n σ x lo hi = some 0 := by rw [m_isIn, if_neg h]
theorem m1_le {a : Nat} (h : a < 2 ^ 31) : (-1 : Int32) ≤ nI a := by
  rw [Int32.le_iff_toInt_le, nI_toInt h, show (-1 : Int32).toInt = -1 by decide]
  omega
theorem j_len {nb per : Nat} {inp : List Nat} {rs : List (List Nat × Nat)} {used : Nat → Bool} (h : JB nb per inp rs used) : ∀ r ∈ rs, r.1.headD 0 ∈ rs.flatMap (fun r => r.1) := by
  intro r hr
  obtain ⟨h1, -⟩ := h.2.2 r hr
  refine List.mem_flatMap.mpr ⟨r, hr, ?_⟩
  cases e : r.1 with
  | nil => exact absurd e h1
  | cons a t => exact List.mem_cons_self
theorem c_get {n ln : Nat} {items : Nat → Int32} {used : Int32} {m i : Nat} (hu : used = nI m) (hi : i < m) (hm : m ≤ ln) (hl : ln < 2 ^ 31) : fX6_get_0 n ln (zrv used items) (nI i) = some (items i) := by
  unfold fX6_get_0
  rw [show zI (zrv used items) 0 = used from rfl, hu, if_neg (nI_nn (by omega)), if_neg (fun q => by rw [nI_leI (by omega) (by omega)] at q; omega), if_neg (fun q => by rw [nI_leI (by omega) (by omega)] at q; omega), zg_in (by omega) hl, nI_clamp (by omega)]
  rfl
theorem c_get_out {n ln : Nat} {items : Nat → Int32} {used : Int32} {m : Nat} {i : Int32} (hu : used = nI m) (hi : i < 0 ∨ nI m ≤ i) : fX6_get_0 n ln (zrv used items) i = some (-1) := by
  unfold fX6_get_0
  rw [show zI (zrv used items) 0 = used from rfl, hu]
  by_cases c : i < 0
  · rw [if_pos c]
  · rw [if_neg c, if_pos (hi.resolve_left c)]
theorem c_heldBy {n nb sz mm b : Nat} {σ : zS} (hnb : nb ≤ 200) (hb : b < nb) : fX1_heldBy_0 n nb sz mm σ (nI b) = some (zA σ 4 b) := by
  unfold fX1_heldBy_0
  rw [if_neg (nI_nn (by omega)), if_neg (fun q => by rw [nI_leI (by omega) (by omega)] at q; omega), zg_in hb (by omega), nI_clamp (by omega)]
/-- how many distinct numbers below a bound there are -/
theorem nd_le : ∀ (k : Nat) (l : List Nat), l.Nodup → (∀ x ∈ l, x < k) → l.length ≤ k := by
  intro k
  induction k with
  | zero =>
    intro l _ h
    cases l with
    | nil => exact Nat.le_refl 0
    | cons a t => exact absurd (h a List.mem_cons_self) (by omega)
  | succ k ih =>
    intro l hn h
    have h1 := ih (l.filter (fun x => decide (x < k))) (hn.filter _) (fun x hx => by simpa using (List.mem_filter.mp hx).2)
    have h2 : l.length ≤ (l.filter (fun x => decide (x < k))).length + 1 := by
      clear h1 ih
      induction l with
      | nil => exact Nat.zero_le _
      | cons a t it =>
        have ht := it (List.nodup_cons.mp hn).2 (fun x hx => h x (List.mem_cons_of_mem _ hx))
        by_cases c : a < k
        · rw [List.filter_cons_of_pos (by simpa using c)]
          simp only [List.length_cons]
          omega
        · have ha : a = k := by have := h a List.mem_cons_self; omega
          have hall : t.filter (fun x => decide (x < k)) = t := List.filter_eq_self.mpr (fun x hx => by
            have h3 := h x (List.mem_cons_of_mem _ hx)
            have h4 : ¬ x = a := fun e => (List.nodup_cons.mp hn).1 (e ▸ hx)
            exact decide_eq_true (by omega))
          rw [List.filter_cons_of_neg (by simpa using c), hall]
          simp only [List.length_cons]
          omega
    omega
theorem j_many {nb per : Nat} {inp : List Nat} {rs : List (List Nat × Nat)} {used : Nat → Bool} (h : JB nb per inp rs used) : inp.length + rs.length ≤ nb := by
  have h1 := nd_le nb _ h.1 (fun x hx => (h.2.1 x hx).1)
  rw [List.length_append] at h1
  have h2 : rs.length ≤ (rs.flatMap (fun r => r.1)).length := by
    have hne := h.2.2
    clear h1 h
    induction rs with
    | nil => exact Nat.zero_le _
    | cons r t ih =>
      have h3 := ih (fun r hr => hne r (List.mem_cons_of_mem _ hr))
      have h4 := (hne r List.mem_cons_self).1
      rw [List.flatMap_cons, List.length_append, List.length_cons]
      have h5 : 1 ≤ r.1.length := by
        cases e : r.1 with
        | nil => exact absurd e h4
        | cons a t => exact Nat.le_add_left _ _
      omega
  omega
theorem i_of {x : Int32} {m : Nat} (h0 : 0 ≤ x) (h1 : x < nI m) (hm : m < 2 ^ 30) : ∃ j, j < m ∧ x = nI j := by
  obtain ⟨j, hj, rfl⟩ := nI_of (x := x) (i_nlt.mpr h0)
  exact ⟨j, (nI_ltI hj (by omega)).mp h1, rfl⟩
theorem s_records {n nb sz mm : Nat} (hnb : nb ≤ 200) (hsz : sz ≤ 64) : sim_records n nb sz mm (zJ9 nb sz mm) := by
  intro jj σ τ o a1 hj9 hJ
  obtain ⟨cm, hcm, w, od, kn, inp, rs, fs, h⟩ := hJ
  have hC := h.2.2.2.2.2.2.2.2.2.1
  have hM := h.2.2.2.2.2.2.2.2.2.2.1
  have hB := h.2.2.2.2.2.2.2.2.2.2.2.1
  have hmany := j_many hB
  have ok : ∀ v : Int32, fX9_records_0 n nb sz mm σ a1 = some (.inr v) → fX10_records_0 n τ a1 = some (v, sI τ 0 0) → ∃ (r1 : String ⊕ Int32) (k : Int32) (o' : Nat → Int64) (rb : Int32) (τ' : zS), fX9_records_0 n nb sz mm σ a1 = some r1 ∧ fL_records r1 o = some (k, o') ∧ fX10_records_0 n τ a1 = some (rb, τ') ∧ fX10_thrown_0 n τ' = some k ∧ (k = 0 → o' (Int32.toNatClampNeg 0) = rb.toInt64) ∧ zJ9 nb sz mm (jj + 1) σ τ' := fun v hf hm => ⟨_, _, _, _, _, hf, rfl, hm, rfl, fun _ => o_at _ _, cm, by omega, w, od, kn, inp, rs, fs, h⟩
  by_cases c0 : a1 = -1
  · subst c0
    have hheld : fX2_heldRecords_0 n nb sz mm σ = some (nI (inp.length * (sz / (w + 1)) + od)) := by
      unfold fX2_heldRecords_0 fX6_size_0
      show some (zI σ 17 * zI σ 11 + zI σ 12) = _
      rw [h.2.2.2.2.2.2.2.2.1.1, h.2.1.2.2.2.2.2, h.2.2.2.2.1.2.2.2.1, nI_mul, nI_add]
    refine ok (nI (inp.length * (sz / (w + 1)) + od)) ?_ ?_
    · unfold fX9_records_0
      rw [if_pos rfl, zb_s hheld]
    · unfold fX10_records_0 fX10_records_20
      rw [hM.1, zb_s (m_isIn_y (by decide) ((i_pm (m := rs.length) (by omega)).mpr (m1_lt (by omega)))), if_neg (by decide), if_pos (by decide), if_pos rfl, zg_t (by decide)]
      rw [show zA τ 5 (Int32.toNatClampNeg 0) = nI (inp.length * (sz / (w + 1))) from hM.2.2.2.2.2.2.2.2.2.1, h.2.2.2.2.1.2.2.1, nI_add]
  · by_cases c1 : 0 ≤ a1 ∧ a1 < nI rs.length
    · obtain ⟨j, hj, rfl⟩ := i_of c1.1 c1.2 (by omega)
      obtain ⟨r, hr⟩ : ∃ r, rs[j]? = some r := ⟨rs[j], List.getElem?_eq_getElem hj⟩
      obtain ⟨f, hf⟩ : ∃ f, fs[j]? = some f := ⟨fs[j]'(by rw [hM.2.1]; exact hj), List.getElem?_eq_getElem _⟩
      have hrm := List.mem_of_getElem? hr
      have hfm := hM.2.2.2.1 f (List.mem_of_getElem? hf)
      have hhd := (hB.2.1 _ (List.mem_append_right _ (j_len hB r hrm))).1
      refine ok (nI r.2) ?_ ?_
      · unfold fX9_records_0 fX9_needRun_0 fX6_size_0
        rw [if_neg c0, if_neg (nI_nn (by omega))]
        show zb (if nI j < zI σ 32 then _ else _) _ = _
        rw [hC.1, if_pos c1.2]
        show zb (fX6_get_0 n nb (zrv (nI rs.length) (zA σ 16)) (nI j)) _ = _
        rw [zb_s (c_get (m := rs.length) rfl hj (by omega) (by omega)), hC.2.1 j r hr, zb_s (c_heldBy hnb hhd), (hC.2.2 r hrm).2]
      · unfold fX10_records_0 fX10_records_20
        rw [hM.1, zb_s (m_isIn_y (m1_le (by omega)) ((i_pm (by omega)).mpr c1.2)), if_neg (by decide), if_pos (by decide), if_neg c0, zg_in (by omega) (by decide), nI_clamp (by omega), hM.2.2.2.2.2.1 j f hf, zg_in hfm.2 (by decide), nI_clamp (by omega), (hM.2.2.2.2.2.2.1 j f r hf hr).2.2.1]
    · have hf : fX9_records_0 n nb sz mm σ a1 = some (.inl "java/lang/IndexOutOfBoundsException") := by
        unfold fX9_records_0 fX9_needRun_0 fX9_needRun_15 fX6_size_0
        rw [if_neg c0]
        by_cases c2 : a1 < 0
        · rw [if_pos c2]
          rfl
        · rw [if_neg c2]
          show zb (if a1 < zI σ 32 then _ else _) _ = _
          rw [hC.1, if_neg (fun q => c1 ⟨i_nlt.mp c2, q⟩)]
          rfl
      have hm : fX10_records_0 n τ a1 = some (0, sI τ 0 1) := by
        unfold fX10_records_0 fX10_records_20
        have hn : ¬ (-1 ≤ a1 ∧ a1 ≤ nI rs.length - 1) := fun q => by
          have q1 := Int32.le_iff_toInt_le.mp q.1
          rw [show (-1 : Int32).toInt = -1 by decide] at q1
          have q2 : ¬ a1.toInt = -1 := fun e => c0 (Int32.toInt_inj.mp (by rw [e]; decide))
          exact c1 ⟨Int32.le_iff_toInt_le.mpr (by rw [show (0 : Int32).toInt = 0 by decide]; omega), (i_pm (by omega)).mp q.2⟩
        rw [hM.1, zb_s (m_isIn_n hn), if_pos rfl, if_neg (by decide)]
      exact ⟨_, _, _, _, _, hf, rfl, hm, rfl, fun q => absurd q (by decide), cm, by omega, w, od, kn, inp, rs, fs, h⟩
