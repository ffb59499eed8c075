/-! ===== how the class' state and the reference's belong together ===== -/
/-- a chain of blocks: each is followed by the next, the last by none -/
def chC (nx : Nat → Int32) : List Nat → Prop
  | [] => True
  | [b] => nx b = -1
  | b :: c :: r => nx b = nI c ∧ chC nx (c :: r)
/-- the class' runs -/
def JC (rs : List (List Nat × Nat)) (items : Nat → Int32) (used : Int32) (nx held : Nat → Int32) : Prop :=
  used = nI rs.length ∧ (∀ (j : Nat) (r : List Nat × Nat), rs[j]? = some r → items j = nI (r.1.headD 0)) ∧ (∀ r ∈ rs, chC nx r.1 ∧ held (r.1.headD 0) = nI r.2)
/-- a file of the reference -/
def JF (f : Nat) (bl : List Nat) (cnt : Nat) (first last content after : Nat → Int32) : Prop :=
  (bl = [] → first f = -1 ∧ last f = -1) ∧ (bl ≠ [] → first f = nI (bl.headD 0) ∧ last f = nI (bl.getLastD 0)) ∧ content f = nI cnt ∧ chC after bl
/-- the reference's files -/
def JM (per : Nat) (inp : List Nat) (rs : List (List Nat × Nat)) (fs : List Nat) (many : Int32) (there order first last content after : Nat → Int32) : Prop :=
  many = nI rs.length ∧ fs.length = rs.length ∧ fs.Nodup ∧ (∀ f ∈ fs, 1 ≤ f ∧ f < 208) ∧ (∀ f, f < 208 → (there f = 0 ↔ ¬ (f = 0 ∨ f ∈ fs))) ∧ (∀ (j f : Nat), fs[j]? = some f → order j = nI f) ∧ (∀ (j f : Nat) (r : List Nat × Nat), fs[j]? = some f → rs[j]? = some r → JF f r.1 r.2 first last content after) ∧ JF 0 inp (inp.length * per) first last content after
/-- all blocks are apart, there and used; a run's records fill its blocks -/
def JB (nb per : Nat) (inp : List Nat) (rs : List (List Nat × Nat)) (used : Nat → Bool) : Prop :=
  (inp ++ rs.flatMap (fun r => r.1)).Nodup ∧ (∀ b ∈ inp ++ rs.flatMap (fun r => r.1), b < nb ∧ used b = true) ∧ (∀ r ∈ rs, r.1 ≠ [] ∧ r.2 ≤ r.1.length * per ∧ (r.1.length - 1) * per < r.2)
/-- keys -/
def JK (w kn : Nat) (kc kd kc' kd' : Nat → Int32) : Prop :=
  (∀ k, k < kn → kc k = kc' k ∧ ∃ c, c < w ∧ kc' k = nI c) ∧ (∀ k, k < kn → kd k = kd' k ∧ (kd' k = 0 ∨ kd' k = 1)) ∧ (∀ i j, i < j → j < kn → ¬ kc' i = kc' j)
/-- the NUMBERs of records: those of a row of blocks, those of the desk; all are apart, and came -/
def nmR (per w : Nat) (cell : Nat → Nat → Int64) (bl : List Nat) (cnt : Nat) : List Int64 := (List.range cnt).map (fun i => cell (bl.getD (i / per) 0) (i % per * (w + 1) + w))
def nmD (w od : Nat) (desk : Nat → Int64) : List Int64 := (List.range od).map (fun i => desk (i * (w + 1) + w))
def JN (cm per w od : Nat) (inp : List Nat) (rs : List (List Nat × Nat)) (cell : Nat → Nat → Int64) (desk : Nat → Int64) : Prop :=
  (nmR per w cell inp (inp.length * per) ++ nmD w od desk ++ rs.flatMap (fun r => nmR per w cell r.1 r.2)).Nodup ∧ ∀ x ∈ nmR per w cell inp (inp.length * per) ++ nmD w od desk ++ rs.flatMap (fun r => nmR per w cell r.1 r.2), ∃ c, c < cm ∧ x = (nI c).toInt64
/-- the class' seven rows of tapes lie apart -/
def zTok (σ : zS) : Prop := (∀ j, j < 7 → zT σ j < 7) ∧ ∀ i j, i < 7 → j < 7 → zT σ i = zT σ j → i = j
def JJ (cm nb sz mm w od kn : Nat) (inp : List Nat) (rs : List (List Nat × Nat)) (fs : List Nat) (σ τ : zS) : Prop :=
  (zI τ 1 = nI nb ∧ zI τ 2 = nI sz ∧ zI τ 3 = nI mm ∧ zI σ 1 = nI sz ∧ zI σ 27 = nI mm ∧ zTok σ) ∧
  (1 ≤ w ∧ w ≤ 4 ∧ zI τ 6 = nI w ∧ zI σ 9 = nI w ∧ zI σ 10 = nI (w + 1) ∧ zI σ 11 = nI (sz / (w + 1))) ∧
  (kn ≤ 4 ∧ zI τ 7 = nI kn ∧ zI σ 8 = nI kn ∧ JK w kn (zA τ 8) (zA τ 9) (zA σ 1) (zA σ 2)) ∧
  (zI τ 8 = zI σ 0 ∧ (zI σ 0 = 0 ∨ zI σ 0 = 1 ∨ zI σ 0 = 2)) ∧
  (zI τ 9 = zI σ 13 ∧ od < sz / (w + 1) ∧ zI τ 5 = nI od ∧ zI σ 12 = nI od ∧ (∀ k, k < sz → zL τ 1 k = zL σ 1 k) ∧ zI σ 13 = nI cm) ∧
  (zI τ 16 = zI σ 7 ∧ (zI σ 7 = 0 ∨ zI σ 7 = 1)) ∧
  dM nb sz τ = dC nb sz σ ∧
  ((inp = [] ∧ rs = []) ∨ zI τ 14 = zI τ 13) ∧
  (zI σ 17 = nI inp.length ∧ (∀ (j b : Nat), inp[j]? = some b → zA σ 5 j = nI b)) ∧
  JC rs (zA σ 16) (zI σ 32) (zA σ 3) (zA σ 4) ∧
  JM (sz / (w + 1)) inp rs fs (zI τ 4) (zA τ 6) (zA τ 7) (zA τ 3) (zA τ 4) (zA τ 5) (zA τ 2) ∧
  JB nb (sz / (w + 1)) inp rs (dC nb sz σ).2.1 ∧
  JN cm (sz / (w + 1)) w od inp rs (dC nb sz σ).1 (zL σ 1)
def zJ9 (nb sz mm : Nat) (jj : Nat) (σ τ : zS) : Prop := ∃ (cm : Nat) (_ : cm ≤ 300 * jj) (w od kn : Nat) (inp : List Nat) (rs : List (List Nat × Nat)) (fs : List Nat), JJ cm nb sz mm w od kn inp rs fs σ τ
theorem zJ9_m {nb sz mm jj : Nat} {σ τ : zS} (h : zJ9 nb sz mm jj σ τ) : zJ9 nb sz mm (jj + 1) σ τ := by
  obtain ⟨cm, hcm, h⟩ := h
  exact ⟨cm, by omega, h⟩
theorem zJ9_t {nb sz mm jj : Nat} {σ τ : zS} (v : Int32) (h : zJ9 nb sz mm jj σ τ) : zJ9 nb sz mm (jj + 1) σ (sI τ 0 v) := zJ9_m h
theorem p_per {sz w : Nat} (hs : 5 ≤ sz) (hw : w ≤ 4) : 1 ≤ sz / (w + 1) := (Nat.le_div_iff_mul_le (by omega)).mpr (by omega)
theorem p_perle {sz w : Nat} : sz / (w + 1) * (w + 1) ≤ sz := Nat.div_mul_le_self sz (w + 1)
theorem m_per {n sz w : Nat} {τ : zS} (hsz : sz ≤ 64) (hw4 : w ≤ 4) (h2 : zI τ 2 = nI sz) (hw : zI τ 6 = nI w) : fX10_per_0 n τ = some (nI (sz / (w + 1))) := by
  unfold fX10_per_0
  rw [hw, h2, nI_1, zg_t (znz_nI (by omega) (by omega)), nI_div (by omega) (by omega)]
theorem m_isIn (n : Nat) (σ : zS) (x lo hi : Int32) : fX10_isIn_0 n σ x lo hi = some (if lo ≤ x ∧ x ≤ hi then 1 else 0) := by
  unfold fX10_isIn_0
  by_cases h1 : x < lo
  · rw [if_pos h1, if_neg (fun q => by have := Int32.le_iff_toInt_le.mp q.1; have := Int32.lt_iff_toInt_lt.mp h1; omega)]
  · rw [if_neg h1]
    have h1' : lo ≤ x := Int32.le_iff_toInt_le.mpr (by have : ¬ x.toInt < lo.toInt := fun q => h1 (Int32.lt_iff_toInt_lt.mpr q); omega)
    by_cases h2 : hi < x
    · rw [if_pos h2, if_neg (fun q => by have := Int32.le_iff_toInt_le.mp q.2; have := Int32.lt_iff_toInt_lt.mp h2; omega)]
    · have h2' : x ≤ hi := Int32.le_iff_toInt_le.mpr (by have : ¬ hi.toInt < x.toInt := fun q => h2 (Int32.lt_iff_toInt_lt.mpr q); omega)
      rw [if_neg h2, if_pos ⟨h1', h2'⟩]
theorem i_nlt {x y : Int32} : ¬ x < y ↔ y ≤ x := by
  rw [Int32.le_iff_toInt_le, Int32.lt_iff_toInt_lt]
  omega
theorem i_nle {x y : Int32} : ¬ x ≤ y ↔ y < x := by
  rw [Int32.le_iff_toInt_le, Int32.lt_iff_toInt_lt]
  omega
/-! crash, up, mode, runs, count -/
theorem s_crash {n nb sz mm : Nat} : sim_crash n nb sz mm (zJ9 nb sz mm) := by
  intro jj σ τ o a1 hj9 hJ
  have hoff : zI τ 16 = zI σ 7 ∧ (zI σ 7 = 0 ∨ zI σ 7 = 1) := by
    obtain ⟨cm, hcm, w, od, kn, inp, rs, fs, h⟩ := hJ
    exact h.2.2.2.2.2.1
  unfold fX9_crash_0 fX9_crash_12 fX9_needPower_0 fX10_crash_0 fX10_crash_28 fX10_thrown_0 fL_crash
  by_cases c1 : -1 ≤ a1 ∧ a1 ≤ 100000
  · rw [if_neg (i_nlt.mpr c1.1), if_pos c1.2, zb_s (m_isIn _ _ _ _ _), if_pos c1]
    by_cases c2 : zI σ 7 = 0
    · rw [if_pos c2, hoff.1, if_pos c2]
      refine ⟨_, _, _, _, _, rfl, rfl, rfl, rfl, ?_⟩
      obtain ⟨cm, hcm, w, od, kn, inp, rs, fs, h⟩ := hJ
      refine ⟨cm, by omega, w, od, kn, inp, rs, fs, h.1, h.2.1, h.2.2.1, h.2.2.2.1, h.2.2.2.2.1, h.2.2.2.2.2.1, ?_, h.2.2.2.2.2.2.2⟩
      have hd := h.2.2.2.2.2.2.1
      have e1 : dM nb sz (sI (sI τ 0 0) 15 a1) = ((dM nb sz τ).1, (dM nb sz τ).2.1, (dM nb sz τ).2.2.1, (dM nb sz τ).2.2.2.1, (dM nb sz τ).2.2.2.2.1, (dM nb sz τ).2.2.2.2.2.1, a1) := rfl
      have e2 : dC nb sz (sI σ 6 a1) = ((dC nb sz σ).1, (dC nb sz σ).2.1, (dC nb sz σ).2.2.1, (dC nb sz σ).2.2.2.1, (dC nb sz σ).2.2.2.2.1, (dC nb sz σ).2.2.2.2.2.1, a1) := rfl
      show dM nb sz (sI (sI τ 0 0) 15 a1) = dC nb sz (sI σ 6 a1)
      rw [e1, e2, hd]
    · rw [if_neg c2, hoff.1, if_neg c2]
      exact ⟨_, _, _, _, _, rfl, rfl, rfl, rfl, zJ9_t 2 hJ⟩
  · have hm : fX10_isIn_0 n zσ0 a1 (-1) 100000 = some 0 := by rw [m_isIn, if_neg c1]
    rw [zb_s hm, if_pos rfl]
    by_cases c2 : a1 < -1
    · rw [if_pos c2]
      exact ⟨_, _, _, _, _, rfl, rfl, rfl, rfl, zJ9_t 1 hJ⟩
    · rw [if_neg c2, if_neg (fun q => c1 ⟨i_nlt.mp c2, q⟩)]
      exact ⟨_, _, _, _, _, rfl, rfl, rfl, rfl, zJ9_t 1 hJ⟩
