/-! ===== poly: perfect numbers, tapes ===== -/
def Av (T : Nat) : Nat → Nat → Nat
  | 0, j => if j = 1 then 1 else 0
  | l + 1, j => if 1 ≤ j ∧ j < T then Av T l 1 + Av T l (j + 1) else 0
theorem Av_s {T l j : Nat} (h1 : 1 ≤ j) (h2 : j < T) : Av T (l + 1) j = Av T l 1 + Av T l (j + 1) := if_pos ⟨h1, h2⟩
theorem Av_T {T l : Nat} : Av T (l + 1) T = 0 := if_neg (by omega)
theorem Av_pos {T : Nat} (hT : 3 ≤ T) : ∀ l, 1 ≤ Av T l 1 := by
  intro l
  induction l with
  | zero => exact Nat.le_refl _
  | succ l ih =>
    rw [Av_s (by omega) (by omega)]
    omega
theorem Av_q {T : Nat} (hT : 3 ≤ T) : ∀ l, (∀ i, 1 ≤ i → i + 1 ≤ T → Av T (l + 1) (i + 1) ≤ Av T (l + 1) i) ∧ (∀ i, 1 ≤ i → i + 2 ≤ T → Av T (l + 1) i + Av T (l + 1) (i + 2) ≤ 2 * Av T (l + 1) (i + 1)) := by
  intro l
  induction l with
  | zero =>
    have hv : ∀ i, 1 ≤ i → i < T → Av T 1 i = 1 := fun i h1 h2 => by
      rw [Av_s h1 h2]
      show (if 1 = 1 then 1 else 0) + (if i + 1 = 1 then 1 else 0) = 1
      rw [if_pos rfl, if_neg (by omega)]
    have hu : ∀ i, Av T 1 i ≤ 1 := fun i => by
      by_cases c : 1 ≤ i ∧ i < T
      · rw [hv i c.1 c.2]; exact Nat.le_refl _
      · show (if 1 ≤ i ∧ i < T then _ else 0) ≤ 1
        rw [if_neg c]; omega
    refine ⟨fun i h1 h2 => ?_, fun i h1 h2 => ?_⟩
    · rw [hv i h1 (by omega)]; exact hu _
    · rw [hv i h1 (by omega), hv (i + 1) (by omega) (by omega)]
      have h3 : Av T (0 + 1) (i + 2) ≤ 1 := hu (i + 2)
      omega
  | succ l ih =>
    obtain ⟨h1, h2⟩ := ih
    have hmono : ∀ i, 1 ≤ i → i ≤ T → Av T (l + 1) i ≤ Av T (l + 1) 1 := by
      intro i
      induction i with
      | zero => intro h; omega
      | succ i ihi =>
        intro _ hi
        by_cases c : i = 0
        · subst c; exact Nat.le_refl _
        · exact Nat.le_trans (h1 i (by omega) hi) (ihi (by omega) (by omega))
    refine ⟨fun i a1 a2 => ?_, fun i a1 a2 => ?_⟩
    · by_cases c : i + 1 < T
      · rw [Av_s a1 (by omega), Av_s (by omega) c]
        have := h1 (i + 1) (by omega) (by omega)
        omega
      · rw [show i + 1 = T by omega, Av_T]
        omega
    · by_cases c : i + 2 < T
      · have e1 : Av T (l + 1 + 1) i = Av T (l + 1) 1 + Av T (l + 1) (i + 1) := Av_s a1 (by omega)
        have e2 : Av T (l + 1 + 1) (i + 2) = Av T (l + 1) 1 + Av T (l + 1) (i + 3) := Av_s (by omega) c
        have e3 : Av T (l + 1 + 1) (i + 1) = Av T (l + 1) 1 + Av T (l + 1) (i + 2) := Av_s (by omega) (by omega)
        have := h2 (i + 1) (by omega) (by omega)
        rw [e1, e2, e3]
        rw [show i + 1 + 2 = i + 3 by omega, show i + 1 + 1 = i + 2 by omega] at this
        omega
      · have e1 : Av T (l + 1 + 1) i = Av T (l + 1) 1 + Av T (l + 1) (i + 1) := Av_s a1 (by omega)
        have e3 : Av T (l + 1 + 1) (i + 1) = Av T (l + 1) 1 + Av T (l + 1) (i + 2) := Av_s (by omega) (by omega)
        have := hmono (i + 1) (by omega) (by omega)
        rw [e1, e3, show i + 2 = T by omega, Av_T, Av_T]
        omega
abbrev zP : Type := Nat × List Nat × Nat
def cL (L : Nat → List zP) : Nat → List zP
  | 0 => []
  | m + 1 => cL L m ++ L (m + 1)
theorem cL_congr {L L' : Nat → List zP} : ∀ {m : Nat}, (∀ j, 1 ≤ j → j ≤ m → L' j = L j) → cL L' m = cL L m := by
  intro m
  induction m with
  | zero => intro _; rfl
  | succ m ih =>
    intro h
    show cL L' m ++ L' (m + 1) = cL L m ++ L (m + 1)
    rw [ih (fun j h1 h2 => h j h1 (by omega)), h (m + 1) (by omega) (by omega)]
def lU (L : Nat → List zP) (j : Nat) (l : List zP) : Nat → List zP := fun k => if k = j then l else L k
theorem cL_add {L : Nat → List zP} {j : Nat} {p : zP} : ∀ {m : Nat}, 1 ≤ j → j ≤ m → (cL (lU L j (L j ++ [p])) m).Perm (p :: cL L m) := by
  intro m
  induction m with
  | zero => intro h1 h2; omega
  | succ m ih =>
    intro h1 h2
    show (cL (lU L j (L j ++ [p])) m ++ lU L j (L j ++ [p]) (m + 1)).Perm (p :: (cL L m ++ L (m + 1)))
    by_cases c : j = m + 1
    · subst c
      rw [cL_congr (L := L) (L' := lU L (m + 1) (L (m + 1) ++ [p])) (fun k k1 k2 => if_neg (by omega)), show lU L (m + 1) (L (m + 1) ++ [p]) (m + 1) = L (m + 1) ++ [p] from if_pos rfl, ← List.append_assoc]
      exact List.perm_append_comm (l₁ := cL L m ++ L (m + 1)) (l₂ := [p])
    · rw [show lU L j (L j ++ [p]) (m + 1) = L (m + 1) from if_neg (by omega)]
      exact List.Perm.append_right _ (ih h1 (by omega))
theorem cL_len {L : Nat → List zP} : ∀ {m j : Nat}, 1 ≤ j → j ≤ m → (L j).length ≤ (cL L m).length := by
  intro m
  induction m with
  | zero => intro j h1 h2; omega
  | succ m ih =>
    intro j h1 h2
    show _ ≤ (cL L m ++ L (m + 1)).length
    rw [List.length_append]
    by_cases c : j = m + 1
    · rw [c]; omega
    · have := ih h1 (show j ≤ m by omega)
      omega
theorem cL_mem {L : Nat → List zP} {p : zP} : ∀ {m j : Nat}, 1 ≤ j → j ≤ m → p ∈ L j → p ∈ cL L m := by
  intro m
  induction m with
  | zero => intro j h1 h2; omega
  | succ m ih =>
    intro j h1 h2 hp
    show p ∈ cL L m ++ L (m + 1)
    by_cases c : j = m + 1
    · exact List.mem_append_right _ (c ▸ hp)
    · exact List.mem_append_left _ (ih h1 (by omega) hp)
/-- the fronts that go, and what stays -/
def gF (L : Nat → List zP) (th : Nat → Nat) : Nat → List zP
  | 0 => []
  | m + 1 => gF L th m ++ (if th (m + 1) = 0 then (L (m + 1)).head?.toList else [])
def lT (L : Nat → List zP) (th : Nat → Nat) (m : Nat) : Nat → List zP := fun k => if 1 ≤ k ∧ k ≤ m ∧ th k = 0 then (L k).tail else L k
def tT (th : Nat → Nat) (m : Nat) : Nat → Nat := fun k => if 1 ≤ k ∧ k ≤ m then th k - 1 else th k
theorem ht_app {α : Type} (l : List α) : l.head?.toList ++ l.tail = l := by
  cases l with
  | nil => rfl
  | cons a t => rfl
theorem gF_perm {L : Nat → List zP} {th : Nat → Nat} {M : Nat} : ∀ {m : Nat}, m ≤ M → (cL L m).Perm (gF L th m ++ cL (lT L th M) m) := by
  intro m
  induction m with
  | zero => intro _; exact List.Perm.refl _
  | succ m ih =>
    intro h
    have h1 := ih (by omega)
    show (cL L m ++ L (m + 1)).Perm (gF L th m ++ (if th (m + 1) = 0 then (L (m + 1)).head?.toList else []) ++ (cL (lT L th M) m ++ lT L th M (m + 1)))
    by_cases c : th (m + 1) = 0
    · rw [if_pos c, show lT L th M (m + 1) = (L (m + 1)).tail from if_pos ⟨by omega, h, c⟩]
      refine (List.Perm.append_right _ h1).trans ?_
      have e : gF L th m ++ cL (lT L th M) m ++ L (m + 1) = gF L th m ++ (cL (lT L th M) m ++ ((L (m + 1)).head?.toList ++ (L (m + 1)).tail)) := by
        rw [ht_app, List.append_assoc]
      rw [e, List.append_assoc, ← List.append_assoc (cL (lT L th M) m), ← List.append_assoc ((L (m + 1)).head?.toList)]
      exact List.Perm.append_left _ (List.Perm.append_right _ List.perm_append_comm)
    · rw [if_neg c, List.append_nil, show lT L th M (m + 1) = L (m + 1) from if_neg (fun q => c q.2.2), ← List.append_assoc]
      exact List.Perm.append_right _ h1
theorem gF_len {L : Nat → List zP} {th : Nat → Nat} : ∀ {m : Nat}, (gF L th m).length ≤ m := by
  intro m
  induction m with
  | zero => exact Nat.le_refl _
  | succ m ih =>
    show (gF L th m ++ _).length ≤ m + 1
    rw [List.length_append]
    by_cases c : th (m + 1) = 0
    · rw [if_pos c]
      have : ((L (m + 1)).head?.toList).length ≤ 1 := by
        cases L (m + 1) with
        | nil => exact Nat.zero_le _
        | cons a t => exact Nat.le_refl _
      omega
    · rw [if_neg c]
      show _ + 0 ≤ _
      omega
/-! frames that leave the tapes' rows out -/
def zfp (I A L : List Nat) (τ τ' : zS) : Prop := (∀ k, ¬ k ∈ I → zI τ' k = zI τ k) ∧ (∀ k, ¬ k ∈ A → zA τ' k = zA τ k) ∧ (∀ k, ¬ k ∈ L → zL τ' k = zL τ k)
theorem zfp_r {I A L : List Nat} {τ : zS} : zfp I A L τ τ := ⟨fun _ _ => rfl, fun _ _ => rfl, fun _ _ => rfl⟩
theorem zfp_I {I A L : List Nat} {τ τ' : zS} {k : Nat} {v : Int32} (hk : k ∈ I) (h : zfp I A L τ τ') : zfp I A L τ (sI τ' k v) := ⟨fun j hj => by rw [zI_sI, if_neg (fun q => hj (by rw [q]; exact hk))]; exact h.1 j hj, h.2.1, h.2.2⟩
theorem zfp_A {I A L : List Nat} {τ τ' : zS} {k : Nat} {v : Nat → Int32} (hk : k ∈ A) (h : zfp I A L τ τ') : zfp I A L τ (sA τ' k v) := ⟨h.1, fun j hj => by rw [zA_sA, if_neg (fun q => hj (by rw [q]; exact hk))]; exact h.2.1 j hj, h.2.2⟩
theorem zfp_U {I A L : List Nat} {τ τ' : zS} {k : Nat} {v : Int32} (h : zfp I A L τ τ') : zfp I A L τ (sU τ' k v) := h
theorem zfp_V {I A L : List Nat} {τ τ' : zS} {k : Nat} {v : Nat → Int32} (h : zfp I A L τ τ') : zfp I A L τ (sV τ' k v) := h
theorem zfp_T {I A L : List Nat} {τ τ' : zS} {k : Nat} {v : Nat} (h : zfp I A L τ τ') : zfp I A L τ (sT τ' k v) := h
theorem zfp_t {I A L I' A' L' : List Nat} {τ τ' τ'' : zS} (h : zfp I A L τ τ') (h' : zfp I' A' L' τ' τ'') (hI : ∀ k ∈ I', k ∈ I) (hA : ∀ k ∈ A', k ∈ A) (hL : ∀ k ∈ L', k ∈ L) : zfp I A L τ τ'' := ⟨fun k hk => (h'.1 k (fun q => hk (hI k q))).trans (h.1 k hk), fun k hk => (h'.2.1 k (fun q => hk (hA k q))).trans (h.2.1 k hk), fun k hk => (h'.2.2 k (fun q => hk (hL k q))).trans (h.2.2 k hk)⟩
theorem zfp_of {I A L : List Nat} {τ τ' : zS} (h : zfr I A L τ τ') : zfp I A L τ τ' := ⟨h.1, h.2.1, h.2.2.1⟩
theorem JS_fp {cm nb sz mm w od kn : Nat} {inp : List Nat} {ps : List (Nat × List Nat × Nat)} {σ τ σ' τ' : zS} {I A L I' A' L' : List Nat} (h : JS cm nb sz mm w od kn inp ps σ τ) (f : zfp I A L σ σ') (ht : zTok σ') (f' : zfr I' A' L' τ τ') (hI : ∀ k ∈ [0, 1, 2, 3, 4, 5, 6, 8, 9, 10, 11, 12, 13, 17, 27], ¬ k ∈ I) (hA : ∀ k ∈ [0, 1, 2, 3, 4, 5], ¬ k ∈ A) (hL : ∀ k ∈ [0, 1], ¬ k ∈ L) (hI' : ∀ k ∈ [1, 2, 3, 5, 6, 7, 8, 9, 10, 11, 12, 13, 14, 15], ¬ k ∈ I') (hA' : ∀ k ∈ [0, 2, 3, 4, 5, 6, 8, 9], ¬ k ∈ A') (hL' : ∀ k ∈ [0, 1], ¬ k ∈ L') : JS cm nb sz mm w od kn inp ps σ' τ' := by
  obtain ⟨⟨hS1, hW, hK, hmo⟩, hD, hd, hlat, hin, hC, hF, hB, hN⟩ := h
  have e1 : dC nb sz σ' = dC nb sz σ := by
    unfold dC
    rw [f.1 2 (hI 2 (by decide)), f.1 3 (hI 3 (by decide)), f.1 4 (hI 4 (by decide)), f.1 5 (hI 5 (by decide)), f.1 6 (hI 6 (by decide)), f.2.1 0 (hA 0 (by decide)), f.2.2 0 (hL 0 (by decide))]
  have e2 : dM nb sz τ' = dM nb sz τ := by
    unfold dM
    rw [f'.1 10 (hI' 10 (by decide)), f'.1 11 (hI' 11 (by decide)), f'.1 12 (hI' 12 (by decide)), f'.1 13 (hI' 13 (by decide)), f'.1 15 (hI' 15 (by decide)), f'.2.1 0 (hA' 0 (by decide)), f'.2.2.1 0 (hL' 0 (by decide))]
  refine ⟨⟨?_, ?_, ?_, ?_⟩, ?_, ?_, ?_, ?_, ?_, ?_, ?_, ?_⟩
  · rw [f'.1 1 (hI' 1 (by decide)), f'.1 2 (hI' 2 (by decide)), f'.1 3 (hI' 3 (by decide)), f.1 1 (hI 1 (by decide)), f.1 27 (hI 27 (by decide))]
    exact ⟨hS1.1, hS1.2.1, hS1.2.2.1, hS1.2.2.2.1, hS1.2.2.2.2.1, ht⟩
  · rw [f'.1 6 (hI' 6 (by decide)), f.1 9 (hI 9 (by decide)), f.1 10 (hI 10 (by decide)), f.1 11 (hI 11 (by decide))]
    exact hW
  · rw [f'.1 7 (hI' 7 (by decide)), f.1 8 (hI 8 (by decide)), f'.2.1 8 (hA' 8 (by decide)), f'.2.1 9 (hA' 9 (by decide)), f.2.1 1 (hA 1 (by decide)), f.2.1 2 (hA 2 (by decide))]
    exact hK
  · rw [f'.1 8 (hI' 8 (by decide)), f.1 0 (hI 0 (by decide))]
    exact hmo
  · rw [f'.1 9 (hI' 9 (by decide)), f.1 13 (hI 13 (by decide)), f'.1 5 (hI' 5 (by decide)), f.1 12 (hI 12 (by decide)), f'.2.2.1 1 (hL' 1 (by decide)), f.2.2 1 (hL 1 (by decide))]
    exact hD
  · rw [e1, e2, hd]
  · rw [f'.1 14 (hI' 14 (by decide)), f'.1 13 (hI' 13 (by decide))]
    exact hlat
  · rw [f.1 17 (hI 17 (by decide)), f.2.1 5 (hA 5 (by decide))]
    exact hin
  · rw [f.2.1 3 (hA 3 (by decide)), f.2.1 4 (hA 4 (by decide))]
    exact hC
  · rw [f'.2.1 6 (hA' 6 (by decide)), f'.2.1 3 (hA' 3 (by decide)), f'.2.1 4 (hA' 4 (by decide)), f'.2.1 5 (hA' 5 (by decide)), f'.2.1 2 (hA' 2 (by decide))]
    exact hF
  · rw [e1]; exact hB
  · rw [e1, f.2.2 1 (hL 1 (by decide))]; exact hN
/-- the tapes: the class' rows, the reference's -/
def PT (T : Nat) (L : Nat → List zP) (th wt c fr : Nat → Nat) (σ τ : zS) : Prop :=
  zI σ 30 = nI T ∧
  (∀ j, 1 ≤ j → j ≤ T → rwL hdP (L j) (zU σ (zT σ j)) (zV σ (zT σ j)) ∧ zA σ 15 j = nI (th j)) ∧
  (∀ j, 1 ≤ j → j ≤ T → zA τ 22 j = nI (c j) ∧ 1 ≤ c j ∧ c j ≤ T ∧ zA τ 19 (c j) = nI (fr j) ∧ zA τ 20 (c j) = nI (fr j + (L j).length) ∧ fr j + (L j).length ≤ 200 ∧ (∀ (i : Nat) (p : zP), (L j)[i]? = some p → zA τ 18 (208 * c j + (fr j + i)) = nI p.1) ∧ zA τ 21 (c j) = nI (th j)) ∧
  (∀ j, 1 ≤ j → j < T → zA σ 14 j = nI (wt j) ∧ zA τ 23 j = nI (wt j)) ∧
  (∀ i j, 1 ≤ i → i ≤ T → 1 ≤ j → j ≤ T → c i = c j → i = j)
