/-! ===== the order of records is strict and total ===== -/
def lexlt (a b : Nat → Int) : Nat → Nat → Prop
  | 0, _ => False
  | r + 1, k => a k < b k ∨ (a k = b k ∧ lexlt a b r (k + 1))
theorem lex_tr {a b c : Nat → Int} : ∀ {r k : Nat}, lexlt a b r k → lexlt b c r k → lexlt a c r k := by
  intro r
  induction r with
  | zero => intro k h; exact h.elim
  | succ r ih =>
    intro k h1 h2
    rcases h1 with h1 | ⟨h1, h1'⟩
    · rcases h2 with h2 | ⟨h2, h2'⟩
      · exact Or.inl (by omega)
      · exact Or.inl (by omega)
    · rcases h2 with h2 | ⟨h2, h2'⟩
      · exact Or.inl (by omega)
      · exact Or.inr ⟨by omega, ih h1' h2'⟩
theorem lex_ir {a : Nat → Int} : ∀ {r k : Nat}, ¬ lexlt a a r k := by
  intro r
  induction r with
  | zero => intro k h; exact h
  | succ r ih =>
    intro k h
    rcases h with h | ⟨-, h⟩
    · omega
    · exact ih h
theorem lex_to {a b : Nat → Int} : ∀ {r k : Nat}, lexlt a b r k ∨ lexlt b a r k ∨ ∀ j, k ≤ j → j < k + r → a j = b j := by
  intro r
  induction r with
  | zero => intro k; exact Or.inr (Or.inr (fun j h1 h2 => by omega))
  | succ r ih =>
    intro k
    rcases Int.lt_trichotomy (a k) (b k) with h | h | h
    · exact Or.inl (Or.inl h)
    · rcases ih (k := k + 1) with g | g | g
      · exact Or.inl (Or.inr ⟨h, g⟩)
      · exact Or.inr (Or.inl (Or.inr ⟨h.symm, g⟩))
      · refine Or.inr (Or.inr (fun j h1 h2 => ?_))
        by_cases e : j = k
        · rw [e]; exact h
        · exact g j (by omega) (by omega)
    · exact Or.inr (Or.inl (Or.inl h))
theorem lex_cg {a b a' b' : Nat → Int} : ∀ {r k : Nat}, (∀ j, k ≤ j → j < k + r → a j = a' j ∧ b j = b' j) → lexlt a b r k → lexlt a' b' r k := by
  intro r
  induction r with
  | zero => intro k _ h; exact h
  | succ r ih =>
    intro k h h2
    obtain ⟨e1, e2⟩ := h k (Nat.le_refl _) (by omega)
    rcases h2 with h2 | ⟨h2, h3⟩
    · exact Or.inl (by rw [← e1, ← e2]; exact h2)
    · exact Or.inr ⟨by rw [← e1, ← e2]; exact h2, ih (fun j h4 h5 => h j (by omega) (by omega)) h3⟩
theorem lex_nt {a b c : Nat → Int} {r k : Nat} (h1 : ¬ lexlt a b r k) (h2 : ¬ lexlt b c r k) : ¬ lexlt a c r k := fun h => by
  rcases lex_to (a := a) (b := b) (r := r) (k := k) with g | g | g
  · exact h1 g
  · exact h2 (lex_tr g h)
  · exact h2 (lex_cg (fun j j1 j2 => ⟨g j j1 j2, rfl⟩) h)
def kvec (w kn : Nat) (kc kd : Nat → Int32) (u : Nat → Int64) : Nat → Int := fun k => if k < (if kn = 0 then w else kn) then (if kdn kn kd k = 0 then (u (kcol kn kc k)).toInt else - (u (kcol kn kc k)).toInt) else (u w).toInt
theorem lg_0 {x y : Int64} : lg_cmp x y = 0 ↔ x = y := by
  unfold lg_cmp
  by_cases h : x > y
  · rw [if_pos h]
    exact ⟨fun q => absurd q (by decide), fun q => by rw [q] at h; exact absurd (Int64.lt_iff_toInt_lt.mp h) (by omega)⟩
  · rw [if_neg h]
    by_cases e : x = y
    · rw [if_pos e]; exact ⟨fun _ => e, fun _ => rfl⟩
    · rw [if_neg e]; exact ⟨fun q => absurd q (by decide), fun q => absurd q e⟩
theorem lg_le {x y : Int64} : 0 ≤ lg_cmp x y ↔ ¬ x.toInt < y.toInt := by
  unfold lg_cmp
  by_cases h : x > y
  · rw [if_pos h]
    have := Int64.lt_iff_toInt_lt.mp h
    exact ⟨fun _ => by omega, fun _ => by decide⟩
  · rw [if_neg h]
    have h2 : ¬ y.toInt < x.toInt := fun q => h (Int64.lt_iff_toInt_lt.mpr q)
    by_cases e : x = y
    · rw [if_pos e, e]; exact ⟨fun _ => by omega, fun _ => by decide⟩
    · rw [if_neg e]
      have h3 : ¬ x.toInt = y.toInt := fun q => e (Int64.toInt_inj.mp q)
      exact ⟨fun q => absurd q (by decide), fun q => by omega⟩
theorem kcmp_lex {w kn : Nat} {kc kd : Nat → Int32} {u v : Nat → Int64} : ∀ (r k : Nat), k + r = (if kn = 0 then w else kn) → (kcmp u v (kcol kn kc) (kdn kn kd) r k = -1 ∧ lexlt (kvec w kn kc kd u) (kvec w kn kc kd v) r k) ∨ (kcmp u v (kcol kn kc) (kdn kn kd) r k = 0 ∧ ∀ j, k ≤ j → j < k + r → kvec w kn kc kd u j = kvec w kn kc kd v j) ∨ (kcmp u v (kcol kn kc) (kdn kn kd) r k = 1 ∧ lexlt (kvec w kn kc kd v) (kvec w kn kc kd u) r k) := by
  intro r
  induction r with
  | zero => intro k _; exact Or.inr (Or.inl ⟨rfl, fun j h1 h2 => by omega⟩)
  | succ r ih =>
    intro k hk
    have hlt : k < (if kn = 0 then w else kn) := by omega
    have eu : kvec w kn kc kd u k = if kdn kn kd k = 0 then (u (kcol kn kc k)).toInt else - (u (kcol kn kc k)).toInt := if_pos hlt
    have ev : kvec w kn kc kd v k = if kdn kn kd k = 0 then (v (kcol kn kc k)).toInt else - (v (kcol kn kc k)).toInt := if_pos hlt
    have hd : kdn kn kd k = 0 ∨ kdn kn kd k = 1 := by
      unfold kdn
      by_cases e : kn = 0
      · rw [if_pos e]; exact Or.inl rfl
      · rw [if_neg e]
        by_cases e2 : kd k = 0
        · rw [if_pos e2]; exact Or.inl rfl
        · rw [if_neg e2]; exact Or.inr rfl
    unfold kcmp
    by_cases c : lg_cmp (u (kcol kn kc k)) (v (kcol kn kc k)) = 0
    · rw [if_pos c]
      have e := lg_0.mp c
      have hv : kvec w kn kc kd u k = kvec w kn kc kd v k := by rw [eu, ev, e]
      rcases ih (k + 1) (by omega) with ⟨g1, g2⟩ | ⟨g1, g2⟩ | ⟨g1, g2⟩
      · exact Or.inl ⟨g1, Or.inr ⟨hv, g2⟩⟩
      · refine Or.inr (Or.inl ⟨g1, fun j h1 h2 => ?_⟩)
        by_cases z : j = k
        · rw [z]; exact hv
        · exact g2 j (by omega) (by omega)
      · exact Or.inr (Or.inr ⟨g1, Or.inr ⟨hv.symm, g2⟩⟩)
    · rw [if_neg c]
      have hne : ¬ (u (kcol kn kc k)).toInt = (v (kcol kn kc k)).toInt := fun q => c (lg_0.mpr (Int64.toInt_inj.mp q))
      by_cases c2 : 0 ≤ lg_cmp (u (kcol kn kc k)) (v (kcol kn kc k))
      · have c3 := lg_le.mp c2
        rw [if_pos c2]
        rcases hd with d | d
        · rw [d, if_pos rfl]
          rw [d, if_pos rfl] at eu ev
          exact Or.inr (Or.inr ⟨rfl, Or.inl (by rw [eu, ev]; omega)⟩)
        · rw [d, if_neg (by decide)]
          rw [d, if_neg (by decide)] at eu ev
          exact Or.inl ⟨rfl, Or.inl (by rw [eu, ev]; omega)⟩
      · have c3 : (u (kcol kn kc k)).toInt < (v (kcol kn kc k)).toInt := Decidable.not_not.mp (fun q => c2 (lg_le.mpr q))
        rw [if_neg c2]
        rcases hd with d | d
        · rw [d, if_neg (by decide)]
          rw [d, if_pos rfl] at eu ev
          exact Or.inl ⟨rfl, Or.inl (by rw [eu, ev]; omega)⟩
        · rw [d, if_pos rfl]
          rw [d, if_neg (by decide)] at eu ev
          exact Or.inr (Or.inr ⟨rfl, Or.inl (by rw [eu, ev]; omega)⟩)
theorem lex_snoc {a b : Nat → Int} : ∀ (r k : Nat), lexlt a b (r + 1) k ↔ (lexlt a b r k ∨ ((∀ j, k ≤ j → j < k + r → a j = b j) ∧ a (k + r) < b (k + r))) := by
  intro r
  induction r with
  | zero =>
    intro k
    show (a k < b k ∨ (a k = b k ∧ False)) ↔ (False ∨ _)
    constructor
    · rintro (h | ⟨-, h⟩)
      · exact Or.inr ⟨fun j h1 h2 => by omega, h⟩
      · exact h.elim
    · rintro (h | ⟨-, h⟩)
      · exact h.elim
      · exact Or.inl h
  | succ r ih =>
    intro k
    show (a k < b k ∨ (a k = b k ∧ lexlt a b (r + 1) (k + 1))) ↔ ((a k < b k ∨ (a k = b k ∧ lexlt a b r (k + 1))) ∨ _)
    rw [ih (k + 1)]
    constructor
    · rintro (h | ⟨h, h2 | ⟨h2, h3⟩⟩)
      · exact Or.inl (Or.inl h)
      · exact Or.inl (Or.inr ⟨h, h2⟩)
      · refine Or.inr ⟨fun j j1 j2 => ?_, by rw [show k + (r + 1) = k + 1 + r by omega]; exact h3⟩
        by_cases z : j = k
        · rw [z]; exact h
        · exact h2 j (by omega) (by omega)
    · rintro ((h | ⟨h, h2⟩) | ⟨h2, h3⟩)
      · exact Or.inl h
      · exact Or.inr ⟨h, Or.inl h2⟩
      · exact Or.inr ⟨h2 k (by omega) (by omega), Or.inr ⟨fun j j1 j2 => h2 j (by omega) (by omega), by rw [show k + 1 + r = k + (r + 1) by omega]; exact h3⟩⟩
theorem bf_lex {w kn : Nat} {kc kd : Nat → Int32} {u v : Nat → Int64} : bfK w kn kc kd u v = 1 ↔ lexlt (kvec w kn kc kd u) (kvec w kn kc kd v) ((if kn = 0 then w else kn) + 1) 0 := by
  rw [lex_snoc, Nat.zero_add]
  have hu : kvec w kn kc kd u (if kn = 0 then w else kn) = (u w).toInt := if_neg (Nat.lt_irrefl _)
  have hv : kvec w kn kc kd v (if kn = 0 then w else kn) = (v w).toInt := if_neg (Nat.lt_irrefl _)
  rw [hu, hv]
  unfold bfK cmpK
  rcases kcmp_lex (w := w) (kn := kn) (kc := kc) (kd := kd) (u := u) (v := v) (if kn = 0 then w else kn) 0 (Nat.zero_add _) with ⟨g1, g2⟩ | ⟨g1, g2⟩ | ⟨g1, g2⟩
  · rw [g1, if_pos (by decide)]
    exact ⟨fun _ => Or.inl g2, fun _ => rfl⟩
  · rw [g1, if_neg (by decide), if_pos rfl]
    rw [Nat.zero_add] at g2
    by_cases c : 0 ≤ lg_cmp (u w) (v w)
    · rw [if_pos c]
      have := lg_le.mp c
      refine ⟨fun q => absurd q (by decide), fun q => ?_⟩
      rcases q with q | ⟨-, q⟩
      · exact absurd (lex_cg (a' := kvec w kn kc kd v) (b' := kvec w kn kc kd v) (fun j j1 j2 => ⟨g2 j j1 (by omega), rfl⟩) q) lex_ir
      · exact absurd q this
    · rw [if_neg c]
      exact ⟨fun _ => Or.inr ⟨g2, Decidable.not_not.mp (fun q => c (lg_le.mpr q))⟩, fun _ => rfl⟩
  · rw [g1, if_neg (by decide), if_neg (by decide)]
    refine ⟨fun q => absurd q (by decide), fun q => ?_⟩
    rcases q with q | ⟨q, -⟩
    · exact absurd (lex_tr q g2) lex_ir
    · exact absurd (lex_cg (a' := kvec w kn kc kd v) (b' := kvec w kn kc kd v) (fun j j1 j2 => ⟨rfl, q j j1 (by omega)⟩) g2) lex_ir
theorem bf_01 {w kn : Nat} {kc kd : Nat → Int32} {u v : Nat → Int64} : bfK w kn kc kd u v = 0 ∨ bfK w kn kc kd u v = 1 := by
  unfold bfK
  by_cases c : cmpK w kn kc kd u v < 0
  · rw [if_pos c]; exact Or.inr rfl
  · rw [if_neg c]
    by_cases c2 : cmpK w kn kc kd u v = 0
    · rw [if_pos c2]
      by_cases c3 : 0 ≤ lg_cmp (u w) (v w)
      · rw [if_pos c3]; exact Or.inl rfl
      · rw [if_neg c3]; exact Or.inr rfl
    · rw [if_neg c2]; exact Or.inl rfl
/-! ===== memory: a heap ===== -/
/-- one that is ahead of another: its turn is, or it is before it -/
def ahd (B : Nat → Nat → Int32) (x y : Nat × Nat) : Int32 := if x.2 = y.2 then B x.1 y.1 else if y.2 ≤ x.2 then 0 else 1
/-- how records are ordered -/
def ordB (B : Nat → Nat → Int32) (N : Nat) : Prop := (∀ i j, B i j = 0 ∨ B i j = 1) ∧ (∀ i, ¬ B i i = 1) ∧ (∀ i j k, B i j = 1 → B j k = 1 → B i k = 1) ∧ (∀ i j k, ¬ B i j = 1 → ¬ B j k = 1 → ¬ B i k = 1) ∧ (∀ i j, i < N → j < N → ¬ i = j → B i j = 1 ∨ B j i = 1)
theorem ah_ir {B : Nat → Nat → Int32} {N : Nat} (h : ordB B N) (x : Nat × Nat) : ¬ ahd B x x = 1 := by
  unfold ahd
  rw [if_pos rfl]
  exact h.2.1 x.1
theorem ah_if {B : Nat → Nat → Int32} {x y : Nat × Nat} : ahd B x y = 1 ↔ (x.2 < y.2 ∨ (x.2 = y.2 ∧ B x.1 y.1 = 1)) := by
  unfold ahd
  by_cases c : x.2 = y.2
  · rw [if_pos c]
    exact ⟨fun q => Or.inr ⟨c, q⟩, fun q => q.elim (fun q => by omega) (fun q => q.2)⟩
  · rw [if_neg c]
    by_cases d : y.2 ≤ x.2
    · rw [if_pos d]
      exact ⟨fun q => absurd q (by decide), fun q => q.elim (fun q => by omega) (fun q => absurd q.1 c)⟩
    · rw [if_neg d]
      exact ⟨fun _ => Or.inl (by omega), fun _ => rfl⟩
theorem ah_tr {B : Nat → Nat → Int32} {N : Nat} (h : ordB B N) {x y z : Nat × Nat} (h1 : ahd B x y = 1) (h2 : ahd B y z = 1) : ahd B x z = 1 := by
  rw [ah_if] at h1 h2 ⊢
  rcases h1 with h1 | ⟨h1, h1'⟩
  · rcases h2 with h2 | ⟨h2, -⟩
    · exact Or.inl (by omega)
    · exact Or.inl (by omega)
  · rcases h2 with h2 | ⟨h2, h2'⟩
    · exact Or.inl (by omega)
    · exact Or.inr ⟨by omega, h.2.2.1 _ _ _ h1' h2'⟩
theorem ah_nt {B : Nat → Nat → Int32} {N : Nat} (h : ordB B N) {x y z : Nat × Nat} (h1 : ¬ ahd B x y = 1) (h2 : ¬ ahd B y z = 1) : ¬ ahd B x z = 1 := by
  rw [ah_if] at h1 h2 ⊢
  intro q
  rcases q with q | ⟨q, q'⟩
  · by_cases c : x.2 < y.2
    · exact h1 (Or.inl c)
    · exact h2 (Or.inl (by omega))
  · by_cases c : x.2 < y.2
    · exact h1 (Or.inl c)
    · by_cases d : y.2 < z.2
      · exact h2 (Or.inl d)
      · exact h.2.2.2.1 _ _ _ (fun e => h1 (Or.inr ⟨by omega, e⟩)) (fun e => h2 (Or.inr ⟨by omega, e⟩)) q'
theorem ah_01 {B : Nat → Nat → Int32} {N : Nat} (h : ordB B N) (x y : Nat × Nat) : ahd B x y = 0 ∨ ahd B x y = 1 := by
  unfold ahd
  by_cases c : x.2 = y.2
  · rw [if_pos c]; exact h.1 _ _
  · rw [if_neg c]
    by_cases d : y.2 ≤ x.2
    · rw [if_pos d]; exact Or.inl rfl
    · rw [if_neg d]; exact Or.inr rfl
def eS (e : Nat → Nat × Nat) (h : Nat) (x : Nat × Nat) : Nat → Nat × Nat := fun j => if j = h then x else e j
def heap (B : Nat → Nat → Int32) (e : Nat → Nat × Nat) (s : Nat) : Prop := ∀ j, 0 < j → j < s → ¬ ahd B (e j) (e ((j - 1) / 2)) = 1
def injE (e : Nat → Nat × Nat) (s : Nat) : Prop := ∀ i j, i < s → j < s → (e i).1 = (e j).1 → i = j
theorem heap_min {B : Nat → Nat → Int32} {N : Nat} (hB : ordB B N) {e : Nat → Nat × Nat} {s : Nat} (h : heap B e s) : ∀ j, j < s → ¬ ahd B (e j) (e 0) = 1 := by
  intro j
  induction j using Nat.strongRecOn with
  | _ j ih =>
    intro hj
    by_cases c : j = 0
    · rw [c]; exact ah_ir hB _
    · exact ah_nt hB (h j (by omega) hj) (ih ((j - 1) / 2) (by omega) (by omega))
/-- one step up -/
theorem up_step {B : Nat → Nat → Int32} {N : Nat} (hB : ordB B N) {e : Nat → Nat × Nat} {x : Nat × Nat} {s h : Nat} (hh : 0 < h) (hs : h ≤ s) (h1 : ∀ j, 0 < j → j ≤ s → ¬ j = h → ¬ ahd B (eS e h x j) (eS e h x ((j - 1) / 2)) = 1) (h2 : ∀ j, 0 < j → j ≤ s → (j - 1) / 2 = h → ¬ ahd B (eS e h x j) (eS e h x ((h - 1) / 2)) = 1) (hx : ahd B x (e ((h - 1) / 2)) = 1) :
    (∀ j, 0 < j → j ≤ s → ¬ j = (h - 1) / 2 → ¬ ahd B (eS (eS e h (e ((h - 1) / 2))) ((h - 1) / 2) x j) (eS (eS e h (e ((h - 1) / 2))) ((h - 1) / 2) x ((j - 1) / 2)) = 1) ∧ (∀ j, 0 < j → j ≤ s → (j - 1) / 2 = (h - 1) / 2 → 0 < (h - 1) / 2 → ¬ ahd B (eS (eS e h (e ((h - 1) / 2))) ((h - 1) / 2) x j) (eS (eS e h (e ((h - 1) / 2))) ((h - 1) / 2) x (((h - 1) / 2 - 1) / 2)) = 1) := by
  generalize hp : (h - 1) / 2 = p at *
  have hph : ¬ p = h := by omega
  have fv : ∀ j, eS (eS e h (e p)) p x j = if j = p then x else if j = h then e p else e j := fun j => rfl
  have gv : ∀ j, eS e h x j = if j = h then x else e j := fun j => rfl
  have gp : eS e h x p = e p := by rw [gv, if_neg hph]
  have asym : ¬ ahd B (e p) x = 1 := fun q => ah_ir hB x (ah_tr hB hx q)
  refine ⟨fun j j1 j2 j3 => ?_, fun j j1 j2 j3 j4 => ?_⟩
  · rw [fv, fv, if_neg j3]
    by_cases c : j = h
    · rw [if_pos c, c, hp, if_pos rfl]
      exact asym
    · rw [if_neg c]
      have g1 := h1 j j1 j2 c
      rw [gv, if_neg c] at g1
      by_cases d : (j - 1) / 2 = p
      · rw [if_pos d]
        rw [d, gp] at g1
        exact fun q => g1 (ah_tr hB q hx)
      · rw [if_neg d]
        by_cases d2 : (j - 1) / 2 = h
        · rw [if_pos d2]
          have g2 := h2 j j1 j2 d2
          rw [gv, if_neg c, gp] at g2
          exact g2
        · rw [if_neg d2]
          rw [gv, if_neg d2] at g1
          exact g1
  · have hpp : ¬ (p - 1) / 2 = p := by omega
    have hpp2 : ¬ (p - 1) / 2 = h := by omega
    have gpe := h1 p j4 (by omega) hph
    rw [gp, gv, if_neg hpp2] at gpe
    rw [fv, fv, if_neg hpp, if_neg hpp2]
    by_cases c : j = p
    · exact absurd c (by omega)
    · rw [if_neg c]
      by_cases d : j = h
      · rw [if_pos d]
        exact gpe
      · rw [if_neg d]
        have g1 := h1 j j1 j2 d
        rw [gv, if_neg d, j3, gp] at g1
        exact ah_nt hB g1 gpe
/-- one step down -/
theorem dn_step {B : Nat → Nat → Int32} {N : Nat} (hB : ordB B N) {e : Nat → Nat × Nat} {x : Nat × Nat} {t h c : Nat} (hc : c = 2 * h + 1 ∨ c = 2 * h + 2) (hct : c < t) (h1 : ∀ j, 0 < j → j < t → ¬ (j - 1) / 2 = h → ¬ ahd B (eS e h x j) (eS e h x ((j - 1) / 2)) = 1) (h2 : ∀ j, 0 < j → j < t → (j - 1) / 2 = h → 0 < h → ¬ ahd B (eS e h x j) (eS e h x ((h - 1) / 2)) = 1) (hx : ¬ ahd B x (e c) = 1) (hm : ∀ j, 0 < j → j < t → (j - 1) / 2 = h → ¬ ahd B (e j) (e c) = 1) :
    (∀ j, 0 < j → j < t → ¬ (j - 1) / 2 = c → ¬ ahd B (eS (eS e h (e c)) c x j) (eS (eS e h (e c)) c x ((j - 1) / 2)) = 1) ∧ (∀ j, 0 < j → j < t → (j - 1) / 2 = c → 0 < c → ¬ ahd B (eS (eS e h (e c)) c x j) (eS (eS e h (e c)) c x ((c - 1) / 2)) = 1) := by
  have hch : (c - 1) / 2 = h := by omega
  have hne : ¬ c = h := by omega
  have fv : ∀ j, eS (eS e h (e c)) c x j = if j = c then x else if j = h then e c else e j := fun j => rfl
  have gv : ∀ j, eS e h x j = if j = h then x else e j := fun j => rfl
  refine ⟨fun j j1 j2 j3 => ?_, fun j j1 j2 j3 j4 => ?_⟩
  · rw [fv, fv, if_neg j3]
    by_cases d : j = c
    · rw [if_pos d, d, hch, if_pos rfl]
      exact hx
    · rw [if_neg d]
      by_cases d2 : (j - 1) / 2 = h
      · have hjh : ¬ j = h := by omega
        rw [if_neg hjh, if_pos d2]
        exact hm j j1 j2 d2
      · rw [if_neg d2]
        by_cases d3 : j = h
        · rw [if_pos d3]
          have g := h2 c (by omega) hct hch (by omega)
          rw [gv, if_neg hne, gv, if_neg (show ¬ (h - 1) / 2 = h by omega)] at g
          rw [d3]
          exact g
        · rw [if_neg d3]
          have g := h1 j j1 j2 d2
          rw [gv, if_neg d3, gv, if_neg d2] at g
          exact g
  · have hjc : ¬ j = c := by omega
    have hjh : ¬ j = h := by omega
    rw [fv, if_neg hjc, if_neg hjh, fv, hch, if_neg (show ¬ h = c by omega), if_pos rfl]
    have g := h1 j j1 j2 (by omega)
    rw [gv, if_neg hjh, j3, gv, if_neg hne] at g
    exact g
/-- two places change their things -/
theorem sw_mem {e : Nat → Nat × Nat} {x : Nat × Nat} {h p t : Nat} (hh : h < t) (hp : p < t) (hne : ¬ p = h) (hin : injE (eS e h x) t) : (∀ y, (∃ j, j < t ∧ eS (eS e h (e p)) p x j = y) ↔ (∃ j, j < t ∧ eS e h x j = y)) ∧ injE (eS (eS e h (e p)) p x) t := by
  have fv : ∀ j, eS (eS e h (e p)) p x j = if j = p then x else if j = h then e p else e j := fun j => rfl
  have gv : ∀ j, eS e h x j = if j = h then x else e j := fun j => rfl
  have src : ∀ j, j < t → ∃ k, k < t ∧ eS (eS e h (e p)) p x j = eS e h x k ∧ (j = p → k = h) ∧ (j = h → k = p) ∧ (¬ j = p → ¬ j = h → k = j) := fun j hj => by
    by_cases c : j = p
    · exact ⟨h, hh, by rw [fv, if_pos c, gv, if_pos rfl], fun _ => rfl, fun q => absurd (c.symm.trans q) hne, fun q => absurd c q⟩
    · by_cases d : j = h
      · exact ⟨p, hp, by rw [fv, if_neg c, if_pos d, gv, if_neg hne], fun q => absurd q c, fun _ => rfl, fun _ q => absurd d q⟩
      · exact ⟨j, hj, by rw [fv, if_neg c, if_neg d, gv, if_neg d], fun q => absurd q c, fun q => absurd q d, fun _ _ => rfl⟩
  refine ⟨fun y => ⟨?_, ?_⟩, fun i j hi hj he => ?_⟩
  · rintro ⟨j, hj, rfl⟩
    obtain ⟨k, k1, k2, -⟩ := src j hj
    exact ⟨k, k1, k2.symm⟩
  · rintro ⟨j, hj, rfl⟩
    by_cases c : j = h
    · exact ⟨p, hp, by rw [fv, if_pos rfl, gv, if_pos c]⟩
    · by_cases d : j = p
      · exact ⟨h, hh, by rw [fv, if_neg (fun q => hne q.symm), if_pos rfl, gv, if_neg c, d]⟩
      · exact ⟨j, hj, by rw [fv, if_neg d, if_neg c, gv, if_neg c]⟩
  · obtain ⟨k, k1, k2, k3, k4, k5⟩ := src i hi
    obtain ⟨l, l1, l2, l3, l4, l5⟩ := src j hj
    rw [k2, l2] at he
    have hkl := hin k l k1 l1 he
    by_cases c : i = p
    · have := k3 c
      by_cases d : j = p
      · omega
      · by_cases d2 : j = h
        · have := l4 d2; omega
        · have := l5 d d2; omega
    · by_cases c2 : i = h
      · have := k4 c2
        by_cases d : j = p
        · have := l3 d; omega
        · by_cases d2 : j = h
          · omega
          · have := l5 d d2; omega
      · have := k5 c c2
        by_cases d : j = p
        · have := l3 d; omega
        · by_cases d2 : j = h
          · have := l4 d2; omega
          · have := l5 d d2; omega
