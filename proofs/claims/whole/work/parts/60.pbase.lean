/-! ===== the pure side: numbers, states, loops ===== -/
theorem nI_sub {a b : Nat} (h : b ≤ a) : nI a - nI b = nI (a - b) := by
  have e : nI a = nI (a - b) + nI b := by rw [nI_add, Nat.sub_add_cancel h]
  rw [e]
  exact Int32.add_sub_cancel _ _
theorem nI_mul (a b : Nat) : nI a * nI b = nI (a * b) := (Int32.ofNat_mul a b).symm
theorem nI_div {a b : Nat} (ha : a < 2 ^ 31) (hb : b < 2 ^ 31) : nI a / nI b = nI (a / b) := by
  apply Int32.toInt_inj.mp
  have hab : a / b < 2 ^ 31 := Nat.lt_of_le_of_lt (Nat.div_le_self a b) ha
  rw [Int32.toInt_div, nI_toInt ha, nI_toInt hb, nI_toInt hab]
  have e : Int.tdiv (a : Int) (b : Int) = ((a / b : Nat) : Int) := rfl
  rw [e]
  generalize a / b = q at hab
  exact Int.bmod_eq_of_le (by omega) (by omega)
theorem nI_mod {a b : Nat} (ha : a < 2 ^ 31) (hb : b < 2 ^ 31) : nI a - nI a / nI b * nI b = nI (a % b) := by
  rw [nI_div ha hb, nI_mul, nI_sub (Nat.div_mul_le_self a b)]
  congr 1
  have := Nat.div_add_mod a b
  rw [Nat.mul_comm] at this
  omega
theorem nI_m1 {a : Nat} (h : a < 2 ^ 31) : ¬ nI a = -1 := fun e => by
  have := congrArg Int32.toInt e
  rw [nI_toInt h, show (-1 : Int32).toInt = -1 by decide] at this
  omega
theorem nI_m1' {a : Nat} (h : a < 2 ^ 31) : ¬ (-1 : Int32) = nI a := fun e => nI_m1 h e.symm
theorem m1_lt {a : Nat} (h : a < 2 ^ 31) : (-1 : Int32) < nI a := by
  rw [Int32.lt_iff_toInt_lt, nI_toInt h, show (-1 : Int32).toInt = -1 by decide]
  omega
theorem nI_nn {a : Nat} (h : a < 2 ^ 31) : ¬ nI a < 0 := nI_pos h
theorem zin_nI {a N : Nat} (h : a < N) (hN : N < 2 ^ 31) : zin (nI a) N = true := zin_iff.mpr (nI_in h hN)
theorem zg_t {α : Type} {b : Bool} {k : Option α} (h : b = true) : zg b k = k := by rw [h]; rfl
theorem zb_s {α β : Type} {x : Option α} {a : α} {k : α → Option β} (h : x = some a) : zb x k = k a := by rw [h]; rfl
theorem zg_in {α : Type} {a N : Nat} {k : Option α} (h : a < N) (hN : N < 2 ^ 31) : zg (zin (nI a) N) k = k := zg_t (zin_nI h hN)
theorem znz_nI {a : Nat} (h0 : 0 < a) (h : a < 2 ^ 31) : znz (nI a) = true := decide_eq_true (nI_ne0 h0 h)
/-! states -/
theorem zI_sI (σ : zS) (k j : Nat) (v : Int32) : zI (sI σ k v) j = if j = k then v else zI σ j := rfl
theorem zI_sA (σ : zS) (k j : Nat) (f : Nat → Int32) : zI (sA σ k f) j = zI σ j := rfl
theorem zI_sL (σ : zS) (k j : Nat) (f : Nat → Int64) : zI (sL σ k f) j = zI σ j := rfl
theorem zA_sA (σ : zS) (k j : Nat) (f : Nat → Int32) : zA (sA σ k f) j = if j = k then f else zA σ j := rfl
theorem zA_sI (σ : zS) (k j : Nat) (v : Int32) : zA (sI σ k v) j = zA σ j := rfl
theorem zA_sL (σ : zS) (k j : Nat) (f : Nat → Int64) : zA (sL σ k f) j = zA σ j := rfl
theorem zL_sL (σ : zS) (k j : Nat) (f : Nat → Int64) : zL (sL σ k f) j = if j = k then f else zL σ j := rfl
theorem zL_sI (σ : zS) (k j : Nat) (v : Int32) : zL (sI σ k v) j = zL σ j := rfl
theorem zL_sA (σ : zS) (k j : Nat) (f : Nat → Int32) : zL (sA σ k f) j = zL σ j := rfl
theorem sI_sI (σ : zS) (k : Nat) (v w : Int32) : sI (sI σ k v) k w = sI σ k w := by
  unfold sI
  congr 1
  funext j
  by_cases h : j = k
  · simp [h]
  · simp [h]
theorem sA_sA (σ : zS) (k : Nat) (f g : Nat → Int32) : sA (sA σ k f) k g = sA σ k g := by
  unfold sA
  congr 2
  funext j
  by_cases h : j = k
  · simp [h]
  · simp [h]
theorem sL_sL (σ : zS) (k : Nat) (f g : Nat → Int64) : sL (sL σ k f) k g = sL σ k g := by
  unfold sL
  congr 3
  funext j
  by_cases h : j = k
  · simp [h]
  · simp [h]
theorem sA_id (σ : zS) (k : Nat) : sA σ k (zA σ k) = σ := by
  unfold sA
  have e : (fun j => if j = k then zA σ k else σ.2.1 j) = σ.2.1 := by
    funext j
    by_cases h : j = k
    · simp only [h, if_pos]; rfl
    · simp [h]
  rw [e]
theorem sL_id (σ : zS) (k : Nat) : sL σ k (zL σ k) = σ := by
  unfold sL
  have e : (fun j => if j = k then zL σ k else σ.2.2.1 j) = σ.2.2.1 := by
    funext j
    by_cases h : j = k
    · simp only [h, if_pos]; rfl
    · simp [h]
  rw [e]
theorem sI_id (σ : zS) (k : Nat) : sI σ k (zI σ k) = σ := by
  unfold sI
  have e : (fun j => if j = k then zI σ k else σ.1 j) = σ.1 := by
    funext j
    by_cases h : j = k
    · simp only [h, if_pos]; rfl
    · simp [h]
  rw [e]
theorem upd_at (f : Nat → Int32) (i j : Nat) (v : Int32) : upd f i v j = if j = i then v else f j := rfl
theorem updL_at (f : Nat → Int64) (i j : Nat) (v : Int64) : vp_updL f i v j = if j = i then v else f j := rfl
/-! loops -/
theorem zlp_for {α β : Type} {body : α → Option (α ⊕ β)} (g : Nat → α) (b : β) : ∀ (N i n : Nat), (∀ j, i ≤ j → j < i + N → body (g j) = some (.inl (g (j + 1)))) → body (g (i + N)) = some (.inr b) → N < n → zlp body n (g i) = some b := by
  intro N
  induction N with
  | zero =>
    intro i n _ ho hn
    obtain ⟨n, rfl⟩ : ∃ n', n = n' + 1 := ⟨n - 1, by omega⟩
    unfold zlp
    rw [Nat.add_zero] at ho
    rw [ho]
  | succ N ih =>
    intro i n hi ho hn
    obtain ⟨n, rfl⟩ : ∃ n', n = n' + 1 := ⟨n - 1, by omega⟩
    unfold zlp
    rw [hi i (Nat.le_refl i) (by omega)]
    exact ih (i + 1) n (fun j h1 h2 => hi j (by omega) (by omega)) (by rw [show i + 1 + N = i + (N + 1) by omega]; exact ho) (by omega)
theorem zlp_tot {α β : Type} {body : α → Option (α ⊕ β)} (P : Nat → α → Prop) (Q : β → Prop) (hstep : ∀ m a, P m a → (∃ a' m', m' < m ∧ body a = some (.inl a') ∧ P m' a') ∨ (∃ b, body a = some (.inr b) ∧ Q b)) : ∀ (n m : Nat) (a : α), m < n → P m a → ∃ b, zlp body n a = some b ∧ Q b := by
  intro n
  induction n with
  | zero => intro m a h; omega
  | succ n ih =>
    intro m a hm hP
    unfold zlp
    rcases hstep m a hP with ⟨a', m', h1, h2, h3⟩ | ⟨b, h1, h2⟩
    · rw [h2]
      exact ih m' a' (by omega) h3
    · rw [h1]
      exact ⟨b, rfl, h2⟩
/-! ===== the disk, as both have it ===== -/
abbrev zD : Type := (Nat → Nat → Int64) × (Nat → Bool) × Int32 × Int32 × Int32 × Int32 × Int32
def dGo (d : zD) (b : Int32) : zD := (d.1, d.2.1, d.2.2.1, d.2.2.2.1, d.2.2.2.2.1 + (if b ≤ d.2.2.2.2.2.1 then d.2.2.2.2.2.1 - b else b - d.2.2.2.2.2.1), b, d.2.2.2.2.2.2)
def dRead (d : zD) (b : Int32) : zD := dGo (d.1, d.2.1, d.2.2.1 + 1, d.2.2.2) b
/-- the least block that isn't used, from b on; at most m are looked at -/
def dLf (u : Nat → Bool) : Nat → Nat → Nat
  | 0, b => b
  | m + 1, b => if u b = true then dLf u m (b + 1) else b
def dPut (d : zD) (b : Nat) (row : Nat → Int64) (cnt : Nat) : zD := dGo (fun c k => if c = b ∧ k < cnt then row k else d.1 c k, fun c => decide (c = b) || d.2.1 c, d.2.2.1, d.2.2.2.1 + 1, d.2.2.2.2.1, d.2.2.2.2.2.1, if d.2.2.2.2.2.2 ≤ 0 then d.2.2.2.2.2.2 else d.2.2.2.2.2.2 - 1) (nI b)
def dM (nb sz : Nat) (τ : zS) : zD := (fun b k => if b < nb ∧ k < sz then zL τ 0 (64 * b + k) else 0, fun b => decide (b < nb) && decide (¬ zA τ 0 b = 0), zI τ 10, zI τ 11, zI τ 12, zI τ 13, zI τ 15)
def dC (nb sz : Nat) (σ : zS) : zD := (fun b k => if b < nb ∧ k < sz then zL σ 0 (b * sz + k) else 0, fun b => decide (b < nb) && decide (¬ zA σ 0 b = 0), zI σ 2, zI σ 3, zI σ 4, zI σ 5, zI σ 6)
theorem dLf_le (u : Nat → Bool) : ∀ m b, b ≤ dLf u m b ∧ dLf u m b ≤ b + m := by
  intro m
  induction m with
  | zero => intro b; exact ⟨Nat.le_refl _, Nat.le_refl _⟩
  | succ m ih =>
    intro b
    unfold dLf
    by_cases h : u b = true
    · rw [if_pos h]
      have := ih (b + 1)
      omega
    · rw [if_neg h]
      omega
theorem dLf_used (u : Nat → Bool) : ∀ m b j, b ≤ j → j < dLf u m b → u j = true := by
  intro m
  induction m with
  | zero => intro b j h1 h2; unfold dLf at h2; omega
  | succ m ih =>
    intro b j h1 h2
    unfold dLf at h2
    by_cases h : u b = true
    · rw [if_pos h] at h2
      by_cases e : j = b
      · rw [e]; exact h
      · exact ih (b + 1) j (by omega) h2
    · rw [if_neg h] at h2
      omega
theorem dLf_free (u : Nat → Bool) : ∀ m b, dLf u m b < b + m → ¬ u (dLf u m b) = true := by
  intro m
  induction m with
  | zero => intro b h; unfold dLf at h; omega
  | succ m ih =>
    intro b h
    unfold dLf at h ⊢
    by_cases hu : u b = true
    · rw [if_pos hu] at h ⊢
      exact ih (b + 1) (by omega)
    · rw [if_neg hu]
      exact hu
theorem dLf_eq {u : Nat → Bool} {m b : Nat} (h1 : ∀ j, j < b → u j = true) (h2 : b = m ∨ (b < m ∧ ¬ u b = true)) : dLf u m 0 = b := by
  have a1 := dLf_le u m 0
  have a2 := dLf_used u m 0
  have a3 := dLf_free u m 0
  rcases Nat.lt_trichotomy (dLf u m 0) b with h | h | h
  · exact absurd (h1 _ h) (a3 (by omega))
  · exact h
  · rcases h2 with h2 | h2
    · omega
    · exact absurd (a2 b (Nat.zero_le _) h) h2.2
