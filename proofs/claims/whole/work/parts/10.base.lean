/-! ===== the state: numbers, rows of numbers, rows of longs, addresses that move ===== -/
abbrev zS : Type := (Nat → Int32) × (Nat → Nat → Int32) × (Nat → Nat → Int64) × (Nat → Nat) × (Nat → Int32) × (Nat → Nat → Int32)
def zI (σ : zS) (k : Nat) : Int32 := σ.1 k
def zA (σ : zS) (k : Nat) : Nat → Int32 := σ.2.1 k
def zL (σ : zS) (k : Nat) : Nat → Int64 := σ.2.2.1 k
def zT (σ : zS) (k : Nat) : Nat := σ.2.2.2.1 k
def zU (σ : zS) (k : Nat) : Int32 := σ.2.2.2.2.1 k
def zV (σ : zS) (k : Nat) : Nat → Int32 := σ.2.2.2.2.2 k
def sI (σ : zS) (k : Nat) (v : Int32) : zS := (fun j => if j = k then v else σ.1 j, σ.2)
def sA (σ : zS) (k : Nat) (f : Nat → Int32) : zS := (σ.1, fun j => if j = k then f else σ.2.1 j, σ.2.2)
def sL (σ : zS) (k : Nat) (f : Nat → Int64) : zS := (σ.1, σ.2.1, fun j => if j = k then f else σ.2.2.1 j, σ.2.2.2)
def sT (σ : zS) (k : Nat) (v : Nat) : zS := (σ.1, σ.2.1, σ.2.2.1, fun j => if j = k then v else σ.2.2.2.1 j, σ.2.2.2.2)
def sU (σ : zS) (k : Nat) (v : Int32) : zS := (σ.1, σ.2.1, σ.2.2.1, σ.2.2.2.1, fun j => if j = k then v else σ.2.2.2.2.1 j, σ.2.2.2.2.2)
def sV (σ : zS) (k : Nat) (f : Nat → Int32) : zS := (σ.1, σ.2.1, σ.2.2.1, σ.2.2.2.1, σ.2.2.2.2.1, fun j => if j = k then f else σ.2.2.2.2.2 j)
/-- the tables' numbers; addresses; classes of arrays; lengths -/
abbrev zG : Type := va_G × (Nat → Nat) × (Nat → ClassId) × (Nat → Nat)
def zt (κ : zG) : List (ClassId × FieldType) := [(κ.2.2.1 0, .int), (κ.2.2.1 1, .long), (κ.2.2.1 2, .boolean), (κ.2.2.1 3, .object RX6)]
/-! ===== the words: one list for all ===== -/
def zW : List Cond := lw_tbl.filter goodWord
theorem zw {w : Cond} (h : w ∈ lw_tbl) (g : goodWord w = true) : w ∈ zW := List.mem_filter.mpr ⟨h, g⟩
theorem zws {l : List Cond} (h : ∀ w ∈ l, w ∈ lw_tbl) (g : l.all goodWord = true) : ∀ w ∈ l, w ∈ zW := fun w hw => zw (h w hw) (List.all_eq_true.mp g w hw)
theorem zgood {c : Cond} (hc : c ∈ zW) : GoodIn zW (c :: zW) := fun w hw => by
  rcases List.mem_cons.mp hw with e | h
  · subst e
    exact ⟨hc, good_of_word (List.mem_filter.mp hc).2⟩
  · exact ⟨h, good_of_word (List.mem_filter.mp h).2⟩
theorem zgV {c : Cond} {own C : String} {idx : Nat} {y : MethodName} (h1 : Cond.methodLink own idx y ∈ zW) (h2 : Cond.instanceMethod y ∈ zW) (h3 : Cond.selects C y y ∈ zW) (h4 : Cond.initialized C ∈ zW) (hc : c ∈ zW) : GoodIn zW (wsV own idx C y (c :: zW)) := fun w hw => by
  rcases List.mem_append.mp hw with h | h
  · have hz : w ∈ zW := by
      rcases List.mem_cons.mp h with e | h
      · exact e ▸ h1
      rcases List.mem_cons.mp h with e | h
      · exact e ▸ h2
      rcases List.mem_cons.mp h with e | h
      · exact e ▸ h3
      rcases List.mem_cons.mp h with e | h
      · exact e ▸ h4
      · cases h
    exact ⟨hz, good_of_word (List.mem_filter.mp hz).2⟩
  · exact zgood hc w h
theorem zgS {c : Cond} {own : String} {idx : Nat} {y : MethodName} (h1 : Cond.methodLink own idx y ∈ zW) (h2 : Cond.static y ∈ zW) (h4 : Cond.initialized own ∈ zW) (hc : c ∈ zW) : GoodIn zW (wsS own idx y (c :: zW)) := fun w hw => by
  rcases List.mem_append.mp hw with h | h
  · have hz : w ∈ zW := by
      rcases List.mem_cons.mp h with e | h
      · exact e ▸ h1
      rcases List.mem_cons.mp h with e | h
      · exact e ▸ h2
      rcases List.mem_cons.mp h with e | h
      · exact e ▸ h4
      · cases h
    exact ⟨hz, good_of_word (List.mem_filter.mp hz).2⟩
  · exact zgood hc w h
/-! ===== pure words ===== -/
def zg {α : Type} (b : Bool) (k : Option α) : Option α := if b = true then k else none
def zb {α β : Type} (x : Option α) (k : α → Option β) : Option β := match x with
  | none => none
  | some a => k a
/-- a loop: the body goes on with .inl, leaves with .inr -/
def zlp {α β : Type} (body : α → Option (α ⊕ β)) : Nat → α → Option β
  | 0, _ => none
  | n + 1, a => match body a with
    | none => none
    | some (.inl a') => zlp body n a'
    | some (.inr b) => some b
def zin (i : Int32) (n : Nat) : Bool := decide (¬ (i < 0 ∨ n ≤ i.toNatClampNeg))
theorem zin_in {i : Int32} {n : Nat} (h : zin i n = true) : vp_in i n := by
  show ¬ (i < 0 ∨ n ≤ i.toNatClampNeg)
  unfold zin at h
  exact of_decide_eq_true h
theorem zin_iff {i : Int32} {n : Nat} : zin i n = true ↔ vp_in i n := ⟨zin_in, fun h => by
  have h2 : ¬ (i < 0 ∨ n ≤ i.toNatClampNeg) := h
  unfold zin
  exact decide_eq_true h2⟩
theorem zg_some {α : Type} {b : Bool} {k : Option α} {r : α} (h : zg b k = some r) : b = true ∧ k = some r := by
  unfold zg at h
  by_cases hb : b = true
  · rw [if_pos hb] at h; exact ⟨hb, h⟩
  · rw [if_neg hb] at h; cases h
theorem zb_some {α β : Type} {x : Option α} {k : α → Option β} {r : β} (h : zb x k = some r) : ∃ q, x = some q ∧ k q = some r := by
  cases x with
  | none => cases h
  | some a => exact ⟨a, rfl, h⟩
theorem zif_t {c : Prop} {d : Decidable c} {α : Type} {x y : Option α} {r : α} (h : c) (hf : (@ite _ c d x y) = some r) : x = some r := by rw [if_pos h] at hf; exact hf
theorem zif_f {c : Prop} {d : Decidable c} {α : Type} {x y : Option α} {r : α} (h : ¬ c) (hf : (@ite _ c d x y) = some r) : y = some r := by rw [if_neg h] at hf; exact hf
theorem zif_tn {c : Prop} {d : Decidable c} {α : Type} {x y : Option α} {r : α} (h : ¬ ¬ c) (hf : (@ite _ c d x y) = some r) : x = some r := by rw [if_pos (Decidable.not_not.mp h)] at hf; exact hf
def znz (y : Int32) : Bool := decide (¬ y = 0)
theorem znz_ne {y : Int32} (h : znz y = true) : ¬ y = 0 := of_decide_eq_true h
def znzL (y : Int64) : Bool := decide (¬ y = 0)
theorem znzL_ne {y : Int64} (h : znzL y = true) : ¬ y = 0 := of_decide_eq_true h
def zbo (x : Int32) : Bool := decide (narrow .boolean (.int x) = .int x) && fits .boolean (.int x)
theorem zbo_n {x : Int32} (h : zbo x = true) : narrow .boolean (.int x) = .int x := of_decide_eq_true (Bool.and_eq_true_iff.mp h).1
theorem zbo_f {x : Int32} (h : zbo x = true) : fits .boolean (.int x) = true := (Bool.and_eq_true_iff.mp h).2
/-! nest mates' links, as the tables have them -/
def zNf : List (String × Nat × String × String × String) := [("BlockSorter", 129, "BlockSorter$Order", "columns", "I"),
  ("BlockSorter", 220, "BlockSorter$Tapes", "level", "I"),
  ("BlockSorter", 257, "BlockSorter$Input", "blocks", "LBlockSorter$Row;"),
  ("BlockSorter", 284, "BlockSorter$Disk", "reads", "I"),
  ("BlockSorter", 287, "BlockSorter$Disk", "writes", "I"),
  ("BlockSorter", 290, "BlockSorter$Disk", "way", "I"),
  ("BlockSorter", 293, "BlockSorter$Disk", "arm", "I"),
  ("BlockSorter", 299, "BlockSorter$Input", "came", "I"),
  ("BlockSorter", 302, "BlockSorter$Order", "per", "I"),
  ("BlockSorter", 305, "BlockSorter$Input", "onDesk", "I"),
  ("BlockSorter", 308, "BlockSorter$Order", "keys", "I"),
  ("BlockSorter", 311, "BlockSorter$Disk", "isDown", "Z"),
  ("BlockSorter", 320, "BlockSorter$Disk", "writesLeft", "I"),
  ("BlockSorter", 342, "BlockSorter$Disk", "size", "I"),
  ("BlockSorter", 344, "BlockSorter$Order", "cells", "I"),
  ("BlockSorter", 351, "BlockSorter$Memory", "room", "I"),
  ("BlockSorter", 354, "BlockSorter$Input", "unread", "I"),
  ("BlockSorter", 369, "BlockSorter$Memory", "size", "I"),
  ("BlockSorter", 386, "BlockSorter$Merger", "group", "LBlockSorter$Row;"),
  ("BlockSorter$Input", 28, "BlockSorter$Disk", "size", "I"),
  ("BlockSorter$Input", 50, "BlockSorter$Order", "per", "I"),
  ("BlockSorter$Input", 58, "BlockSorter$Order", "cells", "I"),
  ("BlockSorter$Input", 61, "BlockSorter$Order", "columns", "I"),
  ("BlockSorter$Merger", 84, "BlockSorter$Scribe", "newRuns", "LBlockSorter$Row;"),
  ("BlockSorter$Merger", 92, "BlockSorter$Disk", "size", "I"),
  ("BlockSorter$Merger", 104, "BlockSorter$Order", "per", "I"),
  ("BlockSorter$Merger", 116, "BlockSorter$Order", "cells", "I"),
  ("BlockSorter$Order", 30, "BlockSorter$Disk", "size", "I"),
  ("BlockSorter$Scribe", 23, "BlockSorter$Disk", "size", "I"),
  ("BlockSorter$Scribe", 90, "BlockSorter$Order", "columns", "I"),
  ("BlockSorter$Scribe", 107, "BlockSorter$Order", "cells", "I"),
  ("BlockSorter$Scribe", 128, "BlockSorter$Order", "per", "I")]
def zNm : List (String × Nat × MethodName) := [(RX5, 44, yX9_within), (RX8, 27, yX9_within)]
def zσ0 : zS := (fun _ => 0, fun _ _ => 0, fun _ _ => 0, fun _ => 0, fun _ => 0, fun _ _ => 0)
theorem z_loop {α β : Type} {body : α → Option (α ⊕ β)} {Wd : α → Prop} {Ex : β → Prop} (hstep : ∀ (a : α) (r : α ⊕ β), body a = some r → (∀ a', r = .inl a' → Wd a') → (∀ b, r = .inr b → Ex b) → Wd a) : ∀ (k : Nat) (a : α) (b : β), zlp body k a = some b → Ex b → Wd a := by
  intro k
  induction k with
  | zero => intro a b h; cases h
  | succ k ih =>
    intro a b h hE
    unfold zlp at h
    cases hb : body a with
    | none => rw [hb] at h; cases h
    | some r =>
      rw [hb] at h
      cases r with
      | inl a' => exact hstep a _ hb (fun a2 e => by cases e; exact ih a' b h hE) (fun b2 e => by cases e)
      | inr b' => cases h; exact hstep a _ hb (fun a2 e => by cases e) (fun b2 e => by cases e; exact hE)
theorem zout {x : Int32} {lo hi : Int} (h : ∀ k : Int, lo ≤ k → k ≤ hi → ¬ x.toInt = k) : x.toInt < lo ∨ hi < x.toInt := by
  rcases Int.lt_or_le x.toInt lo with a | a
  · exact Or.inl a
  · rcases Int.lt_or_le hi x.toInt with b | b
    · exact Or.inr b
    · exact absurd rfl (h _ a b)
/-! ===== nest mates' links ===== -/
def zN (U : State) : Prop := (∀ q ∈ zNf, va_Nw (.fieldLinkNest q.1 q.2.1 q.2.2.1 q.2.2.2.1 q.2.2.2.2 RX9) U) ∧ (∀ q ∈ zNm, va_Nw (.methodLinkNest q.1 q.2.1 q.2.2 RX9) U) ∧ va_AO RX6 U
def zK (κ : zG) (U : State) : Prop := va_K κ.1 vwCl (zt κ) U ∧ zN U
theorem zN.warm {s U : State} (hW : s.WarmedH U.vm) (h : zN s) : zN U := ⟨fun q hq => va_Nw.warmF hW (h.1 q hq), fun q hq => va_Nw.warmM hW (h.2.1 q hq), va_AO.moved hW.alike h.2.2⟩
theorem zN.same {u U : State} (e : u.vm = U.vm) (h : zN u) : zN U := ⟨fun q hq => va_Nw.same rfl e (h.1 q hq), fun q hq => va_Nw.same rfl e (h.2.1 q hq), va_AO.moved (by rw [e]; exact Vm.Alike.refl _) h.2.2⟩
theorem zK.warm {κ : zG} {s U : State} (hW : s.WarmedH U.vm) (h : zK κ s) : zK κ U := ⟨va_K.moved hW.alike h.1, h.2.warm hW⟩
/-! ===== contracts over a world w: w κ σ is the list of its cells ===== -/
def zPre {S : Type} (w : zG → S → va_W) (κ : zG) (av : List Value) (sz : Nat) (σ : S) : Array Value → State → Prop := va_Pc av (fun U => U.heap.size = sz ∧ va_P κ.1 vwCl (w κ σ) U.heap ∧ zK κ U ∧ va_D (fun _ => True) (w κ σ))
def zAt {S : Type} (w : zG → S → va_W) (κ : zG) (A : Nat → Prop) (σ : S) (t : State) : Prop := va_P κ.1 vwCl (w κ σ) t.heap ∧ va_D A (w κ σ)
def zQi {S : Type} (w : zG → S → va_W) (κ : zG) (A : Nat → Prop) (r : Int32) (σ' : S) : Array Value → State → Outcome → State → Prop := va_Qi (fun (r' : Int32) (u : S) => r' = r ∧ u = σ') (zAt w κ A) A
def zQl {S : Type} (w : zG → S → va_W) (κ : zG) (A : Nat → Prop) (r : Int64) (σ' : S) : Array Value → State → Outcome → State → Prop := va_Ql (fun (r' : Int64) (u : S) => r' = r ∧ u = σ') (zAt w κ A) A
def zQv {S : Type} (w : zG → S → va_W) (κ : zG) (A : Nat → Prop) (σ' : S) : Array Value → State → Outcome → State → Prop := va_Qv (fun (u : S) => u = σ') (zAt w κ A) A
def zMi {S : Type} (l : Launch) (y : MethodName) (cw : Cond) (rm : Room) (w : zG → S → va_W) (κ : zG) (av : List Value) (σ : S) (r : Int32) (σ' : S) : Prop := ∀ sz : Nat, Met l y (cw :: zW) rm (zPre w κ av sz σ) (zQi w κ (va_A (w κ σ) sz) r σ') 0 0 (va_A (w κ σ) sz)
def zMl {S : Type} (l : Launch) (y : MethodName) (cw : Cond) (rm : Room) (w : zG → S → va_W) (κ : zG) (av : List Value) (σ : S) (r : Int64) (σ' : S) : Prop := ∀ sz : Nat, Met l y (cw :: zW) rm (zPre w κ av sz σ) (zQl w κ (va_A (w κ σ) sz) r σ') 0 0 (va_A (w κ σ) sz)
def zMv {S : Type} (l : Launch) (y : MethodName) (cw : Cond) (rm : Room) (w : zG → S → va_W) (κ : zG) (av : List Value) (σ : S) (σ' : S) : Prop := ∀ sz : Nat, Met l y (cw :: zW) rm (zPre w κ av sz σ) (zQv w κ (va_A (w κ σ) sz) σ') 0 0 (va_A (w κ σ) sz)
theorem zPre_blind {S : Type} {w : zG → S → va_W} {κ : zG} {av : List Value} {sz : Nat} {σ : S} : FrameBlind (zPre w κ av sz σ) := fun a U g mk q => by
  obtain ⟨q0, q1, qP, qK, qD⟩ := q
  exact ⟨q0, q1, qP, ⟨va_K.moved (u := U) (U := U.calling g mk a) (Vm.Alike.refl U.vm) qK.1, zN.same (u := U) (U := U.calling g mk a) rfl qK.2⟩, qD⟩
/-- what stays through a body -/
def zC (cc : ByteArray) (nL : Nat) (ret : Option FieldType) (own : String) (κ : zG) (A : Nat → Prop) (p : Program) (s : State) (m : MethodId) (args : Array Value) (meth : Method) (c : Code) : Prop :=
  (p.tables.exec = Jvm.exec ∧ c.code = cc ∧ c.maxLocals = nL ∧ s.vm.findClass own = some m.cls ∧ ∀ w ∈ zW, w.before args s = true) ∧ meth.sig.returnType = ret ∧ meth.locks = false ∧ (∀ q : Nat, s.heap.size ≤ q → A q) ∧ zK κ s
/-- the world in the heap -/
def zH {S : Type} (w : zG → S → va_W) (κ : zG) (A : Nat → Prop) (s : State) (σ : S) (H : Heap) (locs : List Loc) : Prop := va_P κ.1 vwCl (w κ σ) H ∧ va_D A (w κ σ) ∧ va_S A s.heap H locs
section ZB
variable {p : Program} {l : Launch} {e : Env} {R : Room} {s : State} {m : MethodId} {args : Array Value} {below : List Frame} {meth : Method} {c : Code} {H : Heap} {locs : List Loc} {cells slots : Nat} {Q : State → Prop}
variable {cc : ByteArray} {nL : Nat} {ret : Option FieldType} {own : String} {κ : zG} {A : Nat → Prop} {S : Type} {w : zG → S → va_W} {σ : S} {pc : Nat} {ls : Array Slot} {rest : List Value}
theorem zC.ex (C : zC cc nL ret own κ A p s m args meth c) : p.tables.exec = Jvm.exec := C.1.1
theorem zC.by (C : zC cc nL ret own κ A p s m args meth c) : c.code = cc := C.1.2.1
theorem zC.ml (C : zC cc nL ret own κ A p s m args meth c) : c.maxLocals = nL := C.1.2.2.1
theorem zC.ow (C : zC cc nL ret own κ A p s m args meth c) : s.vm.findClass own = some m.cls := C.1.2.2.2.1
theorem zC.ts (C : zC cc nL ret own κ A p s m args meth c) : ∀ w ∈ zW, w.before args s = true := C.1.2.2.2.2
theorem zC.hA (C : zC cc nL ret own κ A p s m args meth c) : ∀ q : Nat, s.heap.size ≤ q → A q := C.2.2.2.1
theorem zC.hK (C : zC cc nL ret own κ A p s m args meth c) : va_K κ.1 vwCl (zt κ) s := C.2.2.2.2.1
theorem zC.hN (C : zC cc nL ret own κ A p s m args meth c) : zN s := C.2.2.2.2.2
theorem zfree (C : zC cc nL ret own κ A p s m args meth c) (h : zH w κ A s σ H locs) : ∀ q, va_A (w κ σ) H.size q → A q := by
  intro q hq
  rcases hq with ⟨k, e0, hk⟩ | hq
  · exact h.2.1.2 k (q, e0) hk
  · exact C.hA q (Nat.le_trans h.2.2.1 hq)
/-! ===== fields ===== -/
theorem z_get (C : zC cc nL ret own κ A p s m args meth c) (h : zH w κ A s σ H locs) {Cn : String} {T : u_T} {N ci index a : Nat} {fs : List Value} {v : Value} (hin : ∀ x ∈ u_ws Cn T N, x ∈ zW) (q0 : Nat) (he : (w κ σ)[q0]? = some (a, .inr (ci, fs))) (hc : vwCl[ci]? = some (Cn, T, N)) (k : Nat) (hk : k < N) (hlink : Cond.fieldLink own index (T k).1 (T k).2.1 (T k).2.2.1 ∈ zW) (hv : fs[k]? = some v) (hdg : decode cc pc = .ok (.getfield index, 3))
    (kk : W p l e R s m args below meth c H locs cells slots Q (F0 m (pc + 3) ls (v :: rest))) : W p l e R s m args below meth c H locs cells slots Q (F0 m pc ls (.ref a :: rest)) :=
  va_get C.ex C.by C.ts hin C.ow C.hK h.1 q0 he hc k hk (C.ts _ hlink) (fun _ h9 => h9) hv hdg kk
theorem z_getN (C : zC cc nL ret own κ A p s m args meth c) (h : zH w κ A s σ H locs) {Cn : String} {T : u_T} {N ci index a : Nat} {fs : List Value} {v : Value} (hin : ∀ x ∈ u_ws Cn T N, x ∈ zW) (q0 : Nat) (he : (w κ σ)[q0]? = some (a, .inr (ci, fs))) (hc : vwCl[ci]? = some (Cn, T, N)) (k : Nat) (hk : k < N) (hlink : (own, index, (T k).1, (T k).2.1, (T k).2.2.1) ∈ zNf) (hv : fs[k]? = some v) (hdg : decode cc pc = .ok (.getfield index, 3))
    (kk : W p l e R s m args below meth c H locs cells slots Q (F0 m (pc + 3) ls (v :: rest))) : W p l e R s m args below meth c H locs cells slots Q (F0 m pc ls (.ref a :: rest)) :=
  va_getN C.ex C.by C.ts hin C.ow C.hK h.1 q0 he hc k hk (va_Nw.use rfl (C.hN.1 _ hlink)) (fun _ h9 => h9) hv hdg kk
theorem z_put (C : zC cc nL ret own κ A p s m args meth c) (h : zH w κ A s σ H locs) {Cn : String} {T : u_T} {N ci index a : Nat} {fs : List Value} {v : Value} (hin : ∀ x ∈ u_ws Cn T N, x ∈ zW) {ty0 : Nat → FieldType} (hty : ∀ k, k < N → parseFieldDescriptor (T k).2.2.1 = some (ty0 k)) (hnm : ∀ a, a < N → ∀ b, b < N → a ≠ b → (T a).2.1 ≠ (T b).2.1) (q0 : Nat) (he : (w κ σ)[q0]? = some (a, .inr (ci, fs))) (hc : vwCl[ci]? = some (Cn, T, N)) (k : Nat) (hk : k < N) (hlink : Cond.fieldLink own index (T k).1 (T k).2.1 (T k).2.2.1 ∈ zW) (hfin : (T k).2.2.2 = false) (hn : narrow (ty0 k) v = v) (hfit : fits (ty0 k) v = true) (hl : k < fs.length) (σ' : S) (hset : (w κ σ).set q0 (a, .inr (ci, fs.set k v)) = w κ σ') (hdg : decode cc pc = .ok (.putfield index, 3))
    (kk : ∀ (H1 : Heap) (locs1 : List Loc), zH w κ A s σ' H1 locs1 → W p l e R s m args below meth c H1 locs1 cells slots Q (F0 m (pc + 3) ls rest)) : W p l e R s m args below meth c H locs cells slots Q (F0 m pc ls (v :: .ref a :: rest)) :=
  va_put C.ex C.by C.ts hin ty0 hty hnm C.ow C.hK h.1 h.2.1 h.2.2 q0 he hc k hk (C.ts _ hlink) (fun _ h9 => h9) hfin (hty k hk) hn hfit hl hdg (fun H1 locs1 hP hD hS => kk H1 locs1 ⟨hset ▸ hP, hset ▸ hD, hS⟩)
theorem z_putN (C : zC cc nL ret own κ A p s m args meth c) (h : zH w κ A s σ H locs) {Cn : String} {T : u_T} {N ci index a : Nat} {fs : List Value} {v : Value} (hin : ∀ x ∈ u_ws Cn T N, x ∈ zW) {ty0 : Nat → FieldType} (hty : ∀ k, k < N → parseFieldDescriptor (T k).2.2.1 = some (ty0 k)) (hnm : ∀ a, a < N → ∀ b, b < N → a ≠ b → (T a).2.1 ≠ (T b).2.1) (q0 : Nat) (he : (w κ σ)[q0]? = some (a, .inr (ci, fs))) (hc : vwCl[ci]? = some (Cn, T, N)) (k : Nat) (hk : k < N) (hlink : (own, index, (T k).1, (T k).2.1, (T k).2.2.1) ∈ zNf) (hfin : (T k).2.2.2 = false) (hn : narrow (ty0 k) v = v) (hfit : fits (ty0 k) v = true) (hl : k < fs.length) (σ' : S) (hset : (w κ σ).set q0 (a, .inr (ci, fs.set k v)) = w κ σ') (hdg : decode cc pc = .ok (.putfield index, 3))
    (kk : ∀ (H1 : Heap) (locs1 : List Loc), zH w κ A s σ' H1 locs1 → W p l e R s m args below meth c H1 locs1 cells slots Q (F0 m (pc + 3) ls rest)) : W p l e R s m args below meth c H locs cells slots Q (F0 m pc ls (v :: .ref a :: rest)) :=
  va_putN C.ex C.by C.ts hin ty0 hty hnm C.ow C.hK h.1 h.2.1 h.2.2 q0 he hc k hk (va_Nw.use rfl (C.hN.1 _ hlink)) (fun _ h9 => h9) hfin (hty k hk) hn hfit hl hdg (fun H1 locs1 hP hD hS => kk H1 locs1 ⟨hset ▸ hP, hset ▸ hD, hS⟩)
/-! ===== rows ===== -/
theorem z_iald (C : zC cc nL ret own κ A p s m args meth c) (h : zH w κ A s σ H locs) {a n : Nat} {f : Nat → Int32} (q0 : Nat) (he : (w κ σ)[q0]? = some (a, .inl (κ.2.2.1 0, n, .inl f))) {i : Int32} (hin : zin i n = true) (hdg : decode cc pc = .ok (.iaload, 1))
    (kk : W p l e R s m args below meth c H locs cells slots Q (F0 m (pc + 1) ls (.int (f i.toNatClampNeg) :: rest))) : W p l e R s m args below meth c H locs cells slots Q (F0 m pc ls (.int i :: .ref a :: rest)) :=
  va_iald C.ex C.by C.hK h.1 q0 0 he rfl (zin_in hin) hdg kk
theorem z_zald (C : zC cc nL ret own κ A p s m args meth c) (h : zH w κ A s σ H locs) {a n : Nat} {f : Nat → Int32} (q0 : Nat) (he : (w κ σ)[q0]? = some (a, .inl (κ.2.2.1 2, n, .inl f))) {i : Int32} (hin : zin i n = true) (hdg : decode cc pc = .ok (.baload, 1))
    (kk : W p l e R s m args below meth c H locs cells slots Q (F0 m (pc + 1) ls (.int (f i.toNatClampNeg) :: rest))) : W p l e R s m args below meth c H locs cells slots Q (F0 m pc ls (.int i :: .ref a :: rest)) :=
  va_zald C.ex C.by C.hK h.1 q0 2 he rfl (zin_in hin) hdg kk
theorem z_lald (C : zC cc nL ret own κ A p s m args meth c) (h : zH w κ A s σ H locs) {a n : Nat} {f : Nat → Int64} (q0 : Nat) (he : (w κ σ)[q0]? = some (a, .inl (κ.2.2.1 1, n, .inr (.inl f)))) {i : Int32} (hin : zin i n = true) (hdg : decode cc pc = .ok (.laload, 1))
    (kk : W p l e R s m args below meth c H locs cells slots Q (F0 m (pc + 1) ls (.long (f i.toNatClampNeg) :: rest))) : W p l e R s m args below meth c H locs cells slots Q (F0 m pc ls (.int i :: .ref a :: rest)) :=
  va_lald C.ex C.by C.hK h.1 q0 1 he rfl (zin_in hin) hdg kk
theorem z_iast (C : zC cc nL ret own κ A p s m args meth c) (h : zH w κ A s σ H locs) {a n : Nat} {f : Nat → Int32} (q0 : Nat) (he : (w κ σ)[q0]? = some (a, .inl (κ.2.2.1 0, n, .inl f))) {i x : Int32} (hin : zin i n = true) (σ' : S) (hset : (w κ σ).set q0 (a, .inl (κ.2.2.1 0, n, .inl (upd f i.toNatClampNeg x))) = w κ σ') (hdg : decode cc pc = .ok (.iastore, 1))
    (kk : ∀ (H1 : Heap) (locs1 : List Loc), zH w κ A s σ' H1 locs1 → W p l e R s m args below meth c H1 locs1 cells slots Q (F0 m (pc + 1) ls rest)) : W p l e R s m args below meth c H locs cells slots Q (F0 m pc ls (.int x :: .int i :: .ref a :: rest)) :=
  va_iast C.ex C.by C.hK h.1 h.2.1 h.2.2 q0 0 he rfl (zin_in hin) hdg (fun H1 locs1 hP hD hS => kk H1 locs1 ⟨hset ▸ hP, hset ▸ hD, hS⟩)
theorem z_zast (C : zC cc nL ret own κ A p s m args meth c) (h : zH w κ A s σ H locs) {a n : Nat} {f : Nat → Int32} (q0 : Nat) (he : (w κ σ)[q0]? = some (a, .inl (κ.2.2.1 2, n, .inl f))) {i x : Int32} (hin : zin i n = true) (σ' : S) (hset : (w κ σ).set q0 (a, .inl (κ.2.2.1 2, n, .inl (upd f i.toNatClampNeg (vp_nar .boolean x)))) = w κ σ') (hdg : decode cc pc = .ok (.bastore, 1))
    (kk : ∀ (H1 : Heap) (locs1 : List Loc), zH w κ A s σ' H1 locs1 → W p l e R s m args below meth c H1 locs1 cells slots Q (F0 m (pc + 1) ls rest)) : W p l e R s m args below meth c H locs cells slots Q (F0 m pc ls (.int x :: .int i :: .ref a :: rest)) :=
  va_zast C.ex C.by C.hK h.1 h.2.1 h.2.2 q0 2 he rfl (zin_in hin) hdg (fun H1 locs1 hP hD hS => kk H1 locs1 ⟨hset ▸ hP, hset ▸ hD, hS⟩)
theorem z_last (C : zC cc nL ret own κ A p s m args meth c) (h : zH w κ A s σ H locs) {a n : Nat} {f : Nat → Int64} (q0 : Nat) (he : (w κ σ)[q0]? = some (a, .inl (κ.2.2.1 1, n, .inr (.inl f)))) {i : Int32} {x : Int64} (hin : zin i n = true) (σ' : S) (hset : (w κ σ).set q0 (a, .inl (κ.2.2.1 1, n, .inr (.inl (vp_updL f i.toNatClampNeg x)))) = w κ σ') (hdg : decode cc pc = .ok (.lastore, 1))
    (kk : ∀ (H1 : Heap) (locs1 : List Loc), zH w κ A s σ' H1 locs1 → W p l e R s m args below meth c H1 locs1 cells slots Q (F0 m (pc + 1) ls rest)) : W p l e R s m args below meth c H locs cells slots Q (F0 m pc ls (.long x :: .int i :: .ref a :: rest)) :=
  va_last C.ex C.by C.hK h.1 h.2.1 h.2.2 q0 1 he rfl (zin_in hin) hdg (fun H1 locs1 hP hD hS => kk H1 locs1 ⟨hset ▸ hP, hset ▸ hD, hS⟩)
theorem z_alen (C : zC cc nL ret own κ A p s m args meth c) (h : zH w κ A s σ H locs) {a t0 : Nat} {cA : ClassId} {x : vp_A} (q0 : Nat) (he : (w κ σ)[q0]? = some (a, .inl (cA, x))) {ty : FieldType} (ht : (zt κ)[t0]? = some (cA, ty)) (hdg : decode cc pc = .ok (.arraylength, 1))
    (kk : W p l e R s m args below meth c H locs cells slots Q (F0 m (pc + 1) ls (.int (nI x.1) :: rest))) : W p l e R s m args below meth c H locs cells slots Q (F0 m pc ls (.ref a :: rest)) :=
  va_alen C.ex C.by C.hK h.1 q0 t0 he ht rfl hdg kk
/-! ===== ends ===== -/
theorem z_iret {σ' : S} {r : Int32} (C : zC cc nL (some .int) own κ A p s m args meth c) (h : zH w κ A s σ' H locs) (hdg : decode cc pc = .ok (.ireturn, 1)) : W p l e R s m args below meth c H locs 0 0 (MQ below (zQi w κ A r σ') args s 0 0 A) (F0 m pc ls [.int r]) :=
  W.iret (v := r) C.ex C.by C.2.1 (fun t ht _ => ⟨⟨r, σ', rfl, ⟨rfl, rfl⟩, by rw [ht]; exact h.1, h.2.1⟩, h.2.2.F ht⟩) h.2.2.2.2 hdg C.2.2.1
theorem z_zret {σ' : S} {r : Int32} (C : zC cc nL (some .boolean) own κ A p s m args meth c) (h : zH w κ A s σ' H locs) (hn : narrow .boolean (.int r) = .int r) (hdg : decode cc pc = .ok (.ireturn, 1)) : W p l e R s m args below meth c H locs 0 0 (MQ below (zQi w κ A r σ') args s 0 0 A) (F0 m pc ls [.int r]) :=
  W.zret (v := r) C.ex C.by C.2.1 hn (fun t ht _ => ⟨⟨r, σ', rfl, ⟨rfl, rfl⟩, by rw [ht]; exact h.1, h.2.1⟩, h.2.2.F ht⟩) h.2.2.2.2 hdg C.2.2.1
theorem z_lret {σ' : S} {r : Int64} (C : zC cc nL (some .long) own κ A p s m args meth c) (h : zH w κ A s σ' H locs) (hdg : decode cc pc = .ok (.lreturn, 1)) : W p l e R s m args below meth c H locs 0 0 (MQ below (zQl w κ A r σ') args s 0 0 A) (F0 m pc ls [.long r]) :=
  W.lret (v := r) C.ex C.by C.2.1 (fun t ht _ => ⟨⟨r, σ', rfl, ⟨rfl, rfl⟩, by rw [ht]; exact h.1, h.2.1⟩, h.2.2.F ht⟩) h.2.2.2.2 hdg C.2.2.1
theorem z_vret {σ' : S} (C : zC cc nL none own κ A p s m args meth c) (h : zH w κ A s σ' H locs) (hdg : decode cc pc = .ok (.return_, 1)) : W p l e R s m args below meth c H locs 0 0 (MQ below (zQv w κ A σ') args s 0 0 A) (F0 m pc ls []) :=
  W.vret C.ex C.by C.2.1 (fun t ht _ => ⟨⟨σ', rfl, rfl, by rw [ht]; exact h.1, h.2.1⟩, h.2.2.F ht⟩) h.2.2.2.2 hdg C.2.2.1
end ZB
