/-! a block behind a chain -/
theorem lastD_mem {l : List Nat} (h : l ≠ []) : l.getLastD 0 ∈ l := by
  rw [List.getLastD_eq_getLast?, List.getLast?_eq_some_getLast h]
  exact List.getLast_mem h
theorem chC_snoc {nx : Nat → Int32} {b : Nat} (hb : nx b = -1) : ∀ {l : List Nat}, l ≠ [] → l.Nodup → ¬ b ∈ l → chC nx l → chC (upd nx (l.getLastD 0) (nI b)) (l ++ [b]) := by
  intro l
  induction l with
  | nil => intro h; exact absurd rfl h
  | cons a t ih =>
    intro _ hn hm hc
    cases t with
    | nil =>
      have hba : ¬ b = a := fun e => hm (by rw [e]; exact List.mem_cons_self)
      show upd nx a (nI b) a = nI b ∧ upd nx a (nI b) b = -1
      rw [upd_at, upd_at, if_pos rfl, if_neg hba]
      exact ⟨rfl, hb⟩
    | cons c r =>
      have hn2 := List.nodup_cons.mp hn
      have h1 := ih (List.cons_ne_nil _ _) hn2.2 (fun q => hm (List.mem_cons_of_mem _ q)) hc.2
      have hl : ¬ a = (c :: r).getLastD 0 := fun e => hn2.1 (by rw [e]; exact lastD_mem (List.cons_ne_nil _ _))
      show upd nx ((c :: r).getLastD 0) (nI b) a = nI c ∧ chC (upd nx ((c :: r).getLastD 0) (nI b)) (c :: r ++ [b])
      rw [upd_at, if_neg hl]
      exact ⟨hc.1, h1⟩
