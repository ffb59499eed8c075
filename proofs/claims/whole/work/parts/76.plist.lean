/-! lists without one place -/
theorem er_get {α : Type} (l : List α) (j k : Nat) : (l.eraseIdx j)[k]? = if k < j then l[k]? else l[k + 1]? := List.getElem?_eraseIdx
theorem er_split {α : Type} {l : List α} {j : Nat} {x : α} (h : l[j]? = some x) : l = l.take j ++ x :: l.drop (j + 1) ∧ l.eraseIdx j = l.take j ++ l.drop (j + 1) := by
  have hlt := (List.getElem?_eq_some_iff.mp h).1
  refine ⟨?_, List.eraseIdx_eq_take_drop_succ l j⟩
  have e : l.drop j = x :: l.drop (j + 1) := by
    rw [List.drop_eq_getElem_cons hlt]
    congr 1
    exact (List.getElem?_eq_some_iff.mp h).2
  rw [← e, List.take_append_drop]
theorem er_mem {l : List Nat} {j f g : Nat} (hn : l.Nodup) (h : l[j]? = some f) : g ∈ l.eraseIdx j ↔ (g ∈ l ∧ ¬ g = f) := by
  obtain ⟨e1, e2⟩ := er_split h
  generalize l.take j = p at e1 e2
  generalize l.drop (j + 1) = q at e1 e2
  rw [e2]
  rw [e1] at hn ⊢
  have hd := List.nodup_append.mp hn
  have hq := List.nodup_cons.mp hd.2.1
  simp only [List.mem_append, List.mem_cons]
  constructor
  · rintro (a | a)
    · exact ⟨Or.inl a, fun e => hd.2.2 g a f List.mem_cons_self e⟩
    · exact ⟨Or.inr (Or.inr a), fun e => hq.1 (e ▸ a)⟩
  · rintro ⟨a | a | a, b⟩
    · exact Or.inl a
    · exact absurd a b
    · exact Or.inr a
theorem er_fm {α β : Type} {l : List α} {j : Nat} {x : α} (g : α → List β) (h : l[j]? = some x) : ((l.eraseIdx j).flatMap g).Sublist (l.flatMap g) := by
  obtain ⟨e1, e2⟩ := er_split h
  generalize l.take j = p at e1 e2
  generalize l.drop (j + 1) = q at e1 e2
  rw [e2, e1, List.flatMap_append, List.flatMap_append, List.flatMap_cons]
  exact List.Sublist.append_left (List.sublist_append_right _ _) _
theorem er_dis {α : Type} {l : List α} {j b : Nat} {x : α} (g : α → List Nat) (h : l[j]? = some x) (hn : (l.flatMap g).Nodup) (hb : b ∈ (l.eraseIdx j).flatMap g) : ¬ b ∈ g x := by
  obtain ⟨e1, e2⟩ := er_split h
  generalize l.take j = p at e1 e2
  generalize l.drop (j + 1) = q at e1 e2
  rw [e2, List.flatMap_append] at hb
  rw [e1, List.flatMap_append, List.flatMap_cons] at hn
  have hd := List.nodup_append.mp hn
  have hd2 := List.nodup_append.mp hd.2.1
  intro hx
  rcases List.mem_append.mp hb with a | a
  · exact hd.2.2 b a b (List.mem_append_left _ hx) rfl
  · exact hd2.2.2 b hx b a rfl
