/-! at the start -/
theorem s_start {nb sz mm : Nat} (hs5 : 5 ≤ sz) (hsz : sz ≤ 64) : zJ9 nb sz mm 0 (zσ1 sz mm) (zτ1 nb sz mm) := by
  have hp : 2 ≤ sz / 2 := (Nat.le_div_iff_mul_le (by decide)).mpr (by omega)
  refine ⟨0, Nat.zero_le _, 1, 0, 0, [], [], [], ⟨rfl, rfl, rfl, rfl, rfl, fun j hj => hj, fun i j _ _ e => e⟩, ⟨by decide, by decide, rfl, rfl, rfl, ?_⟩, ⟨by decide, rfl, rfl, fun k hk => absurd hk (by omega), fun k hk => absurd hk (by omega), fun i j _ hj => absurd hj (by omega)⟩, ⟨rfl, Or.inl rfl⟩, ⟨rfl, ?_, rfl, rfl, fun k _ => rfl, rfl⟩, ⟨rfl, Or.inl rfl⟩, rfl, Or.inl ⟨rfl, rfl⟩, ⟨rfl, fun j b hb => (by cases hb)⟩, ⟨rfl, fun j r hr => (by cases hr), fun r hr => absurd hr List.not_mem_nil⟩, ⟨rfl, rfl, List.nodup_nil, fun f hf => absurd hf List.not_mem_nil, ?_, fun j f hf => (by cases hf), fun j f r hf => (by cases hf), ⟨fun _ => ⟨rfl, rfl⟩, fun e => absurd rfl e, ?_, trivial⟩⟩, ⟨List.nodup_nil, fun b hb => absurd hb List.not_mem_nil, fun r hr => absurd hr List.not_mem_nil⟩, j_n0⟩
  · show (if 1 < nI sz / 2 then nI sz / 2 else 1) = nI (sz / (1 + 1))
    rw [show (2 : Int32) = nI 2 from rfl, nI_div (by omega) (by omega), if_pos (show (1 : Int32) < nI (sz / 2) from nI_lt (a := 1) (by omega) (by omega))]
  · show 0 < sz / (1 + 1)
    omega
  · intro f hf
    show upd (fun _ => 0) (Int32.toNatClampNeg 0) (vp_nar .boolean 1) f = 0 ↔ _
    rw [upd_at, nar1]
    by_cases e : f = 0
    · rw [if_pos (show f = Int32.toNatClampNeg 0 from e)]
      exact ⟨fun q => absurd q (by decide), fun q => absurd (Or.inl e) q⟩
    · rw [if_neg (show ¬ f = Int32.toNatClampNeg 0 from e)]
      exact ⟨fun _ q => q.elim e (fun h => absurd h List.not_mem_nil), fun _ => rfl⟩
  · rw [show ([] : List Nat).length * (sz / (1 + 1)) = 0 from Nat.zero_mul _]
    rfl
