/-! ===== the two sides keep step: all nineteen methods, from the start ===== -/
theorem zpure_holds : zPURE := by
  intro nb sz mm h2 hnb hs5 hsz hm2 hmm
  refine ⟨110000, zJ9 nb sz mm, ⟨fun j σ τ h => zJ9_m h, s_width hnb hs5 hsz, s_key (by decide) hnb, s_mode, s_feed (by decide) hnb hs5 hsz, s_run (by decide) hnb hs5 hsz, s_form (Nat.le_refl _) hnb hs5 hsz hm2 hmm, s_pass (Nat.le_refl _) h2 hnb hs5 hsz, s_best (Nat.le_refl _) h2 hnb hs5 hsz, s_poly (Nat.le_refl _) h2 hnb hs5 hsz, s_plan (by decide) hnb hs5 hsz, s_runs, s_records hnb hsz, s_block (by decide) hnb, s_told (by decide) hnb hs5 hsz, s_rank (by decide) hnb hs5 hsz, s_drop (by decide) hnb hs5 hsz, s_count (by decide) hnb hsz, s_crash, s_up⟩, s_start hs5 hsz⟩
theorem i_vc : Claimed_1_1 ∧ Claimed_1_2 := whole_of zpure_holds
