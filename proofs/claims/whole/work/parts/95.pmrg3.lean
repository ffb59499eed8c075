theorem mS_le {nb sz w : Nat} {us : Nat → Bool} (hnb : nb ≤ 200) (hsz : sz ≤ 64) : ∀ {gs : List (Nat × List Nat × Nat)} {e : Nat → Nat}, GF nb sz w us gs → mS gs e ≤ gs.length * 12800 := by
  intro gs
  induction gs with
  | nil => intro e _; exact Nat.le_refl _
  | cons a t ih =>
    intro e h
    have h1 := ih (e := fun j => e (j + 1)) (fun p hp => h p (List.mem_cons_of_mem _ hp))
    obtain ⟨-, -, -, f3, -, f5, -⟩ := h a List.mem_cons_self
    have h2 : a.2.2 ≤ 200 * 64 := Nat.le_trans f3 (Nat.mul_le_mul (by omega) (Nat.le_trans (Nat.div_le_self _ _) hsz))
    show (a.2.2 - e 0) + mS t (fun j => e (j + 1)) ≤ (t.length + 1) * 12800
    omega
theorem gb_0 {sz w : Nat} {p : Nat × List Nat × Nat} : gb sz w p 0 = p.2.1.headD 0 := by
  unfold gb
  rw [Nat.zero_div]
  cases p.2.1 with
  | nil => rfl
  | cons a t => rfl
/-- a merge starts: the first block of each run is read -/
theorem j_start {n nb sz mm w kn : Nat} {tk pz sb : List Nat} {us : Nat → Bool} {cl : Nat → Nat → Int64} {P0 : Prop} {gs : List (Nat × List Nat × Nat)} {σ τ : zS} (hn : 300 < n) (hnb : nb ≤ 200) (hs5 : 5 ≤ sz) (hsz : sz ≤ 64) (hS : SC nb sz mm w kn σ τ) (hD : OD nb sz tk pz sb us cl P0 σ τ) (hg : GF nb sz w us gs) (hc : GC gs σ τ) (h17 : zI τ 17 = 0) (h29 : zI σ 29 = nI gs.length) (h8 : gs.length ≤ 8) (h10 : ∀ (j : Nat) (p : Nat × List Nat × Nat), gs[j]? = some p → zA σ 10 j = nI (p.2.1.headD 0)) (h13 : ∀ (j : Nat) (p : Nat × List Nat × Nat), gs[j]? = some p → zA τ 13 j = nI p.1) :
    ∃ σ' τ', fX4_start_0 n nb sz mm σ = some (nI (mS gs (fun _ => 0)), σ') ∧ zlp (fX10_merge_L10_10 n (nI gs.length)) n (0, τ) = some τ' ∧ MS sz w gs.length gs (fun _ => 0) σ' τ' ∧ OD nb sz tk pz sb us cl P0 σ' τ' ∧ zfr [2, 4, 5] [11, 12, 13] [] σ σ' ∧ zfr [10, 12, 13, 14] [14, 15, 16] [] τ τ' := by
  have hper := p_per (w := w) hs5 hS.2.1.2.1
  have hloop := zlp_two (body := fX4_start_L4_4 n nb sz mm) (body' := fX10_merge_L10_10 n (nI gs.length))
    (fun m a a' => ∃ x i σ1 τ1, a = (x, nI i, σ1) ∧ a' = (nI i, τ1) ∧ i ≤ gs.length ∧ m = gs.length - i ∧ x + nI (mS (gs.drop i) (fun _ => 0)) = nI (mS gs (fun _ => 0)) ∧ MS sz w i gs (fun _ => 0) σ1 τ1 ∧ OD nb sz tk pz sb us cl P0 σ1 τ1 ∧ zfr [2, 4, 5] [11, 12, 13] [] σ σ1 ∧ zfr [10, 12, 13, 14] [14, 15, 16] [] τ τ1)
    (fun b b' => ∃ σ1 τ1, b = (nI (mS gs (fun _ => 0)), σ1) ∧ b' = τ1 ∧ MS sz w gs.length gs (fun _ => 0) σ1 τ1 ∧ OD nb sz tk pz sb us cl P0 σ1 τ1 ∧ zfr [2, 4, 5] [11, 12, 13] [] σ σ1 ∧ zfr [10, 12, 13, 14] [14, 15, 16] [] τ τ1)
    (fun m a a' hP => by
      obtain ⟨x, i, σ1, τ1, rfl, rfl, hi, rfl, hx, hM, hD1, f1, f2⟩ := hP
      obtain ⟨⟨g1, g2, g3⟩, hrow⟩ := hM
      unfold fX4_start_L4_4 fX10_merge_L10_10 fX6_size_0
      dsimp only
      rw [zb_s (show some (zI (zrv (zI σ1 29) (zA σ1 10)) 0) = some (nI gs.length) from congrArg some g1)]
      by_cases c : i = gs.length
      · right
        rw [if_pos (nI_le (show gs.length ≤ i by omega) (by omega)), if_pos (nI_le (show gs.length ≤ i by omega) (by omega))]
        rw [c, List.drop_length] at hx
        have hx2 : x = nI (mS gs (fun _ => 0)) := by
          rw [← hx]
          show x = x + nI 0
          rw [show nI 0 = 0 from rfl, Int32.add_zero]
        exact ⟨_, _, rfl, rfl, σ1, τ1, by rw [hx2], rfl, ⟨⟨g1, g2, g3⟩, by rw [← c]; exact hrow⟩, hD1, f1, f2⟩
      · left
        have hil : i < gs.length := by omega
        obtain ⟨p, hp⟩ : ∃ p, gs[i]? = some p := ⟨gs[i], List.getElem?_eq_getElem hil⟩
        have hpm := List.mem_of_getElem? hp
        obtain ⟨e1, e1', e2, e3, e4, e5, e6⟩ := hg p hpm
        obtain ⟨d1, d2, d3⟩ := hc p hpm
        have hcb : p.2.2 ≤ 200 * 64 := Nat.le_trans e3 (Nat.mul_le_mul (by omega) (Nat.le_trans (Nat.div_le_self _ _) hsz))
        have hhd : p.2.1.headD 0 < nb := by
          have : p.2.1.headD 0 ∈ p.2.1 := by
            cases h : p.2.1 with
            | nil => exact absurd h e2
            | cons a t => exact List.mem_cons_self
          exact (e6 _ this).1
        have hu : ∀ (f : Nat → Int32) (v : Int32), upd f i v i = v := fun f v => by rw [upd_at, if_pos rfl]
        rw [if_neg (show ¬ nI gs.length ≤ nI i from fun q => by rw [nI_leI (by omega) (by omega)] at q; omega), if_neg (show ¬ (8 : Int32) ≤ nI i from fun q => by rw [show (8 : Int32) = nI 8 from rfl, nI_leI (by omega) (by omega)] at q; omega), if_neg (show ¬ nI gs.length ≤ nI i from fun q => by rw [nI_leI (by omega) (by omega)] at q; omega), zb_s (c_get (m := gs.length) g1 hil g2 (by decide)), g3 i p hp, zb_s (c_read n nb sz mm _ _)]
        simp only [zg_in (show i < 8 by omega) (show 8 < 2 ^ 31 by decide), nI_clamp (show i < 2 ^ 31 by omega), hu]
        rw [show zA τ1 13 i = nI p.1 from (congrFun (f2.2.1 13 (by decide)) i).trans (h13 i p hp)]
        simp only [zg_in (show p.1 < 208 by omega) (show 208 < 2 ^ 31 by decide), nI_clamp (show p.1 < 2 ^ 31 by omega)]
        rw [show zA τ1 3 p.1 = nI (p.2.1.headD 0) from (congrFun (f2.2.1 3 (by decide)) p.1).trans (d3.2.1 e2).1, show zA τ1 5 p.1 = nI p.2.2 from (congrFun (f2.2.1 5 (by decide)) p.1).trans d3.2.2.1]
        have hheld : ∀ s : zS, zA s 4 = zA σ 4 → fX1_heldBy_0 n nb sz mm s (nI (p.2.1.headD 0)) = some (nI p.2.2) := fun s h1 => by
          rw [c_heldBy hnb hhd, h1, d2]
        rw [zb_s (hheld (sA (sA (sA (rdC σ1 (nI (p.2.1.headD 0))) 11 (upd (zA (rdC σ1 (nI (p.2.1.headD 0))) 11) i (nI (p.2.1.headD 0)))) 12 (upd (zA (rdC σ1 (nI (p.2.1.headD 0))) 12) i 0)) 13 (upd (zA (rdC σ1 (nI (p.2.1.headD 0))) 13) i (nI (p.2.1.headD 0) * zI (rdC σ1 (nI (p.2.1.headD 0))) 1))) (f1.2.1 4 (by decide)))]
        have hrd := m_read (n := n) (τ := sA (sA (sA τ1 14 (upd (zA τ1 14) i (nI (p.2.1.headD 0)))) 15 (upd (zA τ1 15) i 0)) 16 (upd (zA τ1 16) i (nI p.2.2))) (show zI τ1 17 = 0 from (f2.1 17 (by decide)).trans h17) (nI (p.2.1.headD 0))
        rw [zb_s hrd, nI_1]
        refine ⟨_, _, gs.length - (i + 1), by omega, rfl, rfl, _, i + 1, _, _, rfl, rfl, by omega, rfl, ?_, ⟨⟨g1, g2, g3⟩, fun j p' hj hp' => ?_⟩, OD_rd (b := nI (p.2.1.headD 0)) hD1 rfl rfl rfl rfl rfl rfl, ?_, ?_⟩
        · rw [← hx, List.drop_eq_getElem_cons hil, (List.getElem?_eq_some_iff.mp hp).2]
          show _ = x + nI (p.2.2 - 0 + mS (gs.drop (i + 1)) (fun _ => 0))
          rw [Nat.sub_zero, ← nI_add, Int32.add_assoc]
        · by_cases q : j = i
          · subst q
            rw [hp] at hp'
            cases hp'
            refine ⟨Nat.zero_le _, hu _ _, by rw [Nat.sub_zero]; exact hu _ _, fun _ => ⟨?_, ?_, ?_, ?_⟩, fun q => absurd e4 q⟩
            · rw [gb_0]; exact hu _ _
            · show upd (zA σ1 13) j (nI (p.2.1.headD 0) * zI σ1 1) j = _
              rw [hu, gb_0, show zI σ1 1 = nI sz from (f1.1 1 (by decide)).trans hS.1.2.2.2.1, nI_mul, Nat.zero_mod, Nat.zero_mul]
              rfl
            · rw [gb_0]; exact hu _ _
            · rw [Nat.zero_mod]; exact hu _ _
          · obtain ⟨r1, r2, r3, r4, r5⟩ := hrow j p' (by omega) hp'
            refine ⟨r1, ?_, ?_, fun hh => ⟨?_, ?_, ?_, ?_⟩, fun hh => ?_⟩
            · show upd (zA σ1 12) i _ j = _
              rw [upd_at, if_neg q]; exact r2
            · show upd (zA τ1 16) i _ j = _
              rw [upd_at, if_neg q]; exact r3
            · show upd (zA σ1 11) i _ j = _
              rw [upd_at, if_neg q]; exact (r4 hh).1
            · show upd (zA σ1 13) i _ j = _
              rw [upd_at, if_neg q]; exact (r4 hh).2.1
            · show upd (zA τ1 14) i _ j = _
              rw [upd_at, if_neg q]; exact (r4 hh).2.2.1
            · show upd (zA τ1 15) i _ j = _
              rw [upd_at, if_neg q]; exact (r4 hh).2.2.2
            · show upd (zA σ1 13) i _ j = _
              rw [upd_at, if_neg q]; exact r5 hh
        · exact zfr_A (by decide) (zfr_A (by decide) (zfr_A (by decide) (zfr_I (by decide) (zfr_I (by decide) (zfr_I (by decide) f1)))))
        · exact zfr_I (by decide) (zfr_I (by decide) (zfr_I (by decide) (zfr_I (by decide) (zfr_A (by decide) (zfr_A (by decide) (zfr_A (by decide) f2)))))))
    n gs.length (0, 0, σ) (0, τ) (by omega) ⟨0, 0, σ, τ, rfl, rfl, Nat.zero_le _, rfl, by rw [List.drop_zero, Int32.zero_add], ⟨⟨h29, h8, h10⟩, fun j p hj => absurd hj (by omega)⟩, hD, zfr_r, zfr_r⟩
  obtain ⟨_, τ1, h1, h2, σ1, _, rfl, rfl, h3, h4, h5, h6⟩ := hloop
  refine ⟨σ1, τ1, ?_, h2, h3, h4, h5, h6⟩
  unfold fX4_start_0
  rw [zb_s h1]
/-- the power is gone, or the disk full, in a merge -/
def BADM (nb sz : Nat) (us : Nat → Bool) (cl : Nat → Nat → Int64) (P0 : Prop) (mk : Nat) (σ τ σ' τ' : zS) : Prop :=
  ((zI τ' 17 = 1 ∧ zI σ' 7 = 1) ∨ (zI τ' 17 = 2 ∧ zI σ' 7 = zI σ 7)) ∧ ∃ cb, OD nb sz [] [] cb us cl P0 σ' τ' ∧ OX cb mk σ τ σ' τ' ∧ zfr [2, 3, 4, 5, 6, 7, 20, 21, 22, 23, 24, 25] [0, 3, 6, 11, 12, 13] [0, 2] σ σ' ∧ zfr [10, 11, 12, 13, 14, 15, 17, 19, 20] [0, 1, 2, 3, 4, 5, 14, 15, 16] [0, 2, 3] τ τ'
theorem GC_keep {nb sz w mk : Nat} {us : Nat → Bool} {gs : List (Nat × List Nat × Nat)} {cb : List Nat} {σ τ σ' τ' : zS} (hg : GF nb sz w us gs) (hc : GC gs σ τ) (hcb : ∀ b ∈ cb, us b = false) (hx : OX cb mk σ τ σ' τ') (h4 : zA σ' 4 = zA σ 4) (hmk : ∀ p ∈ gs, ¬ p.1 = mk) : GC gs σ' τ' := by
  intro p hp
  obtain ⟨c1, c2, c3⟩ := hc p hp
  obtain ⟨-, -, -, -, -, -, f6⟩ := hg p hp
  have hn : ∀ b ∈ p.2.1, ¬ b ∈ cb := fun b hb q => by
    have h1 := (f6 b hb).2
    rw [hcb b q] at h1
    cases h1
  obtain ⟨x1, x2, x3⟩ := hx.2 p.1 (hmk p hp)
  exact ⟨chC_congr (fun b hb => (hx.1 b (hn b hb)).1) c1, by rw [h4]; exact c2, JF_keep c3 x1 x2 x3 (fun b hb => (hx.1 b (hn b hb)).2)⟩
theorem j_mloop {n nb sz mm w kn mk : Nat} {us : Nat → Bool} {cl : Nat → Nat → Int64} {P0 : Prop} {md sm : Int32} {gs : List (Nat × List Nat × Nat)} {σb τb : zS} {v0 : Int32} (hn : 110000 ≤ n) (hnb : nb ≤ 200) (hs5 : 5 ≤ sz) (hsz : sz ≤ 64) (hS : SC nb sz mm w kn σb τb) (hD : OD nb sz [] [] [] us cl P0 σb τb) (hR : OR nb sz w us cl md sm 0 0 [] none mk [] σb τb) (hg : GF nb sz w us gs) (hc : GC gs σb τb) (hmk : ∀ p ∈ gs, ¬ p.1 = mk) (h17 : zI τb 17 = 0) (h20 : zI τb 20 = 0) (hk1 : 1 ≤ gs.length) (hM : MS sz w gs.length gs (fun _ => 0) σb τb) (hmdE : md = zI σb 0) (hsmE : sm = smF md kn w (zA σb 1)) (hv0 : fX10_firstOf_0 n τb (nI gs.length) = some v0) (hnd : (gs.flatMap (fun p => nmR (sz / (w + 1)) w cl p.2.1 p.2.2)).Nodup) :
    ∃ d σ' τ', zlp (fX4_merge_L15_15 n nb sz mm) n (1, nI (mS gs (fun _ => 0)), σb) = some (d, σ') ∧ zlp (fX10_merge_L78_78 n (nI gs.length)) n (v0, τb) = some τ' ∧
    ((d = 1 ∧ zI τ' 17 = 0 ∧ ∃ op ct cb wp on, op < sz / (w + 1) ∧ ct = cb.length * (sz / (w + 1)) ∧ OD nb sz [] [] cb us cl P0 σ' τ' ∧ OR nb sz w us cl md sm op ct cb wp mk on σ' τ' ∧ (zI τ' 20 = if wp = none then 0 else 1) ∧ OX cb mk σb τb σ' τ' ∧ zfr [2, 3, 4, 5, 6, 20, 21, 22, 23, 24, 25] [0, 3, 6, 11, 12, 13] [0, 2] σb σ' ∧ zfr [10, 11, 12, 13, 14, 15, 17, 19, 20] [0, 1, 2, 3, 4, 5, 14, 15, 16] [0, 2, 3] τb τ' ∧ on.Nodup ∧ (∀ x ∈ on, x ∈ gs.flatMap (fun p => nmR (sz / (w + 1)) w cl p.2.1 p.2.2)) ∧ ¬ on = [])
     ∨ (d = 0 ∧ BADM nb sz us cl P0 mk σb τb σ' τ')) := by
  have hper := p_per (w := w) hs5 hS.2.1.2.1
  have hk8 := hM.1.2.1
  have hbig := mul_big hnb hsz
  let nm : Nat × List Nat × Nat → List Int64 := fun p => nmR (sz / (w + 1)) w cl p.2.1 p.2.2
  have hloop := zlp_two (body := fX4_merge_L15_15 n nb sz mm) (body' := fX10_merge_L78_78 n (nI gs.length))
    (fun m a a' => (∃ σ1 τ1 e op ct cb wp on v, a = (1, nI (mS gs e), σ1) ∧ a' = (v, τ1) ∧ m = mS gs e + 2 ∧ zI τ1 17 = 0 ∧ fX10_firstOf_0 n τ1 (nI gs.length) = some v ∧ op < sz / (w + 1) ∧ ct = cb.length * (sz / (w + 1)) ∧ OD nb sz [] [] cb us cl P0 σ1 τ1 ∧ OR nb sz w us cl md sm op ct cb wp mk on σ1 τ1 ∧ (zI τ1 20 = if wp = none then 0 else 1) ∧ MS sz w gs.length gs e σ1 τ1 ∧ OX cb mk σb τb σ1 τ1 ∧ zfr [2, 3, 4, 5, 6, 20, 21, 22, 23, 24, 25] [0, 3, 6, 11, 12, 13] [0, 2] σb σ1 ∧ zfr [10, 11, 12, 13, 14, 15, 17, 19, 20] [0, 1, 2, 3, 4, 5, 14, 15, 16] [0, 2, 3] τb τ1 ∧ (on ++ mR nm gs e).Nodup ∧ (∀ x ∈ on ++ mR nm gs e, x ∈ gs.flatMap nm) ∧ (on = [] → ∀ j, e j = 0)) ∨ (∃ x σ1 τ1, a = (0, x, σ1) ∧ a' = (-1, τ1) ∧ m = 1 ∧ BADM nb sz us cl P0 mk σb τb σ1 τ1))
    (fun b b' => ∃ d σ' τ', b = (d, σ') ∧ b' = τ' ∧ ((d = 1 ∧ zI τ' 17 = 0 ∧ ∃ op ct cb wp on, op < sz / (w + 1) ∧ ct = cb.length * (sz / (w + 1)) ∧ OD nb sz [] [] cb us cl P0 σ' τ' ∧ OR nb sz w us cl md sm op ct cb wp mk on σ' τ' ∧ (zI τ' 20 = if wp = none then 0 else 1) ∧ OX cb mk σb τb σ' τ' ∧ zfr [2, 3, 4, 5, 6, 20, 21, 22, 23, 24, 25] [0, 3, 6, 11, 12, 13] [0, 2] σb σ' ∧ zfr [10, 11, 12, 13, 14, 15, 17, 19, 20] [0, 1, 2, 3, 4, 5, 14, 15, 16] [0, 2, 3] τb τ' ∧ on.Nodup ∧ (∀ x ∈ on, x ∈ gs.flatMap nm) ∧ ¬ on = []) ∨ (d = 0 ∧ BADM nb sz us cl P0 mk σb τb σ' τ')))
    (fun m a a' hP => by
      rcases hP with ⟨σ1, τ1, e, op, ct, cb, wp, on, v, rfl, rfl, rfl, t17, tv, top, tct, tD, tR, tfl, tM, tX, tf1, tf2, tnd, tsub, ton⟩ | ⟨x, σ1, τ1, rfl, rfl, rfl, tb⟩
      · have tS : SC nb sz mm w kn σ1 τ1 := SC_fr hS tf1 tf2 (by decide) (by decide) (by decide) (by decide)
        have tc : GC gs σ1 τ1 := GC_keep hg hc (fun b hb => (tD.2.2.2.2.2.1 b hb).2) tX (tf1.2.1 4 (by decide)) hmk
        obtain ⟨v', k1, k2, k3⟩ := j_first (n := n) (us := us) (cl := cl) (by omega) hnb hs5 hsz tS tD.1 hg t17 tM
        rw [tv] at k2
        cases k2
        have hle := mS_le (e := e) hnb hsz hg
        unfold fX4_merge_L15_15 fX10_merge_L78_78
        dsimp only
        by_cases cz : mS gs e = 0
        · right
          have hall := mS_0 cz
          have hv : v = -1 := by
            rcases k3 with ⟨h, -⟩ | ⟨j, p, h1, -, h3⟩
            · exact h
            · exact absurd h3 (by have := hall j p h1; omega)
          rw [cz, if_pos (show nI 0 ≤ 0 by decide), if_pos (show v < 0 by rw [hv]; decide)]
          refine ⟨_, _, rfl, rfl, 1, σ1, τ1, rfl, rfl, Or.inl ⟨rfl, t17, op, ct, cb, wp, on, top, tct, tD, tR, tfl, tX, tf1, tf2, (List.nodup_append.mp tnd).1, fun x hx => tsub x (List.mem_append_left _ hx), fun q => ?_⟩⟩
          have h0 := ton q 0
          obtain ⟨p, hp⟩ : ∃ p, gs[0]? = some p := ⟨gs[0], List.getElem?_eq_getElem (by omega)⟩
          have h1 := hall 0 p hp
          obtain ⟨-, -, -, -, f4, -, -⟩ := hg p (List.mem_of_getElem? hp)
          omega
        · left
          obtain ⟨i, p, hp, he⟩ : ∃ i p, gs[i]? = some p ∧ v = nI i ∧ e i < p.2.2 := by
            rcases k3 with ⟨-, h⟩ | h
            · obtain ⟨i, p, h1, h2⟩ := mS_pos (show 0 < mS gs e by omega)
              exact absurd h2 (h i p h1)
            · exact h
          obtain ⟨rfl, he⟩ := he
          have hil := (List.getElem?_eq_some_iff.mp hp).1
          have hpm := List.mem_of_getElem? hp
          obtain ⟨s1, s2, s3, s4⟩ := (tM.2 i p hil hp).2.2.2.1 he
          obtain ⟨b1, b2, b3⟩ := gb_at hg hper hpm he
          have hmod := Nat.mod_lt (e i) hper
          obtain ⟨r, σ2, τ2, o1, o2, hor⟩ := o_out (n := n) (pre := []) (by omega) hnb hs5 hsz tS tD tR t17 top tct tfl (hmdE.trans (tf1.1 0 (by decide)).symm) (by rw [tf1.2.1 1 (by decide)]; exact hsmE) b2 hmod b3
          have hco : fX10_cellOf_0 n τ1 (nI i) = some (nI (64 * gb sz w p (e i) + e i % (sz / (w + 1)) * (w + 1))) := by
            unfold fX10_cellOf_0
            rw [zg_in (by omega) (by decide), zg_in (by omega) (by decide), nI_clamp (by omega), s3, s4, tS.2.1.2.2.1, nI_1, nI_mul, show (64 : Int32) = nI 64 from rfl, nI_mul, nI_add]
          rw [if_neg (show ¬ nI (mS gs e) ≤ 0 from nI_nle (by omega) (by omega)), if_neg (show ¬ (1 : Int32) = 0 by decide), zb_s k1, if_neg (show ¬ nI i < 0 from nI_nn (by omega)), if_neg (show ¬ nI 8 ≤ nI i from fun q => by rw [nI_leI (by omega) (by omega)] at q; omega), zg_in (show i < 8 by omega) (by decide), nI_clamp (by omega), s2, zb_s o1, if_neg (show ¬ nI i < 0 from nI_nn (by omega)), zb_s hco, zb_s o2]
          have hmS := mS_upd hp he
          have hleft : nI (mS gs e) + -1 = nI (mS gs (eU e i)) := by
            rw [nI_dec (by omega)]
            congr 1
            omega
          unfold fX4_merge_L15_65 fX4_merge_L15_66 fX4_merge_L15_77
          rcases hor with ⟨rfl, on', wp', hon', hne', ⟨q1, op', ct', cb', q2, q3, q4, q5, q6, q7, q8, q9⟩, qfl⟩ | ⟨rfl, hb⟩
          · have hS2 : SC nb sz mm w kn σ2 τ2 := SC_fr tS q8 q9 (by decide) (by decide) (by decide) (by decide)
            have hM2 : MS sz w gs.length gs e σ2 τ2 := by
              unfold MS
              rw [q8.1 29 (by decide), q8.2.1 10 (by decide), q8.2.1 11 (by decide), q8.2.1 12 (by decide), q8.2.1 13 (by decide), q9.2.1 14 (by decide), q9.2.1 15 (by decide), q9.2.1 16 (by decide)]
              exact tM
            have hX2 : OX cb' mk σb τb σ2 τ2 := by
              obtain ⟨ex, hex⟩ := q2
              exact OX_t tX q7 (fun b hb => by rw [hex]; exact List.mem_append_left _ hb)
            have hc2 : GC gs σ2 τ2 := GC_keep hg hc (fun b hb => (q5.2.2.2.2.2.1 b hb).2) hX2 ((q8.2.1 4 (by decide)).trans (tf1.2.1 4 (by decide))) hmk
            obtain ⟨σ3, τ3, a1, a2, a3, a4, a5, a6⟩ := j_adv (n := n) (by omega) hnb hs5 hsz hS2 q5 hg hc2 q1 hM2 hp he
            have hS3 : SC nb sz mm w kn σ3 τ3 := SC_fr hS2 a5 a6 (by decide) (by decide) (by decide) (by decide)
            have h173 : zI τ3 17 = 0 := (a6.1 17 (by decide)).trans q1
            obtain ⟨v2, b1', b2', -⟩ := j_first (n := n) (us := us) (cl := cl) (by omega) hnb hs5 hsz hS3 a4.1 hg h173 a3
            dsimp only
            rw [if_neg (show ¬ (1 : Int32) = 0 by decide), if_neg (show ¬ (1 : Int32) = 0 by decide), zb_s a1, zb_s a2, zb_s b2', hleft]
            have hper2 := mR_upd (nm := nm) hp (nm_at (per := sz / (w + 1)) (w := w) (cell := cl) (bl := p.2.1) he)
            refine ⟨_, _, mS gs (eU e i) + 2, by omega, rfl, rfl, Or.inl ⟨σ3, τ3, eU e i, op', ct', cb', wp', on', v2, rfl, rfl, rfl, h173, b2', q3, q4, a4, ?_, ?_, a3, ?_, ?_, ?_, ?_, ?_, fun q => absurd q hne'⟩⟩
            · obtain ⟨⟨p1, p2, p3⟩, hpg, hw0, hw1, ⟨w1, w2, w3, w4⟩, ⟨m1, m2, m3, m4⟩, hon, hfo, hsm, hmd⟩ := q6
              have hcell : (dC nb sz σ3).1 = (dC nb sz σ2).1 := by
                unfold dC
                rw [a5.2.2.1 0 (by decide)]
              refine ⟨⟨(a5.1 20 (by decide)).trans p1, (a6.1 19 (by decide)).trans p2, p3⟩, ?_, ?_, ?_, ⟨(a5.1 22 (by decide)).trans w1, (a5.1 23 (by decide)).trans w2, ?_, (a5.1 24 (by decide)).trans w4⟩, ⟨(a6.1 18 (by decide)).trans m1, m2, m3, ?_⟩, ?_, (a5.1 18 (by decide)).trans hfo, (a5.1 19 (by decide)).trans hsm, hmd⟩
              · rw [a5.2.2.1 2 (by decide), a6.2.2.1 2 (by decide)]; exact hpg
              · rw [a5.1 21 (by decide)]; exact hw0
              · rw [a5.1 21 (by decide), a5.2.2.1 2 (by decide), a6.2.2.1 3 (by decide)]; exact hw1
              · rw [a5.2.1 3 (by decide)]; exact w3
              · rw [a6.2.1 3 (by decide), a6.2.1 4 (by decide), a6.2.1 5 (by decide), a6.2.1 2 (by decide)]; exact m4
              · rw [hcell, a5.2.2.1 2 (by decide)]; exact hon
            · rw [a6.1 20 (by decide)]
              exact qfl
            · exact OX_t hX2 (OX_r (a5.2.1 3 (by decide)) (a6.2.1 2 (by decide)) (a6.2.1 3 (by decide)) (a6.2.1 4 (by decide)) (a6.2.1 5 (by decide))) (fun _ h => h)
            · exact zfr_t (zfr_t tf1 q8 (by decide) (by decide) (by decide)) a5 (by decide) (by decide) (by decide)
            · exact zfr_t (zfr_t tf2 q9 (by decide) (by decide) (by decide)) a6 (by decide) (by decide) (by decide)
            · rcases hon' with h9 | h9
              · rw [h9]
                have h1 := (List.Perm.append_left on hper2).nodup tnd
                exact List.Nodup.sublist (List.Sublist.append_left (List.sublist_cons_self _ _) _) h1
              · rw [h9]
                have h1 := (List.Perm.append_left on hper2).nodup tnd
                rw [List.append_assoc]
                exact h1
            · intro x hx
              have hback := fun y (hy : y ∈ on ++ recC cl w (gb sz w p (e i)) (e i % (sz / (w + 1))) w :: mR nm gs (eU e i)) => tsub y ((List.Perm.append_left on hper2).symm.subset hy)
              rcases hon' with h9 | h9
              · rw [h9] at hx
                exact hback x ((List.Sublist.append_left (List.sublist_cons_self _ _) _).subset hx)
              · rw [h9, List.append_assoc] at hx
                exact hback x hx
          · obtain ⟨hb1, hb2, hb3, hb4⟩ := hb
            have h172 : ¬ zI τ2 17 = 0 := by
              rcases hb1 with ⟨z, -⟩ | ⟨z, -⟩
              · rw [z]; decide
              · rw [z]; decide
            obtain ⟨τ3, a2, a6⟩ := m_onward_s (n := n) (w := w) (i := i) (x := gb sz w p (e i)) (τ := τ2) hsz hS.2.1.2.1 ((hb4.1 2 (by decide)).trans tS.1.2.1) ((hb4.1 6 (by decide)).trans tS.2.1.2.2.1) h172 (by omega) ((congrFun (hb4.2.1 14 (by decide)) i).trans s3) (by omega)
            have h173 : ¬ zI τ3 17 = 0 := by rw [a6.1 17 (by decide)]; exact h172
            dsimp only
            rw [if_pos rfl, if_pos rfl, zb_s a2, zb_s (m_firstOf_s (by omega) hk1 hk8 h173)]
            refine ⟨_, _, 1, by omega, rfl, rfl, Or.inr ⟨_, σ2, τ3, rfl, rfl, rfl, ?_, cb, ?_, ?_, ?_, ?_⟩⟩
            · rw [a6.1 17 (by decide)]
              rw [tf1.1 7 (by decide)] at hb1
              exact hb1
            · obtain ⟨hd, hlat, hrow, htk, hnd', hsb, hus, hcl⟩ := hb2
              refine ⟨?_, ?_, hrow, ?_, hnd', hsb, hus, hcl⟩
              · rw [← hd]
                unfold dM
                rw [a6.2.2.1 0 (by decide), a6.2.1 0 (by decide), a6.1 10 (by decide), a6.1 11 (by decide), a6.1 12 (by decide), a6.1 13 (by decide), a6.1 15 (by decide)]
              · rw [a6.1 13 (by decide), a6.1 14 (by decide)]; exact hlat
              · rw [a6.2.1 1 (by decide)]; exact htk
            · refine OX_t tX (OX_r ?_ ?_ ?_ ?_ ?_) (fun _ h => h)
              · exact hb3.2.1 3 (by decide)
              · exact (a6.2.1 2 (by decide)).trans (hb4.2.1 2 (by decide))
              · exact (a6.2.1 3 (by decide)).trans (hb4.2.1 3 (by decide))
              · exact (a6.2.1 4 (by decide)).trans (hb4.2.1 4 (by decide))
              · exact (a6.2.1 5 (by decide)).trans (hb4.2.1 5 (by decide))
            · exact zfr_t (zfr_w tf1 (by decide) (by decide) (by decide)) hb3 (by decide) (by decide) (by decide)
            · exact zfr_t (zfr_t tf2 hb4 (by decide) (by decide) (by decide)) a6 (by decide) (by decide) (by decide)
      · right
        unfold fX4_merge_L15_15 fX10_merge_L78_78
        dsimp only
        rw [if_pos rfl, ite_self, if_pos (show (-1 : Int32) < 0 by decide)]
        exact ⟨_, _, rfl, rfl, 0, σ1, τ1, rfl, rfl, Or.inr ⟨rfl, tb⟩⟩)
    n (mS gs (fun _ => 0) + 2) (1, nI (mS gs (fun _ => 0)), σb) (v0, τb) (by have := mS_le (e := fun _ => 0) hnb hsz hg; omega) (Or.inl ⟨σb, τb, fun _ => 0, 0, 0, [], none, [], v0, rfl, rfl, rfl, h17, hv0, hper, (Nat.zero_mul _).symm, hD, hR, by rw [h20, if_pos rfl], hM, OX_r rfl rfl rfl rfl rfl, zfr_r, zfr_r, by rw [List.nil_append, mR_0]; exact hnd, fun x hx => by rw [List.nil_append, mR_0] at hx; exact hx, fun _ _ => rfl⟩)
  obtain ⟨_, τ', h1, h2, d, σ', _, rfl, rfl, h3⟩ := hloop
  exact ⟨d, σ', τ', h1, h2, h3⟩
