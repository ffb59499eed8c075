/-! X10_isIn -/
def fX10_isIn_0 (n : Nat) (σ : zS) (x0 : Int32) (x1 : Int32) (x2 : Int32) : Option (Int32) :=
  (if x0 < x1 then (some 0) else (if x2 < x0 then (some 0) else (some 1)))
/-! X10_width -/
def fX10_width_47 (n : Nat) (σ : zS) (x1 : Int32) (y0 : Int32) : Option (zS) :=
  (if y0 ≤ 0 then (some (sI (sI (sI σ 0 y0) 6 x1) 7 0)) else (some (sI σ 0 y0)))
def fX10_width_42 (n : Nat) (σ : zS) (x1 : Int32) : Option (zS) :=
  (fX10_width_47 n σ x1 2)
def fX10_width_0 (n : Nat) (σ : zS) (x1 : Int32) : Option (zS) :=
  (zb (fX10_isIn_0 n zσ0 x1 1 4) (fun q1 => (if q1 = 0 then (fX10_width_47 n σ x1 1) else (if (zI σ 16) = 0 then (if 0 < (zI σ 4) then (fX10_width_42 n σ x1) else (zg (zin 0 208) (if (((zA σ 5) (Int32.toNatClampNeg 0)) + (zI σ 5)) ≤ 0 then (fX10_width_47 n σ x1 0) else (fX10_width_42 n σ x1)))) else (fX10_width_42 n σ x1)))))
/-! X10_key -/
def fX10_key_L5_34 (n : Nat) (σ : zS) (k1 : Int32) (k2 : Int32) (x4 : Int32) (y0 : Int32) : Option ((Int32 × Int32) ⊕ (Int32)) :=
  (some (.inl (y0, (x4 + 1))))
def fX10_key_L5_29 (n : Nat) (σ : zS) (k1 : Int32) (k2 : Int32) (x4 : Int32) : Option ((Int32 × Int32) ⊕ (Int32)) :=
  (fX10_key_L5_34 n σ k1 k2 x4 1)
def fX10_key_L5_5 (n : Nat) (σ : zS) (k1 : Int32) (k2 : Int32) (a : Int32 × Int32) : Option ((Int32 × Int32) ⊕ (Int32)) :=
  (if (zI σ 7) ≤ a.2 then (some (.inr a.1)) else (if a.1 = 0 then (zg (zin a.2 4) (if ((zA σ 8) (Int32.toNatClampNeg a.2)) = k1 then (fX10_key_L5_29 n σ k1 k2 a.2) else (fX10_key_L5_34 n σ k1 k2 a.2 0))) else (fX10_key_L5_29 n σ k1 k2 a.2)))
def fX10_key_87 (n : Nat) (σ : zS) (x1 : Int32) (x2 : Int32) (y0 : Int32) : Option (Int32 × zS) :=
  (if y0 ≤ 0 then (zg (zin (zI σ 7) 4) (zg (zin (zI σ 7) 4) (some (((zI σ 7) + 1), (sI (sA (sA (sI σ 0 y0) 8 (upd (zA σ 8) (Int32.toNatClampNeg (zI σ 7)) x1)) 9 (upd (zA σ 9) (Int32.toNatClampNeg (zI σ 7)) (vp_nar .boolean x2))) 7 ((zI σ 7) + 1)))))) else (some (0, (sI σ 0 y0))))
def fX10_key_82 (n : Nat) (σ : zS) (x1 : Int32) (x2 : Int32) : Option (Int32 × zS) :=
  (fX10_key_87 n σ x1 x2 3)
def fX10_key_0 (n : Nat) (σ : zS) (x1 : Int32) (x2 : Int32) : Option (Int32 × zS) :=
  (zb (zlp (fX10_key_L5_5 n σ x1 x2) n (0, 0)) (fun b5 => (zb (fX10_isIn_0 n zσ0 x1 0 ((zI σ 6) - 1)) (fun q7 => (if q7 = 0 then (fX10_key_87 n σ x1 x2 1) else (if b5 = 0 then (if (zI σ 16) = 0 then (if (zI σ 4) ≤ 0 then (fX10_key_87 n σ x1 x2 0) else (fX10_key_82 n σ x1 x2)) else (fX10_key_82 n σ x1 x2)) else (fX10_key_87 n σ x1 x2 2)))))))
/-! X10_mode -/
def fX10_mode_26 (n : Nat) (σ : zS) (x1 : Int32) (y0 : Int32) : Option (Int32 × zS) :=
  (if y0 ≤ 0 then (some ((zI σ 8), (sI (sI σ 0 y0) 8 x1))) else (some (0, (sI σ 0 y0))))
def fX10_mode_0 (n : Nat) (σ : zS) (x1 : Int32) : Option (Int32 × zS) :=
  (zb (fX10_isIn_0 n zσ0 x1 0 2) (fun q1 => (if q1 = 0 then (fX10_mode_26 n σ x1 1) else (if (zI σ 16) = 0 then (fX10_mode_26 n σ x1 0) else (fX10_mode_26 n σ x1 2)))))
/-! X10_begin -/
def fX10_begin_L7_7 (n : Nat) (a : Int32 × zS) : Option ((Int32 × zS) ⊕ (zS)) :=
  (if (zI a.2 1) ≤ a.1 then (some (.inr a.2)) else (zg (zin a.1 200) (some (.inl ((a.1 + 1), (sA a.2 1 (upd (zA a.2 1) (Int32.toNatClampNeg a.1) (vp_nar .boolean 0))))))))
def fX10_begin_0 (n : Nat) (σ : zS) : Option (zS) :=
  (zb (zlp (fX10_begin_L7_7 n) n (0, (sI σ 17 0))) (fun b3 => (some b3)))
/-! X10_per -/
def fX10_per_0 (n : Nat) (σ : zS) : Option (Int32) :=
  (zg (znz ((zI σ 6) + 1)) (some ((zI σ 2) / ((zI σ 6) + 1))))
/-! X10_go -/
def fX10_go_28 (n : Nat) (σ : zS) (x1 : Int32) (y0 : Int32) (y1 : Int32) : Option (zS) :=
  (some (sI (sI (sI σ 12 (y1 + y0)) 13 x1) 14 x1))
def fX10_go_0 (n : Nat) (σ : zS) (x1 : Int32) : Option (zS) :=
  (if x1 ≤ (zI σ 13) then (fX10_go_28 n σ x1 ((zI σ 13) - x1) (zI σ 12)) else (fX10_go_28 n σ x1 (x1 - (zI σ 13)) (zI σ 12)))
/-! X10_write_p10 -/
def fX10_write_p10_L2_2 (n : Nat) (σ : zS) (k2 : Int32) (a : Int32) : Option ((Int32) ⊕ (Int32)) :=
  (if (zI σ 1) ≤ a then (some (.inr a)) else (zg (zin a 200) (if ((zA σ 0) (Int32.toNatClampNeg a)) = 0 then (some (.inr a)) else (some (.inl (a + 1))))))
def fX10_write_p10_L132_132 (n : Nat) (k2 : Int32) (k3 : Int32) (a : Int32 × zS) : Option ((Int32 × zS) ⊕ (zS)) :=
  (if (k2 * ((zI a.2 6) + 1)) ≤ a.1 then (some (.inr a.2)) else (zg (zin a.1 64) (zg (zin ((64 * k3) + a.1) 12800) (some (.inl ((a.1 + 1), (sL a.2 0 (vp_updL (zL a.2 0) (Int32.toNatClampNeg ((64 * k3) + a.1)) ((zL a.2 1) (Int32.toNatClampNeg a.1))))))))))
def fX10_write_p10_90 (n : Nat) (σ : zS) (x2 : Int32) (x3 : Int32) (y0 : Int32) : Option (Int32 × zS) :=
  (zg (zin x3 200) (zg (zin x3 200) (zg (zin x3 200) (zb (fX10_go_0 n (sI (sA (sA (sA (sI σ 15 y0) 0 (upd (zA σ 0) (Int32.toNatClampNeg x3) (vp_nar .boolean 1))) 1 (upd (zA σ 1) (Int32.toNatClampNeg x3) (vp_nar .boolean 1))) 2 (upd (zA σ 2) (Int32.toNatClampNeg x3) (-1))) 11 ((zI σ 11) + 1)) x3) (fun q14 => (zb (zlp (fX10_write_p10_L132_132 n x2 x3) n (0, q14)) (fun b19 => (some (x3, b19)))))))))
def fX10_write_p10_60 (n : Nat) (σ : zS) (x2 : Int32) (x3 : Int32) : Option (Int32 × zS) :=
  (if (zI σ 17) ≤ 0 then (if (zI σ 15) ≤ 0 then (fX10_write_p10_90 n σ x2 x3 (zI σ 15)) else (fX10_write_p10_90 n σ x2 x3 ((zI σ 15) - 1))) else (some ((-1), σ)))
def fX10_write_p10_57 (n : Nat) (σ : zS) (x2 : Int32) (x3 : Int32) (y0 : Int32) : Option (Int32 × zS) :=
  (fX10_write_p10_60 n (sI σ 17 y0) x2 x3)
def fX10_write_p10_0 (n : Nat) (σ : zS) (x2 : Int32) : Option (Int32 × zS) :=
  (zb (zlp (fX10_write_p10_L2_2 n σ x2) n 0) (fun b4 => (if (zI σ 17) = 0 then (if b4 = (zI σ 1) then (fX10_write_p10_57 n σ x2 b4 2) else (if (zI σ 15) = 0 then (fX10_write_p10_57 n σ x2 b4 1) else (fX10_write_p10_57 n σ x2 b4 0))) else (fX10_write_p10_60 n σ x2 b4))))
/-! X10_hang -/
def fX10_hang_38 (n : Nat) (σ : zS) (x1 : Int32) (x2 : Int32) (x3 : Int32) : Option (zS) :=
  (zg (zin x1 208) (zg (zin x1 208) (zg (zin x1 208) (some (sA (sA σ 4 (upd (zA σ 4) (Int32.toNatClampNeg x1) x2)) 5 (upd (zA σ 5) (Int32.toNatClampNeg x1) (((zA σ 5) (Int32.toNatClampNeg x1)) + x3)))))))
def fX10_hang_0 (n : Nat) (σ : zS) (x1 : Int32) (x2 : Int32) (x3 : Int32) : Option (zS) :=
  (if x2 = (-1) then (some σ) else (zg (zin x1 208) (if ((zA σ 3) (Int32.toNatClampNeg x1)) = (-1) then (zg (zin x1 208) (fX10_hang_38 n (sA σ 3 (upd (zA σ 3) (Int32.toNatClampNeg x1) x2)) x1 x2 x3)) else (zg (zin x1 208) (zg (zin ((zA σ 4) (Int32.toNatClampNeg x1)) 200) (fX10_hang_38 n (sA σ 2 (upd (zA σ 2) (Int32.toNatClampNeg ((zA σ 4) (Int32.toNatClampNeg x1))) x2)) x1 x2 x3))))))
/-! X10_come -/
def fX10_come_L14_14 (n : Nat) (k1 : Int32) (a : Int32 × zS) : Option ((Int32 × zS) ⊕ (zS)) :=
  (if (zI a.2 6) ≤ a.1 then (some (.inr a.2)) else (zg (zin a.1 4) (zg (zin (k1 + a.1) 64) (some (.inl ((a.1 + 1), (sL a.2 1 (vp_updL (zL a.2 1) (Int32.toNatClampNeg (k1 + a.1)) ((zL a.2 4) (Int32.toNatClampNeg a.1))))))))))
def fX10_come_126 (n : Nat) (σ : zS) (x2 : Int32) (y0 : Int32) : Option (Int32 × zS) :=
  (zg (zbo y0) (if (zI σ 17) ≤ 0 then (zb (fX10_hang_0 n (sI σ 16 y0) 0 x2 ((zI σ 5) + 1)) (fun q17 => (some (1, (sI (sI q17 5 0) 9 ((zI q17 9) + 1)))))) else (some (0, (sI σ 16 y0)))))
def fX10_come_0 (n : Nat) (σ : zS) : Option (Int32 × zS) :=
  (zb (zlp (fX10_come_L14_14 n ((zI σ 5) * ((zI σ 6) + 1))) n (0, σ)) (fun b4 => (zg (zin (((zI σ 5) * ((zI σ 6) + 1)) + (zI b4 6)) 64) (zb (fX10_begin_0 n (sL b4 1 (vp_updL (zL b4 1) (Int32.toNatClampNeg (((zI σ 5) * ((zI σ 6) + 1)) + (zI b4 6))) (Int32.toInt64 (zI b4 9))))) (fun q7 => (zb (fX10_per_0 n q7) (fun q9 => (if q9 ≤ ((zI q7 5) + 1) then (zb (fX10_write_p10_0 n q7 ((zI q7 5) + 1)) (fun q12 => (if (zI q12.2 17) = 1 then (fX10_come_126 n q12.2 q12.1 1) else (fX10_come_126 n q12.2 q12.1 0)))) else (some (1, (sI (sI q7 5 ((zI q7 5) + 1)) 9 ((zI q7 9) + 1))))))))))))
/-! X10_feed -/
def fX10_feed_75 (n : Nat) (σ : zS) (x9 : Int32) (y0 : Int32) : Option (Int32 × zS) :=
  (if x9 = 0 then (some ((-2), (sI σ 0 y0))) else (some (((zI σ 9) - 1), (sI σ 0 y0))))
def fX10_feed_13 (n : Nat) (σ : zS) (x1 : Int64) (x3 : Int64) (x5 : Int64) (x7 : Int64) (y0 : Int32) : Option (Int32 × zS) :=
  (if y0 ≤ 0 then (zg (zin 0 4) (zg (zin 1 4) (zg (zin 2 4) (zg (zin 3 4) (zb (fX10_come_0 n (sL (sL (sL (sL (sI σ 0 y0) 4 (vp_updL (zL σ 4) (Int32.toNatClampNeg 0) x1)) 4 (vp_updL (vp_updL (zL σ 4) (Int32.toNatClampNeg 0) x1) (Int32.toNatClampNeg 1) x3)) 4 (vp_updL (vp_updL (vp_updL (zL σ 4) (Int32.toNatClampNeg 0) x1) (Int32.toNatClampNeg 1) x3) (Int32.toNatClampNeg 2) x5)) 4 (vp_updL (vp_updL (vp_updL (vp_updL (zL σ 4) (Int32.toNatClampNeg 0) x1) (Int32.toNatClampNeg 1) x3) (Int32.toNatClampNeg 2) x5) (Int32.toNatClampNeg 3) x7))) (fun q7 => (if (zI q7.2 17) = 2 then (fX10_feed_75 n q7.2 q7.1 2) else (fX10_feed_75 n q7.2 q7.1 0)))))))) else (some (0, (sI σ 0 y0))))
def fX10_feed_0 (n : Nat) (σ : zS) (x1 : Int64) (x3 : Int64) (x5 : Int64) (x7 : Int64) : Option (Int32 × zS) :=
  (if (zI σ 16) = 0 then (fX10_feed_13 n σ x1 x3 x5 x7 0) else (fX10_feed_13 n σ x1 x3 x5 x7 1))
/-! X10_run -/
def fX10_run_L75_75 (n : Nat) (k3 : Int32) (k4 : Int32) (k7 : Int32) (a : Int64 × Int32 × zS) : Option ((Int64 × Int32 × zS) ⊕ (Int64 × zS)) :=
  (if (zI a.2.2 6) ≤ a.2.1 then (some (.inr (a.1, a.2.2))) else (zg (znzL k3.toInt64) (zg (zin a.2.1 4) (some (.inl (((a.1 * 6364136223846793005) + 1442695040888963407), (a.2.1 + 1), (sL a.2.2 4 (vp_updL (zL a.2.2 4) (Int32.toNatClampNeg a.2.1) (((Int64.toUInt64 ((a.1 * 6364136223846793005) + 1442695040888963407) >>> (Int64.toUInt64 (Int32.toInt64 33) &&& Int64.toUInt64 63)).toInt64) - ((Int64.toUInt64 ((a.1 * 6364136223846793005) + 1442695040888963407) >>> (Int64.toUInt64 (Int32.toInt64 33) &&& Int64.toUInt64 63)).toInt64) / k3.toInt64 * k3.toInt64)))))))))
def fX10_run_L60_137 (n : Nat) (σ : zS) (k3 : Int32) (k4 : Int32) (x5 : Int64) (x8 : Int32) (y0 : Int32) : Option ((Int64 × Int32 × Int32 × zS) ⊕ (Int32 × zS)) :=
  (some (.inl (x5, y0, x8, σ)))
def fX10_run_L60_60 (n : Nat) (k3 : Int32) (k4 : Int32) (a : Int64 × Int32 × Int32 × zS) : Option ((Int64 × Int32 × Int32 × zS) ⊕ (Int32 × zS)) :=
  (if k4 ≤ a.2.1 then (some (.inr (a.2.1, a.2.2.2))) else (if a.2.2.1 = 0 then (some (.inr (a.2.1, a.2.2.2))) else (zb (zlp (fX10_run_L75_75 n k3 k4 a.2.1) n (a.1, 0, a.2.2.2)) (fun b14 => (zb (fX10_come_0 n b14.2) (fun q16 => (if q16.1 = 0 then (fX10_run_L60_137 n q16.2 k3 k4 b14.1 q16.1 a.2.1) else (fX10_run_L60_137 n q16.2 k3 k4 b14.1 q16.1 (a.2.1 + 1)))))))))
def fX10_run_39 (n : Nat) (σ : zS) (x1 : Int64) (x3 : Int32) (x4 : Int32) (y0 : Int32) : Option (Int32 × zS) :=
  (if y0 ≤ 0 then (zb (zlp (fX10_run_L60_60 n x3 x4) n (x1, 0, 1, (sI σ 0 y0))) (fun b19 => (some (b19.1, b19.2)))) else (some (0, (sI σ 0 y0))))
def fX10_run_23 (n : Nat) (σ : zS) (x1 : Int64) (x3 : Int32) (x4 : Int32) : Option (Int32 × zS) :=
  (fX10_run_39 n σ x1 x3 x4 1)
def fX10_run_0 (n : Nat) (σ : zS) (x1 : Int64) (x3 : Int32) (x4 : Int32) : Option (Int32 × zS) :=
  (zb (fX10_isIn_0 n zσ0 x3 1 1000000000) (fun q1 => (if q1 = 0 then (fX10_run_23 n σ x1 x3 x4) else (zb (fX10_isIn_0 n zσ0 x4 0 300) (fun q4 => (if q4 = 0 then (fX10_run_23 n σ x1 x3 x4) else (if (zI σ 16) = 0 then (fX10_run_39 n σ x1 x3 x4 0) else (fX10_run_39 n σ x1 x3 x4 2))))))))
/-! X10_read -/
def fX10_read_0 (n : Nat) (σ : zS) (x1 : Int32) : Option (zS) :=
  (if (zI σ 17) = 0 then (zb (fX10_go_0 n (sI σ 10 ((zI σ 10) + 1)) x1) (fun q2 => (some q2))) else (some σ))
/-! X10_nextRecord -/
def fX10_nextRecord_60 (n : Nat) (σ : zS) : Option (Int32 × zS) :=
  (some (((64 * (zI σ 21)) + ((zI σ 22) * ((zI σ 6) + 1))), (sI (sI σ 22 ((zI σ 22) + 1)) 23 ((zI σ 23) - 1))))
def fX10_nextRecord_45 (n : Nat) (σ : zS) : Option (Int32 × zS) :=
  (if (zI σ 22) = 0 then (zb (fX10_read_0 n σ (zI σ 21)) (fun q8 => (fX10_nextRecord_60 n q8))) else (fX10_nextRecord_60 n σ))
def fX10_nextRecord_0 (n : Nat) (σ : zS) : Option (Int32 × zS) :=
  (if (zI σ 23) = 0 then (some ((-1), σ)) else (if (zI σ 17) ≤ 0 then (zb (fX10_per_0 n σ) (fun q3 => (if (zI σ 22) = q3 then (zg (zin (zI σ 21) 200) (fX10_nextRecord_45 n (sI (sI σ 21 ((zA σ 2) (Int32.toNatClampNeg (zI σ 21)))) 22 0))) else (fX10_nextRecord_45 n σ)))) else (some ((-1), σ))))
/-! X10_byKeys_p1 -/
def fX10_byKeys_p1_L23_49 (n : Nat) (σ : zS) (k2 : Int32) (k3 : Int32) (k4 : Int32) (x5 : Int32) (y0 : Int32) : Option ((Int32) ⊕ ((Unit) ⊕ (Int32 × Int64 × Int64))) :=
  (zg (zin (k2 + y0) 12800) (zg (zin (k3 + y0) 12800) (if (lg_cmp ((zL σ 0) (Int32.toNatClampNeg (k2 + y0))) ((zL σ 0) (Int32.toNatClampNeg (k3 + y0)))) = 0 then (some (.inl (x5 + 1))) else (some (.inr (.inr (x5, ((zL σ 0) (Int32.toNatClampNeg (k2 + y0))), ((zL σ 0) (Int32.toNatClampNeg (k3 + y0))))))))))
def fX10_byKeys_p1_L23_23 (n : Nat) (σ : zS) (k2 : Int32) (k3 : Int32) (k4 : Int32) (a : Int32) : Option ((Int32) ⊕ ((Unit) ⊕ (Int32 × Int64 × Int64))) :=
  (if k4 ≤ a then (some (.inr (.inl ()))) else (if (zI σ 7) = 0 then (fX10_byKeys_p1_L23_49 n σ k2 k3 k4 a a) else (zg (zin a 4) (fX10_byKeys_p1_L23_49 n σ k2 k3 k4 a ((zA σ 8) (Int32.toNatClampNeg a))))))
def fX10_byKeys_p1_113 (n : Nat) (σ : zS) (y0 : Int32) (y1 : Int32) : Option (Int32) :=
  (if y1 = y0 then (some 1) else (some (-1)))
def fX10_byKeys_p1_112 (n : Nat) (σ : zS) (y0 : Int32) : Option (Int32) :=
  (fX10_byKeys_p1_113 n σ 0 y0)
def fX10_byKeys_p1_91 (n : Nat) (σ : zS) (x5 : Int32) (y0 : Int32) : Option (Int32) :=
  (if (zI σ 7) ≤ 0 then (fX10_byKeys_p1_112 n σ y0) else (zg (zin x5 4) (if ((zA σ 9) (Int32.toNatClampNeg x5)) = 0 then (fX10_byKeys_p1_112 n σ y0) else (fX10_byKeys_p1_113 n σ 1 y0))))
def fX10_byKeys_p1_18 (n : Nat) (σ : zS) (x2 : Int32) (x3 : Int32) (y0 : Int32) : Option (Int32) :=
  (zb (zlp (fX10_byKeys_p1_L23_23 n σ x2 x3 y0) n 0) (fun b8 => Sum.elim (fun b8 => (some 0)) (fun b8 => (if 0 ≤ (lg_cmp b8.2.1 b8.2.2) then (fX10_byKeys_p1_91 n σ b8.1 0) else (fX10_byKeys_p1_91 n σ b8.1 1))) b8))
def fX10_byKeys_p1_0 (n : Nat) (σ : zS) (x2 : Int32) (x3 : Int32) : Option (Int32) :=
  (if (zI σ 7) = 0 then (fX10_byKeys_p1_18 n σ x2 x3 (zI σ 6)) else (fX10_byKeys_p1_18 n σ x2 x3 (zI σ 7)))
/-! X10_before -/
def fX10_before_0 (n : Nat) (σ : zS) (x1 : Int32) (x2 : Int32) : Option (Int32) :=
  (zb (fX10_byKeys_p1_0 n σ x1 x2) (fun q1 => (if q1 = 0 then (zg (zin (x1 + (zI σ 6)) 12800) (zg (zin (x2 + (zI σ 6)) 12800) (if 0 ≤ (lg_cmp ((zL σ 0) (Int32.toNatClampNeg (x1 + (zI σ 6)))) ((zL σ 0) (Int32.toNatClampNeg (x2 + (zI σ 6))))) then (some 0) else (some 1)))) else (if 0 ≤ q1 then (some 0) else (some 1)))))
/-! X10_write_p13 -/
def fX10_write_p13_L2_2 (n : Nat) (σ : zS) (k2 : Int32) (a : Int32) : Option ((Int32) ⊕ (Int32)) :=
  (if (zI σ 1) ≤ a then (some (.inr a)) else (zg (zin a 200) (if ((zA σ 0) (Int32.toNatClampNeg a)) = 0 then (some (.inr a)) else (some (.inl (a + 1))))))
def fX10_write_p13_L132_132 (n : Nat) (k2 : Int32) (k3 : Int32) (a : Int32 × zS) : Option ((Int32 × zS) ⊕ (zS)) :=
  (if (k2 * ((zI a.2 6) + 1)) ≤ a.1 then (some (.inr a.2)) else (zg (zin a.1 64) (zg (zin ((64 * k3) + a.1) 12800) (some (.inl ((a.1 + 1), (sL a.2 0 (vp_updL (zL a.2 0) (Int32.toNatClampNeg ((64 * k3) + a.1)) ((zL a.2 2) (Int32.toNatClampNeg a.1))))))))))
def fX10_write_p13_90 (n : Nat) (σ : zS) (x2 : Int32) (x3 : Int32) (y0 : Int32) : Option (Int32 × zS) :=
  (zg (zin x3 200) (zg (zin x3 200) (zg (zin x3 200) (zb (fX10_go_0 n (sI (sA (sA (sA (sI σ 15 y0) 0 (upd (zA σ 0) (Int32.toNatClampNeg x3) (vp_nar .boolean 1))) 1 (upd (zA σ 1) (Int32.toNatClampNeg x3) (vp_nar .boolean 1))) 2 (upd (zA σ 2) (Int32.toNatClampNeg x3) (-1))) 11 ((zI σ 11) + 1)) x3) (fun q14 => (zb (zlp (fX10_write_p13_L132_132 n x2 x3) n (0, q14)) (fun b19 => (some (x3, b19)))))))))
def fX10_write_p13_60 (n : Nat) (σ : zS) (x2 : Int32) (x3 : Int32) : Option (Int32 × zS) :=
  (if (zI σ 17) ≤ 0 then (if (zI σ 15) ≤ 0 then (fX10_write_p13_90 n σ x2 x3 (zI σ 15)) else (fX10_write_p13_90 n σ x2 x3 ((zI σ 15) - 1))) else (some ((-1), σ)))
def fX10_write_p13_57 (n : Nat) (σ : zS) (x2 : Int32) (x3 : Int32) (y0 : Int32) : Option (Int32 × zS) :=
  (fX10_write_p13_60 n (sI σ 17 y0) x2 x3)
def fX10_write_p13_0 (n : Nat) (σ : zS) (x2 : Int32) : Option (Int32 × zS) :=
  (zb (zlp (fX10_write_p13_L2_2 n σ x2) n 0) (fun b4 => (if (zI σ 17) = 0 then (if b4 = (zI σ 1) then (fX10_write_p13_57 n σ x2 b4 2) else (if (zI σ 15) = 0 then (fX10_write_p13_57 n σ x2 b4 1) else (fX10_write_p13_57 n σ x2 b4 0))) else (fX10_write_p13_60 n σ x2 b4))))
/-! X10_writePage -/
def fX10_writePage_0 (n : Nat) (σ : zS) : Option (zS) :=
  (zb (fX10_write_p13_0 n σ (zI σ 19)) (fun q1 => (zb (fX10_hang_0 n q1.2 (zI q1.2 18) q1.1 (zI σ 19)) (fun q3 => (some (sI q3 19 0))))))
/-! X10_toPage_p14 -/
def fX10_toPage_p14_L2_2 (n : Nat) (k2 : Int32) (a : Int32 × zS) : Option ((Int32 × zS) ⊕ (zS)) :=
  (if (zI a.2 6) < a.1 then (some (.inr a.2)) else (zg (zin (k2 + a.1) 5) (zg (zin (((zI a.2 19) * ((zI a.2 6) + 1)) + a.1) 64) (some (.inl ((a.1 + 1), (sL a.2 2 (vp_updL (zL a.2 2) (Int32.toNatClampNeg (((zI a.2 19) * ((zI a.2 6) + 1)) + a.1)) ((zL a.2 3) (Int32.toNatClampNeg (k2 + a.1)))))))))))
def fX10_toPage_p14_0 (n : Nat) (σ : zS) (x2 : Int32) : Option (zS) :=
  (zb (zlp (fX10_toPage_p14_L2_2 n x2) n (0, σ)) (fun b4 => (zb (fX10_per_0 n (sI b4 19 ((zI b4 19) + 1))) (fun q6 => (if ((zI b4 19) + 1) = q6 then (zb (fX10_writePage_0 n (sI b4 19 ((zI b4 19) + 1))) (fun q9 => (some q9))) else (some (sI b4 19 ((zI b4 19) + 1))))))))
/-! X10_endRun -/
def fX10_endRun_16 (n : Nat) (σ : zS) : Option (zS) :=
  (if (zI σ 19) ≤ 0 then (some (sI σ 20 0)) else (zb (fX10_writePage_0 n (sI σ 20 0)) (fun q5 => (some q5))))
def fX10_endRun_0 (n : Nat) (σ : zS) : Option (zS) :=
  (if (zI σ 20) = 0 then (fX10_endRun_16 n σ) else (zb (fX10_toPage_p14_0 n σ 0) (fun q2 => (fX10_endRun_16 n q2))))
/-! X10_newFile -/
def fX10_newFile_L2_2 (n : Nat) (σ : zS) (a : Int32) : Option ((Int32) ⊕ (Int32)) :=
  (zg (zin a 208) (if ((zA σ 6) (Int32.toNatClampNeg a)) = 0 then (some (.inr a)) else (some (.inl (a + 1)))))
def fX10_newFile_0 (n : Nat) (σ : zS) : Option (Int32 × zS) :=
  (zb (zlp (fX10_newFile_L2_2 n σ) n 1) (fun b3 => (zg (zin b3 208) (zg (zin b3 208) (zg (zin b3 208) (zg (zin b3 208) (some (b3, (sA (sA (sA (sA σ 6 (upd (zA σ 6) (Int32.toNatClampNeg b3) (vp_nar .boolean 1))) 3 (upd (zA σ 3) (Int32.toNatClampNeg b3) (-1))) 4 (upd (zA σ 4) (Int32.toNatClampNeg b3) (-1))) 5 (upd (zA σ 5) (Int32.toNatClampNeg b3) 0))))))))))
/-! X10_beginRun -/
def fX10_beginRun_0 (n : Nat) (σ : zS) : Option (zS) :=
  (zb (fX10_newFile_0 n σ) (fun q1 => (some (sI (sI (sI q1.2 18 q1.1) 19 0) 20 0))))
/-! X10_nextRun -/
def fX10_nextRun_0 (n : Nat) (σ : zS) : Option (zS) :=
  (zb (fX10_beginRun_0 n σ) (fun q1 => (zg (zin (zI q1 25) 208) (some (sI (sA q1 12 (upd (zA q1 12) (Int32.toNatClampNeg (zI q1 25)) (zI q1 18))) 25 ((zI q1 25) + 1))))))
/-! X10_byKeys_p14 -/
def fX10_byKeys_p14_L23_49 (n : Nat) (σ : zS) (k2 : Int32) (k3 : Int32) (k4 : Int32) (x5 : Int32) (y0 : Int32) : Option ((Int32) ⊕ ((Unit) ⊕ (Int32 × Int64 × Int64))) :=
  (zg (zin (k2 + y0) 5) (zg (zin (k3 + y0) 12800) (if (lg_cmp ((zL σ 3) (Int32.toNatClampNeg (k2 + y0))) ((zL σ 0) (Int32.toNatClampNeg (k3 + y0)))) = 0 then (some (.inl (x5 + 1))) else (some (.inr (.inr (x5, ((zL σ 3) (Int32.toNatClampNeg (k2 + y0))), ((zL σ 0) (Int32.toNatClampNeg (k3 + y0))))))))))
def fX10_byKeys_p14_L23_23 (n : Nat) (σ : zS) (k2 : Int32) (k3 : Int32) (k4 : Int32) (a : Int32) : Option ((Int32) ⊕ ((Unit) ⊕ (Int32 × Int64 × Int64))) :=
  (if k4 ≤ a then (some (.inr (.inl ()))) else (if (zI σ 7) = 0 then (fX10_byKeys_p14_L23_49 n σ k2 k3 k4 a a) else (zg (zin a 4) (fX10_byKeys_p14_L23_49 n σ k2 k3 k4 a ((zA σ 8) (Int32.toNatClampNeg a))))))
def fX10_byKeys_p14_113 (n : Nat) (σ : zS) (y0 : Int32) (y1 : Int32) : Option (Int32) :=
  (if y1 = y0 then (some 1) else (some (-1)))
def fX10_byKeys_p14_112 (n : Nat) (σ : zS) (y0 : Int32) : Option (Int32) :=
  (fX10_byKeys_p14_113 n σ 0 y0)
def fX10_byKeys_p14_91 (n : Nat) (σ : zS) (x5 : Int32) (y0 : Int32) : Option (Int32) :=
  (if (zI σ 7) ≤ 0 then (fX10_byKeys_p14_112 n σ y0) else (zg (zin x5 4) (if ((zA σ 9) (Int32.toNatClampNeg x5)) = 0 then (fX10_byKeys_p14_112 n σ y0) else (fX10_byKeys_p14_113 n σ 1 y0))))
def fX10_byKeys_p14_18 (n : Nat) (σ : zS) (x2 : Int32) (x3 : Int32) (y0 : Int32) : Option (Int32) :=
  (zb (zlp (fX10_byKeys_p14_L23_23 n σ x2 x3 y0) n 0) (fun b8 => Sum.elim (fun b8 => (some 0)) (fun b8 => (if 0 ≤ (lg_cmp b8.2.1 b8.2.2) then (fX10_byKeys_p14_91 n σ b8.1 0) else (fX10_byKeys_p14_91 n σ b8.1 1))) b8))
def fX10_byKeys_p14_0 (n : Nat) (σ : zS) (x2 : Int32) (x3 : Int32) : Option (Int32) :=
  (if (zI σ 7) = 0 then (fX10_byKeys_p14_18 n σ x2 x3 (zI σ 6)) else (fX10_byKeys_p14_18 n σ x2 x3 (zI σ 7)))
/-! X10_sums -/
def fX10_sums_L23_55 (n : Nat) (σ : zS) (x2 : Int32) (y0 : Int32) : Option ((Int32 × Int32) ⊕ (Int32)) :=
  (some (.inl (y0, (x2 + 1))))
def fX10_sums_L23_54 (n : Nat) (σ : zS) (x2 : Int32) : Option ((Int32 × Int32) ⊕ (Int32)) :=
  (fX10_sums_L23_55 n σ x2 0)
def fX10_sums_L23_23 (n : Nat) (σ : zS) (a : Int32 × Int32) : Option ((Int32 × Int32) ⊕ (Int32)) :=
  (if (zI σ 7) ≤ a.2 then (some (.inr a.1)) else (if a.1 = 0 then (fX10_sums_L23_54 n σ a.2) else (zg (zin a.2 4) (if ((zA σ 8) (Int32.toNatClampNeg a.2)) = ((zI σ 6) - 1) then (fX10_sums_L23_54 n σ a.2) else (fX10_sums_L23_55 n σ a.2 1)))))
def fX10_sums_20 (n : Nat) (σ : zS) (y0 : Int32) : Option (Int32) :=
  (zb (zlp (fX10_sums_L23_23 n σ) n (y0, 0)) (fun b7 => (zg (zbo b7) (some b7))))
def fX10_sums_19 (n : Nat) (σ : zS) : Option (Int32) :=
  (fX10_sums_20 n σ 0)
def fX10_sums_0 (n : Nat) (σ : zS) : Option (Int32) :=
  (if (zI σ 8) = 2 then (if (zI σ 7) ≤ 0 then (fX10_sums_19 n σ) else (fX10_sums_20 n σ 1)) else (fX10_sums_19 n σ))
/-! X10_toPage_p1 -/
def fX10_toPage_p1_L2_2 (n : Nat) (k2 : Int32) (a : Int32 × zS) : Option ((Int32 × zS) ⊕ (zS)) :=
  (if (zI a.2 6) < a.1 then (some (.inr a.2)) else (zg (zin (k2 + a.1) 12800) (zg (zin (((zI a.2 19) * ((zI a.2 6) + 1)) + a.1) 64) (some (.inl ((a.1 + 1), (sL a.2 2 (vp_updL (zL a.2 2) (Int32.toNatClampNeg (((zI a.2 19) * ((zI a.2 6) + 1)) + a.1)) ((zL a.2 0) (Int32.toNatClampNeg (k2 + a.1)))))))))))
def fX10_toPage_p1_0 (n : Nat) (σ : zS) (x2 : Int32) : Option (zS) :=
  (zb (zlp (fX10_toPage_p1_L2_2 n x2) n (0, σ)) (fun b4 => (zb (fX10_per_0 n (sI b4 19 ((zI b4 19) + 1))) (fun q6 => (if ((zI b4 19) + 1) = q6 then (zb (fX10_writePage_0 n (sI b4 19 ((zI b4 19) + 1))) (fun q9 => (some q9))) else (some (sI b4 19 ((zI b4 19) + 1))))))))
/-! X10_out -/
def fX10_out_L90_90 (n : Nat) (k1 : Int32) (a : Int32 × zS) : Option ((Int32 × zS) ⊕ (zS)) :=
  (if (zI a.2 6) < a.1 then (some (.inr a.2)) else (zg (zin (k1 + a.1) 12800) (zg (zin a.1 5) (some (.inl ((a.1 + 1), (sL a.2 3 (vp_updL (zL a.2 3) (Int32.toNatClampNeg a.1) ((zL a.2 0) (Int32.toNatClampNeg (k1 + a.1)))))))))))
def fX10_out_88 (n : Nat) (σ : zS) (x1 : Int32) : Option (zS) :=
  (zb (zlp (fX10_out_L90_90 n x1) n (0, σ)) (fun b20 => (some (sI b20 20 1))))
def fX10_out_72 (n : Nat) (σ : zS) (x1 : Int32) : Option (zS) :=
  (if (zI σ 20) = 0 then (fX10_out_88 n σ x1) else (zb (fX10_toPage_p14_0 n σ 0) (fun q15 => (fX10_out_88 n q15 x1))))
def fX10_out_0 (n : Nat) (σ : zS) (x1 : Int32) : Option (zS) :=
  (if (zI σ 8) = 0 then (zb (fX10_toPage_p1_0 n σ x1) (fun q12 => (some q12))) else (if (zI σ 20) = 0 then (fX10_out_72 n σ x1) else (zb (fX10_byKeys_p14_0 n σ 0 x1) (fun q3 => (if q3 = 0 then (zb (fX10_sums_0 n σ) (fun q6 => (if q6 = 0 then (some σ) else (zg (zin ((zI σ 6) - 1) 5) (zg (zin ((x1 + (zI σ 6)) - 1) 12800) (zg (zin ((zI σ 6) - 1) 5) (some (sL σ 3 (vp_updL (zL σ 3) (Int32.toNatClampNeg ((zI σ 6) - 1)) (((zL σ 3) (Int32.toNatClampNeg ((zI σ 6) - 1))) + ((zL σ 0) (Int32.toNatClampNeg ((x1 + (zI σ 6)) - 1))))))))))))) else (fX10_out_72 n σ x1))))))
/-! X10_asTheyAre -/
def fX10_asTheyAre_L7_72 (n : Nat) (σ : zS) (x2 : Int32) : Option ((Int32 × Int32 × zS) ⊕ (Int32 × zS)) :=
  (zb (fX10_nextRecord_0 n σ) (fun q19 => (some (.inl (x2, q19.1, q19.2)))))
def fX10_asTheyAre_L7_60 (n : Nat) (σ : zS) (x2 : Int32) : Option ((Int32 × Int32 × zS) ⊕ (Int32 × zS)) :=
  (if (zI σ 17) = 0 then (zb (fX10_out_0 n σ x2) (fun q17 => (fX10_asTheyAre_L7_72 n q17 x2))) else (fX10_asTheyAre_L7_72 n σ x2))
def fX10_asTheyAre_L7_45 (n : Nat) (σ : zS) (x2 : Int32) (x3 : Int32) : Option ((Int32 × Int32 × zS) ⊕ (Int32 × zS)) :=
  (if x3 = 0 then (fX10_asTheyAre_L7_60 n σ x2) else (if (zI σ 17) = 0 then (zb (fX10_nextRun_0 n σ) (fun q14 => (fX10_asTheyAre_L7_60 n q14 x2))) else (fX10_asTheyAre_L7_60 n σ x2)))
def fX10_asTheyAre_L7_31 (n : Nat) (σ : zS) (x1 : Int32) (x2 : Int32) (y0 : Int32) : Option ((Int32 × Int32 × zS) ⊕ (Int32 × zS)) :=
  (if y0 = 0 then (fX10_asTheyAre_L7_45 n σ x2 y0) else (if x1 = (-1) then (fX10_asTheyAre_L7_45 n σ x2 y0) else (zb (fX10_endRun_0 n σ) (fun q10 => (fX10_asTheyAre_L7_45 n q10 x2 y0)))))
def fX10_asTheyAre_L7_26 (n : Nat) (σ : zS) (x1 : Int32) (x2 : Int32) : Option ((Int32 × Int32 × zS) ⊕ (Int32 × zS)) :=
  (fX10_asTheyAre_L7_31 n σ x1 x2 1)
def fX10_asTheyAre_L7_7 (n : Nat) (a : Int32 × Int32 × zS) : Option ((Int32 × Int32 × zS) ⊕ (Int32 × zS)) :=
  (if a.2.1 = (-1) then (some (.inr (a.1, a.2.2))) else (if a.1 = (-1) then (fX10_asTheyAre_L7_26 n a.2.2 a.1 a.2.1) else (zb (fX10_before_0 n a.2.2 a.2.1 a.1) (fun q5 => (if q5 = 0 then (fX10_asTheyAre_L7_31 n a.2.2 a.1 a.2.1 0) else (fX10_asTheyAre_L7_26 n a.2.2 a.1 a.2.1))))))
def fX10_asTheyAre_0 (n : Nat) (σ : zS) : Option (zS) :=
  (zb (fX10_nextRecord_0 n σ) (fun q1 => (zb (zlp (fX10_asTheyAre_L7_7 n) n ((-1), q1.1, q1.2)) (fun b21 => (if b21.1 = (-1) then (some b21.2) else (if (zI b21.2 17) = 0 then (zb (fX10_endRun_0 n b21.2) (fun q25 => (some q25))) else (some b21.2)))))))
/-! X10_fill -/
def fX10_fill_L5_5 (n : Nat) (a : zS) : Option ((zS) ⊕ (zS)) :=
  (if (zI a 3) ≤ (zI a 24) then (some (.inr a)) else (if (zI a 23) ≤ 0 then (some (.inr a)) else (zb (fX10_nextRecord_0 n a) (fun q3 => (zg (zin (zI a 24) 64) (zg (zin (zI q3.2 24) 64) (some (.inl (sI (sA (sA q3.2 10 (upd (zA q3.2 10) (Int32.toNatClampNeg (zI a 24)) q3.1)) 11 (upd (zA q3.2 11) (Int32.toNatClampNeg (zI q3.2 24)) (vp_nar .boolean 0))) 24 ((zI q3.2 24) + 1))))))))))
def fX10_fill_0 (n : Nat) (σ : zS) : Option (zS) :=
  (zb (zlp (fX10_fill_L5_5 n) n (sI σ 24 0)) (fun b7 => (some b7)))
/-! X10_firstHeld -/
def fX10_firstHeld_L4_53 (n : Nat) (σ : zS) (x1 : Int32) (x2 : Int32) : Option ((Int32 × Int32) ⊕ (Int32)) :=
  (some (.inl (x1, (x2 + 1))))
def fX10_firstHeld_L4_51 (n : Nat) (σ : zS) (x2 : Int32) : Option ((Int32 × Int32) ⊕ (Int32)) :=
  (fX10_firstHeld_L4_53 n σ x2 x2)
def fX10_firstHeld_L4_4 (n : Nat) (σ : zS) (a : Int32 × Int32) : Option ((Int32 × Int32) ⊕ (Int32)) :=
  (if (zI σ 24) ≤ a.2 then (some (.inr a.1)) else (if (zI σ 17) = 0 then (zg (zin a.2 64) (if ((zA σ 11) (Int32.toNatClampNeg a.2)) = 0 then (if a.1 < 0 then (fX10_firstHeld_L4_51 n σ a.2) else (zg (zin a.2 64) (zg (zin a.1 64) (zb (fX10_before_0 n σ ((zA σ 10) (Int32.toNatClampNeg a.2)) ((zA σ 10) (Int32.toNatClampNeg a.1))) (fun q8 => (if q8 = 0 then (fX10_firstHeld_L4_53 n σ a.1 a.2) else (fX10_firstHeld_L4_51 n σ a.2))))))) else (fX10_firstHeld_L4_53 n σ a.1 a.2))) else (some (.inr a.1))))
def fX10_firstHeld_0 (n : Nat) (σ : zS) : Option (Int32) :=
  (zb (zlp (fX10_firstHeld_L4_4 n σ) n ((-1), 0)) (fun b11 => (some b11)))
/-! X10_choosing -/
def fX10_choosing_L27_115 (n : Nat) (σ : zS) : Option ((Int32 × zS) ⊕ (zS)) :=
  (zb (fX10_firstHeld_0 n σ) (fun q24 => (some (.inl (q24, σ)))))
def fX10_choosing_L27_27 (n : Nat) (a : Int32 × zS) : Option ((Int32 × zS) ⊕ (zS)) :=
  (if a.1 < 0 then (some (.inr a.2)) else (zg (zin a.1 64) (zb (fX10_out_0 n a.2 ((zA a.2 10) (Int32.toNatClampNeg a.1))) (fun q11 => (zb (fX10_nextRecord_0 n q11) (fun q13 => (if q13.1 = (-1) then (zg (zin ((zI q13.2 24) - 1) 64) (zg (zin a.1 64) (zg (zin ((zI q13.2 24) - 1) 64) (zg (zin a.1 64) (fX10_choosing_L27_115 n (sA (sA (sI q13.2 24 ((zI q13.2 24) - 1)) 10 (upd (zA q13.2 10) (Int32.toNatClampNeg a.1) ((zA q13.2 10) (Int32.toNatClampNeg ((zI q13.2 24) - 1))))) 11 (upd (zA q13.2 11) (Int32.toNatClampNeg a.1) (vp_nar .boolean ((zA q13.2 11) (Int32.toNatClampNeg ((zI q13.2 24) - 1))))))))))) else (zg (zin a.1 64) (zb (fX10_before_0 n (sA q13.2 10 (upd (zA q13.2 10) (Int32.toNatClampNeg a.1) q13.1)) q13.1 ((zA a.2 10) (Int32.toNatClampNeg a.1))) (fun q17 => (zg (zin a.1 64) (fX10_choosing_L27_115 n (sA (sA q13.2 10 (upd (zA q13.2 10) (Int32.toNatClampNeg a.1) q13.1)) 11 (upd (zA q13.2 11) (Int32.toNatClampNeg a.1) (vp_nar .boolean q17)))))))))))))))
def fX10_choosing_L129_129 (n : Nat) (a : Int32 × zS) : Option ((Int32 × zS) ⊕ (zS)) :=
  (if (zI a.2 24) ≤ a.1 then (some (.inr a.2)) else (zg (zin a.1 64) (some (.inl ((a.1 + 1), (sA a.2 11 (upd (zA a.2 11) (Int32.toNatClampNeg a.1) (vp_nar .boolean 0))))))))
def fX10_choosing_L4_4 (n : Nat) (a : zS) : Option ((zS) ⊕ (zS)) :=
  (if (zI a 24) ≤ 0 then (some (.inr a)) else (if (zI a 17) = 0 then (zb (fX10_nextRun_0 n a) (fun q5 => (zb (fX10_firstHeld_0 n q5) (fun q7 => (zb (zlp (fX10_choosing_L27_27 n) n (q7, q5)) (fun b26 => (zb (fX10_endRun_0 n b26) (fun q28 => (zb (zlp (fX10_choosing_L129_129 n) n (0, q28)) (fun b32 => (some (.inl b32)))))))))))) else (some (.inr a))))
def fX10_choosing_0 (n : Nat) (σ : zS) : Option (zS) :=
  (zb (fX10_fill_0 n σ) (fun q1 => (zb (zlp (fX10_choosing_L4_4 n) n q1) (fun b34 => (some b34)))))
/-! X10_loading -/
def fX10_loading_L27_27 (n : Nat) (a : Int32 × zS) : Option ((Int32 × zS) ⊕ (zS)) :=
  (if a.1 < 0 then (some (.inr a.2)) else (zg (zin a.1 64) (zb (fX10_out_0 n a.2 ((zA a.2 10) (Int32.toNatClampNeg a.1))) (fun q11 => (zg (zin a.1 64) (zb (fX10_firstHeld_0 n (sA q11 11 (upd (zA q11 11) (Int32.toNatClampNeg a.1) (vp_nar .boolean 1)))) (fun q14 => (some (.inl (q14, (sA q11 11 (upd (zA q11 11) (Int32.toNatClampNeg a.1) (vp_nar .boolean 1)))))))))))))
def fX10_loading_L0_0 (n : Nat) (a : zS) : Option ((zS) ⊕ (zS)) :=
  (if (zI a 23) ≤ 0 then (some (.inr a)) else (if (zI a 17) = 0 then (zb (fX10_fill_0 n a) (fun q3 => (zb (fX10_nextRun_0 n q3) (fun q5 => (zb (fX10_firstHeld_0 n q5) (fun q7 => (zb (zlp (fX10_loading_L27_27 n) n (q7, q5)) (fun b16 => (zb (fX10_endRun_0 n b16) (fun q18 => (some (.inl q18)))))))))))) else (some (.inr a))))
def fX10_loading_0 (n : Nat) (σ : zS) : Option (zS) :=
  (zb (zlp (fX10_loading_L0_0 n) n σ) (fun b20 => (some b20)))
/-! X10_free -/
def fX10_free_L7_7 (n : Nat) (k1 : Int32) (a : Int32 × zS) : Option ((Int32 × zS) ⊕ (zS)) :=
  (if a.1 = (-1) then (some (.inr a.2)) else (zg (zin a.1 200) (zg (zin a.1 200) (some (.inl (((zA a.2 2) (Int32.toNatClampNeg a.1)), (sA a.2 0 (upd (zA a.2 0) (Int32.toNatClampNeg a.1) (vp_nar .boolean 0)))))))))
def fX10_free_64 (n : Nat) (σ : zS) (y0 : Int32) (y1 : Int32) : Option (zS) :=
  (zg (zin y1 208) (some (sA σ 6 (upd (zA σ 6) (Int32.toNatClampNeg y1) (vp_nar .boolean y0)))))
def fX10_free_0 (n : Nat) (σ : zS) (x1 : Int32) : Option (zS) :=
  (zg (zin x1 208) (zb (zlp (fX10_free_L7_7 n x1) n (((zA σ 3) (Int32.toNatClampNeg x1)), σ)) (fun b5 => (zg (zin x1 208) (zg (zin x1 208) (zg (zin x1 208) (if x1 = 0 then (fX10_free_64 n (sA (sA (sA b5 3 (upd (zA b5 3) (Int32.toNatClampNeg x1) (-1))) 4 (upd (zA b5 4) (Int32.toNatClampNeg x1) (-1))) 5 (upd (zA b5 5) (Int32.toNatClampNeg x1) 0)) 1 x1) else (fX10_free_64 n (sA (sA (sA b5 3 (upd (zA b5 3) (Int32.toNatClampNeg x1) (-1))) 4 (upd (zA b5 4) (Int32.toNatClampNeg x1) (-1))) 5 (upd (zA b5 5) (Int32.toNatClampNeg x1) 0)) 0 x1))))))))
/-! X10_ended -/
def fX10_ended_31 (n : Nat) (σ : zS) (y0 : Int32) : Option (Int32 × zS) :=
  (if (zI σ 16) = 0 then (some ((zI σ 4), (sI σ 0 y0))) else (some ((-2), (sI σ 0 y0))))
def fX10_ended_14 (n : Nat) (σ : zS) (x1 : Int32) (y0 : Int32) : Option (Int32 × zS) :=
  (zg (zbo y0) (if (zI σ 17) = 2 then (fX10_ended_31 n (sI σ 16 y0) x1) else (fX10_ended_31 n (sI σ 16 y0) 0)))
def fX10_ended_0 (n : Nat) (σ : zS) (x1 : Int32) : Option (Int32 × zS) :=
  (if (zI σ 17) = 1 then (fX10_ended_14 n σ x1 1) else (fX10_ended_14 n σ x1 0))
/-! X10_giveBack -/
def fX10_giveBack_L2_38 (n : Nat) (σ : zS) (x1 : Int32) (y0 : Int32) (y1 : Int32) : Option ((Int32 × zS) ⊕ (zS)) :=
  (zg (zin y1 200) (some (.inl ((x1 + 1), (sA σ 0 (upd (zA σ 0) (Int32.toNatClampNeg y1) (vp_nar .boolean y0)))))))
def fX10_giveBack_L2_37 (n : Nat) (σ : zS) (x1 : Int32) (y0 : Int32) : Option ((Int32 × zS) ⊕ (zS)) :=
  (fX10_giveBack_L2_38 n σ x1 0 y0)
def fX10_giveBack_L2_2 (n : Nat) (a : Int32 × zS) : Option ((Int32 × zS) ⊕ (zS)) :=
  (if (zI a.2 1) ≤ a.1 then (some (.inr a.2)) else (zg (zin a.1 200) (if ((zA a.2 0) (Int32.toNatClampNeg a.1)) = 0 then (fX10_giveBack_L2_37 n a.2 a.1 a.1) else (zg (zin a.1 200) (if ((zA a.2 1) (Int32.toNatClampNeg a.1)) = 0 then (fX10_giveBack_L2_38 n a.2 a.1 1 a.1) else (fX10_giveBack_L2_37 n a.2 a.1 a.1))))))
def fX10_giveBack_0 (n : Nat) (σ : zS) : Option (zS) :=
  (zb (zlp (fX10_giveBack_L2_2 n) n (0, σ)) (fun b7 => (some b7)))
/-! X10_form -/
def fX10_form_L264_264 (n : Nat) (a : Int32 × zS) : Option ((Int32 × zS) ⊕ (zS)) :=
  (if (zI a.2 25) ≤ a.1 then (some (.inr a.2)) else (zg (zin a.1 208) (zg (zin (zI a.2 4) 208) (some (.inl ((a.1 + 1), (sI (sA a.2 7 (upd (zA a.2 7) (Int32.toNatClampNeg (zI a.2 4)) ((zA a.2 12) (Int32.toNatClampNeg a.1)))) 4 ((zI a.2 4) + 1))))))))
def fX10_form_L217_217 (n : Nat) (a : Int32 × zS) : Option ((Int32 × zS) ⊕ (zS)) :=
  (if (zI a.2 25) ≤ a.1 then (some (.inr a.2)) else (zg (zin a.1 208) (zg (zin ((zA a.2 12) (Int32.toNatClampNeg a.1)) 208) (some (.inl ((a.1 + 1), (sA a.2 6 (upd (zA a.2 6) (Int32.toNatClampNeg ((zA a.2 12) (Int32.toNatClampNeg a.1))) (vp_nar .boolean 0)))))))))
def fX10_form_214 (n : Nat) (σ : zS) : Option (Int32 × zS) :=
  (zb (zlp (fX10_form_L217_217 n) n (0, σ)) (fun b47 => (zb (fX10_ended_0 n b47 3) (fun q49 => (some (q49.1, q49.2))))))
def fX10_form_169 (n : Nat) (σ : zS) (x2 : Int32) (x3 : Int32) (x4 : Int32) : Option (Int32 × zS) :=
  (if (zI σ 17) ≤ 0 then (zb (fX10_free_0 n σ 0) (fun q28 => (zb (zlp (fX10_form_L264_264 n) n (0, (sI q28 5 0))) (fun b33 => (zb (fX10_ended_0 n b33 3) (fun q35 => (some (q35.1, q35.2)))))))) else (zb (fX10_giveBack_0 n σ) (fun q37 => (zg (zin 0 208) (zg (zin 0 208) (zg (zin 0 208) (if x3 = (-1) then (fX10_form_214 n (sA (sA (sA q37 3 (upd (zA q37 3) (Int32.toNatClampNeg 0) x2)) 4 (upd (zA q37 4) (Int32.toNatClampNeg 0) x3)) 5 (upd (zA q37 5) (Int32.toNatClampNeg 0) x4))) else (zg (zin x3 200) (fX10_form_214 n (sA (sA (sA (sA q37 3 (upd (zA q37 3) (Int32.toNatClampNeg 0) x2)) 4 (upd (zA q37 4) (Int32.toNatClampNeg 0) x3)) 5 (upd (zA q37 5) (Int32.toNatClampNeg 0) x4)) 2 (upd (zA q37 2) (Int32.toNatClampNeg x3) (-1))))))))))))
def fX10_form_134 (n : Nat) (σ : zS) (x1 : Int32) (x2 : Int32) (x3 : Int32) (x4 : Int32) (y0 : Int32) : Option (Int32 × zS) :=
  (if x1 = 0 then (zb (fX10_loading_0 n (sI (sI σ 23 y0) 24 0)) (fun q25 => (fX10_form_169 n q25 x2 x3 x4))) else (if x1 = 1 then (zb (fX10_choosing_0 n (sI (sI σ 23 y0) 24 0)) (fun q23 => (fX10_form_169 n q23 x2 x3 x4))) else (zb (fX10_asTheyAre_0 n (sI (sI σ 23 y0) 24 0)) (fun q21 => (fX10_form_169 n q21 x2 x3 x4)))))
def fX10_form_101 (n : Nat) (σ : zS) (x1 : Int32) (x2 : Int32) (x3 : Int32) (x4 : Int32) : Option (Int32 × zS) :=
  (zg (zin 0 208) (if (zI σ 17) ≤ 0 then (zg (zin 0 208) (fX10_form_134 n (sI (sI σ 21 ((zA σ 3) (Int32.toNatClampNeg 0))) 22 0) x1 x2 x3 x4 ((zA σ 5) (Int32.toNatClampNeg 0)))) else (fX10_form_134 n (sI (sI σ 21 ((zA σ 3) (Int32.toNatClampNeg 0))) 22 0) x1 x2 x3 x4 0)))
def fX10_form_26 (n : Nat) (σ : zS) (x1 : Int32) (y0 : Int32) : Option (Int32 × zS) :=
  (if y0 ≤ 0 then (zg (zin 0 208) (zg (zin 0 208) (zg (zin 0 208) (zb (fX10_begin_0 n (sI (sI σ 0 y0) 25 0)) (fun q9 => (if (zI q9 5) ≤ 0 then (fX10_form_101 n q9 x1 ((zA σ 3) (Int32.toNatClampNeg 0)) ((zA σ 4) (Int32.toNatClampNeg 0)) ((zA σ 5) (Int32.toNatClampNeg 0))) else (zb (fX10_write_p10_0 n q9 (zI q9 5)) (fun q12 => (zb (fX10_hang_0 n q12.2 0 q12.1 (zI q12.2 5)) (fun q14 => (fX10_form_101 n q14 x1 ((zA σ 3) (Int32.toNatClampNeg 0)) ((zA σ 4) (Int32.toNatClampNeg 0)) ((zA σ 5) (Int32.toNatClampNeg 0))))))))))))) else (some (0, (sI σ 0 y0))))
def fX10_form_0 (n : Nat) (σ : zS) (x1 : Int32) : Option (Int32 × zS) :=
  (zb (fX10_isIn_0 n zσ0 x1 0 2) (fun q1 => (if q1 = 0 then (fX10_form_26 n σ x1 1) else (if (zI σ 16) = 0 then (fX10_form_26 n σ x1 0) else (fX10_form_26 n σ x1 2)))))
/-! X10_cellOf -/
def fX10_cellOf_0 (n : Nat) (σ : zS) (x1 : Int32) : Option (Int32) :=
  (zg (zin x1 8) (zg (zin x1 8) (some ((64 * ((zA σ 14) (Int32.toNatClampNeg x1))) + (((zA σ 15) (Int32.toNatClampNeg x1)) * ((zI σ 6) + 1))))))
/-! X10_firstOf -/
def fX10_firstOf_L4_48 (n : Nat) (σ : zS) (k1 : Int32) (x2 : Int32) (x3 : Int32) : Option ((Int32 × Int32) ⊕ (Int32)) :=
  (some (.inl (x2, (x3 + 1))))
def fX10_firstOf_L4_46 (n : Nat) (σ : zS) (k1 : Int32) (x3 : Int32) : Option ((Int32 × Int32) ⊕ (Int32)) :=
  (fX10_firstOf_L4_48 n σ k1 x3 x3)
def fX10_firstOf_L4_4 (n : Nat) (σ : zS) (k1 : Int32) (a : Int32 × Int32) : Option ((Int32 × Int32) ⊕ (Int32)) :=
  (if k1 ≤ a.2 then (some (.inr a.1)) else (if (zI σ 17) = 0 then (zg (zin a.2 8) (if ((zA σ 16) (Int32.toNatClampNeg a.2)) ≤ 0 then (fX10_firstOf_L4_48 n σ k1 a.1 a.2) else (if a.1 < 0 then (fX10_firstOf_L4_46 n σ k1 a.2) else (zb (fX10_cellOf_0 n σ a.2) (fun q6 => (zb (fX10_cellOf_0 n σ a.1) (fun q8 => (zb (fX10_before_0 n σ q6 q8) (fun q10 => (if q10 = 0 then (fX10_firstOf_L4_48 n σ k1 a.1 a.2) else (fX10_firstOf_L4_46 n σ k1 a.2))))))))))) else (some (.inr a.1))))
def fX10_firstOf_0 (n : Nat) (σ : zS) (x1 : Int32) : Option (Int32) :=
  (zb (zlp (fX10_firstOf_L4_4 n σ x1) n ((-1), 0)) (fun b13 => (some b13)))
/-! X10_onward -/
def fX10_onward_0 (n : Nat) (σ : zS) (x1 : Int32) : Option (zS) :=
  (zg (zin x1 8) (zg (zin x1 8) (zg (zin x1 8) (zg (zin x1 8) (zg (zin x1 8) (zb (fX10_per_0 n (sA (sA σ 16 (upd (zA σ 16) (Int32.toNatClampNeg x1) (((zA σ 16) (Int32.toNatClampNeg x1)) - 1))) 15 (upd (zA σ 15) (Int32.toNatClampNeg x1) (((zA σ 15) (Int32.toNatClampNeg x1)) + 1)))) (fun q6 => (if ((upd (zA σ 15) (Int32.toNatClampNeg x1) (((zA σ 15) (Int32.toNatClampNeg x1)) + 1)) (Int32.toNatClampNeg x1)) = q6 then (zg (zin x1 8) (if ((upd (zA σ 16) (Int32.toNatClampNeg x1) (((zA σ 16) (Int32.toNatClampNeg x1)) - 1)) (Int32.toNatClampNeg x1)) ≤ 0 then (some (sA (sA σ 16 (upd (zA σ 16) (Int32.toNatClampNeg x1) (((zA σ 16) (Int32.toNatClampNeg x1)) - 1))) 15 (upd (zA σ 15) (Int32.toNatClampNeg x1) (((zA σ 15) (Int32.toNatClampNeg x1)) + 1)))) else (zg (zin x1 8) (zg (zin ((zA σ 14) (Int32.toNatClampNeg x1)) 200) (zg (zin x1 8) (zg (zin x1 8) (zg (zin x1 8) (zb (fX10_read_0 n (sA (sA (sA (sA σ 16 (upd (zA σ 16) (Int32.toNatClampNeg x1) (((zA σ 16) (Int32.toNatClampNeg x1)) - 1))) 15 (upd (zA σ 15) (Int32.toNatClampNeg x1) (((zA σ 15) (Int32.toNatClampNeg x1)) + 1))) 14 (upd (zA σ 14) (Int32.toNatClampNeg x1) ((zA σ 2) (Int32.toNatClampNeg ((zA σ 14) (Int32.toNatClampNeg x1)))))) 15 (upd (upd (zA σ 15) (Int32.toNatClampNeg x1) (((zA σ 15) (Int32.toNatClampNeg x1)) + 1)) (Int32.toNatClampNeg x1) 0)) ((upd (zA σ 14) (Int32.toNatClampNeg x1) ((zA σ 2) (Int32.toNatClampNeg ((zA σ 14) (Int32.toNatClampNeg x1))))) (Int32.toNatClampNeg x1))) (fun q16 => (some q16)))))))))) else (some (sA (sA σ 16 (upd (zA σ 16) (Int32.toNatClampNeg x1) (((zA σ 16) (Int32.toNatClampNeg x1)) - 1))) 15 (upd (zA σ 15) (Int32.toNatClampNeg x1) (((zA σ 15) (Int32.toNatClampNeg x1)) + 1))))))))))))
/-! X10_merge -/
def fX10_merge_L10_10 (n : Nat) (k1 : Int32) (a : Int32 × zS) : Option ((Int32 × zS) ⊕ (zS)) :=
  (if k1 ≤ a.1 then (some (.inr a.2)) else (zg (zin a.1 8) (zg (zin ((zA a.2 13) (Int32.toNatClampNeg a.1)) 208) (zg (zin a.1 8) (zg (zin a.1 8) (zg (zin a.1 8) (zg (zin ((zA a.2 13) (Int32.toNatClampNeg a.1)) 208) (zg (zin a.1 8) (zg (zin a.1 8) (zb (fX10_read_0 n (sA (sA (sA a.2 14 (upd (zA a.2 14) (Int32.toNatClampNeg a.1) ((zA a.2 3) (Int32.toNatClampNeg ((zA a.2 13) (Int32.toNatClampNeg a.1)))))) 15 (upd (zA a.2 15) (Int32.toNatClampNeg a.1) 0)) 16 (upd (zA a.2 16) (Int32.toNatClampNeg a.1) ((zA a.2 5) (Int32.toNatClampNeg ((zA a.2 13) (Int32.toNatClampNeg a.1)))))) ((upd (zA a.2 14) (Int32.toNatClampNeg a.1) ((zA a.2 3) (Int32.toNatClampNeg ((zA a.2 13) (Int32.toNatClampNeg a.1))))) (Int32.toNatClampNeg a.1))) (fun q14 => (some (.inl ((a.1 + 1), q14))))))))))))))
def fX10_merge_L78_78 (n : Nat) (k1 : Int32) (a : Int32 × zS) : Option ((Int32 × zS) ⊕ (zS)) :=
  (if a.1 < 0 then (some (.inr a.2)) else (zb (fX10_cellOf_0 n a.2 a.1) (fun q21 => (zb (fX10_out_0 n a.2 q21) (fun q23 => (zb (fX10_onward_0 n q23 a.1) (fun q25 => (zb (fX10_firstOf_0 n q25 k1) (fun q27 => (some (.inl (q27, q25))))))))))))
def fX10_merge_L141_141 (n : Nat) (k1 : Int32) (a : Int32 × zS) : Option ((Int32 × zS) ⊕ (zS)) :=
  (if k1 ≤ a.1 then (some (.inr a.2)) else (zg (zin a.1 8) (zb (fX10_free_0 n a.2 ((zA a.2 13) (Int32.toNatClampNeg a.1))) (fun q37 => (some (.inl ((a.1 + 1), q37)))))))
def fX10_merge_116 (n : Nat) (σ : zS) (x1 : Int32) : Option (Int32 × zS) :=
  (if (zI σ 17) ≤ 0 then (zb (zlp (fX10_merge_L141_141 n x1) n (0, σ)) (fun b39 => (some ((zI b39 18), b39)))) else (zb (fX10_giveBack_0 n σ) (fun q41 => (zg (zin (zI q41 18) 208) (some ((-1), (sA q41 6 (upd (zA q41 6) (Int32.toNatClampNeg (zI q41 18)) (vp_nar .boolean 0)))))))))
def fX10_merge_0 (n : Nat) (σ : zS) (x1 : Int32) : Option (Int32 × zS) :=
  (zb (fX10_begin_0 n σ) (fun q1 => (zb (fX10_beginRun_0 n q1) (fun q3 => (zb (zlp (fX10_merge_L10_10 n x1) n (0, q3)) (fun b16 => (zb (fX10_firstOf_0 n b16 x1) (fun q18 => (zb (zlp (fX10_merge_L78_78 n x1) n (q18, b16)) (fun b29 => (if (zI b29 17) = 0 then (zb (fX10_endRun_0 n b29) (fun q32 => (fX10_merge_116 n q32 x1))) else (fX10_merge_116 n b29 x1))))))))))))
/-! X10_mergeRow -/
def fX10_mergeRow_L2_2 (n : Nat) (k1 : Int32) (k2 : Int32) (a : Int32 × zS) : Option ((Int32 × zS) ⊕ (zS)) :=
  (if k2 ≤ a.1 then (some (.inr a.2)) else (zg (zin (k1 + a.1) 208) (zg (zin a.1 8) (some (.inl ((a.1 + 1), (sA a.2 13 (upd (zA a.2 13) (Int32.toNatClampNeg a.1) ((zA a.2 7) (Int32.toNatClampNeg (k1 + a.1)))))))))))
def fX10_mergeRow_L51_51 (n : Nat) (k2 : Int32) (a : Int32 × zS) : Option ((Int32 × zS) ⊕ (zS)) :=
  (if (zI a.2 4) ≤ a.1 then (some (.inr a.2)) else (zg (zin a.1 208) (zg (zin ((a.1 - k2) + 1) 208) (some (.inl ((a.1 + 1), (sA a.2 7 (upd (zA a.2 7) (Int32.toNatClampNeg ((a.1 - k2) + 1)) ((zA a.2 7) (Int32.toNatClampNeg a.1))))))))))
def fX10_mergeRow_0 (n : Nat) (σ : zS) (x1 : Int32) (x2 : Int32) : Option (zS) :=
  (zb (zlp (fX10_mergeRow_L2_2 n x1 x2) n (0, σ)) (fun b4 => (zb (fX10_merge_0 n b4 x2) (fun q6 => (if q6.1 = (-1) then (some q6.2) else (zg (zin x1 208) (zb (zlp (fX10_mergeRow_L51_51 n x2) n ((x1 + x2), (sA q6.2 7 (upd (zA q6.2 7) (Int32.toNatClampNeg x1) q6.1)))) (fun b13 => (some (sI b13 4 ((zI b13 4) - (x2 - 1))))))))))))
/-! X10_pass -/
def fX10_pass_L51_87 (n : Nat) (σ : zS) (k1 : Int32) (x2 : Int32) (x3 : Int32) (x4 : Int32) : Option ((Int32 × Int32 × zS) ⊕ (zS)) :=
  (some (.inl ((x2 - x4), (x3 + 1), σ)))
def fX10_pass_L51_72 (n : Nat) (σ : zS) (k1 : Int32) (x2 : Int32) (x3 : Int32) (y0 : Int32) : Option ((Int32 × Int32 × zS) ⊕ (zS)) :=
  (if y0 ≤ 1 then (fX10_pass_L51_87 n σ k1 x2 x3 y0) else (zb (fX10_mergeRow_0 n σ x3 y0) (fun q10 => (fX10_pass_L51_87 n q10 k1 x2 x3 y0))))
def fX10_pass_L51_51 (n : Nat) (k1 : Int32) (a : Int32 × Int32 × zS) : Option ((Int32 × Int32 × zS) ⊕ (zS)) :=
  (if a.1 ≤ 0 then (some (.inr a.2.2)) else (if (zI a.2.2 17) = 0 then (if k1 ≤ a.1 then (fX10_pass_L51_72 n a.2.2 k1 a.1 a.2.1 k1) else (fX10_pass_L51_72 n a.2.2 k1 a.1 a.2.1 a.1)) else (some (.inr a.2.2))))
def fX10_pass_27 (n : Nat) (σ : zS) (x1 : Int32) (y0 : Int32) : Option (Int32 × zS) :=
  (if y0 ≤ 0 then (zb (zlp (fX10_pass_L51_51 n x1) n ((zI σ 4), 0, (sI (sI σ 0 y0) 17 0))) (fun b12 => (zb (fX10_ended_0 n b12 3) (fun q14 => (some (q14.1, q14.2)))))) else (some (0, (sI σ 0 y0))))
def fX10_pass_0 (n : Nat) (σ : zS) (x1 : Int32) : Option (Int32 × zS) :=
  (zb (fX10_isIn_0 n zσ0 x1 2 8) (fun q1 => (if q1 = 0 then (fX10_pass_27 n σ x1 1) else (if (zI σ 16) = 0 then (fX10_pass_27 n σ x1 0) else (fX10_pass_27 n σ x1 2)))))
/-! X10_choose -/
def fX10_choose_L2_2 (n : Nat) (k1 : Int32) (a : Int32 × zS) : Option ((Int32 × zS) ⊕ (zS)) :=
  (if (zI a.2 4) ≤ a.1 then (some (.inr a.2)) else (zg (zin a.1 208) (some (.inl ((a.1 + 1), (sA a.2 17 (upd (zA a.2 17) (Int32.toNatClampNeg a.1) (vp_nar .boolean 0))))))))
def fX10_choose_L35_87 (n : Nat) (σ : zS) (k1 : Int32) (k2 : Int32) (x3 : Int32) (x4 : Int32) : Option ((Int32 × Int32) ⊕ (Int32)) :=
  (some (.inl (x3, (x4 + 1))))
def fX10_choose_L35_84 (n : Nat) (σ : zS) (k1 : Int32) (k2 : Int32) (x4 : Int32) : Option ((Int32 × Int32) ⊕ (Int32)) :=
  (fX10_choose_L35_87 n σ k1 k2 x4 x4)
def fX10_choose_L35_35 (n : Nat) (σ : zS) (k1 : Int32) (k2 : Int32) (a : Int32 × Int32) : Option ((Int32 × Int32) ⊕ (Int32)) :=
  (if (zI σ 4) ≤ a.2 then (some (.inr a.1)) else (zg (zin a.2 208) (if ((zA σ 17) (Int32.toNatClampNeg a.2)) = 0 then (if a.1 < 0 then (fX10_choose_L35_84 n σ k1 k2 a.2) else (zg (zin a.2 208) (zg (zin ((zA σ 7) (Int32.toNatClampNeg a.2)) 208) (zg (zin a.1 208) (zg (zin ((zA σ 7) (Int32.toNatClampNeg a.1)) 208) (if ((zA σ 5) (Int32.toNatClampNeg ((zA σ 7) (Int32.toNatClampNeg a.1)))) ≤ ((zA σ 5) (Int32.toNatClampNeg ((zA σ 7) (Int32.toNatClampNeg a.2)))) then (fX10_choose_L35_87 n σ k1 k2 a.1 a.2) else (fX10_choose_L35_84 n σ k1 k2 a.2))))))) else (fX10_choose_L35_87 n σ k1 k2 a.1 a.2))))
def fX10_choose_L25_25 (n : Nat) (k1 : Int32) (a : Int32 × zS) : Option ((Int32 × zS) ⊕ (zS)) :=
  (if k1 ≤ a.1 then (some (.inr a.2)) else (zb (zlp (fX10_choose_L35_35 n a.2 k1 a.1) n ((-1), 0)) (fun b15 => (zg (zin b15 208) (some (.inl ((a.1 + 1), (sA a.2 17 (upd (zA a.2 17) (Int32.toNatClampNeg b15) (vp_nar .boolean 1))))))))))
def fX10_choose_0 (n : Nat) (σ : zS) (x1 : Int32) : Option (zS) :=
  (zb (zlp (fX10_choose_L2_2 n x1) n (0, σ)) (fun b3 => (zb (zlp (fX10_choose_L25_25 n x1) n (0, b3)) (fun b18 => (some b18)))))
/-! X10_mergeChosen -/
def fX10_mergeChosen_L9_41 (n : Nat) (σ : zS) (k1 : Int32) (x2 : Int32) (x3 : Int32) : Option ((Int32 × Int32 × zS) ⊕ (zS)) :=
  (some (.inl (x2, (x3 + 1), σ)))
def fX10_mergeChosen_L9_9 (n : Nat) (k1 : Int32) (a : Int32 × Int32 × zS) : Option ((Int32 × Int32 × zS) ⊕ (zS)) :=
  (if (zI a.2.2 4) ≤ a.2.1 then (some (.inr a.2.2)) else (zg (zin a.2.1 208) (if ((zA a.2.2 17) (Int32.toNatClampNeg a.2.1)) = 0 then (fX10_mergeChosen_L9_41 n a.2.2 k1 a.1 a.2.1) else (zg (zin a.2.1 208) (zg (zin a.1 8) (fX10_mergeChosen_L9_41 n (sA a.2.2 13 (upd (zA a.2.2 13) (Int32.toNatClampNeg a.1) ((zA a.2.2 7) (Int32.toNatClampNeg a.2.1)))) k1 (a.1 + 1) a.2.1))))))
def fX10_mergeChosen_L65_101 (n : Nat) (σ : zS) (k3 : Int32) (x4 : Int32) (x5 : Int32) : Option ((Int32 × Int32 × zS) ⊕ (Int32 × zS)) :=
  (some (.inl (x4, (x5 + 1), σ)))
def fX10_mergeChosen_L65_65 (n : Nat) (k3 : Int32) (a : Int32 × Int32 × zS) : Option ((Int32 × Int32 × zS) ⊕ (Int32 × zS)) :=
  (if (zI a.2.2 4) ≤ a.2.1 then (some (.inr (a.1, a.2.2))) else (zg (zin a.2.1 208) (if ((zA a.2.2 17) (Int32.toNatClampNeg a.2.1)) = 0 then (zg (zin a.2.1 208) (zg (zin a.1 208) (fX10_mergeChosen_L65_101 n (sA a.2.2 7 (upd (zA a.2.2 7) (Int32.toNatClampNeg a.1) ((zA a.2.2 7) (Int32.toNatClampNeg a.2.1)))) k3 (a.1 + 1) a.2.1))) else (fX10_mergeChosen_L65_101 n a.2.2 k3 a.1 a.2.1))))
def fX10_mergeChosen_0 (n : Nat) (σ : zS) (x1 : Int32) : Option (zS) :=
  (zb (fX10_choose_0 n σ x1) (fun q1 => (zb (zlp (fX10_mergeChosen_L9_9 n x1) n (0, 0, q1)) (fun b8 => (zb (fX10_merge_0 n b8 x1) (fun q10 => (if q10.1 = (-1) then (some q10.2) else (zb (zlp (fX10_mergeChosen_L65_65 n q10.1) n (0, 0, q10.2)) (fun b18 => (zg (zin b18.1 208) (some (sI (sA b18.2 7 (upd (zA b18.2 7) (Int32.toNatClampNeg b18.1) q10.1)) 4 (b18.1 + 1)))))))))))))
/-! X10_best -/
def fX10_best_L69_69 (n : Nat) (k1 : Int32) (a : Int32 × zS) : Option ((Int32 × zS) ⊕ (zS)) :=
  (if (zI a.2 4) ≤ 1 then (some (.inr a.2)) else (if (zI a.2 17) = 0 then (zb (fX10_mergeChosen_0 n a.2 a.1) (fun q10 => (some (.inl (k1, q10))))) else (some (.inr a.2))))
def fX10_best_68 (n : Nat) (σ : zS) (x1 : Int32) (y0 : Int32) : Option (Int32 × zS) :=
  (zb (zlp (fX10_best_L69_69 n x1) n (y0, σ)) (fun b12 => (zb (fX10_ended_0 n b12 3) (fun q14 => (some (q14.1, q14.2))))))
def fX10_best_27 (n : Nat) (σ : zS) (x1 : Int32) (y0 : Int32) : Option (Int32 × zS) :=
  (if y0 ≤ 0 then (if 2 ≤ (zI σ 4) then (zg (znz (x1 - 1)) (fX10_best_68 n (sI (sI σ 0 y0) 17 0) x1 (2 + (((zI σ 4) - 2) - ((zI σ 4) - 2) / (x1 - 1) * (x1 - 1))))) else (fX10_best_68 n (sI (sI σ 0 y0) 17 0) x1 0)) else (some (0, (sI σ 0 y0))))
def fX10_best_0 (n : Nat) (σ : zS) (x1 : Int32) : Option (Int32 × zS) :=
  (zb (fX10_isIn_0 n zσ0 x1 2 8) (fun q1 => (if q1 = 0 then (fX10_best_27 n σ x1 1) else (if (zI σ 16) = 0 then (fX10_best_27 n σ x1 0) else (fX10_best_27 n σ x1 2)))))
/-! X10_append -/
def fX10_append_0 (n : Nat) (σ : zS) (x1 : Int32) (x2 : Int32) : Option (zS) :=
  (zg (zin x1 7) (zg (zin ((208 * x1) + ((zA σ 20) (Int32.toNatClampNeg x1))) 1456) (zg (zin x1 7) (zg (zin x1 7) (some (sA (sA σ 18 (upd (zA σ 18) (Int32.toNatClampNeg ((208 * x1) + ((zA σ 20) (Int32.toNatClampNeg x1)))) x2)) 20 (upd (zA σ 20) (Int32.toNatClampNeg x1) (((zA σ 20) (Int32.toNatClampNeg x1)) + 1))))))))
/-! X10_raise -/
def fX10_raise_L19_19 (n : Nat) (k1 : Int32) (k2 : Int32) (a : Int32 × zS) : Option ((Int32 × zS) ⊕ (zS)) :=
  (if k1 < a.1 then (some (.inr a.2)) else (zg (zin (a.1 + 1) 8) (zg (zin a.1 8) (zg (zin a.1 7) (zg (zin (a.1 + 1) 8) (zg (zin a.1 8) (some (.inl ((a.1 + 1), (sA (sA a.2 21 (upd (zA a.2 21) (Int32.toNatClampNeg a.1) ((k2 + ((zA a.2 23) (Int32.toNatClampNeg (a.1 + 1)))) - ((zA a.2 23) (Int32.toNatClampNeg a.1))))) 23 (upd (zA a.2 23) (Int32.toNatClampNeg a.1) (k2 + ((zA a.2 23) (Int32.toNatClampNeg (a.1 + 1)))))))))))))))
def fX10_raise_0 (n : Nat) (σ : zS) (x1 : Int32) : Option (zS) :=
  (zg (zin 1 8) (zb (zlp (fX10_raise_L19_19 n x1 ((zA σ 23) (Int32.toNatClampNeg 1))) n (1, (sI σ 26 ((zI σ 26) + 1)))) (fun b8 => (some b8))))
/-! X10_lay -/
def fX10_lay_L2_43 (n : Nat) (σ : zS) (k1 : Int32) (x2 : Int32) (y0 : Int32) (y1 : Int32) : Option ((Int32 × zS) ⊕ (zS)) :=
  (zg (zin y1 7) (zg (zin x2 7) (zg (zin x2 8) (some (.inl ((x2 + 1), (sA (sA σ 21 (upd (zA σ 21) (Int32.toNatClampNeg y1) y0)) 23 (upd (zA σ 23) (Int32.toNatClampNeg x2) ((upd (zA σ 21) (Int32.toNatClampNeg y1) y0) (Int32.toNatClampNeg x2))))))))))
def fX10_lay_L2_2 (n : Nat) (k1 : Int32) (a : Int32 × zS) : Option ((Int32 × zS) ⊕ (zS)) :=
  (if k1 < a.1 then (some (.inr a.2)) else (zg (zin a.1 7) (zg (zin a.1 7) (zg (zin a.1 7) (if k1 ≤ a.1 then (fX10_lay_L2_43 n (sA (sA (sA a.2 22 (upd (zA a.2 22) (Int32.toNatClampNeg a.1) a.1)) 19 (upd (zA a.2 19) (Int32.toNatClampNeg a.1) 0)) 20 (upd (zA a.2 20) (Int32.toNatClampNeg a.1) 0)) k1 a.1 0 a.1) else (fX10_lay_L2_43 n (sA (sA (sA a.2 22 (upd (zA a.2 22) (Int32.toNatClampNeg a.1) a.1)) 19 (upd (zA a.2 19) (Int32.toNatClampNeg a.1) 0)) 20 (upd (zA a.2 20) (Int32.toNatClampNeg a.1) 0)) k1 a.1 1 a.1))))))
def fX10_lay_L80_176 (n : Nat) (σ : zS) (k1 : Int32) (x3 : Int32) (y0 : Int32) : Option ((Int32 × Int32 × zS) ⊕ (zS)) :=
  (some (.inl (y0, (x3 + 1), σ)))
def fX10_lay_L80_164 (n : Nat) (σ : zS) (k1 : Int32) (x2 : Int32) (x3 : Int32) (x4 : Int32) : Option ((Int32 × Int32 × zS) ⊕ (zS)) :=
  (if x4 = 0 then (fX10_lay_L80_176 n σ k1 x3 1) else (fX10_lay_L80_176 n σ k1 x3 (x2 + 1)))
def fX10_lay_L80_131 (n : Nat) (σ : zS) (k1 : Int32) (x2 : Int32) (x3 : Int32) (y0 : Int32) : Option ((Int32 × Int32 × zS) ⊕ (zS)) :=
  (if y0 = 0 then (zg (zin x2 7) (if ((zA σ 21) (Int32.toNatClampNeg x2)) = 0 then (if ((zI σ 4) - 1) ≤ x3 then (fX10_lay_L80_164 n σ k1 x2 x3 y0) else (zb (fX10_raise_0 n σ (k1 - 1)) (fun q25 => (fX10_lay_L80_164 n q25 k1 x2 x3 y0)))) else (fX10_lay_L80_164 n σ k1 x2 x3 y0))) else (fX10_lay_L80_164 n σ k1 x2 x3 y0))
def fX10_lay_L80_80 (n : Nat) (k1 : Int32) (a : Int32 × Int32 × zS) : Option ((Int32 × Int32 × zS) ⊕ (zS)) :=
  (if (zI a.2.2 4) ≤ a.2.1 then (some (.inr a.2.2)) else (zg (zin a.2.1 208) (zb (fX10_append_0 n a.2.2 a.1 ((zA a.2.2 7) (Int32.toNatClampNeg a.2.1))) (fun q14 => (zg (zin a.1 7) (zg (zin a.1 7) (zg (zin a.1 7) (zg (zin (a.1 + 1) 7) (if ((upd (zA q14 21) (Int32.toNatClampNeg a.1) (((zA q14 21) (Int32.toNatClampNeg a.1)) - 1)) (Int32.toNatClampNeg (a.1 + 1))) ≤ ((upd (zA q14 21) (Int32.toNatClampNeg a.1) (((zA q14 21) (Int32.toNatClampNeg a.1)) - 1)) (Int32.toNatClampNeg a.1)) then (fX10_lay_L80_131 n (sA q14 21 (upd (zA q14 21) (Int32.toNatClampNeg a.1) (((zA q14 21) (Int32.toNatClampNeg a.1)) - 1))) k1 a.1 a.2.1 0) else (fX10_lay_L80_131 n (sA q14 21 (upd (zA q14 21) (Int32.toNatClampNeg a.1) (((zA q14 21) (Int32.toNatClampNeg a.1)) - 1))) k1 a.1 a.2.1 1))))))))))
def fX10_lay_0 (n : Nat) (σ : zS) (x1 : Int32) : Option (zS) :=
  (zb (zlp (fX10_lay_L2_2 n x1) n (1, σ)) (fun b9 => (zg (zin (x1 + 1) 8) (zb (zlp (fX10_lay_L80_80 n x1) n (1, 0, (sI (sA b9 23 (upd (zA b9 23) (Int32.toNatClampNeg (x1 + 1)) 0)) 26 1))) (fun b28 => (some b28))))))
/-! X10_allThought -/
def fX10_allThought_L4_32 (n : Nat) (σ : zS) (k1 : Int32) (x3 : Int32) (y0 : Int32) : Option ((Int32 × Int32) ⊕ (Int32)) :=
  (some (.inl (y0, (x3 + 1))))
def fX10_allThought_L4_31 (n : Nat) (σ : zS) (k1 : Int32) (x3 : Int32) : Option ((Int32 × Int32) ⊕ (Int32)) :=
  (fX10_allThought_L4_32 n σ k1 x3 0)
def fX10_allThought_L4_4 (n : Nat) (σ : zS) (k1 : Int32) (a : Int32 × Int32) : Option ((Int32 × Int32) ⊕ (Int32)) :=
  (if k1 < a.2 then (some (.inr a.1)) else (if a.1 = 0 then (fX10_allThought_L4_31 n σ k1 a.2) else (zg (zin a.2 7) (zg (zin ((zA σ 22) (Int32.toNatClampNeg a.2)) 7) (if ((zA σ 21) (Int32.toNatClampNeg ((zA σ 22) (Int32.toNatClampNeg a.2)))) ≤ 0 then (fX10_allThought_L4_31 n σ k1 a.2) else (fX10_allThought_L4_32 n σ k1 a.2 1))))))
def fX10_allThought_0 (n : Nat) (σ : zS) (x1 : Int32) : Option (Int32) :=
  (zb (zlp (fX10_allThought_L4_4 n σ x1) n (1, 1)) (fun b6 => (zg (zbo b6) (some b6))))
/-! X10_together -/
def fX10_together_L21_92 (n : Nat) (σ : zS) (k1 : Int32) (k2 : Int32) (k3 : Int32) (x4 : Int32) (x5 : Int32) : Option ((Int32 × Int32 × zS) ⊕ (Int32 × zS)) :=
  (some (.inl (x4, (x5 + 1), σ)))
def fX10_together_L21_21 (n : Nat) (k1 : Int32) (k2 : Int32) (k3 : Int32) (a : Int32 × Int32 × zS) : Option ((Int32 × Int32 × zS) ⊕ (Int32 × zS)) :=
  (if k1 < a.2.1 then (some (.inr (a.1, a.2.2))) else (zg (zin a.2.1 7) (zg (zin ((zA a.2.2 22) (Int32.toNatClampNeg a.2.1)) 7) (if ((zA a.2.2 21) (Int32.toNatClampNeg ((zA a.2.2 22) (Int32.toNatClampNeg a.2.1)))) = 0 then (zg (zin ((zA a.2.2 22) (Int32.toNatClampNeg a.2.1)) 7) (zg (zin ((zA a.2.2 22) (Int32.toNatClampNeg a.2.1)) 7) (if ((zA a.2.2 20) (Int32.toNatClampNeg ((zA a.2.2 22) (Int32.toNatClampNeg a.2.1)))) ≤ ((zA a.2.2 19) (Int32.toNatClampNeg ((zA a.2.2 22) (Int32.toNatClampNeg a.2.1)))) then (fX10_together_L21_92 n a.2.2 k1 k2 k3 a.1 a.2.1) else (zg (zin ((zA a.2.2 22) (Int32.toNatClampNeg a.2.1)) 7) (zg (zin ((208 * ((zA a.2.2 22) (Int32.toNatClampNeg a.2.1))) + ((zA a.2.2 19) (Int32.toNatClampNeg ((zA a.2.2 22) (Int32.toNatClampNeg a.2.1))))) 1456) (zg (zin a.1 8) (fX10_together_L21_92 n (sA a.2.2 13 (upd (zA a.2.2 13) (Int32.toNatClampNeg a.1) ((zA a.2.2 18) (Int32.toNatClampNeg ((208 * ((zA a.2.2 22) (Int32.toNatClampNeg a.2.1))) + ((zA a.2.2 19) (Int32.toNatClampNeg ((zA a.2.2 22) (Int32.toNatClampNeg a.2.1))))))))) k1 k2 k3 (a.1 + 1) a.2.1))))))) else (fX10_together_L21_92 n a.2.2 k1 k2 k3 a.1 a.2.1)))))
def fX10_together_L141_191 (n : Nat) (σ : zS) (k1 : Int32) (k2 : Int32) (k3 : Int32) (k5 : Int32) (x6 : Int32) : Option ((Int32 × zS) ⊕ (zS)) :=
  (some (.inl ((x6 + 1), σ)))
def fX10_together_L141_141 (n : Nat) (k1 : Int32) (k2 : Int32) (k3 : Int32) (k5 : Int32) (a : Int32 × zS) : Option ((Int32 × zS) ⊕ (zS)) :=
  (if k1 < a.1 then (some (.inr a.2)) else (zg (zin a.1 7) (zg (zin ((zA a.2 22) (Int32.toNatClampNeg a.1)) 7) (if ((zA a.2 21) (Int32.toNatClampNeg ((zA a.2 22) (Int32.toNatClampNeg a.1)))) ≤ 0 then (zg (zin ((zA a.2 22) (Int32.toNatClampNeg a.1)) 7) (zg (zin ((zA a.2 22) (Int32.toNatClampNeg a.1)) 7) (fX10_together_L141_191 n (sA a.2 19 (upd (zA a.2 19) (Int32.toNatClampNeg ((zA a.2 22) (Int32.toNatClampNeg a.1))) (((zA a.2 19) (Int32.toNatClampNeg ((zA a.2 22) (Int32.toNatClampNeg a.1)))) + 1))) k1 k2 k3 k5 a.1))) else (zg (zin ((zA a.2 22) (Int32.toNatClampNeg a.1)) 7) (zg (zin ((zA a.2 22) (Int32.toNatClampNeg a.1)) 7) (fX10_together_L141_191 n (sA a.2 21 (upd (zA a.2 21) (Int32.toNatClampNeg ((zA a.2 22) (Int32.toNatClampNeg a.1))) (((zA a.2 21) (Int32.toNatClampNeg ((zA a.2 22) (Int32.toNatClampNeg a.1)))) - 1))) k1 k2 k3 k5 a.1)))))))
def fX10_together_128 (n : Nat) (σ : zS) (x1 : Int32) (x2 : Int32) (x3 : Int32) (y0 : Int32) : Option (zS) :=
  (if (zI σ 17) ≤ 0 then (zb (zlp (fX10_together_L141_141 n x1 x2 x3 y0) n (1, σ)) (fun b30 => (if x3 = 0 then (zb (fX10_append_0 n b30 x2 y0) (fun q33 => (some q33))) else (zg (zin x2 7) (zg (zin x2 7) (some (sA b30 21 (upd (zA b30 21) (Int32.toNatClampNeg x2) (((zA b30 21) (Int32.toNatClampNeg x2)) + 1))))))))) else (some σ))
def fX10_together_0 (n : Nat) (σ : zS) (x1 : Int32) : Option (zS) :=
  (zg (zin (x1 + 1) 7) (zb (fX10_allThought_0 n σ x1) (fun q2 => (zb (zlp (fX10_together_L21_21 n x1 ((zA σ 22) (Int32.toNatClampNeg (x1 + 1))) q2) n (0, 1, σ)) (fun b14 => (if b14.1 = 0 then (fX10_together_128 n b14.2 x1 ((zA σ 22) (Int32.toNatClampNeg (x1 + 1))) q2 (-1)) else (if b14.1 = 1 then (zg (zin 0 8) (fX10_together_128 n b14.2 x1 ((zA σ 22) (Int32.toNatClampNeg (x1 + 1))) q2 ((zA b14.2 13) (Int32.toNatClampNeg 0)))) else (zb (fX10_merge_0 n b14.2 b14.1) (fun q18 => (fX10_together_128 n q18.2 x1 ((zA σ 22) (Int32.toNatClampNeg (x1 + 1))) q2 q18.1))))))))))
/-! X10_lower -/
def fX10_lower_L9_9 (n : Nat) (k2 : Int32) (a : Int32 × zS) : Option ((Int32 × zS) ⊕ (zS)) :=
  (if a.1 ≤ 1 then (some (.inr a.2)) else (zg (zin (a.1 - 1) 8) (zg (zin a.1 8) (some (.inl ((a.1 + (-1)), (sA a.2 23 (upd (zA a.2 23) (Int32.toNatClampNeg a.1) (((zA a.2 23) (Int32.toNatClampNeg (a.1 - 1))) - k2)))))))))
def fX10_lower_0 (n : Nat) (σ : zS) (x1 : Int32) : Option (zS) :=
  (zg (zin x1 8) (zb (zlp (fX10_lower_L9_9 n ((zA σ 23) (Int32.toNatClampNeg x1))) n (x1, σ)) (fun b5 => (zg (zin 1 8) (some (sA b5 23 (upd (zA b5 23) (Int32.toNatClampNeg 1) ((zA σ 23) (Int32.toNatClampNeg x1)))))))))
/-! X10_rotate -/
def fX10_rotate_L9_9 (n : Nat) (k1 : Int32) (k2 : Int32) (a : Int32 × zS) : Option ((Int32 × zS) ⊕ (zS)) :=
  (if a.1 ≤ 1 then (some (.inr a.2)) else (zg (zin (a.1 - 1) 7) (zg (zin a.1 7) (some (.inl ((a.1 + (-1)), (sA a.2 22 (upd (zA a.2 22) (Int32.toNatClampNeg a.1) ((zA a.2 22) (Int32.toNatClampNeg (a.1 - 1)))))))))))
def fX10_rotate_0 (n : Nat) (σ : zS) (x1 : Int32) : Option (zS) :=
  (zg (zin x1 7) (zb (zlp (fX10_rotate_L9_9 n x1 ((zA σ 22) (Int32.toNatClampNeg x1))) n (x1, σ)) (fun b5 => (zg (zin 1 7) (zg (zin x1 7) (zg (zin ((upd (zA b5 22) (Int32.toNatClampNeg 1) ((zA σ 22) (Int32.toNatClampNeg x1))) (Int32.toNatClampNeg x1)) 7) (zg (zin ((upd (zA b5 22) (Int32.toNatClampNeg 1) ((zA σ 22) (Int32.toNatClampNeg x1))) (Int32.toNatClampNeg x1)) 7) (some (sA (sA (sA b5 22 (upd (zA b5 22) (Int32.toNatClampNeg 1) ((zA σ 22) (Int32.toNatClampNeg x1)))) 19 (upd (zA b5 19) (Int32.toNatClampNeg ((upd (zA b5 22) (Int32.toNatClampNeg 1) ((zA σ 22) (Int32.toNatClampNeg x1))) (Int32.toNatClampNeg x1))) 0)) 20 (upd (zA b5 20) (Int32.toNatClampNeg ((upd (zA b5 22) (Int32.toNatClampNeg 1) ((zA σ 22) (Int32.toNatClampNeg x1))) (Int32.toNatClampNeg x1))) 0))))))))))
/-! X10_gather -/
def fX10_gather_L27_27 (n : Nat) (k1 : Int32) (k2 : Int32) (k3 : Int32) (a : Int32 × zS) : Option ((Int32 × zS) ⊕ (zS)) :=
  (zg (zin k3 7) (if ((zA a.2 20) (Int32.toNatClampNeg k3)) ≤ a.1 then (some (.inr a.2)) else (zg (zin ((208 * k3) + a.1) 1456) (zg (zin (zI a.2 4) 208) (some (.inl ((a.1 + 1), (sI (sA a.2 7 (upd (zA a.2 7) (Int32.toNatClampNeg (zI a.2 4)) ((zA a.2 18) (Int32.toNatClampNeg ((208 * k3) + a.1))))) 4 ((zI a.2 4) + 1)))))))))
def fX10_gather_L7_7 (n : Nat) (k1 : Int32) (a : Int32 × zS) : Option ((Int32 × zS) ⊕ (zS)) :=
  (if k1 < a.1 then (some (.inr a.2)) else (zg (zin a.1 7) (zg (zin ((zA a.2 22) (Int32.toNatClampNeg a.1)) 7) (zb (zlp (fX10_gather_L27_27 n k1 a.1 ((zA a.2 22) (Int32.toNatClampNeg a.1))) n (((zA a.2 19) (Int32.toNatClampNeg ((zA a.2 22) (Int32.toNatClampNeg a.1)))), a.2)) (fun b8 => (some (.inl ((a.1 + 1), b8))))))))
def fX10_gather_0 (n : Nat) (σ : zS) (x1 : Int32) : Option (zS) :=
  (zb (zlp (fX10_gather_L7_7 n x1) n (1, (sI σ 4 0))) (fun b10 => (some b10)))
/-! X10_poly -/
def fX10_poly_L81_81 (n : Nat) (k1 : Int32) (k2 : Int32) (a : Int32 × zS) : Option ((Int32 × zS) ⊕ (zS)) :=
  (if a.1 ≤ 0 then (some (.inr a.2)) else (if (zI a.2 17) = 0 then (zb (fX10_together_0 n a.2 k2) (fun q14 => (some (.inl ((a.1 + (-1)), q14))))) else (some (.inr a.2))))
def fX10_poly_L60_130 (n : Nat) (σ : zS) (k1 : Int32) (k2 : Int32) : Option ((zS) ⊕ (zS)) :=
  (some (.inl σ))
def fX10_poly_L60_60 (n : Nat) (k1 : Int32) (k2 : Int32) (a : zS) : Option ((zS) ⊕ (zS)) :=
  (if (zI a 26) ≤ 0 then (some (.inr a)) else (if (zI a 17) = 0 then (zg (zin k2 8) (zb (zlp (fX10_poly_L81_81 n k1 k2) n (((zA a 23) (Int32.toNatClampNeg k2)), a)) (fun b16 => (if (zI b16 17) = 0 then (zb (fX10_lower_0 n (sI b16 26 ((zI b16 26) - 1)) k2) (fun q19 => (zb (fX10_rotate_0 n q19 k1) (fun q21 => (fX10_poly_L60_130 n q21 k1 k2))))) else (fX10_poly_L60_130 n b16 k1 k2))))) else (some (.inr a))))
def fX10_poly_27 (n : Nat) (σ : zS) (x1 : Int32) (y0 : Int32) : Option (Int32 × zS) :=
  (if 0 < y0 then (some (0, (sI σ 0 y0))) else (if (zI σ 4) = 0 then (some (0, (sI σ 0 y0))) else (zb (fX10_lay_0 n (sI (sI σ 0 y0) 17 0) x1) (fun q7 => (zb (zlp (fX10_poly_L60_60 n x1 (x1 - 1)) n q7) (fun b23 => (zb (fX10_gather_0 n b23 x1) (fun q25 => (zb (fX10_ended_0 n q25 3) (fun q27 => (some (q27.1, q27.2))))))))))))
def fX10_poly_0 (n : Nat) (σ : zS) (x1 : Int32) : Option (Int32 × zS) :=
  (zb (fX10_isIn_0 n zσ0 x1 3 6) (fun q1 => (if q1 = 0 then (fX10_poly_27 n σ x1 1) else (if (zI σ 16) = 0 then (fX10_poly_27 n σ x1 0) else (fX10_poly_27 n σ x1 2)))))
/-! X10_plan -/
def fX10_plan_L35_35 (n : Nat) (k1 : Int32) (k2 : Int32) (a : Int32 × zS) : Option ((Int32 × zS) ⊕ (zS)) :=
  (if k2 ≤ a.1 then (some (.inr a.2)) else (zg (zin a.1 208) (zg (zin ((zA a.2 7) (Int32.toNatClampNeg a.1)) 208) (zg (zin a.1 208) (some (.inl ((a.1 + 1), (sA a.2 24 (upd (zA a.2 24) (Int32.toNatClampNeg a.1) ((zA a.2 5) (Int32.toNatClampNeg ((zA a.2 7) (Int32.toNatClampNeg a.1)))))))))))))
def fX10_plan_L106_157 (n : Nat) (σ : zS) (k1 : Int32) (k2 : Int32) (k4 : Int32) (k5 : Int32) (k6 : Int32) (x7 : Int32) (x8 : Int32) (y0 : Int32) (y1 : Int32) : Option ((Int32 × Int32 × Int32) ⊕ (Int32 × Int32)) :=
  (some (.inl ((y1 + y0), x7, (x8 + 1))))
def fX10_plan_L106_106 (n : Nat) (σ : zS) (k1 : Int32) (k2 : Int32) (k4 : Int32) (k5 : Int32) (k6 : Int32) (a : Int32 × Int32 × Int32) : Option ((Int32 × Int32 × Int32) ⊕ (Int32 × Int32)) :=
  (if k6 ≤ a.2.2 then (some (.inr (a.1, a.2.1))) else (zg (zin (k5 + a.2.2) 208) (if k6 ≤ 1 then (fX10_plan_L106_157 n σ k1 k2 k4 k5 k6 (a.2.1 + ((zA σ 24) (Int32.toNatClampNeg (k5 + a.2.2)))) a.2.2 0 a.1) else (zb (fX10_per_0 n σ) (fun q17 => (zb (fX10_per_0 n σ) (fun q19 => (zg (znz q19) (fX10_plan_L106_157 n σ k1 k2 k4 k5 k6 (a.2.1 + ((zA σ 24) (Int32.toNatClampNeg (k5 + a.2.2)))) a.2.2 (((((zA σ 24) (Int32.toNatClampNeg (k5 + a.2.2))) + q17) - 1) / q19) a.1)))))))))
def fX10_plan_L76_98 (n : Nat) (σ : zS) (k1 : Int32) (k2 : Int32) (x3 : Int32) (x4 : Int32) (x5 : Int32) (y0 : Int32) : Option ((Int32 × Int32 × Int32 × zS) ⊕ (Int32 × Int32 × zS)) :=
  (zb (zlp (fX10_plan_L106_106 n σ k1 k2 x4 x5 y0) n (x3, 0, 0)) (fun b22 => (zg (zin x4 208) (some (.inl (b22.1, (x4 + 1), (x5 + y0), (sA σ 24 (upd (zA σ 24) (Int32.toNatClampNeg x4) b22.2))))))))
def fX10_plan_L76_76 (n : Nat) (k1 : Int32) (k2 : Int32) (a : Int32 × Int32 × Int32 × zS) : Option ((Int32 × Int32 × Int32 × zS) ⊕ (Int32 × Int32 × zS)) :=
  (if k2 ≤ a.2.2.1 then (some (.inr (a.1, a.2.1, a.2.2.2))) else (if k1 ≤ (k2 - a.2.2.1) then (fX10_plan_L76_98 n a.2.2.2 k1 k2 a.1 a.2.1 a.2.2.1 k1) else (fX10_plan_L76_98 n a.2.2.2 k1 k2 a.1 a.2.1 a.2.2.1 (k2 - a.2.2.1))))
def fX10_plan_L65_65 (n : Nat) (k1 : Int32) (a : Int32 × Int32 × zS) : Option ((Int32 × Int32 × zS) ⊕ (Int32 × zS)) :=
  (if a.1 ≤ 1 then (some (.inr (a.2.1, a.2.2))) else (zb (zlp (fX10_plan_L76_76 n k1 a.1) n (a.2.1, 0, 0, a.2.2)) (fun b25 => (some (.inl (b25.2.1, b25.1, b25.2.2))))))
def fX10_plan_16 (n : Nat) (σ : zS) (x1 : Int32) (y0 : Int32) : Option (Int32 × zS) :=
  (if y0 ≤ 0 then (zb (zlp (fX10_plan_L35_35 n x1 (zI σ 4)) n (0, (sI σ 0 y0))) (fun b9 => (zb (zlp (fX10_plan_L65_65 n x1) n ((zI σ 4), 0, b9)) (fun b27 => (some (b27.1, b27.2)))))) else (some (0, (sI σ 0 y0))))
def fX10_plan_0 (n : Nat) (σ : zS) (x1 : Int32) : Option (Int32 × zS) :=
  (zb (fX10_isIn_0 n zσ0 x1 2 8) (fun q1 => (if q1 = 0 then (fX10_plan_16 n σ x1 1) else (fX10_plan_16 n σ x1 0))))
/-! X10_runs -/
def fX10_runs_0 (n : Nat) (σ : zS) : Option (Int32 × zS) :=
  (some ((zI σ 4), (sI σ 0 0)))
/-! X10_records -/
def fX10_records_20 (n : Nat) (σ : zS) (x1 : Int32) (y0 : Int32) : Option (Int32 × zS) :=
  (if y0 ≤ 0 then (if x1 = (-1) then (zg (zin 0 208) (some ((((zA σ 5) (Int32.toNatClampNeg 0)) + (zI σ 5)), (sI σ 0 y0)))) else (zg (zin x1 208) (zg (zin ((zA σ 7) (Int32.toNatClampNeg x1)) 208) (some (((zA σ 5) (Int32.toNatClampNeg ((zA σ 7) (Int32.toNatClampNeg x1)))), (sI σ 0 y0)))))) else (some (0, (sI σ 0 y0))))
def fX10_records_0 (n : Nat) (σ : zS) (x1 : Int32) : Option (Int32 × zS) :=
  (zb (fX10_isIn_0 n zσ0 x1 (-1) ((zI σ 4) - 1)) (fun q1 => (if q1 = 0 then (fX10_records_20 n σ x1 1) else (fX10_records_20 n σ x1 0))))
/-! X10_blockOf -/
def fX10_blockOf_L10_10 (n : Nat) (σ : zS) (k2 : Int32) (a : Int32 × Int32) : Option ((Int32 × Int32) ⊕ (Int32)) :=
  (if k2 ≤ a.2 then (some (.inr a.1)) else (if a.1 = (-1) then (some (.inr a.1)) else (zg (zin a.1 200) (some (.inl (((zA σ 2) (Int32.toNatClampNeg a.1)), (a.2 + 1)))))))
def fX10_blockOf_0 (n : Nat) (σ : zS) (x1 : Int32) (x2 : Int32) : Option (Int32) :=
  (zg (zin x1 208) (zb (zlp (fX10_blockOf_L10_10 n σ x2) n (((zA σ 3) (Int32.toNatClampNeg x1)), 0)) (fun b5 => (some b5))))
/-! X10_block -/
def fX10_block_75 (n : Nat) (σ : zS) (x3 : Int32) (y0 : Int32) : Option (Int32 × zS) :=
  (some (x3, (sI σ 0 y0)))
def fX10_block_59 (n : Nat) (σ : zS) (x2 : Int32) (y0 : Int32) : Option (Int32 × zS) :=
  (zb (fX10_blockOf_0 n σ y0 x2) (fun q10 => (if q10 = (-1) then (fX10_block_75 n σ q10 1) else (fX10_block_75 n σ q10 0))))
def fX10_block_31 (n : Nat) (σ : zS) (x1 : Int32) (x2 : Int32) (y0 : Int32) : Option (Int32 × zS) :=
  (if y0 ≤ 0 then (if x1 = (-1) then (fX10_block_59 n (sI σ 0 y0) x2 0) else (zg (zin x1 208) (fX10_block_59 n (sI σ 0 y0) x2 ((zA σ 7) (Int32.toNatClampNeg x1))))) else (some (0, (sI σ 0 y0))))
def fX10_block_30 (n : Nat) (σ : zS) (x1 : Int32) (x2 : Int32) : Option (Int32 × zS) :=
  (fX10_block_31 n σ x1 x2 1)
def fX10_block_0 (n : Nat) (σ : zS) (x1 : Int32) (x2 : Int32) : Option (Int32 × zS) :=
  (zb (fX10_isIn_0 n zσ0 x1 (-1) ((zI σ 4) - 1)) (fun q1 => (if q1 = 0 then (fX10_block_30 n σ x1 x2) else (zb (fX10_isIn_0 n zσ0 x2 0 199) (fun q4 => (if q4 = 0 then (fX10_block_30 n σ x1 x2) else (fX10_block_31 n σ x1 x2 0)))))))
/-! X10_look -/
def fX10_look_40 (n : Nat) (σ : zS) (x2 : Int32) (x3 : Int32) : Option (Int32 × zS) :=
  (zb (fX10_per_0 n σ) (fun q10 => (zg (znz q10) (some (((64 * x3) + ((x2 - x2 / q10 * q10) * ((zI σ 6) + 1))), σ)))))
def fX10_look_0 (n : Nat) (σ : zS) (x1 : Int32) (x2 : Int32) : Option (Int32 × zS) :=
  (zg (zin x1 208) (zb (fX10_per_0 n σ) (fun q2 => (zg (znz q2) (zb (fX10_blockOf_0 n σ ((zA σ 7) (Int32.toNatClampNeg x1)) (x2 / q2)) (fun q5 => (if q5 = (zI σ 14) then (fX10_look_40 n σ x2 q5) else (zb (fX10_go_0 n (sI σ 10 ((zI σ 10) + 1)) q5) (fun q8 => (fX10_look_40 n q8 x2 q5))))))))))
/-! X10_told -/
def fX10_told_88 (n : Nat) (σ : zS) (x1 : Int32) (x2 : Int32) (x3 : Int32) (y0 : Int32) : Option (Int64 × zS) :=
  (if y0 ≤ 0 then (zb (fX10_look_0 n (sI σ 0 y0) x1 x2) (fun q16 => (zg (zin (q16.1 + x3) 12800) (some (((zL q16.2 0) (Int32.toNatClampNeg (q16.1 + x3))), q16.2))))) else (some (0, (sI σ 0 y0))))
def fX10_told_64 (n : Nat) (σ : zS) (x1 : Int32) (x2 : Int32) (x3 : Int32) (y0 : Int32) : Option (Int64 × zS) :=
  (if y0 = 0 then (fX10_told_88 n σ x1 x2 x3 1) else (if (zI σ 16) = 0 then (fX10_told_88 n σ x1 x2 x3 0) else (fX10_told_88 n σ x1 x2 x3 2)))
def fX10_told_63 (n : Nat) (σ : zS) (x1 : Int32) (x2 : Int32) (x3 : Int32) : Option (Int64 × zS) :=
  (fX10_told_64 n σ x1 x2 x3 0)
def fX10_told_31 (n : Nat) (σ : zS) (x1 : Int32) (x2 : Int32) (x3 : Int32) (y0 : Int32) : Option (Int64 × zS) :=
  (if y0 = 0 then (fX10_told_63 n σ x1 x2 x3) else (zg (zin x1 208) (zg (zin ((zA σ 7) (Int32.toNatClampNeg x1)) 208) (zb (fX10_isIn_0 n zσ0 x2 0 (((zA σ 5) (Int32.toNatClampNeg ((zA σ 7) (Int32.toNatClampNeg x1)))) - 1)) (fun q10 => (if q10 = 0 then (fX10_told_63 n σ x1 x2 x3) else (fX10_told_64 n σ x1 x2 x3 1)))))))
def fX10_told_30 (n : Nat) (σ : zS) (x1 : Int32) (x2 : Int32) (x3 : Int32) : Option (Int64 × zS) :=
  (fX10_told_31 n σ x1 x2 x3 0)
def fX10_told_0 (n : Nat) (σ : zS) (x1 : Int32) (x2 : Int32) (x3 : Int32) : Option (Int64 × zS) :=
  (zb (fX10_isIn_0 n zσ0 x1 0 ((zI σ 4) - 1)) (fun q1 => (if q1 = 0 then (fX10_told_30 n σ x1 x2 x3) else (zb (fX10_isIn_0 n zσ0 x3 0 (zI σ 6)) (fun q4 => (if q4 = 0 then (fX10_told_30 n σ x1 x2 x3) else (fX10_told_31 n σ x1 x2 x3 1)))))))
/-! X10_rank -/
def fX10_rank_L101_196 (n : Nat) (σ : zS) (k1 : Int32) (k2 : Int64) (k4 : Int32) (k5 : Int32) (x6 : Int32) (y0 : Int32) : Option ((Int32 × Int32 × zS) ⊕ (Int32 × zS)) :=
  (some (.inl (x6, y0, σ)))
def fX10_rank_L101_182 (n : Nat) (σ : zS) (k1 : Int32) (k2 : Int64) (k4 : Int32) (k5 : Int32) (x7 : Int32) (x8 : Int32) (x11 : Int32) (y0 : Int32) : Option ((Int32 × Int32 × zS) ⊕ (Int32 × zS)) :=
  (if x11 = 0 then (fX10_rank_L101_196 n σ k1 k2 k4 k5 y0 x8) else (fX10_rank_L101_196 n σ k1 k2 k4 k5 y0 x7))
def fX10_rank_L101_166 (n : Nat) (σ : zS) (k1 : Int32) (k2 : Int64) (k4 : Int32) (k5 : Int32) (x6 : Int32) (x7 : Int32) (x8 : Int32) (y0 : Int32) : Option ((Int32 × Int32 × zS) ⊕ (Int32 × zS)) :=
  (if y0 = 0 then (fX10_rank_L101_182 n σ k1 k2 k4 k5 x7 x8 y0 x6) else (fX10_rank_L101_182 n σ k1 k2 k4 k5 x7 x8 y0 (x8 + 1)))
def fX10_rank_L101_101 (n : Nat) (k1 : Int32) (k2 : Int64) (k4 : Int32) (k5 : Int32) (a : Int32 × Int32 × zS) : Option ((Int32 × Int32 × zS) ⊕ (Int32 × zS)) :=
  (if a.2.1 ≤ a.1 then (some (.inr (a.1, a.2.2))) else (zg (znz 2) (zb (fX10_look_0 n a.2.2 k1 ((a.1 + a.2.1) / 2)) (fun q15 => (zg (zin (q15.1 + k4) 12800) (if k5 = 0 then (if 0 ≤ (lg_cmp ((zL q15.2 0) (Int32.toNatClampNeg (q15.1 + k4))) k2) then (fX10_rank_L101_166 n q15.2 k1 k2 k4 k5 a.1 a.2.1 ((a.1 + a.2.1) / 2) 0) else (fX10_rank_L101_166 n q15.2 k1 k2 k4 k5 a.1 a.2.1 ((a.1 + a.2.1) / 2) 1)) else (if (lg_cmp ((zL q15.2 0) (Int32.toNatClampNeg (q15.1 + k4))) k2) ≤ 0 then (fX10_rank_L101_166 n q15.2 k1 k2 k4 k5 a.1 a.2.1 ((a.1 + a.2.1) / 2) 0) else (fX10_rank_L101_166 n q15.2 k1 k2 k4 k5 a.1 a.2.1 ((a.1 + a.2.1) / 2) 1))))))))
def fX10_rank_83 (n : Nat) (σ : zS) (x1 : Int32) (x2 : Int64) (x4 : Int32) (y0 : Int32) : Option (Int32 × zS) :=
  (zg (zin x1 208) (zg (zin ((zA σ 7) (Int32.toNatClampNeg x1)) 208) (zb (zlp (fX10_rank_L101_101 n x1 x2 x4 y0) n (0, ((zA σ 5) (Int32.toNatClampNeg ((zA σ 7) (Int32.toNatClampNeg x1)))), σ)) (fun b23 => (some (b23.1, b23.2))))))
def fX10_rank_82 (n : Nat) (σ : zS) (x1 : Int32) (x2 : Int64) (x4 : Int32) : Option (Int32 × zS) :=
  (fX10_rank_83 n σ x1 x2 x4 0)
def fX10_rank_60 (n : Nat) (σ : zS) (x1 : Int32) (x2 : Int64) (y0 : Int32) : Option (Int32 × zS) :=
  (if (zI σ 7) ≤ 0 then (fX10_rank_82 n σ x1 x2 y0) else (zg (zin 0 4) (if ((zA σ 9) (Int32.toNatClampNeg 0)) = 0 then (fX10_rank_82 n σ x1 x2 y0) else (fX10_rank_83 n σ x1 x2 y0 1))))
def fX10_rank_31 (n : Nat) (σ : zS) (x1 : Int32) (x2 : Int64) (y0 : Int32) : Option (Int32 × zS) :=
  (if y0 ≤ 0 then (if (zI σ 7) ≤ 0 then (fX10_rank_60 n (sI σ 0 y0) x1 x2 0) else (zg (zin 0 4) (fX10_rank_60 n (sI σ 0 y0) x1 x2 ((zA σ 8) (Int32.toNatClampNeg 0))))) else (some (0, (sI σ 0 y0))))
def fX10_rank_0 (n : Nat) (σ : zS) (x1 : Int32) (x2 : Int64) : Option (Int32 × zS) :=
  (zb (fX10_isIn_0 n zσ0 x1 0 ((zI σ 4) - 1)) (fun q1 => (if q1 = 0 then (fX10_rank_31 n σ x1 x2 1) else (if (zI σ 16) = 0 then (fX10_rank_31 n σ x1 x2 0) else (fX10_rank_31 n σ x1 x2 2)))))
/-! X10_drop -/
def fX10_drop_L57_57 (n : Nat) (a : Int32 × zS) : Option ((Int32 × zS) ⊕ (zS)) :=
  (if (zI a.2 4) ≤ a.1 then (some (.inr a.2)) else (zg (zin a.1 208) (zg (zin (a.1 - 1) 208) (some (.inl ((a.1 + 1), (sA a.2 7 (upd (zA a.2 7) (Int32.toNatClampNeg (a.1 - 1)) ((zA a.2 7) (Int32.toNatClampNeg a.1))))))))))
def fX10_drop_31 (n : Nat) (σ : zS) (x1 : Int32) (y0 : Int32) : Option (Int32 × zS) :=
  (if y0 ≤ 0 then (zg (zin x1 208) (zb (fX10_free_0 n (sI σ 0 y0) ((zA σ 7) (Int32.toNatClampNeg x1))) (fun q7 => (zb (zlp (fX10_drop_L57_57 n) n ((x1 + 1), q7)) (fun b12 => (some (((zI b12 4) - 1), (sI b12 4 ((zI b12 4) - 1))))))))) else (some (0, (sI σ 0 y0))))
def fX10_drop_0 (n : Nat) (σ : zS) (x1 : Int32) : Option (Int32 × zS) :=
  (zb (fX10_isIn_0 n zσ0 x1 0 ((zI σ 4) - 1)) (fun q1 => (if q1 = 0 then (fX10_drop_31 n σ x1 1) else (if (zI σ 16) = 0 then (fX10_drop_31 n σ x1 0) else (fX10_drop_31 n σ x1 2)))))
/-! X10_freeBlocks -/
def fX10_freeBlocks_L4_27 (n : Nat) (σ : zS) (x2 : Int32) (y0 : Int32) (y1 : Int32) : Option ((Int32 × Int32) ⊕ (Int32)) :=
  (some (.inl ((y1 + y0), (x2 + 1))))
def fX10_freeBlocks_L4_4 (n : Nat) (σ : zS) (a : Int32 × Int32) : Option ((Int32 × Int32) ⊕ (Int32)) :=
  (if (zI σ 1) ≤ a.2 then (some (.inr a.1)) else (zg (zin a.2 200) (if ((zA σ 0) (Int32.toNatClampNeg a.2)) = 0 then (fX10_freeBlocks_L4_27 n σ a.2 1 a.1) else (fX10_freeBlocks_L4_27 n σ a.2 0 a.1))))
def fX10_freeBlocks_0 (n : Nat) (σ : zS) : Option (Int32) :=
  (zb (zlp (fX10_freeBlocks_L4_4 n σ) n (0, 0)) (fun b4 => (some b4)))
/-! X10_count -/
def fX10_count_16 (n : Nat) (σ : zS) (x1 : Int32) (y0 : Int32) : Option (Int32 × zS) :=
  (if x1 = 0 then (some ((zI σ 10), (sI σ 0 y0))) else if x1 = 1 then (some ((zI σ 11), (sI σ 0 y0))) else if x1 = 2 then (some ((zI σ 12), (sI σ 0 y0))) else if x1 = 3 then (some ((zI σ 13), (sI σ 0 y0))) else if x1 = 4 then (zb (fX10_freeBlocks_0 n (sI σ 0 y0)) (fun q9 => (some (q9, (sI σ 0 y0))))) else if x1 = 5 then (some ((zI σ 9), (sI σ 0 y0))) else if x1 = 6 then (zb (fX10_per_0 n (sI σ 0 y0)) (fun q13 => (some (q13, (sI σ 0 y0))))) else if x1 = 7 then (some ((zI σ 5), (sI σ 0 y0))) else if x1 = 8 then (some ((zI σ 7), (sI σ 0 y0))) else if x1 = 9 then (some ((zI σ 8), (sI σ 0 y0))) else if x1 = 10 then (some ((zI σ 6), (sI σ 0 y0))) else if x1 = 11 then (if (zI σ 16) = 0 then (some (0, (sI σ 0 y0))) else (some (1, (sI σ 0 y0)))) else (some (0, (sI σ 0 y0))))
def fX10_count_0 (n : Nat) (σ : zS) (x1 : Int32) : Option (Int32 × zS) :=
  (zb (fX10_isIn_0 n zσ0 x1 0 11) (fun q1 => (if q1 = 0 then (fX10_count_16 n σ x1 1) else (fX10_count_16 n σ x1 0))))
/-! X10_crash -/
def fX10_crash_28 (n : Nat) (σ : zS) (x1 : Int32) (y0 : Int32) : Option (zS) :=
  (if y0 ≤ 0 then (some (sI (sI σ 0 y0) 15 x1)) else (some (sI σ 0 y0)))
def fX10_crash_0 (n : Nat) (σ : zS) (x1 : Int32) : Option (zS) :=
  (zb (fX10_isIn_0 n zσ0 x1 (-1) 100000) (fun q1 => (if q1 = 0 then (fX10_crash_28 n σ x1 1) else (if (zI σ 16) = 0 then (fX10_crash_28 n σ x1 0) else (fX10_crash_28 n σ x1 2)))))
/-! X10_up -/
def fX10_up_13 (n : Nat) (σ : zS) (y0 : Int32) : Option (Int32 × zS) :=
  (if y0 ≤ 0 then (some ((zI σ 4), (sI (sI (sI σ 0 y0) 16 0) 15 (-1)))) else (some (0, (sI σ 0 y0))))
def fX10_up_0 (n : Nat) (σ : zS) : Option (Int32 × zS) :=
  (if (zI σ 16) = 0 then (fX10_up_13 n σ 1) else (fX10_up_13 n σ 0))
/-! X10_thrown -/
def fX10_thrown_0 (n : Nat) (σ : zS) : Option (Int32) :=
  (some (zI σ 0))
