/-! X9_setComing -/
def fX9_setComing_0 (n : Nat) (nb : Nat) (sz : Nat) (mm : Nat) (σ : zS) (x1 : Int32) (x2 : Int64) : Option (zS) :=
  (if x1 < 0 then (some σ) else (if (nI 4) ≤ x1 then (some σ) else (zg (zin x1 4) (some (sL σ 3 (vp_updL (zL σ 3) (Int32.toNatClampNeg x1) x2))))))
/-! X1_behind -/
def fX1_behind_0 (n : Nat) (nb : Nat) (sz : Nat) (mm : Nat) (σ : zS) (x1 : Int32) : Option (Int32) :=
  (if x1 < 0 then (some (-1)) else (if (nI nb) ≤ x1 then (some (-1)) else (zg (zin x1 nb) (some ((zA σ 3) (Int32.toNatClampNeg x1))))))
/-! X1_blockAt -/
def fX1_blockAt_L20_20 (n : Nat) (nb : Nat) (sz : Nat) (mm : Nat) (σ : zS) (k2 : Int32) (a : Int32 × Int32) : Option ((Int32 × Int32) ⊕ (Int32)) :=
  (if k2 ≤ a.2 then (some (.inr a.1)) else (zb (fX1_behind_0 n nb sz mm σ a.1) (fun q4 => (some (.inl (q4, (a.2 + 1)))))))
def fX1_blockAt_0 (n : Nat) (nb : Nat) (sz : Nat) (mm : Nat) (σ : zS) (x1 : Int32) (x2 : Int32) : Option (Int32) :=
  (if x2 < 0 then (some (-1)) else (if x2 < (nI nb) then (zb (zlp (fX1_blockAt_L20_20 n nb sz mm σ x2) n (x1, 0)) (fun b6 => (some b6))) else (some (-1))))
/-! X0_moveArm -/
def fX0_moveArm_28 (n : Nat) (nb : Nat) (sz : Nat) (mm : Nat) (σ : zS) (x1 : Int32) (y0 : Int32) (y1 : Int32) : Option (zS) :=
  (some (sI (sI σ 4 (y1 + y0)) 5 x1))
def fX0_moveArm_0 (n : Nat) (nb : Nat) (sz : Nat) (mm : Nat) (σ : zS) (x1 : Int32) : Option (zS) :=
  (if x1 ≤ (zI σ 5) then (fX0_moveArm_28 n nb sz mm σ x1 ((zI σ 5) - x1) (zI σ 4)) else (fX0_moveArm_28 n nb sz mm σ x1 (x1 - (zI σ 5)) (zI σ 4)))
/-! X0_readBlock -/
def fX0_readBlock_0 (n : Nat) (nb : Nat) (sz : Nat) (mm : Nat) (σ : zS) (x1 : Int32) : Option (zS) :=
  (zb (fX0_moveArm_0 n nb sz mm (sI σ 2 ((zI σ 2) + 1)) x1) (fun q1 => (some q1)))
/-! X0_cell -/
def fX0_cell_0 (n : Nat) (nb : Nat) (sz : Nat) (mm : Nat) (σ : zS) (x1 : Int32) : Option (Int64) :=
  (if x1 < 0 then (some 0) else (if (nI (nb * sz)) ≤ x1 then (some 0) else (zg (zin x1 (nb * sz)) (some ((zL σ 0) (Int32.toNatClampNeg x1))))))
/-! X9_look -/
def fX9_look_48 (n : Nat) (nb : Nat) (sz : Nat) (mm : Nat) (σ : zS) (x2 : Int32) (x3 : Int32) (x4 : Int32) (x5 : Int32) : Option (Int64 × zS) :=
  (zg (znz x4) (zb (fX0_cell_0 n nb sz mm σ (((x5 * (zI σ 1)) + ((x2 - x2 / x4 * x4) * (zI σ 10))) + x3)) (fun q8 => (some (q8, σ)))))
def fX9_look_0 (n : Nat) (nb : Nat) (sz : Nat) (mm : Nat) (σ : zS) (x1 : Int32) (x2 : Int32) (x3 : Int32) : Option (Int64 × zS) :=
  (zg (znz (if 1 < (zI σ 11) then (zI σ 11) else 1)) (zb (fX1_blockAt_0 n nb sz mm σ x1 (x2 / (if 1 < (zI σ 11) then (zI σ 11) else 1))) (fun q2 => (if q2 = (zI σ 5) then (fX9_look_48 n nb sz mm σ x2 x3 (if 1 < (zI σ 11) then (zI σ 11) else 1) q2) else (zb (fX0_readBlock_0 n nb sz mm σ q2) (fun q5 => (fX9_look_48 n nb sz mm q5 x2 x3 (if 1 < (zI σ 11) then (zI σ 11) else 1) q2)))))))
/-! X3_clear -/
def fX3_clear_0 (n : Nat) (nb : Nat) (sz : Nat) (mm : Nat) (σ : zS) : Option (zS) :=
  (some (sI σ 28 0))
/-! X6_get -/
def fX6_get_0 (n : Nat) (ln : Nat) (σ : zS) (x1 : Int32) : Option (Int32) :=
  (if x1 < 0 then (some (-1)) else (if (zI σ 0) ≤ x1 then (some (-1)) else (if (nI ln) ≤ x1 then (some (-1)) else (zg (zin x1 ln) (some ((zA σ 0) (Int32.toNatClampNeg x1)))))))
/-! X2_next -/
def fX2_next_45 (n : Nat) (nb : Nat) (sz : Nat) (mm : Nat) (σ : zS) (x2 : Int32) (x3 : Int32) : Option (Int32 × zS) :=
  (some (((x2 * (zI σ 1)) + (x3 * (zI σ 10))), (sI (sI σ 15 ((zI σ 15) + 1)) 16 ((zI σ 16) - 1))))
def fX2_next_0 (n : Nat) (nb : Nat) (sz : Nat) (mm : Nat) (σ : zS) : Option (Int32 × zS) :=
  (zg (znz (if 1 < (zI σ 11) then (zI σ 11) else 1)) (zb (fX6_get_0 n nb (zrv (zI σ 17) (zA σ 5)) ((zI σ 15) / (if 1 < (zI σ 11) then (zI σ 11) else 1))) (fun q2 => (zg (znz (if 1 < (zI σ 11) then (zI σ 11) else 1)) (if ((zI σ 15) - (zI σ 15) / (if 1 < (zI σ 11) then (zI σ 11) else 1) * (if 1 < (zI σ 11) then (zI σ 11) else 1)) = 0 then (zb (fX0_readBlock_0 n nb sz mm σ q2) (fun q6 => (fX2_next_45 n nb sz mm q6 q2 ((zI σ 15) - (zI σ 15) / (if 1 < (zI σ 11) then (zI σ 11) else 1) * (if 1 < (zI σ 11) then (zI σ 11) else 1))))) else (fX2_next_45 n nb sz mm σ q2 ((zI σ 15) - (zI σ 15) / (if 1 < (zI σ 11) then (zI σ 11) else 1) * (if 1 < (zI σ 11) then (zI σ 11) else 1))))))))
/-! X5_compareKeys -/
def fX5_compareKeys_L22_91 (n : Nat) (nb : Nat) (sz : Nat) (mm : Nat) (σ : zS) (k1 : Int32) (k2 : Int32) (k3 : Int32) (x4 : Int32) (x5 : Int32) (y0 : Int32) : Option ((Int32) ⊕ ((Unit) ⊕ (Int32 × Int64 × Int64))) :=
  (zb (fX0_cell_0 n nb sz mm σ (k1 + x5)) (fun q10 => (zb (fX0_cell_0 n nb sz mm σ (k2 + x5)) (fun q12 => (if (lg_cmp q10 q12) = 0 then (some (.inl (x4 + 1))) else (some (.inr (.inr (y0, q10, q12)))))))))
def fX5_compareKeys_L22_90 (n : Nat) (nb : Nat) (sz : Nat) (mm : Nat) (σ : zS) (k1 : Int32) (k2 : Int32) (k3 : Int32) (x4 : Int32) (x5 : Int32) : Option ((Int32) ⊕ ((Unit) ⊕ (Int32 × Int64 × Int64))) :=
  (fX5_compareKeys_L22_91 n nb sz mm σ k1 k2 k3 x4 x5 0)
def fX5_compareKeys_L22_67 (n : Nat) (nb : Nat) (sz : Nat) (mm : Nat) (σ : zS) (k1 : Int32) (k2 : Int32) (k3 : Int32) (x4 : Int32) (y0 : Int32) : Option ((Int32) ⊕ ((Unit) ⊕ (Int32 × Int64 × Int64))) :=
  (if (zI σ 8) ≤ 0 then (fX5_compareKeys_L22_90 n nb sz mm σ k1 k2 k3 x4 y0) else (zg (zin x4 4) (if ((zA σ 2) (Int32.toNatClampNeg x4)) = 0 then (fX5_compareKeys_L22_90 n nb sz mm σ k1 k2 k3 x4 y0) else (fX5_compareKeys_L22_91 n nb sz mm σ k1 k2 k3 x4 y0 1))))
def fX5_compareKeys_L22_22 (n : Nat) (nb : Nat) (sz : Nat) (mm : Nat) (σ : zS) (k1 : Int32) (k2 : Int32) (k3 : Int32) (a : Int32) : Option ((Int32) ⊕ ((Unit) ⊕ (Int32 × Int64 × Int64))) :=
  (if k3 ≤ a then (some (.inr (.inl ()))) else (if (nI 4) ≤ a then (some (.inr (.inl ()))) else (if (nI 4) ≤ a then (some (.inr (.inl ()))) else (if (zI σ 8) = 0 then (fX5_compareKeys_L22_67 n nb sz mm σ k1 k2 k3 a a) else (zg (zin a 4) (fX5_compareKeys_L22_67 n nb sz mm σ k1 k2 k3 a ((zA σ 1) (Int32.toNatClampNeg a))))))))
def fX5_compareKeys_140 (n : Nat) (nb : Nat) (sz : Nat) (mm : Nat) (σ : zS) (x6 : Int32) (y0 : Int32) : Option (Int32) :=
  (if y0 = x6 then (some 1) else (some (-1)))
def fX5_compareKeys_18 (n : Nat) (nb : Nat) (sz : Nat) (mm : Nat) (σ : zS) (x1 : Int32) (x2 : Int32) (y0 : Int32) : Option (Int32) :=
  (zb (zlp (fX5_compareKeys_L22_22 n nb sz mm σ x1 x2 y0) n 0) (fun b15 => Sum.elim (fun b15 => (some 0)) (fun b15 => (if 0 ≤ (lg_cmp b15.2.1 b15.2.2) then (fX5_compareKeys_140 n nb sz mm σ b15.1 0) else (fX5_compareKeys_140 n nb sz mm σ b15.1 1))) b15))
def fX5_compareKeys_0 (n : Nat) (nb : Nat) (sz : Nat) (mm : Nat) (σ : zS) (x1 : Int32) (x2 : Int32) : Option (Int32) :=
  (if (zI σ 8) = 0 then (fX5_compareKeys_18 n nb sz mm σ x1 x2 (zI σ 9)) else (fX5_compareKeys_18 n nb sz mm σ x1 x2 (zI σ 8)))
/-! X5_isBefore -/
def fX5_isBefore_45 (n : Nat) (nb : Nat) (sz : Nat) (mm : Nat) (σ : zS) : Option (Int32) :=
  (some 1)
def fX5_isBefore_0 (n : Nat) (nb : Nat) (sz : Nat) (mm : Nat) (σ : zS) (x1 : Int32) (x2 : Int32) : Option (Int32) :=
  (zb (fX5_compareKeys_0 n nb sz mm σ x1 x2) (fun q1 => (if q1 < 0 then (fX5_isBefore_45 n nb sz mm σ) else (if q1 = 0 then (zb (fX0_cell_0 n nb sz mm σ (x1 + (zI σ 9))) (fun q5 => (zb (fX0_cell_0 n nb sz mm σ (x2 + (zI σ 9))) (fun q7 => (if 0 ≤ (lg_cmp q5 q7) then (some 0) else (fX5_isBefore_45 n nb sz mm σ)))))) else (some 0)))))
/-! X3_isAhead -/
def fX3_isAhead_0 (n : Nat) (nb : Nat) (sz : Nat) (mm : Nat) (σ : zS) (x1 : Int32) (x2 : Int32) (x3 : Int32) : Option (Int32) :=
  (if x3 < 0 then (some 0) else (if (nI mm) ≤ x3 then (some 0) else (if x3 < (nI mm) then (zg (zin x3 mm) (if x2 = ((zA σ 9) (Int32.toNatClampNeg x3)) then (zg (zin x3 mm) (zb (fX5_isBefore_0 n nb sz mm σ x1 ((zA σ 8) (Int32.toNatClampNeg x3))) (fun q7 => (zg (zbo q7) (some q7))))) else (zg (zin x3 mm) (if ((zA σ 9) (Int32.toNatClampNeg x3)) ≤ x2 then (some 0) else (some 1))))) else (some 0))))
/-! X3_put -/
def fX3_put_0 (n : Nat) (nb : Nat) (sz : Nat) (mm : Nat) (σ : zS) (x1 : Int32) (x2 : Int32) (x3 : Int32) : Option (zS) :=
  (if x1 < 0 then (some σ) else (if (nI mm) ≤ x1 then (some σ) else (if (nI mm) ≤ x1 then (some σ) else (zg (zin x1 mm) (zg (zin x1 mm) (some (sA (sA σ 8 (upd (zA σ 8) (Int32.toNatClampNeg x1) x2)) 9 (upd (zA σ 9) (Int32.toNatClampNeg x1) x3))))))))
/-! X3_copyTo -/
def fX3_copyTo_0 (n : Nat) (nb : Nat) (sz : Nat) (mm : Nat) (σ : zS) (x1 : Int32) (x2 : Int32) : Option (zS) :=
  (if x2 < 0 then (some σ) else (if (nI mm) ≤ x2 then (some σ) else (if (nI mm) ≤ x2 then (some σ) else (zg (zin x2 mm) (zg (zin x2 mm) (zb (fX3_put_0 n nb sz mm σ x1 ((zA σ 8) (Int32.toNatClampNeg x2)) ((zA σ 9) (Int32.toNatClampNeg x2))) (fun q6 => (some q6))))))))
/-! X3_add -/
def fX3_add_L50_50 (n : Nat) (nb : Nat) (sz : Nat) (mm : Nat) (k1 : Int32) (k2 : Int32) (a : Int32 × Int32 × zS) : Option ((Int32 × Int32 × zS) ⊕ ((Int32 × zS) ⊕ (Int32 × zS))) :=
  (if a.2.1 ≤ 0 then (some (.inr (.inl (a.1, a.2.2)))) else (zg (znz 2) (zb (fX3_isAhead_0 n nb sz mm a.2.2 k1 k2 ((a.2.1 - 1) / 2)) (fun q6 => (if q6 = 0 then (some (.inr (.inr (a.1, a.2.2)))) else (zb (fX3_copyTo_0 n nb sz mm a.2.2 a.1 ((a.2.1 - 1) / 2)) (fun q9 => (zg (znz 2) (some (.inl (((a.2.1 - 1) / 2), ((a.2.1 - 1) / 2), q9)))))))))))
def fX3_add_98 (n : Nat) (nb : Nat) (sz : Nat) (mm : Nat) (σ : zS) (x1 : Int32) (x2 : Int32) (x3 : Int32) : Option (zS) :=
  (zb (fX3_put_0 n nb sz mm σ x3 x1 x2) (fun q14 => (some q14)))
def fX3_add_0 (n : Nat) (nb : Nat) (sz : Nat) (mm : Nat) (σ : zS) (x1 : Int32) (x2 : Int32) : Option (zS) :=
  (if (zI σ 28) < 0 then (some σ) else (if (nI mm) ≤ (zI σ 28) then (some σ) else (if (zI σ 28) < (nI mm) then (zb (zlp (fX3_add_L50_50 n nb sz mm x1 x2) n ((zI σ 28), (zI σ 28), (sI σ 28 ((zI σ 28) + 1)))) (fun b12 => Sum.elim (fun b12 => (fX3_add_98 n nb sz mm b12.2 x1 x2 b12.1)) (fun b12 => (fX3_add_98 n nb sz mm b12.2 x1 x2 b12.1)) b12)) else (some σ))))
/-! X9_fillMemory -/
def fX9_fillMemory_L2_2 (n : Nat) (nb : Nat) (sz : Nat) (mm : Nat) (a : Int32 × zS) : Option ((Int32 × zS) ⊕ (zS)) :=
  (if (zI a.2 27) ≤ a.1 then (some (.inr a.2)) else (if (zI a.2 16) ≤ 0 then (some (.inr a.2)) else (zb (fX2_next_0 n nb sz mm a.2) (fun q3 => (zb (fX3_add_0 n nb sz mm q3.2 q3.1 0) (fun q5 => (some (.inl ((a.1 + 1), q5)))))))))
def fX9_fillMemory_0 (n : Nat) (nb : Nat) (sz : Nat) (mm : Nat) (σ : zS) : Option (zS) :=
  (zb (zlp (fX9_fillMemory_L2_2 n nb sz mm) n (0, σ)) (fun b7 => (some b7)))
/-! X3_takeFirst -/
def fX3_takeFirst_L77_133 (n : Nat) (nb : Nat) (sz : Nat) (mm : Nat) (σ : zS) (k1 : Int32) (k2 : Int32) (k3 : Int32) (x4 : Int32) (y0 : Int32) : Option ((Int32 × Int32 × zS) ⊕ ((Int32 × zS) ⊕ (Int32 × zS))) :=
  (zb (fX3_isAhead_0 n nb sz mm σ k2 k3 y0) (fun q14 => (if q14 = 0 then (zb (fX3_copyTo_0 n nb sz mm σ x4 y0) (fun q17 => (some (.inl (y0, ((2 * y0) + 1), q17))))) else (some (.inr (.inr (x4, σ)))))))
def fX3_takeFirst_L77_131 (n : Nat) (nb : Nat) (sz : Nat) (mm : Nat) (σ : zS) (k1 : Int32) (k2 : Int32) (k3 : Int32) (x4 : Int32) (x5 : Int32) : Option ((Int32 × Int32 × zS) ⊕ ((Int32 × zS) ⊕ (Int32 × zS))) :=
  (fX3_takeFirst_L77_133 n nb sz mm σ k1 k2 k3 x4 x5)
def fX3_takeFirst_L77_77 (n : Nat) (nb : Nat) (sz : Nat) (mm : Nat) (k1 : Int32) (k2 : Int32) (k3 : Int32) (a : Int32 × Int32 × zS) : Option ((Int32 × Int32 × zS) ⊕ ((Int32 × zS) ⊕ (Int32 × zS))) :=
  (if (zI a.2.2 28) ≤ a.2.1 then (some (.inr (.inl (a.1, a.2.2)))) else (if (zI a.2.2 28) ≤ (a.2.1 + 1) then (fX3_takeFirst_L77_131 n nb sz mm a.2.2 k1 k2 k3 a.1 a.2.1) else (zg (zin (a.2.1 + 1) mm) (zg (zin (a.2.1 + 1) mm) (zb (fX3_isAhead_0 n nb sz mm a.2.2 ((zA a.2.2 8) (Int32.toNatClampNeg (a.2.1 + 1))) ((zA a.2.2 9) (Int32.toNatClampNeg (a.2.1 + 1))) a.2.1) (fun q11 => (if q11 = 0 then (fX3_takeFirst_L77_131 n nb sz mm a.2.2 k1 k2 k3 a.1 a.2.1) else (fX3_takeFirst_L77_133 n nb sz mm a.2.2 k1 k2 k3 a.1 (a.2.1 + 1)))))))))
def fX3_takeFirst_172 (n : Nat) (nb : Nat) (sz : Nat) (mm : Nat) (σ : zS) (x1 : Int32) (x2 : Int32) (x3 : Int32) (x4 : Int32) : Option (Int32 × zS) :=
  (zb (fX3_put_0 n nb sz mm σ x4 x2 x3) (fun q21 => (some (x1, q21))))
def fX3_takeFirst_0 (n : Nat) (nb : Nat) (sz : Nat) (mm : Nat) (σ : zS) : Option (Int32 × zS) :=
  (if (zI σ 28) < 1 then (some ((-1), σ)) else (if (nI mm) < (zI σ 28) then (some ((-1), σ)) else (if (zI σ 28) ≤ (nI mm) then (zg (zin 0 mm) (zg (zin ((zI σ 28) - 1) mm) (zg (zin ((zI σ 28) - 1) mm) (zb (zlp (fX3_takeFirst_L77_77 n nb sz mm ((zA σ 8) (Int32.toNatClampNeg 0)) ((zA σ 8) (Int32.toNatClampNeg ((zI σ 28) - 1))) ((zA σ 9) (Int32.toNatClampNeg ((zI σ 28) - 1)))) n (0, 1, (sI σ 28 ((zI σ 28) - 1)))) (fun b19 => Sum.elim (fun b19 => (fX3_takeFirst_172 n nb sz mm b19.2 ((zA σ 8) (Int32.toNatClampNeg 0)) ((zA σ 8) (Int32.toNatClampNeg ((zI σ 28) - 1))) ((zA σ 9) (Int32.toNatClampNeg ((zI σ 28) - 1))) b19.1)) (fun b19 => (fX3_takeFirst_172 n nb sz mm b19.2 ((zA σ 8) (Int32.toNatClampNeg 0)) ((zA σ 8) (Int32.toNatClampNeg ((zI σ 28) - 1))) ((zA σ 9) (Int32.toNatClampNeg ((zI σ 28) - 1))) b19.1)) b19))))) else (some ((-1), σ)))))
/-! X5_isAlike -/
def fX5_isAlike_0 (n : Nat) (nb : Nat) (sz : Nat) (mm : Nat) (σ : zS) (x1 : Int32) (x2 : Int32) : Option (Int32) :=
  (zb (fX5_compareKeys_0 n nb sz mm σ x1 x2) (fun q1 => (if q1 = 0 then (some 1) else (some 0))))
/-! X7_addToWaiting -/
def fX7_addToWaiting_0 (n : Nat) (nb : Nat) (sz : Nat) (mm : Nat) (σ : zS) (x1 : Int64) : Option (zS) :=
  (if ((((zI σ 20) * (zI σ 10)) + (zI σ 9)) - 1) < 0 then (some σ) else (if (nI sz) ≤ ((((zI σ 20) * (zI σ 10)) + (zI σ 9)) - 1) then (some σ) else (zg (zin ((((zI σ 20) * (zI σ 10)) + (zI σ 9)) - 1) sz) (zg (zin ((((zI σ 20) * (zI σ 10)) + (zI σ 9)) - 1) sz) (some (sL σ 2 (vp_updL (zL σ 2) (Int32.toNatClampNeg ((((zI σ 20) * (zI σ 10)) + (zI σ 9)) - 1)) (((zL σ 2) (Int32.toNatClampNeg ((((zI σ 20) * (zI σ 10)) + (zI σ 9)) - 1))) + x1))))))))
/-! X0_leastFree -/
def fX0_leastFree_L2_2 (n : Nat) (nb : Nat) (sz : Nat) (mm : Nat) (σ : zS) (a : Int32) : Option ((Int32) ⊕ ((Unit) ⊕ (Int32))) :=
  (if (nI nb) ≤ a then (some (.inr (.inl ()))) else (zg (zin a nb) (if ((zA σ 0) (Int32.toNatClampNeg a)) = 0 then (some (.inr (.inr a))) else (some (.inl (a + 1))))))
def fX0_leastFree_0 (n : Nat) (nb : Nat) (sz : Nat) (mm : Nat) (σ : zS) : Option (Int32) :=
  (zb (zlp (fX0_leastFree_L2_2 n nb sz mm σ) n 0) (fun b4 => Sum.elim (fun b4 => (some (-1))) (fun b4 => (some b4)) b4))
/-! X0_store_p15 -/
def fX0_store_p15_L84_84 (n : Nat) (nb : Nat) (sz : Nat) (mm : Nat) (k2 : Int32) (k3 : Int32) (k4 : Int32) (a : Int32 × zS) : Option ((Int32 × zS) ⊕ (zS)) :=
  (if k2 ≤ a.1 then (some (.inr a.2)) else (if (nI sz) ≤ a.1 then (some (.inr a.2)) else (if (nI (nb * sz)) ≤ (k4 + a.1) then (some (.inr a.2)) else (zg (zin a.1 sz) (zg (zin (k4 + a.1) (nb * sz)) (some (.inl ((a.1 + 1), (sL a.2 0 (vp_updL (zL a.2 0) (Int32.toNatClampNeg (k4 + a.1)) ((zL a.2 2) (Int32.toNatClampNeg a.1))))))))))))
def fX0_store_p15_51 (n : Nat) (nb : Nat) (sz : Nat) (mm : Nat) (σ : zS) (x2 : Int32) (x3 : Int32) : Option (Int32 × zS) :=
  (zg (zin x3 nb) (zb (fX0_moveArm_0 n nb sz mm (sI (sA σ 0 (upd (zA σ 0) (Int32.toNatClampNeg x3) (vp_nar .boolean 1))) 3 ((zI σ 3) + 1)) x3) (fun q8 => (zb (zlp (fX0_store_p15_L84_84 n nb sz mm x2 x3 (x3 * (zI q8 1))) n (0, q8)) (fun b15 => (some (x3, b15)))))))
def fX0_store_p15_0 (n : Nat) (nb : Nat) (sz : Nat) (mm : Nat) (σ : zS) (x2 : Int32) : Option (Int32 × zS) :=
  (zb (fX0_leastFree_0 n nb sz mm σ) (fun q1 => (if q1 < 0 then (some ((-1), σ)) else (if q1 < (nI nb) then (if (zI σ 6) = 0 then (some ((-1), (sI σ 7 1))) else (if (zI σ 6) ≤ 0 then (fX0_store_p15_51 n nb sz mm σ x2 q1) else (fX0_store_p15_51 n nb sz mm (sI σ 6 ((zI σ 6) - 1)) x2 q1))) else (some ((-1), σ))))))
/-! X6_add -/
def fX6_add_0 (n : Nat) (ln : Nat) (σ : zS) (x1 : Int32) : Option (zS) :=
  (if (zI σ 0) < 0 then (some σ) else (if (nI ln) ≤ (zI σ 0) then (some σ) else (zg (zin (zI σ 0) ln) (some (sI (sA σ 0 (upd (zA σ 0) (Int32.toNatClampNeg (zI σ 0)) x1)) 0 ((zI σ 0) + 1))))))
/-! X1_join -/
def fX1_join_20 (n : Nat) (nb : Nat) (sz : Nat) (mm : Nat) (σ : zS) (x2 : Int32) : Option (zS) :=
  (if x2 < 0 then (some σ) else (if (nI nb) ≤ x2 then (some σ) else (zg (zin x2 nb) (some (sA σ 3 (upd (zA σ 3) (Int32.toNatClampNeg x2) (-1)))))))
def fX1_join_0 (n : Nat) (nb : Nat) (sz : Nat) (mm : Nat) (σ : zS) (x1 : Int32) (x2 : Int32) : Option (zS) :=
  (if x1 < 0 then (fX1_join_20 n nb sz mm σ x2) else (if (nI nb) ≤ x1 then (fX1_join_20 n nb sz mm σ x2) else (zg (zin x1 nb) (fX1_join_20 n nb sz mm (sA σ 3 (upd (zA σ 3) (Int32.toNatClampNeg x1) x2)) x2))))
/-! X7_writePage -/
def fX7_writePage_68 (n : Nat) (nb : Nat) (sz : Nat) (mm : Nat) (σ : zS) (x1 : Int32) (y0 : Int32) : Option (Int32 × zS) :=
  (some (1, (sI (sI (sI σ 22 y0) 23 x1) 20 0)))
def fX7_writePage_0 (n : Nat) (nb : Nat) (sz : Nat) (mm : Nat) (σ : zS) : Option (Int32 × zS) :=
  (zb (fX0_store_p15_0 n nb sz mm σ ((zI σ 20) * (zI σ 10))) (fun q1 => (if q1.1 = (-1) then (some (0, q1.2)) else (zb (fX6_add_0 n nb (zrv (zI q1.2 25) (zA q1.2 6)) q1.1) (fun q4 => (zb (fX1_join_0 n nb sz mm (sA (sI q1.2 25 (zI q4 0)) 6 (zA q4 0)) (zI q1.2 23) q1.1) (fun q6 => (if (zI q6 22) = (-1) then (fX7_writePage_68 n nb sz mm q6 q1.1 q1.1) else (fX7_writePage_68 n nb sz mm q6 q1.1 (zI q6 22))))))))))
/-! X7_settleWaiting -/
def fX7_settleWaiting_56 (n : Nat) (nb : Nat) (sz : Nat) (mm : Nat) (σ : zS) : Option (Int32 × zS) :=
  (some (1, σ))
def fX7_settleWaiting_0 (n : Nat) (nb : Nat) (sz : Nat) (mm : Nat) (σ : zS) : Option (Int32 × zS) :=
  (if (zI σ 21) = (-1) then (some (1, σ)) else (if ((zI σ 20) + 1) < (zI σ 11) then (fX7_settleWaiting_56 n nb sz mm (sI (sI (sI σ 21 (-1)) 20 ((zI σ 20) + 1)) 24 ((zI σ 24) + 1))) else (zb (fX7_writePage_0 n nb sz mm (sI (sI (sI σ 21 (-1)) 20 ((zI σ 20) + 1)) 24 ((zI σ 24) + 1))) (fun q3 => (if q3.1 = 0 then (some (0, q3.2)) else (fX7_settleWaiting_56 n nb sz mm q3.2))))))
/-! X7_goOut -/
def fX7_goOut_L85_85 (n : Nat) (nb : Nat) (sz : Nat) (mm : Nat) (k1 : Int32) (k2 : Int32) (a : Int32 × zS) : Option ((Int32 × zS) ⊕ (zS)) :=
  (if (zI a.2 10) ≤ a.1 then (some (.inr a.2)) else (if k2 < 0 then (some (.inr a.2)) else (if (nI sz) ≤ (k2 + a.1) then (some (.inr a.2)) else (zb (fX0_cell_0 n nb sz mm a.2 (k1 + a.1)) (fun q17 => (zg (zin (k2 + a.1) sz) (some (.inl ((a.1 + 1), (sL a.2 2 (vp_updL (zL a.2 2) (Int32.toNatClampNeg (k2 + a.1)) q17)))))))))))
def fX7_goOut_154 (n : Nat) (nb : Nat) (sz : Nat) (mm : Nat) (σ : zS) : Option (Int32 × zS) :=
  (some (1, σ))
def fX7_goOut_61 (n : Nat) (nb : Nat) (sz : Nat) (mm : Nat) (σ : zS) (x1 : Int32) : Option (Int32 × zS) :=
  (zb (fX7_settleWaiting_0 n nb sz mm σ) (fun q11 => (if q11.1 = 0 then (some (0, q11.2)) else (zb (zlp (fX7_goOut_L85_85 n nb sz mm x1 ((zI q11.2 20) * (zI q11.2 10))) n (0, q11.2)) (fun b20 => (if (zI b20 18) = 0 then (zb (fX7_settleWaiting_0 n nb sz mm (sI b20 21 x1)) (fun q23 => (if q23.1 = 0 then (some (0, q23.2)) else (fX7_goOut_154 n nb sz mm q23.2)))) else (fX7_goOut_154 n nb sz mm (sI b20 21 x1))))))))
def fX7_goOut_0 (n : Nat) (nb : Nat) (sz : Nat) (mm : Nat) (σ : zS) (x1 : Int32) : Option (Int32 × zS) :=
  (if (zI σ 18) = 0 then (fX7_goOut_61 n nb sz mm σ x1) else (if (zI σ 21) = (-1) then (fX7_goOut_61 n nb sz mm σ x1) else (zb (fX5_isAlike_0 n nb sz mm σ (zI σ 21) x1) (fun q3 => (if q3 = 0 then (fX7_goOut_61 n nb sz mm σ x1) else (if (zI σ 19) = 0 then (some (1, σ)) else (zb (fX0_cell_0 n nb sz mm σ ((x1 + (zI σ 9)) - 1)) (fun q7 => (zb (fX7_addToWaiting_0 n nb sz mm σ q7) (fun q9 => (some (1, q9))))))))))))
/-! X1_setHeld -/
def fX1_setHeld_0 (n : Nat) (nb : Nat) (sz : Nat) (mm : Nat) (σ : zS) (x1 : Int32) (x2 : Int32) : Option (zS) :=
  (if x1 < 0 then (some σ) else (if (nI nb) ≤ x1 then (some σ) else (zg (zin x1 nb) (some (sA σ 4 (upd (zA σ 4) (Int32.toNatClampNeg x1) x2))))))
/-! X7_beginRun -/
def fX7_beginRun_0 (n : Nat) (nb : Nat) (sz : Nat) (mm : Nat) (σ : zS) : Option (zS) :=
  (some (sI (sI (sI (sI (sI σ 20 0) 21 (-1)) 22 (-1)) 23 (-1)) 24 0))
/-! X7_endRun -/
def fX7_endRun_57 (n : Nat) (nb : Nat) (sz : Nat) (mm : Nat) (σ : zS) : Option (Int32 × zS) :=
  (zb (fX7_beginRun_0 n nb sz mm σ) (fun q13 => (some (1, q13))))
def fX7_endRun_23 (n : Nat) (nb : Nat) (sz : Nat) (mm : Nat) (σ : zS) : Option (Int32 × zS) :=
  (if (zI σ 22) = (-1) then (fX7_endRun_57 n nb sz mm σ) else (zb (fX1_setHeld_0 n nb sz mm σ (zI σ 22) (zI σ 24)) (fun q9 => (zb (fX6_add_0 n nb (zrv (zI q9 26) (zA q9 7)) (zI q9 22)) (fun q11 => (fX7_endRun_57 n nb sz mm (sA (sI q9 26 (zI q11 0)) 7 (zA q11 0))))))))
def fX7_endRun_0 (n : Nat) (nb : Nat) (sz : Nat) (mm : Nat) (σ : zS) : Option (Int32 × zS) :=
  (zb (fX7_settleWaiting_0 n nb sz mm σ) (fun q1 => (if q1.1 = 0 then (some (0, q1.2)) else (if (zI q1.2 20) ≤ 0 then (fX7_endRun_23 n nb sz mm q1.2) else (zb (fX7_writePage_0 n nb sz mm q1.2) (fun q5 => (if q5.1 = 0 then (some (0, q5.2)) else (fX7_endRun_23 n nb sz mm q5.2))))))))
/-! X9_loadRuns -/
def fX9_loadRuns_L41_41 (n : Nat) (nb : Nat) (sz : Nat) (mm : Nat) (k1 : Int32) (a : Int32 × zS) : Option ((Int32 × zS) ⊕ ((zS) ⊕ (zS))) :=
  (if a.1 ≤ 0 then (some (.inr (.inl a.2))) else (zb (fX3_takeFirst_0 n nb sz mm a.2) (fun q8 => (zb (fX7_goOut_0 n nb sz mm q8.2 q8.1) (fun q10 => (if q10.1 = 0 then (some (.inr (.inr q10.2))) else (some (.inl ((a.1 + (-1)), q10.2)))))))))
def fX9_loadRuns_L15_15 (n : Nat) (nb : Nat) (sz : Nat) (mm : Nat) (a : Int32 × zS) : Option ((Int32 × zS) ⊕ ((zS) ⊕ (zS) ⊕ (zS))) :=
  (if a.1 ≤ 0 then (some (.inr (.inl a.2))) else (if (zI a.2 16) ≤ 0 then (some (.inr (.inl a.2))) else (zb (fX9_fillMemory_0 n nb sz mm a.2) (fun q5 => (zb (zlp (fX9_loadRuns_L41_41 n nb sz mm a.1) n ((zI q5 28), q5)) (fun b13 => Sum.elim (fun b13 => (zb (fX7_endRun_0 n nb sz mm b13) (fun q15 => (if q15.1 = 0 then (some (.inr (.inr (.inr q15.2)))) else (some (.inl ((a.1 + (-1)), q15.2))))))) (fun b13 => (some (.inr (.inr (.inl b13))))) b13))))))
def fX9_loadRuns_0 (n : Nat) (nb : Nat) (sz : Nat) (mm : Nat) (σ : zS) : Option (Int32 × zS) :=
  (zb (fX3_clear_0 n nb sz mm σ) (fun q1 => (zb (zlp (fX9_loadRuns_L15_15 n nb sz mm) n ((zI q1 16), q1)) (fun b18 => Sum.elim (fun b18 => (some (1, b18))) (fun b18 => Sum.elim (fun b18 => (some (0, b18))) (fun b18 => (some (0, b18))) b18) b18))))
/-! X3_firstTurn -/
def fX3_firstTurn_0 (n : Nat) (nb : Nat) (sz : Nat) (mm : Nat) (σ : zS) : Option (Int32) :=
  (if (zI σ 28) ≤ 0 then (some 0) else (if (nI mm) ≤ 0 then (some 0) else (zg (zin 0 mm) (some ((zA σ 9) (Int32.toNatClampNeg 0))))))
/-! X9_chooseRuns -/
def fX9_chooseRuns_L23_130 (n : Nat) (nb : Nat) (sz : Nat) (mm : Nat) (σ : zS) (x1 : Int32) (x3 : Int32) : Option ((Int32 × Int32 × zS) ⊕ ((zS) ⊕ (zS) ⊕ (zS))) :=
  (some (.inl (x1, (x3 + (-1)), σ)))
def fX9_chooseRuns_L23_127 (n : Nat) (nb : Nat) (sz : Nat) (mm : Nat) (σ : zS) (x1 : Int32) (x3 : Int32) (y0 : Int32) (y1 : Int32) : Option ((Int32 × Int32 × zS) ⊕ ((zS) ⊕ (zS) ⊕ (zS))) :=
  (zb (fX3_add_0 n nb sz mm σ y1 y0) (fun q25 => (fX9_chooseRuns_L23_130 n nb sz mm q25 x1 x3)))
def fX9_chooseRuns_L23_58 (n : Nat) (nb : Nat) (sz : Nat) (mm : Nat) (σ : zS) (x1 : Int32) (x3 : Int32) : Option ((Int32 × Int32 × zS) ⊕ ((zS) ⊕ (zS) ⊕ (zS))) :=
  (zb (fX3_takeFirst_0 n nb sz mm σ) (fun q14 => (zb (fX7_goOut_0 n nb sz mm q14.2 q14.1) (fun q16 => (if q16.1 = 0 then (some (.inr (.inr (.inr q16.2)))) else (if (zI q16.2 16) ≤ 0 then (fX9_chooseRuns_L23_130 n nb sz mm q16.2 x1 x3) else (zb (fX2_next_0 n nb sz mm q16.2) (fun q20 => (zb (fX5_isBefore_0 n nb sz mm q20.2 q20.1 q14.1) (fun q22 => (if q22 = 0 then (fX9_chooseRuns_L23_127 n nb sz mm q20.2 x1 x3 x1 q20.1) else (fX9_chooseRuns_L23_127 n nb sz mm q20.2 x1 x3 (x1 + 1) q20.1))))))))))))
def fX9_chooseRuns_L23_23 (n : Nat) (nb : Nat) (sz : Nat) (mm : Nat) (a : Int32 × Int32 × zS) : Option ((Int32 × Int32 × zS) ⊕ ((zS) ⊕ (zS) ⊕ (zS))) :=
  (if a.2.1 ≤ 0 then (some (.inr (.inl a.2.2))) else (zb (fX3_firstTurn_0 n nb sz mm a.2.2) (fun q6 => (if q6 = a.1 then (fX9_chooseRuns_L23_58 n nb sz mm a.2.2 a.1 a.2.1) else (zb (fX7_endRun_0 n nb sz mm a.2.2) (fun q9 => (if q9.1 = 0 then (some (.inr (.inr (.inl q9.2)))) else (zb (fX3_firstTurn_0 n nb sz mm q9.2) (fun q12 => (fX9_chooseRuns_L23_58 n nb sz mm q9.2 q12 a.2.1))))))))))
def fX9_chooseRuns_0 (n : Nat) (nb : Nat) (sz : Nat) (mm : Nat) (σ : zS) : Option (Int32 × zS) :=
  (zb (fX3_clear_0 n nb sz mm σ) (fun q1 => (zb (fX9_fillMemory_0 n nb sz mm q1) (fun q3 => (zb (zlp (fX9_chooseRuns_L23_23 n nb sz mm) n (0, (zI q1 16), q3)) (fun b27 => Sum.elim (fun b27 => (zb (fX7_endRun_0 n nb sz mm b27) (fun q29 => (zg (zbo q29.1) (some (q29.1, q29.2)))))) (fun b27 => Sum.elim (fun b27 => (some (0, b27))) (fun b27 => (some (0, b27))) b27) b27))))))
/-! X9_copyRuns -/
def fX9_copyRuns_L10_51 (n : Nat) (nb : Nat) (sz : Nat) (mm : Nat) (σ : zS) (x2 : Int32) (x3 : Int32) : Option ((Int32 × Int32 × zS) ⊕ ((zS) ⊕ (zS) ⊕ (zS))) :=
  (zb (fX7_goOut_0 n nb sz mm σ x3) (fun q11 => (if q11.1 = 0 then (some (.inr (.inr (.inr q11.2)))) else (some (.inl (x3, (x2 + (-1)), q11.2))))))
def fX9_copyRuns_L10_10 (n : Nat) (nb : Nat) (sz : Nat) (mm : Nat) (a : Int32 × Int32 × zS) : Option ((Int32 × Int32 × zS) ⊕ ((zS) ⊕ (zS) ⊕ (zS))) :=
  (if a.2.1 ≤ 0 then (some (.inr (.inl a.2.2))) else (zb (fX2_next_0 n nb sz mm a.2.2) (fun q2 => (if a.1 = (-1) then (fX9_copyRuns_L10_51 n nb sz mm q2.2 a.2.1 q2.1) else (zb (fX5_isBefore_0 n nb sz mm q2.2 q2.1 a.1) (fun q5 => (if q5 = 0 then (fX9_copyRuns_L10_51 n nb sz mm q2.2 a.2.1 q2.1) else (zb (fX7_endRun_0 n nb sz mm q2.2) (fun q8 => (if q8.1 = 0 then (some (.inr (.inr (.inl q8.2)))) else (fX9_copyRuns_L10_51 n nb sz mm q8.2 a.2.1 q2.1)))))))))))
def fX9_copyRuns_0 (n : Nat) (nb : Nat) (sz : Nat) (mm : Nat) (σ : zS) : Option (Int32 × zS) :=
  (zb (zlp (fX9_copyRuns_L10_10 n nb sz mm) n ((-1), (zI σ 16), σ)) (fun b14 => Sum.elim (fun b14 => (zb (fX7_endRun_0 n nb sz mm b14) (fun q16 => (zg (zbo q16.1) (some (q16.1, q16.2)))))) (fun b14 => Sum.elim (fun b14 => (some (0, b14))) (fun b14 => (some (0, b14))) b14) b14))
/-! X6_size -/
def fX6_size_0 (n : Nat) (ln : Nat) (σ : zS) : Option (Int32) :=
  (some (zI σ 0))
/-! X6_clear -/
def fX6_clear_0 (n : Nat) (ln : Nat) (σ : zS) : Option (zS) :=
  (some (sI σ 0 0))
/-! X5_hasKey -/
def fX5_hasKey_L2_2 (n : Nat) (nb : Nat) (sz : Nat) (mm : Nat) (σ : zS) (k1 : Int32) (a : Int32) : Option ((Int32) ⊕ ((Unit) ⊕ (Unit))) :=
  (if (zI σ 8) ≤ a then (some (.inr (.inl ()))) else (if (nI 4) ≤ a then (some (.inr (.inl ()))) else (zg (zin a 4) (if ((zA σ 1) (Int32.toNatClampNeg a)) = k1 then (some (.inr (.inr ()))) else (some (.inl (a + 1)))))))
def fX5_hasKey_0 (n : Nat) (nb : Nat) (sz : Nat) (mm : Nat) (σ : zS) (x1 : Int32) : Option (Int32) :=
  (zb (zlp (fX5_hasKey_L2_2 n nb sz mm σ x1) n 0) (fun b5 => Sum.elim (fun b5 => (some 0)) (fun b5 => (some 1)) b5))
/-! X5_canSum -/
def fX5_canSum_0 (n : Nat) (nb : Nat) (sz : Nat) (mm : Nat) (σ : zS) : Option (Int32) :=
  (if (zI σ 8) ≤ 0 then (some 0) else (zb (fX5_hasKey_0 n nb sz mm σ ((zI σ 9) - 1)) (fun q2 => (if q2 = 0 then (some 1) else (some 0)))))
/-! X7_beginStep -/
def fX7_beginStep_34 (n : Nat) (nb : Nat) (sz : Nat) (mm : Nat) (σ : zS) (y0 : Int32) : Option (zS) :=
  (zg (zbo y0) (zb (fX6_clear_0 n nb (zrv (zI σ 25) (zA σ 6))) (fun q8 => (zb (fX6_clear_0 n nb (zrv (zI σ 26) (zA σ 7))) (fun q10 => (zb (fX7_beginRun_0 n nb sz mm (sA (sI (sA (sI (sI σ 19 y0) 25 (zI q8 0)) 6 (zA q8 0)) 26 (zI q10 0)) 7 (zA q10 0))) (fun q12 => (some q12))))))))
def fX7_beginStep_33 (n : Nat) (nb : Nat) (sz : Nat) (mm : Nat) (σ : zS) : Option (zS) :=
  (fX7_beginStep_34 n nb sz mm σ 0)
def fX7_beginStep_10 (n : Nat) (nb : Nat) (sz : Nat) (mm : Nat) (σ : zS) (x1 : Int32) (y0 : Int32) : Option (zS) :=
  (zg (zbo y0) (if x1 = 2 then (zb (fX5_canSum_0 n nb sz mm (sI σ 18 y0)) (fun q4 => (if q4 = 0 then (fX7_beginStep_33 n nb sz mm (sI σ 18 y0)) else (fX7_beginStep_34 n nb sz mm (sI σ 18 y0) 1)))) else (fX7_beginStep_33 n nb sz mm (sI σ 18 y0))))
def fX7_beginStep_0 (n : Nat) (nb : Nat) (sz : Nat) (mm : Nat) (σ : zS) (x1 : Int32) : Option (zS) :=
  (if x1 = 0 then (fX7_beginStep_10 n nb sz mm σ x1 0) else (fX7_beginStep_10 n nb sz mm σ x1 1))
/-! X1_heldBy -/
def fX1_heldBy_0 (n : Nat) (nb : Nat) (sz : Nat) (mm : Nat) (σ : zS) (x1 : Int32) : Option (Int32) :=
  (if x1 < 0 then (some 0) else (if (nI nb) ≤ x1 then (some 0) else (zg (zin x1 nb) (some ((zA σ 4) (Int32.toNatClampNeg x1))))))
/-! X4_start -/
def fX4_start_L4_4 (n : Nat) (nb : Nat) (sz : Nat) (mm : Nat) (a : Int32 × Int32 × zS) : Option ((Int32 × Int32 × zS) ⊕ (Int32 × zS)) :=
  (zb (fX6_size_0 n 8 (zrv (zI a.2.2 29) (zA a.2.2 10))) (fun q1 => (if q1 ≤ a.2.1 then (some (.inr (a.1, a.2.2))) else (if 8 ≤ a.2.1 then (some (.inr (a.1, a.2.2))) else (zb (fX6_get_0 n 8 (zrv (zI a.2.2 29) (zA a.2.2 10)) a.2.1) (fun q5 => (zb (fX0_readBlock_0 n nb sz mm a.2.2 q5) (fun q7 => (zg (zin a.2.1 8) (zg (zin a.2.1 8) (zg (zin a.2.1 8) (zb (fX1_heldBy_0 n nb sz mm (sA (sA (sA q7 11 (upd (zA q7 11) (Int32.toNatClampNeg a.2.1) q5)) 12 (upd (zA q7 12) (Int32.toNatClampNeg a.2.1) 0)) 13 (upd (zA q7 13) (Int32.toNatClampNeg a.2.1) (q5 * (zI q7 1)))) q5) (fun q12 => (some (.inl ((a.1 + q12), (a.2.1 + 1), (sA (sA (sA q7 11 (upd (zA q7 11) (Int32.toNatClampNeg a.2.1) q5)) 12 (upd (zA q7 12) (Int32.toNatClampNeg a.2.1) 0)) 13 (upd (zA q7 13) (Int32.toNatClampNeg a.2.1) (q5 * (zI q7 1))))))))))))))))))))
def fX4_start_0 (n : Nat) (nb : Nat) (sz : Nat) (mm : Nat) (σ : zS) : Option (Int32 × zS) :=
  (zb (zlp (fX4_start_L4_4 n nb sz mm) n (0, 0, σ)) (fun b14 => (some (b14.1, b14.2))))
/-! X4_firstAtHand -/
def fX4_firstAtHand_L4_60 (n : Nat) (nb : Nat) (sz : Nat) (mm : Nat) (σ : zS) (x1 : Int32) (x2 : Int32) : Option ((Int32 × Int32) ⊕ (Int32)) :=
  (some (.inl (x1, (x2 + 1))))
def fX4_firstAtHand_L4_58 (n : Nat) (nb : Nat) (sz : Nat) (mm : Nat) (σ : zS) (x2 : Int32) : Option ((Int32 × Int32) ⊕ (Int32)) :=
  (fX4_firstAtHand_L4_60 n nb sz mm σ x2 x2)
def fX4_firstAtHand_L4_4 (n : Nat) (nb : Nat) (sz : Nat) (mm : Nat) (σ : zS) (a : Int32 × Int32) : Option ((Int32 × Int32) ⊕ (Int32)) :=
  (zb (fX6_size_0 n 8 (zrv (zI σ 29) (zA σ 10))) (fun q1 => (if q1 ≤ a.2 then (some (.inr a.1)) else (if 8 ≤ a.2 then (some (.inr a.1)) else (zg (zin a.2 8) (if ((zA σ 13) (Int32.toNatClampNeg a.2)) = (-1) then (fX4_firstAtHand_L4_60 n nb sz mm σ a.1 a.2) else (if a.1 = (-1) then (fX4_firstAtHand_L4_58 n nb sz mm σ a.2) else (zg (zin a.2 8) (zg (zin a.1 8) (zb (fX5_isBefore_0 n nb sz mm σ ((zA σ 13) (Int32.toNatClampNeg a.2)) ((zA σ 13) (Int32.toNatClampNeg a.1))) (fun q10 => (if q10 = 0 then (fX4_firstAtHand_L4_60 n nb sz mm σ a.1 a.2) else (fX4_firstAtHand_L4_58 n nb sz mm σ a.2)))))))))))))
def fX4_firstAtHand_0 (n : Nat) (nb : Nat) (sz : Nat) (mm : Nat) (σ : zS) : Option (Int32) :=
  (zb (zlp (fX4_firstAtHand_L4_4 n nb sz mm σ) n ((-1), 0)) (fun b13 => (some b13)))
/-! X4_advance -/
def fX4_advance_0 (n : Nat) (nb : Nat) (sz : Nat) (mm : Nat) (σ : zS) (x1 : Int32) : Option (zS) :=
  (if x1 < 0 then (some σ) else (if x1 < 8 then (zg (zin x1 8) (zg (zin x1 8) (zg (zin x1 8) (zb (fX6_get_0 n 8 (zrv (zI σ 29) (zA σ 10)) x1) (fun q6 => (zb (fX1_heldBy_0 n nb sz mm (sA σ 12 (upd (zA σ 12) (Int32.toNatClampNeg x1) (((zA σ 12) (Int32.toNatClampNeg x1)) + 1))) q6) (fun q8 => (if ((upd (zA σ 12) (Int32.toNatClampNeg x1) (((zA σ 12) (Int32.toNatClampNeg x1)) + 1)) (Int32.toNatClampNeg x1)) < q8 then (zg (zin x1 8) (zg (znz (if 1 < (zI σ 11) then (zI σ 11) else 1)) (if (((upd (zA σ 12) (Int32.toNatClampNeg x1) (((zA σ 12) (Int32.toNatClampNeg x1)) + 1)) (Int32.toNatClampNeg x1)) - ((upd (zA σ 12) (Int32.toNatClampNeg x1) (((zA σ 12) (Int32.toNatClampNeg x1)) + 1)) (Int32.toNatClampNeg x1)) / (if 1 < (zI σ 11) then (zI σ 11) else 1) * (if 1 < (zI σ 11) then (zI σ 11) else 1)) = 0 then (zg (zin x1 8) (zb (fX1_behind_0 n nb sz mm (sA σ 12 (upd (zA σ 12) (Int32.toNatClampNeg x1) (((zA σ 12) (Int32.toNatClampNeg x1)) + 1))) ((zA σ 11) (Int32.toNatClampNeg x1))) (fun q17 => (zg (zin x1 8) (zg (zin x1 8) (zb (fX0_readBlock_0 n nb sz mm (sA (sA σ 12 (upd (zA σ 12) (Int32.toNatClampNeg x1) (((zA σ 12) (Int32.toNatClampNeg x1)) + 1))) 11 (upd (zA σ 11) (Int32.toNatClampNeg x1) q17)) ((upd (zA σ 11) (Int32.toNatClampNeg x1) q17) (Int32.toNatClampNeg x1))) (fun q21 => (zg (zin x1 8) (zg (zin x1 8) (some (sA q21 13 (upd (zA q21 13) (Int32.toNatClampNeg x1) (((zA q21 11) (Int32.toNatClampNeg x1)) * (zI q21 1)))))))))))))) else (zg (zin x1 8) (zg (zin x1 8) (some (sA (sA σ 12 (upd (zA σ 12) (Int32.toNatClampNeg x1) (((zA σ 12) (Int32.toNatClampNeg x1)) + 1))) 13 (upd (zA σ 13) (Int32.toNatClampNeg x1) (((zA σ 13) (Int32.toNatClampNeg x1)) + (zI σ 10)))))))))) else (zg (zin x1 8) (some (sA (sA σ 12 (upd (zA σ 12) (Int32.toNatClampNeg x1) (((zA σ 12) (Int32.toNatClampNeg x1)) + 1))) 13 (upd (zA σ 13) (Int32.toNatClampNeg x1) (-1))))))))))))) else (some σ)))
/-! X0_release -/
def fX0_release_0 (n : Nat) (nb : Nat) (sz : Nat) (mm : Nat) (σ : zS) (x1 : Int32) : Option (zS) :=
  (if x1 < 0 then (some σ) else (if (nI nb) ≤ x1 then (some σ) else (zg (zin x1 nb) (some (sA σ 0 (upd (zA σ 0) (Int32.toNatClampNeg x1) (vp_nar .boolean 0)))))))
/-! X1_remove -/
def fX1_remove_L4_4 (n : Nat) (nb : Nat) (sz : Nat) (mm : Nat) (a : Int32 × Int32 × zS) : Option ((Int32 × Int32 × zS) ⊕ (zS)) :=
  (if (nI nb) ≤ a.2.1 then (some (.inr a.2.2)) else (if a.1 = (-1) then (some (.inr a.2.2)) else (zb (fX0_release_0 n nb sz mm a.2.2 a.1) (fun q3 => (zb (fX1_behind_0 n nb sz mm q3 a.1) (fun q5 => (some (.inl (q5, (a.2.1 + 1), q3)))))))))
def fX1_remove_0 (n : Nat) (nb : Nat) (sz : Nat) (mm : Nat) (σ : zS) (x1 : Int32) : Option (zS) :=
  (zb (zlp (fX1_remove_L4_4 n nb sz mm) n (x1, 0, σ)) (fun b7 => (some b7)))
/-! X7_undoStep -/
def fX7_undoStep_L2_2 (n : Nat) (nb : Nat) (sz : Nat) (mm : Nat) (a : Int32 × zS) : Option ((Int32 × zS) ⊕ (zS)) :=
  (zb (fX6_size_0 n nb (zrv (zI a.2 25) (zA a.2 6))) (fun q1 => (if q1 ≤ a.1 then (some (.inr a.2)) else (zb (fX6_get_0 n nb (zrv (zI a.2 25) (zA a.2 6)) a.1) (fun q4 => (zb (fX0_release_0 n nb sz mm a.2 q4) (fun q6 => (some (.inl ((a.1 + 1), q6))))))))))
def fX7_undoStep_0 (n : Nat) (nb : Nat) (sz : Nat) (mm : Nat) (σ : zS) : Option (zS) :=
  (zb (zlp (fX7_undoStep_L2_2 n nb sz mm) n (0, σ)) (fun b8 => (zb (fX6_clear_0 n nb (zrv (zI b8 25) (zA b8 6))) (fun q10 => (zb (fX6_clear_0 n nb (zrv (zI b8 26) (zA b8 7))) (fun q12 => (some (sA (sI (sA (sI b8 25 (zI q10 0)) 6 (zA q10 0)) 26 (zI q12 0)) 7 (zA q12 0)))))))))
/-! X4_merge -/
def fX4_merge_L15_77 (n : Nat) (nb : Nat) (sz : Nat) (mm : Nat) (σ : zS) (x2 : Int32) (x3 : Int32) : Option ((Int32 × Int32 × zS) ⊕ (Int32 × zS)) :=
  (some (.inl (x2, (x3 + (-1)), σ)))
def fX4_merge_L15_66 (n : Nat) (nb : Nat) (sz : Nat) (mm : Nat) (σ : zS) (x3 : Int32) (x4 : Int32) (y0 : Int32) : Option ((Int32 × Int32 × zS) ⊕ (Int32 × zS)) :=
  (if y0 = 0 then (fX4_merge_L15_77 n nb sz mm σ y0 x3) else (zb (fX4_advance_0 n nb sz mm σ x4) (fun q16 => (fX4_merge_L15_77 n nb sz mm q16 y0 x3))))
def fX4_merge_L15_65 (n : Nat) (nb : Nat) (sz : Nat) (mm : Nat) (σ : zS) (x3 : Int32) (x4 : Int32) : Option ((Int32 × Int32 × zS) ⊕ (Int32 × zS)) :=
  (fX4_merge_L15_66 n nb sz mm σ x3 x4 0)
def fX4_merge_L15_15 (n : Nat) (nb : Nat) (sz : Nat) (mm : Nat) (a : Int32 × Int32 × zS) : Option ((Int32 × Int32 × zS) ⊕ (Int32 × zS)) :=
  (if a.2.1 ≤ 0 then (some (.inr (a.1, a.2.2))) else (if a.1 = 0 then (some (.inr (a.1, a.2.2))) else (zb (fX4_firstAtHand_0 n nb sz mm a.2.2) (fun q7 => (if q7 < 0 then (fX4_merge_L15_65 n nb sz mm a.2.2 a.2.1 q7) else (if (nI 8) ≤ q7 then (fX4_merge_L15_65 n nb sz mm a.2.2 a.2.1 q7) else (zg (zin q7 8) (zb (fX7_goOut_0 n nb sz mm a.2.2 ((zA a.2.2 13) (Int32.toNatClampNeg q7))) (fun q12 => (if q12.1 = 0 then (fX4_merge_L15_65 n nb sz mm q12.2 a.2.1 q7) else (fX4_merge_L15_66 n nb sz mm q12.2 a.2.1 q7 1)))))))))))
def fX4_merge_L108_108 (n : Nat) (nb : Nat) (sz : Nat) (mm : Nat) (a : Int32 × zS) : Option ((Int32 × zS) ⊕ (zS)) :=
  (zb (fX6_size_0 n 8 (zrv (zI a.2 29) (zA a.2 10))) (fun q24 => (if q24 ≤ a.1 then (some (.inr a.2)) else (zb (fX6_get_0 n 8 (zrv (zI a.2 29) (zA a.2 10)) a.1) (fun q27 => (zb (fX1_remove_0 n nb sz mm a.2 q27) (fun q29 => (some (.inl ((a.1 + 1), q29))))))))))
def fX4_merge_97 (n : Nat) (nb : Nat) (sz : Nat) (mm : Nat) (σ : zS) : Option (Int32 × zS) :=
  (zb (fX7_undoStep_0 n nb sz mm σ) (fun q35 => (some ((-1), q35))))
def fX4_merge_0 (n : Nat) (nb : Nat) (sz : Nat) (mm : Nat) (σ : zS) (x1 : Int32) : Option (Int32 × zS) :=
  (zb (fX7_beginStep_0 n nb sz mm σ x1) (fun q1 => (zb (fX4_start_0 n nb sz mm q1) (fun q3 => (zb (zlp (fX4_merge_L15_15 n nb sz mm) n (1, q3.1, q3.2)) (fun b18 => (if b18.1 = 0 then (fX4_merge_97 n nb sz mm b18.2) else (zb (fX7_endRun_0 n nb sz mm b18.2) (fun q21 => (if q21.1 = 0 then (fX4_merge_97 n nb sz mm q21.2) else (zb (zlp (fX4_merge_L108_108 n nb sz mm) n (0, q21.2)) (fun b31 => (zb (fX6_get_0 n nb (zrv (zI b31 26) (zA b31 7)) 0) (fun q33 => (some (q33, b31))))))))))))))))
/-! X6_set -/
def fX6_set_0 (n : Nat) (ln : Nat) (σ : zS) (x1 : Int32) (x2 : Int32) : Option (zS) :=
  (if x1 < 0 then (some σ) else (if (zI σ 0) ≤ x1 then (some σ) else (if (nI ln) ≤ x1 then (some σ) else (zg (zin x1 ln) (some (sA σ 0 (upd (zA σ 0) (Int32.toNatClampNeg x1) x2)))))))
/-! X6_removeAt -/
def fX6_removeAt_L15_15 (n : Nat) (ln : Nat) (a : Int32 × zS) : Option ((Int32 × zS) ⊕ (zS)) :=
  (if (zI a.2 0) ≤ (a.1 + 1) then (some (.inr a.2)) else (if (nI ln) ≤ (a.1 + 1) then (some (.inr a.2)) else (zg (zin (a.1 + 1) ln) (zg (zin a.1 ln) (some (.inl ((a.1 + 1), (sA a.2 0 (upd (zA a.2 0) (Int32.toNatClampNeg a.1) ((zA a.2 0) (Int32.toNatClampNeg (a.1 + 1))))))))))))
def fX6_removeAt_0 (n : Nat) (ln : Nat) (σ : zS) (x1 : Int32) : Option (zS) :=
  (if x1 < 0 then (some σ) else (if x1 < (zI σ 0) then (zb (zlp (fX6_removeAt_L15_15 n ln) n (x1, σ)) (fun b7 => (some (sI b7 0 ((zI b7 0) - 1))))) else (some σ)))
/-! X9_mergeInGroups -/
def fX9_mergeInGroups_L45_45 (n : Nat) (nb : Nat) (sz : Nat) (mm : Nat) (k1 : Int32) (k2 : Int32) (k3 : Int32) (a : Int32 × zS) : Option ((Int32 × zS) ⊕ (zS)) :=
  (if k3 ≤ a.1 then (some (.inr a.2)) else (zb (fX6_get_0 n nb (zrv (zI a.2 32) (zA a.2 16)) (k2 + a.1)) (fun q10 => (zb (fX6_add_0 n 8 (zrv (zI a.2 29) (zA a.2 10)) q10) (fun q12 => (some (.inl ((a.1 + 1), (sA (sI a.2 29 (zI q12 0)) 10 (zA q12 0))))))))))
def fX9_mergeInGroups_L114_114 (n : Nat) (nb : Nat) (sz : Nat) (mm : Nat) (k1 : Int32) (k2 : Int32) (a : Int32 × zS) : Option ((Int32 × zS) ⊕ (zS)) :=
  (if a.1 ≤ 0 then (some (.inr a.2)) else (zb (fX6_removeAt_0 n nb (zrv (zI a.2 32) (zA a.2 16)) (k2 + a.1)) (fun q22 => (some (.inl ((a.1 + (-1)), (sA (sI a.2 32 (zI q22 0)) 16 (zA q22 0))))))))
def fX9_mergeInGroups_L2_136 (n : Nat) (nb : Nat) (sz : Nat) (mm : Nat) (σ : zS) (k1 : Int32) (x2 : Int32) : Option ((Int32 × zS) ⊕ ((zS) ⊕ (zS))) :=
  (some (.inl ((x2 + 1), σ)))
def fX9_mergeInGroups_L2_2 (n : Nat) (nb : Nat) (sz : Nat) (mm : Nat) (k1 : Int32) (a : Int32 × zS) : Option ((Int32 × zS) ⊕ ((zS) ⊕ (zS))) :=
  (zb (fX6_size_0 n nb (zrv (zI a.2 32) (zA a.2 16))) (fun q1 => (if q1 ≤ a.1 then (some (.inr (.inl a.2))) else (zb (fX6_size_0 n nb (zrv (zI a.2 32) (zA a.2 16))) (fun q4 => (if (if (q4 - a.1) < k1 then (q4 - a.1) else k1) ≤ 1 then (fX9_mergeInGroups_L2_136 n nb sz mm a.2 k1 a.1) else (zb (fX6_clear_0 n 8 (zrv (zI a.2 29) (zA a.2 10))) (fun q7 => (zb (zlp (fX9_mergeInGroups_L45_45 n nb sz mm k1 a.1 (if (q4 - a.1) < k1 then (q4 - a.1) else k1)) n (0, (sA (sI a.2 29 (zI q7 0)) 10 (zA q7 0)))) (fun b14 => (zb (fX4_merge_0 n nb sz mm b14 (zI b14 0)) (fun q16 => (if q16.1 = (-1) then (some (.inr (.inr q16.2))) else (zb (fX6_set_0 n nb (zrv (zI q16.2 32) (zA q16.2 16)) a.1 q16.1) (fun q19 => (zb (zlp (fX9_mergeInGroups_L114_114 n nb sz mm k1 a.1) n (((if (q4 - a.1) < k1 then (q4 - a.1) else k1) - 1), (sA (sI q16.2 32 (zI q19 0)) 16 (zA q19 0)))) (fun b24 => (fX9_mergeInGroups_L2_136 n nb sz mm b24 k1 a.1))))))))))))))))))
def fX9_mergeInGroups_0 (n : Nat) (nb : Nat) (sz : Nat) (mm : Nat) (σ : zS) (x1 : Int32) : Option (Int32 × zS) :=
  (zb (zlp (fX9_mergeInGroups_L2_2 n nb sz mm x1) n (0, σ)) (fun b26 => Sum.elim (fun b26 => (some (1, b26))) (fun b26 => (some (0, b26))) b26))
/-! X9_chooseFewest -/
def fX9_chooseFewest_L18_18 (n : Nat) (nb : Nat) (sz : Nat) (mm : Nat) (k1 : Int32) (k2 : Int32) (a : Int32 × zS) : Option ((Int32 × zS) ⊕ (zS)) :=
  (if k2 ≤ a.1 then (some (.inr a.2)) else (zg (zin a.1 nb) (some (.inl ((a.1 + 1), (sA a.2 17 (upd (zA a.2 17) (Int32.toNatClampNeg a.1) (vp_nar .boolean 0))))))))
def fX9_chooseFewest_L48_109 (n : Nat) (nb : Nat) (sz : Nat) (mm : Nat) (σ : zS) (k2 : Int32) (k3 : Int32) (x4 : Int32) (x5 : Int32) : Option ((Int32 × Int32) ⊕ (Int32)) :=
  (some (.inl (x4, (x5 + 1))))
def fX9_chooseFewest_L48_105 (n : Nat) (nb : Nat) (sz : Nat) (mm : Nat) (σ : zS) (k2 : Int32) (k3 : Int32) (x5 : Int32) : Option ((Int32 × Int32) ⊕ (Int32)) :=
  (fX9_chooseFewest_L48_109 n nb sz mm σ k2 k3 x5 x5)
def fX9_chooseFewest_L48_48 (n : Nat) (nb : Nat) (sz : Nat) (mm : Nat) (σ : zS) (k2 : Int32) (k3 : Int32) (a : Int32 × Int32) : Option ((Int32 × Int32) ⊕ (Int32)) :=
  (if k2 ≤ a.2 then (some (.inr a.1)) else (zg (zin a.2 nb) (if ((zA σ 17) (Int32.toNatClampNeg a.2)) = 0 then (if a.1 = (-1) then (fX9_chooseFewest_L48_105 n nb sz mm σ k2 k3 a.2) else (zb (fX6_get_0 n nb (zrv (zI σ 32) (zA σ 16)) a.2) (fun q12 => (zb (fX1_heldBy_0 n nb sz mm σ q12) (fun q14 => (zb (fX6_get_0 n nb (zrv (zI σ 32) (zA σ 16)) a.1) (fun q16 => (zb (fX1_heldBy_0 n nb sz mm σ q16) (fun q18 => (if q18 ≤ q14 then (fX9_chooseFewest_L48_109 n nb sz mm σ k2 k3 a.1 a.2) else (fX9_chooseFewest_L48_105 n nb sz mm σ k2 k3 a.2))))))))))) else (fX9_chooseFewest_L48_109 n nb sz mm σ k2 k3 a.1 a.2))))
def fX9_chooseFewest_L38_129 (n : Nat) (nb : Nat) (sz : Nat) (mm : Nat) (σ : zS) (k2 : Int32) (x3 : Int32) : Option ((Int32 × zS) ⊕ (zS)) :=
  (some (.inl ((x3 + (-1)), σ)))
def fX9_chooseFewest_L38_38 (n : Nat) (nb : Nat) (sz : Nat) (mm : Nat) (k2 : Int32) (a : Int32 × zS) : Option ((Int32 × zS) ⊕ (zS)) :=
  (if a.1 ≤ 0 then (some (.inr a.2)) else (zb (zlp (fX9_chooseFewest_L48_48 n nb sz mm a.2 k2 a.1) n ((-1), 0)) (fun b21 => (if b21 = (-1) then (fX9_chooseFewest_L38_129 n nb sz mm a.2 k2 a.1) else (zg (zin b21 nb) (fX9_chooseFewest_L38_129 n nb sz mm (sA a.2 17 (upd (zA a.2 17) (Int32.toNatClampNeg b21) (vp_nar .boolean 1))) k2 a.1))))))
def fX9_chooseFewest_L147_179 (n : Nat) (nb : Nat) (sz : Nat) (mm : Nat) (σ : zS) (k2 : Int32) (x3 : Int32) : Option ((Int32 × zS) ⊕ (zS)) :=
  (some (.inl ((x3 + 1), σ)))
def fX9_chooseFewest_L147_147 (n : Nat) (nb : Nat) (sz : Nat) (mm : Nat) (k2 : Int32) (a : Int32 × zS) : Option ((Int32 × zS) ⊕ (zS)) :=
  (if k2 ≤ a.1 then (some (.inr a.2)) else (zg (zin a.1 nb) (if ((zA a.2 17) (Int32.toNatClampNeg a.1)) = 0 then (fX9_chooseFewest_L147_179 n nb sz mm a.2 k2 a.1) else (zb (fX6_get_0 n nb (zrv (zI a.2 32) (zA a.2 16)) a.1) (fun q32 => (zb (fX6_add_0 n 8 (zrv (zI a.2 29) (zA a.2 10)) q32) (fun q34 => (fX9_chooseFewest_L147_179 n nb sz mm (sA (sI a.2 29 (zI q34 0)) 10 (zA q34 0)) k2 a.1))))))))
def fX9_chooseFewest_0 (n : Nat) (nb : Nat) (sz : Nat) (mm : Nat) (σ : zS) (x1 : Int32) : Option (zS) :=
  (zb (fX6_size_0 n nb (zrv (zI σ 32) (zA σ 16))) (fun q1 => (zb (zlp (fX9_chooseFewest_L18_18 n nb sz mm x1 (if (nI nb) < q1 then (nI nb) else q1)) n (0, σ)) (fun b5 => (zb (zlp (fX9_chooseFewest_L38_38 n nb sz mm (if (nI nb) < q1 then (nI nb) else q1)) n (x1, b5)) (fun b25 => (zb (fX6_clear_0 n 8 (zrv (zI b25 29) (zA b25 10))) (fun q27 => (zb (zlp (fX9_chooseFewest_L147_147 n nb sz mm (if (nI nb) < q1 then (nI nb) else q1)) n (0, (sA (sI b25 29 (zI q27 0)) 10 (zA q27 0)))) (fun b36 => (some b36)))))))))))
/-! X9_mergeFewest -/
def fX9_mergeFewest_L101_125 (n : Nat) (nb : Nat) (sz : Nat) (mm : Nat) (σ : zS) (k1 : Int32) (k5 : Int32) (k6 : Int32) (x7 : Int32) : Option ((Int32 × zS) ⊕ (zS)) :=
  (some (.inl ((x7 + (-1)), σ)))
def fX9_mergeFewest_L101_101 (n : Nat) (nb : Nat) (sz : Nat) (mm : Nat) (k1 : Int32) (k5 : Int32) (k6 : Int32) (a : Int32 × zS) : Option ((Int32 × zS) ⊕ (zS)) :=
  (if a.1 < 0 then (some (.inr a.2)) else (zg (zin a.1 nb) (if ((zA a.2 17) (Int32.toNatClampNeg a.1)) = 0 then (fX9_mergeFewest_L101_125 n nb sz mm a.2 k1 k5 k6 a.1) else (zb (fX6_removeAt_0 n nb (zrv (zI a.2 32) (zA a.2 16)) a.1) (fun q20 => (fX9_mergeFewest_L101_125 n nb sz mm (sA (sI a.2 32 (zI q20 0)) 16 (zA q20 0)) k1 k5 k6 a.1))))))
def fX9_mergeFewest_L38_38 (n : Nat) (nb : Nat) (sz : Nat) (mm : Nat) (k1 : Int32) (a : Int32 × Int32 × zS) : Option ((Int32 × Int32 × zS) ⊕ ((zS) ⊕ (zS))) :=
  (if a.2.1 ≤ 1 then (some (.inr (.inl a.2.2))) else (zb (fX6_size_0 n nb (zrv (zI a.2.2 32) (zA a.2.2 16))) (fun q7 => (if q7 ≤ 1 then (some (.inr (.inl a.2.2))) else (zb (fX9_chooseFewest_0 n nb sz mm a.2.2 a.1) (fun q10 => (zb (fX4_merge_0 n nb sz mm q10 (zI q10 0)) (fun q12 => (if q12.1 = (-1) then (some (.inr (.inr q12.2))) else (zb (fX6_size_0 n nb (zrv (zI q12.2 32) (zA q12.2 16))) (fun q15 => (zb (zlp (fX9_mergeFewest_L101_101 n nb sz mm k1 a.2.1 q12.1) n (((if (nI nb) < q15 then (nI nb) else q15) - 1), q12.2)) (fun b22 => (zb (fX6_add_0 n nb (zrv (zI b22 32) (zA b22 16)) q12.1) (fun q24 => (some (.inl (k1, (a.2.1 + (-1)), (sA (sI b22 32 (zI q24 0)) 16 (zA q24 0))))))))))))))))))))
def fX9_mergeFewest_33 (n : Nat) (nb : Nat) (sz : Nat) (mm : Nat) (σ : zS) (x1 : Int32) (x2 : Int32) (y0 : Int32) : Option (Int32 × zS) :=
  (zb (zlp (fX9_mergeFewest_L38_38 n nb sz mm x1) n (y0, x2, σ)) (fun b26 => Sum.elim (fun b26 => (some (1, b26))) (fun b26 => (some (0, b26))) b26))
def fX9_mergeFewest_22 (n : Nat) (nb : Nat) (sz : Nat) (mm : Nat) (σ : zS) (x1 : Int32) (x2 : Int32) : Option (Int32 × zS) :=
  (fX9_mergeFewest_33 n nb sz mm σ x1 x2 0)
def fX9_mergeFewest_0 (n : Nat) (nb : Nat) (sz : Nat) (mm : Nat) (σ : zS) (x1 : Int32) : Option (Int32 × zS) :=
  (zb (fX6_size_0 n nb (zrv (zI σ 32) (zA σ 16))) (fun q1 => (if q1 < 2 then (fX9_mergeFewest_22 n nb sz mm σ x1 q1) else (if 1 ≤ (x1 - 1) then (zg (znz (x1 - 1)) (fX9_mergeFewest_33 n nb sz mm σ x1 q1 (2 + ((q1 - 2) - (q1 - 2) / (x1 - 1) * (x1 - 1))))) else (fX9_mergeFewest_22 n nb sz mm σ x1 q1)))))
/-! X8_stepsOfLevel -/
def fX8_stepsOfLevel_0 (n : Nat) (nb : Nat) (sz : Nat) (mm : Nat) (σ : zS) : Option (Int32) :=
  (if (zI σ 30) ≤ 0 then (some 0) else (if 6 < (zI σ 30) then (some 0) else (zg (zin ((zI σ 30) - 1) 7) (some ((zA σ 14) (Int32.toNatClampNeg ((zI σ 30) - 1)))))))
/-! X8_gatherFronts_p24 -/
def fX8_gatherFronts_p24_L6_43 (n : Nat) (nb : Nat) (sz : Nat) (mm : Nat) (σ : zS) (x2 : Int32) : Option ((Int32 × zS) ⊕ (zS)) :=
  (some (.inl ((x2 + 1), σ)))
def fX8_gatherFronts_p24_L6_6 (n : Nat) (nb : Nat) (sz : Nat) (mm : Nat) (a : Int32 × zS) : Option ((Int32 × zS) ⊕ (zS)) :=
  (if (zI a.2 30) ≤ a.1 then (some (.inr a.2)) else (if 6 ≤ a.1 then (some (.inr a.2)) else (zg (zin a.1 7) (if ((zA a.2 15) (Int32.toNatClampNeg a.1)) = 0 then (zg (zin a.1 7) (zg (z7 (zT a.2 (Int32.toNatClampNeg a.1))) (zb (fX6_get_0 n nb (zrv (zU a.2 (zT a.2 (Int32.toNatClampNeg a.1))) (zV a.2 (zT a.2 (Int32.toNatClampNeg a.1)))) 0) (fun q8 => (zb (fX6_add_0 n 8 (zrv (zI a.2 29) (zA a.2 10)) q8) (fun q11 => (fX8_gatherFronts_p24_L6_43 n nb sz mm (sA (sI a.2 29 (zI q11 0)) 10 (zA q11 0)) a.1))))))) else (fX8_gatherFronts_p24_L6_43 n nb sz mm a.2 a.1)))))
def fX8_gatherFronts_p24_0 (n : Nat) (nb : Nat) (sz : Nat) (mm : Nat) (σ : zS) : Option (zS) :=
  (zb (fX6_clear_0 n 8 (zrv (zI σ 29) (zA σ 10))) (fun q1 => (zb (zlp (fX8_gatherFronts_p24_L6_6 n nb sz mm) n (1, (sA (sI σ 29 (zI q1 0)) 10 (zA q1 0)))) (fun b13 => (some b13)))))
/-! X8_shift -/
def fX8_shift_L2_48 (n : Nat) (nb : Nat) (sz : Nat) (mm : Nat) (σ : zS) (k1 : Int32) (x2 : Int32) : Option ((Int32 × zS) ⊕ (zS)) :=
  (some (.inl ((x2 + 1), σ)))
def fX8_shift_L2_2 (n : Nat) (nb : Nat) (sz : Nat) (mm : Nat) (k1 : Int32) (a : Int32 × zS) : Option ((Int32 × zS) ⊕ (zS)) :=
  (if (zI a.2 30) ≤ a.1 then (some (.inr a.2)) else (if 6 ≤ a.1 then (some (.inr a.2)) else (zg (zin a.1 7) (if ((zA a.2 15) (Int32.toNatClampNeg a.1)) ≤ 0 then (zg (zin a.1 7) (zg (z7 (zT a.2 (Int32.toNatClampNeg a.1))) (zb (fX6_removeAt_0 n nb (zrv (zU a.2 (zT a.2 (Int32.toNatClampNeg a.1))) (zV a.2 (zT a.2 (Int32.toNatClampNeg a.1)))) 0) (fun q6 => (fX8_shift_L2_48 n nb sz mm (sV (sU a.2 (zT a.2 (Int32.toNatClampNeg a.1)) (zI q6 0)) (zT a.2 (Int32.toNatClampNeg a.1)) (zA q6 0)) k1 a.1))))) else (zg (zin a.1 7) (zg (zin a.1 7) (fX8_shift_L2_48 n nb sz mm (sA a.2 15 (upd (zA a.2 15) (Int32.toNatClampNeg a.1) (((zA a.2 15) (Int32.toNatClampNeg a.1)) - 1))) k1 a.1)))))))
def fX8_shift_0 (n : Nat) (nb : Nat) (sz : Nat) (mm : Nat) (σ : zS) (x1 : Int32) : Option (zS) :=
  (zb (zlp (fX8_shift_L2_2 n nb sz mm x1) n (1, σ)) (fun b11 => (if (zI b11 30) < 1 then (some b11) else (if (zI b11 30) ≤ 6 then (if x1 = (-1) then (zg (zin (zI b11 30) 7) (zg (zin (zI b11 30) 7) (some (sA b11 15 (upd (zA b11 15) (Int32.toNatClampNeg (zI b11 30)) (((zA b11 15) (Int32.toNatClampNeg (zI b11 30))) + 1)))))) else (zg (zin (zI b11 30) 7) (zg (z7 (zT b11 (Int32.toNatClampNeg (zI b11 30)))) (zb (fX6_add_0 n nb (zrv (zU b11 (zT b11 (Int32.toNatClampNeg (zI b11 30)))) (zV b11 (zT b11 (Int32.toNatClampNeg (zI b11 30))))) x1) (fun q17 => (some (sV (sU b11 (zT b11 (Int32.toNatClampNeg (zI b11 30))) (zI q17 0)) (zT b11 (Int32.toNatClampNeg (zI b11 30))) (zA q17 0)))))))) else (some b11)))))
/-! X9_mergeLevel -/
def fX9_mergeLevel_L8_71 (n : Nat) (nb : Nat) (sz : Nat) (mm : Nat) (σ : zS) (x1 : Int32) (x2 : Int32) : Option ((Int32 × zS) ⊕ ((zS) ⊕ (zS))) :=
  (zb (fX8_shift_0 n nb sz mm σ x2) (fun q14 => (some (.inl ((x1 + (-1)), q14)))))
def fX9_mergeLevel_L8_8 (n : Nat) (nb : Nat) (sz : Nat) (mm : Nat) (a : Int32 × zS) : Option ((Int32 × zS) ⊕ ((zS) ⊕ (zS))) :=
  (if a.1 ≤ 0 then (some (.inr (.inl a.2))) else (zb (fX8_gatherFronts_p24_0 n nb sz mm a.2) (fun q4 => (zb (fX6_get_0 n 8 (zrv (zI q4 29) (zA q4 10)) 0) (fun q6 => (zb (fX6_size_0 n 8 (zrv (zI q4 29) (zA q4 10))) (fun q8 => (if q8 ≤ 1 then (fX9_mergeLevel_L8_71 n nb sz mm q4 a.1 q6) else (zb (fX4_merge_0 n nb sz mm q4 (zI q4 0)) (fun q11 => (if q11.1 = (-1) then (some (.inr (.inr q11.2))) else (fX9_mergeLevel_L8_71 n nb sz mm q11.2 a.1 q11.1))))))))))))
def fX9_mergeLevel_0 (n : Nat) (nb : Nat) (sz : Nat) (mm : Nat) (σ : zS) : Option (Int32 × zS) :=
  (zb (fX8_stepsOfLevel_0 n nb sz mm σ) (fun q1 => (zb (zlp (fX9_mergeLevel_L8_8 n nb sz mm) n (q1, σ)) (fun b16 => Sum.elim (fun b16 => (some (1, b16))) (fun b16 => (some (0, b16))) b16))))
/-! X5_blocksFor -/
def fX5_blocksFor_0 (n : Nat) (nb : Nat) (sz : Nat) (mm : Nat) (σ : zS) (x1 : Int32) : Option (Int32) :=
  (zg (znz (if 1 < (zI σ 11) then (zI σ 11) else 1)) (some (((x1 + (zI σ 11)) - 1) / (if 1 < (zI σ 11) then (zI σ 11) else 1))))
/-! X9_blocksBetween -/
def fX9_blocksBetween_L5_5 (n : Nat) (nb : Nat) (sz : Nat) (mm : Nat) (σ : zS) (k2 : Int32) (a : Int32 × Int32) : Option ((Int32 × Int32) ⊕ (Int32)) :=
  (if k2 ≤ a.2 then (some (.inr a.1)) else (if a.2 < 0 then (some (.inr a.1)) else (if (nI nb) ≤ a.2 then (some (.inr a.1)) else (zg (zin a.2 nb) (zb (fX5_blocksFor_0 n nb sz mm σ ((zA σ 18) (Int32.toNatClampNeg a.2))) (fun q5 => (some (.inl ((a.1 + q5), (a.2 + 1))))))))))
def fX9_blocksBetween_0 (n : Nat) (nb : Nat) (sz : Nat) (mm : Nat) (σ : zS) (x1 : Int32) (x2 : Int32) : Option (Int32) :=
  (zb (zlp (fX9_blocksBetween_L5_5 n nb sz mm σ x2) n (0, x1)) (fun b7 => (some b7)))
/-! X9_lengthBetween -/
def fX9_lengthBetween_L5_5 (n : Nat) (nb : Nat) (sz : Nat) (mm : Nat) (σ : zS) (k2 : Int32) (a : Int32 × Int32) : Option ((Int32 × Int32) ⊕ (Int32)) :=
  (if k2 ≤ a.2 then (some (.inr a.1)) else (if a.2 < 0 then (some (.inr a.1)) else (if (nI nb) ≤ a.2 then (some (.inr a.1)) else (zg (zin a.2 nb) (some (.inl ((a.1 + ((zA σ 18) (Int32.toNatClampNeg a.2))), (a.2 + 1))))))))
def fX9_lengthBetween_0 (n : Nat) (nb : Nat) (sz : Nat) (mm : Nat) (σ : zS) (x1 : Int32) (x2 : Int32) : Option (Int32) :=
  (zb (zlp (fX9_lengthBetween_L5_5 n nb sz mm σ x2) n (0, x1)) (fun b5 => (some b5)))
/-! X9_setLength -/
def fX9_setLength_0 (n : Nat) (nb : Nat) (sz : Nat) (mm : Nat) (σ : zS) (x1 : Int32) (x2 : Int32) : Option (zS) :=
  (if x1 < 0 then (some σ) else (if (nI nb) ≤ x1 then (some σ) else (zg (zin x1 nb) (some (sA σ 18 (upd (zA σ 18) (Int32.toNatClampNeg x1) x2))))))
/-! X9_runs -/
def fX9_runs_0 (n : Nat) (nb : Nat) (sz : Nat) (mm : Nat) (σ : zS) : Option (Int32) :=
  (zb (fX6_size_0 n nb (zrv (zI σ 32) (zA σ 16))) (fun q1 => (some q1)))
/-! X2_setDesk -/
def fX2_setDesk_0 (n : Nat) (nb : Nat) (sz : Nat) (mm : Nat) (σ : zS) (x1 : Int32) (x2 : Int64) : Option (zS) :=
  (if x1 < 0 then (some σ) else (if (nI sz) ≤ x1 then (some σ) else (zg (zin x1 sz) (some (sL σ 1 (vp_updL (zL σ 1) (Int32.toNatClampNeg x1) x2))))))
/-! X0_store_p13 -/
def fX0_store_p13_L84_84 (n : Nat) (nb : Nat) (sz : Nat) (mm : Nat) (k2 : Int32) (k3 : Int32) (k4 : Int32) (a : Int32 × zS) : Option ((Int32 × zS) ⊕ (zS)) :=
  (if k2 ≤ a.1 then (some (.inr a.2)) else (if (nI sz) ≤ a.1 then (some (.inr a.2)) else (if (nI (nb * sz)) ≤ (k4 + a.1) then (some (.inr a.2)) else (zg (zin a.1 sz) (zg (zin (k4 + a.1) (nb * sz)) (some (.inl ((a.1 + 1), (sL a.2 0 (vp_updL (zL a.2 0) (Int32.toNatClampNeg (k4 + a.1)) ((zL a.2 1) (Int32.toNatClampNeg a.1))))))))))))
def fX0_store_p13_51 (n : Nat) (nb : Nat) (sz : Nat) (mm : Nat) (σ : zS) (x2 : Int32) (x3 : Int32) : Option (Int32 × zS) :=
  (zg (zin x3 nb) (zb (fX0_moveArm_0 n nb sz mm (sI (sA σ 0 (upd (zA σ 0) (Int32.toNatClampNeg x3) (vp_nar .boolean 1))) 3 ((zI σ 3) + 1)) x3) (fun q8 => (zb (zlp (fX0_store_p13_L84_84 n nb sz mm x2 x3 (x3 * (zI q8 1))) n (0, q8)) (fun b15 => (some (x3, b15)))))))
def fX0_store_p13_0 (n : Nat) (nb : Nat) (sz : Nat) (mm : Nat) (σ : zS) (x2 : Int32) : Option (Int32 × zS) :=
  (zb (fX0_leastFree_0 n nb sz mm σ) (fun q1 => (if q1 < 0 then (some ((-1), σ)) else (if q1 < (nI nb) then (if (zI σ 6) = 0 then (some ((-1), (sI σ 7 1))) else (if (zI σ 6) ≤ 0 then (fX0_store_p13_51 n nb sz mm σ x2 q1) else (fX0_store_p13_51 n nb sz mm (sI σ 6 ((zI σ 6) - 1)) x2 q1))) else (some ((-1), σ))))))
/-! X2_bring_p35 -/
def fX2_bring_p35_L15_15 (n : Nat) (nb : Nat) (sz : Nat) (mm : Nat) (k2 : Int32) (a : Int32 × zS) : Option ((Int32 × zS) ⊕ (zS)) :=
  (if (zI a.2 9) ≤ a.1 then (some (.inr a.2)) else (if (nI 4) ≤ a.1 then (some (.inr a.2)) else (zg (zin a.1 4) (zb (fX2_setDesk_0 n nb sz mm a.2 (k2 + a.1) ((zL a.2 3) (Int32.toNatClampNeg a.1))) (fun q4 => (some (.inl ((a.1 + 1), q4))))))))
def fX2_bring_p35_142 (n : Nat) (nb : Nat) (sz : Nat) (mm : Nat) (σ : zS) : Option (Int32 × zS) :=
  (some ((((zI σ 13) + 1) - 1), (sI σ 13 ((zI σ 13) + 1))))
def fX2_bring_p35_0 (n : Nat) (nb : Nat) (sz : Nat) (mm : Nat) (σ : zS) : Option (Int32 × zS) :=
  (zb (zlp (fX2_bring_p35_L15_15 n nb sz mm ((zI σ 12) * (zI σ 10))) n (0, σ)) (fun b6 => (zb (fX2_setDesk_0 n nb sz mm b6 (((zI σ 12) * (zI σ 10)) + (zI b6 9)) (Int32.toInt64 (zI b6 13))) (fun q8 => (if (zI q8 11) ≤ ((zI q8 12) + 1) then (zb (fX0_store_p13_0 n nb sz mm q8 ((zI q8 11) * (zI q8 10))) (fun q11 => (if q11.1 = (-1) then (some ((-1), q11.2)) else (zb (fX6_add_0 n nb (zrv (zI q11.2 17) (zA q11.2 5)) q11.1) (fun q14 => (fX2_bring_p35_142 n nb sz mm (sI (sA (sI q11.2 17 (zI q14 0)) 5 (zA q14 0)) 12 0))))))) else (fX2_bring_p35_142 n nb sz mm (sI q8 12 ((zI q8 12) + 1))))))))
/-! X2_heldRecords -/
def fX2_heldRecords_0 (n : Nat) (nb : Nat) (sz : Nat) (mm : Nat) (σ : zS) : Option (Int32) :=
  (zb (fX6_size_0 n nb (zrv (zI σ 17) (zA σ 5))) (fun q1 => (some ((q1 * (zI σ 11)) + (zI σ 12)))))
/-! X2_open -/
def fX2_open_0 (n : Nat) (nb : Nat) (sz : Nat) (mm : Nat) (σ : zS) : Option (Int32 × zS) :=
  (zb (fX2_heldRecords_0 n nb sz mm (sI σ 15 0)) (fun q1 => (if (zI σ 12) = 0 then (some (1, (sI (sI (sI σ 15 0) 16 q1) 14 (-1)))) else (zb (fX0_store_p13_0 n nb sz mm (sI (sI (sI σ 15 0) 16 q1) 14 (-1)) ((zI σ 12) * (zI σ 10))) (fun q4 => (if q4.1 = (-1) then (some (0, (sI q4.2 14 q4.1))) else (zb (fX6_add_0 n nb (zrv (zI q4.2 17) (zA q4.2 5)) q4.1) (fun q7 => (some (1, (sA (sI (sI q4.2 14 q4.1) 17 (zI q7 0)) 5 (zA q7 0))))))))))))
/-! X2_removeAll -/
def fX2_removeAll_L2_2 (n : Nat) (nb : Nat) (sz : Nat) (mm : Nat) (a : Int32 × zS) : Option ((Int32 × zS) ⊕ (zS)) :=
  (zb (fX6_size_0 n nb (zrv (zI a.2 17) (zA a.2 5))) (fun q1 => (if q1 ≤ a.1 then (some (.inr a.2)) else (zb (fX6_get_0 n nb (zrv (zI a.2 17) (zA a.2 5)) a.1) (fun q4 => (zb (fX0_release_0 n nb sz mm a.2 q4) (fun q6 => (some (.inl ((a.1 + 1), q6))))))))))
def fX2_removeAll_0 (n : Nat) (nb : Nat) (sz : Nat) (mm : Nat) (σ : zS) : Option (zS) :=
  (zb (zlp (fX2_removeAll_L2_2 n nb sz mm) n (0, σ)) (fun b8 => (zb (fX6_clear_0 n nb (zrv (zI b8 17) (zA b8 5))) (fun q10 => (some (sI (sI (sA (sI b8 17 (zI q10 0)) 5 (zA q10 0)) 12 0) 14 (-1)))))))
/-! X2_undoOpen -/
def fX2_undoOpen_0 (n : Nat) (nb : Nat) (sz : Nat) (mm : Nat) (σ : zS) : Option (zS) :=
  (if (zI σ 14) = (-1) then (some σ) else (zb (fX6_size_0 n nb (zrv (zI σ 17) (zA σ 5))) (fun q2 => (zb (fX6_removeAt_0 n nb (zrv (zI σ 17) (zA σ 5)) (q2 - 1)) (fun q4 => (zb (fX0_release_0 n nb sz mm (sA (sI σ 17 (zI q4 0)) 5 (zA q4 0)) (zI σ 14)) (fun q6 => (some (sI q6 14 (-1))))))))))
/-! X7_addNewRuns_p33 -/
def fX7_addNewRuns_p33_L2_2 (n : Nat) (nb : Nat) (sz : Nat) (mm : Nat) (a : Int32 × zS) : Option ((Int32 × zS) ⊕ (zS)) :=
  (zb (fX6_size_0 n nb (zrv (zI a.2 26) (zA a.2 7))) (fun q1 => (if q1 ≤ a.1 then (some (.inr a.2)) else (zb (fX6_get_0 n nb (zrv (zI a.2 26) (zA a.2 7)) a.1) (fun q4 => (zb (fX6_add_0 n nb (zrv (zI a.2 32) (zA a.2 16)) q4) (fun q6 => (some (.inl ((a.1 + 1), (sA (sI a.2 32 (zI q6 0)) 16 (zA q6 0))))))))))))
def fX7_addNewRuns_p33_0 (n : Nat) (nb : Nat) (sz : Nat) (mm : Nat) (σ : zS) : Option (zS) :=
  (zb (zlp (fX7_addNewRuns_p33_L2_2 n nb sz mm) n (0, σ)) (fun b8 => (some b8)))
/-! X9_within -/
def fX9_within_0 (n : Nat) (σ : zS) (x0 : Int32) (x1 : Int32) (x2 : Int32) : Option (Int32) :=
  (some (if x1 < (if x2 < x0 then x2 else x0) then (if x2 < x0 then x2 else x0) else x1))
/-! X5_restart -/
def fX5_restart_0 (n : Nat) (nb : Nat) (sz : Nat) (mm : Nat) (σ : zS) (x1 : Int32) : Option (zS) :=
  (zb (fX9_within_0 n zσ0 x1 1 4) (fun q1 => (zg (znz (if 1 < (q1 + 1) then (q1 + 1) else 1)) (some (sI (sI (sI (sI σ 9 q1) 10 (q1 + 1)) 11 (if 1 < ((zI σ 1) / (if 1 < (q1 + 1) then (q1 + 1) else 1)) then ((zI σ 1) / (if 1 < (q1 + 1) then (q1 + 1) else 1)) else 1)) 8 0)))))
/-! X5_addKey -/
def fX5_addKey_61 (n : Nat) (nb : Nat) (sz : Nat) (mm : Nat) (σ : zS) : Option (Int32 × zS) :=
  (some ((zI σ 8), σ))
def fX5_addKey_0 (n : Nat) (nb : Nat) (sz : Nat) (mm : Nat) (σ : zS) (x1 : Int32) (x2 : Int32) : Option (Int32 × zS) :=
  (if (zI σ 8) < 0 then (fX5_addKey_61 n nb sz mm σ) else (if (nI 4) ≤ (zI σ 8) then (fX5_addKey_61 n nb sz mm σ) else (if (nI 4) ≤ (zI σ 8) then (fX5_addKey_61 n nb sz mm σ) else (zg (zin (zI σ 8) 4) (zg (zin (zI σ 8) 4) (fX5_addKey_61 n nb sz mm (sI (sA (sA σ 1 (upd (zA σ 1) (Int32.toNatClampNeg (zI σ 8)) x1)) 2 (upd (zA σ 2) (Int32.toNatClampNeg (zI σ 8)) (vp_nar .boolean x2))) 8 ((zI σ 8) + 1))))))))
/-! X5_firstColumn -/
def fX5_firstColumn_0 (n : Nat) (nb : Nat) (sz : Nat) (mm : Nat) (σ : zS) : Option (Int32) :=
  (if (zI σ 8) ≤ 0 then (some 0) else (if (nI 4) ≤ 0 then (some 0) else (zg (zin 0 4) (some ((zA σ 1) (Int32.toNatClampNeg 0))))))
/-! X5_isBeforeInFirstKey -/
def fX5_isBeforeInFirstKey_38 (n : Nat) (nb : Nat) (sz : Nat) (mm : Nat) (σ : zS) (x1 : Int64) (x3 : Int64) : Option (Int32) :=
  (if 0 ≤ (lg_cmp x1 x3) then (some 0) else (some 1))
def fX5_isBeforeInFirstKey_0 (n : Nat) (nb : Nat) (sz : Nat) (mm : Nat) (σ : zS) (x1 : Int64) (x3 : Int64) : Option (Int32) :=
  (if (zI σ 8) ≤ 0 then (fX5_isBeforeInFirstKey_38 n nb sz mm σ x1 x3) else (if (nI 4) ≤ 0 then (fX5_isBeforeInFirstKey_38 n nb sz mm σ x1 x3) else (zg (zin 0 4) (if ((zA σ 2) (Int32.toNatClampNeg 0)) = 0 then (fX5_isBeforeInFirstKey_38 n nb sz mm σ x1 x3) else (if (lg_cmp x1 x3) ≤ 0 then (some 0) else (some 1))))))
/-! X0_freeBlocks -/
def fX0_freeBlocks_L4_28 (n : Nat) (nb : Nat) (sz : Nat) (mm : Nat) (σ : zS) (x2 : Int32) (y0 : Int32) (y1 : Int32) : Option ((Int32 × Int32) ⊕ (Int32)) :=
  (some (.inl ((y1 + y0), (x2 + 1))))
def fX0_freeBlocks_L4_4 (n : Nat) (nb : Nat) (sz : Nat) (mm : Nat) (σ : zS) (a : Int32 × Int32) : Option ((Int32 × Int32) ⊕ (Int32)) :=
  (if (nI nb) ≤ a.2 then (some (.inr a.1)) else (zg (zin a.2 nb) (if ((zA σ 0) (Int32.toNatClampNeg a.2)) = 0 then (fX0_freeBlocks_L4_28 n nb sz mm σ a.2 1 a.1) else (fX0_freeBlocks_L4_28 n nb sz mm σ a.2 0 a.1))))
def fX0_freeBlocks_0 (n : Nat) (nb : Nat) (sz : Nat) (mm : Nat) (σ : zS) : Option (Int32) :=
  (zb (zlp (fX0_freeBlocks_L4_4 n nb sz mm σ) n (0, 0)) (fun b4 => (some b4)))
/-! X8_goUp -/
def fX8_goUp_L19_19 (n : Nat) (nb : Nat) (sz : Nat) (mm : Nat) (k1 : Int32) (a : Int32 × zS) : Option ((Int32 × zS) ⊕ (zS)) :=
  (if (zI a.2 30) ≤ a.1 then (some (.inr a.2)) else (if 6 ≤ a.1 then (some (.inr a.2)) else (zg (zin (a.1 + 1) 7) (zg (zin a.1 7) (zg (zin a.1 7) (zg (zin (a.1 + 1) 7) (zg (zin a.1 7) (some (.inl ((a.1 + 1), (sA (sA a.2 15 (upd (zA a.2 15) (Int32.toNatClampNeg a.1) ((k1 + ((zA a.2 14) (Int32.toNatClampNeg (a.1 + 1)))) - ((zA a.2 14) (Int32.toNatClampNeg a.1))))) 14 (upd (zA a.2 14) (Int32.toNatClampNeg a.1) (k1 + ((zA a.2 14) (Int32.toNatClampNeg (a.1 + 1))))))))))))))))
def fX8_goUp_0 (n : Nat) (nb : Nat) (sz : Nat) (mm : Nat) (σ : zS) : Option (zS) :=
  (zg (zin 1 7) (zb (zlp (fX8_goUp_L19_19 n nb sz mm ((zA σ 14) (Int32.toNatClampNeg 1))) n (1, (sI σ 31 ((zI σ 31) + 1)))) (fun b9 => (some b9))))
/-! X8_tapeBehind -/
def fX8_tapeBehind_0 (n : Nat) (nb : Nat) (sz : Nat) (mm : Nat) (σ : zS) (x1 : Int32) : Option (Int32 × zS) :=
  (if x1 < 1 then (some (1, σ)) else (if x1 < 6 then (zg (zin x1 7) (zg (zin (x1 + 1) 7) (if ((zA σ 15) (Int32.toNatClampNeg (x1 + 1))) ≤ ((zA σ 15) (Int32.toNatClampNeg x1)) then (zg (zin x1 7) (if ((zA σ 15) (Int32.toNatClampNeg x1)) = 0 then (zb (fX8_goUp_0 n nb sz mm σ) (fun q8 => (some (1, q8)))) else (some (1, σ)))) else (some ((x1 + 1), σ))))) else (some (1, σ))))
/-! X8_lay_p33 -/
def fX8_lay_p33_L18_55 (n : Nat) (nb : Nat) (sz : Nat) (mm : Nat) (σ : zS) (x3 : Int32) (y0 : Int32) (y1 : Int32) : Option ((Int32 × zS) ⊕ (zS)) :=
  (zg (zin y1 7) (zg (zin x3 7) (zg (zin x3 7) (some (.inl ((x3 + 1), (sA (sA σ 14 (upd (zA σ 14) (Int32.toNatClampNeg y1) y0)) 15 (upd (zA σ 15) (Int32.toNatClampNeg x3) ((upd (zA σ 14) (Int32.toNatClampNeg y1) y0) (Int32.toNatClampNeg x3))))))))))
def fX8_lay_p33_L18_54 (n : Nat) (nb : Nat) (sz : Nat) (mm : Nat) (σ : zS) (x3 : Int32) (y0 : Int32) : Option ((Int32 × zS) ⊕ (zS)) :=
  (fX8_lay_p33_L18_55 n nb sz mm σ x3 0 y0)
def fX8_lay_p33_L18_18 (n : Nat) (nb : Nat) (sz : Nat) (mm : Nat) (a : Int32 × zS) : Option ((Int32 × zS) ⊕ (zS)) :=
  (if 6 < a.1 then (some (.inr a.2)) else (zg (zin a.1 7) (zg (z7 (zT a.2 (Int32.toNatClampNeg a.1))) (zb (fX6_clear_0 n nb (zrv (zU a.2 (zT a.2 (Int32.toNatClampNeg a.1))) (zV a.2 (zT a.2 (Int32.toNatClampNeg a.1))))) (fun q5 => (if a.1 ≤ 0 then (fX8_lay_p33_L18_54 n nb sz mm (sV (sU a.2 (zT a.2 (Int32.toNatClampNeg a.1)) (zI q5 0)) (zT a.2 (Int32.toNatClampNeg a.1)) (zA q5 0)) a.1 a.1) else (if (zI a.2 30) ≤ a.1 then (fX8_lay_p33_L18_54 n nb sz mm (sV (sU a.2 (zT a.2 (Int32.toNatClampNeg a.1)) (zI q5 0)) (zT a.2 (Int32.toNatClampNeg a.1)) (zA q5 0)) a.1 a.1) else (fX8_lay_p33_L18_55 n nb sz mm (sV (sU a.2 (zT a.2 (Int32.toNatClampNeg a.1)) (zI q5 0)) (zT a.2 (Int32.toNatClampNeg a.1)) (zA q5 0)) a.1 1 a.1))))))))
def fX8_lay_p33_L79_140 (n : Nat) (nb : Nat) (sz : Nat) (mm : Nat) (σ : zS) (x3 : Int32) (x4 : Int32) : Option ((Int32 × Int32 × zS) ⊕ (zS)) :=
  (some (.inl (x3, (x4 + 1), σ)))
def fX8_lay_p33_L79_79 (n : Nat) (nb : Nat) (sz : Nat) (mm : Nat) (a : Int32 × Int32 × zS) : Option ((Int32 × Int32 × zS) ⊕ (zS)) :=
  (zb (fX6_size_0 n nb (zrv (zI a.2.2 32) (zA a.2.2 16))) (fun q15 => (if q15 ≤ a.2.1 then (some (.inr a.2.2)) else (if a.1 ≤ 0 then (some (.inr a.2.2)) else (if 6 ≤ a.1 then (some (.inr a.2.2)) else (zg (zin a.1 7) (zb (fX6_get_0 n nb (zrv (zI a.2.2 32) (zA a.2.2 16)) a.2.1) (fun q21 => (zg (z7 (zT a.2.2 (Int32.toNatClampNeg a.1))) (zb (fX6_add_0 n nb (zrv (zU a.2.2 (zT a.2.2 (Int32.toNatClampNeg a.1))) (zV a.2.2 (zT a.2.2 (Int32.toNatClampNeg a.1)))) q21) (fun q23 => (zg (zin a.1 7) (zg (zin a.1 7) (zb (fX6_size_0 n nb (zrv (zI a.2.2 32) (zA a.2.2 16))) (fun q28 => (if q28 ≤ (a.2.1 + 1) then (fX8_lay_p33_L79_140 n nb sz mm (sA (sV (sU a.2.2 (zT a.2.2 (Int32.toNatClampNeg a.1)) (zI q23 0)) (zT a.2.2 (Int32.toNatClampNeg a.1)) (zA q23 0)) 15 (upd (zA a.2.2 15) (Int32.toNatClampNeg a.1) (((zA a.2.2 15) (Int32.toNatClampNeg a.1)) - 1))) a.1 a.2.1) else (zb (fX8_tapeBehind_0 n nb sz mm (sA (sV (sU a.2.2 (zT a.2.2 (Int32.toNatClampNeg a.1)) (zI q23 0)) (zT a.2.2 (Int32.toNatClampNeg a.1)) (zA q23 0)) 15 (upd (zA a.2.2 15) (Int32.toNatClampNeg a.1) (((zA a.2.2 15) (Int32.toNatClampNeg a.1)) - 1))) a.1) (fun q31 => (fX8_lay_p33_L79_140 n nb sz mm q31.2 q31.1 a.2.1)))))))))))))))))))
def fX8_lay_p33_0 (n : Nat) (nb : Nat) (sz : Nat) (mm : Nat) (σ : zS) (x2 : Int32) : Option (zS) :=
  (zb (fX9_within_0 n zσ0 x2 3 6) (fun q1 => (zb (zlp (fX8_lay_p33_L18_18 n nb sz mm) n (0, (sI (sI σ 30 q1) 31 1))) (fun b13 => (zb (zlp (fX8_lay_p33_L79_79 n nb sz mm) n (1, 0, b13)) (fun b33 => (some b33)))))))
/-! X8_collect_p33 -/
def fX8_collect_p33_L22_22 (n : Nat) (nb : Nat) (sz : Nat) (mm : Nat) (k2 : Int32) (a : Int32 × zS) : Option ((Int32 × zS) ⊕ (zS)) :=
  (zg (zin k2 7) (zg (z7 (zT a.2 (Int32.toNatClampNeg k2))) (zb (fX6_size_0 n nb (zrv (zU a.2 (zT a.2 (Int32.toNatClampNeg k2))) (zV a.2 (zT a.2 (Int32.toNatClampNeg k2))))) (fun q6 => (if q6 ≤ a.1 then (some (.inr a.2)) else (zg (zin k2 7) (zg (z7 (zT a.2 (Int32.toNatClampNeg k2))) (zb (fX6_get_0 n nb (zrv (zU a.2 (zT a.2 (Int32.toNatClampNeg k2))) (zV a.2 (zT a.2 (Int32.toNatClampNeg k2)))) a.1) (fun q11 => (zb (fX6_add_0 n nb (zrv (zI a.2 32) (zA a.2 16)) q11) (fun q14 => (some (.inl ((a.1 + 1), (sA (sI a.2 32 (zI q14 0)) 16 (zA q14 0))))))))))))))))
def fX8_collect_p33_L6_6 (n : Nat) (nb : Nat) (sz : Nat) (mm : Nat) (a : Int32 × zS) : Option ((Int32 × zS) ⊕ (zS)) :=
  (if (zI a.2 30) < a.1 then (some (.inr a.2)) else (if 6 < a.1 then (some (.inr a.2)) else (zb (zlp (fX8_collect_p33_L22_22 n nb sz mm a.1) n (0, a.2)) (fun b16 => (some (.inl ((a.1 + 1), b16)))))))
def fX8_collect_p33_0 (n : Nat) (nb : Nat) (sz : Nat) (mm : Nat) (σ : zS) : Option (zS) :=
  (zb (fX6_clear_0 n nb (zrv (zI σ 32) (zA σ 16))) (fun q1 => (zb (zlp (fX8_collect_p33_L6_6 n nb sz mm) n (1, (sA (sI σ 32 (zI q1 0)) 16 (zA q1 0)))) (fun b18 => (some b18)))))
/-! X8_goDown -/
def fX8_goDown_L56_56 (n : Nat) (nb : Nat) (sz : Nat) (mm : Nat) (k1 : Int32) (k2 : Nat) (k3 : Int32) (a : Int32 × zS) : Option ((Int32 × zS) ⊕ (zS)) :=
  (if a.1 ≤ 1 then (some (.inr a.2)) else (zg (zin (a.1 - 1) 7) (zg (zin a.1 7) (zg (z7 (zT a.2 (Int32.toNatClampNeg (a.1 - 1)))) (zg (zin (a.1 - 1) 7) (zg (zin a.1 7) (zg (zin (a.1 - 1) 7) (zg (zin a.1 7) (some (.inl ((a.1 + (-1)), (sA (sA (sT a.2 (Int32.toNatClampNeg a.1) (zT a.2 (Int32.toNatClampNeg (a.1 - 1)))) 15 (upd (zA a.2 15) (Int32.toNatClampNeg a.1) ((zA a.2 15) (Int32.toNatClampNeg (a.1 - 1))))) 14 (upd (zA a.2 14) (Int32.toNatClampNeg a.1) (((zA a.2 14) (Int32.toNatClampNeg (a.1 - 1))) - k1))))))))))))))
def fX8_goDown_0 (n : Nat) (nb : Nat) (sz : Nat) (mm : Nat) (σ : zS) : Option (zS) :=
  (if (zI σ 30) < 2 then (some σ) else (if (zI σ 30) ≤ 6 then (zg (zin ((zI σ 30) - 1) 7) (zg (zin (zI σ 30) 7) (zg (zin (zI σ 30) 7) (zb (zlp (fX8_goDown_L56_56 n nb sz mm ((zA σ 14) (Int32.toNatClampNeg ((zI σ 30) - 1))) (zT σ (Int32.toNatClampNeg (zI σ 30))) ((zA σ 15) (Int32.toNatClampNeg (zI σ 30)))) n ((zI σ 30), σ)) (fun b14 => (zg (zin 1 7) (zg (z7 (zT σ (Int32.toNatClampNeg (zI σ 30)))) (zg (zin 1 7) (zg (zin 1 7) (some (sA (sA (sT b14 (Int32.toNatClampNeg 1) (zT σ (Int32.toNatClampNeg (zI σ 30)))) 15 (upd (zA b14 15) (Int32.toNatClampNeg 1) ((zA σ 15) (Int32.toNatClampNeg (zI σ 30))))) 14 (upd (zA b14 14) (Int32.toNatClampNeg 1) ((zA σ 14) (Int32.toNatClampNeg ((zI σ 30) - 1))))))))))))))) else (some σ)))
/-! X9_needPower -/
def fX9_needPower_0 (n : Nat) (nb : Nat) (sz : Nat) (mm : Nat) (σ : zS) : Option ((String ⊕ Unit)) :=
  (if (zI σ 7) = 0 then (some (.inr ())) else (some (.inl "java/lang/IllegalStateException")))
/-! X9_width -/
def fX9_width_44 (n : Nat) (nb : Nat) (sz : Nat) (mm : Nat) (σ : zS) : Option ((String ⊕ Unit) × zS) :=
  (some ((.inl "java/lang/IllegalStateException"), σ))
def fX9_width_10 (n : Nat) (nb : Nat) (sz : Nat) (mm : Nat) (σ : zS) : Option ((String ⊕ Unit) × zS) :=
  (some ((.inl "java/lang/IllegalArgumentException"), σ))
def fX9_width_0 (n : Nat) (nb : Nat) (sz : Nat) (mm : Nat) (σ : zS) (x1 : Int32) : Option ((String ⊕ Unit) × zS) :=
  (if x1 < 1 then (fX9_width_10 n nb sz mm σ) else (if x1 ≤ 4 then (zb (fX9_needPower_0 n nb sz mm σ) (fun q3 => Sum.elim (fun E => (some ((.inl E), σ))) (fun q3 => (zb (fX6_size_0 n nb (zrv (zI σ 32) (zA σ 16))) (fun q5 => (if 0 < q5 then (fX9_width_44 n nb sz mm σ) else (zb (fX2_heldRecords_0 n nb sz mm σ) (fun q8 => (if q8 ≤ 0 then (zb (fX5_restart_0 n nb sz mm σ x1) (fun q11 => (some ((.inr ()), q11)))) else (fX9_width_44 n nb sz mm σ)))))))) q3)) else (fX9_width_10 n nb sz mm σ)))
/-! X9_key -/
def fX9_key_15 (n : Nat) (nb : Nat) (sz : Nat) (mm : Nat) (σ : zS) : Option ((String ⊕ Int32) × zS) :=
  (some ((.inl "java/lang/IndexOutOfBoundsException"), σ))
def fX9_key_0 (n : Nat) (nb : Nat) (sz : Nat) (mm : Nat) (σ : zS) (x1 : Int32) (x2 : Int32) : Option ((String ⊕ Int32) × zS) :=
  (if x1 < 0 then (fX9_key_15 n nb sz mm σ) else (if x1 < (zI σ 9) then (zb (fX5_hasKey_0 n nb sz mm σ x1) (fun q3 => (if q3 = 0 then (zb (fX9_needPower_0 n nb sz mm σ) (fun q6 => Sum.elim (fun E => (some ((.inl E), σ))) (fun q6 => (zb (fX6_size_0 n nb (zrv (zI σ 32) (zA σ 16))) (fun q8 => (if q8 ≤ 0 then (zb (fX5_addKey_0 n nb sz mm σ x1 x2) (fun q11 => (some ((.inr q11.1), q11.2)))) else (some ((.inl "java/lang/IllegalStateException"), σ)))))) q6)) else (some ((.inl "java/lang/IllegalArgumentException"), σ))))) else (fX9_key_15 n nb sz mm σ)))
/-! X9_mode -/
def fX9_mode_9 (n : Nat) (nb : Nat) (sz : Nat) (mm : Nat) (σ : zS) : Option ((String ⊕ Int32) × zS) :=
  (some ((.inl "java/lang/IllegalArgumentException"), σ))
def fX9_mode_0 (n : Nat) (nb : Nat) (sz : Nat) (mm : Nat) (σ : zS) (x1 : Int32) : Option ((String ⊕ Int32) × zS) :=
  (if x1 < 0 then (fX9_mode_9 n nb sz mm σ) else (if x1 ≤ 2 then (zb (fX9_needPower_0 n nb sz mm σ) (fun q3 => Sum.elim (fun E => (some ((.inl E), σ))) (fun q3 => (some ((.inr (zI σ 0)), (sI σ 0 x1)))) q3)) else (fX9_mode_9 n nb sz mm σ)))
/-! X9_answerFor -/
def fX9_answerFor_25 (n : Nat) (nb : Nat) (sz : Nat) (mm : Nat) (σ : zS) (x1 : Int32) : Option ((String ⊕ Int32)) :=
  (if x1 = 0 then (some (.inr (-2))) else (zb (fX6_size_0 n nb (zrv (zI σ 32) (zA σ 16))) (fun q4 => (some (.inr q4)))))
def fX9_answerFor_0 (n : Nat) (nb : Nat) (sz : Nat) (mm : Nat) (σ : zS) (x1 : Int32) : Option ((String ⊕ Int32)) :=
  (if x1 = 0 then (if (zI σ 7) = 0 then (some (.inl "java/lang/UnsupportedOperationException")) else (fX9_answerFor_25 n nb sz mm σ x1)) else (fX9_answerFor_25 n nb sz mm σ x1))
/-! X9_feed -/
def fX9_feed_0 (n : Nat) (nb : Nat) (sz : Nat) (mm : Nat) (σ : zS) (x1 : Int64) (x3 : Int64) (x5 : Int64) (x7 : Int64) : Option ((String ⊕ Int32) × zS) :=
  (zb (fX9_needPower_0 n nb sz mm σ) (fun q1 => Sum.elim (fun E => (some ((.inl E), σ))) (fun q1 => (zb (fX9_setComing_0 n nb sz mm σ 0 x1) (fun q3 => (zb (fX9_setComing_0 n nb sz mm q3 1 x3) (fun q5 => (zb (fX9_setComing_0 n nb sz mm q5 2 x5) (fun q7 => (zb (fX9_setComing_0 n nb sz mm q7 3 x7) (fun q9 => (zb (fX2_bring_p35_0 n nb sz mm q9) (fun q11 => (if q11.1 = (-1) then (zb (fX9_answerFor_0 n nb sz mm q11.2 0) (fun q14 => Sum.elim (fun E => (some ((.inl E), q11.2))) (fun q14 => (some ((.inr q14), q11.2))) q14)) else (some ((.inr q11.1), q11.2)))))))))))))) q1))
/-! X9_run -/
def fX9_run_L54_54 (n : Nat) (nb : Nat) (sz : Nat) (mm : Nat) (k3 : Int32) (k4 : Int32) (k7 : Int32) (a : Int64 × Int32 × zS) : Option ((Int64 × Int32 × zS) ⊕ (Int64 × zS)) :=
  (if (zI a.2.2 9) ≤ a.2.1 then (some (.inr (a.1, a.2.2))) else (zg (znzL k3.toInt64) (zb (fX9_setComing_0 n nb sz mm a.2.2 a.2.1 (((Int64.toUInt64 ((a.1 * 6364136223846793005) + 1442695040888963407) >>> (Int64.toUInt64 (Int32.toInt64 33) &&& Int64.toUInt64 63)).toInt64) - ((Int64.toUInt64 ((a.1 * 6364136223846793005) + 1442695040888963407) >>> (Int64.toUInt64 (Int32.toInt64 33) &&& Int64.toUInt64 63)).toInt64) / k3.toInt64 * k3.toInt64)) (fun q10 => (some (.inl (((a.1 * 6364136223846793005) + 1442695040888963407), (a.2.1 + 1), q10)))))))
def fX9_run_L44_44 (n : Nat) (nb : Nat) (sz : Nat) (mm : Nat) (k3 : Int32) (k4 : Int32) (a : Int64 × Int32 × zS) : Option ((Int64 × Int32 × zS) ⊕ ((zS) ⊕ (Int32 × zS))) :=
  (if k4 ≤ a.2.1 then (some (.inr (.inl a.2.2))) else (zb (zlp (fX9_run_L54_54 n nb sz mm k3 k4 a.2.1) n (a.1, 0, a.2.2)) (fun b12 => (zb (fX2_bring_p35_0 n nb sz mm b12.2) (fun q14 => (if q14.1 = (-1) then (some (.inr (.inr (a.2.1, q14.2)))) else (some (.inl (b12.1, (a.2.1 + 1), q14.2)))))))))
def fX9_run_24 (n : Nat) (nb : Nat) (sz : Nat) (mm : Nat) (σ : zS) : Option ((String ⊕ Int32) × zS) :=
  (some ((.inl "java/lang/IllegalArgumentException"), σ))
def fX9_run_0 (n : Nat) (nb : Nat) (sz : Nat) (mm : Nat) (σ : zS) (x1 : Int64) (x3 : Int32) (x4 : Int32) : Option ((String ⊕ Int32) × zS) :=
  (if x3 < 1 then (fX9_run_24 n nb sz mm σ) else (if 1000000000 < x3 then (fX9_run_24 n nb sz mm σ) else (if x4 < 0 then (fX9_run_24 n nb sz mm σ) else (if x4 ≤ 300 then (zb (fX9_needPower_0 n nb sz mm σ) (fun q5 => Sum.elim (fun E => (some ((.inl E), σ))) (fun q5 => (zb (zlp (fX9_run_L44_44 n nb sz mm x3 x4) n (x1, 0, σ)) (fun b17 => Sum.elim (fun b17 => (some ((.inr x4), b17))) (fun b17 => (some ((.inr b17.1), b17.2))) b17))) q5)) else (fX9_run_24 n nb sz mm σ)))))
/-! X9_form -/
def fX9_form_125 (n : Nat) (nb : Nat) (sz : Nat) (mm : Nat) (σ : zS) (x2 : Int32) : Option ((String ⊕ Int32) × zS) :=
  (zb (fX9_answerFor_0 n nb sz mm σ x2) (fun q30 => Sum.elim (fun E => (some ((.inl E), σ))) (fun q30 => (some ((.inr q30), σ))) q30))
def fX9_form_85 (n : Nat) (nb : Nat) (sz : Nat) (mm : Nat) (σ : zS) (y0 : Int32) : Option ((String ⊕ Int32) × zS) :=
  (if y0 = 0 then (zb (fX7_undoStep_0 n nb sz mm σ) (fun q22 => (zb (fX2_undoOpen_0 n nb sz mm q22) (fun q24 => (fX9_form_125 n nb sz mm q24 y0))))) else (zb (fX2_removeAll_0 n nb sz mm σ) (fun q26 => (zb (fX7_addNewRuns_p33_0 n nb sz mm q26) (fun q28 => (fX9_form_125 n nb sz mm q28 y0))))))
def fX9_form_84 (n : Nat) (nb : Nat) (sz : Nat) (mm : Nat) (σ : zS) : Option ((String ⊕ Int32) × zS) :=
  (fX9_form_85 n nb sz mm σ 0)
def fX9_form_80 (n : Nat) (nb : Nat) (sz : Nat) (mm : Nat) (σ : zS) : Option ((String ⊕ Int32) × zS) :=
  (fX9_form_85 n nb sz mm σ 1)
def fX9_form_9 (n : Nat) (nb : Nat) (sz : Nat) (mm : Nat) (σ : zS) : Option ((String ⊕ Int32) × zS) :=
  (some ((.inl "java/lang/IllegalArgumentException"), σ))
def fX9_form_0 (n : Nat) (nb : Nat) (sz : Nat) (mm : Nat) (σ : zS) (x1 : Int32) : Option ((String ⊕ Int32) × zS) :=
  (if x1 < 0 then (fX9_form_9 n nb sz mm σ) else (if x1 ≤ 2 then (zb (fX9_needPower_0 n nb sz mm σ) (fun q3 => Sum.elim (fun E => (some ((.inl E), σ))) (fun q3 => (zb (fX7_beginStep_0 n nb sz mm σ (zI σ 0)) (fun q5 => (zb (fX2_open_0 n nb sz mm q5) (fun q7 => (if q7.1 = 0 then (fX9_form_84 n nb sz mm q7.2) else (if x1 = 0 then (zb (fX9_loadRuns_0 n nb sz mm q7.2) (fun q18 => (if q18.1 = 0 then (fX9_form_84 n nb sz mm q18.2) else (fX9_form_80 n nb sz mm q18.2)))) else (if x1 = 1 then (zb (fX9_chooseRuns_0 n nb sz mm q7.2) (fun q15 => (if q15.1 = 0 then (fX9_form_84 n nb sz mm q15.2) else (fX9_form_80 n nb sz mm q15.2)))) else (zb (fX9_copyRuns_0 n nb sz mm q7.2) (fun q12 => (if q12.1 = 0 then (fX9_form_84 n nb sz mm q12.2) else (fX9_form_80 n nb sz mm q12.2)))))))))))) q3)) else (fX9_form_9 n nb sz mm σ)))
/-! X9_needFan -/
def fX9_needFan_11 (n : Nat) (nb : Nat) (sz : Nat) (mm : Nat) (σ : zS) : Option ((String ⊕ Unit)) :=
  (some (.inl "java/lang/IllegalArgumentException"))
def fX9_needFan_0 (n : Nat) (nb : Nat) (sz : Nat) (mm : Nat) (σ : zS) (x1 : Int32) : Option ((String ⊕ Unit)) :=
  (if x1 < 2 then (fX9_needFan_11 n nb sz mm σ) else (if x1 ≤ 8 then (some (.inr ())) else (fX9_needFan_11 n nb sz mm σ)))
/-! X9_pass -/
def fX9_pass_0 (n : Nat) (nb : Nat) (sz : Nat) (mm : Nat) (σ : zS) (x1 : Int32) : Option ((String ⊕ Int32) × zS) :=
  (zb (fX9_needFan_0 n nb sz mm σ x1) (fun q1 => Sum.elim (fun E => (some ((.inl E), σ))) (fun q1 => (zb (fX9_needPower_0 n nb sz mm σ) (fun q3 => Sum.elim (fun E => (some ((.inl E), σ))) (fun q3 => (zb (fX9_mergeInGroups_0 n nb sz mm σ x1) (fun q5 => (zb (fX9_answerFor_0 n nb sz mm q5.2 q5.1) (fun q7 => Sum.elim (fun E => (some ((.inl E), q5.2))) (fun q7 => (some ((.inr q7), q5.2))) q7))))) q3))) q1))
/-! X9_best -/
def fX9_best_0 (n : Nat) (nb : Nat) (sz : Nat) (mm : Nat) (σ : zS) (x1 : Int32) : Option ((String ⊕ Int32) × zS) :=
  (zb (fX9_needFan_0 n nb sz mm σ x1) (fun q1 => Sum.elim (fun E => (some ((.inl E), σ))) (fun q1 => (zb (fX9_needPower_0 n nb sz mm σ) (fun q3 => Sum.elim (fun E => (some ((.inl E), σ))) (fun q3 => (zb (fX9_mergeFewest_0 n nb sz mm σ x1) (fun q5 => (zb (fX9_answerFor_0 n nb sz mm q5.2 q5.1) (fun q7 => Sum.elim (fun E => (some ((.inl E), q5.2))) (fun q7 => (some ((.inr q7), q5.2))) q7))))) q3))) q1))
/-! X9_plan -/
def fX9_plan_L23_23 (n : Nat) (nb : Nat) (sz : Nat) (mm : Nat) (k1 : Int32) (k2 : Int32) (a : Int32 × zS) : Option ((Int32 × zS) ⊕ (zS)) :=
  (if k2 ≤ a.1 then (some (.inr a.2)) else (zb (fX6_get_0 n nb (zrv (zI a.2 32) (zA a.2 16)) a.1) (fun q6 => (zb (fX1_heldBy_0 n nb sz mm a.2 q6) (fun q8 => (zg (zin a.1 nb) (some (.inl ((a.1 + 1), (sA a.2 18 (upd (zA a.2 18) (Int32.toNatClampNeg a.1) q8)))))))))))
def fX9_plan_L81_117 (n : Nat) (nb : Nat) (sz : Nat) (mm : Nat) (σ : zS) (k1 : Int32) (k2 : Int32) (k4 : Int32) (x3 : Int32) (x5 : Int32) (x6 : Int32) (x7 : Int32) : Option ((Int32 × Int32 × Int32 × zS) ⊕ (Int32 × Int32 × zS)) :=
  (zb (fX9_lengthBetween_0 n nb sz mm σ x6 x7) (fun q19 => (zb (fX9_setLength_0 n nb sz mm σ x5 q19) (fun q21 => (some (.inl (x3, (x5 + 1), (x6 + k1), q21)))))))
def fX9_plan_L81_81 (n : Nat) (nb : Nat) (sz : Nat) (mm : Nat) (k1 : Int32) (k2 : Int32) (k4 : Int32) (a : Int32 × Int32 × Int32 × zS) : Option ((Int32 × Int32 × Int32 × zS) ⊕ (Int32 × Int32 × zS)) :=
  (if k2 ≤ a.2.2.1 then (some (.inr (a.1, a.2.1, a.2.2.2))) else (if ((if k2 < (a.2.2.1 + k1) then k2 else (a.2.2.1 + k1)) - a.2.2.1) ≤ 1 then (fX9_plan_L81_117 n nb sz mm a.2.2.2 k1 k2 k4 a.1 a.2.1 a.2.2.1 (if k2 < (a.2.2.1 + k1) then k2 else (a.2.2.1 + k1))) else (zb (fX9_blocksBetween_0 n nb sz mm a.2.2.2 a.2.2.1 (if k2 < (a.2.2.1 + k1) then k2 else (a.2.2.1 + k1))) (fun q17 => (fX9_plan_L81_117 n nb sz mm a.2.2.2 k1 k2 k4 (a.1 + q17) a.2.1 a.2.2.1 (if k2 < (a.2.2.1 + k1) then k2 else (a.2.2.1 + k1)))))))
def fX9_plan_L60_60 (n : Nat) (nb : Nat) (sz : Nat) (mm : Nat) (k1 : Int32) (a : Int32 × Int32 × Int32 × zS) : Option ((Int32 × Int32 × Int32 × zS) ⊕ (Int32 × zS)) :=
  (if (nI nb) ≤ a.2.2.1 then (some (.inr (a.2.1, a.2.2.2))) else (if a.1 ≤ 1 then (some (.inr (a.2.1, a.2.2.2))) else (zb (zlp (fX9_plan_L81_81 n nb sz mm k1 a.1 a.2.2.1) n (a.2.1, 0, 0, a.2.2.2)) (fun b23 => (some (.inl (b23.2.1, b23.1, (a.2.2.1 + 1), b23.2.2)))))))
def fX9_plan_0 (n : Nat) (nb : Nat) (sz : Nat) (mm : Nat) (σ : zS) (x1 : Int32) : Option ((String ⊕ Int32) × zS) :=
  (zb (fX9_needFan_0 n nb sz mm σ x1) (fun q1 => Sum.elim (fun E => (some ((.inl E), σ))) (fun q1 => (zb (fX6_size_0 n nb (zrv (zI σ 32) (zA σ 16))) (fun q3 => (zb (zlp (fX9_plan_L23_23 n nb sz mm x1 (if (nI nb) < q3 then (nI nb) else q3)) n (0, σ)) (fun b11 => (zb (zlp (fX9_plan_L60_60 n nb sz mm x1) n ((if (nI nb) < q3 then (nI nb) else q3), 0, 0, b11)) (fun b25 => (some ((.inr b25.1), b25.2))))))))) q1))
/-! X9_needRun -/
def fX9_needRun_15 (n : Nat) (nb : Nat) (sz : Nat) (mm : Nat) (σ : zS) : Option ((String ⊕ Unit)) :=
  (some (.inl "java/lang/IndexOutOfBoundsException"))
def fX9_needRun_0 (n : Nat) (nb : Nat) (sz : Nat) (mm : Nat) (σ : zS) (x1 : Int32) : Option ((String ⊕ Unit)) :=
  (if x1 < 0 then (fX9_needRun_15 n nb sz mm σ) else (zb (fX6_size_0 n nb (zrv (zI σ 32) (zA σ 16))) (fun q2 => (if x1 < q2 then (some (.inr ())) else (fX9_needRun_15 n nb sz mm σ)))))
/-! X9_records -/
def fX9_records_0 (n : Nat) (nb : Nat) (sz : Nat) (mm : Nat) (σ : zS) (x1 : Int32) : Option ((String ⊕ Int32)) :=
  (if x1 = (-1) then (zb (fX2_heldRecords_0 n nb sz mm σ) (fun q8 => (some (.inr q8)))) else (zb (fX9_needRun_0 n nb sz mm σ x1) (fun q2 => Sum.elim (fun E => (some (.inl E))) (fun q2 => (zb (fX6_get_0 n nb (zrv (zI σ 32) (zA σ 16)) x1) (fun q4 => (zb (fX1_heldBy_0 n nb sz mm σ q4) (fun q6 => (some (.inr q6))))))) q2)))
/-! X9_block -/
def fX9_block_45 (n : Nat) (nb : Nat) (sz : Nat) (mm : Nat) (σ : zS) (y0 : Int32) : Option ((String ⊕ Int32)) :=
  (if y0 = (-1) then (some (.inl "java/lang/IndexOutOfBoundsException")) else (some (.inr y0)))
def fX9_block_10 (n : Nat) (nb : Nat) (sz : Nat) (mm : Nat) (σ : zS) (x1 : Int32) (x2 : Int32) : Option ((String ⊕ Int32)) :=
  (if x1 = (-1) then (zb (fX6_get_0 n nb (zrv (zI σ 17) (zA σ 5)) x2) (fun q9 => (fX9_block_45 n nb sz mm σ q9))) else (zb (fX6_get_0 n nb (zrv (zI σ 32) (zA σ 16)) x1) (fun q5 => (zb (fX1_blockAt_0 n nb sz mm σ q5 x2) (fun q7 => (fX9_block_45 n nb sz mm σ q7))))))
def fX9_block_0 (n : Nat) (nb : Nat) (sz : Nat) (mm : Nat) (σ : zS) (x1 : Int32) (x2 : Int32) : Option ((String ⊕ Int32)) :=
  (if x1 = (-1) then (fX9_block_10 n nb sz mm σ x1 x2) else (zb (fX9_needRun_0 n nb sz mm σ x1) (fun q2 => Sum.elim (fun E => (some (.inl E))) (fun q2 => (fX9_block_10 n nb sz mm σ x1 x2)) q2)))
/-! X9_told -/
def fX9_told_43 (n : Nat) (nb : Nat) (sz : Nat) (mm : Nat) (σ : zS) : Option ((String ⊕ Int64) × zS) :=
  (some ((.inl "java/lang/IndexOutOfBoundsException"), σ))
def fX9_told_0 (n : Nat) (nb : Nat) (sz : Nat) (mm : Nat) (σ : zS) (x1 : Int32) (x2 : Int32) (x3 : Int32) : Option ((String ⊕ Int64) × zS) :=
  (zb (fX9_needRun_0 n nb sz mm σ x1) (fun q1 => Sum.elim (fun E => (some ((.inl E), σ))) (fun q1 => (if x2 < 0 then (fX9_told_43 n nb sz mm σ) else (zb (fX6_get_0 n nb (zrv (zI σ 32) (zA σ 16)) x1) (fun q4 => (zb (fX1_heldBy_0 n nb sz mm σ q4) (fun q6 => (if q6 ≤ x2 then (fX9_told_43 n nb sz mm σ) else (if x3 < 0 then (fX9_told_43 n nb sz mm σ) else (if x3 ≤ (zI σ 9) then (zb (fX9_needPower_0 n nb sz mm σ) (fun q11 => Sum.elim (fun E => (some ((.inl E), σ))) (fun q11 => (zb (fX6_get_0 n nb (zrv (zI σ 32) (zA σ 16)) x1) (fun q13 => (zb (fX9_look_0 n nb sz mm σ q13 x2 x3) (fun q15 => (some ((.inr q15.1), q15.2))))))) q11)) else (fX9_told_43 n nb sz mm σ)))))))))) q1))
/-! X9_rank -/
def fX9_rank_L33_103 (n : Nat) (nb : Nat) (sz : Nat) (mm : Nat) (σ : zS) (k1 : Int32) (k2 : Int64) (x4 : Int32) (x5 : Int32) (x6 : Int32) : Option ((Int32 × Int32 × Int32 × zS) ⊕ (Int32 × zS)) :=
  (some (.inl (x4, x5, (x6 + (-1)), σ)))
def fX9_rank_L33_33 (n : Nat) (nb : Nat) (sz : Nat) (mm : Nat) (k1 : Int32) (k2 : Int64) (a : Int32 × Int32 × Int32 × zS) : Option ((Int32 × Int32 × Int32 × zS) ⊕ (Int32 × zS)) :=
  (if a.2.2.1 ≤ 0 then (some (.inr (a.1, a.2.2.2))) else (if a.2.1 ≤ a.1 then (some (.inr (a.1, a.2.2.2))) else (zg (znz 2) (zb (fX6_get_0 n nb (zrv (zI a.2.2.2 32) (zA a.2.2.2 16)) k1) (fun q12 => (zb (fX5_firstColumn_0 n nb sz mm a.2.2.2) (fun q14 => (zb (fX9_look_0 n nb sz mm a.2.2.2 q12 ((a.1 + a.2.1) / 2) q14) (fun q16 => (zb (fX5_isBeforeInFirstKey_0 n nb sz mm q16.2 q16.1 k2) (fun q18 => (if q18 = 0 then (fX9_rank_L33_103 n nb sz mm q16.2 k1 k2 a.1 ((a.1 + a.2.1) / 2) a.2.2.1) else (fX9_rank_L33_103 n nb sz mm q16.2 k1 k2 (((a.1 + a.2.1) / 2) + 1) a.2.1 a.2.2.1)))))))))))))
def fX9_rank_0 (n : Nat) (nb : Nat) (sz : Nat) (mm : Nat) (σ : zS) (x1 : Int32) (x2 : Int64) : Option ((String ⊕ Int32) × zS) :=
  (zb (fX9_needRun_0 n nb sz mm σ x1) (fun q1 => Sum.elim (fun E => (some ((.inl E), σ))) (fun q1 => (zb (fX9_needPower_0 n nb sz mm σ) (fun q3 => Sum.elim (fun E => (some ((.inl E), σ))) (fun q3 => (zb (fX6_get_0 n nb (zrv (zI σ 32) (zA σ 16)) x1) (fun q5 => (zb (fX1_heldBy_0 n nb sz mm σ q5) (fun q7 => (zb (zlp (fX9_rank_L33_33 n nb sz mm x1 x2) n (0, q7, q7, σ)) (fun b21 => (some ((.inr b21.1), b21.2))))))))) q3))) q1))
/-! X9_drop -/
def fX9_drop_0 (n : Nat) (nb : Nat) (sz : Nat) (mm : Nat) (σ : zS) (x1 : Int32) : Option ((String ⊕ Int32) × zS) :=
  (zb (fX9_needRun_0 n nb sz mm σ x1) (fun q1 => Sum.elim (fun E => (some ((.inl E), σ))) (fun q1 => (zb (fX9_needPower_0 n nb sz mm σ) (fun q3 => Sum.elim (fun E => (some ((.inl E), σ))) (fun q3 => (zb (fX6_get_0 n nb (zrv (zI σ 32) (zA σ 16)) x1) (fun q5 => (zb (fX1_remove_0 n nb sz mm σ q5) (fun q7 => (zb (fX6_removeAt_0 n nb (zrv (zI q7 32) (zA q7 16)) x1) (fun q9 => (zb (fX6_size_0 n nb (zrv (zI q9 0) (zA q9 0))) (fun q11 => (some ((.inr q11), (sA (sI q7 32 (zI q9 0)) 16 (zA q9 0))))))))))))) q3))) q1))
/-! X9_count -/
def fX9_count_0 (n : Nat) (nb : Nat) (sz : Nat) (mm : Nat) (σ : zS) (x1 : Int32) : Option ((String ⊕ Int32)) :=
  (if x1 = 0 then (some (.inr (zI σ 2))) else if x1 = 1 then (some (.inr (zI σ 3))) else if x1 = 2 then (some (.inr (zI σ 4))) else if x1 = 3 then (some (.inr (zI σ 5))) else if x1 = 4 then (zb (fX0_freeBlocks_0 n nb sz mm σ) (fun q6 => (some (.inr q6)))) else if x1 = 5 then (some (.inr (zI σ 13))) else if x1 = 6 then (some (.inr (zI σ 11))) else if x1 = 7 then (some (.inr (zI σ 12))) else if x1 = 8 then (some (.inr (zI σ 8))) else if x1 = 9 then (some (.inr (zI σ 0))) else if x1 = 10 then (some (.inr (zI σ 9))) else if x1 = 11 then (if (zI σ 7) = 0 then (some (.inr 0)) else (some (.inr 1))) else (some (.inl "java/lang/IllegalArgumentException")))
/-! X9_crash -/
def fX9_crash_12 (n : Nat) (nb : Nat) (sz : Nat) (mm : Nat) (σ : zS) : Option ((String ⊕ Unit) × zS) :=
  (some ((.inl "java/lang/IllegalArgumentException"), σ))
def fX9_crash_0 (n : Nat) (nb : Nat) (sz : Nat) (mm : Nat) (σ : zS) (x1 : Int32) : Option ((String ⊕ Unit) × zS) :=
  (if x1 < (-1) then (fX9_crash_12 n nb sz mm σ) else (if x1 ≤ 100000 then (zb (fX9_needPower_0 n nb sz mm σ) (fun q3 => Sum.elim (fun E => (some ((.inl E), σ))) (fun q3 => (some ((.inr ()), (sI σ 6 x1)))) q3)) else (fX9_crash_12 n nb sz mm σ)))
/-! X9_up -/
def fX9_up_0 (n : Nat) (nb : Nat) (sz : Nat) (mm : Nat) (σ : zS) : Option ((String ⊕ Int32) × zS) :=
  (if (zI σ 7) = 0 then (some ((.inl "java/lang/IllegalStateException"), σ)) else (zb (fX6_size_0 n nb (zrv (zI σ 32) (zA σ 16))) (fun q2 => (some ((.inr q2), (sI (sI σ 7 0) 6 (-1)))))))
/-! X9_poly -/
def fX9_poly_L47_71 (n : Nat) (nb : Nat) (sz : Nat) (mm : Nat) (σ : zS) (x2 : Int32) (x3 : Int32) : Option ((Int32 × Int32 × zS) ⊕ (Int32 × zS)) :=
  (some (.inl (x2, (x3 + (-1)), σ)))
def fX9_poly_L47_47 (n : Nat) (nb : Nat) (sz : Nat) (mm : Nat) (a : Int32 × Int32 × zS) : Option ((Int32 × Int32 × zS) ⊕ (Int32 × zS)) :=
  (if a.2.1 ≤ 0 then (some (.inr (a.1, a.2.2))) else (if a.1 = 0 then (some (.inr (a.1, a.2.2))) else (zb (fX9_mergeLevel_0 n nb sz mm a.2.2) (fun q9 => (if q9.1 = 0 then (fX9_poly_L47_71 n nb sz mm q9.2 q9.1 a.2.1) else (zb (fX8_goDown_0 n nb sz mm q9.2) (fun q12 => (fX9_poly_L47_71 n nb sz mm q12 q9.1 a.2.1))))))))
def fX9_poly_11 (n : Nat) (nb : Nat) (sz : Nat) (mm : Nat) (σ : zS) : Option ((String ⊕ Int32) × zS) :=
  (some ((.inl "java/lang/IllegalArgumentException"), σ))
def fX9_poly_0 (n : Nat) (nb : Nat) (sz : Nat) (mm : Nat) (σ : zS) (x1 : Int32) : Option ((String ⊕ Int32) × zS) :=
  (if x1 < 3 then (fX9_poly_11 n nb sz mm σ) else (if x1 ≤ 6 then (zb (fX9_needPower_0 n nb sz mm σ) (fun q3 => Sum.elim (fun E => (some ((.inl E), σ))) (fun q3 => (zb (fX8_lay_p33_0 n nb sz mm σ x1) (fun q5 => (zb (zlp (fX9_poly_L47_47 n nb sz mm) n (1, (zI q5 31), q5)) (fun b14 => (zb (fX8_collect_p33_0 n nb sz mm b14.2) (fun q16 => (zb (fX9_answerFor_0 n nb sz mm q16 b14.1) (fun q18 => Sum.elim (fun E => (some ((.inl E), q16))) (fun q18 => (some ((.inr q18), q16))) q18))))))))) q3)) else (fX9_poly_11 n nb sz mm σ)))
