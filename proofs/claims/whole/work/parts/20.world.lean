def wM_f0 (κ : zG) (σ : zS) : List Value := [.int (zI σ 0), .int (zI σ 1), .int (zI σ 2), .int (zI σ 3), .ref (κ.2.1 1), .ref (κ.2.1 2), .ref (κ.2.1 3), .ref (κ.2.1 4), .ref (κ.2.1 5), .ref (κ.2.1 6), .ref (κ.2.1 7), .ref (κ.2.1 8), .ref (κ.2.1 9), .int (zI σ 4), .ref (κ.2.1 10), .int (zI σ 5), .int (zI σ 6), .ref (κ.2.1 11), .ref (κ.2.1 12), .int (zI σ 7), .int (zI σ 8), .int (zI σ 9), .int (zI σ 10), .int (zI σ 11), .int (zI σ 12), .int (zI σ 13), .int (zI σ 14), .int (zI σ 15), .int (zI σ 16), .int (zI σ 17), .int (zI σ 18), .ref (κ.2.1 13), .int (zI σ 19), .ref (κ.2.1 14), .int (zI σ 20), .ref (κ.2.1 15), .int (zI σ 21), .int (zI σ 22), .int (zI σ 23), .ref (κ.2.1 16), .ref (κ.2.1 17), .int (zI σ 24), .ref (κ.2.1 18), .int (zI σ 25), .ref (κ.2.1 19), .ref (κ.2.1 20), .ref (κ.2.1 21), .ref (κ.2.1 22), .ref (κ.2.1 23), .ref (κ.2.1 24), .ref (κ.2.1 25), .ref (κ.2.1 26), .ref (κ.2.1 27), .ref (κ.2.1 28), .ref (κ.2.1 29), .int (zI σ 26), .ref (κ.2.1 30)]
def wM (κ : zG) (σ : zS) : va_W := [((κ.2.1 0), .inr (10, wM_f0 κ σ)),
  ((κ.2.1 1), .inl (κ.2.2.1 1, 12800, .inr (.inl (zL σ 0)))),
  ((κ.2.1 2), .inl (κ.2.2.1 2, 200, .inl (zA σ 0))),
  ((κ.2.1 3), .inl (κ.2.2.1 2, 200, .inl (zA σ 1))),
  ((κ.2.1 4), .inl (κ.2.2.1 0, 200, .inl (zA σ 2))),
  ((κ.2.1 5), .inl (κ.2.2.1 0, 208, .inl (zA σ 3))),
  ((κ.2.1 6), .inl (κ.2.2.1 0, 208, .inl (zA σ 4))),
  ((κ.2.1 7), .inl (κ.2.2.1 0, 208, .inl (zA σ 5))),
  ((κ.2.1 8), .inl (κ.2.2.1 2, 208, .inl (zA σ 6))),
  ((κ.2.1 9), .inl (κ.2.2.1 0, 208, .inl (zA σ 7))),
  ((κ.2.1 10), .inl (κ.2.2.1 1, 64, .inr (.inl (zL σ 1)))),
  ((κ.2.1 11), .inl (κ.2.2.1 0, 4, .inl (zA σ 8))),
  ((κ.2.1 12), .inl (κ.2.2.1 2, 4, .inl (zA σ 9))),
  ((κ.2.1 13), .inl (κ.2.2.1 1, 64, .inr (.inl (zL σ 2)))),
  ((κ.2.1 14), .inl (κ.2.2.1 1, 5, .inr (.inl (zL σ 3)))),
  ((κ.2.1 15), .inl (κ.2.2.1 1, 4, .inr (.inl (zL σ 4)))),
  ((κ.2.1 16), .inl (κ.2.2.1 0, 64, .inl (zA σ 10))),
  ((κ.2.1 17), .inl (κ.2.2.1 2, 64, .inl (zA σ 11))),
  ((κ.2.1 18), .inl (κ.2.2.1 0, 208, .inl (zA σ 12))),
  ((κ.2.1 19), .inl (κ.2.2.1 0, 8, .inl (zA σ 13))),
  ((κ.2.1 20), .inl (κ.2.2.1 0, 8, .inl (zA σ 14))),
  ((κ.2.1 21), .inl (κ.2.2.1 0, 8, .inl (zA σ 15))),
  ((κ.2.1 22), .inl (κ.2.2.1 0, 8, .inl (zA σ 16))),
  ((κ.2.1 23), .inl (κ.2.2.1 2, 208, .inl (zA σ 17))),
  ((κ.2.1 24), .inl (κ.2.2.1 0, 1456, .inl (zA σ 18))),
  ((κ.2.1 25), .inl (κ.2.2.1 0, 7, .inl (zA σ 19))),
  ((κ.2.1 26), .inl (κ.2.2.1 0, 7, .inl (zA σ 20))),
  ((κ.2.1 27), .inl (κ.2.2.1 0, 7, .inl (zA σ 21))),
  ((κ.2.1 28), .inl (κ.2.2.1 0, 7, .inl (zA σ 22))),
  ((κ.2.1 29), .inl (κ.2.2.1 0, 8, .inl (zA σ 23))),
  ((κ.2.1 30), .inl (κ.2.2.1 0, 208, .inl (zA σ 24)))]
theorem wM_at0 (κ : zG) (σ : zS) : (wM κ σ)[0]? = some ((κ.2.1 0), .inr (10, wM_f0 κ σ)) := rfl
theorem wM_s0_0 (κ : zG) (σ : zS) (v : Int32) : (wM κ σ).set 0 ((κ.2.1 0), .inr (10, (wM_f0 κ σ).set 0 (.int v))) = wM κ (sI σ 0 v) := rfl
theorem wM_s0_1 (κ : zG) (σ : zS) (v : Int32) : (wM κ σ).set 0 ((κ.2.1 0), .inr (10, (wM_f0 κ σ).set 1 (.int v))) = wM κ (sI σ 1 v) := rfl
theorem wM_s0_2 (κ : zG) (σ : zS) (v : Int32) : (wM κ σ).set 0 ((κ.2.1 0), .inr (10, (wM_f0 κ σ).set 2 (.int v))) = wM κ (sI σ 2 v) := rfl
theorem wM_s0_3 (κ : zG) (σ : zS) (v : Int32) : (wM κ σ).set 0 ((κ.2.1 0), .inr (10, (wM_f0 κ σ).set 3 (.int v))) = wM κ (sI σ 3 v) := rfl
theorem wM_s0_13 (κ : zG) (σ : zS) (v : Int32) : (wM κ σ).set 0 ((κ.2.1 0), .inr (10, (wM_f0 κ σ).set 13 (.int v))) = wM κ (sI σ 4 v) := rfl
theorem wM_s0_15 (κ : zG) (σ : zS) (v : Int32) : (wM κ σ).set 0 ((κ.2.1 0), .inr (10, (wM_f0 κ σ).set 15 (.int v))) = wM κ (sI σ 5 v) := rfl
theorem wM_s0_16 (κ : zG) (σ : zS) (v : Int32) : (wM κ σ).set 0 ((κ.2.1 0), .inr (10, (wM_f0 κ σ).set 16 (.int v))) = wM κ (sI σ 6 v) := rfl
theorem wM_s0_19 (κ : zG) (σ : zS) (v : Int32) : (wM κ σ).set 0 ((κ.2.1 0), .inr (10, (wM_f0 κ σ).set 19 (.int v))) = wM κ (sI σ 7 v) := rfl
theorem wM_s0_20 (κ : zG) (σ : zS) (v : Int32) : (wM κ σ).set 0 ((κ.2.1 0), .inr (10, (wM_f0 κ σ).set 20 (.int v))) = wM κ (sI σ 8 v) := rfl
theorem wM_s0_21 (κ : zG) (σ : zS) (v : Int32) : (wM κ σ).set 0 ((κ.2.1 0), .inr (10, (wM_f0 κ σ).set 21 (.int v))) = wM κ (sI σ 9 v) := rfl
theorem wM_s0_22 (κ : zG) (σ : zS) (v : Int32) : (wM κ σ).set 0 ((κ.2.1 0), .inr (10, (wM_f0 κ σ).set 22 (.int v))) = wM κ (sI σ 10 v) := rfl
theorem wM_s0_23 (κ : zG) (σ : zS) (v : Int32) : (wM κ σ).set 0 ((κ.2.1 0), .inr (10, (wM_f0 κ σ).set 23 (.int v))) = wM κ (sI σ 11 v) := rfl
theorem wM_s0_24 (κ : zG) (σ : zS) (v : Int32) : (wM κ σ).set 0 ((κ.2.1 0), .inr (10, (wM_f0 κ σ).set 24 (.int v))) = wM κ (sI σ 12 v) := rfl
theorem wM_s0_25 (κ : zG) (σ : zS) (v : Int32) : (wM κ σ).set 0 ((κ.2.1 0), .inr (10, (wM_f0 κ σ).set 25 (.int v))) = wM κ (sI σ 13 v) := rfl
theorem wM_s0_26 (κ : zG) (σ : zS) (v : Int32) : (wM κ σ).set 0 ((κ.2.1 0), .inr (10, (wM_f0 κ σ).set 26 (.int v))) = wM κ (sI σ 14 v) := rfl
theorem wM_s0_27 (κ : zG) (σ : zS) (v : Int32) : (wM κ σ).set 0 ((κ.2.1 0), .inr (10, (wM_f0 κ σ).set 27 (.int v))) = wM κ (sI σ 15 v) := rfl
theorem wM_s0_28 (κ : zG) (σ : zS) (v : Int32) : (wM κ σ).set 0 ((κ.2.1 0), .inr (10, (wM_f0 κ σ).set 28 (.int v))) = wM κ (sI σ 16 v) := rfl
theorem wM_s0_29 (κ : zG) (σ : zS) (v : Int32) : (wM κ σ).set 0 ((κ.2.1 0), .inr (10, (wM_f0 κ σ).set 29 (.int v))) = wM κ (sI σ 17 v) := rfl
theorem wM_s0_30 (κ : zG) (σ : zS) (v : Int32) : (wM κ σ).set 0 ((κ.2.1 0), .inr (10, (wM_f0 κ σ).set 30 (.int v))) = wM κ (sI σ 18 v) := rfl
theorem wM_s0_32 (κ : zG) (σ : zS) (v : Int32) : (wM κ σ).set 0 ((κ.2.1 0), .inr (10, (wM_f0 κ σ).set 32 (.int v))) = wM κ (sI σ 19 v) := rfl
theorem wM_s0_34 (κ : zG) (σ : zS) (v : Int32) : (wM κ σ).set 0 ((κ.2.1 0), .inr (10, (wM_f0 κ σ).set 34 (.int v))) = wM κ (sI σ 20 v) := rfl
theorem wM_s0_36 (κ : zG) (σ : zS) (v : Int32) : (wM κ σ).set 0 ((κ.2.1 0), .inr (10, (wM_f0 κ σ).set 36 (.int v))) = wM κ (sI σ 21 v) := rfl
theorem wM_s0_37 (κ : zG) (σ : zS) (v : Int32) : (wM κ σ).set 0 ((κ.2.1 0), .inr (10, (wM_f0 κ σ).set 37 (.int v))) = wM κ (sI σ 22 v) := rfl
theorem wM_s0_38 (κ : zG) (σ : zS) (v : Int32) : (wM κ σ).set 0 ((κ.2.1 0), .inr (10, (wM_f0 κ σ).set 38 (.int v))) = wM κ (sI σ 23 v) := rfl
theorem wM_s0_41 (κ : zG) (σ : zS) (v : Int32) : (wM κ σ).set 0 ((κ.2.1 0), .inr (10, (wM_f0 κ σ).set 41 (.int v))) = wM κ (sI σ 24 v) := rfl
theorem wM_s0_43 (κ : zG) (σ : zS) (v : Int32) : (wM κ σ).set 0 ((κ.2.1 0), .inr (10, (wM_f0 κ σ).set 43 (.int v))) = wM κ (sI σ 25 v) := rfl
theorem wM_s0_55 (κ : zG) (σ : zS) (v : Int32) : (wM κ σ).set 0 ((κ.2.1 0), .inr (10, (wM_f0 κ σ).set 55 (.int v))) = wM κ (sI σ 26 v) := rfl
theorem wM_at1 (κ : zG) (σ : zS) : (wM κ σ)[1]? = some ((κ.2.1 1), .inl (κ.2.2.1 1, 12800, .inr (.inl (zL σ 0)))) := rfl
theorem wM_s1 (κ : zG) (σ : zS) (f : Nat → Int64) : (wM κ σ).set 1 ((κ.2.1 1), .inl (κ.2.2.1 1, 12800, .inr (.inl f))) = wM κ (sL σ 0 f) := rfl
theorem wM_at2 (κ : zG) (σ : zS) : (wM κ σ)[2]? = some ((κ.2.1 2), .inl (κ.2.2.1 2, 200, .inl (zA σ 0))) := rfl
theorem wM_s2 (κ : zG) (σ : zS) (f : Nat → Int32) : (wM κ σ).set 2 ((κ.2.1 2), .inl (κ.2.2.1 2, 200, .inl f)) = wM κ (sA σ 0 f) := rfl
theorem wM_at3 (κ : zG) (σ : zS) : (wM κ σ)[3]? = some ((κ.2.1 3), .inl (κ.2.2.1 2, 200, .inl (zA σ 1))) := rfl
theorem wM_s3 (κ : zG) (σ : zS) (f : Nat → Int32) : (wM κ σ).set 3 ((κ.2.1 3), .inl (κ.2.2.1 2, 200, .inl f)) = wM κ (sA σ 1 f) := rfl
theorem wM_at4 (κ : zG) (σ : zS) : (wM κ σ)[4]? = some ((κ.2.1 4), .inl (κ.2.2.1 0, 200, .inl (zA σ 2))) := rfl
theorem wM_s4 (κ : zG) (σ : zS) (f : Nat → Int32) : (wM κ σ).set 4 ((κ.2.1 4), .inl (κ.2.2.1 0, 200, .inl f)) = wM κ (sA σ 2 f) := rfl
theorem wM_at5 (κ : zG) (σ : zS) : (wM κ σ)[5]? = some ((κ.2.1 5), .inl (κ.2.2.1 0, 208, .inl (zA σ 3))) := rfl
theorem wM_s5 (κ : zG) (σ : zS) (f : Nat → Int32) : (wM κ σ).set 5 ((κ.2.1 5), .inl (κ.2.2.1 0, 208, .inl f)) = wM κ (sA σ 3 f) := rfl
theorem wM_at6 (κ : zG) (σ : zS) : (wM κ σ)[6]? = some ((κ.2.1 6), .inl (κ.2.2.1 0, 208, .inl (zA σ 4))) := rfl
theorem wM_s6 (κ : zG) (σ : zS) (f : Nat → Int32) : (wM κ σ).set 6 ((κ.2.1 6), .inl (κ.2.2.1 0, 208, .inl f)) = wM κ (sA σ 4 f) := rfl
theorem wM_at7 (κ : zG) (σ : zS) : (wM κ σ)[7]? = some ((κ.2.1 7), .inl (κ.2.2.1 0, 208, .inl (zA σ 5))) := rfl
theorem wM_s7 (κ : zG) (σ : zS) (f : Nat → Int32) : (wM κ σ).set 7 ((κ.2.1 7), .inl (κ.2.2.1 0, 208, .inl f)) = wM κ (sA σ 5 f) := rfl
theorem wM_at8 (κ : zG) (σ : zS) : (wM κ σ)[8]? = some ((κ.2.1 8), .inl (κ.2.2.1 2, 208, .inl (zA σ 6))) := rfl
theorem wM_s8 (κ : zG) (σ : zS) (f : Nat → Int32) : (wM κ σ).set 8 ((κ.2.1 8), .inl (κ.2.2.1 2, 208, .inl f)) = wM κ (sA σ 6 f) := rfl
theorem wM_at9 (κ : zG) (σ : zS) : (wM κ σ)[9]? = some ((κ.2.1 9), .inl (κ.2.2.1 0, 208, .inl (zA σ 7))) := rfl
theorem wM_s9 (κ : zG) (σ : zS) (f : Nat → Int32) : (wM κ σ).set 9 ((κ.2.1 9), .inl (κ.2.2.1 0, 208, .inl f)) = wM κ (sA σ 7 f) := rfl
theorem wM_at10 (κ : zG) (σ : zS) : (wM κ σ)[10]? = some ((κ.2.1 10), .inl (κ.2.2.1 1, 64, .inr (.inl (zL σ 1)))) := rfl
theorem wM_s10 (κ : zG) (σ : zS) (f : Nat → Int64) : (wM κ σ).set 10 ((κ.2.1 10), .inl (κ.2.2.1 1, 64, .inr (.inl f))) = wM κ (sL σ 1 f) := rfl
theorem wM_at11 (κ : zG) (σ : zS) : (wM κ σ)[11]? = some ((κ.2.1 11), .inl (κ.2.2.1 0, 4, .inl (zA σ 8))) := rfl
theorem wM_s11 (κ : zG) (σ : zS) (f : Nat → Int32) : (wM κ σ).set 11 ((κ.2.1 11), .inl (κ.2.2.1 0, 4, .inl f)) = wM κ (sA σ 8 f) := rfl
theorem wM_at12 (κ : zG) (σ : zS) : (wM κ σ)[12]? = some ((κ.2.1 12), .inl (κ.2.2.1 2, 4, .inl (zA σ 9))) := rfl
theorem wM_s12 (κ : zG) (σ : zS) (f : Nat → Int32) : (wM κ σ).set 12 ((κ.2.1 12), .inl (κ.2.2.1 2, 4, .inl f)) = wM κ (sA σ 9 f) := rfl
theorem wM_at13 (κ : zG) (σ : zS) : (wM κ σ)[13]? = some ((κ.2.1 13), .inl (κ.2.2.1 1, 64, .inr (.inl (zL σ 2)))) := rfl
theorem wM_s13 (κ : zG) (σ : zS) (f : Nat → Int64) : (wM κ σ).set 13 ((κ.2.1 13), .inl (κ.2.2.1 1, 64, .inr (.inl f))) = wM κ (sL σ 2 f) := rfl
theorem wM_at14 (κ : zG) (σ : zS) : (wM κ σ)[14]? = some ((κ.2.1 14), .inl (κ.2.2.1 1, 5, .inr (.inl (zL σ 3)))) := rfl
theorem wM_s14 (κ : zG) (σ : zS) (f : Nat → Int64) : (wM κ σ).set 14 ((κ.2.1 14), .inl (κ.2.2.1 1, 5, .inr (.inl f))) = wM κ (sL σ 3 f) := rfl
theorem wM_at15 (κ : zG) (σ : zS) : (wM κ σ)[15]? = some ((κ.2.1 15), .inl (κ.2.2.1 1, 4, .inr (.inl (zL σ 4)))) := rfl
theorem wM_s15 (κ : zG) (σ : zS) (f : Nat → Int64) : (wM κ σ).set 15 ((κ.2.1 15), .inl (κ.2.2.1 1, 4, .inr (.inl f))) = wM κ (sL σ 4 f) := rfl
theorem wM_at16 (κ : zG) (σ : zS) : (wM κ σ)[16]? = some ((κ.2.1 16), .inl (κ.2.2.1 0, 64, .inl (zA σ 10))) := rfl
theorem wM_s16 (κ : zG) (σ : zS) (f : Nat → Int32) : (wM κ σ).set 16 ((κ.2.1 16), .inl (κ.2.2.1 0, 64, .inl f)) = wM κ (sA σ 10 f) := rfl
theorem wM_at17 (κ : zG) (σ : zS) : (wM κ σ)[17]? = some ((κ.2.1 17), .inl (κ.2.2.1 2, 64, .inl (zA σ 11))) := rfl
theorem wM_s17 (κ : zG) (σ : zS) (f : Nat → Int32) : (wM κ σ).set 17 ((κ.2.1 17), .inl (κ.2.2.1 2, 64, .inl f)) = wM κ (sA σ 11 f) := rfl
theorem wM_at18 (κ : zG) (σ : zS) : (wM κ σ)[18]? = some ((κ.2.1 18), .inl (κ.2.2.1 0, 208, .inl (zA σ 12))) := rfl
theorem wM_s18 (κ : zG) (σ : zS) (f : Nat → Int32) : (wM κ σ).set 18 ((κ.2.1 18), .inl (κ.2.2.1 0, 208, .inl f)) = wM κ (sA σ 12 f) := rfl
theorem wM_at19 (κ : zG) (σ : zS) : (wM κ σ)[19]? = some ((κ.2.1 19), .inl (κ.2.2.1 0, 8, .inl (zA σ 13))) := rfl
theorem wM_s19 (κ : zG) (σ : zS) (f : Nat → Int32) : (wM κ σ).set 19 ((κ.2.1 19), .inl (κ.2.2.1 0, 8, .inl f)) = wM κ (sA σ 13 f) := rfl
theorem wM_at20 (κ : zG) (σ : zS) : (wM κ σ)[20]? = some ((κ.2.1 20), .inl (κ.2.2.1 0, 8, .inl (zA σ 14))) := rfl
theorem wM_s20 (κ : zG) (σ : zS) (f : Nat → Int32) : (wM κ σ).set 20 ((κ.2.1 20), .inl (κ.2.2.1 0, 8, .inl f)) = wM κ (sA σ 14 f) := rfl
theorem wM_at21 (κ : zG) (σ : zS) : (wM κ σ)[21]? = some ((κ.2.1 21), .inl (κ.2.2.1 0, 8, .inl (zA σ 15))) := rfl
theorem wM_s21 (κ : zG) (σ : zS) (f : Nat → Int32) : (wM κ σ).set 21 ((κ.2.1 21), .inl (κ.2.2.1 0, 8, .inl f)) = wM κ (sA σ 15 f) := rfl
theorem wM_at22 (κ : zG) (σ : zS) : (wM κ σ)[22]? = some ((κ.2.1 22), .inl (κ.2.2.1 0, 8, .inl (zA σ 16))) := rfl
theorem wM_s22 (κ : zG) (σ : zS) (f : Nat → Int32) : (wM κ σ).set 22 ((κ.2.1 22), .inl (κ.2.2.1 0, 8, .inl f)) = wM κ (sA σ 16 f) := rfl
theorem wM_at23 (κ : zG) (σ : zS) : (wM κ σ)[23]? = some ((κ.2.1 23), .inl (κ.2.2.1 2, 208, .inl (zA σ 17))) := rfl
theorem wM_s23 (κ : zG) (σ : zS) (f : Nat → Int32) : (wM κ σ).set 23 ((κ.2.1 23), .inl (κ.2.2.1 2, 208, .inl f)) = wM κ (sA σ 17 f) := rfl
theorem wM_at24 (κ : zG) (σ : zS) : (wM κ σ)[24]? = some ((κ.2.1 24), .inl (κ.2.2.1 0, 1456, .inl (zA σ 18))) := rfl
theorem wM_s24 (κ : zG) (σ : zS) (f : Nat → Int32) : (wM κ σ).set 24 ((κ.2.1 24), .inl (κ.2.2.1 0, 1456, .inl f)) = wM κ (sA σ 18 f) := rfl
theorem wM_at25 (κ : zG) (σ : zS) : (wM κ σ)[25]? = some ((κ.2.1 25), .inl (κ.2.2.1 0, 7, .inl (zA σ 19))) := rfl
theorem wM_s25 (κ : zG) (σ : zS) (f : Nat → Int32) : (wM κ σ).set 25 ((κ.2.1 25), .inl (κ.2.2.1 0, 7, .inl f)) = wM κ (sA σ 19 f) := rfl
theorem wM_at26 (κ : zG) (σ : zS) : (wM κ σ)[26]? = some ((κ.2.1 26), .inl (κ.2.2.1 0, 7, .inl (zA σ 20))) := rfl
theorem wM_s26 (κ : zG) (σ : zS) (f : Nat → Int32) : (wM κ σ).set 26 ((κ.2.1 26), .inl (κ.2.2.1 0, 7, .inl f)) = wM κ (sA σ 20 f) := rfl
theorem wM_at27 (κ : zG) (σ : zS) : (wM κ σ)[27]? = some ((κ.2.1 27), .inl (κ.2.2.1 0, 7, .inl (zA σ 21))) := rfl
theorem wM_s27 (κ : zG) (σ : zS) (f : Nat → Int32) : (wM κ σ).set 27 ((κ.2.1 27), .inl (κ.2.2.1 0, 7, .inl f)) = wM κ (sA σ 21 f) := rfl
theorem wM_at28 (κ : zG) (σ : zS) : (wM κ σ)[28]? = some ((κ.2.1 28), .inl (κ.2.2.1 0, 7, .inl (zA σ 22))) := rfl
theorem wM_s28 (κ : zG) (σ : zS) (f : Nat → Int32) : (wM κ σ).set 28 ((κ.2.1 28), .inl (κ.2.2.1 0, 7, .inl f)) = wM κ (sA σ 22 f) := rfl
theorem wM_at29 (κ : zG) (σ : zS) : (wM κ σ)[29]? = some ((κ.2.1 29), .inl (κ.2.2.1 0, 8, .inl (zA σ 23))) := rfl
theorem wM_s29 (κ : zG) (σ : zS) (f : Nat → Int32) : (wM κ σ).set 29 ((κ.2.1 29), .inl (κ.2.2.1 0, 8, .inl f)) = wM κ (sA σ 23 f) := rfl
theorem wM_at30 (κ : zG) (σ : zS) : (wM κ σ)[30]? = some ((κ.2.1 30), .inl (κ.2.2.1 0, 208, .inl (zA σ 24))) := rfl
theorem wM_s30 (κ : zG) (σ : zS) (f : Nat → Int32) : (wM κ σ).set 30 ((κ.2.1 30), .inl (κ.2.2.1 0, 208, .inl f)) = wM κ (sA σ 24 f) := rfl
set_option maxRecDepth 20000 in
theorem iwX10 : ∀ x ∈ wsX100, x ∈ zW := zwp [1151, 1153, 1155, 1157, 1159, 1161, 1163, 1165, 1167, 1169, 1171, 1173, 1175, 1177, 1179, 1181, 1183, 1185, 1187, 1189, 1191, 1193, 1195, 1197, 1199, 1201, 1203, 1205, 1207, 1209, 1211, 1213, 1215, 1217, 1219, 1221, 1223, 1225, 1227, 1229, 1231, 1233, 1235, 1237, 1239, 1241, 1243, 1245, 1247, 1249, 1251, 1253, 1255, 1257, 1259, 1261, 1263] (by decide +kernel) (by decide +kernel)
theorem lkM0 : Cond.methodLink RX10 193 yX10_isIn ∈ zW := zw (zt5 (List.mem_of_getElem? (i := 236) rfl)) rfl
theorem lkM1 : Cond.static yX10_isIn ∈ zW := zw (zt5 (List.mem_of_getElem? (i := 237) rfl)) rfl
theorem lkM2 : Cond.initialized RX10 ∈ zW := zw (zt1 (List.mem_of_getElem? (i := 12) rfl)) rfl
theorem lkM3 : Cond.code yX10_isIn cX10_isIn 3 (some .boolean) ∈ zW := zw (zt5 (List.mem_of_getElem? (i := 238) rfl)) rfl
theorem lkM4 : Cond.fieldLink RX10 197 (TX10 28).1 (TX10 28).2.1 (TX10 28).2.2.1 ∈ zW := zw (zt5 (List.mem_of_getElem? (i := 84) rfl)) rfl
theorem lkM5 : Cond.fieldLink RX10 200 (TX10 13).1 (TX10 13).2.1 (TX10 13).2.2.1 ∈ zW := zw (zt5 (List.mem_of_getElem? (i := 69) rfl)) rfl
theorem lkM6 : Cond.fieldLink RX10 30 (TX10 10).1 (TX10 10).2.1 (TX10 10).2.2.1 ∈ zW := zw (zt5 (List.mem_of_getElem? (i := 66) rfl)) rfl
theorem lkM7 : Cond.fieldLink RX10 203 (TX10 15).1 (TX10 15).2.1 (TX10 15).2.2.1 ∈ zW := zw (zt5 (List.mem_of_getElem? (i := 71) rfl)) rfl
theorem lkM8 : Cond.fieldLink RX10 125 (TX10 0).1 (TX10 0).2.1 (TX10 0).2.2.1 ∈ zW := zw (zt5 (List.mem_of_getElem? (i := 56) rfl)) rfl
theorem lkM9 : Cond.fieldLink RX10 116 (TX10 16).1 (TX10 16).2.1 (TX10 16).2.2.1 ∈ zW := zw (zt5 (List.mem_of_getElem? (i := 72) rfl)) rfl
theorem lkM10 : Cond.fieldLink RX10 147 (TX10 19).1 (TX10 19).2.1 (TX10 19).2.2.1 ∈ zW := zw (zt5 (List.mem_of_getElem? (i := 75) rfl)) rfl
theorem lkM11 : Cond.fieldLink RX10 42 (TX10 17).1 (TX10 17).2.1 (TX10 17).2.2.1 ∈ zW := zw (zt5 (List.mem_of_getElem? (i := 73) rfl)) rfl
theorem lkM12 : Cond.fieldLink RX10 45 (TX10 18).1 (TX10 18).2.1 (TX10 18).2.2.1 ∈ zW := zw (zt5 (List.mem_of_getElem? (i := 74) rfl)) rfl
theorem lkM13 : Cond.fieldLink RX10 154 (TX10 20).1 (TX10 20).2.1 (TX10 20).2.2.1 ∈ zW := zw (zt5 (List.mem_of_getElem? (i := 76) rfl)) rfl
theorem lkM14 : Cond.fieldLink RX10 54 (TX10 35).1 (TX10 35).2.1 (TX10 35).2.2.1 ∈ zW := zw (zt5 (List.mem_of_getElem? (i := 91) rfl)) rfl
theorem lkM15 : Cond.fieldLink RX10 39 (TX10 14).1 (TX10 14).2.1 (TX10 14).2.2.1 ∈ zW := zw (zt5 (List.mem_of_getElem? (i := 70) rfl)) rfl
theorem lkM16 : Cond.fieldLink RX10 206 (TX10 21).1 (TX10 21).2.1 (TX10 21).2.2.1 ∈ zW := zw (zt5 (List.mem_of_getElem? (i := 77) rfl)) rfl
theorem lkM17 : Cond.fieldLink RX10 134 (TX10 29).1 (TX10 29).2.1 (TX10 29).2.2.1 ∈ zW := zw (zt5 (List.mem_of_getElem? (i := 85) rfl)) rfl
theorem lkM18 : Cond.fieldLink RX10 106 (TX10 1).1 (TX10 1).2.1 (TX10 1).2.2.1 ∈ zW := zw (zt5 (List.mem_of_getElem? (i := 57) rfl)) rfl
theorem lkM19 : Cond.fieldLink RX10 17 (TX10 6).1 (TX10 6).2.1 (TX10 6).2.2.1 ∈ zW := zw (zt5 (List.mem_of_getElem? (i := 62) rfl)) rfl
theorem lkM20 : Cond.methodLink RX10 209 yX10_begin ∈ zW := zw (zt6 (List.mem_of_getElem? (i := 15) rfl)) rfl
theorem lkM21 : Cond.instanceMethod yX10_begin ∈ zW := zw (zt6 (List.mem_of_getElem? (i := 17) rfl)) rfl
theorem lkM22 : Cond.selects RX10 yX10_begin yX10_begin ∈ zW := zw (zt0 (List.mem_of_getElem? (i := 35) rfl)) rfl
theorem lkM23 : Cond.code yX10_begin cX10_begin 2 none ∈ zW := zw (zt6 (List.mem_of_getElem? (i := 18) rfl)) rfl
theorem lkM24 : Cond.fieldLink RX10 110 (TX10 2).1 (TX10 2).2.1 (TX10 2).2.2.1 ∈ zW := zw (zt5 (List.mem_of_getElem? (i := 58) rfl)) rfl
theorem lkM25 : Cond.methodLink RX10 179 yX10_per ∈ zW := zw (zt6 (List.mem_of_getElem? (i := 19) rfl)) rfl
theorem lkM26 : Cond.instanceMethod yX10_per ∈ zW := zw (zt6 (List.mem_of_getElem? (i := 21) rfl)) rfl
theorem lkM27 : Cond.selects RX10 yX10_per yX10_per ∈ zW := zw (zt0 (List.mem_of_getElem? (i := 36) rfl)) rfl
theorem lkM28 : Cond.code yX10_per cX10_per 1 (some .int) ∈ zW := zw (zt6 (List.mem_of_getElem? (i := 22) rfl)) rfl
theorem lkM29 : Cond.fieldLink RX10 13 (TX10 5).1 (TX10 5).2.1 (TX10 5).2.2.1 ∈ zW := zw (zt5 (List.mem_of_getElem? (i := 61) rfl)) rfl
theorem lkM30 : Cond.fieldLink RX10 122 (TX10 27).1 (TX10 27).2.1 (TX10 27).2.2.1 ∈ zW := zw (zt5 (List.mem_of_getElem? (i := 83) rfl)) rfl
theorem lkM31 : Cond.fieldLink RX10 20 (TX10 7).1 (TX10 7).2.1 (TX10 7).2.2.1 ∈ zW := zw (zt5 (List.mem_of_getElem? (i := 63) rfl)) rfl
theorem lkM32 : Cond.fieldLink RX10 144 (TX10 23).1 (TX10 23).2.1 (TX10 23).2.2.1 ∈ zW := zw (zt5 (List.mem_of_getElem? (i := 79) rfl)) rfl
theorem lkM33 : Cond.fieldLink RX10 128 (TX10 24).1 (TX10 24).2.1 (TX10 24).2.2.1 ∈ zW := zw (zt5 (List.mem_of_getElem? (i := 80) rfl)) rfl
theorem lkM34 : Cond.fieldLink RX10 131 (TX10 25).1 (TX10 25).2.1 (TX10 25).2.2.1 ∈ zW := zw (zt5 (List.mem_of_getElem? (i := 81) rfl)) rfl
theorem lkM35 : Cond.fieldLink RX10 119 (TX10 26).1 (TX10 26).2.1 (TX10 26).2.2.1 ∈ zW := zw (zt5 (List.mem_of_getElem? (i := 82) rfl)) rfl
theorem lkM36 : Cond.methodLink RX10 140 yX10_go ∈ zW := zw (zt6 (List.mem_of_getElem? (i := 27) rfl)) rfl
theorem lkM37 : Cond.instanceMethod yX10_go ∈ zW := zw (zt6 (List.mem_of_getElem? (i := 29) rfl)) rfl
theorem lkM38 : Cond.selects RX10 yX10_go yX10_go ∈ zW := zw (zt0 (List.mem_of_getElem? (i := 38) rfl)) rfl
theorem lkM39 : Cond.code yX10_go cX10_go 2 none ∈ zW := zw (zt6 (List.mem_of_getElem? (i := 30) rfl)) rfl
theorem lkM40 : Cond.fieldLink RX10 7 (TX10 4).1 (TX10 4).2.1 (TX10 4).2.2.1 ∈ zW := zw (zt5 (List.mem_of_getElem? (i := 60) rfl)) rfl
theorem lkM41 : Cond.methodLink RX10 171 yX10_write ∈ zW := zw (zt6 (List.mem_of_getElem? (i := 23) rfl)) rfl
theorem lkM42 : Cond.instanceMethod yX10_write ∈ zW := zw (zt6 (List.mem_of_getElem? (i := 25) rfl)) rfl
theorem lkM43 : Cond.selects RX10 yX10_write yX10_write ∈ zW := zw (zt0 (List.mem_of_getElem? (i := 37) rfl)) rfl
theorem lkM44 : Cond.code yX10_write cX10_write 5 (some .int) ∈ zW := zw (zt6 (List.mem_of_getElem? (i := 26) rfl)) rfl
theorem lkM45 : Cond.fieldLink RX10 24 (TX10 8).1 (TX10 8).2.1 (TX10 8).2.2.1 ∈ zW := zw (zt5 (List.mem_of_getElem? (i := 64) rfl)) rfl
theorem lkM46 : Cond.fieldLink RX10 27 (TX10 9).1 (TX10 9).2.1 (TX10 9).2.2.1 ∈ zW := zw (zt5 (List.mem_of_getElem? (i := 65) rfl)) rfl
theorem lkM47 : Cond.methodLink RX10 175 yX10_hang ∈ zW := zw (zt6 (List.mem_of_getElem? (i := 31) rfl)) rfl
theorem lkM48 : Cond.instanceMethod yX10_hang ∈ zW := zw (zt6 (List.mem_of_getElem? (i := 33) rfl)) rfl
theorem lkM49 : Cond.selects RX10 yX10_hang yX10_hang ∈ zW := zw (zt0 (List.mem_of_getElem? (i := 39) rfl)) rfl
theorem lkM50 : Cond.code yX10_hang cX10_hang 4 none ∈ zW := zw (zt6 (List.mem_of_getElem? (i := 34) rfl)) rfl
theorem lkM51 : Cond.methodLink RX10 212 yX10_come ∈ zW := zw (zt6 (List.mem_of_getElem? (i := 11) rfl)) rfl
theorem lkM52 : Cond.instanceMethod yX10_come ∈ zW := zw (zt6 (List.mem_of_getElem? (i := 13) rfl)) rfl
theorem lkM53 : Cond.selects RX10 yX10_come yX10_come ∈ zW := zw (zt0 (List.mem_of_getElem? (i := 34) rfl)) rfl
theorem lkM54 : Cond.code yX10_come cX10_come 3 (some .boolean) ∈ zW := zw (zt6 (List.mem_of_getElem? (i := 14) rfl)) rfl
theorem lkM55 : Cond.constant RX10 215 1000000000 ∈ zW := zw (zt6 (List.mem_of_getElem? (i := 39) rfl)) rfl
theorem lkM56 : Cond.constantLong RX10 216 6364136223846793005 ∈ zW := zw (zt6 (List.mem_of_getElem? (i := 40) rfl)) rfl
theorem lkM57 : Cond.constantLong RX10 218 1442695040888963407 ∈ zW := zw (zt6 (List.mem_of_getElem? (i := 41) rfl)) rfl
theorem lkM58 : Cond.fieldLink RX10 235 (TX10 43).1 (TX10 43).2.1 (TX10 43).2.2.1 ∈ zW := zw (zt5 (List.mem_of_getElem? (i := 99) rfl)) rfl
theorem lkM59 : Cond.fieldLink RX10 226 (TX10 36).1 (TX10 36).2.1 (TX10 36).2.2.1 ∈ zW := zw (zt5 (List.mem_of_getElem? (i := 92) rfl)) rfl
theorem lkM60 : Cond.fieldLink RX10 223 (TX10 37).1 (TX10 37).2.1 (TX10 37).2.2.1 ∈ zW := zw (zt5 (List.mem_of_getElem? (i := 93) rfl)) rfl
theorem lkM61 : Cond.fieldLink RX10 220 (TX10 38).1 (TX10 38).2.1 (TX10 38).2.2.1 ∈ zW := zw (zt5 (List.mem_of_getElem? (i := 94) rfl)) rfl
theorem lkM62 : Cond.fieldLink RX10 238 (TX10 41).1 (TX10 41).2.1 (TX10 41).2.2.1 ∈ zW := zw (zt5 (List.mem_of_getElem? (i := 97) rfl)) rfl
theorem lkM63 : Cond.fieldLink RX10 137 (TX10 22).1 (TX10 22).2.1 (TX10 22).2.2.1 ∈ zW := zw (zt5 (List.mem_of_getElem? (i := 78) rfl)) rfl
theorem lkM64 : Cond.methodLink RX10 229 yX10_read ∈ zW := zw (zt6 (List.mem_of_getElem? (i := 58) rfl)) rfl
theorem lkM65 : Cond.instanceMethod yX10_read ∈ zW := zw (zt6 (List.mem_of_getElem? (i := 60) rfl)) rfl
theorem lkM66 : Cond.selects RX10 yX10_read yX10_read ∈ zW := zw (zt0 (List.mem_of_getElem? (i := 43) rfl)) rfl
theorem lkM67 : Cond.code yX10_read cX10_read 2 none ∈ zW := zw (zt6 (List.mem_of_getElem? (i := 61) rfl)) rfl
theorem lkM68 : Cond.methodLink RX10 245 yX10_nextRecord ∈ zW := zw (zt6 (List.mem_of_getElem? (i := 54) rfl)) rfl
theorem lkM69 : Cond.instanceMethod yX10_nextRecord ∈ zW := zw (zt6 (List.mem_of_getElem? (i := 56) rfl)) rfl
theorem lkM70 : Cond.selects RX10 yX10_nextRecord yX10_nextRecord ∈ zW := zw (zt0 (List.mem_of_getElem? (i := 42) rfl)) rfl
theorem lkM71 : Cond.code yX10_nextRecord cX10_nextRecord 2 (some .int) ∈ zW := zw (zt6 (List.mem_of_getElem? (i := 57) rfl)) rfl
theorem lkM72 : Cond.methodLink RX10 150 yX10_byKeys ∈ zW := zw (zt6 (List.mem_of_getElem? (i := 82) rfl)) rfl
theorem lkM73 : Cond.instanceMethod yX10_byKeys ∈ zW := zw (zt6 (List.mem_of_getElem? (i := 84) rfl)) rfl
theorem lkM74 : Cond.selects RX10 yX10_byKeys yX10_byKeys ∈ zW := zw (zt0 (List.mem_of_getElem? (i := 49) rfl)) rfl
theorem lkM75 : Cond.code yX10_byKeys cX10_byKeys 11 (some .int) ∈ zW := zw (zt6 (List.mem_of_getElem? (i := 85) rfl)) rfl
theorem lkM76 : Cond.methodLink RX10 241 yX10_before ∈ zW := zw (zt6 (List.mem_of_getElem? (i := 78) rfl)) rfl
theorem lkM77 : Cond.instanceMethod yX10_before ∈ zW := zw (zt6 (List.mem_of_getElem? (i := 80) rfl)) rfl
theorem lkM78 : Cond.selects RX10 yX10_before yX10_before ∈ zW := zw (zt0 (List.mem_of_getElem? (i := 48) rfl)) rfl
theorem lkM79 : Cond.code yX10_before cX10_before 4 (some .boolean) ∈ zW := zw (zt6 (List.mem_of_getElem? (i := 81) rfl)) rfl
theorem lkM80 : Cond.fieldLink RX10 167 (TX10 34).1 (TX10 34).2.1 (TX10 34).2.2.1 ∈ zW := zw (zt5 (List.mem_of_getElem? (i := 90) rfl)) rfl
theorem lkM81 : Cond.fieldLink RX10 51 (TX10 33).1 (TX10 33).2.1 (TX10 33).2.2.1 ∈ zW := zw (zt5 (List.mem_of_getElem? (i := 89) rfl)) rfl
theorem lkM82 : Cond.fieldLink RX10 48 (TX10 31).1 (TX10 31).2.1 (TX10 31).2.2.1 ∈ zW := zw (zt5 (List.mem_of_getElem? (i := 87) rfl)) rfl
theorem lkM83 : Cond.fieldLink RX10 164 (TX10 32).1 (TX10 32).2.1 (TX10 32).2.2.1 ∈ zW := zw (zt5 (List.mem_of_getElem? (i := 88) rfl)) rfl
theorem lkM84 : Cond.fieldLink RX10 161 (TX10 30).1 (TX10 30).2.1 (TX10 30).2.2.1 ∈ zW := zw (zt5 (List.mem_of_getElem? (i := 86) rfl)) rfl
theorem lkM85 : Cond.methodLink RX10 182 yX10_writePage ∈ zW := zw (zt6 (List.mem_of_getElem? (i := 94) rfl)) rfl
theorem lkM86 : Cond.instanceMethod yX10_writePage ∈ zW := zw (zt6 (List.mem_of_getElem? (i := 96) rfl)) rfl
theorem lkM87 : Cond.selects RX10 yX10_writePage yX10_writePage ∈ zW := zw (zt0 (List.mem_of_getElem? (i := 52) rfl)) rfl
theorem lkM88 : Cond.code yX10_writePage cX10_writePage 3 none ∈ zW := zw (zt6 (List.mem_of_getElem? (i := 97) rfl)) rfl
theorem lkM89 : Cond.methodLink RX10 185 yX10_toPage ∈ zW := zw (zt6 (List.mem_of_getElem? (i := 90) rfl)) rfl
theorem lkM90 : Cond.instanceMethod yX10_toPage ∈ zW := zw (zt6 (List.mem_of_getElem? (i := 92) rfl)) rfl
theorem lkM91 : Cond.selects RX10 yX10_toPage yX10_toPage ∈ zW := zw (zt0 (List.mem_of_getElem? (i := 51) rfl)) rfl
theorem lkM92 : Cond.code yX10_toPage cX10_toPage 4 none ∈ zW := zw (zt6 (List.mem_of_getElem? (i := 93) rfl)) rfl
theorem lkM93 : Cond.methodLink RX10 260 yX10_endRun ∈ zW := zw (zt6 (List.mem_of_getElem? (i := 102) rfl)) rfl
theorem lkM94 : Cond.instanceMethod yX10_endRun ∈ zW := zw (zt6 (List.mem_of_getElem? (i := 104) rfl)) rfl
theorem lkM95 : Cond.selects RX10 yX10_endRun yX10_endRun ∈ zW := zw (zt0 (List.mem_of_getElem? (i := 54) rfl)) rfl
theorem lkM96 : Cond.code yX10_endRun cX10_endRun 1 none ∈ zW := zw (zt6 (List.mem_of_getElem? (i := 105) rfl)) rfl
theorem lkM97 : Cond.fieldLink RX10 33 (TX10 11).1 (TX10 11).2.1 (TX10 11).2.2.1 ∈ zW := zw (zt5 (List.mem_of_getElem? (i := 67) rfl)) rfl
theorem lkM98 : Cond.methodLink RX10 157 yX10_newFile ∈ zW := zw (zt6 (List.mem_of_getElem? (i := 70) rfl)) rfl
theorem lkM99 : Cond.instanceMethod yX10_newFile ∈ zW := zw (zt6 (List.mem_of_getElem? (i := 72) rfl)) rfl
theorem lkM100 : Cond.selects RX10 yX10_newFile yX10_newFile ∈ zW := zw (zt0 (List.mem_of_getElem? (i := 46) rfl)) rfl
theorem lkM101 : Cond.code yX10_newFile cX10_newFile 2 (some .int) ∈ zW := zw (zt6 (List.mem_of_getElem? (i := 73) rfl)) rfl
theorem lkM102 : Cond.methodLink RX10 232 yX10_beginRun ∈ zW := zw (zt6 (List.mem_of_getElem? (i := 66) rfl)) rfl
theorem lkM103 : Cond.instanceMethod yX10_beginRun ∈ zW := zw (zt6 (List.mem_of_getElem? (i := 68) rfl)) rfl
theorem lkM104 : Cond.selects RX10 yX10_beginRun yX10_beginRun ∈ zW := zw (zt0 (List.mem_of_getElem? (i := 45) rfl)) rfl
theorem lkM105 : Cond.code yX10_beginRun cX10_beginRun 1 none ∈ zW := zw (zt6 (List.mem_of_getElem? (i := 69) rfl)) rfl
theorem lkM106 : Cond.fieldLink RX10 63 (TX10 42).1 (TX10 42).2.1 (TX10 42).2.2.1 ∈ zW := zw (zt5 (List.mem_of_getElem? (i := 98) rfl)) rfl
theorem lkM107 : Cond.methodLink RX10 251 yX10_nextRun ∈ zW := zw (zt6 (List.mem_of_getElem? (i := 62) rfl)) rfl
theorem lkM108 : Cond.instanceMethod yX10_nextRun ∈ zW := zw (zt6 (List.mem_of_getElem? (i := 64) rfl)) rfl
theorem lkM109 : Cond.selects RX10 yX10_nextRun yX10_nextRun ∈ zW := zw (zt0 (List.mem_of_getElem? (i := 44) rfl)) rfl
theorem lkM110 : Cond.code yX10_nextRun cX10_nextRun 1 none ∈ zW := zw (zt6 (List.mem_of_getElem? (i := 65) rfl)) rfl
theorem lkM111 : Cond.methodLink RX10 189 yX10_sums ∈ zW := zw (zt6 (List.mem_of_getElem? (i := 98) rfl)) rfl
theorem lkM112 : Cond.instanceMethod yX10_sums ∈ zW := zw (zt6 (List.mem_of_getElem? (i := 100) rfl)) rfl
theorem lkM113 : Cond.selects RX10 yX10_sums yX10_sums ∈ zW := zw (zt0 (List.mem_of_getElem? (i := 53) rfl)) rfl
theorem lkM114 : Cond.code yX10_sums cX10_sums 3 (some .boolean) ∈ zW := zw (zt6 (List.mem_of_getElem? (i := 101) rfl)) rfl
theorem lkM115 : Cond.methodLink RX10 257 yX10_out ∈ zW := zw (zt6 (List.mem_of_getElem? (i := 86) rfl)) rfl
theorem lkM116 : Cond.instanceMethod yX10_out ∈ zW := zw (zt6 (List.mem_of_getElem? (i := 88) rfl)) rfl
theorem lkM117 : Cond.selects RX10 yX10_out yX10_out ∈ zW := zw (zt0 (List.mem_of_getElem? (i := 50) rfl)) rfl
theorem lkM118 : Cond.code yX10_out cX10_out 3 none ∈ zW := zw (zt6 (List.mem_of_getElem? (i := 89) rfl)) rfl
theorem lkM119 : Cond.methodLink RX10 269 yX10_asTheyAre ∈ zW := zw (zt6 (List.mem_of_getElem? (i := 110) rfl)) rfl
theorem lkM120 : Cond.instanceMethod yX10_asTheyAre ∈ zW := zw (zt6 (List.mem_of_getElem? (i := 112) rfl)) rfl
theorem lkM121 : Cond.selects RX10 yX10_asTheyAre yX10_asTheyAre ∈ zW := zw (zt0 (List.mem_of_getElem? (i := 56) rfl)) rfl
theorem lkM122 : Cond.code yX10_asTheyAre cX10_asTheyAre 4 none ∈ zW := zw (zt6 (List.mem_of_getElem? (i := 113) rfl)) rfl
theorem lkM123 : Cond.fieldLink RX10 113 (TX10 3).1 (TX10 3).2.1 (TX10 3).2.2.1 ∈ zW := zw (zt5 (List.mem_of_getElem? (i := 59) rfl)) rfl
theorem lkM124 : Cond.fieldLink RX10 57 (TX10 39).1 (TX10 39).2.1 (TX10 39).2.2.1 ∈ zW := zw (zt5 (List.mem_of_getElem? (i := 95) rfl)) rfl
theorem lkM125 : Cond.fieldLink RX10 60 (TX10 40).1 (TX10 40).2.1 (TX10 40).2.2.1 ∈ zW := zw (zt5 (List.mem_of_getElem? (i := 96) rfl)) rfl
theorem lkM126 : Cond.methodLink RX10 248 yX10_fill ∈ zW := zw (zt6 (List.mem_of_getElem? (i := 50) rfl)) rfl
theorem lkM127 : Cond.instanceMethod yX10_fill ∈ zW := zw (zt6 (List.mem_of_getElem? (i := 52) rfl)) rfl
theorem lkM128 : Cond.selects RX10 yX10_fill yX10_fill ∈ zW := zw (zt0 (List.mem_of_getElem? (i := 41) rfl)) rfl
theorem lkM129 : Cond.code yX10_fill cX10_fill 1 none ∈ zW := zw (zt6 (List.mem_of_getElem? (i := 53) rfl)) rfl
theorem lkM130 : Cond.methodLink RX10 254 yX10_firstHeld ∈ zW := zw (zt6 (List.mem_of_getElem? (i := 74) rfl)) rfl
theorem lkM131 : Cond.instanceMethod yX10_firstHeld ∈ zW := zw (zt6 (List.mem_of_getElem? (i := 76) rfl)) rfl
theorem lkM132 : Cond.selects RX10 yX10_firstHeld yX10_firstHeld ∈ zW := zw (zt0 (List.mem_of_getElem? (i := 47) rfl)) rfl
theorem lkM133 : Cond.code yX10_firstHeld cX10_firstHeld 3 (some .int) ∈ zW := zw (zt6 (List.mem_of_getElem? (i := 77) rfl)) rfl
theorem lkM134 : Cond.methodLink RX10 266 yX10_choosing ∈ zW := zw (zt6 (List.mem_of_getElem? (i := 106) rfl)) rfl
theorem lkM135 : Cond.instanceMethod yX10_choosing ∈ zW := zw (zt6 (List.mem_of_getElem? (i := 108) rfl)) rfl
theorem lkM136 : Cond.selects RX10 yX10_choosing yX10_choosing ∈ zW := zw (zt0 (List.mem_of_getElem? (i := 55) rfl)) rfl
theorem lkM137 : Cond.code yX10_choosing cX10_choosing 4 none ∈ zW := zw (zt6 (List.mem_of_getElem? (i := 109) rfl)) rfl
theorem lkM138 : Cond.methodLink RX10 263 yX10_loading ∈ zW := zw (zt6 (List.mem_of_getElem? (i := 46) rfl)) rfl
theorem lkM139 : Cond.instanceMethod yX10_loading ∈ zW := zw (zt6 (List.mem_of_getElem? (i := 48) rfl)) rfl
theorem lkM140 : Cond.selects RX10 yX10_loading yX10_loading ∈ zW := zw (zt0 (List.mem_of_getElem? (i := 40) rfl)) rfl
theorem lkM141 : Cond.code yX10_loading cX10_loading 2 none ∈ zW := zw (zt6 (List.mem_of_getElem? (i := 49) rfl)) rfl
theorem lkM142 : Cond.methodLink RX10 279 yX10_free ∈ zW := zw (zt6 (List.mem_of_getElem? (i := 122) rfl)) rfl
theorem lkM143 : Cond.instanceMethod yX10_free ∈ zW := zw (zt6 (List.mem_of_getElem? (i := 124) rfl)) rfl
theorem lkM144 : Cond.selects RX10 yX10_free yX10_free ∈ zW := zw (zt0 (List.mem_of_getElem? (i := 59) rfl)) rfl
theorem lkM145 : Cond.code yX10_free cX10_free 3 none ∈ zW := zw (zt6 (List.mem_of_getElem? (i := 125) rfl)) rfl
theorem lkM146 : Cond.fieldLink RX10 36 (TX10 12).1 (TX10 12).2.1 (TX10 12).2.2.1 ∈ zW := zw (zt5 (List.mem_of_getElem? (i := 68) rfl)) rfl
theorem lkM147 : Cond.methodLink RX10 275 yX10_ended ∈ zW := zw (zt6 (List.mem_of_getElem? (i := 118) rfl)) rfl
theorem lkM148 : Cond.instanceMethod yX10_ended ∈ zW := zw (zt6 (List.mem_of_getElem? (i := 120) rfl)) rfl
theorem lkM149 : Cond.selects RX10 yX10_ended yX10_ended ∈ zW := zw (zt0 (List.mem_of_getElem? (i := 58) rfl)) rfl
theorem lkM150 : Cond.code yX10_ended cX10_ended 2 (some .int) ∈ zW := zw (zt6 (List.mem_of_getElem? (i := 121) rfl)) rfl
theorem lkM151 : Cond.methodLink RX10 272 yX10_giveBack ∈ zW := zw (zt6 (List.mem_of_getElem? (i := 114) rfl)) rfl
theorem lkM152 : Cond.instanceMethod yX10_giveBack ∈ zW := zw (zt6 (List.mem_of_getElem? (i := 116) rfl)) rfl
theorem lkM153 : Cond.selects RX10 yX10_giveBack yX10_giveBack ∈ zW := zw (zt0 (List.mem_of_getElem? (i := 57) rfl)) rfl
theorem lkM154 : Cond.code yX10_giveBack cX10_giveBack 2 none ∈ zW := zw (zt6 (List.mem_of_getElem? (i := 117) rfl)) rfl
theorem lkM155 : Cond.fieldLink RX10 66 (TX10 44).1 (TX10 44).2.1 (TX10 44).2.2.1 ∈ zW := zw (zt5 (List.mem_of_getElem? (i := 100) rfl)) rfl
theorem lkM156 : Cond.fieldLink RX10 69 (TX10 45).1 (TX10 45).2.1 (TX10 45).2.2.1 ∈ zW := zw (zt5 (List.mem_of_getElem? (i := 101) rfl)) rfl
theorem lkM157 : Cond.fieldLink RX10 72 (TX10 46).1 (TX10 46).2.1 (TX10 46).2.2.1 ∈ zW := zw (zt5 (List.mem_of_getElem? (i := 102) rfl)) rfl
theorem lkM158 : Cond.fieldLink RX10 75 (TX10 47).1 (TX10 47).2.1 (TX10 47).2.2.1 ∈ zW := zw (zt5 (List.mem_of_getElem? (i := 103) rfl)) rfl
theorem lkM159 : Cond.methodLink RX10 282 yX10_cellOf ∈ zW := zw (zt6 (List.mem_of_getElem? (i := 142) rfl)) rfl
theorem lkM160 : Cond.instanceMethod yX10_cellOf ∈ zW := zw (zt6 (List.mem_of_getElem? (i := 144) rfl)) rfl
theorem lkM161 : Cond.selects RX10 yX10_cellOf yX10_cellOf ∈ zW := zw (zt0 (List.mem_of_getElem? (i := 63) rfl)) rfl
theorem lkM162 : Cond.code yX10_cellOf cX10_cellOf 2 (some .int) ∈ zW := zw (zt6 (List.mem_of_getElem? (i := 145) rfl)) rfl
theorem lkM163 : Cond.methodLink RX10 285 yX10_firstOf ∈ zW := zw (zt6 (List.mem_of_getElem? (i := 138) rfl)) rfl
theorem lkM164 : Cond.instanceMethod yX10_firstOf ∈ zW := zw (zt6 (List.mem_of_getElem? (i := 140) rfl)) rfl
theorem lkM165 : Cond.selects RX10 yX10_firstOf yX10_firstOf ∈ zW := zw (zt0 (List.mem_of_getElem? (i := 62) rfl)) rfl
theorem lkM166 : Cond.code yX10_firstOf cX10_firstOf 4 (some .int) ∈ zW := zw (zt6 (List.mem_of_getElem? (i := 141) rfl)) rfl
theorem lkM167 : Cond.methodLink RX10 288 yX10_onward ∈ zW := zw (zt6 (List.mem_of_getElem? (i := 146) rfl)) rfl
theorem lkM168 : Cond.instanceMethod yX10_onward ∈ zW := zw (zt6 (List.mem_of_getElem? (i := 148) rfl)) rfl
theorem lkM169 : Cond.selects RX10 yX10_onward yX10_onward ∈ zW := zw (zt0 (List.mem_of_getElem? (i := 64) rfl)) rfl
theorem lkM170 : Cond.code yX10_onward cX10_onward 2 none ∈ zW := zw (zt6 (List.mem_of_getElem? (i := 149) rfl)) rfl
theorem lkM171 : Cond.methodLink RX10 291 yX10_merge ∈ zW := zw (zt6 (List.mem_of_getElem? (i := 134) rfl)) rfl
theorem lkM172 : Cond.instanceMethod yX10_merge ∈ zW := zw (zt6 (List.mem_of_getElem? (i := 136) rfl)) rfl
theorem lkM173 : Cond.selects RX10 yX10_merge yX10_merge ∈ zW := zw (zt0 (List.mem_of_getElem? (i := 61) rfl)) rfl
theorem lkM174 : Cond.code yX10_merge cX10_merge 4 (some .int) ∈ zW := zw (zt6 (List.mem_of_getElem? (i := 137) rfl)) rfl
theorem lkM175 : Cond.methodLink RX10 294 yX10_mergeRow ∈ zW := zw (zt6 (List.mem_of_getElem? (i := 130) rfl)) rfl
theorem lkM176 : Cond.instanceMethod yX10_mergeRow ∈ zW := zw (zt6 (List.mem_of_getElem? (i := 132) rfl)) rfl
theorem lkM177 : Cond.selects RX10 yX10_mergeRow yX10_mergeRow ∈ zW := zw (zt0 (List.mem_of_getElem? (i := 60) rfl)) rfl
theorem lkM178 : Cond.code yX10_mergeRow cX10_mergeRow 5 none ∈ zW := zw (zt6 (List.mem_of_getElem? (i := 133) rfl)) rfl
theorem lkM179 : Cond.fieldLink RX10 78 (TX10 48).1 (TX10 48).2.1 (TX10 48).2.2.1 ∈ zW := zw (zt5 (List.mem_of_getElem? (i := 104) rfl)) rfl
theorem lkM180 : Cond.methodLink RX10 298 yX10_choose ∈ zW := zw (zt6 (List.mem_of_getElem? (i := 158) rfl)) rfl
theorem lkM181 : Cond.instanceMethod yX10_choose ∈ zW := zw (zt6 (List.mem_of_getElem? (i := 160) rfl)) rfl
theorem lkM182 : Cond.selects RX10 yX10_choose yX10_choose ∈ zW := zw (zt0 (List.mem_of_getElem? (i := 66) rfl)) rfl
theorem lkM183 : Cond.code yX10_choose cX10_choose 5 none ∈ zW := zw (zt6 (List.mem_of_getElem? (i := 161) rfl)) rfl
theorem lkM184 : Cond.methodLink RX10 301 yX10_mergeChosen ∈ zW := zw (zt6 (List.mem_of_getElem? (i := 154) rfl)) rfl
theorem lkM185 : Cond.instanceMethod yX10_mergeChosen ∈ zW := zw (zt6 (List.mem_of_getElem? (i := 156) rfl)) rfl
theorem lkM186 : Cond.selects RX10 yX10_mergeChosen yX10_mergeChosen ∈ zW := zw (zt0 (List.mem_of_getElem? (i := 65) rfl)) rfl
theorem lkM187 : Cond.code yX10_mergeChosen cX10_mergeChosen 6 none ∈ zW := zw (zt6 (List.mem_of_getElem? (i := 157) rfl)) rfl
theorem lkM188 : Cond.fieldLink RX10 93 (TX10 53).1 (TX10 53).2.1 (TX10 53).2.2.1 ∈ zW := zw (zt5 (List.mem_of_getElem? (i := 109) rfl)) rfl
theorem lkM189 : Cond.fieldLink RX10 84 (TX10 50).1 (TX10 50).2.1 (TX10 50).2.2.1 ∈ zW := zw (zt5 (List.mem_of_getElem? (i := 106) rfl)) rfl
theorem lkM190 : Cond.fieldLink RX10 87 (TX10 51).1 (TX10 51).2.1 (TX10 51).2.2.1 ∈ zW := zw (zt5 (List.mem_of_getElem? (i := 107) rfl)) rfl
theorem lkM191 : Cond.fieldLink RX10 90 (TX10 52).1 (TX10 52).2.1 (TX10 52).2.2.1 ∈ zW := zw (zt5 (List.mem_of_getElem? (i := 108) rfl)) rfl
theorem lkM192 : Cond.fieldLink RX10 96 (TX10 54).1 (TX10 54).2.1 (TX10 54).2.2.1 ∈ zW := zw (zt5 (List.mem_of_getElem? (i := 110) rfl)) rfl
theorem lkM193 : Cond.fieldLink RX10 304 (TX10 55).1 (TX10 55).2.1 (TX10 55).2.2.1 ∈ zW := zw (zt5 (List.mem_of_getElem? (i := 111) rfl)) rfl
theorem lkM194 : Cond.fieldLink RX10 81 (TX10 49).1 (TX10 49).2.1 (TX10 49).2.2.1 ∈ zW := zw (zt5 (List.mem_of_getElem? (i := 105) rfl)) rfl
theorem lkM195 : Cond.methodLink RX10 307 yX10_append ∈ zW := zw (zt6 (List.mem_of_getElem? (i := 170) rfl)) rfl
theorem lkM196 : Cond.instanceMethod yX10_append ∈ zW := zw (zt6 (List.mem_of_getElem? (i := 172) rfl)) rfl
theorem lkM197 : Cond.selects RX10 yX10_append yX10_append ∈ zW := zw (zt0 (List.mem_of_getElem? (i := 68) rfl)) rfl
theorem lkM198 : Cond.code yX10_append cX10_append 3 none ∈ zW := zw (zt6 (List.mem_of_getElem? (i := 173) rfl)) rfl
theorem lkM199 : Cond.methodLink RX10 310 yX10_raise ∈ zW := zw (zt6 (List.mem_of_getElem? (i := 174) rfl)) rfl
theorem lkM200 : Cond.instanceMethod yX10_raise ∈ zW := zw (zt6 (List.mem_of_getElem? (i := 176) rfl)) rfl
theorem lkM201 : Cond.selects RX10 yX10_raise yX10_raise ∈ zW := zw (zt0 (List.mem_of_getElem? (i := 69) rfl)) rfl
theorem lkM202 : Cond.code yX10_raise cX10_raise 4 none ∈ zW := zw (zt6 (List.mem_of_getElem? (i := 177) rfl)) rfl
theorem lkM203 : Cond.methodLink RX10 317 yX10_lay ∈ zW := zw (zt6 (List.mem_of_getElem? (i := 166) rfl)) rfl
theorem lkM204 : Cond.instanceMethod yX10_lay ∈ zW := zw (zt6 (List.mem_of_getElem? (i := 168) rfl)) rfl
theorem lkM205 : Cond.selects RX10 yX10_lay yX10_lay ∈ zW := zw (zt0 (List.mem_of_getElem? (i := 67) rfl)) rfl
theorem lkM206 : Cond.code yX10_lay cX10_lay 5 none ∈ zW := zw (zt6 (List.mem_of_getElem? (i := 169) rfl)) rfl
theorem lkM207 : Cond.methodLink RX10 313 yX10_allThought ∈ zW := zw (zt6 (List.mem_of_getElem? (i := 182) rfl)) rfl
theorem lkM208 : Cond.instanceMethod yX10_allThought ∈ zW := zw (zt6 (List.mem_of_getElem? (i := 184) rfl)) rfl
theorem lkM209 : Cond.selects RX10 yX10_allThought yX10_allThought ∈ zW := zw (zt0 (List.mem_of_getElem? (i := 71) rfl)) rfl
theorem lkM210 : Cond.code yX10_allThought cX10_allThought 4 (some .boolean) ∈ zW := zw (zt6 (List.mem_of_getElem? (i := 185) rfl)) rfl
theorem lkM211 : Cond.methodLink RX10 320 yX10_together ∈ zW := zw (zt6 (List.mem_of_getElem? (i := 178) rfl)) rfl
theorem lkM212 : Cond.instanceMethod yX10_together ∈ zW := zw (zt6 (List.mem_of_getElem? (i := 180) rfl)) rfl
theorem lkM213 : Cond.selects RX10 yX10_together yX10_together ∈ zW := zw (zt0 (List.mem_of_getElem? (i := 70) rfl)) rfl
theorem lkM214 : Cond.code yX10_together cX10_together 8 none ∈ zW := zw (zt6 (List.mem_of_getElem? (i := 181) rfl)) rfl
theorem lkM215 : Cond.methodLink RX10 323 yX10_lower ∈ zW := zw (zt6 (List.mem_of_getElem? (i := 186) rfl)) rfl
theorem lkM216 : Cond.instanceMethod yX10_lower ∈ zW := zw (zt6 (List.mem_of_getElem? (i := 188) rfl)) rfl
theorem lkM217 : Cond.selects RX10 yX10_lower yX10_lower ∈ zW := zw (zt0 (List.mem_of_getElem? (i := 72) rfl)) rfl
theorem lkM218 : Cond.code yX10_lower cX10_lower 4 none ∈ zW := zw (zt6 (List.mem_of_getElem? (i := 189) rfl)) rfl
theorem lkM219 : Cond.methodLink RX10 326 yX10_rotate ∈ zW := zw (zt6 (List.mem_of_getElem? (i := 190) rfl)) rfl
theorem lkM220 : Cond.instanceMethod yX10_rotate ∈ zW := zw (zt6 (List.mem_of_getElem? (i := 192) rfl)) rfl
theorem lkM221 : Cond.selects RX10 yX10_rotate yX10_rotate ∈ zW := zw (zt0 (List.mem_of_getElem? (i := 73) rfl)) rfl
theorem lkM222 : Cond.code yX10_rotate cX10_rotate 4 none ∈ zW := zw (zt6 (List.mem_of_getElem? (i := 193) rfl)) rfl
theorem lkM223 : Cond.methodLink RX10 329 yX10_gather ∈ zW := zw (zt6 (List.mem_of_getElem? (i := 194) rfl)) rfl
theorem lkM224 : Cond.instanceMethod yX10_gather ∈ zW := zw (zt6 (List.mem_of_getElem? (i := 196) rfl)) rfl
theorem lkM225 : Cond.selects RX10 yX10_gather yX10_gather ∈ zW := zw (zt0 (List.mem_of_getElem? (i := 74) rfl)) rfl
theorem lkM226 : Cond.code yX10_gather cX10_gather 5 none ∈ zW := zw (zt6 (List.mem_of_getElem? (i := 197) rfl)) rfl
theorem lkM227 : Cond.fieldLink RX10 99 (TX10 56).1 (TX10 56).2.1 (TX10 56).2.2.1 ∈ zW := zw (zt5 (List.mem_of_getElem? (i := 112) rfl)) rfl
theorem lkM228 : Cond.methodLink RX10 332 yX10_blockOf ∈ zW := zw (zt6 (List.mem_of_getElem? (i := 214) rfl)) rfl
theorem lkM229 : Cond.instanceMethod yX10_blockOf ∈ zW := zw (zt6 (List.mem_of_getElem? (i := 216) rfl)) rfl
theorem lkM230 : Cond.selects RX10 yX10_blockOf yX10_blockOf ∈ zW := zw (zt0 (List.mem_of_getElem? (i := 75) rfl)) rfl
theorem lkM231 : Cond.code yX10_blockOf cX10_blockOf 5 (some .int) ∈ zW := zw (zt6 (List.mem_of_getElem? (i := 217) rfl)) rfl
theorem lkM232 : Cond.methodLink RX10 336 yX10_look ∈ zW := zw (zt6 (List.mem_of_getElem? (i := 222) rfl)) rfl
theorem lkM233 : Cond.instanceMethod yX10_look ∈ zW := zw (zt6 (List.mem_of_getElem? (i := 224) rfl)) rfl
theorem lkM234 : Cond.selects RX10 yX10_look yX10_look ∈ zW := zw (zt0 (List.mem_of_getElem? (i := 76) rfl)) rfl
theorem lkM235 : Cond.code yX10_look cX10_look 4 (some .int) ∈ zW := zw (zt6 (List.mem_of_getElem? (i := 225) rfl)) rfl
theorem lkM236 : Cond.methodLink RX10 339 yX10_freeBlocks ∈ zW := zw (zt6 (List.mem_of_getElem? (i := 238) rfl)) rfl
theorem lkM237 : Cond.instanceMethod yX10_freeBlocks ∈ zW := zw (zt7 (List.mem_of_getElem? (i := 0) rfl)) rfl
theorem lkM238 : Cond.selects RX10 yX10_freeBlocks yX10_freeBlocks ∈ zW := zw (zt0 (List.mem_of_getElem? (i := 77) rfl)) rfl
theorem lkM239 : Cond.code yX10_freeBlocks cX10_freeBlocks 3 (some .int) ∈ zW := zw (zt7 (List.mem_of_getElem? (i := 1) rfl)) rfl
theorem lkM240 : Cond.constant RX10 342 100000 ∈ zW := zw (zt7 (List.mem_of_getElem? (i := 6) rfl)) rfl
