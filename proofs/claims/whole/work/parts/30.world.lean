theorem wR_at0 (κ : zG) (σ : zS) : (wR κ σ)[0]? = some ((κ.2.1 0), .inr (6, wR_f0 κ σ)) := rfl
theorem wR_s0_1 (κ : zG) (σ : zS) (v : Int32) : (wR κ σ).set 0 ((κ.2.1 0), .inr (6, (wR_f0 κ σ).set 1 (.int v))) = wR κ (sI σ 0 v) := rfl
theorem wR_at1 (κ : zG) (σ : zS) : (wR κ σ)[1]? = some ((κ.2.1 1), .inl (κ.2.2.1 0, (κ.2.2.2 0), .inl (zA σ 0))) := rfl
theorem wR_s1 (κ : zG) (σ : zS) (f : Nat → Int32) : (wR κ σ).set 1 ((κ.2.1 1), .inl (κ.2.2.1 0, (κ.2.2.2 0), .inl f)) = wR κ (sA σ 0 f) := rfl
def wC_f0 (κ : zG) (σ : zS) : List Value := [.ref (κ.2.1 1), .ref (κ.2.1 4), .ref (κ.2.1 7), .ref (κ.2.1 10), .ref (κ.2.1 14), .ref (κ.2.1 20), .ref (κ.2.1 23), .ref (κ.2.1 29), .ref (κ.2.1 33), .ref (κ.2.1 35), .ref (κ.2.1 36), .ref (κ.2.1 37), .int (zI σ 0)]
def wC_f1 (κ : zG) (σ : zS) : List Value := [.int (zI σ 1), .ref (κ.2.1 2), .ref (κ.2.1 3), .int (zI σ 2), .int (zI σ 3), .int (zI σ 4), .int (zI σ 5), .int (zI σ 6), .int (zI σ 7)]
def wC_f4 (κ : zG) (σ : zS) : List Value := [.ref (κ.2.1 1), .ref (κ.2.1 5), .ref (κ.2.1 6), .int (zI σ 8), .int (zI σ 9), .int (zI σ 10), .int (zI σ 11)]
def wC_f7 (κ : zG) (σ : zS) : List Value := [.ref (κ.2.1 1), .ref (κ.2.1 8), .ref (κ.2.1 9)]
def wC_f10 (κ : zG) (σ : zS) : List Value := [.ref (κ.2.1 1), .ref (κ.2.1 4), .ref (κ.2.1 11), .ref (κ.2.1 13), .int (zI σ 12), .int (zI σ 13), .int (zI σ 14), .int (zI σ 15), .int (zI σ 16)]
def wC_f11 (κ : zG) (σ : zS) : List Value := [.ref (κ.2.1 12), .int (zI σ 17)]
def wC_f14 (κ : zG) (σ : zS) : List Value := [.ref (κ.2.1 1), .ref (κ.2.1 4), .ref (κ.2.1 7), .ref (κ.2.1 15), .ref (κ.2.1 16), .ref (κ.2.1 18), .int (zI σ 18), .int (zI σ 19), .int (zI σ 20), .int (zI σ 21), .int (zI σ 22), .int (zI σ 23), .int (zI σ 24)]
def wC_f16 (κ : zG) (σ : zS) : List Value := [.ref (κ.2.1 17), .int (zI σ 25)]
def wC_f18 (κ : zG) (σ : zS) : List Value := [.ref (κ.2.1 19), .int (zI σ 26)]
def wC_f20 (κ : zG) (σ : zS) : List Value := [.ref (κ.2.1 4), .int (zI σ 27), .ref (κ.2.1 21), .ref (κ.2.1 22), .int (zI σ 28)]
def wC_f23 (κ : zG) (σ : zS) : List Value := [.ref (κ.2.1 1), .ref (κ.2.1 4), .ref (κ.2.1 7), .ref (κ.2.1 14), .ref (κ.2.1 24), .ref (κ.2.1 26), .ref (κ.2.1 27), .ref (κ.2.1 28)]
def wC_f24 (κ : zG) (σ : zS) : List Value := [.ref (κ.2.1 25), .int (zI σ 29)]
def wC_f29 (κ : zG) (σ : zS) : List Value := [.ref (κ.2.1 30), .ref (κ.2.1 31), .ref (κ.2.1 32), .int (zI σ 30), .int (zI σ 31)]
def wC_f33 (κ : zG) (σ : zS) : List Value := [.ref (κ.2.1 34), .int (zI σ 32)]
def wC (κ : zG) (σ : zS) : va_W := [((κ.2.1 0), .inr (9, wC_f0 κ σ)),
  ((κ.2.1 1), .inr (0, wC_f1 κ σ)),
  ((κ.2.1 2), .inl (κ.2.2.1 1, (κ.2.2.2 0 * κ.2.2.2 1), .inr (.inl (zL σ 0)))),
  ((κ.2.1 3), .inl (κ.2.2.1 2, (κ.2.2.2 0), .inl (zA σ 0))),
  ((κ.2.1 4), .inr (5, wC_f4 κ σ)),
  ((κ.2.1 5), .inl (κ.2.2.1 0, 4, .inl (zA σ 1))),
  ((κ.2.1 6), .inl (κ.2.2.1 2, 4, .inl (zA σ 2))),
  ((κ.2.1 7), .inr (1, wC_f7 κ σ)),
  ((κ.2.1 8), .inl (κ.2.2.1 0, (κ.2.2.2 0), .inl (zA σ 3))),
  ((κ.2.1 9), .inl (κ.2.2.1 0, (κ.2.2.2 0), .inl (zA σ 4))),
  ((κ.2.1 10), .inr (2, wC_f10 κ σ)),
  ((κ.2.1 11), .inr (6, wC_f11 κ σ)),
  ((κ.2.1 12), .inl (κ.2.2.1 0, (κ.2.2.2 0), .inl (zA σ 5))),
  ((κ.2.1 13), .inl (κ.2.2.1 1, (κ.2.2.2 1), .inr (.inl (zL σ 1)))),
  ((κ.2.1 14), .inr (7, wC_f14 κ σ)),
  ((κ.2.1 15), .inl (κ.2.2.1 1, (κ.2.2.2 1), .inr (.inl (zL σ 2)))),
  ((κ.2.1 16), .inr (6, wC_f16 κ σ)),
  ((κ.2.1 17), .inl (κ.2.2.1 0, (κ.2.2.2 0), .inl (zA σ 6))),
  ((κ.2.1 18), .inr (6, wC_f18 κ σ)),
  ((κ.2.1 19), .inl (κ.2.2.1 0, (κ.2.2.2 0), .inl (zA σ 7))),
  ((κ.2.1 20), .inr (3, wC_f20 κ σ)),
  ((κ.2.1 21), .inl (κ.2.2.1 0, (κ.2.2.2 2), .inl (zA σ 8))),
  ((κ.2.1 22), .inl (κ.2.2.1 0, (κ.2.2.2 2), .inl (zA σ 9))),
  ((κ.2.1 23), .inr (4, wC_f23 κ σ)),
  ((κ.2.1 24), .inr (6, wC_f24 κ σ)),
  ((κ.2.1 25), .inl (κ.2.2.1 0, 8, .inl (zA σ 10))),
  ((κ.2.1 26), .inl (κ.2.2.1 0, 8, .inl (zA σ 11))),
  ((κ.2.1 27), .inl (κ.2.2.1 0, 8, .inl (zA σ 12))),
  ((κ.2.1 28), .inl (κ.2.2.1 0, 8, .inl (zA σ 13))),
  ((κ.2.1 29), .inr (8, wC_f29 κ σ)),
  ((κ.2.1 30), .inl (κ.2.2.1 3, 7, .inr (.inr (.inr (.inr (fun j => some (κ.2.1 (38 + 2 * zT σ j)))))))),
  ((κ.2.1 31), .inl (κ.2.2.1 0, 7, .inl (zA σ 14))),
  ((κ.2.1 32), .inl (κ.2.2.1 0, 7, .inl (zA σ 15))),
  ((κ.2.1 33), .inr (6, wC_f33 κ σ)),
  ((κ.2.1 34), .inl (κ.2.2.1 0, (κ.2.2.2 0), .inl (zA σ 16))),
  ((κ.2.1 35), .inl (κ.2.2.1 1, 4, .inr (.inl (zL σ 3)))),
  ((κ.2.1 36), .inl (κ.2.2.1 2, (κ.2.2.2 0), .inl (zA σ 17))),
  ((κ.2.1 37), .inl (κ.2.2.1 0, (κ.2.2.2 0), .inl (zA σ 18))),
  (κ.2.1 (38 + 2 * 0), .inr (6, [.ref (κ.2.1 (39 + 2 * 0)), .int (zU σ 0)])),
  (κ.2.1 (39 + 2 * 0), .inl (κ.2.2.1 0, (κ.2.2.2 0), .inl (zV σ 0))),
  (κ.2.1 (38 + 2 * 1), .inr (6, [.ref (κ.2.1 (39 + 2 * 1)), .int (zU σ 1)])),
  (κ.2.1 (39 + 2 * 1), .inl (κ.2.2.1 0, (κ.2.2.2 0), .inl (zV σ 1))),
  (κ.2.1 (38 + 2 * 2), .inr (6, [.ref (κ.2.1 (39 + 2 * 2)), .int (zU σ 2)])),
  (κ.2.1 (39 + 2 * 2), .inl (κ.2.2.1 0, (κ.2.2.2 0), .inl (zV σ 2))),
  (κ.2.1 (38 + 2 * 3), .inr (6, [.ref (κ.2.1 (39 + 2 * 3)), .int (zU σ 3)])),
  (κ.2.1 (39 + 2 * 3), .inl (κ.2.2.1 0, (κ.2.2.2 0), .inl (zV σ 3))),
  (κ.2.1 (38 + 2 * 4), .inr (6, [.ref (κ.2.1 (39 + 2 * 4)), .int (zU σ 4)])),
  (κ.2.1 (39 + 2 * 4), .inl (κ.2.2.1 0, (κ.2.2.2 0), .inl (zV σ 4))),
  (κ.2.1 (38 + 2 * 5), .inr (6, [.ref (κ.2.1 (39 + 2 * 5)), .int (zU σ 5)])),
  (κ.2.1 (39 + 2 * 5), .inl (κ.2.2.1 0, (κ.2.2.2 0), .inl (zV σ 5))),
  (κ.2.1 (38 + 2 * 6), .inr (6, [.ref (κ.2.1 (39 + 2 * 6)), .int (zU σ 6)])),
  (κ.2.1 (39 + 2 * 6), .inl (κ.2.2.1 0, (κ.2.2.2 0), .inl (zV σ 6)))]
theorem wC_at0 (κ : zG) (σ : zS) : (wC κ σ)[0]? = some ((κ.2.1 0), .inr (9, wC_f0 κ σ)) := rfl
theorem wC_s0_12 (κ : zG) (σ : zS) (v : Int32) : (wC κ σ).set 0 ((κ.2.1 0), .inr (9, (wC_f0 κ σ).set 12 (.int v))) = wC κ (sI σ 0 v) := rfl
theorem wC_at1 (κ : zG) (σ : zS) : (wC κ σ)[1]? = some ((κ.2.1 1), .inr (0, wC_f1 κ σ)) := rfl
theorem wC_s1_3 (κ : zG) (σ : zS) (v : Int32) : (wC κ σ).set 1 ((κ.2.1 1), .inr (0, (wC_f1 κ σ).set 3 (.int v))) = wC κ (sI σ 2 v) := rfl
theorem wC_s1_4 (κ : zG) (σ : zS) (v : Int32) : (wC κ σ).set 1 ((κ.2.1 1), .inr (0, (wC_f1 κ σ).set 4 (.int v))) = wC κ (sI σ 3 v) := rfl
theorem wC_s1_5 (κ : zG) (σ : zS) (v : Int32) : (wC κ σ).set 1 ((κ.2.1 1), .inr (0, (wC_f1 κ σ).set 5 (.int v))) = wC κ (sI σ 4 v) := rfl
theorem wC_s1_6 (κ : zG) (σ : zS) (v : Int32) : (wC κ σ).set 1 ((κ.2.1 1), .inr (0, (wC_f1 κ σ).set 6 (.int v))) = wC κ (sI σ 5 v) := rfl
theorem wC_s1_7 (κ : zG) (σ : zS) (v : Int32) : (wC κ σ).set 1 ((κ.2.1 1), .inr (0, (wC_f1 κ σ).set 7 (.int v))) = wC κ (sI σ 6 v) := rfl
theorem wC_s1_8 (κ : zG) (σ : zS) (v : Int32) : (wC κ σ).set 1 ((κ.2.1 1), .inr (0, (wC_f1 κ σ).set 8 (.int v))) = wC κ (sI σ 7 v) := rfl
theorem wC_at2 (κ : zG) (σ : zS) : (wC κ σ)[2]? = some ((κ.2.1 2), .inl (κ.2.2.1 1, (κ.2.2.2 0 * κ.2.2.2 1), .inr (.inl (zL σ 0)))) := rfl
theorem wC_s2 (κ : zG) (σ : zS) (f : Nat → Int64) : (wC κ σ).set 2 ((κ.2.1 2), .inl (κ.2.2.1 1, (κ.2.2.2 0 * κ.2.2.2 1), .inr (.inl f))) = wC κ (sL σ 0 f) := rfl
theorem wC_at3 (κ : zG) (σ : zS) : (wC κ σ)[3]? = some ((κ.2.1 3), .inl (κ.2.2.1 2, (κ.2.2.2 0), .inl (zA σ 0))) := rfl
theorem wC_s3 (κ : zG) (σ : zS) (f : Nat → Int32) : (wC κ σ).set 3 ((κ.2.1 3), .inl (κ.2.2.1 2, (κ.2.2.2 0), .inl f)) = wC κ (sA σ 0 f) := rfl
theorem wC_at4 (κ : zG) (σ : zS) : (wC κ σ)[4]? = some ((κ.2.1 4), .inr (5, wC_f4 κ σ)) := rfl
theorem wC_s4_3 (κ : zG) (σ : zS) (v : Int32) : (wC κ σ).set 4 ((κ.2.1 4), .inr (5, (wC_f4 κ σ).set 3 (.int v))) = wC κ (sI σ 8 v) := rfl
theorem wC_s4_4 (κ : zG) (σ : zS) (v : Int32) : (wC κ σ).set 4 ((κ.2.1 4), .inr (5, (wC_f4 κ σ).set 4 (.int v))) = wC κ (sI σ 9 v) := rfl
theorem wC_s4_5 (κ : zG) (σ : zS) (v : Int32) : (wC κ σ).set 4 ((κ.2.1 4), .inr (5, (wC_f4 κ σ).set 5 (.int v))) = wC κ (sI σ 10 v) := rfl
theorem wC_s4_6 (κ : zG) (σ : zS) (v : Int32) : (wC κ σ).set 4 ((κ.2.1 4), .inr (5, (wC_f4 κ σ).set 6 (.int v))) = wC κ (sI σ 11 v) := rfl
theorem wC_at5 (κ : zG) (σ : zS) : (wC κ σ)[5]? = some ((κ.2.1 5), .inl (κ.2.2.1 0, 4, .inl (zA σ 1))) := rfl
theorem wC_s5 (κ : zG) (σ : zS) (f : Nat → Int32) : (wC κ σ).set 5 ((κ.2.1 5), .inl (κ.2.2.1 0, 4, .inl f)) = wC κ (sA σ 1 f) := rfl
theorem wC_at6 (κ : zG) (σ : zS) : (wC κ σ)[6]? = some ((κ.2.1 6), .inl (κ.2.2.1 2, 4, .inl (zA σ 2))) := rfl
theorem wC_s6 (κ : zG) (σ : zS) (f : Nat → Int32) : (wC κ σ).set 6 ((κ.2.1 6), .inl (κ.2.2.1 2, 4, .inl f)) = wC κ (sA σ 2 f) := rfl
theorem wC_at7 (κ : zG) (σ : zS) : (wC κ σ)[7]? = some ((κ.2.1 7), .inr (1, wC_f7 κ σ)) := rfl
theorem wC_at8 (κ : zG) (σ : zS) : (wC κ σ)[8]? = some ((κ.2.1 8), .inl (κ.2.2.1 0, (κ.2.2.2 0), .inl (zA σ 3))) := rfl
theorem wC_s8 (κ : zG) (σ : zS) (f : Nat → Int32) : (wC κ σ).set 8 ((κ.2.1 8), .inl (κ.2.2.1 0, (κ.2.2.2 0), .inl f)) = wC κ (sA σ 3 f) := rfl
theorem wC_at9 (κ : zG) (σ : zS) : (wC κ σ)[9]? = some ((κ.2.1 9), .inl (κ.2.2.1 0, (κ.2.2.2 0), .inl (zA σ 4))) := rfl
theorem wC_s9 (κ : zG) (σ : zS) (f : Nat → Int32) : (wC κ σ).set 9 ((κ.2.1 9), .inl (κ.2.2.1 0, (κ.2.2.2 0), .inl f)) = wC κ (sA σ 4 f) := rfl
theorem wC_at10 (κ : zG) (σ : zS) : (wC κ σ)[10]? = some ((κ.2.1 10), .inr (2, wC_f10 κ σ)) := rfl
theorem wC_s10_4 (κ : zG) (σ : zS) (v : Int32) : (wC κ σ).set 10 ((κ.2.1 10), .inr (2, (wC_f10 κ σ).set 4 (.int v))) = wC κ (sI σ 12 v) := rfl
theorem wC_s10_5 (κ : zG) (σ : zS) (v : Int32) : (wC κ σ).set 10 ((κ.2.1 10), .inr (2, (wC_f10 κ σ).set 5 (.int v))) = wC κ (sI σ 13 v) := rfl
theorem wC_s10_6 (κ : zG) (σ : zS) (v : Int32) : (wC κ σ).set 10 ((κ.2.1 10), .inr (2, (wC_f10 κ σ).set 6 (.int v))) = wC κ (sI σ 14 v) := rfl
theorem wC_s10_7 (κ : zG) (σ : zS) (v : Int32) : (wC κ σ).set 10 ((κ.2.1 10), .inr (2, (wC_f10 κ σ).set 7 (.int v))) = wC κ (sI σ 15 v) := rfl
theorem wC_s10_8 (κ : zG) (σ : zS) (v : Int32) : (wC κ σ).set 10 ((κ.2.1 10), .inr (2, (wC_f10 κ σ).set 8 (.int v))) = wC κ (sI σ 16 v) := rfl
theorem wC_at11 (κ : zG) (σ : zS) : (wC κ σ)[11]? = some ((κ.2.1 11), .inr (6, wC_f11 κ σ)) := rfl
theorem wC_s11_1 (κ : zG) (σ : zS) (v : Int32) : (wC κ σ).set 11 ((κ.2.1 11), .inr (6, (wC_f11 κ σ).set 1 (.int v))) = wC κ (sI σ 17 v) := rfl
theorem wC_at12 (κ : zG) (σ : zS) : (wC κ σ)[12]? = some ((κ.2.1 12), .inl (κ.2.2.1 0, (κ.2.2.2 0), .inl (zA σ 5))) := rfl
theorem wC_s12 (κ : zG) (σ : zS) (f : Nat → Int32) : (wC κ σ).set 12 ((κ.2.1 12), .inl (κ.2.2.1 0, (κ.2.2.2 0), .inl f)) = wC κ (sA σ 5 f) := rfl
theorem wC_at13 (κ : zG) (σ : zS) : (wC κ σ)[13]? = some ((κ.2.1 13), .inl (κ.2.2.1 1, (κ.2.2.2 1), .inr (.inl (zL σ 1)))) := rfl
theorem wC_s13 (κ : zG) (σ : zS) (f : Nat → Int64) : (wC κ σ).set 13 ((κ.2.1 13), .inl (κ.2.2.1 1, (κ.2.2.2 1), .inr (.inl f))) = wC κ (sL σ 1 f) := rfl
theorem wC_at14 (κ : zG) (σ : zS) : (wC κ σ)[14]? = some ((κ.2.1 14), .inr (7, wC_f14 κ σ)) := rfl
theorem wC_s14_6 (κ : zG) (σ : zS) (v : Int32) : (wC κ σ).set 14 ((κ.2.1 14), .inr (7, (wC_f14 κ σ).set 6 (.int v))) = wC κ (sI σ 18 v) := rfl
theorem wC_s14_7 (κ : zG) (σ : zS) (v : Int32) : (wC κ σ).set 14 ((κ.2.1 14), .inr (7, (wC_f14 κ σ).set 7 (.int v))) = wC κ (sI σ 19 v) := rfl
theorem wC_s14_8 (κ : zG) (σ : zS) (v : Int32) : (wC κ σ).set 14 ((κ.2.1 14), .inr (7, (wC_f14 κ σ).set 8 (.int v))) = wC κ (sI σ 20 v) := rfl
theorem wC_s14_9 (κ : zG) (σ : zS) (v : Int32) : (wC κ σ).set 14 ((κ.2.1 14), .inr (7, (wC_f14 κ σ).set 9 (.int v))) = wC κ (sI σ 21 v) := rfl
theorem wC_s14_10 (κ : zG) (σ : zS) (v : Int32) : (wC κ σ).set 14 ((κ.2.1 14), .inr (7, (wC_f14 κ σ).set 10 (.int v))) = wC κ (sI σ 22 v) := rfl
theorem wC_s14_11 (κ : zG) (σ : zS) (v : Int32) : (wC κ σ).set 14 ((κ.2.1 14), .inr (7, (wC_f14 κ σ).set 11 (.int v))) = wC κ (sI σ 23 v) := rfl
theorem wC_s14_12 (κ : zG) (σ : zS) (v : Int32) : (wC κ σ).set 14 ((κ.2.1 14), .inr (7, (wC_f14 κ σ).set 12 (.int v))) = wC κ (sI σ 24 v) := rfl
theorem wC_at15 (κ : zG) (σ : zS) : (wC κ σ)[15]? = some ((κ.2.1 15), .inl (κ.2.2.1 1, (κ.2.2.2 1), .inr (.inl (zL σ 2)))) := rfl
theorem wC_s15 (κ : zG) (σ : zS) (f : Nat → Int64) : (wC κ σ).set 15 ((κ.2.1 15), .inl (κ.2.2.1 1, (κ.2.2.2 1), .inr (.inl f))) = wC κ (sL σ 2 f) := rfl
theorem wC_at16 (κ : zG) (σ : zS) : (wC κ σ)[16]? = some ((κ.2.1 16), .inr (6, wC_f16 κ σ)) := rfl
theorem wC_s16_1 (κ : zG) (σ : zS) (v : Int32) : (wC κ σ).set 16 ((κ.2.1 16), .inr (6, (wC_f16 κ σ).set 1 (.int v))) = wC κ (sI σ 25 v) := rfl
theorem wC_at17 (κ : zG) (σ : zS) : (wC κ σ)[17]? = some ((κ.2.1 17), .inl (κ.2.2.1 0, (κ.2.2.2 0), .inl (zA σ 6))) := rfl
theorem wC_s17 (κ : zG) (σ : zS) (f : Nat → Int32) : (wC κ σ).set 17 ((κ.2.1 17), .inl (κ.2.2.1 0, (κ.2.2.2 0), .inl f)) = wC κ (sA σ 6 f) := rfl
theorem wC_at18 (κ : zG) (σ : zS) : (wC κ σ)[18]? = some ((κ.2.1 18), .inr (6, wC_f18 κ σ)) := rfl
theorem wC_s18_1 (κ : zG) (σ : zS) (v : Int32) : (wC κ σ).set 18 ((κ.2.1 18), .inr (6, (wC_f18 κ σ).set 1 (.int v))) = wC κ (sI σ 26 v) := rfl
theorem wC_at19 (κ : zG) (σ : zS) : (wC κ σ)[19]? = some ((κ.2.1 19), .inl (κ.2.2.1 0, (κ.2.2.2 0), .inl (zA σ 7))) := rfl
theorem wC_s19 (κ : zG) (σ : zS) (f : Nat → Int32) : (wC κ σ).set 19 ((κ.2.1 19), .inl (κ.2.2.1 0, (κ.2.2.2 0), .inl f)) = wC κ (sA σ 7 f) := rfl
theorem wC_at20 (κ : zG) (σ : zS) : (wC κ σ)[20]? = some ((κ.2.1 20), .inr (3, wC_f20 κ σ)) := rfl
theorem wC_s20_4 (κ : zG) (σ : zS) (v : Int32) : (wC κ σ).set 20 ((κ.2.1 20), .inr (3, (wC_f20 κ σ).set 4 (.int v))) = wC κ (sI σ 28 v) := rfl
theorem wC_at21 (κ : zG) (σ : zS) : (wC κ σ)[21]? = some ((κ.2.1 21), .inl (κ.2.2.1 0, (κ.2.2.2 2), .inl (zA σ 8))) := rfl
theorem wC_s21 (κ : zG) (σ : zS) (f : Nat → Int32) : (wC κ σ).set 21 ((κ.2.1 21), .inl (κ.2.2.1 0, (κ.2.2.2 2), .inl f)) = wC κ (sA σ 8 f) := rfl
theorem wC_at22 (κ : zG) (σ : zS) : (wC κ σ)[22]? = some ((κ.2.1 22), .inl (κ.2.2.1 0, (κ.2.2.2 2), .inl (zA σ 9))) := rfl
theorem wC_s22 (κ : zG) (σ : zS) (f : Nat → Int32) : (wC κ σ).set 22 ((κ.2.1 22), .inl (κ.2.2.1 0, (κ.2.2.2 2), .inl f)) = wC κ (sA σ 9 f) := rfl
theorem wC_at23 (κ : zG) (σ : zS) : (wC κ σ)[23]? = some ((κ.2.1 23), .inr (4, wC_f23 κ σ)) := rfl
theorem wC_at24 (κ : zG) (σ : zS) : (wC κ σ)[24]? = some ((κ.2.1 24), .inr (6, wC_f24 κ σ)) := rfl
theorem wC_s24_1 (κ : zG) (σ : zS) (v : Int32) : (wC κ σ).set 24 ((κ.2.1 24), .inr (6, (wC_f24 κ σ).set 1 (.int v))) = wC κ (sI σ 29 v) := rfl
theorem wC_at25 (κ : zG) (σ : zS) : (wC κ σ)[25]? = some ((κ.2.1 25), .inl (κ.2.2.1 0, 8, .inl (zA σ 10))) := rfl
theorem wC_s25 (κ : zG) (σ : zS) (f : Nat → Int32) : (wC κ σ).set 25 ((κ.2.1 25), .inl (κ.2.2.1 0, 8, .inl f)) = wC κ (sA σ 10 f) := rfl
theorem wC_at26 (κ : zG) (σ : zS) : (wC κ σ)[26]? = some ((κ.2.1 26), .inl (κ.2.2.1 0, 8, .inl (zA σ 11))) := rfl
theorem wC_s26 (κ : zG) (σ : zS) (f : Nat → Int32) : (wC κ σ).set 26 ((κ.2.1 26), .inl (κ.2.2.1 0, 8, .inl f)) = wC κ (sA σ 11 f) := rfl
theorem wC_at27 (κ : zG) (σ : zS) : (wC κ σ)[27]? = some ((κ.2.1 27), .inl (κ.2.2.1 0, 8, .inl (zA σ 12))) := rfl
theorem wC_s27 (κ : zG) (σ : zS) (f : Nat → Int32) : (wC κ σ).set 27 ((κ.2.1 27), .inl (κ.2.2.1 0, 8, .inl f)) = wC κ (sA σ 12 f) := rfl
theorem wC_at28 (κ : zG) (σ : zS) : (wC κ σ)[28]? = some ((κ.2.1 28), .inl (κ.2.2.1 0, 8, .inl (zA σ 13))) := rfl
theorem wC_s28 (κ : zG) (σ : zS) (f : Nat → Int32) : (wC κ σ).set 28 ((κ.2.1 28), .inl (κ.2.2.1 0, 8, .inl f)) = wC κ (sA σ 13 f) := rfl
theorem wC_at29 (κ : zG) (σ : zS) : (wC κ σ)[29]? = some ((κ.2.1 29), .inr (8, wC_f29 κ σ)) := rfl
theorem wC_s29_3 (κ : zG) (σ : zS) (v : Int32) : (wC κ σ).set 29 ((κ.2.1 29), .inr (8, (wC_f29 κ σ).set 3 (.int v))) = wC κ (sI σ 30 v) := rfl
theorem wC_s29_4 (κ : zG) (σ : zS) (v : Int32) : (wC κ σ).set 29 ((κ.2.1 29), .inr (8, (wC_f29 κ σ).set 4 (.int v))) = wC κ (sI σ 31 v) := rfl
theorem wC_at30 (κ : zG) (σ : zS) : (wC κ σ)[30]? = some ((κ.2.1 30), .inl (κ.2.2.1 3, 7, .inr (.inr (.inr (.inr (fun j => some (κ.2.1 (38 + 2 * zT σ j)))))))) := rfl
theorem wC_s30 (κ : zG) (σ : zS) (i k : Nat) : (wC κ σ).set 30 ((κ.2.1 30), .inl (κ.2.2.1 3, 7, .inr (.inr (.inr (.inr (va_up (fun j => some (κ.2.1 (38 + 2 * zT σ j))) i (some (κ.2.1 (38 + 2 * k))))))))) = wC κ (sT σ i k) := by
  have e : va_up (fun j => some (κ.2.1 (38 + 2 * zT σ j))) i (some (κ.2.1 (38 + 2 * k))) = (fun j => some (κ.2.1 (38 + 2 * zT (sT σ i k) j))) := by
    funext j
    unfold va_up zT sT
    by_cases h : j = i
    · simp [h]
    · simp [h]
  rw [e]
  rfl
theorem wC_at31 (κ : zG) (σ : zS) : (wC κ σ)[31]? = some ((κ.2.1 31), .inl (κ.2.2.1 0, 7, .inl (zA σ 14))) := rfl
theorem wC_s31 (κ : zG) (σ : zS) (f : Nat → Int32) : (wC κ σ).set 31 ((κ.2.1 31), .inl (κ.2.2.1 0, 7, .inl f)) = wC κ (sA σ 14 f) := rfl
theorem wC_at32 (κ : zG) (σ : zS) : (wC κ σ)[32]? = some ((κ.2.1 32), .inl (κ.2.2.1 0, 7, .inl (zA σ 15))) := rfl
theorem wC_s32 (κ : zG) (σ : zS) (f : Nat → Int32) : (wC κ σ).set 32 ((κ.2.1 32), .inl (κ.2.2.1 0, 7, .inl f)) = wC κ (sA σ 15 f) := rfl
theorem wC_at33 (κ : zG) (σ : zS) : (wC κ σ)[33]? = some ((κ.2.1 33), .inr (6, wC_f33 κ σ)) := rfl
theorem wC_s33_1 (κ : zG) (σ : zS) (v : Int32) : (wC κ σ).set 33 ((κ.2.1 33), .inr (6, (wC_f33 κ σ).set 1 (.int v))) = wC κ (sI σ 32 v) := rfl
theorem wC_at34 (κ : zG) (σ : zS) : (wC κ σ)[34]? = some ((κ.2.1 34), .inl (κ.2.2.1 0, (κ.2.2.2 0), .inl (zA σ 16))) := rfl
theorem wC_s34 (κ : zG) (σ : zS) (f : Nat → Int32) : (wC κ σ).set 34 ((κ.2.1 34), .inl (κ.2.2.1 0, (κ.2.2.2 0), .inl f)) = wC κ (sA σ 16 f) := rfl
theorem wC_at35 (κ : zG) (σ : zS) : (wC κ σ)[35]? = some ((κ.2.1 35), .inl (κ.2.2.1 1, 4, .inr (.inl (zL σ 3)))) := rfl
theorem wC_s35 (κ : zG) (σ : zS) (f : Nat → Int64) : (wC κ σ).set 35 ((κ.2.1 35), .inl (κ.2.2.1 1, 4, .inr (.inl f))) = wC κ (sL σ 3 f) := rfl
theorem wC_at36 (κ : zG) (σ : zS) : (wC κ σ)[36]? = some ((κ.2.1 36), .inl (κ.2.2.1 2, (κ.2.2.2 0), .inl (zA σ 17))) := rfl
theorem wC_s36 (κ : zG) (σ : zS) (f : Nat → Int32) : (wC κ σ).set 36 ((κ.2.1 36), .inl (κ.2.2.1 2, (κ.2.2.2 0), .inl f)) = wC κ (sA σ 17 f) := rfl
theorem wC_at37 (κ : zG) (σ : zS) : (wC κ σ)[37]? = some ((κ.2.1 37), .inl (κ.2.2.1 0, (κ.2.2.2 0), .inl (zA σ 18))) := rfl
theorem wC_s37 (κ : zG) (σ : zS) (f : Nat → Int32) : (wC κ σ).set 37 ((κ.2.1 37), .inl (κ.2.2.1 0, (κ.2.2.2 0), .inl f)) = wC κ (sA σ 18 f) := rfl
theorem wC_sr11 (κ : zG) (σ : zS) (v : Int32) (f : Nat → Int32) : ((wC κ σ).set 11 ((κ.2.1 11), .inr (6, [.ref (κ.2.1 12), .int v]))).set 12 ((κ.2.1 12), .inl (κ.2.2.1 0, (κ.2.2.2 0), .inl f)) = wC κ (sA (sI σ 17 v) 5 f) := rfl
theorem wC_sr16 (κ : zG) (σ : zS) (v : Int32) (f : Nat → Int32) : ((wC κ σ).set 16 ((κ.2.1 16), .inr (6, [.ref (κ.2.1 17), .int v]))).set 17 ((κ.2.1 17), .inl (κ.2.2.1 0, (κ.2.2.2 0), .inl f)) = wC κ (sA (sI σ 25 v) 6 f) := rfl
theorem wC_sr18 (κ : zG) (σ : zS) (v : Int32) (f : Nat → Int32) : ((wC κ σ).set 18 ((κ.2.1 18), .inr (6, [.ref (κ.2.1 19), .int v]))).set 19 ((κ.2.1 19), .inl (κ.2.2.1 0, (κ.2.2.2 0), .inl f)) = wC κ (sA (sI σ 26 v) 7 f) := rfl
theorem wC_sr24 (κ : zG) (σ : zS) (v : Int32) (f : Nat → Int32) : ((wC κ σ).set 24 ((κ.2.1 24), .inr (6, [.ref (κ.2.1 25), .int v]))).set 25 ((κ.2.1 25), .inl (κ.2.2.1 0, 8, .inl f)) = wC κ (sA (sI σ 29 v) 10 f) := rfl
theorem wC_sr33 (κ : zG) (σ : zS) (v : Int32) (f : Nat → Int32) : ((wC κ σ).set 33 ((κ.2.1 33), .inr (6, [.ref (κ.2.1 34), .int v]))).set 34 ((κ.2.1 34), .inl (κ.2.2.1 0, (κ.2.2.2 0), .inl f)) = wC κ (sA (sI σ 32 v) 16 f) := rfl
theorem wC_tr (κ : zG) (σ : zS) {j : Nat} (hj : j < 7) : (wC κ σ)[38 + 2 * j]? = some (κ.2.1 (38 + 2 * j), .inr (6, [.ref (κ.2.1 (39 + 2 * j)), .int (zU σ j)])) := by
  match j, hj with
  | 0, _ => rfl
  | 1, _ => rfl
  | 2, _ => rfl
  | 3, _ => rfl
  | 4, _ => rfl
  | 5, _ => rfl
  | 6, _ => rfl
  | j + 7, hj => omega
theorem wC_ti (κ : zG) (σ : zS) {j : Nat} (hj : j < 7) : (wC κ σ)[39 + 2 * j]? = some (κ.2.1 (39 + 2 * j), .inl (κ.2.2.1 0, (κ.2.2.2 0), .inl (zV σ j))) := by
  match j, hj with
  | 0, _ => rfl
  | 1, _ => rfl
  | 2, _ => rfl
  | 3, _ => rfl
  | 4, _ => rfl
  | 5, _ => rfl
  | 6, _ => rfl
  | j + 7, hj => omega
theorem wC_st (κ : zG) (σ : zS) {j : Nat} (hj : j < 7) (v : Int32) (f : Nat → Int32) : ((wC κ σ).set (38 + 2 * j) (κ.2.1 (38 + 2 * j), .inr (6, [.ref (κ.2.1 (39 + 2 * j)), .int v]))).set (39 + 2 * j) (κ.2.1 (39 + 2 * j), .inl (κ.2.2.1 0, (κ.2.2.2 0), .inl f)) = wC κ (sV (sU σ j v) j f) := by
  match j, hj with
  | 0, _ => rfl
  | 1, _ => rfl
  | 2, _ => rfl
  | 3, _ => rfl
  | 4, _ => rfl
  | 5, _ => rfl
  | 6, _ => rfl
  | j + 7, hj => omega
theorem zin7 {i : Int32} (h : zin i 7 = true) : i.toNatClampNeg < 7 := by
  have := zin_in h
  unfold vp_in at this
  omega
theorem z7_lt {k : Nat} (h : z7 k = true) : k < 7 := of_decide_eq_true h
set_option maxRecDepth 20000 in
theorem iwX9 : ∀ x ∈ wsX90, x ∈ zW := zwp [425, 427, 429, 431, 433, 435, 437, 439, 441, 443, 445, 447, 449] (by decide +kernel) (by decide +kernel)
set_option maxRecDepth 20000 in
theorem iwX5 : ∀ x ∈ wsX50, x ∈ zW := zwp [189, 191, 193, 195, 197, 199, 201] (by decide +kernel) (by decide +kernel)
set_option maxRecDepth 20000 in
theorem iwX1 : ∀ x ∈ wsX10, x ∈ zW := zwp [215, 217, 219] (by decide +kernel) (by decide +kernel)
set_option maxRecDepth 20000 in
theorem iwX0 : ∀ x ∈ wsX00, x ∈ zW := zwp [142, 144, 146, 148, 150, 152, 154, 156, 158] (by decide +kernel) (by decide +kernel)
set_option maxRecDepth 20000 in
theorem iwX3 : ∀ x ∈ wsX30, x ∈ zW := zwp [339, 341, 343, 345, 347] (by decide +kernel) (by decide +kernel)
set_option maxRecDepth 20000 in
theorem iwX2 : ∀ x ∈ wsX20, x ∈ zW := zwp [256, 258, 260, 262, 264, 266, 268, 270, 272] (by decide +kernel) (by decide +kernel)
set_option maxRecDepth 20000 in
theorem iwX6 : ∀ x ∈ wsX60, x ∈ zW := zwp [237, 239] (by decide +kernel) (by decide +kernel)
set_option maxRecDepth 20000 in
theorem iwX7 : ∀ x ∈ wsX70, x ∈ zW := zwp [298, 300, 302, 304, 306, 308, 310, 312, 314, 316, 318, 320, 322] (by decide +kernel) (by decide +kernel)
set_option maxRecDepth 20000 in
theorem iwX4 : ∀ x ∈ wsX40, x ∈ zW := zwp [367, 369, 371, 373, 375, 377, 379, 381] (by decide +kernel) (by decide +kernel)
set_option maxRecDepth 20000 in
theorem iwX8 : ∀ x ∈ wsX80, x ∈ zW := zwp [399, 401, 403, 405, 407] (by decide +kernel) (by decide +kernel)
theorem lkC0 : Cond.fieldLink RX9 92 (TX9 9).1 (TX9 9).2.1 (TX9 9).2.2.1 ∈ zW := zw (zt2 (List.mem_of_getElem? (i := 103) rfl)) rfl
theorem lkC1 : Cond.fieldLink RX9 27 (TX9 1).1 (TX9 1).2.1 (TX9 1).2.2.1 ∈ zW := zw (zt2 (List.mem_of_getElem? (i := 95) rfl)) rfl
theorem lkC2 : Cond.methodLink RX9 325 Lib.Math.max.name ∈ zW := zw (zt1 (List.mem_of_getElem? (i := 34) rfl)) rfl
theorem lkC3 : Cond.static Lib.Math.max.name ∈ zW := zw (zt1 (List.mem_of_getElem? (i := 35) rfl)) rfl
theorem lkC4 : Cond.initialized "java/lang/Math" ∈ zW := zw (zt1 (List.mem_of_getElem? (i := 2) rfl)) rfl
theorem lkC5 : Cond.code Lib.Math.max.name Lib.Math.max.code 2 (some .int) ∈ zW := zw (zt1 (List.mem_of_getElem? (i := 36) rfl)) rfl
theorem lkC6 : Cond.fieldLink RX9 36 (TX9 2).1 (TX9 2).2.1 (TX9 2).2.2.1 ∈ zW := zw (zt2 (List.mem_of_getElem? (i := 96) rfl)) rfl
theorem lkC7 : Cond.fieldLink RX1 21 (TX1 1).1 (TX1 1).2.1 (TX1 1).2.2.1 ∈ zW := zw (zt1 (List.mem_of_getElem? (i := 135) rfl)) rfl
theorem lkC8 : Cond.methodLink RX1 28 yX1_behind ∈ zW := zw (zt4 (List.mem_of_getElem? (i := 102) rfl)) rfl
theorem lkC9 : Cond.instanceMethod yX1_behind ∈ zW := zw (zt4 (List.mem_of_getElem? (i := 92) rfl)) rfl
theorem lkC10 : Cond.selects RX1 yX1_behind yX1_behind ∈ zW := zw (zt4 (List.mem_of_getElem? (i := 93) rfl)) rfl
theorem lkC11 : Cond.initialized RX1 ∈ zW := zw (zt1 (List.mem_of_getElem? (i := 5) rfl)) rfl
theorem lkC12 : Cond.code yX1_behind cX1_behind 2 (some .int) ∈ zW := zw (zt4 (List.mem_of_getElem? (i := 94) rfl)) rfl
theorem lkC13 : Cond.methodLink RX9 260 yX1_blockAt ∈ zW := zw (zt4 (List.mem_of_getElem? (i := 216) rfl)) rfl
theorem lkC14 : Cond.instanceMethod yX1_blockAt ∈ zW := zw (zt4 (List.mem_of_getElem? (i := 217) rfl)) rfl
theorem lkC15 : Cond.selects RX1 yX1_blockAt yX1_blockAt ∈ zW := zw (zt4 (List.mem_of_getElem? (i := 218) rfl)) rfl
theorem lkC16 : Cond.code yX1_blockAt cX1_blockAt 5 (some .int) ∈ zW := zw (zt4 (List.mem_of_getElem? (i := 219) rfl)) rfl
theorem lkC17 : Cond.fieldLink RX9 18 (TX9 0).1 (TX9 0).2.1 (TX9 0).2.2.1 ∈ zW := zw (zt2 (List.mem_of_getElem? (i := 94) rfl)) rfl
theorem lkC18 : Cond.fieldLink RX0 32 (TX0 3).1 (TX0 3).2.1 (TX0 3).2.2.1 ∈ zW := zw (zt1 (List.mem_of_getElem? (i := 52) rfl)) rfl
theorem lkC19 : Cond.fieldLink RX0 50 (TX0 5).1 (TX0 5).2.1 (TX0 5).2.2.1 ∈ zW := zw (zt1 (List.mem_of_getElem? (i := 56) rfl)) rfl
theorem lkC20 : Cond.fieldLink RX0 53 (TX0 6).1 (TX0 6).2.1 (TX0 6).2.2.1 ∈ zW := zw (zt1 (List.mem_of_getElem? (i := 58) rfl)) rfl
theorem lkC21 : Cond.methodLink RX0 35 yX0_moveArm ∈ zW := zw (zt3 (List.mem_of_getElem? (i := 84) rfl)) rfl
theorem lkC22 : Cond.instanceMethod yX0_moveArm ∈ zW := zw (zt3 (List.mem_of_getElem? (i := 86) rfl)) rfl
theorem lkC23 : Cond.selects RX0 yX0_moveArm yX0_moveArm ∈ zW := zw (zt0 (List.mem_of_getElem? (i := 5) rfl)) rfl
theorem lkC24 : Cond.initialized RX0 ∈ zW := zw (zt1 (List.mem_of_getElem? (i := 3) rfl)) rfl
theorem lkC25 : Cond.code yX0_moveArm cX0_moveArm 2 none ∈ zW := zw (zt3 (List.mem_of_getElem? (i := 87) rfl)) rfl
theorem lkC26 : Cond.methodLink RX9 339 yX0_readBlock ∈ zW := zw (zt4 (List.mem_of_getElem? (i := 233) rfl)) rfl
theorem lkC27 : Cond.instanceMethod yX0_readBlock ∈ zW := zw (zt3 (List.mem_of_getElem? (i := 174) rfl)) rfl
theorem lkC28 : Cond.selects RX0 yX0_readBlock yX0_readBlock ∈ zW := zw (zt3 (List.mem_of_getElem? (i := 175) rfl)) rfl
theorem lkC29 : Cond.code yX0_readBlock cX0_readBlock 2 none ∈ zW := zw (zt3 (List.mem_of_getElem? (i := 176) rfl)) rfl
theorem lkC30 : Cond.fieldLink RX0 21 (TX0 1).1 (TX0 1).2.1 (TX0 1).2.2.1 ∈ zW := zw (zt1 (List.mem_of_getElem? (i := 50) rfl)) rfl
theorem lkC31 : Cond.methodLink RX9 347 yX0_cell ∈ zW := zw (zt4 (List.mem_of_getElem? (i := 234) rfl)) rfl
theorem lkC32 : Cond.instanceMethod yX0_cell ∈ zW := zw (zt3 (List.mem_of_getElem? (i := 194) rfl)) rfl
theorem lkC33 : Cond.selects RX0 yX0_cell yX0_cell ∈ zW := zw (zt3 (List.mem_of_getElem? (i := 195) rfl)) rfl
theorem lkC34 : Cond.code yX0_cell cX0_cell 2 (some .long) ∈ zW := zw (zt3 (List.mem_of_getElem? (i := 196) rfl)) rfl
theorem lkC35 : Cond.fieldLink RX9 63 (TX9 5).1 (TX9 5).2.1 (TX9 5).2.2.1 ∈ zW := zw (zt2 (List.mem_of_getElem? (i := 99) rfl)) rfl
theorem lkC36 : Cond.fieldLink RX3 32 (TX3 4).1 (TX3 4).2.1 (TX3 4).2.2.1 ∈ zW := zw (zt2 (List.mem_of_getElem? (i := 19) rfl)) rfl
theorem lkC37 : Cond.methodLink RX9 363 yX3_clear ∈ zW := zw (zt3 (List.mem_of_getElem? (i := 157) rfl)) rfl
theorem lkC38 : Cond.instanceMethod yX3_clear ∈ zW := zw (zt3 (List.mem_of_getElem? (i := 158) rfl)) rfl
theorem lkC39 : Cond.selects RX3 yX3_clear yX3_clear ∈ zW := zw (zt3 (List.mem_of_getElem? (i := 159) rfl)) rfl
theorem lkC40 : Cond.initialized RX3 ∈ zW := zw (zt1 (List.mem_of_getElem? (i := 9) rfl)) rfl
theorem lkC41 : Cond.code yX3_clear cX3_clear 1 none ∈ zW := zw (zt3 (List.mem_of_getElem? (i := 160) rfl)) rfl
theorem lkC42 : Cond.fieldLink RX9 45 (TX9 3).1 (TX9 3).2.1 (TX9 3).2.2.1 ∈ zW := zw (zt2 (List.mem_of_getElem? (i := 97) rfl)) rfl
theorem lkC43 : Cond.fieldLink RX2 15 (TX2 1).1 (TX2 1).2.1 (TX2 1).2.2.1 ∈ zW := zw (zt1 (List.mem_of_getElem? (i := 166) rfl)) rfl
theorem lkC44 : Cond.methodLink RX2 34 Lib.Math.max.name ∈ zW := zw (zt1 (List.mem_of_getElem? (i := 164) rfl)) rfl
theorem lkC45 : Cond.fieldLink RX2 24 (TX2 2).1 (TX2 2).2.1 (TX2 2).2.2.1 ∈ zW := zw (zt1 (List.mem_of_getElem? (i := 167) rfl)) rfl
theorem lkC46 : Cond.fieldLink RX2 78 (TX2 7).1 (TX2 7).2.1 (TX2 7).2.2.1 ∈ zW := zw (zt1 (List.mem_of_getElem? (i := 175) rfl)) rfl
theorem lkC47 : Cond.fieldLink RX6 21 (TX6 1).1 (TX6 1).2.1 (TX6 1).2.2.1 ∈ zW := zw (zt1 (List.mem_of_getElem? (i := 158) rfl)) rfl
theorem lkC48 : Cond.fieldLink RX6 15 (TX6 0).1 (TX6 0).2.1 (TX6 0).2.2.1 ∈ zW := zw (zt1 (List.mem_of_getElem? (i := 157) rfl)) rfl
theorem lkC49 : Cond.methodLink RX2 93 yX6_get ∈ zW := zw (zt3 (List.mem_of_getElem? (i := 169) rfl)) rfl
theorem lkC50 : Cond.instanceMethod yX6_get ∈ zW := zw (zt3 (List.mem_of_getElem? (i := 170) rfl)) rfl
theorem lkC51 : Cond.selects RX6 yX6_get yX6_get ∈ zW := zw (zt3 (List.mem_of_getElem? (i := 171) rfl)) rfl
theorem lkC52 : Cond.initialized RX6 ∈ zW := zw (zt1 (List.mem_of_getElem? (i := 7) rfl)) rfl
theorem lkC53 : Cond.code yX6_get cX6_get 2 (some .int) ∈ zW := zw (zt3 (List.mem_of_getElem? (i := 172) rfl)) rfl
theorem lkC54 : Cond.fieldLink RX2 9 (TX2 0).1 (TX2 0).2.1 (TX2 0).2.2.1 ∈ zW := zw (zt1 (List.mem_of_getElem? (i := 165) rfl)) rfl
theorem lkC55 : Cond.methodLink RX2 97 yX0_readBlock ∈ zW := zw (zt3 (List.mem_of_getElem? (i := 173) rfl)) rfl
theorem lkC56 : Cond.fieldLink RX2 84 (TX2 8).1 (TX2 8).2.1 (TX2 8).2.2.1 ∈ zW := zw (zt1 (List.mem_of_getElem? (i := 176) rfl)) rfl
theorem lkC57 : Cond.methodLink RX9 357 yX2_next ∈ zW := zw (zt3 (List.mem_of_getElem? (i := 165) rfl)) rfl
theorem lkC58 : Cond.instanceMethod yX2_next ∈ zW := zw (zt3 (List.mem_of_getElem? (i := 166) rfl)) rfl
theorem lkC59 : Cond.selects RX2 yX2_next yX2_next ∈ zW := zw (zt3 (List.mem_of_getElem? (i := 167) rfl)) rfl
theorem lkC60 : Cond.initialized RX2 ∈ zW := zw (zt1 (List.mem_of_getElem? (i := 6) rfl)) rfl
theorem lkC61 : Cond.code yX2_next cX2_next 4 (some .int) ∈ zW := zw (zt3 (List.mem_of_getElem? (i := 168) rfl)) rfl
theorem lkC62 : Cond.fieldLink RX3 25 (TX3 2).1 (TX3 2).2.1 (TX3 2).2.2.1 ∈ zW := zw (zt2 (List.mem_of_getElem? (i := 17) rfl)) rfl
theorem lkC63 : Cond.fieldLink RX3 29 (TX3 3).1 (TX3 3).2.1 (TX3 3).2.2.1 ∈ zW := zw (zt2 (List.mem_of_getElem? (i := 18) rfl)) rfl
theorem lkC64 : Cond.fieldLink RX3 9 (TX3 0).1 (TX3 0).2.1 (TX3 0).2.2.1 ∈ zW := zw (zt2 (List.mem_of_getElem? (i := 14) rfl)) rfl
theorem lkC65 : Cond.fieldLink RX5 48 (TX5 3).1 (TX5 3).2.1 (TX5 3).2.2.1 ∈ zW := zw (zt1 (List.mem_of_getElem? (i := 95) rfl)) rfl
theorem lkC66 : Cond.fieldLink RX5 23 (TX5 4).1 (TX5 4).2.1 (TX5 4).2.2.1 ∈ zW := zw (zt1 (List.mem_of_getElem? (i := 97) rfl)) rfl
theorem lkC67 : Cond.fieldLink RX5 15 (TX5 1).1 (TX5 1).2.1 (TX5 1).2.2.1 ∈ zW := zw (zt1 (List.mem_of_getElem? (i := 93) rfl)) rfl
theorem lkC68 : Cond.fieldLink RX5 19 (TX5 2).1 (TX5 2).2.1 (TX5 2).2.2.1 ∈ zW := zw (zt1 (List.mem_of_getElem? (i := 94) rfl)) rfl
theorem lkC69 : Cond.fieldLink RX5 9 (TX5 0).1 (TX5 0).2.1 (TX5 0).2.2.1 ∈ zW := zw (zt1 (List.mem_of_getElem? (i := 92) rfl)) rfl
theorem lkC70 : Cond.methodLink RX5 58 yX0_cell ∈ zW := zw (zt3 (List.mem_of_getElem? (i := 193) rfl)) rfl
theorem lkC71 : Cond.methodLink RX5 55 yX5_compareKeys ∈ zW := zw (zt3 (List.mem_of_getElem? (i := 189) rfl)) rfl
theorem lkC72 : Cond.instanceMethod yX5_compareKeys ∈ zW := zw (zt3 (List.mem_of_getElem? (i := 191) rfl)) rfl
theorem lkC73 : Cond.selects RX5 yX5_compareKeys yX5_compareKeys ∈ zW := zw (zt0 (List.mem_of_getElem? (i := 11) rfl)) rfl
theorem lkC74 : Cond.initialized RX5 ∈ zW := zw (zt1 (List.mem_of_getElem? (i := 4) rfl)) rfl
theorem lkC75 : Cond.code yX5_compareKeys cX5_compareKeys 11 (some .int) ∈ zW := zw (zt3 (List.mem_of_getElem? (i := 192) rfl)) rfl
theorem lkC76 : Cond.methodLink RX3 47 yX5_isBefore ∈ zW := zw (zt3 (List.mem_of_getElem? (i := 185) rfl)) rfl
theorem lkC77 : Cond.instanceMethod yX5_isBefore ∈ zW := zw (zt3 (List.mem_of_getElem? (i := 186) rfl)) rfl
theorem lkC78 : Cond.selects RX5 yX5_isBefore yX5_isBefore ∈ zW := zw (zt3 (List.mem_of_getElem? (i := 187) rfl)) rfl
theorem lkC79 : Cond.code yX5_isBefore cX5_isBefore 4 (some .boolean) ∈ zW := zw (zt3 (List.mem_of_getElem? (i := 188) rfl)) rfl
theorem lkC80 : Cond.methodLink RX3 35 yX3_isAhead ∈ zW := zw (zt3 (List.mem_of_getElem? (i := 181) rfl)) rfl
theorem lkC81 : Cond.instanceMethod yX3_isAhead ∈ zW := zw (zt3 (List.mem_of_getElem? (i := 183) rfl)) rfl
theorem lkC82 : Cond.selects RX3 yX3_isAhead yX3_isAhead ∈ zW := zw (zt0 (List.mem_of_getElem? (i := 10) rfl)) rfl
theorem lkC83 : Cond.code yX3_isAhead cX3_isAhead 4 (some .boolean) ∈ zW := zw (zt3 (List.mem_of_getElem? (i := 184) rfl)) rfl
theorem lkC84 : Cond.methodLink RX3 43 yX3_put ∈ zW := zw (zt3 (List.mem_of_getElem? (i := 201) rfl)) rfl
theorem lkC85 : Cond.instanceMethod yX3_put ∈ zW := zw (zt3 (List.mem_of_getElem? (i := 203) rfl)) rfl
theorem lkC86 : Cond.selects RX3 yX3_put yX3_put ∈ zW := zw (zt0 (List.mem_of_getElem? (i := 13) rfl)) rfl
theorem lkC87 : Cond.code yX3_put cX3_put 4 none ∈ zW := zw (zt3 (List.mem_of_getElem? (i := 204) rfl)) rfl
theorem lkC88 : Cond.methodLink RX3 39 yX3_copyTo ∈ zW := zw (zt3 (List.mem_of_getElem? (i := 197) rfl)) rfl
theorem lkC89 : Cond.instanceMethod yX3_copyTo ∈ zW := zw (zt3 (List.mem_of_getElem? (i := 199) rfl)) rfl
theorem lkC90 : Cond.selects RX3 yX3_copyTo yX3_copyTo ∈ zW := zw (zt0 (List.mem_of_getElem? (i := 12) rfl)) rfl
theorem lkC91 : Cond.code yX3_copyTo cX3_copyTo 3 none ∈ zW := zw (zt3 (List.mem_of_getElem? (i := 200) rfl)) rfl
theorem lkC92 : Cond.methodLink RX9 360 yX3_add ∈ zW := zw (zt3 (List.mem_of_getElem? (i := 177) rfl)) rfl
theorem lkC93 : Cond.instanceMethod yX3_add ∈ zW := zw (zt3 (List.mem_of_getElem? (i := 178) rfl)) rfl
theorem lkC94 : Cond.selects RX3 yX3_add yX3_add ∈ zW := zw (zt3 (List.mem_of_getElem? (i := 179) rfl)) rfl
theorem lkC95 : Cond.code yX3_add cX3_add 6 none ∈ zW := zw (zt3 (List.mem_of_getElem? (i := 180) rfl)) rfl
theorem lkC96 : Cond.methodLink RX9 366 yX9_fillMemory ∈ zW := zw (zt3 (List.mem_of_getElem? (i := 161) rfl)) rfl
theorem lkC97 : Cond.instanceMethod yX9_fillMemory ∈ zW := zw (zt3 (List.mem_of_getElem? (i := 163) rfl)) rfl
theorem lkC98 : Cond.selects RX9 yX9_fillMemory yX9_fillMemory ∈ zW := zw (zt0 (List.mem_of_getElem? (i := 9) rfl)) rfl
theorem lkC99 : Cond.initialized RX9 ∈ zW := zw (zt1 (List.mem_of_getElem? (i := 1) rfl)) rfl
theorem lkC100 : Cond.code yX9_fillMemory cX9_fillMemory 2 none ∈ zW := zw (zt3 (List.mem_of_getElem? (i := 164) rfl)) rfl
theorem lkC101 : Cond.fieldLink RX9 54 (TX9 4).1 (TX9 4).2.1 (TX9 4).2.2.1 ∈ zW := zw (zt2 (List.mem_of_getElem? (i := 98) rfl)) rfl
theorem lkC102 : Cond.methodLink RX9 370 yX3_takeFirst ∈ zW := zw (zt3 (List.mem_of_getElem? (i := 205) rfl)) rfl
theorem lkC103 : Cond.instanceMethod yX3_takeFirst ∈ zW := zw (zt3 (List.mem_of_getElem? (i := 206) rfl)) rfl
theorem lkC104 : Cond.selects RX3 yX3_takeFirst yX3_takeFirst ∈ zW := zw (zt3 (List.mem_of_getElem? (i := 207) rfl)) rfl
theorem lkC105 : Cond.code yX3_takeFirst cX3_takeFirst 7 (some .int) ∈ zW := zw (zt3 (List.mem_of_getElem? (i := 208) rfl)) rfl
theorem lkC106 : Cond.fieldLink RX7 51 (TX7 6).1 (TX7 6).2.1 (TX7 6).2.2.1 ∈ zW := zw (zt1 (List.mem_of_getElem? (i := 213) rfl)) rfl
theorem lkC107 : Cond.fieldLink RX7 83 (TX7 9).1 (TX7 9).2.1 (TX7 9).2.2.1 ∈ zW := zw (zt1 (List.mem_of_getElem? (i := 216) rfl)) rfl
theorem lkC108 : Cond.fieldLink RX7 15 (TX7 1).1 (TX7 1).2.1 (TX7 1).2.2.1 ∈ zW := zw (zt1 (List.mem_of_getElem? (i := 207) rfl)) rfl
theorem lkC109 : Cond.methodLink RX7 86 yX5_isAlike ∈ zW := zw (zt3 (List.mem_of_getElem? (i := 213) rfl)) rfl
theorem lkC110 : Cond.instanceMethod yX5_isAlike ∈ zW := zw (zt3 (List.mem_of_getElem? (i := 214) rfl)) rfl
theorem lkC111 : Cond.selects RX5 yX5_isAlike yX5_isAlike ∈ zW := zw (zt3 (List.mem_of_getElem? (i := 215) rfl)) rfl
theorem lkC112 : Cond.code yX5_isAlike cX5_isAlike 3 (some .boolean) ∈ zW := zw (zt3 (List.mem_of_getElem? (i := 216) rfl)) rfl
theorem lkC113 : Cond.fieldLink RX7 61 (TX7 7).1 (TX7 7).2.1 (TX7 7).2.2.1 ∈ zW := zw (zt1 (List.mem_of_getElem? (i := 214) rfl)) rfl
theorem lkC114 : Cond.fieldLink RX7 9 (TX7 0).1 (TX7 0).2.1 (TX7 0).2.2.1 ∈ zW := zw (zt1 (List.mem_of_getElem? (i := 206) rfl)) rfl
theorem lkC115 : Cond.methodLink RX7 93 yX0_cell ∈ zW := zw (zt3 (List.mem_of_getElem? (i := 217) rfl)) rfl
theorem lkC116 : Cond.fieldLink RX7 104 (TX7 8).1 (TX7 8).2.1 (TX7 8).2.2.1 ∈ zW := zw (zt1 (List.mem_of_getElem? (i := 215) rfl)) rfl
theorem lkC117 : Cond.fieldLink RX7 35 (TX7 3).1 (TX7 3).2.1 (TX7 3).2.2.1 ∈ zW := zw (zt1 (List.mem_of_getElem? (i := 209) rfl)) rfl
theorem lkC118 : Cond.methodLink RX7 97 yX7_addToWaiting ∈ zW := zw (zt3 (List.mem_of_getElem? (i := 218) rfl)) rfl
theorem lkC119 : Cond.instanceMethod yX7_addToWaiting ∈ zW := zw (zt3 (List.mem_of_getElem? (i := 220) rfl)) rfl
theorem lkC120 : Cond.selects RX7 yX7_addToWaiting yX7_addToWaiting ∈ zW := zw (zt0 (List.mem_of_getElem? (i := 14) rfl)) rfl
theorem lkC121 : Cond.initialized RX7 ∈ zW := zw (zt1 (List.mem_of_getElem? (i := 8) rfl)) rfl
theorem lkC122 : Cond.code yX7_addToWaiting cX7_addToWaiting 4 none ∈ zW := zw (zt3 (List.mem_of_getElem? (i := 221) rfl)) rfl
theorem lkC123 : Cond.fieldLink RX7 116 (TX7 12).1 (TX7 12).2.1 (TX7 12).2.2.1 ∈ zW := zw (zt1 (List.mem_of_getElem? (i := 219) rfl)) rfl
theorem lkC124 : Cond.fieldLink RX0 25 (TX0 2).1 (TX0 2).2.1 (TX0 2).2.2.1 ∈ zW := zw (zt1 (List.mem_of_getElem? (i := 51) rfl)) rfl
theorem lkC125 : Cond.methodLink RX0 39 yX0_leastFree ∈ zW := zw (zt3 (List.mem_of_getElem? (i := 80) rfl)) rfl
theorem lkC126 : Cond.instanceMethod yX0_leastFree ∈ zW := zw (zt3 (List.mem_of_getElem? (i := 82) rfl)) rfl
theorem lkC127 : Cond.selects RX0 yX0_leastFree yX0_leastFree ∈ zW := zw (zt0 (List.mem_of_getElem? (i := 4) rfl)) rfl
theorem lkC128 : Cond.code yX0_leastFree cX0_leastFree 2 (some .int) ∈ zW := zw (zt3 (List.mem_of_getElem? (i := 83) rfl)) rfl
theorem lkC129 : Cond.fieldLink RX0 29 (TX0 7).1 (TX0 7).2.1 (TX0 7).2.2.1 ∈ zW := zw (zt1 (List.mem_of_getElem? (i := 60) rfl)) rfl
theorem lkC130 : Cond.fieldLink RX0 43 (TX0 8).1 (TX0 8).2.1 (TX0 8).2.2.1 ∈ zW := zw (zt1 (List.mem_of_getElem? (i := 62) rfl)) rfl
theorem lkC131 : Cond.fieldLink RX0 47 (TX0 4).1 (TX0 4).2.1 (TX0 4).2.2.1 ∈ zW := zw (zt1 (List.mem_of_getElem? (i := 54) rfl)) rfl
theorem lkC132 : Cond.fieldLink RX0 9 (TX0 0).1 (TX0 0).2.1 (TX0 0).2.2.1 ∈ zW := zw (zt1 (List.mem_of_getElem? (i := 44) rfl)) rfl
theorem lkC133 : Cond.methodLink RX7 131 yX0_store ∈ zW := zw (zt3 (List.mem_of_getElem? (i := 230) rfl)) rfl
theorem lkC134 : Cond.instanceMethod yX0_store ∈ zW := zw (zt3 (List.mem_of_getElem? (i := 77) rfl)) rfl
theorem lkC135 : Cond.selects RX0 yX0_store yX0_store ∈ zW := zw (zt3 (List.mem_of_getElem? (i := 78) rfl)) rfl
theorem lkC136 : Cond.code yX0_store cX0_store 6 (some .int) ∈ zW := zw (zt3 (List.mem_of_getElem? (i := 79) rfl)) rfl
theorem lkC137 : Cond.fieldLink RX7 44 (TX7 4).1 (TX7 4).2.1 (TX7 4).2.2.1 ∈ zW := zw (zt1 (List.mem_of_getElem? (i := 210) rfl)) rfl
theorem lkC138 : Cond.methodLink RX7 80 yX6_add ∈ zW := zw (zt3 (List.mem_of_getElem? (i := 231) rfl)) rfl
theorem lkC139 : Cond.instanceMethod yX6_add ∈ zW := zw (zt3 (List.mem_of_getElem? (i := 89) rfl)) rfl
theorem lkC140 : Cond.selects RX6 yX6_add yX6_add ∈ zW := zw (zt3 (List.mem_of_getElem? (i := 90) rfl)) rfl
theorem lkC141 : Cond.code yX6_add cX6_add 2 none ∈ zW := zw (zt3 (List.mem_of_getElem? (i := 91) rfl)) rfl
theorem lkC142 : Cond.fieldLink RX7 19 (TX7 2).1 (TX7 2).2.1 (TX7 2).2.2.1 ∈ zW := zw (zt1 (List.mem_of_getElem? (i := 208) rfl)) rfl
theorem lkC143 : Cond.fieldLink RX7 125 (TX7 11).1 (TX7 11).2.1 (TX7 11).2.2.1 ∈ zW := zw (zt1 (List.mem_of_getElem? (i := 218) rfl)) rfl
theorem lkC144 : Cond.methodLink RX7 135 yX1_join ∈ zW := zw (zt3 (List.mem_of_getElem? (i := 232) rfl)) rfl
theorem lkC145 : Cond.instanceMethod yX1_join ∈ zW := zw (zt3 (List.mem_of_getElem? (i := 233) rfl)) rfl
theorem lkC146 : Cond.selects RX1 yX1_join yX1_join ∈ zW := zw (zt3 (List.mem_of_getElem? (i := 234) rfl)) rfl
theorem lkC147 : Cond.code yX1_join cX1_join 3 none ∈ zW := zw (zt3 (List.mem_of_getElem? (i := 235) rfl)) rfl
theorem lkC148 : Cond.fieldLink RX7 113 (TX7 10).1 (TX7 10).2.1 (TX7 10).2.2.1 ∈ zW := zw (zt1 (List.mem_of_getElem? (i := 217) rfl)) rfl
theorem lkC149 : Cond.methodLink RX7 110 yX7_writePage ∈ zW := zw (zt3 (List.mem_of_getElem? (i := 226) rfl)) rfl
theorem lkC150 : Cond.instanceMethod yX7_writePage ∈ zW := zw (zt3 (List.mem_of_getElem? (i := 228) rfl)) rfl
theorem lkC151 : Cond.selects RX7 yX7_writePage yX7_writePage ∈ zW := zw (zt0 (List.mem_of_getElem? (i := 16) rfl)) rfl
theorem lkC152 : Cond.code yX7_writePage cX7_writePage 2 (some .boolean) ∈ zW := zw (zt3 (List.mem_of_getElem? (i := 229) rfl)) rfl
theorem lkC153 : Cond.methodLink RX7 101 yX7_settleWaiting ∈ zW := zw (zt3 (List.mem_of_getElem? (i := 222) rfl)) rfl
theorem lkC154 : Cond.instanceMethod yX7_settleWaiting ∈ zW := zw (zt3 (List.mem_of_getElem? (i := 224) rfl)) rfl
theorem lkC155 : Cond.selects RX7 yX7_settleWaiting yX7_settleWaiting ∈ zW := zw (zt0 (List.mem_of_getElem? (i := 15) rfl)) rfl
theorem lkC156 : Cond.code yX7_settleWaiting cX7_settleWaiting 1 (some .boolean) ∈ zW := zw (zt3 (List.mem_of_getElem? (i := 225) rfl)) rfl
theorem lkC157 : Cond.methodLink RX9 373 yX7_goOut ∈ zW := zw (zt3 (List.mem_of_getElem? (i := 209) rfl)) rfl
theorem lkC158 : Cond.instanceMethod yX7_goOut ∈ zW := zw (zt3 (List.mem_of_getElem? (i := 210) rfl)) rfl
theorem lkC159 : Cond.selects RX7 yX7_goOut yX7_goOut ∈ zW := zw (zt3 (List.mem_of_getElem? (i := 211) rfl)) rfl
theorem lkC160 : Cond.code yX7_goOut cX7_goOut 4 (some .boolean) ∈ zW := zw (zt3 (List.mem_of_getElem? (i := 212) rfl)) rfl
theorem lkC161 : Cond.fieldLink RX1 25 (TX1 2).1 (TX1 2).2.1 (TX1 2).2.2.1 ∈ zW := zw (zt1 (List.mem_of_getElem? (i := 136) rfl)) rfl
theorem lkC162 : Cond.methodLink RX7 119 yX1_setHeld ∈ zW := zw (zt4 (List.mem_of_getElem? (i := 0) rfl)) rfl
theorem lkC163 : Cond.instanceMethod yX1_setHeld ∈ zW := zw (zt4 (List.mem_of_getElem? (i := 1) rfl)) rfl
theorem lkC164 : Cond.selects RX1 yX1_setHeld yX1_setHeld ∈ zW := zw (zt4 (List.mem_of_getElem? (i := 2) rfl)) rfl
theorem lkC165 : Cond.code yX1_setHeld cX1_setHeld 3 none ∈ zW := zw (zt4 (List.mem_of_getElem? (i := 3) rfl)) rfl
theorem lkC166 : Cond.fieldLink RX7 48 (TX7 5).1 (TX7 5).2.1 (TX7 5).2.2.1 ∈ zW := zw (zt1 (List.mem_of_getElem? (i := 211) rfl)) rfl
theorem lkC167 : Cond.methodLink RX7 67 yX7_beginRun ∈ zW := zw (zt3 (List.mem_of_getElem? (i := 144) rfl)) rfl
theorem lkC168 : Cond.instanceMethod yX7_beginRun ∈ zW := zw (zt3 (List.mem_of_getElem? (i := 146) rfl)) rfl
theorem lkC169 : Cond.selects RX7 yX7_beginRun yX7_beginRun ∈ zW := zw (zt0 (List.mem_of_getElem? (i := 7) rfl)) rfl
theorem lkC170 : Cond.code yX7_beginRun cX7_beginRun 1 none ∈ zW := zw (zt3 (List.mem_of_getElem? (i := 147) rfl)) rfl
theorem lkC171 : Cond.methodLink RX9 376 yX7_endRun ∈ zW := zw (zt3 (List.mem_of_getElem? (i := 236) rfl)) rfl
theorem lkC172 : Cond.instanceMethod yX7_endRun ∈ zW := zw (zt3 (List.mem_of_getElem? (i := 237) rfl)) rfl
theorem lkC173 : Cond.selects RX7 yX7_endRun yX7_endRun ∈ zW := zw (zt3 (List.mem_of_getElem? (i := 238) rfl)) rfl
theorem lkC174 : Cond.code yX7_endRun cX7_endRun 1 (some .boolean) ∈ zW := zw (zt3 (List.mem_of_getElem? (i := 239) rfl)) rfl
theorem lkC175 : Cond.methodLink RX9 379 yX3_firstTurn ∈ zW := zw (zt4 (List.mem_of_getElem? (i := 8) rfl)) rfl
theorem lkC176 : Cond.instanceMethod yX3_firstTurn ∈ zW := zw (zt4 (List.mem_of_getElem? (i := 9) rfl)) rfl
theorem lkC177 : Cond.selects RX3 yX3_firstTurn yX3_firstTurn ∈ zW := zw (zt4 (List.mem_of_getElem? (i := 10) rfl)) rfl
theorem lkC178 : Cond.code yX3_firstTurn cX3_firstTurn 1 (some .int) ∈ zW := zw (zt4 (List.mem_of_getElem? (i := 11) rfl)) rfl
theorem lkC179 : Cond.methodLink RX9 382 yX5_isBefore ∈ zW := zw (zt4 (List.mem_of_getElem? (i := 12) rfl)) rfl
theorem lkC180 : Cond.fieldLink RX9 88 (TX9 8).1 (TX9 8).2.1 (TX9 8).2.2.1 ∈ zW := zw (zt2 (List.mem_of_getElem? (i := 102) rfl)) rfl
theorem lkC181 : Cond.methodLink RX9 114 yX6_size ∈ zW := zw (zt2 (List.mem_of_getElem? (i := 138) rfl)) rfl
theorem lkC182 : Cond.instanceMethod yX6_size ∈ zW := zw (zt2 (List.mem_of_getElem? (i := 139) rfl)) rfl
theorem lkC183 : Cond.selects RX6 yX6_size yX6_size ∈ zW := zw (zt2 (List.mem_of_getElem? (i := 140) rfl)) rfl
theorem lkC184 : Cond.code yX6_size cX6_size 1 (some .int) ∈ zW := zw (zt2 (List.mem_of_getElem? (i := 141) rfl)) rfl
theorem lkC185 : Cond.methodLink RX9 232 Lib.Math.min.name ∈ zW := zw (zt1 (List.mem_of_getElem? (i := 31) rfl)) rfl
theorem lkC186 : Cond.static Lib.Math.min.name ∈ zW := zw (zt1 (List.mem_of_getElem? (i := 32) rfl)) rfl
theorem lkC187 : Cond.code Lib.Math.min.name Lib.Math.min.code 2 (some .int) ∈ zW := zw (zt1 (List.mem_of_getElem? (i := 33) rfl)) rfl
theorem lkC188 : Cond.fieldLink RX9 72 (TX9 6).1 (TX9 6).2.1 (TX9 6).2.2.1 ∈ zW := zw (zt2 (List.mem_of_getElem? (i := 100) rfl)) rfl
theorem lkC189 : Cond.methodLink RX9 389 yX6_clear ∈ zW := zw (zt4 (List.mem_of_getElem? (i := 61) rfl)) rfl
theorem lkC190 : Cond.instanceMethod yX6_clear ∈ zW := zw (zt3 (List.mem_of_getElem? (i := 141) rfl)) rfl
theorem lkC191 : Cond.selects RX6 yX6_clear yX6_clear ∈ zW := zw (zt3 (List.mem_of_getElem? (i := 142) rfl)) rfl
theorem lkC192 : Cond.code yX6_clear cX6_clear 1 none ∈ zW := zw (zt3 (List.mem_of_getElem? (i := 143) rfl)) rfl
theorem lkC193 : Cond.methodLink RX9 238 yX6_get ∈ zW := zw (zt4 (List.mem_of_getElem? (i := 62) rfl)) rfl
theorem lkC194 : Cond.methodLink RX9 390 yX6_add ∈ zW := zw (zt4 (List.mem_of_getElem? (i := 63) rfl)) rfl
theorem lkC195 : Cond.fieldLink RX9 152 (TX9 12).1 (TX9 12).2.1 (TX9 12).2.2.1 ∈ zW := zw (zt2 (List.mem_of_getElem? (i := 106) rfl)) rfl
theorem lkC196 : Cond.fieldLink RX4 23 (TX4 3).1 (TX4 3).2.1 (TX4 3).2.2.1 ∈ zW := zw (zt2 (List.mem_of_getElem? (i := 43) rfl)) rfl
theorem lkC197 : Cond.methodLink RX5 51 yX5_hasKey ∈ zW := zw (zt3 (List.mem_of_getElem? (i := 139) rfl)) rfl
theorem lkC198 : Cond.instanceMethod yX5_hasKey ∈ zW := zw (zt3 (List.mem_of_getElem? (i := 39) rfl)) rfl
theorem lkC199 : Cond.selects RX5 yX5_hasKey yX5_hasKey ∈ zW := zw (zt3 (List.mem_of_getElem? (i := 40) rfl)) rfl
theorem lkC200 : Cond.code yX5_hasKey cX5_hasKey 3 (some .boolean) ∈ zW := zw (zt3 (List.mem_of_getElem? (i := 41) rfl)) rfl
theorem lkC201 : Cond.methodLink RX7 55 yX5_canSum ∈ zW := zw (zt3 (List.mem_of_getElem? (i := 135) rfl)) rfl
theorem lkC202 : Cond.instanceMethod yX5_canSum ∈ zW := zw (zt3 (List.mem_of_getElem? (i := 136) rfl)) rfl
theorem lkC203 : Cond.selects RX5 yX5_canSum yX5_canSum ∈ zW := zw (zt3 (List.mem_of_getElem? (i := 137) rfl)) rfl
theorem lkC204 : Cond.code yX5_canSum cX5_canSum 1 (some .boolean) ∈ zW := zw (zt3 (List.mem_of_getElem? (i := 138) rfl)) rfl
theorem lkC205 : Cond.methodLink RX7 64 yX6_clear ∈ zW := zw (zt3 (List.mem_of_getElem? (i := 140) rfl)) rfl
theorem lkC206 : Cond.methodLink RX4 46 yX7_beginStep ∈ zW := zw (zt4 (List.mem_of_getElem? (i := 68) rfl)) rfl
theorem lkC207 : Cond.instanceMethod yX7_beginStep ∈ zW := zw (zt3 (List.mem_of_getElem? (i := 132) rfl)) rfl
theorem lkC208 : Cond.selects RX7 yX7_beginStep yX7_beginStep ∈ zW := zw (zt3 (List.mem_of_getElem? (i := 133) rfl)) rfl
theorem lkC209 : Cond.code yX7_beginStep cX7_beginStep 2 none ∈ zW := zw (zt3 (List.mem_of_getElem? (i := 134) rfl)) rfl
theorem lkC210 : Cond.fieldLink RX4 32 (TX4 4).1 (TX4 4).2.1 (TX4 4).2.2.1 ∈ zW := zw (zt2 (List.mem_of_getElem? (i := 44) rfl)) rfl
theorem lkC211 : Cond.methodLink RX4 72 yX6_size ∈ zW := zw (zt4 (List.mem_of_getElem? (i := 73) rfl)) rfl
theorem lkC212 : Cond.methodLink RX4 75 yX6_get ∈ zW := zw (zt4 (List.mem_of_getElem? (i := 74) rfl)) rfl
theorem lkC213 : Cond.fieldLink RX4 9 (TX4 0).1 (TX4 0).2.1 (TX4 0).2.2.1 ∈ zW := zw (zt2 (List.mem_of_getElem? (i := 40) rfl)) rfl
theorem lkC214 : Cond.methodLink RX4 87 yX0_readBlock ∈ zW := zw (zt4 (List.mem_of_getElem? (i := 75) rfl)) rfl
theorem lkC215 : Cond.fieldLink RX4 36 (TX4 5).1 (TX4 5).2.1 (TX4 5).2.2.1 ∈ zW := zw (zt2 (List.mem_of_getElem? (i := 46) rfl)) rfl
theorem lkC216 : Cond.fieldLink RX4 40 (TX4 6).1 (TX4 6).2.1 (TX4 6).2.2.1 ∈ zW := zw (zt2 (List.mem_of_getElem? (i := 47) rfl)) rfl
theorem lkC217 : Cond.fieldLink RX4 43 (TX4 7).1 (TX4 7).2.1 (TX4 7).2.2.1 ∈ zW := zw (zt2 (List.mem_of_getElem? (i := 48) rfl)) rfl
theorem lkC218 : Cond.fieldLink RX4 19 (TX4 2).1 (TX4 2).2.1 (TX4 2).2.2.1 ∈ zW := zw (zt2 (List.mem_of_getElem? (i := 42) rfl)) rfl
theorem lkC219 : Cond.methodLink RX4 95 yX1_heldBy ∈ zW := zw (zt4 (List.mem_of_getElem? (i := 76) rfl)) rfl
theorem lkC220 : Cond.instanceMethod yX1_heldBy ∈ zW := zw (zt4 (List.mem_of_getElem? (i := 77) rfl)) rfl
theorem lkC221 : Cond.selects RX1 yX1_heldBy yX1_heldBy ∈ zW := zw (zt4 (List.mem_of_getElem? (i := 78) rfl)) rfl
theorem lkC222 : Cond.code yX1_heldBy cX1_heldBy 2 (some .int) ∈ zW := zw (zt4 (List.mem_of_getElem? (i := 79) rfl)) rfl
theorem lkC223 : Cond.methodLink RX4 51 yX4_start ∈ zW := zw (zt4 (List.mem_of_getElem? (i := 69) rfl)) rfl
theorem lkC224 : Cond.instanceMethod yX4_start ∈ zW := zw (zt4 (List.mem_of_getElem? (i := 71) rfl)) rfl
theorem lkC225 : Cond.selects RX4 yX4_start yX4_start ∈ zW := zw (zt0 (List.mem_of_getElem? (i := 21) rfl)) rfl
theorem lkC226 : Cond.initialized RX4 ∈ zW := zw (zt1 (List.mem_of_getElem? (i := 10) rfl)) rfl
theorem lkC227 : Cond.code yX4_start cX4_start 4 (some .int) ∈ zW := zw (zt4 (List.mem_of_getElem? (i := 72) rfl)) rfl
theorem lkC228 : Cond.fieldLink RX4 15 (TX4 1).1 (TX4 1).2.1 (TX4 1).2.2.1 ∈ zW := zw (zt2 (List.mem_of_getElem? (i := 41) rfl)) rfl
theorem lkC229 : Cond.methodLink RX4 98 yX5_isBefore ∈ zW := zw (zt4 (List.mem_of_getElem? (i := 84) rfl)) rfl
theorem lkC230 : Cond.methodLink RX4 55 yX4_firstAtHand ∈ zW := zw (zt4 (List.mem_of_getElem? (i := 80) rfl)) rfl
theorem lkC231 : Cond.instanceMethod yX4_firstAtHand ∈ zW := zw (zt4 (List.mem_of_getElem? (i := 82) rfl)) rfl
theorem lkC232 : Cond.selects RX4 yX4_firstAtHand yX4_firstAtHand ∈ zW := zw (zt0 (List.mem_of_getElem? (i := 22) rfl)) rfl
theorem lkC233 : Cond.code yX4_firstAtHand cX4_firstAtHand 3 (some .int) ∈ zW := zw (zt4 (List.mem_of_getElem? (i := 83) rfl)) rfl
theorem lkC234 : Cond.methodLink RX4 58 yX7_goOut ∈ zW := zw (zt4 (List.mem_of_getElem? (i := 85) rfl)) rfl
theorem lkC235 : Cond.methodLink RX4 107 Lib.Math.max.name ∈ zW := zw (zt4 (List.mem_of_getElem? (i := 90) rfl)) rfl
theorem lkC236 : Cond.methodLink RX4 113 yX1_behind ∈ zW := zw (zt4 (List.mem_of_getElem? (i := 91) rfl)) rfl
theorem lkC237 : Cond.methodLink RX4 62 yX4_advance ∈ zW := zw (zt4 (List.mem_of_getElem? (i := 86) rfl)) rfl
theorem lkC238 : Cond.instanceMethod yX4_advance ∈ zW := zw (zt4 (List.mem_of_getElem? (i := 88) rfl)) rfl
theorem lkC239 : Cond.selects RX4 yX4_advance yX4_advance ∈ zW := zw (zt0 (List.mem_of_getElem? (i := 23) rfl)) rfl
theorem lkC240 : Cond.code yX4_advance cX4_advance 2 none ∈ zW := zw (zt4 (List.mem_of_getElem? (i := 89) rfl)) rfl
theorem lkC241 : Cond.methodLink RX4 65 yX7_endRun ∈ zW := zw (zt4 (List.mem_of_getElem? (i := 95) rfl)) rfl
theorem lkC242 : Cond.fieldLink RX1 9 (TX1 0).1 (TX1 0).2.1 (TX1 0).2.2.1 ∈ zW := zw (zt1 (List.mem_of_getElem? (i := 134) rfl)) rfl
theorem lkC243 : Cond.methodLink RX1 32 yX0_release ∈ zW := zw (zt4 (List.mem_of_getElem? (i := 101) rfl)) rfl
theorem lkC244 : Cond.instanceMethod yX0_release ∈ zW := zw (zt4 (List.mem_of_getElem? (i := 22) rfl)) rfl
theorem lkC245 : Cond.selects RX0 yX0_release yX0_release ∈ zW := zw (zt4 (List.mem_of_getElem? (i := 23) rfl)) rfl
theorem lkC246 : Cond.code yX0_release cX0_release 2 none ∈ zW := zw (zt4 (List.mem_of_getElem? (i := 24) rfl)) rfl
theorem lkC247 : Cond.methodLink RX4 79 yX1_remove ∈ zW := zw (zt4 (List.mem_of_getElem? (i := 97) rfl)) rfl
theorem lkC248 : Cond.instanceMethod yX1_remove ∈ zW := zw (zt4 (List.mem_of_getElem? (i := 98) rfl)) rfl
theorem lkC249 : Cond.selects RX1 yX1_remove yX1_remove ∈ zW := zw (zt4 (List.mem_of_getElem? (i := 99) rfl)) rfl
theorem lkC250 : Cond.code yX1_remove cX1_remove 4 none ∈ zW := zw (zt4 (List.mem_of_getElem? (i := 100) rfl)) rfl
theorem lkC251 : Cond.methodLink RX7 70 yX6_size ∈ zW := zw (zt4 (List.mem_of_getElem? (i := 30) rfl)) rfl
theorem lkC252 : Cond.methodLink RX7 73 yX6_get ∈ zW := zw (zt4 (List.mem_of_getElem? (i := 31) rfl)) rfl
theorem lkC253 : Cond.methodLink RX7 77 yX0_release ∈ zW := zw (zt4 (List.mem_of_getElem? (i := 36) rfl)) rfl
theorem lkC254 : Cond.methodLink RX4 69 yX7_undoStep ∈ zW := zw (zt4 (List.mem_of_getElem? (i := 96) rfl)) rfl
theorem lkC255 : Cond.instanceMethod yX7_undoStep ∈ zW := zw (zt4 (List.mem_of_getElem? (i := 33) rfl)) rfl
theorem lkC256 : Cond.selects RX7 yX7_undoStep yX7_undoStep ∈ zW := zw (zt4 (List.mem_of_getElem? (i := 34) rfl)) rfl
theorem lkC257 : Cond.code yX7_undoStep cX7_undoStep 2 none ∈ zW := zw (zt4 (List.mem_of_getElem? (i := 35) rfl)) rfl
theorem lkC258 : Cond.methodLink RX9 392 yX4_merge ∈ zW := zw (zt4 (List.mem_of_getElem? (i := 64) rfl)) rfl
theorem lkC259 : Cond.instanceMethod yX4_merge ∈ zW := zw (zt4 (List.mem_of_getElem? (i := 65) rfl)) rfl
theorem lkC260 : Cond.selects RX4 yX4_merge yX4_merge ∈ zW := zw (zt4 (List.mem_of_getElem? (i := 66) rfl)) rfl
theorem lkC261 : Cond.code yX4_merge cX4_merge 5 (some .int) ∈ zW := zw (zt4 (List.mem_of_getElem? (i := 67) rfl)) rfl
theorem lkC262 : Cond.methodLink RX9 395 yX6_set ∈ zW := zw (zt4 (List.mem_of_getElem? (i := 103) rfl)) rfl
theorem lkC263 : Cond.instanceMethod yX6_set ∈ zW := zw (zt4 (List.mem_of_getElem? (i := 104) rfl)) rfl
theorem lkC264 : Cond.selects RX6 yX6_set yX6_set ∈ zW := zw (zt4 (List.mem_of_getElem? (i := 105) rfl)) rfl
theorem lkC265 : Cond.code yX6_set cX6_set 3 none ∈ zW := zw (zt4 (List.mem_of_getElem? (i := 106) rfl)) rfl
theorem lkC266 : Cond.methodLink RX9 281 yX6_removeAt ∈ zW := zw (zt4 (List.mem_of_getElem? (i := 107) rfl)) rfl
theorem lkC267 : Cond.instanceMethod yX6_removeAt ∈ zW := zw (zt4 (List.mem_of_getElem? (i := 42) rfl)) rfl
theorem lkC268 : Cond.selects RX6 yX6_removeAt yX6_removeAt ∈ zW := zw (zt4 (List.mem_of_getElem? (i := 43) rfl)) rfl
theorem lkC269 : Cond.code yX6_removeAt cX6_removeAt 3 none ∈ zW := zw (zt4 (List.mem_of_getElem? (i := 44) rfl)) rfl
theorem lkC270 : Cond.fieldLink RX9 96 (TX9 10).1 (TX9 10).2.1 (TX9 10).2.2.1 ∈ zW := zw (zt2 (List.mem_of_getElem? (i := 104) rfl)) rfl
theorem lkC271 : Cond.methodLink RX9 242 yX1_heldBy ∈ zW := zw (zt4 (List.mem_of_getElem? (i := 123) rfl)) rfl
theorem lkC272 : Cond.methodLink RX9 398 yX9_chooseFewest ∈ zW := zw (zt4 (List.mem_of_getElem? (i := 119) rfl)) rfl
theorem lkC273 : Cond.instanceMethod yX9_chooseFewest ∈ zW := zw (zt4 (List.mem_of_getElem? (i := 121) rfl)) rfl
theorem lkC274 : Cond.selects RX9 yX9_chooseFewest yX9_chooseFewest ∈ zW := zw (zt0 (List.mem_of_getElem? (i := 25) rfl)) rfl
theorem lkC275 : Cond.code yX9_chooseFewest cX9_chooseFewest 6 none ∈ zW := zw (zt4 (List.mem_of_getElem? (i := 122) rfl)) rfl
theorem lkC276 : Cond.fieldLink RX9 81 (TX9 7).1 (TX9 7).2.1 (TX9 7).2.2.1 ∈ zW := zw (zt2 (List.mem_of_getElem? (i := 101) rfl)) rfl
theorem lkC277 : Cond.fieldLink RX8 31 (TX8 3).1 (TX8 3).2.1 (TX8 3).2.2.1 ∈ zW := zw (zt2 (List.mem_of_getElem? (i := 78) rfl)) rfl
theorem lkC278 : Cond.fieldLink RX8 20 (TX8 1).1 (TX8 1).2.1 (TX8 1).2.2.1 ∈ zW := zw (zt2 (List.mem_of_getElem? (i := 76) rfl)) rfl
theorem lkC279 : Cond.methodLink RX9 401 yX8_stepsOfLevel ∈ zW := zw (zt4 (List.mem_of_getElem? (i := 153) rfl)) rfl
theorem lkC280 : Cond.instanceMethod yX8_stepsOfLevel ∈ zW := zw (zt4 (List.mem_of_getElem? (i := 154) rfl)) rfl
theorem lkC281 : Cond.selects RX8 yX8_stepsOfLevel yX8_stepsOfLevel ∈ zW := zw (zt4 (List.mem_of_getElem? (i := 155) rfl)) rfl
theorem lkC282 : Cond.initialized RX8 ∈ zW := zw (zt1 (List.mem_of_getElem? (i := 11) rfl)) rfl
theorem lkC283 : Cond.code yX8_stepsOfLevel cX8_stepsOfLevel 1 (some .int) ∈ zW := zw (zt4 (List.mem_of_getElem? (i := 156) rfl)) rfl
theorem lkC284 : Cond.methodLink RX8 38 yX6_clear ∈ zW := zw (zt4 (List.mem_of_getElem? (i := 137) rfl)) rfl
theorem lkC285 : Cond.fieldLink RX8 24 (TX8 2).1 (TX8 2).2.1 (TX8 2).2.2.1 ∈ zW := zw (zt2 (List.mem_of_getElem? (i := 77) rfl)) rfl
theorem lkC286 : Cond.fieldLink RX8 11 (TX8 0).1 (TX8 0).2.1 (TX8 0).2.2.1 ∈ zW := zw (zt2 (List.mem_of_getElem? (i := 75) rfl)) rfl
theorem lkC287 : Cond.methodLink RX8 45 yX6_get ∈ zW := zw (zt4 (List.mem_of_getElem? (i := 139) rfl)) rfl
theorem lkC288 : Cond.methodLink RX8 49 yX6_add ∈ zW := zw (zt4 (List.mem_of_getElem? (i := 140) rfl)) rfl
theorem lkC289 : Cond.methodLink RX9 404 yX8_gatherFronts ∈ zW := zw (zt4 (List.mem_of_getElem? (i := 157) rfl)) rfl
theorem lkC290 : Cond.instanceMethod yX8_gatherFronts ∈ zW := zw (zt4 (List.mem_of_getElem? (i := 158) rfl)) rfl
theorem lkC291 : Cond.selects RX8 yX8_gatherFronts yX8_gatherFronts ∈ zW := zw (zt4 (List.mem_of_getElem? (i := 159) rfl)) rfl
theorem lkC292 : Cond.code yX8_gatherFronts cX8_gatherFronts 3 none ∈ zW := zw (zt4 (List.mem_of_getElem? (i := 160) rfl)) rfl
theorem lkC293 : Cond.methodLink RX8 58 yX6_removeAt ∈ zW := zw (zt4 (List.mem_of_getElem? (i := 165) rfl)) rfl
theorem lkC294 : Cond.methodLink RX9 407 yX8_shift ∈ zW := zw (zt4 (List.mem_of_getElem? (i := 161) rfl)) rfl
theorem lkC295 : Cond.instanceMethod yX8_shift ∈ zW := zw (zt4 (List.mem_of_getElem? (i := 162) rfl)) rfl
theorem lkC296 : Cond.selects RX8 yX8_shift yX8_shift ∈ zW := zw (zt4 (List.mem_of_getElem? (i := 163) rfl)) rfl
theorem lkC297 : Cond.code yX8_shift cX8_shift 3 none ∈ zW := zw (zt4 (List.mem_of_getElem? (i := 164) rfl)) rfl
theorem lkC298 : Cond.fieldLink RX9 100 (TX9 11).1 (TX9 11).2.1 (TX9 11).2.2.1 ∈ zW := zw (zt2 (List.mem_of_getElem? (i := 105) rfl)) rfl
theorem lkC299 : Cond.fieldLink RX5 41 (TX5 6).1 (TX5 6).2.1 (TX5 6).2.2.1 ∈ zW := zw (zt1 (List.mem_of_getElem? (i := 106) rfl)) rfl
theorem lkC300 : Cond.methodLink RX5 35 Lib.Math.max.name ∈ zW := zw (zt1 (List.mem_of_getElem? (i := 91) rfl)) rfl
theorem lkC301 : Cond.methodLink RX9 410 yX5_blocksFor ∈ zW := zw (zt4 (List.mem_of_getElem? (i := 185) rfl)) rfl
theorem lkC302 : Cond.instanceMethod yX5_blocksFor ∈ zW := zw (zt4 (List.mem_of_getElem? (i := 186) rfl)) rfl
theorem lkC303 : Cond.selects RX5 yX5_blocksFor yX5_blocksFor ∈ zW := zw (zt4 (List.mem_of_getElem? (i := 187) rfl)) rfl
theorem lkC304 : Cond.code yX5_blocksFor cX5_blocksFor 2 (some .int) ∈ zW := zw (zt4 (List.mem_of_getElem? (i := 188) rfl)) rfl
theorem lkC305 : Cond.fieldLink RX2 55 (TX2 4).1 (TX2 4).2.1 (TX2 4).2.2.1 ∈ zW := zw (zt1 (List.mem_of_getElem? (i := 170) rfl)) rfl
theorem lkC306 : Cond.fieldLink RX2 40 (TX2 3).1 (TX2 3).2.1 (TX2 3).2.2.1 ∈ zW := zw (zt1 (List.mem_of_getElem? (i := 169) rfl)) rfl
theorem lkC307 : Cond.methodLink RX2 64 yX2_setDesk ∈ zW := zw (zt3 (List.mem_of_getElem? (i := 72) rfl)) rfl
theorem lkC308 : Cond.instanceMethod yX2_setDesk ∈ zW := zw (zt3 (List.mem_of_getElem? (i := 74) rfl)) rfl
theorem lkC309 : Cond.selects RX2 yX2_setDesk yX2_setDesk ∈ zW := zw (zt0 (List.mem_of_getElem? (i := 3) rfl)) rfl
theorem lkC310 : Cond.code yX2_setDesk cX2_setDesk 4 none ∈ zW := zw (zt3 (List.mem_of_getElem? (i := 75) rfl)) rfl
theorem lkC311 : Cond.fieldLink RX2 68 (TX2 5).1 (TX2 5).2.1 (TX2 5).2.2.1 ∈ zW := zw (zt1 (List.mem_of_getElem? (i := 172) rfl)) rfl
theorem lkC312 : Cond.methodLink RX2 71 yX0_store ∈ zW := zw (zt3 (List.mem_of_getElem? (i := 76) rfl)) rfl
theorem lkC313 : Cond.methodLink RX2 75 yX6_add ∈ zW := zw (zt3 (List.mem_of_getElem? (i := 88) rfl)) rfl
theorem lkC314 : Cond.methodLink RX2 47 yX6_size ∈ zW := zw (zt3 (List.mem_of_getElem? (i := 7) rfl)) rfl
theorem lkC315 : Cond.methodLink RX2 81 yX2_heldRecords ∈ zW := zw (zt3 (List.mem_of_getElem? (i := 152) rfl)) rfl
theorem lkC316 : Cond.instanceMethod yX2_heldRecords ∈ zW := zw (zt3 (List.mem_of_getElem? (i := 4) rfl)) rfl
theorem lkC317 : Cond.selects RX2 yX2_heldRecords yX2_heldRecords ∈ zW := zw (zt3 (List.mem_of_getElem? (i := 5) rfl)) rfl
theorem lkC318 : Cond.code yX2_heldRecords cX2_heldRecords 1 (some .int) ∈ zW := zw (zt3 (List.mem_of_getElem? (i := 6) rfl)) rfl
theorem lkC319 : Cond.fieldLink RX2 44 (TX2 6).1 (TX2 6).2.1 (TX2 6).2.2.1 ∈ zW := zw (zt1 (List.mem_of_getElem? (i := 174) rfl)) rfl
theorem lkC320 : Cond.methodLink RX2 90 yX0_release ∈ zW := zw (zt4 (List.mem_of_getElem? (i := 21) rfl)) rfl
theorem lkC321 : Cond.methodLink RX2 100 yX6_clear ∈ zW := zw (zt4 (List.mem_of_getElem? (i := 25) rfl)) rfl
theorem lkC322 : Cond.methodLink RX2 87 yX6_removeAt ∈ zW := zw (zt4 (List.mem_of_getElem? (i := 41) rfl)) rfl
theorem lkC323 : Cond.code yX9_within cX9_within 3 (some .int) ∈ zW := zw (zt1 (List.mem_of_getElem? (i := 30) rfl)) rfl
theorem lkC324 : Cond.static yX9_within ∈ zW := zw (zt1 (List.mem_of_getElem? (i := 29) rfl)) rfl
theorem lkC325 : Cond.fieldLink RX5 27 (TX5 5).1 (TX5 5).2.1 (TX5 5).2.2.1 ∈ zW := zw (zt1 (List.mem_of_getElem? (i := 101) rfl)) rfl
theorem lkC326 : Cond.fieldLink RX8 35 (TX8 4).1 (TX8 4).2.1 (TX8 4).2.2.1 ∈ zW := zw (zt2 (List.mem_of_getElem? (i := 79) rfl)) rfl
theorem lkC327 : Cond.methodLink RX8 41 yX6_size ∈ zW := zw (zt4 (List.mem_of_getElem? (i := 138) rfl)) rfl
theorem lkC328 : Cond.methodLink RX8 55 yX8_goUp ∈ zW := zw (zt4 (List.mem_of_getElem? (i := 145) rfl)) rfl
theorem lkC329 : Cond.instanceMethod yX8_goUp ∈ zW := zw (zt4 (List.mem_of_getElem? (i := 147) rfl)) rfl
theorem lkC330 : Cond.selects RX8 yX8_goUp yX8_goUp ∈ zW := zw (zt0 (List.mem_of_getElem? (i := 27) rfl)) rfl
theorem lkC331 : Cond.code yX8_goUp cX8_goUp 3 none ∈ zW := zw (zt4 (List.mem_of_getElem? (i := 148) rfl)) rfl
theorem lkC332 : Cond.methodLink RX8 52 yX8_tapeBehind ∈ zW := zw (zt4 (List.mem_of_getElem? (i := 141) rfl)) rfl
theorem lkC333 : Cond.instanceMethod yX8_tapeBehind ∈ zW := zw (zt4 (List.mem_of_getElem? (i := 143) rfl)) rfl
theorem lkC334 : Cond.selects RX8 yX8_tapeBehind yX8_tapeBehind ∈ zW := zw (zt0 (List.mem_of_getElem? (i := 26) rfl)) rfl
theorem lkC335 : Cond.code yX8_tapeBehind cX8_tapeBehind 2 (some .int) ∈ zW := zw (zt4 (List.mem_of_getElem? (i := 144) rfl)) rfl
theorem lkC336 : Cond.classLink RX9 121 "java/lang/IllegalStateException" ∈ zW := zw (zt2 (List.mem_of_getElem? (i := 227) rfl)) rfl
theorem lkC337 : Cond.initialized "java/lang/IllegalStateException" ∈ zW := zw (zt1 (List.mem_of_getElem? (i := 17) rfl)) rfl
theorem lkC338 : Cond.methodLink RX9 111 yX9_needPower ∈ zW := zw (zt2 (List.mem_of_getElem? (i := 223) rfl)) rfl
theorem lkC339 : Cond.instanceMethod yX9_needPower ∈ zW := zw (zt2 (List.mem_of_getElem? (i := 225) rfl)) rfl
theorem lkC340 : Cond.selects RX9 yX9_needPower yX9_needPower ∈ zW := zw (zt0 (List.mem_of_getElem? (i := 1) rfl)) rfl
theorem lkC341 : Cond.code yX9_needPower cX9_needPower 1 none ∈ zW := zw (zt2 (List.mem_of_getElem? (i := 226) rfl)) rfl
theorem lkC342 : Cond.methodLink RX9 118 yX2_heldRecords ∈ zW := zw (zt3 (List.mem_of_getElem? (i := 3) rfl)) rfl
theorem lkC343 : Cond.methodLink RX9 126 yX5_restart ∈ zW := zw (zt3 (List.mem_of_getElem? (i := 9) rfl)) rfl
theorem lkC344 : Cond.instanceMethod yX5_restart ∈ zW := zw (zt3 (List.mem_of_getElem? (i := 10) rfl)) rfl
theorem lkC345 : Cond.selects RX5 yX5_restart yX5_restart ∈ zW := zw (zt3 (List.mem_of_getElem? (i := 11) rfl)) rfl
theorem lkC346 : Cond.code yX5_restart cX5_restart 2 none ∈ zW := zw (zt3 (List.mem_of_getElem? (i := 12) rfl)) rfl
theorem lkC347 : Cond.classLink RX9 104 "java/lang/IllegalArgumentException" ∈ zW := zw (zt2 (List.mem_of_getElem? (i := 154) rfl)) rfl
theorem lkC348 : Cond.initialized "java/lang/IllegalArgumentException" ∈ zW := zw (zt1 (List.mem_of_getElem? (i := 16) rfl)) rfl
theorem lkC349 : Cond.methodLink RX9 138 yX5_hasKey ∈ zW := zw (zt3 (List.mem_of_getElem? (i := 38) rfl)) rfl
theorem lkC350 : Cond.methodLink RX9 146 yX5_addKey ∈ zW := zw (zt3 (List.mem_of_getElem? (i := 44) rfl)) rfl
theorem lkC351 : Cond.instanceMethod yX5_addKey ∈ zW := zw (zt3 (List.mem_of_getElem? (i := 45) rfl)) rfl
theorem lkC352 : Cond.selects RX5 yX5_addKey yX5_addKey ∈ zW := zw (zt3 (List.mem_of_getElem? (i := 46) rfl)) rfl
theorem lkC353 : Cond.code yX5_addKey cX5_addKey 3 (some .int) ∈ zW := zw (zt3 (List.mem_of_getElem? (i := 47) rfl)) rfl
theorem lkC354 : Cond.classLink RX9 133 "java/lang/IndexOutOfBoundsException" ∈ zW := zw (zt3 (List.mem_of_getElem? (i := 22) rfl)) rfl
theorem lkC355 : Cond.initialized "java/lang/IndexOutOfBoundsException" ∈ zW := zw (zt1 (List.mem_of_getElem? (i := 18) rfl)) rfl
theorem lkC356 : Cond.methodLink RX9 155 yX9_setComing ∈ zW := zw (zt3 (List.mem_of_getElem? (i := 64) rfl)) rfl
theorem lkC357 : Cond.instanceMethod yX9_setComing ∈ zW := zw (zt3 (List.mem_of_getElem? (i := 66) rfl)) rfl
theorem lkC358 : Cond.selects RX9 yX9_setComing yX9_setComing ∈ zW := zw (zt0 (List.mem_of_getElem? (i := 2) rfl)) rfl
theorem lkC359 : Cond.code yX9_setComing cX9_setComing 4 none ∈ zW := zw (zt3 (List.mem_of_getElem? (i := 67) rfl)) rfl
theorem lkC360 : Cond.methodLink RX9 159 yX2_bring ∈ zW := zw (zt3 (List.mem_of_getElem? (i := 68) rfl)) rfl
theorem lkC361 : Cond.instanceMethod yX2_bring ∈ zW := zw (zt3 (List.mem_of_getElem? (i := 69) rfl)) rfl
theorem lkC362 : Cond.selects RX2 yX2_bring yX2_bring ∈ zW := zw (zt3 (List.mem_of_getElem? (i := 70) rfl)) rfl
theorem lkC363 : Cond.code yX2_bring cX2_bring 4 (some .int) ∈ zW := zw (zt3 (List.mem_of_getElem? (i := 71) rfl)) rfl
theorem lkC364 : Cond.classLink RX9 334 "java/lang/UnsupportedOperationException" ∈ zW := zw (zt3 (List.mem_of_getElem? (i := 96) rfl)) rfl
theorem lkC365 : Cond.initialized "java/lang/UnsupportedOperationException" ∈ zW := zw (zt1 (List.mem_of_getElem? (i := 19) rfl)) rfl
theorem lkC366 : Cond.methodLink RX9 163 yX9_answerFor ∈ zW := zw (zt3 (List.mem_of_getElem? (i := 92) rfl)) rfl
theorem lkC367 : Cond.instanceMethod yX9_answerFor ∈ zW := zw (zt3 (List.mem_of_getElem? (i := 94) rfl)) rfl
theorem lkC368 : Cond.selects RX9 yX9_answerFor yX9_answerFor ∈ zW := zw (zt0 (List.mem_of_getElem? (i := 6) rfl)) rfl
theorem lkC369 : Cond.code yX9_answerFor cX9_answerFor 2 (some .int) ∈ zW := zw (zt3 (List.mem_of_getElem? (i := 95) rfl)) rfl
theorem lkC370 : Cond.constant RX9 167 1000000000 ∈ zW := zw (zt3 (List.mem_of_getElem? (i := 119) rfl)) rfl
theorem lkC371 : Cond.constantLong RX9 170 6364136223846793005 ∈ zW := zw (zt3 (List.mem_of_getElem? (i := 121) rfl)) rfl
theorem lkC372 : Cond.constantLong RX9 172 1442695040888963407 ∈ zW := zw (zt3 (List.mem_of_getElem? (i := 122) rfl)) rfl
theorem lkC373 : Cond.methodLink RX9 176 yX7_beginStep ∈ zW := zw (zt3 (List.mem_of_getElem? (i := 131) rfl)) rfl
theorem lkC374 : Cond.methodLink RX9 179 yX2_open ∈ zW := zw (zt3 (List.mem_of_getElem? (i := 148) rfl)) rfl
theorem lkC375 : Cond.instanceMethod yX2_open ∈ zW := zw (zt3 (List.mem_of_getElem? (i := 149) rfl)) rfl
theorem lkC376 : Cond.selects RX2 yX2_open yX2_open ∈ zW := zw (zt3 (List.mem_of_getElem? (i := 150) rfl)) rfl
theorem lkC377 : Cond.code yX2_open cX2_open 1 (some .boolean) ∈ zW := zw (zt3 (List.mem_of_getElem? (i := 151) rfl)) rfl
theorem lkC378 : Cond.methodLink RX9 189 yX9_copyRuns ∈ zW := zw (zt4 (List.mem_of_getElem? (i := 13) rfl)) rfl
theorem lkC379 : Cond.instanceMethod yX9_copyRuns ∈ zW := zw (zt4 (List.mem_of_getElem? (i := 15) rfl)) rfl
theorem lkC380 : Cond.selects RX9 yX9_copyRuns yX9_copyRuns ∈ zW := zw (zt0 (List.mem_of_getElem? (i := 18) rfl)) rfl
theorem lkC381 : Cond.code yX9_copyRuns cX9_copyRuns 4 (some .boolean) ∈ zW := zw (zt4 (List.mem_of_getElem? (i := 16) rfl)) rfl
theorem lkC382 : Cond.methodLink RX9 186 yX9_chooseRuns ∈ zW := zw (zt4 (List.mem_of_getElem? (i := 4) rfl)) rfl
theorem lkC383 : Cond.instanceMethod yX9_chooseRuns ∈ zW := zw (zt4 (List.mem_of_getElem? (i := 6) rfl)) rfl
theorem lkC384 : Cond.selects RX9 yX9_chooseRuns yX9_chooseRuns ∈ zW := zw (zt0 (List.mem_of_getElem? (i := 17) rfl)) rfl
theorem lkC385 : Cond.code yX9_chooseRuns cX9_chooseRuns 6 (some .boolean) ∈ zW := zw (zt4 (List.mem_of_getElem? (i := 7) rfl)) rfl
theorem lkC386 : Cond.methodLink RX9 183 yX9_loadRuns ∈ zW := zw (zt3 (List.mem_of_getElem? (i := 153) rfl)) rfl
theorem lkC387 : Cond.instanceMethod yX9_loadRuns ∈ zW := zw (zt3 (List.mem_of_getElem? (i := 155) rfl)) rfl
theorem lkC388 : Cond.selects RX9 yX9_loadRuns yX9_loadRuns ∈ zW := zw (zt0 (List.mem_of_getElem? (i := 8) rfl)) rfl
theorem lkC389 : Cond.code yX9_loadRuns cX9_loadRuns 3 (some .boolean) ∈ zW := zw (zt3 (List.mem_of_getElem? (i := 156) rfl)) rfl
theorem lkC390 : Cond.methodLink RX9 199 yX7_undoStep ∈ zW := zw (zt4 (List.mem_of_getElem? (i := 32) rfl)) rfl
theorem lkC391 : Cond.methodLink RX9 202 yX2_undoOpen ∈ zW := zw (zt4 (List.mem_of_getElem? (i := 37) rfl)) rfl
theorem lkC392 : Cond.instanceMethod yX2_undoOpen ∈ zW := zw (zt4 (List.mem_of_getElem? (i := 38) rfl)) rfl
theorem lkC393 : Cond.selects RX2 yX2_undoOpen yX2_undoOpen ∈ zW := zw (zt4 (List.mem_of_getElem? (i := 39) rfl)) rfl
theorem lkC394 : Cond.code yX2_undoOpen cX2_undoOpen 1 none ∈ zW := zw (zt4 (List.mem_of_getElem? (i := 40) rfl)) rfl
theorem lkC395 : Cond.methodLink RX9 192 yX2_removeAll ∈ zW := zw (zt4 (List.mem_of_getElem? (i := 17) rfl)) rfl
theorem lkC396 : Cond.instanceMethod yX2_removeAll ∈ zW := zw (zt4 (List.mem_of_getElem? (i := 18) rfl)) rfl
theorem lkC397 : Cond.selects RX2 yX2_removeAll yX2_removeAll ∈ zW := zw (zt4 (List.mem_of_getElem? (i := 19) rfl)) rfl
theorem lkC398 : Cond.code yX2_removeAll cX2_removeAll 2 none ∈ zW := zw (zt4 (List.mem_of_getElem? (i := 20) rfl)) rfl
theorem lkC399 : Cond.methodLink RX9 195 yX7_addNewRuns ∈ zW := zw (zt4 (List.mem_of_getElem? (i := 26) rfl)) rfl
theorem lkC400 : Cond.instanceMethod yX7_addNewRuns ∈ zW := zw (zt4 (List.mem_of_getElem? (i := 27) rfl)) rfl
theorem lkC401 : Cond.selects RX7 yX7_addNewRuns yX7_addNewRuns ∈ zW := zw (zt4 (List.mem_of_getElem? (i := 28) rfl)) rfl
theorem lkC402 : Cond.code yX7_addNewRuns cX7_addNewRuns 3 none ∈ zW := zw (zt4 (List.mem_of_getElem? (i := 29) rfl)) rfl
theorem lkC403 : Cond.methodLink RX9 205 yX9_needFan ∈ zW := zw (zt4 (List.mem_of_getElem? (i := 52) rfl)) rfl
theorem lkC404 : Cond.instanceMethod yX9_needFan ∈ zW := zw (zt4 (List.mem_of_getElem? (i := 54) rfl)) rfl
theorem lkC405 : Cond.selects RX9 yX9_needFan yX9_needFan ∈ zW := zw (zt0 (List.mem_of_getElem? (i := 19) rfl)) rfl
theorem lkC406 : Cond.code yX9_needFan cX9_needFan 2 none ∈ zW := zw (zt4 (List.mem_of_getElem? (i := 55) rfl)) rfl
theorem lkC407 : Cond.methodLink RX9 208 yX9_mergeInGroups ∈ zW := zw (zt4 (List.mem_of_getElem? (i := 57) rfl)) rfl
theorem lkC408 : Cond.instanceMethod yX9_mergeInGroups ∈ zW := zw (zt4 (List.mem_of_getElem? (i := 59) rfl)) rfl
theorem lkC409 : Cond.selects RX9 yX9_mergeInGroups yX9_mergeInGroups ∈ zW := zw (zt0 (List.mem_of_getElem? (i := 20) rfl)) rfl
theorem lkC410 : Cond.code yX9_mergeInGroups cX9_mergeInGroups 6 (some .boolean) ∈ zW := zw (zt4 (List.mem_of_getElem? (i := 60) rfl)) rfl
theorem lkC411 : Cond.methodLink RX9 211 yX9_mergeFewest ∈ zW := zw (zt4 (List.mem_of_getElem? (i := 115) rfl)) rfl
theorem lkC412 : Cond.instanceMethod yX9_mergeFewest ∈ zW := zw (zt4 (List.mem_of_getElem? (i := 117) rfl)) rfl
theorem lkC413 : Cond.selects RX9 yX9_mergeFewest yX9_mergeFewest ∈ zW := zw (zt0 (List.mem_of_getElem? (i := 24) rfl)) rfl
theorem lkC414 : Cond.code yX9_mergeFewest cX9_mergeFewest 8 (some .boolean) ∈ zW := zw (zt4 (List.mem_of_getElem? (i := 118) rfl)) rfl
theorem lkC415 : Cond.methodLink RX9 245 yX9_blocksBetween ∈ zW := zw (zt4 (List.mem_of_getElem? (i := 181) rfl)) rfl
theorem lkC416 : Cond.instanceMethod yX9_blocksBetween ∈ zW := zw (zt4 (List.mem_of_getElem? (i := 183) rfl)) rfl
theorem lkC417 : Cond.selects RX9 yX9_blocksBetween yX9_blocksBetween ∈ zW := zw (zt0 (List.mem_of_getElem? (i := 29) rfl)) rfl
theorem lkC418 : Cond.code yX9_blocksBetween cX9_blocksBetween 5 (some .int) ∈ zW := zw (zt4 (List.mem_of_getElem? (i := 184) rfl)) rfl
theorem lkC419 : Cond.methodLink RX9 248 yX9_lengthBetween ∈ zW := zw (zt4 (List.mem_of_getElem? (i := 189) rfl)) rfl
theorem lkC420 : Cond.instanceMethod yX9_lengthBetween ∈ zW := zw (zt4 (List.mem_of_getElem? (i := 191) rfl)) rfl
theorem lkC421 : Cond.selects RX9 yX9_lengthBetween yX9_lengthBetween ∈ zW := zw (zt0 (List.mem_of_getElem? (i := 30) rfl)) rfl
theorem lkC422 : Cond.code yX9_lengthBetween cX9_lengthBetween 5 (some .int) ∈ zW := zw (zt4 (List.mem_of_getElem? (i := 192) rfl)) rfl
theorem lkC423 : Cond.methodLink RX9 251 yX9_setLength ∈ zW := zw (zt4 (List.mem_of_getElem? (i := 193) rfl)) rfl
theorem lkC424 : Cond.instanceMethod yX9_setLength ∈ zW := zw (zt4 (List.mem_of_getElem? (i := 195) rfl)) rfl
theorem lkC425 : Cond.selects RX9 yX9_setLength yX9_setLength ∈ zW := zw (zt0 (List.mem_of_getElem? (i := 31) rfl)) rfl
theorem lkC426 : Cond.code yX9_setLength cX9_setLength 3 none ∈ zW := zw (zt4 (List.mem_of_getElem? (i := 196) rfl)) rfl
theorem lkC427 : Cond.methodLink RX9 254 yX9_needRun ∈ zW := zw (zt4 (List.mem_of_getElem? (i := 204) rfl)) rfl
theorem lkC428 : Cond.instanceMethod yX9_needRun ∈ zW := zw (zt4 (List.mem_of_getElem? (i := 206) rfl)) rfl
theorem lkC429 : Cond.selects RX9 yX9_needRun yX9_needRun ∈ zW := zw (zt0 (List.mem_of_getElem? (i := 32) rfl)) rfl
theorem lkC430 : Cond.code yX9_needRun cX9_needRun 2 none ∈ zW := zw (zt4 (List.mem_of_getElem? (i := 207) rfl)) rfl
theorem lkC431 : Cond.methodLink RX9 267 yX9_look ∈ zW := zw (zt4 (List.mem_of_getElem? (i := 229) rfl)) rfl
theorem lkC432 : Cond.instanceMethod yX9_look ∈ zW := zw (zt4 (List.mem_of_getElem? (i := 231) rfl)) rfl
theorem lkC433 : Cond.selects RX9 yX9_look yX9_look ∈ zW := zw (zt0 (List.mem_of_getElem? (i := 33) rfl)) rfl
theorem lkC434 : Cond.code yX9_look cX9_look 6 (some .long) ∈ zW := zw (zt4 (List.mem_of_getElem? (i := 232) rfl)) rfl
theorem lkC435 : Cond.methodLink RX9 271 yX5_firstColumn ∈ zW := zw (zt5 (List.mem_of_getElem? (i := 2) rfl)) rfl
theorem lkC436 : Cond.instanceMethod yX5_firstColumn ∈ zW := zw (zt5 (List.mem_of_getElem? (i := 3) rfl)) rfl
theorem lkC437 : Cond.selects RX5 yX5_firstColumn yX5_firstColumn ∈ zW := zw (zt5 (List.mem_of_getElem? (i := 4) rfl)) rfl
theorem lkC438 : Cond.code yX5_firstColumn cX5_firstColumn 1 (some .int) ∈ zW := zw (zt5 (List.mem_of_getElem? (i := 5) rfl)) rfl
theorem lkC439 : Cond.methodLink RX9 274 yX5_isBeforeInFirstKey ∈ zW := zw (zt5 (List.mem_of_getElem? (i := 6) rfl)) rfl
theorem lkC440 : Cond.instanceMethod yX5_isBeforeInFirstKey ∈ zW := zw (zt5 (List.mem_of_getElem? (i := 7) rfl)) rfl
theorem lkC441 : Cond.selects RX5 yX5_isBeforeInFirstKey yX5_isBeforeInFirstKey ∈ zW := zw (zt5 (List.mem_of_getElem? (i := 8) rfl)) rfl
theorem lkC442 : Cond.code yX5_isBeforeInFirstKey cX5_isBeforeInFirstKey 5 (some .boolean) ∈ zW := zw (zt5 (List.mem_of_getElem? (i := 9) rfl)) rfl
theorem lkC443 : Cond.methodLink RX9 278 yX1_remove ∈ zW := zw (zt5 (List.mem_of_getElem? (i := 17) rfl)) rfl
theorem lkC444 : Cond.methodLink RX9 296 yX0_freeBlocks ∈ zW := zw (zt5 (List.mem_of_getElem? (i := 25) rfl)) rfl
theorem lkC445 : Cond.instanceMethod yX0_freeBlocks ∈ zW := zw (zt5 (List.mem_of_getElem? (i := 26) rfl)) rfl
theorem lkC446 : Cond.selects RX0 yX0_freeBlocks yX0_freeBlocks ∈ zW := zw (zt5 (List.mem_of_getElem? (i := 27) rfl)) rfl
theorem lkC447 : Cond.code yX0_freeBlocks cX0_freeBlocks 3 (some .int) ∈ zW := zw (zt5 (List.mem_of_getElem? (i := 28) rfl)) rfl
theorem lkC448 : Cond.constant RX9 317 100000 ∈ zW := zw (zt5 (List.mem_of_getElem? (i := 37) rfl)) rfl
theorem lkC449 : Cond.methodLink RX9 216 yX8_lay ∈ zW := zw (zt4 (List.mem_of_getElem? (i := 132) rfl)) rfl
theorem lkC450 : Cond.instanceMethod yX8_lay ∈ zW := zw (zt4 (List.mem_of_getElem? (i := 133) rfl)) rfl
theorem lkC451 : Cond.selects RX8 yX8_lay yX8_lay ∈ zW := zw (zt4 (List.mem_of_getElem? (i := 134) rfl)) rfl
theorem lkC452 : Cond.code yX8_lay cX8_lay 5 none ∈ zW := zw (zt4 (List.mem_of_getElem? (i := 135) rfl)) rfl
theorem lkC453 : Cond.methodLink RX9 223 yX9_mergeLevel ∈ zW := zw (zt4 (List.mem_of_getElem? (i := 149) rfl)) rfl
theorem lkC454 : Cond.instanceMethod yX9_mergeLevel ∈ zW := zw (zt4 (List.mem_of_getElem? (i := 151) rfl)) rfl
theorem lkC455 : Cond.selects RX9 yX9_mergeLevel yX9_mergeLevel ∈ zW := zw (zt0 (List.mem_of_getElem? (i := 28) rfl)) rfl
theorem lkC456 : Cond.code yX9_mergeLevel cX9_mergeLevel 3 (some .boolean) ∈ zW := zw (zt4 (List.mem_of_getElem? (i := 152) rfl)) rfl
theorem lkC457 : Cond.methodLink RX9 226 yX8_goDown ∈ zW := zw (zt4 (List.mem_of_getElem? (i := 166) rfl)) rfl
theorem lkC458 : Cond.instanceMethod yX8_goDown ∈ zW := zw (zt4 (List.mem_of_getElem? (i := 167) rfl)) rfl
theorem lkC459 : Cond.selects RX8 yX8_goDown yX8_goDown ∈ zW := zw (zt4 (List.mem_of_getElem? (i := 168) rfl)) rfl
theorem lkC460 : Cond.code yX8_goDown cX8_goDown 5 none ∈ zW := zw (zt4 (List.mem_of_getElem? (i := 169) rfl)) rfl
theorem lkC461 : Cond.methodLink RX9 229 yX8_collect ∈ zW := zw (zt4 (List.mem_of_getElem? (i := 170) rfl)) rfl
theorem lkC462 : Cond.instanceMethod yX8_collect ∈ zW := zw (zt4 (List.mem_of_getElem? (i := 171) rfl)) rfl
theorem lkC463 : Cond.selects RX8 yX8_collect yX8_collect ∈ zW := zw (zt4 (List.mem_of_getElem? (i := 172) rfl)) rfl
theorem lkC464 : Cond.code yX8_collect cX8_collect 4 none ∈ zW := zw (zt4 (List.mem_of_getElem? (i := 173) rfl)) rfl
set_option maxRecDepth 40000 in
theorem tg108 : ∀ x ∈ (vx_atS RX9 108 "java/lang/IllegalArgumentException" zEn).filter goodWord, x ∈ zW := zws (by decide +kernel) (by decide +kernel)
set_option maxRecDepth 40000 in
theorem tb108 : ∀ x ∈ (vx_atS RX9 108 "java/lang/IllegalArgumentException" zEn).filter (fun w => !goodWord w), x ∈ Cond.castable "java/lang/IllegalArgumentException" "java/lang/IllegalArgumentException" :: zEy.map (fun Y => Cond.declares (Bundle.initS Y)) := by decide +kernel
set_option maxRecDepth 40000 in
theorem to108 : ∀ x ∈ vx_atS RX9 108 "java/lang/IllegalArgumentException" zEn, vx_ot x = true := by decide +kernel
set_option maxRecDepth 40000 in
theorem tg125 : ∀ x ∈ (vx_atS RX9 125 "java/lang/IllegalStateException" zEn).filter goodWord, x ∈ zW := zws (by decide +kernel) (by decide +kernel)
set_option maxRecDepth 40000 in
theorem tb125 : ∀ x ∈ (vx_atS RX9 125 "java/lang/IllegalStateException" zEn).filter (fun w => !goodWord w), x ∈ Cond.castable "java/lang/IllegalStateException" "java/lang/IllegalStateException" :: zEy.map (fun Y => Cond.declares (Bundle.initS Y)) := by decide +kernel
set_option maxRecDepth 40000 in
theorem to125 : ∀ x ∈ vx_atS RX9 125 "java/lang/IllegalStateException" zEn, vx_ot x = true := by decide +kernel
set_option maxRecDepth 40000 in
theorem tg137 : ∀ x ∈ (vx_atS RX9 137 "java/lang/IndexOutOfBoundsException" zEn).filter goodWord, x ∈ zW := zws (by decide +kernel) (by decide +kernel)
set_option maxRecDepth 40000 in
theorem tb137 : ∀ x ∈ (vx_atS RX9 137 "java/lang/IndexOutOfBoundsException" zEn).filter (fun w => !goodWord w), x ∈ Cond.castable "java/lang/IndexOutOfBoundsException" "java/lang/IndexOutOfBoundsException" :: zEy.map (fun Y => Cond.declares (Bundle.initS Y)) := by decide +kernel
set_option maxRecDepth 40000 in
theorem to137 : ∀ x ∈ vx_atS RX9 137 "java/lang/IndexOutOfBoundsException" zEn, vx_ot x = true := by decide +kernel
set_option maxRecDepth 40000 in
theorem tg338 : ∀ x ∈ (vx_atS RX9 338 "java/lang/UnsupportedOperationException" zEn).filter goodWord, x ∈ zW := zws (by decide +kernel) (by decide +kernel)
set_option maxRecDepth 40000 in
theorem tb338 : ∀ x ∈ (vx_atS RX9 338 "java/lang/UnsupportedOperationException" zEn).filter (fun w => !goodWord w), x ∈ Cond.castable "java/lang/UnsupportedOperationException" "java/lang/UnsupportedOperationException" :: zEy.map (fun Y => Cond.declares (Bundle.initS Y)) := by decide +kernel
set_option maxRecDepth 40000 in
theorem to338 : ∀ x ∈ vx_atS RX9 338 "java/lang/UnsupportedOperationException" zEn, vx_ot x = true := by decide +kernel
theorem nkC0 : (RX9, 302, (TX5 6).1, (TX5 6).2.1, (TX5 6).2.2.1) ∈ zNf := by decide +kernel
theorem nkC1 : (RX9, 293, (TX0 6).1, (TX0 6).2.1, (TX0 6).2.2.1) ∈ zNf := by decide +kernel
theorem nkC2 : (RX9, 342, (TX0 0).1, (TX0 0).2.1, (TX0 0).2.2.1) ∈ zNf := by decide +kernel
theorem nkC3 : (RX9, 344, (TX5 5).1, (TX5 5).2.1, (TX5 5).2.2.1) ∈ zNf := by decide +kernel
theorem nkC4 : (RX9, 354, (TX2 8).1, (TX2 8).2.1, (TX2 8).2.2.1) ∈ zNf := by decide +kernel
theorem nkC5 : (RX9, 351, (TX3 1).1, (TX3 1).2.1, (TX3 1).2.2.1) ∈ zNf := by decide +kernel
theorem nkC6 : (RX2, 50, (TX5 6).1, (TX5 6).2.1, (TX5 6).2.2.1) ∈ zNf := by decide +kernel
theorem nkC7 : (RX2, 28, (TX0 0).1, (TX0 0).2.1, (TX0 0).2.2.1) ∈ zNf := by decide +kernel
theorem nkC8 : (RX2, 58, (TX5 5).1, (TX5 5).2.1, (TX5 5).2.2.1) ∈ zNf := by decide +kernel
theorem nkC9 : (RX9, 369, (TX3 4).1, (TX3 4).2.1, (TX3 4).2.2.1) ∈ zNf := by decide +kernel
theorem nkC10 : (RX7, 90, (TX5 4).1, (TX5 4).2.1, (TX5 4).2.2.1) ∈ zNf := by decide +kernel
theorem nkC11 : (RX7, 107, (TX5 5).1, (TX5 5).2.1, (TX5 5).2.2.1) ∈ zNf := by decide +kernel
theorem nkC12 : (RX7, 128, (TX5 6).1, (TX5 6).2.1, (TX5 6).2.2.1) ∈ zNf := by decide +kernel
theorem nkC13 : (RX9, 386, (TX4 4).1, (TX4 4).2.1, (TX4 4).2.2.1) ∈ zNf := by decide +kernel
theorem nkC14 : (RX4, 92, (TX0 0).1, (TX0 0).2.1, (TX0 0).2.2.1) ∈ zNf := by decide +kernel
theorem nkC15 : (RX4, 104, (TX5 6).1, (TX5 6).2.1, (TX5 6).2.2.1) ∈ zNf := by decide +kernel
theorem nkC16 : (RX4, 116, (TX5 5).1, (TX5 5).2.1, (TX5 5).2.2.1) ∈ zNf := by decide +kernel
theorem nkC17 : (RX4, 84, (TX7 5).1, (TX7 5).2.1, (TX7 5).2.2.1) ∈ zNf := by decide +kernel
theorem nkC18 : (RX2, 61, (TX5 4).1, (TX5 4).2.1, (TX5 4).2.2.1) ∈ zNf := by decide +kernel
theorem nkC19 : (RX5, 30, (TX0 0).1, (TX0 0).2.1, (TX0 0).2.2.1) ∈ zNf := by decide +kernel
theorem nkC20 : (RX9, 311, (TX0 8).1, (TX0 8).2.1, (TX0 8).2.2.1) ∈ zNf := by decide +kernel
theorem nkC21 : (RX9, 129, (TX5 4).1, (TX5 4).2.1, (TX5 4).2.2.1) ∈ zNf := by decide +kernel
theorem nkC22 : (RX9, 257, (TX2 2).1, (TX2 2).2.1, (TX2 2).2.2.1) ∈ zNf := by decide +kernel
theorem nkC23 : (RX9, 284, (TX0 3).1, (TX0 3).2.1, (TX0 3).2.2.1) ∈ zNf := by decide +kernel
theorem nkC24 : (RX9, 287, (TX0 4).1, (TX0 4).2.1, (TX0 4).2.2.1) ∈ zNf := by decide +kernel
theorem nkC25 : (RX9, 290, (TX0 5).1, (TX0 5).2.1, (TX0 5).2.2.1) ∈ zNf := by decide +kernel
theorem nkC26 : (RX9, 299, (TX2 5).1, (TX2 5).2.1, (TX2 5).2.2.1) ∈ zNf := by decide +kernel
theorem nkC27 : (RX9, 305, (TX2 4).1, (TX2 4).2.1, (TX2 4).2.2.1) ∈ zNf := by decide +kernel
theorem nkC28 : (RX9, 308, (TX5 3).1, (TX5 3).2.1, (TX5 3).2.2.1) ∈ zNf := by decide +kernel
theorem nkC29 : (RX9, 320, (TX0 7).1, (TX0 7).2.1, (TX0 7).2.2.1) ∈ zNf := by decide +kernel
theorem nkC30 : (RX9, 220, (TX8 4).1, (TX8 4).2.1, (TX8 4).2.2.1) ∈ zNf := by decide +kernel
