/-! ===== a throw that comes back is caught by a row of this method's own table ===== -/
/-- the search over one row that covers the place and names a class: that class is linked (the tables get warm), then it is asked -/
theorem zgo_link {Q : Handler → Pre} {E : CtlPost} {e : Env} {d : Bool} {acts : List Action} {s : State} {f : JFrame} {a : Addr} {x : ExceptionTableEntry} {t : List ExceptionTableEntry} {c : ClassId} {cell : Cell} (hx : covers x f.pc = true) (h0 : x.catchType ≠ 0)
    (hl : s.vm.ClassLinks e.platform f.method.cls x.catchType c) (hcell : s.heap[a]? = some cell) (hobj : ∀ k, cell.vm ≠ .statics k) (hk : ∃ k, s.vm.classes[cell.cls]? = some k) (hc : ∃ k, s.vm.classes[c]? = some k) :
    wp (findHandler.go f a (x :: t)) Q E e d acts s ↔ (if s.vm.assignable cell.cls c = true then Q (.found x.handlerPc) d acts (s.setVm (s.vm.noted f.method.cls x.catchType (.cls c))) else wp (findHandler.go f a t) Q E e d acts (s.setVm (s.vm.noted f.method.cls x.catchType (.cls c)))) := by
  have hn : s.vm.Alike (s.vm.noted f.method.cls x.catchType (.cls c)) := (Vm.Alike.refl s.vm).noted _ _ _
  obtain ⟨o1, o2⟩ := (resolveClass_links e.toSetting hl).op (op := VmOp.resolveClass f.method.cls x.catchType) rfl
  obtain ⟨ka, ea⟩ := hk
  obtain ⟨kb, eb⟩ := hc
  obtain ⟨ka', ea', -⟩ := hn.2.2 _ _ ea
  obtain ⟨kb', eb', -⟩ := hn.2.2 _ _ eb
  have hq : (s.vm.noted f.method.cls x.catchType (.cls c)).assignable cell.cls c = s.vm.assignable cell.cls c := hn.assignable ..
  simp only [covers] at hx
  by_cases hyes : s.vm.assignable cell.cls c = true
  · rw [if_pos hyes]
    rw [hyes] at hq
    simp [findHandler.go, hx, h0, o1, o2, hcell, hobj, ea', eb', hq, VmOp.dirties, VmOp.acts]
  · rw [if_neg hyes]
    have hno : s.vm.assignable cell.cls c = false := by simpa using hyes
    rw [hno] at hq
    simp [findHandler.go, hx, h0, o1, o2, hcell, hobj, ea', eb', hq, VmOp.dirties, VmOp.acts]
/-- which row of a table takes an object of the class E thrown at pc, by the words: the handler is hp -/
def zTk (args : Array Value) (s : State) (own E : String) (pc hp : Nat) : List ExceptionTableEntry → Prop
  | [] => False
  | x :: xs => (covers x pc = false ∧ zTk args s own E pc hp xs) ∨ (covers x pc = true ∧ x.catchType ≠ 0 ∧ ∃ nm : String, (Cond.classLink own x.catchType nm).before args s = true ∧ (((Cond.castable E nm).before args s = true ∧ hp = x.handlerPc) ∨ (va_Nc E nm s ∧ zTk args s own E pc hp xs)))
theorem zfinds {args : Array Value} {e : Env} {s : State} {own E : String} {f : JFrame} {a : Addr} {cell : Cell} {hp : Nat} (hpl : e.platform.magicAccessors = ({} : Platform).magicAccessors) (hown : s.vm.findClass own = some f.method.cls) (hobj : ∀ k, cell.vm ≠ .statics k) (hE : s.vm.findClass E = some cell.cls) :
    ∀ (xs : List ExceptionTableEntry), zTk args s own E f.pc hp xs → ∀ S : State, s.WarmedH S.vm → S.heap[a]? = some cell → ∃ vm', s.WarmedH vm' ∧ ∀ (Q : Handler → Pre) (E : CtlPost) (d : Bool) (acts : List Action), wp (findHandler.go f a xs) Q E e d acts S ↔ Q (.found hp) d acts (S.setVm vm') := by
  obtain ⟨k0, hk0, -⟩ := Vm.findClass_spec hE
  intro xs
  induction xs with
  | nil => intro h; exact absurd h (by simp [zTk])
  | cons x xs ih =>
    intro h S hW hcell
    rcases h with ⟨hcov, h⟩ | ⟨hcov, h0, nm, hlink, h⟩
    · obtain ⟨vm', hW', hq⟩ := ih h S hW hcell
      exact ⟨vm', hW', fun Q E d acts => by rw [W.findHandler_go_skip hcov]; exact hq Q E d acts⟩
    · obtain ⟨c, hc, hl⟩ := Cond.classLink_spec hown hlink e.platform hpl
      obtain ⟨dk, _, _, kt, hd, _, _, _, _, hkt, _, hop⟩ := hl.here
      obtain ⟨ka, hka, -⟩ := hW.alike.2.2 _ _ hk0
      obtain ⟨kb, hkb, -⟩ := hW.alike.2.2 _ _ hkt
      have hW1 : s.WarmedH (S.vm.noted f.method.cls x.catchType (.cls c)) := hW.noted hd hop (State.rightAt_cls hl)
      rcases h with ⟨hcast, hh⟩ | ⟨hno, h⟩
      · obtain ⟨c3, c4, q3, q4, hasg⟩ := Cond.castable_spec hcast
        cases Option.some.inj (q3.symm.trans hE)
        cases Option.some.inj (q4.symm.trans hc)
        refine ⟨_, hW1, fun Q E d acts => ?_⟩
        rw [zgo_link hcov h0 (hW.classLinks hl) hcell hobj ⟨ka, hka⟩ ⟨kb, hkb⟩, if_pos (by rw [hW.alike.assignable]; exact hasg), hh]
      · obtain ⟨c3, c4, q3, q4, hasg⟩ := hno
        cases Option.some.inj (q3.symm.trans hE)
        cases Option.some.inj (q4.symm.trans hc)
        obtain ⟨vm', hW', hq⟩ := ih h (S.setVm (S.vm.noted f.method.cls x.catchType (.cls c))) hW1 hcell
        refine ⟨vm', hW', fun Q E d acts => ?_⟩
        rw [zgo_link hcov h0 (hW.classLinks hl) hcell hobj ⟨ka, hka⟩ ⟨kb, hkb⟩, if_neg (by rw [hW.alike.assignable, hasg]; decide)]
        exact hq Q E d acts
theorem z_catch {p : Program} {l : Launch} {e : Env} {R : Room} {s : State} {m : MethodId} {args : Array Value} {below : List Frame} {meth : Method} {c : Code} {H : Heap} {locs : List Loc} {cells slots : Nat} {Q : State → Prop} {pc hp : Nat} {ls : Array Slot} {rest : List Value} {own E : String} {ce : Cell} {q : Addr}
    (hown : s.vm.findClass own = some m.cls) (hT : zTk args s own E pc hp c.exceptionTable.toList) (hcell : H[q]? = some ce) (hv : ce.vm = .none) (hcl : s.vm.findClass E = some ce.cls)
    (kk : W p l e R s m args below meth c H locs cells slots Q (F0 m hp ls [.ref q])) : vx_W p l e R s m args below meth c H locs cells slots Q (F0 m pc ls rest) q := by
  intro T hh X
  have hpl : e.platform.magicAccessors = ({} : Platform).magicAccessors := by rw [X.admits.platform]
  obtain ⟨vm', hW', hq⟩ := zfinds (f := F0 m pc ls rest) (a := q) (cell := ce) hpl hown (fun k h => by rw [hv] at h; cases h) hcl _ hT ((T.setTop (F0 m pc ls rest)).pushFrame (.throwing q)) X.warmed (by rw [← hh] at hcell; exact hcell)
  have hfind : ∀ (Q : Handler → Pre) (E : CtlPost) (d : Bool) (acts : List Action), wp (findHandler (F0 m pc ls rest) q) Q E e d acts ((T.setTop (F0 m pc ls rest)).pushFrame (.throwing q)) ↔ Q (.found hp) d acts (((T.setTop (F0 m pc ls rest)).pushFrame (.throwing q)).setVm vm') := fun Q E d acts => by
    rw [W.findHandler_eq (s := (T.setTop (F0 m pc ls rest)).pushFrame (.throwing q)) (f := F0 m pc ls rest) (X.method' : T.vm.method? m = some meth) X.code]
    exact hq Q E d acts
  obtain ⟨t, a1, b1⟩ := kk (T.setVm vm') hh (X.noted hW')
  refine ⟨t, ?_, b1⟩
  have hat : At T (F0 m pc ls rest).method c below := X.here
  obtain ⟨hgo, hw⟩ := hat.throwing q
  refine Steps.head hgo hw ?_
  have hst : (stepThrowing e ((T.setTop (F0 m pc ls rest)).pushFrame (.throwing q)) q (.java (F0 m pc ls rest) :: T.frames.tail)).Is ((((T.setTop (F0 m pc ls rest)).pushFrame (.throwing q)).setVm vm').setFrames (.java { (F0 m pc ls rest) with pc := hp, stack := [.ref q] } :: T.frames.tail)) [] := by
    simp only [stepThrowing, searchFrame, vmDo]
    generalize hr : Sem.go _ e false [] ((T.setTop (F0 m pc ls rest)).pushFrame (.throwing q)) = res
    obtain ⟨as, rfl, ha⟩ := Sem.eq_ok_of hr (a := Handler.found hp) (s' := ((T.setTop (F0 m pc ls rest)).pushFrame (.throwing q)).setVm vm') (acts' := []) (by simp [hfind _ _ _ _])
    exact ⟨rfl, ha⟩
  rw [stepThread_throwing (frames_entered hat.top _), hst.1]
  obtain ⟨g₀, hg⟩ := Option.isSome_iff_exists.mp hat.top
  obtain ⟨r, hr⟩ := State.topJava?_eq_some.mp hg
  have hr' : (T.setVm vm').frames = .java g₀ :: r := hr
  rw [State.setTop_of_frames _ hr'] at a1
  have e1 : ∀ (u : State) (F G : List Frame), ((u.setFrames F).setVm vm').setFrames G = (u.setVm vm').setFrames G := fun u F G => by
    have h1 : (u.setFrames F).setVm vm' = (u.setVm vm').setFrames F := rfl
    rw [h1, State.setFrames_setFrames]
  rw [hr, List.tail_cons, State.pushFrame, e1, State.setTop_of_frames _ hr, e1]
  exact a1
