/-! A throw that is caught by a row of the walked method's own table, the rows' classes linked or not yet: own lemmas, over the short library. -/
section ZC
/-- the rows ahead of the one that takes it -/
def zc_past (pl : Platform) (s₀ : State) (d : ClassId) (pc : Nat) (th : ClassId) (y : ExceptionTableEntry) : Prop :=
  covers y pc = false ∨ (y.catchType ≠ 0 ∧ ∃ k, s₀.vm.ClassLinks pl d y.catchType k ∧ s₀.vm.assignable th k = false)
/-- one covered row: its class is linked, then it takes the thrown object or the search goes on -/
theorem zc_row {Q : Handler → Pre} {E : CtlPost} {e : Env} {dd : Bool} {acts : List Action} {S : State} {f : JFrame} {a : Addr} {x : ExceptionTableEntry} {t : List ExceptionTableEntry} {k : ClassId} {cell : Cell}
    (hx : covers x f.pc = true) (h0 : x.catchType ≠ 0) (hl : S.vm.ClassLinks e.platform f.method.cls x.catchType k) (hcell : S.heap[a]? = some cell) (hobj : ∀ z, cell.vm ≠ .statics z)
    (hk : ∃ z, S.vm.classes[cell.cls]? = some z) (hc : ∃ z, S.vm.classes[k]? = some z) :
    (S.vm.assignable cell.cls k = true → (wp (findHandler.go f a (x :: t)) Q E e dd acts S ↔ Q (.found x.handlerPc) dd acts (S.setVm (S.vm.noted f.method.cls x.catchType (.cls k))))) ∧
    (S.vm.assignable cell.cls k = false → (wp (findHandler.go f a (x :: t)) Q E e dd acts S ↔ wp (findHandler.go f a t) Q E e dd acts (S.setVm (S.vm.noted f.method.cls x.catchType (.cls k))))) := by
  simp only [covers] at hx
  obtain ⟨g1, g2⟩ := (resolveClass_links e.toSetting hl).op (op := VmOp.resolveClass f.method.cls x.catchType) rfl
  have hal : S.vm.Alike (S.vm.noted f.method.cls x.catchType (.cls k)) := (Vm.Alike.refl S.vm).noted _ _ _
  obtain ⟨z1, hz1⟩ := hk
  obtain ⟨z2, hz2⟩ := hc
  obtain ⟨y1, hy1, -⟩ := hal.2.2 _ _ hz1
  obtain ⟨y2, hy2, -⟩ := hal.2.2 _ _ hz2
  refine ⟨fun hf => ?_, fun hf => ?_⟩
  · have hf' : (S.vm.noted f.method.cls x.catchType (.cls k)).assignable cell.cls k = true := by rw [hal.assignable]; exact hf
    simp [findHandler.go, hx, h0, g1, g2, hcell, hobj, hy1, hy2, hf', VmOp.dirties, VmOp.acts]
  · have hf' : (S.vm.noted f.method.cls x.catchType (.cls k)).assignable cell.cls k = false := by rw [hal.assignable]; exact hf
    simp [findHandler.go, hx, h0, g1, g2, hcell, hobj, hy1, hy2, hf', VmOp.dirties, VmOp.acts]
/-- the search over a table whose row x takes it -/
theorem zc_find {e : Env} {s₀ : State} {f : JFrame} {a : Addr} {cell : Cell} {k : ClassId} (hobj : ∀ z, cell.vm ≠ .statics z) (hk0 : ∃ z, s₀.vm.classes[cell.cls]? = some z)
    (x : ExceptionTableEntry) (suf : List ExceptionTableEntry) (hx : covers x f.pc = true) (h0 : x.catchType ≠ 0) (hl : s₀.vm.ClassLinks e.platform f.method.cls x.catchType k) (hfit : s₀.vm.assignable cell.cls k = true) :
    ∀ (pre : List ExceptionTableEntry) (S : State), s₀.WarmedH S.vm → S.heap[a]? = some cell → (∀ y ∈ pre, zc_past e.platform s₀ f.method.cls f.pc cell.cls y) →
      ∃ vm', s₀.WarmedH vm' ∧ ∀ (Q : Handler → Pre) (E : CtlPost) (dd : Bool) (acts : List Action), wp (findHandler.go f a (pre ++ x :: suf)) Q E e dd acts S ↔ Q (.found x.handlerPc) dd acts (S.setVm vm')
  | [], S, hW, hcell, _ => by
    obtain ⟨z0, hz0⟩ := hk0
    obtain ⟨y0, hy0, -⟩ := hW.alike.2.2 _ _ hz0
    obtain ⟨_, _, _, kt, hd, _, _, _, _, hkt, _, hop⟩ := hl.here
    obtain ⟨yt, hyt, -⟩ := hW.alike.2.2 _ _ hkt
    exact ⟨_, hW.noted hd hop (State.rightAt_cls hl), fun Q E dd acts => (zc_row hx h0 (hW.classLinks hl) hcell hobj ⟨y0, hy0⟩ ⟨yt, hyt⟩).1 (by rw [hW.alike.assignable]; exact hfit)⟩
  | y :: ys, S, hW, hcell, hp => by
    have hp' : ∀ z ∈ ys, zc_past e.platform s₀ f.method.cls f.pc cell.cls z := fun z hz => hp z (List.mem_cons_of_mem _ hz)
    rcases hp y List.mem_cons_self with h | ⟨hy0, c1, hl1, hno⟩
    · obtain ⟨vm', hW', hq⟩ := zc_find hobj hk0 x suf hx h0 hl hfit ys S hW hcell hp'
      exact ⟨vm', hW', fun Q E dd acts => by rw [List.cons_append, W.findHandler_go_skip h]; exact hq Q E dd acts⟩
    · by_cases hcov : covers y f.pc = true
      · obtain ⟨z0, hz0⟩ := hk0
        obtain ⟨y0, hyy, -⟩ := hW.alike.2.2 _ _ hz0
        obtain ⟨_, _, _, kt, hd, _, _, _, _, hkt, _, hop⟩ := hl1.here
        obtain ⟨yt, hyt, -⟩ := hW.alike.2.2 _ _ hkt
        obtain ⟨vm', hW', hq⟩ := zc_find hobj ⟨z0, hz0⟩ x suf hx h0 hl hfit ys (S.setVm (S.vm.noted f.method.cls y.catchType (.cls c1))) (hW.noted hd hop (State.rightAt_cls hl1)) hcell hp'
        exact ⟨vm', hW', fun Q E dd acts => by
          rw [List.cons_append, (zc_row hcov hy0 (hW.classLinks hl1) hcell hobj ⟨y0, hyy⟩ ⟨yt, hyt⟩).2 (by rw [hW.alike.assignable]; exact hno)]
          exact hq Q E dd acts⟩
      · obtain ⟨vm', hW', hq⟩ := zc_find hobj hk0 x suf hx h0 hl hfit ys S hW hcell hp'
        exact ⟨vm', hW', fun Q E dd acts => by rw [List.cons_append, W.findHandler_go_skip (by simpa using hcov)]; exact hq Q E dd acts⟩
variable {p : Program} {l : Launch} {e : Env} {R : Room} {s : State} {m₀ : MethodId} {args : Array Value} {below : List Frame} {meth : Method} {c : Code} {T : State} {locs : List Loc} {cells slots : Nat}
/-- from the note of the thrown object to the handler -/
theorem zc_caught (X : Stand p l e R s m₀ args below meth c T locs cells slots) (a : Addr) {g : JFrame} (hg : g.method = m₀) {cell : Cell} {k : ClassId} (hcell : T.heap[a]? = some cell) (hobj : cell.vm.isStatics = false)
    (hk0 : ∃ z, s.vm.classes[cell.cls]? = some z) (pre : List ExceptionTableEntry) (x : ExceptionTableEntry) (suf : List ExceptionTableEntry) (hsplit : c.exceptionTable.toList = pre ++ x :: suf)
    (hpass : ∀ y ∈ pre, zc_past e.platform s m₀.cls g.pc cell.cls y) (hx : covers x g.pc = true) (h0 : x.catchType ≠ 0) (hl : s.vm.ClassLinks e.platform m₀.cls x.catchType k) (hfit : s.vm.assignable cell.cls k = true) :
    ∃ vm', Stand p l e R s m₀ args below meth c (T.setVm vm') locs cells slots ∧ Steps p.tables e below ((T.setTop g).pushFrame (.throwing a)) ((T.setVm vm').setTop { g with pc := x.handlerPc, stack := [.ref a] }) := by
  subst hg
  have hne : ∀ z, cell.vm ≠ .statics z := fun z hz => by rw [hz] at hobj; cases hobj
  obtain ⟨vm', hW', hq⟩ := zc_find (e := e) (s₀ := s) (f := g) (a := a) hne hk0 x suf hx h0 hl hfit pre ((T.setTop g).pushFrame (.throwing a)) X.warmed hcell hpass
  have hfind : ∀ (Q : Handler → Pre) (E : CtlPost) (dd : Bool) (acts : List Action), wp (findHandler g a) Q E e dd acts ((T.setTop g).pushFrame (.throwing a)) ↔ Q (.found x.handlerPc) dd acts (((T.setTop g).pushFrame (.throwing a)).setVm vm') := fun Q E dd acts => by
    rw [W.findHandler_eq (s := (T.setTop g).pushFrame (.throwing a)) (meth := meth) (code := c) X.method' X.code, hsplit]; exact hq Q E dd acts
  refine ⟨vm', X.noted hW', ?_⟩
  obtain ⟨hgo, hw⟩ := X.here.throwing a (g := g)
  refine Steps.head hgo hw ?_
  rw [stepThread_throwing (frames_entered X.here.top _)]
  have hst : (stepThrowing e ((T.setTop g).pushFrame (.throwing a)) a (.java g :: T.frames.tail)).1 = (((T.setTop g).pushFrame (.throwing a)).setVm vm').setFrames (.java { g with pc := x.handlerPc, stack := [.ref a] } :: T.frames.tail) := by
    simp only [stepThrowing, searchFrame, vmDo]
    generalize hr : Sem.go _ e false [] _ = res
    obtain ⟨as, rfl, -⟩ := Sem.eq_ok_of hr (a := Handler.found x.handlerPc) (s' := ((T.setTop g).pushFrame (.throwing a)).setVm vm') (acts' := []) (by simp [hfind _ _ _ _])
    rfl
  rw [hst]
  obtain ⟨g₀, hg0⟩ := Option.isSome_iff_exists.mp X.here.top
  obtain ⟨r, hr⟩ := State.topJava?_eq_some.mp hg0
  have hr' : (T.setVm vm').frames = .java g₀ :: r := hr
  have e1 : (((T.setTop g).pushFrame (.throwing a)).setVm vm').setFrames (.java { g with pc := x.handlerPc, stack := [.ref a] } :: T.frames.tail) = (T.setVm vm').setTop { g with pc := x.handlerPc, stack := [.ref a] } := by
    rw [State.setTop_of_frames _ hr', hr, List.tail_cons, State.pushFrame, State.setTop_of_frames _ hr]
    show (((T.setVm vm').setFrames _).setFrames _).setFrames _ = _
    rw [State.setFrames_setFrames, State.setFrames_setFrames]
  rw [e1]
  exact Steps.refl _
end ZC
