/-! exceptions: out of a method by 'throw new E()', into a handler of the caller -/
section TH1
variable {e : Env} {s₀ : State} {f : JFrame} {a : Addr} {cell : Cell}
/-- one row of a table, its class linked by now or not: taken or passed by what the object is -/
theorem ct_one {S : State} {y : ExceptionTableEntry} {t : List ExceptionTableEntry} {k : ClassId} (hy : covers y f.pc = true) (h0 : y.catchType ≠ 0) (hl : S.vm.ClassLinks e.platform f.method.cls y.catchType k) (hcell : S.heap[a]? = some cell) (hobj : ∀ k, cell.vm ≠ .statics k)
    (hk : ∃ k, S.vm.classes[cell.cls]? = some k) (hc : ∃ k', S.vm.classes[k]? = some k') (Q : Handler → Pre) (E : CtlPost) (d : Bool) (acts : List Action) :
    wp (findHandler.go f a (y :: t)) Q E e d acts S ↔ (if S.vm.assignable cell.cls k = true then Q (.found y.handlerPc) d acts (S.setVm (S.vm.noted f.method.cls y.catchType (.cls k))) else wp (findHandler.go f a t) Q E e d acts (S.setVm (S.vm.noted f.method.cls y.catchType (.cls k)))) := by
  simp only [covers] at hy
  obtain ⟨ha, ht⟩ := (resolveClass_links e.toSetting hl).op (op := VmOp.resolveClass f.method.cls y.catchType) rfl
  have hal : S.vm.Alike (S.vm.noted f.method.cls y.catchType (.cls k)) := (Vm.Alike.refl S.vm).noted _ _ _
  obtain ⟨k1, hk1⟩ := hk
  obtain ⟨k2, hk2⟩ := hc
  obtain ⟨k1', hk1', -⟩ := hal.2.2 _ _ hk1
  obtain ⟨k2', hk2', -⟩ := hal.2.2 _ _ hk2
  have hsame : (S.vm.noted f.method.cls y.catchType (.cls k)).assignable cell.cls k = S.vm.assignable cell.cls k := hal.assignable ..
  cases hfit : S.vm.assignable cell.cls k <;> rw [hfit] at hsame <;>
    simp [findHandler.go, hy, h0, ha, ht, hcell, hobj, hk1', hk2', hsame, VmOp.dirties, VmOp.acts]
/-- a row that the object passes, and one that takes it, said at the method's entry -/
def ctR (pl : Platform) (s₀ : State) (d : ClassId) (pc : Nat) (th : ClassId) (v : Bool) (y : ExceptionTableEntry) : Prop :=
  covers y pc = true ∧ y.catchType ≠ 0 ∧ ∃ c, s₀.vm.ClassLinks pl d y.catchType c ∧ s₀.vm.assignable th c = v
theorem ct_go (hobj : ∀ k, cell.vm ≠ .statics k) (hk0 : ∃ k, s₀.vm.classes[cell.cls]? = some k) (x : ExceptionTableEntry) (rest : List ExceptionTableEntry) (hx : ctR e.platform s₀ f.method.cls f.pc cell.cls true x) :
    ∀ (pre : List ExceptionTableEntry) (S : State), s₀.WarmedH S.vm → S.heap[a]? = some cell → (∀ y ∈ pre, ctR e.platform s₀ f.method.cls f.pc cell.cls false y) →
      ∃ vm', s₀.WarmedH vm' ∧ ∀ (Q : Handler → Pre) (E : CtlPost) (d : Bool) (acts : List Action), wp (findHandler.go f a (pre ++ x :: rest)) Q E e d acts S ↔ Q (.found x.handlerPc) d acts (S.setVm vm') := by
  have step : ∀ (y : ExceptionTableEntry) (v : Bool) (S : State), s₀.WarmedH S.vm → S.heap[a]? = some cell → ctR e.platform s₀ f.method.cls f.pc cell.cls v y → ∃ k, s₀.WarmedH (S.vm.noted f.method.cls y.catchType (.cls k)) ∧
      ∀ (t : List ExceptionTableEntry) (Q : Handler → Pre) (E : CtlPost) (d : Bool) (acts : List Action), wp (findHandler.go f a (y :: t)) Q E e d acts S ↔ (if v = true then Q (.found y.handlerPc) d acts (S.setVm (S.vm.noted f.method.cls y.catchType (.cls k))) else wp (findHandler.go f a t) Q E e d acts (S.setVm (S.vm.noted f.method.cls y.catchType (.cls k)))) := by
    intro y v S hW hcell ⟨hy, h0, k, hl, hv⟩
    obtain ⟨k0, hk0⟩ := hk0
    obtain ⟨k0', hk0', -⟩ := hW.alike.2.2 _ _ hk0
    obtain ⟨dk, _, _, kt, hd, _, _, _, _, hkt, _, hopen⟩ := hl.here
    obtain ⟨kt', hkt', -⟩ := hW.alike.2.2 _ _ hkt
    refine ⟨k, hW.noted hd hopen (State.rightAt_cls hl), fun t Q E d acts => ?_⟩
    rw [ct_one hy h0 (hW.classLinks hl) hcell hobj ⟨k0', hk0'⟩ ⟨kt', hkt'⟩ Q E d acts, hW.alike.assignable, hv]
  intro pre
  induction pre with
  | nil =>
    intro S hW hcell _
    obtain ⟨k, h1, h2⟩ := step x true S hW hcell hx
    exact ⟨_, h1, fun Q E d acts => by rw [List.nil_append, h2, if_pos rfl]⟩
  | cons y ys ih =>
    intro S hW hcell hp
    obtain ⟨k, h1, h2⟩ := step y false S hW hcell (hp y List.mem_cons_self)
    obtain ⟨vm', h3, h4⟩ := ih (S.setVm (S.vm.noted f.method.cls y.catchType (.cls k))) h1 hcell (fun z hz => hp z (List.mem_cons_of_mem _ hz))
    exact ⟨vm', h3, fun Q E d acts => by rw [List.cons_append, h2, if_neg (by decide), h4]; rfl⟩
end TH1
section TH2
variable {p : Program} {l : Launch} {e : Env} {R : Room} {s : State} {m : MethodId} {args : Array Value} {below : List Frame} {meth : Method} {c : Code} {T : State} {locs : List Loc} {cells slots : Nat}
/-- from the note of a throw over the frame g to g at its handler -/
theorem ct_to (X : Stand p l e R s m args below meth c T locs cells slots) (a : Addr) {g : JFrame} (hg : g.method = m) {cell : Cell} (hcell : T.heap[a]? = some cell) (hobj : cell.vm = .none) (hk0 : ∃ k, s.vm.classes[cell.cls]? = some k)
    (pre : List ExceptionTableEntry) (x : ExceptionTableEntry) (rest : List ExceptionTableEntry) (hsplit : c.exceptionTable.toList = pre ++ x :: rest) (hp : ∀ y ∈ pre, ctR e.platform s m.cls g.pc cell.cls false y) (hx : ctR e.platform s m.cls g.pc cell.cls true x) :
    ∃ vm', Stand p l e R s m args below meth c (T.setVm vm') locs cells slots ∧ ∀ target, Steps p.tables e below ((T.setVm vm').setTop { g with pc := x.handlerPc, stack := [.ref a] }) target → Steps p.tables e below ((T.setTop g).pushFrame (.throwing a)) target := by
  subst hg
  obtain ⟨vm', hW', hq⟩ := ct_go (e := e) (s₀ := s) (f := g) (a := a) (cell := cell) (fun k => by rw [hobj]; exact fun h => by cases h) hk0 x rest hx pre ((T.setTop g).pushFrame (.throwing a)) X.warmed hcell hp
  have hm' : ((T.setTop g).pushFrame (.throwing a)).vm.method? g.method = some meth := X.method'
  have hfind : ∀ (Q : Handler → Pre) (E : CtlPost) (d : Bool) (acts : List Action), wp (findHandler g a) Q E e d acts ((T.setTop g).pushFrame (.throwing a)) ↔ Q (.found x.handlerPc) d acts (((T.setTop g).pushFrame (.throwing a)).setVm vm') := fun Q E d acts => by
    rw [W.findHandler_eq hm' X.code, hsplit]; exact hq Q E d acts
  refine ⟨vm', X.noted hW', fun target hrest => ?_⟩
  obtain ⟨hgo, hw⟩ := X.here.throwing (s := T) a
  refine Steps.head hgo hw ?_
  have hst : (stepThrowing e ((T.setTop g).pushFrame (.throwing a)) a (.java g :: T.frames.tail)).1 = (((T.setTop g).pushFrame (.throwing a)).setVm vm').setFrames (.java { g with pc := x.handlerPc, stack := [.ref a] } :: T.frames.tail) := by
    simp only [stepThrowing, searchFrame, vmDo]
    generalize hr : Sem.go _ e false [] ((T.setTop g).pushFrame (.throwing a)) = res
    obtain ⟨as, rfl, ha⟩ := Sem.eq_ok_of hr (a := Handler.found x.handlerPc) (s' := ((T.setTop g).pushFrame (.throwing a)).setVm vm') (acts' := []) (by simp [hfind _ _ _ _])
    rfl
  rw [stepThread_throwing (frames_entered X.here.top _), hst]
  obtain ⟨g₀, hg0⟩ := Option.isSome_iff_exists.mp X.here.top
  obtain ⟨r, hr⟩ := State.topJava?_eq_some.mp hg0
  have hr' : (T.setVm vm').frames = .java g₀ :: r := hr
  rw [State.setTop_of_frames _ hr'] at hrest
  have e1 : (((T.setTop g).pushFrame (.throwing a)).setVm vm') = (T.setVm vm').setFrames (.throwing a :: .java g :: r) := by
    have h1 : (T.setTop g).pushFrame (.throwing a) = T.setFrames (.throwing a :: .java g :: r) := by
      rw [State.pushFrame, State.frames_setTop _ hr, State.setTop_of_frames _ hr, State.setFrames_setFrames]
    rw [h1]; rfl
  rw [e1, State.setFrames_setFrames, hr, List.tail_cons]
  exact hrest
end TH2
