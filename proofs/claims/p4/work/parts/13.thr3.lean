/-! a method that throws: what it promises; 'throw new E()'; its call -/
def xQ (XC : String → Prop) : Array Value → State → Outcome → State → Prop := fun _ st o t =>
  ∃ (q : Addr) (E : String) (ce : Cell), o = .threw q ∧ XC E ∧ t.heap[q]? = some ce ∧ ce.vm = .none ∧ st.vm.findClass E = some ce.cls ∧ st.WarmedH t.vm ∧ st.sameButNew ({ t with vm := st.vm } : State) [] 1 6
def xS (G : PG) (wc : va_W) (sz : Nat) (av : List Value) : Array Value → State → Prop := fun v U => cS G wc sz av v U ∧ pg_T U
def Xt (l : Launch) (y : MethodName) (ws : List Cond) (rm : Room) (G : PG) (wc : va_W) (av : List Value) (XC : String → Prop) : Prop := ∀ sz, MetFree l y (headSpec ws rm) (xS G wc sz av) (fun _ _ _ _ _ => True) (xQ XC)
def xMQ (below : List Frame) (XC : String → Prop) (a : Array Value) (s : State) : State → Prop := fun t => ∃ o, t.status = .running ∧ Ended t below o ∧ xQ XC a s o t
section TY1
variable {l : Launch} {y : MethodName} {ws : List Cond} {rm : Room} {G : PG} {wc : va_W} {av : List Value} {cc : ByteArray} {maxL : Nat} {ret : Option FieldType} {XC : String → Prop}
theorem ofX (hy : plainName y.cls = true) (hw : ws = Cond.code y cc maxL ret :: aW)
    (body : ∀ (p : Program) (e : Env) (s : State) (m : MethodId) (below : List Frame) (meth : Method) (c : Code), bF p s m meth c cc maxL ret av.toArray y → pg_K G s → pg_T s → c.exceptionTable.isEmpty = true → va_P G.1 vwCl wc s.heap → va_D (fun _ => True) wc →
      W p l e rm s m av.toArray below meth c s.heap [] 0 0 (xMQ below XC av.toArray s) (entryFrame m av.toArray maxL)) : Xt l y ws rm G wc av XC := by
  intro sz
  refine MetFree.of_bodyS (code := cc) (maxLocals := maxL) (ret := ret) hy ?_ ?_
  · intro args s m h hn
    obtain ⟨meth, c, h1, h2, h3, h4, h5, h6, -, -⟩ := Cond.code_spec hn (atoms_spec (ws := ws) h _ (by rw [hw]; exact List.mem_cons_self))
    exact ⟨meth, c, h1, h2, h3, h4, h5, h6⟩
  · intro p e s m args below meth c s₁ B hml hP _
    obtain ⟨⟨rfl, hsz, hP, hD0, hK⟩, hT⟩ := hP
    have hh0 : s₁.heap = s.heap := by rw [B.state]; rfl
    have hcd : (Cond.code y cc maxL ret).before av.toArray s = true := atoms_spec (ws := ws) B.pre _ (by rw [hw]; exact List.mem_cons_self)
    obtain ⟨t, a1, o, b1, b2, b3⟩ := body p e s m below meth c (bF_of hw B hml) hK hT (B.noHandlers hcd) hP hD0 s₁ hh0 (Stand.of_body B)
    exact ⟨t, o, a1, b1, b2, b3⟩
end TY1
section TY2
variable {p : Program} {l : Launch} {e : Env} {R : Room} {s : State} {m : MethodId} {args : Array Value} {below : List Frame} {meth : Method} {c : Code} {H : Heap} {locs : List Loc} {cells slots : Nat} {Q : State → Prop} {pc maxL : Nat} {cc : ByteArray} {y : MethodName} {ls : Array Slot} {ret : Option FieldType} {XC : String → Prop} {rest : List Value}
theorem th_0 (F : bF p s m meth c cc maxL ret args y) (hl : l.stackTraces = false) {E : String} {names : List String} {ik ic : Nat} (hcls : Bundle.fit E = true) (hnames : ∀ n ∈ names, Bundle.fit n = true)
    (hk : (Cond.classLink y.cls ik E).before args s = true) (hins : (Cond.instantiable E 6).before args s = true) (hini : (Cond.initialized E).before args s = true) (h : ∀ a ∈ Bundle.ownAtoms0 y.cls ic E names, a.before args s = true) (hex : c.exceptionTable.isEmpty = true) (hsize : ls.size = maxL)
    (d0 : decode cc pc = .ok (.new ik, 3)) (d3 : decode cc (pc + 3) = .ok (.dup, 1)) (d4 : decode cc (pc + 4) = .ok (.invokespecial ic, 3)) (d7 : decode cc (pc + 7) = .ok (.athrow, 1))
    (hRf : names.length + 3 < R.frames) (hRl : (rest.map fun v => v.category).sum + (13 * (names.length + 1) + 42) ≤ R.locals) (hRc : 1 ≤ R.cells) (hRs : 6 ≤ R.slots) (hE : XC E) :
    W p l e R s m args below meth c s.heap [] 0 0 (xMQ below XC args s) (F0 m pc ls rest) := by
  obtain ⟨⟨hx, hb, hml, hown, -⟩, -, hlk, -⟩ := F
  refine W.newc hx hb hown hk hins hini rfl d0 (by omega) (by omega) (fun cC kC h1 h2 h3 h4 => ?_)
  refine lv_dup hx hb d3 rfl ?_
  intro T hT X
  have htr : e.platform.stackTraces = false := by rw [X.admits.platform]; exact hl
  have hcell : T.heap[s.heap.size]? = some (freshCell cC kC) := by rw [hT]; exact Array.getElem?_push_size
  subst hb
  obtain ⟨U, st, hrun, hend, hW, hsame, ce, hce, hoc⟩ := X.ctorThrow0 hx htr hown hcls hnames h (fun x hx => by cases hx) h1 h2 hcell (Nat.le_refl _) (g := F0 m (pc + 3 + 1) ls (.ref s.heap.size :: .ref s.heap.size :: rest)) rfl (hsize.trans hml.symm) rfl rfl rfl d4 d7 (fun x hx => by rw [Array.isEmpty_iff] at hex; rw [hex] at hx; cases hx) hRf (by
    have e1 : ((Value.ref s.heap.size :: rest).map fun v => v.category).sum = 1 + (rest.map fun v => v.category).sum := rfl
    rw [e1]
    have : 2 * (F0 m (pc + 3 + 1) ls (.ref s.heap.size :: .ref s.heap.size :: rest)).monitorRoom = 0 := rfl
    omega) hlk
  exact ⟨U, st, .threw _, hrun, hend, _, E, ce, rfl, hE, hce, hoc.vm, hoc.cls, hW, hsame.mono (by omega) (by omega)⟩
end TY2
/-- the frame g of a method, q thrown over it -/
def xW (p : Program) (l : Launch) (e : Env) (R : Room) (s : State) (m : MethodId) (args : Array Value) (below : List Frame) (meth : Method) (c : Code) (H : Heap) (locs : List Loc) (cells slots : Nat) (Q : State → Prop) (g : JFrame) (q : Addr) : Prop :=
  ∀ T : State, T.heap = H → Stand p l e R s m args below meth c T locs cells slots → ∃ t, Steps p.tables e below ((T.setTop g).pushFrame (.throwing q)) t ∧ Q t
section TY3
variable {p : Program} {l : Launch} {e : Env} {R : Room} {s : State} {m : MethodId} {args : Array Value} {below : List Frame} {meth : Method} {c : Code} {H : Heap} {locs : List Loc} {cells slots : Nat} {Q : State → Prop} {pc maxL : Nat} {ls : Array Slot} {XC : String → Prop} {rest : List Value}
/-- a virtual call of a method that throws -/
theorem xc_V {cc : ByteArray} {nL n : Nat} {own C : String} {index : Nat} {y : MethodName} {bytes : ByteArray} {maxL : Nat} {ret : Option FieldType} {ws : List Cond} {rm : Room} {Pc : Array Value → State → Prop} {b : Addr} {As : List Value}
    (S : CallFix p m c cc nL s args aW own) (hM : MetFree l y (headSpec ws rm) Pc (fun _ _ _ _ _ => True) (xQ XC)) (cw : CallW R s args own C index y bytes maxL ret ws rm 1 6 n) (hp : PreV s H C b Pc As)
    (hn : As.length = n) (hsize : ls.size = nL) (hW : 2 * (F0 m pc ls rest).monitorRoom + (rest.map fun v => v.category).sum ≤ 8) (hdg : decode cc pc = .ok (.invokevirtual index, 3)) (hf : cells + 1 ≤ R.cells ∧ slots + 6 ≤ R.slots)
    (kk : ∀ (E : String) (q : Addr) (ce : Cell) (H1 : Heap), XC E → H1[q]? = some ce → ce.vm = .none → s.vm.findClass E = some ce.cls → H.size ≤ H1.size → (∀ i : Nat, i < H.size → H1[i]? = H[i]?) → xW p l e R s m args below meth c H1 locs (cells + 1) (slots + 6) Q (F0 m pc ls rest) q) :
    W p l e R s m args below meth c H locs cells slots Q (F0 m pc ls (As.reverse ++ .ref b :: rest)) := by
  obtain ⟨⟨hrc, hrs, hfr, hlo, hws, hcw, hcode, hini, hy, hlen, hl⟩, hin, hse⟩ := cw
  obtain ⟨hx, hb, hml, ho, -⟩ := S
  obtain ⟨hbl, ⟨cellB, hcB, hoB, hclB⟩, hPc⟩ := hp
  subst hb
  intro T hT X
  obtain ⟨mk, methM, hnamed, hmethM, hstM, habM⟩ := Cond.instanceMethod_spec hin
  obtain ⟨methM', cM, hmethM', hcM, -, hlM, -, -, -, hsigM⟩ := Cond.code_spec hnamed hcode
  cases hmethM.symm.trans hmethM'
  obtain ⟨c2, r2, m2, q1, q2, q3, q4, kP, hkP, hkPi⟩ := Cond.selects_spec hse
  cases hclB.symm.trans q1
  cases (State.methodFound?_of_named hnamed hy).symm.trans q2
  cases hnamed.symm.trans q3
  have hselP : selectMethod e.platform s.vm cellB.cls mk = .method mk := by rw [Launch.admits_selectMethod X.admits]; exact q4
  obtain ⟨vm₁, X₁, hstep₁⟩ := X.invokevirtual hx ho hl hnamed hmethM hstM hkP hkPi hy (a := b) (cell := cellB) (by rw [hT]; exact hcB)
    (fun z h => by rw [h] at hoB; cases hoB) hselP hmethM habM hkP hkPi (g := F0 m pc ls (As.reverse ++ .ref b :: rest)) rfl (argsL := As) (rest := rest) (hn.trans (hlen _ hsigM)) rfl hdg
  have hn1 : (T.setVm vm₁).methodNamed? y = some mk := X₁.named hnamed
  have h2 : (Cond.code y bytes maxL ret).before (Value.ref b :: As).toArray (T.setVm vm₁) = true := hws _ hcw _ _ X₁.warmed
  have h3 : (Cond.initialized y.cls).before (Value.ref b :: As).toArray (T.setVm vm₁) = true := word_at X₁.warmed (Or.inl (by first | rfl | simp [Cond.onTables, Cond.keeps, Cond.steady])) hini
  obtain ⟨methY, cY, hmY, hcY, -, hlY, -, -, -, -⟩ := Cond.code_spec hn1 h2
  obtain ⟨kY, hkY, -⟩ := className_of_methodNamed hn1
  have hinitY : kY.init = .initialized := Cond.initialized_spec (findClass_of_methodNamed hn1) hkY h3
  have hW' : 2 * (F0 m pc ls rest).monitorRoom + ((F0 m pc ls rest).stack.map fun v => v.category).sum ≤ 8 := hW
  have happ : (headSpec ws rm).appliesLoose y e.platform ((T.setVm vm₁).calling (F0 m pc ls rest) mk (Value.ref b :: As).toArray) = true :=
    Spec.appliesLoose_calling (g := F0 m pc ls rest) X₁.here hdg hn1 hkY hinitY
      (X₁.room_calling (g := F0 m pc ls rest) (R' := (headSpec ws rm).room) (hsize.trans hml.symm) hmY hcY hfr (by rw [hlY]; show _ + rm.locals ≤ _; omega) (by show cells + rm.cells ≤ _; rw [hrc]; exact hf.1) (by show slots + rm.slots ≤ _; rw [hrs]; exact hf.2)) (atoms_intro fun w hw => hws w hw _ _ X₁.warmed)
  obtain ⟨g₀, hfr0⟩ := X₁.frames_eq
  have hfrm : ((T.setVm vm₁).setTop (F0 m pc ls rest)).frames = [.java (F0 m pc ls rest)] ++ below := by rw [State.frames_setTop _ hfr0]; rfl
  obtain ⟨o, s₂, hsteps, -, hend, hq⟩ := Steps.callFree hM p X₁.admits X₁.cas X₁.clock (acts := []) hfrm happ (hbl _ _ _ _ (hPc (T.setVm vm₁) hT X₁.warmed)) trivial
  obtain ⟨q, E, ce, rfl, hE, hce, hcv, hcl, hW2, hsm⟩ := hq
  rw [hfrm] at hend
  obtain ⟨T', X', hTW, hTs, ht⟩ := X₁.outOfThrown (g := F0 m pc ls rest) rfl hend hW2 hsm
  rw [List.append_nil] at X'
  have hheap : T'.heap = s₂.heap := by rw [ht]; exact (Stand.throwing_heap T' _ q).symm
  have hsz := hTs.2.1
  have hkeep : ∀ i : Nat, i < H.size → T'.heap[i]? = H[i]? := fun i hi => by
    obtain ⟨-, -, -, -, -, h6⟩ := hTs
    have hi' : i < (T.setVm vm₁).heap.size := by show i < T.heap.size; rw [hT]; exact hi
    obtain ⟨c9, e1, e2, e3, e4⟩ := h6 i _ (Array.getElem?_eq_getElem hi')
    have hs : c9.slots = ((T.setVm vm₁).heap[i]).slots := Array.ext_getElem? fun j => e4 j (fun hm => by cases hm)
    have h9 : c9 = (T.setVm vm₁).heap[i] := by rw [hs] at e2; exact e2
    have e5 : T'.heap[i]? = some c9 := e1
    rw [e5, h9, ← Array.getElem?_eq_getElem hi']
    show T.heap[i]? = _
    rw [hT]
  obtain ⟨t2, a1, b1⟩ := kk E q ce T'.heap hE (by rw [hheap]; exact hce) hcv (by
      have : (T.setVm vm₁).vm.findClass E = some ce.cls := hcl
      rw [X₁.warmed.alike.findClass] at this; exact this) (by have h9 : T.heap.size ≤ T'.heap.size := hsz; rw [hT] at h9; exact h9) hkeep T' rfl X'
  refine ⟨t2, hstep₁ _ (fun acts => ?_), b1⟩
  rw [doInvoke_state]
  rw [ht] at hsteps
  exact hsteps.trans a1
/-- .. caught in a method with a table of handlers -/
theorem xc_catch {own name E : String} {ce : Cell} {q : Addr} (hown : s.vm.findClass own = some m.cls) (pre : List ExceptionTableEntry) (x : ExceptionTableEntry) (suf : List ExceptionTableEntry) (hsplit : c.exceptionTable.toList = pre ++ x :: suf)
    (hpass : ∀ z ∈ pre, covers z pc = true ∧ z.catchType ≠ 0 ∧ ∃ nm : String, (Cond.classLink own z.catchType nm).before args s = true ∧ va_Nc E nm s) (hx : covers x pc = true) (h0 : x.catchType ≠ 0)
    (hlink : (Cond.classLink own x.catchType name).before args s = true) (hcast : (Cond.castable E name).before args s = true) (hcell : H[q]? = some ce) (hv : ce.vm = .none) (hcl : s.vm.findClass E = some ce.cls)
    (kk : W p l e R s m args below meth c H locs cells slots Q (F0 m x.handlerPc ls [.ref q])) : xW p l e R s m args below meth c H locs cells slots Q (F0 m pc ls rest) q := by
  intro T hT X
  have hpl : e.platform.magicAccessors = ({} : Platform).magicAccessors := by rw [X.admits.platform]
  obtain ⟨c3, c4, hc3, hc4, hasg⟩ := Cond.castable_spec hcast
  cases Option.some.inj (hc3.symm.trans hcl)
  obtain ⟨c5, hc5, hcl5⟩ := Cond.classLink_spec hown hlink e.platform hpl
  cases Option.some.inj (hc4.symm.trans hc5)
  obtain ⟨vm', X', st⟩ := ct_to X q (g := F0 m pc ls rest) rfl (by rw [hT]; exact hcell) hv (by obtain ⟨k9, h9, -⟩ := Vm.findClass_spec hcl; exact ⟨k9, h9⟩) pre x suf hsplit (fun z hz => by
    obtain ⟨z1, z2, nm, z3, z4⟩ := hpass z hz
    obtain ⟨c6, hc6, hcl6⟩ := Cond.classLink_spec hown z3 e.platform hpl
    obtain ⟨a8, b8, y1, y2, y3⟩ := z4
    cases Option.some.inj (y1.symm.trans hcl)
    cases Option.some.inj (y2.symm.trans hc6)
    exact ⟨z1, z2, _, hcl6, y3⟩) ⟨hx, h0, c4, hcl5, hasg⟩
  obtain ⟨t, a1, b1⟩ := kk (T.setVm vm') hT X'
  exact ⟨t, st t a1, b1⟩
end TY3
