/-! methods with handlers: their contracts, their calls -/
theorem pg_T.same {u U : State} (ev : u.vm = U.vm) (eh : u.heap = U.heap) (h : pg_T u) : pg_T U :=
  h.kept (by have := State.WarmedH.refl u; rw [ev] at this; exact this) (fun q _ => by rw [eh])
theorem xS_blind {G : PG} {wc : va_W} {sz : Nat} {av : List Value} : FrameBlind (xS G wc sz av) := fun a U g mk h => ⟨cS_blind a U g mk h.1, pg_T.same (u := U) (U := U.calling g mk a) rfl rfl h.2⟩
theorem xS_pre {G : PG} {wc : va_W} {av : List Value} {s : State} {H : Heap} {A : Nat → Prop} (hP : va_P G.1 vwCl wc H) (hD : va_D A wc) (hK : pg_K G s) (hT : pg_T s) (hq : ∀ q : Nat, q < s.heap.size → H[q]? = s.heap[q]?) : ∀ U : State, U.heap = H → s.WarmedH U.vm → xS G wc H.size av av.toArray U :=
  fun U hU hW => ⟨cS_pre hP hD hK U hU hW, hT.kept hW (fun q h => by rw [hU]; exact hq q h)⟩
def CiT (l : Launch) (y : MethodName) (ws : List Cond) (rm : Room) (G : PG) (wc : va_W) (av : List Value) {S : Type} (post : Int32 → S → Prop) (w1 : S → va_W) (mc ms : Nat) : Prop := ∀ sz, Met l y ws rm (xS G wc sz av) (va_Qi post (oB G (va_A wc sz) w1) (va_A wc sz)) mc ms (va_A wc sz)
theorem va_S.more {A : Nat → Prop} {H0 H H1 : Heap} {locs : List Loc} (hS : va_S A H0 H locs) (hz : H.size ≤ H1.size) (hk : ∀ i : Nat, i < H.size → H1[i]? = H[i]?) : va_S A H0 H1 locs :=
  ⟨Nat.le_trans hS.1 hz, fun q h1 h2 => (hk q (Nat.lt_of_lt_of_le h1 hS.1)).trans (hS.2.1 q h1 h2), hS.2.2⟩
theorem va_P.more {D : va_G} {cl : List vw_C} {ws : va_W} {H H1 : Heap} (hP : va_P D cl ws H) (hk : ∀ i : Nat, i < H.size → H1[i]? = H[i]?) : va_P D cl ws H1 := hP.kept (fun k q h => hk q.1 (hP k q h).lt)
section WR1
variable {l : Launch} {y : MethodName} {ws : List Cond} {rm : Room} {G : PG} {wc : va_W} {av : List Value} {cc : ByteArray} {maxL mc ms : Nat} {ret : Option FieldType}
theorem ofBT {Qc : (Nat → Prop) → Array Value → State → Outcome → State → Prop} {hh : List (Nat × Nat × Nat × Nat)} (hy : plainName y.cls = true) (hw : ws = Cond.codeWith y cc maxL ret hh :: aW)
    (body : ∀ (p : Program) (e : Env) (s : State) (m : MethodId) (below : List Frame) (meth : Method) (c : Code) (A : Nat → Prop), bF p s m meth c cc maxL ret av.toArray y → pg_K G s → pg_T s → c.exceptionTable.toList = tableOf hh → (∀ q, s.heap.size ≤ q → A q) → va_P G.1 vwCl wc s.heap → va_D A wc →
      W p l e rm s m av.toArray below meth c s.heap [] 0 0 (MQ below (Qc A) av.toArray s mc ms A) (entryFrame m av.toArray maxL)) : ∀ sz, Met l y ws rm (xS G wc sz av) (Qc (va_A wc sz)) mc ms (va_A wc sz) := by
  intro sz
  refine va_MetW (cc := cc) (maxL := maxL) (ret := ret) (hh := hh) hy hw ?_
  intro p e s m args below meth c s₁ B hml hv
  obtain ⟨⟨rfl, hsz, hP, hD0, hK⟩, hT⟩ := hv
  subst hsz
  have htab : c.exceptionTable.toList = tableOf hh := by
    obtain ⟨m9, meth9, c9, hn9, h1, h2, -, -, h6, -⟩ := Cond.codeWith_spec (atoms_spec (ws := ws) B.pre _ (by rw [hw]; exact List.mem_cons_self))
    cases Option.some.inj (hn9.symm.trans B.named)
    cases Option.some.inj (h1.symm.trans B.method)
    cases Option.some.inj (h2.symm.trans (Stand.of_body B).code)
    rw [← h6, table_eq]
  exact body p e s m below meth c _ (bF_of hw B hml) hK hT htab (fun q h => Or.inr h) hP hD0.self
end WR1
section WR2
variable {p : Program} {l : Launch} {e : Env} {R : Room} {s : State} {m : MethodId} {args : Array Value} {below : List Frame} {meth : Method} {c : Code} {H : Heap} {locs : List Loc} {cells slots : Nat}
theorem kw_S {y : MethodName} {bytes cc : ByteArray} {maxL nL mc ms n index : Nat} {ret : Option FieldType} {hh : List (Nat × Nat × Nat × Nat)} {rm : Room} {Pc : Array Value → State → Prop} {Qc : Array Value → State → Outcome → State → Prop} {free : Addr → Prop} {own : String} {As rest : List Value} {g : JFrame}
    (S : CallFix p m c cc nL s args aW own) (hM : Met l y (Cond.codeWith y bytes maxL ret hh :: aW) rm Pc Qc mc ms free) (hcw : Cond.codeWith y bytes maxL ret hh ∈ aW) (hlk : Cond.methodLink own index y ∈ aW) (hstc : Cond.static y ∈ aW) (hin : Cond.initialized y.cls ∈ aW) (hrc : rm.cells = mc) (hrs : rm.slots = ms)
    (hd : y.cls ≠ "java/lang/invoke/MethodHandle" ∧ y.cls ≠ "java/lang/invoke/VarHandle" ∧ (parseMethodDescriptor y.desc).map (fun d => d.parameters.length) = some n) (hR : rm.frames + 1 ≤ R.frames ∧ 8 + (maxL + 11) + rm.locals ≤ R.locals) (hp : PreS s H Pc As)
    (hg : g.method = m) (hn : As.length = n) (hsize : g.locals.size = nL) (hstack : g.stack = As.reverse ++ rest) (hW : 2 * g.monitorRoom + (rest.map fun v => v.category).sum ≤ 8) (hdg : decode cc g.pc = .ok (.invokestatic index, 3)) (hf : cells + mc ≤ R.cells ∧ slots + ms ≤ R.slots) :
    va_Run p l e R s m args below meth c H locs cells slots mc ms g rest (Qc As.toArray) free := by
  obtain ⟨hx, hb, hml, ho, hts⟩ := S
  have hgood : ∀ w ∈ Cond.codeWith y bytes maxL ret hh :: aW, ∀ (a' : Array Value) (U : State), s.WarmedH U.vm → w.before a' U = true := fun w hw a' U hU => by
    have h9 : w ∈ aW := (List.mem_cons.mp hw).elim (fun e => e ▸ hcw) id
    exact word_at hU (good_of_word (aw_good h9)) (hts w h9)
  have hK : Back l R p e below s args y 3 8 (PreOf R mc ms Pc) (PostOf Qc mc ms free) := va_backW (hh := hh) (bytes := bytes) (maxL := maxL) (ret := ret) hM hp.1 hrc hrs hR.1 hR.2 hgood List.mem_cons_self (fun a' U hU => word_at hU (good_of_word (aw_good hin)) (hts _ hin))
  have hy : y.cls ≠ "java/lang/invoke/MethodHandle" ∧ y.cls ≠ "java/lang/invoke/VarHandle" := ⟨hd.1, hd.2.1⟩
  intro T hT X
  obtain ⟨mk, methM, cM, hnamed, hmethM, hcM, -, -, -, -, -, hsigM⟩ := Cond.codeWith_spec (hts _ hcw)
  have hstatic : methM.isStatic = true := Cond.static_spec hnamed hmethM (hts _ hstc)
  obtain ⟨kP, hkP, -⟩ := className_of_methodNamed hnamed
  have hinitP : kP.init = .initialized := Cond.initialized_spec (findClass_of_methodNamed hnamed) hkP (hts _ hin)
  have hlen : As.length = methM.sig.parameters.length := by
    have h9 := hd.2.2
    rw [hsigM] at h9
    exact hn.trans (Option.some.inj h9).symm
  subst hb
  obtain ⟨vm₁, X₁, hstep₁⟩ := X.invokestatic hx ho (hts _ hlk) hnamed hmethM hstatic hkP hinitP hy (g := g) hg (argsL := As) (rest := rest) hlen hstack hdg
  obtain ⟨v, ⟨U', l2, c2, s2⟩, X', hpost, hsteps⟩ := hK m meth c ⟨T.setVm vm₁, locs, cells, slots⟩ { g with stack := rest } (.invokestatic index) mk As.toArray X₁ hg (hsize.trans hml.symm) hdg hW (X₁.named hnamed) ⟨hf.1, hf.2, hp.2 (T.setVm vm₁) hT X₁.warmed⟩
  obtain ⟨g', mk', t, L, e1, e2, hq, h1, hL, h2, h3⟩ := hpost
  dsimp only [Pt.U, Pt.locs, Pt.cells, Pt.slots] at X' e1 e2 h1 h2 h3 hsteps
  subst h1; subst h2; subst h3
  exact ⟨v, (T.setVm vm₁).calling g' mk' As.toArray, t, U', L, hT, X', hL, e1, e2, hq, fun target h => hstep₁ _ fun acts => by rw [doInvoke_state]; exact hsteps.trans h⟩
end WR2
