/-! methods that change nothing; methods that throw; calls of them -/
def pQ (post : Int32 → Prop) : Array Value → State → Outcome → State → Prop := fun _ st oc t => (∃ r : Int32, oc = .returned (some (.int r)) ∧ post r) ∧ t.heap = st.heap
def Pi (l : Launch) (y : MethodName) (ws : List Cond) (rm : Room) (G : PG) (wc : va_W) (av : List Value) (post : Int32 → Prop) : Prop := ∀ sz, Met l y ws rm (cS G wc sz av) (pQ post) 0 0 (fun _ => False)
section TX1
variable {l : Launch} {y : MethodName} {ws : List Cond} {rm : Room} {G : PG} {wc : va_W} {av : List Value} {cc : ByteArray} {maxL : Nat} {ret : Option FieldType}
theorem ofP {post : Int32 → Prop} (hy : plainName y.cls = true) (hw : ws = Cond.code y cc maxL ret :: aW)
    (body : ∀ (p : Program) (e : Env) (s : State) (m : MethodId) (below : List Frame) (meth : Method) (c : Code), bF p s m meth c cc maxL ret av.toArray y → pg_K G s → va_P G.1 vwCl wc s.heap → va_D (fun _ => True) wc →
      W p l e rm s m av.toArray below meth c s.heap [] 0 0 (MQ below (pQ post) av.toArray s 0 0 (fun _ => False)) (entryFrame m av.toArray maxL)) : Pi l y ws rm G wc av post := by
  intro sz
  refine Met.ofW (cc := cc) (maxL := maxL) (ret := ret) hy hw ?_
  intro p e s m args below meth c s₁ B hml hv
  obtain ⟨rfl, hsz, hP, hD0, hK⟩ := hv
  exact body p e s m below meth c (bF_of hw B hml) hK hP hD0
end TX1
section TX2
variable {p : Program} {l : Launch} {e : Env} {R : Room} {s : State} {m : MethodId} {args : Array Value} {below : List Frame} {meth : Method} {c : Code} {H : Heap} {locs : List Loc} {cells slots : Nat} {Q : State → Prop} {pc maxL : Nat} {cc : ByteArray} {y : MethodName} {ls : Array Slot}
theorem en_p {post : Int32 → Prop} {ty : FieldType} (F : bF p s m meth c cc maxL (some ty) args y) (r : Int32) (hn : narrow ty (.int r) = .int r) (hp : post r) (hdg : decode cc pc = .ok (.ireturn, 1)) :
    W p l e R s m args below meth c s.heap [] 0 0 (MQ below (pQ post) args s 0 0 (fun _ => False)) (F0 m pc ls [.int r]) := by
  obtain ⟨⟨hx, hb, -⟩, hr, hk, -⟩ := F
  exact W.zret (v := r) (ty := ty) hx hb hr hn (fun t ht hW => ⟨⟨r, rfl, hp⟩, ht⟩) (fun _ h => by cases h) hdg (hlocks := hk)
theorem kp_i {post : Int32 → Prop} {st0 rest : List Value} {a : Array Value} (hr : va_Run p l e R s m args below meth c H locs cells slots 0 0 (F0 m pc ls st0) rest (pQ post a) (fun _ => False))
    (kk : ∀ r : Int32, post r → W p l e R s m args below meth c H locs cells slots Q (F0 m (pc + 3) ls (.int r :: rest))) : W p l e R s m args below meth c H locs cells slots Q (F0 m pc ls st0) := by
  intro T hT X
  obtain ⟨v, st₀, t, T', L, h0, X', hL, e1, e2, ⟨⟨r, hv, hp⟩, hh⟩, st⟩ := hr T hT X
  cases hv
  have hLn : L = [] := by
    cases L with
    | nil => rfl
    | cons q L => exact (hL q List.mem_cons_self).elim
  subst hLn
  rw [List.append_nil] at X'
  obtain ⟨t2, a1, b1⟩ := kk r hp T' (e1.trans (hh.trans h0)) X'
  exact ⟨t2, st t2 a1, b1⟩
end TX2
/-! what a throw asks of the tables and of Throwable's two statics -/
def xISE : String := "java/lang/IllegalStateException"
def xIAE : String := "java/lang/IllegalArgumentException"
def xIOO : String := "java/lang/IndexOutOfBoundsException"
def xUp : List String := ["java/lang/RuntimeException", "java/lang/Exception"]
def thC : List Cond := [.castable xISE xISE, .castable xIAE xIAE, .castable xIOO xIOO, .declares (Bundle.init0 "java/lang/RuntimeException"), .declares (Bundle.init0 "java/lang/Exception"), .declares (Bundle.init0 Bundle.tN)]
def thK : Cond → Bool
  | .castable .. => true
  | .declares _ => true
  | _ => false
theorem th_tab {w : Cond} (h : thK w = true) : w.onTables = true := by
  cases w <;> first | rfl | exact absurd h (by simp [thK])
theorem th_warm {w : Cond} (hk : thK w = true) {s U : State} (hW : s.WarmedH U.vm) (h : va_Nw w s) : va_Nw w U := by
  cases w <;> first | exact va_Nw.warmC hW h | exact va_Nw.warmD hW h | exact absurd hk (by simp [thK])
theorem thC_K : ∀ w ∈ thC, thK w = true := by
  intro w h
  simp only [thC, List.mem_cons, List.not_mem_nil, or_false] at h
  rcases h with rfl | rfl | rfl | rfl | rfl | rfl <;> rfl
/-- a static of references: where it lies, and that its cell holds one -/
def zL (C n d : String) (U : State) : Prop := (Cond.laysStatic C n d).before #[] U = true ∧ (Cond.isRef (.static C n d)).before #[] U = true
theorem zL.kept {C n d : String} {s U : State} (h : zL C n d s) (hW : s.WarmedH U.vm) (hq : ∀ q : Nat, q < s.heap.size → U.heap[q]? = s.heap[q]?) : zL C n d U := by
  obtain ⟨hl, hr⟩ := h
  obtain ⟨c, k, i, f, a, cell, h1, h2, h3, h4, h5, h6, h7, h8, h9⟩ := Cond.laysStatic_spec hl
  obtain ⟨k', hi', he⟩ := State.fieldFound?_setVm (s := s) hW.alike h2
  have hf : U.fieldFound? C n d = some (c, k', i, f) := hi'
  have hc : U.vm.findClass C = some c := by rw [hW.alike.findClass]; exact h1
  have h5' : U.heap[a]? = some cell := by rw [hq a (Array.getElem?_eq_some_iff.mp h5).1]; exact h5
  refine ⟨?_, ?_⟩
  · show (Cond.laysStatic C n d).holds #[] U none U [] = true
    exact Cond.laysStatic_of hc hf h3 (by rw [he]; exact h4) h5' h6 h7 h8 (by rw [he]; exact h9)
  · have e1 : (Term.static C n d).eval #[] s none [] s = cell.slots[f.slot]? := by
      simp [Term.eval, State.fieldNamed?, h2, h3, h4, h5, h6]
    have hs' : k'.statics = some a := by rw [he]; exact h4
    have e2 : (Term.static C n d).eval #[] U none [] U = cell.slots[f.slot]? := by
      simp [Term.eval, State.fieldNamed?, hf, h3, hs', h5', h6]
    simp only [Cond.before, Cond.holds, Cond.value, e1] at hr
    simp only [Cond.before, Cond.holds, Cond.value, e2]
    exact hr
def thD (U : State) : Prop := va_Nc xISE xIOO U ∧ va_Nc xISE xIAE U ∧ va_Nc xIAE xISE U ∧ va_Nc xIAE xIOO U ∧ va_Nc xIOO xISE U ∧ va_Nc xIOO xIAE U
theorem thD.moved {u U : State} (h : thD u) (hvm : u.vm.Alike U.vm) : thD U := ⟨h.1.moved hvm, h.2.1.moved hvm, h.2.2.1.moved hvm, h.2.2.2.1.moved hvm, h.2.2.2.2.1.moved hvm, h.2.2.2.2.2.moved hvm⟩
def pg_T (U : State) : Prop := (∀ w ∈ thC, va_Nw w U) ∧ (zL Bundle.tN "UNASSIGNED_STACK" Bundle.steD U) ∧ (zL Bundle.tN "SUPPRESSED_SENTINEL" Bundle.listD U) ∧ thD U
theorem pg_T.kept {s U : State} (h : pg_T s) (hW : s.WarmedH U.vm) (hq : ∀ q : Nat, q < s.heap.size → U.heap[q]? = s.heap[q]?) : pg_T U :=
  ⟨fun w hw => th_warm (thC_K w hw) hW (h.1 w hw), h.2.1.kept hW hq, h.2.2.1.kept hW hq, h.2.2.2.moved hW.alike⟩
