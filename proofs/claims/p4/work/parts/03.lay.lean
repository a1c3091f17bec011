/-! my own layer: one form of contract, one row a call, one row an end -/
section LAY1
variable {p : Program} {l : Launch} {e : Env} {R : Room} {s : State} {m : MethodId} {args : Array Value} {below : List Frame} {meth : Method} {c : Code} {H : Heap} {locs : List Loc} {cells slots : Nat} {Q : State → Prop}
theorem tp_i {pc : Nat} {ls : Array Slot} {rest : List Value} {x : Int32} (y : Int32) (h : x = y) (k : W p l e R s m args below meth c H locs cells slots Q (F0 m pc ls (.int y :: rest))) : W p l e R s m args below meth c H locs cells slots Q (F0 m pc ls (.int x :: rest)) := by
  rw [h]; exact k
theorem tp_l {pc : Nat} {ls : Array Slot} {rest : List Value} {x : Int64} (y : Int64) (h : x = y) (k : W p l e R s m args below meth c H locs cells slots Q (F0 m pc ls (.long y :: rest))) : W p l e R s m args below meth c H locs cells slots Q (F0 m pc ls (.long x :: rest)) := by
  rw [h]; exact k
theorem tp_v {pc : Nat} {ls : Array Slot} {rest : List Value} {x : Value} (y : Value) (h : x = y) (k : W p l e R s m args below meth c H locs cells slots Q (F0 m pc ls (y :: rest))) : W p l e R s m args below meth c H locs cells slots Q (F0 m pc ls (x :: rest)) := by
  rw [h]; exact k
end LAY1
/-- a contract's start: the world wc, the tables -/
def cS (G : PG) (wc : va_W) (sz : Nat) (av : List Value) : Array Value → State → Prop := va_Pc av (fun U => U.heap.size = sz ∧ va_P G.1 vwCl wc U.heap ∧ va_D (fun _ => True) wc ∧ pg_K G U)
theorem cS_blind {G : PG} {wc : va_W} {sz : Nat} {av : List Value} : FrameBlind (cS G wc sz av) := fun _ U g mk h => ⟨h.1, h.2.1, h.2.2.1, h.2.2.2.1, pg_K.same (u := U) (U := U.calling g mk _) rfl h.2.2.2.2⟩
theorem cS_pre {G : PG} {wc : va_W} {av : List Value} {s : State} {H : Heap} {A : Nat → Prop} (hP : va_P G.1 vwCl wc H) (hD : va_D A wc) (hK : pg_K G s) : ∀ U : State, U.heap = H → s.WarmedH U.vm → cS G wc H.size av av.toArray U := fun U hU hW => ⟨rfl, by rw [hU], by rw [hU]; exact hP, hD.weaken (fun _ _ _ _ => trivial), hK.warm hW⟩
/-- .. and its end -/
def oB (G : PG) (A : Nat → Prop) {S : Type} (w1 : S → va_W) (u : S) (t : State) : Prop := va_P G.1 vwCl (w1 u) t.heap ∧ va_D A (w1 u)
def oR (G : PG) (A : Nat → Prop) {S : Type} (w1 : S → va_W) (pa : S → Nat → Prop) (u : S) (a : Nat) (t : State) : Prop := pa u a ∧ va_P G.1 vwCl (w1 u) t.heap ∧ va_D A (w1 u)
def Ci (l : Launch) (y : MethodName) (ws : List Cond) (rm : Room) (G : PG) (wc : va_W) (av : List Value) {S : Type} (post : Int32 → S → Prop) (w1 : S → va_W) (mc ms : Nat) : Prop := ∀ sz, Met l y ws rm (cS G wc sz av) (va_Qi post (oB G (va_A wc sz) w1) (va_A wc sz)) mc ms (va_A wc sz)
def Cl (l : Launch) (y : MethodName) (ws : List Cond) (rm : Room) (G : PG) (wc : va_W) (av : List Value) {S : Type} (post : Int64 → S → Prop) (w1 : S → va_W) (mc ms : Nat) : Prop := ∀ sz, Met l y ws rm (cS G wc sz av) (va_Ql post (oB G (va_A wc sz) w1) (va_A wc sz)) mc ms (va_A wc sz)
def Cv (l : Launch) (y : MethodName) (ws : List Cond) (rm : Room) (G : PG) (wc : va_W) (av : List Value) {S : Type} (post : S → Prop) (w1 : S → va_W) (mc ms : Nat) : Prop := ∀ sz, Met l y ws rm (cS G wc sz av) (va_Qv post (oB G (va_A wc sz) w1) (va_A wc sz)) mc ms (va_A wc sz)
def Cr (l : Launch) (y : MethodName) (ws : List Cond) (rm : Room) (G : PG) (wc : va_W) (av : List Value) {S : Type} (post : S → Prop) (pa : S → Nat → Prop) (w1 : S → va_W) (mc ms : Nat) : Prop := ∀ sz, Met l y ws rm (cS G wc sz av) (va_Qr post (oR G (va_A wc sz) w1 pa) (va_A wc sz)) mc ms (va_A wc sz)
/-- what a body may use -/
def bF (p : Program) (s : State) (m : MethodId) (meth : Method) (c : Code) (cc : ByteArray) (maxL : Nat) (ret : Option FieldType) (args : Array Value) (y : MethodName) : Prop :=
  CallFix p m c cc maxL s args aW y.cls ∧ meth.sig.returnType = ret ∧ meth.locks = false ∧ meth.name = y.name
section LAY2
variable {l : Launch} {y : MethodName} {ws : List Cond} {rm : Room} {G : PG} {wc : va_W} {av : List Value} {cc : ByteArray} {maxL mc ms : Nat} {ret : Option FieldType}
theorem bF_of {x : Cond} (hw : ws = x :: aW) {p : Program} {e : Env} {s : State} {m : MethodId} {args : Array Value} {below : List Frame} {meth : Method} {c : Code} {s₁ : State} (B : BodyLoose p l y (headSpec ws rm) cc maxL ret e s m args below meth c s₁) (hml : c.maxLocals = maxL) : bF p s m meth c cc maxL ret args y :=
  ⟨⟨B.exec, B.bytes, hml, findClass_of_methodNamed B.named, fun w h => atoms_spec (ws := ws) B.pre w (by rw [hw]; exact List.mem_cons_of_mem _ h)⟩, B.returns, B.notSynchronized, (name_of_methodNamed B.named B.method).1⟩
/-- any body: a world, its cells apart and in A, whatever is new in A -/
theorem ofB {Qc : (Nat → Prop) → Array Value → State → Outcome → State → Prop} (hy : plainName y.cls = true) (hw : ws = Cond.code y cc maxL ret :: aW)
    (body : ∀ (p : Program) (e : Env) (s : State) (m : MethodId) (below : List Frame) (meth : Method) (c : Code) (A : Nat → Prop), bF p s m meth c cc maxL ret av.toArray y → pg_K G s → (∀ q, s.heap.size ≤ q → A q) → va_P G.1 vwCl wc s.heap → va_D A wc →
      W p l e rm s m av.toArray below meth c s.heap [] 0 0 (MQ below (Qc A) av.toArray s mc ms A) (entryFrame m av.toArray maxL)) : ∀ sz, Met l y ws rm (cS G wc sz av) (Qc (va_A wc sz)) mc ms (va_A wc sz) := by
  intro sz
  refine Met.ofW (cc := cc) (maxL := maxL) (ret := ret) hy hw ?_
  intro p e s m args below meth c s₁ B hml hv
  obtain ⟨rfl, hsz, hP, hD0, hK⟩ := hv
  subst hsz
  exact body p e s m below meth c _ (bF_of hw B hml) hK (fun q h => Or.inr h) hP hD0.self
end LAY2
section LAY3
variable {p : Program} {l : Launch} {e : Env} {R : Room} {s : State} {m : MethodId} {args : Array Value} {below : List Frame} {meth : Method} {c : Code} {H : Heap} {locs : List Loc} {cells slots : Nat} {Q : State → Prop}
variable {G : PG} {A : Nat → Prop} {mc ms pc maxL : Nat} {cc : ByteArray} {y : MethodName} {ls : Array Slot} {w : va_W}
/-- the ends -/
theorem en_i {S : Type} {post : Int32 → S → Prop} {w1 : S → va_W} {ty : FieldType} (F : bF p s m meth c cc maxL (some ty) args y) (hS : va_S A s.heap H locs) (r : Int32) (u : S) (hn : narrow ty (.int r) = .int r) (hp : post r u) (hP : va_P G.1 vwCl (w1 u) H) (hD : va_D A (w1 u)) (hc : cells ≤ mc) (hs : slots ≤ ms) (hdg : decode cc pc = .ok (.ireturn, 1)) :
    W p l e R s m args below meth c H locs cells slots (MQ below (va_Qi post (oB G A w1) A) args s mc ms A) (F0 m pc ls [.int r]) := by
  obtain ⟨⟨hx, hb, -⟩, hr, hk, -⟩ := F
  refine W.widen (k := mc) (n := ms) hc hs ?_
  exact W.zret (v := r) (ty := ty) hx hb hr hn (fun t ht hW => ⟨⟨r, u, rfl, hp, by rw [ht]; exact hP, hD⟩, hS.F ht⟩) hS.2.2 hdg (hlocks := hk)
theorem en_v {S : Type} {post : S → Prop} {w1 : S → va_W} (F : bF p s m meth c cc maxL none args y) (hS : va_S A s.heap H locs) (u : S) (hp : post u) (hP : va_P G.1 vwCl (w1 u) H) (hD : va_D A (w1 u)) (hc : cells ≤ mc) (hs : slots ≤ ms) (hdg : decode cc pc = .ok (.return_, 1)) :
    W p l e R s m args below meth c H locs cells slots (MQ below (va_Qv post (oB G A w1) A) args s mc ms A) (F0 m pc ls []) := by
  obtain ⟨⟨hx, hb, -⟩, hr, hk, -⟩ := F
  refine W.widen (k := mc) (n := ms) hc hs ?_
  exact W.vret hx hb hr (fun t ht hW => ⟨⟨u, rfl, hp, by rw [ht]; exact hP, hD⟩, hS.F ht⟩) hS.2.2 hdg (hlocks := hk)
theorem en_l {S : Type} {post : Int64 → S → Prop} {w1 : S → va_W} (F : bF p s m meth c cc maxL (some .long) args y) (hS : va_S A s.heap H locs) (r : Int64) (u : S) (hp : post r u) (hP : va_P G.1 vwCl (w1 u) H) (hD : va_D A (w1 u)) (hc : cells ≤ mc) (hs : slots ≤ ms) (hdg : decode cc pc = .ok (.lreturn, 1)) :
    W p l e R s m args below meth c H locs cells slots (MQ below (va_Ql post (oB G A w1) A) args s mc ms A) (F0 m pc ls [.long r]) := by
  obtain ⟨⟨hx, hb, -⟩, hr, hk, -⟩ := F
  refine W.widen (k := mc) (n := ms) hc hs ?_
  exact W.lret (v := r) hx hb hr (fun t ht hW => ⟨⟨r, u, rfl, hp, by rw [ht]; exact hP, hD⟩, hS.F ht⟩) hS.2.2 hdg (hlocks := hk)
theorem en_r {S : Type} {post : S → Prop} {pa : S → Nat → Prop} {w1 : S → va_W} {cn : String} (F : bF p s m meth c cc maxL (some (.object cn)) args y) (hS : va_S A s.heap H locs) (a : Nat) (u : S) (hp : post u) (ha : pa u a) (hP : va_P G.1 vwCl (w1 u) H) (hD : va_D A (w1 u)) (hc : cells ≤ mc) (hs : slots ≤ ms) (hdg : decode cc pc = .ok (.areturn, 1)) :
    W p l e R s m args below meth c H locs cells slots (MQ below (va_Qr post (oR G A w1 pa) A) args s mc ms A) (F0 m pc ls [.ref a]) := by
  obtain ⟨⟨hx, hb, -⟩, hr, hk, -⟩ := F
  refine W.widen (k := mc) (n := ms) hc hs ?_
  exact W.aret (v := .ref a) hx hb hr (Or.inl ⟨_, rfl⟩) (Or.inr ⟨_, rfl⟩) (fun t ht hW => ⟨⟨u, a, rfl, hp, ha, by rw [ht]; exact hP, hD⟩, hS.F ht⟩) hS.2.2 hdg (hlocks := hk)
/-- behind a call: the rest's cells, then the callee's world -/
theorem kl_i {S : Type} {post : Int32 → S → Prop} {w1 : S → va_W} {wc wr : va_W} {H0 : Heap} {st0 rest : List Value} {a : Array Value}
    (hr : va_Run p l e R s m args below meth c H locs cells slots mc ms (F0 m pc ls st0) rest (va_Qi post (oB G (va_A wc H.size) w1) (va_A wc H.size) a) (va_A wc H.size))
    (hP : va_P G.1 vwCl w H) (hD : va_D A w) (hS : va_S A H0 H locs) (hA : ∀ q, H0.size ≤ q → A q) (isC isR : List Nat) (hC : isC.map (fun i => w[i]?) = wc.map some) (hR : isR.map (fun i => w[i]?) = wr.map some) (hn : va_nd isR = true) (hdis : ∀ i ∈ isR, i ∉ isC)
    (kk : ∀ (r : Int32) (u : S) (H1 : Heap) (locs1 : List Loc), post r u → va_P G.1 vwCl (wr ++ w1 u) H1 → va_D A (wr ++ w1 u) → va_S A H0 H1 locs1 → W p l e R s m args below meth c H1 locs1 (cells + mc) (slots + ms) Q (F0 m (pc + 3) ls (.int r :: rest))) :
    W p l e R s m args below meth c H locs cells slots Q (F0 m pc ls st0) := by
  have hF := va_free (wc := wc) hD hS hA isC hC
  refine va_calli hr hS (fun q _ h => hF q h) hF (fun r u t H1 locs1 ht hvm hp hB hz hk hS1 => ?_)
  obtain ⟨hP1, hD1⟩ := hB
  rw [ht] at hP1
  obtain ⟨hP2, hD2⟩ := va_join (wr := wr) hP hD isC isR hC hR hn hdis hk hF hP1 hD1
  exact kk r u H1 locs1 hp hP2 hD2 hS1
theorem kl_l {S : Type} {post : Int64 → S → Prop} {w1 : S → va_W} {wc wr : va_W} {H0 : Heap} {st0 rest : List Value} {a : Array Value}
    (hr : va_Run p l e R s m args below meth c H locs cells slots mc ms (F0 m pc ls st0) rest (va_Ql post (oB G (va_A wc H.size) w1) (va_A wc H.size) a) (va_A wc H.size))
    (hP : va_P G.1 vwCl w H) (hD : va_D A w) (hS : va_S A H0 H locs) (hA : ∀ q, H0.size ≤ q → A q) (isC isR : List Nat) (hC : isC.map (fun i => w[i]?) = wc.map some) (hR : isR.map (fun i => w[i]?) = wr.map some) (hn : va_nd isR = true) (hdis : ∀ i ∈ isR, i ∉ isC)
    (kk : ∀ (r : Int64) (u : S) (H1 : Heap) (locs1 : List Loc), post r u → va_P G.1 vwCl (wr ++ w1 u) H1 → va_D A (wr ++ w1 u) → va_S A H0 H1 locs1 → W p l e R s m args below meth c H1 locs1 (cells + mc) (slots + ms) Q (F0 m (pc + 3) ls (.long r :: rest))) :
    W p l e R s m args below meth c H locs cells slots Q (F0 m pc ls st0) := by
  have hF := va_free (wc := wc) hD hS hA isC hC
  refine va_calll hr hS (fun q _ h => hF q h) hF (fun r u t H1 locs1 ht hvm hp hB hz hk hS1 => ?_)
  obtain ⟨hP1, hD1⟩ := hB
  rw [ht] at hP1
  obtain ⟨hP2, hD2⟩ := va_join (wr := wr) hP hD isC isR hC hR hn hdis hk hF hP1 hD1
  exact kk r u H1 locs1 hp hP2 hD2 hS1
theorem kl_v {S : Type} {post : S → Prop} {w1 : S → va_W} {wc wr : va_W} {H0 : Heap} {st0 rest : List Value} {a : Array Value}
    (hr : va_Run p l e R s m args below meth c H locs cells slots mc ms (F0 m pc ls st0) rest (va_Qv post (oB G (va_A wc H.size) w1) (va_A wc H.size) a) (va_A wc H.size))
    (hP : va_P G.1 vwCl w H) (hD : va_D A w) (hS : va_S A H0 H locs) (hA : ∀ q, H0.size ≤ q → A q) (isC isR : List Nat) (hC : isC.map (fun i => w[i]?) = wc.map some) (hR : isR.map (fun i => w[i]?) = wr.map some) (hn : va_nd isR = true) (hdis : ∀ i ∈ isR, i ∉ isC)
    (kk : ∀ (u : S) (H1 : Heap) (locs1 : List Loc), post u → va_P G.1 vwCl (wr ++ w1 u) H1 → va_D A (wr ++ w1 u) → va_S A H0 H1 locs1 → W p l e R s m args below meth c H1 locs1 (cells + mc) (slots + ms) Q (F0 m (pc + 3) ls rest)) :
    W p l e R s m args below meth c H locs cells slots Q (F0 m pc ls st0) := by
  have hF := va_free (wc := wc) hD hS hA isC hC
  refine va_callv hr hS (fun q _ h => hF q h) hF (fun u t H1 locs1 ht hvm hp hB hz hk hS1 => ?_)
  obtain ⟨hP1, hD1⟩ := hB
  rw [ht] at hP1
  obtain ⟨hP2, hD2⟩ := va_join (wr := wr) hP hD isC isR hC hR hn hdis hk hF hP1 hD1
  exact kk u H1 locs1 hp hP2 hD2 hS1
theorem kl_r {S : Type} {post : S → Prop} {pa : S → Nat → Prop} {w1 : S → va_W} {wc wr : va_W} {H0 : Heap} {st0 rest : List Value} {a : Array Value}
    (hr : va_Run p l e R s m args below meth c H locs cells slots mc ms (F0 m pc ls st0) rest (va_Qr post (oR G (va_A wc H.size) w1 pa) (va_A wc H.size) a) (va_A wc H.size))
    (hP : va_P G.1 vwCl w H) (hD : va_D A w) (hS : va_S A H0 H locs) (hA : ∀ q, H0.size ≤ q → A q) (isC isR : List Nat) (hC : isC.map (fun i => w[i]?) = wc.map some) (hR : isR.map (fun i => w[i]?) = wr.map some) (hn : va_nd isR = true) (hdis : ∀ i ∈ isR, i ∉ isC)
    (kk : ∀ (u : S) (ra : Nat) (H1 : Heap) (locs1 : List Loc), post u → pa u ra → va_P G.1 vwCl (wr ++ w1 u) H1 → va_D A (wr ++ w1 u) → va_S A H0 H1 locs1 → W p l e R s m args below meth c H1 locs1 (cells + mc) (slots + ms) Q (F0 m (pc + 3) ls (.ref ra :: rest))) :
    W p l e R s m args below meth c H locs cells slots Q (F0 m pc ls st0) := by
  have hF := va_free (wc := wc) hD hS hA isC hC
  refine va_callr hr hS (fun q _ h => hF q h) hF (fun u ra t H1 locs1 ht hvm hp hB hz hk hS1 => ?_)
  obtain ⟨ha, hP1, hD1⟩ := hB
  rw [ht] at hP1
  obtain ⟨hP2, hD2⟩ := va_join (wr := wr) hP hD isC isR hC hR hn hdis hk hF hP1 hD1
  exact kk u ra H1 locs1 hp ha hP2 hD2 hS1
end LAY3
