/-! worlds in any order: calls over a part of a world -/
theorem pm_P {D : va_G} {cl : List vw_C} {w w' : va_W} {H : Heap} (h : va_P D cl w H) (hp : ∀ q ∈ w', q ∈ w) : va_P D cl w' H := fun k q hk => by
  obtain ⟨i, hi⟩ := List.getElem?_of_mem (hp q (List.mem_of_getElem? hk))
  exact h i q hi
theorem pm_Dn {A : Nat → Prop} {w : va_W} : va_D A w ↔ (w.map Prod.fst).Nodup ∧ ∀ q ∈ w, A q.1 := by
  constructor
  · intro h
    refine ⟨List.pairwise_iff_getElem.mpr fun i j hi hj hij he => ?_, fun q hq => ?_⟩
    · rw [List.length_map] at hi hj
      rw [List.getElem_map, List.getElem_map] at he
      exact absurd (h.1 i j _ _ (List.getElem?_eq_getElem hi) (List.getElem?_eq_getElem hj) he) (Nat.ne_of_lt hij)
    · obtain ⟨i, hi⟩ := List.getElem?_of_mem hq
      exact h.2 i q hi
  · intro ⟨h1, h2⟩
    refine ⟨fun i j p q hp hq e => ?_, fun k q hk => h2 q (List.mem_of_getElem? hk)⟩
    have h1 := List.pairwise_iff_getElem.mp h1
    obtain ⟨hi, ei⟩ := List.getElem?_eq_some_iff.mp hp
    obtain ⟨hj, ej⟩ := List.getElem?_eq_some_iff.mp hq
    have key : ∀ (i j : Nat) (hi : i < w.length) (hj : j < w.length), w[i].1 = w[j].1 → ¬ i < j := fun i j hi hj e h => by
      have h9 := h1 i j (by rw [List.length_map]; exact hi) (by rw [List.length_map]; exact hj) h
      rw [List.getElem_map, List.getElem_map] at h9
      exact h9 e
    have a1 := key i j hi hj (by rw [ei, ej]; exact e)
    have a2 := key j i hj hi (by rw [ei, ej]; exact e.symm)
    omega
theorem va_P.perm {D : va_G} {cl : List vw_C} {w w' : va_W} {H : Heap} (h : va_P D cl w H) (hp : w.Perm w') : va_P D cl w' H := pm_P h (fun _ hq => hp.mem_iff.mpr hq)
theorem va_D.perm {A : Nat → Prop} {w w' : va_W} (h : va_D A w) (hp : w.Perm w') : va_D A w' := by
  rw [pm_Dn] at h ⊢
  exact ⟨(hp.map Prod.fst).nodup_iff.mp h.1, fun q hq => h.2 q (hp.mem_iff.mpr hq)⟩
theorem va_P.appL {D : va_G} {cl : List vw_C} {w w' : va_W} {H : Heap} (h : va_P D cl (w ++ w') H) : va_P D cl w H := pm_P h (fun _ hq => List.mem_append_left _ hq)
theorem va_P.appR {D : va_G} {cl : List vw_C} {w w' : va_W} {H : Heap} (h : va_P D cl (w ++ w') H) : va_P D cl w' H := pm_P h (fun _ hq => List.mem_append_right _ hq)
theorem va_D.appL {A : Nat → Prop} {w w' : va_W} (h : va_D A (w ++ w')) : va_D A w := by
  rw [pm_Dn] at h ⊢
  rw [List.map_append] at h
  exact ⟨(List.nodup_append.mp h.1).1, fun q hq => h.2 q (List.mem_append_left _ hq)⟩
theorem va_D.appR {A : Nat → Prop} {w w' : va_W} (h : va_D A (w ++ w')) : va_D A w' := by
  rw [pm_Dn] at h ⊢
  rw [List.map_append] at h
  exact ⟨(List.nodup_append.mp h.1).2.1, fun q hq => h.2 q (List.mem_append_right _ hq)⟩
theorem kz_F {A : Nat → Prop} {wr wc : va_W} {H0 H : Heap} {locs : List Loc} (hD : va_D A (wr ++ wc)) (hS : va_S A H0 H locs) (hA : ∀ q, H0.size ≤ q → A q) : ∀ q, va_A wc H.size q → A q := fun q h => by
  rcases h with ⟨k, e, h⟩ | h
  · exact hD.appR.2 k (q, e) h
  · exact hA q (Nat.le_trans hS.1 h)
theorem kz_J {A : Nat → Prop} {D : va_G} {cl : List vw_C} {wr wc w1 : va_W} {H H1 : Heap} (hP : va_P D cl (wr ++ wc) H) (hD : va_D A (wr ++ wc)) (hk : ∀ q : Nat, q < H.size → ¬ va_A wc H.size q → H1[q]? = H[q]?) (hF : ∀ q, va_A wc H.size q → A q) (hP1 : va_P D cl w1 H1) (hD1 : va_D (va_A wc H.size) w1) :
    va_P D cl (wr ++ w1) H1 ∧ va_D A (wr ++ w1) := by
  have apart : ∀ q ∈ wr, q.1 < H.size ∧ ¬ va_A wc H.size q.1 := fun q hq => by
    obtain ⟨i, hi⟩ := List.getElem?_of_mem hq
    have hl := (hP.appL i q hi).lt
    refine ⟨hl, fun h => ?_⟩
    rcases h with ⟨k, e, h⟩ | h
    · rw [pm_Dn, List.map_append] at hD
      exact (List.nodup_append.mp hD.1).2.2 q.1 (List.mem_map_of_mem hq) q.1 (List.mem_map.mpr ⟨(q.1, e), List.mem_of_getElem? h, rfl⟩) rfl
    · omega
  refine ⟨va_P.app (fun k q hq => ?_) hP1, va_D.app hD.appL (hD1.weaken (fun k q _ h => hF q.1 h)) (fun i j x y hx hy hxy => ?_)⟩
  · obtain ⟨g1, g2⟩ := apart q (List.mem_of_getElem? hq)
    exact (hP.appL k q hq).kept (hk q.1 g1 g2)
  · exact (apart x (List.mem_of_getElem? hx)).2 (by rw [hxy]; exact hD1.2 j y hy)
theorem kz_T {A A1 : Nat → Prop} {H0 H H1 : Heap} {locs L : List Loc} (hS : va_S A H0 H locs) (hF : ∀ q, A1 q → A q) (hL : ∀ x ∈ L, A1 x.base) (hz : H.size ≤ H1.size) (hk : ∀ i : Nat, i < H.size → ¬ A1 i → H1[i]? = H[i]?) : va_S A H0 H1 (locs ++ L) :=
  ⟨Nat.le_trans hS.1 hz, fun q h1 h2 => (hk q (Nat.lt_of_lt_of_le h1 hS.1) (fun z => h2 (hF q z))).trans (hS.2.1 q h1 h2), fun x hx => (List.mem_append.mp hx).elim (hS.2.2 x) (fun h => hF _ (hL x h))⟩
section KZ
variable {p : Program} {l : Launch} {e : Env} {R : Room} {s : State} {m : MethodId} {args : Array Value} {below : List Frame} {meth : Method} {c : Code} {H : Heap} {locs : List Loc} {cells slots : Nat} {Q : State → Prop}
variable {G : PG} {A : Nat → Prop} {mc ms pc : Nat} {ls : Array Slot} {w wc wr : va_W} {H0 : Heap} {st0 rest : List Value} {a : Array Value}
theorem kz_i {S : Type} {post : Int32 → S → Prop} {w1 : S → va_W}
    (hr : va_Run p l e R s m args below meth c H locs cells slots mc ms (F0 m pc ls st0) rest (va_Qi post (oB G (va_A wc H.size) w1) (va_A wc H.size) a) (va_A wc H.size))
    (hP : va_P G.1 vwCl w H) (hD : va_D A w) (hS : va_S A H0 H locs) (hA : ∀ q, H0.size ≤ q → A q) (hp : w.Perm (wr ++ wc)) {w2 : S → va_W} (hp2 : ∀ u, (wr ++ w1 u).Perm (w2 u))
    (kk : ∀ (r : Int32) (u : S) (H1 : Heap) (locs1 : List Loc), post r u → va_P G.1 vwCl (w2 u) H1 → va_D A (w2 u) → va_S A H0 H1 locs1 → W p l e R s m args below meth c H1 locs1 (cells + mc) (slots + ms) Q (F0 m (pc + 3) ls (.int r :: rest))) :
    W p l e R s m args below meth c H locs cells slots Q (F0 m pc ls st0) := by
  have hP' := hP.perm hp
  have hD' := hD.perm hp
  have hF := kz_F hD' hS hA
  refine va_calli hr hS (fun q _ h => hF q h) hF (fun r u t H1 locs1 ht hvm hpo hB hz hk hS1 => ?_)
  obtain ⟨hP1, hD1⟩ := hB
  rw [ht] at hP1
  obtain ⟨hP2, hD2⟩ := kz_J hP' hD' hk hF hP1 hD1
  exact kk r u H1 locs1 hpo (hP2.perm (hp2 u)) (hD2.perm (hp2 u)) hS1
theorem kz_v {S : Type} {post : S → Prop} {w1 : S → va_W}
    (hr : va_Run p l e R s m args below meth c H locs cells slots mc ms (F0 m pc ls st0) rest (va_Qv post (oB G (va_A wc H.size) w1) (va_A wc H.size) a) (va_A wc H.size))
    (hP : va_P G.1 vwCl w H) (hD : va_D A w) (hS : va_S A H0 H locs) (hA : ∀ q, H0.size ≤ q → A q) (hp : w.Perm (wr ++ wc)) {w2 : S → va_W} (hp2 : ∀ u, (wr ++ w1 u).Perm (w2 u))
    (kk : ∀ (u : S) (H1 : Heap) (locs1 : List Loc), post u → va_P G.1 vwCl (w2 u) H1 → va_D A (w2 u) → va_S A H0 H1 locs1 → W p l e R s m args below meth c H1 locs1 (cells + mc) (slots + ms) Q (F0 m (pc + 3) ls rest)) :
    W p l e R s m args below meth c H locs cells slots Q (F0 m pc ls st0) := by
  have hP' := hP.perm hp
  have hD' := hD.perm hp
  have hF := kz_F hD' hS hA
  refine va_callv hr hS (fun q _ h => hF q h) hF (fun u t H1 locs1 ht hvm hpo hB hz hk hS1 => ?_)
  obtain ⟨hP1, hD1⟩ := hB
  rw [ht] at hP1
  obtain ⟨hP2, hD2⟩ := kz_J hP' hD' hk hF hP1 hD1
  exact kk u H1 locs1 hpo (hP2.perm (hp2 u)) (hD2.perm (hp2 u)) hS1
end KZ
/-- a part in the middle of a world, moved to its end and back -/
theorem zp_mid {α : Type} (L1 M L2 : List α) : (L1 ++ (M ++ L2)).Perm ((L1 ++ L2) ++ M) := by
  rw [List.append_assoc]
  exact List.Perm.append_left L1 List.perm_append_comm
theorem zp_five {α : Type} (a b c d e f : List α) : ((a ++ (b ++ (c ++ (d ++ e)))) ++ f).Perm ((a ++ (c ++ d)) ++ (f ++ (b ++ e))) := by
  simp only [List.append_assoc]
  refine List.Perm.append_left a ?_
  refine (List.perm_append_comm_assoc b c _).trans (List.Perm.append_left c ?_)
  refine (List.perm_append_comm_assoc b d _).trans (List.Perm.append_left d ?_)
  rw [← List.append_assoc]
  exact List.perm_append_comm
theorem zp_swap {α : Type} (a b P c P' n n' : List α) : (a ++ ((b ++ P) ++ ((c ++ P') ++ (n' ++ n)))).Perm (a ++ ((b ++ P') ++ ((c ++ P) ++ (n ++ n')))) := by
  simp only [List.append_assoc]
  refine List.Perm.append_left a (List.Perm.append_left b ?_)
  refine (List.perm_append_comm_assoc P c _).trans ?_
  refine List.Perm.trans ?_ (List.perm_append_comm_assoc c P' _)
  refine List.Perm.append_left c ?_
  refine (List.perm_append_comm_assoc P P' _).trans (List.Perm.append_left P' (List.Perm.append_left P ?_))
  exact List.perm_append_comm
/-! a method that throws behind writes: the state before the throw taken as a new start -/
section RB
variable {p : Program} {l : Launch} {e : Env} {R : Room} {s : State} {m : MethodId} {args : Array Value} {below : List Frame} {meth : Method} {c : Code} {H : Heap} {locs : List Loc} {cells slots : Nat} {Q : State → Prop} {g : JFrame}
theorem rb_stand {T : State} {R2 : Room} (X : Stand p l e R s m args below meth c T locs cells slots) (hfr : R2.frames ≤ R.frames) (hlo : R2.locals ≤ R.locals) (hce : cells + R2.cells ≤ R.cells) (hsl : slots + R2.slots ≤ R.slots) :
    Stand p l e R2 (T.setFrames (.invoking m args :: below)) m args below meth c T [] 0 0 := by
  obtain ⟨g₀, hg0⟩ := Option.isSome_iff_exists.mp X.here.top
  obtain ⟨r, hr⟩ := State.topJava?_eq_some.mp hg0
  obtain ⟨th, hth, -⟩ := State.frames_cons hr
  have hcur : T.cur < T.threads.size := (Array.getElem?_eq_some_iff.mp hth).1
  have hF : (T.setFrames (.invoking m args :: below)).frames = .invoking m args :: below := State.frames_setFrames _ hcur
  have hm2 : (T.setFrames (.invoking m args :: below)).vm.method? m = some meth := X.method'
  refine ⟨X.admits, X.cas, X.clock, hF, ?_, ?_, hm2, X.code, X.here, X.tail, State.WarmedH.refl _, by rw [State.stackLimits_setFrames], by rw [State.stackBytes_setFrames], ?_⟩
  · obtain ⟨r1, r2, r3, r4⟩ := State.hasRoom_stack X.room
    have r5 := State.hasRoom_real X.room
    have h := X.room
    simp only [State.hasRoom, Bool.and_eq_true, decide_eq_true_eq] at h
    rw [State.localsInUse_invoking X.frames X.method X.code] at r3 r4 r5
    rw [X.frames, List.length_cons] at r1 r2
    have hU := State.localsInUse_invoking hF hm2 X.code
    have h1 := X.heapSize
    have h2 := X.used
    simp only [State.hasRoom, Bool.and_eq_true, decide_eq_true_eq, hF, hU, List.length_cons, State.stackLimits_setFrames, State.stackBytes_setFrames, X.limits, X.bytes]
    refine ⟨⟨⟨⟨by omega, by omega, by omega, by omega, by omega, h.1.1.1.2.2.2.2.2⟩, ?_⟩, ?_⟩, X.book⟩
    · have := h.1.1.2
      show T.heap.size + R2.cells ≤ e.platform.maxCells
      omega
    · have := h.1.2
      show T.slotsUsed + R2.slots ≤ e.platform.maxSlots
      omega
  · have hh := X.hears
    have hal := X.warmed.alike
    have hcode : ∀ m', (T.setFrames (.invoking m args :: below)).code? m' = s.code? m' := fun m' => State.code?_setVm (s := s) hal m'
    unfold State.hears at hh ⊢
    cases below with
    | nil => rw [hm2]; rw [X.method] at hh; exact hh
    | cons f b =>
      cases f with
      | java g => simp only [hcode]; exact hh
      | _ => first | rfl | (simp only [hm2]; simp only [X.method] at hh; exact hh)
  · have h := (State.sameButNew.refl (T.setFrames (.invoking m args :: below)) (x := { th with frames := .invoking m args :: below }) (by
      show (T.setFrames (.invoking m args :: below)).threads[T.cur]? = _
      simp [State.setFrames, Array.getElem?_modify, hth])).setFrames T.frames (by
      show T.cur < (T.setFrames (.invoking m args :: below)).threads.size
      simpa [State.setFrames] using hcur)
    rw [State.setFrames_setFrames, State.setFrames_self hth] at h
    exact h
theorem W_rebase {R2 : Room} {Q2 : State → State → Prop} (hfr : R2.frames ≤ R.frames) (hlo : R2.locals ≤ R.locals) (hce : cells + R2.cells ≤ R.cells) (hsl : slots + R2.slots ≤ R.slots)
    (k : ∀ s2 : State, s2.heap = H → s.WarmedH s2.vm → W p l e R2 s2 m args below meth c H [] 0 0 (Q2 s2) g)
    (hQ : ∀ T t : State, T.heap = H → s.WarmedH T.vm → s.sameButNew (T.setVm s.vm) locs cells slots → Q2 (T.setFrames (.invoking m args :: below)) t → Q t) : W p l e R s m args below meth c H locs cells slots Q g := by
  intro T hT X
  obtain ⟨t, st, q⟩ := k (T.setFrames (.invoking m args :: below)) hT X.warmed T hT (rb_stand X hfr hlo hce hsl)
  exact ⟨t, st, hQ T t hT X.warmed X.same q⟩
end RB
theorem zL.kept2 {C n d : String} {s U : State} (h : zL C n d s) (hW : s.WarmedH U.vm) (hq : ∀ (q : Nat) (cell : Cell), s.heap[q]? = some cell → cell.vm.isStatics = true → U.heap[q]? = s.heap[q]?) : zL C n d U := by
  obtain ⟨hl, hr⟩ := h
  obtain ⟨c, k, i, f, a, cell, h1, h2, h3, h4, h5, h6, h7, h8, h9⟩ := Cond.laysStatic_spec hl
  obtain ⟨k', hi', he⟩ := State.fieldFound?_setVm (s := s) hW.alike h2
  have hf : U.fieldFound? C n d = some (c, k', i, f) := hi'
  have hc : U.vm.findClass C = some c := by rw [hW.alike.findClass]; exact h1
  have h5' : U.heap[a]? = some cell := by rw [hq a cell h5 h6]; exact h5
  refine ⟨?_, ?_⟩
  · show (Cond.laysStatic C n d).holds #[] U none U [] = true
    exact Cond.laysStatic_of hc hf h3 (by rw [he]; exact h4) h5' h6 h7 h8 (by rw [he]; exact h9)
  · have e1 : (Term.static C n d).eval #[] s none [] s = cell.slots[f.slot]? := by
      simp [Term.eval, State.fieldNamed?, h2, h3, h4, h5, h6]
    have hs' : k'.statics = some a := by rw [he]; exact h4
    have e2 : (Term.static C n d).eval #[] U none [] U = cell.slots[f.slot]? := by
      simp [Term.eval, State.fieldNamed?, hf, h3, hs', h5', h6]
    simp only [Cond.before, Cond.holds, Cond.value, e1] at hr
    simp only [Cond.before, Cond.holds, Cond.value, e2]
    exact hr
theorem pg_T.kept2 {s U : State} (h : pg_T s) (hW : s.WarmedH U.vm) (hq : ∀ (q : Nat) (cell : Cell), s.heap[q]? = some cell → cell.vm.isStatics = true → U.heap[q]? = s.heap[q]?) : pg_T U :=
  ⟨fun w hw => th_warm (thC_K w hw) hW (h.1 w hw), h.2.1.kept2 hW hq, h.2.2.1.kept2 hW hq, h.2.2.2.moved hW.alike⟩
theorem va_at.plain {D : va_G} {cl : List vw_C} {q : Nat × va_E} {H : Heap} (h : va_at D cl q H) {cell : Cell} (hc : H[q.1]? = some cell) : cell.vm.isStatics = false := by
  obtain ⟨a, e⟩ := q
  cases e with
  | inl x =>
    have h9 : H[a]? = some (vp_cell x.1 x.2) := h
    have h8 : some cell = some (vp_cell x.1 x.2) := hc.symm.trans h9
    cases Option.some.inj h8
    obtain ⟨x1, n, x2⟩ := x
    rcases x2 with f | f | f | f | f <;> rfl
  | inr o =>
    obtain ⟨r, h1, c2, h2, -, h3, -⟩ := h
    have h8 : some cell = some c2 := hc.symm.trans h2
    cases Option.some.inj h8
    rw [h3]; rfl
def yQ (G : PG) (A : Nat → Prop) (w1 : va_W) (E : String) (mc ms : Nat) : Array Value → State → Outcome → State → Prop := fun _ st o t =>
  ∃ (q : Addr) (ce : Cell) (L : List Loc), o = .threw q ∧ t.heap[q]? = some ce ∧ ce.vm = .none ∧ st.vm.findClass E = some ce.cls ∧ st.WarmedH t.vm ∧ (∀ x ∈ L, A x.base) ∧ st.sameButNew ({ t with vm := st.vm } : State) L mc ms ∧ va_F A st t ∧ va_P G.1 vwCl w1 t.heap ∧ va_D A w1
def tS (Z : ZZ) (G : PG) (wc : va_W) (sz : Nat) (av : List Value) : Array Value → State → Prop := fun v U => cS G wc sz av v U ∧ pg_T U ∧ zF Z (va_A wc sz) U U.heap
theorem tS_blind {Z : ZZ} {G : PG} {wc : va_W} {sz : Nat} {av : List Value} : FrameBlind (tS Z G wc sz av) := fun a U g mk h => ⟨cS_blind a U g mk h.1, pg_T.same (u := U) (U := U.calling g mk a) rfl rfl h.2.1, zF.same (u := U) (U := U.calling g mk a) rfl rfl h.2.2⟩
theorem tS_pre {Z : ZZ} {G : PG} {wc : va_W} {av : List Value} {s : State} {H : Heap} {A : Nat → Prop} {locs : List Loc} (hP : va_P G.1 vwCl wc H) (hD : va_D A wc) (hK : pg_K G s) (hT : pg_T s) (hZ : zF Z A s s.heap) (hS : va_S A s.heap H locs) (hB : ∀ q, va_A wc H.size q → A q) (hns : ∀ q, A q → ∀ cell, s.heap[q]? = some cell → cell.vm.isStatics = false) :
    ∀ U : State, U.heap = H → s.WarmedH U.vm → tS Z G wc H.size av av.toArray U :=
  fun U hU hW => ⟨cS_pre hP hD hK U hU hW, hT.kept2 hW (fun q cell h1 h2 => by
    rw [hU]
    refine hS.2.1 q (Array.getElem?_eq_some_iff.mp h1).1 (fun hA => ?_)
    rw [hns q hA cell h1] at h2; cases h2), hZ.use hS hB hU hW⟩
def Yt (l : Launch) (y : MethodName) (ws : List Cond) (rm : Room) (Z : ZZ) (G : PG) (wc : va_W) (av : List Value) (E : String) (w1 : va_W) (mc ms : Nat) : Prop := ∀ sz, MetFree l y (headSpec ws rm) (tS Z G wc sz av) (fun _ _ _ _ _ => True) (yQ G (va_A wc sz) w1 E mc ms)
def CiY (l : Launch) (y : MethodName) (ws : List Cond) (rm : Room) (Z : ZZ) (G : PG) (wc : va_W) (av : List Value) {S : Type} (post : Int32 → S → Prop) (w1 : S → va_W) (mc ms : Nat) : Prop := ∀ sz, Met l y ws rm (tS Z G wc sz av) (va_Qi post (oB G (va_A wc sz) w1) (va_A wc sz)) mc ms (va_A wc sz)
def yMQ (below : List Frame) (G : PG) (A : Nat → Prop) (w1 : va_W) (E : String) (mc ms : Nat) (a : Array Value) (s : State) : State → Prop := fun t => ∃ o, t.status = .running ∧ Ended t below o ∧ yQ G A w1 E mc ms a s o t
theorem va_A.plain {D : va_G} {cl : List vw_C} {wc : va_W} {H : Heap} (hP : va_P D cl wc H) : ∀ q, va_A wc H.size q → ∀ cell, H[q]? = some cell → cell.vm.isStatics = false := fun q h cell hc => by
  rcases h with ⟨k, e, h⟩ | h
  · exact (hP k (q, e) h).plain hc
  · have := (Array.getElem?_eq_some_iff.mp hc).1; omega
section YY1
variable {l : Launch} {y : MethodName} {ws : List Cond} {rm : Room} {Z : ZZ} {G : PG} {wc : va_W} {av : List Value} {cc : ByteArray} {maxL mc ms : Nat} {ret : Option FieldType}
theorem ofY {E : String} {w1 : va_W} (hy : plainName y.cls = true) (hw : ws = Cond.code y cc maxL ret :: aW)
    (body : ∀ (p : Program) (e : Env) (s : State) (m : MethodId) (below : List Frame) (meth : Method) (c : Code) (A : Nat → Prop), bF p s m meth c cc maxL ret av.toArray y → pg_K G s → pg_T s → zF Z A s s.heap → c.exceptionTable.isEmpty = true → (∀ q, s.heap.size ≤ q → A q) → (∀ q, A q → ∀ cell, s.heap[q]? = some cell → cell.vm.isStatics = false) → va_P G.1 vwCl wc s.heap → va_D A wc →
      W p l e rm s m av.toArray below meth c s.heap [] 0 0 (yMQ below G A w1 E mc ms av.toArray s) (entryFrame m av.toArray maxL)) : Yt l y ws rm Z G wc av E w1 mc ms := by
  intro sz
  refine MetFree.of_bodyS (code := cc) (maxLocals := maxL) (ret := ret) hy ?_ ?_
  · intro args s m h hn
    obtain ⟨meth, c, h1, h2, h3, h4, h5, h6, -, -⟩ := Cond.code_spec hn (atoms_spec (ws := ws) h _ (by rw [hw]; exact List.mem_cons_self))
    exact ⟨meth, c, h1, h2, h3, h4, h5, h6⟩
  · intro p e s m args below meth c s₁ B hml hP _
    obtain ⟨⟨rfl, hsz, hP, hD0, hK⟩, hT, hZ⟩ := hP
    subst hsz
    have hh0 : s₁.heap = s.heap := by rw [B.state]; rfl
    have hcd : (Cond.code y cc maxL ret).before av.toArray s = true := atoms_spec (ws := ws) B.pre _ (by rw [hw]; exact List.mem_cons_self)
    obtain ⟨t, a1, o, b1, b2, b3⟩ := body p e s m below meth c _ (bF_of hw B hml) hK hT hZ (B.noHandlers hcd) (fun q h => Or.inr h) (va_A.plain hP) hP hD0.self s₁ hh0 (Stand.of_body B)
    exact ⟨t, o, a1, b1, b2, b3⟩
theorem ofBY {Qc : (Nat → Prop) → Array Value → State → Outcome → State → Prop} {hh : List (Nat × Nat × Nat × Nat)} (hy : plainName y.cls = true) (hw : ws = Cond.codeWith y cc maxL ret hh :: aW)
    (body : ∀ (p : Program) (e : Env) (s : State) (m : MethodId) (below : List Frame) (meth : Method) (c : Code) (A : Nat → Prop), bF p s m meth c cc maxL ret av.toArray y → pg_K G s → pg_T s → zF Z A s s.heap → c.exceptionTable.toList = tableOf hh → (∀ q, s.heap.size ≤ q → A q) → (∀ q, A q → ∀ cell, s.heap[q]? = some cell → cell.vm.isStatics = false) → va_P G.1 vwCl wc s.heap → va_D A wc →
      W p l e rm s m av.toArray below meth c s.heap [] 0 0 (MQ below (Qc A) av.toArray s mc ms A) (entryFrame m av.toArray maxL)) : ∀ sz, Met l y ws rm (tS Z G wc sz av) (Qc (va_A wc sz)) mc ms (va_A wc sz) := by
  intro sz
  refine va_MetW (cc := cc) (maxL := maxL) (ret := ret) (hh := hh) hy hw ?_
  intro p e s m args below meth c s₁ B hml hv
  obtain ⟨⟨rfl, hsz, hP, hD0, hK⟩, hT, hZ⟩ := hv
  subst hsz
  have htab : c.exceptionTable.toList = tableOf hh := by
    obtain ⟨m9, meth9, c9, hn9, h1, h2, -, -, h6, -⟩ := Cond.codeWith_spec (atoms_spec (ws := ws) B.pre _ (by rw [hw]; exact List.mem_cons_self))
    cases Option.some.inj (hn9.symm.trans B.named)
    cases Option.some.inj (h1.symm.trans B.method)
    cases Option.some.inj (h2.symm.trans (Stand.of_body B).code)
    rw [← h6, table_eq]
  exact body p e s m below meth c _ (bF_of hw B hml) hK hT hZ htab (fun q h => Or.inr h) (va_A.plain hP) hP hD0.self
end YY1
section YY2
variable {p : Program} {l : Launch} {e : Env} {R : Room} {s : State} {m : MethodId} {args : Array Value} {below : List Frame} {meth : Method} {c : Code} {H : Heap} {locs : List Loc} {cells slots : Nat} {Q : State → Prop} {pc maxL mc ms : Nat} {cc : ByteArray} {y : MethodName} {ls : Array Slot} {ret : Option FieldType} {rest : List Value} {G : PG} {A : Nat → Prop} {w1 : va_W}
theorem bF.warm (F : bF p s m meth c cc maxL ret args y) {s2 : State} (hW : s.WarmedH s2.vm) : bF p s2 m meth c cc maxL ret args y := by
  obtain ⟨⟨hx, hb, hml, hown, hts⟩, h⟩ := F
  exact ⟨⟨hx, hb, hml, by rw [hW.alike.findClass]; exact hown, fun w hw => word_at hW (good_of_word (aw_good hw)) (hts w hw)⟩, h⟩
/-- 'throw new E()' behind writes -/
theorem th_1 (F : bF p s m meth c cc maxL ret args y) (hl : l.stackTraces = false) (hT : pg_T s) (hS : va_S A s.heap H locs) (hns : ∀ q, A q → ∀ cell, s.heap[q]? = some cell → cell.vm.isStatics = false) (hP : va_P G.1 vwCl w1 H) (hD : va_D A w1) {E : String} {names : List String} {ik ic : Nat} (hcls : Bundle.fit E = true) (hnames : ∀ n ∈ names, Bundle.fit n = true)
    (hk : Cond.classLink y.cls ik E ∈ aW) (hins : Cond.instantiable E 6 ∈ aW) (hini : Cond.initialized E ∈ aW) (hat : ∀ s2 : State, (∀ w ∈ aW, w.before args s2 = true) → pg_T s2 → ∀ a ∈ Bundle.ownAtoms0 y.cls ic E names, a.before args s2 = true) (hex : c.exceptionTable.isEmpty = true) (hsize : ls.size = maxL)
    (d0 : decode cc pc = .ok (.new ik, 3)) (d3 : decode cc (pc + 3) = .ok (.dup, 1)) (d4 : decode cc (pc + 4) = .ok (.invokespecial ic, 3)) (d7 : decode cc (pc + 7) = .ok (.athrow, 1))
    (hRf : names.length + 3 < R.frames) (hRl : (rest.map fun v => v.category).sum + (13 * (names.length + 1) + 42) ≤ R.locals) (hRc : cells + 1 ≤ R.cells) (hRs : slots + 6 ≤ R.slots) (hmc : cells + 1 ≤ mc) (hms : slots + 6 ≤ ms) :
    W p l e R s m args below meth c H locs cells slots (yMQ below G A w1 E mc ms args s) (F0 m pc ls rest) := by
  refine W_rebase (R2 := { frames := R.frames, cells := 1, slots := 6, locals := R.locals }) (Q2 := fun s2 => xMQ below (fun E9 => E9 = E) args s2) (Nat.le_refl _) (Nat.le_refl _) hRc hRs (fun s2 hs2 hW2 => ?_) (fun T t hTH hWT hsame hq => ?_)
  · have F2 := F.warm hW2
    have hT2 : pg_T s2 := hT.kept2 hW2 (fun q cell h1 h2 => by
      rw [hs2]
      refine hS.2.1 q (Array.getElem?_eq_some_iff.mp h1).1 (fun hA => ?_)
      rw [hns q hA cell h1] at h2; cases h2)
    have hts2 := F2.1.2.2.2.2
    subst hs2
    exact th_0 (XC := fun E9 => E9 = E) F2 hl hcls hnames (hts2 _ hk) (hts2 _ hins) (hts2 _ hini) (hat s2 hts2 hT2) hex hsize d0 d3 d4 d7 hRf hRl (Nat.le_refl _) (Nat.le_refl _) rfl
  · obtain ⟨o, h1, h2, q, E9, ce, rfl, rfl, h3, h4, h5, h6, h7⟩ := hq
    have hT7 : T.sameButNew ({ t with vm := T.vm } : State) [] 1 6 := by
      obtain ⟨a1, a2, a3, a4, a5, a6⟩ := h7
      refine ⟨?_, a2, a3, a4, a5, a6⟩
      rw [State.setFrames_setFrames] at a1
      exact a1
    have h8 := hsame.trans (hT7.setVm s.vm)
    rw [List.append_nil] at h8
    have hz : H.size ≤ t.heap.size := by have := h7.2.1; rw [← hTH]; exact this
    have hkeep : ∀ i : Nat, i < H.size → t.heap[i]? = H[i]? := fun i hi => by
      obtain ⟨-, -, -, -, -, a6⟩ := hT7
      have hi' : i < T.heap.size := by rw [hTH]; exact hi
      obtain ⟨c9, e1, e2, e3, e4⟩ := a6 i _ (Array.getElem?_eq_getElem hi')
      have hs : c9.slots = (T.heap[i]).slots := Array.ext_getElem? fun j => e4 j (fun hm => by cases hm)
      have h9 : c9 = T.heap[i] := by rw [hs] at e2; exact e2
      have e5 : t.heap[i]? = some c9 := e1
      rw [e5, h9, ← Array.getElem?_eq_getElem hi', hTH]
    have hfc : s.vm.findClass E9 = some ce.cls := by
      have h9 : T.vm.findClass E9 = some ce.cls := h5
      rw [hWT.alike.findClass] at h9; exact h9
    exact ⟨_, h1, h2, q, ce, locs, rfl, h3, h4, hfc, State.WarmedH.trans hWT h6, hS.2.2, h8.mono hmc hms, ⟨Nat.le_trans hS.1 hz, fun q9 hq9 hA9 => (hkeep q9 (Nat.lt_of_lt_of_le hq9 hS.1)).trans (hS.2.1 q9 hq9 hA9)⟩, hP.more hkeep, hD⟩
/-- a virtual call of a method that throws behind writes -/
theorem yc_V {nL n : Nat} {own C E : String} {index : Nat} {y : MethodName} {bytes : ByteArray} {maxL : Nat} {ret : Option FieldType} {ws : List Cond} {rm : Room} {Pc : Array Value → State → Prop} {b : Addr} {As : List Value} {A1 : Nat → Prop}
    (S : CallFix p m c cc nL s args aW own) (hM : MetFree l y (headSpec ws rm) Pc (fun _ _ _ _ _ => True) (yQ G A1 w1 E mc ms)) (cw : CallW R s args own C index y bytes maxL ret ws rm mc ms n) (hp : PreV s H C b Pc As)
    (hn : As.length = n) (hsize : ls.size = nL) (hW : 2 * (F0 m pc ls rest).monitorRoom + (rest.map fun v => v.category).sum ≤ 8) (hdg : decode cc pc = .ok (.invokevirtual index, 3)) (hf : cells + mc ≤ R.cells ∧ slots + ms ≤ R.slots)
    (kk : ∀ (q : Addr) (ce : Cell) (H1 : Heap) (L : List Loc), H1[q]? = some ce → ce.vm = .none → s.vm.findClass E = some ce.cls → (∀ x ∈ L, A1 x.base) → H.size ≤ H1.size → (∀ i : Nat, i < H.size → ¬ A1 i → H1[i]? = H[i]?) → va_P G.1 vwCl w1 H1 → va_D A1 w1 → xW p l e R s m args below meth c H1 (locs ++ L) (cells + mc) (slots + ms) Q (F0 m pc ls rest) q) :
    W p l e R s m args below meth c H locs cells slots Q (F0 m pc ls (As.reverse ++ .ref b :: rest)) := by
  obtain ⟨⟨hrc, hrs, hfr, hlo, hws, hcw, hcode, hini, hy, hlen, hl⟩, hin, hse⟩ := cw
  obtain ⟨hx, hb, hml, ho, -⟩ := S
  obtain ⟨hbl, ⟨cellB, hcB, hoB, hclB⟩, hPc⟩ := hp
  subst hb
  intro T hT X
  obtain ⟨mk, methM, hnamed, hmethM, hstM, habM⟩ := Cond.instanceMethod_spec hin
  obtain ⟨methM', cM, hmethM', hcM, -, hlM, -, -, -, hsigM⟩ := Cond.code_spec hnamed hcode
  cases hmethM.symm.trans hmethM'
  obtain ⟨c2, r2, m2, q1, q2, q3, q4, kP, hkP, hkPi⟩ := Cond.selects_spec hse
  cases hclB.symm.trans q1
  cases (State.methodFound?_of_named hnamed hy).symm.trans q2
  cases hnamed.symm.trans q3
  have hselP : selectMethod e.platform s.vm cellB.cls mk = .method mk := by rw [Launch.admits_selectMethod X.admits]; exact q4
  obtain ⟨vm₁, X₁, hstep₁⟩ := X.invokevirtual hx ho hl hnamed hmethM hstM hkP hkPi hy (a := b) (cell := cellB) (by rw [hT]; exact hcB)
    (fun z h => by rw [h] at hoB; cases hoB) hselP hmethM habM hkP hkPi (g := F0 m pc ls (As.reverse ++ .ref b :: rest)) rfl (argsL := As) (rest := rest) (hn.trans (hlen _ hsigM)) rfl hdg
  have hn1 : (T.setVm vm₁).methodNamed? y = some mk := X₁.named hnamed
  have h2 : (Cond.code y bytes maxL ret).before (Value.ref b :: As).toArray (T.setVm vm₁) = true := hws _ hcw _ _ X₁.warmed
  have h3 : (Cond.initialized y.cls).before (Value.ref b :: As).toArray (T.setVm vm₁) = true := word_at X₁.warmed (Or.inl (by first | rfl | simp [Cond.onTables, Cond.keeps, Cond.steady])) hini
  obtain ⟨methY, cY, hmY, hcY, -, hlY, -, -, -, -⟩ := Cond.code_spec hn1 h2
  obtain ⟨kY, hkY, -⟩ := className_of_methodNamed hn1
  have hinitY : kY.init = .initialized := Cond.initialized_spec (findClass_of_methodNamed hn1) hkY h3
  have hW' : 2 * (F0 m pc ls rest).monitorRoom + ((F0 m pc ls rest).stack.map fun v => v.category).sum ≤ 8 := hW
  have happ : (headSpec ws rm).appliesLoose y e.platform ((T.setVm vm₁).calling (F0 m pc ls rest) mk (Value.ref b :: As).toArray) = true :=
    Spec.appliesLoose_calling (g := F0 m pc ls rest) X₁.here hdg hn1 hkY hinitY
      (X₁.room_calling (g := F0 m pc ls rest) (R' := (headSpec ws rm).room) (hsize.trans hml.symm) hmY hcY hfr (by rw [hlY]; show _ + rm.locals ≤ _; omega) (by show cells + rm.cells ≤ _; rw [hrc]; exact hf.1) (by show slots + rm.slots ≤ _; rw [hrs]; exact hf.2)) (atoms_intro fun w hw => hws w hw _ _ X₁.warmed)
  obtain ⟨g₀, hfr0⟩ := X₁.frames_eq
  have hfrm : ((T.setVm vm₁).setTop (F0 m pc ls rest)).frames = [.java (F0 m pc ls rest)] ++ below := by rw [State.frames_setTop _ hfr0]; rfl
  obtain ⟨o, s₂, hsteps, -, hend, hq⟩ := Steps.callFree hM p X₁.admits X₁.cas X₁.clock (acts := []) hfrm happ (hbl _ _ _ _ (hPc (T.setVm vm₁) hT X₁.warmed)) trivial
  obtain ⟨q, ce, L, rfl, hce, hcv, hcl, hW2, hL, hsm, hF, hP1, hD1⟩ := hq
  rw [hfrm] at hend
  obtain ⟨T', X', hTW, hTs, ht⟩ := X₁.outOfThrown (g := F0 m pc ls rest) rfl hend hW2 hsm
  have hheap : T'.heap = s₂.heap := by rw [ht]; exact (Stand.throwing_heap T' _ q).symm
  have hz : H.size ≤ T'.heap.size := by have h9 : T.heap.size ≤ T'.heap.size := hTs.2.1; rw [hT] at h9; exact h9
  have hkeep : ∀ i : Nat, i < H.size → ¬ A1 i → T'.heap[i]? = H[i]? := fun i hi hA => by
    have h9 := hF.2 i (show i < T.heap.size by rw [hT]; exact hi) hA
    rw [hheap, h9]
    show T.heap[i]? = _
    rw [hT]
  obtain ⟨t2, a1, b1⟩ := kk q ce T'.heap L (by rw [hheap]; exact hce) hcv (by
      have : (T.setVm vm₁).vm.findClass E = some ce.cls := hcl
      rw [X₁.warmed.alike.findClass] at this; exact this) hL hz hkeep (by rw [hheap]; exact hP1) hD1 T' rfl X'
  refine ⟨t2, hstep₁ _ (fun acts => ?_), b1⟩
  rw [doInvoke_state]
  rw [ht] at hsteps
  exact hsteps.trans a1
end YY2
