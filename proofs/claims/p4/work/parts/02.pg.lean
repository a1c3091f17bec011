/-! what is constant through a run: the classes' numbers, the array classes' numbers, the words of nest mates -/
abbrev PG : Type := va_G × (Nat → ClassId)
def pg_tys (G : PG) : List (ClassId × FieldType) := [(G.2 0, .int), (G.2 1, .long), (G.2 2, .char), (G.2 3, .boolean), (G.2 4, .object "PatternMatcher$Node"), (G.2 5, .object "PatternMatcher$Row")]
def pg_N (U : State) : Prop := ∀ w ∈ nxW, va_Nw w U
theorem nw_tab {w : Cond} (h : nwK w = true) : w.onTables = true := by
  cases w <;> first | rfl | exact absurd h (by simp [nwK])
theorem nw_warm {w : Cond} (hk : nwK w = true) {s U : State} (hW : s.WarmedH U.vm) (h : va_Nw w s) : va_Nw w U := by
  cases w <;> first | exact va_Nw.warmF hW h | exact va_Nw.warmM hW h | exact absurd hk (by simp [nwK])
theorem pg_N.warm {s U : State} (hW : s.WarmedH U.vm) (h : pg_N s) : pg_N U := fun w hw => nw_warm (List.mem_filter.mp hw).2 hW (h w hw)
theorem pg_N.same {u U : State} (e : u.vm = U.vm) (h : pg_N u) : pg_N U := fun w hw => va_Nw.same (nw_tab (List.mem_filter.mp hw).2) e (h w hw)
theorem pg_N.use {s : State} (h : pg_N s) {w : Cond} (hw : w ∈ nxW) {args : Array Value} : w.before args s = true := va_Nw.use (nw_tab (List.mem_filter.mp hw).2) (h w hw)
def pg_K (G : PG) (U : State) : Prop := va_K G.1 vwCl (pg_tys G) U ∧ pg_N U ∧ va_AO "PatternMatcher$Node" U ∧ va_AO "PatternMatcher$Row" U
theorem pg_K.warm {G : PG} {s U : State} (h : pg_K G s) (hW : s.WarmedH U.vm) : pg_K G U := ⟨va_K.moved hW.alike h.1, h.2.1.warm hW, h.2.2.1.moved hW.alike, h.2.2.2.moved hW.alike⟩
theorem pg_K.same {G : PG} {u U : State} (e : u.vm = U.vm) (h : pg_K G u) : pg_K G U := by
  have ha : u.vm.Alike U.vm := by rw [e]; exact Vm.Alike.refl _
  exact ⟨va_K.moved ha h.1, h.2.1.same e, h.2.2.1.moved ha, h.2.2.2.moved ha⟩
theorem ra_one {U : State} {a b : ClassId} {ty : FieldType} (h1 : va_RA U a ty) (h2 : va_RA U b ty) : a = b := by
  cases ty with
  | object C =>
    obtain ⟨_, _, _, _, _, h⟩ := h1
    obtain ⟨_, _, _, _, _, h'⟩ := h2
    exact Option.some.inj (h.symm.trans h')
  | _ => exact Option.some.inj (h1.symm.trans h2)
theorem pg_one {G : PG} {s : State} (hK : pg_K G s) {i : Nat} {ty : FieldType} (hi : (pg_tys G)[i]? = some (G.2 i, ty)) {cA : ClassId} {tys : List (ClassId × FieldType)} (h : va_K G.1 vwCl (tys ++ [(cA, ty)]) s) : cA = G.2 i := by
  have h1 := (h.2 tys.length (cA, ty) (by simp)).2
  exact ra_one h1 (hK.1.2 i _ hi).2
theorem aw_G {z : Cond} (hz : z ∈ aW) : GoodIn aW (z :: aW) := fun w h => by
  have hw : w ∈ aW := (List.mem_cons.mp h).elim (fun e => e ▸ hz) id
  exact ⟨hw, good_of_word (aw_good hw)⟩
theorem aw_GL {l : List Cond} (hl : ∀ w ∈ l, w ∈ aW) {z : Cond} (hz : z ∈ aW) : GoodIn aW (l ++ (z :: aW)) := fun w h => by
  have hw : w ∈ aW := (List.mem_append.mp h).elim (hl w) (fun h => (List.mem_cons.mp h).elim (fun e => e ▸ hz) id)
  exact ⟨hw, good_of_word (aw_good hw)⟩
theorem aw_V {own : String} {idx : Nat} {C : String} {y : MethodName} {z : Cond} (h1 : Cond.methodLink own idx y ∈ aW) (h2 : Cond.instanceMethod y ∈ aW) (h3 : Cond.selects C y y ∈ aW) (h4 : Cond.initialized C ∈ aW) (hz : z ∈ aW) : GoodIn aW (wsV own idx C y (z :: aW)) :=
  aw_GL (fun w h => by simp only [List.mem_cons, List.not_mem_nil, or_false] at h; rcases h with rfl | rfl | rfl | rfl <;> assumption) hz
theorem aw_S {own : String} {idx : Nat} {y : MethodName} {z : Cond} (h1 : Cond.methodLink own idx y ∈ aW) (h2 : Cond.static y ∈ aW) (h3 : Cond.initialized y.cls ∈ aW) (hz : z ∈ aW) : GoodIn aW (va_wsS own idx y (z :: aW)) :=
  aw_GL (fun w h => by simp only [List.mem_cons, List.not_mem_nil, or_false] at h; rcases h with rfl | rfl | rfl <;> assumption) hz
section PG1
variable {p : Program} {l : Launch} {e : Env} {R : Room} {s : State} {m : MethodId} {args : Array Value} {below : List Frame} {meth : Method} {c : Code} {H : Heap} {locs : List Loc} {cells slots : Nat} {Q : State → Prop} {G : PG} {A : Nat → Prop} {H0 : Heap} {ws : va_W} {cc : ByteArray} {pc : Nat} {ls : Array Slot} {rest : List Value}
theorem pg_newa (hexec : p.tables.exec = Jvm.exec) (hb : c.code = cc) {atype : ArrayType} (harr : (Cond.arrayClass (newarray.typeOf atype)).before args s = true) {ty : FieldType} (hty : newarray.typeOf atype = ty) (hK : pg_K G s) {i : Nat} (hi : (pg_tys G)[i]? = some (G.2 i, ty)) (hP : va_P G.1 vwCl ws H) (hD : va_D A ws) (hS : va_S A H0 H locs) (hA : ∀ q, H0.size ≤ q → A q)
    {n : Int32} {N' : Nat} {a0 : vp_A} (ha : ∀ cA : ClassId, vp_cell cA a0 = arrV cA N' (fun _ => defaultValue ty)) (hn : ¬ n < 0) (hN : n.toNatClampNeg = N') (hbytes : N' * componentBytes ty ≤ 536870912) (hcells : cells + 1 ≤ R.cells) (hslots : slots + N' ≤ R.slots) (hdg : decode cc pc = .ok (.newarray atype, 2))
    (kk : ∀ (q : Nat) (H1 : Heap), va_P G.1 vwCl (ws ++ [(q, .inl (G.2 i, a0))]) H1 → va_D A (ws ++ [(q, .inl (G.2 i, a0))]) → va_S A H0 H1 locs →
      W p l e R s m args below meth c H1 locs (cells + 1) (slots + N') Q (F0 m (pc + 2) ls (.ref q :: rest))) : W p l e R s m args below meth c H locs cells slots Q (F0 m pc ls (.int n :: rest)) := by
  refine va_newa (tys := pg_tys G) hexec hb harr hty hK.1 hP hD hS hA ha hn hN hbytes hcells hslots hdg (fun q cA H1 hK1 hP1 hD1 hS1 => ?_)
  obtain rfl := pg_one hK hi hK1
  exact kk q H1 hP1 hD1 hS1
theorem pg_newq (hexec : p.tables.exec = Jvm.exec) (hb : c.code = cc) {own C : String} {index : Nat} (hown : s.vm.findClass own = some m.cls) (hclink : (Cond.classLink own index C).before args s = true) (hover : va_AO C s) (hK : pg_K G s) {i : Nat} (hi : (pg_tys G)[i]? = some (G.2 i, .object C)) (hP : va_P G.1 vwCl ws H) (hD : va_D A ws) (hS : va_S A H0 H locs) (hA : ∀ q, H0.size ≤ q → A q)
    {n : Int32} {N' : Nat} (hn : ¬ n < 0) (hN : n.toNatClampNeg = N') (hbytes : N' * 4 ≤ 536870912) (hcells : cells + 1 ≤ R.cells) (hslots : slots + N' ≤ R.slots) (hdg : decode cc pc = .ok (.anewarray index, 3))
    (kk : ∀ (q : Nat) (H1 : Heap), va_P G.1 vwCl (ws ++ [(q, .inl (G.2 i, N', .inr (.inr (.inr (.inr (fun _ => none))))))]) H1 → va_D A (ws ++ [(q, .inl (G.2 i, N', .inr (.inr (.inr (.inr (fun _ => none))))))]) → va_S A H0 H1 locs →
      W p l e R s m args below meth c H1 locs (cells + 1) (slots + N') Q (F0 m (pc + 3) ls (.ref q :: rest))) : W p l e R s m args below meth c H locs cells slots Q (F0 m pc ls (.int n :: rest)) := by
  refine va_newq (tys := pg_tys G) hexec hb hown hclink hover hK.1 hP hD hS hA hn hN hbytes hcells hslots hdg (fun q cA H1 hK1 hP1 hD1 hS1 => ?_)
  obtain rfl := pg_one hK hi hK1
  exact kk q H1 hP1 hD1 hS1
end PG1
