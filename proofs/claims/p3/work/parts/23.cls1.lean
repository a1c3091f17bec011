/-! methods that change nothing and answer a value -/
def pQV (post : Value → Prop) : Array Value → State → Outcome → State → Prop := fun _ st oc t => (∃ v : Value, oc = .returned (some v) ∧ post v) ∧ t.heap = st.heap
def PV (l : Launch) (y : MethodName) (ws : List Cond) (rm : Room) (G : PG) (wc : va_W) (av : List Value) (post : Value → Prop) : Prop := ∀ sz, Met l y ws rm (cS G wc sz av) (pQV post) 0 0 (fun _ => False)
section PV1
variable {l : Launch} {y : MethodName} {ws : List Cond} {rm : Room} {G : PG} {wc : va_W} {av : List Value} {cc : ByteArray} {maxL : Nat} {ret : Option FieldType}
theorem ofPV {post : Value → Prop} (hy : plainName y.cls = true) (hw : ws = Cond.code y cc maxL ret :: aW)
    (body : ∀ (p : Program) (e : Env) (s : State) (m : MethodId) (below : List Frame) (meth : Method) (c : Code), bF p s m meth c cc maxL ret av.toArray y → pg_K G s → va_P G.1 vwCl wc s.heap → va_D (fun _ => True) wc →
      W p l e rm s m av.toArray below meth c s.heap [] 0 0 (MQ below (pQV post) av.toArray s 0 0 (fun _ => False)) (entryFrame m av.toArray maxL)) : PV l y ws rm G wc av post := by
  intro sz
  refine Met.ofW (cc := cc) (maxL := maxL) (ret := ret) hy hw ?_
  intro p e s m args below meth c s₁ B hml hv
  obtain ⟨rfl, hsz, hP, hD0, hK⟩ := hv
  exact body p e s m below meth c (bF_of hw B hml) hK hP hD0
end PV1
section PV2
variable {p : Program} {l : Launch} {e : Env} {R : Room} {s : State} {m : MethodId} {args : Array Value} {below : List Frame} {meth : Method} {c : Code} {H : Heap} {locs : List Loc} {cells slots : Nat} {Q : State → Prop} {pc maxL : Nat} {cc : ByteArray} {y : MethodName} {ls : Array Slot}
theorem en_V {post : Value → Prop} {ty : FieldType} (F : bF p s m meth c cc maxL (some ty) args y) (r : Int32) (hn : narrow ty (.int r) = .int r) (hp : post (.int r)) (hdg : decode cc pc = .ok (.ireturn, 1)) :
    W p l e R s m args below meth c s.heap [] 0 0 (MQ below (pQV post) args s 0 0 (fun _ => False)) (F0 m pc ls [.int r]) := by
  obtain ⟨⟨hx, hb, -⟩, hr, hk, -⟩ := F
  exact W.zret (v := r) (ty := ty) hx hb hr hn (fun t ht hW => ⟨⟨_, rfl, hp⟩, ht⟩) (fun _ h => by cases h) hdg (hlocks := hk)
theorem en_VL {post : Value → Prop} (F : bF p s m meth c cc maxL (some .long) args y) (r : Int64) (hp : post (.long r)) (hdg : decode cc pc = .ok (.lreturn, 1)) :
    W p l e R s m args below meth c s.heap [] 0 0 (MQ below (pQV post) args s 0 0 (fun _ => False)) (F0 m pc ls [.long r]) := by
  obtain ⟨⟨hx, hb, -⟩, hr, hk, -⟩ := F
  exact W.lret (v := r) hx hb hr (fun t ht hW => ⟨⟨_, rfl, hp⟩, ht⟩) (fun _ h => by cases h) hdg (hlocks := hk)
theorem en_VR {post : Value → Prop} {cn : String} (F : bF p s m meth c cc maxL (some (.object cn)) args y) (a : Nat) (hp : post (.ref a)) (hdg : decode cc pc = .ok (.areturn, 1)) :
    W p l e R s m args below meth c s.heap [] 0 0 (MQ below (pQV post) args s 0 0 (fun _ => False)) (F0 m pc ls [.ref a]) := by
  obtain ⟨⟨hx, hb, -⟩, hr, hk, -⟩ := F
  exact W.aret (v := .ref a) hx hb hr (Or.inl ⟨_, rfl⟩) (Or.inr ⟨_, rfl⟩) (fun t ht hW => ⟨⟨_, rfl, hp⟩, ht⟩) (fun _ h => by cases h) hdg (hlocks := hk)
theorem kp_V {post : Value → Prop} {st0 rest : List Value} {a : Array Value} (hr : va_Run p l e R s m args below meth c H locs cells slots 0 0 (F0 m pc ls st0) rest (pQV post a) (fun _ => False))
    (kk : ∀ v : Value, post v → W p l e R s m args below meth c H locs cells slots Q (F0 m (pc + 3) ls (v :: rest))) : W p l e R s m args below meth c H locs cells slots Q (F0 m pc ls st0) := by
  intro T hT X
  obtain ⟨v, st₀, t, T', L, h0, X', hL, e1, e2, ⟨⟨r, hv, hp⟩, hh⟩, st⟩ := hr T hT X
  cases hv
  have hLn : L = [] := by
    cases L with
    | nil => rfl
    | cons q L => exact (hL q List.mem_cons_self).elim
  subst hLn
  rw [List.append_nil] at X'
  obtain ⟨t2, a1, b1⟩ := kk r hp T' (e1.trans (hh.trans h0)) X'
  exact ⟨t2, st t2 a1, b1⟩
end PV2

theorem dX5_isDigit_0 : decode cX5_isDigit 0 = .ok (.iload_n 0, 1) := by decide +kernel
theorem dX5_isDigit_1 : decode cX5_isDigit 1 = .ok (.bipush 48, 2) := by decide +kernel
theorem dX5_isDigit_3 : decode cX5_isDigit 3 = .ok (.if_icmp .lt 13, 3) := by decide +kernel
theorem dX5_isDigit_6 : decode cX5_isDigit 6 = .ok (.iload_n 0, 1) := by decide +kernel
theorem dX5_isDigit_7 : decode cX5_isDigit 7 = .ok (.bipush 57, 2) := by decide +kernel
theorem dX5_isDigit_9 : decode cX5_isDigit 9 = .ok (.if_icmp .gt 7, 3) := by decide +kernel
theorem dX5_isDigit_12 : decode cX5_isDigit 12 = .ok (.iconst 1, 1) := by decide +kernel
theorem dX5_isDigit_13 : decode cX5_isDigit 13 = .ok (.goto 4, 3) := by decide +kernel
theorem dX5_isDigit_16 : decode cX5_isDigit 16 = .ok (.iconst 0, 1) := by decide +kernel
theorem dX5_isDigit_17 : decode cX5_isDigit 17 = .ok (.ireturn, 1) := by decide +kernel
def E_X5_isDigit (a1 : Int32) (r : Int32) : Prop := if a1 < 48 then (r = 0) else (if 57 < a1 then (r = 0) else (r = 1))
set_option maxHeartbeats 4000000 in
set_option maxRecDepth 100000 in
theorem e_X5_isDigit (l : Launch) (G : PG) (a1 : Int32) (r : Int32) (hE : E_X5_isDigit a1 r) : PV l yX5_isDigit (Cond.code yX5_isDigit cX5_isDigit 1 (some .boolean) :: aW) { frames := 0, cells := 0, slots := 0, locals := 0 } G [] [.int a1] (fun v => v = .int r) := by
  refine ofPV (y := yX5_isDigit) (G := G) (cc := cX5_isDigit) (maxL := 1) (ret := (some .boolean)) (by decide) rfl ?_
  intro p e s m below meth c F hK hP hD
  have hx := F.1.1; have hb := F.1.2.1; have hml := F.1.2.2.1; have hts := F.1.2.2.2.2
  have hown : s.vm.findClass RX5 = some m.cls := F.1.2.2.2.1
  have hl := lv_entry ([.int a1]) (n := 1) (Nat.le_of_ble_eq_true rfl)
  rw [lg_entry_eq]
  generalize (lg_sl ([.int a1]) ++ List.replicate (1 - (lg_sl ([.int a1])).length) Slot.unset).toArray = ls at hl ⊢
  have hl : lv_has ls 1 [(0, .int a1)] := hl
  unfold E_X5_isDigit at hE
  refine lv_iload_n hx hb dX5_isDigit_0 rfl (lv_at hl 0 rfl) ?_
  refine lv_bipush (v := 48) hx hb dX5_isDigit_1 (by decide) ?_
  refine lv_icmp_lt (tgt := 16) hx hb dX5_isDigit_3 (by decide) (fun h1 => ?_) (fun h1 => ?_)
  ·
    rw [if_pos h1] at hE
    refine lv_iconst (v := 0) hx hb dX5_isDigit_16 (by decide) ?_
    have hE := hE.symm; subst hE
    exact en_V F (ty := .boolean) 0 (by rfl) rfl dX5_isDigit_17
  ·
    rw [if_neg h1] at hE
    refine lv_iload_n hx hb dX5_isDigit_6 rfl (lv_at hl 0 rfl) ?_
    refine lv_bipush (v := 57) hx hb dX5_isDigit_7 (by decide) ?_
    refine lv_icmp_gt (tgt := 16) hx hb dX5_isDigit_9 (by decide) (fun h2 => ?_) (fun h2 => ?_)
    ·
      rw [if_pos h2] at hE
      refine lv_iconst (v := 0) hx hb dX5_isDigit_16 (by decide) ?_
      have hE := hE.symm; subst hE
      exact en_V F (ty := .boolean) 0 (by rfl) rfl dX5_isDigit_17
    ·
      rw [if_neg h2] at hE
      refine lv_iconst (v := 1) hx hb dX5_isDigit_12 (by decide) ?_
      refine lv_goto (tgt := 17) hx hb dX5_isDigit_13 (by decide) ?_
      have hE := hE.symm; subst hE
      exact en_V F (ty := .boolean) 1 (by rfl) rfl dX5_isDigit_17

theorem dX5_isIn_0 : decode cX5_isIn 0 = .ok (.iload_n 0, 1) := by decide +kernel
theorem dX5_isIn_1 : decode cX5_isIn 1 = .ok (.bipush 64, 2) := by decide +kernel
theorem dX5_isIn_3 : decode cX5_isIn 3 = .ok (.if_icmp .ge 7, 3) := by decide +kernel
theorem dX5_isIn_6 : decode cX5_isIn 6 = .ok (.lload_n 1, 1) := by decide +kernel
theorem dX5_isIn_7 : decode cX5_isIn 7 = .ok (.goto 4, 3) := by decide +kernel
theorem dX5_isIn_10 : decode cX5_isIn 10 = .ok (.lload_n 3, 1) := by decide +kernel
theorem dX5_isIn_11 : decode cX5_isIn 11 = .ok (.lstore 5, 2) := by decide +kernel
theorem dX5_isIn_13 : decode cX5_isIn 13 = .ok (.iload_n 0, 1) := by decide +kernel
theorem dX5_isIn_14 : decode cX5_isIn 14 = .ok (.sipush 128, 3) := by decide +kernel
theorem dX5_isIn_17 : decode cX5_isIn 17 = .ok (.if_icmp .ge 21, 3) := by decide +kernel
theorem dX5_isIn_20 : decode cX5_isIn 20 = .ok (.lload 5, 2) := by decide +kernel
theorem dX5_isIn_22 : decode cX5_isIn 22 = .ok (.iload_n 0, 1) := by decide +kernel
theorem dX5_isIn_23 : decode cX5_isIn 23 = .ok (.bipush 63, 2) := by decide +kernel
theorem dX5_isIn_25 : decode cX5_isIn 25 = .ok (.iand, 1) := by decide +kernel
theorem dX5_isIn_26 : decode cX5_isIn 26 = .ok (.lushr, 1) := by decide +kernel
theorem dX5_isIn_27 : decode cX5_isIn 27 = .ok (.lconst 1, 1) := by decide +kernel
theorem dX5_isIn_28 : decode cX5_isIn 28 = .ok (.land, 1) := by decide +kernel
theorem dX5_isIn_29 : decode cX5_isIn 29 = .ok (.lconst 0, 1) := by decide +kernel
theorem dX5_isIn_30 : decode cX5_isIn 30 = .ok (.lcmp, 1) := by decide +kernel
theorem dX5_isIn_31 : decode cX5_isIn 31 = .ok (.ifCond .eq 7, 3) := by decide +kernel
theorem dX5_isIn_34 : decode cX5_isIn 34 = .ok (.iconst 1, 1) := by decide +kernel
theorem dX5_isIn_35 : decode cX5_isIn 35 = .ok (.goto 4, 3) := by decide +kernel
theorem dX5_isIn_38 : decode cX5_isIn 38 = .ok (.iconst 0, 1) := by decide +kernel
theorem dX5_isIn_39 : decode cX5_isIn 39 = .ok (.ireturn, 1) := by decide +kernel
def E_X5_isIn (a1 : Int32) (a2 : Int64) (a3 : Int64) (r : Int32) : Prop := if 64 ≤ a1 then (if 128 ≤ a1 then (r = 0) else (if (lg_cmp ((a3.toUInt64 >>> ((a1 &&& 63).toInt64.toUInt64 &&& Int64.toUInt64 63)).toInt64 &&& 1) 0) = 0 then (r = 0) else (r = 1))) else (if 128 ≤ a1 then (r = 0) else (if (lg_cmp ((a2.toUInt64 >>> ((a1 &&& 63).toInt64.toUInt64 &&& Int64.toUInt64 63)).toInt64 &&& 1) 0) = 0 then (r = 0) else (r = 1)))
set_option maxHeartbeats 4000000 in
set_option maxRecDepth 100000 in
theorem e_X5_isIn (l : Launch) (G : PG) (a1 : Int32) (a2 : Int64) (a3 : Int64) (r : Int32) (hE : E_X5_isIn a1 a2 a3 r) : PV l yX5_isIn (Cond.code yX5_isIn cX5_isIn 7 (some .boolean) :: aW) { frames := 0, cells := 0, slots := 0, locals := 0 } G [] [.int a1, .long a2, .long a3] (fun v => v = .int r) := by
  refine ofPV (y := yX5_isIn) (G := G) (cc := cX5_isIn) (maxL := 7) (ret := (some .boolean)) (by decide) rfl ?_
  intro p e s m below meth c F hK hP hD
  have hx := F.1.1; have hb := F.1.2.1; have hml := F.1.2.2.1; have hts := F.1.2.2.2.2
  have hown : s.vm.findClass RX5 = some m.cls := F.1.2.2.2.1
  have hl := lv_entry ([.int a1, .long a2, .long a3]) (n := 7) (Nat.le_of_ble_eq_true rfl)
  rw [lg_entry_eq]
  generalize (lg_sl ([.int a1, .long a2, .long a3]) ++ List.replicate (7 - (lg_sl ([.int a1, .long a2, .long a3])).length) Slot.unset).toArray = ls at hl ⊢
  have hl : lv_has ls 7 [(0, .int a1), (1, .long a2), (3, .long a3)] := hl
  unfold E_X5_isIn at hE
  refine lv_iload_n hx hb dX5_isIn_0 rfl (lv_at hl 0 rfl) ?_
  refine lv_bipush (v := 64) hx hb dX5_isIn_1 (by decide) ?_
  refine lv_icmp_ge (tgt := 10) hx hb dX5_isIn_3 (by decide) (fun h1 => ?_) (fun h1 => ?_)
  ·
    rw [if_pos h1] at hE
    refine lv_lload_n hx hb dX5_isIn_10 rfl (lv_at hl 2 rfl) ?_
    refine lv_lstore hx hb dX5_isIn_11 hl (by decide) rfl (fun ls hl => ?_)
    have hl : lv_has ls 7 [(5, .long a3), (0, .int a1), (1, .long a2), (3, .long a3)] := hl
    refine lv_iload_n hx hb dX5_isIn_13 rfl (lv_at hl 1 rfl) ?_
    refine lv_sipush (v := 128) hx hb dX5_isIn_14 (by decide) ?_
    refine lv_icmp_ge (tgt := 38) hx hb dX5_isIn_17 (by decide) (fun h2 => ?_) (fun h2 => ?_)
    ·
      rw [if_pos h2] at hE
      refine lv_iconst (v := 0) hx hb dX5_isIn_38 (by decide) ?_
      have hE := hE.symm; subst hE
      exact en_V F (ty := .boolean) 0 (by rfl) rfl dX5_isIn_39
    ·
      rw [if_neg h2] at hE
      refine lv_lload hx hb dX5_isIn_20 (lv_at hl 0 rfl) ?_
      refine lv_iload_n hx hb dX5_isIn_22 rfl (lv_at hl 1 rfl) ?_
      refine lv_bipush (v := 63) hx hb dX5_isIn_23 (by decide) ?_
      refine lv_iand hx hb dX5_isIn_25 ?_
      refine lv_lushr (v := (a3.toUInt64 >>> ((a1 &&& 63).toInt64.toUInt64 &&& Int64.toUInt64 63)).toInt64) hx hb dX5_isIn_26 rfl ?_
      refine lv_lconst (v := 1) hx hb dX5_isIn_27 (by decide) ?_
      refine lv_land hx hb dX5_isIn_28 ?_
      refine lv_lconst (v := 0) hx hb dX5_isIn_29 (by decide) ?_
      refine W.lcmp hx hb dX5_isIn_30 ?_
      refine lv_if_eq (tgt := 38) hx hb dX5_isIn_31 (by decide) (fun h3 => ?_) (fun h3 => ?_)
      ·
        rw [if_pos h3] at hE
        refine lv_iconst (v := 0) hx hb dX5_isIn_38 (by decide) ?_
        have hE := hE.symm; subst hE
        exact en_V F (ty := .boolean) 0 (by rfl) rfl dX5_isIn_39
      ·
        rw [if_neg h3] at hE
        refine lv_iconst (v := 1) hx hb dX5_isIn_34 (by decide) ?_
        refine lv_goto (tgt := 39) hx hb dX5_isIn_35 (by decide) ?_
        have hE := hE.symm; subst hE
        exact en_V F (ty := .boolean) 1 (by rfl) rfl dX5_isIn_39
  ·
    rw [if_neg h1] at hE
    refine lv_lload_n hx hb dX5_isIn_6 rfl (lv_at hl 1 rfl) ?_
    refine lv_goto (tgt := 11) hx hb dX5_isIn_7 (by decide) ?_
    refine lv_lstore hx hb dX5_isIn_11 hl (by decide) rfl (fun ls hl => ?_)
    have hl : lv_has ls 7 [(5, .long a2), (0, .int a1), (1, .long a2), (3, .long a3)] := hl
    refine lv_iload_n hx hb dX5_isIn_13 rfl (lv_at hl 1 rfl) ?_
    refine lv_sipush (v := 128) hx hb dX5_isIn_14 (by decide) ?_
    refine lv_icmp_ge (tgt := 38) hx hb dX5_isIn_17 (by decide) (fun h4 => ?_) (fun h4 => ?_)
    ·
      rw [if_pos h4] at hE
      refine lv_iconst (v := 0) hx hb dX5_isIn_38 (by decide) ?_
      have hE := hE.symm; subst hE
      exact en_V F (ty := .boolean) 0 (by rfl) rfl dX5_isIn_39
    ·
      rw [if_neg h4] at hE
      refine lv_lload hx hb dX5_isIn_20 (lv_at hl 0 rfl) ?_
      refine lv_iload_n hx hb dX5_isIn_22 rfl (lv_at hl 1 rfl) ?_
      refine lv_bipush (v := 63) hx hb dX5_isIn_23 (by decide) ?_
      refine lv_iand hx hb dX5_isIn_25 ?_
      refine lv_lushr (v := (a2.toUInt64 >>> ((a1 &&& 63).toInt64.toUInt64 &&& Int64.toUInt64 63)).toInt64) hx hb dX5_isIn_26 rfl ?_
      refine lv_lconst (v := 1) hx hb dX5_isIn_27 (by decide) ?_
      refine lv_land hx hb dX5_isIn_28 ?_
      refine lv_lconst (v := 0) hx hb dX5_isIn_29 (by decide) ?_
      refine W.lcmp hx hb dX5_isIn_30 ?_
      refine lv_if_eq (tgt := 38) hx hb dX5_isIn_31 (by decide) (fun h5 => ?_) (fun h5 => ?_)
      ·
        rw [if_pos h5] at hE
        refine lv_iconst (v := 0) hx hb dX5_isIn_38 (by decide) ?_
        have hE := hE.symm; subst hE
        exact en_V F (ty := .boolean) 0 (by rfl) rfl dX5_isIn_39
      ·
        rw [if_neg h5] at hE
        refine lv_iconst (v := 1) hx hb dX5_isIn_34 (by decide) ?_
        refine lv_goto (tgt := 39) hx hb dX5_isIn_35 (by decide) ?_
        have hE := hE.symm; subst hE
        exact en_V F (ty := .boolean) 1 (by rfl) rfl dX5_isIn_39

theorem dX5_spanPlace_0 : decode cX5_spanPlace 0 = .ok (.lload_n 0, 1) := by decide +kernel
theorem dX5_spanPlace_1 : decode cX5_spanPlace 1 = .ok (.iload_n 2, 1) := by decide +kernel
theorem dX5_spanPlace_2 : decode cX5_spanPlace 2 = .ok (.iconst 1, 1) := by decide +kernel
theorem dX5_spanPlace_3 : decode cX5_spanPlace 3 = .ok (.isub, 1) := by decide +kernel
theorem dX5_spanPlace_4 : decode cX5_spanPlace 4 = .ok (.bipush 12, 2) := by decide +kernel
theorem dX5_spanPlace_6 : decode cX5_spanPlace 6 = .ok (.imul, 1) := by decide +kernel
theorem dX5_spanPlace_7 : decode cX5_spanPlace 7 = .ok (.iload_n 3, 1) := by decide +kernel
theorem dX5_spanPlace_8 : decode cX5_spanPlace 8 = .ok (.iadd, 1) := by decide +kernel
theorem dX5_spanPlace_9 : decode cX5_spanPlace 9 = .ok (.lushr, 1) := by decide +kernel
theorem dX5_spanPlace_10 : decode cX5_spanPlace 10 = .ok (.l2i, 1) := by decide +kernel
theorem dX5_spanPlace_11 : decode cX5_spanPlace 11 = .ok (.bipush 15, 2) := by decide +kernel
theorem dX5_spanPlace_13 : decode cX5_spanPlace 13 = .ok (.iand, 1) := by decide +kernel
theorem dX5_spanPlace_14 : decode cX5_spanPlace 14 = .ok (.istore 4, 2) := by decide +kernel
theorem dX5_spanPlace_16 : decode cX5_spanPlace 16 = .ok (.iload 4, 2) := by decide +kernel
theorem dX5_spanPlace_18 : decode cX5_spanPlace 18 = .ok (.bipush 15, 2) := by decide +kernel
theorem dX5_spanPlace_20 : decode cX5_spanPlace 20 = .ok (.if_icmp .ne 7, 3) := by decide +kernel
theorem dX5_spanPlace_23 : decode cX5_spanPlace 23 = .ok (.iconst (-1), 1) := by decide +kernel
theorem dX5_spanPlace_24 : decode cX5_spanPlace 24 = .ok (.goto 5, 3) := by decide +kernel
theorem dX5_spanPlace_27 : decode cX5_spanPlace 27 = .ok (.iload 4, 2) := by decide +kernel
theorem dX5_spanPlace_29 : decode cX5_spanPlace 29 = .ok (.ireturn, 1) := by decide +kernel
def E_X5_spanPlace (a1 : Int64) (a2 : Int32) (a3 : Int32) (r : Int32) : Prop := if (((a1.toUInt64 >>> ((((a2 - 1) * 12) + a3).toInt64.toUInt64 &&& Int64.toUInt64 63)).toInt64).toInt32 &&& 15) = 15 then (r = (-1)) else (r = (((a1.toUInt64 >>> ((((a2 - 1) * 12) + a3).toInt64.toUInt64 &&& Int64.toUInt64 63)).toInt64).toInt32 &&& 15))
set_option maxHeartbeats 4000000 in
set_option maxRecDepth 100000 in
theorem e_X5_spanPlace (l : Launch) (G : PG) (a1 : Int64) (a2 : Int32) (a3 : Int32) (r : Int32) (hE : E_X5_spanPlace a1 a2 a3 r) : PV l yX5_spanPlace (Cond.code yX5_spanPlace cX5_spanPlace 5 (some .int) :: aW) { frames := 0, cells := 0, slots := 0, locals := 0 } G [] [.long a1, .int a2, .int a3] (fun v => v = .int r) := by
  refine ofPV (y := yX5_spanPlace) (G := G) (cc := cX5_spanPlace) (maxL := 5) (ret := (some .int)) (by decide) rfl ?_
  intro p e s m below meth c F hK hP hD
  have hx := F.1.1; have hb := F.1.2.1; have hml := F.1.2.2.1; have hts := F.1.2.2.2.2
  have hown : s.vm.findClass RX5 = some m.cls := F.1.2.2.2.1
  have hl := lv_entry ([.long a1, .int a2, .int a3]) (n := 5) (Nat.le_of_ble_eq_true rfl)
  rw [lg_entry_eq]
  generalize (lg_sl ([.long a1, .int a2, .int a3]) ++ List.replicate (5 - (lg_sl ([.long a1, .int a2, .int a3])).length) Slot.unset).toArray = ls at hl ⊢
  have hl : lv_has ls 5 [(0, .long a1), (2, .int a2), (3, .int a3)] := hl
  unfold E_X5_spanPlace at hE
  refine lv_lload_n hx hb dX5_spanPlace_0 rfl (lv_at hl 0 rfl) ?_
  refine lv_iload_n hx hb dX5_spanPlace_1 rfl (lv_at hl 1 rfl) ?_
  refine lv_iconst (v := 1) hx hb dX5_spanPlace_2 (by decide) ?_
  refine lv_isub hx hb dX5_spanPlace_3 ?_
  refine lv_bipush (v := 12) hx hb dX5_spanPlace_4 (by decide) ?_
  refine lv_imul hx hb dX5_spanPlace_6 ?_
  refine lv_iload_n hx hb dX5_spanPlace_7 rfl (lv_at hl 2 rfl) ?_
  refine lv_iadd hx hb dX5_spanPlace_8 ?_
  refine lv_lushr (v := (a1.toUInt64 >>> ((((a2 - 1) * 12) + a3).toInt64.toUInt64 &&& Int64.toUInt64 63)).toInt64) hx hb dX5_spanPlace_9 rfl ?_
  refine lv_l2i (v := ((a1.toUInt64 >>> ((((a2 - 1) * 12) + a3).toInt64.toUInt64 &&& Int64.toUInt64 63)).toInt64).toInt32) hx hb dX5_spanPlace_10 rfl ?_
  refine lv_bipush (v := 15) hx hb dX5_spanPlace_11 (by decide) ?_
  refine lv_iand hx hb dX5_spanPlace_13 ?_
  refine lv_istore hx hb dX5_spanPlace_14 hl (by decide) rfl (fun ls hl => ?_)
  have hl : lv_has ls 5 [(4, .int (((a1.toUInt64 >>> ((((a2 - 1) * 12) + a3).toInt64.toUInt64 &&& Int64.toUInt64 63)).toInt64).toInt32 &&& 15)), (0, .long a1), (2, .int a2), (3, .int a3)] := hl
  refine lv_iload hx hb dX5_spanPlace_16 (lv_at hl 0 rfl) ?_
  refine lv_bipush (v := 15) hx hb dX5_spanPlace_18 (by decide) ?_
  refine lv_icmp_ne (tgt := 27) hx hb dX5_spanPlace_20 (by decide) (fun h1 => ?_) (fun h1 => ?_)
  ·
    rw [if_neg h1] at hE
    refine lv_iload hx hb dX5_spanPlace_27 (lv_at hl 0 rfl) ?_
    have hE := hE.symm; subst hE
    exact en_V F (ty := .int) (((a1.toUInt64 >>> ((((a2 - 1) * 12) + a3).toInt64.toUInt64 &&& Int64.toUInt64 63)).toInt64).toInt32 &&& 15) (by rfl) rfl dX5_spanPlace_29
  ·
    rw [if_pos h1] at hE
    refine lv_iconst (v := (-1)) hx hb dX5_spanPlace_23 (by decide) ?_
    refine lv_goto (tgt := 29) hx hb dX5_spanPlace_24 (by decide) ?_
    have hE := hE.symm; subst hE
    exact en_V F (ty := .int) (-1) (by rfl) rfl dX5_spanPlace_29

theorem dX5_spanOpened_0 : decode cX5_spanOpened 0 = .ok (.iload_n 2, 1) := by decide +kernel
theorem dX5_spanOpened_1 : decode cX5_spanOpened 1 = .ok (.iconst 1, 1) := by decide +kernel
theorem dX5_spanOpened_2 : decode cX5_spanOpened 2 = .ok (.isub, 1) := by decide +kernel
theorem dX5_spanOpened_3 : decode cX5_spanOpened 3 = .ok (.bipush 12, 2) := by decide +kernel
theorem dX5_spanOpened_5 : decode cX5_spanOpened 5 = .ok (.imul, 1) := by decide +kernel
theorem dX5_spanOpened_6 : decode cX5_spanOpened 6 = .ok (.bipush 8, 2) := by decide +kernel
theorem dX5_spanOpened_8 : decode cX5_spanOpened 8 = .ok (.iadd, 1) := by decide +kernel
theorem dX5_spanOpened_9 : decode cX5_spanOpened 9 = .ok (.istore 4, 2) := by decide +kernel
theorem dX5_spanOpened_11 : decode cX5_spanOpened 11 = .ok (.lload_n 0, 1) := by decide +kernel
theorem dX5_spanOpened_12 : decode cX5_spanOpened 12 = .ok (.ldc2_w 167, 3) := by decide +kernel
theorem dX5_spanOpened_15 : decode cX5_spanOpened 15 = .ok (.iload 4, 2) := by decide +kernel
theorem dX5_spanOpened_17 : decode cX5_spanOpened 17 = .ok (.lshl, 1) := by decide +kernel
theorem dX5_spanOpened_18 : decode cX5_spanOpened 18 = .ok (.ldc2_w 169, 3) := by decide +kernel
theorem dX5_spanOpened_21 : decode cX5_spanOpened 21 = .ok (.lxor, 1) := by decide +kernel
theorem dX5_spanOpened_22 : decode cX5_spanOpened 22 = .ok (.land, 1) := by decide +kernel
theorem dX5_spanOpened_23 : decode cX5_spanOpened 23 = .ok (.iload_n 3, 1) := by decide +kernel
theorem dX5_spanOpened_24 : decode cX5_spanOpened 24 = .ok (.i2l, 1) := by decide +kernel
theorem dX5_spanOpened_25 : decode cX5_spanOpened 25 = .ok (.iload 4, 2) := by decide +kernel
theorem dX5_spanOpened_27 : decode cX5_spanOpened 27 = .ok (.lshl, 1) := by decide +kernel
theorem dX5_spanOpened_28 : decode cX5_spanOpened 28 = .ok (.lor, 1) := by decide +kernel
theorem dX5_spanOpened_29 : decode cX5_spanOpened 29 = .ok (.lreturn, 1) := by decide +kernel
def E_X5_spanOpened (a1 : Int64) (a2 : Int32) (a3 : Int32) (r : Int64) : Prop := r = ((a1 &&& (((15 : Int64) <<< ((((a2 - 1) * 12) + 8).toInt64 &&& 63)) ^^^ (-1))) ||| (a3.toInt64 <<< ((((a2 - 1) * 12) + 8).toInt64 &&& 63)))
set_option maxHeartbeats 4000000 in
set_option maxRecDepth 100000 in
theorem e_X5_spanOpened (l : Launch) (G : PG) (a1 : Int64) (a2 : Int32) (a3 : Int32) (r : Int64) (hE : E_X5_spanOpened a1 a2 a3 r) : PV l yX5_spanOpened (Cond.code yX5_spanOpened cX5_spanOpened 5 (some .long) :: aW) { frames := 0, cells := 0, slots := 0, locals := 0 } G [] [.long a1, .int a2, .int a3] (fun v => v = .long r) := by
  refine ofPV (y := yX5_spanOpened) (G := G) (cc := cX5_spanOpened) (maxL := 5) (ret := (some .long)) (by decide) rfl ?_
  intro p e s m below meth c F hK hP hD
  have hx := F.1.1; have hb := F.1.2.1; have hml := F.1.2.2.1; have hts := F.1.2.2.2.2
  have hown : s.vm.findClass RX5 = some m.cls := F.1.2.2.2.1
  have hl := lv_entry ([.long a1, .int a2, .int a3]) (n := 5) (Nat.le_of_ble_eq_true rfl)
  rw [lg_entry_eq]
  generalize (lg_sl ([.long a1, .int a2, .int a3]) ++ List.replicate (5 - (lg_sl ([.long a1, .int a2, .int a3])).length) Slot.unset).toArray = ls at hl ⊢
  have hl : lv_has ls 5 [(0, .long a1), (2, .int a2), (3, .int a3)] := hl
  unfold E_X5_spanOpened at hE
  refine lv_iload_n hx hb dX5_spanOpened_0 rfl (lv_at hl 1 rfl) ?_
  refine lv_iconst (v := 1) hx hb dX5_spanOpened_1 (by decide) ?_
  refine lv_isub hx hb dX5_spanOpened_2 ?_
  refine lv_bipush (v := 12) hx hb dX5_spanOpened_3 (by decide) ?_
  refine lv_imul hx hb dX5_spanOpened_5 ?_
  refine lv_bipush (v := 8) hx hb dX5_spanOpened_6 (by decide) ?_
  refine lv_iadd hx hb dX5_spanOpened_8 ?_
  refine lv_istore hx hb dX5_spanOpened_9 hl (by decide) rfl (fun ls hl => ?_)
  have hl : lv_has ls 5 [(4, .int (((a2 - 1) * 12) + 8)), (0, .long a1), (2, .int a2), (3, .int a3)] := hl
  refine lv_lload_n hx hb dX5_spanOpened_11 rfl (lv_at hl 1 rfl) ?_
  refine lv_ldc2 (v := 15) hx hb hown (hts _ w_678) dX5_spanOpened_12 ?_
  refine lv_iload hx hb dX5_spanOpened_15 (lv_at hl 0 rfl) ?_
  refine lv_lshl (v := ((15 : Int64) <<< ((((a2 - 1) * 12) + 8).toInt64 &&& 63))) hx hb dX5_spanOpened_17 rfl ?_
  refine lv_ldc2 (v := (-1)) hx hb hown (hts _ w_679) dX5_spanOpened_18 ?_
  refine lv_lxor hx hb dX5_spanOpened_21 ?_
  refine lv_land hx hb dX5_spanOpened_22 ?_
  refine lv_iload_n hx hb dX5_spanOpened_23 rfl (lv_at hl 3 rfl) ?_
  refine lv_i2l (v := a3.toInt64) hx hb dX5_spanOpened_24 rfl ?_
  refine lv_iload hx hb dX5_spanOpened_25 (lv_at hl 0 rfl) ?_
  refine lv_lshl (v := (a3.toInt64 <<< ((((a2 - 1) * 12) + 8).toInt64 &&& 63))) hx hb dX5_spanOpened_27 rfl ?_
  refine lv_lor hx hb dX5_spanOpened_28 ?_
  have hE := hE.symm; subst hE
  exact en_VL F ((a1 &&& (((15 : Int64) <<< ((((a2 - 1) * 12) + 8).toInt64 &&& 63)) ^^^ (-1))) ||| (a3.toInt64 <<< ((((a2 - 1) * 12) + 8).toInt64 &&& 63))) rfl dX5_spanOpened_29

theorem dX5_spanClosed_0 : decode cX5_spanClosed 0 = .ok (.iload_n 2, 1) := by decide +kernel
theorem dX5_spanClosed_1 : decode cX5_spanClosed 1 = .ok (.iconst 1, 1) := by decide +kernel
theorem dX5_spanClosed_2 : decode cX5_spanClosed 2 = .ok (.isub, 1) := by decide +kernel
theorem dX5_spanClosed_3 : decode cX5_spanClosed 3 = .ok (.bipush 12, 2) := by decide +kernel
theorem dX5_spanClosed_5 : decode cX5_spanClosed 5 = .ok (.imul, 1) := by decide +kernel
theorem dX5_spanClosed_6 : decode cX5_spanClosed 6 = .ok (.istore 4, 2) := by decide +kernel
theorem dX5_spanClosed_8 : decode cX5_spanClosed 8 = .ok (.iload_n 3, 1) := by decide +kernel
theorem dX5_spanClosed_9 : decode cX5_spanClosed 9 = .ok (.i2l, 1) := by decide +kernel
theorem dX5_spanClosed_10 : decode cX5_spanClosed 10 = .ok (.iconst 4, 1) := by decide +kernel
theorem dX5_spanClosed_11 : decode cX5_spanClosed 11 = .ok (.lshl, 1) := by decide +kernel
theorem dX5_spanClosed_12 : decode cX5_spanClosed 12 = .ok (.lload_n 0, 1) := by decide +kernel
theorem dX5_spanClosed_13 : decode cX5_spanClosed 13 = .ok (.iload_n 2, 1) := by decide +kernel
theorem dX5_spanClosed_14 : decode cX5_spanClosed 14 = .ok (.bipush 8, 2) := by decide +kernel
theorem dX5_spanClosed_16 : decode cX5_spanClosed 16 = .ok (.invokestatic 160, 3) := by decide +kernel
theorem dX5_spanClosed_19 : decode cX5_spanClosed 19 = .ok (.i2l, 1) := by decide +kernel
theorem dX5_spanClosed_20 : decode cX5_spanClosed 20 = .ok (.lor, 1) := by decide +kernel
theorem dX5_spanClosed_21 : decode cX5_spanClosed 21 = .ok (.lstore 5, 2) := by decide +kernel
theorem dX5_spanClosed_23 : decode cX5_spanClosed 23 = .ok (.lload_n 0, 1) := by decide +kernel
theorem dX5_spanClosed_24 : decode cX5_spanClosed 24 = .ok (.ldc2_w 171, 3) := by decide +kernel
theorem dX5_spanClosed_27 : decode cX5_spanClosed 27 = .ok (.iload 4, 2) := by decide +kernel
theorem dX5_spanClosed_29 : decode cX5_spanClosed 29 = .ok (.lshl, 1) := by decide +kernel
theorem dX5_spanClosed_30 : decode cX5_spanClosed 30 = .ok (.ldc2_w 169, 3) := by decide +kernel
theorem dX5_spanClosed_33 : decode cX5_spanClosed 33 = .ok (.lxor, 1) := by decide +kernel
theorem dX5_spanClosed_34 : decode cX5_spanClosed 34 = .ok (.land, 1) := by decide +kernel
theorem dX5_spanClosed_35 : decode cX5_spanClosed 35 = .ok (.lload 5, 2) := by decide +kernel
theorem dX5_spanClosed_37 : decode cX5_spanClosed 37 = .ok (.iload 4, 2) := by decide +kernel
theorem dX5_spanClosed_39 : decode cX5_spanClosed 39 = .ok (.lshl, 1) := by decide +kernel
theorem dX5_spanClosed_40 : decode cX5_spanClosed 40 = .ok (.lor, 1) := by decide +kernel
theorem dX5_spanClosed_41 : decode cX5_spanClosed 41 = .ok (.lreturn, 1) := by decide +kernel
def E_X5_spanClosed (a1 : Int64) (a2 : Int32) (a3 : Int32) (r : Int64) : Prop := ∃ r1 : Int32, E_X5_spanPlace a1 a2 8 r1 ∧ (r = ((a1 &&& (((4095 : Int64) <<< (((a2 - 1) * 12).toInt64 &&& 63)) ^^^ (-1))) ||| (((a3.toInt64 <<< ((4 : Int32).toInt64 &&& 63)) ||| r1.toInt64) <<< (((a2 - 1) * 12).toInt64 &&& 63))))
set_option maxHeartbeats 4000000 in
set_option maxRecDepth 100000 in
theorem e_X5_spanClosed (l : Launch) (G : PG) (a1 : Int64) (a2 : Int32) (a3 : Int32) (r : Int64) (hE : E_X5_spanClosed a1 a2 a3 r) : PV l yX5_spanClosed (Cond.code yX5_spanClosed cX5_spanClosed 7 (some .long) :: aW) { frames := 1, cells := 0, slots := 0, locals := 24 } G [] [.long a1, .int a2, .int a3] (fun v => v = .long r) := by
  refine ofPV (y := yX5_spanClosed) (G := G) (cc := cX5_spanClosed) (maxL := 7) (ret := (some .long)) (by decide) rfl ?_
  intro p e s m below meth c F hK hP hD
  have hx := F.1.1; have hb := F.1.2.1; have hml := F.1.2.2.1; have hts := F.1.2.2.2.2
  have hown : s.vm.findClass RX5 = some m.cls := F.1.2.2.2.1
  have hl := lv_entry ([.long a1, .int a2, .int a3]) (n := 7) (Nat.le_of_ble_eq_true rfl)
  rw [lg_entry_eq]
  generalize (lg_sl ([.long a1, .int a2, .int a3]) ++ List.replicate (7 - (lg_sl ([.long a1, .int a2, .int a3])).length) Slot.unset).toArray = ls at hl ⊢
  have hl : lv_has ls 7 [(0, .long a1), (2, .int a2), (3, .int a3)] := hl
  unfold E_X5_spanClosed at hE
  refine lv_iload_n hx hb dX5_spanClosed_0 rfl (lv_at hl 1 rfl) ?_
  refine lv_iconst (v := 1) hx hb dX5_spanClosed_1 (by decide) ?_
  refine lv_isub hx hb dX5_spanClosed_2 ?_
  refine lv_bipush (v := 12) hx hb dX5_spanClosed_3 (by decide) ?_
  refine lv_imul hx hb dX5_spanClosed_5 ?_
  refine lv_istore hx hb dX5_spanClosed_6 hl (by decide) rfl (fun ls hl => ?_)
  have hl : lv_has ls 7 [(4, .int ((a2 - 1) * 12)), (0, .long a1), (2, .int a2), (3, .int a3)] := hl
  refine lv_iload_n hx hb dX5_spanClosed_8 rfl (lv_at hl 3 rfl) ?_
  refine lv_i2l (v := a3.toInt64) hx hb dX5_spanClosed_9 rfl ?_
  refine lv_iconst (v := 4) hx hb dX5_spanClosed_10 (by decide) ?_
  refine lv_lshl (v := (a3.toInt64 <<< ((4 : Int32).toInt64 &&& 63))) hx hb dX5_spanClosed_11 rfl ?_
  refine lv_lload_n hx hb dX5_spanClosed_12 rfl (lv_at hl 1 rfl) ?_
  refine lv_iload_n hx hb dX5_spanClosed_13 rfl (lv_at hl 2 rfl) ?_
  refine lv_bipush (v := 8) hx hb dX5_spanClosed_14 (by decide) ?_
  obtain ⟨r1, hg, hE⟩ := hE
  refine kp_V (va_runS (As := [.long a1, .int a2, .int 8]) (rest := [.long (a3.toInt64 <<< ((4 : Int32).toInt64 &&& 63))]) F.1 (e_X5_spanPlace l G a1 a2 8 r1 hg _) (va_cwS 3 hts (aw_S w_683 w_673 w_1 w_674) rfl rfl rfl (by decide +kernel) ⟨by decide, by decide⟩) ⟨cS_blind, cS_pre va_P0 (va_D0 (A := fun _ => True)) hK⟩ rfl rfl hl.1 rfl (lv_room (Nat.le_of_ble_eq_true rfl)) dX5_spanClosed_16 ⟨Nat.le_refl _, Nat.le_refl _⟩) (fun v9 hp => ?_)
  subst hp
  refine lv_i2l (v := r1.toInt64) hx hb dX5_spanClosed_19 rfl ?_
  refine lv_lor hx hb dX5_spanClosed_20 ?_
  refine lv_lstore hx hb dX5_spanClosed_21 hl (by decide) rfl (fun ls hl => ?_)
  have hl : lv_has ls 7 [(5, .long ((a3.toInt64 <<< ((4 : Int32).toInt64 &&& 63)) ||| r1.toInt64)), (4, .int ((a2 - 1) * 12)), (0, .long a1), (2, .int a2), (3, .int a3)] := hl
  refine lv_lload_n hx hb dX5_spanClosed_23 rfl (lv_at hl 2 rfl) ?_
  refine lv_ldc2 (v := 4095) hx hb hown (hts _ w_684) dX5_spanClosed_24 ?_
  refine lv_iload hx hb dX5_spanClosed_27 (lv_at hl 1 rfl) ?_
  refine lv_lshl (v := ((4095 : Int64) <<< (((a2 - 1) * 12).toInt64 &&& 63))) hx hb dX5_spanClosed_29 rfl ?_
  refine lv_ldc2 (v := (-1)) hx hb hown (hts _ w_679) dX5_spanClosed_30 ?_
  refine lv_lxor hx hb dX5_spanClosed_33 ?_
  refine lv_land hx hb dX5_spanClosed_34 ?_
  refine lv_lload hx hb dX5_spanClosed_35 (lv_at hl 0 rfl) ?_
  refine lv_iload hx hb dX5_spanClosed_37 (lv_at hl 1 rfl) ?_
  refine lv_lshl (v := (((a3.toInt64 <<< ((4 : Int32).toInt64 &&& 63)) ||| r1.toInt64) <<< (((a2 - 1) * 12).toInt64 &&& 63))) hx hb dX5_spanClosed_39 rfl ?_
  refine lv_lor hx hb dX5_spanClosed_40 ?_
  have hE := hE.symm; subst hE
  exact en_VL F ((a1 &&& (((4095 : Int64) <<< (((a2 - 1) * 12).toInt64 &&& 63)) ^^^ (-1))) ||| (((a3.toInt64 <<< ((4 : Int32).toInt64 &&& 63)) ||| r1.toInt64) <<< (((a2 - 1) * 12).toInt64 &&& 63))) rfl dX5_spanClosed_41

theorem dX4_isWord_0 : decode cX4_isWord 0 = .ok (.iload_n 0, 1) := by decide +kernel
theorem dX4_isWord_1 : decode cX4_isWord 1 = .ok (.ldc2_w 170, 3) := by decide +kernel
theorem dX4_isWord_4 : decode cX4_isWord 4 = .ok (.ldc2_w 172, 3) := by decide +kernel
theorem dX4_isWord_7 : decode cX4_isWord 7 = .ok (.invokestatic 154, 3) := by decide +kernel
theorem dX4_isWord_10 : decode cX4_isWord 10 = .ok (.ireturn, 1) := by decide +kernel
def E_X4_isWord (a1 : Int32) (r : Int32) : Prop := ∃ r1 : Int32, E_X5_isIn a1 287948901175001088 576460745995190270 r1 ∧ (narrow .boolean (.int r1) = .int r1 ∧ r = r1)
set_option maxHeartbeats 4000000 in
set_option maxRecDepth 100000 in
theorem e_X4_isWord (l : Launch) (G : PG) (a1 : Int32) (r : Int32) (hE : E_X4_isWord a1 r) : PV l yX4_isWord (Cond.code yX4_isWord cX4_isWord 1 (some .boolean) :: aW) { frames := 1, cells := 0, slots := 0, locals := 26 } G [] [.int a1] (fun v => v = .int r) := by
  refine ofPV (y := yX4_isWord) (G := G) (cc := cX4_isWord) (maxL := 1) (ret := (some .boolean)) (by decide) rfl ?_
  intro p e s m below meth c F hK hP hD
  have hx := F.1.1; have hb := F.1.2.1; have hml := F.1.2.2.1; have hts := F.1.2.2.2.2
  have hown : s.vm.findClass RX4 = some m.cls := F.1.2.2.2.1
  have hl := lv_entry ([.int a1]) (n := 1) (Nat.le_of_ble_eq_true rfl)
  rw [lg_entry_eq]
  generalize (lg_sl ([.int a1]) ++ List.replicate (1 - (lg_sl ([.int a1])).length) Slot.unset).toArray = ls at hl ⊢
  have hl : lv_has ls 1 [(0, .int a1)] := hl
  unfold E_X4_isWord at hE
  refine lv_iload_n hx hb dX4_isWord_0 rfl (lv_at hl 0 rfl) ?_
  refine lv_ldc2 (v := 287948901175001088) hx hb hown (hts _ w_666) dX4_isWord_1 ?_
  refine lv_ldc2 (v := 576460745995190270) hx hb hown (hts _ w_667) dX4_isWord_4 ?_
  obtain ⟨r1, hg, hE⟩ := hE
  refine kp_V (va_runSN (As := [.int a1, .long 287948901175001088, .long 576460745995190270]) (rest := []) F.1 (e_X5_isIn l G a1 287948901175001088 576460745995190270 r1 hg _) (⟨va_cnB 3 hts (aw_G w_653) rfl rfl rfl (hK.2.1 _ w_651) (hts _ w_1) (by decide +kernel) ⟨by decide, by decide⟩, hts _ w_652, trivial⟩) ⟨cS_blind, cS_pre va_P0 (va_D0 (A := fun _ => True)) hK⟩ rfl rfl hl.1 rfl (lv_room (Nat.le_of_ble_eq_true rfl)) dX4_isWord_7 ⟨Nat.le_refl _, Nat.le_refl _⟩) (fun v9 hp => ?_)
  subst hp
  obtain ⟨hn, hE⟩ := hE
  have hE := hE.symm; subst hE
  exact en_V F (ty := .boolean) r1 hn rfl dX4_isWord_10


set_option maxHeartbeats 4000000 in
set_option maxRecDepth 100000 in
theorem v_row_size (l : Launch) (G : PG) (h a n : Nat) (k : Int32) (f : Nat → Int32) : PV l yX3_size (Cond.code yX3_size cX3_size 1 (some .int) :: aW) { frames := 0, cells := 0, slots := 0, locals := 0 } G [(h, .inr (3, [.ref a, .int k])), (a, .inl (G.2 2, n, .inl f))] [.ref h] (fun v9 => v9 = .int k) := by
  refine ofPV (y := yX3_size) (G := G) (cc := cX3_size) (maxL := 1) (ret := (some .int)) (by decide) rfl ?_
  intro p e s m below meth c F hK hP hD
  have hx := F.1.1; have hb := F.1.2.1; have hml := F.1.2.2.1; have hts := F.1.2.2.2.2
  have hown : s.vm.findClass RX3 = some m.cls := F.1.2.2.2.1
  have hl := lv_entry ([.ref h]) (n := 1) (Nat.le_of_ble_eq_true rfl)
  rw [lg_entry_eq]
  generalize (lg_sl ([.ref h]) ++ List.replicate (1 - (lg_sl ([.ref h])).length) Slot.unset).toArray = ls at hl ⊢
  have hl : lv_has ls 1 [(0, .ref h)] := hl
  refine lv_aload_n hx hb dX3_size_0 rfl (lv_at hl 0 rfl) ?_
  refine va_get (D := G.1) (ci := 3) (v := .int k) (C := RX3) (T := TX3) (N := 2) hx hb hts inX3 hown hK.1 hP 0 rfl rfl 1 (by decide) (hts _ w_41) (fun _ h9 => h9) rfl dX3_size_1 ?_
  exact en_V F (ty := .int) k (by rfl) rfl dX3_size_4


set_option maxHeartbeats 4000000 in
set_option maxRecDepth 100000 in
theorem v_row_at (l : Launch) (G : PG) (h a n j : Nat) (f : Nat → Int32) (i : Int32) (hj : j ≤ n) (hn : n < 2147483648) (hf : ∀ k, narrow .char (.int (f k)) = .int (f k)) : PV l yX3_at (Cond.code yX3_at cX3_at 2 (some .char) :: aW) { frames := 0, cells := 0, slots := 0, locals := 0 } G [(h, .inr (3, [.ref a, .int (nI j)])), (a, .inl (G.2 2, n, .inl f))] [.ref h, .int i] (fun v9 => v9 = .int (rw_at j f i)) := by
  refine ofPV (y := yX3_at) (G := G) (cc := cX3_at) (maxL := 2) (ret := (some .char)) (by decide) rfl ?_
  intro p e s m below meth c F hK hP hD
  have hx := F.1.1; have hb := F.1.2.1; have hml := F.1.2.2.1; have hts := F.1.2.2.2.2
  have hown : s.vm.findClass RX3 = some m.cls := F.1.2.2.2.1
  have hl := lv_entry ([.ref h, .int i]) (n := 2) (Nat.le_of_ble_eq_true rfl)
  rw [lg_entry_eq]
  generalize (lg_sl ([.ref h, .int i]) ++ List.replicate (2 - (lg_sl ([.ref h, .int i])).length) Slot.unset).toArray = ls at hl ⊢
  have hl : lv_has ls 2 [(0, .ref h), (1, .int i)] := hl
  refine lv_iload_n hx hb dX3_at_0 rfl (lv_at hl 1 rfl) ?_
  refine lv_if_lt (tgt := 12) hx hb dX3_at_1 (by decide) (fun h1 => ?_) (fun h1 => ?_)
  ·
    refine lv_iconst (v := 0) hx hb dX3_at_12 (by decide) ?_
    refine lv_goto (tgt := 22) hx hb dX3_at_13 (by decide) ?_
    exact en_V F (ty := .char) 0 (by rfl) (congrArg Value.int (if_pos (Or.inl h1)).symm) dX3_at_22
  ·
    refine lv_iload_n hx hb dX3_at_4 rfl (lv_at hl 1 rfl) ?_
    refine lv_aload_n hx hb dX3_at_5 rfl (lv_at hl 0 rfl) ?_
    refine va_get (D := G.1) (ci := 3) (v := .int (nI j)) (C := RX3) (T := TX3) (N := 2) hx hb hts inX3 hown hK.1 hP 0 rfl rfl 1 (by decide) (hts _ w_41) (fun _ h9 => h9) rfl dX3_at_6 ?_
    refine lv_icmp_lt (tgt := 16) hx hb dX3_at_9 (by decide) (fun h2 => ?_) (fun h2 => ?_)
    ·
      refine lv_aload_n hx hb dX3_at_16 rfl (lv_at hl 0 rfl) ?_
      refine va_get (D := G.1) (ci := 3) (v := .ref a) (C := RX3) (T := TX3) (N := 2) hx hb hts inX3 hown hK.1 hP 0 rfl rfl 0 (by decide) (hts _ w_40) (fun _ h9 => h9) rfl dX3_at_17 ?_
      refine lv_iload_n hx hb dX3_at_20 rfl (lv_at hl 1 rfl) ?_
      refine va_cald (D := G.1) hx hb hK.1 hP 1 2 rfl rfl (pk_at_in h1 h2 hj hn) dX3_at_21 ?_
      refine tp_i (f i.toNatClampNeg) rfl ?_
      exact en_V F (ty := .char) (f i.toNatClampNeg) (hf _) (congrArg Value.int (if_neg (fun z => z.elim h1 (fun z => pk_nle h2 z))).symm) dX3_at_22
    ·
      refine lv_iconst (v := 0) hx hb dX3_at_12 (by decide) ?_
      refine lv_goto (tgt := 22) hx hb dX3_at_13 (by decide) ?_
      exact en_V F (ty := .char) 0 (by rfl) (congrArg Value.int (if_pos (Or.inr (pk_le_of h2))).symm) dX3_at_22


set_option maxHeartbeats 4000000 in
set_option maxRecDepth 100000 in
theorem v_prog_node (l : Launch) (G : PG) (h na j : Nat) (fi gr : Int32) (aq : Int64) (ad : Nat → Nat) (a : Nat → Nat → Int32) (lo hi : Nat → Int64) (i : Int32) (h0 : 0 < j) (hj : j ≤ 32) : PV l yX1_node (Cond.code yX1_node cX1_node 2 (some (.object "PatternMatcher$Node")) :: aW) { frames := 0, cells := 0, slots := 0, locals := 0 } G (([(h, .inr (1, [.ref na, .int (nI j), .int fi, .int gr, .long aq])), (na, .inl (G.2 4, 32, .inr (.inr (.inr (.inr (nf ad 32))))))] : va_W) ++ np ad a lo hi 32) [.ref h, .int i] (fun v9 => v9 = .ref (ad (pn_ix j i))) := by
  refine ofPV (y := yX1_node) (G := G) (cc := cX1_node) (maxL := 2) (ret := (some (.object "PatternMatcher$Node"))) (by decide) rfl ?_
  intro p e s m below meth c F hK hP hD
  have hx := F.1.1; have hb := F.1.2.1; have hml := F.1.2.2.1; have hts := F.1.2.2.2.2
  have hown : s.vm.findClass RX1 = some m.cls := F.1.2.2.2.1
  have hl := lv_entry ([.ref h, .int i]) (n := 2) (Nat.le_of_ble_eq_true rfl)
  rw [lg_entry_eq]
  generalize (lg_sl ([.ref h, .int i]) ++ List.replicate (2 - (lg_sl ([.ref h, .int i])).length) Slot.unset).toArray = ls at hl ⊢
  have hl : lv_has ls 2 [(0, .ref h), (1, .int i)] := hl
  refine lv_aload_n hx hb dX1_node_0 rfl (lv_at hl 0 rfl) ?_
  refine va_get (D := G.1) (ci := 1) (v := .ref na) (C := RX1) (T := TX1) (N := 5) hx hb hts inX1 hown hK.1 hP 0 rfl rfl 0 (by decide) (hts _ w_117) (fun _ h9 => h9) rfl dX1_node_1 ?_
  refine lv_iload_n hx hb dX1_node_4 rfl (lv_at hl 1 rfl) ?_
  refine lv_if_lt (tgt := 16) hx hb dX1_node_5 (by decide) (fun h1 => ?_) (fun h1 => ?_)
  ·
    refine lv_iconst (v := 0) hx hb dX1_node_16 (by decide) ?_
    refine lv_goto (tgt := 21) hx hb dX1_node_17 (by decide) ?_
    refine va_aldq (D := G.1) hx hb hK.1 hP 1 4 rfl rfl (vp_in_nI (n := 0) (by decide) (by decide)) dX1_node_21 ?_
    refine tp_v (.ref (ad 0)) rfl ?_
    exact en_VR F (ad 0) (congrArg (fun z => Value.ref (ad z)) (if_pos (Or.inl h1)).symm) dX1_node_22
  ·
    refine lv_iload_n hx hb dX1_node_8 rfl (lv_at hl 1 rfl) ?_
    refine lv_aload_n hx hb dX1_node_9 rfl (lv_at hl 0 rfl) ?_
    refine va_get (D := G.1) (ci := 1) (v := .int (nI j)) (C := RX1) (T := TX1) (N := 5) hx hb hts inX1 hown hK.1 hP 0 rfl rfl 1 (by decide) (hts _ w_118) (fun _ h9 => h9) rfl dX1_node_10 ?_
    refine lv_icmp_lt (tgt := 20) hx hb dX1_node_13 (by decide) (fun h2 => ?_) (fun h2 => ?_)
    ·
      refine lv_iload_n hx hb dX1_node_20 rfl (lv_at hl 1 rfl) ?_
      refine va_aldq (D := G.1) hx hb hK.1 hP 1 4 rfl rfl (pk_at_in h1 h2 hj (by decide)) dX1_node_21 ?_
      refine tp_v (.ref (ad i.toNatClampNeg)) (by rw [nf_at (Nat.not_le.mp (fun z => (pk_at_in h1 h2 hj (by decide)) (Or.inr z)))]; rfl) ?_
      exact en_VR F (ad i.toNatClampNeg) (congrArg (fun z => Value.ref (ad z)) (if_neg (fun z => z.elim h1 (fun z => pk_nle h2 z))).symm) dX1_node_22
    ·
      refine lv_iconst (v := 0) hx hb dX1_node_16 (by decide) ?_
      refine lv_goto (tgt := 21) hx hb dX1_node_17 (by decide) ?_
      refine va_aldq (D := G.1) hx hb hK.1 hP 1 4 rfl rfl (vp_in_nI (n := 0) (by decide) (by decide)) dX1_node_21 ?_
      refine tp_v (.ref (ad 0)) rfl ?_
      exact en_VR F (ad 0) (congrArg (fun z => Value.ref (ad z)) (if_pos (Or.inr (pk_le_of h2))).symm) dX1_node_22

