/-! the class's two String constants: frozen cells beside the worlds; String.indexOf on them -/
abbrev ZZ : Type := (Nat → Nat) × (Nat → Nat)
abbrev zLen : List Nat := [14, 5]
abbrev zByt : List (List Int32) := [[124, 40, 41, 91, 93, 123, 125, 42, 43, 63, 46, 94, 36, 92], [91, 93, 94, 45, 92]]
def zF (Z : ZZ) (A : Nat → Prop) (U : State) (H : Heap) : Prop := vk_S 2 zLen zByt Z.1 Z.2 A U H ∧ va_Z "java/lang/String" "COMPACT_STRINGS" "Z" (.int 1) A U H ∧ vk_R RX2 135 "|()[]{}*+?.^$\\" (Z.1 0) U ∧ vk_R RX2 187 "[]^-\\" (Z.1 1) U
theorem zF.use {Z : ZZ} {A B : Nat → Prop} {s U : State} {H : Heap} {locs : List Loc} (h : zF Z A s s.heap) (hS : va_S A s.heap H locs) (hB : ∀ q, B q → A q) (hU : U.heap = H) (hW : s.WarmedH U.vm) : zF Z B U U.heap := by
  rw [hU]
  exact ⟨((h.1.kept hS.2.1).narrow hB).moved hW.alike, ((h.2.1.kept hS.2.1).narrow hB).moved hW.alike, h.2.2.1.warm hW, h.2.2.2.warm hW⟩
theorem zF.same {Z : ZZ} {A : Nat → Prop} {u U : State} (ev : u.vm = U.vm) (eh : u.heap = U.heap) (h : zF Z A u u.heap) : zF Z A U U.heap := by
  have ha : u.vm.Alike U.vm := by rw [ev]; exact Vm.Alike.refl _
  rw [← eh]
  exact ⟨h.1.moved ha, h.2.1.moved ha, vk_R.same ev.symm h.2.2.1, vk_R.same ev.symm h.2.2.2⟩
def zS (Z : ZZ) (G : PG) (wc : va_W) (sz : Nat) (av : List Value) : Array Value → State → Prop := fun v U => cS G wc sz av v U ∧ zF Z (va_A wc sz) U U.heap
theorem zS_blind {Z : ZZ} {G : PG} {wc : va_W} {sz : Nat} {av : List Value} : FrameBlind (zS Z G wc sz av) := fun a U g mk h => ⟨cS_blind a U g mk h.1, zF.same (u := U) (U := U.calling g mk a) rfl rfl h.2⟩
theorem zS_pre {Z : ZZ} {G : PG} {wc : va_W} {av : List Value} {s : State} {H : Heap} {A : Nat → Prop} {locs : List Loc} (hP : va_P G.1 vwCl wc H) (hD : va_D A wc) (hK : pg_K G s) (hZ : zF Z A s s.heap) (hS : va_S A s.heap H locs) (hB : ∀ q, va_A wc H.size q → A q) : ∀ U : State, U.heap = H → s.WarmedH U.vm → zS Z G wc H.size av av.toArray U :=
  fun U hU hW => ⟨cS_pre hP hD hK U hU hW, hZ.use hS hB hU hW⟩
def PZ (l : Launch) (y : MethodName) (ws : List Cond) (rm : Room) (Z : ZZ) (G : PG) (av : List Value) (post : Value → Prop) : Prop := ∀ sz, Met l y ws rm (zS Z G [] sz av) (pQV post) 0 0 (fun _ => False)
def CiZ (l : Launch) (y : MethodName) (ws : List Cond) (rm : Room) (Z : ZZ) (G : PG) (wc : va_W) (av : List Value) {S : Type} (post : Int32 → S → Prop) (w1 : S → va_W) (mc ms : Nat) : Prop := ∀ sz, Met l y ws rm (zS Z G wc sz av) (va_Qi post (oB G (va_A wc sz) w1) (va_A wc sz)) mc ms (va_A wc sz)
def CvZ (l : Launch) (y : MethodName) (ws : List Cond) (rm : Room) (Z : ZZ) (G : PG) (wc : va_W) (av : List Value) {S : Type} (post : S → Prop) (w1 : S → va_W) (mc ms : Nat) : Prop := ∀ sz, Met l y ws rm (zS Z G wc sz av) (va_Qv post (oB G (va_A wc sz) w1) (va_A wc sz)) mc ms (va_A wc sz)
section PZ1
variable {l : Launch} {y : MethodName} {ws : List Cond} {rm : Room} {Z : ZZ} {G : PG} {wc : va_W} {av : List Value} {cc : ByteArray} {maxL mc ms : Nat} {ret : Option FieldType}
theorem ofPZ {post : Value → Prop} (hy : plainName y.cls = true) (hw : ws = Cond.code y cc maxL ret :: aW)
    (body : ∀ (p : Program) (e : Env) (s : State) (m : MethodId) (below : List Frame) (meth : Method) (c : Code), bF p s m meth c cc maxL ret av.toArray y → pg_K G s → zF Z (fun q => s.heap.size ≤ q) s s.heap →
      W p l e rm s m av.toArray below meth c s.heap [] 0 0 (MQ below (pQV post) av.toArray s 0 0 (fun _ => False)) (entryFrame m av.toArray maxL)) : PZ l y ws rm Z G av post := by
  intro sz
  refine Met.ofW (cc := cc) (maxL := maxL) (ret := ret) hy hw ?_
  intro p e s m args below meth c s₁ B hml hv
  obtain ⟨⟨rfl, hsz, hP, hD0, hK⟩, hZ⟩ := hv
  subst hsz
  exact body p e s m below meth c (bF_of hw B hml) hK (hZ.use (va_S.rf (A := va_A [] s.heap.size)) (fun q h => Or.inr h) rfl (State.WarmedH.refl s))
theorem ofBZ {Qc : (Nat → Prop) → Array Value → State → Outcome → State → Prop} (hy : plainName y.cls = true) (hw : ws = Cond.code y cc maxL ret :: aW)
    (body : ∀ (p : Program) (e : Env) (s : State) (m : MethodId) (below : List Frame) (meth : Method) (c : Code) (A : Nat → Prop), bF p s m meth c cc maxL ret av.toArray y → pg_K G s → zF Z A s s.heap → (∀ q, s.heap.size ≤ q → A q) → va_P G.1 vwCl wc s.heap → va_D A wc →
      W p l e rm s m av.toArray below meth c s.heap [] 0 0 (MQ below (Qc A) av.toArray s mc ms A) (entryFrame m av.toArray maxL)) : ∀ sz, Met l y ws rm (zS Z G wc sz av) (Qc (va_A wc sz)) mc ms (va_A wc sz) := by
  intro sz
  refine Met.ofW (cc := cc) (maxL := maxL) (ret := ret) hy hw ?_
  intro p e s m args below meth c s₁ B hml hv
  obtain ⟨⟨rfl, hsz, hP, hD0, hK⟩, hZ⟩ := hv
  subst hsz
  exact body p e s m below meth c _ (bF_of hw B hml) hK hZ (fun q h => Or.inr h) hP hD0.self
end PZ1

abbrev yS_isLatin1 : MethodName := ⟨"java/lang/String", "isLatin1", "()Z"⟩
abbrev cS_isLatin1 : ByteArray := prog_16_method_154_code
theorem dS_isLatin1_0 : decode cS_isLatin1 0 = .ok (.getstatic 38, 3) := by decide +kernel
theorem dS_isLatin1_3 : decode cS_isLatin1 3 = .ok (.ifCond .eq 14, 3) := by decide +kernel
theorem dS_isLatin1_6 : decode cS_isLatin1 6 = .ok (.aload_n 0, 1) := by decide +kernel
theorem dS_isLatin1_7 : decode cS_isLatin1 7 = .ok (.getfield 15, 3) := by decide +kernel
theorem dS_isLatin1_10 : decode cS_isLatin1 10 = .ok (.ifCond .ne 7, 3) := by decide +kernel
theorem dS_isLatin1_13 : decode cS_isLatin1 13 = .ok (.iconst 1, 1) := by decide +kernel
theorem dS_isLatin1_14 : decode cS_isLatin1 14 = .ok (.goto 4, 3) := by decide +kernel
theorem dS_isLatin1_18 : decode cS_isLatin1 18 = .ok (.ireturn, 1) := by decide +kernel
def E_S_isLatin1 (i : Nat)  (r : Int32) : Prop := r = 1
set_option maxHeartbeats 4000000 in
set_option maxRecDepth 100000 in
theorem e_S_isLatin1 (l : Launch) (G : PG) (Z : ZZ) (i : Nat) (hi : i < 2)  (r : Int32) (hE : E_S_isLatin1 i  r) : PZ l yS_isLatin1 (Cond.code yS_isLatin1 cS_isLatin1 1 (some .boolean) :: aW) { frames := 0, cells := 0, slots := 0, locals := 0 } Z G [.ref (Z.1 i)] (fun v => v = .int r) := by
  refine ofPZ (y := yS_isLatin1) (G := G) (cc := cS_isLatin1) (maxL := 1) (ret := (some .boolean)) (by decide) rfl ?_
  intro p e s m below meth c F hK hZ
  have hx := F.1.1; have hb := F.1.2.1; have hml := F.1.2.2.1; have hts := F.1.2.2.2.2
  have hown : s.vm.findClass "java/lang/String" = some m.cls := F.1.2.2.2.1
  have hS : va_S (fun q => s.heap.size ≤ q) s.heap s.heap [] := va_S.rf
  have hA0 : ∀ q, va_A [] s.heap.size q → s.heap.size ≤ q := fun q h => h.elim (fun ⟨k, e, h⟩ => by simp at h) id
  have hl := lv_entry ([.ref (Z.1 i)]) (n := 1) (Nat.le_of_ble_eq_true rfl)
  rw [lg_entry_eq]
  generalize (lg_sl ([.ref (Z.1 i)]) ++ List.replicate (1 - (lg_sl ([.ref (Z.1 i)])).length) Slot.unset).toArray = ls at hl ⊢
  have hl : lv_has ls 1 [(0, .ref (Z.1 i))] := hl
  unfold E_S_isLatin1 at hE
  refine va_gets hx hb hZ.2.1 hS hown (hts _ w_418) (fun _ h9 => h9) dS_isLatin1_0 ?_
  refine lv_if_eq (tgt := 17) hx hb dS_isLatin1_3 (by decide) (fun h => absurd h (by decide)) (fun _ => ?_)
  refine lv_aload_n hx hb dS_isLatin1_6 rfl (lv_at hl 0 rfl) ?_
  refine vk_getf hx hb (hZ.1.1 i hi).2.1 hS hown (hts _ w_1249) (fun _ h9 => h9) dS_isLatin1_7 ?_
  refine lv_if_ne (tgt := 17) hx hb dS_isLatin1_10 (by decide) (fun h => absurd (by decide) h) (fun _ => ?_)
  refine lv_iconst (v := 1) hx hb dS_isLatin1_13 (by decide) ?_
  refine lv_goto (tgt := 18) hx hb dS_isLatin1_14 (by decide) ?_
  have hE := hE.symm; subst hE
  exact en_V F (ty := .boolean) 1 (by rfl) rfl dS_isLatin1_18

abbrev yS_coder : MethodName := ⟨"java/lang/String", "coder", "()B"⟩
abbrev cS_coder : ByteArray := prog_16_method_152_code
theorem dS_coder_0 : decode cS_coder 0 = .ok (.getstatic 38, 3) := by decide +kernel
theorem dS_coder_3 : decode cS_coder 3 = .ok (.ifCond .eq 10, 3) := by decide +kernel
theorem dS_coder_6 : decode cS_coder 6 = .ok (.aload_n 0, 1) := by decide +kernel
theorem dS_coder_7 : decode cS_coder 7 = .ok (.getfield 15, 3) := by decide +kernel
theorem dS_coder_10 : decode cS_coder 10 = .ok (.goto 4, 3) := by decide +kernel
theorem dS_coder_14 : decode cS_coder 14 = .ok (.ireturn, 1) := by decide +kernel
def E_S_coder (i : Nat)  (r : Int32) : Prop := r = 0
set_option maxHeartbeats 4000000 in
set_option maxRecDepth 100000 in
theorem e_S_coder (l : Launch) (G : PG) (Z : ZZ) (i : Nat) (hi : i < 2)  (r : Int32) (hE : E_S_coder i  r) : PZ l yS_coder (Cond.code yS_coder cS_coder 1 (some .byte) :: aW) { frames := 0, cells := 0, slots := 0, locals := 0 } Z G [.ref (Z.1 i)] (fun v => v = .int r) := by
  refine ofPZ (y := yS_coder) (G := G) (cc := cS_coder) (maxL := 1) (ret := (some .byte)) (by decide) rfl ?_
  intro p e s m below meth c F hK hZ
  have hx := F.1.1; have hb := F.1.2.1; have hml := F.1.2.2.1; have hts := F.1.2.2.2.2
  have hown : s.vm.findClass "java/lang/String" = some m.cls := F.1.2.2.2.1
  have hS : va_S (fun q => s.heap.size ≤ q) s.heap s.heap [] := va_S.rf
  have hA0 : ∀ q, va_A [] s.heap.size q → s.heap.size ≤ q := fun q h => h.elim (fun ⟨k, e, h⟩ => by simp at h) id
  have hl := lv_entry ([.ref (Z.1 i)]) (n := 1) (Nat.le_of_ble_eq_true rfl)
  rw [lg_entry_eq]
  generalize (lg_sl ([.ref (Z.1 i)]) ++ List.replicate (1 - (lg_sl ([.ref (Z.1 i)])).length) Slot.unset).toArray = ls at hl ⊢
  have hl : lv_has ls 1 [(0, .ref (Z.1 i))] := hl
  unfold E_S_coder at hE
  refine va_gets hx hb hZ.2.1 hS hown (hts _ w_418) (fun _ h9 => h9) dS_coder_0 ?_
  refine lv_if_eq (tgt := 13) hx hb dS_coder_3 (by decide) (fun h => absurd h (by decide)) (fun _ => ?_)
  refine lv_aload_n hx hb dS_coder_6 rfl (lv_at hl 0 rfl) ?_
  refine vk_getf hx hb (hZ.1.1 i hi).2.1 hS hown (hts _ w_1249) (fun _ h9 => h9) dS_coder_7 ?_
  refine lv_goto (tgt := 14) hx hb dS_coder_10 (by decide) ?_
  have hE := hE.symm; subst hE
  exact en_V F (ty := .byte) 0 (by rfl) rfl dS_coder_14

abbrev yS_length : MethodName := ⟨"java/lang/String", "length", "()I"⟩
abbrev cS_length : ByteArray := prog_16_method_54_code
theorem dS_length_0 : decode cS_length 0 = .ok (.aload_n 0, 1) := by decide +kernel
theorem dS_length_1 : decode cS_length 1 = .ok (.getfield 9, 3) := by decide +kernel
theorem dS_length_4 : decode cS_length 4 = .ok (.arraylength, 1) := by decide +kernel
theorem dS_length_5 : decode cS_length 5 = .ok (.aload_n 0, 1) := by decide +kernel
theorem dS_length_6 : decode cS_length 6 = .ok (.invokevirtual 335, 3) := by decide +kernel
theorem dS_length_9 : decode cS_length 9 = .ok (.ishr, 1) := by decide +kernel
theorem dS_length_10 : decode cS_length 10 = .ok (.ireturn, 1) := by decide +kernel
def E_S_length (i : Nat)  (r : Int32) : Prop := r = ((nI (zLen.getD i 0)) >>> ((0 : Int32) &&& 31))
set_option maxHeartbeats 4000000 in
set_option maxRecDepth 100000 in
theorem e_S_length (l : Launch) (G : PG) (Z : ZZ) (i : Nat) (hi : i < 2)  (r : Int32) (hE : E_S_length i  r) : PZ l yS_length (Cond.code yS_length cS_length 1 (some .int) :: aW) { frames := 1, cells := 0, slots := 0, locals := 20 } Z G [.ref (Z.1 i)] (fun v => v = .int r) := by
  refine ofPZ (y := yS_length) (G := G) (cc := cS_length) (maxL := 1) (ret := (some .int)) (by decide) rfl ?_
  intro p e s m below meth c F hK hZ
  have hx := F.1.1; have hb := F.1.2.1; have hml := F.1.2.2.1; have hts := F.1.2.2.2.2
  have hown : s.vm.findClass "java/lang/String" = some m.cls := F.1.2.2.2.1
  have hS : va_S (fun q => s.heap.size ≤ q) s.heap s.heap [] := va_S.rf
  have hA0 : ∀ q, va_A [] s.heap.size q → s.heap.size ≤ q := fun q h => h.elim (fun ⟨k, e, h⟩ => by simp at h) id
  have hl := lv_entry ([.ref (Z.1 i)]) (n := 1) (Nat.le_of_ble_eq_true rfl)
  rw [lg_entry_eq]
  generalize (lg_sl ([.ref (Z.1 i)]) ++ List.replicate (1 - (lg_sl ([.ref (Z.1 i)])).length) Slot.unset).toArray = ls at hl ⊢
  have hl : lv_has ls 1 [(0, .ref (Z.1 i))] := hl
  unfold E_S_length at hE
  refine lv_aload_n hx hb dS_length_0 rfl (lv_at hl 0 rfl) ?_
  refine vk_getf hx hb (hZ.1.1 i hi).2.2.1 hS hown (hts _ w_1250) (fun _ h9 => h9) dS_length_1 ?_
  refine va_tlen (v := nI (zLen.getD i 0)) hx hb (hZ.1.1 i hi).2.2.2 hS rfl dS_length_4 ?_
  refine lv_aload_n hx hb dS_length_5 rfl (lv_at hl 0 rfl) ?_
  refine kp_V (va_runV (As := []) (rest := [.int (nI (zLen.getD i 0))]) F.1 (e_S_coder l G Z i hi  0 rfl _) (cwV 0 hts (aw_V w_424 w_425 w_426 w_8 w_427) rfl rfl rfl (by decide +kernel) ⟨by decide, by decide⟩) ⟨zS_blind, vk_recv hZ.1 hi hS, zS_pre va_P0 (va_D0 (A := fun q => s.heap.size ≤ q)) hK hZ hS hA0⟩ rfl rfl hl.1 rfl (lv_room (Nat.le_of_ble_eq_true rfl)) dS_length_6 ⟨Nat.le_refl _, Nat.le_refl _⟩) (fun v9 hp => ?_)
  subst hp
  refine lv_ishr hx hb dS_length_9 ?_
  have hE := hE.symm; subst hE
  exact en_V F (ty := .int) ((nI (zLen.getD i 0)) >>> ((0 : Int32) &&& 31)) (by rfl) rfl dS_length_10

abbrev yT_canEncode : MethodName := ⟨"java/lang/StringLatin1", "canEncode", "(I)Z"⟩
abbrev cT_canEncode : ByteArray := prog_17_method_4_code
theorem dT_canEncode_0 : decode cT_canEncode 0 = .ok (.iload_n 0, 1) := by decide +kernel
theorem dT_canEncode_1 : decode cT_canEncode 1 = .ok (.ifCond .lt 14, 3) := by decide +kernel
theorem dT_canEncode_4 : decode cT_canEncode 4 = .ok (.iload_n 0, 1) := by decide +kernel
theorem dT_canEncode_5 : decode cT_canEncode 5 = .ok (.sipush 255, 3) := by decide +kernel
theorem dT_canEncode_8 : decode cT_canEncode 8 = .ok (.if_icmp .gt 7, 3) := by decide +kernel
theorem dT_canEncode_11 : decode cT_canEncode 11 = .ok (.iconst 1, 1) := by decide +kernel
theorem dT_canEncode_12 : decode cT_canEncode 12 = .ok (.goto 4, 3) := by decide +kernel
theorem dT_canEncode_15 : decode cT_canEncode 15 = .ok (.iconst 0, 1) := by decide +kernel
theorem dT_canEncode_16 : decode cT_canEncode 16 = .ok (.ireturn, 1) := by decide +kernel
def E_T_canEncode (a1 : Int32) (r : Int32) : Prop := if a1 < 0 then (r = 0) else (if 255 < a1 then (r = 0) else (r = 1))
set_option maxHeartbeats 4000000 in
set_option maxRecDepth 100000 in
theorem e_T_canEncode (l : Launch) (G : PG) (Z : ZZ) (a1 : Int32) (r : Int32) (hE : E_T_canEncode a1 r) : PZ l yT_canEncode (Cond.code yT_canEncode cT_canEncode 1 (some .boolean) :: aW) { frames := 0, cells := 0, slots := 0, locals := 0 } Z G [.int a1] (fun v => v = .int r) := by
  refine ofPZ (y := yT_canEncode) (G := G) (cc := cT_canEncode) (maxL := 1) (ret := (some .boolean)) (by decide) rfl ?_
  intro p e s m below meth c F hK hZ
  have hx := F.1.1; have hb := F.1.2.1; have hml := F.1.2.2.1; have hts := F.1.2.2.2.2
  have hown : s.vm.findClass "java/lang/StringLatin1" = some m.cls := F.1.2.2.2.1
  have hS : va_S (fun q => s.heap.size ≤ q) s.heap s.heap [] := va_S.rf
  have hA0 : ∀ q, va_A [] s.heap.size q → s.heap.size ≤ q := fun q h => h.elim (fun ⟨k, e, h⟩ => by simp at h) id
  have hl := lv_entry ([.int a1]) (n := 1) (Nat.le_of_ble_eq_true rfl)
  rw [lg_entry_eq]
  generalize (lg_sl ([.int a1]) ++ List.replicate (1 - (lg_sl ([.int a1])).length) Slot.unset).toArray = ls at hl ⊢
  have hl : lv_has ls 1 [(0, .int a1)] := hl
  unfold E_T_canEncode at hE
  refine lv_iload_n hx hb dT_canEncode_0 rfl (lv_at hl 0 rfl) ?_
  refine lv_if_lt (tgt := 15) hx hb dT_canEncode_1 (by decide) (fun h1 => ?_) (fun h1 => ?_)
  ·
    rw [if_pos h1] at hE
    refine lv_iconst (v := 0) hx hb dT_canEncode_15 (by decide) ?_
    have hE := hE.symm; subst hE
    exact en_V F (ty := .boolean) 0 (by rfl) rfl dT_canEncode_16
  ·
    rw [if_neg h1] at hE
    refine lv_iload_n hx hb dT_canEncode_4 rfl (lv_at hl 0 rfl) ?_
    refine lv_sipush (v := 255) hx hb dT_canEncode_5 (by decide) ?_
    refine lv_icmp_gt (tgt := 15) hx hb dT_canEncode_8 (by decide) (fun h2 => ?_) (fun h2 => ?_)
    ·
      rw [if_pos h2] at hE
      refine lv_iconst (v := 0) hx hb dT_canEncode_15 (by decide) ?_
      have hE := hE.symm; subst hE
      exact en_V F (ty := .boolean) 0 (by rfl) rfl dT_canEncode_16
    ·
      rw [if_neg h2] at hE
      refine lv_iconst (v := 1) hx hb dT_canEncode_11 (by decide) ?_
      refine lv_goto (tgt := 16) hx hb dT_canEncode_12 (by decide) ?_
      have hE := hE.symm; subst hE
      exact en_V F (ty := .boolean) 1 (by rfl) rfl dT_canEncode_16

abbrev yT_indexOfChar : MethodName := ⟨"java/lang/StringLatin1", "indexOfChar", "([BIII)I"⟩
abbrev cT_indexOfChar : ByteArray := prog_17_method_23_code
theorem dT_indexOfChar_0 : decode cT_indexOfChar 0 = .ok (.iload_n 1, 1) := by decide +kernel
theorem dT_indexOfChar_1 : decode cT_indexOfChar 1 = .ok (.i2b, 1) := by decide +kernel
theorem dT_indexOfChar_2 : decode cT_indexOfChar 2 = .ok (.istore 4, 2) := by decide +kernel
theorem dT_indexOfChar_4 : decode cT_indexOfChar 4 = .ok (.iload_n 2, 1) := by decide +kernel
theorem dT_indexOfChar_5 : decode cT_indexOfChar 5 = .ok (.istore 5, 2) := by decide +kernel
theorem dT_indexOfChar_7 : decode cT_indexOfChar 7 = .ok (.iload 5, 2) := by decide +kernel
theorem dT_indexOfChar_9 : decode cT_indexOfChar 9 = .ok (.iload_n 3, 1) := by decide +kernel
theorem dT_indexOfChar_10 : decode cT_indexOfChar 10 = .ok (.if_icmp .ge 21, 3) := by decide +kernel
theorem dT_indexOfChar_13 : decode cT_indexOfChar 13 = .ok (.aload_n 0, 1) := by decide +kernel
theorem dT_indexOfChar_14 : decode cT_indexOfChar 14 = .ok (.iload 5, 2) := by decide +kernel
theorem dT_indexOfChar_16 : decode cT_indexOfChar 16 = .ok (.baload, 1) := by decide +kernel
theorem dT_indexOfChar_17 : decode cT_indexOfChar 17 = .ok (.iload 4, 2) := by decide +kernel
theorem dT_indexOfChar_19 : decode cT_indexOfChar 19 = .ok (.if_icmp .ne 6, 3) := by decide +kernel
theorem dT_indexOfChar_22 : decode cT_indexOfChar 22 = .ok (.iload 5, 2) := by decide +kernel
theorem dT_indexOfChar_24 : decode cT_indexOfChar 24 = .ok (.ireturn, 1) := by decide +kernel
theorem dT_indexOfChar_25 : decode cT_indexOfChar 25 = .ok (.iinc 5 1, 3) := by decide +kernel
theorem dT_indexOfChar_28 : decode cT_indexOfChar 28 = .ok (.goto (-21), 3) := by decide +kernel
theorem dT_indexOfChar_31 : decode cT_indexOfChar 31 = .ok (.iconst (-1), 1) := by decide +kernel
theorem dT_indexOfChar_32 : decode cT_indexOfChar 32 = .ok (.ireturn, 1) := by decide +kernel
def L_T_indexOfChar_7 (i : Nat) : Nat → Int32 → Int32 → Int32 → Int32 → Int32 → Int32 → Prop
  | 0, _, _, _, _, _, _ => False
  | nf + 1, x1, x2, x3, x4, x5, r => if x3 ≤ x5 then (r = (-1)) else (vp_in x5 (zLen.getD i 0) ∧ (if ((zByt.getD i []).getD x5.toNatClampNeg 0) = x4 then (r = x5) else (L_T_indexOfChar_7 i nf x1 x2 x3 x4 (x5 + 1) r)))
set_option maxHeartbeats 4000000 in
set_option maxRecDepth 100000 in
theorem L_T_indexOfChar_7_ok {l : Launch} {G : PG} {Z : ZZ} {i : Nat} (hi : i < 2) {a2 : Int32} {a3 : Int32} {a4 : Int32} {r : Int32} {p : Program} {e : Env} {s : State} {m : MethodId} {below : List Frame} {meth : Method} {c : Code} (F : bF p s m meth c cT_indexOfChar 6 (some .int) ([.ref (Z.2 i), .int a2, .int a3, .int a4] : List Value).toArray yT_indexOfChar) (hK : pg_K G s) (hZ : zF Z (fun q => s.heap.size ≤ q) s s.heap) : ∀ (nf : Nat) (x1 : Int32) (x2 : Int32) (x3 : Int32) (x4 : Int32) (x5 : Int32) (ls : Array Slot), lv_has ls 6 [(5, .int x5), (4, .int x4), (0, .ref (Z.2 i)), (1, .int x1), (2, .int x2), (3, .int x3)] → L_T_indexOfChar_7 i nf x1 x2 x3 x4 x5 r → W p l e { frames := 0, cells := 0, slots := 0, locals := 0 } s m ([.ref (Z.2 i), .int a2, .int a3, .int a4] : List Value).toArray below meth c s.heap [] 0 0 (MQ below (pQV (fun v => v = .int r)) ([.ref (Z.2 i), .int a2, .int a3, .int a4] : List Value).toArray s 0 0 (fun _ => False)) (F0 m 7 ls []) := by
  have hx := F.1.1; have hb := F.1.2.1; have hml := F.1.2.2.1; have hts := F.1.2.2.2.2
  have hown : s.vm.findClass "java/lang/StringLatin1" = some m.cls := F.1.2.2.2.1
  have hS : va_S (fun q => s.heap.size ≤ q) s.heap s.heap [] := va_S.rf
  have hA0 : ∀ q, va_A [] s.heap.size q → s.heap.size ≤ q := fun q h => h.elim (fun ⟨k, e, h⟩ => by simp at h) id
  intro nf
  induction nf with
  | zero => intro x1 x2 x3 x4 x5 ls hl hE; exact hE.elim
  | succ nf ih =>
    intro x1 x2 x3 x4 x5 ls hl hE
    unfold L_T_indexOfChar_7 at hE
    refine lv_iload hx hb dT_indexOfChar_7 (lv_at hl 0 rfl) ?_
    refine lv_iload_n hx hb dT_indexOfChar_9 rfl (lv_at hl 5 rfl) ?_
    refine lv_icmp_ge (tgt := 31) hx hb dT_indexOfChar_10 (by decide) (fun h1 => ?_) (fun h1 => ?_)
    ·
      rw [if_pos h1] at hE
      refine lv_iconst (v := (-1)) hx hb dT_indexOfChar_31 (by decide) ?_
      have hE := hE.symm; subst hE
      exact en_V F (ty := .int) (-1) (by rfl) rfl dT_indexOfChar_32
    ·
      rw [if_neg h1] at hE
      refine lv_aload_n hx hb dT_indexOfChar_13 rfl (lv_at hl 2 rfl) ?_
      refine lv_iload hx hb dT_indexOfChar_14 (lv_at hl 0 rfl) ?_
      obtain ⟨hin, hE⟩ := hE
      refine va_tb (v := .int ((zByt.getD i []).getD x5.toNatClampNeg 0)) hx hb (hZ.1.1 i hi).2.2.2 hS hin rfl dT_indexOfChar_16 ?_
      refine lv_iload hx hb dT_indexOfChar_17 (lv_at hl 1 rfl) ?_
      refine lv_icmp_ne (tgt := 25) hx hb dT_indexOfChar_19 (by decide) (fun h2 => ?_) (fun h2 => ?_)
      ·
        rw [if_neg h2] at hE
        refine lv_iinc (v := (x5 + 1)) (k := 0) hx hb dT_indexOfChar_25 hl rfl rfl (by decide) rfl (fun ls hl => ?_)
        have hl : lv_has ls 6 [(5, .int (x5 + 1)), (4, .int x4), (0, .ref (Z.2 i)), (1, .int x1), (2, .int x2), (3, .int x3)] := hl
        refine lv_goto (tgt := 7) hx hb dT_indexOfChar_28 (by decide) ?_
        exact ih x1 x2 x3 x4 (x5 + 1) ls (lv_sub hl [0, 1, 2, 3, 4, 5] rfl) hE
      ·
        rw [if_pos h2] at hE
        refine lv_iload hx hb dT_indexOfChar_22 (lv_at hl 0 rfl) ?_
        have hE := hE.symm; subst hE
        exact en_V F (ty := .int) x5 (by rfl) rfl dT_indexOfChar_24
def E_T_indexOfChar (i : Nat) (a2 : Int32) (a3 : Int32) (a4 : Int32) (r : Int32) : Prop := ∃ nf : Nat, L_T_indexOfChar_7 i nf a2 a3 a4 a2.toInt8.toInt32 a3 r
set_option maxHeartbeats 4000000 in
set_option maxRecDepth 100000 in
theorem e_T_indexOfChar (l : Launch) (G : PG) (Z : ZZ) (i : Nat) (hi : i < 2) (a2 : Int32) (a3 : Int32) (a4 : Int32) (r : Int32) (hE : E_T_indexOfChar i a2 a3 a4 r) : PZ l yT_indexOfChar (Cond.code yT_indexOfChar cT_indexOfChar 6 (some .int) :: aW) { frames := 0, cells := 0, slots := 0, locals := 0 } Z G [.ref (Z.2 i), .int a2, .int a3, .int a4] (fun v => v = .int r) := by
  refine ofPZ (y := yT_indexOfChar) (G := G) (cc := cT_indexOfChar) (maxL := 6) (ret := (some .int)) (by decide) rfl ?_
  intro p e s m below meth c F hK hZ
  have hx := F.1.1; have hb := F.1.2.1; have hml := F.1.2.2.1; have hts := F.1.2.2.2.2
  have hown : s.vm.findClass "java/lang/StringLatin1" = some m.cls := F.1.2.2.2.1
  have hS : va_S (fun q => s.heap.size ≤ q) s.heap s.heap [] := va_S.rf
  have hA0 : ∀ q, va_A [] s.heap.size q → s.heap.size ≤ q := fun q h => h.elim (fun ⟨k, e, h⟩ => by simp at h) id
  have hl := lv_entry ([.ref (Z.2 i), .int a2, .int a3, .int a4]) (n := 6) (Nat.le_of_ble_eq_true rfl)
  rw [lg_entry_eq]
  generalize (lg_sl ([.ref (Z.2 i), .int a2, .int a3, .int a4]) ++ List.replicate (6 - (lg_sl ([.ref (Z.2 i), .int a2, .int a3, .int a4])).length) Slot.unset).toArray = ls at hl ⊢
  have hl : lv_has ls 6 [(0, .ref (Z.2 i)), (1, .int a2), (2, .int a3), (3, .int a4)] := hl
  unfold E_T_indexOfChar at hE
  refine lv_iload_n hx hb dT_indexOfChar_0 rfl (lv_at hl 1 rfl) ?_
  refine lv_i2b (v := a2.toInt8.toInt32) hx hb dT_indexOfChar_1 rfl ?_
  refine lv_istore hx hb dT_indexOfChar_2 hl (by decide) rfl (fun ls hl => ?_)
  have hl : lv_has ls 6 [(4, .int a2.toInt8.toInt32), (0, .ref (Z.2 i)), (1, .int a2), (2, .int a3), (3, .int a4)] := hl
  refine lv_iload_n hx hb dT_indexOfChar_4 rfl (lv_at hl 3 rfl) ?_
  refine lv_istore hx hb dT_indexOfChar_5 hl (by decide) rfl (fun ls hl => ?_)
  have hl : lv_has ls 6 [(5, .int a3), (4, .int a2.toInt8.toInt32), (0, .ref (Z.2 i)), (1, .int a2), (2, .int a3), (3, .int a4)] := hl
  obtain ⟨nf, hE⟩ := hE
  exact L_T_indexOfChar_7_ok hi F hK hZ nf a2 a3 a4 a2.toInt8.toInt32 a3 ls (lv_sub hl [0, 1, 2, 3, 4, 5] rfl) hE

abbrev yT_indexOf : MethodName := ⟨"java/lang/StringLatin1", "indexOf", "([BIII)I"⟩
abbrev cT_indexOf : ByteArray := prog_17_method_22_code
theorem dT_indexOf_0 : decode cT_indexOf 0 = .ok (.iload_n 1, 1) := by decide +kernel
theorem dT_indexOf_1 : decode cT_indexOf 1 = .ok (.invokestatic 88, 3) := by decide +kernel
theorem dT_indexOf_4 : decode cT_indexOf 4 = .ok (.ifCond .ne 5, 3) := by decide +kernel
theorem dT_indexOf_7 : decode cT_indexOf 7 = .ok (.iconst (-1), 1) := by decide +kernel
theorem dT_indexOf_8 : decode cT_indexOf 8 = .ok (.ireturn, 1) := by decide +kernel
theorem dT_indexOf_9 : decode cT_indexOf 9 = .ok (.iload_n 2, 1) := by decide +kernel
theorem dT_indexOf_10 : decode cT_indexOf 10 = .ok (.iconst 0, 1) := by decide +kernel
theorem dT_indexOf_11 : decode cT_indexOf 11 = .ok (.invokestatic 92, 3) := by decide +kernel
theorem dT_indexOf_14 : decode cT_indexOf 14 = .ok (.istore_n 2, 1) := by decide +kernel
theorem dT_indexOf_15 : decode cT_indexOf 15 = .ok (.iload_n 3, 1) := by decide +kernel
theorem dT_indexOf_16 : decode cT_indexOf 16 = .ok (.aload_n 0, 1) := by decide +kernel
theorem dT_indexOf_17 : decode cT_indexOf 17 = .ok (.arraylength, 1) := by decide +kernel
theorem dT_indexOf_18 : decode cT_indexOf 18 = .ok (.invokestatic 38, 3) := by decide +kernel
theorem dT_indexOf_21 : decode cT_indexOf 21 = .ok (.istore_n 3, 1) := by decide +kernel
theorem dT_indexOf_22 : decode cT_indexOf 22 = .ok (.iload_n 2, 1) := by decide +kernel
theorem dT_indexOf_23 : decode cT_indexOf 23 = .ok (.iload_n 3, 1) := by decide +kernel
theorem dT_indexOf_24 : decode cT_indexOf 24 = .ok (.if_icmp .lt 5, 3) := by decide +kernel
theorem dT_indexOf_27 : decode cT_indexOf 27 = .ok (.iconst (-1), 1) := by decide +kernel
theorem dT_indexOf_28 : decode cT_indexOf 28 = .ok (.ireturn, 1) := by decide +kernel
theorem dT_indexOf_29 : decode cT_indexOf 29 = .ok (.aload_n 0, 1) := by decide +kernel
theorem dT_indexOf_30 : decode cT_indexOf 30 = .ok (.iload_n 1, 1) := by decide +kernel
theorem dT_indexOf_31 : decode cT_indexOf 31 = .ok (.iload_n 2, 1) := by decide +kernel
theorem dT_indexOf_32 : decode cT_indexOf 32 = .ok (.iload_n 3, 1) := by decide +kernel
theorem dT_indexOf_33 : decode cT_indexOf 33 = .ok (.invokestatic 95, 3) := by decide +kernel
theorem dT_indexOf_36 : decode cT_indexOf 36 = .ok (.ireturn, 1) := by decide +kernel
def E_T_indexOf (i : Nat) (a2 : Int32) (a3 : Int32) (a4 : Int32) (r : Int32) : Prop := ∃ r1 : Int32, E_T_canEncode a2 r1 ∧ (if r1 = 0 then (r = (-1)) else (if (if a3 < (0 : Int32) then 0 else a3 : Int32) < (if (nI (zLen.getD i 0)) < a4 then (nI (zLen.getD i 0)) else a4 : Int32) then (∃ r4 : Int32, E_T_indexOfChar i a2 (if a3 < (0 : Int32) then 0 else a3 : Int32) (if (nI (zLen.getD i 0)) < a4 then (nI (zLen.getD i 0)) else a4 : Int32) r4 ∧ (r = r4)) else (r = (-1))))
set_option maxHeartbeats 4000000 in
set_option maxRecDepth 100000 in
theorem e_T_indexOf (l : Launch) (G : PG) (Z : ZZ) (i : Nat) (hi : i < 2) (a2 : Int32) (a3 : Int32) (a4 : Int32) (r : Int32) (hE : E_T_indexOf i a2 a3 a4 r) : PZ l yT_indexOf (Cond.code yT_indexOf cT_indexOf 4 (some .int) :: aW) { frames := 1, cells := 0, slots := 0, locals := 30 } Z G [.ref (Z.2 i), .int a2, .int a3, .int a4] (fun v => v = .int r) := by
  refine ofPZ (y := yT_indexOf) (G := G) (cc := cT_indexOf) (maxL := 4) (ret := (some .int)) (by decide) rfl ?_
  intro p e s m below meth c F hK hZ
  have hx := F.1.1; have hb := F.1.2.1; have hml := F.1.2.2.1; have hts := F.1.2.2.2.2
  have hown : s.vm.findClass "java/lang/StringLatin1" = some m.cls := F.1.2.2.2.1
  have hS : va_S (fun q => s.heap.size ≤ q) s.heap s.heap [] := va_S.rf
  have hA0 : ∀ q, va_A [] s.heap.size q → s.heap.size ≤ q := fun q h => h.elim (fun ⟨k, e, h⟩ => by simp at h) id
  have hl := lv_entry ([.ref (Z.2 i), .int a2, .int a3, .int a4]) (n := 4) (Nat.le_of_ble_eq_true rfl)
  rw [lg_entry_eq]
  generalize (lg_sl ([.ref (Z.2 i), .int a2, .int a3, .int a4]) ++ List.replicate (4 - (lg_sl ([.ref (Z.2 i), .int a2, .int a3, .int a4])).length) Slot.unset).toArray = ls at hl ⊢
  have hl : lv_has ls 4 [(0, .ref (Z.2 i)), (1, .int a2), (2, .int a3), (3, .int a4)] := hl
  unfold E_T_indexOf at hE
  refine lv_iload_n hx hb dT_indexOf_0 rfl (lv_at hl 1 rfl) ?_
  obtain ⟨r1, hg, hE⟩ := hE
  refine kp_V (va_runS (As := [.int a2]) (rest := []) F.1 (e_T_canEncode l G Z a2 r1 hg _) (va_cwS 1 hts (aw_S w_431 w_432 w_9 w_433) rfl rfl rfl (by decide +kernel) ⟨by decide, by decide⟩) ⟨zS_blind, zS_pre va_P0 (va_D0 (A := fun q => s.heap.size ≤ q)) hK hZ hS hA0⟩ rfl rfl hl.1 rfl (lv_room (Nat.le_of_ble_eq_true rfl)) dT_indexOf_1 ⟨Nat.le_refl _, Nat.le_refl _⟩) (fun v9 hp => ?_)
  subst hp
  refine lv_if_ne (tgt := 9) hx hb dT_indexOf_4 (by decide) (fun h2 => ?_) (fun h2 => ?_)
  ·
    rw [if_neg h2] at hE
    refine lv_iload_n hx hb dT_indexOf_9 rfl (lv_at hl 2 rfl) ?_
    refine lv_iconst (v := 0) hx hb dT_indexOf_10 (by decide) ?_
    refine va_mmax (rest := []) hx hb (hml.trans hl.1.symm) hown (hts _ w_434) (hts _ w_435) (hts _ w_10) (hts _ w_436) (by decide) (Nat.le_of_ble_eq_true rfl) (Nat.le_refl _) (Nat.le_refl _) dT_indexOf_11 ?_
    refine lv_istore_n hx hb dT_indexOf_14 rfl hl (by decide) rfl (fun ls hl => ?_)
    have hl : lv_has ls 4 [(2, .int (if a3 < (0 : Int32) then 0 else a3 : Int32)), (0, .ref (Z.2 i)), (1, .int a2), (3, .int a4)] := hl
    refine lv_iload_n hx hb dT_indexOf_15 rfl (lv_at hl 3 rfl) ?_
    refine lv_aload_n hx hb dT_indexOf_16 rfl (lv_at hl 1 rfl) ?_
    refine va_tlen (v := nI (zLen.getD i 0)) hx hb (hZ.1.1 i hi).2.2.2 hS rfl dT_indexOf_17 ?_
    refine va_mmin (rest := []) hx hb (hml.trans hl.1.symm) hown (hts _ w_437) (hts _ w_438) (hts _ w_10) (hts _ w_439) (by decide) (Nat.le_of_ble_eq_true rfl) (Nat.le_refl _) (Nat.le_refl _) dT_indexOf_18 ?_
    refine lv_istore_n hx hb dT_indexOf_21 rfl hl (by decide) rfl (fun ls hl => ?_)
    have hl : lv_has ls 4 [(3, .int (if (nI (zLen.getD i 0)) < a4 then (nI (zLen.getD i 0)) else a4 : Int32)), (2, .int (if a3 < (0 : Int32) then 0 else a3 : Int32)), (0, .ref (Z.2 i)), (1, .int a2)] := hl
    refine lv_iload_n hx hb dT_indexOf_22 rfl (lv_at hl 1 rfl) ?_
    refine lv_iload_n hx hb dT_indexOf_23 rfl (lv_at hl 0 rfl) ?_
    refine lv_icmp_lt (tgt := 29) hx hb dT_indexOf_24 (by decide) (fun h3 => ?_) (fun h3 => ?_)
    ·
      rw [if_pos h3] at hE
      refine lv_aload_n hx hb dT_indexOf_29 rfl (lv_at hl 2 rfl) ?_
      refine lv_iload_n hx hb dT_indexOf_30 rfl (lv_at hl 3 rfl) ?_
      refine lv_iload_n hx hb dT_indexOf_31 rfl (lv_at hl 1 rfl) ?_
      refine lv_iload_n hx hb dT_indexOf_32 rfl (lv_at hl 0 rfl) ?_
      obtain ⟨r4, hg, hE⟩ := hE
      refine kp_V (va_runS (As := [.ref (Z.2 i), .int a2, .int (if a3 < (0 : Int32) then 0 else a3 : Int32), .int (if (nI (zLen.getD i 0)) < a4 then (nI (zLen.getD i 0)) else a4 : Int32)]) (rest := []) F.1 (e_T_indexOfChar l G Z i hi a2 (if a3 < (0 : Int32) then 0 else a3 : Int32) (if (nI (zLen.getD i 0)) < a4 then (nI (zLen.getD i 0)) else a4 : Int32) r4 hg _) (va_cwS 4 hts (aw_S w_440 w_441 w_9 w_442) rfl rfl rfl (by decide +kernel) ⟨by decide, by decide⟩) ⟨zS_blind, zS_pre va_P0 (va_D0 (A := fun q => s.heap.size ≤ q)) hK hZ hS hA0⟩ rfl rfl hl.1 rfl (lv_room (Nat.le_of_ble_eq_true rfl)) dT_indexOf_33 ⟨Nat.le_refl _, Nat.le_refl _⟩) (fun v9 hp => ?_)
      subst hp
      have hE := hE.symm; subst hE
      exact en_V F (ty := .int) r4 (by rfl) rfl dT_indexOf_36
    ·
      rw [if_neg h3] at hE
      refine lv_iconst (v := (-1)) hx hb dT_indexOf_27 (by decide) ?_
      have hE := hE.symm; subst hE
      exact en_V F (ty := .int) (-1) (by rfl) rfl dT_indexOf_28
  ·
    rw [if_pos h2] at hE
    refine lv_iconst (v := (-1)) hx hb dT_indexOf_7 (by decide) ?_
    have hE := hE.symm; subst hE
    exact en_V F (ty := .int) (-1) (by rfl) rfl dT_indexOf_8

abbrev yS_indexOf2 : MethodName := ⟨"java/lang/String", "indexOf", "(II)I"⟩
abbrev cS_indexOf2 : ByteArray := prog_16_method_80_code
theorem dS_indexOf2_0 : decode cS_indexOf2 0 = .ok (.aload_n 0, 1) := by decide +kernel
theorem dS_indexOf2_1 : decode cS_indexOf2 1 = .ok (.invokevirtual 492, 3) := by decide +kernel
theorem dS_indexOf2_4 : decode cS_indexOf2 4 = .ok (.ifCond .eq 19, 3) := by decide +kernel
theorem dS_indexOf2_7 : decode cS_indexOf2 7 = .ok (.aload_n 0, 1) := by decide +kernel
theorem dS_indexOf2_8 : decode cS_indexOf2 8 = .ok (.getfield 9, 3) := by decide +kernel
theorem dS_indexOf2_11 : decode cS_indexOf2 11 = .ok (.iload_n 1, 1) := by decide +kernel
theorem dS_indexOf2_12 : decode cS_indexOf2 12 = .ok (.iload_n 2, 1) := by decide +kernel
theorem dS_indexOf2_13 : decode cS_indexOf2 13 = .ok (.aload_n 0, 1) := by decide +kernel
theorem dS_indexOf2_14 : decode cS_indexOf2 14 = .ok (.invokevirtual 505, 3) := by decide +kernel
theorem dS_indexOf2_17 : decode cS_indexOf2 17 = .ok (.invokestatic 637, 3) := by decide +kernel
theorem dS_indexOf2_20 : decode cS_indexOf2 20 = .ok (.goto 16, 3) := by decide +kernel
theorem dS_indexOf2_36 : decode cS_indexOf2 36 = .ok (.ireturn, 1) := by decide +kernel
def E_S_indexOf2 (i : Nat) (a1 : Int32) (a2 : Int32) (r : Int32) : Prop := ∃ r2 : Int32, E_S_length i  r2 ∧ (∃ r3 : Int32, E_T_indexOf i a1 a2 r2 r3 ∧ (r = r3))
set_option maxHeartbeats 4000000 in
set_option maxRecDepth 100000 in
theorem e_S_indexOf2 (l : Launch) (G : PG) (Z : ZZ) (i : Nat) (hi : i < 2) (a1 : Int32) (a2 : Int32) (r : Int32) (hE : E_S_indexOf2 i a1 a2 r) : PZ l yS_indexOf2 (Cond.code yS_indexOf2 cS_indexOf2 3 (some .int) :: aW) { frames := 2, cells := 0, slots := 0, locals := 53 } Z G [.ref (Z.1 i), .int a1, .int a2] (fun v => v = .int r) := by
  refine ofPZ (y := yS_indexOf2) (G := G) (cc := cS_indexOf2) (maxL := 3) (ret := (some .int)) (by decide) rfl ?_
  intro p e s m below meth c F hK hZ
  have hx := F.1.1; have hb := F.1.2.1; have hml := F.1.2.2.1; have hts := F.1.2.2.2.2
  have hown : s.vm.findClass "java/lang/String" = some m.cls := F.1.2.2.2.1
  have hS : va_S (fun q => s.heap.size ≤ q) s.heap s.heap [] := va_S.rf
  have hA0 : ∀ q, va_A [] s.heap.size q → s.heap.size ≤ q := fun q h => h.elim (fun ⟨k, e, h⟩ => by simp at h) id
  have hl := lv_entry ([.ref (Z.1 i), .int a1, .int a2]) (n := 3) (Nat.le_of_ble_eq_true rfl)
  rw [lg_entry_eq]
  generalize (lg_sl ([.ref (Z.1 i), .int a1, .int a2]) ++ List.replicate (3 - (lg_sl ([.ref (Z.1 i), .int a1, .int a2])).length) Slot.unset).toArray = ls at hl ⊢
  have hl : lv_has ls 3 [(0, .ref (Z.1 i)), (1, .int a1), (2, .int a2)] := hl
  unfold E_S_indexOf2 at hE
  refine lv_aload_n hx hb dS_indexOf2_0 rfl (lv_at hl 0 rfl) ?_
  refine kp_V (va_runV (As := []) (rest := []) F.1 (e_S_isLatin1 l G Z i hi  1 rfl _) (cwV 0 hts (aw_V w_414 w_415 w_416 w_8 w_417) rfl rfl rfl (by decide +kernel) ⟨by decide, by decide⟩) ⟨zS_blind, vk_recv hZ.1 hi hS, zS_pre va_P0 (va_D0 (A := fun q => s.heap.size ≤ q)) hK hZ hS hA0⟩ rfl rfl hl.1 rfl (lv_room (Nat.le_of_ble_eq_true rfl)) dS_indexOf2_1 ⟨Nat.le_refl _, Nat.le_refl _⟩) (fun v9 hp => ?_)
  subst hp
  refine lv_if_eq (tgt := 23) hx hb dS_indexOf2_4 (by decide) (fun h => absurd h (by decide)) (fun _ => ?_)
  refine lv_aload_n hx hb dS_indexOf2_7 rfl (lv_at hl 0 rfl) ?_
  refine vk_getf hx hb (hZ.1.1 i hi).2.2.1 hS hown (hts _ w_1250) (fun _ h9 => h9) dS_indexOf2_8 ?_
  refine lv_iload_n hx hb dS_indexOf2_11 rfl (lv_at hl 1 rfl) ?_
  refine lv_iload_n hx hb dS_indexOf2_12 rfl (lv_at hl 2 rfl) ?_
  refine lv_aload_n hx hb dS_indexOf2_13 rfl (lv_at hl 0 rfl) ?_
  obtain ⟨r2, hg, hE⟩ := hE
  refine kp_V (va_runV (As := []) (rest := [.int a2, .int a1, .ref (Z.2 i)]) F.1 (e_S_length l G Z i hi  r2 hg _) (cwV 0 hts (aw_V w_420 w_421 w_422 w_8 w_423) rfl rfl rfl (by decide +kernel) ⟨by decide, by decide⟩) ⟨zS_blind, vk_recv hZ.1 hi hS, zS_pre va_P0 (va_D0 (A := fun q => s.heap.size ≤ q)) hK hZ hS hA0⟩ rfl rfl hl.1 rfl (lv_room (Nat.le_of_ble_eq_true rfl)) dS_indexOf2_14 ⟨Nat.le_refl _, Nat.le_refl _⟩) (fun v9 hp => ?_)
  subst hp
  obtain ⟨r3, hg, hE⟩ := hE
  refine kp_V (va_runS (As := [.ref (Z.2 i), .int a1, .int a2, .int r2]) (rest := []) F.1 (e_T_indexOf l G Z i hi a1 a2 r2 r3 hg _) (va_cwS 4 hts (aw_S w_428 w_429 w_9 w_430) rfl rfl rfl (by decide +kernel) ⟨by decide, by decide⟩) ⟨zS_blind, zS_pre va_P0 (va_D0 (A := fun q => s.heap.size ≤ q)) hK hZ hS hA0⟩ rfl rfl hl.1 rfl (lv_room (Nat.le_of_ble_eq_true rfl)) dS_indexOf2_17 ⟨Nat.le_refl _, Nat.le_refl _⟩) (fun v9 hp => ?_)
  subst hp
  refine lv_goto (tgt := 36) hx hb dS_indexOf2_20 (by decide) ?_
  have hE := hE.symm; subst hE
  exact en_V F (ty := .int) r3 (by rfl) rfl dS_indexOf2_36

abbrev yS_indexOf1 : MethodName := ⟨"java/lang/String", "indexOf", "(I)I"⟩
abbrev cS_indexOf1 : ByteArray := prog_16_method_79_code
theorem dS_indexOf1_0 : decode cS_indexOf1 0 = .ok (.aload_n 0, 1) := by decide +kernel
theorem dS_indexOf1_1 : decode cS_indexOf1 1 = .ok (.iload_n 1, 1) := by decide +kernel
theorem dS_indexOf1_2 : decode cS_indexOf1 2 = .ok (.iconst 0, 1) := by decide +kernel
theorem dS_indexOf1_3 : decode cS_indexOf1 3 = .ok (.invokevirtual 633, 3) := by decide +kernel
theorem dS_indexOf1_6 : decode cS_indexOf1 6 = .ok (.ireturn, 1) := by decide +kernel
def E_S_indexOf1 (i : Nat) (a1 : Int32) (r : Int32) : Prop := ∃ r1 : Int32, E_S_indexOf2 i a1 0 r1 ∧ (r = r1)
set_option maxHeartbeats 4000000 in
set_option maxRecDepth 100000 in
theorem e_S_indexOf1 (l : Launch) (G : PG) (Z : ZZ) (i : Nat) (hi : i < 2) (a1 : Int32) (r : Int32) (hE : E_S_indexOf1 i a1 r) : PZ l yS_indexOf1 (Cond.code yS_indexOf1 cS_indexOf1 2 (some .int) :: aW) { frames := 3, cells := 0, slots := 0, locals := 75 } Z G [.ref (Z.1 i), .int a1] (fun v => v = .int r) := by
  refine ofPZ (y := yS_indexOf1) (G := G) (cc := cS_indexOf1) (maxL := 2) (ret := (some .int)) (by decide) rfl ?_
  intro p e s m below meth c F hK hZ
  have hx := F.1.1; have hb := F.1.2.1; have hml := F.1.2.2.1; have hts := F.1.2.2.2.2
  have hown : s.vm.findClass "java/lang/String" = some m.cls := F.1.2.2.2.1
  have hS : va_S (fun q => s.heap.size ≤ q) s.heap s.heap [] := va_S.rf
  have hA0 : ∀ q, va_A [] s.heap.size q → s.heap.size ≤ q := fun q h => h.elim (fun ⟨k, e, h⟩ => by simp at h) id
  have hl := lv_entry ([.ref (Z.1 i), .int a1]) (n := 2) (Nat.le_of_ble_eq_true rfl)
  rw [lg_entry_eq]
  generalize (lg_sl ([.ref (Z.1 i), .int a1]) ++ List.replicate (2 - (lg_sl ([.ref (Z.1 i), .int a1])).length) Slot.unset).toArray = ls at hl ⊢
  have hl : lv_has ls 2 [(0, .ref (Z.1 i)), (1, .int a1)] := hl
  unfold E_S_indexOf1 at hE
  refine lv_aload_n hx hb dS_indexOf1_0 rfl (lv_at hl 0 rfl) ?_
  refine lv_iload_n hx hb dS_indexOf1_1 rfl (lv_at hl 1 rfl) ?_
  refine lv_iconst (v := 0) hx hb dS_indexOf1_2 (by decide) ?_
  obtain ⟨r1, hg, hE⟩ := hE
  refine kp_V (va_runV (As := [.int a1, .int 0]) (rest := []) F.1 (e_S_indexOf2 l G Z i hi a1 0 r1 hg _) (cwV 2 hts (aw_V w_410 w_411 w_412 w_8 w_413) rfl rfl rfl (by decide +kernel) ⟨by decide, by decide⟩) ⟨zS_blind, vk_recv hZ.1 hi hS, zS_pre va_P0 (va_D0 (A := fun q => s.heap.size ≤ q)) hK hZ hS hA0⟩ rfl rfl hl.1 rfl (lv_room (Nat.le_of_ble_eq_true rfl)) dS_indexOf1_3 ⟨Nat.le_refl _, Nat.le_refl _⟩) (fun v9 hp => ?_)
  subst hp
  have hE := hE.symm; subst hE
  exact en_V F (ty := .int) r1 (by rfl) rfl dS_indexOf1_6

/-- where a character stands in a constant, or -1 -/
def zixF (b : Int32) : List Int32 → Nat → Int32
  | [], _ => -1
  | x :: l, k => if x = b then nI k else zixF b l (k + 1)
def zix (i : Nat) (c : Int32) : Int32 := if c < 0 then -1 else if 255 < c then -1 else zixF c.toInt8.toInt32 (zByt.getD i []) 0
theorem zx_loop {i : Nat} {b r : Int32} {n : Nat} (a1 a2 : Int32) (hn : (zByt.getD i []).length = n) (hl : zLen.getD i 0 = n) (hb : n < 100) : ∀ (l : List Int32) (k : Nat), k ≤ n → (zByt.getD i []).drop k = l → r = zixF b l k → L_T_indexOfChar_7 i (l.length + 1) a1 a2 (nI n) b (nI k) r := by
  intro l
  induction l with
  | nil =>
    intro k hk e h
    have q : n ≤ k := by rw [← hn]; exact List.drop_eq_nil_iff.mp e
    show if nI n ≤ nI k then r = -1 else _
    rw [if_pos (nI_le (by omega) (by omega))]
    exact h
  | cons x l ih =>
    intro k hk e h
    have q : k < n := by
      rcases Nat.lt_or_ge k n with q | q
      · exact q
      · rw [List.drop_eq_nil_iff.mpr (by omega)] at e; cases e
    have e2 : (zByt.getD i []).getD k 0 = x ∧ (zByt.getD i []).drop (k + 1) = l := by
      have h1 := List.drop_eq_getElem_cons (l := zByt.getD i []) (i := k) (by omega)
      rw [h1] at e
      obtain ⟨h2, h3⟩ := List.cons.inj e
      refine ⟨?_, h3⟩
      rw [List.getD_eq_getElem?_getD, List.getElem?_eq_getElem (by omega), Option.getD_some]
      exact h2
    show if nI n ≤ nI k then r = -1 else (vp_in (nI k) (zLen.getD i 0) ∧ (if (zByt.getD i []).getD (nI k).toNatClampNeg 0 = b then r = nI k else L_T_indexOfChar_7 i (l.length + 1) a1 a2 (nI n) b (nI k + 1) r))
    rw [if_neg (nI_ge (by omega) (by omega))]
    refine ⟨vp_in_nI (by omega) (by omega), ?_⟩
    rw [nI_clamp (by omega), e2.1]
    rw [zixF] at h
    by_cases hc : x = b
    · rw [if_pos hc] at h ⊢; exact h
    · rw [if_neg hc] at h ⊢
      rw [← nI_succ]
      exact ih (k + 1) (by omega) e2.2 h
theorem zx_ok {i : Nat} (hi : i < 2) (c : Int32) : E_S_indexOf1 i c (zix i c) := by
  have hb : ∃ n, (zByt.getD i []).length = n ∧ zLen.getD i 0 = n ∧ 0 < n ∧ n < 100 := by
    rcases (show i = 0 ∨ i = 1 by omega) with rfl | rfl
    · exact ⟨14, rfl, rfl, by decide, by decide⟩
    · exact ⟨5, rfl, rfl, by decide, by decide⟩
  obtain ⟨n, hn, hl, h0, h9⟩ := hb
  have hlen : E_S_length i (nI n) := by
    show nI n = nI (zLen.getD i 0) >>> ((0 : Int32) &&& 31)
    rw [hl]
    exact (sc_shr0 (n := n) (by omega)).symm
  refine ⟨_, ?_, rfl⟩
  show ∃ r, E_S_length i r ∧ _
  refine ⟨nI n, hlen, ?_⟩
  refine ⟨zix i c, ?_, rfl⟩
  show ∃ r, E_T_canEncode c r ∧ _
  unfold zix
  by_cases c1 : c < 0
  · refine ⟨0, ?_, ?_⟩
    · show if c < 0 then (0 : Int32) = 0 else _
      rw [if_pos c1]
    · rw [if_pos c1]
      rfl
  · by_cases c2 : 255 < c
    · refine ⟨0, ?_, ?_⟩
      · show if c < 0 then (0 : Int32) = 0 else _
        rw [if_neg c1, if_pos c2]
      · rw [if_neg c1, if_pos c2]
        rfl
    · refine ⟨1, ?_, ?_⟩
      · show if c < 0 then (1 : Int32) = 0 else if 255 < c then (1 : Int32) = 0 else (1 : Int32) = 1
        rw [if_neg c1, if_neg c2]
      · rw [if_neg c1, if_neg c2]
        have e1 : (if (0 : Int32) < 0 then 0 else 0 : Int32) = 0 := by decide
        have e2 : (if nI (zLen.getD i 0) < nI n then nI (zLen.getD i 0) else nI n : Int32) = nI n := by rw [hl, if_neg (nI_nlt (Nat.le_refl n) (by omega))]
        have e3 : (0 : Int32) < nI n := nI_lt (a := 0) (b := n) h0 (by omega)
        rw [e1, e2]
        rw [if_neg (show ¬ (1 : Int32) = 0 by decide), if_pos e3]
        exact ⟨_, ⟨_, zx_loop c 0 hn hl h9 _ 0 (Nat.zero_le _) rfl rfl⟩, rfl⟩

theorem e_ix (l : Launch) (G : PG) (Z : ZZ) (i : Nat) (hi : i < 2) (c : Int32) : PZ l yS_indexOf1 (Cond.code yS_indexOf1 cS_indexOf1 2 (some .int) :: aW) { frames := 3, cells := 0, slots := 0, locals := 75 } Z G [.ref (Z.1 i), .int c] (fun v => v = .int (zix i c)) := e_S_indexOf1 l G Z i hi c (zix i c) (zx_ok hi c)
