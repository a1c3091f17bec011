/-! PatternMatcher.Program: contracts -/
theorem dX1_init_15 : decode cX1_init 15 = .ok (.iload_n 1, 1) := by decide +kernel
theorem dX1_init_16 : decode cX1_init 16 = .ok (.bipush 32, 2) := by decide +kernel
theorem dX1_init_18 : decode cX1_init 18 = .ok (.if_icmp .ge 23, 3) := by decide +kernel
theorem dX1_init_21 : decode cX1_init 21 = .ok (.aload_n 0, 1) := by decide +kernel
theorem dX1_init_22 : decode cX1_init 22 = .ok (.getfield 11, 3) := by decide +kernel
theorem dX1_init_25 : decode cX1_init 25 = .ok (.iload_n 1, 1) := by decide +kernel
theorem dX1_init_26 : decode cX1_init 26 = .ok (.new 9, 3) := by decide +kernel
theorem dX1_init_29 : decode cX1_init 29 = .ok (.dup, 1) := by decide +kernel
theorem dX1_init_30 : decode cX1_init 30 = .ok (.iload_n 1, 1) := by decide +kernel
theorem dX1_init_31 : decode cX1_init 31 = .ok (.invokespecial 17, 3) := by decide +kernel
theorem dX1_init_34 : decode cX1_init 34 = .ok (.aastore, 1) := by decide +kernel
theorem dX1_init_35 : decode cX1_init 35 = .ok (.iinc 1 1, 3) := by decide +kernel
theorem dX1_init_38 : decode cX1_init 38 = .ok (.goto (-23), 3) := by decide +kernel
theorem dX1_init_41 : decode cX1_init 41 = .ok (.aload_n 0, 1) := by decide +kernel
theorem dX1_init_42 : decode cX1_init 42 = .ok (.iconst 1, 1) := by decide +kernel
theorem dX1_init_43 : decode cX1_init 43 = .ok (.putfield 20, 3) := by decide +kernel
theorem dX1_init_46 : decode cX1_init 46 = .ok (.return_, 1) := by decide +kernel
set_option maxHeartbeats 4000000 in
set_option maxRecDepth 100000 in
theorem c_prog_loop (l : Launch) (G : PG) (h na : Nat) {p : Program} {e : Env} {s : State} {m : MethodId} {below : List Frame} {meth : Method} {c : Code} {A : Nat → Prop} (F : bF p s m meth c cX1_init 2 none ([.ref h] : List Value).toArray yX1_init) (hK : pg_K G s) (hA : ∀ q, s.heap.size ≤ q → A q) : ∀ (k i : Nat) (ad : Nat → Nat) (H : Heap) (locs : List Loc) (ls : Array Slot), i + k = 32 → lv_has ls 2 [(1, .int (nI i)), (0, .ref h)] → va_P G.1 vwCl (([(h, .inr (1, [.ref na, .int 0, .int 0, .int 0, .long 0])), (na, .inl (G.2 4, 32, .inr (.inr (.inr (.inr (nf ad i))))))] : va_W) ++ np ad a0 z64 z64 i) H → va_D A (([(h, .inr (1, [.ref na, .int 0, .int 0, .int 0, .long 0])), (na, .inl (G.2 4, 32, .inr (.inr (.inr (.inr (nf ad i))))))] : va_W) ++ np ad a0 z64 z64 i) → va_S A s.heap H locs → W p l e { frames := 2, cells := 33, slots := 448, locals := 61 } s m ([.ref h] : List Value).toArray below meth c H locs (1 + i) (32 + 13 * i) (MQ below (va_Qv (fun (_ : Nat × (Nat → Nat)) => True) (oB G A (fun (u : Nat × (Nat → Nat)) => (([(h, .inr (1, [.ref u.1, .int 1, .int 0, .int 0, .long 0])), (u.1, .inl (G.2 4, 32, .inr (.inr (.inr (.inr (nf u.2 32))))))] : va_W) ++ np u.2 a0 z64 z64 32))) A) ([.ref h] : List Value).toArray s 33 448 A) (F0 m 15 ls []) := by
  have hx := F.1.1; have hb := F.1.2.1; have hml := F.1.2.2.1; have hts := F.1.2.2.2.2
  have hown : s.vm.findClass RX1 = some m.cls := F.1.2.2.2.1
  intro k
  induction k with
  | zero =>
    intro i ad H locs ls hi hl hP hD hS
    obtain rfl : i = 32 := by omega
    refine lv_iload_n hx hb dX1_init_15 rfl (lv_at hl 0 rfl) ?_
    refine lv_bipush (v := 32) hx hb dX1_init_16 (by decide) ?_
    refine lv_icmp_ge (tgt := 41) hx hb dX1_init_18 (by decide) (fun _ => ?_) (fun h => absurd (by decide : (32 : Int32) ≤ nI 32) h)
    refine lv_aload_n hx hb dX1_init_41 rfl (lv_at hl 1 rfl) ?_
    refine lv_iconst (v := 1) hx hb dX1_init_42 (by decide) ?_
    refine va_put (D := G.1) (ci := 1) (v := .int 1) (ty := .int) (C := RX1) (T := TX1) (N := 5) hx hb hts inX1 tyX1 tyX1_ok nmX1 hown hK.1 hP hD hS 0 rfl rfl 1 (by decide) (hts _ w_118) (fun _ h9 => h9) rfl (by decide +kernel) rfl rfl (Nat.le_of_ble_eq_true rfl) dX1_init_43 (fun H locs hP hD hS => ?_)
    have hP : va_P G.1 vwCl (([(h, .inr (1, [.ref na, .int 1, .int 0, .int 0, .long 0])), (na, .inl (G.2 4, 32, .inr (.inr (.inr (.inr (nf ad 32))))))] : va_W) ++ np ad a0 z64 z64 32) H := hP
    have hD : va_D A (([(h, .inr (1, [.ref na, .int 1, .int 0, .int 0, .long 0])), (na, .inl (G.2 4, 32, .inr (.inr (.inr (.inr (nf ad 32))))))] : va_W) ++ np ad a0 z64 z64 32) := hD
    exact en_v F hS (na, ad) trivial hP hD (by omega) (by omega) dX1_init_46
  | succ k ih =>
    intro i ad H locs ls hi hl hP hD hS
    have hlt : i < 32 := by omega
    refine lv_iload_n hx hb dX1_init_15 rfl (lv_at hl 0 rfl) ?_
    refine lv_bipush (v := 32) hx hb dX1_init_16 (by decide) ?_
    refine lv_icmp_ge (tgt := 41) hx hb dX1_init_18 (by decide) (fun h => absurd h (nI_ge (b := 32) hlt (by decide))) (fun _ => ?_)
    refine lv_aload_n hx hb dX1_init_21 rfl (lv_at hl 1 rfl) ?_
    refine va_get (D := G.1) (ci := 1) (v := .ref na) (C := RX1) (T := TX1) (N := 5) hx hb hts inX1 hown hK.1 hP 0 rfl rfl 0 (by decide) (hts _ w_117) (fun _ h9 => h9) rfl dX1_init_22 ?_
    refine lv_iload_n hx hb dX1_init_25 rfl (lv_at hl 0 rfl) ?_
    have hqc : 1 + i + 1 ≤ 33 := by omega
    have hqs : 32 + 13 * i + 13 ≤ 448 := by omega
    refine va_new (D := G.1) (ci := 0) (fs := [.int 0, .int 0, .int 0, .int 0, .int 0, .int 0, .int 0, .int 0, .int 0, .int 0, .int 0, .long 0, .long 0]) (C := RX0) (T := TX0) (N := 13) hx hb hts inX0 tyX0 tyX0_ok hown (hts _ w_54) (hts _ w_56) (hts _ w_5) hK.1 hP hD hS hA rfl (by decide +kernel) hqc hqs dX1_init_26 (fun q1 H hP hD hS => ?_)
    have hP : va_P G.1 vwCl ((([(h, .inr (1, [.ref na, .int 0, .int 0, .int 0, .long 0])), (na, .inl (G.2 4, 32, .inr (.inr (.inr (.inr (nf ad i))))))] : va_W) ++ np ad a0 z64 z64 i) ++ [(q1, .inr (0, [.int 0, .int 0, .int 0, .int 0, .int 0, .int 0, .int 0, .int 0, .int 0, .int 0, .int 0, .long 0, .long 0]))]) H := hP
    have hD : va_D A ((([(h, .inr (1, [.ref na, .int 0, .int 0, .int 0, .long 0])), (na, .inl (G.2 4, 32, .inr (.inr (.inr (.inr (nf ad i))))))] : va_W) ++ np ad a0 z64 z64 i) ++ [(q1, .inr (0, [.int 0, .int 0, .int 0, .int 0, .int 0, .int 0, .int 0, .int 0, .int 0, .int 0, .int 0, .long 0, .long 0]))]) := hD
    have hP := hP.swap; have hD := hD.swap
    have hP : va_P G.1 vwCl (([(h, .inr (1, [.ref na, .int 0, .int 0, .int 0, .long 0])), (na, .inl (G.2 4, 32, .inr (.inr (.inr (.inr (nf ad i)))))), (q1, .inr (0, [.int 0, .int 0, .int 0, .int 0, .int 0, .int 0, .int 0, .int 0, .int 0, .int 0, .int 0, .long 0, .long 0]))] : va_W) ++ np ad a0 z64 z64 i) H := hP
    have hD : va_D A (([(h, .inr (1, [.ref na, .int 0, .int 0, .int 0, .long 0])), (na, .inl (G.2 4, 32, .inr (.inr (.inr (.inr (nf ad i)))))), (q1, .inr (0, [.int 0, .int 0, .int 0, .int 0, .int 0, .int 0, .int 0, .int 0, .int 0, .int 0, .int 0, .long 0, .long 0]))] : va_W) ++ np ad a0 z64 z64 i) := hD
    refine W.widen (k := 1 + i + 1) (n := 32 + 13 * i + 13) (by omega) (by omega) ?_
    refine lv_dup hx hb dX1_init_29 rfl ?_
    refine lv_iload_n hx hb dX1_init_30 rfl (lv_at hl 0 rfl) ?_
    have hPc := hP.sub (ws' := [(q1, .inr (0, [.int 0, .int 0, .int 0, .int 0, .int 0, .int 0, .int 0, .int 0, .int 0, .int 0, .int 0, .long 0, .long 0]))]) [2] rfl
    have hDc := hD.sub (ws' := [(q1, .inr (0, [.int 0, .int 0, .int 0, .int 0, .int 0, .int 0, .int 0, .int 0, .int 0, .int 0, .int 0, .long 0, .long 0]))]) [2] (by decide) rfl
    have hqc : 1 + i + 1 + 0 ≤ 33 ∧ 32 + 13 * i + 13 + 0 ≤ 448 := ⟨by omega, by omega⟩
    refine kl_vQ (wr := [(h, .inr (1, [.ref na, .int 0, .int 0, .int 0, .long 0])), (na, .inl (G.2 4, 32, .inr (.inr (.inr (.inr (nf ad i))))))]) (va_runI (As := [.int (nI i)]) (rest := [.ref q1, .int (nI i), .ref na]) F.1 (c_node_init l G _ (nI i) _) (cwI 1 hts (aw_G w_59) rfl rfl rfl (hts _ w_5) (hts _ w_57) (hts _ w_58) rfl (by decide +kernel) ⟨by decide, by decide⟩) ⟨cS_blind, cS_pre hPc hDc hK⟩ rfl rfl hl.1 rfl (lv_room (Nat.le_of_ble_eq_true rfl)) dX1_init_31 hqc) hP hD hS hA [2] [0, 1] rfl rfl (by decide) (by decide) (fun u H locs hp hP hD hS => ?_)
    have hP : va_P G.1 vwCl (([(h, .inr (1, [.ref na, .int 0, .int 0, .int 0, .long 0])), (na, .inl (G.2 4, 32, .inr (.inr (.inr (.inr (nf ad i)))))), (q1, .inr (0, [.int (nI i), .int 0, .int 0, .int 0, .int 0, .int 0, .int 0, .int 0, .int 0, .int 0, .int 0, .long 0, .long 0]))] : va_W) ++ np ad a0 z64 z64 i) H := hP
    have hD : va_D A (([(h, .inr (1, [.ref na, .int 0, .int 0, .int 0, .long 0])), (na, .inl (G.2 4, 32, .inr (.inr (.inr (.inr (nf ad i)))))), (q1, .inr (0, [.int (nI i), .int 0, .int 0, .int 0, .int 0, .int 0, .int 0, .int 0, .int 0, .int 0, .int 0, .long 0, .long 0]))] : va_W) ++ np ad a0 z64 z64 i) := hD
    refine va_astq (D := G.1) hx hb hK.1 hP hD hS 1 4 2 0 rfl rfl rfl rfl (vp_in_nI hlt (by decide)) dX1_init_34 (fun H locs hP hD hS => ?_)
    rw [nI_clamp (by omega), nf_push] at hP hD
    have hP : va_P G.1 vwCl (([(h, .inr (1, [.ref na, .int 0, .int 0, .int 0, .long 0])), (na, .inl (G.2 4, 32, .inr (.inr (.inr (.inr (nf (va_up ad i q1) (i + 1))))))), (q1, .inr (0, [.int (nI i), .int 0, .int 0, .int 0, .int 0, .int 0, .int 0, .int 0, .int 0, .int 0, .int 0, .long 0, .long 0]))] : va_W) ++ np ad a0 z64 z64 i) H := hP
    have hD : va_D A (([(h, .inr (1, [.ref na, .int 0, .int 0, .int 0, .long 0])), (na, .inl (G.2 4, 32, .inr (.inr (.inr (.inr (nf (va_up ad i q1) (i + 1))))))), (q1, .inr (0, [.int (nI i), .int 0, .int 0, .int 0, .int 0, .int 0, .int 0, .int 0, .int 0, .int 0, .int 0, .long 0, .long 0]))] : va_W) ++ np ad a0 z64 z64 i) := hD
    refine lv_iinc (v := (nI (i + 1))) (k := 0) hx hb dX1_init_35 hl rfl (nI_1 i) (by decide) rfl (fun ls hl => ?_)
    have hl : lv_has ls 2 [(1, .int (nI (i + 1))), (0, .ref h)] := hl
    refine lv_goto (tgt := 15) hx hb dX1_init_38 (by decide) ?_
    have hP : va_P G.1 vwCl ((([(h, .inr (1, [.ref na, .int 0, .int 0, .int 0, .long 0])), (na, .inl (G.2 4, 32, .inr (.inr (.inr (.inr (nf (va_up ad i q1) (i + 1)))))))] : va_W) ++ [(q1, .inr (0, ndF (a0 i) (z64 i) (z64 i)))]) ++ np ad a0 z64 z64 i) H := hP
    have hD : va_D A ((([(h, .inr (1, [.ref na, .int 0, .int 0, .int 0, .long 0])), (na, .inl (G.2 4, 32, .inr (.inr (.inr (.inr (nf (va_up ad i q1) (i + 1)))))))] : va_W) ++ [(q1, .inr (0, ndF (a0 i) (z64 i) (z64 i)))]) ++ np ad a0 z64 z64 i) := hD
    have hP := hP.swap
    have hD := hD.swap
    rw [List.append_assoc, np_push] at hP hD
    refine W.widen (k := 1 + (i + 1)) (n := 32 + 13 * (i + 1)) (by omega) (by omega) ?_
    exact ih (i + 1) (va_up ad i q1) H locs ls (by omega) hl hP hD hS
theorem dX1_init_0 : decode cX1_init 0 = .ok (.aload_n 0, 1) := by decide +kernel
theorem dX1_init_1 : decode cX1_init 1 = .ok (.invokespecial 3, 3) := by decide +kernel
theorem dX1_init_4 : decode cX1_init 4 = .ok (.aload_n 0, 1) := by decide +kernel
theorem dX1_init_5 : decode cX1_init 5 = .ok (.bipush 32, 2) := by decide +kernel
theorem dX1_init_7 : decode cX1_init 7 = .ok (.anewarray 9, 3) := by decide +kernel
theorem dX1_init_10 : decode cX1_init 10 = .ok (.putfield 11, 3) := by decide +kernel
theorem dX1_init_13 : decode cX1_init 13 = .ok (.iconst 0, 1) := by decide +kernel
theorem dX1_init_14 : decode cX1_init 14 = .ok (.istore_n 1, 1) := by decide +kernel
set_option maxHeartbeats 4000000 in
set_option maxRecDepth 100000 in
theorem c_prog_init (l : Launch) (G : PG) (h : Nat) : Cv l yX1_init (Cond.code yX1_init cX1_init 2 none :: aW) { frames := 2, cells := 33, slots := 448, locals := 61 } G [(h, .inr (1, [.null, .int 0, .int 0, .int 0, .long 0]))] [.ref h] (S := Nat × (Nat → Nat)) (fun (_ : Nat × (Nat → Nat)) => True) (fun (u : Nat × (Nat → Nat)) => (([(h, .inr (1, [.ref u.1, .int 1, .int 0, .int 0, .long 0])), (u.1, .inl (G.2 4, 32, .inr (.inr (.inr (.inr (nf u.2 32))))))] : va_W) ++ np u.2 a0 z64 z64 32)) 33 448 := by
  refine ofB (y := yX1_init) (G := G) (cc := cX1_init) (maxL := 2) (ret := none) (Qc := fun A => va_Qv (fun (_ : Nat × (Nat → Nat)) => True) (oB G A (fun (u : Nat × (Nat → Nat)) => (([(h, .inr (1, [.ref u.1, .int 1, .int 0, .int 0, .long 0])), (u.1, .inl (G.2 4, 32, .inr (.inr (.inr (.inr (nf u.2 32))))))] : va_W) ++ np u.2 a0 z64 z64 32))) A) (by decide) rfl ?_
  intro p e s m below meth c A F hK hA hP hD
  have hx := F.1.1; have hb := F.1.2.1; have hml := F.1.2.2.1; have hts := F.1.2.2.2.2
  have hown : s.vm.findClass RX1 = some m.cls := F.1.2.2.2.1
  have hin : meth.name = "<init>" := F.2.2.2
  have hS : va_S A s.heap s.heap [] := va_S.rf
  have hl := lv_entry ([.ref h]) (n := 2) (Nat.le_of_ble_eq_true rfl)
  rw [lg_entry_eq]
  generalize (lg_sl ([.ref h]) ++ List.replicate (2 - (lg_sl ([.ref h])).length) Slot.unset).toArray = ls at hl ⊢
  have hl : lv_has ls 2 [(0, .ref h)] := hl
  refine lv_aload_n hx hb dX1_init_0 rfl (lv_at hl 0 rfl) ?_
  refine W.objInit hx hb hown (hts _ w_53) (hts _ w_26) (hts _ w_27) rfl (by rw [hml]; exact hl.1) rfl dX1_init_1 (Nat.le_of_ble_eq_true rfl) (Nat.le_of_ble_eq_true rfl) ?_
  refine W.eq (g2 := F0 m 4 ls []) rfl ?_
  refine lv_aload_n hx hb dX1_init_4 rfl (lv_at hl 0 rfl) ?_
  refine lv_bipush (v := 32) hx hb dX1_init_5 (by decide) ?_
  have hqc : 0 + 1 ≤ 33 := by omega
  have hqs : 0 + 32 ≤ 448 := by omega
  refine pg_newq (i := 4) (C := RX0) (N' := 32) hx hb hown (hts _ w_54) hK.2.2.1 hK rfl hP hD hS hA (by decide) (by decide) (by decide) hqc hqs dX1_init_7 (fun q1 H hP hD hS => ?_)
  have hP : va_P G.1 vwCl [(h, .inr (1, [.null, .int 0, .int 0, .int 0, .long 0])), (q1, .inl (G.2 4, 32, .inr (.inr (.inr (.inr (fun _ => none))))))] H := hP
  have hD : va_D A [(h, .inr (1, [.null, .int 0, .int 0, .int 0, .long 0])), (q1, .inl (G.2 4, 32, .inr (.inr (.inr (.inr (fun _ => none))))))] := hD
  refine W.widen (k := 1) (n := 32) (by omega) (by omega) ?_
  refine va_putF (D := G.1) (ci := 1) (v := .ref q1) (ty := .array (.object "PatternMatcher$Node")) (C := RX1) (T := TX1) (N := 5) hx hb hts inX1 tyX1 tyX1_ok nmX1 hown hK.1 hP hD hS 0 rfl rfl 0 (by decide) (hts _ w_117) (fun _ h9 => h9) rfl hin rfl (by decide +kernel) rfl rfl (Nat.le_of_ble_eq_true rfl) dX1_init_10 (fun H locs hP hD hS => ?_)
  have hP : va_P G.1 vwCl [(h, .inr (1, [.ref q1, .int 0, .int 0, .int 0, .long 0])), (q1, .inl (G.2 4, 32, .inr (.inr (.inr (.inr (fun _ => none))))))] H := hP
  have hD : va_D A [(h, .inr (1, [.ref q1, .int 0, .int 0, .int 0, .long 0])), (q1, .inl (G.2 4, 32, .inr (.inr (.inr (.inr (fun _ => none))))))] := hD
  refine lv_iconst (v := 0) hx hb dX1_init_13 (by decide) ?_
  refine lv_istore_n hx hb dX1_init_14 rfl hl (by decide) rfl (fun ls hl => ?_)
  have hl : lv_has ls 2 [(1, .int 0), (0, .ref h)] := hl
  rw [nf_0 (ad := fun _ => 0)] at hP hD
  exact c_prog_loop l G h q1 F hK hA 32 0 (fun _ => 0) H locs ls rfl hl hP hD hS

theorem dX1_restart_0 : decode cX1_restart 0 = .ok (.aload_n 0, 1) := by decide +kernel
theorem dX1_restart_1 : decode cX1_restart 1 = .ok (.iconst 1, 1) := by decide +kernel
theorem dX1_restart_2 : decode cX1_restart 2 = .ok (.putfield 20, 3) := by decide +kernel
theorem dX1_restart_5 : decode cX1_restart 5 = .ok (.aload_n 0, 1) := by decide +kernel
theorem dX1_restart_6 : decode cX1_restart 6 = .ok (.iconst 0, 1) := by decide +kernel
theorem dX1_restart_7 : decode cX1_restart 7 = .ok (.putfield 24, 3) := by decide +kernel
theorem dX1_restart_10 : decode cX1_restart 10 = .ok (.aload_n 0, 1) := by decide +kernel
theorem dX1_restart_11 : decode cX1_restart 11 = .ok (.iconst 0, 1) := by decide +kernel
theorem dX1_restart_12 : decode cX1_restart 12 = .ok (.putfield 27, 3) := by decide +kernel
theorem dX1_restart_15 : decode cX1_restart 15 = .ok (.aload_n 0, 1) := by decide +kernel
theorem dX1_restart_16 : decode cX1_restart 16 = .ok (.lconst 0, 1) := by decide +kernel
theorem dX1_restart_17 : decode cX1_restart 17 = .ok (.putfield 30, 3) := by decide +kernel
theorem dX1_restart_20 : decode cX1_restart 20 = .ok (.return_, 1) := by decide +kernel
set_option maxHeartbeats 4000000 in
set_option maxRecDepth 100000 in
theorem c_prog_restart (l : Launch) (G : PG) (h na : Nat) (ct fi gr : Int32) (aq : Int64) (ad : Nat → Nat) (a : Nat → Nat → Int32) (lo hi : Nat → Int64) : Cv l yX1_restart (Cond.code yX1_restart cX1_restart 1 none :: aW) { frames := 0, cells := 0, slots := 0, locals := 0 } G (([(h, .inr (1, [.ref na, .int ct, .int fi, .int gr, .long aq])), (na, .inl (G.2 4, 32, .inr (.inr (.inr (.inr (nf ad 32))))))] : va_W) ++ np ad a lo hi 32) [.ref h] (S := Unit) (fun (_ : Unit) => True) (fun (_ : Unit) => (([(h, .inr (1, [.ref na, .int 1, .int 0, .int 0, .long 0])), (na, .inl (G.2 4, 32, .inr (.inr (.inr (.inr (nf ad 32))))))] : va_W) ++ np ad a lo hi 32)) 0 0 := by
  refine ofB (y := yX1_restart) (G := G) (cc := cX1_restart) (maxL := 1) (ret := none) (Qc := fun A => va_Qv (fun (_ : Unit) => True) (oB G A (fun (_ : Unit) => (([(h, .inr (1, [.ref na, .int 1, .int 0, .int 0, .long 0])), (na, .inl (G.2 4, 32, .inr (.inr (.inr (.inr (nf ad 32))))))] : va_W) ++ np ad a lo hi 32))) A) (by decide) rfl ?_
  intro p e s m below meth c A F hK hA hP hD
  have hx := F.1.1; have hb := F.1.2.1; have hml := F.1.2.2.1; have hts := F.1.2.2.2.2
  have hown : s.vm.findClass RX1 = some m.cls := F.1.2.2.2.1
  have hS : va_S A s.heap s.heap [] := va_S.rf
  have hl := lv_entry ([.ref h]) (n := 1) (Nat.le_of_ble_eq_true rfl)
  rw [lg_entry_eq]
  generalize (lg_sl ([.ref h]) ++ List.replicate (1 - (lg_sl ([.ref h])).length) Slot.unset).toArray = ls at hl ⊢
  have hl : lv_has ls 1 [(0, .ref h)] := hl
  refine lv_aload_n hx hb dX1_restart_0 rfl (lv_at hl 0 rfl) ?_
  refine lv_iconst (v := 1) hx hb dX1_restart_1 (by decide) ?_
  refine va_put (D := G.1) (ci := 1) (v := .int 1) (ty := .int) (C := RX1) (T := TX1) (N := 5) hx hb hts inX1 tyX1 tyX1_ok nmX1 hown hK.1 hP hD hS 0 rfl rfl 1 (by decide) (hts _ w_118) (fun _ h9 => h9) rfl (by decide +kernel) rfl rfl (Nat.le_of_ble_eq_true rfl) dX1_restart_2 (fun H locs hP hD hS => ?_)
  have hP : va_P G.1 vwCl (([(h, .inr (1, [.ref na, .int 1, .int fi, .int gr, .long aq])), (na, .inl (G.2 4, 32, .inr (.inr (.inr (.inr (nf ad 32))))))] : va_W) ++ np ad a lo hi 32) H := hP
  have hD : va_D A (([(h, .inr (1, [.ref na, .int 1, .int fi, .int gr, .long aq])), (na, .inl (G.2 4, 32, .inr (.inr (.inr (.inr (nf ad 32))))))] : va_W) ++ np ad a lo hi 32) := hD
  refine lv_aload_n hx hb dX1_restart_5 rfl (lv_at hl 0 rfl) ?_
  refine lv_iconst (v := 0) hx hb dX1_restart_6 (by decide) ?_
  refine va_put (D := G.1) (ci := 1) (v := .int 0) (ty := .int) (C := RX1) (T := TX1) (N := 5) hx hb hts inX1 tyX1 tyX1_ok nmX1 hown hK.1 hP hD hS 0 rfl rfl 2 (by decide) (hts _ w_119) (fun _ h9 => h9) rfl (by decide +kernel) rfl rfl (Nat.le_of_ble_eq_true rfl) dX1_restart_7 (fun H locs hP hD hS => ?_)
  have hP : va_P G.1 vwCl (([(h, .inr (1, [.ref na, .int 1, .int 0, .int gr, .long aq])), (na, .inl (G.2 4, 32, .inr (.inr (.inr (.inr (nf ad 32))))))] : va_W) ++ np ad a lo hi 32) H := hP
  have hD : va_D A (([(h, .inr (1, [.ref na, .int 1, .int 0, .int gr, .long aq])), (na, .inl (G.2 4, 32, .inr (.inr (.inr (.inr (nf ad 32))))))] : va_W) ++ np ad a lo hi 32) := hD
  refine lv_aload_n hx hb dX1_restart_10 rfl (lv_at hl 0 rfl) ?_
  refine lv_iconst (v := 0) hx hb dX1_restart_11 (by decide) ?_
  refine va_put (D := G.1) (ci := 1) (v := .int 0) (ty := .int) (C := RX1) (T := TX1) (N := 5) hx hb hts inX1 tyX1 tyX1_ok nmX1 hown hK.1 hP hD hS 0 rfl rfl 3 (by decide) (hts _ w_122) (fun _ h9 => h9) rfl (by decide +kernel) rfl rfl (Nat.le_of_ble_eq_true rfl) dX1_restart_12 (fun H locs hP hD hS => ?_)
  have hP : va_P G.1 vwCl (([(h, .inr (1, [.ref na, .int 1, .int 0, .int 0, .long aq])), (na, .inl (G.2 4, 32, .inr (.inr (.inr (.inr (nf ad 32))))))] : va_W) ++ np ad a lo hi 32) H := hP
  have hD : va_D A (([(h, .inr (1, [.ref na, .int 1, .int 0, .int 0, .long aq])), (na, .inl (G.2 4, 32, .inr (.inr (.inr (.inr (nf ad 32))))))] : va_W) ++ np ad a lo hi 32) := hD
  refine lv_aload_n hx hb dX1_restart_15 rfl (lv_at hl 0 rfl) ?_
  refine lv_lconst (v := 0) hx hb dX1_restart_16 (by decide) ?_
  refine va_put (D := G.1) (ci := 1) (v := .long 0) (ty := .long) (C := RX1) (T := TX1) (N := 5) hx hb hts inX1 tyX1 tyX1_ok nmX1 hown hK.1 hP hD hS 0 rfl rfl 4 (by decide) (hts _ w_125) (fun _ h9 => h9) rfl (by decide +kernel) rfl rfl (Nat.le_of_ble_eq_true rfl) dX1_restart_17 (fun H locs hP hD hS => ?_)
  have hP : va_P G.1 vwCl (([(h, .inr (1, [.ref na, .int 1, .int 0, .int 0, .long 0])), (na, .inl (G.2 4, 32, .inr (.inr (.inr (.inr (nf ad 32))))))] : va_W) ++ np ad a lo hi 32) H := hP
  have hD : va_D A (([(h, .inr (1, [.ref na, .int 1, .int 0, .int 0, .long 0])), (na, .inl (G.2 4, 32, .inr (.inr (.inr (.inr (nf ad 32))))))] : va_W) ++ np ad a lo hi 32) := hD
  exact en_v F hS () trivial hP hD (by omega) (by omega) dX1_restart_20

theorem dX1_add_0 : decode cX1_add 0 = .ok (.aload_n 0, 1) := by decide +kernel
theorem dX1_add_1 : decode cX1_add 1 = .ok (.getfield 20, 3) := by decide +kernel
theorem dX1_add_4 : decode cX1_add 4 = .ok (.aload_n 0, 1) := by decide +kernel
theorem dX1_add_5 : decode cX1_add 5 = .ok (.getfield 11, 3) := by decide +kernel
theorem dX1_add_8 : decode cX1_add 8 = .ok (.arraylength, 1) := by decide +kernel
theorem dX1_add_9 : decode cX1_add 9 = .ok (.if_icmp .lt 5, 3) := by decide +kernel
theorem dX1_add_14 : decode cX1_add 14 = .ok (.aload_n 0, 1) := by decide +kernel
theorem dX1_add_15 : decode cX1_add 15 = .ok (.getfield 11, 3) := by decide +kernel
theorem dX1_add_18 : decode cX1_add 18 = .ok (.aload_n 0, 1) := by decide +kernel
theorem dX1_add_19 : decode cX1_add 19 = .ok (.getfield 20, 3) := by decide +kernel
theorem dX1_add_22 : decode cX1_add 22 = .ok (.aaload, 1) := by decide +kernel
theorem dX1_add_23 : decode cX1_add 23 = .ok (.astore_n 2, 1) := by decide +kernel
theorem dX1_add_24 : decode cX1_add 24 = .ok (.aload_n 2, 1) := by decide +kernel
theorem dX1_add_25 : decode cX1_add 25 = .ok (.iload_n 1, 1) := by decide +kernel
theorem dX1_add_26 : decode cX1_add 26 = .ok (.putfield 34, 3) := by decide +kernel
theorem dX1_add_29 : decode cX1_add 29 = .ok (.aload_n 2, 1) := by decide +kernel
theorem dX1_add_30 : decode cX1_add 30 = .ok (.iconst 0, 1) := by decide +kernel
theorem dX1_add_31 : decode cX1_add 31 = .ok (.putfield 37, 3) := by decide +kernel
theorem dX1_add_34 : decode cX1_add 34 = .ok (.aload_n 2, 1) := by decide +kernel
theorem dX1_add_35 : decode cX1_add 35 = .ok (.iconst 0, 1) := by decide +kernel
theorem dX1_add_36 : decode cX1_add 36 = .ok (.putfield 40, 3) := by decide +kernel
theorem dX1_add_39 : decode cX1_add 39 = .ok (.aload_n 0, 1) := by decide +kernel
theorem dX1_add_40 : decode cX1_add 40 = .ok (.dup, 1) := by decide +kernel
theorem dX1_add_41 : decode cX1_add 41 = .ok (.getfield 20, 3) := by decide +kernel
theorem dX1_add_44 : decode cX1_add 44 = .ok (.iconst 1, 1) := by decide +kernel
theorem dX1_add_45 : decode cX1_add 45 = .ok (.iadd, 1) := by decide +kernel
theorem dX1_add_46 : decode cX1_add 46 = .ok (.putfield 20, 3) := by decide +kernel
theorem dX1_add_49 : decode cX1_add 49 = .ok (.aload_n 2, 1) := by decide +kernel
theorem dX1_add_50 : decode cX1_add 50 = .ok (.getfield 43, 3) := by decide +kernel
theorem dX1_add_53 : decode cX1_add 53 = .ok (.ireturn, 1) := by decide +kernel
set_option maxHeartbeats 4000000 in
set_option maxRecDepth 100000 in
theorem c_prog_add (l : Launch) (G : PG) (h na j : Nat) (fi gr : Int32) (aq : Int64) (ad : Nat → Nat) (a : Nat → Nat → Int32) (lo hi : Nat → Int64) (kd : Int32) (hj : j < 32) : Ci l yX1_add (Cond.code yX1_add cX1_add 3 (some .int) :: aW) { frames := 0, cells := 0, slots := 0, locals := 0 } G (([(h, .inr (1, [.ref na, .int (nI j), .int fi, .int gr, .long aq])), (na, .inl (G.2 4, 32, .inr (.inr (.inr (.inr (nf ad 32))))))] : va_W) ++ np ad a lo hi 32) [.ref h, .int kd] (S := Unit) (fun (r : Int32) (_ : Unit) => r = a j 0) (fun (_ : Unit) => (([(h, .inr (1, [.ref na, .int (nI (j + 1)), .int fi, .int gr, .long aq])), (na, .inl (G.2 4, 32, .inr (.inr (.inr (.inr (nf ad 32))))))] : va_W) ++ np ad (va_up a j (upd (upd (upd (a j) 1 kd) 2 0) 3 0)) lo hi 32)) 0 0 := by
  refine ofB (y := yX1_add) (G := G) (cc := cX1_add) (maxL := 3) (ret := (some .int)) (Qc := fun A => va_Qi (fun (r : Int32) (_ : Unit) => r = a j 0) (oB G A (fun (_ : Unit) => (([(h, .inr (1, [.ref na, .int (nI (j + 1)), .int fi, .int gr, .long aq])), (na, .inl (G.2 4, 32, .inr (.inr (.inr (.inr (nf ad 32))))))] : va_W) ++ np ad (va_up a j (upd (upd (upd (a j) 1 kd) 2 0) 3 0)) lo hi 32))) A) (by decide) rfl ?_
  intro p e s m below meth c A F hK hA hP hD
  have hx := F.1.1; have hb := F.1.2.1; have hml := F.1.2.2.1; have hts := F.1.2.2.2.2
  have hown : s.vm.findClass RX1 = some m.cls := F.1.2.2.2.1
  have hS : va_S A s.heap s.heap [] := va_S.rf
  have hl := lv_entry ([.ref h, .int kd]) (n := 3) (Nat.le_of_ble_eq_true rfl)
  rw [lg_entry_eq]
  generalize (lg_sl ([.ref h, .int kd]) ++ List.replicate (3 - (lg_sl ([.ref h, .int kd])).length) Slot.unset).toArray = ls at hl ⊢
  have hl : lv_has ls 3 [(0, .ref h), (1, .int kd)] := hl
  refine lv_aload_n hx hb dX1_add_0 rfl (lv_at hl 0 rfl) ?_
  refine va_get (D := G.1) (ci := 1) (v := .int (nI j)) (C := RX1) (T := TX1) (N := 5) hx hb hts inX1 hown hK.1 hP 0 rfl rfl 1 (by decide) (hts _ w_118) (fun _ h9 => h9) rfl dX1_add_1 ?_
  refine lv_aload_n hx hb dX1_add_4 rfl (lv_at hl 0 rfl) ?_
  refine va_get (D := G.1) (ci := 1) (v := .ref na) (C := RX1) (T := TX1) (N := 5) hx hb hts inX1 hown hK.1 hP 0 rfl rfl 0 (by decide) (hts _ w_117) (fun _ h9 => h9) rfl dX1_add_5 ?_
  refine va_alen (D := G.1) (v := (nI 32)) hx hb hK.1 hP 1 4 rfl rfl rfl dX1_add_8 ?_
  refine lv_icmp_lt (tgt := 14) hx hb dX1_add_9 (by decide) (fun _ => ?_) (fun h => absurd (nI_lt (b := 32) hj (by decide)) h)
  refine lv_aload_n hx hb dX1_add_14 rfl (lv_at hl 0 rfl) ?_
  refine va_get (D := G.1) (ci := 1) (v := .ref na) (C := RX1) (T := TX1) (N := 5) hx hb hts inX1 hown hK.1 hP 0 rfl rfl 0 (by decide) (hts _ w_117) (fun _ h9 => h9) rfl dX1_add_15 ?_
  refine lv_aload_n hx hb dX1_add_18 rfl (lv_at hl 0 rfl) ?_
  refine va_get (D := G.1) (ci := 1) (v := .int (nI j)) (C := RX1) (T := TX1) (N := 5) hx hb hts inX1 hown hK.1 hP 0 rfl rfl 1 (by decide) (hts _ w_118) (fun _ h9 => h9) rfl dX1_add_19 ?_
  refine va_aldq (D := G.1) hx hb hK.1 hP 1 4 rfl rfl (vp_in_nI hj (by decide)) dX1_add_22 ?_
  refine tp_v (.ref (ad j)) (by rw [nI_clamp (by omega), nf_at hj]; rfl) ?_
  refine lv_astore_n hx hb dX1_add_23 rfl hl (by decide) rfl (fun ls hl => ?_)
  have hl : lv_has ls 3 [(2, .ref (ad j)), (0, .ref h), (1, .int kd)] := hl
  refine lv_aload_n hx hb dX1_add_24 rfl (lv_at hl 0 rfl) ?_
  refine lv_iload_n hx hb dX1_add_25 rfl (lv_at hl 2 rfl) ?_
  refine va_putN (D := G.1) (ci := 0) (v := .int kd) (ty := .int) (C := RX0) (T := TX0) (N := 13) hx hb hts inX0 tyX0 tyX0_ok nmX0 hown hK.1 hP hD hS (2 + j) (np_at 2 rfl hj rfl) rfl 1 (by decide) (hK.2.1.use w_64) (fun _ h9 => h9) rfl (by decide +kernel) rfl rfl (Nat.le_of_ble_eq_true rfl) dX1_add_26 (fun H locs hP hD hS => ?_)
  have hP : va_P G.1 vwCl ((([(h, .inr (1, [.ref na, .int (nI j), .int fi, .int gr, .long aq])), (na, .inl (G.2 4, 32, .inr (.inr (.inr (.inr (nf ad 32))))))] : va_W) ++ np ad a lo hi 32).set (2 + j) (ad j, .inr (0, ndF (upd (a j) 1 kd) (lo j) (hi j)))) H := hP
  have hD : va_D A ((([(h, .inr (1, [.ref na, .int (nI j), .int fi, .int gr, .long aq])), (na, .inl (G.2 4, 32, .inr (.inr (.inr (.inr (nf ad 32))))))] : va_W) ++ np ad a lo hi 32).set (2 + j) (ad j, .inr (0, ndF (upd (a j) 1 kd) (lo j) (hi j)))) := hD
  rw [np_up 2 rfl hj] at hP hD
  have hP : va_P G.1 vwCl (([(h, .inr (1, [.ref na, .int (nI j), .int fi, .int gr, .long aq])), (na, .inl (G.2 4, 32, .inr (.inr (.inr (.inr (nf ad 32))))))] : va_W) ++ np ad (va_up a j (upd (a j) 1 kd)) lo hi 32) H := hP
  have hD : va_D A (([(h, .inr (1, [.ref na, .int (nI j), .int fi, .int gr, .long aq])), (na, .inl (G.2 4, 32, .inr (.inr (.inr (.inr (nf ad 32))))))] : va_W) ++ np ad (va_up a j (upd (a j) 1 kd)) lo hi 32) := hD
  refine lv_aload_n hx hb dX1_add_29 rfl (lv_at hl 0 rfl) ?_
  refine lv_iconst (v := 0) hx hb dX1_add_30 (by decide) ?_
  refine va_putN (D := G.1) (ci := 0) (v := .int 0) (ty := .int) (C := RX0) (T := TX0) (N := 13) hx hb hts inX0 tyX0 tyX0_ok nmX0 hown hK.1 hP hD hS (2 + j) (np_at 2 rfl hj (va_up_self _ _ _)) rfl 2 (by decide) (hK.2.1.use w_66) (fun _ h9 => h9) rfl (by decide +kernel) rfl rfl (Nat.le_of_ble_eq_true rfl) dX1_add_31 (fun H locs hP hD hS => ?_)
  have hP : va_P G.1 vwCl ((([(h, .inr (1, [.ref na, .int (nI j), .int fi, .int gr, .long aq])), (na, .inl (G.2 4, 32, .inr (.inr (.inr (.inr (nf ad 32))))))] : va_W) ++ np ad (va_up a j (upd (a j) 1 kd)) lo hi 32).set (2 + j) (ad j, .inr (0, ndF (upd (upd (a j) 1 kd) 2 0) (lo j) (hi j)))) H := hP
  have hD : va_D A ((([(h, .inr (1, [.ref na, .int (nI j), .int fi, .int gr, .long aq])), (na, .inl (G.2 4, 32, .inr (.inr (.inr (.inr (nf ad 32))))))] : va_W) ++ np ad (va_up a j (upd (a j) 1 kd)) lo hi 32).set (2 + j) (ad j, .inr (0, ndF (upd (upd (a j) 1 kd) 2 0) (lo j) (hi j)))) := hD
  rw [np_up 2 rfl hj, bx_uu] at hP hD
  have hP : va_P G.1 vwCl (([(h, .inr (1, [.ref na, .int (nI j), .int fi, .int gr, .long aq])), (na, .inl (G.2 4, 32, .inr (.inr (.inr (.inr (nf ad 32))))))] : va_W) ++ np ad (va_up a j (upd (upd (a j) 1 kd) 2 0)) lo hi 32) H := hP
  have hD : va_D A (([(h, .inr (1, [.ref na, .int (nI j), .int fi, .int gr, .long aq])), (na, .inl (G.2 4, 32, .inr (.inr (.inr (.inr (nf ad 32))))))] : va_W) ++ np ad (va_up a j (upd (upd (a j) 1 kd) 2 0)) lo hi 32) := hD
  refine lv_aload_n hx hb dX1_add_34 rfl (lv_at hl 0 rfl) ?_
  refine lv_iconst (v := 0) hx hb dX1_add_35 (by decide) ?_
  refine va_putN (D := G.1) (ci := 0) (v := .int 0) (ty := .int) (C := RX0) (T := TX0) (N := 13) hx hb hts inX0 tyX0 tyX0_ok nmX0 hown hK.1 hP hD hS (2 + j) (np_at 2 rfl hj (va_up_self _ _ _)) rfl 3 (by decide) (hK.2.1.use w_69) (fun _ h9 => h9) rfl (by decide +kernel) rfl rfl (Nat.le_of_ble_eq_true rfl) dX1_add_36 (fun H locs hP hD hS => ?_)
  have hP : va_P G.1 vwCl ((([(h, .inr (1, [.ref na, .int (nI j), .int fi, .int gr, .long aq])), (na, .inl (G.2 4, 32, .inr (.inr (.inr (.inr (nf ad 32))))))] : va_W) ++ np ad (va_up a j (upd (upd (a j) 1 kd) 2 0)) lo hi 32).set (2 + j) (ad j, .inr (0, ndF (upd (upd (upd (a j) 1 kd) 2 0) 3 0) (lo j) (hi j)))) H := hP
  have hD : va_D A ((([(h, .inr (1, [.ref na, .int (nI j), .int fi, .int gr, .long aq])), (na, .inl (G.2 4, 32, .inr (.inr (.inr (.inr (nf ad 32))))))] : va_W) ++ np ad (va_up a j (upd (upd (a j) 1 kd) 2 0)) lo hi 32).set (2 + j) (ad j, .inr (0, ndF (upd (upd (upd (a j) 1 kd) 2 0) 3 0) (lo j) (hi j)))) := hD
  rw [np_up 2 rfl hj, bx_uu] at hP hD
  have hP : va_P G.1 vwCl (([(h, .inr (1, [.ref na, .int (nI j), .int fi, .int gr, .long aq])), (na, .inl (G.2 4, 32, .inr (.inr (.inr (.inr (nf ad 32))))))] : va_W) ++ np ad (va_up a j (upd (upd (upd (a j) 1 kd) 2 0) 3 0)) lo hi 32) H := hP
  have hD : va_D A (([(h, .inr (1, [.ref na, .int (nI j), .int fi, .int gr, .long aq])), (na, .inl (G.2 4, 32, .inr (.inr (.inr (.inr (nf ad 32))))))] : va_W) ++ np ad (va_up a j (upd (upd (upd (a j) 1 kd) 2 0) 3 0)) lo hi 32) := hD
  refine lv_aload_n hx hb dX1_add_39 rfl (lv_at hl 1 rfl) ?_
  refine lv_dup hx hb dX1_add_40 rfl ?_
  refine va_get (D := G.1) (ci := 1) (v := .int (nI j)) (C := RX1) (T := TX1) (N := 5) hx hb hts inX1 hown hK.1 hP 0 rfl rfl 1 (by decide) (hts _ w_118) (fun _ h9 => h9) rfl dX1_add_41 ?_
  refine lv_iconst (v := 1) hx hb dX1_add_44 (by decide) ?_
  refine lv_iadd hx hb dX1_add_45 ?_
  refine tp_i (nI (j + 1)) (nI_1 j) ?_
  refine va_put (D := G.1) (ci := 1) (v := .int (nI (j + 1))) (ty := .int) (C := RX1) (T := TX1) (N := 5) hx hb hts inX1 tyX1 tyX1_ok nmX1 hown hK.1 hP hD hS 0 rfl rfl 1 (by decide) (hts _ w_118) (fun _ h9 => h9) rfl (by decide +kernel) rfl rfl (Nat.le_of_ble_eq_true rfl) dX1_add_46 (fun H locs hP hD hS => ?_)
  have hP : va_P G.1 vwCl (([(h, .inr (1, [.ref na, .int (nI (j + 1)), .int fi, .int gr, .long aq])), (na, .inl (G.2 4, 32, .inr (.inr (.inr (.inr (nf ad 32))))))] : va_W) ++ np ad (va_up a j (upd (upd (upd (a j) 1 kd) 2 0) 3 0)) lo hi 32) H := hP
  have hD : va_D A (([(h, .inr (1, [.ref na, .int (nI (j + 1)), .int fi, .int gr, .long aq])), (na, .inl (G.2 4, 32, .inr (.inr (.inr (.inr (nf ad 32))))))] : va_W) ++ np ad (va_up a j (upd (upd (upd (a j) 1 kd) 2 0) 3 0)) lo hi 32) := hD
  refine lv_aload_n hx hb dX1_add_49 rfl (lv_at hl 0 rfl) ?_
  refine va_getN (D := G.1) (ci := 0) (v := .int (a j 0)) (C := RX0) (T := TX0) (N := 13) hx hb hts inX0 hown hK.1 hP (2 + j) (np_at 2 rfl hj (va_up_self _ _ _)) rfl 0 (by decide) (hK.2.1.use w_62) (fun _ h9 => h9) rfl dX1_add_50 ?_
  exact en_i F hS (a j 0) () (by rfl) rfl hP hD (by omega) (by omega) dX1_add_53

theorem dX1_add_12 : decode cX1_add 12 = .ok (.iconst 0, 1) := by decide +kernel
theorem dX1_add_13 : decode cX1_add 13 = .ok (.ireturn, 1) := by decide +kernel
set_option maxHeartbeats 4000000 in
set_option maxRecDepth 100000 in
theorem c_prog_addF (l : Launch) (G : PG) (h na : Nat) (ct fi gr : Int32) (aq : Int64) (ad : Nat → Nat) (a : Nat → Nat → Int32) (lo hi : Nat → Int64) (kd : Int32) : Ci l yX1_add (Cond.code yX1_add cX1_add 3 (some .int) :: aW) { frames := 0, cells := 0, slots := 0, locals := 0 } G (([(h, .inr (1, [.ref na, .int 32, .int fi, .int gr, .long aq])), (na, .inl (G.2 4, 32, .inr (.inr (.inr (.inr (nf ad 32))))))] : va_W) ++ np ad a lo hi 32) [.ref h, .int kd] (S := Unit) (fun (r : Int32) (_ : Unit) => r = 0) (fun (_ : Unit) => (([(h, .inr (1, [.ref na, .int 32, .int fi, .int gr, .long aq])), (na, .inl (G.2 4, 32, .inr (.inr (.inr (.inr (nf ad 32))))))] : va_W) ++ np ad a lo hi 32)) 0 0 := by
  refine ofB (y := yX1_add) (G := G) (cc := cX1_add) (maxL := 3) (ret := (some .int)) (Qc := fun A => va_Qi (fun (r : Int32) (_ : Unit) => r = 0) (oB G A (fun (_ : Unit) => (([(h, .inr (1, [.ref na, .int 32, .int fi, .int gr, .long aq])), (na, .inl (G.2 4, 32, .inr (.inr (.inr (.inr (nf ad 32))))))] : va_W) ++ np ad a lo hi 32))) A) (by decide) rfl ?_
  intro p e s m below meth c A F hK hA hP hD
  have hx := F.1.1; have hb := F.1.2.1; have hml := F.1.2.2.1; have hts := F.1.2.2.2.2
  have hown : s.vm.findClass RX1 = some m.cls := F.1.2.2.2.1
  have hS : va_S A s.heap s.heap [] := va_S.rf
  have hl := lv_entry ([.ref h, .int kd]) (n := 3) (Nat.le_of_ble_eq_true rfl)
  rw [lg_entry_eq]
  generalize (lg_sl ([.ref h, .int kd]) ++ List.replicate (3 - (lg_sl ([.ref h, .int kd])).length) Slot.unset).toArray = ls at hl ⊢
  have hl : lv_has ls 3 [(0, .ref h), (1, .int kd)] := hl
  refine lv_aload_n hx hb dX1_add_0 rfl (lv_at hl 0 rfl) ?_
  refine va_get (D := G.1) (ci := 1) (v := .int 32) (C := RX1) (T := TX1) (N := 5) hx hb hts inX1 hown hK.1 hP 0 rfl rfl 1 (by decide) (hts _ w_118) (fun _ h9 => h9) rfl dX1_add_1 ?_
  refine lv_aload_n hx hb dX1_add_4 rfl (lv_at hl 0 rfl) ?_
  refine va_get (D := G.1) (ci := 1) (v := .ref na) (C := RX1) (T := TX1) (N := 5) hx hb hts inX1 hown hK.1 hP 0 rfl rfl 0 (by decide) (hts _ w_117) (fun _ h9 => h9) rfl dX1_add_5 ?_
  refine va_alen (D := G.1) (v := (nI 32)) hx hb hK.1 hP 1 4 rfl rfl rfl dX1_add_8 ?_
  refine lv_icmp_lt (tgt := 14) hx hb dX1_add_9 (by decide) (fun h => absurd h (by decide : ¬ (32 : Int32) < nI 32)) (fun _ => ?_)
  refine lv_iconst (v := 0) hx hb dX1_add_12 (by decide) ?_
  exact en_i F hS 0 () (by rfl) rfl hP hD (by omega) (by omega) dX1_add_13

def pn_ix (j : Nat) (i : Int32) : Nat := if i < 0 ∨ nI j ≤ i then 0 else i.toNatClampNeg
theorem pn_lt {j : Nat} {i : Int32} (h0 : 0 < j) (hj : j ≤ 32) : pn_ix j i < 32 := by
  unfold pn_ix
  split
  · omega
  · rename_i h
    have h1 : ¬ i < 0 := fun z => h (Or.inl z)
    have h2 : i < nI j := pk_lt_of (fun z => h (Or.inr z))
    have h3 := pk_at_in h1 h2 hj (by decide)
    exact Nat.not_le.mp (fun z => h3 (Or.inr z))
theorem dX1_node_0 : decode cX1_node 0 = .ok (.aload_n 0, 1) := by decide +kernel
theorem dX1_node_1 : decode cX1_node 1 = .ok (.getfield 11, 3) := by decide +kernel
theorem dX1_node_4 : decode cX1_node 4 = .ok (.iload_n 1, 1) := by decide +kernel
theorem dX1_node_5 : decode cX1_node 5 = .ok (.ifCond .lt 11, 3) := by decide +kernel
theorem dX1_node_8 : decode cX1_node 8 = .ok (.iload_n 1, 1) := by decide +kernel
theorem dX1_node_9 : decode cX1_node 9 = .ok (.aload_n 0, 1) := by decide +kernel
theorem dX1_node_10 : decode cX1_node 10 = .ok (.getfield 20, 3) := by decide +kernel
theorem dX1_node_13 : decode cX1_node 13 = .ok (.if_icmp .lt 7, 3) := by decide +kernel
theorem dX1_node_16 : decode cX1_node 16 = .ok (.iconst 0, 1) := by decide +kernel
theorem dX1_node_17 : decode cX1_node 17 = .ok (.goto 4, 3) := by decide +kernel
theorem dX1_node_20 : decode cX1_node 20 = .ok (.iload_n 1, 1) := by decide +kernel
theorem dX1_node_21 : decode cX1_node 21 = .ok (.aaload, 1) := by decide +kernel
theorem dX1_node_22 : decode cX1_node 22 = .ok (.areturn, 1) := by decide +kernel
set_option maxHeartbeats 4000000 in
set_option maxRecDepth 100000 in
theorem c_prog_node (l : Launch) (G : PG) (h na j : Nat) (fi gr : Int32) (aq : Int64) (ad : Nat → Nat) (a : Nat → Nat → Int32) (lo hi : Nat → Int64) (i : Int32) (h0 : 0 < j) (hj : j ≤ 32) : Cr l yX1_node (Cond.code yX1_node cX1_node 2 (some (.object "PatternMatcher$Node")) :: aW) { frames := 0, cells := 0, slots := 0, locals := 0 } G (([(h, .inr (1, [.ref na, .int (nI j), .int fi, .int gr, .long aq])), (na, .inl (G.2 4, 32, .inr (.inr (.inr (.inr (nf ad 32))))))] : va_W) ++ np ad a lo hi 32) [.ref h, .int i] (S := Unit) (fun (_ : Unit) => True) (fun (_ : Unit) (z : Nat) => z = ad (pn_ix j i)) (fun (_ : Unit) => (([(h, .inr (1, [.ref na, .int (nI j), .int fi, .int gr, .long aq])), (na, .inl (G.2 4, 32, .inr (.inr (.inr (.inr (nf ad 32))))))] : va_W) ++ np ad a lo hi 32)) 0 0 := by
  refine ofB (y := yX1_node) (G := G) (cc := cX1_node) (maxL := 2) (ret := (some (.object "PatternMatcher$Node"))) (Qc := fun A => va_Qr (fun (_ : Unit) => True) (oR G A (fun (_ : Unit) => (([(h, .inr (1, [.ref na, .int (nI j), .int fi, .int gr, .long aq])), (na, .inl (G.2 4, 32, .inr (.inr (.inr (.inr (nf ad 32))))))] : va_W) ++ np ad a lo hi 32)) (fun (_ : Unit) (z : Nat) => z = ad (pn_ix j i))) A) (by decide) rfl ?_
  intro p e s m below meth c A F hK hA hP hD
  have hx := F.1.1; have hb := F.1.2.1; have hml := F.1.2.2.1; have hts := F.1.2.2.2.2
  have hown : s.vm.findClass RX1 = some m.cls := F.1.2.2.2.1
  have hS : va_S A s.heap s.heap [] := va_S.rf
  have hl := lv_entry ([.ref h, .int i]) (n := 2) (Nat.le_of_ble_eq_true rfl)
  rw [lg_entry_eq]
  generalize (lg_sl ([.ref h, .int i]) ++ List.replicate (2 - (lg_sl ([.ref h, .int i])).length) Slot.unset).toArray = ls at hl ⊢
  have hl : lv_has ls 2 [(0, .ref h), (1, .int i)] := hl
  refine lv_aload_n hx hb dX1_node_0 rfl (lv_at hl 0 rfl) ?_
  refine va_get (D := G.1) (ci := 1) (v := .ref na) (C := RX1) (T := TX1) (N := 5) hx hb hts inX1 hown hK.1 hP 0 rfl rfl 0 (by decide) (hts _ w_117) (fun _ h9 => h9) rfl dX1_node_1 ?_
  refine lv_iload_n hx hb dX1_node_4 rfl (lv_at hl 1 rfl) ?_
  refine lv_if_lt (tgt := 16) hx hb dX1_node_5 (by decide) (fun h1 => ?_) (fun h1 => ?_)
  ·
    refine lv_iconst (v := 0) hx hb dX1_node_16 (by decide) ?_
    refine lv_goto (tgt := 21) hx hb dX1_node_17 (by decide) ?_
    refine va_aldq (D := G.1) hx hb hK.1 hP 1 4 rfl rfl (vp_in_nI (n := 0) (by decide) (by decide)) dX1_node_21 ?_
    refine tp_v (.ref (ad 0)) rfl ?_
    exact en_r F hS (ad 0) () trivial (congrArg ad (if_pos (Or.inl h1)).symm) hP hD (by omega) (by omega) dX1_node_22
  ·
    refine lv_iload_n hx hb dX1_node_8 rfl (lv_at hl 1 rfl) ?_
    refine lv_aload_n hx hb dX1_node_9 rfl (lv_at hl 0 rfl) ?_
    refine va_get (D := G.1) (ci := 1) (v := .int (nI j)) (C := RX1) (T := TX1) (N := 5) hx hb hts inX1 hown hK.1 hP 0 rfl rfl 1 (by decide) (hts _ w_118) (fun _ h9 => h9) rfl dX1_node_10 ?_
    refine lv_icmp_lt (tgt := 20) hx hb dX1_node_13 (by decide) (fun h2 => ?_) (fun h2 => ?_)
    ·
      refine lv_iload_n hx hb dX1_node_20 rfl (lv_at hl 1 rfl) ?_
      refine va_aldq (D := G.1) hx hb hK.1 hP 1 4 rfl rfl (pk_at_in h1 h2 hj (by decide)) dX1_node_21 ?_
      refine tp_v (.ref (ad i.toNatClampNeg)) (by rw [nf_at (Nat.not_le.mp (fun z => (pk_at_in h1 h2 hj (by decide)) (Or.inr z)))]; rfl) ?_
      exact en_r F hS (ad i.toNatClampNeg) () trivial (congrArg ad (if_neg (fun z => z.elim h1 (fun z => pk_nle h2 z))).symm) hP hD (by omega) (by omega) dX1_node_22
    ·
      refine lv_iconst (v := 0) hx hb dX1_node_16 (by decide) ?_
      refine lv_goto (tgt := 21) hx hb dX1_node_17 (by decide) ?_
      refine va_aldq (D := G.1) hx hb hK.1 hP 1 4 rfl rfl (vp_in_nI (n := 0) (by decide) (by decide)) dX1_node_21 ?_
      refine tp_v (.ref (ad 0)) rfl ?_
      exact en_r F hS (ad 0) () trivial (congrArg ad (if_pos (Or.inr (pk_le_of h2))).symm) hP hD (by omega) (by omega) dX1_node_22

