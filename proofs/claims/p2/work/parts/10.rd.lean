/-! PatternMatcher.Reader on a row that is read to its end -/
theorem pn_self {j : Nat} (h : j < 2147483647) : pn_ix (j + 1) (nI j) = j := by
  unfold pn_ix
  rw [if_neg (fun z => z.elim (nI_pos (by omega)) (nI_ge (Nat.lt_succ_self j) (by omega)))]
  exact nI_clamp (by omega)
theorem dX2_init_0 : decode cX2_init 0 = .ok (.aload_n 0, 1) := by decide +kernel
theorem dX2_init_1 : decode cX2_init 1 = .ok (.invokespecial 3, 3) := by decide +kernel
theorem dX2_init_4 : decode cX2_init 4 = .ok (.aload_n 0, 1) := by decide +kernel
theorem dX2_init_5 : decode cX2_init 5 = .ok (.aload_n 1, 1) := by decide +kernel
theorem dX2_init_6 : decode cX2_init 6 = .ok (.putfield 9, 3) := by decide +kernel
theorem dX2_init_9 : decode cX2_init 9 = .ok (.aload_n 0, 1) := by decide +kernel
theorem dX2_init_10 : decode cX2_init 10 = .ok (.aload_n 2, 1) := by decide +kernel
theorem dX2_init_11 : decode cX2_init 11 = .ok (.putfield 15, 3) := by decide +kernel
theorem dX2_init_14 : decode cX2_init 14 = .ok (.return_, 1) := by decide +kernel
set_option maxHeartbeats 4000000 in
set_option maxRecDepth 100000 in
theorem c_rd_init (l : Launch) (G : PG) (h rw pr : Nat) : Cv l yX2_init (Cond.code yX2_init cX2_init 3 none :: aW) { frames := 1, cells := 0, slots := 0, locals := 40 } G [(h, .inr (2, [.null, .null, .int 0, .int 0, .int 0, .int 0, .long 0, .long 0, .int 0, .int 0]))] [.ref h, .ref rw, .ref pr] (S := Unit) (fun (_ : Unit) => True) (fun (_ : Unit) => [(h, .inr (2, [.ref rw, .ref pr, .int 0, .int 0, .int 0, .int 0, .long 0, .long 0, .int 0, .int 0]))]) 0 0 := by
  refine ofB (y := yX2_init) (G := G) (cc := cX2_init) (maxL := 3) (ret := none) (Qc := fun A => va_Qv (fun (_ : Unit) => True) (oB G A (fun (_ : Unit) => [(h, .inr (2, [.ref rw, .ref pr, .int 0, .int 0, .int 0, .int 0, .long 0, .long 0, .int 0, .int 0]))])) A) (by decide) rfl ?_
  intro p e s m below meth c A F hK hA hP hD
  have hx := F.1.1; have hb := F.1.2.1; have hml := F.1.2.2.1; have hts := F.1.2.2.2.2
  have hown : s.vm.findClass RX2 = some m.cls := F.1.2.2.2.1
  have hin : meth.name = "<init>" := F.2.2.2
  have hS : va_S A s.heap s.heap [] := va_S.rf
  have hl := lv_entry ([.ref h, .ref rw, .ref pr]) (n := 3) (Nat.le_of_ble_eq_true rfl)
  rw [lg_entry_eq]
  generalize (lg_sl ([.ref h, .ref rw, .ref pr]) ++ List.replicate (3 - (lg_sl ([.ref h, .ref rw, .ref pr])).length) Slot.unset).toArray = ls at hl ⊢
  have hl : lv_has ls 3 [(0, .ref h), (1, .ref rw), (2, .ref pr)] := hl
  refine lv_aload_n hx hb dX2_init_0 rfl (lv_at hl 0 rfl) ?_
  refine W.objInit hx hb hown (hts _ w_274) (hts _ w_26) (hts _ w_27) rfl (by rw [hml]; exact hl.1) rfl dX2_init_1 (Nat.le_of_ble_eq_true rfl) (Nat.le_of_ble_eq_true rfl) ?_
  refine W.eq (g2 := F0 m 4 ls []) rfl ?_
  refine lv_aload_n hx hb dX2_init_4 rfl (lv_at hl 0 rfl) ?_
  refine lv_aload_n hx hb dX2_init_5 rfl (lv_at hl 1 rfl) ?_
  refine va_putF (D := G.1) (ci := 2) (v := .ref rw) (ty := .object "PatternMatcher$Row") (C := RX2) (T := TX2) (N := 10) hx hb hts inX2 tyX2 tyX2_ok nmX2 hown hK.1 hP hD hS 0 rfl rfl 0 (by decide) (hts _ w_275) (fun _ h9 => h9) rfl hin rfl (by decide +kernel) rfl rfl (Nat.le_of_ble_eq_true rfl) dX2_init_6 (fun H locs hP hD hS => ?_)
  have hP : va_P G.1 vwCl [(h, .inr (2, [.ref rw, .null, .int 0, .int 0, .int 0, .int 0, .long 0, .long 0, .int 0, .int 0]))] H := hP
  have hD : va_D A [(h, .inr (2, [.ref rw, .null, .int 0, .int 0, .int 0, .int 0, .long 0, .long 0, .int 0, .int 0]))] := hD
  refine lv_aload_n hx hb dX2_init_9 rfl (lv_at hl 0 rfl) ?_
  refine lv_aload_n hx hb dX2_init_10 rfl (lv_at hl 2 rfl) ?_
  refine va_putF (D := G.1) (ci := 2) (v := .ref pr) (ty := .object "PatternMatcher$Program") (C := RX2) (T := TX2) (N := 10) hx hb hts inX2 tyX2 tyX2_ok nmX2 hown hK.1 hP hD hS 0 rfl rfl 1 (by decide) (hts _ w_276) (fun _ h9 => h9) rfl hin rfl (by decide +kernel) rfl rfl (Nat.le_of_ble_eq_true rfl) dX2_init_11 (fun H locs hP hD hS => ?_)
  have hP : va_P G.1 vwCl [(h, .inr (2, [.ref rw, .ref pr, .int 0, .int 0, .int 0, .int 0, .long 0, .long 0, .int 0, .int 0]))] H := hP
  have hD : va_D A [(h, .inr (2, [.ref rw, .ref pr, .int 0, .int 0, .int 0, .int 0, .long 0, .long 0, .int 0, .int 0]))] := hD
  exact en_v F hS () trivial hP hD (by omega) (by omega) dX2_init_14

theorem dX2_add_0 : decode cX2_add 0 = .ok (.aload_n 0, 1) := by decide +kernel
theorem dX2_add_1 : decode cX2_add 1 = .ok (.getfield 15, 3) := by decide +kernel
theorem dX2_add_4 : decode cX2_add 4 = .ok (.iload_n 1, 1) := by decide +kernel
theorem dX2_add_5 : decode cX2_add 5 = .ok (.invokevirtual 208, 3) := by decide +kernel
theorem dX2_add_8 : decode cX2_add 8 = .ok (.istore_n 2, 1) := by decide +kernel
theorem dX2_add_9 : decode cX2_add 9 = .ok (.iload_n 2, 1) := by decide +kernel
theorem dX2_add_10 : decode cX2_add 10 = .ok (.ifCond .ne 8, 3) := by decide +kernel
theorem dX2_add_18 : decode cX2_add 18 = .ok (.iload_n 2, 1) := by decide +kernel
theorem dX2_add_19 : decode cX2_add 19 = .ok (.ireturn, 1) := by decide +kernel
set_option maxHeartbeats 4000000 in
set_option maxRecDepth 100000 in
theorem c_rd_add (l : Launch) (G : PG) (h rw pr : Nat) (at_ bad bh tl le mo : Int32) (rl rh : Int64) (na j : Nat) (fi gr : Int32) (aq : Int64) (ad : Nat → Nat) (a : Nat → Nat → Int32) (lo hi : Nat → Int64) (kd : Int32) (hj : j < 32) (hnz : ¬ a j 0 = 0) : Ci l yX2_add (Cond.code yX2_add cX2_add 3 (some .int) :: aW) { frames := 1, cells := 0, slots := 0, locals := 22 } G (([(h, .inr (2, [.ref rw, .ref pr, .int at_, .int bad, .int bh, .int tl, .long rl, .long rh, .int le, .int mo])), (pr, .inr (1, [.ref na, .int (nI j), .int fi, .int gr, .long aq])), (na, .inl (G.2 4, 32, .inr (.inr (.inr (.inr (nf ad 32))))))] : va_W) ++ np ad a lo hi 32) [.ref h, .int kd] (S := Unit) (fun (r9 : Int32) (_ : Unit) => r9 = a j 0) (fun (_ : Unit) => (([(h, .inr (2, [.ref rw, .ref pr, .int at_, .int bad, .int bh, .int tl, .long rl, .long rh, .int le, .int mo])), (pr, .inr (1, [.ref na, .int (nI (j + 1)), .int fi, .int gr, .long aq])), (na, .inl (G.2 4, 32, .inr (.inr (.inr (.inr (nf ad 32))))))] : va_W) ++ np ad (va_up a j (upd (upd (upd (a j) 1 kd) 2 0) 3 0)) lo hi 32)) 0 0 := by
  refine ofB (y := yX2_add) (G := G) (cc := cX2_add) (maxL := 3) (ret := (some .int)) (Qc := fun A => va_Qi (fun (r9 : Int32) (_ : Unit) => r9 = a j 0) (oB G A (fun (_ : Unit) => (([(h, .inr (2, [.ref rw, .ref pr, .int at_, .int bad, .int bh, .int tl, .long rl, .long rh, .int le, .int mo])), (pr, .inr (1, [.ref na, .int (nI (j + 1)), .int fi, .int gr, .long aq])), (na, .inl (G.2 4, 32, .inr (.inr (.inr (.inr (nf ad 32))))))] : va_W) ++ np ad (va_up a j (upd (upd (upd (a j) 1 kd) 2 0) 3 0)) lo hi 32))) A) (by decide) rfl ?_
  intro p e s m below meth c A F hK hA hP hD
  have hx := F.1.1; have hb := F.1.2.1; have hml := F.1.2.2.1; have hts := F.1.2.2.2.2
  have hown : s.vm.findClass RX2 = some m.cls := F.1.2.2.2.1
  have hS : va_S A s.heap s.heap [] := va_S.rf
  have hl := lv_entry ([.ref h, .int kd]) (n := 3) (Nat.le_of_ble_eq_true rfl)
  rw [lg_entry_eq]
  generalize (lg_sl ([.ref h, .int kd]) ++ List.replicate (3 - (lg_sl ([.ref h, .int kd])).length) Slot.unset).toArray = ls at hl ⊢
  have hl : lv_has ls 3 [(0, .ref h), (1, .int kd)] := hl
  refine lv_aload_n hx hb dX2_add_0 rfl (lv_at hl 0 rfl) ?_
  refine va_get (D := G.1) (ci := 2) (v := .ref pr) (C := RX2) (T := TX2) (N := 10) hx hb hts inX2 hown hK.1 hP 0 rfl rfl 1 (by decide) (hts _ w_276) (fun _ h9 => h9) rfl dX2_add_1 ?_
  refine lv_iload_n hx hb dX2_add_4 rfl (lv_at hl 1 rfl) ?_
  have hPc := hP.part (cx := [(pr, .inr (1, [.ref na, .int (nI j), .int fi, .int gr, .long aq])), (na, .inl (G.2 4, 32, .inr (.inr (.inr (.inr (nf ad 32))))))]) [1, 2] rfl
  have hDc := hD.part (cx := [(pr, .inr (1, [.ref na, .int (nI j), .int fi, .int gr, .long aq])), (na, .inl (G.2 4, 32, .inr (.inr (.inr (.inr (nf ad 32))))))]) [1, 2] (by decide) rfl
  have hqc : 0 + 0 ≤ 0 ∧ 0 + 0 ≤ 0 := ⟨by omega, by omega⟩
  refine kl_iP (wr := [(h, .inr (2, [.ref rw, .ref pr, .int at_, .int bad, .int bh, .int tl, .long rl, .long rh, .int le, .int mo]))]) (va_runV (As := [.int kd]) (rest := []) F.1 (c_prog_add l G _ _ j _ _ _ ad a lo hi kd hj _) (cwV 1 hts (aw_V w_318 w_319 w_320 w_4 w_321) rfl rfl rfl (by decide +kernel) ⟨by decide, by decide⟩) ⟨cS_blind, va_recv (q := (RX1, TX1, 5)) (ci := 1) (q0 := 0) hK.1 hPc rfl rfl, cS_pre hPc hDc hK⟩ rfl rfl hl.1 rfl (lv_room (Nat.le_of_ble_eq_true rfl)) dX2_add_5 hqc) hP hD hS hA [1, 2] [0] rfl rfl (by decide) (by decide) (fun r u H locs hp hP hD hS => ?_)
  subst hp
  have hP : va_P G.1 vwCl (([(h, .inr (2, [.ref rw, .ref pr, .int at_, .int bad, .int bh, .int tl, .long rl, .long rh, .int le, .int mo])), (pr, .inr (1, [.ref na, .int (nI (j + 1)), .int fi, .int gr, .long aq])), (na, .inl (G.2 4, 32, .inr (.inr (.inr (.inr (nf ad 32))))))] : va_W) ++ np ad (va_up a j (upd (upd (upd (a j) 1 kd) 2 0) 3 0)) lo hi 32) H := hP
  have hD : va_D A (([(h, .inr (2, [.ref rw, .ref pr, .int at_, .int bad, .int bh, .int tl, .long rl, .long rh, .int le, .int mo])), (pr, .inr (1, [.ref na, .int (nI (j + 1)), .int fi, .int gr, .long aq])), (na, .inl (G.2 4, 32, .inr (.inr (.inr (.inr (nf ad 32))))))] : va_W) ++ np ad (va_up a j (upd (upd (upd (a j) 1 kd) 2 0) 3 0)) lo hi 32) := hD
  refine lv_istore_n hx hb dX2_add_8 rfl hl (by decide) rfl (fun ls hl => ?_)
  have hl : lv_has ls 3 [(2, .int (a j 0)), (0, .ref h), (1, .int kd)] := hl
  refine lv_iload_n hx hb dX2_add_9 rfl (lv_at hl 0 rfl) ?_
  refine lv_if_ne (tgt := 18) hx hb dX2_add_10 (by decide) (fun _ => ?_) (fun h => absurd h hnz)
  refine lv_iload_n hx hb dX2_add_18 rfl (lv_at hl 0 rfl) ?_
  have hP := hP.part (cx := [(h, .inr (2, [.ref rw, .ref pr, .int at_, .int bad, .int bh, .int tl, .long rl, .long rh, .int le, .int mo])), (pr, .inr (1, [.ref na, .int (nI (j + 1)), .int fi, .int gr, .long aq])), (na, .inl (G.2 4, 32, .inr (.inr (.inr (.inr (nf ad 32))))))]) [0, 1, 2] rfl
  have hD := hD.part (cx := [(h, .inr (2, [.ref rw, .ref pr, .int at_, .int bad, .int bh, .int tl, .long rl, .long rh, .int le, .int mo])), (pr, .inr (1, [.ref na, .int (nI (j + 1)), .int fi, .int gr, .long aq])), (na, .inl (G.2 4, 32, .inr (.inr (.inr (.inr (nf ad 32))))))]) [0, 1, 2] (by decide) rfl
  exact en_i F hS (a j 0) () (by rfl) rfl hP hD (by omega) (by omega) dX2_add_19

theorem dX2_isSequenceOver_0 : decode cX2_isSequenceOver 0 = .ok (.aload_n 0, 1) := by decide +kernel
theorem dX2_isSequenceOver_1 : decode cX2_isSequenceOver 1 = .ok (.getfield 40, 3) := by decide +kernel
theorem dX2_isSequenceOver_4 : decode cX2_isSequenceOver 4 = .ok (.aload_n 0, 1) := by decide +kernel
theorem dX2_isSequenceOver_5 : decode cX2_isSequenceOver 5 = .ok (.getfield 9, 3) := by decide +kernel
theorem dX2_isSequenceOver_8 : decode cX2_isSequenceOver 8 = .ok (.invokevirtual 43, 3) := by decide +kernel
theorem dX2_isSequenceOver_11 : decode cX2_isSequenceOver 11 = .ok (.if_icmp .ge 35, 3) := by decide +kernel
theorem dX2_isSequenceOver_46 : decode cX2_isSequenceOver 46 = .ok (.iconst 1, 1) := by decide +kernel
theorem dX2_isSequenceOver_47 : decode cX2_isSequenceOver 47 = .ok (.goto 4, 3) := by decide +kernel
theorem dX2_isSequenceOver_51 : decode cX2_isSequenceOver 51 = .ok (.ireturn, 1) := by decide +kernel
set_option maxHeartbeats 4000000 in
set_option maxRecDepth 100000 in
theorem c_rd_over (l : Launch) (G : PG) (h rw pr : Nat) (at_ bad bh tl le mo : Int32) (rl rh : Int64) (rc jr : Nat) (g : Nat → Int32) (hov : nI jr ≤ at_) : Ci l yX2_isSequenceOver (Cond.code yX2_isSequenceOver cX2_isSequenceOver 1 (some .boolean) :: aW) { frames := 1, cells := 0, slots := 0, locals := 20 } G [(h, .inr (2, [.ref rw, .ref pr, .int at_, .int bad, .int bh, .int tl, .long rl, .long rh, .int le, .int mo])), (rw, .inr (3, [.ref rc, .int (nI jr)])), (rc, .inl (G.2 2, 14, .inl g))] [.ref h] (S := Unit) (fun (r9 : Int32) (_ : Unit) => r9 = 1) (fun (_ : Unit) => [(h, .inr (2, [.ref rw, .ref pr, .int at_, .int bad, .int bh, .int tl, .long rl, .long rh, .int le, .int mo])), (rw, .inr (3, [.ref rc, .int (nI jr)])), (rc, .inl (G.2 2, 14, .inl g))]) 0 0 := by
  refine ofB (y := yX2_isSequenceOver) (G := G) (cc := cX2_isSequenceOver) (maxL := 1) (ret := (some .boolean)) (Qc := fun A => va_Qi (fun (r9 : Int32) (_ : Unit) => r9 = 1) (oB G A (fun (_ : Unit) => [(h, .inr (2, [.ref rw, .ref pr, .int at_, .int bad, .int bh, .int tl, .long rl, .long rh, .int le, .int mo])), (rw, .inr (3, [.ref rc, .int (nI jr)])), (rc, .inl (G.2 2, 14, .inl g))])) A) (by decide) rfl ?_
  intro p e s m below meth c A F hK hA hP hD
  have hx := F.1.1; have hb := F.1.2.1; have hml := F.1.2.2.1; have hts := F.1.2.2.2.2
  have hown : s.vm.findClass RX2 = some m.cls := F.1.2.2.2.1
  have hS : va_S A s.heap s.heap [] := va_S.rf
  have hl := lv_entry ([.ref h]) (n := 1) (Nat.le_of_ble_eq_true rfl)
  rw [lg_entry_eq]
  generalize (lg_sl ([.ref h]) ++ List.replicate (1 - (lg_sl ([.ref h])).length) Slot.unset).toArray = ls at hl ⊢
  have hl : lv_has ls 1 [(0, .ref h)] := hl
  refine lv_aload_n hx hb dX2_isSequenceOver_0 rfl (lv_at hl 0 rfl) ?_
  refine va_get (D := G.1) (ci := 2) (v := .int at_) (C := RX2) (T := TX2) (N := 10) hx hb hts inX2 hown hK.1 hP 0 rfl rfl 2 (by decide) (hts _ w_277) (fun _ h9 => h9) rfl dX2_isSequenceOver_1 ?_
  refine lv_aload_n hx hb dX2_isSequenceOver_4 rfl (lv_at hl 0 rfl) ?_
  refine va_get (D := G.1) (ci := 2) (v := .ref rw) (C := RX2) (T := TX2) (N := 10) hx hb hts inX2 hown hK.1 hP 0 rfl rfl 0 (by decide) (hts _ w_275) (fun _ h9 => h9) rfl dX2_isSequenceOver_5 ?_
  have hPc := hP.sub (ws' := [(rw, .inr (3, [.ref rc, .int (nI jr)])), (rc, .inl (G.2 2, 14, .inl g))]) [1, 2] rfl
  have hDc := hD.sub (ws' := [(rw, .inr (3, [.ref rc, .int (nI jr)])), (rc, .inl (G.2 2, 14, .inl g))]) [1, 2] (by decide) rfl
  have hqc : 0 + 0 ≤ 0 ∧ 0 + 0 ≤ 0 := ⟨by omega, by omega⟩
  refine kl_i (wr := [(h, .inr (2, [.ref rw, .ref pr, .int at_, .int bad, .int bh, .int tl, .long rl, .long rh, .int le, .int mo]))]) (va_runV (As := []) (rest := [.int at_]) F.1 (c_row_size l G _ _ _ _ _ _) (cwV 0 hts (aw_V w_334 w_258 w_259 w_3 w_260) rfl rfl rfl (by decide +kernel) ⟨by decide, by decide⟩) ⟨cS_blind, va_recv (q := (RX3, TX3, 2)) (ci := 3) (q0 := 0) hK.1 hPc rfl rfl, cS_pre hPc hDc hK⟩ rfl rfl hl.1 rfl (lv_room (Nat.le_of_ble_eq_true rfl)) dX2_isSequenceOver_8 hqc) hP hD hS hA [1, 2] [0] rfl rfl (by decide) (by decide) (fun r u H locs hp hP hD hS => ?_)
  subst hp
  have hP : va_P G.1 vwCl [(h, .inr (2, [.ref rw, .ref pr, .int at_, .int bad, .int bh, .int tl, .long rl, .long rh, .int le, .int mo])), (rw, .inr (3, [.ref rc, .int (nI jr)])), (rc, .inl (G.2 2, 14, .inl g))] H := hP
  have hD : va_D A [(h, .inr (2, [.ref rw, .ref pr, .int at_, .int bad, .int bh, .int tl, .long rl, .long rh, .int le, .int mo])), (rw, .inr (3, [.ref rc, .int (nI jr)])), (rc, .inl (G.2 2, 14, .inl g))] := hD
  refine lv_icmp_ge (tgt := 46) hx hb dX2_isSequenceOver_11 (by decide) (fun _ => ?_) (fun h => absurd hov h)
  refine lv_iconst (v := 1) hx hb dX2_isSequenceOver_46 (by decide) ?_
  refine lv_goto (tgt := 51) hx hb dX2_isSequenceOver_47 (by decide) ?_
  exact en_i F hS 1 () (by rfl) rfl hP hD (by omega) (by omega) dX2_isSequenceOver_51

theorem dX2_sequence_0 : decode cX2_sequence 0 = .ok (.aload_n 0, 1) := by decide +kernel
theorem dX2_sequence_1 : decode cX2_sequence 1 = .ok (.bipush 10, 2) := by decide +kernel
theorem dX2_sequence_3 : decode cX2_sequence 3 = .ok (.invokevirtual 24, 3) := by decide +kernel
theorem dX2_sequence_6 : decode cX2_sequence 6 = .ok (.istore_n 3, 1) := by decide +kernel
theorem dX2_sequence_7 : decode cX2_sequence 7 = .ok (.iload_n 3, 1) := by decide +kernel
theorem dX2_sequence_8 : decode cX2_sequence 8 = .ok (.istore 4, 2) := by decide +kernel
theorem dX2_sequence_10 : decode cX2_sequence 10 = .ok (.iconst 0, 1) := by decide +kernel
theorem dX2_sequence_11 : decode cX2_sequence 11 = .ok (.istore 5, 2) := by decide +kernel
theorem dX2_sequence_13 : decode cX2_sequence 13 = .ok (.iload 5, 2) := by decide +kernel
theorem dX2_sequence_15 : decode cX2_sequence 15 = .ok (.bipush 14, 2) := by decide +kernel
theorem dX2_sequence_17 : decode cX2_sequence 17 = .ok (.if_icmp .ge 46, 3) := by decide +kernel
theorem dX2_sequence_20 : decode cX2_sequence 20 = .ok (.aload_n 0, 1) := by decide +kernel
theorem dX2_sequence_21 : decode cX2_sequence 21 = .ok (.getfield 36, 3) := by decide +kernel
theorem dX2_sequence_24 : decode cX2_sequence 24 = .ok (.ifCond .ne 39, 3) := by decide +kernel
theorem dX2_sequence_27 : decode cX2_sequence 27 = .ok (.aload_n 0, 1) := by decide +kernel
theorem dX2_sequence_28 : decode cX2_sequence 28 = .ok (.invokevirtual 64, 3) := by decide +kernel
theorem dX2_sequence_31 : decode cX2_sequence 31 = .ok (.ifCond .ne 32, 3) := by decide +kernel
theorem dX2_sequence_63 : decode cX2_sequence 63 = .ok (.aload_n 0, 1) := by decide +kernel
theorem dX2_sequence_64 : decode cX2_sequence 64 = .ok (.getfield 15, 3) := by decide +kernel
theorem dX2_sequence_67 : decode cX2_sequence 67 = .ok (.iload 4, 2) := by decide +kernel
theorem dX2_sequence_69 : decode cX2_sequence 69 = .ok (.invokevirtual 55, 3) := by decide +kernel
theorem dX2_sequence_72 : decode cX2_sequence 72 = .ok (.iload_n 1, 1) := by decide +kernel
theorem dX2_sequence_73 : decode cX2_sequence 73 = .ok (.putfield 71, 3) := by decide +kernel
theorem dX2_sequence_76 : decode cX2_sequence 76 = .ok (.iload_n 3, 1) := by decide +kernel
theorem dX2_sequence_77 : decode cX2_sequence 77 = .ok (.ireturn, 1) := by decide +kernel
set_option maxHeartbeats 4000000 in
set_option maxRecDepth 100000 in
theorem c_rd_seq0 (l : Launch) (G : PG) (h rw pr : Nat) (at_ bh tl le mo : Int32) (rl rh : Int64) (rc jr : Nat) (g : Nat → Int32) (na j : Nat) (fi gr : Int32) (aq : Int64) (ad : Nat → Nat) (a : Nat → Nat → Int32) (lo hi : Nat → Int64) (ex dp : Int32) (hov : nI jr ≤ at_) (hj : j < 32) (h0 : 0 < j) (hnum : a j 0 = nI j) : Ci l yX2_sequence (Cond.code yX2_sequence cX2_sequence 6 (some .int) :: aW) { frames := 2, cells := 0, slots := 0, locals := 44 } G (([(h, .inr (2, [.ref rw, .ref pr, .int at_, .int 0, .int bh, .int tl, .long rl, .long rh, .int le, .int mo])), (rw, .inr (3, [.ref rc, .int (nI jr)])), (rc, .inl (G.2 2, 14, .inl g)), (pr, .inr (1, [.ref na, .int (nI j), .int fi, .int gr, .long aq])), (na, .inl (G.2 4, 32, .inr (.inr (.inr (.inr (nf ad 32))))))] : va_W) ++ np ad a lo hi 32) [.ref h, .int ex, .int dp] (S := Unit) (fun (r9 : Int32) (_ : Unit) => r9 = nI j) (fun (_ : Unit) => (([(h, .inr (2, [.ref rw, .ref pr, .int at_, .int 0, .int bh, .int tl, .long rl, .long rh, .int le, .int mo])), (rw, .inr (3, [.ref rc, .int (nI jr)])), (rc, .inl (G.2 2, 14, .inl g)), (pr, .inr (1, [.ref na, .int (nI (j + 1)), .int fi, .int gr, .long aq])), (na, .inl (G.2 4, 32, .inr (.inr (.inr (.inr (nf ad 32))))))] : va_W) ++ np ad (va_up a j (upd (upd (upd (upd (a j) 1 10) 2 0) 3 0) 2 ex)) lo hi 32)) 0 0 := by
  refine ofB (y := yX2_sequence) (G := G) (cc := cX2_sequence) (maxL := 6) (ret := (some .int)) (Qc := fun A => va_Qi (fun (r9 : Int32) (_ : Unit) => r9 = nI j) (oB G A (fun (_ : Unit) => (([(h, .inr (2, [.ref rw, .ref pr, .int at_, .int 0, .int bh, .int tl, .long rl, .long rh, .int le, .int mo])), (rw, .inr (3, [.ref rc, .int (nI jr)])), (rc, .inl (G.2 2, 14, .inl g)), (pr, .inr (1, [.ref na, .int (nI (j + 1)), .int fi, .int gr, .long aq])), (na, .inl (G.2 4, 32, .inr (.inr (.inr (.inr (nf ad 32))))))] : va_W) ++ np ad (va_up a j (upd (upd (upd (upd (a j) 1 10) 2 0) 3 0) 2 ex)) lo hi 32))) A) (by decide) rfl ?_
  intro p e s m below meth c A F hK hA hP hD
  have hx := F.1.1; have hb := F.1.2.1; have hml := F.1.2.2.1; have hts := F.1.2.2.2.2
  have hown : s.vm.findClass RX2 = some m.cls := F.1.2.2.2.1
  have hS : va_S A s.heap s.heap [] := va_S.rf
  have hl := lv_entry ([.ref h, .int ex, .int dp]) (n := 6) (Nat.le_of_ble_eq_true rfl)
  rw [lg_entry_eq]
  generalize (lg_sl ([.ref h, .int ex, .int dp]) ++ List.replicate (6 - (lg_sl ([.ref h, .int ex, .int dp])).length) Slot.unset).toArray = ls at hl ⊢
  have hl : lv_has ls 6 [(0, .ref h), (1, .int ex), (2, .int dp)] := hl
  refine lv_aload_n hx hb dX2_sequence_0 rfl (lv_at hl 0 rfl) ?_
  refine lv_bipush (v := 10) hx hb dX2_sequence_1 (by decide) ?_
  have hPc := hP.part (cx := [(h, .inr (2, [.ref rw, .ref pr, .int at_, .int 0, .int bh, .int tl, .long rl, .long rh, .int le, .int mo])), (pr, .inr (1, [.ref na, .int (nI j), .int fi, .int gr, .long aq])), (na, .inl (G.2 4, 32, .inr (.inr (.inr (.inr (nf ad 32))))))]) [0, 3, 4] rfl
  have hDc := hD.part (cx := [(h, .inr (2, [.ref rw, .ref pr, .int at_, .int 0, .int bh, .int tl, .long rl, .long rh, .int le, .int mo])), (pr, .inr (1, [.ref na, .int (nI j), .int fi, .int gr, .long aq])), (na, .inl (G.2 4, 32, .inr (.inr (.inr (.inr (nf ad 32))))))]) [0, 3, 4] (by decide) rfl
  have hqc : 0 + 0 ≤ 0 ∧ 0 + 0 ≤ 0 := ⟨by omega, by omega⟩
  refine kl_iP (wr := [(rw, .inr (3, [.ref rc, .int (nI jr)])), (rc, .inl (G.2 2, 14, .inl g))]) (va_runV (As := [.int 10]) (rest := []) F.1 (c_rd_add l G _ _ _ _ 0 _ _ _ _ _ _ _ j _ _ _ ad a lo hi 10 hj (by rw [hnum]; exact nI_ne0 h0 (by omega)) _) (cwV 1 hts (aw_V w_314 w_316 ws_X2_add w_7 w_317) rfl rfl rfl (by decide +kernel) ⟨by decide, by decide⟩) ⟨cS_blind, va_recv (q := (RX2, TX2, 10)) (ci := 2) (q0 := 0) hK.1 hPc rfl rfl, cS_pre hPc hDc hK⟩ rfl rfl hl.1 rfl (lv_room (Nat.le_of_ble_eq_true rfl)) dX2_sequence_3 hqc) hP hD hS hA [0, 3, 4] [1, 2] rfl rfl (by decide) (by decide) (fun r u H locs hp hP hD hS => ?_)
  rw [hnum] at hp
  subst hp
  have hP : va_P G.1 vwCl (([(rw, .inr (3, [.ref rc, .int (nI jr)])), (rc, .inl (G.2 2, 14, .inl g)), (h, .inr (2, [.ref rw, .ref pr, .int at_, .int 0, .int bh, .int tl, .long rl, .long rh, .int le, .int mo])), (pr, .inr (1, [.ref na, .int (nI (j + 1)), .int fi, .int gr, .long aq])), (na, .inl (G.2 4, 32, .inr (.inr (.inr (.inr (nf ad 32))))))] : va_W) ++ np ad (va_up a j (upd (upd (upd (a j) 1 10) 2 0) 3 0)) lo hi 32) H := hP
  have hD : va_D A (([(rw, .inr (3, [.ref rc, .int (nI jr)])), (rc, .inl (G.2 2, 14, .inl g)), (h, .inr (2, [.ref rw, .ref pr, .int at_, .int 0, .int bh, .int tl, .long rl, .long rh, .int le, .int mo])), (pr, .inr (1, [.ref na, .int (nI (j + 1)), .int fi, .int gr, .long aq])), (na, .inl (G.2 4, 32, .inr (.inr (.inr (.inr (nf ad 32))))))] : va_W) ++ np ad (va_up a j (upd (upd (upd (a j) 1 10) 2 0) 3 0)) lo hi 32) := hD
  refine lv_istore_n hx hb dX2_sequence_6 rfl hl (by decide) rfl (fun ls hl => ?_)
  have hl : lv_has ls 6 [(3, .int (nI j)), (0, .ref h), (1, .int ex), (2, .int dp)] := hl
  refine lv_iload_n hx hb dX2_sequence_7 rfl (lv_at hl 0 rfl) ?_
  refine lv_istore hx hb dX2_sequence_8 hl (by decide) rfl (fun ls hl => ?_)
  have hl : lv_has ls 6 [(4, .int (nI j)), (3, .int (nI j)), (0, .ref h), (1, .int ex), (2, .int dp)] := hl
  refine lv_iconst (v := 0) hx hb dX2_sequence_10 (by decide) ?_
  refine lv_istore hx hb dX2_sequence_11 hl (by decide) rfl (fun ls hl => ?_)
  have hl : lv_has ls 6 [(5, .int 0), (4, .int (nI j)), (3, .int (nI j)), (0, .ref h), (1, .int ex), (2, .int dp)] := hl
  refine lv_iload hx hb dX2_sequence_13 (lv_at hl 0 rfl) ?_
  refine lv_bipush (v := 14) hx hb dX2_sequence_15 (by decide) ?_
  refine lv_icmp_ge (tgt := 63) hx hb dX2_sequence_17 (by decide) (fun h => absurd h (by decide : ¬ (14 : Int32) ≤ 0)) (fun _ => ?_)
  refine lv_aload_n hx hb dX2_sequence_20 rfl (lv_at hl 3 rfl) ?_
  refine va_get (D := G.1) (ci := 2) (v := .int 0) (C := RX2) (T := TX2) (N := 10) hx hb hts inX2 hown hK.1 hP 2 rfl rfl 3 (by decide) (hts _ w_278) (fun _ h9 => h9) rfl dX2_sequence_21 ?_
  refine lv_if_ne (tgt := 63) hx hb dX2_sequence_24 (by decide) (fun h => absurd rfl h) (fun _ => ?_)
  refine lv_aload_n hx hb dX2_sequence_27 rfl (lv_at hl 3 rfl) ?_
  have hPc := hP.sub (ws' := [(h, .inr (2, [.ref rw, .ref pr, .int at_, .int 0, .int bh, .int tl, .long rl, .long rh, .int le, .int mo])), (rw, .inr (3, [.ref rc, .int (nI jr)])), (rc, .inl (G.2 2, 14, .inl g))]) [2, 0, 1] rfl
  have hDc := hD.sub (ws' := [(h, .inr (2, [.ref rw, .ref pr, .int at_, .int 0, .int bh, .int tl, .long rl, .long rh, .int le, .int mo])), (rw, .inr (3, [.ref rc, .int (nI jr)])), (rc, .inl (G.2 2, 14, .inl g))]) [2, 0, 1] (by decide) rfl
  have hqc : 0 + 0 ≤ 0 ∧ 0 + 0 ≤ 0 := ⟨by omega, by omega⟩
  refine kl_iQ (wr := [(pr, .inr (1, [.ref na, .int (nI (j + 1)), .int fi, .int gr, .long aq])), (na, .inl (G.2 4, 32, .inr (.inr (.inr (.inr (nf ad 32))))))]) (va_runV (As := []) (rest := []) F.1 (c_rd_over l G _ _ _ _ _ _ _ _ _ _ _ _ _ _ hov _) (cwV 0 hts (aw_V w_330 w_332 ws_X2_isSequenceOver w_7 w_333) rfl rfl rfl (by decide +kernel) ⟨by decide, by decide⟩) ⟨cS_blind, va_recv (q := (RX2, TX2, 10)) (ci := 2) (q0 := 0) hK.1 hPc rfl rfl, cS_pre hPc hDc hK⟩ rfl rfl hl.1 rfl (lv_room (Nat.le_of_ble_eq_true rfl)) dX2_sequence_28 hqc) hP hD hS hA [2, 0, 1] [3, 4] rfl rfl (by decide) (by decide) (fun r u H locs hp hP hD hS => ?_)
  subst hp
  have hP : va_P G.1 vwCl (([(pr, .inr (1, [.ref na, .int (nI (j + 1)), .int fi, .int gr, .long aq])), (na, .inl (G.2 4, 32, .inr (.inr (.inr (.inr (nf ad 32)))))), (h, .inr (2, [.ref rw, .ref pr, .int at_, .int 0, .int bh, .int tl, .long rl, .long rh, .int le, .int mo])), (rw, .inr (3, [.ref rc, .int (nI jr)])), (rc, .inl (G.2 2, 14, .inl g))] : va_W) ++ np ad (va_up a j (upd (upd (upd (a j) 1 10) 2 0) 3 0)) lo hi 32) H := hP
  have hD : va_D A (([(pr, .inr (1, [.ref na, .int (nI (j + 1)), .int fi, .int gr, .long aq])), (na, .inl (G.2 4, 32, .inr (.inr (.inr (.inr (nf ad 32)))))), (h, .inr (2, [.ref rw, .ref pr, .int at_, .int 0, .int bh, .int tl, .long rl, .long rh, .int le, .int mo])), (rw, .inr (3, [.ref rc, .int (nI jr)])), (rc, .inl (G.2 2, 14, .inl g))] : va_W) ++ np ad (va_up a j (upd (upd (upd (a j) 1 10) 2 0) 3 0)) lo hi 32) := hD
  refine lv_if_ne (tgt := 63) hx hb dX2_sequence_31 (by decide) (fun _ => ?_) (fun h => absurd h (by decide : ¬ (1 : Int32) = 0))
  refine lv_aload_n hx hb dX2_sequence_63 rfl (lv_at hl 3 rfl) ?_
  refine va_get (D := G.1) (ci := 2) (v := .ref pr) (C := RX2) (T := TX2) (N := 10) hx hb hts inX2 hown hK.1 hP 2 rfl rfl 1 (by decide) (hts _ w_276) (fun _ h9 => h9) rfl dX2_sequence_64 ?_
  refine lv_iload hx hb dX2_sequence_67 (lv_at hl 1 rfl) ?_
  have hPc := hP.part (cx := [(pr, .inr (1, [.ref na, .int (nI (j + 1)), .int fi, .int gr, .long aq])), (na, .inl (G.2 4, 32, .inr (.inr (.inr (.inr (nf ad 32))))))]) [0, 1] rfl
  have hDc := hD.part (cx := [(pr, .inr (1, [.ref na, .int (nI (j + 1)), .int fi, .int gr, .long aq])), (na, .inl (G.2 4, 32, .inr (.inr (.inr (.inr (nf ad 32))))))]) [0, 1] (by decide) rfl
  have hqc : 0 + 0 ≤ 0 ∧ 0 + 0 ≤ 0 := ⟨by omega, by omega⟩
  refine kl_rP (wr := [(h, .inr (2, [.ref rw, .ref pr, .int at_, .int 0, .int bh, .int tl, .long rl, .long rh, .int le, .int mo])), (rw, .inr (3, [.ref rc, .int (nI jr)])), (rc, .inl (G.2 2, 14, .inl g))]) (va_runV (As := [.int (nI j)]) (rest := []) F.1 (c_prog_node l G _ _ (j + 1) _ _ _ ad _ lo hi (nI j) (by omega) (by omega) _) (cwV 1 hts (aw_V w_339 w_340 w_341 w_4 w_342) rfl rfl rfl (by decide +kernel) ⟨by decide, by decide⟩) ⟨cS_blind, va_recv (q := (RX1, TX1, 5)) (ci := 1) (q0 := 0) hK.1 hPc rfl rfl, cS_pre hPc hDc hK⟩ rfl rfl hl.1 rfl (lv_room (Nat.le_of_ble_eq_true rfl)) dX2_sequence_69 hqc) hP hD hS hA [0, 1] [2, 3, 4] rfl rfl (by decide) (by decide) (fun u ra H locs hp ha hP hD hS => ?_)
  rw [pn_self (by omega)] at ha
  subst ha
  have hP : va_P G.1 vwCl (([(h, .inr (2, [.ref rw, .ref pr, .int at_, .int 0, .int bh, .int tl, .long rl, .long rh, .int le, .int mo])), (rw, .inr (3, [.ref rc, .int (nI jr)])), (rc, .inl (G.2 2, 14, .inl g)), (pr, .inr (1, [.ref na, .int (nI (j + 1)), .int fi, .int gr, .long aq])), (na, .inl (G.2 4, 32, .inr (.inr (.inr (.inr (nf ad 32))))))] : va_W) ++ np ad (va_up a j (upd (upd (upd (a j) 1 10) 2 0) 3 0)) lo hi 32) H := hP
  have hD : va_D A (([(h, .inr (2, [.ref rw, .ref pr, .int at_, .int 0, .int bh, .int tl, .long rl, .long rh, .int le, .int mo])), (rw, .inr (3, [.ref rc, .int (nI jr)])), (rc, .inl (G.2 2, 14, .inl g)), (pr, .inr (1, [.ref na, .int (nI (j + 1)), .int fi, .int gr, .long aq])), (na, .inl (G.2 4, 32, .inr (.inr (.inr (.inr (nf ad 32))))))] : va_W) ++ np ad (va_up a j (upd (upd (upd (a j) 1 10) 2 0) 3 0)) lo hi 32) := hD
  refine lv_iload_n hx hb dX2_sequence_72 rfl (lv_at hl 4 rfl) ?_
  refine va_putN (D := G.1) (ci := 0) (v := .int ex) (ty := .int) (C := RX0) (T := TX0) (N := 13) hx hb hts inX0 tyX0 tyX0_ok nmX0 hown hK.1 hP hD hS (5 + j) (np_at 5 rfl hj (va_up_self _ _ _)) rfl 2 (by decide) (hK.2.1.use w_67) (fun _ h9 => h9) rfl (by decide +kernel) rfl rfl (Nat.le_of_ble_eq_true rfl) dX2_sequence_73 (fun H locs hP hD hS => ?_)
  have hP : va_P G.1 vwCl ((([(h, .inr (2, [.ref rw, .ref pr, .int at_, .int 0, .int bh, .int tl, .long rl, .long rh, .int le, .int mo])), (rw, .inr (3, [.ref rc, .int (nI jr)])), (rc, .inl (G.2 2, 14, .inl g)), (pr, .inr (1, [.ref na, .int (nI (j + 1)), .int fi, .int gr, .long aq])), (na, .inl (G.2 4, 32, .inr (.inr (.inr (.inr (nf ad 32))))))] : va_W) ++ np ad (va_up a j (upd (upd (upd (a j) 1 10) 2 0) 3 0)) lo hi 32).set (5 + j) (ad j, .inr (0, ndF (upd (upd (upd (upd (a j) 1 10) 2 0) 3 0) 2 ex) (lo j) (hi j)))) H := hP
  have hD : va_D A ((([(h, .inr (2, [.ref rw, .ref pr, .int at_, .int 0, .int bh, .int tl, .long rl, .long rh, .int le, .int mo])), (rw, .inr (3, [.ref rc, .int (nI jr)])), (rc, .inl (G.2 2, 14, .inl g)), (pr, .inr (1, [.ref na, .int (nI (j + 1)), .int fi, .int gr, .long aq])), (na, .inl (G.2 4, 32, .inr (.inr (.inr (.inr (nf ad 32))))))] : va_W) ++ np ad (va_up a j (upd (upd (upd (a j) 1 10) 2 0) 3 0)) lo hi 32).set (5 + j) (ad j, .inr (0, ndF (upd (upd (upd (upd (a j) 1 10) 2 0) 3 0) 2 ex) (lo j) (hi j)))) := hD
  rw [np_up 5 rfl hj, bx_uu] at hP hD
  have hP : va_P G.1 vwCl (([(h, .inr (2, [.ref rw, .ref pr, .int at_, .int 0, .int bh, .int tl, .long rl, .long rh, .int le, .int mo])), (rw, .inr (3, [.ref rc, .int (nI jr)])), (rc, .inl (G.2 2, 14, .inl g)), (pr, .inr (1, [.ref na, .int (nI (j + 1)), .int fi, .int gr, .long aq])), (na, .inl (G.2 4, 32, .inr (.inr (.inr (.inr (nf ad 32))))))] : va_W) ++ np ad (va_up a j (upd (upd (upd (upd (a j) 1 10) 2 0) 3 0) 2 ex)) lo hi 32) H := hP
  have hD : va_D A (([(h, .inr (2, [.ref rw, .ref pr, .int at_, .int 0, .int bh, .int tl, .long rl, .long rh, .int le, .int mo])), (rw, .inr (3, [.ref rc, .int (nI jr)])), (rc, .inl (G.2 2, 14, .inl g)), (pr, .inr (1, [.ref na, .int (nI (j + 1)), .int fi, .int gr, .long aq])), (na, .inl (G.2 4, 32, .inr (.inr (.inr (.inr (nf ad 32))))))] : va_W) ++ np ad (va_up a j (upd (upd (upd (upd (a j) 1 10) 2 0) 3 0) 2 ex)) lo hi 32) := hD
  refine lv_iload_n hx hb dX2_sequence_76 rfl (lv_at hl 2 rfl) ?_
  have hP := hP.part (cx := [(h, .inr (2, [.ref rw, .ref pr, .int at_, .int 0, .int bh, .int tl, .long rl, .long rh, .int le, .int mo])), (rw, .inr (3, [.ref rc, .int (nI jr)])), (rc, .inl (G.2 2, 14, .inl g)), (pr, .inr (1, [.ref na, .int (nI (j + 1)), .int fi, .int gr, .long aq])), (na, .inl (G.2 4, 32, .inr (.inr (.inr (.inr (nf ad 32))))))]) [0, 1, 2, 3, 4] rfl
  have hD := hD.part (cx := [(h, .inr (2, [.ref rw, .ref pr, .int at_, .int 0, .int bh, .int tl, .long rl, .long rh, .int le, .int mo])), (rw, .inr (3, [.ref rc, .int (nI jr)])), (rc, .inl (G.2 2, 14, .inl g)), (pr, .inr (1, [.ref na, .int (nI (j + 1)), .int fi, .int gr, .long aq])), (na, .inl (G.2 4, 32, .inr (.inr (.inr (.inr (nf ad 32))))))]) [0, 1, 2, 3, 4] (by decide) rfl
  exact en_i F hS (nI j) () (by rfl) rfl hP hD (by omega) (by omega) dX2_sequence_77

theorem dX2_choice_0 : decode cX2_choice 0 = .ok (.aload_n 0, 1) := by decide +kernel
theorem dX2_choice_1 : decode cX2_choice 1 = .ok (.iload_n 1, 1) := by decide +kernel
theorem dX2_choice_2 : decode cX2_choice 2 = .ok (.iload_n 2, 1) := by decide +kernel
theorem dX2_choice_3 : decode cX2_choice 3 = .ok (.invokevirtual 49, 3) := by decide +kernel
theorem dX2_choice_6 : decode cX2_choice 6 = .ok (.istore_n 3, 1) := by decide +kernel
theorem dX2_choice_7 : decode cX2_choice 7 = .ok (.iload_n 3, 1) := by decide +kernel
theorem dX2_choice_8 : decode cX2_choice 8 = .ok (.istore 4, 2) := by decide +kernel
theorem dX2_choice_10 : decode cX2_choice 10 = .ok (.iconst 0, 1) := by decide +kernel
theorem dX2_choice_11 : decode cX2_choice 11 = .ok (.istore 5, 2) := by decide +kernel
theorem dX2_choice_13 : decode cX2_choice 13 = .ok (.iload 5, 2) := by decide +kernel
theorem dX2_choice_15 : decode cX2_choice 15 = .ok (.bipush 14, 2) := by decide +kernel
theorem dX2_choice_17 : decode cX2_choice 17 = .ok (.if_icmp .ge 68, 3) := by decide +kernel
theorem dX2_choice_20 : decode cX2_choice 20 = .ok (.aload_n 0, 1) := by decide +kernel
theorem dX2_choice_21 : decode cX2_choice 21 = .ok (.getfield 36, 3) := by decide +kernel
theorem dX2_choice_24 : decode cX2_choice 24 = .ok (.ifCond .ne 61, 3) := by decide +kernel
theorem dX2_choice_27 : decode cX2_choice 27 = .ok (.aload_n 0, 1) := by decide +kernel
theorem dX2_choice_28 : decode cX2_choice 28 = .ok (.getfield 9, 3) := by decide +kernel
theorem dX2_choice_31 : decode cX2_choice 31 = .ok (.aload_n 0, 1) := by decide +kernel
theorem dX2_choice_32 : decode cX2_choice 32 = .ok (.getfield 40, 3) := by decide +kernel
theorem dX2_choice_35 : decode cX2_choice 35 = .ok (.invokevirtual 52, 3) := by decide +kernel
theorem dX2_choice_38 : decode cX2_choice 38 = .ok (.bipush 124, 2) := by decide +kernel
theorem dX2_choice_40 : decode cX2_choice 40 = .ok (.if_icmp .ne 45, 3) := by decide +kernel
theorem dX2_choice_85 : decode cX2_choice 85 = .ok (.iload_n 3, 1) := by decide +kernel
theorem dX2_choice_86 : decode cX2_choice 86 = .ok (.ireturn, 1) := by decide +kernel
set_option maxHeartbeats 4000000 in
set_option maxRecDepth 100000 in
theorem c_rd_choice0 (l : Launch) (G : PG) (h rw pr : Nat) (at_ bh tl le mo : Int32) (rl rh : Int64) (rc jr : Nat) (g : Nat → Int32) (na j : Nat) (fi gr : Int32) (aq : Int64) (ad : Nat → Nat) (a : Nat → Nat → Int32) (lo hi : Nat → Int64) (ex dp : Int32) (hov : nI jr ≤ at_) (hjr : jr ≤ 14) (hg : ∀ k, narrow .char (.int (g k)) = .int (g k)) (hj : j < 32) (h0 : 0 < j) (hnum : a j 0 = nI j) : Ci l yX2_choice (Cond.code yX2_choice cX2_choice 7 (some .int) :: aW) { frames := 3, cells := 0, slots := 0, locals := 69 } G (([(h, .inr (2, [.ref rw, .ref pr, .int at_, .int 0, .int bh, .int tl, .long rl, .long rh, .int le, .int mo])), (rw, .inr (3, [.ref rc, .int (nI jr)])), (rc, .inl (G.2 2, 14, .inl g)), (pr, .inr (1, [.ref na, .int (nI j), .int fi, .int gr, .long aq])), (na, .inl (G.2 4, 32, .inr (.inr (.inr (.inr (nf ad 32))))))] : va_W) ++ np ad a lo hi 32) [.ref h, .int ex, .int dp] (S := Unit) (fun (r9 : Int32) (_ : Unit) => r9 = nI j) (fun (_ : Unit) => (([(h, .inr (2, [.ref rw, .ref pr, .int at_, .int 0, .int bh, .int tl, .long rl, .long rh, .int le, .int mo])), (rw, .inr (3, [.ref rc, .int (nI jr)])), (rc, .inl (G.2 2, 14, .inl g)), (pr, .inr (1, [.ref na, .int (nI (j + 1)), .int fi, .int gr, .long aq])), (na, .inl (G.2 4, 32, .inr (.inr (.inr (.inr (nf ad 32))))))] : va_W) ++ np ad (va_up a j (upd (upd (upd (upd (a j) 1 10) 2 0) 3 0) 2 ex)) lo hi 32)) 0 0 := by
  refine ofB (y := yX2_choice) (G := G) (cc := cX2_choice) (maxL := 7) (ret := (some .int)) (Qc := fun A => va_Qi (fun (r9 : Int32) (_ : Unit) => r9 = nI j) (oB G A (fun (_ : Unit) => (([(h, .inr (2, [.ref rw, .ref pr, .int at_, .int 0, .int bh, .int tl, .long rl, .long rh, .int le, .int mo])), (rw, .inr (3, [.ref rc, .int (nI jr)])), (rc, .inl (G.2 2, 14, .inl g)), (pr, .inr (1, [.ref na, .int (nI (j + 1)), .int fi, .int gr, .long aq])), (na, .inl (G.2 4, 32, .inr (.inr (.inr (.inr (nf ad 32))))))] : va_W) ++ np ad (va_up a j (upd (upd (upd (upd (a j) 1 10) 2 0) 3 0) 2 ex)) lo hi 32))) A) (by decide) rfl ?_
  intro p e s m below meth c A F hK hA hP hD
  have hx := F.1.1; have hb := F.1.2.1; have hml := F.1.2.2.1; have hts := F.1.2.2.2.2
  have hown : s.vm.findClass RX2 = some m.cls := F.1.2.2.2.1
  have hS : va_S A s.heap s.heap [] := va_S.rf
  have hl := lv_entry ([.ref h, .int ex, .int dp]) (n := 7) (Nat.le_of_ble_eq_true rfl)
  rw [lg_entry_eq]
  generalize (lg_sl ([.ref h, .int ex, .int dp]) ++ List.replicate (7 - (lg_sl ([.ref h, .int ex, .int dp])).length) Slot.unset).toArray = ls at hl ⊢
  have hl : lv_has ls 7 [(0, .ref h), (1, .int ex), (2, .int dp)] := hl
  refine lv_aload_n hx hb dX2_choice_0 rfl (lv_at hl 0 rfl) ?_
  refine lv_iload_n hx hb dX2_choice_1 rfl (lv_at hl 1 rfl) ?_
  refine lv_iload_n hx hb dX2_choice_2 rfl (lv_at hl 2 rfl) ?_
  have hPc := hP.part (cx := [(h, .inr (2, [.ref rw, .ref pr, .int at_, .int 0, .int bh, .int tl, .long rl, .long rh, .int le, .int mo])), (rw, .inr (3, [.ref rc, .int (nI jr)])), (rc, .inl (G.2 2, 14, .inl g)), (pr, .inr (1, [.ref na, .int (nI j), .int fi, .int gr, .long aq])), (na, .inl (G.2 4, 32, .inr (.inr (.inr (.inr (nf ad 32))))))]) [0, 1, 2, 3, 4] rfl
  have hDc := hD.part (cx := [(h, .inr (2, [.ref rw, .ref pr, .int at_, .int 0, .int bh, .int tl, .long rl, .long rh, .int le, .int mo])), (rw, .inr (3, [.ref rc, .int (nI jr)])), (rc, .inl (G.2 2, 14, .inl g)), (pr, .inr (1, [.ref na, .int (nI j), .int fi, .int gr, .long aq])), (na, .inl (G.2 4, 32, .inr (.inr (.inr (.inr (nf ad 32))))))]) [0, 1, 2, 3, 4] (by decide) rfl
  have hqc : 0 + 0 ≤ 0 ∧ 0 + 0 ≤ 0 := ⟨by omega, by omega⟩
  refine kl_iP (wr := []) (va_runV (As := [.int ex, .int dp]) (rest := []) F.1 (c_rd_seq0 l G _ _ _ _ _ _ _ _ _ _ _ _ _ _ j _ _ _ ad a lo hi ex dp hov hj h0 hnum _) (cwV 2 hts (aw_V w_326 w_328 ws_X2_sequence w_7 w_329) rfl rfl rfl (by decide +kernel) ⟨by decide, by decide⟩) ⟨cS_blind, va_recv (q := (RX2, TX2, 10)) (ci := 2) (q0 := 0) hK.1 hPc rfl rfl, cS_pre hPc hDc hK⟩ rfl rfl hl.1 rfl (lv_room (Nat.le_of_ble_eq_true rfl)) dX2_choice_3 hqc) hP hD hS hA [0, 1, 2, 3, 4] [] rfl rfl (by decide) (by decide) (fun r u H locs hp hP hD hS => ?_)
  subst hp
  have hP : va_P G.1 vwCl (([(h, .inr (2, [.ref rw, .ref pr, .int at_, .int 0, .int bh, .int tl, .long rl, .long rh, .int le, .int mo])), (rw, .inr (3, [.ref rc, .int (nI jr)])), (rc, .inl (G.2 2, 14, .inl g)), (pr, .inr (1, [.ref na, .int (nI (j + 1)), .int fi, .int gr, .long aq])), (na, .inl (G.2 4, 32, .inr (.inr (.inr (.inr (nf ad 32))))))] : va_W) ++ np ad (va_up a j (upd (upd (upd (upd (a j) 1 10) 2 0) 3 0) 2 ex)) lo hi 32) H := hP
  have hD : va_D A (([(h, .inr (2, [.ref rw, .ref pr, .int at_, .int 0, .int bh, .int tl, .long rl, .long rh, .int le, .int mo])), (rw, .inr (3, [.ref rc, .int (nI jr)])), (rc, .inl (G.2 2, 14, .inl g)), (pr, .inr (1, [.ref na, .int (nI (j + 1)), .int fi, .int gr, .long aq])), (na, .inl (G.2 4, 32, .inr (.inr (.inr (.inr (nf ad 32))))))] : va_W) ++ np ad (va_up a j (upd (upd (upd (upd (a j) 1 10) 2 0) 3 0) 2 ex)) lo hi 32) := hD
  refine lv_istore_n hx hb dX2_choice_6 rfl hl (by decide) rfl (fun ls hl => ?_)
  have hl : lv_has ls 7 [(3, .int (nI j)), (0, .ref h), (1, .int ex), (2, .int dp)] := hl
  refine lv_iload_n hx hb dX2_choice_7 rfl (lv_at hl 0 rfl) ?_
  refine lv_istore hx hb dX2_choice_8 hl (by decide) rfl (fun ls hl => ?_)
  have hl : lv_has ls 7 [(4, .int (nI j)), (3, .int (nI j)), (0, .ref h), (1, .int ex), (2, .int dp)] := hl
  refine lv_iconst (v := 0) hx hb dX2_choice_10 (by decide) ?_
  refine lv_istore hx hb dX2_choice_11 hl (by decide) rfl (fun ls hl => ?_)
  have hl : lv_has ls 7 [(5, .int 0), (4, .int (nI j)), (3, .int (nI j)), (0, .ref h), (1, .int ex), (2, .int dp)] := hl
  refine lv_iload hx hb dX2_choice_13 (lv_at hl 0 rfl) ?_
  refine lv_bipush (v := 14) hx hb dX2_choice_15 (by decide) ?_
  refine lv_icmp_ge (tgt := 85) hx hb dX2_choice_17 (by decide) (fun h => absurd h (by decide : ¬ (14 : Int32) ≤ 0)) (fun _ => ?_)
  refine lv_aload_n hx hb dX2_choice_20 rfl (lv_at hl 3 rfl) ?_
  refine va_get (D := G.1) (ci := 2) (v := .int 0) (C := RX2) (T := TX2) (N := 10) hx hb hts inX2 hown hK.1 hP 0 rfl rfl 3 (by decide) (hts _ w_278) (fun _ h9 => h9) rfl dX2_choice_21 ?_
  refine lv_if_ne (tgt := 85) hx hb dX2_choice_24 (by decide) (fun h => absurd rfl h) (fun _ => ?_)
  refine lv_aload_n hx hb dX2_choice_27 rfl (lv_at hl 3 rfl) ?_
  refine va_get (D := G.1) (ci := 2) (v := .ref rw) (C := RX2) (T := TX2) (N := 10) hx hb hts inX2 hown hK.1 hP 0 rfl rfl 0 (by decide) (hts _ w_275) (fun _ h9 => h9) rfl dX2_choice_28 ?_
  refine lv_aload_n hx hb dX2_choice_31 rfl (lv_at hl 3 rfl) ?_
  refine va_get (D := G.1) (ci := 2) (v := .int at_) (C := RX2) (T := TX2) (N := 10) hx hb hts inX2 hown hK.1 hP 0 rfl rfl 2 (by decide) (hts _ w_277) (fun _ h9 => h9) rfl dX2_choice_32 ?_
  have hPc := hP.sub (ws' := [(rw, .inr (3, [.ref rc, .int (nI jr)])), (rc, .inl (G.2 2, 14, .inl g))]) [1, 2] rfl
  have hDc := hD.sub (ws' := [(rw, .inr (3, [.ref rc, .int (nI jr)])), (rc, .inl (G.2 2, 14, .inl g))]) [1, 2] (by decide) rfl
  have hqc : 0 + 0 ≤ 0 ∧ 0 + 0 ≤ 0 := ⟨by omega, by omega⟩
  refine kl_iQ (wr := [(h, .inr (2, [.ref rw, .ref pr, .int at_, .int 0, .int bh, .int tl, .long rl, .long rh, .int le, .int mo])), (pr, .inr (1, [.ref na, .int (nI (j + 1)), .int fi, .int gr, .long aq])), (na, .inl (G.2 4, 32, .inr (.inr (.inr (.inr (nf ad 32))))))]) (va_runV (As := [.int at_]) (rest := []) F.1 (c_row_at l G _ _ 14 jr g at_ hjr (by decide) hg _) (cwV 1 hts (aw_V w_335 w_336 w_337 w_3 w_338) rfl rfl rfl (by decide +kernel) ⟨by decide, by decide⟩) ⟨cS_blind, va_recv (q := (RX3, TX3, 2)) (ci := 3) (q0 := 0) hK.1 hPc rfl rfl, cS_pre hPc hDc hK⟩ rfl rfl hl.1 rfl (lv_room (Nat.le_of_ble_eq_true rfl)) dX2_choice_35 hqc) hP hD hS hA [1, 2] [0, 3, 4] rfl rfl (by decide) (by decide) (fun r u H locs hp hP hD hS => ?_)
  rw [show rw_at jr g at_ = 0 from if_pos (Or.inr hov)] at hp
  subst hp
  have hP : va_P G.1 vwCl (([(h, .inr (2, [.ref rw, .ref pr, .int at_, .int 0, .int bh, .int tl, .long rl, .long rh, .int le, .int mo])), (pr, .inr (1, [.ref na, .int (nI (j + 1)), .int fi, .int gr, .long aq])), (na, .inl (G.2 4, 32, .inr (.inr (.inr (.inr (nf ad 32)))))), (rw, .inr (3, [.ref rc, .int (nI jr)])), (rc, .inl (G.2 2, 14, .inl g))] : va_W) ++ np ad (va_up a j (upd (upd (upd (upd (a j) 1 10) 2 0) 3 0) 2 ex)) lo hi 32) H := hP
  have hD : va_D A (([(h, .inr (2, [.ref rw, .ref pr, .int at_, .int 0, .int bh, .int tl, .long rl, .long rh, .int le, .int mo])), (pr, .inr (1, [.ref na, .int (nI (j + 1)), .int fi, .int gr, .long aq])), (na, .inl (G.2 4, 32, .inr (.inr (.inr (.inr (nf ad 32)))))), (rw, .inr (3, [.ref rc, .int (nI jr)])), (rc, .inl (G.2 2, 14, .inl g))] : va_W) ++ np ad (va_up a j (upd (upd (upd (upd (a j) 1 10) 2 0) 3 0) 2 ex)) lo hi 32) := hD
  refine lv_bipush (v := 124) hx hb dX2_choice_38 (by decide) ?_
  refine lv_icmp_ne (tgt := 85) hx hb dX2_choice_40 (by decide) (fun _ => ?_) (fun h => absurd h (by decide : ¬ (0 : Int32) = 124))
  refine lv_iload_n hx hb dX2_choice_85 rfl (lv_at hl 2 rfl) ?_
  have hP := hP.part (cx := [(h, .inr (2, [.ref rw, .ref pr, .int at_, .int 0, .int bh, .int tl, .long rl, .long rh, .int le, .int mo])), (rw, .inr (3, [.ref rc, .int (nI jr)])), (rc, .inl (G.2 2, 14, .inl g)), (pr, .inr (1, [.ref na, .int (nI (j + 1)), .int fi, .int gr, .long aq])), (na, .inl (G.2 4, 32, .inr (.inr (.inr (.inr (nf ad 32))))))]) [0, 3, 4, 1, 2] rfl
  have hD := hD.part (cx := [(h, .inr (2, [.ref rw, .ref pr, .int at_, .int 0, .int bh, .int tl, .long rl, .long rh, .int le, .int mo])), (rw, .inr (3, [.ref rc, .int (nI jr)])), (rc, .inl (G.2 2, 14, .inl g)), (pr, .inr (1, [.ref na, .int (nI (j + 1)), .int fi, .int gr, .long aq])), (na, .inl (G.2 4, 32, .inr (.inr (.inr (.inr (nf ad 32))))))]) [0, 3, 4, 1, 2] (by decide) rfl
  exact en_i F hS (nI j) () (by rfl) rfl hP hD (by omega) (by omega) dX2_choice_86

theorem dX2_readPattern_0 : decode cX2_readPattern 0 = .ok (.aload_n 0, 1) := by decide +kernel
theorem dX2_readPattern_1 : decode cX2_readPattern 1 = .ok (.getfield 15, 3) := by decide +kernel
theorem dX2_readPattern_4 : decode cX2_readPattern 4 = .ok (.invokevirtual 19, 3) := by decide +kernel
theorem dX2_readPattern_7 : decode cX2_readPattern 7 = .ok (.aload_n 0, 1) := by decide +kernel
theorem dX2_readPattern_8 : decode cX2_readPattern 8 = .ok (.getfield 15, 3) := by decide +kernel
theorem dX2_readPattern_11 : decode cX2_readPattern 11 = .ok (.aload_n 0, 1) := by decide +kernel
theorem dX2_readPattern_12 : decode cX2_readPattern 12 = .ok (.aload_n 0, 1) := by decide +kernel
theorem dX2_readPattern_13 : decode cX2_readPattern 13 = .ok (.iconst 1, 1) := by decide +kernel
theorem dX2_readPattern_14 : decode cX2_readPattern 14 = .ok (.invokevirtual 24, 3) := by decide +kernel
theorem dX2_readPattern_17 : decode cX2_readPattern 17 = .ok (.iconst 0, 1) := by decide +kernel
theorem dX2_readPattern_18 : decode cX2_readPattern 18 = .ok (.invokevirtual 28, 3) := by decide +kernel
theorem dX2_readPattern_21 : decode cX2_readPattern 21 = .ok (.putfield 32, 3) := by decide +kernel
theorem dX2_readPattern_24 : decode cX2_readPattern 24 = .ok (.aload_n 0, 1) := by decide +kernel
theorem dX2_readPattern_25 : decode cX2_readPattern 25 = .ok (.getfield 36, 3) := by decide +kernel
theorem dX2_readPattern_28 : decode cX2_readPattern 28 = .ok (.ifCond .ne 21, 3) := by decide +kernel
theorem dX2_readPattern_31 : decode cX2_readPattern 31 = .ok (.aload_n 0, 1) := by decide +kernel
theorem dX2_readPattern_32 : decode cX2_readPattern 32 = .ok (.getfield 40, 3) := by decide +kernel
theorem dX2_readPattern_35 : decode cX2_readPattern 35 = .ok (.aload_n 0, 1) := by decide +kernel
theorem dX2_readPattern_36 : decode cX2_readPattern 36 = .ok (.getfield 9, 3) := by decide +kernel
theorem dX2_readPattern_39 : decode cX2_readPattern 39 = .ok (.invokevirtual 43, 3) := by decide +kernel
theorem dX2_readPattern_42 : decode cX2_readPattern 42 = .ok (.if_icmp .ne 7, 3) := by decide +kernel
theorem dX2_readPattern_45 : decode cX2_readPattern 45 = .ok (.iconst 1, 1) := by decide +kernel
theorem dX2_readPattern_46 : decode cX2_readPattern 46 = .ok (.goto 4, 3) := by decide +kernel
theorem dX2_readPattern_50 : decode cX2_readPattern 50 = .ok (.ireturn, 1) := by decide +kernel
set_option maxHeartbeats 4000000 in
set_option maxRecDepth 100000 in
theorem c_rd_read0 (l : Launch) (G : PG) (h rw pr : Nat) (bh tl le mo : Int32) (rl rh : Int64) (rc : Nat) (g : Nat → Int32) (hg : ∀ k, narrow .char (.int (g k)) = .int (g k)) (na : Nat) (ct fi gr : Int32) (aq : Int64) (ad : Nat → Nat) (a : Nat → Nat → Int32) (lo hi : Nat → Int64) (hnum : ∀ i, i < 32 → a i 0 = nI i) : Ci l yX2_readPattern (Cond.code yX2_readPattern cX2_readPattern 1 (some .boolean) :: aW) { frames := 4, cells := 0, slots := 0, locals := 95 } G (([(h, .inr (2, [.ref rw, .ref pr, .int 0, .int 0, .int bh, .int tl, .long rl, .long rh, .int le, .int mo])), (rw, .inr (3, [.ref rc, .int (nI 0)])), (rc, .inl (G.2 2, 14, .inl g)), (pr, .inr (1, [.ref na, .int ct, .int fi, .int gr, .long aq])), (na, .inl (G.2 4, 32, .inr (.inr (.inr (.inr (nf ad 32))))))] : va_W) ++ np ad a lo hi 32) [.ref h] (S := Unit) (fun (r9 : Int32) (_ : Unit) => r9 = 1) (fun (_ : Unit) => (([(h, .inr (2, [.ref rw, .ref pr, .int 0, .int 0, .int bh, .int tl, .long rl, .long rh, .int le, .int mo])), (rw, .inr (3, [.ref rc, .int (nI 0)])), (rc, .inl (G.2 2, 14, .inl g)), (pr, .inr (1, [.ref na, .int 3, .int 2, .int 0, .long 0])), (na, .inl (G.2 4, 32, .inr (.inr (.inr (.inr (nf ad 32))))))] : va_W) ++ np ad (va_up (va_up a 1 (upd (upd (upd (a 1) 1 1) 2 0) 3 0)) 2 (upd (upd (upd (upd (a 2) 1 10) 2 0) 3 0) 2 1)) lo hi 32)) 0 0 := by
  refine ofB (y := yX2_readPattern) (G := G) (cc := cX2_readPattern) (maxL := 1) (ret := (some .boolean)) (Qc := fun A => va_Qi (fun (r9 : Int32) (_ : Unit) => r9 = 1) (oB G A (fun (_ : Unit) => (([(h, .inr (2, [.ref rw, .ref pr, .int 0, .int 0, .int bh, .int tl, .long rl, .long rh, .int le, .int mo])), (rw, .inr (3, [.ref rc, .int (nI 0)])), (rc, .inl (G.2 2, 14, .inl g)), (pr, .inr (1, [.ref na, .int 3, .int 2, .int 0, .long 0])), (na, .inl (G.2 4, 32, .inr (.inr (.inr (.inr (nf ad 32))))))] : va_W) ++ np ad (va_up (va_up a 1 (upd (upd (upd (a 1) 1 1) 2 0) 3 0)) 2 (upd (upd (upd (upd (a 2) 1 10) 2 0) 3 0) 2 1)) lo hi 32))) A) (by decide) rfl ?_
  intro p e s m below meth c A F hK hA hP hD
  have hx := F.1.1; have hb := F.1.2.1; have hml := F.1.2.2.1; have hts := F.1.2.2.2.2
  have hown : s.vm.findClass RX2 = some m.cls := F.1.2.2.2.1
  have hS : va_S A s.heap s.heap [] := va_S.rf
  have hl := lv_entry ([.ref h]) (n := 1) (Nat.le_of_ble_eq_true rfl)
  rw [lg_entry_eq]
  generalize (lg_sl ([.ref h]) ++ List.replicate (1 - (lg_sl ([.ref h])).length) Slot.unset).toArray = ls at hl ⊢
  have hl : lv_has ls 1 [(0, .ref h)] := hl
  refine lv_aload_n hx hb dX2_readPattern_0 rfl (lv_at hl 0 rfl) ?_
  refine va_get (D := G.1) (ci := 2) (v := .ref pr) (C := RX2) (T := TX2) (N := 10) hx hb hts inX2 hown hK.1 hP 0 rfl rfl 1 (by decide) (hts _ w_276) (fun _ h9 => h9) rfl dX2_readPattern_1 ?_
  have hPc := hP.part (cx := [(pr, .inr (1, [.ref na, .int ct, .int fi, .int gr, .long aq])), (na, .inl (G.2 4, 32, .inr (.inr (.inr (.inr (nf ad 32))))))]) [3, 4] rfl
  have hDc := hD.part (cx := [(pr, .inr (1, [.ref na, .int ct, .int fi, .int gr, .long aq])), (na, .inl (G.2 4, 32, .inr (.inr (.inr (.inr (nf ad 32))))))]) [3, 4] (by decide) rfl
  have hqc : 0 + 0 ≤ 0 ∧ 0 + 0 ≤ 0 := ⟨by omega, by omega⟩
  refine kl_vP (wr := [(h, .inr (2, [.ref rw, .ref pr, .int 0, .int 0, .int bh, .int tl, .long rl, .long rh, .int le, .int mo])), (rw, .inr (3, [.ref rc, .int (nI 0)])), (rc, .inl (G.2 2, 14, .inl g))]) (va_runV (As := []) (rest := []) F.1 (c_prog_restart l G _ _ _ _ _ _ _ _ _ _ _) (cwV 0 hts (aw_V w_310 w_311 w_312 w_4 w_313) rfl rfl rfl (by decide +kernel) ⟨by decide, by decide⟩) ⟨cS_blind, va_recv (q := (RX1, TX1, 5)) (ci := 1) (q0 := 0) hK.1 hPc rfl rfl, cS_pre hPc hDc hK⟩ rfl rfl hl.1 rfl (lv_room (Nat.le_of_ble_eq_true rfl)) dX2_readPattern_4 hqc) hP hD hS hA [3, 4] [0, 1, 2] rfl rfl (by decide) (by decide) (fun u H locs hp hP hD hS => ?_)
  have hP : va_P G.1 vwCl (([(h, .inr (2, [.ref rw, .ref pr, .int 0, .int 0, .int bh, .int tl, .long rl, .long rh, .int le, .int mo])), (rw, .inr (3, [.ref rc, .int (nI 0)])), (rc, .inl (G.2 2, 14, .inl g)), (pr, .inr (1, [.ref na, .int (nI 1), .int 0, .int 0, .long 0])), (na, .inl (G.2 4, 32, .inr (.inr (.inr (.inr (nf ad 32))))))] : va_W) ++ np ad a lo hi 32) H := hP
  have hD : va_D A (([(h, .inr (2, [.ref rw, .ref pr, .int 0, .int 0, .int bh, .int tl, .long rl, .long rh, .int le, .int mo])), (rw, .inr (3, [.ref rc, .int (nI 0)])), (rc, .inl (G.2 2, 14, .inl g)), (pr, .inr (1, [.ref na, .int (nI 1), .int 0, .int 0, .long 0])), (na, .inl (G.2 4, 32, .inr (.inr (.inr (.inr (nf ad 32))))))] : va_W) ++ np ad a lo hi 32) := hD
  refine lv_aload_n hx hb dX2_readPattern_7 rfl (lv_at hl 0 rfl) ?_
  refine va_get (D := G.1) (ci := 2) (v := .ref pr) (C := RX2) (T := TX2) (N := 10) hx hb hts inX2 hown hK.1 hP 0 rfl rfl 1 (by decide) (hts _ w_276) (fun _ h9 => h9) rfl dX2_readPattern_8 ?_
  refine lv_aload_n hx hb dX2_readPattern_11 rfl (lv_at hl 0 rfl) ?_
  refine lv_aload_n hx hb dX2_readPattern_12 rfl (lv_at hl 0 rfl) ?_
  refine lv_iconst (v := 1) hx hb dX2_readPattern_13 (by decide) ?_
  have hPc := hP.part (cx := [(h, .inr (2, [.ref rw, .ref pr, .int 0, .int 0, .int bh, .int tl, .long rl, .long rh, .int le, .int mo])), (pr, .inr (1, [.ref na, .int (nI 1), .int 0, .int 0, .long 0])), (na, .inl (G.2 4, 32, .inr (.inr (.inr (.inr (nf ad 32))))))]) [0, 3, 4] rfl
  have hDc := hD.part (cx := [(h, .inr (2, [.ref rw, .ref pr, .int 0, .int 0, .int bh, .int tl, .long rl, .long rh, .int le, .int mo])), (pr, .inr (1, [.ref na, .int (nI 1), .int 0, .int 0, .long 0])), (na, .inl (G.2 4, 32, .inr (.inr (.inr (.inr (nf ad 32))))))]) [0, 3, 4] (by decide) rfl
  have hqc : 0 + 0 ≤ 0 ∧ 0 + 0 ≤ 0 := ⟨by omega, by omega⟩
  refine kl_iP (wr := [(rw, .inr (3, [.ref rc, .int (nI 0)])), (rc, .inl (G.2 2, 14, .inl g))]) (va_runV (As := [.int 1]) (rest := [.ref h, .ref pr]) F.1 (c_rd_add l G _ _ _ _ 0 _ _ _ _ _ _ _ 1 _ _ _ ad a lo hi 1 (by decide) (by rw [hnum 1 (by decide)]; decide) _) (cwV 1 hts (aw_V w_314 w_316 ws_X2_add w_7 w_317) rfl rfl rfl (by decide +kernel) ⟨by decide, by decide⟩) ⟨cS_blind, va_recv (q := (RX2, TX2, 10)) (ci := 2) (q0 := 0) hK.1 hPc rfl rfl, cS_pre hPc hDc hK⟩ rfl rfl hl.1 rfl (lv_room (Nat.le_of_ble_eq_true rfl)) dX2_readPattern_14 hqc) hP hD hS hA [0, 3, 4] [1, 2] rfl rfl (by decide) (by decide) (fun r u H locs hp hP hD hS => ?_)
  rw [hnum 1 (by decide)] at hp
  subst hp
  have hP : va_P G.1 vwCl (([(rw, .inr (3, [.ref rc, .int (nI 0)])), (rc, .inl (G.2 2, 14, .inl g)), (h, .inr (2, [.ref rw, .ref pr, .int 0, .int 0, .int bh, .int tl, .long rl, .long rh, .int le, .int mo])), (pr, .inr (1, [.ref na, .int (nI 2), .int 0, .int 0, .long 0])), (na, .inl (G.2 4, 32, .inr (.inr (.inr (.inr (nf ad 32))))))] : va_W) ++ np ad (va_up a 1 (upd (upd (upd (a 1) 1 1) 2 0) 3 0)) lo hi 32) H := hP
  have hD : va_D A (([(rw, .inr (3, [.ref rc, .int (nI 0)])), (rc, .inl (G.2 2, 14, .inl g)), (h, .inr (2, [.ref rw, .ref pr, .int 0, .int 0, .int bh, .int tl, .long rl, .long rh, .int le, .int mo])), (pr, .inr (1, [.ref na, .int (nI 2), .int 0, .int 0, .long 0])), (na, .inl (G.2 4, 32, .inr (.inr (.inr (.inr (nf ad 32))))))] : va_W) ++ np ad (va_up a 1 (upd (upd (upd (a 1) 1 1) 2 0) 3 0)) lo hi 32) := hD
  refine lv_iconst (v := 0) hx hb dX2_readPattern_17 (by decide) ?_
  have hPc := hP.part (cx := [(h, .inr (2, [.ref rw, .ref pr, .int 0, .int 0, .int bh, .int tl, .long rl, .long rh, .int le, .int mo])), (rw, .inr (3, [.ref rc, .int (nI 0)])), (rc, .inl (G.2 2, 14, .inl g)), (pr, .inr (1, [.ref na, .int (nI 2), .int 0, .int 0, .long 0])), (na, .inl (G.2 4, 32, .inr (.inr (.inr (.inr (nf ad 32))))))]) [2, 0, 1, 3, 4] rfl
  have hDc := hD.part (cx := [(h, .inr (2, [.ref rw, .ref pr, .int 0, .int 0, .int bh, .int tl, .long rl, .long rh, .int le, .int mo])), (rw, .inr (3, [.ref rc, .int (nI 0)])), (rc, .inl (G.2 2, 14, .inl g)), (pr, .inr (1, [.ref na, .int (nI 2), .int 0, .int 0, .long 0])), (na, .inl (G.2 4, 32, .inr (.inr (.inr (.inr (nf ad 32))))))]) [2, 0, 1, 3, 4] (by decide) rfl
  have hqc : 0 + 0 ≤ 0 ∧ 0 + 0 ≤ 0 := ⟨by omega, by omega⟩
  refine kl_iP (wr := []) (va_runV (As := [.int (nI 1), .int 0]) (rest := [.ref pr]) F.1 (c_rd_choice0 l G _ _ _ 0 _ _ _ _ _ _ _ 0 g _ 2 _ _ _ ad (va_up a 1 (upd (upd (upd (a 1) 1 1) 2 0) 3 0)) lo hi (nI 1) 0 (by decide) (by decide) hg (by decide) (by decide) (hnum 2 (by decide)) _) (cwV 2 hts (aw_V w_322 w_324 ws_X2_choice w_7 w_325) rfl rfl rfl (by decide +kernel) ⟨by decide, by decide⟩) ⟨cS_blind, va_recv (q := (RX2, TX2, 10)) (ci := 2) (q0 := 0) hK.1 hPc rfl rfl, cS_pre hPc hDc hK⟩ rfl rfl hl.1 rfl (lv_room (Nat.le_of_ble_eq_true rfl)) dX2_readPattern_18 hqc) hP hD hS hA [2, 0, 1, 3, 4] [] rfl rfl (by decide) (by decide) (fun r u H locs hp hP hD hS => ?_)
  subst hp
  have hP : va_P G.1 vwCl (([(h, .inr (2, [.ref rw, .ref pr, .int 0, .int 0, .int bh, .int tl, .long rl, .long rh, .int le, .int mo])), (rw, .inr (3, [.ref rc, .int (nI 0)])), (rc, .inl (G.2 2, 14, .inl g)), (pr, .inr (1, [.ref na, .int (nI 3), .int 0, .int 0, .long 0])), (na, .inl (G.2 4, 32, .inr (.inr (.inr (.inr (nf ad 32))))))] : va_W) ++ np ad (va_up (va_up a 1 (upd (upd (upd (a 1) 1 1) 2 0) 3 0)) 2 (upd (upd (upd (upd ((va_up a 1 (upd (upd (upd (a 1) 1 1) 2 0) 3 0)) 2) 1 10) 2 0) 3 0) 2 1)) lo hi 32) H := hP
  have hD : va_D A (([(h, .inr (2, [.ref rw, .ref pr, .int 0, .int 0, .int bh, .int tl, .long rl, .long rh, .int le, .int mo])), (rw, .inr (3, [.ref rc, .int (nI 0)])), (rc, .inl (G.2 2, 14, .inl g)), (pr, .inr (1, [.ref na, .int (nI 3), .int 0, .int 0, .long 0])), (na, .inl (G.2 4, 32, .inr (.inr (.inr (.inr (nf ad 32))))))] : va_W) ++ np ad (va_up (va_up a 1 (upd (upd (upd (a 1) 1 1) 2 0) 3 0)) 2 (upd (upd (upd (upd ((va_up a 1 (upd (upd (upd (a 1) 1 1) 2 0) 3 0)) 2) 1 10) 2 0) 3 0) 2 1)) lo hi 32) := hD
  refine va_putN (D := G.1) (ci := 1) (v := .int (nI 2)) (ty := .int) (C := RX1) (T := TX1) (N := 5) hx hb hts inX1 tyX1 tyX1_ok nmX1 hown hK.1 hP hD hS 3 rfl rfl 2 (by decide) (hK.2.1.use w_120) (fun _ h9 => h9) rfl (by decide +kernel) rfl rfl (Nat.le_of_ble_eq_true rfl) dX2_readPattern_21 (fun H locs hP hD hS => ?_)
  have hP : va_P G.1 vwCl (([(h, .inr (2, [.ref rw, .ref pr, .int 0, .int 0, .int bh, .int tl, .long rl, .long rh, .int le, .int mo])), (rw, .inr (3, [.ref rc, .int (nI 0)])), (rc, .inl (G.2 2, 14, .inl g)), (pr, .inr (1, [.ref na, .int (nI 3), .int (nI 2), .int 0, .long 0])), (na, .inl (G.2 4, 32, .inr (.inr (.inr (.inr (nf ad 32))))))] : va_W) ++ np ad (va_up (va_up a 1 (upd (upd (upd (a 1) 1 1) 2 0) 3 0)) 2 (upd (upd (upd (upd ((va_up a 1 (upd (upd (upd (a 1) 1 1) 2 0) 3 0)) 2) 1 10) 2 0) 3 0) 2 1)) lo hi 32) H := hP
  have hD : va_D A (([(h, .inr (2, [.ref rw, .ref pr, .int 0, .int 0, .int bh, .int tl, .long rl, .long rh, .int le, .int mo])), (rw, .inr (3, [.ref rc, .int (nI 0)])), (rc, .inl (G.2 2, 14, .inl g)), (pr, .inr (1, [.ref na, .int (nI 3), .int (nI 2), .int 0, .long 0])), (na, .inl (G.2 4, 32, .inr (.inr (.inr (.inr (nf ad 32))))))] : va_W) ++ np ad (va_up (va_up a 1 (upd (upd (upd (a 1) 1 1) 2 0) 3 0)) 2 (upd (upd (upd (upd ((va_up a 1 (upd (upd (upd (a 1) 1 1) 2 0) 3 0)) 2) 1 10) 2 0) 3 0) 2 1)) lo hi 32) := hD
  refine lv_aload_n hx hb dX2_readPattern_24 rfl (lv_at hl 0 rfl) ?_
  refine va_get (D := G.1) (ci := 2) (v := .int 0) (C := RX2) (T := TX2) (N := 10) hx hb hts inX2 hown hK.1 hP 0 rfl rfl 3 (by decide) (hts _ w_278) (fun _ h9 => h9) rfl dX2_readPattern_25 ?_
  refine lv_if_ne (tgt := 49) hx hb dX2_readPattern_28 (by decide) (fun h => absurd rfl h) (fun _ => ?_)
  refine lv_aload_n hx hb dX2_readPattern_31 rfl (lv_at hl 0 rfl) ?_
  refine va_get (D := G.1) (ci := 2) (v := .int 0) (C := RX2) (T := TX2) (N := 10) hx hb hts inX2 hown hK.1 hP 0 rfl rfl 2 (by decide) (hts _ w_277) (fun _ h9 => h9) rfl dX2_readPattern_32 ?_
  refine lv_aload_n hx hb dX2_readPattern_35 rfl (lv_at hl 0 rfl) ?_
  refine va_get (D := G.1) (ci := 2) (v := .ref rw) (C := RX2) (T := TX2) (N := 10) hx hb hts inX2 hown hK.1 hP 0 rfl rfl 0 (by decide) (hts _ w_275) (fun _ h9 => h9) rfl dX2_readPattern_36 ?_
  have hPc := hP.sub (ws' := [(rw, .inr (3, [.ref rc, .int (nI 0)])), (rc, .inl (G.2 2, 14, .inl g))]) [1, 2] rfl
  have hDc := hD.sub (ws' := [(rw, .inr (3, [.ref rc, .int (nI 0)])), (rc, .inl (G.2 2, 14, .inl g))]) [1, 2] (by decide) rfl
  have hqc : 0 + 0 ≤ 0 ∧ 0 + 0 ≤ 0 := ⟨by omega, by omega⟩
  refine kl_iQ (wr := [(h, .inr (2, [.ref rw, .ref pr, .int 0, .int 0, .int bh, .int tl, .long rl, .long rh, .int le, .int mo])), (pr, .inr (1, [.ref na, .int (nI 3), .int (nI 2), .int 0, .long 0])), (na, .inl (G.2 4, 32, .inr (.inr (.inr (.inr (nf ad 32))))))]) (va_runV (As := []) (rest := [.int 0]) F.1 (c_row_size l G _ _ _ _ _ _) (cwV 0 hts (aw_V w_334 w_258 w_259 w_3 w_260) rfl rfl rfl (by decide +kernel) ⟨by decide, by decide⟩) ⟨cS_blind, va_recv (q := (RX3, TX3, 2)) (ci := 3) (q0 := 0) hK.1 hPc rfl rfl, cS_pre hPc hDc hK⟩ rfl rfl hl.1 rfl (lv_room (Nat.le_of_ble_eq_true rfl)) dX2_readPattern_39 hqc) hP hD hS hA [1, 2] [0, 3, 4] rfl rfl (by decide) (by decide) (fun r u H locs hp hP hD hS => ?_)
  subst hp
  have hP : va_P G.1 vwCl (([(h, .inr (2, [.ref rw, .ref pr, .int 0, .int 0, .int bh, .int tl, .long rl, .long rh, .int le, .int mo])), (pr, .inr (1, [.ref na, .int (nI 3), .int (nI 2), .int 0, .long 0])), (na, .inl (G.2 4, 32, .inr (.inr (.inr (.inr (nf ad 32)))))), (rw, .inr (3, [.ref rc, .int (nI 0)])), (rc, .inl (G.2 2, 14, .inl g))] : va_W) ++ np ad (va_up (va_up a 1 (upd (upd (upd (a 1) 1 1) 2 0) 3 0)) 2 (upd (upd (upd (upd ((va_up a 1 (upd (upd (upd (a 1) 1 1) 2 0) 3 0)) 2) 1 10) 2 0) 3 0) 2 1)) lo hi 32) H := hP
  have hD : va_D A (([(h, .inr (2, [.ref rw, .ref pr, .int 0, .int 0, .int bh, .int tl, .long rl, .long rh, .int le, .int mo])), (pr, .inr (1, [.ref na, .int (nI 3), .int (nI 2), .int 0, .long 0])), (na, .inl (G.2 4, 32, .inr (.inr (.inr (.inr (nf ad 32)))))), (rw, .inr (3, [.ref rc, .int (nI 0)])), (rc, .inl (G.2 2, 14, .inl g))] : va_W) ++ np ad (va_up (va_up a 1 (upd (upd (upd (a 1) 1 1) 2 0) 3 0)) 2 (upd (upd (upd (upd ((va_up a 1 (upd (upd (upd (a 1) 1 1) 2 0) 3 0)) 2) 1 10) 2 0) 3 0) 2 1)) lo hi 32) := hD
  refine lv_icmp_ne (tgt := 49) hx hb dX2_readPattern_42 (by decide) (fun h => absurd rfl h) (fun _ => ?_)
  refine lv_iconst (v := 1) hx hb dX2_readPattern_45 (by decide) ?_
  refine lv_goto (tgt := 50) hx hb dX2_readPattern_46 (by decide) ?_
  have hP := hP.part (cx := [(h, .inr (2, [.ref rw, .ref pr, .int 0, .int 0, .int bh, .int tl, .long rl, .long rh, .int le, .int mo])), (rw, .inr (3, [.ref rc, .int (nI 0)])), (rc, .inl (G.2 2, 14, .inl g)), (pr, .inr (1, [.ref na, .int 3, .int 2, .int 0, .long 0])), (na, .inl (G.2 4, 32, .inr (.inr (.inr (.inr (nf ad 32))))))]) [0, 3, 4, 1, 2] rfl
  have hD := hD.part (cx := [(h, .inr (2, [.ref rw, .ref pr, .int 0, .int 0, .int bh, .int tl, .long rl, .long rh, .int le, .int mo])), (rw, .inr (3, [.ref rc, .int (nI 0)])), (rc, .inl (G.2 2, 14, .inl g)), (pr, .inr (1, [.ref na, .int 3, .int 2, .int 0, .long 0])), (na, .inl (G.2 4, 32, .inr (.inr (.inr (.inr (nf ad 32))))))]) [0, 3, 4, 1, 2] (by decide) rfl
  exact en_i F hS 1 () (by rfl) rfl hP hD (by omega) (by omega) dX2_readPattern_50

