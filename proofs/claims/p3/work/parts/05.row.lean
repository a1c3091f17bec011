/-! PatternMatcher.Row and Node: contracts -/
theorem dX3_init_0 : decode cX3_init 0 = .ok (.aload_n 0, 1) := by decide +kernel
theorem dX3_init_1 : decode cX3_init 1 = .ok (.invokespecial 3, 3) := by decide +kernel
theorem dX3_init_4 : decode cX3_init 4 = .ok (.aload_n 0, 1) := by decide +kernel
theorem dX3_init_5 : decode cX3_init 5 = .ok (.iload_n 1, 1) := by decide +kernel
theorem dX3_init_6 : decode cX3_init 6 = .ok (.newarray .char, 2) := by decide +kernel
theorem dX3_init_8 : decode cX3_init 8 = .ok (.putfield 9, 3) := by decide +kernel
theorem dX3_init_11 : decode cX3_init 11 = .ok (.return_, 1) := by decide +kernel
set_option maxHeartbeats 4000000 in
set_option maxRecDepth 100000 in
theorem c_row_init (l : Launch) (G : PG) (h n : Nat) (hn : n ≤ 100000) : Cv l yX3_init (Cond.code yX3_init cX3_init 2 none :: aW) { frames := 1, cells := 1, slots := n, locals := 40 } G [(h, .inr (3, [.null, .int 0]))] [.ref h, .int (nI n)] (S := Nat) (fun (_ : Nat) => True) (fun (a : Nat) => [(h, .inr (3, [.ref a, .int 0])), (a, .inl (G.2 2, n, .inl (fun _ => 0)))]) 1 n := by
  refine ofB (y := yX3_init) (G := G) (cc := cX3_init) (maxL := 2) (ret := none) (Qc := fun A => va_Qv (fun (_ : Nat) => True) (oB G A (fun (a : Nat) => [(h, .inr (3, [.ref a, .int 0])), (a, .inl (G.2 2, n, .inl (fun _ => 0)))])) A) (by decide) rfl ?_
  intro p e s m below meth c A F hK hA hP hD
  have hx := F.1.1; have hb := F.1.2.1; have hml := F.1.2.2.1; have hts := F.1.2.2.2.2
  have hown : s.vm.findClass RX3 = some m.cls := F.1.2.2.2.1
  have hin : meth.name = "<init>" := F.2.2.2
  have hS : va_S A s.heap s.heap [] := va_S.rf
  have hl := lv_entry ([.ref h, .int (nI n)]) (n := 2) (Nat.le_of_ble_eq_true rfl)
  rw [lg_entry_eq]
  generalize (lg_sl ([.ref h, .int (nI n)]) ++ List.replicate (2 - (lg_sl ([.ref h, .int (nI n)])).length) Slot.unset).toArray = ls at hl ⊢
  have hl : lv_has ls 2 [(0, .ref h), (1, .int (nI n))] := hl
  refine lv_aload_n hx hb dX3_init_0 rfl (lv_at hl 0 rfl) ?_
  refine W.objInit hx hb hown (hts _ w_39) (hts _ w_26) (hts _ w_27) rfl (by rw [hml]; exact hl.1) rfl dX3_init_1 (Nat.le_of_ble_eq_true rfl) (Nat.le_of_ble_eq_true rfl) ?_
  refine W.eq (g2 := F0 m 4 ls []) rfl ?_
  refine lv_aload_n hx hb dX3_init_4 rfl (lv_at hl 0 rfl) ?_
  refine lv_iload_n hx hb dX3_init_5 rfl (lv_at hl 1 rfl) ?_
  have hqc : 0 + 1 ≤ 1 := by omega
  have hqs : 0 + n ≤ n := by omega
  refine pg_newa (atype := .char) (i := 2) (ty := .char) (N' := n) (a0 := (n, .inl (fun _ => 0))) hx hb (hts _ w_47) rfl hK rfl hP hD hS hA (fun _ => rfl) (nI_pos (by omega)) (nI_clamp (by omega)) (by show n * 2 ≤ _; omega) hqc hqs dX3_init_6 (fun q6 H hP hD hS => ?_)
  have hP : va_P G.1 vwCl [(h, .inr (3, [.null, .int 0])), (q6, .inl (G.2 2, n, .inl (fun _ => 0)))] H := hP
  have hD : va_D A [(h, .inr (3, [.null, .int 0])), (q6, .inl (G.2 2, n, .inl (fun _ => 0)))] := hD
  refine W.widen (k := 1) (n := n) (by omega) (by omega) ?_
  refine va_putF (D := G.1) (ci := 3) (v := .ref q6) (ty := .array .char) (C := RX3) (T := TX3) (N := 2) hx hb hts inX3 tyX3 tyX3_ok nmX3 hown hK.1 hP hD hS 0 rfl rfl 0 (by decide) (hts _ w_40) (fun _ h9 => h9) rfl hin rfl (by decide +kernel) rfl rfl (Nat.le_of_ble_eq_true rfl) dX3_init_8 (fun H locs hP hD hS => ?_)
  have hP : va_P G.1 vwCl [(h, .inr (3, [.ref q6, .int 0])), (q6, .inl (G.2 2, n, .inl (fun _ => 0)))] H := hP
  have hD : va_D A [(h, .inr (3, [.ref q6, .int 0])), (q6, .inl (G.2 2, n, .inl (fun _ => 0)))] := hD
  exact en_v F hS q6 trivial hP hD (by omega) (by omega) dX3_init_11

theorem dX3_add_0 : decode cX3_add 0 = .ok (.aload_n 0, 1) := by decide +kernel
theorem dX3_add_1 : decode cX3_add 1 = .ok (.getfield 15, 3) := by decide +kernel
theorem dX3_add_4 : decode cX3_add 4 = .ok (.aload_n 0, 1) := by decide +kernel
theorem dX3_add_5 : decode cX3_add 5 = .ok (.getfield 9, 3) := by decide +kernel
theorem dX3_add_8 : decode cX3_add 8 = .ok (.arraylength, 1) := by decide +kernel
theorem dX3_add_9 : decode cX3_add 9 = .ok (.if_icmp .lt 5, 3) := by decide +kernel
theorem dX3_add_14 : decode cX3_add 14 = .ok (.aload_n 0, 1) := by decide +kernel
theorem dX3_add_15 : decode cX3_add 15 = .ok (.getfield 9, 3) := by decide +kernel
theorem dX3_add_18 : decode cX3_add 18 = .ok (.aload_n 0, 1) := by decide +kernel
theorem dX3_add_19 : decode cX3_add 19 = .ok (.getfield 15, 3) := by decide +kernel
theorem dX3_add_22 : decode cX3_add 22 = .ok (.iload_n 1, 1) := by decide +kernel
theorem dX3_add_23 : decode cX3_add 23 = .ok (.castore, 1) := by decide +kernel
theorem dX3_add_24 : decode cX3_add 24 = .ok (.aload_n 0, 1) := by decide +kernel
theorem dX3_add_25 : decode cX3_add 25 = .ok (.dup, 1) := by decide +kernel
theorem dX3_add_26 : decode cX3_add 26 = .ok (.getfield 15, 3) := by decide +kernel
theorem dX3_add_29 : decode cX3_add 29 = .ok (.iconst 1, 1) := by decide +kernel
theorem dX3_add_30 : decode cX3_add 30 = .ok (.iadd, 1) := by decide +kernel
theorem dX3_add_31 : decode cX3_add 31 = .ok (.putfield 15, 3) := by decide +kernel
theorem dX3_add_34 : decode cX3_add 34 = .ok (.iconst 1, 1) := by decide +kernel
theorem dX3_add_35 : decode cX3_add 35 = .ok (.ireturn, 1) := by decide +kernel
set_option maxHeartbeats 4000000 in
set_option maxRecDepth 100000 in
theorem c_row_add (l : Launch) (G : PG) (h a n j : Nat) (f : Nat → Int32) (ch : Int32) (hj : j < n) (hn : n < 2147483648) : Ci l yX3_add (Cond.code yX3_add cX3_add 2 (some .boolean) :: aW) { frames := 0, cells := 0, slots := 0, locals := 0 } G [(h, .inr (3, [.ref a, .int (nI j)])), (a, .inl (G.2 2, n, .inl f))] [.ref h, .int ch] (S := Unit) (fun (r : Int32) (_ : Unit) => r = 1) (fun (_ : Unit) => [(h, .inr (3, [.ref a, .int (nI (j + 1))])), (a, .inl (G.2 2, n, .inl (upd f j (vp_nar .char ch))))]) 0 0 := by
  refine ofB (y := yX3_add) (G := G) (cc := cX3_add) (maxL := 2) (ret := (some .boolean)) (Qc := fun A => va_Qi (fun (r : Int32) (_ : Unit) => r = 1) (oB G A (fun (_ : Unit) => [(h, .inr (3, [.ref a, .int (nI (j + 1))])), (a, .inl (G.2 2, n, .inl (upd f j (vp_nar .char ch))))])) A) (by decide) rfl ?_
  intro p e s m below meth c A F hK hA hP hD
  have hx := F.1.1; have hb := F.1.2.1; have hml := F.1.2.2.1; have hts := F.1.2.2.2.2
  have hown : s.vm.findClass RX3 = some m.cls := F.1.2.2.2.1
  have hS : va_S A s.heap s.heap [] := va_S.rf
  have hl := lv_entry ([.ref h, .int ch]) (n := 2) (Nat.le_of_ble_eq_true rfl)
  rw [lg_entry_eq]
  generalize (lg_sl ([.ref h, .int ch]) ++ List.replicate (2 - (lg_sl ([.ref h, .int ch])).length) Slot.unset).toArray = ls at hl ⊢
  have hl : lv_has ls 2 [(0, .ref h), (1, .int ch)] := hl
  refine lv_aload_n hx hb dX3_add_0 rfl (lv_at hl 0 rfl) ?_
  refine va_get (D := G.1) (ci := 3) (v := .int (nI j)) (C := RX3) (T := TX3) (N := 2) hx hb hts inX3 hown hK.1 hP 0 rfl rfl 1 (by decide) (hts _ w_41) (fun _ h9 => h9) rfl dX3_add_1 ?_
  refine lv_aload_n hx hb dX3_add_4 rfl (lv_at hl 0 rfl) ?_
  refine va_get (D := G.1) (ci := 3) (v := .ref a) (C := RX3) (T := TX3) (N := 2) hx hb hts inX3 hown hK.1 hP 0 rfl rfl 0 (by decide) (hts _ w_40) (fun _ h9 => h9) rfl dX3_add_5 ?_
  refine va_alen (D := G.1) (v := (nI n)) hx hb hK.1 hP 1 2 rfl rfl rfl dX3_add_8 ?_
  refine lv_icmp_lt (tgt := 14) hx hb dX3_add_9 (by decide) (fun _ => ?_) (fun h => absurd (nI_lt hj hn) h)
  refine lv_aload_n hx hb dX3_add_14 rfl (lv_at hl 0 rfl) ?_
  refine va_get (D := G.1) (ci := 3) (v := .ref a) (C := RX3) (T := TX3) (N := 2) hx hb hts inX3 hown hK.1 hP 0 rfl rfl 0 (by decide) (hts _ w_40) (fun _ h9 => h9) rfl dX3_add_15 ?_
  refine lv_aload_n hx hb dX3_add_18 rfl (lv_at hl 0 rfl) ?_
  refine va_get (D := G.1) (ci := 3) (v := .int (nI j)) (C := RX3) (T := TX3) (N := 2) hx hb hts inX3 hown hK.1 hP 0 rfl rfl 1 (by decide) (hts _ w_41) (fun _ h9 => h9) rfl dX3_add_19 ?_
  refine lv_iload_n hx hb dX3_add_22 rfl (lv_at hl 1 rfl) ?_
  refine va_cast (D := G.1) hx hb hK.1 hP hD hS 1 2 rfl rfl (vp_in_nI hj hn) dX3_add_23 (fun H locs hP hD hS => ?_)
  rw [nI_clamp (by omega)] at hP hD
  have hP : va_P G.1 vwCl [(h, .inr (3, [.ref a, .int (nI j)])), (a, .inl (G.2 2, n, .inl (upd f j (vp_nar .char ch))))] H := hP
  have hD : va_D A [(h, .inr (3, [.ref a, .int (nI j)])), (a, .inl (G.2 2, n, .inl (upd f j (vp_nar .char ch))))] := hD
  refine lv_aload_n hx hb dX3_add_24 rfl (lv_at hl 0 rfl) ?_
  refine lv_dup hx hb dX3_add_25 rfl ?_
  refine va_get (D := G.1) (ci := 3) (v := .int (nI j)) (C := RX3) (T := TX3) (N := 2) hx hb hts inX3 hown hK.1 hP 0 rfl rfl 1 (by decide) (hts _ w_41) (fun _ h9 => h9) rfl dX3_add_26 ?_
  refine lv_iconst (v := 1) hx hb dX3_add_29 (by decide) ?_
  refine lv_iadd hx hb dX3_add_30 ?_
  refine tp_i (nI (j + 1)) (nI_1 j) ?_
  refine va_put (D := G.1) (ci := 3) (v := .int (nI (j + 1))) (ty := .int) (C := RX3) (T := TX3) (N := 2) hx hb hts inX3 tyX3 tyX3_ok nmX3 hown hK.1 hP hD hS 0 rfl rfl 1 (by decide) (hts _ w_41) (fun _ h9 => h9) rfl (by decide +kernel) rfl rfl (Nat.le_of_ble_eq_true rfl) dX3_add_31 (fun H locs hP hD hS => ?_)
  have hP : va_P G.1 vwCl [(h, .inr (3, [.ref a, .int (nI (j + 1))])), (a, .inl (G.2 2, n, .inl (upd f j (vp_nar .char ch))))] H := hP
  have hD : va_D A [(h, .inr (3, [.ref a, .int (nI (j + 1))])), (a, .inl (G.2 2, n, .inl (upd f j (vp_nar .char ch))))] := hD
  refine lv_iconst (v := 1) hx hb dX3_add_34 (by decide) ?_
  exact en_i F hS 1 () (by rfl) rfl hP hD (by omega) (by omega) dX3_add_35

theorem dX3_add_12 : decode cX3_add 12 = .ok (.iconst 0, 1) := by decide +kernel
theorem dX3_add_13 : decode cX3_add 13 = .ok (.ireturn, 1) := by decide +kernel
set_option maxHeartbeats 4000000 in
set_option maxRecDepth 100000 in
theorem c_row_addF (l : Launch) (G : PG) (h a n : Nat) (f : Nat → Int32) (ch : Int32) (hn : n < 2147483648) : Ci l yX3_add (Cond.code yX3_add cX3_add 2 (some .boolean) :: aW) { frames := 0, cells := 0, slots := 0, locals := 0 } G [(h, .inr (3, [.ref a, .int (nI n)])), (a, .inl (G.2 2, n, .inl f))] [.ref h, .int ch] (S := Unit) (fun (r : Int32) (_ : Unit) => r = 0) (fun (_ : Unit) => [(h, .inr (3, [.ref a, .int (nI n)])), (a, .inl (G.2 2, n, .inl f))]) 0 0 := by
  refine ofB (y := yX3_add) (G := G) (cc := cX3_add) (maxL := 2) (ret := (some .boolean)) (Qc := fun A => va_Qi (fun (r : Int32) (_ : Unit) => r = 0) (oB G A (fun (_ : Unit) => [(h, .inr (3, [.ref a, .int (nI n)])), (a, .inl (G.2 2, n, .inl f))])) A) (by decide) rfl ?_
  intro p e s m below meth c A F hK hA hP hD
  have hx := F.1.1; have hb := F.1.2.1; have hml := F.1.2.2.1; have hts := F.1.2.2.2.2
  have hown : s.vm.findClass RX3 = some m.cls := F.1.2.2.2.1
  have hS : va_S A s.heap s.heap [] := va_S.rf
  have hl := lv_entry ([.ref h, .int ch]) (n := 2) (Nat.le_of_ble_eq_true rfl)
  rw [lg_entry_eq]
  generalize (lg_sl ([.ref h, .int ch]) ++ List.replicate (2 - (lg_sl ([.ref h, .int ch])).length) Slot.unset).toArray = ls at hl ⊢
  have hl : lv_has ls 2 [(0, .ref h), (1, .int ch)] := hl
  refine lv_aload_n hx hb dX3_add_0 rfl (lv_at hl 0 rfl) ?_
  refine va_get (D := G.1) (ci := 3) (v := .int (nI n)) (C := RX3) (T := TX3) (N := 2) hx hb hts inX3 hown hK.1 hP 0 rfl rfl 1 (by decide) (hts _ w_41) (fun _ h9 => h9) rfl dX3_add_1 ?_
  refine lv_aload_n hx hb dX3_add_4 rfl (lv_at hl 0 rfl) ?_
  refine va_get (D := G.1) (ci := 3) (v := .ref a) (C := RX3) (T := TX3) (N := 2) hx hb hts inX3 hown hK.1 hP 0 rfl rfl 0 (by decide) (hts _ w_40) (fun _ h9 => h9) rfl dX3_add_5 ?_
  refine va_alen (D := G.1) (v := (nI n)) hx hb hK.1 hP 1 2 rfl rfl rfl dX3_add_8 ?_
  refine lv_icmp_lt (tgt := 14) hx hb dX3_add_9 (by decide) (fun h => absurd h (nI_nlt (Nat.le_refl n) hn)) (fun _ => ?_)
  refine lv_iconst (v := 0) hx hb dX3_add_12 (by decide) ?_
  exact en_i F hS 0 () (by rfl) rfl hP hD (by omega) (by omega) dX3_add_13

theorem dX3_empty_0 : decode cX3_empty 0 = .ok (.aload_n 0, 1) := by decide +kernel
theorem dX3_empty_1 : decode cX3_empty 1 = .ok (.iconst 0, 1) := by decide +kernel
theorem dX3_empty_2 : decode cX3_empty 2 = .ok (.putfield 15, 3) := by decide +kernel
theorem dX3_empty_5 : decode cX3_empty 5 = .ok (.return_, 1) := by decide +kernel
set_option maxHeartbeats 4000000 in
set_option maxRecDepth 100000 in
theorem c_row_empty (l : Launch) (G : PG) (h a n : Nat) (k : Int32) (f : Nat → Int32) : Cv l yX3_empty (Cond.code yX3_empty cX3_empty 1 none :: aW) { frames := 0, cells := 0, slots := 0, locals := 0 } G [(h, .inr (3, [.ref a, .int k])), (a, .inl (G.2 2, n, .inl f))] [.ref h] (S := Unit) (fun (_ : Unit) => True) (fun (_ : Unit) => [(h, .inr (3, [.ref a, .int 0])), (a, .inl (G.2 2, n, .inl f))]) 0 0 := by
  refine ofB (y := yX3_empty) (G := G) (cc := cX3_empty) (maxL := 1) (ret := none) (Qc := fun A => va_Qv (fun (_ : Unit) => True) (oB G A (fun (_ : Unit) => [(h, .inr (3, [.ref a, .int 0])), (a, .inl (G.2 2, n, .inl f))])) A) (by decide) rfl ?_
  intro p e s m below meth c A F hK hA hP hD
  have hx := F.1.1; have hb := F.1.2.1; have hml := F.1.2.2.1; have hts := F.1.2.2.2.2
  have hown : s.vm.findClass RX3 = some m.cls := F.1.2.2.2.1
  have hS : va_S A s.heap s.heap [] := va_S.rf
  have hl := lv_entry ([.ref h]) (n := 1) (Nat.le_of_ble_eq_true rfl)
  rw [lg_entry_eq]
  generalize (lg_sl ([.ref h]) ++ List.replicate (1 - (lg_sl ([.ref h])).length) Slot.unset).toArray = ls at hl ⊢
  have hl : lv_has ls 1 [(0, .ref h)] := hl
  refine lv_aload_n hx hb dX3_empty_0 rfl (lv_at hl 0 rfl) ?_
  refine lv_iconst (v := 0) hx hb dX3_empty_1 (by decide) ?_
  refine va_put (D := G.1) (ci := 3) (v := .int 0) (ty := .int) (C := RX3) (T := TX3) (N := 2) hx hb hts inX3 tyX3 tyX3_ok nmX3 hown hK.1 hP hD hS 0 rfl rfl 1 (by decide) (hts _ w_41) (fun _ h9 => h9) rfl (by decide +kernel) rfl rfl (Nat.le_of_ble_eq_true rfl) dX3_empty_2 (fun H locs hP hD hS => ?_)
  have hP : va_P G.1 vwCl [(h, .inr (3, [.ref a, .int 0])), (a, .inl (G.2 2, n, .inl f))] H := hP
  have hD : va_D A [(h, .inr (3, [.ref a, .int 0])), (a, .inl (G.2 2, n, .inl f))] := hD
  exact en_v F hS () trivial hP hD (by omega) (by omega) dX3_empty_5

theorem dX3_size_0 : decode cX3_size 0 = .ok (.aload_n 0, 1) := by decide +kernel
theorem dX3_size_1 : decode cX3_size 1 = .ok (.getfield 15, 3) := by decide +kernel
theorem dX3_size_4 : decode cX3_size 4 = .ok (.ireturn, 1) := by decide +kernel
set_option maxHeartbeats 4000000 in
set_option maxRecDepth 100000 in
theorem c_row_size (l : Launch) (G : PG) (h a n : Nat) (k : Int32) (f : Nat → Int32) : Ci l yX3_size (Cond.code yX3_size cX3_size 1 (some .int) :: aW) { frames := 0, cells := 0, slots := 0, locals := 0 } G [(h, .inr (3, [.ref a, .int k])), (a, .inl (G.2 2, n, .inl f))] [.ref h] (S := Unit) (fun (r : Int32) (_ : Unit) => r = k) (fun (_ : Unit) => [(h, .inr (3, [.ref a, .int k])), (a, .inl (G.2 2, n, .inl f))]) 0 0 := by
  refine ofB (y := yX3_size) (G := G) (cc := cX3_size) (maxL := 1) (ret := (some .int)) (Qc := fun A => va_Qi (fun (r : Int32) (_ : Unit) => r = k) (oB G A (fun (_ : Unit) => [(h, .inr (3, [.ref a, .int k])), (a, .inl (G.2 2, n, .inl f))])) A) (by decide) rfl ?_
  intro p e s m below meth c A F hK hA hP hD
  have hx := F.1.1; have hb := F.1.2.1; have hml := F.1.2.2.1; have hts := F.1.2.2.2.2
  have hown : s.vm.findClass RX3 = some m.cls := F.1.2.2.2.1
  have hS : va_S A s.heap s.heap [] := va_S.rf
  have hl := lv_entry ([.ref h]) (n := 1) (Nat.le_of_ble_eq_true rfl)
  rw [lg_entry_eq]
  generalize (lg_sl ([.ref h]) ++ List.replicate (1 - (lg_sl ([.ref h])).length) Slot.unset).toArray = ls at hl ⊢
  have hl : lv_has ls 1 [(0, .ref h)] := hl
  refine lv_aload_n hx hb dX3_size_0 rfl (lv_at hl 0 rfl) ?_
  refine va_get (D := G.1) (ci := 3) (v := .int k) (C := RX3) (T := TX3) (N := 2) hx hb hts inX3 hown hK.1 hP 0 rfl rfl 1 (by decide) (hts _ w_41) (fun _ h9 => h9) rfl dX3_size_1 ?_
  exact en_i F hS k () (by rfl) rfl hP hD (by omega) (by omega) dX3_size_4

def rw_at (j : Nat) (f : Nat → Int32) (i : Int32) : Int32 := if i < 0 ∨ nI j ≤ i then 0 else f i.toNatClampNeg
theorem dX3_at_0 : decode cX3_at 0 = .ok (.iload_n 1, 1) := by decide +kernel
theorem dX3_at_1 : decode cX3_at 1 = .ok (.ifCond .lt 11, 3) := by decide +kernel
theorem dX3_at_4 : decode cX3_at 4 = .ok (.iload_n 1, 1) := by decide +kernel
theorem dX3_at_5 : decode cX3_at 5 = .ok (.aload_n 0, 1) := by decide +kernel
theorem dX3_at_6 : decode cX3_at 6 = .ok (.getfield 15, 3) := by decide +kernel
theorem dX3_at_9 : decode cX3_at 9 = .ok (.if_icmp .lt 7, 3) := by decide +kernel
theorem dX3_at_12 : decode cX3_at 12 = .ok (.iconst 0, 1) := by decide +kernel
theorem dX3_at_13 : decode cX3_at 13 = .ok (.goto 9, 3) := by decide +kernel
theorem dX3_at_16 : decode cX3_at 16 = .ok (.aload_n 0, 1) := by decide +kernel
theorem dX3_at_17 : decode cX3_at 17 = .ok (.getfield 9, 3) := by decide +kernel
theorem dX3_at_20 : decode cX3_at 20 = .ok (.iload_n 1, 1) := by decide +kernel
theorem dX3_at_21 : decode cX3_at 21 = .ok (.caload, 1) := by decide +kernel
theorem dX3_at_22 : decode cX3_at 22 = .ok (.ireturn, 1) := by decide +kernel
set_option maxHeartbeats 4000000 in
set_option maxRecDepth 100000 in
theorem c_row_at (l : Launch) (G : PG) (h a n j : Nat) (f : Nat → Int32) (i : Int32) (hj : j ≤ n) (hn : n < 2147483648) (hf : ∀ k, narrow .char (.int (f k)) = .int (f k)) : Ci l yX3_at (Cond.code yX3_at cX3_at 2 (some .char) :: aW) { frames := 0, cells := 0, slots := 0, locals := 0 } G [(h, .inr (3, [.ref a, .int (nI j)])), (a, .inl (G.2 2, n, .inl f))] [.ref h, .int i] (S := Unit) (fun (r : Int32) (_ : Unit) => r = rw_at j f i) (fun (_ : Unit) => [(h, .inr (3, [.ref a, .int (nI j)])), (a, .inl (G.2 2, n, .inl f))]) 0 0 := by
  refine ofB (y := yX3_at) (G := G) (cc := cX3_at) (maxL := 2) (ret := (some .char)) (Qc := fun A => va_Qi (fun (r : Int32) (_ : Unit) => r = rw_at j f i) (oB G A (fun (_ : Unit) => [(h, .inr (3, [.ref a, .int (nI j)])), (a, .inl (G.2 2, n, .inl f))])) A) (by decide) rfl ?_
  intro p e s m below meth c A F hK hA hP hD
  have hx := F.1.1; have hb := F.1.2.1; have hml := F.1.2.2.1; have hts := F.1.2.2.2.2
  have hown : s.vm.findClass RX3 = some m.cls := F.1.2.2.2.1
  have hS : va_S A s.heap s.heap [] := va_S.rf
  have hl := lv_entry ([.ref h, .int i]) (n := 2) (Nat.le_of_ble_eq_true rfl)
  rw [lg_entry_eq]
  generalize (lg_sl ([.ref h, .int i]) ++ List.replicate (2 - (lg_sl ([.ref h, .int i])).length) Slot.unset).toArray = ls at hl ⊢
  have hl : lv_has ls 2 [(0, .ref h), (1, .int i)] := hl
  refine lv_iload_n hx hb dX3_at_0 rfl (lv_at hl 1 rfl) ?_
  refine lv_if_lt (tgt := 12) hx hb dX3_at_1 (by decide) (fun h1 => ?_) (fun h1 => ?_)
  ·
    refine lv_iconst (v := 0) hx hb dX3_at_12 (by decide) ?_
    refine lv_goto (tgt := 22) hx hb dX3_at_13 (by decide) ?_
    exact en_i F hS 0 () (by rfl) ((if_pos (Or.inl h1)).symm) hP hD (by omega) (by omega) dX3_at_22
  ·
    refine lv_iload_n hx hb dX3_at_4 rfl (lv_at hl 1 rfl) ?_
    refine lv_aload_n hx hb dX3_at_5 rfl (lv_at hl 0 rfl) ?_
    refine va_get (D := G.1) (ci := 3) (v := .int (nI j)) (C := RX3) (T := TX3) (N := 2) hx hb hts inX3 hown hK.1 hP 0 rfl rfl 1 (by decide) (hts _ w_41) (fun _ h9 => h9) rfl dX3_at_6 ?_
    refine lv_icmp_lt (tgt := 16) hx hb dX3_at_9 (by decide) (fun h2 => ?_) (fun h2 => ?_)
    ·
      refine lv_aload_n hx hb dX3_at_16 rfl (lv_at hl 0 rfl) ?_
      refine va_get (D := G.1) (ci := 3) (v := .ref a) (C := RX3) (T := TX3) (N := 2) hx hb hts inX3 hown hK.1 hP 0 rfl rfl 0 (by decide) (hts _ w_40) (fun _ h9 => h9) rfl dX3_at_17 ?_
      refine lv_iload_n hx hb dX3_at_20 rfl (lv_at hl 1 rfl) ?_
      refine va_cald (D := G.1) hx hb hK.1 hP 1 2 rfl rfl (pk_at_in h1 h2 hj hn) dX3_at_21 ?_
      refine tp_i (f i.toNatClampNeg) rfl ?_
      exact en_i F hS (f i.toNatClampNeg) () (hf _) ((if_neg (fun z => z.elim h1 (fun z => pk_nle h2 z))).symm) hP hD (by omega) (by omega) dX3_at_22
    ·
      refine lv_iconst (v := 0) hx hb dX3_at_12 (by decide) ?_
      refine lv_goto (tgt := 22) hx hb dX3_at_13 (by decide) ?_
      exact en_i F hS 0 () (by rfl) ((if_pos (Or.inr (pk_le_of h2))).symm) hP hD (by omega) (by omega) dX3_at_22

theorem dX0_init_0 : decode cX0_init 0 = .ok (.aload_n 0, 1) := by decide +kernel
theorem dX0_init_1 : decode cX0_init 1 = .ok (.invokespecial 1, 3) := by decide +kernel
theorem dX0_init_4 : decode cX0_init 4 = .ok (.aload_n 0, 1) := by decide +kernel
theorem dX0_init_5 : decode cX0_init 5 = .ok (.iload_n 1, 1) := by decide +kernel
theorem dX0_init_6 : decode cX0_init 6 = .ok (.putfield 7, 3) := by decide +kernel
theorem dX0_init_9 : decode cX0_init 9 = .ok (.return_, 1) := by decide +kernel
set_option maxHeartbeats 4000000 in
set_option maxRecDepth 100000 in
theorem c_node_init (l : Launch) (G : PG) (h : Nat) (k : Int32) : Cv l yX0_init (Cond.code yX0_init cX0_init 2 none :: aW) { frames := 1, cells := 0, slots := 0, locals := 40 } G [(h, .inr (0, [.int 0, .int 0, .int 0, .int 0, .int 0, .int 0, .int 0, .int 0, .int 0, .int 0, .int 0, .long 0, .long 0]))] [.ref h, .int k] (S := Unit) (fun (_ : Unit) => True) (fun (_ : Unit) => [(h, .inr (0, [.int k, .int 0, .int 0, .int 0, .int 0, .int 0, .int 0, .int 0, .int 0, .int 0, .int 0, .long 0, .long 0]))]) 0 0 := by
  refine ofB (y := yX0_init) (G := G) (cc := cX0_init) (maxL := 2) (ret := none) (Qc := fun A => va_Qv (fun (_ : Unit) => True) (oB G A (fun (_ : Unit) => [(h, .inr (0, [.int k, .int 0, .int 0, .int 0, .int 0, .int 0, .int 0, .int 0, .int 0, .int 0, .int 0, .long 0, .long 0]))])) A) (by decide) rfl ?_
  intro p e s m below meth c A F hK hA hP hD
  have hx := F.1.1; have hb := F.1.2.1; have hml := F.1.2.2.1; have hts := F.1.2.2.2.2
  have hown : s.vm.findClass RX0 = some m.cls := F.1.2.2.2.1
  have hin : meth.name = "<init>" := F.2.2.2
  have hS : va_S A s.heap s.heap [] := va_S.rf
  have hl := lv_entry ([.ref h, .int k]) (n := 2) (Nat.le_of_ble_eq_true rfl)
  rw [lg_entry_eq]
  generalize (lg_sl ([.ref h, .int k]) ++ List.replicate (2 - (lg_sl ([.ref h, .int k])).length) Slot.unset).toArray = ls at hl ⊢
  have hl : lv_has ls 2 [(0, .ref h), (1, .int k)] := hl
  refine lv_aload_n hx hb dX0_init_0 rfl (lv_at hl 0 rfl) ?_
  refine W.objInit hx hb hown (hts _ w_60) (hts _ w_26) (hts _ w_27) rfl (by rw [hml]; exact hl.1) rfl dX0_init_1 (Nat.le_of_ble_eq_true rfl) (Nat.le_of_ble_eq_true rfl) ?_
  refine W.eq (g2 := F0 m 4 ls []) rfl ?_
  refine lv_aload_n hx hb dX0_init_4 rfl (lv_at hl 0 rfl) ?_
  refine lv_iload_n hx hb dX0_init_5 rfl (lv_at hl 1 rfl) ?_
  refine va_putF (D := G.1) (ci := 0) (v := .int k) (ty := .int) (C := RX0) (T := TX0) (N := 13) hx hb hts inX0 tyX0 tyX0_ok nmX0 hown hK.1 hP hD hS 0 rfl rfl 0 (by decide) (hts _ w_61) (fun _ h9 => h9) rfl hin rfl (by decide +kernel) rfl rfl (Nat.le_of_ble_eq_true rfl) dX0_init_6 (fun H locs hP hD hS => ?_)
  have hP : va_P G.1 vwCl [(h, .inr (0, [.int k, .int 0, .int 0, .int 0, .int 0, .int 0, .int 0, .int 0, .int 0, .int 0, .int 0, .long 0, .long 0]))] H := hP
  have hD : va_D A [(h, .inr (0, [.int k, .int 0, .int 0, .int 0, .int 0, .int 0, .int 0, .int 0, .int 0, .int 0, .int 0, .long 0, .long 0]))] := hD
  exact en_v F hS () trivial hP hD (by omega) (by omega) dX0_init_9

