/-! Reader: the methods that call each other: CH stands for choice one bracket deeper -/
abbrev CT : Type := QS → Int32 → Int32 → QS → Int32 → Prop
def CC (l : Launch) (G : PG) (Z : ZZ) (h : Nat) (q ad : Nat → Nat) (J : Nat) (g : Nat → Int32) (f n : Nat) (CH : CT) : Prop := ∀ (Q : QS) (a1 a2 : Int32) (Q' : QS) (r : Int32), CH Q a1 a2 Q' r → CiZ l yX2_choice (Cond.code yX2_choice cX2_choice 7 (some .int) :: aW) { frames := f, cells := 0, slots := 0, locals := n } Z G (qW G h q ad J g Q) [.ref h, .int a1, .int a2] (fun (r9 : Int32) (_ : Unit) => r9 = r) (fun (_ : Unit) => qW G h q ad J g Q') 0 0
theorem dX2_closedChoice_0 : decode cX2_closedChoice 0 = .ok (.aload_n 0, 1) := by decide +kernel
theorem dX2_closedChoice_1 : decode cX2_closedChoice 1 = .ok (.iload_n 1, 1) := by decide +kernel
theorem dX2_closedChoice_2 : decode cX2_closedChoice 2 = .ok (.iload_n 2, 1) := by decide +kernel
theorem dX2_closedChoice_3 : decode cX2_closedChoice 3 = .ok (.invokevirtual 28, 3) := by decide +kernel
theorem dX2_closedChoice_6 : decode cX2_closedChoice 6 = .ok (.istore_n 3, 1) := by decide +kernel
theorem dX2_closedChoice_7 : decode cX2_closedChoice 7 = .ok (.aload_n 0, 1) := by decide +kernel
theorem dX2_closedChoice_8 : decode cX2_closedChoice 8 = .ok (.bipush 41, 2) := by decide +kernel
theorem dX2_closedChoice_10 : decode cX2_closedChoice 10 = .ok (.invokevirtual 113, 3) := by decide +kernel
theorem dX2_closedChoice_13 : decode cX2_closedChoice 13 = .ok (.iload_n 3, 1) := by decide +kernel
theorem dX2_closedChoice_14 : decode cX2_closedChoice 14 = .ok (.ireturn, 1) := by decide +kernel
def E_r_closedChoice (J : Nat) (g : Nat → Int32) (CH : CT) (Q : QS) (a1 : Int32) (a2 : Int32) (Q' : QS) (r : Int32) : Prop := ∃ (Q1 : QS) (r2 : Int32), CH Q a1 a2 Q1 r2 ∧ (∃ Q3 : QS, E_r_expect J g Q1 41 Q3 0 ∧ (Q' = Q3 ∧ r = r2))
set_option maxHeartbeats 4000000 in
set_option maxRecDepth 100000 in
theorem e_r_closedChoice (l : Launch) (G : PG) (Z : ZZ) (h : Nat) (q ad : Nat → Nat) (J : Nat) (g : Nat → Int32) (hO : gOK J g) (CH : CT) (f n : Nat) (hf : 8 ≤ f) (hn : 300 ≤ n) (hR : CC l G Z h q ad J g f n CH) (Q : QS) (a1 : Int32) (a2 : Int32) (Q' : QS) (r : Int32) (hE : E_r_closedChoice J g CH Q a1 a2 Q' r) : CiZ l yX2_closedChoice (Cond.code yX2_closedChoice cX2_closedChoice 4 (some .int) :: aW) { frames := f + 1, cells := 0, slots := 0, locals := n + 26 } Z G (qW G h q ad J g Q) [.ref h, .int a1, .int a2] (fun (r9 : Int32) (_ : Unit) => r9 = r) (fun (_ : Unit) => qW G h q ad J g Q') 0 0 := by
  refine ofBZ (y := yX2_closedChoice) (G := G) (cc := cX2_closedChoice) (maxL := 4) (ret := (some .int)) (Qc := fun A => va_Qi (fun (r9 : Int32) (_ : Unit) => r9 = r) (oB G A (fun (_ : Unit) => qW G h q ad J g Q')) A) (by decide) rfl ?_
  intro p e s m below meth c A F hK hZ hA hP hD
  have hS : va_S A s.heap s.heap [] := va_S.rf
  have hx := F.1.1; have hb := F.1.2.1; have hml := F.1.2.2.1; have hts := F.1.2.2.2.2
  have hown : s.vm.findClass RX2 = some m.cls := F.1.2.2.2.1
  have hl := lv_entry ([.ref h, .int a1, .int a2]) (n := 4) (Nat.le_of_ble_eq_true rfl)
  rw [lg_entry_eq]
  generalize (lg_sl ([.ref h, .int a1, .int a2]) ++ List.replicate (4 - (lg_sl ([.ref h, .int a1, .int a2])).length) Slot.unset).toArray = ls at hl ⊢
  have hl : lv_has ls 4 [(0, .ref h), (1, .int a1), (2, .int a2)] := hl
  unfold E_r_closedChoice at hE
  refine lv_aload_n hx hb dX2_closedChoice_0 rfl (lv_at hl 0 rfl) ?_
  refine lv_iload_n hx hb dX2_closedChoice_1 rfl (lv_at hl 1 rfl) ?_
  refine lv_iload_n hx hb dX2_closedChoice_2 rfl (lv_at hl 2 rfl) ?_
  obtain ⟨Q1, r2, hg, hE⟩ := hE
  refine kA_i (va_runV (As := [.int a1, .int a2]) (rest := []) F.1 (hR Q a1 a2 Q1 r2 hg _) (cwV 2 hts (aw_V w_322 w_324 ws_X2_choice w_7 w_325) rfl rfl rfl (by decide +kernel) ⟨by dsimp only; omega, by dsimp only; omega⟩) ⟨zS_blind, va_recv (q := (RX2, TX2, 10)) (ci := 2) (q0 := 0) hK.1 hP rfl qW_0, zS_pre hP hD hK hZ hS (kA_F hD hS hA)⟩ rfl rfl hl.1 rfl (lv_room (Nat.le_of_ble_eq_true rfl)) dX2_closedChoice_3 ⟨Nat.le_refl _, Nat.le_refl _⟩) hD hS hA (fun r9 u0 H locs hp hP hD hS => ?_)
  have hp := hp.symm; subst hp
  refine lv_istore_n hx hb dX2_closedChoice_6 rfl hl (by decide) rfl (fun ls hl => ?_)
  have hl : lv_has ls 4 [(3, .int r2), (0, .ref h), (1, .int a1), (2, .int a2)] := hl
  refine lv_aload_n hx hb dX2_closedChoice_7 rfl (lv_at hl 1 rfl) ?_
  refine lv_bipush (v := 41) hx hb dX2_closedChoice_8 (by decide) ?_
  obtain ⟨Q3, hg, hE⟩ := hE
  refine kA_v (va_runV (As := [.int 41]) (rest := []) F.1 (e_r_expect l G h q ad J g hO Q1 41 Q3 0 hg _) (cwV 1 hts (aw_V w_371 w_373 ws_X2_expect w_7 w_374) rfl rfl rfl (by decide +kernel) ⟨by dsimp only; omega, by dsimp only; omega⟩) ⟨cS_blind, va_recv (q := (RX2, TX2, 10)) (ci := 2) (q0 := 0) hK.1 hP rfl qW_0, cS_pre hP hD hK⟩ rfl rfl hl.1 rfl (lv_room (Nat.le_of_ble_eq_true rfl)) dX2_closedChoice_10 ⟨Nat.le_refl _, Nat.le_refl _⟩) hD hS hA (fun u0 H locs hp hP hD hS => ?_)
  refine lv_iload_n hx hb dX2_closedChoice_13 rfl (lv_at hl 0 rfl) ?_
  obtain ⟨rfl, hr9⟩ := hE
  exact en_i F hS _ () (by rfl) hr9.symm hP hD (Nat.le_refl _) (Nat.le_refl _) dX2_closedChoice_14

theorem dX2_group_0 : decode cX2_group 0 = .ok (.aload_n 0, 1) := by decide +kernel
theorem dX2_group_1 : decode cX2_group 1 = .ok (.getfield 15, 3) := by decide +kernel
theorem dX2_group_4 : decode cX2_group 4 = .ok (.getfield 156, 3) := by decide +kernel
theorem dX2_group_7 : decode cX2_group 7 = .ok (.iconst 4, 1) := by decide +kernel
theorem dX2_group_8 : decode cX2_group 8 = .ok (.if_icmp .lt 8, 3) := by decide +kernel
theorem dX2_group_11 : decode cX2_group 11 = .ok (.aload_n 0, 1) := by decide +kernel
theorem dX2_group_12 : decode cX2_group 12 = .ok (.invokevirtual 142, 3) := by decide +kernel
theorem dX2_group_15 : decode cX2_group 15 = .ok (.ireturn, 1) := by decide +kernel
theorem dX2_group_16 : decode cX2_group 16 = .ok (.aload_n 0, 1) := by decide +kernel
theorem dX2_group_17 : decode cX2_group 17 = .ok (.getfield 15, 3) := by decide +kernel
theorem dX2_group_20 : decode cX2_group 20 = .ok (.dup, 1) := by decide +kernel
theorem dX2_group_21 : decode cX2_group 21 = .ok (.getfield 156, 3) := by decide +kernel
theorem dX2_group_24 : decode cX2_group 24 = .ok (.iconst 1, 1) := by decide +kernel
theorem dX2_group_25 : decode cX2_group 25 = .ok (.iadd, 1) := by decide +kernel
theorem dX2_group_26 : decode cX2_group 26 = .ok (.putfield 156, 3) := by decide +kernel
theorem dX2_group_29 : decode cX2_group 29 = .ok (.aload_n 0, 1) := by decide +kernel
theorem dX2_group_30 : decode cX2_group 30 = .ok (.bipush 8, 2) := by decide +kernel
theorem dX2_group_32 : decode cX2_group 32 = .ok (.invokevirtual 24, 3) := by decide +kernel
theorem dX2_group_35 : decode cX2_group 35 = .ok (.istore_n 2, 1) := by decide +kernel
theorem dX2_group_36 : decode cX2_group 36 = .ok (.aload_n 0, 1) := by decide +kernel
theorem dX2_group_37 : decode cX2_group 37 = .ok (.bipush 9, 2) := by decide +kernel
theorem dX2_group_39 : decode cX2_group 39 = .ok (.invokevirtual 24, 3) := by decide +kernel
theorem dX2_group_42 : decode cX2_group 42 = .ok (.istore_n 3, 1) := by decide +kernel
theorem dX2_group_43 : decode cX2_group 43 = .ok (.aload_n 0, 1) := by decide +kernel
theorem dX2_group_44 : decode cX2_group 44 = .ok (.getfield 15, 3) := by decide +kernel
theorem dX2_group_47 : decode cX2_group 47 = .ok (.iload_n 2, 1) := by decide +kernel
theorem dX2_group_48 : decode cX2_group 48 = .ok (.invokevirtual 55, 3) := by decide +kernel
theorem dX2_group_51 : decode cX2_group 51 = .ok (.aload_n 0, 1) := by decide +kernel
theorem dX2_group_52 : decode cX2_group 52 = .ok (.getfield 15, 3) := by decide +kernel
theorem dX2_group_55 : decode cX2_group 55 = .ok (.getfield 156, 3) := by decide +kernel
theorem dX2_group_58 : decode cX2_group 58 = .ok (.putfield 165, 3) := by decide +kernel
theorem dX2_group_61 : decode cX2_group 61 = .ok (.aload_n 0, 1) := by decide +kernel
theorem dX2_group_62 : decode cX2_group 62 = .ok (.getfield 15, 3) := by decide +kernel
theorem dX2_group_65 : decode cX2_group 65 = .ok (.iload_n 3, 1) := by decide +kernel
theorem dX2_group_66 : decode cX2_group 66 = .ok (.invokevirtual 55, 3) := by decide +kernel
theorem dX2_group_69 : decode cX2_group 69 = .ok (.aload_n 0, 1) := by decide +kernel
theorem dX2_group_70 : decode cX2_group 70 = .ok (.getfield 15, 3) := by decide +kernel
theorem dX2_group_73 : decode cX2_group 73 = .ok (.getfield 156, 3) := by decide +kernel
theorem dX2_group_76 : decode cX2_group 76 = .ok (.putfield 165, 3) := by decide +kernel
theorem dX2_group_79 : decode cX2_group 79 = .ok (.aload_n 0, 1) := by decide +kernel
theorem dX2_group_80 : decode cX2_group 80 = .ok (.getfield 15, 3) := by decide +kernel
theorem dX2_group_83 : decode cX2_group 83 = .ok (.iload_n 2, 1) := by decide +kernel
theorem dX2_group_84 : decode cX2_group 84 = .ok (.invokevirtual 55, 3) := by decide +kernel
theorem dX2_group_87 : decode cX2_group 87 = .ok (.aload_n 0, 1) := by decide +kernel
theorem dX2_group_88 : decode cX2_group 88 = .ok (.iload_n 3, 1) := by decide +kernel
theorem dX2_group_89 : decode cX2_group 89 = .ok (.iload_n 1, 1) := by decide +kernel
theorem dX2_group_90 : decode cX2_group 90 = .ok (.invokevirtual 194, 3) := by decide +kernel
theorem dX2_group_93 : decode cX2_group 93 = .ok (.putfield 71, 3) := by decide +kernel
theorem dX2_group_96 : decode cX2_group 96 = .ok (.aload_n 0, 1) := by decide +kernel
theorem dX2_group_97 : decode cX2_group 97 = .ok (.iload_n 3, 1) := by decide +kernel
theorem dX2_group_98 : decode cX2_group 98 = .ok (.putfield 74, 3) := by decide +kernel
theorem dX2_group_101 : decode cX2_group 101 = .ok (.iload_n 2, 1) := by decide +kernel
theorem dX2_group_102 : decode cX2_group 102 = .ok (.ireturn, 1) := by decide +kernel
def E_r_group (J : Nat) (g : Nat → Int32) (CH : CT) (Q : QS) (a1 : Int32) (Q' : QS) (r : Int32) : Prop := if (Q.1 13) < 4 then (∃ (Q2 : QS) (r3 : Int32), E_r_add J g (rf Q 13 ((Q.1 13) + 1)) 8 Q2 r3 ∧ (∃ (Q4 : QS) (r5 : Int32), E_r_add J g Q2 9 Q4 r5 ∧ ((0 < Q4.2.2.1 ∧ Q4.2.2.1 ≤ 32) ∧ ((0 < Q4.2.2.1 ∧ Q4.2.2.1 ≤ 32) ∧ ((0 < Q4.2.2.1 ∧ Q4.2.2.1 ≤ 32) ∧ (∃ (Q9 : QS) (r10 : Int32), E_r_closedChoice J g CH (rn (rn Q4 (pn_ix Q4.2.2.1 r3) 4 (Q4.1 13)) (pn_ix Q4.2.2.1 r5) 4 (Q4.1 13)) r5 a1 Q9 r10 ∧ (Q' = (rf (rn Q9 (pn_ix Q4.2.2.1 r3) 2 r10) 5 r5) ∧ r = r3))))))) else (∃ (Q11 : QS) (r12 : Int32), E_r_refuse J g Q Q11 r12 ∧ (Q' = Q11 ∧ r = r12))
set_option maxHeartbeats 4000000 in
set_option maxRecDepth 100000 in
theorem e_r_group (l : Launch) (G : PG) (Z : ZZ) (h : Nat) (q ad : Nat → Nat) (J : Nat) (g : Nat → Int32) (hO : gOK J g) (CH : CT) (f n : Nat) (hf : 8 ≤ f) (hn : 300 ≤ n) (hR : CC l G Z h q ad J g f n CH) (Q : QS) (a1 : Int32) (Q' : QS) (r : Int32) (hE : E_r_group J g CH Q a1 Q' r) : CiZ l yX2_group (Cond.code yX2_group cX2_group 4 (some .int) :: aW) { frames := f + 2, cells := 0, slots := 0, locals := n + 49 } Z G (qW G h q ad J g Q) [.ref h, .int a1] (fun (r9 : Int32) (_ : Unit) => r9 = r) (fun (_ : Unit) => qW G h q ad J g Q') 0 0 := by
  refine ofBZ (y := yX2_group) (G := G) (cc := cX2_group) (maxL := 4) (ret := (some .int)) (Qc := fun A => va_Qi (fun (r9 : Int32) (_ : Unit) => r9 = r) (oB G A (fun (_ : Unit) => qW G h q ad J g Q')) A) (by decide) rfl ?_
  intro p e s m below meth c A F hK hZ hA hP hD
  have hS : va_S A s.heap s.heap [] := va_S.rf
  have hx := F.1.1; have hb := F.1.2.1; have hml := F.1.2.2.1; have hts := F.1.2.2.2.2
  have hown : s.vm.findClass RX2 = some m.cls := F.1.2.2.2.1
  have hl := lv_entry ([.ref h, .int a1]) (n := 4) (Nat.le_of_ble_eq_true rfl)
  rw [lg_entry_eq]
  generalize (lg_sl ([.ref h, .int a1]) ++ List.replicate (4 - (lg_sl ([.ref h, .int a1])).length) Slot.unset).toArray = ls at hl ⊢
  have hl : lv_has ls 4 [(0, .ref h), (1, .int a1)] := hl
  unfold E_r_group at hE
  refine lv_aload_n hx hb dX2_group_0 rfl (lv_at hl 0 rfl) ?_
  refine va_get (D := G.1) (ci := 2) (C := RX2) (T := TX2) (N := 10) hx hb hts inX2 hown hK.1 hP 0 qW_0 rfl 1 (by decide) (hts _ w_276) (fun _ h9 => h9) rF_1 dX2_group_1 ?_
  refine va_getN (D := G.1) (ci := 1) (C := RX1) (T := TX1) (N := 5) hx hb hts inX1 hown hK.1 hP 3 qW_3 rfl 3 (by decide) (hK.2.1.use w_124) (fun _ h9 => h9) pF_3 dX2_group_4 ?_
  refine lv_iconst (v := 4) hx hb dX2_group_7 (by decide) ?_
  refine lv_icmp_lt (tgt := 16) hx hb dX2_group_8 (by decide) (fun h1 => ?_) (fun h1 => ?_)
  ·
    rw [if_pos h1] at hE
    refine lv_aload_n hx hb dX2_group_16 rfl (lv_at hl 0 rfl) ?_
    refine va_get (D := G.1) (ci := 2) (C := RX2) (T := TX2) (N := 10) hx hb hts inX2 hown hK.1 hP 0 qW_0 rfl 1 (by decide) (hts _ w_276) (fun _ h9 => h9) rF_1 dX2_group_17 ?_
    refine lv_dup hx hb dX2_group_20 rfl ?_
    refine va_getN (D := G.1) (ci := 1) (C := RX1) (T := TX1) (N := 5) hx hb hts inX1 hown hK.1 hP 3 qW_3 rfl 3 (by decide) (hK.2.1.use w_124) (fun _ h9 => h9) pF_3 dX2_group_21 ?_
    refine lv_iconst (v := 1) hx hb dX2_group_24 (by decide) ?_
    refine lv_iadd hx hb dX2_group_25 ?_
    refine va_putN (D := G.1) (ci := 1) (v := .int ((Q.1 13) + 1)) (ty := .int) (C := RX1) (T := TX1) (N := 5) hx hb hts inX1 tyX1 tyX1_ok nmX1 hown hK.1 hP hD hS 3 qW_3 rfl 3 (by decide) (hK.2.1.use w_124) (fun _ h9 => h9) rfl (by decide +kernel) rfl rfl pF_l3 dX2_group_26 (fun H locs hP hD hS => ?_)
    rw [qW_p3] at hP hD
    refine lv_aload_n hx hb dX2_group_29 rfl (lv_at hl 0 rfl) ?_
    refine lv_bipush (v := 8) hx hb dX2_group_30 (by decide) ?_
    obtain ⟨Q2, r3, hg, hE⟩ := hE
    refine kA_i (va_runV (As := [.int 8]) (rest := []) F.1 (e_r_add l G h q ad J g hO (rf Q 13 ((Q.1 13) + 1)) 8 Q2 r3 hg _) (cwV 1 hts (aw_V w_314 w_316 ws_X2_add w_7 w_317) rfl rfl rfl (by decide +kernel) ⟨by dsimp only; omega, by dsimp only; omega⟩) ⟨cS_blind, va_recv (q := (RX2, TX2, 10)) (ci := 2) (q0 := 0) hK.1 hP rfl qW_0, cS_pre hP hD hK⟩ rfl rfl hl.1 rfl (lv_room (Nat.le_of_ble_eq_true rfl)) dX2_group_32 ⟨Nat.le_refl _, Nat.le_refl _⟩) hD hS hA (fun r9 u0 H locs hp hP hD hS => ?_)
    have hp := hp.symm; subst hp
    refine lv_istore_n hx hb dX2_group_35 rfl hl (by decide) rfl (fun ls hl => ?_)
    have hl : lv_has ls 4 [(2, .int r3), (0, .ref h), (1, .int a1)] := hl
    refine lv_aload_n hx hb dX2_group_36 rfl (lv_at hl 1 rfl) ?_
    refine lv_bipush (v := 9) hx hb dX2_group_37 (by decide) ?_
    obtain ⟨Q4, r5, hg, hE⟩ := hE
    refine kA_i (va_runV (As := [.int 9]) (rest := []) F.1 (e_r_add l G h q ad J g hO Q2 9 Q4 r5 hg _) (cwV 1 hts (aw_V w_314 w_316 ws_X2_add w_7 w_317) rfl rfl rfl (by decide +kernel) ⟨by dsimp only; omega, by dsimp only; omega⟩) ⟨cS_blind, va_recv (q := (RX2, TX2, 10)) (ci := 2) (q0 := 0) hK.1 hP rfl qW_0, cS_pre hP hD hK⟩ rfl rfl hl.1 rfl (lv_room (Nat.le_of_ble_eq_true rfl)) dX2_group_39 ⟨Nat.le_refl _, Nat.le_refl _⟩) hD hS hA (fun r9 u0 H locs hp hP hD hS => ?_)
    have hp := hp.symm; subst hp
    refine lv_istore_n hx hb dX2_group_42 rfl hl (by decide) rfl (fun ls hl => ?_)
    have hl : lv_has ls 4 [(3, .int r5), (2, .int r3), (0, .ref h), (1, .int a1)] := hl
    refine lv_aload_n hx hb dX2_group_43 rfl (lv_at hl 2 rfl) ?_
    refine va_get (D := G.1) (ci := 2) (C := RX2) (T := TX2) (N := 10) hx hb hts inX2 hown hK.1 hP 0 qW_0 rfl 1 (by decide) (hts _ w_276) (fun _ h9 => h9) rF_1 dX2_group_44 ?_
    refine lv_iload_n hx hb dX2_group_47 rfl (lv_at hl 1 rfl) ?_
    obtain ⟨hc6, hE⟩ := hE
    refine kp_V (va_runV (As := [.int r3]) (rest := []) F.1 (v_prog_node l G _ _ Q4.2.2.1 _ _ _ ad _ _ _ r3 hc6.1 hc6.2 _) (cwV 1 hts (aw_V w_339 w_340 w_341 w_4 w_342) rfl rfl rfl (by decide +kernel) ⟨by dsimp only; omega, by dsimp only; omega⟩) ⟨cS_blind, va_recv (q := (RX1, TX1, 5)) (ci := 1) (q0 := 0) hK.1 (qP_prog (Q := Q4) hP) rfl rfl, cS_pre (qP_prog (Q := Q4) hP) (qD_prog (Q := Q4) hD) hK⟩ rfl rfl hl.1 rfl (lv_room (Nat.le_of_ble_eq_true rfl)) dX2_group_48 ⟨Nat.le_refl _, Nat.le_refl _⟩) (fun v9 hp => ?_)
    subst hp
    refine lv_aload_n hx hb dX2_group_51 rfl (lv_at hl 2 rfl) ?_
    refine va_get (D := G.1) (ci := 2) (C := RX2) (T := TX2) (N := 10) hx hb hts inX2 hown hK.1 hP 0 qW_0 rfl 1 (by decide) (hts _ w_276) (fun _ h9 => h9) rF_1 dX2_group_52 ?_
    refine va_getN (D := G.1) (ci := 1) (C := RX1) (T := TX1) (N := 5) hx hb hts inX1 hown hK.1 hP 3 qW_3 rfl 3 (by decide) (hK.2.1.use w_124) (fun _ h9 => h9) pF_3 dX2_group_55 ?_
    refine va_putN (D := G.1) (ci := 0) (v := .int (Q4.1 13)) (ty := .int) (C := RX0) (T := TX0) (N := 13) hx hb hts inX0 tyX0 tyX0_ok nmX0 hown hK.1 hP hD hS (5 + (pn_ix Q4.2.2.1 r3)) (qW_nd (pn_lt hc6.1 hc6.2)) rfl 4 (by decide) (hK.2.1.use w_73) (fun _ h9 => h9) rfl (by decide +kernel) rfl rfl (Nat.le_of_ble_eq_true rfl) dX2_group_58 (fun H locs hP hD hS => ?_)
    rw [qW_n4 (pn_lt hc6.1 hc6.2)] at hP hD
    refine lv_aload_n hx hb dX2_group_61 rfl (lv_at hl 2 rfl) ?_
    refine va_get (D := G.1) (ci := 2) (C := RX2) (T := TX2) (N := 10) hx hb hts inX2 hown hK.1 hP 0 qW_0 rfl 1 (by decide) (hts _ w_276) (fun _ h9 => h9) rF_1 dX2_group_62 ?_
    refine lv_iload_n hx hb dX2_group_65 rfl (lv_at hl 0 rfl) ?_
    obtain ⟨hc7, hE⟩ := hE
    refine kp_V (va_runV (As := [.int r5]) (rest := []) F.1 (v_prog_node l G _ _ Q4.2.2.1 _ _ _ ad _ _ _ r5 hc7.1 hc7.2 _) (cwV 1 hts (aw_V w_339 w_340 w_341 w_4 w_342) rfl rfl rfl (by decide +kernel) ⟨by dsimp only; omega, by dsimp only; omega⟩) ⟨cS_blind, va_recv (q := (RX1, TX1, 5)) (ci := 1) (q0 := 0) hK.1 (qP_prog (Q := (rn Q4 (pn_ix Q4.2.2.1 r3) 4 (Q4.1 13))) hP) rfl rfl, cS_pre (qP_prog (Q := (rn Q4 (pn_ix Q4.2.2.1 r3) 4 (Q4.1 13))) hP) (qD_prog (Q := (rn Q4 (pn_ix Q4.2.2.1 r3) 4 (Q4.1 13))) hD) hK⟩ rfl rfl hl.1 rfl (lv_room (Nat.le_of_ble_eq_true rfl)) dX2_group_66 ⟨Nat.le_refl _, Nat.le_refl _⟩) (fun v9 hp => ?_)
    subst hp
    refine lv_aload_n hx hb dX2_group_69 rfl (lv_at hl 2 rfl) ?_
    refine va_get (D := G.1) (ci := 2) (C := RX2) (T := TX2) (N := 10) hx hb hts inX2 hown hK.1 hP 0 qW_0 rfl 1 (by decide) (hts _ w_276) (fun _ h9 => h9) rF_1 dX2_group_70 ?_
    refine va_getN (D := G.1) (ci := 1) (C := RX1) (T := TX1) (N := 5) hx hb hts inX1 hown hK.1 hP 3 qW_3 rfl 3 (by decide) (hK.2.1.use w_124) (fun _ h9 => h9) pF_3 dX2_group_73 ?_
    refine tp_i (Q4.1 13) rfl ?_
    refine va_putN (D := G.1) (ci := 0) (v := .int (Q4.1 13)) (ty := .int) (C := RX0) (T := TX0) (N := 13) hx hb hts inX0 tyX0 tyX0_ok nmX0 hown hK.1 hP hD hS (5 + (pn_ix Q4.2.2.1 r5)) (qW_nd (pn_lt hc7.1 hc7.2)) rfl 4 (by decide) (hK.2.1.use w_73) (fun _ h9 => h9) rfl (by decide +kernel) rfl rfl (Nat.le_of_ble_eq_true rfl) dX2_group_76 (fun H locs hP hD hS => ?_)
    rw [qW_n4 (pn_lt hc7.1 hc7.2)] at hP hD
    refine lv_aload_n hx hb dX2_group_79 rfl (lv_at hl 2 rfl) ?_
    refine va_get (D := G.1) (ci := 2) (C := RX2) (T := TX2) (N := 10) hx hb hts inX2 hown hK.1 hP 0 qW_0 rfl 1 (by decide) (hts _ w_276) (fun _ h9 => h9) rF_1 dX2_group_80 ?_
    refine lv_iload_n hx hb dX2_group_83 rfl (lv_at hl 1 rfl) ?_
    obtain ⟨hc8, hE⟩ := hE
    refine kp_V (va_runV (As := [.int r3]) (rest := []) F.1 (v_prog_node l G _ _ Q4.2.2.1 _ _ _ ad _ _ _ r3 hc8.1 hc8.2 _) (cwV 1 hts (aw_V w_339 w_340 w_341 w_4 w_342) rfl rfl rfl (by decide +kernel) ⟨by dsimp only; omega, by dsimp only; omega⟩) ⟨cS_blind, va_recv (q := (RX1, TX1, 5)) (ci := 1) (q0 := 0) hK.1 (qP_prog (Q := (rn (rn Q4 (pn_ix Q4.2.2.1 r3) 4 (Q4.1 13)) (pn_ix Q4.2.2.1 r5) 4 (Q4.1 13))) hP) rfl rfl, cS_pre (qP_prog (Q := (rn (rn Q4 (pn_ix Q4.2.2.1 r3) 4 (Q4.1 13)) (pn_ix Q4.2.2.1 r5) 4 (Q4.1 13))) hP) (qD_prog (Q := (rn (rn Q4 (pn_ix Q4.2.2.1 r3) 4 (Q4.1 13)) (pn_ix Q4.2.2.1 r5) 4 (Q4.1 13))) hD) hK⟩ rfl rfl hl.1 rfl (lv_room (Nat.le_of_ble_eq_true rfl)) dX2_group_84 ⟨Nat.le_refl _, Nat.le_refl _⟩) (fun v9 hp => ?_)
    subst hp
    refine lv_aload_n hx hb dX2_group_87 rfl (lv_at hl 2 rfl) ?_
    refine lv_iload_n hx hb dX2_group_88 rfl (lv_at hl 0 rfl) ?_
    refine lv_iload_n hx hb dX2_group_89 rfl (lv_at hl 3 rfl) ?_
    obtain ⟨Q9, r10, hg, hE⟩ := hE
    refine kA_i (va_runV (As := [.int r5, .int a1]) (rest := [.ref (ad (pn_ix Q4.2.2.1 r3))]) F.1 (e_r_closedChoice l G Z h q ad J g hO CH f n hf hn hR (rn (rn Q4 (pn_ix Q4.2.2.1 r3) 4 (Q4.1 13)) (pn_ix Q4.2.2.1 r5) 4 (Q4.1 13)) r5 a1 Q9 r10 hg _) (cwV 2 hts (aw_V w_367 w_369 ws_X2_closedChoice w_7 w_370) rfl rfl rfl (by decide +kernel) ⟨by dsimp only; omega, by dsimp only; omega⟩) ⟨zS_blind, va_recv (q := (RX2, TX2, 10)) (ci := 2) (q0 := 0) hK.1 hP rfl qW_0, zS_pre hP hD hK hZ hS (kA_F hD hS hA)⟩ rfl rfl hl.1 rfl (lv_room (Nat.le_of_ble_eq_true rfl)) dX2_group_90 ⟨Nat.le_refl _, Nat.le_refl _⟩) hD hS hA (fun r9 u0 H locs hp hP hD hS => ?_)
    have hp := hp.symm; subst hp
    refine va_putN (D := G.1) (ci := 0) (v := .int r10) (ty := .int) (C := RX0) (T := TX0) (N := 13) hx hb hts inX0 tyX0 tyX0_ok nmX0 hown hK.1 hP hD hS (5 + (pn_ix Q4.2.2.1 r3)) (qW_nd (pn_lt hc8.1 hc8.2)) rfl 2 (by decide) (hK.2.1.use w_67) (fun _ h9 => h9) rfl (by decide +kernel) rfl rfl (Nat.le_of_ble_eq_true rfl) dX2_group_93 (fun H locs hP hD hS => ?_)
    rw [qW_n2 (pn_lt hc8.1 hc8.2)] at hP hD
    refine lv_aload_n hx hb dX2_group_96 rfl (lv_at hl 2 rfl) ?_
    refine lv_iload_n hx hb dX2_group_97 rfl (lv_at hl 0 rfl) ?_
    refine va_put (D := G.1) (ci := 2) (v := .int r5) (ty := .int) (C := RX2) (T := TX2) (N := 10) hx hb hts inX2 tyX2 tyX2_ok nmX2 hown hK.1 hP hD hS 0 qW_0 rfl 5 (by decide) (hts _ w_280) (fun _ h9 => h9) rfl (by decide +kernel) rfl rfl rF_l5 dX2_group_98 (fun H locs hP hD hS => ?_)
    rw [qW_f5] at hP hD
    refine lv_iload_n hx hb dX2_group_101 rfl (lv_at hl 1 rfl) ?_
    obtain ⟨rfl, hr9⟩ := hE
    exact en_i F hS _ () (by rfl) hr9.symm hP hD (Nat.le_refl _) (Nat.le_refl _) dX2_group_102
  ·
    rw [if_neg h1] at hE
    refine lv_aload_n hx hb dX2_group_11 rfl (lv_at hl 0 rfl) ?_
    obtain ⟨Q11, r12, hg, hE⟩ := hE
    refine kA_i (va_runV (As := []) (rest := []) F.1 (e_r_refuse l G h q ad J g hO Q Q11 r12 hg _) (cwV 0 hts (aw_V w_355 w_357 ws_X2_refuse w_7 w_358) rfl rfl rfl (by decide +kernel) ⟨by dsimp only; omega, by dsimp only; omega⟩) ⟨cS_blind, va_recv (q := (RX2, TX2, 10)) (ci := 2) (q0 := 0) hK.1 hP rfl qW_0, cS_pre hP hD hK⟩ rfl rfl hl.1 rfl (lv_room (Nat.le_of_ble_eq_true rfl)) dX2_group_12 ⟨Nat.le_refl _, Nat.le_refl _⟩) hD hS hA (fun r9 u0 H locs hp hP hD hS => ?_)
    have hp := hp.symm; subst hp
    obtain ⟨rfl, hr9⟩ := hE
    exact en_i F hS _ () (by rfl) hr9.symm hP hD (Nat.le_refl _) (Nat.le_refl _) dX2_group_15

theorem dX2_together_0 : decode cX2_together 0 = .ok (.aload_n 0, 1) := by decide +kernel
theorem dX2_together_1 : decode cX2_together 1 = .ok (.bipush 11, 2) := by decide +kernel
theorem dX2_together_3 : decode cX2_together 3 = .ok (.invokevirtual 24, 3) := by decide +kernel
theorem dX2_together_6 : decode cX2_together 6 = .ok (.istore_n 2, 1) := by decide +kernel
theorem dX2_together_7 : decode cX2_together 7 = .ok (.aload_n 0, 1) := by decide +kernel
theorem dX2_together_8 : decode cX2_together 8 = .ok (.iload_n 2, 1) := by decide +kernel
theorem dX2_together_9 : decode cX2_together 9 = .ok (.iload_n 1, 1) := by decide +kernel
theorem dX2_together_10 : decode cX2_together 10 = .ok (.invokevirtual 194, 3) := by decide +kernel
theorem dX2_together_13 : decode cX2_together 13 = .ok (.istore_n 3, 1) := by decide +kernel
theorem dX2_together_14 : decode cX2_together 14 = .ok (.aload_n 0, 1) := by decide +kernel
theorem dX2_together_15 : decode cX2_together 15 = .ok (.iload_n 2, 1) := by decide +kernel
theorem dX2_together_16 : decode cX2_together 16 = .ok (.putfield 74, 3) := by decide +kernel
theorem dX2_together_19 : decode cX2_together 19 = .ok (.iload_n 3, 1) := by decide +kernel
theorem dX2_together_20 : decode cX2_together 20 = .ok (.ireturn, 1) := by decide +kernel
def E_r_together (J : Nat) (g : Nat → Int32) (CH : CT) (Q : QS) (a1 : Int32) (Q' : QS) (r : Int32) : Prop := ∃ (Q1 : QS) (r2 : Int32), E_r_add J g Q 11 Q1 r2 ∧ (∃ (Q3 : QS) (r4 : Int32), E_r_closedChoice J g CH Q1 r2 a1 Q3 r4 ∧ (Q' = (rf Q3 5 r2) ∧ r = r4))
set_option maxHeartbeats 4000000 in
set_option maxRecDepth 100000 in
theorem e_r_together (l : Launch) (G : PG) (Z : ZZ) (h : Nat) (q ad : Nat → Nat) (J : Nat) (g : Nat → Int32) (hO : gOK J g) (CH : CT) (f n : Nat) (hf : 8 ≤ f) (hn : 300 ≤ n) (hR : CC l G Z h q ad J g f n CH) (Q : QS) (a1 : Int32) (Q' : QS) (r : Int32) (hE : E_r_together J g CH Q a1 Q' r) : CiZ l yX2_together (Cond.code yX2_together cX2_together 4 (some .int) :: aW) { frames := f + 2, cells := 0, slots := 0, locals := n + 49 } Z G (qW G h q ad J g Q) [.ref h, .int a1] (fun (r9 : Int32) (_ : Unit) => r9 = r) (fun (_ : Unit) => qW G h q ad J g Q') 0 0 := by
  refine ofBZ (y := yX2_together) (G := G) (cc := cX2_together) (maxL := 4) (ret := (some .int)) (Qc := fun A => va_Qi (fun (r9 : Int32) (_ : Unit) => r9 = r) (oB G A (fun (_ : Unit) => qW G h q ad J g Q')) A) (by decide) rfl ?_
  intro p e s m below meth c A F hK hZ hA hP hD
  have hS : va_S A s.heap s.heap [] := va_S.rf
  have hx := F.1.1; have hb := F.1.2.1; have hml := F.1.2.2.1; have hts := F.1.2.2.2.2
  have hown : s.vm.findClass RX2 = some m.cls := F.1.2.2.2.1
  have hl := lv_entry ([.ref h, .int a1]) (n := 4) (Nat.le_of_ble_eq_true rfl)
  rw [lg_entry_eq]
  generalize (lg_sl ([.ref h, .int a1]) ++ List.replicate (4 - (lg_sl ([.ref h, .int a1])).length) Slot.unset).toArray = ls at hl ⊢
  have hl : lv_has ls 4 [(0, .ref h), (1, .int a1)] := hl
  unfold E_r_together at hE
  refine lv_aload_n hx hb dX2_together_0 rfl (lv_at hl 0 rfl) ?_
  refine lv_bipush (v := 11) hx hb dX2_together_1 (by decide) ?_
  obtain ⟨Q1, r2, hg, hE⟩ := hE
  refine kA_i (va_runV (As := [.int 11]) (rest := []) F.1 (e_r_add l G h q ad J g hO Q 11 Q1 r2 hg _) (cwV 1 hts (aw_V w_314 w_316 ws_X2_add w_7 w_317) rfl rfl rfl (by decide +kernel) ⟨by dsimp only; omega, by dsimp only; omega⟩) ⟨cS_blind, va_recv (q := (RX2, TX2, 10)) (ci := 2) (q0 := 0) hK.1 hP rfl qW_0, cS_pre hP hD hK⟩ rfl rfl hl.1 rfl (lv_room (Nat.le_of_ble_eq_true rfl)) dX2_together_3 ⟨Nat.le_refl _, Nat.le_refl _⟩) hD hS hA (fun r9 u0 H locs hp hP hD hS => ?_)
  have hp := hp.symm; subst hp
  refine lv_istore_n hx hb dX2_together_6 rfl hl (by decide) rfl (fun ls hl => ?_)
  have hl : lv_has ls 4 [(2, .int r2), (0, .ref h), (1, .int a1)] := hl
  refine lv_aload_n hx hb dX2_together_7 rfl (lv_at hl 1 rfl) ?_
  refine lv_iload_n hx hb dX2_together_8 rfl (lv_at hl 0 rfl) ?_
  refine lv_iload_n hx hb dX2_together_9 rfl (lv_at hl 2 rfl) ?_
  obtain ⟨Q3, r4, hg, hE⟩ := hE
  refine kA_i (va_runV (As := [.int r2, .int a1]) (rest := []) F.1 (e_r_closedChoice l G Z h q ad J g hO CH f n hf hn hR Q1 r2 a1 Q3 r4 hg _) (cwV 2 hts (aw_V w_367 w_369 ws_X2_closedChoice w_7 w_370) rfl rfl rfl (by decide +kernel) ⟨by dsimp only; omega, by dsimp only; omega⟩) ⟨zS_blind, va_recv (q := (RX2, TX2, 10)) (ci := 2) (q0 := 0) hK.1 hP rfl qW_0, zS_pre hP hD hK hZ hS (kA_F hD hS hA)⟩ rfl rfl hl.1 rfl (lv_room (Nat.le_of_ble_eq_true rfl)) dX2_together_10 ⟨Nat.le_refl _, Nat.le_refl _⟩) hD hS hA (fun r9 u0 H locs hp hP hD hS => ?_)
  have hp := hp.symm; subst hp
  refine lv_istore_n hx hb dX2_together_13 rfl hl (by decide) rfl (fun ls hl => ?_)
  have hl : lv_has ls 4 [(3, .int r4), (2, .int r2), (0, .ref h), (1, .int a1)] := hl
  refine lv_aload_n hx hb dX2_together_14 rfl (lv_at hl 2 rfl) ?_
  refine lv_iload_n hx hb dX2_together_15 rfl (lv_at hl 1 rfl) ?_
  refine va_put (D := G.1) (ci := 2) (v := .int r2) (ty := .int) (C := RX2) (T := TX2) (N := 10) hx hb hts inX2 tyX2 tyX2_ok nmX2 hown hK.1 hP hD hS 0 qW_0 rfl 5 (by decide) (hts _ w_280) (fun _ h9 => h9) rfl (by decide +kernel) rfl rfl rF_l5 dX2_together_16 (fun H locs hP hD hS => ?_)
  rw [qW_f5] at hP hD
  refine lv_iload_n hx hb dX2_together_19 rfl (lv_at hl 0 rfl) ?_
  obtain ⟨rfl, hr9⟩ := hE
  exact en_i F hS _ () (by rfl) hr9.symm hP hD (Nat.le_refl _) (Nat.le_refl _) dX2_together_20

theorem dX2_look_0 : decode cX2_look 0 = .ok (.aload_n 0, 1) := by decide +kernel
theorem dX2_look_1 : decode cX2_look 1 = .ok (.bipush 60, 2) := by decide +kernel
theorem dX2_look_3 : decode cX2_look 3 = .ok (.invokevirtual 94, 3) := by decide +kernel
theorem dX2_look_6 : decode cX2_look 6 = .ok (.istore_n 2, 1) := by decide +kernel
theorem dX2_look_7 : decode cX2_look 7 = .ok (.aload_n 0, 1) := by decide +kernel
theorem dX2_look_8 : decode cX2_look 8 = .ok (.bipush 33, 2) := by decide +kernel
theorem dX2_look_10 : decode cX2_look 10 = .ok (.invokevirtual 94, 3) := by decide +kernel
theorem dX2_look_13 : decode cX2_look 13 = .ok (.istore_n 3, 1) := by decide +kernel
theorem dX2_look_14 : decode cX2_look 14 = .ok (.iload_n 3, 1) := by decide +kernel
theorem dX2_look_15 : decode cX2_look 15 = .ok (.ifCond .ne 9, 3) := by decide +kernel
theorem dX2_look_18 : decode cX2_look 18 = .ok (.aload_n 0, 1) := by decide +kernel
theorem dX2_look_19 : decode cX2_look 19 = .ok (.bipush 61, 2) := by decide +kernel
theorem dX2_look_21 : decode cX2_look 21 = .ok (.invokevirtual 113, 3) := by decide +kernel
theorem dX2_look_24 : decode cX2_look 24 = .ok (.aload_n 0, 1) := by decide +kernel
theorem dX2_look_25 : decode cX2_look 25 = .ok (.getfield 36, 3) := by decide +kernel
theorem dX2_look_28 : decode cX2_look 28 = .ok (.ifCond .eq 8, 3) := by decide +kernel
theorem dX2_look_31 : decode cX2_look 31 = .ok (.aload_n 0, 1) := by decide +kernel
theorem dX2_look_32 : decode cX2_look 32 = .ok (.invokevirtual 142, 3) := by decide +kernel
theorem dX2_look_35 : decode cX2_look 35 = .ok (.ireturn, 1) := by decide +kernel
theorem dX2_look_36 : decode cX2_look 36 = .ok (.aload_n 0, 1) := by decide +kernel
theorem dX2_look_37 : decode cX2_look 37 = .ok (.dup, 1) := by decide +kernel
theorem dX2_look_38 : decode cX2_look 38 = .ok (.getfield 107, 3) := by decide +kernel
theorem dX2_look_41 : decode cX2_look 41 = .ok (.iload_n 2, 1) := by decide +kernel
theorem dX2_look_42 : decode cX2_look 42 = .ok (.ifCond .eq 7, 3) := by decide +kernel
theorem dX2_look_45 : decode cX2_look 45 = .ok (.iconst 1, 1) := by decide +kernel
theorem dX2_look_46 : decode cX2_look 46 = .ok (.goto 4, 3) := by decide +kernel
theorem dX2_look_49 : decode cX2_look 49 = .ok (.iconst 0, 1) := by decide +kernel
theorem dX2_look_50 : decode cX2_look 50 = .ok (.iadd, 1) := by decide +kernel
theorem dX2_look_51 : decode cX2_look 51 = .ok (.putfield 107, 3) := by decide +kernel
theorem dX2_look_54 : decode cX2_look 54 = .ok (.aload_n 0, 1) := by decide +kernel
theorem dX2_look_55 : decode cX2_look 55 = .ok (.bipush 14, 2) := by decide +kernel
theorem dX2_look_57 : decode cX2_look 57 = .ok (.aload_n 0, 1) := by decide +kernel
theorem dX2_look_58 : decode cX2_look 58 = .ok (.aload_n 0, 1) := by decide +kernel
theorem dX2_look_59 : decode cX2_look 59 = .ok (.iconst 1, 1) := by decide +kernel
theorem dX2_look_60 : decode cX2_look 60 = .ok (.invokevirtual 24, 3) := by decide +kernel
theorem dX2_look_63 : decode cX2_look 63 = .ok (.iload_n 1, 1) := by decide +kernel
theorem dX2_look_64 : decode cX2_look 64 = .ok (.invokevirtual 194, 3) := by decide +kernel
theorem dX2_look_67 : decode cX2_look 67 = .ok (.invokevirtual 101, 3) := by decide +kernel
theorem dX2_look_70 : decode cX2_look 70 = .ok (.istore 4, 2) := by decide +kernel
theorem dX2_look_72 : decode cX2_look 72 = .ok (.aload_n 0, 1) := by decide +kernel
theorem dX2_look_73 : decode cX2_look 73 = .ok (.dup, 1) := by decide +kernel
theorem dX2_look_74 : decode cX2_look 74 = .ok (.getfield 107, 3) := by decide +kernel
theorem dX2_look_77 : decode cX2_look 77 = .ok (.iload_n 2, 1) := by decide +kernel
theorem dX2_look_78 : decode cX2_look 78 = .ok (.ifCond .eq 7, 3) := by decide +kernel
theorem dX2_look_81 : decode cX2_look 81 = .ok (.iconst 1, 1) := by decide +kernel
theorem dX2_look_82 : decode cX2_look 82 = .ok (.goto 4, 3) := by decide +kernel
theorem dX2_look_85 : decode cX2_look 85 = .ok (.iconst 0, 1) := by decide +kernel
theorem dX2_look_86 : decode cX2_look 86 = .ok (.isub, 1) := by decide +kernel
theorem dX2_look_87 : decode cX2_look 87 = .ok (.putfield 107, 3) := by decide +kernel
theorem dX2_look_90 : decode cX2_look 90 = .ok (.aload_n 0, 1) := by decide +kernel
theorem dX2_look_91 : decode cX2_look 91 = .ok (.getfield 15, 3) := by decide +kernel
theorem dX2_look_94 : decode cX2_look 94 = .ok (.iload 4, 2) := by decide +kernel
theorem dX2_look_96 : decode cX2_look 96 = .ok (.invokevirtual 55, 3) := by decide +kernel
theorem dX2_look_99 : decode cX2_look 99 = .ok (.iload_n 2, 1) := by decide +kernel
theorem dX2_look_100 : decode cX2_look 100 = .ok (.putfield 200, 3) := by decide +kernel
theorem dX2_look_103 : decode cX2_look 103 = .ok (.aload_n 0, 1) := by decide +kernel
theorem dX2_look_104 : decode cX2_look 104 = .ok (.getfield 15, 3) := by decide +kernel
theorem dX2_look_107 : decode cX2_look 107 = .ok (.iload 4, 2) := by decide +kernel
theorem dX2_look_109 : decode cX2_look 109 = .ok (.invokevirtual 55, 3) := by decide +kernel
theorem dX2_look_112 : decode cX2_look 112 = .ok (.iload_n 3, 1) := by decide +kernel
theorem dX2_look_113 : decode cX2_look 113 = .ok (.putfield 203, 3) := by decide +kernel
theorem dX2_look_116 : decode cX2_look 116 = .ok (.iload 4, 2) := by decide +kernel
theorem dX2_look_118 : decode cX2_look 118 = .ok (.ireturn, 1) := by decide +kernel
def E_r_look (J : Nat) (g : Nat → Int32) (CH : CT) (Q : QS) (a1 : Int32) (Q' : QS) (r : Int32) : Prop := ∃ (Q1 : QS) (r2 : Int32), E_r_take J g Q 60 Q1 r2 ∧ (∃ (Q3 : QS) (r4 : Int32), E_r_take J g Q1 33 Q3 r4 ∧ (if r4 = 0 then (∃ Q32 : QS, E_r_expect J g Q3 61 Q32 0 ∧ (if (Q32.1 3) = 0 then (if r2 = 0 then (∃ (Q36 : QS) (r37 : Int32), E_r_add J g (rf Q32 4 ((Q32.1 4) + 0)) 1 Q36 r37 ∧ (∃ (Q38 : QS) (r39 : Int32), E_r_closedChoice J g CH Q36 r37 a1 Q38 r39 ∧ (∃ (Q40 : QS) (r41 : Int32), E_r_withBody J g Q38 14 r39 Q40 r41 ∧ (if r2 = 0 then ((0 < Q40.2.2.1 ∧ Q40.2.2.1 ≤ 32) ∧ (narrow .boolean (.int r2) = .int r2 ∧ fits .boolean (.int r2) = true ∧ ((0 < Q40.2.2.1 ∧ Q40.2.2.1 ≤ 32) ∧ (narrow .boolean (.int r4) = .int r4 ∧ fits .boolean (.int r4) = true ∧ (Q' = (rn (rn (rf Q40 4 ((Q40.1 4) - 0)) (pn_ix Q40.2.2.1 r41) 9 r2) (pn_ix Q40.2.2.1 r41) 10 r4) ∧ r = r41))))) else ((0 < Q40.2.2.1 ∧ Q40.2.2.1 ≤ 32) ∧ (narrow .boolean (.int r2) = .int r2 ∧ fits .boolean (.int r2) = true ∧ ((0 < Q40.2.2.1 ∧ Q40.2.2.1 ≤ 32) ∧ (narrow .boolean (.int r4) = .int r4 ∧ fits .boolean (.int r4) = true ∧ (Q' = (rn (rn (rf Q40 4 ((Q40.1 4) - 1)) (pn_ix Q40.2.2.1 r41) 9 r2) (pn_ix Q40.2.2.1 r41) 10 r4) ∧ r = r41))))))))) else (∃ (Q47 : QS) (r48 : Int32), E_r_add J g (rf Q32 4 ((Q32.1 4) + 1)) 1 Q47 r48 ∧ (∃ (Q49 : QS) (r50 : Int32), E_r_closedChoice J g CH Q47 r48 a1 Q49 r50 ∧ (∃ (Q51 : QS) (r52 : Int32), E_r_withBody J g Q49 14 r50 Q51 r52 ∧ (if r2 = 0 then ((0 < Q51.2.2.1 ∧ Q51.2.2.1 ≤ 32) ∧ (narrow .boolean (.int r2) = .int r2 ∧ fits .boolean (.int r2) = true ∧ ((0 < Q51.2.2.1 ∧ Q51.2.2.1 ≤ 32) ∧ (narrow .boolean (.int r4) = .int r4 ∧ fits .boolean (.int r4) = true ∧ (Q' = (rn (rn (rf Q51 4 ((Q51.1 4) - 0)) (pn_ix Q51.2.2.1 r52) 9 r2) (pn_ix Q51.2.2.1 r52) 10 r4) ∧ r = r52))))) else ((0 < Q51.2.2.1 ∧ Q51.2.2.1 ≤ 32) ∧ (narrow .boolean (.int r2) = .int r2 ∧ fits .boolean (.int r2) = true ∧ ((0 < Q51.2.2.1 ∧ Q51.2.2.1 ≤ 32) ∧ (narrow .boolean (.int r4) = .int r4 ∧ fits .boolean (.int r4) = true ∧ (Q' = (rn (rn (rf Q51 4 ((Q51.1 4) - 1)) (pn_ix Q51.2.2.1 r52) 9 r2) (pn_ix Q51.2.2.1 r52) 10 r4) ∧ r = r52)))))))))) else (∃ (Q58 : QS) (r59 : Int32), E_r_refuse J g Q32 Q58 r59 ∧ (Q' = Q58 ∧ r = r59)))) else (if (Q3.1 3) = 0 then (if r2 = 0 then (∃ (Q8 : QS) (r9 : Int32), E_r_add J g (rf Q3 4 ((Q3.1 4) + 0)) 1 Q8 r9 ∧ (∃ (Q10 : QS) (r11 : Int32), E_r_closedChoice J g CH Q8 r9 a1 Q10 r11 ∧ (∃ (Q12 : QS) (r13 : Int32), E_r_withBody J g Q10 14 r11 Q12 r13 ∧ (if r2 = 0 then ((0 < Q12.2.2.1 ∧ Q12.2.2.1 ≤ 32) ∧ (narrow .boolean (.int r2) = .int r2 ∧ fits .boolean (.int r2) = true ∧ ((0 < Q12.2.2.1 ∧ Q12.2.2.1 ≤ 32) ∧ (narrow .boolean (.int r4) = .int r4 ∧ fits .boolean (.int r4) = true ∧ (Q' = (rn (rn (rf Q12 4 ((Q12.1 4) - 0)) (pn_ix Q12.2.2.1 r13) 9 r2) (pn_ix Q12.2.2.1 r13) 10 r4) ∧ r = r13))))) else ((0 < Q12.2.2.1 ∧ Q12.2.2.1 ≤ 32) ∧ (narrow .boolean (.int r2) = .int r2 ∧ fits .boolean (.int r2) = true ∧ ((0 < Q12.2.2.1 ∧ Q12.2.2.1 ≤ 32) ∧ (narrow .boolean (.int r4) = .int r4 ∧ fits .boolean (.int r4) = true ∧ (Q' = (rn (rn (rf Q12 4 ((Q12.1 4) - 1)) (pn_ix Q12.2.2.1 r13) 9 r2) (pn_ix Q12.2.2.1 r13) 10 r4) ∧ r = r13))))))))) else (∃ (Q19 : QS) (r20 : Int32), E_r_add J g (rf Q3 4 ((Q3.1 4) + 1)) 1 Q19 r20 ∧ (∃ (Q21 : QS) (r22 : Int32), E_r_closedChoice J g CH Q19 r20 a1 Q21 r22 ∧ (∃ (Q23 : QS) (r24 : Int32), E_r_withBody J g Q21 14 r22 Q23 r24 ∧ (if r2 = 0 then ((0 < Q23.2.2.1 ∧ Q23.2.2.1 ≤ 32) ∧ (narrow .boolean (.int r2) = .int r2 ∧ fits .boolean (.int r2) = true ∧ ((0 < Q23.2.2.1 ∧ Q23.2.2.1 ≤ 32) ∧ (narrow .boolean (.int r4) = .int r4 ∧ fits .boolean (.int r4) = true ∧ (Q' = (rn (rn (rf Q23 4 ((Q23.1 4) - 0)) (pn_ix Q23.2.2.1 r24) 9 r2) (pn_ix Q23.2.2.1 r24) 10 r4) ∧ r = r24))))) else ((0 < Q23.2.2.1 ∧ Q23.2.2.1 ≤ 32) ∧ (narrow .boolean (.int r2) = .int r2 ∧ fits .boolean (.int r2) = true ∧ ((0 < Q23.2.2.1 ∧ Q23.2.2.1 ≤ 32) ∧ (narrow .boolean (.int r4) = .int r4 ∧ fits .boolean (.int r4) = true ∧ (Q' = (rn (rn (rf Q23 4 ((Q23.1 4) - 1)) (pn_ix Q23.2.2.1 r24) 9 r2) (pn_ix Q23.2.2.1 r24) 10 r4) ∧ r = r24)))))))))) else (∃ (Q30 : QS) (r31 : Int32), E_r_refuse J g Q3 Q30 r31 ∧ (Q' = Q30 ∧ r = r31)))))
set_option maxHeartbeats 4000000 in
set_option maxRecDepth 100000 in
theorem e_r_look (l : Launch) (G : PG) (Z : ZZ) (h : Nat) (q ad : Nat → Nat) (J : Nat) (g : Nat → Int32) (hO : gOK J g) (CH : CT) (f n : Nat) (hf : 8 ≤ f) (hn : 300 ≤ n) (hR : CC l G Z h q ad J g f n CH) (Q : QS) (a1 : Int32) (Q' : QS) (r : Int32) (hE : E_r_look J g CH Q a1 Q' r) : CiZ l yX2_look (Cond.code yX2_look cX2_look 5 (some .int) :: aW) { frames := f + 2, cells := 0, slots := 0, locals := n + 49 } Z G (qW G h q ad J g Q) [.ref h, .int a1] (fun (r9 : Int32) (_ : Unit) => r9 = r) (fun (_ : Unit) => qW G h q ad J g Q') 0 0 := by
  refine ofBZ (y := yX2_look) (G := G) (cc := cX2_look) (maxL := 5) (ret := (some .int)) (Qc := fun A => va_Qi (fun (r9 : Int32) (_ : Unit) => r9 = r) (oB G A (fun (_ : Unit) => qW G h q ad J g Q')) A) (by decide) rfl ?_
  intro p e s m below meth c A F hK hZ hA hP hD
  have hS : va_S A s.heap s.heap [] := va_S.rf
  have hx := F.1.1; have hb := F.1.2.1; have hml := F.1.2.2.1; have hts := F.1.2.2.2.2
  have hown : s.vm.findClass RX2 = some m.cls := F.1.2.2.2.1
  have hl := lv_entry ([.ref h, .int a1]) (n := 5) (Nat.le_of_ble_eq_true rfl)
  rw [lg_entry_eq]
  generalize (lg_sl ([.ref h, .int a1]) ++ List.replicate (5 - (lg_sl ([.ref h, .int a1])).length) Slot.unset).toArray = ls at hl ⊢
  have hl : lv_has ls 5 [(0, .ref h), (1, .int a1)] := hl
  unfold E_r_look at hE
  refine lv_aload_n hx hb dX2_look_0 rfl (lv_at hl 0 rfl) ?_
  refine lv_bipush (v := 60) hx hb dX2_look_1 (by decide) ?_
  obtain ⟨Q1, r2, hg, hE⟩ := hE
  refine kA_i (va_runV (As := [.int 60]) (rest := []) F.1 (e_r_take l G h q ad J g hO Q 60 Q1 r2 hg _) (cwV 1 hts (aw_V w_359 w_361 ws_X2_take w_7 w_362) rfl rfl rfl (by decide +kernel) ⟨by dsimp only; omega, by dsimp only; omega⟩) ⟨cS_blind, va_recv (q := (RX2, TX2, 10)) (ci := 2) (q0 := 0) hK.1 hP rfl qW_0, cS_pre hP hD hK⟩ rfl rfl hl.1 rfl (lv_room (Nat.le_of_ble_eq_true rfl)) dX2_look_3 ⟨Nat.le_refl _, Nat.le_refl _⟩) hD hS hA (fun r9 u0 H locs hp hP hD hS => ?_)
  have hp := hp.symm; subst hp
  refine lv_istore_n hx hb dX2_look_6 rfl hl (by decide) rfl (fun ls hl => ?_)
  have hl : lv_has ls 5 [(2, .int r2), (0, .ref h), (1, .int a1)] := hl
  refine lv_aload_n hx hb dX2_look_7 rfl (lv_at hl 1 rfl) ?_
  refine lv_bipush (v := 33) hx hb dX2_look_8 (by decide) ?_
  obtain ⟨Q3, r4, hg, hE⟩ := hE
  refine kA_i (va_runV (As := [.int 33]) (rest := []) F.1 (e_r_take l G h q ad J g hO Q1 33 Q3 r4 hg _) (cwV 1 hts (aw_V w_359 w_361 ws_X2_take w_7 w_362) rfl rfl rfl (by decide +kernel) ⟨by dsimp only; omega, by dsimp only; omega⟩) ⟨cS_blind, va_recv (q := (RX2, TX2, 10)) (ci := 2) (q0 := 0) hK.1 hP rfl qW_0, cS_pre hP hD hK⟩ rfl rfl hl.1 rfl (lv_room (Nat.le_of_ble_eq_true rfl)) dX2_look_10 ⟨Nat.le_refl _, Nat.le_refl _⟩) hD hS hA (fun r9 u0 H locs hp hP hD hS => ?_)
  have hp := hp.symm; subst hp
  refine lv_istore_n hx hb dX2_look_13 rfl hl (by decide) rfl (fun ls hl => ?_)
  have hl : lv_has ls 5 [(3, .int r4), (2, .int r2), (0, .ref h), (1, .int a1)] := hl
  refine lv_iload_n hx hb dX2_look_14 rfl (lv_at hl 0 rfl) ?_
  refine lv_if_ne (tgt := 24) hx hb dX2_look_15 (by decide) (fun h5 => ?_) (fun h5 => ?_)
  ·
    rw [if_neg h5] at hE
    refine lv_aload_n hx hb dX2_look_24 rfl (lv_at hl 2 rfl) ?_
    refine va_get (D := G.1) (ci := 2) (C := RX2) (T := TX2) (N := 10) hx hb hts inX2 hown hK.1 hP 0 qW_0 rfl 3 (by decide) (hts _ w_278) (fun _ h9 => h9) rF_3 dX2_look_25 ?_
    refine lv_if_eq (tgt := 36) hx hb dX2_look_28 (by decide) (fun h6 => ?_) (fun h6 => ?_)
    ·
      rw [if_pos h6] at hE
      refine lv_aload_n hx hb dX2_look_36 rfl (lv_at hl 2 rfl) ?_
      refine lv_dup hx hb dX2_look_37 rfl ?_
      refine va_get (D := G.1) (ci := 2) (C := RX2) (T := TX2) (N := 10) hx hb hts inX2 hown hK.1 hP 0 qW_0 rfl 4 (by decide) (hts _ w_279) (fun _ h9 => h9) rF_4 dX2_look_38 ?_
      refine lv_iload_n hx hb dX2_look_41 rfl (lv_at hl 1 rfl) ?_
      refine lv_if_eq (tgt := 49) hx hb dX2_look_42 (by decide) (fun h7 => ?_) (fun h7 => ?_)
      ·
        rw [if_pos h7] at hE
        refine lv_iconst (v := 0) hx hb dX2_look_49 (by decide) ?_
        refine lv_iadd hx hb dX2_look_50 ?_
        refine va_put (D := G.1) (ci := 2) (v := .int ((Q3.1 4) + 0)) (ty := .int) (C := RX2) (T := TX2) (N := 10) hx hb hts inX2 tyX2 tyX2_ok nmX2 hown hK.1 hP hD hS 0 qW_0 rfl 4 (by decide) (hts _ w_279) (fun _ h9 => h9) rfl (by decide +kernel) rfl rfl rF_l4 dX2_look_51 (fun H locs hP hD hS => ?_)
        rw [qW_f4] at hP hD
        refine lv_aload_n hx hb dX2_look_54 rfl (lv_at hl 2 rfl) ?_
        refine lv_bipush (v := 14) hx hb dX2_look_55 (by decide) ?_
        refine lv_aload_n hx hb dX2_look_57 rfl (lv_at hl 2 rfl) ?_
        refine lv_aload_n hx hb dX2_look_58 rfl (lv_at hl 2 rfl) ?_
        refine lv_iconst (v := 1) hx hb dX2_look_59 (by decide) ?_
        obtain ⟨Q8, r9, hg, hE⟩ := hE
        refine kA_i (va_runV (As := [.int 1]) (rest := [.ref h, .int 14, .ref h]) F.1 (e_r_add l G h q ad J g hO (rf Q3 4 ((Q3.1 4) + 0)) 1 Q8 r9 hg _) (cwV 1 hts (aw_V w_314 w_316 ws_X2_add w_7 w_317) rfl rfl rfl (by decide +kernel) ⟨by dsimp only; omega, by dsimp only; omega⟩) ⟨cS_blind, va_recv (q := (RX2, TX2, 10)) (ci := 2) (q0 := 0) hK.1 hP rfl qW_0, cS_pre hP hD hK⟩ rfl rfl hl.1 rfl (lv_room (Nat.le_of_ble_eq_true rfl)) dX2_look_60 ⟨Nat.le_refl _, Nat.le_refl _⟩) hD hS hA (fun r9 u0 H locs hp hP hD hS => ?_)
        have hp := hp.symm; subst hp
        refine lv_iload_n hx hb dX2_look_63 rfl (lv_at hl 3 rfl) ?_
        obtain ⟨Q10, r11, hg, hE⟩ := hE
        refine kA_i (va_runV (As := [.int r9, .int a1]) (rest := [.int 14, .ref h]) F.1 (e_r_closedChoice l G Z h q ad J g hO CH f n hf hn hR Q8 r9 a1 Q10 r11 hg _) (cwV 2 hts (aw_V w_367 w_369 ws_X2_closedChoice w_7 w_370) rfl rfl rfl (by decide +kernel) ⟨by dsimp only; omega, by dsimp only; omega⟩) ⟨zS_blind, va_recv (q := (RX2, TX2, 10)) (ci := 2) (q0 := 0) hK.1 hP rfl qW_0, zS_pre hP hD hK hZ hS (kA_F hD hS hA)⟩ rfl rfl hl.1 rfl (lv_room (Nat.le_of_ble_eq_true rfl)) dX2_look_64 ⟨Nat.le_refl _, Nat.le_refl _⟩) hD hS hA (fun r9 u0 H locs hp hP hD hS => ?_)
        have hp := hp.symm; subst hp
        obtain ⟨Q12, r13, hg, hE⟩ := hE
        refine kA_i (va_runV (As := [.int 14, .int r11]) (rest := []) F.1 (e_r_withBody l G h q ad J g hO Q10 14 r11 Q12 r13 hg _) (cwV 2 hts (aw_V w_379 w_381 ws_X2_withBody w_7 w_382) rfl rfl rfl (by decide +kernel) ⟨by dsimp only; omega, by dsimp only; omega⟩) ⟨cS_blind, va_recv (q := (RX2, TX2, 10)) (ci := 2) (q0 := 0) hK.1 hP rfl qW_0, cS_pre hP hD hK⟩ rfl rfl hl.1 rfl (lv_room (Nat.le_of_ble_eq_true rfl)) dX2_look_67 ⟨Nat.le_refl _, Nat.le_refl _⟩) hD hS hA (fun r9 u0 H locs hp hP hD hS => ?_)
        have hp := hp.symm; subst hp
        refine lv_istore hx hb dX2_look_70 hl (by decide) rfl (fun ls hl => ?_)
        have hl : lv_has ls 5 [(4, .int r13), (3, .int r4), (2, .int r2), (0, .ref h), (1, .int a1)] := hl
        refine lv_aload_n hx hb dX2_look_72 rfl (lv_at hl 3 rfl) ?_
        refine lv_dup hx hb dX2_look_73 rfl ?_
        refine va_get (D := G.1) (ci := 2) (C := RX2) (T := TX2) (N := 10) hx hb hts inX2 hown hK.1 hP 0 qW_0 rfl 4 (by decide) (hts _ w_279) (fun _ h9 => h9) rF_4 dX2_look_74 ?_
        refine lv_iload_n hx hb dX2_look_77 rfl (lv_at hl 2 rfl) ?_
        refine lv_if_eq (tgt := 85) hx hb dX2_look_78 (by decide) (fun h14 => ?_) (fun h14 => ?_)
        ·
          rw [if_pos h14] at hE
          refine lv_iconst (v := 0) hx hb dX2_look_85 (by decide) ?_
          refine lv_isub hx hb dX2_look_86 ?_
          refine va_put (D := G.1) (ci := 2) (v := .int ((Q12.1 4) - 0)) (ty := .int) (C := RX2) (T := TX2) (N := 10) hx hb hts inX2 tyX2 tyX2_ok nmX2 hown hK.1 hP hD hS 0 qW_0 rfl 4 (by decide) (hts _ w_279) (fun _ h9 => h9) rfl (by decide +kernel) rfl rfl rF_l4 dX2_look_87 (fun H locs hP hD hS => ?_)
          rw [qW_f4] at hP hD
          refine lv_aload_n hx hb dX2_look_90 rfl (lv_at hl 3 rfl) ?_
          refine va_get (D := G.1) (ci := 2) (C := RX2) (T := TX2) (N := 10) hx hb hts inX2 hown hK.1 hP 0 qW_0 rfl 1 (by decide) (hts _ w_276) (fun _ h9 => h9) rF_1 dX2_look_91 ?_
          refine lv_iload hx hb dX2_look_94 (lv_at hl 0 rfl) ?_
          obtain ⟨hc15, hE⟩ := hE
          refine kp_V (va_runV (As := [.int r13]) (rest := []) F.1 (v_prog_node l G _ _ Q12.2.2.1 _ _ _ ad _ _ _ r13 hc15.1 hc15.2 _) (cwV 1 hts (aw_V w_339 w_340 w_341 w_4 w_342) rfl rfl rfl (by decide +kernel) ⟨by dsimp only; omega, by dsimp only; omega⟩) ⟨cS_blind, va_recv (q := (RX1, TX1, 5)) (ci := 1) (q0 := 0) hK.1 (qP_prog (Q := (rf Q12 4 ((Q12.1 4) - 0))) hP) rfl rfl, cS_pre (qP_prog (Q := (rf Q12 4 ((Q12.1 4) - 0))) hP) (qD_prog (Q := (rf Q12 4 ((Q12.1 4) - 0))) hD) hK⟩ rfl rfl hl.1 rfl (lv_room (Nat.le_of_ble_eq_true rfl)) dX2_look_96 ⟨Nat.le_refl _, Nat.le_refl _⟩) (fun v9 hp => ?_)
          subst hp
          refine lv_iload_n hx hb dX2_look_99 rfl (lv_at hl 2 rfl) ?_
          obtain ⟨hnz, hfz, hE⟩ := hE
          refine va_putN (D := G.1) (ci := 0) (v := .int r2) (ty := .boolean) (C := RX0) (T := TX0) (N := 13) hx hb hts inX0 tyX0 tyX0_ok nmX0 hown hK.1 hP hD hS (5 + (pn_ix Q12.2.2.1 r13)) (qW_nd (pn_lt hc15.1 hc15.2)) rfl 9 (by decide) (hK.2.1.use w_83) (fun _ h9 => h9) rfl (by decide +kernel) hnz hfz (Nat.le_of_ble_eq_true rfl) dX2_look_100 (fun H locs hP hD hS => ?_)
          rw [qW_n9 (pn_lt hc15.1 hc15.2)] at hP hD
          refine lv_aload_n hx hb dX2_look_103 rfl (lv_at hl 3 rfl) ?_
          refine va_get (D := G.1) (ci := 2) (C := RX2) (T := TX2) (N := 10) hx hb hts inX2 hown hK.1 hP 0 qW_0 rfl 1 (by decide) (hts _ w_276) (fun _ h9 => h9) rF_1 dX2_look_104 ?_
          refine lv_iload hx hb dX2_look_107 (lv_at hl 0 rfl) ?_
          obtain ⟨hc16, hE⟩ := hE
          refine kp_V (va_runV (As := [.int r13]) (rest := []) F.1 (v_prog_node l G _ _ Q12.2.2.1 _ _ _ ad _ _ _ r13 hc16.1 hc16.2 _) (cwV 1 hts (aw_V w_339 w_340 w_341 w_4 w_342) rfl rfl rfl (by decide +kernel) ⟨by dsimp only; omega, by dsimp only; omega⟩) ⟨cS_blind, va_recv (q := (RX1, TX1, 5)) (ci := 1) (q0 := 0) hK.1 (qP_prog (Q := (rn (rf Q12 4 ((Q12.1 4) - 0)) (pn_ix Q12.2.2.1 r13) 9 r2)) hP) rfl rfl, cS_pre (qP_prog (Q := (rn (rf Q12 4 ((Q12.1 4) - 0)) (pn_ix Q12.2.2.1 r13) 9 r2)) hP) (qD_prog (Q := (rn (rf Q12 4 ((Q12.1 4) - 0)) (pn_ix Q12.2.2.1 r13) 9 r2)) hD) hK⟩ rfl rfl hl.1 rfl (lv_room (Nat.le_of_ble_eq_true rfl)) dX2_look_109 ⟨Nat.le_refl _, Nat.le_refl _⟩) (fun v9 hp => ?_)
          subst hp
          refine lv_iload_n hx hb dX2_look_112 rfl (lv_at hl 1 rfl) ?_
          obtain ⟨hnz, hfz, hE⟩ := hE
          refine va_putN (D := G.1) (ci := 0) (v := .int r4) (ty := .boolean) (C := RX0) (T := TX0) (N := 13) hx hb hts inX0 tyX0 tyX0_ok nmX0 hown hK.1 hP hD hS (5 + (pn_ix Q12.2.2.1 r13)) (qW_nd (pn_lt hc16.1 hc16.2)) rfl 10 (by decide) (hK.2.1.use w_85) (fun _ h9 => h9) rfl (by decide +kernel) hnz hfz (Nat.le_of_ble_eq_true rfl) dX2_look_113 (fun H locs hP hD hS => ?_)
          rw [qW_n10 (pn_lt hc16.1 hc16.2)] at hP hD
          refine lv_iload hx hb dX2_look_116 (lv_at hl 0 rfl) ?_
          obtain ⟨rfl, hr9⟩ := hE
          exact en_i F hS _ () (by rfl) hr9.symm hP hD (Nat.le_refl _) (Nat.le_refl _) dX2_look_118
        ·
          rw [if_neg h14] at hE
          refine lv_iconst (v := 1) hx hb dX2_look_81 (by decide) ?_
          refine lv_goto (tgt := 86) hx hb dX2_look_82 (by decide) ?_
          refine lv_isub hx hb dX2_look_86 ?_
          refine va_put (D := G.1) (ci := 2) (v := .int ((Q12.1 4) - 1)) (ty := .int) (C := RX2) (T := TX2) (N := 10) hx hb hts inX2 tyX2 tyX2_ok nmX2 hown hK.1 hP hD hS 0 qW_0 rfl 4 (by decide) (hts _ w_279) (fun _ h9 => h9) rfl (by decide +kernel) rfl rfl rF_l4 dX2_look_87 (fun H locs hP hD hS => ?_)
          rw [qW_f4] at hP hD
          refine lv_aload_n hx hb dX2_look_90 rfl (lv_at hl 3 rfl) ?_
          refine va_get (D := G.1) (ci := 2) (C := RX2) (T := TX2) (N := 10) hx hb hts inX2 hown hK.1 hP 0 qW_0 rfl 1 (by decide) (hts _ w_276) (fun _ h9 => h9) rF_1 dX2_look_91 ?_
          refine lv_iload hx hb dX2_look_94 (lv_at hl 0 rfl) ?_
          obtain ⟨hc17, hE⟩ := hE
          refine kp_V (va_runV (As := [.int r13]) (rest := []) F.1 (v_prog_node l G _ _ Q12.2.2.1 _ _ _ ad _ _ _ r13 hc17.1 hc17.2 _) (cwV 1 hts (aw_V w_339 w_340 w_341 w_4 w_342) rfl rfl rfl (by decide +kernel) ⟨by dsimp only; omega, by dsimp only; omega⟩) ⟨cS_blind, va_recv (q := (RX1, TX1, 5)) (ci := 1) (q0 := 0) hK.1 (qP_prog (Q := (rf Q12 4 ((Q12.1 4) - 1))) hP) rfl rfl, cS_pre (qP_prog (Q := (rf Q12 4 ((Q12.1 4) - 1))) hP) (qD_prog (Q := (rf Q12 4 ((Q12.1 4) - 1))) hD) hK⟩ rfl rfl hl.1 rfl (lv_room (Nat.le_of_ble_eq_true rfl)) dX2_look_96 ⟨Nat.le_refl _, Nat.le_refl _⟩) (fun v9 hp => ?_)
          subst hp
          refine lv_iload_n hx hb dX2_look_99 rfl (lv_at hl 2 rfl) ?_
          obtain ⟨hnz, hfz, hE⟩ := hE
          refine va_putN (D := G.1) (ci := 0) (v := .int r2) (ty := .boolean) (C := RX0) (T := TX0) (N := 13) hx hb hts inX0 tyX0 tyX0_ok nmX0 hown hK.1 hP hD hS (5 + (pn_ix Q12.2.2.1 r13)) (qW_nd (pn_lt hc17.1 hc17.2)) rfl 9 (by decide) (hK.2.1.use w_83) (fun _ h9 => h9) rfl (by decide +kernel) hnz hfz (Nat.le_of_ble_eq_true rfl) dX2_look_100 (fun H locs hP hD hS => ?_)
          rw [qW_n9 (pn_lt hc17.1 hc17.2)] at hP hD
          refine lv_aload_n hx hb dX2_look_103 rfl (lv_at hl 3 rfl) ?_
          refine va_get (D := G.1) (ci := 2) (C := RX2) (T := TX2) (N := 10) hx hb hts inX2 hown hK.1 hP 0 qW_0 rfl 1 (by decide) (hts _ w_276) (fun _ h9 => h9) rF_1 dX2_look_104 ?_
          refine lv_iload hx hb dX2_look_107 (lv_at hl 0 rfl) ?_
          obtain ⟨hc18, hE⟩ := hE
          refine kp_V (va_runV (As := [.int r13]) (rest := []) F.1 (v_prog_node l G _ _ Q12.2.2.1 _ _ _ ad _ _ _ r13 hc18.1 hc18.2 _) (cwV 1 hts (aw_V w_339 w_340 w_341 w_4 w_342) rfl rfl rfl (by decide +kernel) ⟨by dsimp only; omega, by dsimp only; omega⟩) ⟨cS_blind, va_recv (q := (RX1, TX1, 5)) (ci := 1) (q0 := 0) hK.1 (qP_prog (Q := (rn (rf Q12 4 ((Q12.1 4) - 1)) (pn_ix Q12.2.2.1 r13) 9 r2)) hP) rfl rfl, cS_pre (qP_prog (Q := (rn (rf Q12 4 ((Q12.1 4) - 1)) (pn_ix Q12.2.2.1 r13) 9 r2)) hP) (qD_prog (Q := (rn (rf Q12 4 ((Q12.1 4) - 1)) (pn_ix Q12.2.2.1 r13) 9 r2)) hD) hK⟩ rfl rfl hl.1 rfl (lv_room (Nat.le_of_ble_eq_true rfl)) dX2_look_109 ⟨Nat.le_refl _, Nat.le_refl _⟩) (fun v9 hp => ?_)
          subst hp
          refine lv_iload_n hx hb dX2_look_112 rfl (lv_at hl 1 rfl) ?_
          obtain ⟨hnz, hfz, hE⟩ := hE
          refine va_putN (D := G.1) (ci := 0) (v := .int r4) (ty := .boolean) (C := RX0) (T := TX0) (N := 13) hx hb hts inX0 tyX0 tyX0_ok nmX0 hown hK.1 hP hD hS (5 + (pn_ix Q12.2.2.1 r13)) (qW_nd (pn_lt hc18.1 hc18.2)) rfl 10 (by decide) (hK.2.1.use w_85) (fun _ h9 => h9) rfl (by decide +kernel) hnz hfz (Nat.le_of_ble_eq_true rfl) dX2_look_113 (fun H locs hP hD hS => ?_)
          rw [qW_n10 (pn_lt hc18.1 hc18.2)] at hP hD
          refine lv_iload hx hb dX2_look_116 (lv_at hl 0 rfl) ?_
          obtain ⟨rfl, hr9⟩ := hE
          exact en_i F hS _ () (by rfl) hr9.symm hP hD (Nat.le_refl _) (Nat.le_refl _) dX2_look_118
      ·
        rw [if_neg h7] at hE
        refine lv_iconst (v := 1) hx hb dX2_look_45 (by decide) ?_
        refine lv_goto (tgt := 50) hx hb dX2_look_46 (by decide) ?_
        refine lv_iadd hx hb dX2_look_50 ?_
        refine va_put (D := G.1) (ci := 2) (v := .int ((Q3.1 4) + 1)) (ty := .int) (C := RX2) (T := TX2) (N := 10) hx hb hts inX2 tyX2 tyX2_ok nmX2 hown hK.1 hP hD hS 0 qW_0 rfl 4 (by decide) (hts _ w_279) (fun _ h9 => h9) rfl (by decide +kernel) rfl rfl rF_l4 dX2_look_51 (fun H locs hP hD hS => ?_)
        rw [qW_f4] at hP hD
        refine lv_aload_n hx hb dX2_look_54 rfl (lv_at hl 2 rfl) ?_
        refine lv_bipush (v := 14) hx hb dX2_look_55 (by decide) ?_
        refine lv_aload_n hx hb dX2_look_57 rfl (lv_at hl 2 rfl) ?_
        refine lv_aload_n hx hb dX2_look_58 rfl (lv_at hl 2 rfl) ?_
        refine lv_iconst (v := 1) hx hb dX2_look_59 (by decide) ?_
        obtain ⟨Q19, r20, hg, hE⟩ := hE
        refine kA_i (va_runV (As := [.int 1]) (rest := [.ref h, .int 14, .ref h]) F.1 (e_r_add l G h q ad J g hO (rf Q3 4 ((Q3.1 4) + 1)) 1 Q19 r20 hg _) (cwV 1 hts (aw_V w_314 w_316 ws_X2_add w_7 w_317) rfl rfl rfl (by decide +kernel) ⟨by dsimp only; omega, by dsimp only; omega⟩) ⟨cS_blind, va_recv (q := (RX2, TX2, 10)) (ci := 2) (q0 := 0) hK.1 hP rfl qW_0, cS_pre hP hD hK⟩ rfl rfl hl.1 rfl (lv_room (Nat.le_of_ble_eq_true rfl)) dX2_look_60 ⟨Nat.le_refl _, Nat.le_refl _⟩) hD hS hA (fun r9 u0 H locs hp hP hD hS => ?_)
        have hp := hp.symm; subst hp
        refine lv_iload_n hx hb dX2_look_63 rfl (lv_at hl 3 rfl) ?_
        obtain ⟨Q21, r22, hg, hE⟩ := hE
        refine kA_i (va_runV (As := [.int r20, .int a1]) (rest := [.int 14, .ref h]) F.1 (e_r_closedChoice l G Z h q ad J g hO CH f n hf hn hR Q19 r20 a1 Q21 r22 hg _) (cwV 2 hts (aw_V w_367 w_369 ws_X2_closedChoice w_7 w_370) rfl rfl rfl (by decide +kernel) ⟨by dsimp only; omega, by dsimp only; omega⟩) ⟨zS_blind, va_recv (q := (RX2, TX2, 10)) (ci := 2) (q0 := 0) hK.1 hP rfl qW_0, zS_pre hP hD hK hZ hS (kA_F hD hS hA)⟩ rfl rfl hl.1 rfl (lv_room (Nat.le_of_ble_eq_true rfl)) dX2_look_64 ⟨Nat.le_refl _, Nat.le_refl _⟩) hD hS hA (fun r9 u0 H locs hp hP hD hS => ?_)
        have hp := hp.symm; subst hp
        obtain ⟨Q23, r24, hg, hE⟩ := hE
        refine kA_i (va_runV (As := [.int 14, .int r22]) (rest := []) F.1 (e_r_withBody l G h q ad J g hO Q21 14 r22 Q23 r24 hg _) (cwV 2 hts (aw_V w_379 w_381 ws_X2_withBody w_7 w_382) rfl rfl rfl (by decide +kernel) ⟨by dsimp only; omega, by dsimp only; omega⟩) ⟨cS_blind, va_recv (q := (RX2, TX2, 10)) (ci := 2) (q0 := 0) hK.1 hP rfl qW_0, cS_pre hP hD hK⟩ rfl rfl hl.1 rfl (lv_room (Nat.le_of_ble_eq_true rfl)) dX2_look_67 ⟨Nat.le_refl _, Nat.le_refl _⟩) hD hS hA (fun r9 u0 H locs hp hP hD hS => ?_)
        have hp := hp.symm; subst hp
        refine lv_istore hx hb dX2_look_70 hl (by decide) rfl (fun ls hl => ?_)
        have hl : lv_has ls 5 [(4, .int r24), (3, .int r4), (2, .int r2), (0, .ref h), (1, .int a1)] := hl
        refine lv_aload_n hx hb dX2_look_72 rfl (lv_at hl 3 rfl) ?_
        refine lv_dup hx hb dX2_look_73 rfl ?_
        refine va_get (D := G.1) (ci := 2) (C := RX2) (T := TX2) (N := 10) hx hb hts inX2 hown hK.1 hP 0 qW_0 rfl 4 (by decide) (hts _ w_279) (fun _ h9 => h9) rF_4 dX2_look_74 ?_
        refine lv_iload_n hx hb dX2_look_77 rfl (lv_at hl 2 rfl) ?_
        refine lv_if_eq (tgt := 85) hx hb dX2_look_78 (by decide) (fun h25 => ?_) (fun h25 => ?_)
        ·
          rw [if_pos h25] at hE
          refine lv_iconst (v := 0) hx hb dX2_look_85 (by decide) ?_
          refine lv_isub hx hb dX2_look_86 ?_
          refine va_put (D := G.1) (ci := 2) (v := .int ((Q23.1 4) - 0)) (ty := .int) (C := RX2) (T := TX2) (N := 10) hx hb hts inX2 tyX2 tyX2_ok nmX2 hown hK.1 hP hD hS 0 qW_0 rfl 4 (by decide) (hts _ w_279) (fun _ h9 => h9) rfl (by decide +kernel) rfl rfl rF_l4 dX2_look_87 (fun H locs hP hD hS => ?_)
          rw [qW_f4] at hP hD
          refine lv_aload_n hx hb dX2_look_90 rfl (lv_at hl 3 rfl) ?_
          refine va_get (D := G.1) (ci := 2) (C := RX2) (T := TX2) (N := 10) hx hb hts inX2 hown hK.1 hP 0 qW_0 rfl 1 (by decide) (hts _ w_276) (fun _ h9 => h9) rF_1 dX2_look_91 ?_
          refine lv_iload hx hb dX2_look_94 (lv_at hl 0 rfl) ?_
          obtain ⟨hc26, hE⟩ := hE
          refine kp_V (va_runV (As := [.int r24]) (rest := []) F.1 (v_prog_node l G _ _ Q23.2.2.1 _ _ _ ad _ _ _ r24 hc26.1 hc26.2 _) (cwV 1 hts (aw_V w_339 w_340 w_341 w_4 w_342) rfl rfl rfl (by decide +kernel) ⟨by dsimp only; omega, by dsimp only; omega⟩) ⟨cS_blind, va_recv (q := (RX1, TX1, 5)) (ci := 1) (q0 := 0) hK.1 (qP_prog (Q := (rf Q23 4 ((Q23.1 4) - 0))) hP) rfl rfl, cS_pre (qP_prog (Q := (rf Q23 4 ((Q23.1 4) - 0))) hP) (qD_prog (Q := (rf Q23 4 ((Q23.1 4) - 0))) hD) hK⟩ rfl rfl hl.1 rfl (lv_room (Nat.le_of_ble_eq_true rfl)) dX2_look_96 ⟨Nat.le_refl _, Nat.le_refl _⟩) (fun v9 hp => ?_)
          subst hp
          refine lv_iload_n hx hb dX2_look_99 rfl (lv_at hl 2 rfl) ?_
          obtain ⟨hnz, hfz, hE⟩ := hE
          refine va_putN (D := G.1) (ci := 0) (v := .int r2) (ty := .boolean) (C := RX0) (T := TX0) (N := 13) hx hb hts inX0 tyX0 tyX0_ok nmX0 hown hK.1 hP hD hS (5 + (pn_ix Q23.2.2.1 r24)) (qW_nd (pn_lt hc26.1 hc26.2)) rfl 9 (by decide) (hK.2.1.use w_83) (fun _ h9 => h9) rfl (by decide +kernel) hnz hfz (Nat.le_of_ble_eq_true rfl) dX2_look_100 (fun H locs hP hD hS => ?_)
          rw [qW_n9 (pn_lt hc26.1 hc26.2)] at hP hD
          refine lv_aload_n hx hb dX2_look_103 rfl (lv_at hl 3 rfl) ?_
          refine va_get (D := G.1) (ci := 2) (C := RX2) (T := TX2) (N := 10) hx hb hts inX2 hown hK.1 hP 0 qW_0 rfl 1 (by decide) (hts _ w_276) (fun _ h9 => h9) rF_1 dX2_look_104 ?_
          refine lv_iload hx hb dX2_look_107 (lv_at hl 0 rfl) ?_
          obtain ⟨hc27, hE⟩ := hE
          refine kp_V (va_runV (As := [.int r24]) (rest := []) F.1 (v_prog_node l G _ _ Q23.2.2.1 _ _ _ ad _ _ _ r24 hc27.1 hc27.2 _) (cwV 1 hts (aw_V w_339 w_340 w_341 w_4 w_342) rfl rfl rfl (by decide +kernel) ⟨by dsimp only; omega, by dsimp only; omega⟩) ⟨cS_blind, va_recv (q := (RX1, TX1, 5)) (ci := 1) (q0 := 0) hK.1 (qP_prog (Q := (rn (rf Q23 4 ((Q23.1 4) - 0)) (pn_ix Q23.2.2.1 r24) 9 r2)) hP) rfl rfl, cS_pre (qP_prog (Q := (rn (rf Q23 4 ((Q23.1 4) - 0)) (pn_ix Q23.2.2.1 r24) 9 r2)) hP) (qD_prog (Q := (rn (rf Q23 4 ((Q23.1 4) - 0)) (pn_ix Q23.2.2.1 r24) 9 r2)) hD) hK⟩ rfl rfl hl.1 rfl (lv_room (Nat.le_of_ble_eq_true rfl)) dX2_look_109 ⟨Nat.le_refl _, Nat.le_refl _⟩) (fun v9 hp => ?_)
          subst hp
          refine lv_iload_n hx hb dX2_look_112 rfl (lv_at hl 1 rfl) ?_
          obtain ⟨hnz, hfz, hE⟩ := hE
          refine va_putN (D := G.1) (ci := 0) (v := .int r4) (ty := .boolean) (C := RX0) (T := TX0) (N := 13) hx hb hts inX0 tyX0 tyX0_ok nmX0 hown hK.1 hP hD hS (5 + (pn_ix Q23.2.2.1 r24)) (qW_nd (pn_lt hc27.1 hc27.2)) rfl 10 (by decide) (hK.2.1.use w_85) (fun _ h9 => h9) rfl (by decide +kernel) hnz hfz (Nat.le_of_ble_eq_true rfl) dX2_look_113 (fun H locs hP hD hS => ?_)
          rw [qW_n10 (pn_lt hc27.1 hc27.2)] at hP hD
          refine lv_iload hx hb dX2_look_116 (lv_at hl 0 rfl) ?_
          obtain ⟨rfl, hr9⟩ := hE
          exact en_i F hS _ () (by rfl) hr9.symm hP hD (Nat.le_refl _) (Nat.le_refl _) dX2_look_118
        ·
          rw [if_neg h25] at hE
          refine lv_iconst (v := 1) hx hb dX2_look_81 (by decide) ?_
          refine lv_goto (tgt := 86) hx hb dX2_look_82 (by decide) ?_
          refine lv_isub hx hb dX2_look_86 ?_
          refine va_put (D := G.1) (ci := 2) (v := .int ((Q23.1 4) - 1)) (ty := .int) (C := RX2) (T := TX2) (N := 10) hx hb hts inX2 tyX2 tyX2_ok nmX2 hown hK.1 hP hD hS 0 qW_0 rfl 4 (by decide) (hts _ w_279) (fun _ h9 => h9) rfl (by decide +kernel) rfl rfl rF_l4 dX2_look_87 (fun H locs hP hD hS => ?_)
          rw [qW_f4] at hP hD
          refine lv_aload_n hx hb dX2_look_90 rfl (lv_at hl 3 rfl) ?_
          refine va_get (D := G.1) (ci := 2) (C := RX2) (T := TX2) (N := 10) hx hb hts inX2 hown hK.1 hP 0 qW_0 rfl 1 (by decide) (hts _ w_276) (fun _ h9 => h9) rF_1 dX2_look_91 ?_
          refine lv_iload hx hb dX2_look_94 (lv_at hl 0 rfl) ?_
          obtain ⟨hc28, hE⟩ := hE
          refine kp_V (va_runV (As := [.int r24]) (rest := []) F.1 (v_prog_node l G _ _ Q23.2.2.1 _ _ _ ad _ _ _ r24 hc28.1 hc28.2 _) (cwV 1 hts (aw_V w_339 w_340 w_341 w_4 w_342) rfl rfl rfl (by decide +kernel) ⟨by dsimp only; omega, by dsimp only; omega⟩) ⟨cS_blind, va_recv (q := (RX1, TX1, 5)) (ci := 1) (q0 := 0) hK.1 (qP_prog (Q := (rf Q23 4 ((Q23.1 4) - 1))) hP) rfl rfl, cS_pre (qP_prog (Q := (rf Q23 4 ((Q23.1 4) - 1))) hP) (qD_prog (Q := (rf Q23 4 ((Q23.1 4) - 1))) hD) hK⟩ rfl rfl hl.1 rfl (lv_room (Nat.le_of_ble_eq_true rfl)) dX2_look_96 ⟨Nat.le_refl _, Nat.le_refl _⟩) (fun v9 hp => ?_)
          subst hp
          refine lv_iload_n hx hb dX2_look_99 rfl (lv_at hl 2 rfl) ?_
          obtain ⟨hnz, hfz, hE⟩ := hE
          refine va_putN (D := G.1) (ci := 0) (v := .int r2) (ty := .boolean) (C := RX0) (T := TX0) (N := 13) hx hb hts inX0 tyX0 tyX0_ok nmX0 hown hK.1 hP hD hS (5 + (pn_ix Q23.2.2.1 r24)) (qW_nd (pn_lt hc28.1 hc28.2)) rfl 9 (by decide) (hK.2.1.use w_83) (fun _ h9 => h9) rfl (by decide +kernel) hnz hfz (Nat.le_of_ble_eq_true rfl) dX2_look_100 (fun H locs hP hD hS => ?_)
          rw [qW_n9 (pn_lt hc28.1 hc28.2)] at hP hD
          refine lv_aload_n hx hb dX2_look_103 rfl (lv_at hl 3 rfl) ?_
          refine va_get (D := G.1) (ci := 2) (C := RX2) (T := TX2) (N := 10) hx hb hts inX2 hown hK.1 hP 0 qW_0 rfl 1 (by decide) (hts _ w_276) (fun _ h9 => h9) rF_1 dX2_look_104 ?_
          refine lv_iload hx hb dX2_look_107 (lv_at hl 0 rfl) ?_
          obtain ⟨hc29, hE⟩ := hE
          refine kp_V (va_runV (As := [.int r24]) (rest := []) F.1 (v_prog_node l G _ _ Q23.2.2.1 _ _ _ ad _ _ _ r24 hc29.1 hc29.2 _) (cwV 1 hts (aw_V w_339 w_340 w_341 w_4 w_342) rfl rfl rfl (by decide +kernel) ⟨by dsimp only; omega, by dsimp only; omega⟩) ⟨cS_blind, va_recv (q := (RX1, TX1, 5)) (ci := 1) (q0 := 0) hK.1 (qP_prog (Q := (rn (rf Q23 4 ((Q23.1 4) - 1)) (pn_ix Q23.2.2.1 r24) 9 r2)) hP) rfl rfl, cS_pre (qP_prog (Q := (rn (rf Q23 4 ((Q23.1 4) - 1)) (pn_ix Q23.2.2.1 r24) 9 r2)) hP) (qD_prog (Q := (rn (rf Q23 4 ((Q23.1 4) - 1)) (pn_ix Q23.2.2.1 r24) 9 r2)) hD) hK⟩ rfl rfl hl.1 rfl (lv_room (Nat.le_of_ble_eq_true rfl)) dX2_look_109 ⟨Nat.le_refl _, Nat.le_refl _⟩) (fun v9 hp => ?_)
          subst hp
          refine lv_iload_n hx hb dX2_look_112 rfl (lv_at hl 1 rfl) ?_
          obtain ⟨hnz, hfz, hE⟩ := hE
          refine va_putN (D := G.1) (ci := 0) (v := .int r4) (ty := .boolean) (C := RX0) (T := TX0) (N := 13) hx hb hts inX0 tyX0 tyX0_ok nmX0 hown hK.1 hP hD hS (5 + (pn_ix Q23.2.2.1 r24)) (qW_nd (pn_lt hc29.1 hc29.2)) rfl 10 (by decide) (hK.2.1.use w_85) (fun _ h9 => h9) rfl (by decide +kernel) hnz hfz (Nat.le_of_ble_eq_true rfl) dX2_look_113 (fun H locs hP hD hS => ?_)
          rw [qW_n10 (pn_lt hc29.1 hc29.2)] at hP hD
          refine lv_iload hx hb dX2_look_116 (lv_at hl 0 rfl) ?_
          obtain ⟨rfl, hr9⟩ := hE
          exact en_i F hS _ () (by rfl) hr9.symm hP hD (Nat.le_refl _) (Nat.le_refl _) dX2_look_118
    ·
      rw [if_neg h6] at hE
      refine lv_aload_n hx hb dX2_look_31 rfl (lv_at hl 2 rfl) ?_
      obtain ⟨Q30, r31, hg, hE⟩ := hE
      refine kA_i (va_runV (As := []) (rest := []) F.1 (e_r_refuse l G h q ad J g hO Q3 Q30 r31 hg _) (cwV 0 hts (aw_V w_355 w_357 ws_X2_refuse w_7 w_358) rfl rfl rfl (by decide +kernel) ⟨by dsimp only; omega, by dsimp only; omega⟩) ⟨cS_blind, va_recv (q := (RX2, TX2, 10)) (ci := 2) (q0 := 0) hK.1 hP rfl qW_0, cS_pre hP hD hK⟩ rfl rfl hl.1 rfl (lv_room (Nat.le_of_ble_eq_true rfl)) dX2_look_32 ⟨Nat.le_refl _, Nat.le_refl _⟩) hD hS hA (fun r9 u0 H locs hp hP hD hS => ?_)
      have hp := hp.symm; subst hp
      obtain ⟨rfl, hr9⟩ := hE
      exact en_i F hS _ () (by rfl) hr9.symm hP hD (Nat.le_refl _) (Nat.le_refl _) dX2_look_35
  ·
    rw [if_pos h5] at hE
    refine lv_aload_n hx hb dX2_look_18 rfl (lv_at hl 2 rfl) ?_
    refine lv_bipush (v := 61) hx hb dX2_look_19 (by decide) ?_
    obtain ⟨Q32, hg, hE⟩ := hE
    refine kA_v (va_runV (As := [.int 61]) (rest := []) F.1 (e_r_expect l G h q ad J g hO Q3 61 Q32 0 hg _) (cwV 1 hts (aw_V w_371 w_373 ws_X2_expect w_7 w_374) rfl rfl rfl (by decide +kernel) ⟨by dsimp only; omega, by dsimp only; omega⟩) ⟨cS_blind, va_recv (q := (RX2, TX2, 10)) (ci := 2) (q0 := 0) hK.1 hP rfl qW_0, cS_pre hP hD hK⟩ rfl rfl hl.1 rfl (lv_room (Nat.le_of_ble_eq_true rfl)) dX2_look_21 ⟨Nat.le_refl _, Nat.le_refl _⟩) hD hS hA (fun u0 H locs hp hP hD hS => ?_)
    refine lv_aload_n hx hb dX2_look_24 rfl (lv_at hl 2 rfl) ?_
    refine va_get (D := G.1) (ci := 2) (C := RX2) (T := TX2) (N := 10) hx hb hts inX2 hown hK.1 hP 0 qW_0 rfl 3 (by decide) (hts _ w_278) (fun _ h9 => h9) rF_3 dX2_look_25 ?_
    refine lv_if_eq (tgt := 36) hx hb dX2_look_28 (by decide) (fun h34 => ?_) (fun h34 => ?_)
    ·
      rw [if_pos h34] at hE
      refine lv_aload_n hx hb dX2_look_36 rfl (lv_at hl 2 rfl) ?_
      refine lv_dup hx hb dX2_look_37 rfl ?_
      refine va_get (D := G.1) (ci := 2) (C := RX2) (T := TX2) (N := 10) hx hb hts inX2 hown hK.1 hP 0 qW_0 rfl 4 (by decide) (hts _ w_279) (fun _ h9 => h9) rF_4 dX2_look_38 ?_
      refine lv_iload_n hx hb dX2_look_41 rfl (lv_at hl 1 rfl) ?_
      refine lv_if_eq (tgt := 49) hx hb dX2_look_42 (by decide) (fun h35 => ?_) (fun h35 => ?_)
      ·
        rw [if_pos h35] at hE
        refine lv_iconst (v := 0) hx hb dX2_look_49 (by decide) ?_
        refine lv_iadd hx hb dX2_look_50 ?_
        refine va_put (D := G.1) (ci := 2) (v := .int ((Q32.1 4) + 0)) (ty := .int) (C := RX2) (T := TX2) (N := 10) hx hb hts inX2 tyX2 tyX2_ok nmX2 hown hK.1 hP hD hS 0 qW_0 rfl 4 (by decide) (hts _ w_279) (fun _ h9 => h9) rfl (by decide +kernel) rfl rfl rF_l4 dX2_look_51 (fun H locs hP hD hS => ?_)
        rw [qW_f4] at hP hD
        refine lv_aload_n hx hb dX2_look_54 rfl (lv_at hl 2 rfl) ?_
        refine lv_bipush (v := 14) hx hb dX2_look_55 (by decide) ?_
        refine lv_aload_n hx hb dX2_look_57 rfl (lv_at hl 2 rfl) ?_
        refine lv_aload_n hx hb dX2_look_58 rfl (lv_at hl 2 rfl) ?_
        refine lv_iconst (v := 1) hx hb dX2_look_59 (by decide) ?_
        obtain ⟨Q36, r37, hg, hE⟩ := hE
        refine kA_i (va_runV (As := [.int 1]) (rest := [.ref h, .int 14, .ref h]) F.1 (e_r_add l G h q ad J g hO (rf Q32 4 ((Q32.1 4) + 0)) 1 Q36 r37 hg _) (cwV 1 hts (aw_V w_314 w_316 ws_X2_add w_7 w_317) rfl rfl rfl (by decide +kernel) ⟨by dsimp only; omega, by dsimp only; omega⟩) ⟨cS_blind, va_recv (q := (RX2, TX2, 10)) (ci := 2) (q0 := 0) hK.1 hP rfl qW_0, cS_pre hP hD hK⟩ rfl rfl hl.1 rfl (lv_room (Nat.le_of_ble_eq_true rfl)) dX2_look_60 ⟨Nat.le_refl _, Nat.le_refl _⟩) hD hS hA (fun r9 u0 H locs hp hP hD hS => ?_)
        have hp := hp.symm; subst hp
        refine lv_iload_n hx hb dX2_look_63 rfl (lv_at hl 3 rfl) ?_
        obtain ⟨Q38, r39, hg, hE⟩ := hE
        refine kA_i (va_runV (As := [.int r37, .int a1]) (rest := [.int 14, .ref h]) F.1 (e_r_closedChoice l G Z h q ad J g hO CH f n hf hn hR Q36 r37 a1 Q38 r39 hg _) (cwV 2 hts (aw_V w_367 w_369 ws_X2_closedChoice w_7 w_370) rfl rfl rfl (by decide +kernel) ⟨by dsimp only; omega, by dsimp only; omega⟩) ⟨zS_blind, va_recv (q := (RX2, TX2, 10)) (ci := 2) (q0 := 0) hK.1 hP rfl qW_0, zS_pre hP hD hK hZ hS (kA_F hD hS hA)⟩ rfl rfl hl.1 rfl (lv_room (Nat.le_of_ble_eq_true rfl)) dX2_look_64 ⟨Nat.le_refl _, Nat.le_refl _⟩) hD hS hA (fun r9 u0 H locs hp hP hD hS => ?_)
        have hp := hp.symm; subst hp
        obtain ⟨Q40, r41, hg, hE⟩ := hE
        refine kA_i (va_runV (As := [.int 14, .int r39]) (rest := []) F.1 (e_r_withBody l G h q ad J g hO Q38 14 r39 Q40 r41 hg _) (cwV 2 hts (aw_V w_379 w_381 ws_X2_withBody w_7 w_382) rfl rfl rfl (by decide +kernel) ⟨by dsimp only; omega, by dsimp only; omega⟩) ⟨cS_blind, va_recv (q := (RX2, TX2, 10)) (ci := 2) (q0 := 0) hK.1 hP rfl qW_0, cS_pre hP hD hK⟩ rfl rfl hl.1 rfl (lv_room (Nat.le_of_ble_eq_true rfl)) dX2_look_67 ⟨Nat.le_refl _, Nat.le_refl _⟩) hD hS hA (fun r9 u0 H locs hp hP hD hS => ?_)
        have hp := hp.symm; subst hp
        refine lv_istore hx hb dX2_look_70 hl (by decide) rfl (fun ls hl => ?_)
        have hl : lv_has ls 5 [(4, .int r41), (3, .int r4), (2, .int r2), (0, .ref h), (1, .int a1)] := hl
        refine lv_aload_n hx hb dX2_look_72 rfl (lv_at hl 3 rfl) ?_
        refine lv_dup hx hb dX2_look_73 rfl ?_
        refine va_get (D := G.1) (ci := 2) (C := RX2) (T := TX2) (N := 10) hx hb hts inX2 hown hK.1 hP 0 qW_0 rfl 4 (by decide) (hts _ w_279) (fun _ h9 => h9) rF_4 dX2_look_74 ?_
        refine lv_iload_n hx hb dX2_look_77 rfl (lv_at hl 2 rfl) ?_
        refine lv_if_eq (tgt := 85) hx hb dX2_look_78 (by decide) (fun h42 => ?_) (fun h42 => ?_)
        ·
          rw [if_pos h42] at hE
          refine lv_iconst (v := 0) hx hb dX2_look_85 (by decide) ?_
          refine lv_isub hx hb dX2_look_86 ?_
          refine va_put (D := G.1) (ci := 2) (v := .int ((Q40.1 4) - 0)) (ty := .int) (C := RX2) (T := TX2) (N := 10) hx hb hts inX2 tyX2 tyX2_ok nmX2 hown hK.1 hP hD hS 0 qW_0 rfl 4 (by decide) (hts _ w_279) (fun _ h9 => h9) rfl (by decide +kernel) rfl rfl rF_l4 dX2_look_87 (fun H locs hP hD hS => ?_)
          rw [qW_f4] at hP hD
          refine lv_aload_n hx hb dX2_look_90 rfl (lv_at hl 3 rfl) ?_
          refine va_get (D := G.1) (ci := 2) (C := RX2) (T := TX2) (N := 10) hx hb hts inX2 hown hK.1 hP 0 qW_0 rfl 1 (by decide) (hts _ w_276) (fun _ h9 => h9) rF_1 dX2_look_91 ?_
          refine lv_iload hx hb dX2_look_94 (lv_at hl 0 rfl) ?_
          obtain ⟨hc43, hE⟩ := hE
          refine kp_V (va_runV (As := [.int r41]) (rest := []) F.1 (v_prog_node l G _ _ Q40.2.2.1 _ _ _ ad _ _ _ r41 hc43.1 hc43.2 _) (cwV 1 hts (aw_V w_339 w_340 w_341 w_4 w_342) rfl rfl rfl (by decide +kernel) ⟨by dsimp only; omega, by dsimp only; omega⟩) ⟨cS_blind, va_recv (q := (RX1, TX1, 5)) (ci := 1) (q0 := 0) hK.1 (qP_prog (Q := (rf Q40 4 ((Q40.1 4) - 0))) hP) rfl rfl, cS_pre (qP_prog (Q := (rf Q40 4 ((Q40.1 4) - 0))) hP) (qD_prog (Q := (rf Q40 4 ((Q40.1 4) - 0))) hD) hK⟩ rfl rfl hl.1 rfl (lv_room (Nat.le_of_ble_eq_true rfl)) dX2_look_96 ⟨Nat.le_refl _, Nat.le_refl _⟩) (fun v9 hp => ?_)
          subst hp
          refine lv_iload_n hx hb dX2_look_99 rfl (lv_at hl 2 rfl) ?_
          obtain ⟨hnz, hfz, hE⟩ := hE
          refine va_putN (D := G.1) (ci := 0) (v := .int r2) (ty := .boolean) (C := RX0) (T := TX0) (N := 13) hx hb hts inX0 tyX0 tyX0_ok nmX0 hown hK.1 hP hD hS (5 + (pn_ix Q40.2.2.1 r41)) (qW_nd (pn_lt hc43.1 hc43.2)) rfl 9 (by decide) (hK.2.1.use w_83) (fun _ h9 => h9) rfl (by decide +kernel) hnz hfz (Nat.le_of_ble_eq_true rfl) dX2_look_100 (fun H locs hP hD hS => ?_)
          rw [qW_n9 (pn_lt hc43.1 hc43.2)] at hP hD
          refine lv_aload_n hx hb dX2_look_103 rfl (lv_at hl 3 rfl) ?_
          refine va_get (D := G.1) (ci := 2) (C := RX2) (T := TX2) (N := 10) hx hb hts inX2 hown hK.1 hP 0 qW_0 rfl 1 (by decide) (hts _ w_276) (fun _ h9 => h9) rF_1 dX2_look_104 ?_
          refine lv_iload hx hb dX2_look_107 (lv_at hl 0 rfl) ?_
          obtain ⟨hc44, hE⟩ := hE
          refine kp_V (va_runV (As := [.int r41]) (rest := []) F.1 (v_prog_node l G _ _ Q40.2.2.1 _ _ _ ad _ _ _ r41 hc44.1 hc44.2 _) (cwV 1 hts (aw_V w_339 w_340 w_341 w_4 w_342) rfl rfl rfl (by decide +kernel) ⟨by dsimp only; omega, by dsimp only; omega⟩) ⟨cS_blind, va_recv (q := (RX1, TX1, 5)) (ci := 1) (q0 := 0) hK.1 (qP_prog (Q := (rn (rf Q40 4 ((Q40.1 4) - 0)) (pn_ix Q40.2.2.1 r41) 9 r2)) hP) rfl rfl, cS_pre (qP_prog (Q := (rn (rf Q40 4 ((Q40.1 4) - 0)) (pn_ix Q40.2.2.1 r41) 9 r2)) hP) (qD_prog (Q := (rn (rf Q40 4 ((Q40.1 4) - 0)) (pn_ix Q40.2.2.1 r41) 9 r2)) hD) hK⟩ rfl rfl hl.1 rfl (lv_room (Nat.le_of_ble_eq_true rfl)) dX2_look_109 ⟨Nat.le_refl _, Nat.le_refl _⟩) (fun v9 hp => ?_)
          subst hp
          refine lv_iload_n hx hb dX2_look_112 rfl (lv_at hl 1 rfl) ?_
          obtain ⟨hnz, hfz, hE⟩ := hE
          refine va_putN (D := G.1) (ci := 0) (v := .int r4) (ty := .boolean) (C := RX0) (T := TX0) (N := 13) hx hb hts inX0 tyX0 tyX0_ok nmX0 hown hK.1 hP hD hS (5 + (pn_ix Q40.2.2.1 r41)) (qW_nd (pn_lt hc44.1 hc44.2)) rfl 10 (by decide) (hK.2.1.use w_85) (fun _ h9 => h9) rfl (by decide +kernel) hnz hfz (Nat.le_of_ble_eq_true rfl) dX2_look_113 (fun H locs hP hD hS => ?_)
          rw [qW_n10 (pn_lt hc44.1 hc44.2)] at hP hD
          refine lv_iload hx hb dX2_look_116 (lv_at hl 0 rfl) ?_
          obtain ⟨rfl, hr9⟩ := hE
          exact en_i F hS _ () (by rfl) hr9.symm hP hD (Nat.le_refl _) (Nat.le_refl _) dX2_look_118
        ·
          rw [if_neg h42] at hE
          refine lv_iconst (v := 1) hx hb dX2_look_81 (by decide) ?_
          refine lv_goto (tgt := 86) hx hb dX2_look_82 (by decide) ?_
          refine lv_isub hx hb dX2_look_86 ?_
          refine va_put (D := G.1) (ci := 2) (v := .int ((Q40.1 4) - 1)) (ty := .int) (C := RX2) (T := TX2) (N := 10) hx hb hts inX2 tyX2 tyX2_ok nmX2 hown hK.1 hP hD hS 0 qW_0 rfl 4 (by decide) (hts _ w_279) (fun _ h9 => h9) rfl (by decide +kernel) rfl rfl rF_l4 dX2_look_87 (fun H locs hP hD hS => ?_)
          rw [qW_f4] at hP hD
          refine lv_aload_n hx hb dX2_look_90 rfl (lv_at hl 3 rfl) ?_
          refine va_get (D := G.1) (ci := 2) (C := RX2) (T := TX2) (N := 10) hx hb hts inX2 hown hK.1 hP 0 qW_0 rfl 1 (by decide) (hts _ w_276) (fun _ h9 => h9) rF_1 dX2_look_91 ?_
          refine lv_iload hx hb dX2_look_94 (lv_at hl 0 rfl) ?_
          obtain ⟨hc45, hE⟩ := hE
          refine kp_V (va_runV (As := [.int r41]) (rest := []) F.1 (v_prog_node l G _ _ Q40.2.2.1 _ _ _ ad _ _ _ r41 hc45.1 hc45.2 _) (cwV 1 hts (aw_V w_339 w_340 w_341 w_4 w_342) rfl rfl rfl (by decide +kernel) ⟨by dsimp only; omega, by dsimp only; omega⟩) ⟨cS_blind, va_recv (q := (RX1, TX1, 5)) (ci := 1) (q0 := 0) hK.1 (qP_prog (Q := (rf Q40 4 ((Q40.1 4) - 1))) hP) rfl rfl, cS_pre (qP_prog (Q := (rf Q40 4 ((Q40.1 4) - 1))) hP) (qD_prog (Q := (rf Q40 4 ((Q40.1 4) - 1))) hD) hK⟩ rfl rfl hl.1 rfl (lv_room (Nat.le_of_ble_eq_true rfl)) dX2_look_96 ⟨Nat.le_refl _, Nat.le_refl _⟩) (fun v9 hp => ?_)
          subst hp
          refine lv_iload_n hx hb dX2_look_99 rfl (lv_at hl 2 rfl) ?_
          obtain ⟨hnz, hfz, hE⟩ := hE
          refine va_putN (D := G.1) (ci := 0) (v := .int r2) (ty := .boolean) (C := RX0) (T := TX0) (N := 13) hx hb hts inX0 tyX0 tyX0_ok nmX0 hown hK.1 hP hD hS (5 + (pn_ix Q40.2.2.1 r41)) (qW_nd (pn_lt hc45.1 hc45.2)) rfl 9 (by decide) (hK.2.1.use w_83) (fun _ h9 => h9) rfl (by decide +kernel) hnz hfz (Nat.le_of_ble_eq_true rfl) dX2_look_100 (fun H locs hP hD hS => ?_)
          rw [qW_n9 (pn_lt hc45.1 hc45.2)] at hP hD
          refine lv_aload_n hx hb dX2_look_103 rfl (lv_at hl 3 rfl) ?_
          refine va_get (D := G.1) (ci := 2) (C := RX2) (T := TX2) (N := 10) hx hb hts inX2 hown hK.1 hP 0 qW_0 rfl 1 (by decide) (hts _ w_276) (fun _ h9 => h9) rF_1 dX2_look_104 ?_
          refine lv_iload hx hb dX2_look_107 (lv_at hl 0 rfl) ?_
          obtain ⟨hc46, hE⟩ := hE
          refine kp_V (va_runV (As := [.int r41]) (rest := []) F.1 (v_prog_node l G _ _ Q40.2.2.1 _ _ _ ad _ _ _ r41 hc46.1 hc46.2 _) (cwV 1 hts (aw_V w_339 w_340 w_341 w_4 w_342) rfl rfl rfl (by decide +kernel) ⟨by dsimp only; omega, by dsimp only; omega⟩) ⟨cS_blind, va_recv (q := (RX1, TX1, 5)) (ci := 1) (q0 := 0) hK.1 (qP_prog (Q := (rn (rf Q40 4 ((Q40.1 4) - 1)) (pn_ix Q40.2.2.1 r41) 9 r2)) hP) rfl rfl, cS_pre (qP_prog (Q := (rn (rf Q40 4 ((Q40.1 4) - 1)) (pn_ix Q40.2.2.1 r41) 9 r2)) hP) (qD_prog (Q := (rn (rf Q40 4 ((Q40.1 4) - 1)) (pn_ix Q40.2.2.1 r41) 9 r2)) hD) hK⟩ rfl rfl hl.1 rfl (lv_room (Nat.le_of_ble_eq_true rfl)) dX2_look_109 ⟨Nat.le_refl _, Nat.le_refl _⟩) (fun v9 hp => ?_)
          subst hp
          refine lv_iload_n hx hb dX2_look_112 rfl (lv_at hl 1 rfl) ?_
          obtain ⟨hnz, hfz, hE⟩ := hE
          refine va_putN (D := G.1) (ci := 0) (v := .int r4) (ty := .boolean) (C := RX0) (T := TX0) (N := 13) hx hb hts inX0 tyX0 tyX0_ok nmX0 hown hK.1 hP hD hS (5 + (pn_ix Q40.2.2.1 r41)) (qW_nd (pn_lt hc46.1 hc46.2)) rfl 10 (by decide) (hK.2.1.use w_85) (fun _ h9 => h9) rfl (by decide +kernel) hnz hfz (Nat.le_of_ble_eq_true rfl) dX2_look_113 (fun H locs hP hD hS => ?_)
          rw [qW_n10 (pn_lt hc46.1 hc46.2)] at hP hD
          refine lv_iload hx hb dX2_look_116 (lv_at hl 0 rfl) ?_
          obtain ⟨rfl, hr9⟩ := hE
          exact en_i F hS _ () (by rfl) hr9.symm hP hD (Nat.le_refl _) (Nat.le_refl _) dX2_look_118
      ·
        rw [if_neg h35] at hE
        refine lv_iconst (v := 1) hx hb dX2_look_45 (by decide) ?_
        refine lv_goto (tgt := 50) hx hb dX2_look_46 (by decide) ?_
        refine lv_iadd hx hb dX2_look_50 ?_
        refine va_put (D := G.1) (ci := 2) (v := .int ((Q32.1 4) + 1)) (ty := .int) (C := RX2) (T := TX2) (N := 10) hx hb hts inX2 tyX2 tyX2_ok nmX2 hown hK.1 hP hD hS 0 qW_0 rfl 4 (by decide) (hts _ w_279) (fun _ h9 => h9) rfl (by decide +kernel) rfl rfl rF_l4 dX2_look_51 (fun H locs hP hD hS => ?_)
        rw [qW_f4] at hP hD
        refine lv_aload_n hx hb dX2_look_54 rfl (lv_at hl 2 rfl) ?_
        refine lv_bipush (v := 14) hx hb dX2_look_55 (by decide) ?_
        refine lv_aload_n hx hb dX2_look_57 rfl (lv_at hl 2 rfl) ?_
        refine lv_aload_n hx hb dX2_look_58 rfl (lv_at hl 2 rfl) ?_
        refine lv_iconst (v := 1) hx hb dX2_look_59 (by decide) ?_
        obtain ⟨Q47, r48, hg, hE⟩ := hE
        refine kA_i (va_runV (As := [.int 1]) (rest := [.ref h, .int 14, .ref h]) F.1 (e_r_add l G h q ad J g hO (rf Q32 4 ((Q32.1 4) + 1)) 1 Q47 r48 hg _) (cwV 1 hts (aw_V w_314 w_316 ws_X2_add w_7 w_317) rfl rfl rfl (by decide +kernel) ⟨by dsimp only; omega, by dsimp only; omega⟩) ⟨cS_blind, va_recv (q := (RX2, TX2, 10)) (ci := 2) (q0 := 0) hK.1 hP rfl qW_0, cS_pre hP hD hK⟩ rfl rfl hl.1 rfl (lv_room (Nat.le_of_ble_eq_true rfl)) dX2_look_60 ⟨Nat.le_refl _, Nat.le_refl _⟩) hD hS hA (fun r9 u0 H locs hp hP hD hS => ?_)
        have hp := hp.symm; subst hp
        refine lv_iload_n hx hb dX2_look_63 rfl (lv_at hl 3 rfl) ?_
        obtain ⟨Q49, r50, hg, hE⟩ := hE
        refine kA_i (va_runV (As := [.int r48, .int a1]) (rest := [.int 14, .ref h]) F.1 (e_r_closedChoice l G Z h q ad J g hO CH f n hf hn hR Q47 r48 a1 Q49 r50 hg _) (cwV 2 hts (aw_V w_367 w_369 ws_X2_closedChoice w_7 w_370) rfl rfl rfl (by decide +kernel) ⟨by dsimp only; omega, by dsimp only; omega⟩) ⟨zS_blind, va_recv (q := (RX2, TX2, 10)) (ci := 2) (q0 := 0) hK.1 hP rfl qW_0, zS_pre hP hD hK hZ hS (kA_F hD hS hA)⟩ rfl rfl hl.1 rfl (lv_room (Nat.le_of_ble_eq_true rfl)) dX2_look_64 ⟨Nat.le_refl _, Nat.le_refl _⟩) hD hS hA (fun r9 u0 H locs hp hP hD hS => ?_)
        have hp := hp.symm; subst hp
        obtain ⟨Q51, r52, hg, hE⟩ := hE
        refine kA_i (va_runV (As := [.int 14, .int r50]) (rest := []) F.1 (e_r_withBody l G h q ad J g hO Q49 14 r50 Q51 r52 hg _) (cwV 2 hts (aw_V w_379 w_381 ws_X2_withBody w_7 w_382) rfl rfl rfl (by decide +kernel) ⟨by dsimp only; omega, by dsimp only; omega⟩) ⟨cS_blind, va_recv (q := (RX2, TX2, 10)) (ci := 2) (q0 := 0) hK.1 hP rfl qW_0, cS_pre hP hD hK⟩ rfl rfl hl.1 rfl (lv_room (Nat.le_of_ble_eq_true rfl)) dX2_look_67 ⟨Nat.le_refl _, Nat.le_refl _⟩) hD hS hA (fun r9 u0 H locs hp hP hD hS => ?_)
        have hp := hp.symm; subst hp
        refine lv_istore hx hb dX2_look_70 hl (by decide) rfl (fun ls hl => ?_)
        have hl : lv_has ls 5 [(4, .int r52), (3, .int r4), (2, .int r2), (0, .ref h), (1, .int a1)] := hl
        refine lv_aload_n hx hb dX2_look_72 rfl (lv_at hl 3 rfl) ?_
        refine lv_dup hx hb dX2_look_73 rfl ?_
        refine va_get (D := G.1) (ci := 2) (C := RX2) (T := TX2) (N := 10) hx hb hts inX2 hown hK.1 hP 0 qW_0 rfl 4 (by decide) (hts _ w_279) (fun _ h9 => h9) rF_4 dX2_look_74 ?_
        refine lv_iload_n hx hb dX2_look_77 rfl (lv_at hl 2 rfl) ?_
        refine lv_if_eq (tgt := 85) hx hb dX2_look_78 (by decide) (fun h53 => ?_) (fun h53 => ?_)
        ·
          rw [if_pos h53] at hE
          refine lv_iconst (v := 0) hx hb dX2_look_85 (by decide) ?_
          refine lv_isub hx hb dX2_look_86 ?_
          refine va_put (D := G.1) (ci := 2) (v := .int ((Q51.1 4) - 0)) (ty := .int) (C := RX2) (T := TX2) (N := 10) hx hb hts inX2 tyX2 tyX2_ok nmX2 hown hK.1 hP hD hS 0 qW_0 rfl 4 (by decide) (hts _ w_279) (fun _ h9 => h9) rfl (by decide +kernel) rfl rfl rF_l4 dX2_look_87 (fun H locs hP hD hS => ?_)
          rw [qW_f4] at hP hD
          refine lv_aload_n hx hb dX2_look_90 rfl (lv_at hl 3 rfl) ?_
          refine va_get (D := G.1) (ci := 2) (C := RX2) (T := TX2) (N := 10) hx hb hts inX2 hown hK.1 hP 0 qW_0 rfl 1 (by decide) (hts _ w_276) (fun _ h9 => h9) rF_1 dX2_look_91 ?_
          refine lv_iload hx hb dX2_look_94 (lv_at hl 0 rfl) ?_
          obtain ⟨hc54, hE⟩ := hE
          refine kp_V (va_runV (As := [.int r52]) (rest := []) F.1 (v_prog_node l G _ _ Q51.2.2.1 _ _ _ ad _ _ _ r52 hc54.1 hc54.2 _) (cwV 1 hts (aw_V w_339 w_340 w_341 w_4 w_342) rfl rfl rfl (by decide +kernel) ⟨by dsimp only; omega, by dsimp only; omega⟩) ⟨cS_blind, va_recv (q := (RX1, TX1, 5)) (ci := 1) (q0 := 0) hK.1 (qP_prog (Q := (rf Q51 4 ((Q51.1 4) - 0))) hP) rfl rfl, cS_pre (qP_prog (Q := (rf Q51 4 ((Q51.1 4) - 0))) hP) (qD_prog (Q := (rf Q51 4 ((Q51.1 4) - 0))) hD) hK⟩ rfl rfl hl.1 rfl (lv_room (Nat.le_of_ble_eq_true rfl)) dX2_look_96 ⟨Nat.le_refl _, Nat.le_refl _⟩) (fun v9 hp => ?_)
          subst hp
          refine lv_iload_n hx hb dX2_look_99 rfl (lv_at hl 2 rfl) ?_
          obtain ⟨hnz, hfz, hE⟩ := hE
          refine va_putN (D := G.1) (ci := 0) (v := .int r2) (ty := .boolean) (C := RX0) (T := TX0) (N := 13) hx hb hts inX0 tyX0 tyX0_ok nmX0 hown hK.1 hP hD hS (5 + (pn_ix Q51.2.2.1 r52)) (qW_nd (pn_lt hc54.1 hc54.2)) rfl 9 (by decide) (hK.2.1.use w_83) (fun _ h9 => h9) rfl (by decide +kernel) hnz hfz (Nat.le_of_ble_eq_true rfl) dX2_look_100 (fun H locs hP hD hS => ?_)
          rw [qW_n9 (pn_lt hc54.1 hc54.2)] at hP hD
          refine lv_aload_n hx hb dX2_look_103 rfl (lv_at hl 3 rfl) ?_
          refine va_get (D := G.1) (ci := 2) (C := RX2) (T := TX2) (N := 10) hx hb hts inX2 hown hK.1 hP 0 qW_0 rfl 1 (by decide) (hts _ w_276) (fun _ h9 => h9) rF_1 dX2_look_104 ?_
          refine lv_iload hx hb dX2_look_107 (lv_at hl 0 rfl) ?_
          obtain ⟨hc55, hE⟩ := hE
          refine kp_V (va_runV (As := [.int r52]) (rest := []) F.1 (v_prog_node l G _ _ Q51.2.2.1 _ _ _ ad _ _ _ r52 hc55.1 hc55.2 _) (cwV 1 hts (aw_V w_339 w_340 w_341 w_4 w_342) rfl rfl rfl (by decide +kernel) ⟨by dsimp only; omega, by dsimp only; omega⟩) ⟨cS_blind, va_recv (q := (RX1, TX1, 5)) (ci := 1) (q0 := 0) hK.1 (qP_prog (Q := (rn (rf Q51 4 ((Q51.1 4) - 0)) (pn_ix Q51.2.2.1 r52) 9 r2)) hP) rfl rfl, cS_pre (qP_prog (Q := (rn (rf Q51 4 ((Q51.1 4) - 0)) (pn_ix Q51.2.2.1 r52) 9 r2)) hP) (qD_prog (Q := (rn (rf Q51 4 ((Q51.1 4) - 0)) (pn_ix Q51.2.2.1 r52) 9 r2)) hD) hK⟩ rfl rfl hl.1 rfl (lv_room (Nat.le_of_ble_eq_true rfl)) dX2_look_109 ⟨Nat.le_refl _, Nat.le_refl _⟩) (fun v9 hp => ?_)
          subst hp
          refine lv_iload_n hx hb dX2_look_112 rfl (lv_at hl 1 rfl) ?_
          obtain ⟨hnz, hfz, hE⟩ := hE
          refine va_putN (D := G.1) (ci := 0) (v := .int r4) (ty := .boolean) (C := RX0) (T := TX0) (N := 13) hx hb hts inX0 tyX0 tyX0_ok nmX0 hown hK.1 hP hD hS (5 + (pn_ix Q51.2.2.1 r52)) (qW_nd (pn_lt hc55.1 hc55.2)) rfl 10 (by decide) (hK.2.1.use w_85) (fun _ h9 => h9) rfl (by decide +kernel) hnz hfz (Nat.le_of_ble_eq_true rfl) dX2_look_113 (fun H locs hP hD hS => ?_)
          rw [qW_n10 (pn_lt hc55.1 hc55.2)] at hP hD
          refine lv_iload hx hb dX2_look_116 (lv_at hl 0 rfl) ?_
          obtain ⟨rfl, hr9⟩ := hE
          exact en_i F hS _ () (by rfl) hr9.symm hP hD (Nat.le_refl _) (Nat.le_refl _) dX2_look_118
        ·
          rw [if_neg h53] at hE
          refine lv_iconst (v := 1) hx hb dX2_look_81 (by decide) ?_
          refine lv_goto (tgt := 86) hx hb dX2_look_82 (by decide) ?_
          refine lv_isub hx hb dX2_look_86 ?_
          refine va_put (D := G.1) (ci := 2) (v := .int ((Q51.1 4) - 1)) (ty := .int) (C := RX2) (T := TX2) (N := 10) hx hb hts inX2 tyX2 tyX2_ok nmX2 hown hK.1 hP hD hS 0 qW_0 rfl 4 (by decide) (hts _ w_279) (fun _ h9 => h9) rfl (by decide +kernel) rfl rfl rF_l4 dX2_look_87 (fun H locs hP hD hS => ?_)
          rw [qW_f4] at hP hD
          refine lv_aload_n hx hb dX2_look_90 rfl (lv_at hl 3 rfl) ?_
          refine va_get (D := G.1) (ci := 2) (C := RX2) (T := TX2) (N := 10) hx hb hts inX2 hown hK.1 hP 0 qW_0 rfl 1 (by decide) (hts _ w_276) (fun _ h9 => h9) rF_1 dX2_look_91 ?_
          refine lv_iload hx hb dX2_look_94 (lv_at hl 0 rfl) ?_
          obtain ⟨hc56, hE⟩ := hE
          refine kp_V (va_runV (As := [.int r52]) (rest := []) F.1 (v_prog_node l G _ _ Q51.2.2.1 _ _ _ ad _ _ _ r52 hc56.1 hc56.2 _) (cwV 1 hts (aw_V w_339 w_340 w_341 w_4 w_342) rfl rfl rfl (by decide +kernel) ⟨by dsimp only; omega, by dsimp only; omega⟩) ⟨cS_blind, va_recv (q := (RX1, TX1, 5)) (ci := 1) (q0 := 0) hK.1 (qP_prog (Q := (rf Q51 4 ((Q51.1 4) - 1))) hP) rfl rfl, cS_pre (qP_prog (Q := (rf Q51 4 ((Q51.1 4) - 1))) hP) (qD_prog (Q := (rf Q51 4 ((Q51.1 4) - 1))) hD) hK⟩ rfl rfl hl.1 rfl (lv_room (Nat.le_of_ble_eq_true rfl)) dX2_look_96 ⟨Nat.le_refl _, Nat.le_refl _⟩) (fun v9 hp => ?_)
          subst hp
          refine lv_iload_n hx hb dX2_look_99 rfl (lv_at hl 2 rfl) ?_
          obtain ⟨hnz, hfz, hE⟩ := hE
          refine va_putN (D := G.1) (ci := 0) (v := .int r2) (ty := .boolean) (C := RX0) (T := TX0) (N := 13) hx hb hts inX0 tyX0 tyX0_ok nmX0 hown hK.1 hP hD hS (5 + (pn_ix Q51.2.2.1 r52)) (qW_nd (pn_lt hc56.1 hc56.2)) rfl 9 (by decide) (hK.2.1.use w_83) (fun _ h9 => h9) rfl (by decide +kernel) hnz hfz (Nat.le_of_ble_eq_true rfl) dX2_look_100 (fun H locs hP hD hS => ?_)
          rw [qW_n9 (pn_lt hc56.1 hc56.2)] at hP hD
          refine lv_aload_n hx hb dX2_look_103 rfl (lv_at hl 3 rfl) ?_
          refine va_get (D := G.1) (ci := 2) (C := RX2) (T := TX2) (N := 10) hx hb hts inX2 hown hK.1 hP 0 qW_0 rfl 1 (by decide) (hts _ w_276) (fun _ h9 => h9) rF_1 dX2_look_104 ?_
          refine lv_iload hx hb dX2_look_107 (lv_at hl 0 rfl) ?_
          obtain ⟨hc57, hE⟩ := hE
          refine kp_V (va_runV (As := [.int r52]) (rest := []) F.1 (v_prog_node l G _ _ Q51.2.2.1 _ _ _ ad _ _ _ r52 hc57.1 hc57.2 _) (cwV 1 hts (aw_V w_339 w_340 w_341 w_4 w_342) rfl rfl rfl (by decide +kernel) ⟨by dsimp only; omega, by dsimp only; omega⟩) ⟨cS_blind, va_recv (q := (RX1, TX1, 5)) (ci := 1) (q0 := 0) hK.1 (qP_prog (Q := (rn (rf Q51 4 ((Q51.1 4) - 1)) (pn_ix Q51.2.2.1 r52) 9 r2)) hP) rfl rfl, cS_pre (qP_prog (Q := (rn (rf Q51 4 ((Q51.1 4) - 1)) (pn_ix Q51.2.2.1 r52) 9 r2)) hP) (qD_prog (Q := (rn (rf Q51 4 ((Q51.1 4) - 1)) (pn_ix Q51.2.2.1 r52) 9 r2)) hD) hK⟩ rfl rfl hl.1 rfl (lv_room (Nat.le_of_ble_eq_true rfl)) dX2_look_109 ⟨Nat.le_refl _, Nat.le_refl _⟩) (fun v9 hp => ?_)
          subst hp
          refine lv_iload_n hx hb dX2_look_112 rfl (lv_at hl 1 rfl) ?_
          obtain ⟨hnz, hfz, hE⟩ := hE
          refine va_putN (D := G.1) (ci := 0) (v := .int r4) (ty := .boolean) (C := RX0) (T := TX0) (N := 13) hx hb hts inX0 tyX0 tyX0_ok nmX0 hown hK.1 hP hD hS (5 + (pn_ix Q51.2.2.1 r52)) (qW_nd (pn_lt hc57.1 hc57.2)) rfl 10 (by decide) (hK.2.1.use w_85) (fun _ h9 => h9) rfl (by decide +kernel) hnz hfz (Nat.le_of_ble_eq_true rfl) dX2_look_113 (fun H locs hP hD hS => ?_)
          rw [qW_n10 (pn_lt hc57.1 hc57.2)] at hP hD
          refine lv_iload hx hb dX2_look_116 (lv_at hl 0 rfl) ?_
          obtain ⟨rfl, hr9⟩ := hE
          exact en_i F hS _ () (by rfl) hr9.symm hP hD (Nat.le_refl _) (Nat.le_refl _) dX2_look_118
    ·
      rw [if_neg h34] at hE
      refine lv_aload_n hx hb dX2_look_31 rfl (lv_at hl 2 rfl) ?_
      obtain ⟨Q58, r59, hg, hE⟩ := hE
      refine kA_i (va_runV (As := []) (rest := []) F.1 (e_r_refuse l G h q ad J g hO Q32 Q58 r59 hg _) (cwV 0 hts (aw_V w_355 w_357 ws_X2_refuse w_7 w_358) rfl rfl rfl (by decide +kernel) ⟨by dsimp only; omega, by dsimp only; omega⟩) ⟨cS_blind, va_recv (q := (RX2, TX2, 10)) (ci := 2) (q0 := 0) hK.1 hP rfl qW_0, cS_pre hP hD hK⟩ rfl rfl hl.1 rfl (lv_room (Nat.le_of_ble_eq_true rfl)) dX2_look_32 ⟨Nat.le_refl _, Nat.le_refl _⟩) hD hS hA (fun r9 u0 H locs hp hP hD hS => ?_)
      have hp := hp.symm; subst hp
      obtain ⟨rfl, hr9⟩ := hE
      exact en_i F hS _ () (by rfl) hr9.symm hP hD (Nat.le_refl _) (Nat.le_refl _) dX2_look_35

theorem dX2_bracket_0 : decode cX2_bracket 0 = .ok (.iload_n 1, 1) := by decide +kernel
theorem dX2_bracket_1 : decode cX2_bracket 1 = .ok (.iconst 4, 1) := by decide +kernel
theorem dX2_bracket_2 : decode cX2_bracket 2 = .ok (.if_icmp .le 8, 3) := by decide +kernel
theorem dX2_bracket_5 : decode cX2_bracket 5 = .ok (.aload_n 0, 1) := by decide +kernel
theorem dX2_bracket_6 : decode cX2_bracket 6 = .ok (.invokevirtual 142, 3) := by decide +kernel
theorem dX2_bracket_9 : decode cX2_bracket 9 = .ok (.ireturn, 1) := by decide +kernel
theorem dX2_bracket_10 : decode cX2_bracket 10 = .ok (.aload_n 0, 1) := by decide +kernel
theorem dX2_bracket_11 : decode cX2_bracket 11 = .ok (.bipush 63, 2) := by decide +kernel
theorem dX2_bracket_13 : decode cX2_bracket 13 = .ok (.invokevirtual 94, 3) := by decide +kernel
theorem dX2_bracket_16 : decode cX2_bracket 16 = .ok (.ifCond .ne 9, 3) := by decide +kernel
theorem dX2_bracket_19 : decode cX2_bracket 19 = .ok (.aload_n 0, 1) := by decide +kernel
theorem dX2_bracket_20 : decode cX2_bracket 20 = .ok (.iload_n 1, 1) := by decide +kernel
theorem dX2_bracket_21 : decode cX2_bracket 21 = .ok (.invokevirtual 189, 3) := by decide +kernel
theorem dX2_bracket_24 : decode cX2_bracket 24 = .ok (.ireturn, 1) := by decide +kernel
theorem dX2_bracket_25 : decode cX2_bracket 25 = .ok (.aload_n 0, 1) := by decide +kernel
theorem dX2_bracket_26 : decode cX2_bracket 26 = .ok (.bipush 58, 2) := by decide +kernel
theorem dX2_bracket_28 : decode cX2_bracket 28 = .ok (.invokevirtual 94, 3) := by decide +kernel
theorem dX2_bracket_31 : decode cX2_bracket 31 = .ok (.ifCond .eq 9, 3) := by decide +kernel
theorem dX2_bracket_34 : decode cX2_bracket 34 = .ok (.aload_n 0, 1) := by decide +kernel
theorem dX2_bracket_35 : decode cX2_bracket 35 = .ok (.iload_n 1, 1) := by decide +kernel
theorem dX2_bracket_36 : decode cX2_bracket 36 = .ok (.invokevirtual 191, 3) := by decide +kernel
theorem dX2_bracket_39 : decode cX2_bracket 39 = .ok (.ireturn, 1) := by decide +kernel
theorem dX2_bracket_40 : decode cX2_bracket 40 = .ok (.aload_n 0, 1) := by decide +kernel
theorem dX2_bracket_41 : decode cX2_bracket 41 = .ok (.bipush 62, 2) := by decide +kernel
theorem dX2_bracket_43 : decode cX2_bracket 43 = .ok (.invokevirtual 94, 3) := by decide +kernel
theorem dX2_bracket_46 : decode cX2_bracket 46 = .ok (.ifCond .eq 20, 3) := by decide +kernel
theorem dX2_bracket_49 : decode cX2_bracket 49 = .ok (.aload_n 0, 1) := by decide +kernel
theorem dX2_bracket_50 : decode cX2_bracket 50 = .ok (.bipush 15, 2) := by decide +kernel
theorem dX2_bracket_52 : decode cX2_bracket 52 = .ok (.aload_n 0, 1) := by decide +kernel
theorem dX2_bracket_53 : decode cX2_bracket 53 = .ok (.aload_n 0, 1) := by decide +kernel
theorem dX2_bracket_54 : decode cX2_bracket 54 = .ok (.iconst 1, 1) := by decide +kernel
theorem dX2_bracket_55 : decode cX2_bracket 55 = .ok (.invokevirtual 24, 3) := by decide +kernel
theorem dX2_bracket_58 : decode cX2_bracket 58 = .ok (.iload_n 1, 1) := by decide +kernel
theorem dX2_bracket_59 : decode cX2_bracket 59 = .ok (.invokevirtual 194, 3) := by decide +kernel
theorem dX2_bracket_62 : decode cX2_bracket 62 = .ok (.invokevirtual 101, 3) := by decide +kernel
theorem dX2_bracket_65 : decode cX2_bracket 65 = .ok (.ireturn, 1) := by decide +kernel
theorem dX2_bracket_66 : decode cX2_bracket 66 = .ok (.aload_n 0, 1) := by decide +kernel
theorem dX2_bracket_67 : decode cX2_bracket 67 = .ok (.iload_n 1, 1) := by decide +kernel
theorem dX2_bracket_68 : decode cX2_bracket 68 = .ok (.invokevirtual 197, 3) := by decide +kernel
theorem dX2_bracket_71 : decode cX2_bracket 71 = .ok (.ireturn, 1) := by decide +kernel
def E_r_bracket (J : Nat) (g : Nat → Int32) (CH : CT) (Q : QS) (a1 : Int32) (Q' : QS) (r : Int32) : Prop := if a1 ≤ 4 then (∃ (Q2 : QS) (r3 : Int32), E_r_take J g Q 63 Q2 r3 ∧ (if r3 = 0 then (∃ (Q21 : QS) (r22 : Int32), E_r_group J g CH Q2 a1 Q21 r22 ∧ (Q' = Q21 ∧ r = r22)) else (∃ (Q5 : QS) (r6 : Int32), E_r_take J g Q2 58 Q5 r6 ∧ (if r6 = 0 then (∃ (Q8 : QS) (r9 : Int32), E_r_take J g Q5 62 Q8 r9 ∧ (if r9 = 0 then (∃ (Q11 : QS) (r12 : Int32), E_r_look J g CH Q8 a1 Q11 r12 ∧ (Q' = Q11 ∧ r = r12)) else (∃ (Q13 : QS) (r14 : Int32), E_r_add J g Q8 1 Q13 r14 ∧ (∃ (Q15 : QS) (r16 : Int32), E_r_closedChoice J g CH Q13 r14 a1 Q15 r16 ∧ (∃ (Q17 : QS) (r18 : Int32), E_r_withBody J g Q15 15 r16 Q17 r18 ∧ (Q' = Q17 ∧ r = r18)))))) else (∃ (Q19 : QS) (r20 : Int32), E_r_together J g CH Q5 a1 Q19 r20 ∧ (Q' = Q19 ∧ r = r20)))))) else (∃ (Q23 : QS) (r24 : Int32), E_r_refuse J g Q Q23 r24 ∧ (Q' = Q23 ∧ r = r24))
set_option maxHeartbeats 4000000 in
set_option maxRecDepth 100000 in
theorem e_r_bracket (l : Launch) (G : PG) (Z : ZZ) (h : Nat) (q ad : Nat → Nat) (J : Nat) (g : Nat → Int32) (hO : gOK J g) (CH : CT) (f n : Nat) (hf : 8 ≤ f) (hn : 300 ≤ n) (hR : CC l G Z h q ad J g f n CH) (Q : QS) (a1 : Int32) (Q' : QS) (r : Int32) (hE : E_r_bracket J g CH Q a1 Q' r) : CiZ l yX2_bracket (Cond.code yX2_bracket cX2_bracket 2 (some .int) :: aW) { frames := f + 3, cells := 0, slots := 0, locals := n + 73 } Z G (qW G h q ad J g Q) [.ref h, .int a1] (fun (r9 : Int32) (_ : Unit) => r9 = r) (fun (_ : Unit) => qW G h q ad J g Q') 0 0 := by
  refine ofBZ (y := yX2_bracket) (G := G) (cc := cX2_bracket) (maxL := 2) (ret := (some .int)) (Qc := fun A => va_Qi (fun (r9 : Int32) (_ : Unit) => r9 = r) (oB G A (fun (_ : Unit) => qW G h q ad J g Q')) A) (by decide) rfl ?_
  intro p e s m below meth c A F hK hZ hA hP hD
  have hS : va_S A s.heap s.heap [] := va_S.rf
  have hx := F.1.1; have hb := F.1.2.1; have hml := F.1.2.2.1; have hts := F.1.2.2.2.2
  have hown : s.vm.findClass RX2 = some m.cls := F.1.2.2.2.1
  have hl := lv_entry ([.ref h, .int a1]) (n := 2) (Nat.le_of_ble_eq_true rfl)
  rw [lg_entry_eq]
  generalize (lg_sl ([.ref h, .int a1]) ++ List.replicate (2 - (lg_sl ([.ref h, .int a1])).length) Slot.unset).toArray = ls at hl ⊢
  have hl : lv_has ls 2 [(0, .ref h), (1, .int a1)] := hl
  unfold E_r_bracket at hE
  refine lv_iload_n hx hb dX2_bracket_0 rfl (lv_at hl 1 rfl) ?_
  refine lv_iconst (v := 4) hx hb dX2_bracket_1 (by decide) ?_
  refine lv_icmp_le (tgt := 10) hx hb dX2_bracket_2 (by decide) (fun h1 => ?_) (fun h1 => ?_)
  ·
    rw [if_pos h1] at hE
    refine lv_aload_n hx hb dX2_bracket_10 rfl (lv_at hl 0 rfl) ?_
    refine lv_bipush (v := 63) hx hb dX2_bracket_11 (by decide) ?_
    obtain ⟨Q2, r3, hg, hE⟩ := hE
    refine kA_i (va_runV (As := [.int 63]) (rest := []) F.1 (e_r_take l G h q ad J g hO Q 63 Q2 r3 hg _) (cwV 1 hts (aw_V w_359 w_361 ws_X2_take w_7 w_362) rfl rfl rfl (by decide +kernel) ⟨by dsimp only; omega, by dsimp only; omega⟩) ⟨cS_blind, va_recv (q := (RX2, TX2, 10)) (ci := 2) (q0 := 0) hK.1 hP rfl qW_0, cS_pre hP hD hK⟩ rfl rfl hl.1 rfl (lv_room (Nat.le_of_ble_eq_true rfl)) dX2_bracket_13 ⟨Nat.le_refl _, Nat.le_refl _⟩) hD hS hA (fun r9 u0 H locs hp hP hD hS => ?_)
    have hp := hp.symm; subst hp
    refine lv_if_ne (tgt := 25) hx hb dX2_bracket_16 (by decide) (fun h4 => ?_) (fun h4 => ?_)
    ·
      rw [if_neg h4] at hE
      refine lv_aload_n hx hb dX2_bracket_25 rfl (lv_at hl 0 rfl) ?_
      refine lv_bipush (v := 58) hx hb dX2_bracket_26 (by decide) ?_
      obtain ⟨Q5, r6, hg, hE⟩ := hE
      refine kA_i (va_runV (As := [.int 58]) (rest := []) F.1 (e_r_take l G h q ad J g hO Q2 58 Q5 r6 hg _) (cwV 1 hts (aw_V w_359 w_361 ws_X2_take w_7 w_362) rfl rfl rfl (by decide +kernel) ⟨by dsimp only; omega, by dsimp only; omega⟩) ⟨cS_blind, va_recv (q := (RX2, TX2, 10)) (ci := 2) (q0 := 0) hK.1 hP rfl qW_0, cS_pre hP hD hK⟩ rfl rfl hl.1 rfl (lv_room (Nat.le_of_ble_eq_true rfl)) dX2_bracket_28 ⟨Nat.le_refl _, Nat.le_refl _⟩) hD hS hA (fun r9 u0 H locs hp hP hD hS => ?_)
      have hp := hp.symm; subst hp
      refine lv_if_eq (tgt := 40) hx hb dX2_bracket_31 (by decide) (fun h7 => ?_) (fun h7 => ?_)
      ·
        rw [if_pos h7] at hE
        refine lv_aload_n hx hb dX2_bracket_40 rfl (lv_at hl 0 rfl) ?_
        refine lv_bipush (v := 62) hx hb dX2_bracket_41 (by decide) ?_
        obtain ⟨Q8, r9, hg, hE⟩ := hE
        refine kA_i (va_runV (As := [.int 62]) (rest := []) F.1 (e_r_take l G h q ad J g hO Q5 62 Q8 r9 hg _) (cwV 1 hts (aw_V w_359 w_361 ws_X2_take w_7 w_362) rfl rfl rfl (by decide +kernel) ⟨by dsimp only; omega, by dsimp only; omega⟩) ⟨cS_blind, va_recv (q := (RX2, TX2, 10)) (ci := 2) (q0 := 0) hK.1 hP rfl qW_0, cS_pre hP hD hK⟩ rfl rfl hl.1 rfl (lv_room (Nat.le_of_ble_eq_true rfl)) dX2_bracket_43 ⟨Nat.le_refl _, Nat.le_refl _⟩) hD hS hA (fun r9 u0 H locs hp hP hD hS => ?_)
        have hp := hp.symm; subst hp
        refine lv_if_eq (tgt := 66) hx hb dX2_bracket_46 (by decide) (fun h10 => ?_) (fun h10 => ?_)
        ·
          rw [if_pos h10] at hE
          refine lv_aload_n hx hb dX2_bracket_66 rfl (lv_at hl 0 rfl) ?_
          refine lv_iload_n hx hb dX2_bracket_67 rfl (lv_at hl 1 rfl) ?_
          obtain ⟨Q11, r12, hg, hE⟩ := hE
          refine kA_i (va_runV (As := [.int a1]) (rest := []) F.1 (e_r_look l G Z h q ad J g hO CH f n hf hn hR Q8 a1 Q11 r12 hg _) (cwV 1 hts (aw_V w_387 w_389 ws_X2_look w_7 w_390) rfl rfl rfl (by decide +kernel) ⟨by dsimp only; omega, by dsimp only; omega⟩) ⟨zS_blind, va_recv (q := (RX2, TX2, 10)) (ci := 2) (q0 := 0) hK.1 hP rfl qW_0, zS_pre hP hD hK hZ hS (kA_F hD hS hA)⟩ rfl rfl hl.1 rfl (lv_room (Nat.le_of_ble_eq_true rfl)) dX2_bracket_68 ⟨Nat.le_refl _, Nat.le_refl _⟩) hD hS hA (fun r9 u0 H locs hp hP hD hS => ?_)
          have hp := hp.symm; subst hp
          obtain ⟨rfl, hr9⟩ := hE
          exact en_i F hS _ () (by rfl) hr9.symm hP hD (Nat.le_refl _) (Nat.le_refl _) dX2_bracket_71
        ·
          rw [if_neg h10] at hE
          refine lv_aload_n hx hb dX2_bracket_49 rfl (lv_at hl 0 rfl) ?_
          refine lv_bipush (v := 15) hx hb dX2_bracket_50 (by decide) ?_
          refine lv_aload_n hx hb dX2_bracket_52 rfl (lv_at hl 0 rfl) ?_
          refine lv_aload_n hx hb dX2_bracket_53 rfl (lv_at hl 0 rfl) ?_
          refine lv_iconst (v := 1) hx hb dX2_bracket_54 (by decide) ?_
          obtain ⟨Q13, r14, hg, hE⟩ := hE
          refine kA_i (va_runV (As := [.int 1]) (rest := [.ref h, .int 15, .ref h]) F.1 (e_r_add l G h q ad J g hO Q8 1 Q13 r14 hg _) (cwV 1 hts (aw_V w_314 w_316 ws_X2_add w_7 w_317) rfl rfl rfl (by decide +kernel) ⟨by dsimp only; omega, by dsimp only; omega⟩) ⟨cS_blind, va_recv (q := (RX2, TX2, 10)) (ci := 2) (q0 := 0) hK.1 hP rfl qW_0, cS_pre hP hD hK⟩ rfl rfl hl.1 rfl (lv_room (Nat.le_of_ble_eq_true rfl)) dX2_bracket_55 ⟨Nat.le_refl _, Nat.le_refl _⟩) hD hS hA (fun r9 u0 H locs hp hP hD hS => ?_)
          have hp := hp.symm; subst hp
          refine lv_iload_n hx hb dX2_bracket_58 rfl (lv_at hl 1 rfl) ?_
          obtain ⟨Q15, r16, hg, hE⟩ := hE
          refine kA_i (va_runV (As := [.int r14, .int a1]) (rest := [.int 15, .ref h]) F.1 (e_r_closedChoice l G Z h q ad J g hO CH f n hf hn hR Q13 r14 a1 Q15 r16 hg _) (cwV 2 hts (aw_V w_367 w_369 ws_X2_closedChoice w_7 w_370) rfl rfl rfl (by decide +kernel) ⟨by dsimp only; omega, by dsimp only; omega⟩) ⟨zS_blind, va_recv (q := (RX2, TX2, 10)) (ci := 2) (q0 := 0) hK.1 hP rfl qW_0, zS_pre hP hD hK hZ hS (kA_F hD hS hA)⟩ rfl rfl hl.1 rfl (lv_room (Nat.le_of_ble_eq_true rfl)) dX2_bracket_59 ⟨Nat.le_refl _, Nat.le_refl _⟩) hD hS hA (fun r9 u0 H locs hp hP hD hS => ?_)
          have hp := hp.symm; subst hp
          obtain ⟨Q17, r18, hg, hE⟩ := hE
          refine kA_i (va_runV (As := [.int 15, .int r16]) (rest := []) F.1 (e_r_withBody l G h q ad J g hO Q15 15 r16 Q17 r18 hg _) (cwV 2 hts (aw_V w_379 w_381 ws_X2_withBody w_7 w_382) rfl rfl rfl (by decide +kernel) ⟨by dsimp only; omega, by dsimp only; omega⟩) ⟨cS_blind, va_recv (q := (RX2, TX2, 10)) (ci := 2) (q0 := 0) hK.1 hP rfl qW_0, cS_pre hP hD hK⟩ rfl rfl hl.1 rfl (lv_room (Nat.le_of_ble_eq_true rfl)) dX2_bracket_62 ⟨Nat.le_refl _, Nat.le_refl _⟩) hD hS hA (fun r9 u0 H locs hp hP hD hS => ?_)
          have hp := hp.symm; subst hp
          obtain ⟨rfl, hr9⟩ := hE
          exact en_i F hS _ () (by rfl) hr9.symm hP hD (Nat.le_refl _) (Nat.le_refl _) dX2_bracket_65
      ·
        rw [if_neg h7] at hE
        refine lv_aload_n hx hb dX2_bracket_34 rfl (lv_at hl 0 rfl) ?_
        refine lv_iload_n hx hb dX2_bracket_35 rfl (lv_at hl 1 rfl) ?_
        obtain ⟨Q19, r20, hg, hE⟩ := hE
        refine kA_i (va_runV (As := [.int a1]) (rest := []) F.1 (e_r_together l G Z h q ad J g hO CH f n hf hn hR Q5 a1 Q19 r20 hg _) (cwV 1 hts (aw_V w_375 w_377 ws_X2_together w_7 w_378) rfl rfl rfl (by decide +kernel) ⟨by dsimp only; omega, by dsimp only; omega⟩) ⟨zS_blind, va_recv (q := (RX2, TX2, 10)) (ci := 2) (q0 := 0) hK.1 hP rfl qW_0, zS_pre hP hD hK hZ hS (kA_F hD hS hA)⟩ rfl rfl hl.1 rfl (lv_room (Nat.le_of_ble_eq_true rfl)) dX2_bracket_36 ⟨Nat.le_refl _, Nat.le_refl _⟩) hD hS hA (fun r9 u0 H locs hp hP hD hS => ?_)
        have hp := hp.symm; subst hp
        obtain ⟨rfl, hr9⟩ := hE
        exact en_i F hS _ () (by rfl) hr9.symm hP hD (Nat.le_refl _) (Nat.le_refl _) dX2_bracket_39
    ·
      rw [if_pos h4] at hE
      refine lv_aload_n hx hb dX2_bracket_19 rfl (lv_at hl 0 rfl) ?_
      refine lv_iload_n hx hb dX2_bracket_20 rfl (lv_at hl 1 rfl) ?_
      obtain ⟨Q21, r22, hg, hE⟩ := hE
      refine kA_i (va_runV (As := [.int a1]) (rest := []) F.1 (e_r_group l G Z h q ad J g hO CH f n hf hn hR Q2 a1 Q21 r22 hg _) (cwV 1 hts (aw_V w_363 w_365 ws_X2_group w_7 w_366) rfl rfl rfl (by decide +kernel) ⟨by dsimp only; omega, by dsimp only; omega⟩) ⟨zS_blind, va_recv (q := (RX2, TX2, 10)) (ci := 2) (q0 := 0) hK.1 hP rfl qW_0, zS_pre hP hD hK hZ hS (kA_F hD hS hA)⟩ rfl rfl hl.1 rfl (lv_room (Nat.le_of_ble_eq_true rfl)) dX2_bracket_21 ⟨Nat.le_refl _, Nat.le_refl _⟩) hD hS hA (fun r9 u0 H locs hp hP hD hS => ?_)
      have hp := hp.symm; subst hp
      obtain ⟨rfl, hr9⟩ := hE
      exact en_i F hS _ () (by rfl) hr9.symm hP hD (Nat.le_refl _) (Nat.le_refl _) dX2_bracket_24
  ·
    rw [if_neg h1] at hE
    refine lv_aload_n hx hb dX2_bracket_5 rfl (lv_at hl 0 rfl) ?_
    obtain ⟨Q23, r24, hg, hE⟩ := hE
    refine kA_i (va_runV (As := []) (rest := []) F.1 (e_r_refuse l G h q ad J g hO Q Q23 r24 hg _) (cwV 0 hts (aw_V w_355 w_357 ws_X2_refuse w_7 w_358) rfl rfl rfl (by decide +kernel) ⟨by dsimp only; omega, by dsimp only; omega⟩) ⟨cS_blind, va_recv (q := (RX2, TX2, 10)) (ci := 2) (q0 := 0) hK.1 hP rfl qW_0, cS_pre hP hD hK⟩ rfl rfl hl.1 rfl (lv_room (Nat.le_of_ble_eq_true rfl)) dX2_bracket_6 ⟨Nat.le_refl _, Nat.le_refl _⟩) hD hS hA (fun r9 u0 H locs hp hP hD hS => ?_)
    have hp := hp.symm; subst hp
    obtain ⟨rfl, hr9⟩ := hE
    exact en_i F hS _ () (by rfl) hr9.symm hP hD (Nat.le_refl _) (Nat.le_refl _) dX2_bracket_9

theorem dX2_atom_0 : decode cX2_atom 0 = .ok (.aload_n 0, 1) := by decide +kernel
theorem dX2_atom_1 : decode cX2_atom 1 = .ok (.getfield 9, 3) := by decide +kernel
theorem dX2_atom_4 : decode cX2_atom 4 = .ok (.aload_n 0, 1) := by decide +kernel
theorem dX2_atom_5 : decode cX2_atom 5 = .ok (.getfield 40, 3) := by decide +kernel
theorem dX2_atom_8 : decode cX2_atom 8 = .ok (.invokevirtual 52, 3) := by decide +kernel
theorem dX2_atom_11 : decode cX2_atom 11 = .ok (.istore_n 2, 1) := by decide +kernel
theorem dX2_atom_12 : decode cX2_atom 12 = .ok (.aload_n 0, 1) := by decide +kernel
theorem dX2_atom_13 : decode cX2_atom 13 = .ok (.dup, 1) := by decide +kernel
theorem dX2_atom_14 : decode cX2_atom 14 = .ok (.getfield 40, 3) := by decide +kernel
theorem dX2_atom_17 : decode cX2_atom 17 = .ok (.iconst 1, 1) := by decide +kernel
theorem dX2_atom_18 : decode cX2_atom 18 = .ok (.iadd, 1) := by decide +kernel
theorem dX2_atom_19 : decode cX2_atom 19 = .ok (.putfield 40, 3) := by decide +kernel
theorem dX2_atom_22 : decode cX2_atom 22 = .ok (.iload_n 2, 1) := by decide +kernel
theorem dX2_atom_23 : decode cX2_atom 23 = .ok (.lookupswitch 98 #[(36, 92), (40, 57), (46, 75), (91, 65), (92, 70), (94, 86)], 57) := by decide +kernel
theorem dX2_atom_80 : decode cX2_atom 80 = .ok (.aload_n 0, 1) := by decide +kernel
theorem dX2_atom_81 : decode cX2_atom 81 = .ok (.iload_n 1, 1) := by decide +kernel
theorem dX2_atom_82 : decode cX2_atom 82 = .ok (.iconst 1, 1) := by decide +kernel
theorem dX2_atom_83 : decode cX2_atom 83 = .ok (.iadd, 1) := by decide +kernel
theorem dX2_atom_84 : decode cX2_atom 84 = .ok (.invokevirtual 117, 3) := by decide +kernel
theorem dX2_atom_87 : decode cX2_atom 87 = .ok (.ireturn, 1) := by decide +kernel
theorem dX2_atom_88 : decode cX2_atom 88 = .ok (.aload_n 0, 1) := by decide +kernel
theorem dX2_atom_89 : decode cX2_atom 89 = .ok (.invokevirtual 120, 3) := by decide +kernel
theorem dX2_atom_92 : decode cX2_atom 92 = .ok (.ireturn, 1) := by decide +kernel
theorem dX2_atom_93 : decode cX2_atom 93 = .ok (.aload_n 0, 1) := by decide +kernel
theorem dX2_atom_94 : decode cX2_atom 94 = .ok (.invokevirtual 123, 3) := by decide +kernel
theorem dX2_atom_97 : decode cX2_atom 97 = .ok (.ireturn, 1) := by decide +kernel
theorem dX2_atom_98 : decode cX2_atom 98 = .ok (.aload_n 0, 1) := by decide +kernel
theorem dX2_atom_99 : decode cX2_atom 99 = .ok (.ldc2_w 126, 3) := by decide +kernel
theorem dX2_atom_102 : decode cX2_atom 102 = .ok (.ldc2_w 126, 3) := by decide +kernel
theorem dX2_atom_105 : decode cX2_atom 105 = .ok (.invokevirtual 128, 3) := by decide +kernel
theorem dX2_atom_108 : decode cX2_atom 108 = .ok (.ireturn, 1) := by decide +kernel
theorem dX2_atom_109 : decode cX2_atom 109 = .ok (.aload_n 0, 1) := by decide +kernel
theorem dX2_atom_110 : decode cX2_atom 110 = .ok (.iconst 3, 1) := by decide +kernel
theorem dX2_atom_111 : decode cX2_atom 111 = .ok (.invokevirtual 132, 3) := by decide +kernel
theorem dX2_atom_114 : decode cX2_atom 114 = .ok (.ireturn, 1) := by decide +kernel
theorem dX2_atom_115 : decode cX2_atom 115 = .ok (.aload_n 0, 1) := by decide +kernel
theorem dX2_atom_116 : decode cX2_atom 116 = .ok (.iconst 4, 1) := by decide +kernel
theorem dX2_atom_117 : decode cX2_atom 117 = .ok (.invokevirtual 132, 3) := by decide +kernel
theorem dX2_atom_120 : decode cX2_atom 120 = .ok (.ireturn, 1) := by decide +kernel
theorem dX2_atom_121 : decode cX2_atom 121 = .ok (.ldc 135, 2) := by decide +kernel
theorem dX2_atom_123 : decode cX2_atom 123 = .ok (.iload_n 2, 1) := by decide +kernel
theorem dX2_atom_124 : decode cX2_atom 124 = .ok (.invokevirtual 137, 3) := by decide +kernel
theorem dX2_atom_127 : decode cX2_atom 127 = .ok (.ifCond .lt 10, 3) := by decide +kernel
theorem dX2_atom_130 : decode cX2_atom 130 = .ok (.aload_n 0, 1) := by decide +kernel
theorem dX2_atom_131 : decode cX2_atom 131 = .ok (.invokevirtual 142, 3) := by decide +kernel
theorem dX2_atom_134 : decode cX2_atom 134 = .ok (.goto 8, 3) := by decide +kernel
theorem dX2_atom_137 : decode cX2_atom 137 = .ok (.aload_n 0, 1) := by decide +kernel
theorem dX2_atom_138 : decode cX2_atom 138 = .ok (.iload_n 2, 1) := by decide +kernel
theorem dX2_atom_139 : decode cX2_atom 139 = .ok (.invokevirtual 145, 3) := by decide +kernel
theorem dX2_atom_142 : decode cX2_atom 142 = .ok (.ireturn, 1) := by decide +kernel
def E_r_atom (J : Nat) (g : Nat → Int32) (CH : CT) (Q : QS) (a1 : Int32) (Q' : QS) (r : Int32) : Prop := if (rw_at J g (Q.1 2)) = 36 then (∃ (Q2 : QS) (r3 : Int32), E_r_single J g (rf Q 2 ((Q.1 2) + 1)) 4 Q2 r3 ∧ (Q' = Q2 ∧ r = r3)) else (if (rw_at J g (Q.1 2)) = 40 then (∃ (Q5 : QS) (r6 : Int32), E_r_bracket J g CH (rf Q 2 ((Q.1 2) + 1)) (a1 + 1) Q5 r6 ∧ (Q' = Q5 ∧ r = r6)) else (if (rw_at J g (Q.1 2)) = 46 then (∃ (Q8 : QS) (r9 : Int32), E_r_set J g (rf Q 2 ((Q.1 2) + 1)) (-1) (-1) Q8 r9 ∧ (Q' = Q8 ∧ r = r9)) else (if (rw_at J g (Q.1 2)) = 91 then (∃ (Q11 : QS) (r12 : Int32), E_r_items J g (rf Q 2 ((Q.1 2) + 1)) Q11 r12 ∧ (Q' = Q11 ∧ r = r12)) else (if (rw_at J g (Q.1 2)) = 92 then (∃ (Q14 : QS) (r15 : Int32), E_r_escaped J g (rf Q 2 ((Q.1 2) + 1)) Q14 r15 ∧ (Q' = Q14 ∧ r = r15)) else (if (rw_at J g (Q.1 2)) = 94 then (∃ (Q17 : QS) (r18 : Int32), E_r_single J g (rf Q 2 ((Q.1 2) + 1)) 3 Q17 r18 ∧ (Q' = Q17 ∧ r = r18)) else (if (zix 0 (rw_at J g (Q.1 2))) < 0 then (∃ (Q20 : QS) (r21 : Int32), E_r_character J g (rf Q 2 ((Q.1 2) + 1)) (rw_at J g (Q.1 2)) Q20 r21 ∧ (Q' = Q20 ∧ r = r21)) else (∃ (Q22 : QS) (r23 : Int32), E_r_refuse J g (rf Q 2 ((Q.1 2) + 1)) Q22 r23 ∧ (Q' = Q22 ∧ r = r23))))))))
set_option maxHeartbeats 4000000 in
set_option maxRecDepth 100000 in
theorem e_r_atom (l : Launch) (G : PG) (Z : ZZ) (h : Nat) (q ad : Nat → Nat) (J : Nat) (g : Nat → Int32) (hO : gOK J g) (CH : CT) (f n : Nat) (hf : 8 ≤ f) (hn : 300 ≤ n) (hR : CC l G Z h q ad J g f n CH) (Q : QS) (a1 : Int32) (Q' : QS) (r : Int32) (hE : E_r_atom J g CH Q a1 Q' r) : CiZ l yX2_atom (Cond.code yX2_atom cX2_atom 3 (some .int) :: aW) { frames := f + 4, cells := 0, slots := 0, locals := n + 96 } Z G (qW G h q ad J g Q) [.ref h, .int a1] (fun (r9 : Int32) (_ : Unit) => r9 = r) (fun (_ : Unit) => qW G h q ad J g Q') 0 0 := by
  refine ofBZ (y := yX2_atom) (G := G) (cc := cX2_atom) (maxL := 3) (ret := (some .int)) (Qc := fun A => va_Qi (fun (r9 : Int32) (_ : Unit) => r9 = r) (oB G A (fun (_ : Unit) => qW G h q ad J g Q')) A) (by decide) rfl ?_
  intro p e s m below meth c A F hK hZ hA hP hD
  have hS : va_S A s.heap s.heap [] := va_S.rf
  have hx := F.1.1; have hb := F.1.2.1; have hml := F.1.2.2.1; have hts := F.1.2.2.2.2
  have hown : s.vm.findClass RX2 = some m.cls := F.1.2.2.2.1
  have hl := lv_entry ([.ref h, .int a1]) (n := 3) (Nat.le_of_ble_eq_true rfl)
  rw [lg_entry_eq]
  generalize (lg_sl ([.ref h, .int a1]) ++ List.replicate (3 - (lg_sl ([.ref h, .int a1])).length) Slot.unset).toArray = ls at hl ⊢
  have hl : lv_has ls 3 [(0, .ref h), (1, .int a1)] := hl
  unfold E_r_atom at hE
  refine lv_aload_n hx hb dX2_atom_0 rfl (lv_at hl 0 rfl) ?_
  refine va_get (D := G.1) (ci := 2) (C := RX2) (T := TX2) (N := 10) hx hb hts inX2 hown hK.1 hP 0 qW_0 rfl 0 (by decide) (hts _ w_275) (fun _ h9 => h9) rF_0 dX2_atom_1 ?_
  refine lv_aload_n hx hb dX2_atom_4 rfl (lv_at hl 0 rfl) ?_
  refine va_get (D := G.1) (ci := 2) (C := RX2) (T := TX2) (N := 10) hx hb hts inX2 hown hK.1 hP 0 qW_0 rfl 2 (by decide) (hts _ w_277) (fun _ h9 => h9) rF_2 dX2_atom_5 ?_
  refine kp_V (va_runV (As := [.int (Q.1 2)]) (rest := []) F.1 (v_row_at l G _ _ _ J g (Q.1 2) hO.1 (by decide) hO.2 _) (cwV 1 hts (aw_V w_335 w_336 w_337 w_3 w_338) rfl rfl rfl (by decide +kernel) ⟨by dsimp only; omega, by dsimp only; omega⟩) ⟨cS_blind, va_recv (q := (RX3, TX3, 2)) (ci := 3) (q0 := 0) hK.1 (qP_row hP) rfl rfl, cS_pre (qP_row hP) (qD_row hD) hK⟩ rfl rfl hl.1 rfl (lv_room (Nat.le_of_ble_eq_true rfl)) dX2_atom_8 ⟨Nat.le_refl _, Nat.le_refl _⟩) (fun v9 hp => ?_)
  subst hp
  refine lv_istore_n hx hb dX2_atom_11 rfl hl (by decide) rfl (fun ls hl => ?_)
  have hl : lv_has ls 3 [(2, .int (rw_at J g (Q.1 2))), (0, .ref h), (1, .int a1)] := hl
  refine lv_aload_n hx hb dX2_atom_12 rfl (lv_at hl 1 rfl) ?_
  refine lv_dup hx hb dX2_atom_13 rfl ?_
  refine va_get (D := G.1) (ci := 2) (C := RX2) (T := TX2) (N := 10) hx hb hts inX2 hown hK.1 hP 0 qW_0 rfl 2 (by decide) (hts _ w_277) (fun _ h9 => h9) rF_2 dX2_atom_14 ?_
  refine lv_iconst (v := 1) hx hb dX2_atom_17 (by decide) ?_
  refine lv_iadd hx hb dX2_atom_18 ?_
  refine va_put (D := G.1) (ci := 2) (v := .int ((Q.1 2) + 1)) (ty := .int) (C := RX2) (T := TX2) (N := 10) hx hb hts inX2 tyX2 tyX2_ok nmX2 hown hK.1 hP hD hS 0 qW_0 rfl 2 (by decide) (hts _ w_277) (fun _ h9 => h9) rfl (by decide +kernel) rfl rfl rF_l2 dX2_atom_19 (fun H locs hP hD hS => ?_)
  rw [qW_f2] at hP hD
  refine lv_iload_n hx hb dX2_atom_22 rfl (lv_at hl 0 rfl) ?_
  by_cases h1 : (rw_at J g (Q.1 2)) = 36
  ·
    rw [if_pos h1] at hE
    refine tp_i 36 h1 ?_
    refine lv_lookup (tgt := 115) hx hb dX2_atom_23 (by decide) rfl (by decide) ?_
    refine lv_aload_n hx hb dX2_atom_115 rfl (lv_at hl 1 rfl) ?_
    refine lv_iconst (v := 4) hx hb dX2_atom_116 (by decide) ?_
    obtain ⟨Q2, r3, hg, hE⟩ := hE
    refine kA_i (va_runV (As := [.int 4]) (rest := []) F.1 (e_r_single l G h q ad J g hO (rf Q 2 ((Q.1 2) + 1)) 4 Q2 r3 hg _) (cwV 1 hts (aw_V w_383 w_385 ws_X2_single w_7 w_386) rfl rfl rfl (by decide +kernel) ⟨by dsimp only; omega, by dsimp only; omega⟩) ⟨cS_blind, va_recv (q := (RX2, TX2, 10)) (ci := 2) (q0 := 0) hK.1 hP rfl qW_0, cS_pre hP hD hK⟩ rfl rfl hl.1 rfl (lv_room (Nat.le_of_ble_eq_true rfl)) dX2_atom_117 ⟨Nat.le_refl _, Nat.le_refl _⟩) hD hS hA (fun r9 u0 H locs hp hP hD hS => ?_)
    have hp := hp.symm; subst hp
    obtain ⟨rfl, hr9⟩ := hE
    exact en_i F hS _ () (by rfl) hr9.symm hP hD (Nat.le_refl _) (Nat.le_refl _) dX2_atom_120
  rw [if_neg h1] at hE
  by_cases h4 : (rw_at J g (Q.1 2)) = 40
  ·
    rw [if_pos h4] at hE
    refine tp_i 40 h4 ?_
    refine lv_lookup (tgt := 80) hx hb dX2_atom_23 (by decide) rfl (by decide) ?_
    refine lv_aload_n hx hb dX2_atom_80 rfl (lv_at hl 1 rfl) ?_
    refine lv_iload_n hx hb dX2_atom_81 rfl (lv_at hl 2 rfl) ?_
    refine lv_iconst (v := 1) hx hb dX2_atom_82 (by decide) ?_
    refine lv_iadd hx hb dX2_atom_83 ?_
    obtain ⟨Q5, r6, hg, hE⟩ := hE
    refine kA_i (va_runV (As := [.int (a1 + 1)]) (rest := []) F.1 (e_r_bracket l G Z h q ad J g hO CH f n hf hn hR (rf Q 2 ((Q.1 2) + 1)) (a1 + 1) Q5 r6 hg _) (cwV 1 hts (aw_V w_351 w_353 ws_X2_bracket w_7 w_354) rfl rfl rfl (by decide +kernel) ⟨by dsimp only; omega, by dsimp only; omega⟩) ⟨zS_blind, va_recv (q := (RX2, TX2, 10)) (ci := 2) (q0 := 0) hK.1 hP rfl qW_0, zS_pre hP hD hK hZ hS (kA_F hD hS hA)⟩ rfl rfl hl.1 rfl (lv_room (Nat.le_of_ble_eq_true rfl)) dX2_atom_84 ⟨Nat.le_refl _, Nat.le_refl _⟩) hD hS hA (fun r9 u0 H locs hp hP hD hS => ?_)
    have hp := hp.symm; subst hp
    obtain ⟨rfl, hr9⟩ := hE
    exact en_i F hS _ () (by rfl) hr9.symm hP hD (Nat.le_refl _) (Nat.le_refl _) dX2_atom_87
  rw [if_neg h4] at hE
  by_cases h7 : (rw_at J g (Q.1 2)) = 46
  ·
    rw [if_pos h7] at hE
    refine tp_i 46 h7 ?_
    refine lv_lookup (tgt := 98) hx hb dX2_atom_23 (by decide) rfl (by decide) ?_
    refine lv_aload_n hx hb dX2_atom_98 rfl (lv_at hl 1 rfl) ?_
    refine lv_ldc2 (v := (-1)) hx hb hown (hts _ w_499) dX2_atom_99 ?_
    refine lv_ldc2 (v := (-1)) hx hb hown (hts _ w_499) dX2_atom_102 ?_
    obtain ⟨Q8, r9, hg, hE⟩ := hE
    refine kA_i (va_runV (As := [.long (-1), .long (-1)]) (rest := []) F.1 (e_r_set l G h q ad J g hO (rf Q 2 ((Q.1 2) + 1)) (-1) (-1) Q8 r9 hg _) (cwV 2 hts (aw_V w_500 w_502 ws_X2_set w_7 w_503) rfl rfl rfl (by decide +kernel) ⟨by dsimp only; omega, by dsimp only; omega⟩) ⟨cS_blind, va_recv (q := (RX2, TX2, 10)) (ci := 2) (q0 := 0) hK.1 hP rfl qW_0, cS_pre hP hD hK⟩ rfl rfl hl.1 rfl (lv_room (Nat.le_of_ble_eq_true rfl)) dX2_atom_105 ⟨Nat.le_refl _, Nat.le_refl _⟩) hD hS hA (fun r9 u0 H locs hp hP hD hS => ?_)
    have hp := hp.symm; subst hp
    obtain ⟨rfl, hr9⟩ := hE
    exact en_i F hS _ () (by rfl) hr9.symm hP hD (Nat.le_refl _) (Nat.le_refl _) dX2_atom_108
  rw [if_neg h7] at hE
  by_cases h10 : (rw_at J g (Q.1 2)) = 91
  ·
    rw [if_pos h10] at hE
    refine tp_i 91 h10 ?_
    refine lv_lookup (tgt := 88) hx hb dX2_atom_23 (by decide) rfl (by decide) ?_
    refine lv_aload_n hx hb dX2_atom_88 rfl (lv_at hl 1 rfl) ?_
    obtain ⟨Q11, r12, hg, hE⟩ := hE
    refine kA_i (va_runV (As := []) (rest := []) F.1 (e_r_items l G Z h q ad J g hO (rf Q 2 ((Q.1 2) + 1)) Q11 r12 hg _) (cwV 0 hts (aw_V w_391 w_393 ws_X2_items w_7 w_394) rfl rfl rfl (by decide +kernel) ⟨by dsimp only; omega, by dsimp only; omega⟩) ⟨zS_blind, va_recv (q := (RX2, TX2, 10)) (ci := 2) (q0 := 0) hK.1 hP rfl qW_0, zS_pre hP hD hK hZ hS (kA_F hD hS hA)⟩ rfl rfl hl.1 rfl (lv_room (Nat.le_of_ble_eq_true rfl)) dX2_atom_89 ⟨Nat.le_refl _, Nat.le_refl _⟩) hD hS hA (fun r9 u0 H locs hp hP hD hS => ?_)
    have hp := hp.symm; subst hp
    obtain ⟨rfl, hr9⟩ := hE
    exact en_i F hS _ () (by rfl) hr9.symm hP hD (Nat.le_refl _) (Nat.le_refl _) dX2_atom_92
  rw [if_neg h10] at hE
  by_cases h13 : (rw_at J g (Q.1 2)) = 92
  ·
    rw [if_pos h13] at hE
    refine tp_i 92 h13 ?_
    refine lv_lookup (tgt := 93) hx hb dX2_atom_23 (by decide) rfl (by decide) ?_
    refine lv_aload_n hx hb dX2_atom_93 rfl (lv_at hl 1 rfl) ?_
    obtain ⟨Q14, r15, hg, hE⟩ := hE
    refine kA_i (va_runV (As := []) (rest := []) F.1 (e_r_escaped l G Z h q ad J g hO (rf Q 2 ((Q.1 2) + 1)) Q14 r15 hg _) (cwV 0 hts (aw_V w_504 w_506 ws_X2_escaped w_7 w_507) rfl rfl rfl (by decide +kernel) ⟨by dsimp only; omega, by dsimp only; omega⟩) ⟨zS_blind, va_recv (q := (RX2, TX2, 10)) (ci := 2) (q0 := 0) hK.1 hP rfl qW_0, zS_pre hP hD hK hZ hS (kA_F hD hS hA)⟩ rfl rfl hl.1 rfl (lv_room (Nat.le_of_ble_eq_true rfl)) dX2_atom_94 ⟨Nat.le_refl _, Nat.le_refl _⟩) hD hS hA (fun r9 u0 H locs hp hP hD hS => ?_)
    have hp := hp.symm; subst hp
    obtain ⟨rfl, hr9⟩ := hE
    exact en_i F hS _ () (by rfl) hr9.symm hP hD (Nat.le_refl _) (Nat.le_refl _) dX2_atom_97
  rw [if_neg h13] at hE
  by_cases h16 : (rw_at J g (Q.1 2)) = 94
  ·
    rw [if_pos h16] at hE
    refine tp_i 94 h16 ?_
    refine lv_lookup (tgt := 109) hx hb dX2_atom_23 (by decide) rfl (by decide) ?_
    refine lv_aload_n hx hb dX2_atom_109 rfl (lv_at hl 1 rfl) ?_
    refine lv_iconst (v := 3) hx hb dX2_atom_110 (by decide) ?_
    obtain ⟨Q17, r18, hg, hE⟩ := hE
    refine kA_i (va_runV (As := [.int 3]) (rest := []) F.1 (e_r_single l G h q ad J g hO (rf Q 2 ((Q.1 2) + 1)) 3 Q17 r18 hg _) (cwV 1 hts (aw_V w_383 w_385 ws_X2_single w_7 w_386) rfl rfl rfl (by decide +kernel) ⟨by dsimp only; omega, by dsimp only; omega⟩) ⟨cS_blind, va_recv (q := (RX2, TX2, 10)) (ci := 2) (q0 := 0) hK.1 hP rfl qW_0, cS_pre hP hD hK⟩ rfl rfl hl.1 rfl (lv_room (Nat.le_of_ble_eq_true rfl)) dX2_atom_111 ⟨Nat.le_refl _, Nat.le_refl _⟩) hD hS hA (fun r9 u0 H locs hp hP hD hS => ?_)
    have hp := hp.symm; subst hp
    obtain ⟨rfl, hr9⟩ := hE
    exact en_i F hS _ () (by rfl) hr9.symm hP hD (Nat.le_refl _) (Nat.le_refl _) dX2_atom_114
  rw [if_neg h16] at hE
  refine lv_lookup (tgt := 121) (off := 98) hx hb dX2_atom_23 (by decide) (by simp only [Op.lookupswitch.offset_cons, Op.lookupswitch.offset_nil, if_neg (lk_n (k := 36) (z := 36) rfl h1), if_neg (lk_n (k := 40) (z := 40) rfl h4), if_neg (lk_n (k := 46) (z := 46) rfl h7), if_neg (lk_n (k := 91) (z := 91) rfl h10), if_neg (lk_n (k := 92) (z := 92) rfl h13), if_neg (lk_n (k := 94) (z := 94) rfl h16)]) (by decide) ?_
  refine va_ldcS hx hb hown hZ.2.2.1 dX2_atom_121 ?_
  refine lv_iload_n hx hb dX2_atom_123 rfl (lv_at hl 0 rfl) ?_
  refine kp_V (va_runV (As := [.int (rw_at J g (Q.1 2))]) (rest := []) F.1 (e_ix l G Z 0 (by decide) (rw_at J g (Q.1 2)) _) (cwV 1 hts (aw_V w_406 w_407 w_408 w_8 w_409) rfl rfl rfl (by decide +kernel) ⟨by dsimp only; omega, by dsimp only; omega⟩) ⟨zS_blind, vk_recv (i := 0) hZ.1 (by decide) hS, zS_pre va_P0 (va_D0 (A := A)) hK hZ hS (kA_F va_D0 hS hA)⟩ rfl rfl hl.1 rfl (lv_room (Nat.le_of_ble_eq_true rfl)) dX2_atom_124 ⟨Nat.le_refl _, Nat.le_refl _⟩) (fun v9 hp => ?_)
  subst hp
  refine lv_if_lt (tgt := 137) hx hb dX2_atom_127 (by decide) (fun h19 => ?_) (fun h19 => ?_)
  ·
    rw [if_pos h19] at hE
    refine lv_aload_n hx hb dX2_atom_137 rfl (lv_at hl 1 rfl) ?_
    refine lv_iload_n hx hb dX2_atom_138 rfl (lv_at hl 0 rfl) ?_
    obtain ⟨Q20, r21, hg, hE⟩ := hE
    refine kA_i (va_runV (As := [.int (rw_at J g (Q.1 2))]) (rest := []) F.1 (e_r_character l G h q ad J g hO (rf Q 2 ((Q.1 2) + 1)) (rw_at J g (Q.1 2)) Q20 r21 hg _) (cwV 1 hts (aw_V w_514 w_516 ws_X2_character w_7 w_517) rfl rfl rfl (by decide +kernel) ⟨by dsimp only; omega, by dsimp only; omega⟩) ⟨cS_blind, va_recv (q := (RX2, TX2, 10)) (ci := 2) (q0 := 0) hK.1 hP rfl qW_0, cS_pre hP hD hK⟩ rfl rfl hl.1 rfl (lv_room (Nat.le_of_ble_eq_true rfl)) dX2_atom_139 ⟨Nat.le_refl _, Nat.le_refl _⟩) hD hS hA (fun r9 u0 H locs hp hP hD hS => ?_)
    have hp := hp.symm; subst hp
    obtain ⟨rfl, hr9⟩ := hE
    exact en_i F hS _ () (by rfl) hr9.symm hP hD (Nat.le_refl _) (Nat.le_refl _) dX2_atom_142
  ·
    rw [if_neg h19] at hE
    refine lv_aload_n hx hb dX2_atom_130 rfl (lv_at hl 1 rfl) ?_
    obtain ⟨Q22, r23, hg, hE⟩ := hE
    refine kA_i (va_runV (As := []) (rest := []) F.1 (e_r_refuse l G h q ad J g hO (rf Q 2 ((Q.1 2) + 1)) Q22 r23 hg _) (cwV 0 hts (aw_V w_355 w_357 ws_X2_refuse w_7 w_358) rfl rfl rfl (by decide +kernel) ⟨by dsimp only; omega, by dsimp only; omega⟩) ⟨cS_blind, va_recv (q := (RX2, TX2, 10)) (ci := 2) (q0 := 0) hK.1 hP rfl qW_0, cS_pre hP hD hK⟩ rfl rfl hl.1 rfl (lv_room (Nat.le_of_ble_eq_true rfl)) dX2_atom_131 ⟨Nat.le_refl _, Nat.le_refl _⟩) hD hS hA (fun r9 u0 H locs hp hP hD hS => ?_)
    have hp := hp.symm; subst hp
    refine lv_goto (tgt := 142) hx hb dX2_atom_134 (by decide) ?_
    obtain ⟨rfl, hr9⟩ := hE
    exact en_i F hS _ () (by rfl) hr9.symm hP hD (Nat.le_refl _) (Nat.le_refl _) dX2_atom_142

theorem dX2_onePiece_0 : decode cX2_onePiece 0 = .ok (.aload_n 0, 1) := by decide +kernel
theorem dX2_onePiece_1 : decode cX2_onePiece 1 = .ok (.iload_n 1, 1) := by decide +kernel
theorem dX2_onePiece_2 : decode cX2_onePiece 2 = .ok (.invokevirtual 77, 3) := by decide +kernel
theorem dX2_onePiece_5 : decode cX2_onePiece 5 = .ok (.istore_n 2, 1) := by decide +kernel
theorem dX2_onePiece_6 : decode cX2_onePiece 6 = .ok (.aload_n 0, 1) := by decide +kernel
theorem dX2_onePiece_7 : decode cX2_onePiece 7 = .ok (.getfield 36, 3) := by decide +kernel
theorem dX2_onePiece_10 : decode cX2_onePiece 10 = .ok (.ifCond .ne 10, 3) := by decide +kernel
theorem dX2_onePiece_13 : decode cX2_onePiece 13 = .ok (.aload_n 0, 1) := by decide +kernel
theorem dX2_onePiece_14 : decode cX2_onePiece 14 = .ok (.invokevirtual 80, 3) := by decide +kernel
theorem dX2_onePiece_17 : decode cX2_onePiece 17 = .ok (.ifCond .ne 5, 3) := by decide +kernel
theorem dX2_onePiece_20 : decode cX2_onePiece 20 = .ok (.iload_n 2, 1) := by decide +kernel
theorem dX2_onePiece_21 : decode cX2_onePiece 21 = .ok (.ireturn, 1) := by decide +kernel
theorem dX2_onePiece_22 : decode cX2_onePiece 22 = .ok (.aload_n 0, 1) := by decide +kernel
theorem dX2_onePiece_23 : decode cX2_onePiece 23 = .ok (.bipush 13, 2) := by decide +kernel
theorem dX2_onePiece_25 : decode cX2_onePiece 25 = .ok (.invokevirtual 24, 3) := by decide +kernel
theorem dX2_onePiece_28 : decode cX2_onePiece 28 = .ok (.istore_n 3, 1) := by decide +kernel
theorem dX2_onePiece_29 : decode cX2_onePiece 29 = .ok (.aload_n 0, 1) := by decide +kernel
theorem dX2_onePiece_30 : decode cX2_onePiece 30 = .ok (.getfield 15, 3) := by decide +kernel
theorem dX2_onePiece_33 : decode cX2_onePiece 33 = .ok (.iload_n 3, 1) := by decide +kernel
theorem dX2_onePiece_34 : decode cX2_onePiece 34 = .ok (.invokevirtual 55, 3) := by decide +kernel
theorem dX2_onePiece_37 : decode cX2_onePiece 37 = .ok (.astore 4, 2) := by decide +kernel
theorem dX2_onePiece_39 : decode cX2_onePiece 39 = .ok (.aload 4, 2) := by decide +kernel
theorem dX2_onePiece_41 : decode cX2_onePiece 41 = .ok (.iload_n 2, 1) := by decide +kernel
theorem dX2_onePiece_42 : decode cX2_onePiece 42 = .ok (.putfield 59, 3) := by decide +kernel
theorem dX2_onePiece_45 : decode cX2_onePiece 45 = .ok (.aload 4, 2) := by decide +kernel
theorem dX2_onePiece_47 : decode cX2_onePiece 47 = .ok (.iload_n 1, 1) := by decide +kernel
theorem dX2_onePiece_48 : decode cX2_onePiece 48 = .ok (.putfield 83, 3) := by decide +kernel
theorem dX2_onePiece_51 : decode cX2_onePiece 51 = .ok (.aload 4, 2) := by decide +kernel
theorem dX2_onePiece_53 : decode cX2_onePiece 53 = .ok (.aload_n 0, 1) := by decide +kernel
theorem dX2_onePiece_54 : decode cX2_onePiece 54 = .ok (.getfield 86, 3) := by decide +kernel
theorem dX2_onePiece_57 : decode cX2_onePiece 57 = .ok (.putfield 89, 3) := by decide +kernel
theorem dX2_onePiece_60 : decode cX2_onePiece 60 = .ok (.aload 4, 2) := by decide +kernel
theorem dX2_onePiece_62 : decode cX2_onePiece 62 = .ok (.aload_n 0, 1) := by decide +kernel
theorem dX2_onePiece_63 : decode cX2_onePiece 63 = .ok (.getfield 90, 3) := by decide +kernel
theorem dX2_onePiece_66 : decode cX2_onePiece 66 = .ok (.putfield 93, 3) := by decide +kernel
theorem dX2_onePiece_69 : decode cX2_onePiece 69 = .ok (.aload 4, 2) := by decide +kernel
theorem dX2_onePiece_71 : decode cX2_onePiece 71 = .ok (.aload_n 0, 1) := by decide +kernel
theorem dX2_onePiece_72 : decode cX2_onePiece 72 = .ok (.bipush 63, 2) := by decide +kernel
theorem dX2_onePiece_74 : decode cX2_onePiece 74 = .ok (.invokevirtual 94, 3) := by decide +kernel
theorem dX2_onePiece_77 : decode cX2_onePiece 77 = .ok (.putfield 98, 3) := by decide +kernel
theorem dX2_onePiece_80 : decode cX2_onePiece 80 = .ok (.aload_n 0, 1) := by decide +kernel
theorem dX2_onePiece_81 : decode cX2_onePiece 81 = .ok (.getfield 15, 3) := by decide +kernel
theorem dX2_onePiece_84 : decode cX2_onePiece 84 = .ok (.aload_n 0, 1) := by decide +kernel
theorem dX2_onePiece_85 : decode cX2_onePiece 85 = .ok (.getfield 74, 3) := by decide +kernel
theorem dX2_onePiece_88 : decode cX2_onePiece 88 = .ok (.invokevirtual 55, 3) := by decide +kernel
theorem dX2_onePiece_91 : decode cX2_onePiece 91 = .ok (.iload_n 3, 1) := by decide +kernel
theorem dX2_onePiece_92 : decode cX2_onePiece 92 = .ok (.putfield 71, 3) := by decide +kernel
theorem dX2_onePiece_95 : decode cX2_onePiece 95 = .ok (.aload_n 0, 1) := by decide +kernel
theorem dX2_onePiece_96 : decode cX2_onePiece 96 = .ok (.bipush 12, 2) := by decide +kernel
theorem dX2_onePiece_98 : decode cX2_onePiece 98 = .ok (.invokevirtual 24, 3) := by decide +kernel
theorem dX2_onePiece_101 : decode cX2_onePiece 101 = .ok (.istore 5, 2) := by decide +kernel
theorem dX2_onePiece_103 : decode cX2_onePiece 103 = .ok (.aload_n 0, 1) := by decide +kernel
theorem dX2_onePiece_104 : decode cX2_onePiece 104 = .ok (.getfield 15, 3) := by decide +kernel
theorem dX2_onePiece_107 : decode cX2_onePiece 107 = .ok (.iload 5, 2) := by decide +kernel
theorem dX2_onePiece_109 : decode cX2_onePiece 109 = .ok (.invokevirtual 55, 3) := by decide +kernel
theorem dX2_onePiece_112 : decode cX2_onePiece 112 = .ok (.iload_n 1, 1) := by decide +kernel
theorem dX2_onePiece_113 : decode cX2_onePiece 113 = .ok (.putfield 83, 3) := by decide +kernel
theorem dX2_onePiece_116 : decode cX2_onePiece 116 = .ok (.aload_n 0, 1) := by decide +kernel
theorem dX2_onePiece_117 : decode cX2_onePiece 117 = .ok (.getfield 15, 3) := by decide +kernel
theorem dX2_onePiece_120 : decode cX2_onePiece 120 = .ok (.iload 5, 2) := by decide +kernel
theorem dX2_onePiece_122 : decode cX2_onePiece 122 = .ok (.invokevirtual 55, 3) := by decide +kernel
theorem dX2_onePiece_125 : decode cX2_onePiece 125 = .ok (.iload_n 3, 1) := by decide +kernel
theorem dX2_onePiece_126 : decode cX2_onePiece 126 = .ok (.putfield 71, 3) := by decide +kernel
theorem dX2_onePiece_129 : decode cX2_onePiece 129 = .ok (.aload_n 0, 1) := by decide +kernel
theorem dX2_onePiece_130 : decode cX2_onePiece 130 = .ok (.iload_n 3, 1) := by decide +kernel
theorem dX2_onePiece_131 : decode cX2_onePiece 131 = .ok (.putfield 74, 3) := by decide +kernel
theorem dX2_onePiece_134 : decode cX2_onePiece 134 = .ok (.aload 4, 2) := by decide +kernel
theorem dX2_onePiece_136 : decode cX2_onePiece 136 = .ok (.getfield 98, 3) := by decide +kernel
theorem dX2_onePiece_139 : decode cX2_onePiece 139 = .ok (.ifCond .ne 31, 3) := by decide +kernel
theorem dX2_onePiece_142 : decode cX2_onePiece 142 = .ok (.aload_n 0, 1) := by decide +kernel
theorem dX2_onePiece_143 : decode cX2_onePiece 143 = .ok (.bipush 43, 2) := by decide +kernel
theorem dX2_onePiece_145 : decode cX2_onePiece 145 = .ok (.invokevirtual 94, 3) := by decide +kernel
theorem dX2_onePiece_148 : decode cX2_onePiece 148 = .ok (.ifCond .eq 22, 3) := by decide +kernel
theorem dX2_onePiece_151 : decode cX2_onePiece 151 = .ok (.aload 4, 2) := by decide +kernel
theorem dX2_onePiece_153 : decode cX2_onePiece 153 = .ok (.aload_n 0, 1) := by decide +kernel
theorem dX2_onePiece_154 : decode cX2_onePiece 154 = .ok (.iconst 1, 1) := by decide +kernel
theorem dX2_onePiece_155 : decode cX2_onePiece 155 = .ok (.invokevirtual 24, 3) := by decide +kernel
theorem dX2_onePiece_158 : decode cX2_onePiece 158 = .ok (.putfield 71, 3) := by decide +kernel
theorem dX2_onePiece_161 : decode cX2_onePiece 161 = .ok (.aload_n 0, 1) := by decide +kernel
theorem dX2_onePiece_162 : decode cX2_onePiece 162 = .ok (.bipush 15, 2) := by decide +kernel
theorem dX2_onePiece_164 : decode cX2_onePiece 164 = .ok (.iload 5, 2) := by decide +kernel
theorem dX2_onePiece_166 : decode cX2_onePiece 166 = .ok (.invokevirtual 101, 3) := by decide +kernel
theorem dX2_onePiece_169 : decode cX2_onePiece 169 = .ok (.ireturn, 1) := by decide +kernel
theorem dX2_onePiece_170 : decode cX2_onePiece 170 = .ok (.iload 5, 2) := by decide +kernel
theorem dX2_onePiece_172 : decode cX2_onePiece 172 = .ok (.ireturn, 1) := by decide +kernel
def E_r_onePiece (J : Nat) (g : Nat → Int32) (CH : CT) (Q : QS) (a1 : Int32) (Q' : QS) (r : Int32) : Prop := ∃ (Q1 : QS) (r2 : Int32), E_r_atom J g CH Q a1 Q1 r2 ∧ (if (Q1.1 3) = 0 then (∃ (Q4 : QS) (r5 : Int32), E_r_readLoop J g Q1 Q4 r5 ∧ (if r5 = 0 then (Q' = Q4 ∧ r = r2) else (∃ (Q7 : QS) (r8 : Int32), E_r_add J g Q4 13 Q7 r8 ∧ ((0 < Q7.2.2.1 ∧ Q7.2.2.1 ≤ 32) ∧ (∃ (Q10 : QS) (r11 : Int32), E_r_take J g (rn (rn (rn (rn Q7 (pn_ix Q7.2.2.1 r8) 3 r2) (pn_ix Q7.2.2.1 r8) 5 a1) (pn_ix Q7.2.2.1 r8) 6 (Q7.1 8)) (pn_ix Q7.2.2.1 r8) 7 (Q7.1 9)) 63 Q10 r11 ∧ (narrow .boolean (.int r11) = .int r11 ∧ fits .boolean (.int r11) = true ∧ ((0 < Q10.2.2.1 ∧ Q10.2.2.1 ≤ 32) ∧ (∃ (Q13 : QS) (r14 : Int32), E_r_add J g (rn (rn Q10 (pn_ix Q7.2.2.1 r8) 8 r11) (pn_ix Q10.2.2.1 (Q10.1 5)) 2 r8) 12 Q13 r14 ∧ ((0 < Q13.2.2.1 ∧ Q13.2.2.1 ≤ 32) ∧ ((0 < Q13.2.2.1 ∧ Q13.2.2.1 ≤ 32) ∧ (if ((rf (rn (rn Q13 (pn_ix Q13.2.2.1 r14) 5 a1) (pn_ix Q13.2.2.1 r14) 2 r8) 5 r8).2.2.2.1 (pn_ix Q7.2.2.1 r8) 8) = 0 then (∃ (Q18 : QS) (r19 : Int32), E_r_take J g (rf (rn (rn Q13 (pn_ix Q13.2.2.1 r14) 5 a1) (pn_ix Q13.2.2.1 r14) 2 r8) 5 r8) 43 Q18 r19 ∧ (if r19 = 0 then (Q' = Q18 ∧ r = r14) else (∃ (Q21 : QS) (r22 : Int32), E_r_add J g Q18 1 Q21 r22 ∧ (∃ (Q23 : QS) (r24 : Int32), E_r_withBody J g (rn Q21 (pn_ix Q7.2.2.1 r8) 2 r22) 15 r14 Q23 r24 ∧ (Q' = Q23 ∧ r = r24))))) else (Q' = (rf (rn (rn Q13 (pn_ix Q13.2.2.1 r14) 5 a1) (pn_ix Q13.2.2.1 r14) 2 r8) 5 r8) ∧ r = r14)))))))))))) else (Q' = Q1 ∧ r = r2))
set_option maxHeartbeats 4000000 in
set_option maxRecDepth 100000 in
theorem e_r_onePiece (l : Launch) (G : PG) (Z : ZZ) (h : Nat) (q ad : Nat → Nat) (J : Nat) (g : Nat → Int32) (hO : gOK J g) (CH : CT) (f n : Nat) (hf : 8 ≤ f) (hn : 300 ≤ n) (hR : CC l G Z h q ad J g f n CH) (Q : QS) (a1 : Int32) (Q' : QS) (r : Int32) (hE : E_r_onePiece J g CH Q a1 Q' r) : CiZ l yX2_onePiece (Cond.code yX2_onePiece cX2_onePiece 6 (some .int) :: aW) { frames := f + 5, cells := 0, slots := 0, locals := n + 118 } Z G (qW G h q ad J g Q) [.ref h, .int a1] (fun (r9 : Int32) (_ : Unit) => r9 = r) (fun (_ : Unit) => qW G h q ad J g Q') 0 0 := by
  refine ofBZ (y := yX2_onePiece) (G := G) (cc := cX2_onePiece) (maxL := 6) (ret := (some .int)) (Qc := fun A => va_Qi (fun (r9 : Int32) (_ : Unit) => r9 = r) (oB G A (fun (_ : Unit) => qW G h q ad J g Q')) A) (by decide) rfl ?_
  intro p e s m below meth c A F hK hZ hA hP hD
  have hS : va_S A s.heap s.heap [] := va_S.rf
  have hx := F.1.1; have hb := F.1.2.1; have hml := F.1.2.2.1; have hts := F.1.2.2.2.2
  have hown : s.vm.findClass RX2 = some m.cls := F.1.2.2.2.1
  have hl := lv_entry ([.ref h, .int a1]) (n := 6) (Nat.le_of_ble_eq_true rfl)
  rw [lg_entry_eq]
  generalize (lg_sl ([.ref h, .int a1]) ++ List.replicate (6 - (lg_sl ([.ref h, .int a1])).length) Slot.unset).toArray = ls at hl ⊢
  have hl : lv_has ls 6 [(0, .ref h), (1, .int a1)] := hl
  unfold E_r_onePiece at hE
  refine lv_aload_n hx hb dX2_onePiece_0 rfl (lv_at hl 0 rfl) ?_
  refine lv_iload_n hx hb dX2_onePiece_1 rfl (lv_at hl 1 rfl) ?_
  obtain ⟨Q1, r2, hg, hE⟩ := hE
  refine kA_i (va_runV (As := [.int a1]) (rest := []) F.1 (e_r_atom l G Z h q ad J g hO CH f n hf hn hR Q a1 Q1 r2 hg _) (cwV 1 hts (aw_V w_347 w_349 ws_X2_atom w_7 w_350) rfl rfl rfl (by decide +kernel) ⟨by dsimp only; omega, by dsimp only; omega⟩) ⟨zS_blind, va_recv (q := (RX2, TX2, 10)) (ci := 2) (q0 := 0) hK.1 hP rfl qW_0, zS_pre hP hD hK hZ hS (kA_F hD hS hA)⟩ rfl rfl hl.1 rfl (lv_room (Nat.le_of_ble_eq_true rfl)) dX2_onePiece_2 ⟨Nat.le_refl _, Nat.le_refl _⟩) hD hS hA (fun r9 u0 H locs hp hP hD hS => ?_)
  have hp := hp.symm; subst hp
  refine lv_istore_n hx hb dX2_onePiece_5 rfl hl (by decide) rfl (fun ls hl => ?_)
  have hl : lv_has ls 6 [(2, .int r2), (0, .ref h), (1, .int a1)] := hl
  refine lv_aload_n hx hb dX2_onePiece_6 rfl (lv_at hl 1 rfl) ?_
  refine va_get (D := G.1) (ci := 2) (C := RX2) (T := TX2) (N := 10) hx hb hts inX2 hown hK.1 hP 0 qW_0 rfl 3 (by decide) (hts _ w_278) (fun _ h9 => h9) rF_3 dX2_onePiece_7 ?_
  refine lv_if_ne (tgt := 20) hx hb dX2_onePiece_10 (by decide) (fun h3 => ?_) (fun h3 => ?_)
  ·
    rw [if_neg h3] at hE
    refine lv_iload_n hx hb dX2_onePiece_20 rfl (lv_at hl 0 rfl) ?_
    obtain ⟨rfl, hr9⟩ := hE
    exact en_i F hS _ () (by rfl) hr9.symm hP hD (Nat.le_refl _) (Nat.le_refl _) dX2_onePiece_21
  ·
    rw [if_pos h3] at hE
    refine lv_aload_n hx hb dX2_onePiece_13 rfl (lv_at hl 1 rfl) ?_
    obtain ⟨Q4, r5, hg, hE⟩ := hE
    refine kA_i (va_runV (As := []) (rest := []) F.1 (e_r_readLoop l G h q ad J g hO Q1 Q4 r5 hg _) (cwV 0 hts (aw_V w_518 w_520 ws_X2_readLoop w_7 w_521) rfl rfl rfl (by decide +kernel) ⟨by dsimp only; omega, by dsimp only; omega⟩) ⟨cS_blind, va_recv (q := (RX2, TX2, 10)) (ci := 2) (q0 := 0) hK.1 hP rfl qW_0, cS_pre hP hD hK⟩ rfl rfl hl.1 rfl (lv_room (Nat.le_of_ble_eq_true rfl)) dX2_onePiece_14 ⟨Nat.le_refl _, Nat.le_refl _⟩) hD hS hA (fun r9 u0 H locs hp hP hD hS => ?_)
    have hp := hp.symm; subst hp
    refine lv_if_ne (tgt := 22) hx hb dX2_onePiece_17 (by decide) (fun h6 => ?_) (fun h6 => ?_)
    ·
      rw [if_neg h6] at hE
      refine lv_aload_n hx hb dX2_onePiece_22 rfl (lv_at hl 1 rfl) ?_
      refine lv_bipush (v := 13) hx hb dX2_onePiece_23 (by decide) ?_
      obtain ⟨Q7, r8, hg, hE⟩ := hE
      refine kA_i (va_runV (As := [.int 13]) (rest := []) F.1 (e_r_add l G h q ad J g hO Q4 13 Q7 r8 hg _) (cwV 1 hts (aw_V w_314 w_316 ws_X2_add w_7 w_317) rfl rfl rfl (by decide +kernel) ⟨by dsimp only; omega, by dsimp only; omega⟩) ⟨cS_blind, va_recv (q := (RX2, TX2, 10)) (ci := 2) (q0 := 0) hK.1 hP rfl qW_0, cS_pre hP hD hK⟩ rfl rfl hl.1 rfl (lv_room (Nat.le_of_ble_eq_true rfl)) dX2_onePiece_25 ⟨Nat.le_refl _, Nat.le_refl _⟩) hD hS hA (fun r9 u0 H locs hp hP hD hS => ?_)
      have hp := hp.symm; subst hp
      refine lv_istore_n hx hb dX2_onePiece_28 rfl hl (by decide) rfl (fun ls hl => ?_)
      have hl : lv_has ls 6 [(3, .int r8), (2, .int r2), (0, .ref h), (1, .int a1)] := hl
      refine lv_aload_n hx hb dX2_onePiece_29 rfl (lv_at hl 2 rfl) ?_
      refine va_get (D := G.1) (ci := 2) (C := RX2) (T := TX2) (N := 10) hx hb hts inX2 hown hK.1 hP 0 qW_0 rfl 1 (by decide) (hts _ w_276) (fun _ h9 => h9) rF_1 dX2_onePiece_30 ?_
      refine lv_iload_n hx hb dX2_onePiece_33 rfl (lv_at hl 0 rfl) ?_
      obtain ⟨hc9, hE⟩ := hE
      refine kp_V (va_runV (As := [.int r8]) (rest := []) F.1 (v_prog_node l G _ _ Q7.2.2.1 _ _ _ ad _ _ _ r8 hc9.1 hc9.2 _) (cwV 1 hts (aw_V w_339 w_340 w_341 w_4 w_342) rfl rfl rfl (by decide +kernel) ⟨by dsimp only; omega, by dsimp only; omega⟩) ⟨cS_blind, va_recv (q := (RX1, TX1, 5)) (ci := 1) (q0 := 0) hK.1 (qP_prog (Q := Q7) hP) rfl rfl, cS_pre (qP_prog (Q := Q7) hP) (qD_prog (Q := Q7) hD) hK⟩ rfl rfl hl.1 rfl (lv_room (Nat.le_of_ble_eq_true rfl)) dX2_onePiece_34 ⟨Nat.le_refl _, Nat.le_refl _⟩) (fun v9 hp => ?_)
      subst hp
      refine lv_astore hx hb dX2_onePiece_37 hl (by decide) rfl (fun ls hl => ?_)
      have hl : lv_has ls 6 [(4, .ref (ad (pn_ix Q7.2.2.1 r8))), (3, .int r8), (2, .int r2), (0, .ref h), (1, .int a1)] := hl
      refine lv_aload hx hb dX2_onePiece_39 (lv_at hl 0 rfl) ?_
      refine lv_iload_n hx hb dX2_onePiece_41 rfl (lv_at hl 2 rfl) ?_
      refine va_putN (D := G.1) (ci := 0) (v := .int r2) (ty := .int) (C := RX0) (T := TX0) (N := 13) hx hb hts inX0 tyX0 tyX0_ok nmX0 hown hK.1 hP hD hS (5 + (pn_ix Q7.2.2.1 r8)) (qW_nd (pn_lt hc9.1 hc9.2)) rfl 3 (by decide) (hK.2.1.use w_70) (fun _ h9 => h9) rfl (by decide +kernel) rfl rfl (Nat.le_of_ble_eq_true rfl) dX2_onePiece_42 (fun H locs hP hD hS => ?_)
      rw [qW_n3 (pn_lt hc9.1 hc9.2)] at hP hD
      refine lv_aload hx hb dX2_onePiece_45 (lv_at hl 0 rfl) ?_
      refine lv_iload_n hx hb dX2_onePiece_47 rfl (lv_at hl 4 rfl) ?_
      refine va_putN (D := G.1) (ci := 0) (v := .int a1) (ty := .int) (C := RX0) (T := TX0) (N := 13) hx hb hts inX0 tyX0 tyX0_ok nmX0 hown hK.1 hP hD hS (5 + (pn_ix Q7.2.2.1 r8)) (qW_nd (pn_lt hc9.1 hc9.2)) rfl 5 (by decide) (hK.2.1.use w_75) (fun _ h9 => h9) rfl (by decide +kernel) rfl rfl (Nat.le_of_ble_eq_true rfl) dX2_onePiece_48 (fun H locs hP hD hS => ?_)
      rw [qW_n5 (pn_lt hc9.1 hc9.2)] at hP hD
      refine lv_aload hx hb dX2_onePiece_51 (lv_at hl 0 rfl) ?_
      refine lv_aload_n hx hb dX2_onePiece_53 rfl (lv_at hl 3 rfl) ?_
      refine va_get (D := G.1) (ci := 2) (C := RX2) (T := TX2) (N := 10) hx hb hts inX2 hown hK.1 hP 0 qW_0 rfl 8 (by decide) (hts _ w_283) (fun _ h9 => h9) rF_8 dX2_onePiece_54 ?_
      refine tp_i (Q7.1 8) rfl ?_
      refine va_putN (D := G.1) (ci := 0) (v := .int (Q7.1 8)) (ty := .int) (C := RX0) (T := TX0) (N := 13) hx hb hts inX0 tyX0 tyX0_ok nmX0 hown hK.1 hP hD hS (5 + (pn_ix Q7.2.2.1 r8)) (qW_nd (pn_lt hc9.1 hc9.2)) rfl 6 (by decide) (hK.2.1.use w_76) (fun _ h9 => h9) rfl (by decide +kernel) rfl rfl (Nat.le_of_ble_eq_true rfl) dX2_onePiece_57 (fun H locs hP hD hS => ?_)
      rw [qW_n6 (pn_lt hc9.1 hc9.2)] at hP hD
      refine lv_aload hx hb dX2_onePiece_60 (lv_at hl 0 rfl) ?_
      refine lv_aload_n hx hb dX2_onePiece_62 rfl (lv_at hl 3 rfl) ?_
      refine va_get (D := G.1) (ci := 2) (C := RX2) (T := TX2) (N := 10) hx hb hts inX2 hown hK.1 hP 0 qW_0 rfl 9 (by decide) (hts _ w_284) (fun _ h9 => h9) rF_9 dX2_onePiece_63 ?_
      refine tp_i (Q7.1 9) rfl ?_
      refine va_putN (D := G.1) (ci := 0) (v := .int (Q7.1 9)) (ty := .int) (C := RX0) (T := TX0) (N := 13) hx hb hts inX0 tyX0 tyX0_ok nmX0 hown hK.1 hP hD hS (5 + (pn_ix Q7.2.2.1 r8)) (qW_nd (pn_lt hc9.1 hc9.2)) rfl 7 (by decide) (hK.2.1.use w_78) (fun _ h9 => h9) rfl (by decide +kernel) rfl rfl (Nat.le_of_ble_eq_true rfl) dX2_onePiece_66 (fun H locs hP hD hS => ?_)
      rw [qW_n7 (pn_lt hc9.1 hc9.2)] at hP hD
      refine lv_aload hx hb dX2_onePiece_69 (lv_at hl 0 rfl) ?_
      refine lv_aload_n hx hb dX2_onePiece_71 rfl (lv_at hl 3 rfl) ?_
      refine lv_bipush (v := 63) hx hb dX2_onePiece_72 (by decide) ?_
      obtain ⟨Q10, r11, hg, hE⟩ := hE
      refine kA_i (va_runV (As := [.int 63]) (rest := [.ref (ad (pn_ix Q7.2.2.1 r8))]) F.1 (e_r_take l G h q ad J g hO (rn (rn (rn (rn Q7 (pn_ix Q7.2.2.1 r8) 3 r2) (pn_ix Q7.2.2.1 r8) 5 a1) (pn_ix Q7.2.2.1 r8) 6 (Q7.1 8)) (pn_ix Q7.2.2.1 r8) 7 (Q7.1 9)) 63 Q10 r11 hg _) (cwV 1 hts (aw_V w_359 w_361 ws_X2_take w_7 w_362) rfl rfl rfl (by decide +kernel) ⟨by dsimp only; omega, by dsimp only; omega⟩) ⟨cS_blind, va_recv (q := (RX2, TX2, 10)) (ci := 2) (q0 := 0) hK.1 hP rfl qW_0, cS_pre hP hD hK⟩ rfl rfl hl.1 rfl (lv_room (Nat.le_of_ble_eq_true rfl)) dX2_onePiece_74 ⟨Nat.le_refl _, Nat.le_refl _⟩) hD hS hA (fun r9 u0 H locs hp hP hD hS => ?_)
      have hp := hp.symm; subst hp
      obtain ⟨hnz, hfz, hE⟩ := hE
      refine va_putN (D := G.1) (ci := 0) (v := .int r11) (ty := .boolean) (C := RX0) (T := TX0) (N := 13) hx hb hts inX0 tyX0 tyX0_ok nmX0 hown hK.1 hP hD hS (5 + (pn_ix Q7.2.2.1 r8)) (qW_nd (pn_lt hc9.1 hc9.2)) rfl 8 (by decide) (hK.2.1.use w_80) (fun _ h9 => h9) rfl (by decide +kernel) hnz hfz (Nat.le_of_ble_eq_true rfl) dX2_onePiece_77 (fun H locs hP hD hS => ?_)
      rw [qW_n8 (pn_lt hc9.1 hc9.2)] at hP hD
      refine lv_aload_n hx hb dX2_onePiece_80 rfl (lv_at hl 3 rfl) ?_
      refine va_get (D := G.1) (ci := 2) (C := RX2) (T := TX2) (N := 10) hx hb hts inX2 hown hK.1 hP 0 qW_0 rfl 1 (by decide) (hts _ w_276) (fun _ h9 => h9) rF_1 dX2_onePiece_81 ?_
      refine lv_aload_n hx hb dX2_onePiece_84 rfl (lv_at hl 3 rfl) ?_
      refine va_get (D := G.1) (ci := 2) (C := RX2) (T := TX2) (N := 10) hx hb hts inX2 hown hK.1 hP 0 qW_0 rfl 5 (by decide) (hts _ w_280) (fun _ h9 => h9) rF_5 dX2_onePiece_85 ?_
      refine tp_i (Q10.1 5) rfl ?_
      obtain ⟨hc12, hE⟩ := hE
      refine kp_V (va_runV (As := [.int (Q10.1 5)]) (rest := []) F.1 (v_prog_node l G _ _ Q10.2.2.1 _ _ _ ad _ _ _ (Q10.1 5) hc12.1 hc12.2 _) (cwV 1 hts (aw_V w_339 w_340 w_341 w_4 w_342) rfl rfl rfl (by decide +kernel) ⟨by dsimp only; omega, by dsimp only; omega⟩) ⟨cS_blind, va_recv (q := (RX1, TX1, 5)) (ci := 1) (q0 := 0) hK.1 (qP_prog (Q := (rn Q10 (pn_ix Q7.2.2.1 r8) 8 r11)) hP) rfl rfl, cS_pre (qP_prog (Q := (rn Q10 (pn_ix Q7.2.2.1 r8) 8 r11)) hP) (qD_prog (Q := (rn Q10 (pn_ix Q7.2.2.1 r8) 8 r11)) hD) hK⟩ rfl rfl hl.1 rfl (lv_room (Nat.le_of_ble_eq_true rfl)) dX2_onePiece_88 ⟨Nat.le_refl _, Nat.le_refl _⟩) (fun v9 hp => ?_)
      subst hp
      refine lv_iload_n hx hb dX2_onePiece_91 rfl (lv_at hl 1 rfl) ?_
      refine va_putN (D := G.1) (ci := 0) (v := .int r8) (ty := .int) (C := RX0) (T := TX0) (N := 13) hx hb hts inX0 tyX0 tyX0_ok nmX0 hown hK.1 hP hD hS (5 + (pn_ix Q10.2.2.1 (Q10.1 5))) (qW_nd (pn_lt hc12.1 hc12.2)) rfl 2 (by decide) (hK.2.1.use w_67) (fun _ h9 => h9) rfl (by decide +kernel) rfl rfl (Nat.le_of_ble_eq_true rfl) dX2_onePiece_92 (fun H locs hP hD hS => ?_)
      rw [qW_n2 (pn_lt hc12.1 hc12.2)] at hP hD
      refine lv_aload_n hx hb dX2_onePiece_95 rfl (lv_at hl 3 rfl) ?_
      refine lv_bipush (v := 12) hx hb dX2_onePiece_96 (by decide) ?_
      obtain ⟨Q13, r14, hg, hE⟩ := hE
      refine kA_i (va_runV (As := [.int 12]) (rest := []) F.1 (e_r_add l G h q ad J g hO (rn (rn Q10 (pn_ix Q7.2.2.1 r8) 8 r11) (pn_ix Q10.2.2.1 (Q10.1 5)) 2 r8) 12 Q13 r14 hg _) (cwV 1 hts (aw_V w_314 w_316 ws_X2_add w_7 w_317) rfl rfl rfl (by decide +kernel) ⟨by dsimp only; omega, by dsimp only; omega⟩) ⟨cS_blind, va_recv (q := (RX2, TX2, 10)) (ci := 2) (q0 := 0) hK.1 hP rfl qW_0, cS_pre hP hD hK⟩ rfl rfl hl.1 rfl (lv_room (Nat.le_of_ble_eq_true rfl)) dX2_onePiece_98 ⟨Nat.le_refl _, Nat.le_refl _⟩) hD hS hA (fun r9 u0 H locs hp hP hD hS => ?_)
      have hp := hp.symm; subst hp
      refine lv_istore hx hb dX2_onePiece_101 hl (by decide) rfl (fun ls hl => ?_)
      have hl : lv_has ls 6 [(5, .int r14), (4, .ref (ad (pn_ix Q7.2.2.1 r8))), (3, .int r8), (2, .int r2), (0, .ref h), (1, .int a1)] := hl
      refine lv_aload_n hx hb dX2_onePiece_103 rfl (lv_at hl 4 rfl) ?_
      refine va_get (D := G.1) (ci := 2) (C := RX2) (T := TX2) (N := 10) hx hb hts inX2 hown hK.1 hP 0 qW_0 rfl 1 (by decide) (hts _ w_276) (fun _ h9 => h9) rF_1 dX2_onePiece_104 ?_
      refine lv_iload hx hb dX2_onePiece_107 (lv_at hl 0 rfl) ?_
      obtain ⟨hc15, hE⟩ := hE
      refine kp_V (va_runV (As := [.int r14]) (rest := []) F.1 (v_prog_node l G _ _ Q13.2.2.1 _ _ _ ad _ _ _ r14 hc15.1 hc15.2 _) (cwV 1 hts (aw_V w_339 w_340 w_341 w_4 w_342) rfl rfl rfl (by decide +kernel) ⟨by dsimp only; omega, by dsimp only; omega⟩) ⟨cS_blind, va_recv (q := (RX1, TX1, 5)) (ci := 1) (q0 := 0) hK.1 (qP_prog (Q := Q13) hP) rfl rfl, cS_pre (qP_prog (Q := Q13) hP) (qD_prog (Q := Q13) hD) hK⟩ rfl rfl hl.1 rfl (lv_room (Nat.le_of_ble_eq_true rfl)) dX2_onePiece_109 ⟨Nat.le_refl _, Nat.le_refl _⟩) (fun v9 hp => ?_)
      subst hp
      refine lv_iload_n hx hb dX2_onePiece_112 rfl (lv_at hl 5 rfl) ?_
      refine va_putN (D := G.1) (ci := 0) (v := .int a1) (ty := .int) (C := RX0) (T := TX0) (N := 13) hx hb hts inX0 tyX0 tyX0_ok nmX0 hown hK.1 hP hD hS (5 + (pn_ix Q13.2.2.1 r14)) (qW_nd (pn_lt hc15.1 hc15.2)) rfl 5 (by decide) (hK.2.1.use w_75) (fun _ h9 => h9) rfl (by decide +kernel) rfl rfl (Nat.le_of_ble_eq_true rfl) dX2_onePiece_113 (fun H locs hP hD hS => ?_)
      rw [qW_n5 (pn_lt hc15.1 hc15.2)] at hP hD
      refine lv_aload_n hx hb dX2_onePiece_116 rfl (lv_at hl 4 rfl) ?_
      refine va_get (D := G.1) (ci := 2) (C := RX2) (T := TX2) (N := 10) hx hb hts inX2 hown hK.1 hP 0 qW_0 rfl 1 (by decide) (hts _ w_276) (fun _ h9 => h9) rF_1 dX2_onePiece_117 ?_
      refine lv_iload hx hb dX2_onePiece_120 (lv_at hl 0 rfl) ?_
      obtain ⟨hc16, hE⟩ := hE
      refine kp_V (va_runV (As := [.int r14]) (rest := []) F.1 (v_prog_node l G _ _ Q13.2.2.1 _ _ _ ad _ _ _ r14 hc16.1 hc16.2 _) (cwV 1 hts (aw_V w_339 w_340 w_341 w_4 w_342) rfl rfl rfl (by decide +kernel) ⟨by dsimp only; omega, by dsimp only; omega⟩) ⟨cS_blind, va_recv (q := (RX1, TX1, 5)) (ci := 1) (q0 := 0) hK.1 (qP_prog (Q := (rn Q13 (pn_ix Q13.2.2.1 r14) 5 a1)) hP) rfl rfl, cS_pre (qP_prog (Q := (rn Q13 (pn_ix Q13.2.2.1 r14) 5 a1)) hP) (qD_prog (Q := (rn Q13 (pn_ix Q13.2.2.1 r14) 5 a1)) hD) hK⟩ rfl rfl hl.1 rfl (lv_room (Nat.le_of_ble_eq_true rfl)) dX2_onePiece_122 ⟨Nat.le_refl _, Nat.le_refl _⟩) (fun v9 hp => ?_)
      subst hp
      refine lv_iload_n hx hb dX2_onePiece_125 rfl (lv_at hl 2 rfl) ?_
      refine va_putN (D := G.1) (ci := 0) (v := .int r8) (ty := .int) (C := RX0) (T := TX0) (N := 13) hx hb hts inX0 tyX0 tyX0_ok nmX0 hown hK.1 hP hD hS (5 + (pn_ix Q13.2.2.1 r14)) (qW_nd (pn_lt hc16.1 hc16.2)) rfl 2 (by decide) (hK.2.1.use w_67) (fun _ h9 => h9) rfl (by decide +kernel) rfl rfl (Nat.le_of_ble_eq_true rfl) dX2_onePiece_126 (fun H locs hP hD hS => ?_)
      rw [qW_n2 (pn_lt hc16.1 hc16.2)] at hP hD
      refine lv_aload_n hx hb dX2_onePiece_129 rfl (lv_at hl 4 rfl) ?_
      refine lv_iload_n hx hb dX2_onePiece_130 rfl (lv_at hl 2 rfl) ?_
      refine va_put (D := G.1) (ci := 2) (v := .int r8) (ty := .int) (C := RX2) (T := TX2) (N := 10) hx hb hts inX2 tyX2 tyX2_ok nmX2 hown hK.1 hP hD hS 0 qW_0 rfl 5 (by decide) (hts _ w_280) (fun _ h9 => h9) rfl (by decide +kernel) rfl rfl rF_l5 dX2_onePiece_131 (fun H locs hP hD hS => ?_)
      rw [qW_f5] at hP hD
      refine lv_aload hx hb dX2_onePiece_134 (lv_at hl 1 rfl) ?_
      refine va_getN (D := G.1) (ci := 0) (v := .int ((rf (rn (rn Q13 (pn_ix Q13.2.2.1 r14) 5 a1) (pn_ix Q13.2.2.1 r14) 2 r8) 5 r8).2.2.2.1 (pn_ix Q7.2.2.1 r8) 8)) (C := RX0) (T := TX0) (N := 13) hx hb hts inX0 hown hK.1 hP (5 + (pn_ix Q7.2.2.1 r8)) (qW_nd (pn_lt hc9.1 hc9.2)) rfl 8 (by decide) (hK.2.1.use w_80) (fun _ h9 => h9) rfl dX2_onePiece_136 ?_
      refine lv_if_ne (tgt := 170) hx hb dX2_onePiece_139 (by decide) (fun h17 => ?_) (fun h17 => ?_)
      ·
        rw [if_neg h17] at hE
        refine lv_iload hx hb dX2_onePiece_170 (lv_at hl 0 rfl) ?_
        obtain ⟨rfl, hr9⟩ := hE
        exact en_i F hS _ () (by rfl) hr9.symm hP hD (Nat.le_refl _) (Nat.le_refl _) dX2_onePiece_172
      ·
        rw [if_pos h17] at hE
        refine lv_aload_n hx hb dX2_onePiece_142 rfl (lv_at hl 4 rfl) ?_
        refine lv_bipush (v := 43) hx hb dX2_onePiece_143 (by decide) ?_
        obtain ⟨Q18, r19, hg, hE⟩ := hE
        refine kA_i (va_runV (As := [.int 43]) (rest := []) F.1 (e_r_take l G h q ad J g hO (rf (rn (rn Q13 (pn_ix Q13.2.2.1 r14) 5 a1) (pn_ix Q13.2.2.1 r14) 2 r8) 5 r8) 43 Q18 r19 hg _) (cwV 1 hts (aw_V w_359 w_361 ws_X2_take w_7 w_362) rfl rfl rfl (by decide +kernel) ⟨by dsimp only; omega, by dsimp only; omega⟩) ⟨cS_blind, va_recv (q := (RX2, TX2, 10)) (ci := 2) (q0 := 0) hK.1 hP rfl qW_0, cS_pre hP hD hK⟩ rfl rfl hl.1 rfl (lv_room (Nat.le_of_ble_eq_true rfl)) dX2_onePiece_145 ⟨Nat.le_refl _, Nat.le_refl _⟩) hD hS hA (fun r9 u0 H locs hp hP hD hS => ?_)
        have hp := hp.symm; subst hp
        refine lv_if_eq (tgt := 170) hx hb dX2_onePiece_148 (by decide) (fun h20 => ?_) (fun h20 => ?_)
        ·
          rw [if_pos h20] at hE
          refine lv_iload hx hb dX2_onePiece_170 (lv_at hl 0 rfl) ?_
          obtain ⟨rfl, hr9⟩ := hE
          exact en_i F hS _ () (by rfl) hr9.symm hP hD (Nat.le_refl _) (Nat.le_refl _) dX2_onePiece_172
        ·
          rw [if_neg h20] at hE
          refine lv_aload hx hb dX2_onePiece_151 (lv_at hl 1 rfl) ?_
          refine lv_aload_n hx hb dX2_onePiece_153 rfl (lv_at hl 4 rfl) ?_
          refine lv_iconst (v := 1) hx hb dX2_onePiece_154 (by decide) ?_
          obtain ⟨Q21, r22, hg, hE⟩ := hE
          refine kA_i (va_runV (As := [.int 1]) (rest := [.ref (ad (pn_ix Q7.2.2.1 r8))]) F.1 (e_r_add l G h q ad J g hO Q18 1 Q21 r22 hg _) (cwV 1 hts (aw_V w_314 w_316 ws_X2_add w_7 w_317) rfl rfl rfl (by decide +kernel) ⟨by dsimp only; omega, by dsimp only; omega⟩) ⟨cS_blind, va_recv (q := (RX2, TX2, 10)) (ci := 2) (q0 := 0) hK.1 hP rfl qW_0, cS_pre hP hD hK⟩ rfl rfl hl.1 rfl (lv_room (Nat.le_of_ble_eq_true rfl)) dX2_onePiece_155 ⟨Nat.le_refl _, Nat.le_refl _⟩) hD hS hA (fun r9 u0 H locs hp hP hD hS => ?_)
          have hp := hp.symm; subst hp
          refine va_putN (D := G.1) (ci := 0) (v := .int r22) (ty := .int) (C := RX0) (T := TX0) (N := 13) hx hb hts inX0 tyX0 tyX0_ok nmX0 hown hK.1 hP hD hS (5 + (pn_ix Q7.2.2.1 r8)) (qW_nd (pn_lt hc9.1 hc9.2)) rfl 2 (by decide) (hK.2.1.use w_67) (fun _ h9 => h9) rfl (by decide +kernel) rfl rfl (Nat.le_of_ble_eq_true rfl) dX2_onePiece_158 (fun H locs hP hD hS => ?_)
          rw [qW_n2 (pn_lt hc9.1 hc9.2)] at hP hD
          refine lv_aload_n hx hb dX2_onePiece_161 rfl (lv_at hl 4 rfl) ?_
          refine lv_bipush (v := 15) hx hb dX2_onePiece_162 (by decide) ?_
          refine lv_iload hx hb dX2_onePiece_164 (lv_at hl 0 rfl) ?_
          obtain ⟨Q23, r24, hg, hE⟩ := hE
          refine kA_i (va_runV (As := [.int 15, .int r14]) (rest := []) F.1 (e_r_withBody l G h q ad J g hO (rn Q21 (pn_ix Q7.2.2.1 r8) 2 r22) 15 r14 Q23 r24 hg _) (cwV 2 hts (aw_V w_379 w_381 ws_X2_withBody w_7 w_382) rfl rfl rfl (by decide +kernel) ⟨by dsimp only; omega, by dsimp only; omega⟩) ⟨cS_blind, va_recv (q := (RX2, TX2, 10)) (ci := 2) (q0 := 0) hK.1 hP rfl qW_0, cS_pre hP hD hK⟩ rfl rfl hl.1 rfl (lv_room (Nat.le_of_ble_eq_true rfl)) dX2_onePiece_166 ⟨Nat.le_refl _, Nat.le_refl _⟩) hD hS hA (fun r9 u0 H locs hp hP hD hS => ?_)
          have hp := hp.symm; subst hp
          obtain ⟨rfl, hr9⟩ := hE
          exact en_i F hS _ () (by rfl) hr9.symm hP hD (Nat.le_refl _) (Nat.le_refl _) dX2_onePiece_169
    ·
      rw [if_pos h6] at hE
      refine lv_iload_n hx hb dX2_onePiece_20 rfl (lv_at hl 0 rfl) ?_
      obtain ⟨rfl, hr9⟩ := hE
      exact en_i F hS _ () (by rfl) hr9.symm hP hD (Nat.le_refl _) (Nat.le_refl _) dX2_onePiece_21

theorem dX2_sequence_34 : decode cX2_sequence 34 = .ok (.aload_n 0, 1) := by decide +kernel
theorem dX2_sequence_35 : decode cX2_sequence 35 = .ok (.getfield 15, 3) := by decide +kernel
theorem dX2_sequence_38 : decode cX2_sequence 38 = .ok (.iload 4, 2) := by decide +kernel
theorem dX2_sequence_40 : decode cX2_sequence 40 = .ok (.invokevirtual 55, 3) := by decide +kernel
theorem dX2_sequence_43 : decode cX2_sequence 43 = .ok (.aload_n 0, 1) := by decide +kernel
theorem dX2_sequence_44 : decode cX2_sequence 44 = .ok (.iload_n 2, 1) := by decide +kernel
theorem dX2_sequence_45 : decode cX2_sequence 45 = .ok (.invokevirtual 68, 3) := by decide +kernel
theorem dX2_sequence_48 : decode cX2_sequence 48 = .ok (.putfield 71, 3) := by decide +kernel
theorem dX2_sequence_51 : decode cX2_sequence 51 = .ok (.aload_n 0, 1) := by decide +kernel
theorem dX2_sequence_52 : decode cX2_sequence 52 = .ok (.getfield 74, 3) := by decide +kernel
theorem dX2_sequence_55 : decode cX2_sequence 55 = .ok (.istore 4, 2) := by decide +kernel
theorem dX2_sequence_57 : decode cX2_sequence 57 = .ok (.iinc 5 1, 3) := by decide +kernel
theorem dX2_sequence_60 : decode cX2_sequence 60 = .ok (.goto (-47), 3) := by decide +kernel
def L_r_sequence_13 (J : Nat) (g : Nat → Int32) (CH : CT) : Nat → QS → Int32 → Int32 → Int32 → Int32 → Int32 → QS → Int32 → Prop
  | 0, _, _, _, _, _, _, _, _ => False
  | nf + 1, Q, x1, x2, x3, x4, x5, Q', r => if 14 ≤ x5 then ((0 < Q.2.2.1 ∧ Q.2.2.1 ≤ 32) ∧ (Q' = (rn Q (pn_ix Q.2.2.1 x4) 2 x1) ∧ r = x3)) else (if (Q.1 3) = 0 then (∃ (Q7 : QS) (r8 : Int32), E_r_isSequenceOver J g Q Q7 r8 ∧ (if r8 = 0 then ((0 < Q7.2.2.1 ∧ Q7.2.2.1 ≤ 32) ∧ (∃ (Q12 : QS) (r13 : Int32), E_r_onePiece J g CH Q7 x2 Q12 r13 ∧ (L_r_sequence_13 J g CH nf (rn Q12 (pn_ix Q7.2.2.1 x4) 2 r13) x1 x2 x3 (Q12.1 5) (x5 + 1) Q' r))) else ((0 < Q7.2.2.1 ∧ Q7.2.2.1 ≤ 32) ∧ (Q' = (rn Q7 (pn_ix Q7.2.2.1 x4) 2 x1) ∧ r = x3)))) else ((0 < Q.2.2.1 ∧ Q.2.2.1 ≤ 32) ∧ (Q' = (rn Q (pn_ix Q.2.2.1 x4) 2 x1) ∧ r = x3)))
set_option maxHeartbeats 4000000 in
set_option maxRecDepth 100000 in
theorem L_r_sequence_13_ok {l : Launch} {G : PG} {Z : ZZ} {h : Nat} {q ad : Nat → Nat} {J : Nat} {g : Nat → Int32} (hO : gOK J g) {CH : CT} {f n : Nat} (hf : 8 ≤ f) (hn : 300 ≤ n) (hR : CC l G Z h q ad J g f n CH) {a1 : Int32} {a2 : Int32} {Q' : QS} {r : Int32} {p : Program} {e : Env} {s : State} {m : MethodId} {below : List Frame} {meth : Method} {c : Code} {A : Nat → Prop} (F : bF p s m meth c cX2_sequence 6 (some .int) ([.ref h, .int a1, .int a2] : List Value).toArray yX2_sequence) (hK : pg_K G s) (hA : ∀ q, s.heap.size ≤ q → A q) (hZ : zF Z A s s.heap) : ∀ (nf : Nat) (Q : QS) (x1 : Int32) (x2 : Int32) (x3 : Int32) (x4 : Int32) (x5 : Int32) (H : Heap) (locs : List Loc) (ls : Array Slot), lv_has ls 6 [(5, .int x5), (4, .int x4), (3, .int x3), (0, .ref h), (1, .int x1), (2, .int x2)] → L_r_sequence_13 J g CH nf Q x1 x2 x3 x4 x5 Q' r → va_P G.1 vwCl (qW G h q ad J g Q) H → va_D A (qW G h q ad J g Q) → va_S A s.heap H locs → W p l e { frames := f + 6, cells := 0, slots := 0, locals := n + 143 } s m ([.ref h, .int a1, .int a2] : List Value).toArray below meth c H locs 0 0 (MQ below (va_Qi (fun (r9 : Int32) (_ : Unit) => r9 = r) (oB G A (fun (_ : Unit) => qW G h q ad J g Q')) A) ([.ref h, .int a1, .int a2] : List Value).toArray s 0 0 A) (F0 m 13 ls []) := by
  have hx := F.1.1; have hb := F.1.2.1; have hml := F.1.2.2.1; have hts := F.1.2.2.2.2
  have hown : s.vm.findClass RX2 = some m.cls := F.1.2.2.2.1
  intro nf
  induction nf with
  | zero => intro Q x1 x2 x3 x4 x5 H locs ls hl hE; exact hE.elim
  | succ nf ih =>
    intro Q x1 x2 x3 x4 x5 H locs ls hl hE hP hD hS
    unfold L_r_sequence_13 at hE
    refine lv_iload hx hb dX2_sequence_13 (lv_at hl 0 rfl) ?_
    refine lv_bipush (v := 14) hx hb dX2_sequence_15 (by decide) ?_
    refine lv_icmp_ge (tgt := 63) hx hb dX2_sequence_17 (by decide) (fun h3 => ?_) (fun h3 => ?_)
    ·
      rw [if_pos h3] at hE
      refine lv_aload_n hx hb dX2_sequence_63 rfl (lv_at hl 3 rfl) ?_
      refine va_get (D := G.1) (ci := 2) (C := RX2) (T := TX2) (N := 10) hx hb hts inX2 hown hK.1 hP 0 qW_0 rfl 1 (by decide) (hts _ w_276) (fun _ h9 => h9) rF_1 dX2_sequence_64 ?_
      refine lv_iload hx hb dX2_sequence_67 (lv_at hl 1 rfl) ?_
      obtain ⟨hc4, hE⟩ := hE
      refine kp_V (va_runV (As := [.int x4]) (rest := []) F.1 (v_prog_node l G _ _ Q.2.2.1 _ _ _ ad _ _ _ x4 hc4.1 hc4.2 _) (cwV 1 hts (aw_V w_339 w_340 w_341 w_4 w_342) rfl rfl rfl (by decide +kernel) ⟨by dsimp only; omega, by dsimp only; omega⟩) ⟨cS_blind, va_recv (q := (RX1, TX1, 5)) (ci := 1) (q0 := 0) hK.1 (qP_prog (Q := Q) hP) rfl rfl, cS_pre (qP_prog (Q := Q) hP) (qD_prog (Q := Q) hD) hK⟩ rfl rfl hl.1 rfl (lv_room (Nat.le_of_ble_eq_true rfl)) dX2_sequence_69 ⟨Nat.le_refl _, Nat.le_refl _⟩) (fun v9 hp => ?_)
      subst hp
      refine lv_iload_n hx hb dX2_sequence_72 rfl (lv_at hl 4 rfl) ?_
      refine va_putN (D := G.1) (ci := 0) (v := .int x1) (ty := .int) (C := RX0) (T := TX0) (N := 13) hx hb hts inX0 tyX0 tyX0_ok nmX0 hown hK.1 hP hD hS (5 + (pn_ix Q.2.2.1 x4)) (qW_nd (pn_lt hc4.1 hc4.2)) rfl 2 (by decide) (hK.2.1.use w_67) (fun _ h9 => h9) rfl (by decide +kernel) rfl rfl (Nat.le_of_ble_eq_true rfl) dX2_sequence_73 (fun H locs hP hD hS => ?_)
      rw [qW_n2 (pn_lt hc4.1 hc4.2)] at hP hD
      refine lv_iload_n hx hb dX2_sequence_76 rfl (lv_at hl 2 rfl) ?_
      obtain ⟨rfl, hr9⟩ := hE
      exact en_i F hS _ () (by rfl) hr9.symm hP hD (Nat.le_refl _) (Nat.le_refl _) dX2_sequence_77
    ·
      rw [if_neg h3] at hE
      refine lv_aload_n hx hb dX2_sequence_20 rfl (lv_at hl 3 rfl) ?_
      refine va_get (D := G.1) (ci := 2) (C := RX2) (T := TX2) (N := 10) hx hb hts inX2 hown hK.1 hP 0 qW_0 rfl 3 (by decide) (hts _ w_278) (fun _ h9 => h9) rF_3 dX2_sequence_21 ?_
      refine lv_if_ne (tgt := 63) hx hb dX2_sequence_24 (by decide) (fun h5 => ?_) (fun h5 => ?_)
      ·
        rw [if_neg h5] at hE
        refine lv_aload_n hx hb dX2_sequence_63 rfl (lv_at hl 3 rfl) ?_
        refine va_get (D := G.1) (ci := 2) (C := RX2) (T := TX2) (N := 10) hx hb hts inX2 hown hK.1 hP 0 qW_0 rfl 1 (by decide) (hts _ w_276) (fun _ h9 => h9) rF_1 dX2_sequence_64 ?_
        refine lv_iload hx hb dX2_sequence_67 (lv_at hl 1 rfl) ?_
        obtain ⟨hc6, hE⟩ := hE
        refine kp_V (va_runV (As := [.int x4]) (rest := []) F.1 (v_prog_node l G _ _ Q.2.2.1 _ _ _ ad _ _ _ x4 hc6.1 hc6.2 _) (cwV 1 hts (aw_V w_339 w_340 w_341 w_4 w_342) rfl rfl rfl (by decide +kernel) ⟨by dsimp only; omega, by dsimp only; omega⟩) ⟨cS_blind, va_recv (q := (RX1, TX1, 5)) (ci := 1) (q0 := 0) hK.1 (qP_prog (Q := Q) hP) rfl rfl, cS_pre (qP_prog (Q := Q) hP) (qD_prog (Q := Q) hD) hK⟩ rfl rfl hl.1 rfl (lv_room (Nat.le_of_ble_eq_true rfl)) dX2_sequence_69 ⟨Nat.le_refl _, Nat.le_refl _⟩) (fun v9 hp => ?_)
        subst hp
        refine lv_iload_n hx hb dX2_sequence_72 rfl (lv_at hl 4 rfl) ?_
        refine va_putN (D := G.1) (ci := 0) (v := .int x1) (ty := .int) (C := RX0) (T := TX0) (N := 13) hx hb hts inX0 tyX0 tyX0_ok nmX0 hown hK.1 hP hD hS (5 + (pn_ix Q.2.2.1 x4)) (qW_nd (pn_lt hc6.1 hc6.2)) rfl 2 (by decide) (hK.2.1.use w_67) (fun _ h9 => h9) rfl (by decide +kernel) rfl rfl (Nat.le_of_ble_eq_true rfl) dX2_sequence_73 (fun H locs hP hD hS => ?_)
        rw [qW_n2 (pn_lt hc6.1 hc6.2)] at hP hD
        refine lv_iload_n hx hb dX2_sequence_76 rfl (lv_at hl 2 rfl) ?_
        obtain ⟨rfl, hr9⟩ := hE
        exact en_i F hS _ () (by rfl) hr9.symm hP hD (Nat.le_refl _) (Nat.le_refl _) dX2_sequence_77
      ·
        rw [if_pos h5] at hE
        refine lv_aload_n hx hb dX2_sequence_27 rfl (lv_at hl 3 rfl) ?_
        obtain ⟨Q7, r8, hg, hE⟩ := hE
        refine kA_i (va_runV (As := []) (rest := []) F.1 (e_r_isSequenceOver l G h q ad J g hO Q Q7 r8 hg _) (cwV 0 hts (aw_V w_330 w_332 ws_X2_isSequenceOver w_7 w_333) rfl rfl rfl (by decide +kernel) ⟨by dsimp only; omega, by dsimp only; omega⟩) ⟨cS_blind, va_recv (q := (RX2, TX2, 10)) (ci := 2) (q0 := 0) hK.1 hP rfl qW_0, cS_pre hP hD hK⟩ rfl rfl hl.1 rfl (lv_room (Nat.le_of_ble_eq_true rfl)) dX2_sequence_28 ⟨Nat.le_refl _, Nat.le_refl _⟩) hD hS hA (fun r9 u0 H locs hp hP hD hS => ?_)
        have hp := hp.symm; subst hp
        refine lv_if_ne (tgt := 63) hx hb dX2_sequence_31 (by decide) (fun h9 => ?_) (fun h9 => ?_)
        ·
          rw [if_neg h9] at hE
          refine lv_aload_n hx hb dX2_sequence_63 rfl (lv_at hl 3 rfl) ?_
          refine va_get (D := G.1) (ci := 2) (C := RX2) (T := TX2) (N := 10) hx hb hts inX2 hown hK.1 hP 0 qW_0 rfl 1 (by decide) (hts _ w_276) (fun _ h9 => h9) rF_1 dX2_sequence_64 ?_
          refine lv_iload hx hb dX2_sequence_67 (lv_at hl 1 rfl) ?_
          obtain ⟨hc10, hE⟩ := hE
          refine kp_V (va_runV (As := [.int x4]) (rest := []) F.1 (v_prog_node l G _ _ Q7.2.2.1 _ _ _ ad _ _ _ x4 hc10.1 hc10.2 _) (cwV 1 hts (aw_V w_339 w_340 w_341 w_4 w_342) rfl rfl rfl (by decide +kernel) ⟨by dsimp only; omega, by dsimp only; omega⟩) ⟨cS_blind, va_recv (q := (RX1, TX1, 5)) (ci := 1) (q0 := 0) hK.1 (qP_prog (Q := Q7) hP) rfl rfl, cS_pre (qP_prog (Q := Q7) hP) (qD_prog (Q := Q7) hD) hK⟩ rfl rfl hl.1 rfl (lv_room (Nat.le_of_ble_eq_true rfl)) dX2_sequence_69 ⟨Nat.le_refl _, Nat.le_refl _⟩) (fun v9 hp => ?_)
          subst hp
          refine lv_iload_n hx hb dX2_sequence_72 rfl (lv_at hl 4 rfl) ?_
          refine va_putN (D := G.1) (ci := 0) (v := .int x1) (ty := .int) (C := RX0) (T := TX0) (N := 13) hx hb hts inX0 tyX0 tyX0_ok nmX0 hown hK.1 hP hD hS (5 + (pn_ix Q7.2.2.1 x4)) (qW_nd (pn_lt hc10.1 hc10.2)) rfl 2 (by decide) (hK.2.1.use w_67) (fun _ h9 => h9) rfl (by decide +kernel) rfl rfl (Nat.le_of_ble_eq_true rfl) dX2_sequence_73 (fun H locs hP hD hS => ?_)
          rw [qW_n2 (pn_lt hc10.1 hc10.2)] at hP hD
          refine lv_iload_n hx hb dX2_sequence_76 rfl (lv_at hl 2 rfl) ?_
          obtain ⟨rfl, hr9⟩ := hE
          exact en_i F hS _ () (by rfl) hr9.symm hP hD (Nat.le_refl _) (Nat.le_refl _) dX2_sequence_77
        ·
          rw [if_pos h9] at hE
          refine lv_aload_n hx hb dX2_sequence_34 rfl (lv_at hl 3 rfl) ?_
          refine va_get (D := G.1) (ci := 2) (C := RX2) (T := TX2) (N := 10) hx hb hts inX2 hown hK.1 hP 0 qW_0 rfl 1 (by decide) (hts _ w_276) (fun _ h9 => h9) rF_1 dX2_sequence_35 ?_
          refine lv_iload hx hb dX2_sequence_38 (lv_at hl 1 rfl) ?_
          obtain ⟨hc11, hE⟩ := hE
          refine kp_V (va_runV (As := [.int x4]) (rest := []) F.1 (v_prog_node l G _ _ Q7.2.2.1 _ _ _ ad _ _ _ x4 hc11.1 hc11.2 _) (cwV 1 hts (aw_V w_339 w_340 w_341 w_4 w_342) rfl rfl rfl (by decide +kernel) ⟨by dsimp only; omega, by dsimp only; omega⟩) ⟨cS_blind, va_recv (q := (RX1, TX1, 5)) (ci := 1) (q0 := 0) hK.1 (qP_prog (Q := Q7) hP) rfl rfl, cS_pre (qP_prog (Q := Q7) hP) (qD_prog (Q := Q7) hD) hK⟩ rfl rfl hl.1 rfl (lv_room (Nat.le_of_ble_eq_true rfl)) dX2_sequence_40 ⟨Nat.le_refl _, Nat.le_refl _⟩) (fun v9 hp => ?_)
          subst hp
          refine lv_aload_n hx hb dX2_sequence_43 rfl (lv_at hl 3 rfl) ?_
          refine lv_iload_n hx hb dX2_sequence_44 rfl (lv_at hl 5 rfl) ?_
          obtain ⟨Q12, r13, hg, hE⟩ := hE
          refine kA_i (va_runV (As := [.int x2]) (rest := [.ref (ad (pn_ix Q7.2.2.1 x4))]) F.1 (e_r_onePiece l G Z h q ad J g hO CH f n hf hn hR Q7 x2 Q12 r13 hg _) (cwV 1 hts (aw_V w_343 w_345 ws_X2_onePiece w_7 w_346) rfl rfl rfl (by decide +kernel) ⟨by dsimp only; omega, by dsimp only; omega⟩) ⟨zS_blind, va_recv (q := (RX2, TX2, 10)) (ci := 2) (q0 := 0) hK.1 hP rfl qW_0, zS_pre hP hD hK hZ hS (kA_F hD hS hA)⟩ rfl rfl hl.1 rfl (lv_room (Nat.le_of_ble_eq_true rfl)) dX2_sequence_45 ⟨Nat.le_refl _, Nat.le_refl _⟩) hD hS hA (fun r9 u0 H locs hp hP hD hS => ?_)
          have hp := hp.symm; subst hp
          refine va_putN (D := G.1) (ci := 0) (v := .int r13) (ty := .int) (C := RX0) (T := TX0) (N := 13) hx hb hts inX0 tyX0 tyX0_ok nmX0 hown hK.1 hP hD hS (5 + (pn_ix Q7.2.2.1 x4)) (qW_nd (pn_lt hc11.1 hc11.2)) rfl 2 (by decide) (hK.2.1.use w_67) (fun _ h9 => h9) rfl (by decide +kernel) rfl rfl (Nat.le_of_ble_eq_true rfl) dX2_sequence_48 (fun H locs hP hD hS => ?_)
          rw [qW_n2 (pn_lt hc11.1 hc11.2)] at hP hD
          refine lv_aload_n hx hb dX2_sequence_51 rfl (lv_at hl 3 rfl) ?_
          refine va_get (D := G.1) (ci := 2) (C := RX2) (T := TX2) (N := 10) hx hb hts inX2 hown hK.1 hP 0 qW_0 rfl 5 (by decide) (hts _ w_280) (fun _ h9 => h9) rF_5 dX2_sequence_52 ?_
          refine tp_i (Q12.1 5) rfl ?_
          refine lv_istore hx hb dX2_sequence_55 hl (by decide) rfl (fun ls hl => ?_)
          have hl : lv_has ls 6 [(4, .int (Q12.1 5)), (5, .int x5), (3, .int x3), (0, .ref h), (1, .int x1), (2, .int x2)] := hl
          refine lv_iinc (v := (x5 + 1)) (k := 1) hx hb dX2_sequence_57 hl rfl rfl (by decide) rfl (fun ls hl => ?_)
          have hl : lv_has ls 6 [(5, .int (x5 + 1)), (4, .int (Q12.1 5)), (3, .int x3), (0, .ref h), (1, .int x1), (2, .int x2)] := hl
          refine lv_goto (tgt := 13) hx hb dX2_sequence_60 (by decide) ?_
          exact ih (rn Q12 (pn_ix Q7.2.2.1 x4) 2 r13) x1 x2 x3 (Q12.1 5) (x5 + 1) _ _ ls (lv_sub hl [0, 1, 2, 3, 4, 5] rfl) hE hP hD hS
def E_r_sequence (J : Nat) (g : Nat → Int32) (CH : CT) (Q : QS) (a1 : Int32) (a2 : Int32) (Q' : QS) (r : Int32) : Prop := ∃ (Q1 : QS) (r2 : Int32), E_r_add J g Q 10 Q1 r2 ∧ (∃ nf : Nat, L_r_sequence_13 J g CH nf Q1 a1 a2 r2 r2 0 Q' r)
set_option maxHeartbeats 4000000 in
set_option maxRecDepth 100000 in
theorem e_r_sequence (l : Launch) (G : PG) (Z : ZZ) (h : Nat) (q ad : Nat → Nat) (J : Nat) (g : Nat → Int32) (hO : gOK J g) (CH : CT) (f n : Nat) (hf : 8 ≤ f) (hn : 300 ≤ n) (hR : CC l G Z h q ad J g f n CH) (Q : QS) (a1 : Int32) (a2 : Int32) (Q' : QS) (r : Int32) (hE : E_r_sequence J g CH Q a1 a2 Q' r) : CiZ l yX2_sequence (Cond.code yX2_sequence cX2_sequence 6 (some .int) :: aW) { frames := f + 6, cells := 0, slots := 0, locals := n + 143 } Z G (qW G h q ad J g Q) [.ref h, .int a1, .int a2] (fun (r9 : Int32) (_ : Unit) => r9 = r) (fun (_ : Unit) => qW G h q ad J g Q') 0 0 := by
  refine ofBZ (y := yX2_sequence) (G := G) (cc := cX2_sequence) (maxL := 6) (ret := (some .int)) (Qc := fun A => va_Qi (fun (r9 : Int32) (_ : Unit) => r9 = r) (oB G A (fun (_ : Unit) => qW G h q ad J g Q')) A) (by decide) rfl ?_
  intro p e s m below meth c A F hK hZ hA hP hD
  have hS : va_S A s.heap s.heap [] := va_S.rf
  have hx := F.1.1; have hb := F.1.2.1; have hml := F.1.2.2.1; have hts := F.1.2.2.2.2
  have hown : s.vm.findClass RX2 = some m.cls := F.1.2.2.2.1
  have hl := lv_entry ([.ref h, .int a1, .int a2]) (n := 6) (Nat.le_of_ble_eq_true rfl)
  rw [lg_entry_eq]
  generalize (lg_sl ([.ref h, .int a1, .int a2]) ++ List.replicate (6 - (lg_sl ([.ref h, .int a1, .int a2])).length) Slot.unset).toArray = ls at hl ⊢
  have hl : lv_has ls 6 [(0, .ref h), (1, .int a1), (2, .int a2)] := hl
  unfold E_r_sequence at hE
  refine lv_aload_n hx hb dX2_sequence_0 rfl (lv_at hl 0 rfl) ?_
  refine lv_bipush (v := 10) hx hb dX2_sequence_1 (by decide) ?_
  obtain ⟨Q1, r2, hg, hE⟩ := hE
  refine kA_i (va_runV (As := [.int 10]) (rest := []) F.1 (e_r_add l G h q ad J g hO Q 10 Q1 r2 hg _) (cwV 1 hts (aw_V w_314 w_316 ws_X2_add w_7 w_317) rfl rfl rfl (by decide +kernel) ⟨by dsimp only; omega, by dsimp only; omega⟩) ⟨cS_blind, va_recv (q := (RX2, TX2, 10)) (ci := 2) (q0 := 0) hK.1 hP rfl qW_0, cS_pre hP hD hK⟩ rfl rfl hl.1 rfl (lv_room (Nat.le_of_ble_eq_true rfl)) dX2_sequence_3 ⟨Nat.le_refl _, Nat.le_refl _⟩) hD hS hA (fun r9 u0 H locs hp hP hD hS => ?_)
  have hp := hp.symm; subst hp
  refine lv_istore_n hx hb dX2_sequence_6 rfl hl (by decide) rfl (fun ls hl => ?_)
  have hl : lv_has ls 6 [(3, .int r2), (0, .ref h), (1, .int a1), (2, .int a2)] := hl
  refine lv_iload_n hx hb dX2_sequence_7 rfl (lv_at hl 0 rfl) ?_
  refine lv_istore hx hb dX2_sequence_8 hl (by decide) rfl (fun ls hl => ?_)
  have hl : lv_has ls 6 [(4, .int r2), (3, .int r2), (0, .ref h), (1, .int a1), (2, .int a2)] := hl
  refine lv_iconst (v := 0) hx hb dX2_sequence_10 (by decide) ?_
  refine lv_istore hx hb dX2_sequence_11 hl (by decide) rfl (fun ls hl => ?_)
  have hl : lv_has ls 6 [(5, .int 0), (4, .int r2), (3, .int r2), (0, .ref h), (1, .int a1), (2, .int a2)] := hl
  obtain ⟨nf, hE⟩ := hE
  exact L_r_sequence_13_ok hO hf hn hR F hK hA hZ nf Q1 a1 a2 r2 r2 0 _ _ ls (lv_sub hl [0, 1, 2, 3, 4, 5] rfl) hE hP hD hS

theorem dX2_choice_43 : decode cX2_choice 43 = .ok (.aload_n 0, 1) := by decide +kernel
theorem dX2_choice_44 : decode cX2_choice 44 = .ok (.dup, 1) := by decide +kernel
theorem dX2_choice_45 : decode cX2_choice 45 = .ok (.getfield 40, 3) := by decide +kernel
theorem dX2_choice_48 : decode cX2_choice 48 = .ok (.iconst 1, 1) := by decide +kernel
theorem dX2_choice_49 : decode cX2_choice 49 = .ok (.iadd, 1) := by decide +kernel
theorem dX2_choice_50 : decode cX2_choice 50 = .ok (.putfield 40, 3) := by decide +kernel
theorem dX2_choice_53 : decode cX2_choice 53 = .ok (.aload_n 0, 1) := by decide +kernel
theorem dX2_choice_54 : decode cX2_choice 54 = .ok (.iload_n 1, 1) := by decide +kernel
theorem dX2_choice_55 : decode cX2_choice 55 = .ok (.iload_n 2, 1) := by decide +kernel
theorem dX2_choice_56 : decode cX2_choice 56 = .ok (.invokevirtual 49, 3) := by decide +kernel
theorem dX2_choice_59 : decode cX2_choice 59 = .ok (.istore 6, 2) := by decide +kernel
theorem dX2_choice_61 : decode cX2_choice 61 = .ok (.aload_n 0, 1) := by decide +kernel
theorem dX2_choice_62 : decode cX2_choice 62 = .ok (.getfield 15, 3) := by decide +kernel
theorem dX2_choice_65 : decode cX2_choice 65 = .ok (.iload 4, 2) := by decide +kernel
theorem dX2_choice_67 : decode cX2_choice 67 = .ok (.invokevirtual 55, 3) := by decide +kernel
theorem dX2_choice_70 : decode cX2_choice 70 = .ok (.iload 6, 2) := by decide +kernel
theorem dX2_choice_72 : decode cX2_choice 72 = .ok (.putfield 59, 3) := by decide +kernel
theorem dX2_choice_75 : decode cX2_choice 75 = .ok (.iload 6, 2) := by decide +kernel
theorem dX2_choice_77 : decode cX2_choice 77 = .ok (.istore 4, 2) := by decide +kernel
theorem dX2_choice_79 : decode cX2_choice 79 = .ok (.iinc 5 1, 3) := by decide +kernel
theorem dX2_choice_82 : decode cX2_choice 82 = .ok (.goto (-69), 3) := by decide +kernel
def L_r_choice_13 (J : Nat) (g : Nat → Int32) (CH : CT) : Nat → QS → Int32 → Int32 → Int32 → Int32 → Int32 → QS → Int32 → Prop
  | 0, _, _, _, _, _, _, _, _ => False
  | nf + 1, Q, x1, x2, x3, x4, x5, Q', r => if 14 ≤ x5 then (Q' = Q ∧ r = x3) else (if (Q.1 3) = 0 then (if (rw_at J g (Q.1 2)) = 124 then (∃ (Q6 : QS) (r7 : Int32), E_r_sequence J g CH (rf Q 2 ((Q.1 2) + 1)) x1 x2 Q6 r7 ∧ ((0 < Q6.2.2.1 ∧ Q6.2.2.1 ≤ 32) ∧ (L_r_choice_13 J g CH nf (rn Q6 (pn_ix Q6.2.2.1 x4) 3 r7) x1 x2 x3 r7 (x5 + 1) Q' r))) else (Q' = Q ∧ r = x3)) else (Q' = Q ∧ r = x3))
set_option maxHeartbeats 4000000 in
set_option maxRecDepth 100000 in
theorem L_r_choice_13_ok {l : Launch} {G : PG} {Z : ZZ} {h : Nat} {q ad : Nat → Nat} {J : Nat} {g : Nat → Int32} (hO : gOK J g) {CH : CT} {f n : Nat} (hf : 8 ≤ f) (hn : 300 ≤ n) (hR : CC l G Z h q ad J g f n CH) {a1 : Int32} {a2 : Int32} {Q' : QS} {r : Int32} {p : Program} {e : Env} {s : State} {m : MethodId} {below : List Frame} {meth : Method} {c : Code} {A : Nat → Prop} (F : bF p s m meth c cX2_choice 7 (some .int) ([.ref h, .int a1, .int a2] : List Value).toArray yX2_choice) (hK : pg_K G s) (hA : ∀ q, s.heap.size ≤ q → A q) (hZ : zF Z A s s.heap) : ∀ (nf : Nat) (Q : QS) (x1 : Int32) (x2 : Int32) (x3 : Int32) (x4 : Int32) (x5 : Int32) (H : Heap) (locs : List Loc) (ls : Array Slot), lv_has ls 7 [(5, .int x5), (4, .int x4), (3, .int x3), (0, .ref h), (1, .int x1), (2, .int x2)] → L_r_choice_13 J g CH nf Q x1 x2 x3 x4 x5 Q' r → va_P G.1 vwCl (qW G h q ad J g Q) H → va_D A (qW G h q ad J g Q) → va_S A s.heap H locs → W p l e { frames := f + 7, cells := 0, slots := 0, locals := n + 168 } s m ([.ref h, .int a1, .int a2] : List Value).toArray below meth c H locs 0 0 (MQ below (va_Qi (fun (r9 : Int32) (_ : Unit) => r9 = r) (oB G A (fun (_ : Unit) => qW G h q ad J g Q')) A) ([.ref h, .int a1, .int a2] : List Value).toArray s 0 0 A) (F0 m 13 ls []) := by
  have hx := F.1.1; have hb := F.1.2.1; have hml := F.1.2.2.1; have hts := F.1.2.2.2.2
  have hown : s.vm.findClass RX2 = some m.cls := F.1.2.2.2.1
  intro nf
  induction nf with
  | zero => intro Q x1 x2 x3 x4 x5 H locs ls hl hE; exact hE.elim
  | succ nf ih =>
    intro Q x1 x2 x3 x4 x5 H locs ls hl hE hP hD hS
    unfold L_r_choice_13 at hE
    refine lv_iload hx hb dX2_choice_13 (lv_at hl 0 rfl) ?_
    refine lv_bipush (v := 14) hx hb dX2_choice_15 (by decide) ?_
    refine lv_icmp_ge (tgt := 85) hx hb dX2_choice_17 (by decide) (fun h3 => ?_) (fun h3 => ?_)
    ·
      rw [if_pos h3] at hE
      refine lv_iload_n hx hb dX2_choice_85 rfl (lv_at hl 2 rfl) ?_
      obtain ⟨rfl, hr9⟩ := hE
      exact en_i F hS _ () (by rfl) hr9.symm hP hD (Nat.le_refl _) (Nat.le_refl _) dX2_choice_86
    ·
      rw [if_neg h3] at hE
      refine lv_aload_n hx hb dX2_choice_20 rfl (lv_at hl 3 rfl) ?_
      refine va_get (D := G.1) (ci := 2) (C := RX2) (T := TX2) (N := 10) hx hb hts inX2 hown hK.1 hP 0 qW_0 rfl 3 (by decide) (hts _ w_278) (fun _ h9 => h9) rF_3 dX2_choice_21 ?_
      refine lv_if_ne (tgt := 85) hx hb dX2_choice_24 (by decide) (fun h4 => ?_) (fun h4 => ?_)
      ·
        rw [if_neg h4] at hE
        refine lv_iload_n hx hb dX2_choice_85 rfl (lv_at hl 2 rfl) ?_
        obtain ⟨rfl, hr9⟩ := hE
        exact en_i F hS _ () (by rfl) hr9.symm hP hD (Nat.le_refl _) (Nat.le_refl _) dX2_choice_86
      ·
        rw [if_pos h4] at hE
        refine lv_aload_n hx hb dX2_choice_27 rfl (lv_at hl 3 rfl) ?_
        refine va_get (D := G.1) (ci := 2) (C := RX2) (T := TX2) (N := 10) hx hb hts inX2 hown hK.1 hP 0 qW_0 rfl 0 (by decide) (hts _ w_275) (fun _ h9 => h9) rF_0 dX2_choice_28 ?_
        refine lv_aload_n hx hb dX2_choice_31 rfl (lv_at hl 3 rfl) ?_
        refine va_get (D := G.1) (ci := 2) (C := RX2) (T := TX2) (N := 10) hx hb hts inX2 hown hK.1 hP 0 qW_0 rfl 2 (by decide) (hts _ w_277) (fun _ h9 => h9) rF_2 dX2_choice_32 ?_
        refine kp_V (va_runV (As := [.int (Q.1 2)]) (rest := []) F.1 (v_row_at l G _ _ _ J g (Q.1 2) hO.1 (by decide) hO.2 _) (cwV 1 hts (aw_V w_335 w_336 w_337 w_3 w_338) rfl rfl rfl (by decide +kernel) ⟨by dsimp only; omega, by dsimp only; omega⟩) ⟨cS_blind, va_recv (q := (RX3, TX3, 2)) (ci := 3) (q0 := 0) hK.1 (qP_row hP) rfl rfl, cS_pre (qP_row hP) (qD_row hD) hK⟩ rfl rfl hl.1 rfl (lv_room (Nat.le_of_ble_eq_true rfl)) dX2_choice_35 ⟨Nat.le_refl _, Nat.le_refl _⟩) (fun v9 hp => ?_)
        subst hp
        refine lv_bipush (v := 124) hx hb dX2_choice_38 (by decide) ?_
        refine lv_icmp_ne (tgt := 85) hx hb dX2_choice_40 (by decide) (fun h5 => ?_) (fun h5 => ?_)
        ·
          rw [if_neg h5] at hE
          refine lv_iload_n hx hb dX2_choice_85 rfl (lv_at hl 2 rfl) ?_
          obtain ⟨rfl, hr9⟩ := hE
          exact en_i F hS _ () (by rfl) hr9.symm hP hD (Nat.le_refl _) (Nat.le_refl _) dX2_choice_86
        ·
          rw [if_pos h5] at hE
          refine lv_aload_n hx hb dX2_choice_43 rfl (lv_at hl 3 rfl) ?_
          refine lv_dup hx hb dX2_choice_44 rfl ?_
          refine va_get (D := G.1) (ci := 2) (C := RX2) (T := TX2) (N := 10) hx hb hts inX2 hown hK.1 hP 0 qW_0 rfl 2 (by decide) (hts _ w_277) (fun _ h9 => h9) rF_2 dX2_choice_45 ?_
          refine lv_iconst (v := 1) hx hb dX2_choice_48 (by decide) ?_
          refine lv_iadd hx hb dX2_choice_49 ?_
          refine va_put (D := G.1) (ci := 2) (v := .int ((Q.1 2) + 1)) (ty := .int) (C := RX2) (T := TX2) (N := 10) hx hb hts inX2 tyX2 tyX2_ok nmX2 hown hK.1 hP hD hS 0 qW_0 rfl 2 (by decide) (hts _ w_277) (fun _ h9 => h9) rfl (by decide +kernel) rfl rfl rF_l2 dX2_choice_50 (fun H locs hP hD hS => ?_)
          rw [qW_f2] at hP hD
          refine lv_aload_n hx hb dX2_choice_53 rfl (lv_at hl 3 rfl) ?_
          refine lv_iload_n hx hb dX2_choice_54 rfl (lv_at hl 4 rfl) ?_
          refine lv_iload_n hx hb dX2_choice_55 rfl (lv_at hl 5 rfl) ?_
          obtain ⟨Q6, r7, hg, hE⟩ := hE
          refine kA_i (va_runV (As := [.int x1, .int x2]) (rest := []) F.1 (e_r_sequence l G Z h q ad J g hO CH f n hf hn hR (rf Q 2 ((Q.1 2) + 1)) x1 x2 Q6 r7 hg _) (cwV 2 hts (aw_V w_326 w_328 ws_X2_sequence w_7 w_329) rfl rfl rfl (by decide +kernel) ⟨by dsimp only; omega, by dsimp only; omega⟩) ⟨zS_blind, va_recv (q := (RX2, TX2, 10)) (ci := 2) (q0 := 0) hK.1 hP rfl qW_0, zS_pre hP hD hK hZ hS (kA_F hD hS hA)⟩ rfl rfl hl.1 rfl (lv_room (Nat.le_of_ble_eq_true rfl)) dX2_choice_56 ⟨Nat.le_refl _, Nat.le_refl _⟩) hD hS hA (fun r9 u0 H locs hp hP hD hS => ?_)
          have hp := hp.symm; subst hp
          refine lv_istore hx hb dX2_choice_59 hl (by decide) rfl (fun ls hl => ?_)
          have hl : lv_has ls 7 [(6, .int r7), (5, .int x5), (4, .int x4), (3, .int x3), (0, .ref h), (1, .int x1), (2, .int x2)] := hl
          refine lv_aload_n hx hb dX2_choice_61 rfl (lv_at hl 4 rfl) ?_
          refine va_get (D := G.1) (ci := 2) (C := RX2) (T := TX2) (N := 10) hx hb hts inX2 hown hK.1 hP 0 qW_0 rfl 1 (by decide) (hts _ w_276) (fun _ h9 => h9) rF_1 dX2_choice_62 ?_
          refine lv_iload hx hb dX2_choice_65 (lv_at hl 2 rfl) ?_
          obtain ⟨hc8, hE⟩ := hE
          refine kp_V (va_runV (As := [.int x4]) (rest := []) F.1 (v_prog_node l G _ _ Q6.2.2.1 _ _ _ ad _ _ _ x4 hc8.1 hc8.2 _) (cwV 1 hts (aw_V w_339 w_340 w_341 w_4 w_342) rfl rfl rfl (by decide +kernel) ⟨by dsimp only; omega, by dsimp only; omega⟩) ⟨cS_blind, va_recv (q := (RX1, TX1, 5)) (ci := 1) (q0 := 0) hK.1 (qP_prog (Q := Q6) hP) rfl rfl, cS_pre (qP_prog (Q := Q6) hP) (qD_prog (Q := Q6) hD) hK⟩ rfl rfl hl.1 rfl (lv_room (Nat.le_of_ble_eq_true rfl)) dX2_choice_67 ⟨Nat.le_refl _, Nat.le_refl _⟩) (fun v9 hp => ?_)
          subst hp
          refine lv_iload hx hb dX2_choice_70 (lv_at hl 0 rfl) ?_
          refine va_putN (D := G.1) (ci := 0) (v := .int r7) (ty := .int) (C := RX0) (T := TX0) (N := 13) hx hb hts inX0 tyX0 tyX0_ok nmX0 hown hK.1 hP hD hS (5 + (pn_ix Q6.2.2.1 x4)) (qW_nd (pn_lt hc8.1 hc8.2)) rfl 3 (by decide) (hK.2.1.use w_70) (fun _ h9 => h9) rfl (by decide +kernel) rfl rfl (Nat.le_of_ble_eq_true rfl) dX2_choice_72 (fun H locs hP hD hS => ?_)
          rw [qW_n3 (pn_lt hc8.1 hc8.2)] at hP hD
          refine lv_iload hx hb dX2_choice_75 (lv_at hl 0 rfl) ?_
          refine lv_istore hx hb dX2_choice_77 hl (by decide) rfl (fun ls hl => ?_)
          have hl : lv_has ls 7 [(4, .int r7), (6, .int r7), (5, .int x5), (3, .int x3), (0, .ref h), (1, .int x1), (2, .int x2)] := hl
          refine lv_iinc (v := (x5 + 1)) (k := 2) hx hb dX2_choice_79 hl rfl rfl (by decide) rfl (fun ls hl => ?_)
          have hl : lv_has ls 7 [(5, .int (x5 + 1)), (4, .int r7), (6, .int r7), (3, .int x3), (0, .ref h), (1, .int x1), (2, .int x2)] := hl
          refine lv_goto (tgt := 13) hx hb dX2_choice_82 (by decide) ?_
          exact ih (rn Q6 (pn_ix Q6.2.2.1 x4) 3 r7) x1 x2 x3 r7 (x5 + 1) _ _ ls (lv_sub hl [0, 1, 3, 4, 5, 6] rfl) hE hP hD hS
def E_r_choice (J : Nat) (g : Nat → Int32) (CH : CT) (Q : QS) (a1 : Int32) (a2 : Int32) (Q' : QS) (r : Int32) : Prop := ∃ (Q1 : QS) (r2 : Int32), E_r_sequence J g CH Q a1 a2 Q1 r2 ∧ (∃ nf : Nat, L_r_choice_13 J g CH nf Q1 a1 a2 r2 r2 0 Q' r)
set_option maxHeartbeats 4000000 in
set_option maxRecDepth 100000 in
theorem e_r_choice (l : Launch) (G : PG) (Z : ZZ) (h : Nat) (q ad : Nat → Nat) (J : Nat) (g : Nat → Int32) (hO : gOK J g) (CH : CT) (f n : Nat) (hf : 8 ≤ f) (hn : 300 ≤ n) (hR : CC l G Z h q ad J g f n CH) (Q : QS) (a1 : Int32) (a2 : Int32) (Q' : QS) (r : Int32) (hE : E_r_choice J g CH Q a1 a2 Q' r) : CiZ l yX2_choice (Cond.code yX2_choice cX2_choice 7 (some .int) :: aW) { frames := f + 7, cells := 0, slots := 0, locals := n + 168 } Z G (qW G h q ad J g Q) [.ref h, .int a1, .int a2] (fun (r9 : Int32) (_ : Unit) => r9 = r) (fun (_ : Unit) => qW G h q ad J g Q') 0 0 := by
  refine ofBZ (y := yX2_choice) (G := G) (cc := cX2_choice) (maxL := 7) (ret := (some .int)) (Qc := fun A => va_Qi (fun (r9 : Int32) (_ : Unit) => r9 = r) (oB G A (fun (_ : Unit) => qW G h q ad J g Q')) A) (by decide) rfl ?_
  intro p e s m below meth c A F hK hZ hA hP hD
  have hS : va_S A s.heap s.heap [] := va_S.rf
  have hx := F.1.1; have hb := F.1.2.1; have hml := F.1.2.2.1; have hts := F.1.2.2.2.2
  have hown : s.vm.findClass RX2 = some m.cls := F.1.2.2.2.1
  have hl := lv_entry ([.ref h, .int a1, .int a2]) (n := 7) (Nat.le_of_ble_eq_true rfl)
  rw [lg_entry_eq]
  generalize (lg_sl ([.ref h, .int a1, .int a2]) ++ List.replicate (7 - (lg_sl ([.ref h, .int a1, .int a2])).length) Slot.unset).toArray = ls at hl ⊢
  have hl : lv_has ls 7 [(0, .ref h), (1, .int a1), (2, .int a2)] := hl
  unfold E_r_choice at hE
  refine lv_aload_n hx hb dX2_choice_0 rfl (lv_at hl 0 rfl) ?_
  refine lv_iload_n hx hb dX2_choice_1 rfl (lv_at hl 1 rfl) ?_
  refine lv_iload_n hx hb dX2_choice_2 rfl (lv_at hl 2 rfl) ?_
  obtain ⟨Q1, r2, hg, hE⟩ := hE
  refine kA_i (va_runV (As := [.int a1, .int a2]) (rest := []) F.1 (e_r_sequence l G Z h q ad J g hO CH f n hf hn hR Q a1 a2 Q1 r2 hg _) (cwV 2 hts (aw_V w_326 w_328 ws_X2_sequence w_7 w_329) rfl rfl rfl (by decide +kernel) ⟨by dsimp only; omega, by dsimp only; omega⟩) ⟨zS_blind, va_recv (q := (RX2, TX2, 10)) (ci := 2) (q0 := 0) hK.1 hP rfl qW_0, zS_pre hP hD hK hZ hS (kA_F hD hS hA)⟩ rfl rfl hl.1 rfl (lv_room (Nat.le_of_ble_eq_true rfl)) dX2_choice_3 ⟨Nat.le_refl _, Nat.le_refl _⟩) hD hS hA (fun r9 u0 H locs hp hP hD hS => ?_)
  have hp := hp.symm; subst hp
  refine lv_istore_n hx hb dX2_choice_6 rfl hl (by decide) rfl (fun ls hl => ?_)
  have hl : lv_has ls 7 [(3, .int r2), (0, .ref h), (1, .int a1), (2, .int a2)] := hl
  refine lv_iload_n hx hb dX2_choice_7 rfl (lv_at hl 0 rfl) ?_
  refine lv_istore hx hb dX2_choice_8 hl (by decide) rfl (fun ls hl => ?_)
  have hl : lv_has ls 7 [(4, .int r2), (3, .int r2), (0, .ref h), (1, .int a1), (2, .int a2)] := hl
  refine lv_iconst (v := 0) hx hb dX2_choice_10 (by decide) ?_
  refine lv_istore hx hb dX2_choice_11 hl (by decide) rfl (fun ls hl => ?_)
  have hl : lv_has ls 7 [(5, .int 0), (4, .int r2), (3, .int r2), (0, .ref h), (1, .int a1), (2, .int a2)] := hl
  obtain ⟨nf, hE⟩ := hE
  exact L_r_choice_13_ok hO hf hn hR F hK hA hZ nf Q1 a1 a2 r2 r2 0 _ _ ls (lv_sub hl [0, 1, 2, 3, 4, 5] rfl) hE hP hD hS

theorem dX2_readPattern_49 : decode cX2_readPattern 49 = .ok (.iconst 0, 1) := by decide +kernel
def E_r_readPattern (J : Nat) (g : Nat → Int32) (CH : CT) (Q : QS)  (Q' : QS) (r : Int32) : Prop := ∃ Q1 : QS, E_r_prestart J g Q Q1 0 ∧ (∃ (Q3 : QS) (r4 : Int32), E_r_add J g Q1 1 Q3 r4 ∧ (∃ (Q5 : QS) (r6 : Int32), E_r_choice J g CH Q3 r4 0 Q5 r6 ∧ (if (Q5.1 3) = 0 then (if (Q5.1 2) = (nI J) then (Q' = (rf Q5 12 r6) ∧ r = 1) else (Q' = (rf Q5 12 r6) ∧ r = 0)) else (Q' = (rf Q5 12 r6) ∧ r = 0))))
set_option maxHeartbeats 4000000 in
set_option maxRecDepth 100000 in
theorem e_r_readPattern (l : Launch) (G : PG) (Z : ZZ) (h : Nat) (q ad : Nat → Nat) (J : Nat) (g : Nat → Int32) (hO : gOK J g) (CH : CT) (f n : Nat) (hf : 8 ≤ f) (hn : 300 ≤ n) (hR : CC l G Z h q ad J g f n CH) (Q : QS)  (Q' : QS) (r : Int32) (hE : E_r_readPattern J g CH Q Q' r) : CiZ l yX2_readPattern (Cond.code yX2_readPattern cX2_readPattern 1 (some .boolean) :: aW) { frames := f + 8, cells := 0, slots := 0, locals := n + 194 } Z G (qW G h q ad J g Q) [.ref h] (fun (r9 : Int32) (_ : Unit) => r9 = r) (fun (_ : Unit) => qW G h q ad J g Q') 0 0 := by
  refine ofBZ (y := yX2_readPattern) (G := G) (cc := cX2_readPattern) (maxL := 1) (ret := (some .boolean)) (Qc := fun A => va_Qi (fun (r9 : Int32) (_ : Unit) => r9 = r) (oB G A (fun (_ : Unit) => qW G h q ad J g Q')) A) (by decide) rfl ?_
  intro p e s m below meth c A F hK hZ hA hP hD
  have hS : va_S A s.heap s.heap [] := va_S.rf
  have hx := F.1.1; have hb := F.1.2.1; have hml := F.1.2.2.1; have hts := F.1.2.2.2.2
  have hown : s.vm.findClass RX2 = some m.cls := F.1.2.2.2.1
  have hl := lv_entry ([.ref h]) (n := 1) (Nat.le_of_ble_eq_true rfl)
  rw [lg_entry_eq]
  generalize (lg_sl ([.ref h]) ++ List.replicate (1 - (lg_sl ([.ref h])).length) Slot.unset).toArray = ls at hl ⊢
  have hl : lv_has ls 1 [(0, .ref h)] := hl
  unfold E_r_readPattern at hE
  refine lv_aload_n hx hb dX2_readPattern_0 rfl (lv_at hl 0 rfl) ?_
  refine va_get (D := G.1) (ci := 2) (C := RX2) (T := TX2) (N := 10) hx hb hts inX2 hown hK.1 hP 0 qW_0 rfl 1 (by decide) (hts _ w_276) (fun _ h9 => h9) rF_1 dX2_readPattern_1 ?_
  obtain ⟨Q1, hg, hE⟩ := hE
  refine kA_v (va_runV (As := []) (rest := []) F.1 (e_r_prestart l G h q ad J g hO Q Q1 0 hg _) (cwV 0 hts (aw_V w_310 w_311 w_312 w_4 w_313) rfl rfl rfl (by decide +kernel) ⟨by dsimp only; omega, by dsimp only; omega⟩) ⟨cS_blind, va_recv (q := (RX1, TX1, 5)) (ci := 1) (q0 := 3) hK.1 hP rfl qW_3, cS_pre hP hD hK⟩ rfl rfl hl.1 rfl (lv_room (Nat.le_of_ble_eq_true rfl)) dX2_readPattern_4 ⟨Nat.le_refl _, Nat.le_refl _⟩) hD hS hA (fun u0 H locs hp hP hD hS => ?_)
  refine lv_aload_n hx hb dX2_readPattern_7 rfl (lv_at hl 0 rfl) ?_
  refine va_get (D := G.1) (ci := 2) (C := RX2) (T := TX2) (N := 10) hx hb hts inX2 hown hK.1 hP 0 qW_0 rfl 1 (by decide) (hts _ w_276) (fun _ h9 => h9) rF_1 dX2_readPattern_8 ?_
  refine lv_aload_n hx hb dX2_readPattern_11 rfl (lv_at hl 0 rfl) ?_
  refine lv_aload_n hx hb dX2_readPattern_12 rfl (lv_at hl 0 rfl) ?_
  refine lv_iconst (v := 1) hx hb dX2_readPattern_13 (by decide) ?_
  obtain ⟨Q3, r4, hg, hE⟩ := hE
  refine kA_i (va_runV (As := [.int 1]) (rest := [.ref h, .ref (q 1)]) F.1 (e_r_add l G h q ad J g hO Q1 1 Q3 r4 hg _) (cwV 1 hts (aw_V w_314 w_316 ws_X2_add w_7 w_317) rfl rfl rfl (by decide +kernel) ⟨by dsimp only; omega, by dsimp only; omega⟩) ⟨cS_blind, va_recv (q := (RX2, TX2, 10)) (ci := 2) (q0 := 0) hK.1 hP rfl qW_0, cS_pre hP hD hK⟩ rfl rfl hl.1 rfl (lv_room (Nat.le_of_ble_eq_true rfl)) dX2_readPattern_14 ⟨Nat.le_refl _, Nat.le_refl _⟩) hD hS hA (fun r9 u0 H locs hp hP hD hS => ?_)
  have hp := hp.symm; subst hp
  refine lv_iconst (v := 0) hx hb dX2_readPattern_17 (by decide) ?_
  obtain ⟨Q5, r6, hg, hE⟩ := hE
  refine kA_i (va_runV (As := [.int r4, .int 0]) (rest := [.ref (q 1)]) F.1 (e_r_choice l G Z h q ad J g hO CH f n hf hn hR Q3 r4 0 Q5 r6 hg _) (cwV 2 hts (aw_V w_322 w_324 ws_X2_choice w_7 w_325) rfl rfl rfl (by decide +kernel) ⟨by dsimp only; omega, by dsimp only; omega⟩) ⟨zS_blind, va_recv (q := (RX2, TX2, 10)) (ci := 2) (q0 := 0) hK.1 hP rfl qW_0, zS_pre hP hD hK hZ hS (kA_F hD hS hA)⟩ rfl rfl hl.1 rfl (lv_room (Nat.le_of_ble_eq_true rfl)) dX2_readPattern_18 ⟨Nat.le_refl _, Nat.le_refl _⟩) hD hS hA (fun r9 u0 H locs hp hP hD hS => ?_)
  have hp := hp.symm; subst hp
  refine va_putN (D := G.1) (ci := 1) (v := .int r6) (ty := .int) (C := RX1) (T := TX1) (N := 5) hx hb hts inX1 tyX1 tyX1_ok nmX1 hown hK.1 hP hD hS 3 qW_3 rfl 2 (by decide) (hK.2.1.use w_120) (fun _ h9 => h9) rfl (by decide +kernel) rfl rfl pF_l2 dX2_readPattern_21 (fun H locs hP hD hS => ?_)
  rw [qW_p2] at hP hD
  refine lv_aload_n hx hb dX2_readPattern_24 rfl (lv_at hl 0 rfl) ?_
  refine va_get (D := G.1) (ci := 2) (C := RX2) (T := TX2) (N := 10) hx hb hts inX2 hown hK.1 hP 0 qW_0 rfl 3 (by decide) (hts _ w_278) (fun _ h9 => h9) rF_3 dX2_readPattern_25 ?_
  refine tp_i (Q5.1 3) rfl ?_
  refine lv_if_ne (tgt := 49) hx hb dX2_readPattern_28 (by decide) (fun h7 => ?_) (fun h7 => ?_)
  ·
    rw [if_neg h7] at hE
    refine lv_iconst (v := 0) hx hb dX2_readPattern_49 (by decide) ?_
    obtain ⟨rfl, hr9⟩ := hE
    exact en_i F hS _ () (by rfl) hr9.symm hP hD (Nat.le_refl _) (Nat.le_refl _) dX2_readPattern_50
  ·
    rw [if_pos h7] at hE
    refine lv_aload_n hx hb dX2_readPattern_31 rfl (lv_at hl 0 rfl) ?_
    refine va_get (D := G.1) (ci := 2) (C := RX2) (T := TX2) (N := 10) hx hb hts inX2 hown hK.1 hP 0 qW_0 rfl 2 (by decide) (hts _ w_277) (fun _ h9 => h9) rF_2 dX2_readPattern_32 ?_
    refine tp_i (Q5.1 2) rfl ?_
    refine lv_aload_n hx hb dX2_readPattern_35 rfl (lv_at hl 0 rfl) ?_
    refine va_get (D := G.1) (ci := 2) (C := RX2) (T := TX2) (N := 10) hx hb hts inX2 hown hK.1 hP 0 qW_0 rfl 0 (by decide) (hts _ w_275) (fun _ h9 => h9) rF_0 dX2_readPattern_36 ?_
    refine kp_V (va_runV (As := []) (rest := [.int (Q5.1 2)]) F.1 (v_row_size l G _ _ _ _ _ _) (cwV 0 hts (aw_V w_334 w_258 w_259 w_3 w_260) rfl rfl rfl (by decide +kernel) ⟨by dsimp only; omega, by dsimp only; omega⟩) ⟨cS_blind, va_recv (q := (RX3, TX3, 2)) (ci := 3) (q0 := 0) hK.1 (qP_row hP) rfl rfl, cS_pre (qP_row hP) (qD_row hD) hK⟩ rfl rfl hl.1 rfl (lv_room (Nat.le_of_ble_eq_true rfl)) dX2_readPattern_39 ⟨Nat.le_refl _, Nat.le_refl _⟩) (fun v9 hp => ?_)
    subst hp
    refine lv_icmp_ne (tgt := 49) hx hb dX2_readPattern_42 (by decide) (fun h8 => ?_) (fun h8 => ?_)
    ·
      rw [if_neg h8] at hE
      refine lv_iconst (v := 0) hx hb dX2_readPattern_49 (by decide) ?_
      obtain ⟨rfl, hr9⟩ := hE
      exact en_i F hS _ () (by rfl) hr9.symm hP hD (Nat.le_refl _) (Nat.le_refl _) dX2_readPattern_50
    ·
      rw [if_pos h8] at hE
      refine lv_iconst (v := 1) hx hb dX2_readPattern_45 (by decide) ?_
      refine lv_goto (tgt := 50) hx hb dX2_readPattern_46 (by decide) ?_
      obtain ⟨rfl, hr9⟩ := hE
      exact en_i F hS _ () (by rfl) hr9.symm hP hD (Nat.le_refl _) (Nat.le_refl _) dX2_readPattern_50

/-- choice, k brackets in one another -/
def CHk (J : Nat) (g : Nat → Int32) : Nat → CT
  | 0 => fun _ _ _ _ _ => False
  | k + 1 => fun Q a1 a2 Q' r => E_r_choice J g (CHk J g k) Q a1 a2 Q' r
def cFr : Nat → Nat
  | 0 => 8
  | k + 1 => cFr k + 7
def cLo : Nat → Nat
  | 0 => 300
  | k + 1 => cLo k + 168
theorem cFr_le : ∀ k, 8 ≤ cFr k
  | 0 => Nat.le_refl _
  | k + 1 => Nat.le_trans (cFr_le k) (Nat.le_add_right _ _)
theorem cLo_le : ∀ k, 300 ≤ cLo k
  | 0 => Nat.le_refl _
  | k + 1 => Nat.le_trans (cLo_le k) (Nat.le_add_right _ _)
theorem CHk_ok (l : Launch) (G : PG) (Z : ZZ) (h : Nat) (q ad : Nat → Nat) (J : Nat) (g : Nat → Int32) (hO : gOK J g) : ∀ k, CC l G Z h q ad J g (cFr k) (cLo k) (CHk J g k)
  | 0 => fun _ _ _ _ _ hE => hE.elim
  | k + 1 => fun Q a1 a2 Q' r hE => e_r_choice l G Z h q ad J g hO (CHk J g k) (cFr k) (cLo k) (cFr_le k) (cLo_le k) (CHk_ok l G Z h q ad J g hO k) Q a1 a2 Q' r hE
def E_rp (J : Nat) (g : Nat → Int32) (Q Q' : QS) (r : Int32) : Prop := E_r_readPattern J g (CHk J g 6) Q Q' r
theorem e_rp (l : Launch) (G : PG) (Z : ZZ) (h : Nat) (q ad : Nat → Nat) (J : Nat) (g : Nat → Int32) (hO : gOK J g) (Q Q' : QS) (r : Int32) (hE : E_rp J g Q Q' r) : CiZ l yX2_readPattern (Cond.code yX2_readPattern cX2_readPattern 1 (some .boolean) :: aW) { frames := 58, cells := 0, slots := 0, locals := 1502 } Z G (qW G h q ad J g Q) [.ref h] (fun (r9 : Int32) (_ : Unit) => r9 = r) (fun (_ : Unit) => qW G h q ad J g Q') 0 0 := e_r_readPattern l G Z h q ad J g hO (CHk J g 6) (cFr 6) (cLo 6) (cFr_le 6) (cLo_le 6) (CHk_ok l G Z h q ad J g hO 6) Q Q' r hE
