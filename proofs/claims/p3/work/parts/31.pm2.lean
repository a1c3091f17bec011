/-! PatternMatcher: methods that answer or throw -/
theorem dX5_matches_15 : decode cX5_matches 15 = .ok (.aload_n 0, 1) := by decide +kernel
theorem dX5_matches_16 : decode cX5_matches 16 = .ok (.iconst 0, 1) := by decide +kernel
theorem dX5_matches_17 : decode cX5_matches 17 = .ok (.iconst 0, 1) := by decide +kernel
theorem dX5_matches_18 : decode cX5_matches 18 = .ok (.aload_n 0, 1) := by decide +kernel
theorem dX5_matches_19 : decode cX5_matches 19 = .ok (.getfield 20, 3) := by decide +kernel
theorem dX5_matches_22 : decode cX5_matches 22 = .ok (.invokevirtual 90, 3) := by decide +kernel
theorem dX5_matches_25 : decode cX5_matches 25 = .ok (.invokevirtual 94, 3) := by decide +kernel
theorem dX5_matches_28 : decode cX5_matches 28 = .ok (.ireturn, 1) := by decide +kernel
def E_p_matches (C : CS)  (C' : CS) (r : Int32) : Prop := if (kI C 4) = 0 then (False) else (∃ (C2 : CS) (r3 : Int32), E_p_match C 0 0 (nI (tJ (kT C))) C2 r3 ∧ (narrow .boolean (.int r3) = .int r3 ∧ C' = C2 ∧ r = r3))
set_option maxHeartbeats 4000000 in
set_option maxRecDepth 100000 in
theorem e_p_matches (l : Launch) (G : PG) (h : Nat) (u : Nat → Nat) (C : CS)  (C' : CS) (r : Int32) (hE : E_p_matches C C' r) : Ci l yX5_matches (Cond.code yX5_matches cX5_matches 1 (some .boolean) :: aW) { frames := 57, cells := 0, slots := 0, locals := 1497 } G (pW G h u C) [.ref h] (fun (r9 : Int32) (_ : Unit) => r9 = r) (fun (_ : Unit) => pW G h u C') 0 0 := by
  refine ofB (y := yX5_matches) (G := G) (cc := cX5_matches) (maxL := 1) (ret := (some .boolean)) (Qc := fun A => va_Qi (fun (r9 : Int32) (_ : Unit) => r9 = r) (oB G A (fun (_ : Unit) => pW G h u C')) A) (by decide) rfl ?_
  intro p e s m below meth c A F hK hA hP hD
  have hS : va_S A s.heap s.heap [] := va_S.rf
  have hx := F.1.1; have hb := F.1.2.1; have hml := F.1.2.2.1; have hts := F.1.2.2.2.2
  have hown : s.vm.findClass RX5 = some m.cls := F.1.2.2.2.1
  have hl := lv_entry ([.ref h]) (n := 1) (Nat.le_of_ble_eq_true rfl)
  rw [lg_entry_eq]
  generalize (lg_sl ([.ref h]) ++ List.replicate (1 - (lg_sl ([.ref h])).length) Slot.unset).toArray = ls at hl ⊢
  have hl : lv_has ls 1 [(0, .ref h)] := hl
  unfold E_p_matches at hE
  refine lv_aload_n hx hb dX5_matches_0 rfl (lv_at hl 0 rfl) ?_
  refine va_get (D := G.1) (ci := 5) (v := .int (kI C 4)) (C := RX5) (T := TX5) (N := 13) hx hb hts inX5 hown hK.1 hP 0 pW_0 rfl 4 (by decide) (hts _ w_194) (fun _ h9 => h9) rfl dX5_matches_1 ?_
  refine lv_if_ne (tgt := 15) hx hb dX5_matches_4 (by decide) (fun h1 => ?_) (fun h1 => ?_)
  ·
    rw [if_neg h1] at hE
    refine lv_aload_n hx hb dX5_matches_15 rfl (lv_at hl 0 rfl) ?_
    refine lv_iconst (v := 0) hx hb dX5_matches_16 (by decide) ?_
    refine lv_iconst (v := 0) hx hb dX5_matches_17 (by decide) ?_
    refine lv_aload_n hx hb dX5_matches_18 rfl (lv_at hl 0 rfl) ?_
    refine va_get (D := G.1) (ci := 5) (v := .ref (u 7)) (C := RX5) (T := TX5) (N := 13) hx hb hts inX5 hown hK.1 hP 0 pW_0 rfl 1 (by decide) (hts _ w_191) (fun _ h9 => h9) rfl dX5_matches_19 ?_
    refine kp_V (va_runV (As := []) (rest := [.int 0, .int 0, .ref h]) F.1 (v_row_size l G _ _ _ _ _ _) (cwV 0 hts (aw_V w_257 w_258 w_259 w_3 w_260) rfl rfl rfl (by decide +kernel) ⟨by decide, by decide⟩) ⟨cS_blind, va_recv (q := (RX3, TX3, 2)) (ci := 3) (q0 := 0) hK.1 (pP_r1 (C := C) hP) rfl rfl, cS_pre (pP_r1 (C := C) hP) (pD_r1 (C := C) hD) hK⟩ rfl rfl hl.1 rfl (lv_room (Nat.le_of_ble_eq_true rfl)) dX5_matches_22 ⟨Nat.le_refl _, Nat.le_refl _⟩) (fun v9 hp => ?_)
    subst hp
    obtain ⟨C2, r3, hg, hE⟩ := hE
    refine kA_i (va_runV (As := [.int 0, .int 0, .int (nI (tJ (kT C)))]) (rest := []) F.1 (e_p_match l G h u C 0 0 (nI (tJ (kT C))) C2 r3 hg _) (cwV 3 hts (aw_V w_617 w_619 ws_X5_match w_1 w_620) rfl rfl rfl (by decide +kernel) ⟨by decide, by decide⟩) ⟨cS_blind, va_recv (q := (RX5, TX5, 13)) (ci := 5) (q0 := 0) hK.1 hP rfl pW_0, cS_pre hP hD hK⟩ rfl rfl hl.1 rfl (lv_room (Nat.le_of_ble_eq_true rfl)) dX5_matches_25 ⟨Nat.le_refl _, Nat.le_refl _⟩) hD hS hA (fun r9 u0 H locs hp hP hD hS => ?_)
    have hp := hp.symm; subst hp
    obtain ⟨hn, rfl, hr9⟩ := hE
    exact en_i F hS _ () hn hr9.symm hP hD (Nat.le_refl _) (Nat.le_refl _) dX5_matches_28
  ·
    rw [if_pos h1] at hE
    exact hE.elim


def EX_p_matches (C : CS)  (C' : CS) (X : String) : Prop := if (kI C 4) = 0 then (C' = C ∧ X = xISE) else (∃ (C2 : CS) (r3 : Int32), E_p_match C 0 0 (nI (tJ (kT C))) C2 r3 ∧ (False))
set_option maxHeartbeats 4000000 in
set_option maxRecDepth 100000 in
theorem x_p_matches (l : Launch) (hst : l.stackTraces = false) (G : PG) (Z : ZZ) (h : Nat) (u : Nat → Nat) (C : CS)  (C' : CS) (X : String) (hE : EX_p_matches C C' X) : Yt l yX5_matches (Cond.code yX5_matches cX5_matches 1 (some .boolean) :: aW) { frames := 57, cells := 1, slots := 6, locals := 1497 } Z G (pW G h u C) [.ref h] X (pW G h u C') 1 6 := by
  refine ofY (y := yX5_matches) (G := G) (cc := cX5_matches) (maxL := 1) (ret := (some .boolean)) (by decide) rfl ?_
  intro p e s m below meth c A F hK hT hZ hex hA hns hP hD
  have hS : va_S A s.heap s.heap [] := va_S.rf
  have hx := F.1.1; have hb := F.1.2.1; have hml := F.1.2.2.1; have hts := F.1.2.2.2.2
  have hown : s.vm.findClass RX5 = some m.cls := F.1.2.2.2.1
  have hl := lv_entry ([.ref h]) (n := 1) (Nat.le_of_ble_eq_true rfl)
  rw [lg_entry_eq]
  generalize (lg_sl ([.ref h]) ++ List.replicate (1 - (lg_sl ([.ref h])).length) Slot.unset).toArray = ls at hl ⊢
  have hl : lv_has ls 1 [(0, .ref h)] := hl
  unfold EX_p_matches at hE
  refine lv_aload_n hx hb dX5_matches_0 rfl (lv_at hl 0 rfl) ?_
  refine va_get (D := G.1) (ci := 5) (v := .int (kI C 4)) (C := RX5) (T := TX5) (N := 13) hx hb hts inX5 hown hK.1 hP 0 pW_0 rfl 4 (by decide) (hts _ w_194) (fun _ h9 => h9) rfl dX5_matches_1 ?_
  refine lv_if_ne (tgt := 15) hx hb dX5_matches_4 (by decide) (fun h1 => ?_) (fun h1 => ?_)
  ·
    rw [if_neg h1] at hE
    refine lv_aload_n hx hb dX5_matches_15 rfl (lv_at hl 0 rfl) ?_
    refine lv_iconst (v := 0) hx hb dX5_matches_16 (by decide) ?_
    refine lv_iconst (v := 0) hx hb dX5_matches_17 (by decide) ?_
    refine lv_aload_n hx hb dX5_matches_18 rfl (lv_at hl 0 rfl) ?_
    refine va_get (D := G.1) (ci := 5) (v := .ref (u 7)) (C := RX5) (T := TX5) (N := 13) hx hb hts inX5 hown hK.1 hP 0 pW_0 rfl 1 (by decide) (hts _ w_191) (fun _ h9 => h9) rfl dX5_matches_19 ?_
    refine kp_V (va_runV (As := []) (rest := [.int 0, .int 0, .ref h]) F.1 (v_row_size l G _ _ _ _ _ _) (cwV 0 hts (aw_V w_257 w_258 w_259 w_3 w_260) rfl rfl rfl (by decide +kernel) ⟨by decide, by decide⟩) ⟨cS_blind, va_recv (q := (RX3, TX3, 2)) (ci := 3) (q0 := 0) hK.1 (pP_r1 (C := C) hP) rfl rfl, cS_pre (pP_r1 (C := C) hP) (pD_r1 (C := C) hD) hK⟩ rfl rfl hl.1 rfl (lv_room (Nat.le_of_ble_eq_true rfl)) dX5_matches_22 ⟨by decide, by decide⟩) (fun v9 hp => ?_)
    subst hp
    obtain ⟨C2, r3, hg, hE⟩ := hE
    refine kA_i (va_runV (As := [.int 0, .int 0, .int (nI (tJ (kT C)))]) (rest := []) F.1 (e_p_match l G h u C 0 0 (nI (tJ (kT C))) C2 r3 hg _) (cwV 3 hts (aw_V w_617 w_619 ws_X5_match w_1 w_620) rfl rfl rfl (by decide +kernel) ⟨by decide, by decide⟩) ⟨cS_blind, va_recv (q := (RX5, TX5, 13)) (ci := 5) (q0 := 0) hK.1 hP rfl pW_0, cS_pre hP hD hK⟩ rfl rfl hl.1 rfl (lv_room (Nat.le_of_ble_eq_true rfl)) dX5_matches_25 ⟨by decide, by decide⟩) hD hS hA (fun r9 u0 H locs hp hP hD hS => ?_)
    have hp := hp.symm; subst hp
    exact hE.elim
  ·
    rw [if_pos h1] at hE
    obtain ⟨rfl, rfl⟩ := hE
    exact th_1 (E := xISE) (names := xUp) (ik := 87) (ic := 89) F hst hT hS hns hP hD (by decide +kernel) (by decide +kernel) w_602 w_603 w_18 (fun s2 h1 h2 => at_ISE h1 h2) hex hl.1 dX5_matches_7 dX5_matches_10 dX5_matches_11 dX5_matches_14 (by decide) (by decide) (by decide) (by decide) (by decide) (by decide)

theorem dX5_looking_15 : decode cX5_looking 15 = .ok (.aload_n 0, 1) := by decide +kernel
theorem dX5_looking_16 : decode cX5_looking 16 = .ok (.iconst 0, 1) := by decide +kernel
theorem dX5_looking_17 : decode cX5_looking 17 = .ok (.iconst 0, 1) := by decide +kernel
theorem dX5_looking_18 : decode cX5_looking 18 = .ok (.iconst (-1), 1) := by decide +kernel
theorem dX5_looking_19 : decode cX5_looking 19 = .ok (.invokevirtual 94, 3) := by decide +kernel
theorem dX5_looking_22 : decode cX5_looking 22 = .ok (.ireturn, 1) := by decide +kernel
def E_p_looking (C : CS)  (C' : CS) (r : Int32) : Prop := if (kI C 4) = 0 then (False) else (∃ (C2 : CS) (r3 : Int32), E_p_match C 0 0 (-1) C2 r3 ∧ (narrow .boolean (.int r3) = .int r3 ∧ C' = C2 ∧ r = r3))
set_option maxHeartbeats 4000000 in
set_option maxRecDepth 100000 in
theorem e_p_looking (l : Launch) (G : PG) (h : Nat) (u : Nat → Nat) (C : CS)  (C' : CS) (r : Int32) (hE : E_p_looking C C' r) : Ci l yX5_looking (Cond.code yX5_looking cX5_looking 1 (some .boolean) :: aW) { frames := 57, cells := 0, slots := 0, locals := 1497 } G (pW G h u C) [.ref h] (fun (r9 : Int32) (_ : Unit) => r9 = r) (fun (_ : Unit) => pW G h u C') 0 0 := by
  refine ofB (y := yX5_looking) (G := G) (cc := cX5_looking) (maxL := 1) (ret := (some .boolean)) (Qc := fun A => va_Qi (fun (r9 : Int32) (_ : Unit) => r9 = r) (oB G A (fun (_ : Unit) => pW G h u C')) A) (by decide) rfl ?_
  intro p e s m below meth c A F hK hA hP hD
  have hS : va_S A s.heap s.heap [] := va_S.rf
  have hx := F.1.1; have hb := F.1.2.1; have hml := F.1.2.2.1; have hts := F.1.2.2.2.2
  have hown : s.vm.findClass RX5 = some m.cls := F.1.2.2.2.1
  have hl := lv_entry ([.ref h]) (n := 1) (Nat.le_of_ble_eq_true rfl)
  rw [lg_entry_eq]
  generalize (lg_sl ([.ref h]) ++ List.replicate (1 - (lg_sl ([.ref h])).length) Slot.unset).toArray = ls at hl ⊢
  have hl : lv_has ls 1 [(0, .ref h)] := hl
  unfold E_p_looking at hE
  refine lv_aload_n hx hb dX5_looking_0 rfl (lv_at hl 0 rfl) ?_
  refine va_get (D := G.1) (ci := 5) (v := .int (kI C 4)) (C := RX5) (T := TX5) (N := 13) hx hb hts inX5 hown hK.1 hP 0 pW_0 rfl 4 (by decide) (hts _ w_194) (fun _ h9 => h9) rfl dX5_looking_1 ?_
  refine lv_if_ne (tgt := 15) hx hb dX5_looking_4 (by decide) (fun h1 => ?_) (fun h1 => ?_)
  ·
    rw [if_neg h1] at hE
    refine lv_aload_n hx hb dX5_looking_15 rfl (lv_at hl 0 rfl) ?_
    refine lv_iconst (v := 0) hx hb dX5_looking_16 (by decide) ?_
    refine lv_iconst (v := 0) hx hb dX5_looking_17 (by decide) ?_
    refine lv_iconst (v := (-1)) hx hb dX5_looking_18 (by decide) ?_
    obtain ⟨C2, r3, hg, hE⟩ := hE
    refine kA_i (va_runV (As := [.int 0, .int 0, .int (-1)]) (rest := []) F.1 (e_p_match l G h u C 0 0 (-1) C2 r3 hg _) (cwV 3 hts (aw_V w_617 w_619 ws_X5_match w_1 w_620) rfl rfl rfl (by decide +kernel) ⟨by decide, by decide⟩) ⟨cS_blind, va_recv (q := (RX5, TX5, 13)) (ci := 5) (q0 := 0) hK.1 hP rfl pW_0, cS_pre hP hD hK⟩ rfl rfl hl.1 rfl (lv_room (Nat.le_of_ble_eq_true rfl)) dX5_looking_19 ⟨Nat.le_refl _, Nat.le_refl _⟩) hD hS hA (fun r9 u0 H locs hp hP hD hS => ?_)
    have hp := hp.symm; subst hp
    obtain ⟨hn, rfl, hr9⟩ := hE
    exact en_i F hS _ () hn hr9.symm hP hD (Nat.le_refl _) (Nat.le_refl _) dX5_looking_22
  ·
    rw [if_pos h1] at hE
    exact hE.elim


def EX_p_looking (C : CS)  (C' : CS) (X : String) : Prop := if (kI C 4) = 0 then (C' = C ∧ X = xISE) else (∃ (C2 : CS) (r3 : Int32), E_p_match C 0 0 (-1) C2 r3 ∧ (False))
set_option maxHeartbeats 4000000 in
set_option maxRecDepth 100000 in
theorem x_p_looking (l : Launch) (hst : l.stackTraces = false) (G : PG) (Z : ZZ) (h : Nat) (u : Nat → Nat) (C : CS)  (C' : CS) (X : String) (hE : EX_p_looking C C' X) : Yt l yX5_looking (Cond.code yX5_looking cX5_looking 1 (some .boolean) :: aW) { frames := 57, cells := 1, slots := 6, locals := 1497 } Z G (pW G h u C) [.ref h] X (pW G h u C') 1 6 := by
  refine ofY (y := yX5_looking) (G := G) (cc := cX5_looking) (maxL := 1) (ret := (some .boolean)) (by decide) rfl ?_
  intro p e s m below meth c A F hK hT hZ hex hA hns hP hD
  have hS : va_S A s.heap s.heap [] := va_S.rf
  have hx := F.1.1; have hb := F.1.2.1; have hml := F.1.2.2.1; have hts := F.1.2.2.2.2
  have hown : s.vm.findClass RX5 = some m.cls := F.1.2.2.2.1
  have hl := lv_entry ([.ref h]) (n := 1) (Nat.le_of_ble_eq_true rfl)
  rw [lg_entry_eq]
  generalize (lg_sl ([.ref h]) ++ List.replicate (1 - (lg_sl ([.ref h])).length) Slot.unset).toArray = ls at hl ⊢
  have hl : lv_has ls 1 [(0, .ref h)] := hl
  unfold EX_p_looking at hE
  refine lv_aload_n hx hb dX5_looking_0 rfl (lv_at hl 0 rfl) ?_
  refine va_get (D := G.1) (ci := 5) (v := .int (kI C 4)) (C := RX5) (T := TX5) (N := 13) hx hb hts inX5 hown hK.1 hP 0 pW_0 rfl 4 (by decide) (hts _ w_194) (fun _ h9 => h9) rfl dX5_looking_1 ?_
  refine lv_if_ne (tgt := 15) hx hb dX5_looking_4 (by decide) (fun h1 => ?_) (fun h1 => ?_)
  ·
    rw [if_neg h1] at hE
    refine lv_aload_n hx hb dX5_looking_15 rfl (lv_at hl 0 rfl) ?_
    refine lv_iconst (v := 0) hx hb dX5_looking_16 (by decide) ?_
    refine lv_iconst (v := 0) hx hb dX5_looking_17 (by decide) ?_
    refine lv_iconst (v := (-1)) hx hb dX5_looking_18 (by decide) ?_
    obtain ⟨C2, r3, hg, hE⟩ := hE
    refine kA_i (va_runV (As := [.int 0, .int 0, .int (-1)]) (rest := []) F.1 (e_p_match l G h u C 0 0 (-1) C2 r3 hg _) (cwV 3 hts (aw_V w_617 w_619 ws_X5_match w_1 w_620) rfl rfl rfl (by decide +kernel) ⟨by decide, by decide⟩) ⟨cS_blind, va_recv (q := (RX5, TX5, 13)) (ci := 5) (q0 := 0) hK.1 hP rfl pW_0, cS_pre hP hD hK⟩ rfl rfl hl.1 rfl (lv_room (Nat.le_of_ble_eq_true rfl)) dX5_looking_19 ⟨by decide, by decide⟩) hD hS hA (fun r9 u0 H locs hp hP hD hS => ?_)
    have hp := hp.symm; subst hp
    exact hE.elim
  ·
    rw [if_pos h1] at hE
    obtain ⟨rfl, rfl⟩ := hE
    exact th_1 (E := xISE) (names := xUp) (ik := 87) (ic := 89) F hst hT hS hns hP hD (by decide +kernel) (by decide +kernel) w_602 w_603 w_18 (fun s2 h1 h2 => at_ISE h1 h2) hex hl.1 dX5_looking_7 dX5_looking_10 dX5_looking_11 dX5_looking_14 (by decide) (by decide) (by decide) (by decide) (by decide) (by decide)

theorem dX5_find_38 : decode cX5_find 38 = .ok (.aload_n 0, 1) := by decide +kernel
theorem dX5_find_39 : decode cX5_find 39 = .ok (.iload_n 1, 1) := by decide +kernel
theorem dX5_find_40 : decode cX5_find 40 = .ok (.aload_n 0, 1) := by decide +kernel
theorem dX5_find_41 : decode cX5_find 41 = .ok (.getfield 20, 3) := by decide +kernel
theorem dX5_find_44 : decode cX5_find 44 = .ok (.invokevirtual 90, 3) := by decide +kernel
theorem dX5_find_47 : decode cX5_find 47 = .ok (.iconst (-1), 1) := by decide +kernel
theorem dX5_find_48 : decode cX5_find 48 = .ok (.invokevirtual 94, 3) := by decide +kernel
theorem dX5_find_51 : decode cX5_find 51 = .ok (.ifCond .eq 10, 3) := by decide +kernel
theorem dX5_find_54 : decode cX5_find 54 = .ok (.aload_n 0, 1) := by decide +kernel
theorem dX5_find_55 : decode cX5_find 55 = .ok (.getfield 101, 3) := by decide +kernel
theorem dX5_find_58 : decode cX5_find 58 = .ok (.goto 4, 3) := by decide +kernel
theorem dX5_find_61 : decode cX5_find 61 = .ok (.iconst (-1), 1) := by decide +kernel
theorem dX5_find_62 : decode cX5_find 62 = .ok (.ireturn, 1) := by decide +kernel
def E_p_find (C : CS) (a1 : Int32) (C' : CS) (r : Int32) : Prop := if a1 < 0 then (False) else (if a1 ≤ (nI (tJ (kT C))) then (if (kI C 4) = 0 then (False) else (∃ (C4 : CS) (r5 : Int32), E_p_match C a1 (nI (tJ (kT C))) (-1) C4 r5 ∧ (if r5 = 0 then (C' = C4 ∧ r = (-1)) else (C' = C4 ∧ r = (kI C4 6))))) else (False))
set_option maxHeartbeats 4000000 in
set_option maxRecDepth 100000 in
theorem e_p_find (l : Launch) (G : PG) (h : Nat) (u : Nat → Nat) (C : CS) (a1 : Int32) (C' : CS) (r : Int32) (hE : E_p_find C a1 C' r) : Ci l yX5_find (Cond.code yX5_find cX5_find 2 (some .int) :: aW) { frames := 57, cells := 0, slots := 0, locals := 1497 } G (pW G h u C) [.ref h, .int a1] (fun (r9 : Int32) (_ : Unit) => r9 = r) (fun (_ : Unit) => pW G h u C') 0 0 := by
  refine ofB (y := yX5_find) (G := G) (cc := cX5_find) (maxL := 2) (ret := (some .int)) (Qc := fun A => va_Qi (fun (r9 : Int32) (_ : Unit) => r9 = r) (oB G A (fun (_ : Unit) => pW G h u C')) A) (by decide) rfl ?_
  intro p e s m below meth c A F hK hA hP hD
  have hS : va_S A s.heap s.heap [] := va_S.rf
  have hx := F.1.1; have hb := F.1.2.1; have hml := F.1.2.2.1; have hts := F.1.2.2.2.2
  have hown : s.vm.findClass RX5 = some m.cls := F.1.2.2.2.1
  have hl := lv_entry ([.ref h, .int a1]) (n := 2) (Nat.le_of_ble_eq_true rfl)
  rw [lg_entry_eq]
  generalize (lg_sl ([.ref h, .int a1]) ++ List.replicate (2 - (lg_sl ([.ref h, .int a1])).length) Slot.unset).toArray = ls at hl ⊢
  have hl : lv_has ls 2 [(0, .ref h), (1, .int a1)] := hl
  unfold E_p_find at hE
  refine lv_iload_n hx hb dX5_find_0 rfl (lv_at hl 1 rfl) ?_
  refine lv_if_lt (tgt := 15) hx hb dX5_find_1 (by decide) (fun h1 => ?_) (fun h1 => ?_)
  ·
    rw [if_pos h1] at hE
    exact hE.elim
  ·
    rw [if_neg h1] at hE
    refine lv_iload_n hx hb dX5_find_4 rfl (lv_at hl 1 rfl) ?_
    refine lv_aload_n hx hb dX5_find_5 rfl (lv_at hl 0 rfl) ?_
    refine va_get (D := G.1) (ci := 5) (v := .ref (u 7)) (C := RX5) (T := TX5) (N := 13) hx hb hts inX5 hown hK.1 hP 0 pW_0 rfl 1 (by decide) (hts _ w_191) (fun _ h9 => h9) rfl dX5_find_6 ?_
    refine kp_V (va_runV (As := []) (rest := [.int a1]) F.1 (v_row_size l G _ _ _ _ _ _) (cwV 0 hts (aw_V w_257 w_258 w_259 w_3 w_260) rfl rfl rfl (by decide +kernel) ⟨by decide, by decide⟩) ⟨cS_blind, va_recv (q := (RX3, TX3, 2)) (ci := 3) (q0 := 0) hK.1 (pP_r1 (C := C) hP) rfl rfl, cS_pre (pP_r1 (C := C) hP) (pD_r1 (C := C) hD) hK⟩ rfl rfl hl.1 rfl (lv_room (Nat.le_of_ble_eq_true rfl)) dX5_find_9 ⟨Nat.le_refl _, Nat.le_refl _⟩) (fun v9 hp => ?_)
    subst hp
    refine lv_icmp_le (tgt := 23) hx hb dX5_find_12 (by decide) (fun h2 => ?_) (fun h2 => ?_)
    ·
      rw [if_pos h2] at hE
      refine lv_aload_n hx hb dX5_find_23 rfl (lv_at hl 0 rfl) ?_
      refine va_get (D := G.1) (ci := 5) (v := .int (kI C 4)) (C := RX5) (T := TX5) (N := 13) hx hb hts inX5 hown hK.1 hP 0 pW_0 rfl 4 (by decide) (hts _ w_194) (fun _ h9 => h9) rfl dX5_find_24 ?_
      refine lv_if_ne (tgt := 38) hx hb dX5_find_27 (by decide) (fun h3 => ?_) (fun h3 => ?_)
      ·
        rw [if_neg h3] at hE
        refine lv_aload_n hx hb dX5_find_38 rfl (lv_at hl 0 rfl) ?_
        refine lv_iload_n hx hb dX5_find_39 rfl (lv_at hl 1 rfl) ?_
        refine lv_aload_n hx hb dX5_find_40 rfl (lv_at hl 0 rfl) ?_
        refine va_get (D := G.1) (ci := 5) (v := .ref (u 7)) (C := RX5) (T := TX5) (N := 13) hx hb hts inX5 hown hK.1 hP 0 pW_0 rfl 1 (by decide) (hts _ w_191) (fun _ h9 => h9) rfl dX5_find_41 ?_
        refine kp_V (va_runV (As := []) (rest := [.int a1, .ref h]) F.1 (v_row_size l G _ _ _ _ _ _) (cwV 0 hts (aw_V w_257 w_258 w_259 w_3 w_260) rfl rfl rfl (by decide +kernel) ⟨by decide, by decide⟩) ⟨cS_blind, va_recv (q := (RX3, TX3, 2)) (ci := 3) (q0 := 0) hK.1 (pP_r1 (C := C) hP) rfl rfl, cS_pre (pP_r1 (C := C) hP) (pD_r1 (C := C) hD) hK⟩ rfl rfl hl.1 rfl (lv_room (Nat.le_of_ble_eq_true rfl)) dX5_find_44 ⟨Nat.le_refl _, Nat.le_refl _⟩) (fun v9 hp => ?_)
        subst hp
        refine lv_iconst (v := (-1)) hx hb dX5_find_47 (by decide) ?_
        obtain ⟨C4, r5, hg, hE⟩ := hE
        refine kA_i (va_runV (As := [.int a1, .int (nI (tJ (kT C))), .int (-1)]) (rest := []) F.1 (e_p_match l G h u C a1 (nI (tJ (kT C))) (-1) C4 r5 hg _) (cwV 3 hts (aw_V w_617 w_619 ws_X5_match w_1 w_620) rfl rfl rfl (by decide +kernel) ⟨by decide, by decide⟩) ⟨cS_blind, va_recv (q := (RX5, TX5, 13)) (ci := 5) (q0 := 0) hK.1 hP rfl pW_0, cS_pre hP hD hK⟩ rfl rfl hl.1 rfl (lv_room (Nat.le_of_ble_eq_true rfl)) dX5_find_48 ⟨Nat.le_refl _, Nat.le_refl _⟩) hD hS hA (fun r9 u0 H locs hp hP hD hS => ?_)
        have hp := hp.symm; subst hp
        refine lv_if_eq (tgt := 61) hx hb dX5_find_51 (by decide) (fun h6 => ?_) (fun h6 => ?_)
        ·
          rw [if_pos h6] at hE
          refine lv_iconst (v := (-1)) hx hb dX5_find_61 (by decide) ?_
          obtain ⟨rfl, hr9⟩ := hE
          exact en_i F hS _ () (by rfl) hr9.symm hP hD (Nat.le_refl _) (Nat.le_refl _) dX5_find_62
        ·
          rw [if_neg h6] at hE
          refine lv_aload_n hx hb dX5_find_54 rfl (lv_at hl 0 rfl) ?_
          refine va_get (D := G.1) (ci := 5) (v := .int (kI C4 6)) (C := RX5) (T := TX5) (N := 13) hx hb hts inX5 hown hK.1 hP 0 pW_0 rfl 6 (by decide) (hts _ w_196) (fun _ h9 => h9) rfl dX5_find_55 ?_
          refine lv_goto (tgt := 62) hx hb dX5_find_58 (by decide) ?_
          obtain ⟨rfl, hr9⟩ := hE
          exact en_i F hS _ () (by rfl) hr9.symm hP hD (Nat.le_refl _) (Nat.le_refl _) dX5_find_62
      ·
        rw [if_pos h3] at hE
        exact hE.elim
    ·
      rw [if_neg h2] at hE
      exact hE.elim


def EX_p_find (C : CS) (a1 : Int32) (C' : CS) (X : String) : Prop := if a1 < 0 then (C' = C ∧ X = xIOO) else (if a1 ≤ (nI (tJ (kT C))) then (if (kI C 4) = 0 then (C' = C ∧ X = xISE) else (∃ (C4 : CS) (r5 : Int32), E_p_match C a1 (nI (tJ (kT C))) (-1) C4 r5 ∧ (if r5 = 0 then (False) else (False)))) else (C' = C ∧ X = xIOO))
set_option maxHeartbeats 4000000 in
set_option maxRecDepth 100000 in
theorem x_p_find (l : Launch) (hst : l.stackTraces = false) (G : PG) (Z : ZZ) (h : Nat) (u : Nat → Nat) (C : CS) (a1 : Int32) (C' : CS) (X : String) (hE : EX_p_find C a1 C' X) : Yt l yX5_find (Cond.code yX5_find cX5_find 2 (some .int) :: aW) { frames := 57, cells := 1, slots := 6, locals := 1497 } Z G (pW G h u C) [.ref h, .int a1] X (pW G h u C') 1 6 := by
  refine ofY (y := yX5_find) (G := G) (cc := cX5_find) (maxL := 2) (ret := (some .int)) (by decide) rfl ?_
  intro p e s m below meth c A F hK hT hZ hex hA hns hP hD
  have hS : va_S A s.heap s.heap [] := va_S.rf
  have hx := F.1.1; have hb := F.1.2.1; have hml := F.1.2.2.1; have hts := F.1.2.2.2.2
  have hown : s.vm.findClass RX5 = some m.cls := F.1.2.2.2.1
  have hl := lv_entry ([.ref h, .int a1]) (n := 2) (Nat.le_of_ble_eq_true rfl)
  rw [lg_entry_eq]
  generalize (lg_sl ([.ref h, .int a1]) ++ List.replicate (2 - (lg_sl ([.ref h, .int a1])).length) Slot.unset).toArray = ls at hl ⊢
  have hl : lv_has ls 2 [(0, .ref h), (1, .int a1)] := hl
  unfold EX_p_find at hE
  refine lv_iload_n hx hb dX5_find_0 rfl (lv_at hl 1 rfl) ?_
  refine lv_if_lt (tgt := 15) hx hb dX5_find_1 (by decide) (fun h1 => ?_) (fun h1 => ?_)
  ·
    rw [if_pos h1] at hE
    obtain ⟨rfl, rfl⟩ := hE
    exact th_1 (E := xIOO) (names := xUp) (ik := 98) (ic := 100) F hst hT hS hns hP hD (by decide +kernel) (by decide +kernel) w_743 w_744 w_19 (fun s2 h1 h2 => at_IOO h1 h2) hex hl.1 dX5_find_15 dX5_find_18 dX5_find_19 dX5_find_22 (by decide) (by decide) (by decide) (by decide) (by decide) (by decide)
  ·
    rw [if_neg h1] at hE
    refine lv_iload_n hx hb dX5_find_4 rfl (lv_at hl 1 rfl) ?_
    refine lv_aload_n hx hb dX5_find_5 rfl (lv_at hl 0 rfl) ?_
    refine va_get (D := G.1) (ci := 5) (v := .ref (u 7)) (C := RX5) (T := TX5) (N := 13) hx hb hts inX5 hown hK.1 hP 0 pW_0 rfl 1 (by decide) (hts _ w_191) (fun _ h9 => h9) rfl dX5_find_6 ?_
    refine kp_V (va_runV (As := []) (rest := [.int a1]) F.1 (v_row_size l G _ _ _ _ _ _) (cwV 0 hts (aw_V w_257 w_258 w_259 w_3 w_260) rfl rfl rfl (by decide +kernel) ⟨by decide, by decide⟩) ⟨cS_blind, va_recv (q := (RX3, TX3, 2)) (ci := 3) (q0 := 0) hK.1 (pP_r1 (C := C) hP) rfl rfl, cS_pre (pP_r1 (C := C) hP) (pD_r1 (C := C) hD) hK⟩ rfl rfl hl.1 rfl (lv_room (Nat.le_of_ble_eq_true rfl)) dX5_find_9 ⟨by decide, by decide⟩) (fun v9 hp => ?_)
    subst hp
    refine lv_icmp_le (tgt := 23) hx hb dX5_find_12 (by decide) (fun h2 => ?_) (fun h2 => ?_)
    ·
      rw [if_pos h2] at hE
      refine lv_aload_n hx hb dX5_find_23 rfl (lv_at hl 0 rfl) ?_
      refine va_get (D := G.1) (ci := 5) (v := .int (kI C 4)) (C := RX5) (T := TX5) (N := 13) hx hb hts inX5 hown hK.1 hP 0 pW_0 rfl 4 (by decide) (hts _ w_194) (fun _ h9 => h9) rfl dX5_find_24 ?_
      refine lv_if_ne (tgt := 38) hx hb dX5_find_27 (by decide) (fun h3 => ?_) (fun h3 => ?_)
      ·
        rw [if_neg h3] at hE
        refine lv_aload_n hx hb dX5_find_38 rfl (lv_at hl 0 rfl) ?_
        refine lv_iload_n hx hb dX5_find_39 rfl (lv_at hl 1 rfl) ?_
        refine lv_aload_n hx hb dX5_find_40 rfl (lv_at hl 0 rfl) ?_
        refine va_get (D := G.1) (ci := 5) (v := .ref (u 7)) (C := RX5) (T := TX5) (N := 13) hx hb hts inX5 hown hK.1 hP 0 pW_0 rfl 1 (by decide) (hts _ w_191) (fun _ h9 => h9) rfl dX5_find_41 ?_
        refine kp_V (va_runV (As := []) (rest := [.int a1, .ref h]) F.1 (v_row_size l G _ _ _ _ _ _) (cwV 0 hts (aw_V w_257 w_258 w_259 w_3 w_260) rfl rfl rfl (by decide +kernel) ⟨by decide, by decide⟩) ⟨cS_blind, va_recv (q := (RX3, TX3, 2)) (ci := 3) (q0 := 0) hK.1 (pP_r1 (C := C) hP) rfl rfl, cS_pre (pP_r1 (C := C) hP) (pD_r1 (C := C) hD) hK⟩ rfl rfl hl.1 rfl (lv_room (Nat.le_of_ble_eq_true rfl)) dX5_find_44 ⟨by decide, by decide⟩) (fun v9 hp => ?_)
        subst hp
        refine lv_iconst (v := (-1)) hx hb dX5_find_47 (by decide) ?_
        obtain ⟨C4, r5, hg, hE⟩ := hE
        refine kA_i (va_runV (As := [.int a1, .int (nI (tJ (kT C))), .int (-1)]) (rest := []) F.1 (e_p_match l G h u C a1 (nI (tJ (kT C))) (-1) C4 r5 hg _) (cwV 3 hts (aw_V w_617 w_619 ws_X5_match w_1 w_620) rfl rfl rfl (by decide +kernel) ⟨by decide, by decide⟩) ⟨cS_blind, va_recv (q := (RX5, TX5, 13)) (ci := 5) (q0 := 0) hK.1 hP rfl pW_0, cS_pre hP hD hK⟩ rfl rfl hl.1 rfl (lv_room (Nat.le_of_ble_eq_true rfl)) dX5_find_48 ⟨by decide, by decide⟩) hD hS hA (fun r9 u0 H locs hp hP hD hS => ?_)
        have hp := hp.symm; subst hp
        refine lv_if_eq (tgt := 61) hx hb dX5_find_51 (by decide) (fun h6 => ?_) (fun h6 => ?_)
        ·
          rw [if_pos h6] at hE
          refine lv_iconst (v := (-1)) hx hb dX5_find_61 (by decide) ?_
          exact hE.elim
        ·
          rw [if_neg h6] at hE
          refine lv_aload_n hx hb dX5_find_54 rfl (lv_at hl 0 rfl) ?_
          refine va_get (D := G.1) (ci := 5) (v := .int (kI C4 6)) (C := RX5) (T := TX5) (N := 13) hx hb hts inX5 hown hK.1 hP 0 pW_0 rfl 6 (by decide) (hts _ w_196) (fun _ h9 => h9) rfl dX5_find_55 ?_
          refine lv_goto (tgt := 62) hx hb dX5_find_58 (by decide) ?_
          exact hE.elim
      ·
        rw [if_pos h3] at hE
        obtain ⟨rfl, rfl⟩ := hE
        exact th_1 (E := xISE) (names := xUp) (ik := 87) (ic := 89) F hst hT hS hns hP hD (by decide +kernel) (by decide +kernel) w_602 w_603 w_18 (fun s2 h1 h2 => at_ISE h1 h2) hex hl.1 dX5_find_30 dX5_find_33 dX5_find_34 dX5_find_37 (by decide) (by decide) (by decide) (by decide) (by decide) (by decide)
    ·
      rw [if_neg h2] at hE
      obtain ⟨rfl, rfl⟩ := hE
      exact th_1 (E := xIOO) (names := xUp) (ik := 98) (ic := 100) F hst hT hS hns hP hD (by decide +kernel) (by decide +kernel) w_743 w_744 w_19 (fun s2 h1 h2 => at_IOO h1 h2) hex hl.1 dX5_find_15 dX5_find_18 dX5_find_19 dX5_find_22 (by decide) (by decide) (by decide) (by decide) (by decide) (by decide)

theorem dX5_start_15 : decode cX5_start 15 = .ok (.aload_n 0, 1) := by decide +kernel
theorem dX5_start_16 : decode cX5_start 16 = .ok (.iload_n 1, 1) := by decide +kernel
theorem dX5_start_17 : decode cX5_start 17 = .ok (.invokevirtual 104, 3) := by decide +kernel
theorem dX5_start_20 : decode cX5_start 20 = .ok (.ifCond .ne 11, 3) := by decide +kernel
theorem dX5_start_31 : decode cX5_start 31 = .ok (.aload_n 0, 1) := by decide +kernel
theorem dX5_start_32 : decode cX5_start 32 = .ok (.iload_n 1, 1) := by decide +kernel
theorem dX5_start_33 : decode cX5_start 33 = .ok (.invokevirtual 107, 3) := by decide +kernel
theorem dX5_start_36 : decode cX5_start 36 = .ok (.ireturn, 1) := by decide +kernel
def E_p_start (C : CS) (a1 : Int32) (C' : CS) (r : Int32) : Prop := if (kI C 5) = 0 then (False) else (∃ (C2 : CS) (r3 : Int32), E_p_isGroup C a1 C2 r3 ∧ (if r3 = 0 then (False) else (∃ (C5 : CS) (r6 : Int32), E_p_groupFrom C2 a1 C5 r6 ∧ (C' = C5 ∧ r = r6))))
set_option maxHeartbeats 4000000 in
set_option maxRecDepth 100000 in
theorem e_p_start (l : Launch) (G : PG) (h : Nat) (u : Nat → Nat) (C : CS) (a1 : Int32) (C' : CS) (r : Int32) (hE : E_p_start C a1 C' r) : Ci l yX5_start (Cond.code yX5_start cX5_start 2 (some .int) :: aW) { frames := 2, cells := 0, slots := 0, locals := 45 } G (pW G h u C) [.ref h, .int a1] (fun (r9 : Int32) (_ : Unit) => r9 = r) (fun (_ : Unit) => pW G h u C') 0 0 := by
  refine ofB (y := yX5_start) (G := G) (cc := cX5_start) (maxL := 2) (ret := (some .int)) (Qc := fun A => va_Qi (fun (r9 : Int32) (_ : Unit) => r9 = r) (oB G A (fun (_ : Unit) => pW G h u C')) A) (by decide) rfl ?_
  intro p e s m below meth c A F hK hA hP hD
  have hS : va_S A s.heap s.heap [] := va_S.rf
  have hx := F.1.1; have hb := F.1.2.1; have hml := F.1.2.2.1; have hts := F.1.2.2.2.2
  have hown : s.vm.findClass RX5 = some m.cls := F.1.2.2.2.1
  have hl := lv_entry ([.ref h, .int a1]) (n := 2) (Nat.le_of_ble_eq_true rfl)
  rw [lg_entry_eq]
  generalize (lg_sl ([.ref h, .int a1]) ++ List.replicate (2 - (lg_sl ([.ref h, .int a1])).length) Slot.unset).toArray = ls at hl ⊢
  have hl : lv_has ls 2 [(0, .ref h), (1, .int a1)] := hl
  unfold E_p_start at hE
  refine lv_aload_n hx hb dX5_start_0 rfl (lv_at hl 0 rfl) ?_
  refine va_get (D := G.1) (ci := 5) (v := .int (kI C 5)) (C := RX5) (T := TX5) (N := 13) hx hb hts inX5 hown hK.1 hP 0 pW_0 rfl 5 (by decide) (hts _ w_195) (fun _ h9 => h9) rfl dX5_start_1 ?_
  refine lv_if_ne (tgt := 15) hx hb dX5_start_4 (by decide) (fun h1 => ?_) (fun h1 => ?_)
  ·
    rw [if_neg h1] at hE
    refine lv_aload_n hx hb dX5_start_15 rfl (lv_at hl 0 rfl) ?_
    refine lv_iload_n hx hb dX5_start_16 rfl (lv_at hl 1 rfl) ?_
    obtain ⟨C2, r3, hg, hE⟩ := hE
    refine kA_i (va_runV (As := [.int a1]) (rest := []) F.1 (e_p_isGroup l G h u C a1 C2 r3 hg _) (cwV 1 hts (aw_V w_765 w_767 ws_X5_isGroup w_1 w_768) rfl rfl rfl (by decide +kernel) ⟨by decide, by decide⟩) ⟨cS_blind, va_recv (q := (RX5, TX5, 13)) (ci := 5) (q0 := 0) hK.1 hP rfl pW_0, cS_pre hP hD hK⟩ rfl rfl hl.1 rfl (lv_room (Nat.le_of_ble_eq_true rfl)) dX5_start_17 ⟨Nat.le_refl _, Nat.le_refl _⟩) hD hS hA (fun r9 u0 H locs hp hP hD hS => ?_)
    have hp := hp.symm; subst hp
    refine lv_if_ne (tgt := 31) hx hb dX5_start_20 (by decide) (fun h4 => ?_) (fun h4 => ?_)
    ·
      rw [if_neg h4] at hE
      refine lv_aload_n hx hb dX5_start_31 rfl (lv_at hl 0 rfl) ?_
      refine lv_iload_n hx hb dX5_start_32 rfl (lv_at hl 1 rfl) ?_
      obtain ⟨C5, r6, hg, hE⟩ := hE
      refine kA_i (va_runV (As := [.int a1]) (rest := []) F.1 (e_p_groupFrom l G h u C2 a1 C5 r6 hg _) (cwV 1 hts (aw_V w_769 w_771 ws_X5_groupFrom w_1 w_772) rfl rfl rfl (by decide +kernel) ⟨by decide, by decide⟩) ⟨cS_blind, va_recv (q := (RX5, TX5, 13)) (ci := 5) (q0 := 0) hK.1 hP rfl pW_0, cS_pre hP hD hK⟩ rfl rfl hl.1 rfl (lv_room (Nat.le_of_ble_eq_true rfl)) dX5_start_33 ⟨Nat.le_refl _, Nat.le_refl _⟩) hD hS hA (fun r9 u0 H locs hp hP hD hS => ?_)
      have hp := hp.symm; subst hp
      obtain ⟨rfl, hr9⟩ := hE
      exact en_i F hS _ () (by rfl) hr9.symm hP hD (Nat.le_refl _) (Nat.le_refl _) dX5_start_36
    ·
      rw [if_pos h4] at hE
      exact hE.elim
  ·
    rw [if_pos h1] at hE
    exact hE.elim

theorem dX5_start_23 : decode cX5_start 23 = .ok (.new 98, 3) := by decide +kernel
theorem dX5_start_26 : decode cX5_start 26 = .ok (.dup, 1) := by decide +kernel
theorem dX5_start_27 : decode cX5_start 27 = .ok (.invokespecial 100, 3) := by decide +kernel
theorem dX5_start_30 : decode cX5_start 30 = .ok (.athrow, 1) := by decide +kernel
def EX_p_start (C : CS) (a1 : Int32) (C' : CS) (X : String) : Prop := if (kI C 5) = 0 then (C' = C ∧ X = xISE) else (∃ (C2 : CS) (r3 : Int32), E_p_isGroup C a1 C2 r3 ∧ (if r3 = 0 then (C' = C2 ∧ X = xIOO) else (∃ (C5 : CS) (r6 : Int32), E_p_groupFrom C2 a1 C5 r6 ∧ (False))))
set_option maxHeartbeats 4000000 in
set_option maxRecDepth 100000 in
theorem x_p_start (l : Launch) (hst : l.stackTraces = false) (G : PG) (Z : ZZ) (h : Nat) (u : Nat → Nat) (C : CS) (a1 : Int32) (C' : CS) (X : String) (hE : EX_p_start C a1 C' X) : Yt l yX5_start (Cond.code yX5_start cX5_start 2 (some .int) :: aW) { frames := 6, cells := 1, slots := 6, locals := 100 } Z G (pW G h u C) [.ref h, .int a1] X (pW G h u C') 1 6 := by
  refine ofY (y := yX5_start) (G := G) (cc := cX5_start) (maxL := 2) (ret := (some .int)) (by decide) rfl ?_
  intro p e s m below meth c A F hK hT hZ hex hA hns hP hD
  have hS : va_S A s.heap s.heap [] := va_S.rf
  have hx := F.1.1; have hb := F.1.2.1; have hml := F.1.2.2.1; have hts := F.1.2.2.2.2
  have hown : s.vm.findClass RX5 = some m.cls := F.1.2.2.2.1
  have hl := lv_entry ([.ref h, .int a1]) (n := 2) (Nat.le_of_ble_eq_true rfl)
  rw [lg_entry_eq]
  generalize (lg_sl ([.ref h, .int a1]) ++ List.replicate (2 - (lg_sl ([.ref h, .int a1])).length) Slot.unset).toArray = ls at hl ⊢
  have hl : lv_has ls 2 [(0, .ref h), (1, .int a1)] := hl
  unfold EX_p_start at hE
  refine lv_aload_n hx hb dX5_start_0 rfl (lv_at hl 0 rfl) ?_
  refine va_get (D := G.1) (ci := 5) (v := .int (kI C 5)) (C := RX5) (T := TX5) (N := 13) hx hb hts inX5 hown hK.1 hP 0 pW_0 rfl 5 (by decide) (hts _ w_195) (fun _ h9 => h9) rfl dX5_start_1 ?_
  refine lv_if_ne (tgt := 15) hx hb dX5_start_4 (by decide) (fun h1 => ?_) (fun h1 => ?_)
  ·
    rw [if_neg h1] at hE
    refine lv_aload_n hx hb dX5_start_15 rfl (lv_at hl 0 rfl) ?_
    refine lv_iload_n hx hb dX5_start_16 rfl (lv_at hl 1 rfl) ?_
    obtain ⟨C2, r3, hg, hE⟩ := hE
    refine kA_i (va_runV (As := [.int a1]) (rest := []) F.1 (e_p_isGroup l G h u C a1 C2 r3 hg _) (cwV 1 hts (aw_V w_765 w_767 ws_X5_isGroup w_1 w_768) rfl rfl rfl (by decide +kernel) ⟨by decide, by decide⟩) ⟨cS_blind, va_recv (q := (RX5, TX5, 13)) (ci := 5) (q0 := 0) hK.1 hP rfl pW_0, cS_pre hP hD hK⟩ rfl rfl hl.1 rfl (lv_room (Nat.le_of_ble_eq_true rfl)) dX5_start_17 ⟨by decide, by decide⟩) hD hS hA (fun r9 u0 H locs hp hP hD hS => ?_)
    have hp := hp.symm; subst hp
    refine lv_if_ne (tgt := 31) hx hb dX5_start_20 (by decide) (fun h4 => ?_) (fun h4 => ?_)
    ·
      rw [if_neg h4] at hE
      refine lv_aload_n hx hb dX5_start_31 rfl (lv_at hl 0 rfl) ?_
      refine lv_iload_n hx hb dX5_start_32 rfl (lv_at hl 1 rfl) ?_
      obtain ⟨C5, r6, hg, hE⟩ := hE
      refine kA_i (va_runV (As := [.int a1]) (rest := []) F.1 (e_p_groupFrom l G h u C2 a1 C5 r6 hg _) (cwV 1 hts (aw_V w_769 w_771 ws_X5_groupFrom w_1 w_772) rfl rfl rfl (by decide +kernel) ⟨by decide, by decide⟩) ⟨cS_blind, va_recv (q := (RX5, TX5, 13)) (ci := 5) (q0 := 0) hK.1 hP rfl pW_0, cS_pre hP hD hK⟩ rfl rfl hl.1 rfl (lv_room (Nat.le_of_ble_eq_true rfl)) dX5_start_33 ⟨by decide, by decide⟩) hD hS hA (fun r9 u0 H locs hp hP hD hS => ?_)
      have hp := hp.symm; subst hp
      exact hE.elim
    ·
      rw [if_pos h4] at hE
      obtain ⟨rfl, rfl⟩ := hE
      exact th_1 (E := xIOO) (names := xUp) (ik := 98) (ic := 100) F hst hT hS hns hP hD (by decide +kernel) (by decide +kernel) w_743 w_744 w_19 (fun s2 h1 h2 => at_IOO h1 h2) hex hl.1 dX5_start_23 dX5_start_26 dX5_start_27 dX5_start_30 (by decide) (by decide) (by decide) (by decide) (by decide) (by decide)
  ·
    rw [if_pos h1] at hE
    obtain ⟨rfl, rfl⟩ := hE
    exact th_1 (E := xISE) (names := xUp) (ik := 87) (ic := 89) F hst hT hS hns hP hD (by decide +kernel) (by decide +kernel) w_602 w_603 w_18 (fun s2 h1 h2 => at_ISE h1 h2) hex hl.1 dX5_start_7 dX5_start_10 dX5_start_11 dX5_start_14 (by decide) (by decide) (by decide) (by decide) (by decide) (by decide)

theorem dX5_end_15 : decode cX5_end 15 = .ok (.aload_n 0, 1) := by decide +kernel
theorem dX5_end_16 : decode cX5_end 16 = .ok (.iload_n 1, 1) := by decide +kernel
theorem dX5_end_17 : decode cX5_end 17 = .ok (.invokevirtual 104, 3) := by decide +kernel
theorem dX5_end_20 : decode cX5_end 20 = .ok (.ifCond .ne 11, 3) := by decide +kernel
theorem dX5_end_31 : decode cX5_end 31 = .ok (.aload_n 0, 1) := by decide +kernel
theorem dX5_end_32 : decode cX5_end 32 = .ok (.iload_n 1, 1) := by decide +kernel
theorem dX5_end_33 : decode cX5_end 33 = .ok (.invokevirtual 111, 3) := by decide +kernel
theorem dX5_end_36 : decode cX5_end 36 = .ok (.ireturn, 1) := by decide +kernel
def E_p_end (C : CS) (a1 : Int32) (C' : CS) (r : Int32) : Prop := if (kI C 5) = 0 then (False) else (∃ (C2 : CS) (r3 : Int32), E_p_isGroup C a1 C2 r3 ∧ (if r3 = 0 then (False) else (∃ (C5 : CS) (r6 : Int32), E_p_groupTo C2 a1 C5 r6 ∧ (C' = C5 ∧ r = r6))))
set_option maxHeartbeats 4000000 in
set_option maxRecDepth 100000 in
theorem e_p_end (l : Launch) (G : PG) (h : Nat) (u : Nat → Nat) (C : CS) (a1 : Int32) (C' : CS) (r : Int32) (hE : E_p_end C a1 C' r) : Ci l yX5_end (Cond.code yX5_end cX5_end 2 (some .int) :: aW) { frames := 2, cells := 0, slots := 0, locals := 45 } G (pW G h u C) [.ref h, .int a1] (fun (r9 : Int32) (_ : Unit) => r9 = r) (fun (_ : Unit) => pW G h u C') 0 0 := by
  refine ofB (y := yX5_end) (G := G) (cc := cX5_end) (maxL := 2) (ret := (some .int)) (Qc := fun A => va_Qi (fun (r9 : Int32) (_ : Unit) => r9 = r) (oB G A (fun (_ : Unit) => pW G h u C')) A) (by decide) rfl ?_
  intro p e s m below meth c A F hK hA hP hD
  have hS : va_S A s.heap s.heap [] := va_S.rf
  have hx := F.1.1; have hb := F.1.2.1; have hml := F.1.2.2.1; have hts := F.1.2.2.2.2
  have hown : s.vm.findClass RX5 = some m.cls := F.1.2.2.2.1
  have hl := lv_entry ([.ref h, .int a1]) (n := 2) (Nat.le_of_ble_eq_true rfl)
  rw [lg_entry_eq]
  generalize (lg_sl ([.ref h, .int a1]) ++ List.replicate (2 - (lg_sl ([.ref h, .int a1])).length) Slot.unset).toArray = ls at hl ⊢
  have hl : lv_has ls 2 [(0, .ref h), (1, .int a1)] := hl
  unfold E_p_end at hE
  refine lv_aload_n hx hb dX5_end_0 rfl (lv_at hl 0 rfl) ?_
  refine va_get (D := G.1) (ci := 5) (v := .int (kI C 5)) (C := RX5) (T := TX5) (N := 13) hx hb hts inX5 hown hK.1 hP 0 pW_0 rfl 5 (by decide) (hts _ w_195) (fun _ h9 => h9) rfl dX5_end_1 ?_
  refine lv_if_ne (tgt := 15) hx hb dX5_end_4 (by decide) (fun h1 => ?_) (fun h1 => ?_)
  ·
    rw [if_neg h1] at hE
    refine lv_aload_n hx hb dX5_end_15 rfl (lv_at hl 0 rfl) ?_
    refine lv_iload_n hx hb dX5_end_16 rfl (lv_at hl 1 rfl) ?_
    obtain ⟨C2, r3, hg, hE⟩ := hE
    refine kA_i (va_runV (As := [.int a1]) (rest := []) F.1 (e_p_isGroup l G h u C a1 C2 r3 hg _) (cwV 1 hts (aw_V w_765 w_767 ws_X5_isGroup w_1 w_768) rfl rfl rfl (by decide +kernel) ⟨by decide, by decide⟩) ⟨cS_blind, va_recv (q := (RX5, TX5, 13)) (ci := 5) (q0 := 0) hK.1 hP rfl pW_0, cS_pre hP hD hK⟩ rfl rfl hl.1 rfl (lv_room (Nat.le_of_ble_eq_true rfl)) dX5_end_17 ⟨Nat.le_refl _, Nat.le_refl _⟩) hD hS hA (fun r9 u0 H locs hp hP hD hS => ?_)
    have hp := hp.symm; subst hp
    refine lv_if_ne (tgt := 31) hx hb dX5_end_20 (by decide) (fun h4 => ?_) (fun h4 => ?_)
    ·
      rw [if_neg h4] at hE
      refine lv_aload_n hx hb dX5_end_31 rfl (lv_at hl 0 rfl) ?_
      refine lv_iload_n hx hb dX5_end_32 rfl (lv_at hl 1 rfl) ?_
      obtain ⟨C5, r6, hg, hE⟩ := hE
      refine kA_i (va_runV (As := [.int a1]) (rest := []) F.1 (e_p_groupTo l G h u C2 a1 C5 r6 hg _) (cwV 1 hts (aw_V w_780 w_782 ws_X5_groupTo w_1 w_783) rfl rfl rfl (by decide +kernel) ⟨by decide, by decide⟩) ⟨cS_blind, va_recv (q := (RX5, TX5, 13)) (ci := 5) (q0 := 0) hK.1 hP rfl pW_0, cS_pre hP hD hK⟩ rfl rfl hl.1 rfl (lv_room (Nat.le_of_ble_eq_true rfl)) dX5_end_33 ⟨Nat.le_refl _, Nat.le_refl _⟩) hD hS hA (fun r9 u0 H locs hp hP hD hS => ?_)
      have hp := hp.symm; subst hp
      obtain ⟨rfl, hr9⟩ := hE
      exact en_i F hS _ () (by rfl) hr9.symm hP hD (Nat.le_refl _) (Nat.le_refl _) dX5_end_36
    ·
      rw [if_pos h4] at hE
      exact hE.elim
  ·
    rw [if_pos h1] at hE
    exact hE.elim

theorem dX5_end_23 : decode cX5_end 23 = .ok (.new 98, 3) := by decide +kernel
theorem dX5_end_26 : decode cX5_end 26 = .ok (.dup, 1) := by decide +kernel
theorem dX5_end_27 : decode cX5_end 27 = .ok (.invokespecial 100, 3) := by decide +kernel
theorem dX5_end_30 : decode cX5_end 30 = .ok (.athrow, 1) := by decide +kernel
def EX_p_end (C : CS) (a1 : Int32) (C' : CS) (X : String) : Prop := if (kI C 5) = 0 then (C' = C ∧ X = xISE) else (∃ (C2 : CS) (r3 : Int32), E_p_isGroup C a1 C2 r3 ∧ (if r3 = 0 then (C' = C2 ∧ X = xIOO) else (∃ (C5 : CS) (r6 : Int32), E_p_groupTo C2 a1 C5 r6 ∧ (False))))
set_option maxHeartbeats 4000000 in
set_option maxRecDepth 100000 in
theorem x_p_end (l : Launch) (hst : l.stackTraces = false) (G : PG) (Z : ZZ) (h : Nat) (u : Nat → Nat) (C : CS) (a1 : Int32) (C' : CS) (X : String) (hE : EX_p_end C a1 C' X) : Yt l yX5_end (Cond.code yX5_end cX5_end 2 (some .int) :: aW) { frames := 6, cells := 1, slots := 6, locals := 100 } Z G (pW G h u C) [.ref h, .int a1] X (pW G h u C') 1 6 := by
  refine ofY (y := yX5_end) (G := G) (cc := cX5_end) (maxL := 2) (ret := (some .int)) (by decide) rfl ?_
  intro p e s m below meth c A F hK hT hZ hex hA hns hP hD
  have hS : va_S A s.heap s.heap [] := va_S.rf
  have hx := F.1.1; have hb := F.1.2.1; have hml := F.1.2.2.1; have hts := F.1.2.2.2.2
  have hown : s.vm.findClass RX5 = some m.cls := F.1.2.2.2.1
  have hl := lv_entry ([.ref h, .int a1]) (n := 2) (Nat.le_of_ble_eq_true rfl)
  rw [lg_entry_eq]
  generalize (lg_sl ([.ref h, .int a1]) ++ List.replicate (2 - (lg_sl ([.ref h, .int a1])).length) Slot.unset).toArray = ls at hl ⊢
  have hl : lv_has ls 2 [(0, .ref h), (1, .int a1)] := hl
  unfold EX_p_end at hE
  refine lv_aload_n hx hb dX5_end_0 rfl (lv_at hl 0 rfl) ?_
  refine va_get (D := G.1) (ci := 5) (v := .int (kI C 5)) (C := RX5) (T := TX5) (N := 13) hx hb hts inX5 hown hK.1 hP 0 pW_0 rfl 5 (by decide) (hts _ w_195) (fun _ h9 => h9) rfl dX5_end_1 ?_
  refine lv_if_ne (tgt := 15) hx hb dX5_end_4 (by decide) (fun h1 => ?_) (fun h1 => ?_)
  ·
    rw [if_neg h1] at hE
    refine lv_aload_n hx hb dX5_end_15 rfl (lv_at hl 0 rfl) ?_
    refine lv_iload_n hx hb dX5_end_16 rfl (lv_at hl 1 rfl) ?_
    obtain ⟨C2, r3, hg, hE⟩ := hE
    refine kA_i (va_runV (As := [.int a1]) (rest := []) F.1 (e_p_isGroup l G h u C a1 C2 r3 hg _) (cwV 1 hts (aw_V w_765 w_767 ws_X5_isGroup w_1 w_768) rfl rfl rfl (by decide +kernel) ⟨by decide, by decide⟩) ⟨cS_blind, va_recv (q := (RX5, TX5, 13)) (ci := 5) (q0 := 0) hK.1 hP rfl pW_0, cS_pre hP hD hK⟩ rfl rfl hl.1 rfl (lv_room (Nat.le_of_ble_eq_true rfl)) dX5_end_17 ⟨by decide, by decide⟩) hD hS hA (fun r9 u0 H locs hp hP hD hS => ?_)
    have hp := hp.symm; subst hp
    refine lv_if_ne (tgt := 31) hx hb dX5_end_20 (by decide) (fun h4 => ?_) (fun h4 => ?_)
    ·
      rw [if_neg h4] at hE
      refine lv_aload_n hx hb dX5_end_31 rfl (lv_at hl 0 rfl) ?_
      refine lv_iload_n hx hb dX5_end_32 rfl (lv_at hl 1 rfl) ?_
      obtain ⟨C5, r6, hg, hE⟩ := hE
      refine kA_i (va_runV (As := [.int a1]) (rest := []) F.1 (e_p_groupTo l G h u C2 a1 C5 r6 hg _) (cwV 1 hts (aw_V w_780 w_782 ws_X5_groupTo w_1 w_783) rfl rfl rfl (by decide +kernel) ⟨by decide, by decide⟩) ⟨cS_blind, va_recv (q := (RX5, TX5, 13)) (ci := 5) (q0 := 0) hK.1 hP rfl pW_0, cS_pre hP hD hK⟩ rfl rfl hl.1 rfl (lv_room (Nat.le_of_ble_eq_true rfl)) dX5_end_33 ⟨by decide, by decide⟩) hD hS hA (fun r9 u0 H locs hp hP hD hS => ?_)
      have hp := hp.symm; subst hp
      exact hE.elim
    ·
      rw [if_pos h4] at hE
      obtain ⟨rfl, rfl⟩ := hE
      exact th_1 (E := xIOO) (names := xUp) (ik := 98) (ic := 100) F hst hT hS hns hP hD (by decide +kernel) (by decide +kernel) w_743 w_744 w_19 (fun s2 h1 h2 => at_IOO h1 h2) hex hl.1 dX5_end_23 dX5_end_26 dX5_end_27 dX5_end_30 (by decide) (by decide) (by decide) (by decide) (by decide) (by decide)
  ·
    rw [if_pos h1] at hE
    obtain ⟨rfl, rfl⟩ := hE
    exact th_1 (E := xISE) (names := xUp) (ik := 87) (ic := 89) F hst hT hS hns hP hD (by decide +kernel) (by decide +kernel) w_602 w_603 w_18 (fun s2 h1 h2 => at_ISE h1 h2) hex hl.1 dX5_end_7 dX5_end_10 dX5_end_11 dX5_end_14 (by decide) (by decide) (by decide) (by decide) (by decide) (by decide)

theorem dX5_replace_15 : decode cX5_replace 15 = .ok (.aload_n 0, 1) := by decide +kernel
theorem dX5_replace_16 : decode cX5_replace 16 = .ok (.invokevirtual 114, 3) := by decide +kernel
theorem dX5_replace_19 : decode cX5_replace 19 = .ok (.istore_n 1, 1) := by decide +kernel
theorem dX5_replace_20 : decode cX5_replace 20 = .ok (.iload_n 1, 1) := by decide +kernel
theorem dX5_replace_21 : decode cX5_replace 21 = .ok (.iconst 1, 1) := by decide +kernel
theorem dX5_replace_22 : decode cX5_replace 22 = .ok (.if_icmp .ne 11, 3) := by decide +kernel
theorem dX5_replace_33 : decode cX5_replace 33 = .ok (.iload_n 1, 1) := by decide +kernel
theorem dX5_replace_34 : decode cX5_replace 34 = .ok (.iconst 2, 1) := by decide +kernel
theorem dX5_replace_35 : decode cX5_replace 35 = .ok (.if_icmp .ne 11, 3) := by decide +kernel
theorem dX5_replace_46 : decode cX5_replace 46 = .ok (.aload_n 0, 1) := by decide +kernel
theorem dX5_replace_47 : decode cX5_replace 47 = .ok (.getfield 37, 3) := by decide +kernel
theorem dX5_replace_50 : decode cX5_replace 50 = .ok (.invokevirtual 58, 3) := by decide +kernel
theorem dX5_replace_53 : decode cX5_replace 53 = .ok (.iconst 0, 1) := by decide +kernel
theorem dX5_replace_54 : decode cX5_replace 54 = .ok (.istore_n 2, 1) := by decide +kernel
theorem dX5_replace_55 : decode cX5_replace 55 = .ok (.iconst 0, 1) := by decide +kernel
theorem dX5_replace_56 : decode cX5_replace 56 = .ok (.istore_n 3, 1) := by decide +kernel
theorem dX5_replace_57 : decode cX5_replace 57 = .ok (.iconst 0, 1) := by decide +kernel
theorem dX5_replace_58 : decode cX5_replace 58 = .ok (.istore 4, 2) := by decide +kernel
theorem dX5_replace_60 : decode cX5_replace 60 = .ok (.iload 4, 2) := by decide +kernel
theorem dX5_replace_62 : decode cX5_replace 62 = .ok (.bipush 9, 2) := by decide +kernel
theorem dX5_replace_64 : decode cX5_replace 64 = .ok (.if_icmp .ge 48, 3) := by decide +kernel
theorem dX5_replace_67 : decode cX5_replace 67 = .ok (.aload_n 0, 1) := by decide +kernel
theorem dX5_replace_68 : decode cX5_replace 68 = .ok (.iload_n 3, 1) := by decide +kernel
theorem dX5_replace_69 : decode cX5_replace 69 = .ok (.aload_n 0, 1) := by decide +kernel
theorem dX5_replace_70 : decode cX5_replace 70 = .ok (.getfield 20, 3) := by decide +kernel
theorem dX5_replace_73 : decode cX5_replace 73 = .ok (.invokevirtual 90, 3) := by decide +kernel
theorem dX5_replace_76 : decode cX5_replace 76 = .ok (.iconst (-1), 1) := by decide +kernel
theorem dX5_replace_77 : decode cX5_replace 77 = .ok (.invokevirtual 94, 3) := by decide +kernel
theorem dX5_replace_80 : decode cX5_replace 80 = .ok (.ifCond .eq 32, 3) := by decide +kernel
theorem dX5_replace_83 : decode cX5_replace 83 = .ok (.aload_n 0, 1) := by decide +kernel
theorem dX5_replace_84 : decode cX5_replace 84 = .ok (.iload_n 2, 1) := by decide +kernel
theorem dX5_replace_85 : decode cX5_replace 85 = .ok (.aload_n 0, 1) := by decide +kernel
theorem dX5_replace_86 : decode cX5_replace 86 = .ok (.getfield 101, 3) := by decide +kernel
theorem dX5_replace_89 : decode cX5_replace 89 = .ok (.invokevirtual 117, 3) := by decide +kernel
theorem dX5_replace_92 : decode cX5_replace 92 = .ok (.aload_n 0, 1) := by decide +kernel
theorem dX5_replace_93 : decode cX5_replace 93 = .ok (.invokevirtual 121, 3) := by decide +kernel
theorem dX5_replace_96 : decode cX5_replace 96 = .ok (.aload_n 0, 1) := by decide +kernel
theorem dX5_replace_97 : decode cX5_replace 97 = .ok (.getfield 124, 3) := by decide +kernel
theorem dX5_replace_100 : decode cX5_replace 100 = .ok (.istore_n 2, 1) := by decide +kernel
theorem dX5_replace_101 : decode cX5_replace 101 = .ok (.aload_n 0, 1) := by decide +kernel
theorem dX5_replace_102 : decode cX5_replace 102 = .ok (.invokevirtual 127, 3) := by decide +kernel
theorem dX5_replace_105 : decode cX5_replace 105 = .ok (.istore_n 3, 1) := by decide +kernel
theorem dX5_replace_106 : decode cX5_replace 106 = .ok (.iinc 4 1, 3) := by decide +kernel
theorem dX5_replace_109 : decode cX5_replace 109 = .ok (.goto (-49), 3) := by decide +kernel
theorem dX5_replace_112 : decode cX5_replace 112 = .ok (.aload_n 0, 1) := by decide +kernel
theorem dX5_replace_113 : decode cX5_replace 113 = .ok (.iload_n 2, 1) := by decide +kernel
theorem dX5_replace_114 : decode cX5_replace 114 = .ok (.aload_n 0, 1) := by decide +kernel
theorem dX5_replace_115 : decode cX5_replace 115 = .ok (.getfield 20, 3) := by decide +kernel
theorem dX5_replace_118 : decode cX5_replace 118 = .ok (.invokevirtual 90, 3) := by decide +kernel
theorem dX5_replace_121 : decode cX5_replace 121 = .ok (.invokevirtual 117, 3) := by decide +kernel
theorem dX5_replace_124 : decode cX5_replace 124 = .ok (.aload_n 0, 1) := by decide +kernel
theorem dX5_replace_125 : decode cX5_replace 125 = .ok (.iconst 0, 1) := by decide +kernel
theorem dX5_replace_126 : decode cX5_replace 126 = .ok (.putfield 80, 3) := by decide +kernel
theorem dX5_replace_129 : decode cX5_replace 129 = .ok (.aload_n 0, 1) := by decide +kernel
theorem dX5_replace_130 : decode cX5_replace 130 = .ok (.getfield 37, 3) := by decide +kernel
theorem dX5_replace_133 : decode cX5_replace 133 = .ok (.invokevirtual 90, 3) := by decide +kernel
theorem dX5_replace_136 : decode cX5_replace 136 = .ok (.ireturn, 1) := by decide +kernel
def L_p_replace_60 : Nat → CS → Int32 → Int32 → Int32 → Int32 → CS → Int32 → Prop
  | 0, _, _, _, _, _, _, _ => False
  | nf + 1, C, x1, x2, x3, x4, C', r => if 9 ≤ x4 then (∃ (C7 : CS), E_p_makeFromText C x2 (nI (tJ (kT C))) C7 0 ∧ (C' = (uI C7 5 0) ∧ r = (nI (kJ (uI C7 5 0) 3)))) else (∃ (C9 : CS) (r10 : Int32), E_p_match C x3 (nI (tJ (kT C))) (-1) C9 r10 ∧ (if r10 = 0 then (∃ (C12 : CS), E_p_makeFromText C9 x2 (nI (tJ (kT C9))) C12 0 ∧ (C' = (uI C12 5 0) ∧ r = (nI (kJ (uI C12 5 0) 3)))) else (∃ (C14 : CS), E_p_makeFromText C9 x2 (kI C9 6) C14 0 ∧ (∃ (C16 : CS), E_p_makeFromTemplate C14 C16 0 ∧ (∃ (C18 : CS) (r19 : Int32), E_p_placeAfterMatch C16 C18 r19 ∧ (L_p_replace_60 nf C18 x1 (kI C16 7) r19 (x4 + 1) C' r))))))
set_option maxHeartbeats 4000000 in
set_option maxRecDepth 100000 in
theorem L_p_replace_60_ok {l : Launch} {G : PG} {h : Nat} {u : Nat → Nat} {C' : CS} {r : Int32} {p : Program} {e : Env} {s : State} {m : MethodId} {below : List Frame} {meth : Method} {c : Code} {A : Nat → Prop} (F : bF p s m meth c cX5_replace 5 (some .int) ([.ref h] : List Value).toArray yX5_replace) (hK : pg_K G s) (hA : ∀ q, s.heap.size ≤ q → A q) : ∀ (nf : Nat) (C : CS) (x1 : Int32) (x2 : Int32) (x3 : Int32) (x4 : Int32) (H : Heap) (locs : List Loc) (ls : Array Slot), lv_has ls 5 [(4, .int x4), (3, .int x3), (2, .int x2), (1, .int x1), (0, .ref h)] → L_p_replace_60 nf C x1 x2 x3 x4 C' r → va_P G.1 vwCl (pW G h u C) H → va_D A (pW G h u C) → va_S A s.heap H locs → W p l e { frames := 57, cells := 0, slots := 0, locals := 1497 } s m ([.ref h] : List Value).toArray below meth c H locs 0 0 (MQ below (va_Qi (fun (r9 : Int32) (_ : Unit) => r9 = r) (oB G A (fun (_ : Unit) => pW G h u C')) A) ([.ref h] : List Value).toArray s 0 0 A) (F0 m 60 ls []) := by
  have hx := F.1.1; have hb := F.1.2.1; have hml := F.1.2.2.1; have hts := F.1.2.2.2.2
  have hown : s.vm.findClass RX5 = some m.cls := F.1.2.2.2.1
  intro nf
  induction nf with
  | zero => intro C x1 x2 x3 x4 H locs ls hl hE; exact hE.elim
  | succ nf ih =>
    intro C x1 x2 x3 x4 H locs ls hl hE hP hD hS
    unfold L_p_replace_60 at hE
    refine lv_iload hx hb dX5_replace_60 (lv_at hl 0 rfl) ?_
    refine lv_bipush (v := 9) hx hb dX5_replace_62 (by decide) ?_
    refine lv_icmp_ge (tgt := 112) hx hb dX5_replace_64 (by decide) (fun h6 => ?_) (fun h6 => ?_)
    ·
      rw [if_pos h6] at hE
      refine lv_aload_n hx hb dX5_replace_112 rfl (lv_at hl 4 rfl) ?_
      refine lv_iload_n hx hb dX5_replace_113 rfl (lv_at hl 2 rfl) ?_
      refine lv_aload_n hx hb dX5_replace_114 rfl (lv_at hl 4 rfl) ?_
      refine va_get (D := G.1) (ci := 5) (v := .ref (u 7)) (C := RX5) (T := TX5) (N := 13) hx hb hts inX5 hown hK.1 hP 0 pW_0 rfl 1 (by decide) (hts _ w_191) (fun _ h9 => h9) rfl dX5_replace_115 ?_
      refine kp_V (va_runV (As := []) (rest := [.int x2, .ref h]) F.1 (v_row_size l G _ _ _ _ _ _) (cwV 0 hts (aw_V w_257 w_258 w_259 w_3 w_260) rfl rfl rfl (by decide +kernel) ⟨by decide, by decide⟩) ⟨cS_blind, va_recv (q := (RX3, TX3, 2)) (ci := 3) (q0 := 0) hK.1 (pP_r1 (C := C) hP) rfl rfl, cS_pre (pP_r1 (C := C) hP) (pD_r1 (C := C) hD) hK⟩ rfl rfl hl.1 rfl (lv_room (Nat.le_of_ble_eq_true rfl)) dX5_replace_118 ⟨Nat.le_refl _, Nat.le_refl _⟩) (fun v9 hp => ?_)
      subst hp
      obtain ⟨C7, hg, hE⟩ := hE
      refine kA_v (va_runV (As := [.int x2, .int (nI (tJ (kT C)))]) (rest := []) F.1 (e_p_makeFromText l G h u C x2 (nI (tJ (kT C))) C7 0 hg _) (cwV 2 hts (aw_V w_799 w_801 ws_X5_makeFromText w_1 w_802) rfl rfl rfl (by decide +kernel) ⟨by decide, by decide⟩) ⟨cS_blind, va_recv (q := (RX5, TX5, 13)) (ci := 5) (q0 := 0) hK.1 hP rfl pW_0, cS_pre hP hD hK⟩ rfl rfl hl.1 rfl (lv_room (Nat.le_of_ble_eq_true rfl)) dX5_replace_121 ⟨Nat.le_refl _, Nat.le_refl _⟩) hD hS hA (fun u0 H locs hp hP hD hS => ?_)
      refine lv_aload_n hx hb dX5_replace_124 rfl (lv_at hl 4 rfl) ?_
      refine lv_iconst (v := 0) hx hb dX5_replace_125 (by decide) ?_
      refine va_put (D := G.1) (ci := 5) (v := .int 0) (ty := .boolean) (C := RX5) (T := TX5) (N := 13) hx hb hts inX5 tyX5 tyX5_ok nmX5 hown hK.1 hP hD hS 0 pW_0 rfl 5 (by decide) (hts _ w_195) (fun _ h9 => h9) rfl (by decide +kernel) rfl rfl (Nat.le_of_ble_eq_true rfl) dX5_replace_126 (fun H locs hP hD hS => ?_)
      rw [pW_f5] at hP hD
      refine lv_aload_n hx hb dX5_replace_129 rfl (lv_at hl 4 rfl) ?_
      refine va_get (D := G.1) (ci := 5) (v := .ref (u 35)) (C := RX5) (T := TX5) (N := 13) hx hb hts inX5 hown hK.1 hP 0 pW_0 rfl 9 (by decide) (hts _ w_199) (fun _ h9 => h9) rfl dX5_replace_130 ?_
      refine kp_V (va_runV (As := []) (rest := []) F.1 (v_row_size l G _ _ _ _ _ _) (cwV 0 hts (aw_V w_257 w_258 w_259 w_3 w_260) rfl rfl rfl (by decide +kernel) ⟨by decide, by decide⟩) ⟨cS_blind, va_recv (q := (RX3, TX3, 2)) (ci := 3) (q0 := 0) hK.1 (pP_r3 (C := (uI C7 5 0)) hP) rfl rfl, cS_pre (pP_r3 (C := (uI C7 5 0)) hP) (pD_r3 (C := (uI C7 5 0)) hD) hK⟩ rfl rfl hl.1 rfl (lv_room (Nat.le_of_ble_eq_true rfl)) dX5_replace_133 ⟨Nat.le_refl _, Nat.le_refl _⟩) (fun v9 hp => ?_)
      subst hp
      obtain ⟨rfl, hr9⟩ := hE
      exact en_i F hS _ () (by rfl) hr9.symm hP hD (Nat.le_refl _) (Nat.le_refl _) dX5_replace_136
    ·
      rw [if_neg h6] at hE
      refine lv_aload_n hx hb dX5_replace_67 rfl (lv_at hl 4 rfl) ?_
      refine lv_iload_n hx hb dX5_replace_68 rfl (lv_at hl 1 rfl) ?_
      refine lv_aload_n hx hb dX5_replace_69 rfl (lv_at hl 4 rfl) ?_
      refine va_get (D := G.1) (ci := 5) (v := .ref (u 7)) (C := RX5) (T := TX5) (N := 13) hx hb hts inX5 hown hK.1 hP 0 pW_0 rfl 1 (by decide) (hts _ w_191) (fun _ h9 => h9) rfl dX5_replace_70 ?_
      refine kp_V (va_runV (As := []) (rest := [.int x3, .ref h]) F.1 (v_row_size l G _ _ _ _ _ _) (cwV 0 hts (aw_V w_257 w_258 w_259 w_3 w_260) rfl rfl rfl (by decide +kernel) ⟨by decide, by decide⟩) ⟨cS_blind, va_recv (q := (RX3, TX3, 2)) (ci := 3) (q0 := 0) hK.1 (pP_r1 (C := C) hP) rfl rfl, cS_pre (pP_r1 (C := C) hP) (pD_r1 (C := C) hD) hK⟩ rfl rfl hl.1 rfl (lv_room (Nat.le_of_ble_eq_true rfl)) dX5_replace_73 ⟨Nat.le_refl _, Nat.le_refl _⟩) (fun v9 hp => ?_)
      subst hp
      refine lv_iconst (v := (-1)) hx hb dX5_replace_76 (by decide) ?_
      obtain ⟨C9, r10, hg, hE⟩ := hE
      refine kA_i (va_runV (As := [.int x3, .int (nI (tJ (kT C))), .int (-1)]) (rest := []) F.1 (e_p_match l G h u C x3 (nI (tJ (kT C))) (-1) C9 r10 hg _) (cwV 3 hts (aw_V w_617 w_619 ws_X5_match w_1 w_620) rfl rfl rfl (by decide +kernel) ⟨by decide, by decide⟩) ⟨cS_blind, va_recv (q := (RX5, TX5, 13)) (ci := 5) (q0 := 0) hK.1 hP rfl pW_0, cS_pre hP hD hK⟩ rfl rfl hl.1 rfl (lv_room (Nat.le_of_ble_eq_true rfl)) dX5_replace_77 ⟨Nat.le_refl _, Nat.le_refl _⟩) hD hS hA (fun r9 u0 H locs hp hP hD hS => ?_)
      have hp := hp.symm; subst hp
      refine lv_if_eq (tgt := 112) hx hb dX5_replace_80 (by decide) (fun h11 => ?_) (fun h11 => ?_)
      ·
        rw [if_pos h11] at hE
        refine lv_aload_n hx hb dX5_replace_112 rfl (lv_at hl 4 rfl) ?_
        refine lv_iload_n hx hb dX5_replace_113 rfl (lv_at hl 2 rfl) ?_
        refine lv_aload_n hx hb dX5_replace_114 rfl (lv_at hl 4 rfl) ?_
        refine va_get (D := G.1) (ci := 5) (v := .ref (u 7)) (C := RX5) (T := TX5) (N := 13) hx hb hts inX5 hown hK.1 hP 0 pW_0 rfl 1 (by decide) (hts _ w_191) (fun _ h9 => h9) rfl dX5_replace_115 ?_
        refine kp_V (va_runV (As := []) (rest := [.int x2, .ref h]) F.1 (v_row_size l G _ _ _ _ _ _) (cwV 0 hts (aw_V w_257 w_258 w_259 w_3 w_260) rfl rfl rfl (by decide +kernel) ⟨by decide, by decide⟩) ⟨cS_blind, va_recv (q := (RX3, TX3, 2)) (ci := 3) (q0 := 0) hK.1 (pP_r1 (C := C9) hP) rfl rfl, cS_pre (pP_r1 (C := C9) hP) (pD_r1 (C := C9) hD) hK⟩ rfl rfl hl.1 rfl (lv_room (Nat.le_of_ble_eq_true rfl)) dX5_replace_118 ⟨Nat.le_refl _, Nat.le_refl _⟩) (fun v9 hp => ?_)
        subst hp
        obtain ⟨C12, hg, hE⟩ := hE
        refine kA_v (va_runV (As := [.int x2, .int (nI (tJ (kT C9)))]) (rest := []) F.1 (e_p_makeFromText l G h u C9 x2 (nI (tJ (kT C9))) C12 0 hg _) (cwV 2 hts (aw_V w_799 w_801 ws_X5_makeFromText w_1 w_802) rfl rfl rfl (by decide +kernel) ⟨by decide, by decide⟩) ⟨cS_blind, va_recv (q := (RX5, TX5, 13)) (ci := 5) (q0 := 0) hK.1 hP rfl pW_0, cS_pre hP hD hK⟩ rfl rfl hl.1 rfl (lv_room (Nat.le_of_ble_eq_true rfl)) dX5_replace_121 ⟨Nat.le_refl _, Nat.le_refl _⟩) hD hS hA (fun u0 H locs hp hP hD hS => ?_)
        refine lv_aload_n hx hb dX5_replace_124 rfl (lv_at hl 4 rfl) ?_
        refine lv_iconst (v := 0) hx hb dX5_replace_125 (by decide) ?_
        refine va_put (D := G.1) (ci := 5) (v := .int 0) (ty := .boolean) (C := RX5) (T := TX5) (N := 13) hx hb hts inX5 tyX5 tyX5_ok nmX5 hown hK.1 hP hD hS 0 pW_0 rfl 5 (by decide) (hts _ w_195) (fun _ h9 => h9) rfl (by decide +kernel) rfl rfl (Nat.le_of_ble_eq_true rfl) dX5_replace_126 (fun H locs hP hD hS => ?_)
        rw [pW_f5] at hP hD
        refine lv_aload_n hx hb dX5_replace_129 rfl (lv_at hl 4 rfl) ?_
        refine va_get (D := G.1) (ci := 5) (v := .ref (u 35)) (C := RX5) (T := TX5) (N := 13) hx hb hts inX5 hown hK.1 hP 0 pW_0 rfl 9 (by decide) (hts _ w_199) (fun _ h9 => h9) rfl dX5_replace_130 ?_
        refine kp_V (va_runV (As := []) (rest := []) F.1 (v_row_size l G _ _ _ _ _ _) (cwV 0 hts (aw_V w_257 w_258 w_259 w_3 w_260) rfl rfl rfl (by decide +kernel) ⟨by decide, by decide⟩) ⟨cS_blind, va_recv (q := (RX3, TX3, 2)) (ci := 3) (q0 := 0) hK.1 (pP_r3 (C := (uI C12 5 0)) hP) rfl rfl, cS_pre (pP_r3 (C := (uI C12 5 0)) hP) (pD_r3 (C := (uI C12 5 0)) hD) hK⟩ rfl rfl hl.1 rfl (lv_room (Nat.le_of_ble_eq_true rfl)) dX5_replace_133 ⟨Nat.le_refl _, Nat.le_refl _⟩) (fun v9 hp => ?_)
        subst hp
        obtain ⟨rfl, hr9⟩ := hE
        exact en_i F hS _ () (by rfl) hr9.symm hP hD (Nat.le_refl _) (Nat.le_refl _) dX5_replace_136
      ·
        rw [if_neg h11] at hE
        refine lv_aload_n hx hb dX5_replace_83 rfl (lv_at hl 4 rfl) ?_
        refine lv_iload_n hx hb dX5_replace_84 rfl (lv_at hl 2 rfl) ?_
        refine lv_aload_n hx hb dX5_replace_85 rfl (lv_at hl 4 rfl) ?_
        refine va_get (D := G.1) (ci := 5) (v := .int (kI C9 6)) (C := RX5) (T := TX5) (N := 13) hx hb hts inX5 hown hK.1 hP 0 pW_0 rfl 6 (by decide) (hts _ w_196) (fun _ h9 => h9) rfl dX5_replace_86 ?_
        obtain ⟨C14, hg, hE⟩ := hE
        refine kA_v (va_runV (As := [.int x2, .int (kI C9 6)]) (rest := []) F.1 (e_p_makeFromText l G h u C9 x2 (kI C9 6) C14 0 hg _) (cwV 2 hts (aw_V w_799 w_801 ws_X5_makeFromText w_1 w_802) rfl rfl rfl (by decide +kernel) ⟨by decide, by decide⟩) ⟨cS_blind, va_recv (q := (RX5, TX5, 13)) (ci := 5) (q0 := 0) hK.1 hP rfl pW_0, cS_pre hP hD hK⟩ rfl rfl hl.1 rfl (lv_room (Nat.le_of_ble_eq_true rfl)) dX5_replace_89 ⟨Nat.le_refl _, Nat.le_refl _⟩) hD hS hA (fun u0 H locs hp hP hD hS => ?_)
        refine lv_aload_n hx hb dX5_replace_92 rfl (lv_at hl 4 rfl) ?_
        obtain ⟨C16, hg, hE⟩ := hE
        refine kA_v (va_runV (As := []) (rest := []) F.1 (e_p_makeFromTemplate l G h u C14 C16 0 hg _) (cwV 0 hts (aw_V w_803 w_805 ws_X5_makeFromTemplate w_1 w_806) rfl rfl rfl (by decide +kernel) ⟨by decide, by decide⟩) ⟨cS_blind, va_recv (q := (RX5, TX5, 13)) (ci := 5) (q0 := 0) hK.1 hP rfl pW_0, cS_pre hP hD hK⟩ rfl rfl hl.1 rfl (lv_room (Nat.le_of_ble_eq_true rfl)) dX5_replace_93 ⟨Nat.le_refl _, Nat.le_refl _⟩) hD hS hA (fun u0 H locs hp hP hD hS => ?_)
        refine lv_aload_n hx hb dX5_replace_96 rfl (lv_at hl 4 rfl) ?_
        refine va_get (D := G.1) (ci := 5) (v := .int (kI C16 7)) (C := RX5) (T := TX5) (N := 13) hx hb hts inX5 hown hK.1 hP 0 pW_0 rfl 7 (by decide) (hts _ w_197) (fun _ h9 => h9) rfl dX5_replace_97 ?_
        refine lv_istore_n hx hb dX5_replace_100 rfl hl (by decide) rfl (fun ls hl => ?_)
        have hl : lv_has ls 5 [(2, .int (kI C16 7)), (4, .int x4), (3, .int x3), (1, .int x1), (0, .ref h)] := hl
        refine lv_aload_n hx hb dX5_replace_101 rfl (lv_at hl 4 rfl) ?_
        obtain ⟨C18, r19, hg, hE⟩ := hE
        refine kA_i (va_runV (As := []) (rest := []) F.1 (e_p_placeAfterMatch l G h u C16 C18 r19 hg _) (cwV 0 hts (aw_V w_807 w_809 ws_X5_placeAfterMatch w_1 w_810) rfl rfl rfl (by decide +kernel) ⟨by decide, by decide⟩) ⟨cS_blind, va_recv (q := (RX5, TX5, 13)) (ci := 5) (q0 := 0) hK.1 hP rfl pW_0, cS_pre hP hD hK⟩ rfl rfl hl.1 rfl (lv_room (Nat.le_of_ble_eq_true rfl)) dX5_replace_102 ⟨Nat.le_refl _, Nat.le_refl _⟩) hD hS hA (fun r9 u0 H locs hp hP hD hS => ?_)
        have hp := hp.symm; subst hp
        refine lv_istore_n hx hb dX5_replace_105 rfl hl (by decide) rfl (fun ls hl => ?_)
        have hl : lv_has ls 5 [(3, .int r19), (2, .int (kI C16 7)), (4, .int x4), (1, .int x1), (0, .ref h)] := hl
        refine lv_iinc (v := (x4 + 1)) (k := 2) hx hb dX5_replace_106 hl rfl rfl (by decide) rfl (fun ls hl => ?_)
        have hl : lv_has ls 5 [(4, .int (x4 + 1)), (3, .int r19), (2, .int (kI C16 7)), (1, .int x1), (0, .ref h)] := hl
        refine lv_goto (tgt := 60) hx hb dX5_replace_109 (by decide) ?_
        exact ih C18 x1 (kI C16 7) r19 (x4 + 1) _ _ ls (lv_sub hl [0, 1, 2, 3, 4] rfl) hE hP hD hS
def E_p_replace (C : CS)  (C' : CS) (r : Int32) : Prop := if (kI C 4) = 0 then (False) else (∃ (C2 : CS) (r3 : Int32), E_p_templateFault C C2 r3 ∧ (if r3 = 1 then (False) else (if r3 = 2 then (False) else (∃ nf : Nat, L_p_replace_60 nf (uJ C2 3 0 (kG C2 3)) r3 0 0 0 C' r))))
set_option maxHeartbeats 4000000 in
set_option maxRecDepth 100000 in
theorem e_p_replace (l : Launch) (G : PG) (h : Nat) (u : Nat → Nat) (C : CS)  (C' : CS) (r : Int32) (hE : E_p_replace C C' r) : Ci l yX5_replace (Cond.code yX5_replace cX5_replace 5 (some .int) :: aW) { frames := 57, cells := 0, slots := 0, locals := 1497 } G (pW G h u C) [.ref h] (fun (r9 : Int32) (_ : Unit) => r9 = r) (fun (_ : Unit) => pW G h u C') 0 0 := by
  refine ofB (y := yX5_replace) (G := G) (cc := cX5_replace) (maxL := 5) (ret := (some .int)) (Qc := fun A => va_Qi (fun (r9 : Int32) (_ : Unit) => r9 = r) (oB G A (fun (_ : Unit) => pW G h u C')) A) (by decide) rfl ?_
  intro p e s m below meth c A F hK hA hP hD
  have hS : va_S A s.heap s.heap [] := va_S.rf
  have hx := F.1.1; have hb := F.1.2.1; have hml := F.1.2.2.1; have hts := F.1.2.2.2.2
  have hown : s.vm.findClass RX5 = some m.cls := F.1.2.2.2.1
  have hl := lv_entry ([.ref h]) (n := 5) (Nat.le_of_ble_eq_true rfl)
  rw [lg_entry_eq]
  generalize (lg_sl ([.ref h]) ++ List.replicate (5 - (lg_sl ([.ref h])).length) Slot.unset).toArray = ls at hl ⊢
  have hl : lv_has ls 5 [(0, .ref h)] := hl
  unfold E_p_replace at hE
  refine lv_aload_n hx hb dX5_replace_0 rfl (lv_at hl 0 rfl) ?_
  refine va_get (D := G.1) (ci := 5) (v := .int (kI C 4)) (C := RX5) (T := TX5) (N := 13) hx hb hts inX5 hown hK.1 hP 0 pW_0 rfl 4 (by decide) (hts _ w_194) (fun _ h9 => h9) rfl dX5_replace_1 ?_
  refine lv_if_ne (tgt := 15) hx hb dX5_replace_4 (by decide) (fun h1 => ?_) (fun h1 => ?_)
  ·
    rw [if_neg h1] at hE
    refine lv_aload_n hx hb dX5_replace_15 rfl (lv_at hl 0 rfl) ?_
    obtain ⟨C2, r3, hg, hE⟩ := hE
    refine kA_i (va_runV (As := []) (rest := []) F.1 (e_p_templateFault l G h u C C2 r3 hg _) (cwV 0 hts (aw_V w_791 w_793 ws_X5_templateFault w_1 w_794) rfl rfl rfl (by decide +kernel) ⟨by decide, by decide⟩) ⟨cS_blind, va_recv (q := (RX5, TX5, 13)) (ci := 5) (q0 := 0) hK.1 hP rfl pW_0, cS_pre hP hD hK⟩ rfl rfl hl.1 rfl (lv_room (Nat.le_of_ble_eq_true rfl)) dX5_replace_16 ⟨Nat.le_refl _, Nat.le_refl _⟩) hD hS hA (fun r9 u0 H locs hp hP hD hS => ?_)
    have hp := hp.symm; subst hp
    refine lv_istore_n hx hb dX5_replace_19 rfl hl (by decide) rfl (fun ls hl => ?_)
    have hl : lv_has ls 5 [(1, .int r3), (0, .ref h)] := hl
    refine lv_iload_n hx hb dX5_replace_20 rfl (lv_at hl 0 rfl) ?_
    refine lv_iconst (v := 1) hx hb dX5_replace_21 (by decide) ?_
    refine lv_icmp_ne (tgt := 33) hx hb dX5_replace_22 (by decide) (fun h4 => ?_) (fun h4 => ?_)
    ·
      rw [if_neg h4] at hE
      refine lv_iload_n hx hb dX5_replace_33 rfl (lv_at hl 0 rfl) ?_
      refine lv_iconst (v := 2) hx hb dX5_replace_34 (by decide) ?_
      refine lv_icmp_ne (tgt := 46) hx hb dX5_replace_35 (by decide) (fun h5 => ?_) (fun h5 => ?_)
      ·
        rw [if_neg h5] at hE
        refine lv_aload_n hx hb dX5_replace_46 rfl (lv_at hl 1 rfl) ?_
        refine va_get (D := G.1) (ci := 5) (v := .ref (u 35)) (C := RX5) (T := TX5) (N := 13) hx hb hts inX5 hown hK.1 hP 0 pW_0 rfl 9 (by decide) (hts _ w_199) (fun _ h9 => h9) rfl dX5_replace_47 ?_
        have hPc := (hP.perm (zr3 (G := G) (h := h) (u := u) (C := C2) rfl)).appR; have hDc := (hD.perm (zr3 (G := G) (h := h) (u := u) (C := C2) rfl)).appR
        refine kz_v (w2 := fun _ => pW G h u (uJ C2 3 0 (kG C2 3))) (va_runV (As := []) (rest := []) F.1 (c_row_empty l G (u 35) (u 36) 296 (nI (kJ C2 3)) (kG C2 3) _) (cwV 0 hts (aw_V w_249 w_250 w_251 w_3 w_252) rfl rfl rfl (by decide +kernel) ⟨by decide, by decide⟩) ⟨cS_blind, va_recv (q := (RX3, TX3, 2)) (ci := 3) (q0 := 0) hK.1 hPc rfl rfl, cS_pre hPc hDc hK⟩ rfl rfl hl.1 rfl (lv_room (Nat.le_of_ble_eq_true rfl)) dX5_replace_50 ⟨Nat.le_refl _, Nat.le_refl _⟩) hP hD hS hA (zr3 (G := G) (h := h) (u := u) (C := C2) rfl) (fun _ => zr3b) (fun u0 H locs hp hP hD hS => ?_)
        refine lv_iconst (v := 0) hx hb dX5_replace_53 (by decide) ?_
        refine lv_istore_n hx hb dX5_replace_54 rfl hl (by decide) rfl (fun ls hl => ?_)
        have hl : lv_has ls 5 [(2, .int 0), (1, .int r3), (0, .ref h)] := hl
        refine lv_iconst (v := 0) hx hb dX5_replace_55 (by decide) ?_
        refine lv_istore_n hx hb dX5_replace_56 rfl hl (by decide) rfl (fun ls hl => ?_)
        have hl : lv_has ls 5 [(3, .int 0), (2, .int 0), (1, .int r3), (0, .ref h)] := hl
        refine lv_iconst (v := 0) hx hb dX5_replace_57 (by decide) ?_
        refine lv_istore hx hb dX5_replace_58 hl (by decide) rfl (fun ls hl => ?_)
        have hl : lv_has ls 5 [(4, .int 0), (3, .int 0), (2, .int 0), (1, .int r3), (0, .ref h)] := hl
        obtain ⟨nf, hE⟩ := hE
        exact L_p_replace_60_ok F hK hA nf (uJ C2 3 0 (kG C2 3)) r3 0 0 0 _ _ ls (lv_sub hl [0, 1, 2, 3, 4] rfl) hE hP hD hS
      ·
        rw [if_pos h5] at hE
        exact hE.elim
    ·
      rw [if_pos h4] at hE
      exact hE.elim
  ·
    rw [if_pos h1] at hE
    exact hE.elim

theorem dX5_replace_25 : decode cX5_replace 25 = .ok (.new 70, 3) := by decide +kernel
theorem dX5_replace_28 : decode cX5_replace 28 = .ok (.dup, 1) := by decide +kernel
theorem dX5_replace_29 : decode cX5_replace 29 = .ok (.invokespecial 72, 3) := by decide +kernel
theorem dX5_replace_32 : decode cX5_replace 32 = .ok (.athrow, 1) := by decide +kernel
theorem dX5_replace_38 : decode cX5_replace 38 = .ok (.new 98, 3) := by decide +kernel
theorem dX5_replace_41 : decode cX5_replace 41 = .ok (.dup, 1) := by decide +kernel
theorem dX5_replace_42 : decode cX5_replace 42 = .ok (.invokespecial 100, 3) := by decide +kernel
theorem dX5_replace_45 : decode cX5_replace 45 = .ok (.athrow, 1) := by decide +kernel
def EX_p_replace (C : CS)  (C' : CS) (X : String) : Prop := if (kI C 4) = 0 then (C' = C ∧ X = xISE) else (∃ (C2 : CS) (r3 : Int32), E_p_templateFault C C2 r3 ∧ (if r3 = 1 then (C' = C2 ∧ X = xIAE) else (if r3 = 2 then (C' = C2 ∧ X = xIOO) else (False))))
set_option maxHeartbeats 4000000 in
set_option maxRecDepth 100000 in
theorem x_p_replace (l : Launch) (hst : l.stackTraces = false) (G : PG) (Z : ZZ) (h : Nat) (u : Nat → Nat) (C : CS)  (C' : CS) (X : String) (hE : EX_p_replace C C' X) : Yt l yX5_replace (Cond.code yX5_replace cX5_replace 5 (some .int) :: aW) { frames := 6, cells := 1, slots := 6, locals := 100 } Z G (pW G h u C) [.ref h] X (pW G h u C') 1 6 := by
  refine ofY (y := yX5_replace) (G := G) (cc := cX5_replace) (maxL := 5) (ret := (some .int)) (by decide) rfl ?_
  intro p e s m below meth c A F hK hT hZ hex hA hns hP hD
  have hS : va_S A s.heap s.heap [] := va_S.rf
  have hx := F.1.1; have hb := F.1.2.1; have hml := F.1.2.2.1; have hts := F.1.2.2.2.2
  have hown : s.vm.findClass RX5 = some m.cls := F.1.2.2.2.1
  have hl := lv_entry ([.ref h]) (n := 5) (Nat.le_of_ble_eq_true rfl)
  rw [lg_entry_eq]
  generalize (lg_sl ([.ref h]) ++ List.replicate (5 - (lg_sl ([.ref h])).length) Slot.unset).toArray = ls at hl ⊢
  have hl : lv_has ls 5 [(0, .ref h)] := hl
  unfold EX_p_replace at hE
  refine lv_aload_n hx hb dX5_replace_0 rfl (lv_at hl 0 rfl) ?_
  refine va_get (D := G.1) (ci := 5) (v := .int (kI C 4)) (C := RX5) (T := TX5) (N := 13) hx hb hts inX5 hown hK.1 hP 0 pW_0 rfl 4 (by decide) (hts _ w_194) (fun _ h9 => h9) rfl dX5_replace_1 ?_
  refine lv_if_ne (tgt := 15) hx hb dX5_replace_4 (by decide) (fun h1 => ?_) (fun h1 => ?_)
  ·
    rw [if_neg h1] at hE
    refine lv_aload_n hx hb dX5_replace_15 rfl (lv_at hl 0 rfl) ?_
    obtain ⟨C2, r3, hg, hE⟩ := hE
    refine kA_i (va_runV (As := []) (rest := []) F.1 (e_p_templateFault l G h u C C2 r3 hg _) (cwV 0 hts (aw_V w_791 w_793 ws_X5_templateFault w_1 w_794) rfl rfl rfl (by decide +kernel) ⟨by decide, by decide⟩) ⟨cS_blind, va_recv (q := (RX5, TX5, 13)) (ci := 5) (q0 := 0) hK.1 hP rfl pW_0, cS_pre hP hD hK⟩ rfl rfl hl.1 rfl (lv_room (Nat.le_of_ble_eq_true rfl)) dX5_replace_16 ⟨by decide, by decide⟩) hD hS hA (fun r9 u0 H locs hp hP hD hS => ?_)
    have hp := hp.symm; subst hp
    refine lv_istore_n hx hb dX5_replace_19 rfl hl (by decide) rfl (fun ls hl => ?_)
    have hl : lv_has ls 5 [(1, .int r3), (0, .ref h)] := hl
    refine lv_iload_n hx hb dX5_replace_20 rfl (lv_at hl 0 rfl) ?_
    refine lv_iconst (v := 1) hx hb dX5_replace_21 (by decide) ?_
    refine lv_icmp_ne (tgt := 33) hx hb dX5_replace_22 (by decide) (fun h4 => ?_) (fun h4 => ?_)
    ·
      rw [if_neg h4] at hE
      refine lv_iload_n hx hb dX5_replace_33 rfl (lv_at hl 0 rfl) ?_
      refine lv_iconst (v := 2) hx hb dX5_replace_34 (by decide) ?_
      refine lv_icmp_ne (tgt := 46) hx hb dX5_replace_35 (by decide) (fun h5 => ?_) (fun h5 => ?_)
      ·
        rw [if_neg h5] at hE
        refine lv_aload_n hx hb dX5_replace_46 rfl (lv_at hl 1 rfl) ?_
        refine va_get (D := G.1) (ci := 5) (v := .ref (u 35)) (C := RX5) (T := TX5) (N := 13) hx hb hts inX5 hown hK.1 hP 0 pW_0 rfl 9 (by decide) (hts _ w_199) (fun _ h9 => h9) rfl dX5_replace_47 ?_
        have hPc := (hP.perm (zr3 (G := G) (h := h) (u := u) (C := C2) rfl)).appR; have hDc := (hD.perm (zr3 (G := G) (h := h) (u := u) (C := C2) rfl)).appR
        refine kz_v (w2 := fun _ => pW G h u (uJ C2 3 0 (kG C2 3))) (va_runV (As := []) (rest := []) F.1 (c_row_empty l G (u 35) (u 36) 296 (nI (kJ C2 3)) (kG C2 3) _) (cwV 0 hts (aw_V w_249 w_250 w_251 w_3 w_252) rfl rfl rfl (by decide +kernel) ⟨by decide, by decide⟩) ⟨cS_blind, va_recv (q := (RX3, TX3, 2)) (ci := 3) (q0 := 0) hK.1 hPc rfl rfl, cS_pre hPc hDc hK⟩ rfl rfl hl.1 rfl (lv_room (Nat.le_of_ble_eq_true rfl)) dX5_replace_50 ⟨by decide, by decide⟩) hP hD hS hA (zr3 (G := G) (h := h) (u := u) (C := C2) rfl) (fun _ => zr3b) (fun u0 H locs hp hP hD hS => ?_)
        refine lv_iconst (v := 0) hx hb dX5_replace_53 (by decide) ?_
        refine lv_istore_n hx hb dX5_replace_54 rfl hl (by decide) rfl (fun ls hl => ?_)
        have hl : lv_has ls 5 [(2, .int 0), (1, .int r3), (0, .ref h)] := hl
        refine lv_iconst (v := 0) hx hb dX5_replace_55 (by decide) ?_
        refine lv_istore_n hx hb dX5_replace_56 rfl hl (by decide) rfl (fun ls hl => ?_)
        have hl : lv_has ls 5 [(3, .int 0), (2, .int 0), (1, .int r3), (0, .ref h)] := hl
        refine lv_iconst (v := 0) hx hb dX5_replace_57 (by decide) ?_
        refine lv_istore hx hb dX5_replace_58 hl (by decide) rfl (fun ls hl => ?_)
        have hl : lv_has ls 5 [(4, .int 0), (3, .int 0), (2, .int 0), (1, .int r3), (0, .ref h)] := hl
        exact hE.elim
      ·
        rw [if_pos h5] at hE
        obtain ⟨rfl, rfl⟩ := hE
        exact th_1 (E := xIOO) (names := xUp) (ik := 98) (ic := 100) F hst hT hS hns hP hD (by decide +kernel) (by decide +kernel) w_743 w_744 w_19 (fun s2 h1 h2 => at_IOO h1 h2) hex hl.1 dX5_replace_38 dX5_replace_41 dX5_replace_42 dX5_replace_45 (by decide) (by decide) (by decide) (by decide) (by decide) (by decide)
    ·
      rw [if_pos h4] at hE
      obtain ⟨rfl, rfl⟩ := hE
      exact th_1 (E := xIAE) (names := xUp) (ik := 70) (ic := 72) F hst hT hS hns hP hD (by decide +kernel) (by decide +kernel) w_530 w_531 w_17 (fun s2 h1 h2 => at_IAE h1 h2) hex hl.1 dX5_replace_25 dX5_replace_28 dX5_replace_29 dX5_replace_32 (by decide) (by decide) (by decide) (by decide) (by decide) (by decide)
  ·
    rw [if_pos h1] at hE
    obtain ⟨rfl, rfl⟩ := hE
    exact th_1 (E := xISE) (names := xUp) (ik := 87) (ic := 89) F hst hT hS hns hP hD (by decide +kernel) (by decide +kernel) w_602 w_603 w_18 (fun s2 h1 h2 => at_ISE h1 h2) hex hl.1 dX5_replace_7 dX5_replace_10 dX5_replace_11 dX5_replace_14 (by decide) (by decide) (by decide) (by decide) (by decide) (by decide)

theorem dX5_replaced_23 : decode cX5_replaced 23 = .ok (.aload_n 0, 1) := by decide +kernel
theorem dX5_replaced_24 : decode cX5_replaced 24 = .ok (.getfield 37, 3) := by decide +kernel
theorem dX5_replaced_27 : decode cX5_replaced 27 = .ok (.iload_n 1, 1) := by decide +kernel
theorem dX5_replaced_28 : decode cX5_replaced 28 = .ok (.invokevirtual 130, 3) := by decide +kernel
theorem dX5_replaced_31 : decode cX5_replaced 31 = .ok (.ireturn, 1) := by decide +kernel
def E_p_replaced (C : CS) (a1 : Int32) (C' : CS) (r : Int32) : Prop := if a1 < 0 then (False) else (if a1 < (nI (kJ C 3)) then (rOK 296 (kJ C 3) (kG C 3) ∧ (narrow .char (.int (rw_at (kJ C 3) (kG C 3) a1)) = .int (rw_at (kJ C 3) (kG C 3) a1) ∧ C' = C ∧ r = (rw_at (kJ C 3) (kG C 3) a1))) else (False))
set_option maxHeartbeats 4000000 in
set_option maxRecDepth 100000 in
theorem e_p_replaced (l : Launch) (G : PG) (h : Nat) (u : Nat → Nat) (C : CS) (a1 : Int32) (C' : CS) (r : Int32) (hE : E_p_replaced C a1 C' r) : Ci l yX5_replaced (Cond.code yX5_replaced cX5_replaced 2 (some .char) :: aW) { frames := 1, cells := 0, slots := 0, locals := 21 } G (pW G h u C) [.ref h, .int a1] (fun (r9 : Int32) (_ : Unit) => r9 = r) (fun (_ : Unit) => pW G h u C') 0 0 := by
  refine ofB (y := yX5_replaced) (G := G) (cc := cX5_replaced) (maxL := 2) (ret := (some .char)) (Qc := fun A => va_Qi (fun (r9 : Int32) (_ : Unit) => r9 = r) (oB G A (fun (_ : Unit) => pW G h u C')) A) (by decide) rfl ?_
  intro p e s m below meth c A F hK hA hP hD
  have hS : va_S A s.heap s.heap [] := va_S.rf
  have hx := F.1.1; have hb := F.1.2.1; have hml := F.1.2.2.1; have hts := F.1.2.2.2.2
  have hown : s.vm.findClass RX5 = some m.cls := F.1.2.2.2.1
  have hl := lv_entry ([.ref h, .int a1]) (n := 2) (Nat.le_of_ble_eq_true rfl)
  rw [lg_entry_eq]
  generalize (lg_sl ([.ref h, .int a1]) ++ List.replicate (2 - (lg_sl ([.ref h, .int a1])).length) Slot.unset).toArray = ls at hl ⊢
  have hl : lv_has ls 2 [(0, .ref h), (1, .int a1)] := hl
  unfold E_p_replaced at hE
  refine lv_iload_n hx hb dX5_replaced_0 rfl (lv_at hl 1 rfl) ?_
  refine lv_if_lt (tgt := 15) hx hb dX5_replaced_1 (by decide) (fun h1 => ?_) (fun h1 => ?_)
  ·
    rw [if_pos h1] at hE
    exact hE.elim
  ·
    rw [if_neg h1] at hE
    refine lv_iload_n hx hb dX5_replaced_4 rfl (lv_at hl 1 rfl) ?_
    refine lv_aload_n hx hb dX5_replaced_5 rfl (lv_at hl 0 rfl) ?_
    refine va_get (D := G.1) (ci := 5) (v := .ref (u 35)) (C := RX5) (T := TX5) (N := 13) hx hb hts inX5 hown hK.1 hP 0 pW_0 rfl 9 (by decide) (hts _ w_199) (fun _ h9 => h9) rfl dX5_replaced_6 ?_
    refine kp_V (va_runV (As := []) (rest := [.int a1]) F.1 (v_row_size l G _ _ _ _ _ _) (cwV 0 hts (aw_V w_257 w_258 w_259 w_3 w_260) rfl rfl rfl (by decide +kernel) ⟨by decide, by decide⟩) ⟨cS_blind, va_recv (q := (RX3, TX3, 2)) (ci := 3) (q0 := 0) hK.1 (pP_r3 (C := C) hP) rfl rfl, cS_pre (pP_r3 (C := C) hP) (pD_r3 (C := C) hD) hK⟩ rfl rfl hl.1 rfl (lv_room (Nat.le_of_ble_eq_true rfl)) dX5_replaced_9 ⟨Nat.le_refl _, Nat.le_refl _⟩) (fun v9 hp => ?_)
    subst hp
    refine lv_icmp_lt (tgt := 23) hx hb dX5_replaced_12 (by decide) (fun h2 => ?_) (fun h2 => ?_)
    ·
      rw [if_pos h2] at hE
      refine lv_aload_n hx hb dX5_replaced_23 rfl (lv_at hl 0 rfl) ?_
      refine va_get (D := G.1) (ci := 5) (v := .ref (u 35)) (C := RX5) (T := TX5) (N := 13) hx hb hts inX5 hown hK.1 hP 0 pW_0 rfl 9 (by decide) (hts _ w_199) (fun _ h9 => h9) rfl dX5_replaced_24 ?_
      refine lv_iload_n hx hb dX5_replaced_27 rfl (lv_at hl 1 rfl) ?_
      obtain ⟨ho3, hE⟩ := hE
      refine kp_V (va_runV (As := [.int a1]) (rest := []) F.1 (v_row_at l G _ _ _ (kJ C 3) (kG C 3) a1 ho3.1 (by decide) ho3.2 _) (cwV 1 hts (aw_V w_795 w_336 w_337 w_3 w_338) rfl rfl rfl (by decide +kernel) ⟨by decide, by decide⟩) ⟨cS_blind, va_recv (q := (RX3, TX3, 2)) (ci := 3) (q0 := 0) hK.1 (pP_r3 (C := C) hP) rfl rfl, cS_pre (pP_r3 (C := C) hP) (pD_r3 (C := C) hD) hK⟩ rfl rfl hl.1 rfl (lv_room (Nat.le_of_ble_eq_true rfl)) dX5_replaced_28 ⟨Nat.le_refl _, Nat.le_refl _⟩) (fun v9 hp => ?_)
      subst hp
      obtain ⟨hn, rfl, hr9⟩ := hE
      exact en_i F hS _ () hn hr9.symm hP hD (Nat.le_refl _) (Nat.le_refl _) dX5_replaced_31
    ·
      rw [if_neg h2] at hE
      exact hE.elim


def EX_p_replaced (C : CS) (a1 : Int32) (C' : CS) (X : String) : Prop := if a1 < 0 then (C' = C ∧ X = xIOO) else (if a1 < (nI (kJ C 3)) then (rOK 296 (kJ C 3) (kG C 3) ∧ (False)) else (C' = C ∧ X = xIOO))
set_option maxHeartbeats 4000000 in
set_option maxRecDepth 100000 in
theorem x_p_replaced (l : Launch) (hst : l.stackTraces = false) (G : PG) (Z : ZZ) (h : Nat) (u : Nat → Nat) (C : CS) (a1 : Int32) (C' : CS) (X : String) (hE : EX_p_replaced C a1 C' X) : Yt l yX5_replaced (Cond.code yX5_replaced cX5_replaced 2 (some .char) :: aW) { frames := 6, cells := 1, slots := 6, locals := 100 } Z G (pW G h u C) [.ref h, .int a1] X (pW G h u C') 1 6 := by
  refine ofY (y := yX5_replaced) (G := G) (cc := cX5_replaced) (maxL := 2) (ret := (some .char)) (by decide) rfl ?_
  intro p e s m below meth c A F hK hT hZ hex hA hns hP hD
  have hS : va_S A s.heap s.heap [] := va_S.rf
  have hx := F.1.1; have hb := F.1.2.1; have hml := F.1.2.2.1; have hts := F.1.2.2.2.2
  have hown : s.vm.findClass RX5 = some m.cls := F.1.2.2.2.1
  have hl := lv_entry ([.ref h, .int a1]) (n := 2) (Nat.le_of_ble_eq_true rfl)
  rw [lg_entry_eq]
  generalize (lg_sl ([.ref h, .int a1]) ++ List.replicate (2 - (lg_sl ([.ref h, .int a1])).length) Slot.unset).toArray = ls at hl ⊢
  have hl : lv_has ls 2 [(0, .ref h), (1, .int a1)] := hl
  unfold EX_p_replaced at hE
  refine lv_iload_n hx hb dX5_replaced_0 rfl (lv_at hl 1 rfl) ?_
  refine lv_if_lt (tgt := 15) hx hb dX5_replaced_1 (by decide) (fun h1 => ?_) (fun h1 => ?_)
  ·
    rw [if_pos h1] at hE
    obtain ⟨rfl, rfl⟩ := hE
    exact th_1 (E := xIOO) (names := xUp) (ik := 98) (ic := 100) F hst hT hS hns hP hD (by decide +kernel) (by decide +kernel) w_743 w_744 w_19 (fun s2 h1 h2 => at_IOO h1 h2) hex hl.1 dX5_replaced_15 dX5_replaced_18 dX5_replaced_19 dX5_replaced_22 (by decide) (by decide) (by decide) (by decide) (by decide) (by decide)
  ·
    rw [if_neg h1] at hE
    refine lv_iload_n hx hb dX5_replaced_4 rfl (lv_at hl 1 rfl) ?_
    refine lv_aload_n hx hb dX5_replaced_5 rfl (lv_at hl 0 rfl) ?_
    refine va_get (D := G.1) (ci := 5) (v := .ref (u 35)) (C := RX5) (T := TX5) (N := 13) hx hb hts inX5 hown hK.1 hP 0 pW_0 rfl 9 (by decide) (hts _ w_199) (fun _ h9 => h9) rfl dX5_replaced_6 ?_
    refine kp_V (va_runV (As := []) (rest := [.int a1]) F.1 (v_row_size l G _ _ _ _ _ _) (cwV 0 hts (aw_V w_257 w_258 w_259 w_3 w_260) rfl rfl rfl (by decide +kernel) ⟨by decide, by decide⟩) ⟨cS_blind, va_recv (q := (RX3, TX3, 2)) (ci := 3) (q0 := 0) hK.1 (pP_r3 (C := C) hP) rfl rfl, cS_pre (pP_r3 (C := C) hP) (pD_r3 (C := C) hD) hK⟩ rfl rfl hl.1 rfl (lv_room (Nat.le_of_ble_eq_true rfl)) dX5_replaced_9 ⟨by decide, by decide⟩) (fun v9 hp => ?_)
    subst hp
    refine lv_icmp_lt (tgt := 23) hx hb dX5_replaced_12 (by decide) (fun h2 => ?_) (fun h2 => ?_)
    ·
      rw [if_pos h2] at hE
      refine lv_aload_n hx hb dX5_replaced_23 rfl (lv_at hl 0 rfl) ?_
      refine va_get (D := G.1) (ci := 5) (v := .ref (u 35)) (C := RX5) (T := TX5) (N := 13) hx hb hts inX5 hown hK.1 hP 0 pW_0 rfl 9 (by decide) (hts _ w_199) (fun _ h9 => h9) rfl dX5_replaced_24 ?_
      refine lv_iload_n hx hb dX5_replaced_27 rfl (lv_at hl 1 rfl) ?_
      obtain ⟨ho3, hE⟩ := hE
      refine kp_V (va_runV (As := [.int a1]) (rest := []) F.1 (v_row_at l G _ _ _ (kJ C 3) (kG C 3) a1 ho3.1 (by decide) ho3.2 _) (cwV 1 hts (aw_V w_795 w_336 w_337 w_3 w_338) rfl rfl rfl (by decide +kernel) ⟨by decide, by decide⟩) ⟨cS_blind, va_recv (q := (RX3, TX3, 2)) (ci := 3) (q0 := 0) hK.1 (pP_r3 (C := C) hP) rfl rfl, cS_pre (pP_r3 (C := C) hP) (pD_r3 (C := C) hD) hK⟩ rfl rfl hl.1 rfl (lv_room (Nat.le_of_ble_eq_true rfl)) dX5_replaced_28 ⟨by decide, by decide⟩) (fun v9 hp => ?_)
      subst hp
      exact hE.elim
    ·
      rw [if_neg h2] at hE
      obtain ⟨rfl, rfl⟩ := hE
      exact th_1 (E := xIOO) (names := xUp) (ik := 98) (ic := 100) F hst hT hS hns hP hD (by decide +kernel) (by decide +kernel) w_743 w_744 w_19 (fun s2 h1 h2 => at_IOO h1 h2) hex hl.1 dX5_replaced_15 dX5_replaced_18 dX5_replaced_19 dX5_replaced_22 (by decide) (by decide) (by decide) (by decide) (by decide) (by decide)

theorem dX5_split_15 : decode cX5_split 15 = .ok (.aload_n 0, 1) := by decide +kernel
theorem dX5_split_16 : decode cX5_split 16 = .ok (.iconst 0, 1) := by decide +kernel
theorem dX5_split_17 : decode cX5_split 17 = .ok (.putfield 134, 3) := by decide +kernel
theorem dX5_split_20 : decode cX5_split 20 = .ok (.iconst 0, 1) := by decide +kernel
theorem dX5_split_21 : decode cX5_split 21 = .ok (.istore_n 1, 1) := by decide +kernel
theorem dX5_split_22 : decode cX5_split 22 = .ok (.iconst 0, 1) := by decide +kernel
theorem dX5_split_23 : decode cX5_split 23 = .ok (.istore_n 2, 1) := by decide +kernel
theorem dX5_split_24 : decode cX5_split 24 = .ok (.iconst 0, 1) := by decide +kernel
theorem dX5_split_25 : decode cX5_split 25 = .ok (.istore_n 3, 1) := by decide +kernel
theorem dX5_split_26 : decode cX5_split 26 = .ok (.iload_n 3, 1) := by decide +kernel
theorem dX5_split_27 : decode cX5_split 27 = .ok (.bipush 9, 2) := by decide +kernel
theorem dX5_split_29 : decode cX5_split 29 = .ok (.if_icmp .ge 51, 3) := by decide +kernel
theorem dX5_split_32 : decode cX5_split 32 = .ok (.aload_n 0, 1) := by decide +kernel
theorem dX5_split_33 : decode cX5_split 33 = .ok (.iload_n 2, 1) := by decide +kernel
theorem dX5_split_34 : decode cX5_split 34 = .ok (.aload_n 0, 1) := by decide +kernel
theorem dX5_split_35 : decode cX5_split 35 = .ok (.getfield 20, 3) := by decide +kernel
theorem dX5_split_38 : decode cX5_split 38 = .ok (.invokevirtual 90, 3) := by decide +kernel
theorem dX5_split_41 : decode cX5_split 41 = .ok (.iconst (-1), 1) := by decide +kernel
theorem dX5_split_42 : decode cX5_split 42 = .ok (.invokevirtual 94, 3) := by decide +kernel
theorem dX5_split_45 : decode cX5_split 45 = .ok (.ifCond .eq 35, 3) := by decide +kernel
theorem dX5_split_48 : decode cX5_split 48 = .ok (.aload_n 0, 1) := by decide +kernel
theorem dX5_split_49 : decode cX5_split 49 = .ok (.getfield 124, 3) := by decide +kernel
theorem dX5_split_52 : decode cX5_split 52 = .ok (.ifCond .le 17, 3) := by decide +kernel
theorem dX5_split_55 : decode cX5_split 55 = .ok (.aload_n 0, 1) := by decide +kernel
theorem dX5_split_56 : decode cX5_split 56 = .ok (.iload_n 1, 1) := by decide +kernel
theorem dX5_split_57 : decode cX5_split 57 = .ok (.aload_n 0, 1) := by decide +kernel
theorem dX5_split_58 : decode cX5_split 58 = .ok (.getfield 101, 3) := by decide +kernel
theorem dX5_split_61 : decode cX5_split 61 = .ok (.invokevirtual 137, 3) := by decide +kernel
theorem dX5_split_64 : decode cX5_split 64 = .ok (.aload_n 0, 1) := by decide +kernel
theorem dX5_split_65 : decode cX5_split 65 = .ok (.getfield 124, 3) := by decide +kernel
theorem dX5_split_68 : decode cX5_split 68 = .ok (.istore_n 1, 1) := by decide +kernel
theorem dX5_split_69 : decode cX5_split 69 = .ok (.aload_n 0, 1) := by decide +kernel
theorem dX5_split_70 : decode cX5_split 70 = .ok (.invokevirtual 127, 3) := by decide +kernel
theorem dX5_split_73 : decode cX5_split 73 = .ok (.istore_n 2, 1) := by decide +kernel
theorem dX5_split_74 : decode cX5_split 74 = .ok (.iinc 3 1, 3) := by decide +kernel
theorem dX5_split_77 : decode cX5_split 77 = .ok (.goto (-51), 3) := by decide +kernel
theorem dX5_split_80 : decode cX5_split 80 = .ok (.aload_n 0, 1) := by decide +kernel
theorem dX5_split_81 : decode cX5_split 81 = .ok (.getfield 134, 3) := by decide +kernel
theorem dX5_split_84 : decode cX5_split 84 = .ok (.ifCond .ne 7, 3) := by decide +kernel
theorem dX5_split_87 : decode cX5_split 87 = .ok (.iconst 1, 1) := by decide +kernel
theorem dX5_split_88 : decode cX5_split 88 = .ok (.goto 4, 3) := by decide +kernel
theorem dX5_split_91 : decode cX5_split 91 = .ok (.iconst 0, 1) := by decide +kernel
theorem dX5_split_92 : decode cX5_split 92 = .ok (.istore_n 3, 1) := by decide +kernel
theorem dX5_split_93 : decode cX5_split 93 = .ok (.aload_n 0, 1) := by decide +kernel
theorem dX5_split_94 : decode cX5_split 94 = .ok (.iload_n 1, 1) := by decide +kernel
theorem dX5_split_95 : decode cX5_split 95 = .ok (.aload_n 0, 1) := by decide +kernel
theorem dX5_split_96 : decode cX5_split 96 = .ok (.getfield 20, 3) := by decide +kernel
theorem dX5_split_99 : decode cX5_split 99 = .ok (.invokevirtual 90, 3) := by decide +kernel
theorem dX5_split_102 : decode cX5_split 102 = .ok (.invokevirtual 137, 3) := by decide +kernel
theorem dX5_split_105 : decode cX5_split 105 = .ok (.iload_n 3, 1) := by decide +kernel
theorem dX5_split_106 : decode cX5_split 106 = .ok (.ifCond .ne 7, 3) := by decide +kernel
theorem dX5_split_109 : decode cX5_split 109 = .ok (.aload_n 0, 1) := by decide +kernel
theorem dX5_split_110 : decode cX5_split 110 = .ok (.invokevirtual 140, 3) := by decide +kernel
theorem dX5_split_113 : decode cX5_split 113 = .ok (.aload_n 0, 1) := by decide +kernel
theorem dX5_split_114 : decode cX5_split 114 = .ok (.iconst 0, 1) := by decide +kernel
theorem dX5_split_115 : decode cX5_split 115 = .ok (.putfield 80, 3) := by decide +kernel
theorem dX5_split_118 : decode cX5_split 118 = .ok (.aload_n 0, 1) := by decide +kernel
theorem dX5_split_119 : decode cX5_split 119 = .ok (.getfield 134, 3) := by decide +kernel
theorem dX5_split_122 : decode cX5_split 122 = .ok (.ireturn, 1) := by decide +kernel
def L_p_split_26 : Nat → CS → Int32 → Int32 → Int32 → CS → Int32 → Prop
  | 0, _, _, _, _, _, _ => False
  | nf + 1, C, x1, x2, x3, C', r => if 9 ≤ x3 then (if (kI C 12) = 0 then (∃ (C8 : CS), E_p_addPiece C x1 (nI (tJ (kT C))) C8 0 ∧ (C' = (uI C8 5 0) ∧ r = (kI (uI C8 5 0) 12))) else (∃ (C4 : CS), E_p_addPiece C x1 (nI (tJ (kT C))) C4 0 ∧ (∃ (C6 : CS), E_p_dropEmptyPiecesAtEnd C4 C6 0 ∧ (C' = (uI C6 5 0) ∧ r = (kI (uI C6 5 0) 12))))) else (∃ (C10 : CS) (r11 : Int32), E_p_match C x2 (nI (tJ (kT C))) (-1) C10 r11 ∧ (if r11 = 0 then (if (kI C10 12) = 0 then (∃ (C18 : CS), E_p_addPiece C10 x1 (nI (tJ (kT C10))) C18 0 ∧ (C' = (uI C18 5 0) ∧ r = (kI (uI C18 5 0) 12))) else (∃ (C14 : CS), E_p_addPiece C10 x1 (nI (tJ (kT C10))) C14 0 ∧ (∃ (C16 : CS), E_p_dropEmptyPiecesAtEnd C14 C16 0 ∧ (C' = (uI C16 5 0) ∧ r = (kI (uI C16 5 0) 12))))) else (if (kI C10 7) ≤ 0 then (∃ (C21 : CS) (r22 : Int32), E_p_placeAfterMatch C10 C21 r22 ∧ (L_p_split_26 nf C21 x1 r22 (x3 + 1) C' r)) else (∃ (C23 : CS), E_p_addPiece C10 x1 (kI C10 6) C23 0 ∧ (∃ (C25 : CS) (r26 : Int32), E_p_placeAfterMatch C23 C25 r26 ∧ (L_p_split_26 nf C25 (kI C23 7) r26 (x3 + 1) C' r))))))
set_option maxHeartbeats 4000000 in
set_option maxRecDepth 100000 in
theorem L_p_split_26_ok {l : Launch} {G : PG} {h : Nat} {u : Nat → Nat} {C' : CS} {r : Int32} {p : Program} {e : Env} {s : State} {m : MethodId} {below : List Frame} {meth : Method} {c : Code} {A : Nat → Prop} (F : bF p s m meth c cX5_split 4 (some .int) ([.ref h] : List Value).toArray yX5_split) (hK : pg_K G s) (hA : ∀ q, s.heap.size ≤ q → A q) : ∀ (nf : Nat) (C : CS) (x1 : Int32) (x2 : Int32) (x3 : Int32) (H : Heap) (locs : List Loc) (ls : Array Slot), lv_has ls 4 [(3, .int x3), (2, .int x2), (1, .int x1), (0, .ref h)] → L_p_split_26 nf C x1 x2 x3 C' r → va_P G.1 vwCl (pW G h u C) H → va_D A (pW G h u C) → va_S A s.heap H locs → W p l e { frames := 57, cells := 0, slots := 0, locals := 1497 } s m ([.ref h] : List Value).toArray below meth c H locs 0 0 (MQ below (va_Qi (fun (r9 : Int32) (_ : Unit) => r9 = r) (oB G A (fun (_ : Unit) => pW G h u C')) A) ([.ref h] : List Value).toArray s 0 0 A) (F0 m 26 ls []) := by
  have hx := F.1.1; have hb := F.1.2.1; have hml := F.1.2.2.1; have hts := F.1.2.2.2.2
  have hown : s.vm.findClass RX5 = some m.cls := F.1.2.2.2.1
  intro nf
  induction nf with
  | zero => intro C x1 x2 x3 H locs ls hl hE; exact hE.elim
  | succ nf ih =>
    intro C x1 x2 x3 H locs ls hl hE hP hD hS
    unfold L_p_split_26 at hE
    refine lv_iload_n hx hb dX5_split_26 rfl (lv_at hl 0 rfl) ?_
    refine lv_bipush (v := 9) hx hb dX5_split_27 (by decide) ?_
    refine lv_icmp_ge (tgt := 80) hx hb dX5_split_29 (by decide) (fun h2 => ?_) (fun h2 => ?_)
    ·
      rw [if_pos h2] at hE
      refine lv_aload_n hx hb dX5_split_80 rfl (lv_at hl 3 rfl) ?_
      refine va_get (D := G.1) (ci := 5) (v := .int (kI C 12)) (C := RX5) (T := TX5) (N := 13) hx hb hts inX5 hown hK.1 hP 0 pW_0 rfl 12 (by decide) (hts _ w_202) (fun _ h9 => h9) rfl dX5_split_81 ?_
      refine lv_if_ne (tgt := 91) hx hb dX5_split_84 (by decide) (fun h3 => ?_) (fun h3 => ?_)
      ·
        rw [if_neg h3] at hE
        refine lv_iconst (v := 0) hx hb dX5_split_91 (by decide) ?_
        refine lv_istore_n hx hb dX5_split_92 rfl hl (by decide) rfl (fun ls hl => ?_)
        have hl : lv_has ls 4 [(3, .int 0), (2, .int x2), (1, .int x1), (0, .ref h)] := hl
        refine lv_aload_n hx hb dX5_split_93 rfl (lv_at hl 3 rfl) ?_
        refine lv_iload_n hx hb dX5_split_94 rfl (lv_at hl 2 rfl) ?_
        refine lv_aload_n hx hb dX5_split_95 rfl (lv_at hl 3 rfl) ?_
        refine va_get (D := G.1) (ci := 5) (v := .ref (u 7)) (C := RX5) (T := TX5) (N := 13) hx hb hts inX5 hown hK.1 hP 0 pW_0 rfl 1 (by decide) (hts _ w_191) (fun _ h9 => h9) rfl dX5_split_96 ?_
        refine kp_V (va_runV (As := []) (rest := [.int x1, .ref h]) F.1 (v_row_size l G _ _ _ _ _ _) (cwV 0 hts (aw_V w_257 w_258 w_259 w_3 w_260) rfl rfl rfl (by decide +kernel) ⟨by decide, by decide⟩) ⟨cS_blind, va_recv (q := (RX3, TX3, 2)) (ci := 3) (q0 := 0) hK.1 (pP_r1 (C := C) hP) rfl rfl, cS_pre (pP_r1 (C := C) hP) (pD_r1 (C := C) hD) hK⟩ rfl rfl hl.1 rfl (lv_room (Nat.le_of_ble_eq_true rfl)) dX5_split_99 ⟨Nat.le_refl _, Nat.le_refl _⟩) (fun v9 hp => ?_)
        subst hp
        obtain ⟨C4, hg, hE⟩ := hE
        refine kA_v (va_runV (As := [.int x1, .int (nI (tJ (kT C)))]) (rest := []) F.1 (e_p_addPiece l G h u C x1 (nI (tJ (kT C))) C4 0 hg _) (cwV 2 hts (aw_V w_825 w_827 ws_X5_addPiece w_1 w_828) rfl rfl rfl (by decide +kernel) ⟨by decide, by decide⟩) ⟨cS_blind, va_recv (q := (RX5, TX5, 13)) (ci := 5) (q0 := 0) hK.1 hP rfl pW_0, cS_pre hP hD hK⟩ rfl rfl hl.1 rfl (lv_room (Nat.le_of_ble_eq_true rfl)) dX5_split_102 ⟨Nat.le_refl _, Nat.le_refl _⟩) hD hS hA (fun u0 H locs hp hP hD hS => ?_)
        refine lv_iload_n hx hb dX5_split_105 rfl (lv_at hl 0 rfl) ?_
        refine lv_if_ne (tgt := 113) hx hb dX5_split_106 (by decide) (fun h => absurd (by decide) h) (fun _ => ?_)
        refine lv_aload_n hx hb dX5_split_109 rfl (lv_at hl 3 rfl) ?_
        obtain ⟨C6, hg, hE⟩ := hE
        refine kA_v (va_runV (As := []) (rest := []) F.1 (e_p_dropEmptyPiecesAtEnd l G h u C4 C6 0 hg _) (cwV 0 hts (aw_V w_829 w_831 ws_X5_dropEmptyPiecesAtEnd w_1 w_832) rfl rfl rfl (by decide +kernel) ⟨by decide, by decide⟩) ⟨cS_blind, va_recv (q := (RX5, TX5, 13)) (ci := 5) (q0 := 0) hK.1 hP rfl pW_0, cS_pre hP hD hK⟩ rfl rfl hl.1 rfl (lv_room (Nat.le_of_ble_eq_true rfl)) dX5_split_110 ⟨Nat.le_refl _, Nat.le_refl _⟩) hD hS hA (fun u0 H locs hp hP hD hS => ?_)
        refine lv_aload_n hx hb dX5_split_113 rfl (lv_at hl 3 rfl) ?_
        refine lv_iconst (v := 0) hx hb dX5_split_114 (by decide) ?_
        refine va_put (D := G.1) (ci := 5) (v := .int 0) (ty := .boolean) (C := RX5) (T := TX5) (N := 13) hx hb hts inX5 tyX5 tyX5_ok nmX5 hown hK.1 hP hD hS 0 pW_0 rfl 5 (by decide) (hts _ w_195) (fun _ h9 => h9) rfl (by decide +kernel) rfl rfl (Nat.le_of_ble_eq_true rfl) dX5_split_115 (fun H locs hP hD hS => ?_)
        rw [pW_f5] at hP hD
        refine lv_aload_n hx hb dX5_split_118 rfl (lv_at hl 3 rfl) ?_
        refine va_get (D := G.1) (ci := 5) (v := .int (kI (uI C6 5 0) 12)) (C := RX5) (T := TX5) (N := 13) hx hb hts inX5 hown hK.1 hP 0 pW_0 rfl 12 (by decide) (hts _ w_202) (fun _ h9 => h9) rfl dX5_split_119 ?_
        obtain ⟨rfl, hr9⟩ := hE
        exact en_i F hS _ () (by rfl) hr9.symm hP hD (Nat.le_refl _) (Nat.le_refl _) dX5_split_122
      ·
        rw [if_pos h3] at hE
        refine lv_iconst (v := 1) hx hb dX5_split_87 (by decide) ?_
        refine lv_goto (tgt := 92) hx hb dX5_split_88 (by decide) ?_
        refine lv_istore_n hx hb dX5_split_92 rfl hl (by decide) rfl (fun ls hl => ?_)
        have hl : lv_has ls 4 [(3, .int 1), (2, .int x2), (1, .int x1), (0, .ref h)] := hl
        refine lv_aload_n hx hb dX5_split_93 rfl (lv_at hl 3 rfl) ?_
        refine lv_iload_n hx hb dX5_split_94 rfl (lv_at hl 2 rfl) ?_
        refine lv_aload_n hx hb dX5_split_95 rfl (lv_at hl 3 rfl) ?_
        refine va_get (D := G.1) (ci := 5) (v := .ref (u 7)) (C := RX5) (T := TX5) (N := 13) hx hb hts inX5 hown hK.1 hP 0 pW_0 rfl 1 (by decide) (hts _ w_191) (fun _ h9 => h9) rfl dX5_split_96 ?_
        refine kp_V (va_runV (As := []) (rest := [.int x1, .ref h]) F.1 (v_row_size l G _ _ _ _ _ _) (cwV 0 hts (aw_V w_257 w_258 w_259 w_3 w_260) rfl rfl rfl (by decide +kernel) ⟨by decide, by decide⟩) ⟨cS_blind, va_recv (q := (RX3, TX3, 2)) (ci := 3) (q0 := 0) hK.1 (pP_r1 (C := C) hP) rfl rfl, cS_pre (pP_r1 (C := C) hP) (pD_r1 (C := C) hD) hK⟩ rfl rfl hl.1 rfl (lv_room (Nat.le_of_ble_eq_true rfl)) dX5_split_99 ⟨Nat.le_refl _, Nat.le_refl _⟩) (fun v9 hp => ?_)
        subst hp
        obtain ⟨C8, hg, hE⟩ := hE
        refine kA_v (va_runV (As := [.int x1, .int (nI (tJ (kT C)))]) (rest := []) F.1 (e_p_addPiece l G h u C x1 (nI (tJ (kT C))) C8 0 hg _) (cwV 2 hts (aw_V w_825 w_827 ws_X5_addPiece w_1 w_828) rfl rfl rfl (by decide +kernel) ⟨by decide, by decide⟩) ⟨cS_blind, va_recv (q := (RX5, TX5, 13)) (ci := 5) (q0 := 0) hK.1 hP rfl pW_0, cS_pre hP hD hK⟩ rfl rfl hl.1 rfl (lv_room (Nat.le_of_ble_eq_true rfl)) dX5_split_102 ⟨Nat.le_refl _, Nat.le_refl _⟩) hD hS hA (fun u0 H locs hp hP hD hS => ?_)
        refine lv_iload_n hx hb dX5_split_105 rfl (lv_at hl 0 rfl) ?_
        refine lv_if_ne (tgt := 113) hx hb dX5_split_106 (by decide) (fun _ => ?_) (fun h => absurd h (by decide))
        refine lv_aload_n hx hb dX5_split_113 rfl (lv_at hl 3 rfl) ?_
        refine lv_iconst (v := 0) hx hb dX5_split_114 (by decide) ?_
        refine va_put (D := G.1) (ci := 5) (v := .int 0) (ty := .boolean) (C := RX5) (T := TX5) (N := 13) hx hb hts inX5 tyX5 tyX5_ok nmX5 hown hK.1 hP hD hS 0 pW_0 rfl 5 (by decide) (hts _ w_195) (fun _ h9 => h9) rfl (by decide +kernel) rfl rfl (Nat.le_of_ble_eq_true rfl) dX5_split_115 (fun H locs hP hD hS => ?_)
        rw [pW_f5] at hP hD
        refine lv_aload_n hx hb dX5_split_118 rfl (lv_at hl 3 rfl) ?_
        refine va_get (D := G.1) (ci := 5) (v := .int (kI (uI C8 5 0) 12)) (C := RX5) (T := TX5) (N := 13) hx hb hts inX5 hown hK.1 hP 0 pW_0 rfl 12 (by decide) (hts _ w_202) (fun _ h9 => h9) rfl dX5_split_119 ?_
        obtain ⟨rfl, hr9⟩ := hE
        exact en_i F hS _ () (by rfl) hr9.symm hP hD (Nat.le_refl _) (Nat.le_refl _) dX5_split_122
    ·
      rw [if_neg h2] at hE
      refine lv_aload_n hx hb dX5_split_32 rfl (lv_at hl 3 rfl) ?_
      refine lv_iload_n hx hb dX5_split_33 rfl (lv_at hl 1 rfl) ?_
      refine lv_aload_n hx hb dX5_split_34 rfl (lv_at hl 3 rfl) ?_
      refine va_get (D := G.1) (ci := 5) (v := .ref (u 7)) (C := RX5) (T := TX5) (N := 13) hx hb hts inX5 hown hK.1 hP 0 pW_0 rfl 1 (by decide) (hts _ w_191) (fun _ h9 => h9) rfl dX5_split_35 ?_
      refine kp_V (va_runV (As := []) (rest := [.int x2, .ref h]) F.1 (v_row_size l G _ _ _ _ _ _) (cwV 0 hts (aw_V w_257 w_258 w_259 w_3 w_260) rfl rfl rfl (by decide +kernel) ⟨by decide, by decide⟩) ⟨cS_blind, va_recv (q := (RX3, TX3, 2)) (ci := 3) (q0 := 0) hK.1 (pP_r1 (C := C) hP) rfl rfl, cS_pre (pP_r1 (C := C) hP) (pD_r1 (C := C) hD) hK⟩ rfl rfl hl.1 rfl (lv_room (Nat.le_of_ble_eq_true rfl)) dX5_split_38 ⟨Nat.le_refl _, Nat.le_refl _⟩) (fun v9 hp => ?_)
      subst hp
      refine lv_iconst (v := (-1)) hx hb dX5_split_41 (by decide) ?_
      obtain ⟨C10, r11, hg, hE⟩ := hE
      refine kA_i (va_runV (As := [.int x2, .int (nI (tJ (kT C))), .int (-1)]) (rest := []) F.1 (e_p_match l G h u C x2 (nI (tJ (kT C))) (-1) C10 r11 hg _) (cwV 3 hts (aw_V w_617 w_619 ws_X5_match w_1 w_620) rfl rfl rfl (by decide +kernel) ⟨by decide, by decide⟩) ⟨cS_blind, va_recv (q := (RX5, TX5, 13)) (ci := 5) (q0 := 0) hK.1 hP rfl pW_0, cS_pre hP hD hK⟩ rfl rfl hl.1 rfl (lv_room (Nat.le_of_ble_eq_true rfl)) dX5_split_42 ⟨Nat.le_refl _, Nat.le_refl _⟩) hD hS hA (fun r9 u0 H locs hp hP hD hS => ?_)
      have hp := hp.symm; subst hp
      refine lv_if_eq (tgt := 80) hx hb dX5_split_45 (by decide) (fun h12 => ?_) (fun h12 => ?_)
      ·
        rw [if_pos h12] at hE
        refine lv_aload_n hx hb dX5_split_80 rfl (lv_at hl 3 rfl) ?_
        refine va_get (D := G.1) (ci := 5) (v := .int (kI C10 12)) (C := RX5) (T := TX5) (N := 13) hx hb hts inX5 hown hK.1 hP 0 pW_0 rfl 12 (by decide) (hts _ w_202) (fun _ h9 => h9) rfl dX5_split_81 ?_
        refine lv_if_ne (tgt := 91) hx hb dX5_split_84 (by decide) (fun h13 => ?_) (fun h13 => ?_)
        ·
          rw [if_neg h13] at hE
          refine lv_iconst (v := 0) hx hb dX5_split_91 (by decide) ?_
          refine lv_istore_n hx hb dX5_split_92 rfl hl (by decide) rfl (fun ls hl => ?_)
          have hl : lv_has ls 4 [(3, .int 0), (2, .int x2), (1, .int x1), (0, .ref h)] := hl
          refine lv_aload_n hx hb dX5_split_93 rfl (lv_at hl 3 rfl) ?_
          refine lv_iload_n hx hb dX5_split_94 rfl (lv_at hl 2 rfl) ?_
          refine lv_aload_n hx hb dX5_split_95 rfl (lv_at hl 3 rfl) ?_
          refine va_get (D := G.1) (ci := 5) (v := .ref (u 7)) (C := RX5) (T := TX5) (N := 13) hx hb hts inX5 hown hK.1 hP 0 pW_0 rfl 1 (by decide) (hts _ w_191) (fun _ h9 => h9) rfl dX5_split_96 ?_
          refine kp_V (va_runV (As := []) (rest := [.int x1, .ref h]) F.1 (v_row_size l G _ _ _ _ _ _) (cwV 0 hts (aw_V w_257 w_258 w_259 w_3 w_260) rfl rfl rfl (by decide +kernel) ⟨by decide, by decide⟩) ⟨cS_blind, va_recv (q := (RX3, TX3, 2)) (ci := 3) (q0 := 0) hK.1 (pP_r1 (C := C10) hP) rfl rfl, cS_pre (pP_r1 (C := C10) hP) (pD_r1 (C := C10) hD) hK⟩ rfl rfl hl.1 rfl (lv_room (Nat.le_of_ble_eq_true rfl)) dX5_split_99 ⟨Nat.le_refl _, Nat.le_refl _⟩) (fun v9 hp => ?_)
          subst hp
          obtain ⟨C14, hg, hE⟩ := hE
          refine kA_v (va_runV (As := [.int x1, .int (nI (tJ (kT C10)))]) (rest := []) F.1 (e_p_addPiece l G h u C10 x1 (nI (tJ (kT C10))) C14 0 hg _) (cwV 2 hts (aw_V w_825 w_827 ws_X5_addPiece w_1 w_828) rfl rfl rfl (by decide +kernel) ⟨by decide, by decide⟩) ⟨cS_blind, va_recv (q := (RX5, TX5, 13)) (ci := 5) (q0 := 0) hK.1 hP rfl pW_0, cS_pre hP hD hK⟩ rfl rfl hl.1 rfl (lv_room (Nat.le_of_ble_eq_true rfl)) dX5_split_102 ⟨Nat.le_refl _, Nat.le_refl _⟩) hD hS hA (fun u0 H locs hp hP hD hS => ?_)
          refine lv_iload_n hx hb dX5_split_105 rfl (lv_at hl 0 rfl) ?_
          refine lv_if_ne (tgt := 113) hx hb dX5_split_106 (by decide) (fun h => absurd (by decide) h) (fun _ => ?_)
          refine lv_aload_n hx hb dX5_split_109 rfl (lv_at hl 3 rfl) ?_
          obtain ⟨C16, hg, hE⟩ := hE
          refine kA_v (va_runV (As := []) (rest := []) F.1 (e_p_dropEmptyPiecesAtEnd l G h u C14 C16 0 hg _) (cwV 0 hts (aw_V w_829 w_831 ws_X5_dropEmptyPiecesAtEnd w_1 w_832) rfl rfl rfl (by decide +kernel) ⟨by decide, by decide⟩) ⟨cS_blind, va_recv (q := (RX5, TX5, 13)) (ci := 5) (q0 := 0) hK.1 hP rfl pW_0, cS_pre hP hD hK⟩ rfl rfl hl.1 rfl (lv_room (Nat.le_of_ble_eq_true rfl)) dX5_split_110 ⟨Nat.le_refl _, Nat.le_refl _⟩) hD hS hA (fun u0 H locs hp hP hD hS => ?_)
          refine lv_aload_n hx hb dX5_split_113 rfl (lv_at hl 3 rfl) ?_
          refine lv_iconst (v := 0) hx hb dX5_split_114 (by decide) ?_
          refine va_put (D := G.1) (ci := 5) (v := .int 0) (ty := .boolean) (C := RX5) (T := TX5) (N := 13) hx hb hts inX5 tyX5 tyX5_ok nmX5 hown hK.1 hP hD hS 0 pW_0 rfl 5 (by decide) (hts _ w_195) (fun _ h9 => h9) rfl (by decide +kernel) rfl rfl (Nat.le_of_ble_eq_true rfl) dX5_split_115 (fun H locs hP hD hS => ?_)
          rw [pW_f5] at hP hD
          refine lv_aload_n hx hb dX5_split_118 rfl (lv_at hl 3 rfl) ?_
          refine va_get (D := G.1) (ci := 5) (v := .int (kI (uI C16 5 0) 12)) (C := RX5) (T := TX5) (N := 13) hx hb hts inX5 hown hK.1 hP 0 pW_0 rfl 12 (by decide) (hts _ w_202) (fun _ h9 => h9) rfl dX5_split_119 ?_
          obtain ⟨rfl, hr9⟩ := hE
          exact en_i F hS _ () (by rfl) hr9.symm hP hD (Nat.le_refl _) (Nat.le_refl _) dX5_split_122
        ·
          rw [if_pos h13] at hE
          refine lv_iconst (v := 1) hx hb dX5_split_87 (by decide) ?_
          refine lv_goto (tgt := 92) hx hb dX5_split_88 (by decide) ?_
          refine lv_istore_n hx hb dX5_split_92 rfl hl (by decide) rfl (fun ls hl => ?_)
          have hl : lv_has ls 4 [(3, .int 1), (2, .int x2), (1, .int x1), (0, .ref h)] := hl
          refine lv_aload_n hx hb dX5_split_93 rfl (lv_at hl 3 rfl) ?_
          refine lv_iload_n hx hb dX5_split_94 rfl (lv_at hl 2 rfl) ?_
          refine lv_aload_n hx hb dX5_split_95 rfl (lv_at hl 3 rfl) ?_
          refine va_get (D := G.1) (ci := 5) (v := .ref (u 7)) (C := RX5) (T := TX5) (N := 13) hx hb hts inX5 hown hK.1 hP 0 pW_0 rfl 1 (by decide) (hts _ w_191) (fun _ h9 => h9) rfl dX5_split_96 ?_
          refine kp_V (va_runV (As := []) (rest := [.int x1, .ref h]) F.1 (v_row_size l G _ _ _ _ _ _) (cwV 0 hts (aw_V w_257 w_258 w_259 w_3 w_260) rfl rfl rfl (by decide +kernel) ⟨by decide, by decide⟩) ⟨cS_blind, va_recv (q := (RX3, TX3, 2)) (ci := 3) (q0 := 0) hK.1 (pP_r1 (C := C10) hP) rfl rfl, cS_pre (pP_r1 (C := C10) hP) (pD_r1 (C := C10) hD) hK⟩ rfl rfl hl.1 rfl (lv_room (Nat.le_of_ble_eq_true rfl)) dX5_split_99 ⟨Nat.le_refl _, Nat.le_refl _⟩) (fun v9 hp => ?_)
          subst hp
          obtain ⟨C18, hg, hE⟩ := hE
          refine kA_v (va_runV (As := [.int x1, .int (nI (tJ (kT C10)))]) (rest := []) F.1 (e_p_addPiece l G h u C10 x1 (nI (tJ (kT C10))) C18 0 hg _) (cwV 2 hts (aw_V w_825 w_827 ws_X5_addPiece w_1 w_828) rfl rfl rfl (by decide +kernel) ⟨by decide, by decide⟩) ⟨cS_blind, va_recv (q := (RX5, TX5, 13)) (ci := 5) (q0 := 0) hK.1 hP rfl pW_0, cS_pre hP hD hK⟩ rfl rfl hl.1 rfl (lv_room (Nat.le_of_ble_eq_true rfl)) dX5_split_102 ⟨Nat.le_refl _, Nat.le_refl _⟩) hD hS hA (fun u0 H locs hp hP hD hS => ?_)
          refine lv_iload_n hx hb dX5_split_105 rfl (lv_at hl 0 rfl) ?_
          refine lv_if_ne (tgt := 113) hx hb dX5_split_106 (by decide) (fun _ => ?_) (fun h => absurd h (by decide))
          refine lv_aload_n hx hb dX5_split_113 rfl (lv_at hl 3 rfl) ?_
          refine lv_iconst (v := 0) hx hb dX5_split_114 (by decide) ?_
          refine va_put (D := G.1) (ci := 5) (v := .int 0) (ty := .boolean) (C := RX5) (T := TX5) (N := 13) hx hb hts inX5 tyX5 tyX5_ok nmX5 hown hK.1 hP hD hS 0 pW_0 rfl 5 (by decide) (hts _ w_195) (fun _ h9 => h9) rfl (by decide +kernel) rfl rfl (Nat.le_of_ble_eq_true rfl) dX5_split_115 (fun H locs hP hD hS => ?_)
          rw [pW_f5] at hP hD
          refine lv_aload_n hx hb dX5_split_118 rfl (lv_at hl 3 rfl) ?_
          refine va_get (D := G.1) (ci := 5) (v := .int (kI (uI C18 5 0) 12)) (C := RX5) (T := TX5) (N := 13) hx hb hts inX5 hown hK.1 hP 0 pW_0 rfl 12 (by decide) (hts _ w_202) (fun _ h9 => h9) rfl dX5_split_119 ?_
          obtain ⟨rfl, hr9⟩ := hE
          exact en_i F hS _ () (by rfl) hr9.symm hP hD (Nat.le_refl _) (Nat.le_refl _) dX5_split_122
      ·
        rw [if_neg h12] at hE
        refine lv_aload_n hx hb dX5_split_48 rfl (lv_at hl 3 rfl) ?_
        refine va_get (D := G.1) (ci := 5) (v := .int (kI C10 7)) (C := RX5) (T := TX5) (N := 13) hx hb hts inX5 hown hK.1 hP 0 pW_0 rfl 7 (by decide) (hts _ w_197) (fun _ h9 => h9) rfl dX5_split_49 ?_
        refine lv_if_le (tgt := 69) hx hb dX5_split_52 (by decide) (fun h20 => ?_) (fun h20 => ?_)
        ·
          rw [if_pos h20] at hE
          refine lv_aload_n hx hb dX5_split_69 rfl (lv_at hl 3 rfl) ?_
          obtain ⟨C21, r22, hg, hE⟩ := hE
          refine kA_i (va_runV (As := []) (rest := []) F.1 (e_p_placeAfterMatch l G h u C10 C21 r22 hg _) (cwV 0 hts (aw_V w_807 w_809 ws_X5_placeAfterMatch w_1 w_810) rfl rfl rfl (by decide +kernel) ⟨by decide, by decide⟩) ⟨cS_blind, va_recv (q := (RX5, TX5, 13)) (ci := 5) (q0 := 0) hK.1 hP rfl pW_0, cS_pre hP hD hK⟩ rfl rfl hl.1 rfl (lv_room (Nat.le_of_ble_eq_true rfl)) dX5_split_70 ⟨Nat.le_refl _, Nat.le_refl _⟩) hD hS hA (fun r9 u0 H locs hp hP hD hS => ?_)
          have hp := hp.symm; subst hp
          refine lv_istore_n hx hb dX5_split_73 rfl hl (by decide) rfl (fun ls hl => ?_)
          have hl : lv_has ls 4 [(2, .int r22), (3, .int x3), (1, .int x1), (0, .ref h)] := hl
          refine lv_iinc (v := (x3 + 1)) (k := 1) hx hb dX5_split_74 hl rfl rfl (by decide) rfl (fun ls hl => ?_)
          have hl : lv_has ls 4 [(3, .int (x3 + 1)), (2, .int r22), (1, .int x1), (0, .ref h)] := hl
          refine lv_goto (tgt := 26) hx hb dX5_split_77 (by decide) ?_
          exact ih C21 x1 r22 (x3 + 1) _ _ ls (lv_sub hl [0, 1, 2, 3] rfl) hE hP hD hS
        ·
          rw [if_neg h20] at hE
          refine lv_aload_n hx hb dX5_split_55 rfl (lv_at hl 3 rfl) ?_
          refine lv_iload_n hx hb dX5_split_56 rfl (lv_at hl 2 rfl) ?_
          refine lv_aload_n hx hb dX5_split_57 rfl (lv_at hl 3 rfl) ?_
          refine va_get (D := G.1) (ci := 5) (v := .int (kI C10 6)) (C := RX5) (T := TX5) (N := 13) hx hb hts inX5 hown hK.1 hP 0 pW_0 rfl 6 (by decide) (hts _ w_196) (fun _ h9 => h9) rfl dX5_split_58 ?_
          obtain ⟨C23, hg, hE⟩ := hE
          refine kA_v (va_runV (As := [.int x1, .int (kI C10 6)]) (rest := []) F.1 (e_p_addPiece l G h u C10 x1 (kI C10 6) C23 0 hg _) (cwV 2 hts (aw_V w_825 w_827 ws_X5_addPiece w_1 w_828) rfl rfl rfl (by decide +kernel) ⟨by decide, by decide⟩) ⟨cS_blind, va_recv (q := (RX5, TX5, 13)) (ci := 5) (q0 := 0) hK.1 hP rfl pW_0, cS_pre hP hD hK⟩ rfl rfl hl.1 rfl (lv_room (Nat.le_of_ble_eq_true rfl)) dX5_split_61 ⟨Nat.le_refl _, Nat.le_refl _⟩) hD hS hA (fun u0 H locs hp hP hD hS => ?_)
          refine lv_aload_n hx hb dX5_split_64 rfl (lv_at hl 3 rfl) ?_
          refine va_get (D := G.1) (ci := 5) (v := .int (kI C23 7)) (C := RX5) (T := TX5) (N := 13) hx hb hts inX5 hown hK.1 hP 0 pW_0 rfl 7 (by decide) (hts _ w_197) (fun _ h9 => h9) rfl dX5_split_65 ?_
          refine lv_istore_n hx hb dX5_split_68 rfl hl (by decide) rfl (fun ls hl => ?_)
          have hl : lv_has ls 4 [(1, .int (kI C23 7)), (3, .int x3), (2, .int x2), (0, .ref h)] := hl
          refine lv_aload_n hx hb dX5_split_69 rfl (lv_at hl 3 rfl) ?_
          obtain ⟨C25, r26, hg, hE⟩ := hE
          refine kA_i (va_runV (As := []) (rest := []) F.1 (e_p_placeAfterMatch l G h u C23 C25 r26 hg _) (cwV 0 hts (aw_V w_807 w_809 ws_X5_placeAfterMatch w_1 w_810) rfl rfl rfl (by decide +kernel) ⟨by decide, by decide⟩) ⟨cS_blind, va_recv (q := (RX5, TX5, 13)) (ci := 5) (q0 := 0) hK.1 hP rfl pW_0, cS_pre hP hD hK⟩ rfl rfl hl.1 rfl (lv_room (Nat.le_of_ble_eq_true rfl)) dX5_split_70 ⟨Nat.le_refl _, Nat.le_refl _⟩) hD hS hA (fun r9 u0 H locs hp hP hD hS => ?_)
          have hp := hp.symm; subst hp
          refine lv_istore_n hx hb dX5_split_73 rfl hl (by decide) rfl (fun ls hl => ?_)
          have hl : lv_has ls 4 [(2, .int r26), (1, .int (kI C23 7)), (3, .int x3), (0, .ref h)] := hl
          refine lv_iinc (v := (x3 + 1)) (k := 2) hx hb dX5_split_74 hl rfl rfl (by decide) rfl (fun ls hl => ?_)
          have hl : lv_has ls 4 [(3, .int (x3 + 1)), (2, .int r26), (1, .int (kI C23 7)), (0, .ref h)] := hl
          refine lv_goto (tgt := 26) hx hb dX5_split_77 (by decide) ?_
          exact ih C25 (kI C23 7) r26 (x3 + 1) _ _ ls (lv_sub hl [0, 1, 2, 3] rfl) hE hP hD hS
def E_p_split (C : CS)  (C' : CS) (r : Int32) : Prop := if (kI C 4) = 0 then (False) else (∃ nf : Nat, L_p_split_26 nf (uI C 12 0) 0 0 0 C' r)
set_option maxHeartbeats 4000000 in
set_option maxRecDepth 100000 in
theorem e_p_split (l : Launch) (G : PG) (h : Nat) (u : Nat → Nat) (C : CS)  (C' : CS) (r : Int32) (hE : E_p_split C C' r) : Ci l yX5_split (Cond.code yX5_split cX5_split 4 (some .int) :: aW) { frames := 57, cells := 0, slots := 0, locals := 1497 } G (pW G h u C) [.ref h] (fun (r9 : Int32) (_ : Unit) => r9 = r) (fun (_ : Unit) => pW G h u C') 0 0 := by
  refine ofB (y := yX5_split) (G := G) (cc := cX5_split) (maxL := 4) (ret := (some .int)) (Qc := fun A => va_Qi (fun (r9 : Int32) (_ : Unit) => r9 = r) (oB G A (fun (_ : Unit) => pW G h u C')) A) (by decide) rfl ?_
  intro p e s m below meth c A F hK hA hP hD
  have hS : va_S A s.heap s.heap [] := va_S.rf
  have hx := F.1.1; have hb := F.1.2.1; have hml := F.1.2.2.1; have hts := F.1.2.2.2.2
  have hown : s.vm.findClass RX5 = some m.cls := F.1.2.2.2.1
  have hl := lv_entry ([.ref h]) (n := 4) (Nat.le_of_ble_eq_true rfl)
  rw [lg_entry_eq]
  generalize (lg_sl ([.ref h]) ++ List.replicate (4 - (lg_sl ([.ref h])).length) Slot.unset).toArray = ls at hl ⊢
  have hl : lv_has ls 4 [(0, .ref h)] := hl
  unfold E_p_split at hE
  refine lv_aload_n hx hb dX5_split_0 rfl (lv_at hl 0 rfl) ?_
  refine va_get (D := G.1) (ci := 5) (v := .int (kI C 4)) (C := RX5) (T := TX5) (N := 13) hx hb hts inX5 hown hK.1 hP 0 pW_0 rfl 4 (by decide) (hts _ w_194) (fun _ h9 => h9) rfl dX5_split_1 ?_
  refine lv_if_ne (tgt := 15) hx hb dX5_split_4 (by decide) (fun h1 => ?_) (fun h1 => ?_)
  ·
    rw [if_neg h1] at hE
    refine lv_aload_n hx hb dX5_split_15 rfl (lv_at hl 0 rfl) ?_
    refine lv_iconst (v := 0) hx hb dX5_split_16 (by decide) ?_
    refine va_put (D := G.1) (ci := 5) (v := .int 0) (ty := .int) (C := RX5) (T := TX5) (N := 13) hx hb hts inX5 tyX5 tyX5_ok nmX5 hown hK.1 hP hD hS 0 pW_0 rfl 12 (by decide) (hts _ w_202) (fun _ h9 => h9) rfl (by decide +kernel) rfl rfl (Nat.le_of_ble_eq_true rfl) dX5_split_17 (fun H locs hP hD hS => ?_)
    rw [pW_f12] at hP hD
    refine lv_iconst (v := 0) hx hb dX5_split_20 (by decide) ?_
    refine lv_istore_n hx hb dX5_split_21 rfl hl (by decide) rfl (fun ls hl => ?_)
    have hl : lv_has ls 4 [(1, .int 0), (0, .ref h)] := hl
    refine lv_iconst (v := 0) hx hb dX5_split_22 (by decide) ?_
    refine lv_istore_n hx hb dX5_split_23 rfl hl (by decide) rfl (fun ls hl => ?_)
    have hl : lv_has ls 4 [(2, .int 0), (1, .int 0), (0, .ref h)] := hl
    refine lv_iconst (v := 0) hx hb dX5_split_24 (by decide) ?_
    refine lv_istore_n hx hb dX5_split_25 rfl hl (by decide) rfl (fun ls hl => ?_)
    have hl : lv_has ls 4 [(3, .int 0), (2, .int 0), (1, .int 0), (0, .ref h)] := hl
    obtain ⟨nf, hE⟩ := hE
    exact L_p_split_26_ok F hK hA nf (uI C 12 0) 0 0 0 _ _ ls (lv_sub hl [0, 1, 2, 3] rfl) hE hP hD hS
  ·
    rw [if_pos h1] at hE
    exact hE.elim


def EX_p_split (C : CS)  (C' : CS) (X : String) : Prop := if (kI C 4) = 0 then (C' = C ∧ X = xISE) else (False)
set_option maxHeartbeats 4000000 in
set_option maxRecDepth 100000 in
theorem x_p_split (l : Launch) (hst : l.stackTraces = false) (G : PG) (Z : ZZ) (h : Nat) (u : Nat → Nat) (C : CS)  (C' : CS) (X : String) (hE : EX_p_split C C' X) : Yt l yX5_split (Cond.code yX5_split cX5_split 4 (some .int) :: aW) { frames := 6, cells := 1, slots := 6, locals := 100 } Z G (pW G h u C) [.ref h] X (pW G h u C') 1 6 := by
  refine ofY (y := yX5_split) (G := G) (cc := cX5_split) (maxL := 4) (ret := (some .int)) (by decide) rfl ?_
  intro p e s m below meth c A F hK hT hZ hex hA hns hP hD
  have hS : va_S A s.heap s.heap [] := va_S.rf
  have hx := F.1.1; have hb := F.1.2.1; have hml := F.1.2.2.1; have hts := F.1.2.2.2.2
  have hown : s.vm.findClass RX5 = some m.cls := F.1.2.2.2.1
  have hl := lv_entry ([.ref h]) (n := 4) (Nat.le_of_ble_eq_true rfl)
  rw [lg_entry_eq]
  generalize (lg_sl ([.ref h]) ++ List.replicate (4 - (lg_sl ([.ref h])).length) Slot.unset).toArray = ls at hl ⊢
  have hl : lv_has ls 4 [(0, .ref h)] := hl
  unfold EX_p_split at hE
  refine lv_aload_n hx hb dX5_split_0 rfl (lv_at hl 0 rfl) ?_
  refine va_get (D := G.1) (ci := 5) (v := .int (kI C 4)) (C := RX5) (T := TX5) (N := 13) hx hb hts inX5 hown hK.1 hP 0 pW_0 rfl 4 (by decide) (hts _ w_194) (fun _ h9 => h9) rfl dX5_split_1 ?_
  refine lv_if_ne (tgt := 15) hx hb dX5_split_4 (by decide) (fun h1 => ?_) (fun h1 => ?_)
  ·
    rw [if_neg h1] at hE
    refine lv_aload_n hx hb dX5_split_15 rfl (lv_at hl 0 rfl) ?_
    refine lv_iconst (v := 0) hx hb dX5_split_16 (by decide) ?_
    refine va_put (D := G.1) (ci := 5) (v := .int 0) (ty := .int) (C := RX5) (T := TX5) (N := 13) hx hb hts inX5 tyX5 tyX5_ok nmX5 hown hK.1 hP hD hS 0 pW_0 rfl 12 (by decide) (hts _ w_202) (fun _ h9 => h9) rfl (by decide +kernel) rfl rfl (Nat.le_of_ble_eq_true rfl) dX5_split_17 (fun H locs hP hD hS => ?_)
    rw [pW_f12] at hP hD
    refine lv_iconst (v := 0) hx hb dX5_split_20 (by decide) ?_
    refine lv_istore_n hx hb dX5_split_21 rfl hl (by decide) rfl (fun ls hl => ?_)
    have hl : lv_has ls 4 [(1, .int 0), (0, .ref h)] := hl
    refine lv_iconst (v := 0) hx hb dX5_split_22 (by decide) ?_
    refine lv_istore_n hx hb dX5_split_23 rfl hl (by decide) rfl (fun ls hl => ?_)
    have hl : lv_has ls 4 [(2, .int 0), (1, .int 0), (0, .ref h)] := hl
    refine lv_iconst (v := 0) hx hb dX5_split_24 (by decide) ?_
    refine lv_istore_n hx hb dX5_split_25 rfl hl (by decide) rfl (fun ls hl => ?_)
    have hl : lv_has ls 4 [(3, .int 0), (2, .int 0), (1, .int 0), (0, .ref h)] := hl
    exact hE.elim
  ·
    rw [if_pos h1] at hE
    obtain ⟨rfl, rfl⟩ := hE
    exact th_1 (E := xISE) (names := xUp) (ik := 87) (ic := 89) F hst hT hS hns hP hD (by decide +kernel) (by decide +kernel) w_602 w_603 w_18 (fun s2 h1 h2 => at_ISE h1 h2) hex hl.1 dX5_split_7 dX5_split_10 dX5_split_11 dX5_split_14 (by decide) (by decide) (by decide) (by decide) (by decide) (by decide)

theorem dX5_piece_20 : decode cX5_piece 20 = .ok (.iload_n 2, 1) := by decide +kernel
theorem dX5_piece_21 : decode cX5_piece 21 = .ok (.ifCond .ne 10, 3) := by decide +kernel
theorem dX5_piece_24 : decode cX5_piece 24 = .ok (.aload_n 0, 1) := by decide +kernel
theorem dX5_piece_25 : decode cX5_piece 25 = .ok (.getfield 40, 3) := by decide +kernel
theorem dX5_piece_28 : decode cX5_piece 28 = .ok (.iload_n 1, 1) := by decide +kernel
theorem dX5_piece_29 : decode cX5_piece 29 = .ok (.iaload, 1) := by decide +kernel
theorem dX5_piece_30 : decode cX5_piece 30 = .ok (.ireturn, 1) := by decide +kernel
theorem dX5_piece_31 : decode cX5_piece 31 = .ok (.iload_n 2, 1) := by decide +kernel
theorem dX5_piece_32 : decode cX5_piece 32 = .ok (.iconst 1, 1) := by decide +kernel
theorem dX5_piece_33 : decode cX5_piece 33 = .ok (.if_icmp .ne 12, 3) := by decide +kernel
theorem dX5_piece_36 : decode cX5_piece 36 = .ok (.aload_n 0, 1) := by decide +kernel
theorem dX5_piece_37 : decode cX5_piece 37 = .ok (.getfield 44, 3) := by decide +kernel
theorem dX5_piece_40 : decode cX5_piece 40 = .ok (.iload_n 1, 1) := by decide +kernel
theorem dX5_piece_41 : decode cX5_piece 41 = .ok (.iaload, 1) := by decide +kernel
theorem dX5_piece_42 : decode cX5_piece 42 = .ok (.goto 4, 3) := by decide +kernel
theorem dX5_piece_45 : decode cX5_piece 45 = .ok (.iconst (-1), 1) := by decide +kernel
theorem dX5_piece_46 : decode cX5_piece 46 = .ok (.ireturn, 1) := by decide +kernel
def E_p_piece (C : CS) (a1 : Int32) (a2 : Int32) (C' : CS) (r : Int32) : Prop := if a1 < 0 then (False) else (if a1 < (kI C 12) then (if a2 = 0 then (vp_in a1 10 ∧ (C' = C ∧ r = (kP C 10 a1.toNatClampNeg))) else (if a2 = 1 then (vp_in a1 10 ∧ (C' = C ∧ r = (kP C 11 a1.toNatClampNeg))) else (C' = C ∧ r = (-1)))) else (False))
set_option maxHeartbeats 4000000 in
set_option maxRecDepth 100000 in
theorem e_p_piece (l : Launch) (G : PG) (h : Nat) (u : Nat → Nat) (C : CS) (a1 : Int32) (a2 : Int32) (C' : CS) (r : Int32) (hE : E_p_piece C a1 a2 C' r) : Ci l yX5_piece (Cond.code yX5_piece cX5_piece 3 (some .int) :: aW) { frames := 0, cells := 0, slots := 0, locals := 0 } G (pW G h u C) [.ref h, .int a1, .int a2] (fun (r9 : Int32) (_ : Unit) => r9 = r) (fun (_ : Unit) => pW G h u C') 0 0 := by
  refine ofB (y := yX5_piece) (G := G) (cc := cX5_piece) (maxL := 3) (ret := (some .int)) (Qc := fun A => va_Qi (fun (r9 : Int32) (_ : Unit) => r9 = r) (oB G A (fun (_ : Unit) => pW G h u C')) A) (by decide) rfl ?_
  intro p e s m below meth c A F hK hA hP hD
  have hS : va_S A s.heap s.heap [] := va_S.rf
  have hx := F.1.1; have hb := F.1.2.1; have hml := F.1.2.2.1; have hts := F.1.2.2.2.2
  have hown : s.vm.findClass RX5 = some m.cls := F.1.2.2.2.1
  have hl := lv_entry ([.ref h, .int a1, .int a2]) (n := 3) (Nat.le_of_ble_eq_true rfl)
  rw [lg_entry_eq]
  generalize (lg_sl ([.ref h, .int a1, .int a2]) ++ List.replicate (3 - (lg_sl ([.ref h, .int a1, .int a2])).length) Slot.unset).toArray = ls at hl ⊢
  have hl : lv_has ls 3 [(0, .ref h), (1, .int a1), (2, .int a2)] := hl
  unfold E_p_piece at hE
  refine lv_iload_n hx hb dX5_piece_0 rfl (lv_at hl 1 rfl) ?_
  refine lv_if_lt (tgt := 12) hx hb dX5_piece_1 (by decide) (fun h1 => ?_) (fun h1 => ?_)
  ·
    rw [if_pos h1] at hE
    exact hE.elim
  ·
    rw [if_neg h1] at hE
    refine lv_iload_n hx hb dX5_piece_4 rfl (lv_at hl 1 rfl) ?_
    refine lv_aload_n hx hb dX5_piece_5 rfl (lv_at hl 0 rfl) ?_
    refine va_get (D := G.1) (ci := 5) (v := .int (kI C 12)) (C := RX5) (T := TX5) (N := 13) hx hb hts inX5 hown hK.1 hP 0 pW_0 rfl 12 (by decide) (hts _ w_202) (fun _ h9 => h9) rfl dX5_piece_6 ?_
    refine lv_icmp_lt (tgt := 20) hx hb dX5_piece_9 (by decide) (fun h2 => ?_) (fun h2 => ?_)
    ·
      rw [if_pos h2] at hE
      refine lv_iload_n hx hb dX5_piece_20 rfl (lv_at hl 2 rfl) ?_
      refine lv_if_ne (tgt := 31) hx hb dX5_piece_21 (by decide) (fun h3 => ?_) (fun h3 => ?_)
      ·
        rw [if_neg h3] at hE
        refine lv_iload_n hx hb dX5_piece_31 rfl (lv_at hl 2 rfl) ?_
        refine lv_iconst (v := 1) hx hb dX5_piece_32 (by decide) ?_
        refine lv_icmp_ne (tgt := 45) hx hb dX5_piece_33 (by decide) (fun h4 => ?_) (fun h4 => ?_)
        ·
          rw [if_neg h4] at hE
          refine lv_iconst (v := (-1)) hx hb dX5_piece_45 (by decide) ?_
          obtain ⟨rfl, hr9⟩ := hE
          exact en_i F hS _ () (by rfl) hr9.symm hP hD (Nat.le_refl _) (Nat.le_refl _) dX5_piece_46
        ·
          rw [if_pos h4] at hE
          refine lv_aload_n hx hb dX5_piece_36 rfl (lv_at hl 0 rfl) ?_
          refine va_get (D := G.1) (ci := 5) (v := .ref (u 38)) (C := RX5) (T := TX5) (N := 13) hx hb hts inX5 hown hK.1 hP 0 pW_0 rfl 11 (by decide) (hts _ w_201) (fun _ h9 => h9) rfl dX5_piece_37 ?_
          refine lv_iload_n hx hb dX5_piece_40 rfl (lv_at hl 1 rfl) ?_
          obtain ⟨hin, hE⟩ := hE
          refine va_iald (D := G.1) hx hb hK.1 hP 7 0 pW_7 rfl hin dX5_piece_41 ?_
          refine lv_goto (tgt := 46) hx hb dX5_piece_42 (by decide) ?_
          obtain ⟨rfl, hr9⟩ := hE
          exact en_i F hS _ () (by rfl) hr9.symm hP hD (Nat.le_refl _) (Nat.le_refl _) dX5_piece_46
      ·
        rw [if_pos h3] at hE
        refine lv_aload_n hx hb dX5_piece_24 rfl (lv_at hl 0 rfl) ?_
        refine va_get (D := G.1) (ci := 5) (v := .ref (u 37)) (C := RX5) (T := TX5) (N := 13) hx hb hts inX5 hown hK.1 hP 0 pW_0 rfl 10 (by decide) (hts _ w_200) (fun _ h9 => h9) rfl dX5_piece_25 ?_
        refine lv_iload_n hx hb dX5_piece_28 rfl (lv_at hl 1 rfl) ?_
        obtain ⟨hin, hE⟩ := hE
        refine va_iald (D := G.1) hx hb hK.1 hP 6 0 pW_6 rfl hin dX5_piece_29 ?_
        obtain ⟨rfl, hr9⟩ := hE
        exact en_i F hS _ () (by rfl) hr9.symm hP hD (Nat.le_refl _) (Nat.le_refl _) dX5_piece_30
    ·
      rw [if_neg h2] at hE
      exact hE.elim


def EX_p_piece (C : CS) (a1 : Int32) (a2 : Int32) (C' : CS) (X : String) : Prop := if a1 < 0 then (C' = C ∧ X = xIOO) else (if a1 < (kI C 12) then (if a2 = 0 then (vp_in a1 10 ∧ (False)) else (if a2 = 1 then (vp_in a1 10 ∧ (False)) else (False))) else (C' = C ∧ X = xIOO))
set_option maxHeartbeats 4000000 in
set_option maxRecDepth 100000 in
theorem x_p_piece (l : Launch) (hst : l.stackTraces = false) (G : PG) (Z : ZZ) (h : Nat) (u : Nat → Nat) (C : CS) (a1 : Int32) (a2 : Int32) (C' : CS) (X : String) (hE : EX_p_piece C a1 a2 C' X) : Yt l yX5_piece (Cond.code yX5_piece cX5_piece 3 (some .int) :: aW) { frames := 6, cells := 1, slots := 6, locals := 100 } Z G (pW G h u C) [.ref h, .int a1, .int a2] X (pW G h u C') 1 6 := by
  refine ofY (y := yX5_piece) (G := G) (cc := cX5_piece) (maxL := 3) (ret := (some .int)) (by decide) rfl ?_
  intro p e s m below meth c A F hK hT hZ hex hA hns hP hD
  have hS : va_S A s.heap s.heap [] := va_S.rf
  have hx := F.1.1; have hb := F.1.2.1; have hml := F.1.2.2.1; have hts := F.1.2.2.2.2
  have hown : s.vm.findClass RX5 = some m.cls := F.1.2.2.2.1
  have hl := lv_entry ([.ref h, .int a1, .int a2]) (n := 3) (Nat.le_of_ble_eq_true rfl)
  rw [lg_entry_eq]
  generalize (lg_sl ([.ref h, .int a1, .int a2]) ++ List.replicate (3 - (lg_sl ([.ref h, .int a1, .int a2])).length) Slot.unset).toArray = ls at hl ⊢
  have hl : lv_has ls 3 [(0, .ref h), (1, .int a1), (2, .int a2)] := hl
  unfold EX_p_piece at hE
  refine lv_iload_n hx hb dX5_piece_0 rfl (lv_at hl 1 rfl) ?_
  refine lv_if_lt (tgt := 12) hx hb dX5_piece_1 (by decide) (fun h1 => ?_) (fun h1 => ?_)
  ·
    rw [if_pos h1] at hE
    obtain ⟨rfl, rfl⟩ := hE
    exact th_1 (E := xIOO) (names := xUp) (ik := 98) (ic := 100) F hst hT hS hns hP hD (by decide +kernel) (by decide +kernel) w_743 w_744 w_19 (fun s2 h1 h2 => at_IOO h1 h2) hex hl.1 dX5_piece_12 dX5_piece_15 dX5_piece_16 dX5_piece_19 (by decide) (by decide) (by decide) (by decide) (by decide) (by decide)
  ·
    rw [if_neg h1] at hE
    refine lv_iload_n hx hb dX5_piece_4 rfl (lv_at hl 1 rfl) ?_
    refine lv_aload_n hx hb dX5_piece_5 rfl (lv_at hl 0 rfl) ?_
    refine va_get (D := G.1) (ci := 5) (v := .int (kI C 12)) (C := RX5) (T := TX5) (N := 13) hx hb hts inX5 hown hK.1 hP 0 pW_0 rfl 12 (by decide) (hts _ w_202) (fun _ h9 => h9) rfl dX5_piece_6 ?_
    refine lv_icmp_lt (tgt := 20) hx hb dX5_piece_9 (by decide) (fun h2 => ?_) (fun h2 => ?_)
    ·
      rw [if_pos h2] at hE
      refine lv_iload_n hx hb dX5_piece_20 rfl (lv_at hl 2 rfl) ?_
      refine lv_if_ne (tgt := 31) hx hb dX5_piece_21 (by decide) (fun h3 => ?_) (fun h3 => ?_)
      ·
        rw [if_neg h3] at hE
        refine lv_iload_n hx hb dX5_piece_31 rfl (lv_at hl 2 rfl) ?_
        refine lv_iconst (v := 1) hx hb dX5_piece_32 (by decide) ?_
        refine lv_icmp_ne (tgt := 45) hx hb dX5_piece_33 (by decide) (fun h4 => ?_) (fun h4 => ?_)
        ·
          rw [if_neg h4] at hE
          refine lv_iconst (v := (-1)) hx hb dX5_piece_45 (by decide) ?_
          exact hE.elim
        ·
          rw [if_pos h4] at hE
          refine lv_aload_n hx hb dX5_piece_36 rfl (lv_at hl 0 rfl) ?_
          refine va_get (D := G.1) (ci := 5) (v := .ref (u 38)) (C := RX5) (T := TX5) (N := 13) hx hb hts inX5 hown hK.1 hP 0 pW_0 rfl 11 (by decide) (hts _ w_201) (fun _ h9 => h9) rfl dX5_piece_37 ?_
          refine lv_iload_n hx hb dX5_piece_40 rfl (lv_at hl 1 rfl) ?_
          obtain ⟨hin, hE⟩ := hE
          refine va_iald (D := G.1) hx hb hK.1 hP 7 0 pW_7 rfl hin dX5_piece_41 ?_
          refine lv_goto (tgt := 46) hx hb dX5_piece_42 (by decide) ?_
          exact hE.elim
      ·
        rw [if_pos h3] at hE
        refine lv_aload_n hx hb dX5_piece_24 rfl (lv_at hl 0 rfl) ?_
        refine va_get (D := G.1) (ci := 5) (v := .ref (u 37)) (C := RX5) (T := TX5) (N := 13) hx hb hts inX5 hown hK.1 hP 0 pW_0 rfl 10 (by decide) (hts _ w_200) (fun _ h9 => h9) rfl dX5_piece_25 ?_
        refine lv_iload_n hx hb dX5_piece_28 rfl (lv_at hl 1 rfl) ?_
        obtain ⟨hin, hE⟩ := hE
        refine va_iald (D := G.1) hx hb hK.1 hP 6 0 pW_6 rfl hin dX5_piece_29 ?_
        exact hE.elim
    ·
      rw [if_neg h2] at hE
      obtain ⟨rfl, rfl⟩ := hE
      exact th_1 (E := xIOO) (names := xUp) (ik := 98) (ic := 100) F hst hT hS hns hP hD (by decide +kernel) (by decide +kernel) w_743 w_744 w_19 (fun s2 h1 h2 => at_IOO h1 h2) hex hl.1 dX5_piece_12 dX5_piece_15 dX5_piece_16 dX5_piece_19 (by decide) (by decide) (by decide) (by decide) (by decide) (by decide)

/-! compile: a Reader over the pattern's row and the spare program; then the two programs change over, or it throws -/
def Qof (D : DD) : QS := (fun k => if k = 12 then D.2.1 else if k = 13 then D.2.2.1 else 0, fun k => if k = 14 then D.2.2.2.1 else 0, D.1, D.2.2.2.2.1, D.2.2.2.2.2.1, D.2.2.2.2.2.2)
def Dof (Q : QS) : DD := (Q.2.2.1, Q.1 12, Q.1 13, Q.2.1 14, Q.2.2.2.1, Q.2.2.2.2.1, Q.2.2.2.2.2)
def qr (u : Nat → Nat) (K : KP) : Nat → Nat := fun k => if k = 0 then u 31 else if k = 1 then K.1 else if k = 20 then u 32 else if k = 21 then K.2.1 else 0
section CW
variable {G : PG} {h : Nat} {u : Nat → Nat} {C : CS} {rd : Nat}
theorem zc : ((pW G h u C) ++ ([(rd, .inr (2, rF (qr u (kM C)) (Qof (kD C))))] : va_W)).Perm ((pX G h u C ++ (pS G u C ++ pN (kK C) (kT C).2.2)) ++ qW G rd (qr u (kM C)) (kM C).2.2 (kJ C 0) (kG C 0) (Qof (kD C))) :=
  zp_five (pX G h u C) (rX G u C) (pS G u C) (pN (kK C) (kT C).2.2) (pN (kM C) (kD C)) ([(rd, .inr (2, rF (qr u (kM C)) (Qof (kD C))))] : va_W)
theorem zcb {Q : QS} : ((pX G h u C ++ (pS G u C ++ pN (kK C) (kT C).2.2)) ++ qW G rd (qr u (kM C)) (kM C).2.2 (kJ C 0) (kG C 0) Q).Perm ((pW G h u (uD C (Dof Q))) ++ ([(rd, .inr (2, rF (qr u (kM C)) Q))] : va_W)) :=
  (zp_five (pX G h u C) (rX G u (uD C (Dof Q))) (pS G u C) (pN (kK C) (kT C).2.2) (pN (kM C) (Dof Q)) ([(rd, .inr (2, rF (qr u (kM C)) Q))] : va_W)).symm
theorem zx : (((pW G h u C).set 12 (u 9, .inr (4, (sF (qs u (kK C)) (kS C)).set 8 (.ref (kM C).1)))).set 0 (h, .inr (5, (pmF u C).set 3 (.ref (kK C).1)))).Perm (pW G h u (uX C)) :=
  zp_swap (pX G h u (uX C)) (rR G u C) (rP G (kM C) (kD C)) ((pS G u (uX C)).take 8) (rP G (kK C) (kT C).2.2) (pN (kM C) (kD C)) (pN (kK C) (kT C).2.2)
end CW
def E_p_compile (C C' : CS) (r : Int32) : Prop := gOK (kJ C 0) (kG C 0) ∧ ∃ (Q1 : QS) (r1 : Int32), E_rp (kJ C 0) (kG C 0) (Qof (kD C)) Q1 r1 ∧ ¬ r1 = 0 ∧ C' = uI (uI (uX (uD C (Dof Q1))) 4 1) 5 0 ∧ r = Q1.1 13
def EX_p_compile (C C' : CS) (X : String) : Prop := gOK (kJ C 0) (kG C 0) ∧ ∃ Q1 : QS, E_rp (kJ C 0) (kG C 0) (Qof (kD C)) Q1 0 ∧ C' = uD C (Dof Q1) ∧ X = xIAE

set_option maxHeartbeats 4000000 in
set_option maxRecDepth 100000 in
theorem e_p_compile (l : Launch) (G : PG) (Z : ZZ) (h : Nat) (u : Nat → Nat) (C C' : CS) (r : Int32) (hE : E_p_compile C C' r) : CiZ l yX5_compile (Cond.code yX5_compile cX5_compile 2 (some .int) :: aW) { frames := 59, cells := 1, slots := 10, locals := 1522 } Z G (pW G h u C) [.ref h] (fun (r9 : Int32) (_ : Unit) => r9 = r) (fun (_ : Unit) => pW G h u C') 1 10 := by
  obtain ⟨hO, Q1, r1, hg, hne, rfl, rfl⟩ := hE
  refine ofBZ (y := yX5_compile) (G := G) (cc := cX5_compile) (maxL := 2) (ret := (some .int)) (Qc := fun A => va_Qi (fun (r9 : Int32) (_ : Unit) => r9 = Q1.1 13) (oB G A (fun (_ : Unit) => pW G h u (uI (uI (uX (uD C (Dof Q1))) 4 1) 5 0))) A) (by decide) rfl ?_
  intro p e s m below meth c A F hK hZ hA hP hD
  have hS : va_S A s.heap s.heap [] := va_S.rf
  have hx := F.1.1; have hb := F.1.2.1; have hml := F.1.2.2.1; have hts := F.1.2.2.2.2
  have hown : s.vm.findClass RX5 = some m.cls := F.1.2.2.2.1
  have hl := lv_entry ([.ref h]) (n := 2) (Nat.le_of_ble_eq_true rfl)
  rw [lg_entry_eq]
  generalize (lg_sl ([.ref h]) ++ List.replicate (2 - (lg_sl ([.ref h])).length) Slot.unset).toArray = ls at hl ⊢
  have hl : lv_has ls 2 [(0, .ref h)] := hl
  have hqc : 0 + 1 ≤ 1 := by omega
  have hqs : 0 + 10 ≤ 10 := by omega
  refine va_new (D := G.1) (ci := 2) (fs := [.null, .null, .int 0, .int 0, .int 0, .int 0, .long 0, .long 0, .int 0, .int 0]) (C := RX2) (T := TX2) (N := 10) hx hb hts inX2 tyX2 tyX2_ok hown (hts _ w_269) (hts _ w_270) (hts _ w_7) hK.1 hP hD hS hA rfl (by decide +kernel) hqc hqs dX5_compile_0 (fun rd H hP hD hS => ?_)
  have hP : va_P G.1 vwCl (pW G h u C ++ [(rd, .inr (2, [.null, .null, .int 0, .int 0, .int 0, .int 0, .long 0, .long 0, .int 0, .int 0]))]) H := hP
  have hD : va_D A (pW G h u C ++ [(rd, .inr (2, [.null, .null, .int 0, .int 0, .int 0, .int 0, .long 0, .long 0, .int 0, .int 0]))]) := hD
  refine W.widen (k := 1) (n := 10) (by omega) (by omega) ?_
  refine lv_dup hx hb dX5_compile_3 rfl ?_
  refine lv_aload_n hx hb dX5_compile_4 rfl (lv_at hl 0 rfl) ?_
  refine va_get (D := G.1) (ci := 5) (v := .ref (u 30)) (C := RX5) (T := TX5) (N := 13) hx hb hts inX5 hown hK.1 hP 0 rfl rfl 2 (by decide) (hts _ w_192) (fun _ h9 => h9) rfl dX5_compile_5 ?_
  refine lv_iconst (v := 0) hx hb dX5_compile_8 (by decide) ?_
  refine va_aldq (D := G.1) hx hb hK.1 hP 1 5 rfl rfl (vp_in_nI (n := 0) (by decide) (by decide)) dX5_compile_9 ?_
  refine tp_v (.ref (u 31)) rfl ?_
  refine lv_aload_n hx hb dX5_compile_10 rfl (lv_at hl 0 rfl) ?_
  refine va_get (D := G.1) (ci := 5) (v := .ref (kM C).1) (C := RX5) (T := TX5) (N := 13) hx hb hts inX5 hown hK.1 hP 0 rfl rfl 3 (by decide) (hts _ w_193) (fun _ h9 => h9) rfl dX5_compile_11 ?_
  have hPc := hP.appR; have hDc := hD.appR
  refine kz_v (wr := pW G h u C) (w2 := fun _ => pW G h u C ++ [(rd, .inr (2, rF (qr u (kM C)) (Qof (kD C))))]) (va_runI (As := [.ref (u 31), .ref (kM C).1]) (rest := [.ref rd]) F.1 (c_rd_init l G _ _ _ _) (cwI 2 hts (aw_G w_273) rfl rfl rfl (hts _ w_7) (hts _ w_271) (hts _ w_272) rfl (by decide +kernel) ⟨by decide, by decide⟩) ⟨cS_blind, cS_pre hPc hDc hK⟩ rfl rfl hl.1 rfl (lv_room (Nat.le_of_ble_eq_true rfl)) dX5_compile_14 ⟨by decide, by decide⟩) hP hD hS hA (List.Perm.refl _) (fun _ => List.Perm.refl _) (fun u0 H locs hp hP hD hS => ?_)
  have hPc := (hP.perm zc).appR; have hDc := (hD.perm zc).appR
  refine kz_i (w2 := fun _ => pW G h u (uD C (Dof Q1)) ++ [(rd, .inr (2, rF (qr u (kM C)) Q1))]) (va_runV (As := []) (rest := []) F.1 (e_rp l G Z rd (qr u (kM C)) (kM C).2.2 (kJ C 0) (kG C 0) hO (Qof (kD C)) Q1 r1 hg _) (cwV 0 hts (aw_V w_306 w_307 w_308 w_7 w_309) rfl rfl rfl (by decide +kernel) ⟨by decide, by decide⟩) ⟨zS_blind, va_recv (q := (RX2, TX2, 10)) (ci := 2) (q0 := 0) hK.1 hPc rfl qW_0, zS_pre hPc hDc hK hZ hS (kz_F (hD.perm zc) hS hA)⟩ rfl rfl hl.1 rfl (lv_room (Nat.le_of_ble_eq_true rfl)) dX5_compile_17 ⟨by decide, by decide⟩) hP hD hS hA zc (fun _ => zcb) (fun r9 u0 H locs hp hP hD hS => ?_)
  have hp := hp.symm; subst hp
  have hP := hP.appL; have hD := hD.appL
  refine lv_if_ne (tgt := 31) hx hb dX5_compile_20 (by decide) (fun _ => ?_) (fun h9 => absurd h9 hne)
  refine lv_aload_n hx hb dX5_compile_31 rfl (lv_at hl 0 rfl) ?_
  refine va_get (D := G.1) (ci := 5) (v := .ref (u 9)) (C := RX5) (T := TX5) (N := 13) hx hb hts inX5 hown hK.1 hP 0 pW_0 rfl 0 (by decide) (hts _ w_190) (fun _ h9 => h9) rfl dX5_compile_32 ?_
  refine va_getN (D := G.1) (ci := 4) (v := .ref (kK C).1) (C := RX4) (T := TX4) (N := 13) hx hb hts inX4 hown hK.1 hP 12 pW_12 rfl 8 (by decide) (hK.2.1.use w_149) (fun _ h9 => h9) rfl dX5_compile_35 ?_
  refine lv_astore_n hx hb dX5_compile_38 rfl hl (by decide) rfl (fun ls hl => ?_)
  have hl : lv_has ls 2 [(1, .ref (kK C).1), (0, .ref h)] := hl
  refine lv_aload_n hx hb dX5_compile_39 rfl (lv_at hl 1 rfl) ?_
  refine va_get (D := G.1) (ci := 5) (v := .ref (u 9)) (C := RX5) (T := TX5) (N := 13) hx hb hts inX5 hown hK.1 hP 0 pW_0 rfl 0 (by decide) (hts _ w_190) (fun _ h9 => h9) rfl dX5_compile_40 ?_
  refine lv_aload_n hx hb dX5_compile_43 rfl (lv_at hl 1 rfl) ?_
  refine va_get (D := G.1) (ci := 5) (v := .ref (kM C).1) (C := RX5) (T := TX5) (N := 13) hx hb hts inX5 hown hK.1 hP 0 pW_0 rfl 3 (by decide) (hts _ w_193) (fun _ h9 => h9) rfl dX5_compile_44 ?_
  refine va_putN (D := G.1) (ci := 4) (v := .ref (kM C).1) (ty := .object "PatternMatcher$Program") (C := RX4) (T := TX4) (N := 13) hx hb hts inX4 tyX4 tyX4_ok nmX4 hown hK.1 hP hD hS 12 pW_12 rfl 8 (by decide) (hK.2.1.use w_149) (fun _ h9 => h9) rfl (by decide +kernel) rfl rfl (Nat.le_of_ble_eq_true rfl) dX5_compile_47 (fun H locs hP hD hS => ?_)
  refine lv_aload_n hx hb dX5_compile_50 rfl (lv_at hl 1 rfl) ?_
  refine lv_aload_n hx hb dX5_compile_51 rfl (lv_at hl 0 rfl) ?_
  refine va_put (D := G.1) (ci := 5) (v := .ref (kK C).1) (ty := .object "PatternMatcher$Program") (C := RX5) (T := TX5) (N := 13) hx hb hts inX5 tyX5 tyX5_ok nmX5 hown hK.1 hP hD hS 0 rfl rfl 3 (by decide) (hts _ w_193) (fun _ h9 => h9) rfl (by decide +kernel) rfl rfl (Nat.le_of_ble_eq_true rfl) dX5_compile_52 (fun H locs hP hD hS => ?_)
  have hP : va_P G.1 vwCl (pW G h u (uX (uD C (Dof Q1)))) H := hP.perm (zx (C := uD C (Dof Q1)))
  have hD : va_D A (pW G h u (uX (uD C (Dof Q1)))) := hD.perm (zx (C := uD C (Dof Q1)))
  refine lv_aload_n hx hb dX5_compile_55 rfl (lv_at hl 1 rfl) ?_
  refine lv_iconst (v := 1) hx hb dX5_compile_56 (by decide) ?_
  refine va_put (D := G.1) (ci := 5) (v := .int 1) (ty := .boolean) (C := RX5) (T := TX5) (N := 13) hx hb hts inX5 tyX5 tyX5_ok nmX5 hown hK.1 hP hD hS 0 pW_0 rfl 4 (by decide) (hts _ w_194) (fun _ h9 => h9) rfl (by decide +kernel) rfl rfl (Nat.le_of_ble_eq_true rfl) dX5_compile_57 (fun H locs hP hD hS => ?_)
  rw [pW_f4] at hP hD
  refine lv_aload_n hx hb dX5_compile_60 rfl (lv_at hl 1 rfl) ?_
  refine lv_iconst (v := 0) hx hb dX5_compile_61 (by decide) ?_
  refine va_put (D := G.1) (ci := 5) (v := .int 0) (ty := .boolean) (C := RX5) (T := TX5) (N := 13) hx hb hts inX5 tyX5 tyX5_ok nmX5 hown hK.1 hP hD hS 0 pW_0 rfl 5 (by decide) (hts _ w_195) (fun _ h9 => h9) rfl (by decide +kernel) rfl rfl (Nat.le_of_ble_eq_true rfl) dX5_compile_62 (fun H locs hP hD hS => ?_)
  rw [pW_f5] at hP hD
  refine lv_aload_n hx hb dX5_compile_65 rfl (lv_at hl 1 rfl) ?_
  refine va_get (D := G.1) (ci := 5) (v := .ref (u 9)) (C := RX5) (T := TX5) (N := 13) hx hb hts inX5 hown hK.1 hP 0 pW_0 rfl 0 (by decide) (hts _ w_190) (fun _ h9 => h9) rfl dX5_compile_66 ?_
  refine va_getN (D := G.1) (ci := 4) (v := .ref (kM C).1) (C := RX4) (T := TX4) (N := 13) hx hb hts inX4 hown hK.1 hP 12 pW_12 rfl 8 (by decide) (hK.2.1.use w_149) (fun _ h9 => h9) rfl dX5_compile_69 ?_
  refine va_getN (D := G.1) (ci := 1) (v := .int (Q1.1 13)) (C := RX1) (T := TX1) (N := 5) hx hb hts inX1 hown hK.1 hP 20 pW_20 rfl 3 (by decide) (hK.2.1.use w_123) (fun _ h9 => h9) rfl dX5_compile_72 ?_
  exact en_i F hS _ () (by rfl) rfl hP hD (by decide) (by decide) dX5_compile_75

theorem dX5_compile_23 : decode cX5_compile 23 = .ok (.new 70, 3) := by decide +kernel
theorem dX5_compile_26 : decode cX5_compile 26 = .ok (.dup, 1) := by decide +kernel
theorem dX5_compile_27 : decode cX5_compile 27 = .ok (.invokespecial 72, 3) := by decide +kernel
theorem dX5_compile_30 : decode cX5_compile 30 = .ok (.athrow, 1) := by decide +kernel
set_option maxHeartbeats 4000000 in
set_option maxRecDepth 100000 in
theorem x_p_compile (l : Launch) (hst : l.stackTraces = false) (G : PG) (Z : ZZ) (h : Nat) (u : Nat → Nat) (C C' : CS) (X : String) (hE : EX_p_compile C C' X) : Yt l yX5_compile (Cond.code yX5_compile cX5_compile 2 (some .int) :: aW) { frames := 59, cells := 2, slots := 16, locals := 1522 } Z G (pW G h u C) [.ref h] X (pW G h u C') 2 16 := by
  obtain ⟨hO, Q1, hg, rfl, rfl⟩ := hE
  refine ofY (y := yX5_compile) (G := G) (cc := cX5_compile) (maxL := 2) (ret := (some .int)) (by decide) rfl ?_
  intro p e s m below meth c A F hK hT hZ hex hA hns hP hD
  have hS : va_S A s.heap s.heap [] := va_S.rf
  have hx := F.1.1; have hb := F.1.2.1; have hml := F.1.2.2.1; have hts := F.1.2.2.2.2
  have hown : s.vm.findClass RX5 = some m.cls := F.1.2.2.2.1
  have hl := lv_entry ([.ref h]) (n := 2) (Nat.le_of_ble_eq_true rfl)
  rw [lg_entry_eq]
  generalize (lg_sl ([.ref h]) ++ List.replicate (2 - (lg_sl ([.ref h])).length) Slot.unset).toArray = ls at hl ⊢
  have hl : lv_has ls 2 [(0, .ref h)] := hl
  have hqc : 0 + 1 ≤ 2 := by omega
  have hqs : 0 + 10 ≤ 16 := by omega
  refine va_new (D := G.1) (ci := 2) (fs := [.null, .null, .int 0, .int 0, .int 0, .int 0, .long 0, .long 0, .int 0, .int 0]) (C := RX2) (T := TX2) (N := 10) hx hb hts inX2 tyX2 tyX2_ok hown (hts _ w_269) (hts _ w_270) (hts _ w_7) hK.1 hP hD hS hA rfl (by decide +kernel) hqc hqs dX5_compile_0 (fun rd H hP hD hS => ?_)
  have hP : va_P G.1 vwCl (pW G h u C ++ [(rd, .inr (2, [.null, .null, .int 0, .int 0, .int 0, .int 0, .long 0, .long 0, .int 0, .int 0]))]) H := hP
  have hD : va_D A (pW G h u C ++ [(rd, .inr (2, [.null, .null, .int 0, .int 0, .int 0, .int 0, .long 0, .long 0, .int 0, .int 0]))]) := hD
  refine W.widen (k := 1) (n := 10) (by omega) (by omega) ?_
  refine lv_dup hx hb dX5_compile_3 rfl ?_
  refine lv_aload_n hx hb dX5_compile_4 rfl (lv_at hl 0 rfl) ?_
  refine va_get (D := G.1) (ci := 5) (v := .ref (u 30)) (C := RX5) (T := TX5) (N := 13) hx hb hts inX5 hown hK.1 hP 0 rfl rfl 2 (by decide) (hts _ w_192) (fun _ h9 => h9) rfl dX5_compile_5 ?_
  refine lv_iconst (v := 0) hx hb dX5_compile_8 (by decide) ?_
  refine va_aldq (D := G.1) hx hb hK.1 hP 1 5 rfl rfl (vp_in_nI (n := 0) (by decide) (by decide)) dX5_compile_9 ?_
  refine tp_v (.ref (u 31)) rfl ?_
  refine lv_aload_n hx hb dX5_compile_10 rfl (lv_at hl 0 rfl) ?_
  refine va_get (D := G.1) (ci := 5) (v := .ref (kM C).1) (C := RX5) (T := TX5) (N := 13) hx hb hts inX5 hown hK.1 hP 0 rfl rfl 3 (by decide) (hts _ w_193) (fun _ h9 => h9) rfl dX5_compile_11 ?_
  have hPc := hP.appR; have hDc := hD.appR
  refine kz_v (wr := pW G h u C) (w2 := fun _ => pW G h u C ++ [(rd, .inr (2, rF (qr u (kM C)) (Qof (kD C))))]) (va_runI (As := [.ref (u 31), .ref (kM C).1]) (rest := [.ref rd]) F.1 (c_rd_init l G _ _ _ _) (cwI 2 hts (aw_G w_273) rfl rfl rfl (hts _ w_7) (hts _ w_271) (hts _ w_272) rfl (by decide +kernel) ⟨by decide, by decide⟩) ⟨cS_blind, cS_pre hPc hDc hK⟩ rfl rfl hl.1 rfl (lv_room (Nat.le_of_ble_eq_true rfl)) dX5_compile_14 ⟨by decide, by decide⟩) hP hD hS hA (List.Perm.refl _) (fun _ => List.Perm.refl _) (fun u0 H locs hp hP hD hS => ?_)
  have hPc := (hP.perm zc).appR; have hDc := (hD.perm zc).appR
  refine kz_i (w2 := fun _ => pW G h u (uD C (Dof Q1)) ++ [(rd, .inr (2, rF (qr u (kM C)) Q1))]) (va_runV (As := []) (rest := []) F.1 (e_rp l G Z rd (qr u (kM C)) (kM C).2.2 (kJ C 0) (kG C 0) hO (Qof (kD C)) Q1 0 hg _) (cwV 0 hts (aw_V w_306 w_307 w_308 w_7 w_309) rfl rfl rfl (by decide +kernel) ⟨by decide, by decide⟩) ⟨zS_blind, va_recv (q := (RX2, TX2, 10)) (ci := 2) (q0 := 0) hK.1 hPc rfl qW_0, zS_pre hPc hDc hK hZ hS (kz_F (hD.perm zc) hS hA)⟩ rfl rfl hl.1 rfl (lv_room (Nat.le_of_ble_eq_true rfl)) dX5_compile_17 ⟨by decide, by decide⟩) hP hD hS hA zc (fun _ => zcb) (fun r9 u0 H locs hp hP hD hS => ?_)
  subst hp
  have hP := hP.appL; have hD := hD.appL
  refine lv_if_ne (tgt := 31) hx hb dX5_compile_20 (by decide) (fun h9 => absurd rfl h9) (fun _ => ?_)
  exact th_1 (E := xIAE) (names := xUp) (ik := 70) (ic := 72) F hst hT hS hns hP hD (by decide +kernel) (by decide +kernel) w_530 w_531 w_17 (fun s2 h1 h2 => at_IAE h1 h2) hex hl.1 dX5_compile_23 dX5_compile_26 dX5_compile_27 dX5_compile_30 (by decide) (by decide) (by decide) (by decide) (by decide) (by decide)

