/-! the law's own methods over the class's whole state -/
def oW (G : PG) (ou : Nat) (fo : Nat → Int64) : va_W := [(ou, .inl (G.2 1, 1, .inr (.inl fo)))]
def lW (G : PG) (ou x : Nat) (u : Nat → Nat) (mo : Nat) (q : Nat → Nat) (fo : Nat → Int64) (C : CS) (R : RS) : va_W := oW G ou fo ++ (pW G x u C ++ mW G mo q R)
section LW
variable {G : PG} {ou x mo : Nat} {u q : Nat → Nat} {fo : Nat → Int64} {C : CS} {R : RS}
theorem zl1 : (lW G ou x u mo q fo C R).Perm ((oW G ou fo ++ mW G mo q R) ++ pW G x u C) := zp_mid _ _ _
theorem zl1b : ((oW G ou fo ++ mW G mo q R) ++ pW G x u C).Perm (lW G ou x u mo q fo C R) := (zp_mid _ _ _).symm
theorem zl2 : (lW G ou x u mo q fo C R).Perm (mW G mo q R ++ (oW G ou fo ++ pW G x u C)) := by
  unfold lW
  rw [← List.append_assoc]
  exact List.perm_append_comm
theorem zl2b : (mW G mo q R ++ (oW G ou fo ++ pW G x u C)).Perm (lW G ou x u mo q fo C R) := zl2.symm
theorem zl3 : (lW G ou x u mo q fo C R).Perm ((oW G ou fo ++ pW G x u C) ++ mW G mo q R) := by
  unfold lW
  rw [← List.append_assoc]
theorem zl3b : ((oW G ou fo ++ pW G x u C) ++ mW G mo q R).Perm (lW G ou x u mo q fo C R) := zl3.symm
end LW
theorem nI_p1 {n : Nat} : nI (n + 1) = nI n + 1 := nI_succ ..
theorem nI_p2 {n : Nat} : nI (n + 2) = nI n + 2 := by
  rw [show n + 2 = n + 1 + 1 from rfl, nI_p1, nI_p1, Int32.add_assoc]
  rfl
theorem dL_compile_11 : decode cL_compile 11 = .ok (.astore_n 2, 1) := by decide +kernel
theorem dL_compile_12 : decode cL_compile 12 = .ok (.iconst 1, 1) := by decide +kernel
theorem dL_compile_13 : decode cL_compile 13 = .ok (.ireturn, 1) := by decide +kernel
def E_l_compile (C : CS) (fo : Nat → Int64) (C' : CS) (fo' : Nat → Int64) (k : Int32) : Prop := (∃ (C1 : CS) (r1 : Int32), E_p_compile C C1 r1 ∧ (C' = C1 ∧ fo' = (vp_updL fo 0 r1.toInt64) ∧ k = 0)) ∨ (∃ C1 : CS, EX_p_compile C C1 xIAE ∧ (C' = C1 ∧ fo' = fo ∧ k = 1))
set_option maxHeartbeats 4000000 in
set_option maxRecDepth 100000 in
theorem l_compile_y (l : Launch) (hst : l.stackTraces = false) (G : PG) (Z : ZZ) (x : Nat) (u : Nat → Nat) (ou : Nat) (C : CS) (fo : Nat → Int64) (C' : CS) (fo' : Nat → Int64) (k : Int32) (hE : E_l_compile C fo C' fo' k) : CiY l yL_compile (Cond.codeWith yL_compile cL_compile 3 (some .int) [(0, 8, 11, 13)] :: aW) { frames := 60, cells := 2, slots := 16, locals := 1543 } Z G (oW G ou fo ++ pW G x u C) [.ref x, .ref ou] (fun (r9 : Int32) (_ : Unit) => r9 = k) (fun (_ : Unit) => oW G ou fo' ++ pW G x u C') 2 16 := by
  refine ofBY (y := yL_compile) (G := G) (cc := cL_compile) (maxL := 3) (ret := (some .int)) (hh := [(0, 8, 11, 13)]) (Qc := fun A => va_Qi (fun (r9 : Int32) (_ : Unit) => r9 = k) (oB G A (fun (_ : Unit) => oW G ou fo' ++ pW G x u C')) A) (by decide) rfl ?_
  intro p e s m below meth c A F hK hT hZ htab hA hns hP hD
  have hS : va_S A s.heap s.heap [] := va_S.rf
  have hx := F.1.1; have hb := F.1.2.1; have hml := F.1.2.2.1; have hts := F.1.2.2.2.2
  have hown : s.vm.findClass RL = some m.cls := F.1.2.2.2.1
  have hl := lv_entry ([.ref x, .ref ou]) (n := 3) (Nat.le_of_ble_eq_true rfl)
  rw [lg_entry_eq]
  generalize (lg_sl ([.ref x, .ref ou]) ++ List.replicate (3 - (lg_sl ([.ref x, .ref ou])).length) Slot.unset).toArray = ls at hl ⊢
  have hl : lv_has ls 3 [(0, .ref x), (1, .ref ou)] := hl
  unfold E_l_compile at hE
  refine lv_aload_n hx hb dL_compile_0 rfl (lv_at hl 1 rfl) ?_
  refine lv_iconst (v := 0) hx hb dL_compile_1 (by decide) ?_
  refine lv_aload_n hx hb dL_compile_2 rfl (lv_at hl 0 rfl) ?_
  have hPc := hP.appR; have hDc := hD.appR
  rcases hE with ⟨C1, r1, hg, hE⟩ | ⟨C1, hg, hE⟩
  ·
    refine kz_i (wr := oW G ou fo) (w2 := fun _ => oW G ou fo ++ pW G x u C1) (va_runV (As := []) (rest := [.int 0, .ref ou]) F.1 (e_p_compile l G Z x u C C1 r1 hg _) (cwV 0 hts (aw_V w_265 w_266 w_267 w_1 w_268) rfl rfl rfl (by decide +kernel) ⟨by decide, by decide⟩) ⟨zS_blind, va_recv (q := (RX5, TX5, 13)) (ci := 5) (q0 := 0) hK.1 hPc rfl pW_0, zS_pre hPc hDc hK hZ hS (kz_F hD hS hA)⟩ rfl rfl hl.1 rfl (lv_room (Nat.le_of_ble_eq_true rfl)) dL_compile_3 ⟨by decide, by decide⟩) hP hD hS hA (List.Perm.refl _) (fun _ => List.Perm.refl _) (fun r9 u0 H locs hp hP hD hS => ?_)
    have hp := hp.symm; subst hp
    refine lv_i2l (v := r1.toInt64) hx hb dL_compile_6 rfl ?_
    refine va_last (D := G.1) hx hb hK.1 hP hD hS 0 1 rfl rfl (vp_in_nI (n := 0) (by decide) (by decide)) dL_compile_7 (fun H locs hP hD hS => ?_)
    have hP : va_P G.1 vwCl (oW G ou (vp_updL fo 0 r1.toInt64) ++ pW G x u C1) H := hP
    have hD : va_D A (oW G ou (vp_updL fo 0 r1.toInt64) ++ pW G x u C1) := hD
    refine lv_goto (tgt := 14) hx hb dL_compile_8 (by decide) ?_
    refine lv_iconst (v := 0) hx hb dL_compile_14 (by decide) ?_
    obtain ⟨rfl, rfl, rfl⟩ := hE
    exact en_i F hS _ () (by rfl) rfl hP hD (by decide) (by decide) dL_compile_15
  ·
    refine yc_V (E := xIAE) (w1 := pW G x u C1) (As := []) (rest := [.int 0, .ref ou]) F.1 (x_p_compile l hst G Z x u C C1 xIAE hg _) (cwV 0 hts (aw_V w_265 w_266 w_267 w_1 w_268) rfl rfl rfl (by decide +kernel) ⟨by decide, by decide⟩) ⟨tS_blind, va_recv (q := (RX5, TX5, 13)) (ci := 5) (q0 := 0) hK.1 hPc rfl pW_0, tS_pre hPc hDc hK hT hZ hS (kz_F hD hS hA) hns⟩ rfl hl.1 (lv_room (Nat.le_of_ble_eq_true rfl)) dL_compile_3 ⟨by decide, by decide⟩ (fun q9 ce H L hce hcv hcl hL hz hk hP1 hD1 => ?_)
    have hF := kz_F (wr := oW G ou fo) hD hS hA; have hS := kz_T hS hF hL hz hk; obtain ⟨hP, hD⟩ := kz_J (wr := oW G ou fo) hP hD hk hF hP1 hD1
    refine xc_catch (own := RL) (name := xIAE) (E := xIAE) hown [] ⟨0, 8, 11, 13⟩ [] htab (fun _ h => by cases h) (by decide) (by decide) (hts _ w_264) (va_Nw.use rfl (hT.1 _ (List.mem_of_getElem? (i := 1) rfl))) hce hcv hcl ?_
    refine lv_astore_n hx hb dL_compile_11 rfl hl (by decide) rfl (fun ls hl => ?_)
    have hl : lv_has ls 3 [(2, .ref q9), (0, .ref x), (1, .ref ou)] := hl
    refine lv_iconst (v := 1) hx hb dL_compile_12 (by decide) ?_
    obtain ⟨rfl, rfl, rfl⟩ := hE
    exact en_i F hS _ () (by rfl) rfl hP hD (by decide) (by decide) dL_compile_13

theorem dL_matches_6 : decode cL_matches 6 = .ok (.ifCond .eq 7, 3) := by decide +kernel
theorem dL_matches_9 : decode cL_matches 9 = .ok (.lconst 1, 1) := by decide +kernel
theorem dL_matches_10 : decode cL_matches 10 = .ok (.goto 4, 3) := by decide +kernel
theorem dL_matches_13 : decode cL_matches 13 = .ok (.lconst 0, 1) := by decide +kernel
theorem dL_matches_14 : decode cL_matches 14 = .ok (.lastore, 1) := by decide +kernel
theorem dL_matches_15 : decode cL_matches 15 = .ok (.goto 6, 3) := by decide +kernel
theorem dL_matches_21 : decode cL_matches 21 = .ok (.iconst 0, 1) := by decide +kernel
theorem dL_matches_22 : decode cL_matches 22 = .ok (.ireturn, 1) := by decide +kernel
def E_l_matches (C : CS) (fo : Nat → Int64) (C' : CS) (fo' : Nat → Int64) (k : Int32) : Prop := (∃ (C1 : CS) (r1 : Int32), E_p_matches C C1 r1 ∧ (if r1 = 0 then (C' = C1 ∧ fo' = (vp_updL fo 0 (0 : Int64)) ∧ k = 0) else (C' = C1 ∧ fo' = (vp_updL fo 0 (1 : Int64)) ∧ k = 0))) ∨ (∃ C1 : CS, EX_p_matches C C1 xISE ∧ (C' = C1 ∧ fo' = fo ∧ k = 1))
set_option maxHeartbeats 4000000 in
set_option maxRecDepth 100000 in
theorem l_matches_y (l : Launch) (hst : l.stackTraces = false) (G : PG) (Z : ZZ) (x : Nat) (u : Nat → Nat) (ou : Nat) (C : CS) (fo : Nat → Int64) (C' : CS) (fo' : Nat → Int64) (k : Int32) (hE : E_l_matches C fo C' fo' k) : CiY l yL_matches (Cond.codeWith yL_matches cL_matches 3 (some .int) [(0, 15, 18, 19)] :: aW) { frames := 58, cells := 1, slots := 6, locals := 1517 } Z G (oW G ou fo ++ pW G x u C) [.ref x, .ref ou] (fun (r9 : Int32) (_ : Unit) => r9 = k) (fun (_ : Unit) => oW G ou fo' ++ pW G x u C') 1 6 := by
  refine ofBY (y := yL_matches) (G := G) (cc := cL_matches) (maxL := 3) (ret := (some .int)) (hh := [(0, 15, 18, 19)]) (Qc := fun A => va_Qi (fun (r9 : Int32) (_ : Unit) => r9 = k) (oB G A (fun (_ : Unit) => oW G ou fo' ++ pW G x u C')) A) (by decide) rfl ?_
  intro p e s m below meth c A F hK hT hZ htab hA hns hP hD
  have hS : va_S A s.heap s.heap [] := va_S.rf
  have hx := F.1.1; have hb := F.1.2.1; have hml := F.1.2.2.1; have hts := F.1.2.2.2.2
  have hown : s.vm.findClass RL = some m.cls := F.1.2.2.2.1
  have hl := lv_entry ([.ref x, .ref ou]) (n := 3) (Nat.le_of_ble_eq_true rfl)
  rw [lg_entry_eq]
  generalize (lg_sl ([.ref x, .ref ou]) ++ List.replicate (3 - (lg_sl ([.ref x, .ref ou])).length) Slot.unset).toArray = ls at hl ⊢
  have hl : lv_has ls 3 [(0, .ref x), (1, .ref ou)] := hl
  unfold E_l_matches at hE
  refine lv_aload_n hx hb dL_matches_0 rfl (lv_at hl 1 rfl) ?_
  refine lv_iconst (v := 0) hx hb dL_matches_1 (by decide) ?_
  refine lv_aload_n hx hb dL_matches_2 rfl (lv_at hl 0 rfl) ?_
  have hPc := hP.appR; have hDc := hD.appR
  rcases hE with ⟨C1, r1, hg, hE⟩ | ⟨C1, hg, hE⟩
  ·
    refine kz_i (wr := oW G ou fo) (w2 := fun _ => oW G ou fo ++ pW G x u C1) (va_runV (As := []) (rest := [.int 0, .ref ou]) F.1 (e_p_matches l G x u C C1 r1 hg _) (cwV 0 hts (aw_V w_598 w_599 w_600 w_1 w_601) rfl rfl rfl (by decide +kernel) ⟨by decide, by decide⟩) ⟨cS_blind, va_recv (q := (RX5, TX5, 13)) (ci := 5) (q0 := 0) hK.1 hPc rfl pW_0, cS_pre hPc hDc hK⟩ rfl rfl hl.1 rfl (lv_room (Nat.le_of_ble_eq_true rfl)) dL_matches_3 ⟨by decide, by decide⟩) hP hD hS hA (List.Perm.refl _) (fun _ => List.Perm.refl _) (fun r9 u0 H locs hp hP hD hS => ?_)
    have hp := hp.symm; subst hp
    refine lv_if_eq (tgt := 13) hx hb dL_matches_6 (by decide) (fun h1 => ?_) (fun h1 => ?_)
    ·
      rw [if_pos h1] at hE
      refine lv_lconst (v := 0) hx hb dL_matches_13 (by decide) ?_
      refine va_last (D := G.1) hx hb hK.1 hP hD hS 0 1 rfl rfl (vp_in_nI (n := 0) (by decide) (by decide)) dL_matches_14 (fun H locs hP hD hS => ?_)
      have hP : va_P G.1 vwCl (oW G ou (vp_updL fo 0 (0 : Int64)) ++ pW G x u C1) H := hP
      have hD : va_D A (oW G ou (vp_updL fo 0 (0 : Int64)) ++ pW G x u C1) := hD
      refine lv_goto (tgt := 21) hx hb dL_matches_15 (by decide) ?_
      refine lv_iconst (v := 0) hx hb dL_matches_21 (by decide) ?_
      obtain ⟨rfl, rfl, rfl⟩ := hE
      exact en_i F hS _ () (by rfl) rfl hP hD (by decide) (by decide) dL_matches_22
    ·
      rw [if_neg h1] at hE
      refine lv_lconst (v := 1) hx hb dL_matches_9 (by decide) ?_
      refine lv_goto (tgt := 14) hx hb dL_matches_10 (by decide) ?_
      refine va_last (D := G.1) hx hb hK.1 hP hD hS 0 1 rfl rfl (vp_in_nI (n := 0) (by decide) (by decide)) dL_matches_14 (fun H locs hP hD hS => ?_)
      have hP : va_P G.1 vwCl (oW G ou (vp_updL fo 0 (1 : Int64)) ++ pW G x u C1) H := hP
      have hD : va_D A (oW G ou (vp_updL fo 0 (1 : Int64)) ++ pW G x u C1) := hD
      refine lv_goto (tgt := 21) hx hb dL_matches_15 (by decide) ?_
      refine lv_iconst (v := 0) hx hb dL_matches_21 (by decide) ?_
      obtain ⟨rfl, rfl, rfl⟩ := hE
      exact en_i F hS _ () (by rfl) rfl hP hD (by decide) (by decide) dL_matches_22
  ·
    refine yc_V (E := xISE) (w1 := pW G x u C1) (As := []) (rest := [.int 0, .ref ou]) F.1 (x_p_matches l hst G Z x u C C1 xISE hg _) (cwV 0 hts (aw_V w_598 w_599 w_600 w_1 w_601) rfl rfl rfl (by decide +kernel) ⟨by decide, by decide⟩) ⟨tS_blind, va_recv (q := (RX5, TX5, 13)) (ci := 5) (q0 := 0) hK.1 hPc rfl pW_0, tS_pre hPc hDc hK hT hZ hS (kz_F hD hS hA) hns⟩ rfl hl.1 (lv_room (Nat.le_of_ble_eq_true rfl)) dL_matches_3 ⟨by decide, by decide⟩ (fun q9 ce H L hce hcv hcl hL hz hk hP1 hD1 => ?_)
    have hF := kz_F (wr := oW G ou fo) hD hS hA; have hS := kz_T hS hF hL hz hk; obtain ⟨hP, hD⟩ := kz_J (wr := oW G ou fo) hP hD hk hF hP1 hD1
    refine xc_catch (own := RL) (name := xISE) (E := xISE) hown [] ⟨0, 15, 18, 19⟩ [] htab (fun _ h => by cases h) (by decide) (by decide) (hts _ w_597) (va_Nw.use rfl (hT.1 _ (List.mem_of_getElem? (i := 0) rfl))) hce hcv hcl ?_
    refine lv_astore_n hx hb dL_matches_18 rfl hl (by decide) rfl (fun ls hl => ?_)
    have hl : lv_has ls 3 [(2, .ref q9), (0, .ref x), (1, .ref ou)] := hl
    refine lv_iconst (v := 1) hx hb dL_matches_19 (by decide) ?_
    obtain ⟨rfl, rfl, rfl⟩ := hE
    exact en_i F hS _ () (by rfl) rfl hP hD (by decide) (by decide) dL_matches_20

theorem dL_looking_6 : decode cL_looking 6 = .ok (.ifCond .eq 7, 3) := by decide +kernel
theorem dL_looking_9 : decode cL_looking 9 = .ok (.lconst 1, 1) := by decide +kernel
theorem dL_looking_10 : decode cL_looking 10 = .ok (.goto 4, 3) := by decide +kernel
theorem dL_looking_13 : decode cL_looking 13 = .ok (.lconst 0, 1) := by decide +kernel
theorem dL_looking_14 : decode cL_looking 14 = .ok (.lastore, 1) := by decide +kernel
theorem dL_looking_15 : decode cL_looking 15 = .ok (.goto 6, 3) := by decide +kernel
theorem dL_looking_21 : decode cL_looking 21 = .ok (.iconst 0, 1) := by decide +kernel
theorem dL_looking_22 : decode cL_looking 22 = .ok (.ireturn, 1) := by decide +kernel
def E_l_looking (C : CS) (fo : Nat → Int64) (C' : CS) (fo' : Nat → Int64) (k : Int32) : Prop := (∃ (C1 : CS) (r1 : Int32), E_p_looking C C1 r1 ∧ (if r1 = 0 then (C' = C1 ∧ fo' = (vp_updL fo 0 (0 : Int64)) ∧ k = 0) else (C' = C1 ∧ fo' = (vp_updL fo 0 (1 : Int64)) ∧ k = 0))) ∨ (∃ C1 : CS, EX_p_looking C C1 xISE ∧ (C' = C1 ∧ fo' = fo ∧ k = 1))
set_option maxHeartbeats 4000000 in
set_option maxRecDepth 100000 in
theorem l_looking_y (l : Launch) (hst : l.stackTraces = false) (G : PG) (Z : ZZ) (x : Nat) (u : Nat → Nat) (ou : Nat) (C : CS) (fo : Nat → Int64) (C' : CS) (fo' : Nat → Int64) (k : Int32) (hE : E_l_looking C fo C' fo' k) : CiY l yL_looking (Cond.codeWith yL_looking cL_looking 3 (some .int) [(0, 15, 18, 19)] :: aW) { frames := 58, cells := 1, slots := 6, locals := 1517 } Z G (oW G ou fo ++ pW G x u C) [.ref x, .ref ou] (fun (r9 : Int32) (_ : Unit) => r9 = k) (fun (_ : Unit) => oW G ou fo' ++ pW G x u C') 1 6 := by
  refine ofBY (y := yL_looking) (G := G) (cc := cL_looking) (maxL := 3) (ret := (some .int)) (hh := [(0, 15, 18, 19)]) (Qc := fun A => va_Qi (fun (r9 : Int32) (_ : Unit) => r9 = k) (oB G A (fun (_ : Unit) => oW G ou fo' ++ pW G x u C')) A) (by decide) rfl ?_
  intro p e s m below meth c A F hK hT hZ htab hA hns hP hD
  have hS : va_S A s.heap s.heap [] := va_S.rf
  have hx := F.1.1; have hb := F.1.2.1; have hml := F.1.2.2.1; have hts := F.1.2.2.2.2
  have hown : s.vm.findClass RL = some m.cls := F.1.2.2.2.1
  have hl := lv_entry ([.ref x, .ref ou]) (n := 3) (Nat.le_of_ble_eq_true rfl)
  rw [lg_entry_eq]
  generalize (lg_sl ([.ref x, .ref ou]) ++ List.replicate (3 - (lg_sl ([.ref x, .ref ou])).length) Slot.unset).toArray = ls at hl ⊢
  have hl : lv_has ls 3 [(0, .ref x), (1, .ref ou)] := hl
  unfold E_l_looking at hE
  refine lv_aload_n hx hb dL_looking_0 rfl (lv_at hl 1 rfl) ?_
  refine lv_iconst (v := 0) hx hb dL_looking_1 (by decide) ?_
  refine lv_aload_n hx hb dL_looking_2 rfl (lv_at hl 0 rfl) ?_
  have hPc := hP.appR; have hDc := hD.appR
  rcases hE with ⟨C1, r1, hg, hE⟩ | ⟨C1, hg, hE⟩
  ·
    refine kz_i (wr := oW G ou fo) (w2 := fun _ => oW G ou fo ++ pW G x u C1) (va_runV (As := []) (rest := [.int 0, .ref ou]) F.1 (e_p_looking l G x u C C1 r1 hg _) (cwV 0 hts (aw_V w_731 w_732 w_733 w_1 w_734) rfl rfl rfl (by decide +kernel) ⟨by decide, by decide⟩) ⟨cS_blind, va_recv (q := (RX5, TX5, 13)) (ci := 5) (q0 := 0) hK.1 hPc rfl pW_0, cS_pre hPc hDc hK⟩ rfl rfl hl.1 rfl (lv_room (Nat.le_of_ble_eq_true rfl)) dL_looking_3 ⟨by decide, by decide⟩) hP hD hS hA (List.Perm.refl _) (fun _ => List.Perm.refl _) (fun r9 u0 H locs hp hP hD hS => ?_)
    have hp := hp.symm; subst hp
    refine lv_if_eq (tgt := 13) hx hb dL_looking_6 (by decide) (fun h1 => ?_) (fun h1 => ?_)
    ·
      rw [if_pos h1] at hE
      refine lv_lconst (v := 0) hx hb dL_looking_13 (by decide) ?_
      refine va_last (D := G.1) hx hb hK.1 hP hD hS 0 1 rfl rfl (vp_in_nI (n := 0) (by decide) (by decide)) dL_looking_14 (fun H locs hP hD hS => ?_)
      have hP : va_P G.1 vwCl (oW G ou (vp_updL fo 0 (0 : Int64)) ++ pW G x u C1) H := hP
      have hD : va_D A (oW G ou (vp_updL fo 0 (0 : Int64)) ++ pW G x u C1) := hD
      refine lv_goto (tgt := 21) hx hb dL_looking_15 (by decide) ?_
      refine lv_iconst (v := 0) hx hb dL_looking_21 (by decide) ?_
      obtain ⟨rfl, rfl, rfl⟩ := hE
      exact en_i F hS _ () (by rfl) rfl hP hD (by decide) (by decide) dL_looking_22
    ·
      rw [if_neg h1] at hE
      refine lv_lconst (v := 1) hx hb dL_looking_9 (by decide) ?_
      refine lv_goto (tgt := 14) hx hb dL_looking_10 (by decide) ?_
      refine va_last (D := G.1) hx hb hK.1 hP hD hS 0 1 rfl rfl (vp_in_nI (n := 0) (by decide) (by decide)) dL_looking_14 (fun H locs hP hD hS => ?_)
      have hP : va_P G.1 vwCl (oW G ou (vp_updL fo 0 (1 : Int64)) ++ pW G x u C1) H := hP
      have hD : va_D A (oW G ou (vp_updL fo 0 (1 : Int64)) ++ pW G x u C1) := hD
      refine lv_goto (tgt := 21) hx hb dL_looking_15 (by decide) ?_
      refine lv_iconst (v := 0) hx hb dL_looking_21 (by decide) ?_
      obtain ⟨rfl, rfl, rfl⟩ := hE
      exact en_i F hS _ () (by rfl) rfl hP hD (by decide) (by decide) dL_looking_22
  ·
    refine yc_V (E := xISE) (w1 := pW G x u C1) (As := []) (rest := [.int 0, .ref ou]) F.1 (x_p_looking l hst G Z x u C C1 xISE hg _) (cwV 0 hts (aw_V w_731 w_732 w_733 w_1 w_734) rfl rfl rfl (by decide +kernel) ⟨by decide, by decide⟩) ⟨tS_blind, va_recv (q := (RX5, TX5, 13)) (ci := 5) (q0 := 0) hK.1 hPc rfl pW_0, tS_pre hPc hDc hK hT hZ hS (kz_F hD hS hA) hns⟩ rfl hl.1 (lv_room (Nat.le_of_ble_eq_true rfl)) dL_looking_3 ⟨by decide, by decide⟩ (fun q9 ce H L hce hcv hcl hL hz hk hP1 hD1 => ?_)
    have hF := kz_F (wr := oW G ou fo) hD hS hA; have hS := kz_T hS hF hL hz hk; obtain ⟨hP, hD⟩ := kz_J (wr := oW G ou fo) hP hD hk hF hP1 hD1
    refine xc_catch (own := RL) (name := xISE) (E := xISE) hown [] ⟨0, 15, 18, 19⟩ [] htab (fun _ h => by cases h) (by decide) (by decide) (hts _ w_597) (va_Nw.use rfl (hT.1 _ (List.mem_of_getElem? (i := 0) rfl))) hce hcv hcl ?_
    refine lv_astore_n hx hb dL_looking_18 rfl hl (by decide) rfl (fun ls hl => ?_)
    have hl : lv_has ls 3 [(2, .ref q9), (0, .ref x), (1, .ref ou)] := hl
    refine lv_iconst (v := 1) hx hb dL_looking_19 (by decide) ?_
    obtain ⟨rfl, rfl, rfl⟩ := hE
    exact en_i F hS _ () (by rfl) rfl hP hD (by decide) (by decide) dL_looking_20

theorem dL_find_7 : decode cL_find 7 = .ok (.i2l, 1) := by decide +kernel
theorem dL_find_8 : decode cL_find 8 = .ok (.lastore, 1) := by decide +kernel
theorem dL_find_9 : decode cL_find 9 = .ok (.goto 9, 3) := by decide +kernel
theorem dL_find_18 : decode cL_find 18 = .ok (.iconst 0, 1) := by decide +kernel
theorem dL_find_19 : decode cL_find 19 = .ok (.ireturn, 1) := by decide +kernel
def E_l_find (C : CS) (fo : Nat → Int64) (a1 : Int32) (C' : CS) (fo' : Nat → Int64) (k : Int32) : Prop := (∃ (C1 : CS) (r1 : Int32), E_p_find C a1 C1 r1 ∧ (C' = C1 ∧ fo' = (vp_updL fo 0 r1.toInt64) ∧ k = 0)) ∨ (∃ C1 : CS, EX_p_find C a1 C1 xIOO ∧ (C' = C1 ∧ fo' = fo ∧ k = 1)) ∨ (∃ C1 : CS, EX_p_find C a1 C1 xISE ∧ (C' = C1 ∧ fo' = fo ∧ k = 2))
set_option maxHeartbeats 4000000 in
set_option maxRecDepth 100000 in
theorem l_find_y (l : Launch) (hst : l.stackTraces = false) (G : PG) (Z : ZZ) (x : Nat) (u : Nat → Nat) (ou : Nat) (C : CS) (fo : Nat → Int64) (a1 : Int32) (C' : CS) (fo' : Nat → Int64) (k : Int32) (hE : E_l_find C fo a1 C' fo' k) : CiY l yL_find (Cond.codeWith yL_find cL_find 4 (some .int) [(0, 9, 12, 28), (0, 9, 15, 19)] :: aW) { frames := 58, cells := 1, slots := 6, locals := 1518 } Z G (oW G ou fo ++ pW G x u C) [.ref x, .int a1, .ref ou] (fun (r9 : Int32) (_ : Unit) => r9 = k) (fun (_ : Unit) => oW G ou fo' ++ pW G x u C') 1 6 := by
  refine ofBY (y := yL_find) (G := G) (cc := cL_find) (maxL := 4) (ret := (some .int)) (hh := [(0, 9, 12, 28), (0, 9, 15, 19)]) (Qc := fun A => va_Qi (fun (r9 : Int32) (_ : Unit) => r9 = k) (oB G A (fun (_ : Unit) => oW G ou fo' ++ pW G x u C')) A) (by decide) rfl ?_
  intro p e s m below meth c A F hK hT hZ htab hA hns hP hD
  have hS : va_S A s.heap s.heap [] := va_S.rf
  have hx := F.1.1; have hb := F.1.2.1; have hml := F.1.2.2.1; have hts := F.1.2.2.2.2
  have hown : s.vm.findClass RL = some m.cls := F.1.2.2.2.1
  have hl := lv_entry ([.ref x, .int a1, .ref ou]) (n := 4) (Nat.le_of_ble_eq_true rfl)
  rw [lg_entry_eq]
  generalize (lg_sl ([.ref x, .int a1, .ref ou]) ++ List.replicate (4 - (lg_sl ([.ref x, .int a1, .ref ou])).length) Slot.unset).toArray = ls at hl ⊢
  have hl : lv_has ls 4 [(0, .ref x), (1, .int a1), (2, .ref ou)] := hl
  unfold E_l_find at hE
  refine lv_aload_n hx hb dL_find_0 rfl (lv_at hl 2 rfl) ?_
  refine lv_iconst (v := 0) hx hb dL_find_1 (by decide) ?_
  refine lv_aload_n hx hb dL_find_2 rfl (lv_at hl 0 rfl) ?_
  refine lv_iload_n hx hb dL_find_3 rfl (lv_at hl 1 rfl) ?_
  have hPc := hP.appR; have hDc := hD.appR
  rcases hE with ⟨C1, r1, hg, hE⟩ | ⟨C1, hg, hE⟩ | ⟨C1, hg, hE⟩
  ·
    refine kz_i (wr := oW G ou fo) (w2 := fun _ => oW G ou fo ++ pW G x u C1) (va_runV (As := [.int a1]) (rest := [.int 0, .ref ou]) F.1 (e_p_find l G x u C a1 C1 r1 hg _) (cwV 1 hts (aw_V w_739 w_740 w_741 w_1 w_742) rfl rfl rfl (by decide +kernel) ⟨by decide, by decide⟩) ⟨cS_blind, va_recv (q := (RX5, TX5, 13)) (ci := 5) (q0 := 0) hK.1 hPc rfl pW_0, cS_pre hPc hDc hK⟩ rfl rfl hl.1 rfl (lv_room (Nat.le_of_ble_eq_true rfl)) dL_find_4 ⟨by decide, by decide⟩) hP hD hS hA (List.Perm.refl _) (fun _ => List.Perm.refl _) (fun r9 u0 H locs hp hP hD hS => ?_)
    have hp := hp.symm; subst hp
    refine lv_i2l (v := r1.toInt64) hx hb dL_find_7 rfl ?_
    refine va_last (D := G.1) hx hb hK.1 hP hD hS 0 1 rfl rfl (vp_in_nI (n := 0) (by decide) (by decide)) dL_find_8 (fun H locs hP hD hS => ?_)
    have hP : va_P G.1 vwCl (oW G ou (vp_updL fo 0 r1.toInt64) ++ pW G x u C1) H := hP
    have hD : va_D A (oW G ou (vp_updL fo 0 r1.toInt64) ++ pW G x u C1) := hD
    refine lv_goto (tgt := 18) hx hb dL_find_9 (by decide) ?_
    refine lv_iconst (v := 0) hx hb dL_find_18 (by decide) ?_
    obtain ⟨rfl, rfl, rfl⟩ := hE
    exact en_i F hS _ () (by rfl) rfl hP hD (by decide) (by decide) dL_find_19
  ·
    refine yc_V (E := xIOO) (w1 := pW G x u C1) (As := [.int a1]) (rest := [.int 0, .ref ou]) F.1 (x_p_find l hst G Z x u C a1 C1 xIOO hg _) (cwV 1 hts (aw_V w_739 w_740 w_741 w_1 w_742) rfl rfl rfl (by decide +kernel) ⟨by decide, by decide⟩) ⟨tS_blind, va_recv (q := (RX5, TX5, 13)) (ci := 5) (q0 := 0) hK.1 hPc rfl pW_0, tS_pre hPc hDc hK hT hZ hS (kz_F hD hS hA) hns⟩ rfl hl.1 (lv_room (Nat.le_of_ble_eq_true rfl)) dL_find_4 ⟨by decide, by decide⟩ (fun q9 ce H L hce hcv hcl hL hz hk hP1 hD1 => ?_)
    have hF := kz_F (wr := oW G ou fo) hD hS hA; have hS := kz_T hS hF hL hz hk; obtain ⟨hP, hD⟩ := kz_J (wr := oW G ou fo) hP hD hk hF hP1 hD1
    refine xc_catch (own := RL) (name := xIOO) (E := xIOO) hown [] ⟨0, 9, 12, 28⟩ [⟨0, 9, 15, 19⟩] htab (fun _ h => by cases h) (by decide) (by decide) (hts _ w_738) (va_Nw.use rfl (hT.1 _ (List.mem_of_getElem? (i := 2) rfl))) hce hcv hcl ?_
    refine lv_astore_n hx hb dL_find_12 rfl hl (by decide) rfl (fun ls hl => ?_)
    have hl : lv_has ls 4 [(3, .ref q9), (0, .ref x), (1, .int a1), (2, .ref ou)] := hl
    refine lv_iconst (v := 1) hx hb dL_find_13 (by decide) ?_
    obtain ⟨rfl, rfl, rfl⟩ := hE
    exact en_i F hS _ () (by rfl) rfl hP hD (by decide) (by decide) dL_find_14
  ·
    refine yc_V (E := xISE) (w1 := pW G x u C1) (As := [.int a1]) (rest := [.int 0, .ref ou]) F.1 (x_p_find l hst G Z x u C a1 C1 xISE hg _) (cwV 1 hts (aw_V w_739 w_740 w_741 w_1 w_742) rfl rfl rfl (by decide +kernel) ⟨by decide, by decide⟩) ⟨tS_blind, va_recv (q := (RX5, TX5, 13)) (ci := 5) (q0 := 0) hK.1 hPc rfl pW_0, tS_pre hPc hDc hK hT hZ hS (kz_F hD hS hA) hns⟩ rfl hl.1 (lv_room (Nat.le_of_ble_eq_true rfl)) dL_find_4 ⟨by decide, by decide⟩ (fun q9 ce H L hce hcv hcl hL hz hk hP1 hD1 => ?_)
    have hF := kz_F (wr := oW G ou fo) hD hS hA; have hS := kz_T hS hF hL hz hk; obtain ⟨hP, hD⟩ := kz_J (wr := oW G ou fo) hP hD hk hF hP1 hD1
    refine xc_catch (own := RL) (name := xISE) (E := xISE) hown [⟨0, 9, 12, 28⟩] ⟨0, 9, 15, 19⟩ [] htab (fun z hz => by simp only [List.mem_cons, List.not_mem_nil, or_false] at hz; rcases hz with rfl <;> first | exact ⟨by decide, by decide, xIOO, hts _ w_738, hT.2.2.2.1⟩) (by decide) (by decide) (hts _ w_597) (va_Nw.use rfl (hT.1 _ (List.mem_of_getElem? (i := 0) rfl))) hce hcv hcl ?_
    refine lv_astore_n hx hb dL_find_15 rfl hl (by decide) rfl (fun ls hl => ?_)
    have hl : lv_has ls 4 [(3, .ref q9), (0, .ref x), (1, .int a1), (2, .ref ou)] := hl
    refine lv_iconst (v := 2) hx hb dL_find_16 (by decide) ?_
    obtain ⟨rfl, rfl, rfl⟩ := hE
    exact en_i F hS _ () (by rfl) rfl hP hD (by decide) (by decide) dL_find_17

theorem dL_start_7 : decode cL_start 7 = .ok (.i2l, 1) := by decide +kernel
theorem dL_start_8 : decode cL_start 8 = .ok (.lastore, 1) := by decide +kernel
theorem dL_start_9 : decode cL_start 9 = .ok (.goto 9, 3) := by decide +kernel
theorem dL_start_15 : decode cL_start 15 = .ok (.astore_n 3, 1) := by decide +kernel
theorem dL_start_16 : decode cL_start 16 = .ok (.iconst 2, 1) := by decide +kernel
theorem dL_start_17 : decode cL_start 17 = .ok (.ireturn, 1) := by decide +kernel
theorem dL_start_18 : decode cL_start 18 = .ok (.iconst 0, 1) := by decide +kernel
theorem dL_start_19 : decode cL_start 19 = .ok (.ireturn, 1) := by decide +kernel
def E_l_start (C : CS) (fo : Nat → Int64) (a1 : Int32) (C' : CS) (fo' : Nat → Int64) (k : Int32) : Prop := (∃ (C1 : CS) (r1 : Int32), E_p_start C a1 C1 r1 ∧ (C' = C1 ∧ fo' = (vp_updL fo 0 r1.toInt64) ∧ k = 0)) ∨ (∃ C1 : CS, EX_p_start C a1 C1 xISE ∧ (C' = C1 ∧ fo' = fo ∧ k = 1)) ∨ (∃ C1 : CS, EX_p_start C a1 C1 xIOO ∧ (C' = C1 ∧ fo' = fo ∧ k = 2))
set_option maxHeartbeats 4000000 in
set_option maxRecDepth 100000 in
theorem l_start_y (l : Launch) (hst : l.stackTraces = false) (G : PG) (Z : ZZ) (x : Nat) (u : Nat → Nat) (ou : Nat) (C : CS) (fo : Nat → Int64) (a1 : Int32) (C' : CS) (fo' : Nat → Int64) (k : Int32) (hE : E_l_start C fo a1 C' fo' k) : CiY l yL_start (Cond.codeWith yL_start cL_start 4 (some .int) [(0, 9, 12, 19), (0, 9, 15, 28)] :: aW) { frames := 7, cells := 1, slots := 6, locals := 121 } Z G (oW G ou fo ++ pW G x u C) [.ref x, .int a1, .ref ou] (fun (r9 : Int32) (_ : Unit) => r9 = k) (fun (_ : Unit) => oW G ou fo' ++ pW G x u C') 1 6 := by
  refine ofBY (y := yL_start) (G := G) (cc := cL_start) (maxL := 4) (ret := (some .int)) (hh := [(0, 9, 12, 19), (0, 9, 15, 28)]) (Qc := fun A => va_Qi (fun (r9 : Int32) (_ : Unit) => r9 = k) (oB G A (fun (_ : Unit) => oW G ou fo' ++ pW G x u C')) A) (by decide) rfl ?_
  intro p e s m below meth c A F hK hT hZ htab hA hns hP hD
  have hS : va_S A s.heap s.heap [] := va_S.rf
  have hx := F.1.1; have hb := F.1.2.1; have hml := F.1.2.2.1; have hts := F.1.2.2.2.2
  have hown : s.vm.findClass RL = some m.cls := F.1.2.2.2.1
  have hl := lv_entry ([.ref x, .int a1, .ref ou]) (n := 4) (Nat.le_of_ble_eq_true rfl)
  rw [lg_entry_eq]
  generalize (lg_sl ([.ref x, .int a1, .ref ou]) ++ List.replicate (4 - (lg_sl ([.ref x, .int a1, .ref ou])).length) Slot.unset).toArray = ls at hl ⊢
  have hl : lv_has ls 4 [(0, .ref x), (1, .int a1), (2, .ref ou)] := hl
  unfold E_l_start at hE
  refine lv_aload_n hx hb dL_start_0 rfl (lv_at hl 2 rfl) ?_
  refine lv_iconst (v := 0) hx hb dL_start_1 (by decide) ?_
  refine lv_aload_n hx hb dL_start_2 rfl (lv_at hl 0 rfl) ?_
  refine lv_iload_n hx hb dL_start_3 rfl (lv_at hl 1 rfl) ?_
  have hPc := hP.appR; have hDc := hD.appR
  rcases hE with ⟨C1, r1, hg, hE⟩ | ⟨C1, hg, hE⟩ | ⟨C1, hg, hE⟩
  ·
    refine kz_i (wr := oW G ou fo) (w2 := fun _ => oW G ou fo ++ pW G x u C1) (va_runV (As := [.int a1]) (rest := [.int 0, .ref ou]) F.1 (e_p_start l G x u C a1 C1 r1 hg _) (cwV 1 hts (aw_V w_761 w_762 w_763 w_1 w_764) rfl rfl rfl (by decide +kernel) ⟨by decide, by decide⟩) ⟨cS_blind, va_recv (q := (RX5, TX5, 13)) (ci := 5) (q0 := 0) hK.1 hPc rfl pW_0, cS_pre hPc hDc hK⟩ rfl rfl hl.1 rfl (lv_room (Nat.le_of_ble_eq_true rfl)) dL_start_4 ⟨by decide, by decide⟩) hP hD hS hA (List.Perm.refl _) (fun _ => List.Perm.refl _) (fun r9 u0 H locs hp hP hD hS => ?_)
    have hp := hp.symm; subst hp
    refine lv_i2l (v := r1.toInt64) hx hb dL_start_7 rfl ?_
    refine va_last (D := G.1) hx hb hK.1 hP hD hS 0 1 rfl rfl (vp_in_nI (n := 0) (by decide) (by decide)) dL_start_8 (fun H locs hP hD hS => ?_)
    have hP : va_P G.1 vwCl (oW G ou (vp_updL fo 0 r1.toInt64) ++ pW G x u C1) H := hP
    have hD : va_D A (oW G ou (vp_updL fo 0 r1.toInt64) ++ pW G x u C1) := hD
    refine lv_goto (tgt := 18) hx hb dL_start_9 (by decide) ?_
    refine lv_iconst (v := 0) hx hb dL_start_18 (by decide) ?_
    obtain ⟨rfl, rfl, rfl⟩ := hE
    exact en_i F hS _ () (by rfl) rfl hP hD (by decide) (by decide) dL_start_19
  ·
    refine yc_V (E := xISE) (w1 := pW G x u C1) (As := [.int a1]) (rest := [.int 0, .ref ou]) F.1 (x_p_start l hst G Z x u C a1 C1 xISE hg _) (cwV 1 hts (aw_V w_761 w_762 w_763 w_1 w_764) rfl rfl rfl (by decide +kernel) ⟨by decide, by decide⟩) ⟨tS_blind, va_recv (q := (RX5, TX5, 13)) (ci := 5) (q0 := 0) hK.1 hPc rfl pW_0, tS_pre hPc hDc hK hT hZ hS (kz_F hD hS hA) hns⟩ rfl hl.1 (lv_room (Nat.le_of_ble_eq_true rfl)) dL_start_4 ⟨by decide, by decide⟩ (fun q9 ce H L hce hcv hcl hL hz hk hP1 hD1 => ?_)
    have hF := kz_F (wr := oW G ou fo) hD hS hA; have hS := kz_T hS hF hL hz hk; obtain ⟨hP, hD⟩ := kz_J (wr := oW G ou fo) hP hD hk hF hP1 hD1
    refine xc_catch (own := RL) (name := xISE) (E := xISE) hown [] ⟨0, 9, 12, 19⟩ [⟨0, 9, 15, 28⟩] htab (fun _ h => by cases h) (by decide) (by decide) (hts _ w_597) (va_Nw.use rfl (hT.1 _ (List.mem_of_getElem? (i := 0) rfl))) hce hcv hcl ?_
    refine lv_astore_n hx hb dL_start_12 rfl hl (by decide) rfl (fun ls hl => ?_)
    have hl : lv_has ls 4 [(3, .ref q9), (0, .ref x), (1, .int a1), (2, .ref ou)] := hl
    refine lv_iconst (v := 1) hx hb dL_start_13 (by decide) ?_
    obtain ⟨rfl, rfl, rfl⟩ := hE
    exact en_i F hS _ () (by rfl) rfl hP hD (by decide) (by decide) dL_start_14
  ·
    refine yc_V (E := xIOO) (w1 := pW G x u C1) (As := [.int a1]) (rest := [.int 0, .ref ou]) F.1 (x_p_start l hst G Z x u C a1 C1 xIOO hg _) (cwV 1 hts (aw_V w_761 w_762 w_763 w_1 w_764) rfl rfl rfl (by decide +kernel) ⟨by decide, by decide⟩) ⟨tS_blind, va_recv (q := (RX5, TX5, 13)) (ci := 5) (q0 := 0) hK.1 hPc rfl pW_0, tS_pre hPc hDc hK hT hZ hS (kz_F hD hS hA) hns⟩ rfl hl.1 (lv_room (Nat.le_of_ble_eq_true rfl)) dL_start_4 ⟨by decide, by decide⟩ (fun q9 ce H L hce hcv hcl hL hz hk hP1 hD1 => ?_)
    have hF := kz_F (wr := oW G ou fo) hD hS hA; have hS := kz_T hS hF hL hz hk; obtain ⟨hP, hD⟩ := kz_J (wr := oW G ou fo) hP hD hk hF hP1 hD1
    refine xc_catch (own := RL) (name := xIOO) (E := xIOO) hown [⟨0, 9, 12, 19⟩] ⟨0, 9, 15, 28⟩ [] htab (fun z hz => by simp only [List.mem_cons, List.not_mem_nil, or_false] at hz; rcases hz with rfl <;> first | exact ⟨by decide, by decide, xISE, hts _ w_597, hT.2.2.2.2.2.2.2.1⟩) (by decide) (by decide) (hts _ w_738) (va_Nw.use rfl (hT.1 _ (List.mem_of_getElem? (i := 2) rfl))) hce hcv hcl ?_
    refine lv_astore_n hx hb dL_start_15 rfl hl (by decide) rfl (fun ls hl => ?_)
    have hl : lv_has ls 4 [(3, .ref q9), (0, .ref x), (1, .int a1), (2, .ref ou)] := hl
    refine lv_iconst (v := 2) hx hb dL_start_16 (by decide) ?_
    obtain ⟨rfl, rfl, rfl⟩ := hE
    exact en_i F hS _ () (by rfl) rfl hP hD (by decide) (by decide) dL_start_17

theorem dL_end_7 : decode cL_end 7 = .ok (.i2l, 1) := by decide +kernel
theorem dL_end_8 : decode cL_end 8 = .ok (.lastore, 1) := by decide +kernel
theorem dL_end_9 : decode cL_end 9 = .ok (.goto 9, 3) := by decide +kernel
theorem dL_end_15 : decode cL_end 15 = .ok (.astore_n 3, 1) := by decide +kernel
theorem dL_end_16 : decode cL_end 16 = .ok (.iconst 2, 1) := by decide +kernel
theorem dL_end_17 : decode cL_end 17 = .ok (.ireturn, 1) := by decide +kernel
theorem dL_end_18 : decode cL_end 18 = .ok (.iconst 0, 1) := by decide +kernel
theorem dL_end_19 : decode cL_end 19 = .ok (.ireturn, 1) := by decide +kernel
def E_l_end (C : CS) (fo : Nat → Int64) (a1 : Int32) (C' : CS) (fo' : Nat → Int64) (k : Int32) : Prop := (∃ (C1 : CS) (r1 : Int32), E_p_end C a1 C1 r1 ∧ (C' = C1 ∧ fo' = (vp_updL fo 0 r1.toInt64) ∧ k = 0)) ∨ (∃ C1 : CS, EX_p_end C a1 C1 xISE ∧ (C' = C1 ∧ fo' = fo ∧ k = 1)) ∨ (∃ C1 : CS, EX_p_end C a1 C1 xIOO ∧ (C' = C1 ∧ fo' = fo ∧ k = 2))
set_option maxHeartbeats 4000000 in
set_option maxRecDepth 100000 in
theorem l_end_y (l : Launch) (hst : l.stackTraces = false) (G : PG) (Z : ZZ) (x : Nat) (u : Nat → Nat) (ou : Nat) (C : CS) (fo : Nat → Int64) (a1 : Int32) (C' : CS) (fo' : Nat → Int64) (k : Int32) (hE : E_l_end C fo a1 C' fo' k) : CiY l yL_end (Cond.codeWith yL_end cL_end 4 (some .int) [(0, 9, 12, 19), (0, 9, 15, 28)] :: aW) { frames := 7, cells := 1, slots := 6, locals := 121 } Z G (oW G ou fo ++ pW G x u C) [.ref x, .int a1, .ref ou] (fun (r9 : Int32) (_ : Unit) => r9 = k) (fun (_ : Unit) => oW G ou fo' ++ pW G x u C') 1 6 := by
  refine ofBY (y := yL_end) (G := G) (cc := cL_end) (maxL := 4) (ret := (some .int)) (hh := [(0, 9, 12, 19), (0, 9, 15, 28)]) (Qc := fun A => va_Qi (fun (r9 : Int32) (_ : Unit) => r9 = k) (oB G A (fun (_ : Unit) => oW G ou fo' ++ pW G x u C')) A) (by decide) rfl ?_
  intro p e s m below meth c A F hK hT hZ htab hA hns hP hD
  have hS : va_S A s.heap s.heap [] := va_S.rf
  have hx := F.1.1; have hb := F.1.2.1; have hml := F.1.2.2.1; have hts := F.1.2.2.2.2
  have hown : s.vm.findClass RL = some m.cls := F.1.2.2.2.1
  have hl := lv_entry ([.ref x, .int a1, .ref ou]) (n := 4) (Nat.le_of_ble_eq_true rfl)
  rw [lg_entry_eq]
  generalize (lg_sl ([.ref x, .int a1, .ref ou]) ++ List.replicate (4 - (lg_sl ([.ref x, .int a1, .ref ou])).length) Slot.unset).toArray = ls at hl ⊢
  have hl : lv_has ls 4 [(0, .ref x), (1, .int a1), (2, .ref ou)] := hl
  unfold E_l_end at hE
  refine lv_aload_n hx hb dL_end_0 rfl (lv_at hl 2 rfl) ?_
  refine lv_iconst (v := 0) hx hb dL_end_1 (by decide) ?_
  refine lv_aload_n hx hb dL_end_2 rfl (lv_at hl 0 rfl) ?_
  refine lv_iload_n hx hb dL_end_3 rfl (lv_at hl 1 rfl) ?_
  have hPc := hP.appR; have hDc := hD.appR
  rcases hE with ⟨C1, r1, hg, hE⟩ | ⟨C1, hg, hE⟩ | ⟨C1, hg, hE⟩
  ·
    refine kz_i (wr := oW G ou fo) (w2 := fun _ => oW G ou fo ++ pW G x u C1) (va_runV (As := [.int a1]) (rest := [.int 0, .ref ou]) F.1 (e_p_end l G x u C a1 C1 r1 hg _) (cwV 1 hts (aw_V w_776 w_777 w_778 w_1 w_779) rfl rfl rfl (by decide +kernel) ⟨by decide, by decide⟩) ⟨cS_blind, va_recv (q := (RX5, TX5, 13)) (ci := 5) (q0 := 0) hK.1 hPc rfl pW_0, cS_pre hPc hDc hK⟩ rfl rfl hl.1 rfl (lv_room (Nat.le_of_ble_eq_true rfl)) dL_end_4 ⟨by decide, by decide⟩) hP hD hS hA (List.Perm.refl _) (fun _ => List.Perm.refl _) (fun r9 u0 H locs hp hP hD hS => ?_)
    have hp := hp.symm; subst hp
    refine lv_i2l (v := r1.toInt64) hx hb dL_end_7 rfl ?_
    refine va_last (D := G.1) hx hb hK.1 hP hD hS 0 1 rfl rfl (vp_in_nI (n := 0) (by decide) (by decide)) dL_end_8 (fun H locs hP hD hS => ?_)
    have hP : va_P G.1 vwCl (oW G ou (vp_updL fo 0 r1.toInt64) ++ pW G x u C1) H := hP
    have hD : va_D A (oW G ou (vp_updL fo 0 r1.toInt64) ++ pW G x u C1) := hD
    refine lv_goto (tgt := 18) hx hb dL_end_9 (by decide) ?_
    refine lv_iconst (v := 0) hx hb dL_end_18 (by decide) ?_
    obtain ⟨rfl, rfl, rfl⟩ := hE
    exact en_i F hS _ () (by rfl) rfl hP hD (by decide) (by decide) dL_end_19
  ·
    refine yc_V (E := xISE) (w1 := pW G x u C1) (As := [.int a1]) (rest := [.int 0, .ref ou]) F.1 (x_p_end l hst G Z x u C a1 C1 xISE hg _) (cwV 1 hts (aw_V w_776 w_777 w_778 w_1 w_779) rfl rfl rfl (by decide +kernel) ⟨by decide, by decide⟩) ⟨tS_blind, va_recv (q := (RX5, TX5, 13)) (ci := 5) (q0 := 0) hK.1 hPc rfl pW_0, tS_pre hPc hDc hK hT hZ hS (kz_F hD hS hA) hns⟩ rfl hl.1 (lv_room (Nat.le_of_ble_eq_true rfl)) dL_end_4 ⟨by decide, by decide⟩ (fun q9 ce H L hce hcv hcl hL hz hk hP1 hD1 => ?_)
    have hF := kz_F (wr := oW G ou fo) hD hS hA; have hS := kz_T hS hF hL hz hk; obtain ⟨hP, hD⟩ := kz_J (wr := oW G ou fo) hP hD hk hF hP1 hD1
    refine xc_catch (own := RL) (name := xISE) (E := xISE) hown [] ⟨0, 9, 12, 19⟩ [⟨0, 9, 15, 28⟩] htab (fun _ h => by cases h) (by decide) (by decide) (hts _ w_597) (va_Nw.use rfl (hT.1 _ (List.mem_of_getElem? (i := 0) rfl))) hce hcv hcl ?_
    refine lv_astore_n hx hb dL_end_12 rfl hl (by decide) rfl (fun ls hl => ?_)
    have hl : lv_has ls 4 [(3, .ref q9), (0, .ref x), (1, .int a1), (2, .ref ou)] := hl
    refine lv_iconst (v := 1) hx hb dL_end_13 (by decide) ?_
    obtain ⟨rfl, rfl, rfl⟩ := hE
    exact en_i F hS _ () (by rfl) rfl hP hD (by decide) (by decide) dL_end_14
  ·
    refine yc_V (E := xIOO) (w1 := pW G x u C1) (As := [.int a1]) (rest := [.int 0, .ref ou]) F.1 (x_p_end l hst G Z x u C a1 C1 xIOO hg _) (cwV 1 hts (aw_V w_776 w_777 w_778 w_1 w_779) rfl rfl rfl (by decide +kernel) ⟨by decide, by decide⟩) ⟨tS_blind, va_recv (q := (RX5, TX5, 13)) (ci := 5) (q0 := 0) hK.1 hPc rfl pW_0, tS_pre hPc hDc hK hT hZ hS (kz_F hD hS hA) hns⟩ rfl hl.1 (lv_room (Nat.le_of_ble_eq_true rfl)) dL_end_4 ⟨by decide, by decide⟩ (fun q9 ce H L hce hcv hcl hL hz hk hP1 hD1 => ?_)
    have hF := kz_F (wr := oW G ou fo) hD hS hA; have hS := kz_T hS hF hL hz hk; obtain ⟨hP, hD⟩ := kz_J (wr := oW G ou fo) hP hD hk hF hP1 hD1
    refine xc_catch (own := RL) (name := xIOO) (E := xIOO) hown [⟨0, 9, 12, 19⟩] ⟨0, 9, 15, 28⟩ [] htab (fun z hz => by simp only [List.mem_cons, List.not_mem_nil, or_false] at hz; rcases hz with rfl <;> first | exact ⟨by decide, by decide, xISE, hts _ w_597, hT.2.2.2.2.2.2.2.1⟩) (by decide) (by decide) (hts _ w_738) (va_Nw.use rfl (hT.1 _ (List.mem_of_getElem? (i := 2) rfl))) hce hcv hcl ?_
    refine lv_astore_n hx hb dL_end_15 rfl hl (by decide) rfl (fun ls hl => ?_)
    have hl : lv_has ls 4 [(3, .ref q9), (0, .ref x), (1, .int a1), (2, .ref ou)] := hl
    refine lv_iconst (v := 2) hx hb dL_end_16 (by decide) ?_
    obtain ⟨rfl, rfl, rfl⟩ := hE
    exact en_i F hS _ () (by rfl) rfl hP hD (by decide) (by decide) dL_end_17

theorem dL_replace_6 : decode cL_replace 6 = .ok (.i2l, 1) := by decide +kernel
theorem dL_replace_7 : decode cL_replace 7 = .ok (.lastore, 1) := by decide +kernel
theorem dL_replace_8 : decode cL_replace 8 = .ok (.goto 12, 3) := by decide +kernel
theorem dL_replace_14 : decode cL_replace 14 = .ok (.astore_n 2, 1) := by decide +kernel
theorem dL_replace_15 : decode cL_replace 15 = .ok (.iconst 2, 1) := by decide +kernel
theorem dL_replace_16 : decode cL_replace 16 = .ok (.ireturn, 1) := by decide +kernel
theorem dL_replace_17 : decode cL_replace 17 = .ok (.astore_n 2, 1) := by decide +kernel
theorem dL_replace_18 : decode cL_replace 18 = .ok (.iconst 3, 1) := by decide +kernel
theorem dL_replace_19 : decode cL_replace 19 = .ok (.ireturn, 1) := by decide +kernel
theorem dL_replace_20 : decode cL_replace 20 = .ok (.iconst 0, 1) := by decide +kernel
theorem dL_replace_21 : decode cL_replace 21 = .ok (.ireturn, 1) := by decide +kernel
def E_l_replace (C : CS) (fo : Nat → Int64) (C' : CS) (fo' : Nat → Int64) (k : Int32) : Prop := (∃ (C1 : CS) (r1 : Int32), E_p_replace C C1 r1 ∧ (C' = C1 ∧ fo' = (vp_updL fo 0 r1.toInt64) ∧ k = 0)) ∨ (∃ C1 : CS, EX_p_replace C C1 xISE ∧ (C' = C1 ∧ fo' = fo ∧ k = 1)) ∨ (∃ C1 : CS, EX_p_replace C C1 xIAE ∧ (C' = C1 ∧ fo' = fo ∧ k = 2)) ∨ (∃ C1 : CS, EX_p_replace C C1 xIOO ∧ (C' = C1 ∧ fo' = fo ∧ k = 3))
set_option maxHeartbeats 4000000 in
set_option maxRecDepth 100000 in
theorem l_replace_y (l : Launch) (hst : l.stackTraces = false) (G : PG) (Z : ZZ) (x : Nat) (u : Nat → Nat) (ou : Nat) (C : CS) (fo : Nat → Int64) (C' : CS) (fo' : Nat → Int64) (k : Int32) (hE : E_l_replace C fo C' fo' k) : CiY l yL_replace (Cond.codeWith yL_replace cL_replace 3 (some .int) [(0, 8, 11, 19), (0, 8, 14, 13), (0, 8, 17, 28)] :: aW) { frames := 58, cells := 1, slots := 6, locals := 1521 } Z G (oW G ou fo ++ pW G x u C) [.ref x, .ref ou] (fun (r9 : Int32) (_ : Unit) => r9 = k) (fun (_ : Unit) => oW G ou fo' ++ pW G x u C') 1 6 := by
  refine ofBY (y := yL_replace) (G := G) (cc := cL_replace) (maxL := 3) (ret := (some .int)) (hh := [(0, 8, 11, 19), (0, 8, 14, 13), (0, 8, 17, 28)]) (Qc := fun A => va_Qi (fun (r9 : Int32) (_ : Unit) => r9 = k) (oB G A (fun (_ : Unit) => oW G ou fo' ++ pW G x u C')) A) (by decide) rfl ?_
  intro p e s m below meth c A F hK hT hZ htab hA hns hP hD
  have hS : va_S A s.heap s.heap [] := va_S.rf
  have hx := F.1.1; have hb := F.1.2.1; have hml := F.1.2.2.1; have hts := F.1.2.2.2.2
  have hown : s.vm.findClass RL = some m.cls := F.1.2.2.2.1
  have hl := lv_entry ([.ref x, .ref ou]) (n := 3) (Nat.le_of_ble_eq_true rfl)
  rw [lg_entry_eq]
  generalize (lg_sl ([.ref x, .ref ou]) ++ List.replicate (3 - (lg_sl ([.ref x, .ref ou])).length) Slot.unset).toArray = ls at hl ⊢
  have hl : lv_has ls 3 [(0, .ref x), (1, .ref ou)] := hl
  unfold E_l_replace at hE
  refine lv_aload_n hx hb dL_replace_0 rfl (lv_at hl 1 rfl) ?_
  refine lv_iconst (v := 0) hx hb dL_replace_1 (by decide) ?_
  refine lv_aload_n hx hb dL_replace_2 rfl (lv_at hl 0 rfl) ?_
  have hPc := hP.appR; have hDc := hD.appR
  rcases hE with ⟨C1, r1, hg, hE⟩ | ⟨C1, hg, hE⟩ | ⟨C1, hg, hE⟩ | ⟨C1, hg, hE⟩
  ·
    refine kz_i (wr := oW G ou fo) (w2 := fun _ => oW G ou fo ++ pW G x u C1) (va_runV (As := []) (rest := [.int 0, .ref ou]) F.1 (e_p_replace l G x u C C1 r1 hg _) (cwV 0 hts (aw_V w_787 w_788 w_789 w_1 w_790) rfl rfl rfl (by decide +kernel) ⟨by decide, by decide⟩) ⟨cS_blind, va_recv (q := (RX5, TX5, 13)) (ci := 5) (q0 := 0) hK.1 hPc rfl pW_0, cS_pre hPc hDc hK⟩ rfl rfl hl.1 rfl (lv_room (Nat.le_of_ble_eq_true rfl)) dL_replace_3 ⟨by decide, by decide⟩) hP hD hS hA (List.Perm.refl _) (fun _ => List.Perm.refl _) (fun r9 u0 H locs hp hP hD hS => ?_)
    have hp := hp.symm; subst hp
    refine lv_i2l (v := r1.toInt64) hx hb dL_replace_6 rfl ?_
    refine va_last (D := G.1) hx hb hK.1 hP hD hS 0 1 rfl rfl (vp_in_nI (n := 0) (by decide) (by decide)) dL_replace_7 (fun H locs hP hD hS => ?_)
    have hP : va_P G.1 vwCl (oW G ou (vp_updL fo 0 r1.toInt64) ++ pW G x u C1) H := hP
    have hD : va_D A (oW G ou (vp_updL fo 0 r1.toInt64) ++ pW G x u C1) := hD
    refine lv_goto (tgt := 20) hx hb dL_replace_8 (by decide) ?_
    refine lv_iconst (v := 0) hx hb dL_replace_20 (by decide) ?_
    obtain ⟨rfl, rfl, rfl⟩ := hE
    exact en_i F hS _ () (by rfl) rfl hP hD (by decide) (by decide) dL_replace_21
  ·
    refine yc_V (E := xISE) (w1 := pW G x u C1) (As := []) (rest := [.int 0, .ref ou]) F.1 (x_p_replace l hst G Z x u C C1 xISE hg _) (cwV 0 hts (aw_V w_787 w_788 w_789 w_1 w_790) rfl rfl rfl (by decide +kernel) ⟨by decide, by decide⟩) ⟨tS_blind, va_recv (q := (RX5, TX5, 13)) (ci := 5) (q0 := 0) hK.1 hPc rfl pW_0, tS_pre hPc hDc hK hT hZ hS (kz_F hD hS hA) hns⟩ rfl hl.1 (lv_room (Nat.le_of_ble_eq_true rfl)) dL_replace_3 ⟨by decide, by decide⟩ (fun q9 ce H L hce hcv hcl hL hz hk hP1 hD1 => ?_)
    have hF := kz_F (wr := oW G ou fo) hD hS hA; have hS := kz_T hS hF hL hz hk; obtain ⟨hP, hD⟩ := kz_J (wr := oW G ou fo) hP hD hk hF hP1 hD1
    refine xc_catch (own := RL) (name := xISE) (E := xISE) hown [] ⟨0, 8, 11, 19⟩ [⟨0, 8, 14, 13⟩, ⟨0, 8, 17, 28⟩] htab (fun _ h => by cases h) (by decide) (by decide) (hts _ w_597) (va_Nw.use rfl (hT.1 _ (List.mem_of_getElem? (i := 0) rfl))) hce hcv hcl ?_
    refine lv_astore_n hx hb dL_replace_11 rfl hl (by decide) rfl (fun ls hl => ?_)
    have hl : lv_has ls 3 [(2, .ref q9), (0, .ref x), (1, .ref ou)] := hl
    refine lv_iconst (v := 1) hx hb dL_replace_12 (by decide) ?_
    obtain ⟨rfl, rfl, rfl⟩ := hE
    exact en_i F hS _ () (by rfl) rfl hP hD (by decide) (by decide) dL_replace_13
  ·
    refine yc_V (E := xIAE) (w1 := pW G x u C1) (As := []) (rest := [.int 0, .ref ou]) F.1 (x_p_replace l hst G Z x u C C1 xIAE hg _) (cwV 0 hts (aw_V w_787 w_788 w_789 w_1 w_790) rfl rfl rfl (by decide +kernel) ⟨by decide, by decide⟩) ⟨tS_blind, va_recv (q := (RX5, TX5, 13)) (ci := 5) (q0 := 0) hK.1 hPc rfl pW_0, tS_pre hPc hDc hK hT hZ hS (kz_F hD hS hA) hns⟩ rfl hl.1 (lv_room (Nat.le_of_ble_eq_true rfl)) dL_replace_3 ⟨by decide, by decide⟩ (fun q9 ce H L hce hcv hcl hL hz hk hP1 hD1 => ?_)
    have hF := kz_F (wr := oW G ou fo) hD hS hA; have hS := kz_T hS hF hL hz hk; obtain ⟨hP, hD⟩ := kz_J (wr := oW G ou fo) hP hD hk hF hP1 hD1
    refine xc_catch (own := RL) (name := xIAE) (E := xIAE) hown [⟨0, 8, 11, 19⟩] ⟨0, 8, 14, 13⟩ [⟨0, 8, 17, 28⟩] htab (fun z hz => by simp only [List.mem_cons, List.not_mem_nil, or_false] at hz; rcases hz with rfl <;> first | exact ⟨by decide, by decide, xISE, hts _ w_597, hT.2.2.2.2.2.1⟩) (by decide) (by decide) (hts _ w_264) (va_Nw.use rfl (hT.1 _ (List.mem_of_getElem? (i := 1) rfl))) hce hcv hcl ?_
    refine lv_astore_n hx hb dL_replace_14 rfl hl (by decide) rfl (fun ls hl => ?_)
    have hl : lv_has ls 3 [(2, .ref q9), (0, .ref x), (1, .ref ou)] := hl
    refine lv_iconst (v := 2) hx hb dL_replace_15 (by decide) ?_
    obtain ⟨rfl, rfl, rfl⟩ := hE
    exact en_i F hS _ () (by rfl) rfl hP hD (by decide) (by decide) dL_replace_16
  ·
    refine yc_V (E := xIOO) (w1 := pW G x u C1) (As := []) (rest := [.int 0, .ref ou]) F.1 (x_p_replace l hst G Z x u C C1 xIOO hg _) (cwV 0 hts (aw_V w_787 w_788 w_789 w_1 w_790) rfl rfl rfl (by decide +kernel) ⟨by decide, by decide⟩) ⟨tS_blind, va_recv (q := (RX5, TX5, 13)) (ci := 5) (q0 := 0) hK.1 hPc rfl pW_0, tS_pre hPc hDc hK hT hZ hS (kz_F hD hS hA) hns⟩ rfl hl.1 (lv_room (Nat.le_of_ble_eq_true rfl)) dL_replace_3 ⟨by decide, by decide⟩ (fun q9 ce H L hce hcv hcl hL hz hk hP1 hD1 => ?_)
    have hF := kz_F (wr := oW G ou fo) hD hS hA; have hS := kz_T hS hF hL hz hk; obtain ⟨hP, hD⟩ := kz_J (wr := oW G ou fo) hP hD hk hF hP1 hD1
    refine xc_catch (own := RL) (name := xIOO) (E := xIOO) hown [⟨0, 8, 11, 19⟩, ⟨0, 8, 14, 13⟩] ⟨0, 8, 17, 28⟩ [] htab (fun z hz => by simp only [List.mem_cons, List.not_mem_nil, or_false] at hz; rcases hz with rfl | rfl <;> first | exact ⟨by decide, by decide, xISE, hts _ w_597, hT.2.2.2.2.2.2.2.1⟩ | exact ⟨by decide, by decide, xIAE, hts _ w_264, hT.2.2.2.2.2.2.2.2⟩) (by decide) (by decide) (hts _ w_738) (va_Nw.use rfl (hT.1 _ (List.mem_of_getElem? (i := 2) rfl))) hce hcv hcl ?_
    refine lv_astore_n hx hb dL_replace_17 rfl hl (by decide) rfl (fun ls hl => ?_)
    have hl : lv_has ls 3 [(2, .ref q9), (0, .ref x), (1, .ref ou)] := hl
    refine lv_iconst (v := 3) hx hb dL_replace_18 (by decide) ?_
    obtain ⟨rfl, rfl, rfl⟩ := hE
    exact en_i F hS _ () (by rfl) rfl hP hD (by decide) (by decide) dL_replace_19

theorem dL_replaced_7 : decode cL_replaced 7 = .ok (.i2l, 1) := by decide +kernel
theorem dL_replaced_8 : decode cL_replaced 8 = .ok (.lastore, 1) := by decide +kernel
theorem dL_replaced_9 : decode cL_replaced 9 = .ok (.goto 6, 3) := by decide +kernel
theorem dL_replaced_15 : decode cL_replaced 15 = .ok (.iconst 0, 1) := by decide +kernel
theorem dL_replaced_16 : decode cL_replaced 16 = .ok (.ireturn, 1) := by decide +kernel
def E_l_replaced (C : CS) (fo : Nat → Int64) (a1 : Int32) (C' : CS) (fo' : Nat → Int64) (k : Int32) : Prop := (∃ (C1 : CS) (r1 : Int32), E_p_replaced C a1 C1 r1 ∧ (C' = C1 ∧ fo' = (vp_updL fo 0 r1.toInt64) ∧ k = 0)) ∨ (∃ C1 : CS, EX_p_replaced C a1 C1 xIOO ∧ (C' = C1 ∧ fo' = fo ∧ k = 1))
set_option maxHeartbeats 4000000 in
set_option maxRecDepth 100000 in
theorem l_replaced_y (l : Launch) (hst : l.stackTraces = false) (G : PG) (Z : ZZ) (x : Nat) (u : Nat → Nat) (ou : Nat) (C : CS) (fo : Nat → Int64) (a1 : Int32) (C' : CS) (fo' : Nat → Int64) (k : Int32) (hE : E_l_replaced C fo a1 C' fo' k) : CiY l yL_replaced (Cond.codeWith yL_replaced cL_replaced 4 (some .int) [(0, 9, 12, 28)] :: aW) { frames := 7, cells := 1, slots := 6, locals := 121 } Z G (oW G ou fo ++ pW G x u C) [.ref x, .int a1, .ref ou] (fun (r9 : Int32) (_ : Unit) => r9 = k) (fun (_ : Unit) => oW G ou fo' ++ pW G x u C') 1 6 := by
  refine ofBY (y := yL_replaced) (G := G) (cc := cL_replaced) (maxL := 4) (ret := (some .int)) (hh := [(0, 9, 12, 28)]) (Qc := fun A => va_Qi (fun (r9 : Int32) (_ : Unit) => r9 = k) (oB G A (fun (_ : Unit) => oW G ou fo' ++ pW G x u C')) A) (by decide) rfl ?_
  intro p e s m below meth c A F hK hT hZ htab hA hns hP hD
  have hS : va_S A s.heap s.heap [] := va_S.rf
  have hx := F.1.1; have hb := F.1.2.1; have hml := F.1.2.2.1; have hts := F.1.2.2.2.2
  have hown : s.vm.findClass RL = some m.cls := F.1.2.2.2.1
  have hl := lv_entry ([.ref x, .int a1, .ref ou]) (n := 4) (Nat.le_of_ble_eq_true rfl)
  rw [lg_entry_eq]
  generalize (lg_sl ([.ref x, .int a1, .ref ou]) ++ List.replicate (4 - (lg_sl ([.ref x, .int a1, .ref ou])).length) Slot.unset).toArray = ls at hl ⊢
  have hl : lv_has ls 4 [(0, .ref x), (1, .int a1), (2, .ref ou)] := hl
  unfold E_l_replaced at hE
  refine lv_aload_n hx hb dL_replaced_0 rfl (lv_at hl 2 rfl) ?_
  refine lv_iconst (v := 0) hx hb dL_replaced_1 (by decide) ?_
  refine lv_aload_n hx hb dL_replaced_2 rfl (lv_at hl 0 rfl) ?_
  refine lv_iload_n hx hb dL_replaced_3 rfl (lv_at hl 1 rfl) ?_
  have hPc := hP.appR; have hDc := hD.appR
  rcases hE with ⟨C1, r1, hg, hE⟩ | ⟨C1, hg, hE⟩
  ·
    refine kz_i (wr := oW G ou fo) (w2 := fun _ => oW G ou fo ++ pW G x u C1) (va_runV (As := [.int a1]) (rest := [.int 0, .ref ou]) F.1 (e_p_replaced l G x u C a1 C1 r1 hg _) (cwV 1 hts (aw_V w_814 w_815 w_816 w_1 w_817) rfl rfl rfl (by decide +kernel) ⟨by decide, by decide⟩) ⟨cS_blind, va_recv (q := (RX5, TX5, 13)) (ci := 5) (q0 := 0) hK.1 hPc rfl pW_0, cS_pre hPc hDc hK⟩ rfl rfl hl.1 rfl (lv_room (Nat.le_of_ble_eq_true rfl)) dL_replaced_4 ⟨by decide, by decide⟩) hP hD hS hA (List.Perm.refl _) (fun _ => List.Perm.refl _) (fun r9 u0 H locs hp hP hD hS => ?_)
    have hp := hp.symm; subst hp
    refine lv_i2l (v := r1.toInt64) hx hb dL_replaced_7 rfl ?_
    refine va_last (D := G.1) hx hb hK.1 hP hD hS 0 1 rfl rfl (vp_in_nI (n := 0) (by decide) (by decide)) dL_replaced_8 (fun H locs hP hD hS => ?_)
    have hP : va_P G.1 vwCl (oW G ou (vp_updL fo 0 r1.toInt64) ++ pW G x u C1) H := hP
    have hD : va_D A (oW G ou (vp_updL fo 0 r1.toInt64) ++ pW G x u C1) := hD
    refine lv_goto (tgt := 15) hx hb dL_replaced_9 (by decide) ?_
    refine lv_iconst (v := 0) hx hb dL_replaced_15 (by decide) ?_
    obtain ⟨rfl, rfl, rfl⟩ := hE
    exact en_i F hS _ () (by rfl) rfl hP hD (by decide) (by decide) dL_replaced_16
  ·
    refine yc_V (E := xIOO) (w1 := pW G x u C1) (As := [.int a1]) (rest := [.int 0, .ref ou]) F.1 (x_p_replaced l hst G Z x u C a1 C1 xIOO hg _) (cwV 1 hts (aw_V w_814 w_815 w_816 w_1 w_817) rfl rfl rfl (by decide +kernel) ⟨by decide, by decide⟩) ⟨tS_blind, va_recv (q := (RX5, TX5, 13)) (ci := 5) (q0 := 0) hK.1 hPc rfl pW_0, tS_pre hPc hDc hK hT hZ hS (kz_F hD hS hA) hns⟩ rfl hl.1 (lv_room (Nat.le_of_ble_eq_true rfl)) dL_replaced_4 ⟨by decide, by decide⟩ (fun q9 ce H L hce hcv hcl hL hz hk hP1 hD1 => ?_)
    have hF := kz_F (wr := oW G ou fo) hD hS hA; have hS := kz_T hS hF hL hz hk; obtain ⟨hP, hD⟩ := kz_J (wr := oW G ou fo) hP hD hk hF hP1 hD1
    refine xc_catch (own := RL) (name := xIOO) (E := xIOO) hown [] ⟨0, 9, 12, 28⟩ [] htab (fun _ h => by cases h) (by decide) (by decide) (hts _ w_738) (va_Nw.use rfl (hT.1 _ (List.mem_of_getElem? (i := 2) rfl))) hce hcv hcl ?_
    refine lv_astore_n hx hb dL_replaced_12 rfl hl (by decide) rfl (fun ls hl => ?_)
    have hl : lv_has ls 4 [(3, .ref q9), (0, .ref x), (1, .int a1), (2, .ref ou)] := hl
    refine lv_iconst (v := 1) hx hb dL_replaced_13 (by decide) ?_
    obtain ⟨rfl, rfl, rfl⟩ := hE
    exact en_i F hS _ () (by rfl) rfl hP hD (by decide) (by decide) dL_replaced_14

theorem dL_split_6 : decode cL_split 6 = .ok (.i2l, 1) := by decide +kernel
theorem dL_split_7 : decode cL_split 7 = .ok (.lastore, 1) := by decide +kernel
theorem dL_split_8 : decode cL_split 8 = .ok (.goto 6, 3) := by decide +kernel
theorem dL_split_14 : decode cL_split 14 = .ok (.iconst 0, 1) := by decide +kernel
theorem dL_split_15 : decode cL_split 15 = .ok (.ireturn, 1) := by decide +kernel
def E_l_split (C : CS) (fo : Nat → Int64) (C' : CS) (fo' : Nat → Int64) (k : Int32) : Prop := (∃ (C1 : CS) (r1 : Int32), E_p_split C C1 r1 ∧ (C' = C1 ∧ fo' = (vp_updL fo 0 r1.toInt64) ∧ k = 0)) ∨ (∃ C1 : CS, EX_p_split C C1 xISE ∧ (C' = C1 ∧ fo' = fo ∧ k = 1))
set_option maxHeartbeats 4000000 in
set_option maxRecDepth 100000 in
theorem l_split_y (l : Launch) (hst : l.stackTraces = false) (G : PG) (Z : ZZ) (x : Nat) (u : Nat → Nat) (ou : Nat) (C : CS) (fo : Nat → Int64) (C' : CS) (fo' : Nat → Int64) (k : Int32) (hE : E_l_split C fo C' fo' k) : CiY l yL_split (Cond.codeWith yL_split cL_split 3 (some .int) [(0, 8, 11, 19)] :: aW) { frames := 58, cells := 1, slots := 6, locals := 1520 } Z G (oW G ou fo ++ pW G x u C) [.ref x, .ref ou] (fun (r9 : Int32) (_ : Unit) => r9 = k) (fun (_ : Unit) => oW G ou fo' ++ pW G x u C') 1 6 := by
  refine ofBY (y := yL_split) (G := G) (cc := cL_split) (maxL := 3) (ret := (some .int)) (hh := [(0, 8, 11, 19)]) (Qc := fun A => va_Qi (fun (r9 : Int32) (_ : Unit) => r9 = k) (oB G A (fun (_ : Unit) => oW G ou fo' ++ pW G x u C')) A) (by decide) rfl ?_
  intro p e s m below meth c A F hK hT hZ htab hA hns hP hD
  have hS : va_S A s.heap s.heap [] := va_S.rf
  have hx := F.1.1; have hb := F.1.2.1; have hml := F.1.2.2.1; have hts := F.1.2.2.2.2
  have hown : s.vm.findClass RL = some m.cls := F.1.2.2.2.1
  have hl := lv_entry ([.ref x, .ref ou]) (n := 3) (Nat.le_of_ble_eq_true rfl)
  rw [lg_entry_eq]
  generalize (lg_sl ([.ref x, .ref ou]) ++ List.replicate (3 - (lg_sl ([.ref x, .ref ou])).length) Slot.unset).toArray = ls at hl ⊢
  have hl : lv_has ls 3 [(0, .ref x), (1, .ref ou)] := hl
  unfold E_l_split at hE
  refine lv_aload_n hx hb dL_split_0 rfl (lv_at hl 1 rfl) ?_
  refine lv_iconst (v := 0) hx hb dL_split_1 (by decide) ?_
  refine lv_aload_n hx hb dL_split_2 rfl (lv_at hl 0 rfl) ?_
  have hPc := hP.appR; have hDc := hD.appR
  rcases hE with ⟨C1, r1, hg, hE⟩ | ⟨C1, hg, hE⟩
  ·
    refine kz_i (wr := oW G ou fo) (w2 := fun _ => oW G ou fo ++ pW G x u C1) (va_runV (As := []) (rest := [.int 0, .ref ou]) F.1 (e_p_split l G x u C C1 r1 hg _) (cwV 0 hts (aw_V w_821 w_822 w_823 w_1 w_824) rfl rfl rfl (by decide +kernel) ⟨by decide, by decide⟩) ⟨cS_blind, va_recv (q := (RX5, TX5, 13)) (ci := 5) (q0 := 0) hK.1 hPc rfl pW_0, cS_pre hPc hDc hK⟩ rfl rfl hl.1 rfl (lv_room (Nat.le_of_ble_eq_true rfl)) dL_split_3 ⟨by decide, by decide⟩) hP hD hS hA (List.Perm.refl _) (fun _ => List.Perm.refl _) (fun r9 u0 H locs hp hP hD hS => ?_)
    have hp := hp.symm; subst hp
    refine lv_i2l (v := r1.toInt64) hx hb dL_split_6 rfl ?_
    refine va_last (D := G.1) hx hb hK.1 hP hD hS 0 1 rfl rfl (vp_in_nI (n := 0) (by decide) (by decide)) dL_split_7 (fun H locs hP hD hS => ?_)
    have hP : va_P G.1 vwCl (oW G ou (vp_updL fo 0 r1.toInt64) ++ pW G x u C1) H := hP
    have hD : va_D A (oW G ou (vp_updL fo 0 r1.toInt64) ++ pW G x u C1) := hD
    refine lv_goto (tgt := 14) hx hb dL_split_8 (by decide) ?_
    refine lv_iconst (v := 0) hx hb dL_split_14 (by decide) ?_
    obtain ⟨rfl, rfl, rfl⟩ := hE
    exact en_i F hS _ () (by rfl) rfl hP hD (by decide) (by decide) dL_split_15
  ·
    refine yc_V (E := xISE) (w1 := pW G x u C1) (As := []) (rest := [.int 0, .ref ou]) F.1 (x_p_split l hst G Z x u C C1 xISE hg _) (cwV 0 hts (aw_V w_821 w_822 w_823 w_1 w_824) rfl rfl rfl (by decide +kernel) ⟨by decide, by decide⟩) ⟨tS_blind, va_recv (q := (RX5, TX5, 13)) (ci := 5) (q0 := 0) hK.1 hPc rfl pW_0, tS_pre hPc hDc hK hT hZ hS (kz_F hD hS hA) hns⟩ rfl hl.1 (lv_room (Nat.le_of_ble_eq_true rfl)) dL_split_3 ⟨by decide, by decide⟩ (fun q9 ce H L hce hcv hcl hL hz hk hP1 hD1 => ?_)
    have hF := kz_F (wr := oW G ou fo) hD hS hA; have hS := kz_T hS hF hL hz hk; obtain ⟨hP, hD⟩ := kz_J (wr := oW G ou fo) hP hD hk hF hP1 hD1
    refine xc_catch (own := RL) (name := xISE) (E := xISE) hown [] ⟨0, 8, 11, 19⟩ [] htab (fun _ h => by cases h) (by decide) (by decide) (hts _ w_597) (va_Nw.use rfl (hT.1 _ (List.mem_of_getElem? (i := 0) rfl))) hce hcv hcl ?_
    refine lv_astore_n hx hb dL_split_11 rfl hl (by decide) rfl (fun ls hl => ?_)
    have hl : lv_has ls 3 [(2, .ref q9), (0, .ref x), (1, .ref ou)] := hl
    refine lv_iconst (v := 1) hx hb dL_split_12 (by decide) ?_
    obtain ⟨rfl, rfl, rfl⟩ := hE
    exact en_i F hS _ () (by rfl) rfl hP hD (by decide) (by decide) dL_split_13

theorem dL_piece_8 : decode cL_piece 8 = .ok (.i2l, 1) := by decide +kernel
theorem dL_piece_9 : decode cL_piece 9 = .ok (.lastore, 1) := by decide +kernel
theorem dL_piece_10 : decode cL_piece 10 = .ok (.goto 7, 3) := by decide +kernel
theorem dL_piece_17 : decode cL_piece 17 = .ok (.iconst 0, 1) := by decide +kernel
theorem dL_piece_18 : decode cL_piece 18 = .ok (.ireturn, 1) := by decide +kernel
def E_l_piece (C : CS) (fo : Nat → Int64) (a1 : Int32) (a2 : Int32) (C' : CS) (fo' : Nat → Int64) (k : Int32) : Prop := (∃ (C1 : CS) (r1 : Int32), E_p_piece C a1 a2 C1 r1 ∧ (C' = C1 ∧ fo' = (vp_updL fo 0 r1.toInt64) ∧ k = 0)) ∨ (∃ C1 : CS, EX_p_piece C a1 a2 C1 xIOO ∧ (C' = C1 ∧ fo' = fo ∧ k = 1))
set_option maxHeartbeats 4000000 in
set_option maxRecDepth 100000 in
theorem l_piece_y (l : Launch) (hst : l.stackTraces = false) (G : PG) (Z : ZZ) (x : Nat) (u : Nat → Nat) (ou : Nat) (C : CS) (fo : Nat → Int64) (a1 : Int32) (a2 : Int32) (C' : CS) (fo' : Nat → Int64) (k : Int32) (hE : E_l_piece C fo a1 a2 C' fo' k) : CiY l yL_piece (Cond.codeWith yL_piece cL_piece 5 (some .int) [(0, 10, 13, 28)] :: aW) { frames := 7, cells := 1, slots := 6, locals := 122 } Z G (oW G ou fo ++ pW G x u C) [.ref x, .int a1, .int a2, .ref ou] (fun (r9 : Int32) (_ : Unit) => r9 = k) (fun (_ : Unit) => oW G ou fo' ++ pW G x u C') 1 6 := by
  refine ofBY (y := yL_piece) (G := G) (cc := cL_piece) (maxL := 5) (ret := (some .int)) (hh := [(0, 10, 13, 28)]) (Qc := fun A => va_Qi (fun (r9 : Int32) (_ : Unit) => r9 = k) (oB G A (fun (_ : Unit) => oW G ou fo' ++ pW G x u C')) A) (by decide) rfl ?_
  intro p e s m below meth c A F hK hT hZ htab hA hns hP hD
  have hS : va_S A s.heap s.heap [] := va_S.rf
  have hx := F.1.1; have hb := F.1.2.1; have hml := F.1.2.2.1; have hts := F.1.2.2.2.2
  have hown : s.vm.findClass RL = some m.cls := F.1.2.2.2.1
  have hl := lv_entry ([.ref x, .int a1, .int a2, .ref ou]) (n := 5) (Nat.le_of_ble_eq_true rfl)
  rw [lg_entry_eq]
  generalize (lg_sl ([.ref x, .int a1, .int a2, .ref ou]) ++ List.replicate (5 - (lg_sl ([.ref x, .int a1, .int a2, .ref ou])).length) Slot.unset).toArray = ls at hl ⊢
  have hl : lv_has ls 5 [(0, .ref x), (1, .int a1), (2, .int a2), (3, .ref ou)] := hl
  unfold E_l_piece at hE
  refine lv_aload_n hx hb dL_piece_0 rfl (lv_at hl 3 rfl) ?_
  refine lv_iconst (v := 0) hx hb dL_piece_1 (by decide) ?_
  refine lv_aload_n hx hb dL_piece_2 rfl (lv_at hl 0 rfl) ?_
  refine lv_iload_n hx hb dL_piece_3 rfl (lv_at hl 1 rfl) ?_
  refine lv_iload_n hx hb dL_piece_4 rfl (lv_at hl 2 rfl) ?_
  have hPc := hP.appR; have hDc := hD.appR
  rcases hE with ⟨C1, r1, hg, hE⟩ | ⟨C1, hg, hE⟩
  ·
    refine kz_i (wr := oW G ou fo) (w2 := fun _ => oW G ou fo ++ pW G x u C1) (va_runV (As := [.int a1, .int a2]) (rest := [.int 0, .ref ou]) F.1 (e_p_piece l G x u C a1 a2 C1 r1 hg _) (cwV 2 hts (aw_V w_836 w_837 w_838 w_1 w_839) rfl rfl rfl (by decide +kernel) ⟨by decide, by decide⟩) ⟨cS_blind, va_recv (q := (RX5, TX5, 13)) (ci := 5) (q0 := 0) hK.1 hPc rfl pW_0, cS_pre hPc hDc hK⟩ rfl rfl hl.1 rfl (lv_room (Nat.le_of_ble_eq_true rfl)) dL_piece_5 ⟨by decide, by decide⟩) hP hD hS hA (List.Perm.refl _) (fun _ => List.Perm.refl _) (fun r9 u0 H locs hp hP hD hS => ?_)
    have hp := hp.symm; subst hp
    refine lv_i2l (v := r1.toInt64) hx hb dL_piece_8 rfl ?_
    refine va_last (D := G.1) hx hb hK.1 hP hD hS 0 1 rfl rfl (vp_in_nI (n := 0) (by decide) (by decide)) dL_piece_9 (fun H locs hP hD hS => ?_)
    have hP : va_P G.1 vwCl (oW G ou (vp_updL fo 0 r1.toInt64) ++ pW G x u C1) H := hP
    have hD : va_D A (oW G ou (vp_updL fo 0 r1.toInt64) ++ pW G x u C1) := hD
    refine lv_goto (tgt := 17) hx hb dL_piece_10 (by decide) ?_
    refine lv_iconst (v := 0) hx hb dL_piece_17 (by decide) ?_
    obtain ⟨rfl, rfl, rfl⟩ := hE
    exact en_i F hS _ () (by rfl) rfl hP hD (by decide) (by decide) dL_piece_18
  ·
    refine yc_V (E := xIOO) (w1 := pW G x u C1) (As := [.int a1, .int a2]) (rest := [.int 0, .ref ou]) F.1 (x_p_piece l hst G Z x u C a1 a2 C1 xIOO hg _) (cwV 2 hts (aw_V w_836 w_837 w_838 w_1 w_839) rfl rfl rfl (by decide +kernel) ⟨by decide, by decide⟩) ⟨tS_blind, va_recv (q := (RX5, TX5, 13)) (ci := 5) (q0 := 0) hK.1 hPc rfl pW_0, tS_pre hPc hDc hK hT hZ hS (kz_F hD hS hA) hns⟩ rfl hl.1 (lv_room (Nat.le_of_ble_eq_true rfl)) dL_piece_5 ⟨by decide, by decide⟩ (fun q9 ce H L hce hcv hcl hL hz hk hP1 hD1 => ?_)
    have hF := kz_F (wr := oW G ou fo) hD hS hA; have hS := kz_T hS hF hL hz hk; obtain ⟨hP, hD⟩ := kz_J (wr := oW G ou fo) hP hD hk hF hP1 hD1
    refine xc_catch (own := RL) (name := xIOO) (E := xIOO) hown [] ⟨0, 10, 13, 28⟩ [] htab (fun _ h => by cases h) (by decide) (by decide) (hts _ w_738) (va_Nw.use rfl (hT.1 _ (List.mem_of_getElem? (i := 2) rfl))) hce hcv hcl ?_
    refine lv_astore hx hb dL_piece_13 hl (by decide) rfl (fun ls hl => ?_)
    have hl : lv_has ls 5 [(4, .ref q9), (0, .ref x), (1, .int a1), (2, .int a2), (3, .ref ou)] := hl
    refine lv_iconst (v := 1) hx hb dL_piece_15 (by decide) ?_
    obtain ⟨rfl, rfl, rfl⟩ := hE
    exact en_i F hS _ () (by rfl) rfl hP hD (by decide) (by decide) dL_piece_16

